/-! THE FIRST WORLD; the law, whole, without a machine -/
def D1F : Nat → Nat → Bool := (adD (adD (adD (adD (adD (adD (adD (adD (adD (adD (adD (adD (adD (adD (adD (adD (adD (adD (adD (adD (adD (adD (adD (adD (adD (adD (adD (adD (adD (adD (adD (adD (lpD (adD (adD (adD (adD (adD (adD (adD (adD (adD (adD (adD (adD (adD (adD (adD (adD (adD (adD (adD (adD (adD (adD (adD (adD (lpD (adD (adD (adD (adD (adD (adD (adD (adD (adD (adD (adD (adD (adD (adD (adD (adD (adD (adD (adD (adD (adD (adD (adD (adD (adD (adD (adD (adD (adD (adD (adD (adD (adD (adD (adD (adD (adD (adD (adD (adD (adD (adD (adD (adD (adD (adD (adD (adD (adD (adD (adD (adD (adD (adD (adD (adD (adD (adD (adD (fun _ _ => false) 7 0) 6 0) 9 0) 9 1) 9 4) 9 5) 9 6) 9 8) 9 9) 9 10) 9 11) 6 1) 20 0) 20 1) 20 3) 20 4) 20 5) 20 7) 19 0) 6 2) 6 3) 6 7) 29 3) 29 4) 29 6) 6 9) 33 0) 33 1) 33 2) 33 3) 33 4) 33 5) 33 6) 6 10) 41 0) 41 1) 41 2) 41 3) 41 4) 41 5) 41 6) 6 11) 49 0) 49 1) 49 2) 49 3) 49 4) 49 5) 49 6) 6 12) 57 0) 57 1) 57 2) 57 3) 57 4) 57 5) 57 6) 6 13) 65 0) 66 67 40) 6 15) 387 0) 387 1) 387 2) 387 3) 392 0) 392 1) 392 2) 392 3) 392 4) 392 5) 392 6) 387 6) 387 7) 387 8) 387 9) 387 10) 387 12) 6 16) 405 0) 405 2) 405 3) 6 17) 409 0) 410 411 7) 6 18) 6 19) 468 1) 468 6) 468 7) 468 8) 468 9) 468 10) 468 11) 468 12) 468 15) 468 16) 468 17) 468 18) 468 19) 468 22) 468 23) 468 24) 468 27) 468 28) 468 29) 468 32) 468 35) 468 36) 468 37) 468 38) 468 39) 468 40) 468 41) 468 43) 468 44) 468 45)
def w1F : Nat := (((((((((((((((((((((((((((((((((lpW (((((((((((((((((((((((((lpW (((((((((((((((((((((((((((((((((((((((((((((((((((((((((((((0 + 20) + 4) + 240) + 12) + 4) + 4) + 8) + 8) + 8) + 12) + 12) + 12) + 12) + 1) + 8) + 240) + 240) + 64) + 64) + 64) + 64) + 4) + 5) + 7) + 8) + 8) + 6) + 10) + 32) + 32) + 32) + 32) + 32) + 8) + 60) + 10) + 32) + 32) + 32) + 32) + 32) + 8) + 60) + 10) + 32) + 32) + 32) + 32) + 32) + 8) + 60) + 10) + 32) + 32) + 32) + 32) + 32) + 8) + 60) + 3) + 40) 40) + 13) + 10) + 10) + 10) + 10) + 10) + 32) + 32) + 32) + 32) + 32) + 8) + 60) + 288) + 72) + 1944) + 1512) + 64) + 4) + 8) + 256) + 256) + 1) + 7) 7) + 18) + 47) + 240) + 2600) + 2600) + 5) + 5) + 700) + 700) + 700) + 6) + 80) + 4) + 24) + 48) + 4) + 24) + 48) + 8) + 352) + 5) + 14080) + 1539) + 8) + 256) + 10) + 10) + 10) + 10) + 72) + 576) + 352) + 1
theorem R1_c {a j v : Nat} (h : R1 a j = some v) : (isSt a = true ∧ j < 7) ∨ (a = 66 ∧ j < 40) ∨ (a = 410 ∧ j < 7) ∨ (a, j, v) ∈ R1L := by
  unfold R1 at h
  split at h
  · rename_i c
    split at h
    · rename_i c2; exact Or.inl ⟨c, c2⟩
    · cases h
  · split at h
    · rename_i c
      split at h
      · rename_i c2; exact Or.inr (Or.inl ⟨c, c2⟩)
      · cases h
    · split at h
      · rename_i c
        split at h
        · rename_i c2; exact Or.inr (Or.inr (Or.inl ⟨c, c2⟩))
        · cases h
      · cases hf : R1L.find? (fun q => q.1 == a && q.2.1 == j) with
        | none => rw [hf] at h; cases h
        | some q =>
          rw [hf] at h
          have h1 := List.find?_some hf
          have h2 := List.mem_of_find?_eq_some hf
          obtain ⟨q1, q2, q3⟩ := q
          simp only [Bool.and_eq_true, beq_iff_eq] at h1
          simp only [Option.map_some, Option.some.injEq] at h
          obtain ⟨e1, e2⟩ := h1
          rw [← e1, ← e2, ← h]
          exact Or.inr (Or.inr (Or.inr h2))
set_option maxRecDepth 100000 in
theorem D1_1 : (List.range 500).all (fun a => !isSt a || (List.range 7).all (fun j => D1F a j)) = true := by decide +kernel
theorem D1_2 : (List.range 40).all (fun j => D1F 66 j) = true := by decide +kernel
theorem D1_3 : (List.range 7).all (fun j => D1F 410 j) = true := by decide +kernel
theorem D1_4 : R1L.all (fun q => D1F q.1 q.2.1) = true := by decide +kernel
theorem all_R1 {f : Nat → Nat → Bool} {a j v : Nat} (h : R1L.all (fun q => f q.1 q.2.1) = true) (hm : (a, j, v) ∈ R1L) : f a j = true := List.all_eq_true.mp h _ hm
theorem D1_t {a j v : Nat} (h : R1 a j = some v) : D1F a j = true := by
  rcases R1_c h with ⟨c, hj⟩ | ⟨rfl, hj⟩ | ⟨rfl, hj⟩ | hm
  · have h1 := List.all_eq_true.mp D1_1 a (List.mem_range.mpr (by have := R1_lt h; omega))
    rw [c] at h1
    exact List.all_eq_true.mp (by simpa using h1) j (List.mem_range.mpr hj)
  · exact List.all_eq_true.mp D1_2 j (List.mem_range.mpr hj)
  · exact List.all_eq_true.mp D1_3 j (List.mem_range.mpr hj)
  · exact all_R1 D1_4 hm
/-- the first world -/
def kW0 : kW := ((0, (fun _ => 0), (fun _ => 0), none, 0, 0), ((fun _ _ => 0), 0, fun _ _ _ => 0), (fun _ _ => 0), none, (0, fun _ _ => 0), (0, fun _ => 0), (fun _ => 0), 4, (0, -1), fun _ _ => 0)
theorem okW0 : OKW kW0 := by
  have nn : ∀ k, ¬ k < 0 := Nat.not_lt_zero
  exact ⟨⟨by decide, fun _ _ => ⟨Int.le_refl 0, show (0 : Int) ≤ 99 by decide⟩, fun _ _ => ⟨Int.le_refl 0, show (0 : Int) ≤ 2 by decide⟩, ⟨by decide, by decide⟩, ⟨by decide, by decide⟩⟩, Or.inl rfl, fun z => absurd z (nn _), fun _ => ⟨rfl, rfl, rfl, rfl⟩, ⟨by decide, fun k hk => absurd hk (nn k)⟩, fun u hu => absurd (show (none : Option jS) = some u from hu) (by simp), ⟨by decide, fun k hk => absurd hk (nn k)⟩, ⟨by decide, fun k hk => absurd hk (nn k)⟩, ⟨by decide, by decide⟩, by decide, Or.inl ⟨rfl, rfl⟩⟩
section First
variable {M0 M : jM} {d L : Nat} {Q : Option jV → jM → Prop}
def VF : List (Nat × Nat × Int) := [(468, 31, (4 : Int)), (468, 30, (-1 : Int)), (6, 6, (4 : Int)), (6, 5, (-1 : Int)), (7, 3, (-1 : Int))]
theorem bd_shp (h : BdM 500 w1F VF D1F M0 M) (hk : ∀ r, 1 ≤ r → r < 5 → kd M0 r = (20, 12)) : Shp M := by
  obtain ⟨h1, h2, h3, h4, h5, h6, h7, h8, h9, h10⟩ := h
  refine ⟨by omega, fun r r0 r5 hr => ?_, fun a j v hR => h9 a j v (D1_t hR) hR⟩
  by_cases c : r < 6
  · rw [(h4 r c).1, hk r (by omega) (by omega)]
    have : r = 1 ∨ r = 2 ∨ r = 3 ∨ r = 4 := by omega
    rcases this with rfl | rfl | rfl | rfl <;> rfl
  · exact h5 r (by omega) hr
theorem bd_CX (h : BdM 500 w1F VF D1F M0 M) (hk : ∀ r, 1 ≤ r → r < 5 → kd M0 r = (20, 12)) : CX M kW0 := by
  have hS := bd_shp h hk
  obtain ⟨h1, h2, h3, h4, h5, h6, h7, h8, h9, h10⟩ := h
  have nn : ∀ k, ¬ k < 0 := Nat.not_lt_zero
  have z : ∀ r, 7 < r → r < 468 → ∀ i, iv M r i = 0 := fun r r1 r2 i => h6 r i (by omega) (by omega) (by
    unfold SpR
    have a1 : (r == 7) = false := beq_eq_false_iff_ne.mpr (by omega)
    have a2 : (r == 6) = false := beq_eq_false_iff_ne.mpr (by omega)
    have a3 : (r == 468) = false := beq_eq_false_iff_ne.mpr (by omega)
    rw [a1, a2, a3]
    rfl)
  have v5 : iv M 6 5 = -1 := (h7 (6, 5, (-1 : Int)) (by decide)).2.2
  have v6 : iv M 6 6 = 4 := (h7 (6, 6, (4 : Int)) (by decide)).2.2
  have r5 : rv M 29 5 = 0 := h10 29 5 (by decide) (by decide) (by rfl)
  refine ⟨hS, ⟨z 29 (by decide) (by decide) 0, z 29 (by decide) (by decide) 1, z 29 (by decide) (by decide) 2, fun i _ => z 30 (by decide) (by decide) i, fun i _ => z 31 (by decide) (by decide) i, r5⟩, ⟨fun y => absurd y (nn _), z 33 (by decide) (by decide) 9, 0, by decide, z 65 (by decide) (by decide) 1, z 65 (by decide) (by decide) 2, by decide, fun k hk => absurd hk (nn k)⟩, ⟨h6 6 14 (by decide) (by decide) (by decide), fun u hu => absurd (show (none : Option jS) = some u from hu) (by simp)⟩, fun y => absurd y (nn _), ⟨z 387 (by decide) (by decide) 4, fun k hk => absurd hk (nn k), Or.inl (z 387 (by decide) (by decide) 5)⟩, ⟨h6 7 1 (by decide) (by decide) (by decide), fun k hk => absurd hk (nn k)⟩, ⟨h6 6 4 (by decide) (by decide) (by decide), v5, fun _ => 0, fun k hk => absurd hk (nn k), fun j k _ hk => absurd hk (nn k), fun _ => r5, fun y => absurd (show (-1 : Int) = -1 from rfl) y⟩, fun i _ => z 28 (by decide) (by decide) i, ⟨fun i _ => ?_, fun i _ => z 48 (by decide) (by decide) i, fun i _ => ?_⟩, v6⟩
  · rw [z 12 (by decide) (by decide) i, z 13 (by decide) (by decide) i, z 14 (by decide) (by decide) i]
    decide
  · rw [z 43 (by decide) (by decide) i, z 44 (by decide) (by decide) i, z 45 (by decide) (by decide) i]
    decide
theorem bd_CM (h : BdM 500 w1F VF D1F M0 M) (hk : ∀ r, 1 ≤ r → r < 5 → kd M0 r = (20, 12)) : CM M kW0 := by
  have hS := bd_shp h hk
  obtain ⟨h1, h2, h3, h4, h5, h6, h7, h8, h9, h10⟩ := h
  have nn : ∀ k, ¬ k < 0 := Nat.not_lt_zero
  have z : ∀ r, 468 < r → r < 500 → ∀ i, iv M r i = 0 := fun r r1 r2 i => h6 r i (by omega) (by omega) (by
    unfold SpR
    have a1 : (r == 7) = false := beq_eq_false_iff_ne.mpr (by omega)
    have a2 : (r == 6) = false := beq_eq_false_iff_ne.mpr (by omega)
    have a3 : (r == 468) = false := beq_eq_false_iff_ne.mpr (by omega)
    rw [a1, a2, a3]
    rfl)
  have y : ∀ j, SpR 468 j = false → iv M 468 j = 0 := fun j hj => h6 468 j (by decide) (by decide) hj
  have v30 : iv M 468 30 = -1 := (h7 (468, 30, (-1 : Int)) (by decide)).2.2
  have v31 : iv M 468 31 = 4 := (h7 (468, 31, (4 : Int)) (by decide)).2.2
  have hl0 : hl (fun _ _ => 0) = 0 := hl_0 rfl
  refine ⟨hS, ⟨y 25 (by decide), fun p hp => absurd hp (nn p), z 482 (by decide) (by decide) 1, z 482 (by decide) (by decide) 2, v30⟩, ⟨fun q => absurd q (nn _), ⟨?_, fun i w hi _ => ?_⟩, z 486 (by decide) (by decide) 170, y 33 (by decide), by decide, fun k hk => absurd hk (nn k)⟩, ⟨y 46 (by decide), fun u hu => absurd (show (none : Option jS) = some u from hu) (by simp)⟩, fun q => absurd q (nn _), ⟨y 42 (by decide), fun k hk => absurd hk (nn k)⟩, ⟨y 2 (by decide), fun k hk => absurd hk (nn k)⟩, ⟨y 13 (by decide), v30, fun k hk => absurd hk (nn k)⟩, fun i _ => z 487 (by decide) (by decide) i, v31⟩
  · rw [z 486 (by decide) (by decide) 171]
    exact hl0.symm
  · have hi : (i : Int) < hl (fun _ _ => 0) := hi
    rw [hl0] at hi
    omega
theorem law_first (hd : 724 ≤ d) (h6 : mx M0 = 6) (h0 : ms M0 = 0) (K : ∀ M, BdM 500 w1F VF D1F M0 M → Run (d + 1 + 1) mL_law 23 (lsL 0 none none) [] M Q) : Call (d + 1 + 1) mL_law [vR 5] M0 Q := by
  have nn : ∀ k, ¬ k < 0 := Nat.not_lt_zero
  have b0 : BdM 6 0 [] (fun _ _ => false) M0 M0 := ⟨h6, h0, Nat.le_refl _, fun _ _ => ⟨rfl, rfl⟩, fun r r6 hr => by omega, fun r i r6 hr => by omega, fun q hq => absurd hq (by simp), fun a j h => absurd h (by simp), fun a j v h => absurd h (by simp), fun a j a6 ha => by omega⟩
  show Run (d + 1 + 1) mL_law 0 [some (vR 5), none, none, none, none, none, none] [] M0 Q
  have b1 := b0.anw (k := (10, 0)) (len := 20) (by rfl)
  refine r_new dL_law_0 kN12_8 ?_
  refine r_dupR dL_law_3 ?_
  rw [h6, show jslots 10 = 20 from by rfl]
  have o1 : jobj (nw M0 (10, 0) 20) mX10_init.1 6 = true := b1.ob ⟨by decide, by decide⟩ (by rfl)
  refine r_invI dL_law_4 (by rfl) kM12_15 (by decide) (Nat.zero_le _) (as := []) (q := [vR 6]) rfl rfl (Nat.le_of_ble_eq_true rfl) (Nat.le_of_ble_eq_true rfl) o1 (by rfl) ?_
  refine ctor10 (by omega) b1 (fun M2 b2 => ?_)
  refine r_astore_n (ls2 := [some (vR 5), some (vR 6), none, none, none, none, none]) dL_law_7 (Nat.le_of_ble_eq_true rfl) rfl ?_
  have b3 := b2.anw (k := (11, 0)) (len := 47) kk468
  refine r_new dL_law_8 kN12_16 ?_
  refine r_dupR dL_law_11 ?_
  rw [b2.1, show jslots 11 = 47 from by rfl]
  have o2 : jobj (nw M2 (11, 0) 47) mX11_init.1 468 = true := b3.ob ⟨by decide, by decide⟩ kk468
  refine r_invI dL_law_12 (by rfl) kM12_18 (by decide) (Nat.zero_le _) (as := []) (q := [vR 468]) rfl rfl (Nat.le_of_ble_eq_true rfl) (Nat.le_of_ble_eq_true rfl) o2 (by rfl) ?_
  refine ctor11 (by omega) b3 (fun M4 b4 => ?_)
  refine r_astore_n (ls2 := [some (vR 5), some (vR 6), some (vR 468), none, none, none, none]) dL_law_15 (Nat.le_of_ble_eq_true rfl) rfl ?_
  refine r_iconst dL_law_16 (by decide) ?_
  refine r_newarray_long dL_law_17 (by decide) ?_
  rw [b4.1]
  have b5 := b4.anw (k := (21, 1)) (len := 1) kk499
  refine r_astore_n (ls2 := [some (vR 5), some (vR 6), some (vR 468), some (vR 499), none, none, none]) dL_law_19 (Nat.le_of_ble_eq_true rfl) rfl ?_
  refine r_iconst dL_law_20 (by decide) ?_
  refine r_istore (ls2 := lsL 0 none none) dL_law_21 (Nat.le_of_ble_eq_true rfl) rfl ?_
  exact K _ b5
theorem law_ok (hd : 724 ≤ d) (hL : L ≤ 3072) (h6 : mx M0 = 6) (h0 : ms M0 = 0) (hk : ∀ r, 1 ≤ r → r < 5 → kd M0 r = (20, 12)) (h5 : kd M0 5 = (20, L)) (hx : ∀ j, j < L → i32 (iv M0 5 j)) (hs : ST M0) : Call (d + 1 + 1) mL_law [vR 5] M0 (LQ w1F) := by
  refine law_first hd h6 h0 (fun M b => ?_)
  have x := bd_CX b hk
  have m := bd_CM b hk
  obtain ⟨e1, e2, e3, e4, e5, _⟩ := id b
  refine law_loop hd hL (L + 1) 0 kW0 M none none (by omega) (Nat.zero_le _) ⟨okW0, x, m, ?_, fun j hj => ?_, ?_, fun i hi => ?_, ?_, ?_⟩
  · rw [(e4 5 (by decide)).1]; exact h5
  · rw [(e4 5 (by decide)).2]; exact hx j hj
  · rw [e5 499 (by decide) (by decide)]; exact kk499
  · rw [(e4 1 (by decide)).2, (e4 2 (by decide)).2, (e4 3 (by decide)).2, (e4 4 (by decide)).2]; exact hs i hi
  · rw [e1]; exact Nat.le_refl _
  · rw [e2]; exact Nat.le_refl _
end First
