/-! the shape of the memory: which cells there are, which rows their fields name -/
def K1L : List (Nat × Nat) := [(0, 0), (20, 12), (20, 12), (20, 12), (20, 12), (0, 0), (10, 0), (8, 0), (20, 240), (2, 0), (20, 4), (20, 4), (20, 8), (20, 8), (20, 8), (20, 12), (20, 12), (20, 12), (20, 12), (4, 0), (3, 0), (20, 240), (20, 240), (20, 64), (20, 64), (20, 64), (20, 64), (24, 4), (20, 5), (1, 0), (20, 8), (20, 8), (20, 6), (7, 0), (20, 32), (20, 32), (20, 32), (20, 32), (20, 32), (20, 8), (20, 60), (7, 0), (20, 32), (20, 32), (20, 32), (20, 32), (20, 32), (20, 8), (20, 60), (7, 0), (20, 32), (20, 32), (20, 32), (20, 32), (20, 32), (20, 8), (20, 60), (7, 0), (20, 32), (20, 32), (20, 32), (20, 32), (20, 32), (20, 8), (20, 60), (5, 0), (23, 40), (7, 0), (20, 32), (20, 32), (20, 32), (20, 32), (20, 32), (20, 8), (20, 60), (7, 0), (20, 32), (20, 32), (20, 32), (20, 32), (20, 32), (20, 8), (20, 60), (7, 0), (20, 32), (20, 32), (20, 32), (20, 32), (20, 32), (20, 8), (20, 60), (7, 0), (20, 32), (20, 32), (20, 32), (20, 32), (20, 32), (20, 8), (20, 60), (7, 0), (20, 32), (20, 32), (20, 32), (20, 32), (20, 32), (20, 8), (20, 60), (7, 0), (20, 32), (20, 32), (20, 32), (20, 32), (20, 32), (20, 8), (20, 60), (7, 0), (20, 32), (20, 32), (20, 32), (20, 32), (20, 32), (20, 8), (20, 60), (7, 0), (20, 32), (20, 32), (20, 32), (20, 32), (20, 32), (20, 8), (20, 60), (7, 0), (20, 32), (20, 32), (20, 32), (20, 32), (20, 32), (20, 8), (20, 60), (7, 0), (20, 32), (20, 32), (20, 32), (20, 32), (20, 32), (20, 8), (20, 60), (7, 0), (20, 32), (20, 32), (20, 32), (20, 32), (20, 32), (20, 8), (20, 60), (7, 0), (20, 32), (20, 32), (20, 32), (20, 32), (20, 32), (20, 8), (20, 60), (7, 0), (20, 32), (20, 32), (20, 32), (20, 32), (20, 32), (20, 8), (20, 60), (7, 0), (20, 32), (20, 32), (20, 32), (20, 32), (20, 32), (20, 8), (20, 60), (7, 0), (20, 32), (20, 32), (20, 32), (20, 32), (20, 32), (20, 8), (20, 60), (7, 0), (20, 32), (20, 32), (20, 32), (20, 32), (20, 32), (20, 8), (20, 60), (7, 0), (20, 32), (20, 32), (20, 32), (20, 32), (20, 32), (20, 8), (20, 60), (7, 0), (20, 32), (20, 32), (20, 32), (20, 32), (20, 32), (20, 8), (20, 60), (7, 0), (20, 32), (20, 32), (20, 32), (20, 32), (20, 32), (20, 8), (20, 60), (7, 0), (20, 32), (20, 32), (20, 32), (20, 32), (20, 32), (20, 8), (20, 60), (7, 0), (20, 32), (20, 32), (20, 32), (20, 32), (20, 32), (20, 8), (20, 60), (7, 0), (20, 32), (20, 32), (20, 32), (20, 32), (20, 32), (20, 8), (20, 60), (7, 0), (20, 32), (20, 32), (20, 32), (20, 32), (20, 32), (20, 8), (20, 60), (7, 0), (20, 32), (20, 32), (20, 32), (20, 32), (20, 32), (20, 8), (20, 60), (7, 0), (20, 32), (20, 32), (20, 32), (20, 32), (20, 32), (20, 8), (20, 60), (7, 0), (20, 32), (20, 32), (20, 32), (20, 32), (20, 32), (20, 8), (20, 60), (7, 0), (20, 32), (20, 32), (20, 32), (20, 32), (20, 32), (20, 8), (20, 60), (7, 0), (20, 32), (20, 32), (20, 32), (20, 32), (20, 32), (20, 8), (20, 60), (7, 0), (20, 32), (20, 32), (20, 32), (20, 32), (20, 32), (20, 8), (20, 60), (7, 0), (20, 32), (20, 32), (20, 32), (20, 32), (20, 32), (20, 8), (20, 60), (7, 0), (20, 32), (20, 32), (20, 32), (20, 32), (20, 32), (20, 8), (20, 60), (7, 0), (20, 32), (20, 32), (20, 32), (20, 32), (20, 32), (20, 8), (20, 60), (7, 0), (20, 32), (20, 32), (20, 32), (20, 32), (20, 32), (20, 8), (20, 60), (7, 0), (20, 32), (20, 32), (20, 32), (20, 32), (20, 32), (20, 8), (20, 60), (7, 0), (20, 32), (20, 32), (20, 32), (20, 32), (20, 32), (20, 8), (20, 60), (7, 0), (20, 32), (20, 32), (20, 32), (20, 32), (20, 32), (20, 8), (20, 60), (7, 0), (20, 32), (20, 32), (20, 32), (20, 32), (20, 32), (20, 8), (20, 60), (7, 0), (20, 32), (20, 32), (20, 32), (20, 32), (20, 32), (20, 8), (20, 60), (7, 0), (20, 32), (20, 32), (20, 32), (20, 32), (20, 32), (20, 8), (20, 60), (7, 0), (20, 32), (20, 32), (20, 32), (20, 32), (20, 32), (20, 8), (20, 60), (6, 0), (20, 10), (20, 10), (20, 10), (20, 10), (7, 0), (20, 32), (20, 32), (20, 32), (20, 32), (20, 32), (20, 8), (20, 60), (20, 288), (21, 72), (20, 1944), (20, 1512), (20, 64), (0, 0), (21, 8), (22, 256), (20, 256), (9, 0), (23, 7), (7, 0), (20, 32), (20, 32), (20, 32), (20, 32), (20, 32), (20, 8), (20, 60), (7, 0), (20, 32), (20, 32), (20, 32), (20, 32), (20, 32), (20, 8), (20, 60), (7, 0), (20, 32), (20, 32), (20, 32), (20, 32), (20, 32), (20, 8), (20, 60), (7, 0), (20, 32), (20, 32), (20, 32), (20, 32), (20, 32), (20, 8), (20, 60), (7, 0), (20, 32), (20, 32), (20, 32), (20, 32), (20, 32), (20, 8), (20, 60), (7, 0), (20, 32), (20, 32), (20, 32), (20, 32), (20, 32), (20, 8), (20, 60), (7, 0), (20, 32), (20, 32), (20, 32), (20, 32), (20, 32), (20, 8), (20, 60), (20, 18), (11, 0), (20, 240), (20, 2600), (20, 2600), (20, 5), (20, 5), (20, 700), (20, 700), (20, 700), (20, 6), (20, 80), (20, 4), (20, 24), (20, 48), (20, 4), (20, 24), (20, 48), (20, 8), (20, 352), (20, 5), (20, 14080), (20, 1539), (21, 8), (20, 256), (20, 10), (20, 10), (20, 10), (22, 10), (21, 72), (20, 576), (20, 352), (21, 1)]
def K1 (r : Nat) : Nat × Nat := K1L.getD r (0, 0)
def isSt (a : Nat) : Bool := decide ((33 ≤ a ∧ a ≤ 57 ∧ (a - 33) % 8 = 0) ∨ (67 ≤ a ∧ a ≤ 379 ∧ (a - 67) % 8 = 0) ∨ a = 392 ∨ (411 ≤ a ∧ a ≤ 459 ∧ (a - 411) % 8 = 0))
def R1L : List (Nat × Nat × Nat) := [(6, 0, 7), (6, 1, 9), (6, 2, 19), (6, 3, 27), (6, 7, 28), (6, 9, 29), (6, 10, 33), (6, 11, 41), (6, 12, 49), (6, 13, 57), (6, 15, 65), (6, 16, 387), (6, 17, 405), (6, 18, 409), (6, 19, 467), (7, 0, 8), (9, 0, 10), (9, 1, 11), (9, 4, 12), (9, 5, 13), (9, 6, 14), (9, 8, 15), (9, 9, 16), (9, 10, 17), (9, 11, 18), (19, 0, 20), (20, 0, 21), (20, 1, 22), (20, 3, 23), (20, 4, 24), (20, 5, 25), (20, 7, 26), (29, 3, 30), (29, 4, 31), (29, 6, 32), (65, 0, 66), (387, 0, 388), (387, 1, 389), (387, 2, 390), (387, 3, 391), (387, 6, 392), (387, 7, 400), (387, 8, 401), (387, 9, 402), (387, 10, 403), (387, 12, 404), (405, 0, 406), (405, 2, 407), (405, 3, 408), (409, 0, 410), (468, 1, 469), (468, 6, 470), (468, 7, 471), (468, 8, 472), (468, 9, 473), (468, 10, 474), (468, 11, 475), (468, 12, 476), (468, 15, 477), (468, 16, 478), (468, 17, 479), (468, 18, 480), (468, 19, 481), (468, 22, 482), (468, 23, 483), (468, 24, 484), (468, 27, 485), (468, 28, 486), (468, 29, 487), (468, 32, 488), (468, 35, 489), (468, 36, 490), (468, 37, 491), (468, 38, 492), (468, 39, 493), (468, 40, 494), (468, 41, 495), (468, 43, 496), (468, 44, 497), (468, 45, 498)]
def R1 (a j : Nat) : Option Nat := if isSt a = true then (if j < 7 then some (a + 1 + j) else none) else if a = 66 then (if j < 40 then some (67 + 8 * j) else none) else if a = 410 then (if j < 7 then some (411 + 8 * j) else none) else (R1L.find? (fun q => q.1 == a && q.2.1 == j)).map (fun q => q.2.2)
def Shp (M : jM) : Prop := 500 ≤ mx M ∧ (∀ r, r ≠ 0 → r ≠ 5 → r < 500 → kd M r = K1 r) ∧ ∀ a j v, R1 a j = some v → rv M a j = v
/-- a row of this kind and length -/
def jro (M : jM) (t n r : Nat) : Prop := r ≠ 0 ∧ r < mx M ∧ kd M r = (t, n)
theorem jro_ix {M : jM} {t n r : Nat} {i : Int} (h : jro M t n r) (hi : 0 ≤ i ∧ i < (n : Int)) : jIdx M t r i = true := by
  obtain ⟨h0, h1, h2⟩ := h
  unfold jIdx
  rw [h2]
  simp [h0, h1, hi.1, hi.2]
theorem jobj_of {M : jM} {c r : Nat} (h0 : r ≠ 0) (h1 : r < mx M) (h2 : (kd M r).1 = c) : jobj M c r = true := by
  unfold jobj
  simp [h0, h1, h2]
theorem sh_o {M : jM} {r c n : Nat} (hS : Shp M) (h : K1 r = (c, n)) (h1 : r ≠ 0 ∧ r ≠ 5 ∧ r < 500) : jobj M c r = true := jobj_of h1.1 (by have := hS.1; omega) (by rw [hS.2.1 r h1.1 h1.2.1 h1.2.2, h])
theorem sh_r {M : jM} {r t n : Nat} (hS : Shp M) (h : K1 r = (t, n)) (h1 : r ≠ 0 ∧ r ≠ 5 ∧ r < 500) : jro M t n r := ⟨h1.1, by have := hS.1; omega, by rw [hS.2.1 r h1.1 h1.2.1 h1.2.2, h]⟩
theorem sh_f {M : jM} {a j v : Nat} (hS : Shp M) (h : R1 a j = some v) (_ : a < 500) : rv M a j = v := hS.2.2 a j v h
theorem st_b {a : Nat} (h : isSt a = true) : 33 ≤ a ∧ a + 8 ≤ 467 ∧ (a + 8 ≤ 65 ∨ (67 ≤ a ∧ a + 8 ≤ 387) ∨ a = 392 ∨ 411 ≤ a) := by
  unfold isSt at h
  simp only [decide_eq_true_eq] at h
  omega
theorem st_6 {a : Nat} (h : isSt a = true) : 6 < a ∧ a + 8 ≤ 467 := by have := st_b h; omega
theorem st_ne {a b : Nat} (ha : isSt a = true) (hb : isSt b = true) : a = b ∨ a + 8 ≤ b ∨ b + 8 ≤ a := by
  unfold isSt at ha hb
  simp only [decide_eq_true_eq] at ha hb
  omega
def stK (a : Nat) : Bool := !isSt a || (K1 a == (7, 0) && K1 (a + 1) == (20, 32) && K1 (a + 2) == (20, 32) && K1 (a + 3) == (20, 32) && K1 (a + 4) == (20, 32) && K1 (a + 5) == (20, 32) && K1 (a + 6) == (20, 8) && K1 (a + 7) == (20, 60))
set_option maxRecDepth 100000 in
theorem st_K0 : (List.range 500).all stK = true := by decide +kernel
theorem st_K (a : Nat) (h : a < 500) (ha : isSt a = true) : K1 a = (7, 0) ∧ K1 (a + 1) = (20, 32) ∧ K1 (a + 2) = (20, 32) ∧ K1 (a + 3) = (20, 32) ∧ K1 (a + 4) = (20, 32) ∧ K1 (a + 5) = (20, 32) ∧ K1 (a + 6) = (20, 8) ∧ K1 (a + 7) = (20, 60) := by
  have h1 := List.all_eq_true.mp st_K0 a (List.mem_range.mpr h)
  unfold stK at h1
  rw [ha] at h1
  simp only [Bool.not_true, Bool.false_or, Bool.and_eq_true, beq_iff_eq] at h1
  obtain ⟨⟨⟨⟨⟨⟨⟨a1, a2⟩, a3⟩, a4⟩, a5⟩, a6⟩, a7⟩, a8⟩ := h1
  exact ⟨a1, a2, a3, a4, a5, a6, a7, a8⟩
theorem st_o {M : jM} {a : Nat} (hS : Shp M) (h : isSt a = true) : jobj M 7 a = true := by
  have := st_b h
  exact sh_o hS (st_K a (by omega) h).1 ⟨by omega, by omega, by omega⟩
theorem st_r1 {M : jM} {a : Nat} (hS : Shp M) (h : isSt a = true) : jro M 20 32 (a + 1) := by
  have := st_b h
  exact sh_r hS (st_K a (by omega) h).2.1 ⟨by omega, by omega, by omega⟩
theorem st_f0 {M : jM} {a : Nat} (hS : Shp M) (h : isSt a = true) : rv M a 0 = a + 1 := by
  have h1 : R1 a 0 = some (a + 1 + 0) := by unfold R1; rw [if_pos h, if_pos (by decide)]
  have h2 := hS.2.2 a 0 _ h1
  omega
theorem st_r2 {M : jM} {a : Nat} (hS : Shp M) (h : isSt a = true) : jro M 20 32 (a + 2) := by
  have := st_b h
  exact sh_r hS (st_K a (by omega) h).2.2.1 ⟨by omega, by omega, by omega⟩
theorem st_f1 {M : jM} {a : Nat} (hS : Shp M) (h : isSt a = true) : rv M a 1 = a + 2 := by
  have h1 : R1 a 1 = some (a + 1 + 1) := by unfold R1; rw [if_pos h, if_pos (by decide)]
  have h2 := hS.2.2 a 1 _ h1
  omega
theorem st_r3 {M : jM} {a : Nat} (hS : Shp M) (h : isSt a = true) : jro M 20 32 (a + 3) := by
  have := st_b h
  exact sh_r hS (st_K a (by omega) h).2.2.2.1 ⟨by omega, by omega, by omega⟩
theorem st_f2 {M : jM} {a : Nat} (hS : Shp M) (h : isSt a = true) : rv M a 2 = a + 3 := by
  have h1 : R1 a 2 = some (a + 1 + 2) := by unfold R1; rw [if_pos h, if_pos (by decide)]
  have h2 := hS.2.2 a 2 _ h1
  omega
theorem st_r4 {M : jM} {a : Nat} (hS : Shp M) (h : isSt a = true) : jro M 20 32 (a + 4) := by
  have := st_b h
  exact sh_r hS (st_K a (by omega) h).2.2.2.2.1 ⟨by omega, by omega, by omega⟩
theorem st_f3 {M : jM} {a : Nat} (hS : Shp M) (h : isSt a = true) : rv M a 3 = a + 4 := by
  have h1 : R1 a 3 = some (a + 1 + 3) := by unfold R1; rw [if_pos h, if_pos (by decide)]
  have h2 := hS.2.2 a 3 _ h1
  omega
theorem st_r5 {M : jM} {a : Nat} (hS : Shp M) (h : isSt a = true) : jro M 20 32 (a + 5) := by
  have := st_b h
  exact sh_r hS (st_K a (by omega) h).2.2.2.2.2.1 ⟨by omega, by omega, by omega⟩
theorem st_f4 {M : jM} {a : Nat} (hS : Shp M) (h : isSt a = true) : rv M a 4 = a + 5 := by
  have h1 : R1 a 4 = some (a + 1 + 4) := by unfold R1; rw [if_pos h, if_pos (by decide)]
  have h2 := hS.2.2 a 4 _ h1
  omega
theorem st_r6 {M : jM} {a : Nat} (hS : Shp M) (h : isSt a = true) : jro M 20 8 (a + 6) := by
  have := st_b h
  exact sh_r hS (st_K a (by omega) h).2.2.2.2.2.2.1 ⟨by omega, by omega, by omega⟩
theorem st_f5 {M : jM} {a : Nat} (hS : Shp M) (h : isSt a = true) : rv M a 5 = a + 6 := by
  have h1 : R1 a 5 = some (a + 1 + 5) := by unfold R1; rw [if_pos h, if_pos (by decide)]
  have h2 := hS.2.2 a 5 _ h1
  omega
theorem st_r7 {M : jM} {a : Nat} (hS : Shp M) (h : isSt a = true) : jro M 20 60 (a + 7) := by
  have := st_b h
  exact sh_r hS (st_K a (by omega) h).2.2.2.2.2.2.2 ⟨by omega, by omega, by omega⟩
theorem st_f6 {M : jM} {a : Nat} (hS : Shp M) (h : isSt a = true) : rv M a 6 = a + 7 := by
  have h1 : R1 a 6 = some (a + 1 + 6) := by unfold R1; rw [if_pos h, if_pos (by decide)]
  have h2 := hS.2.2 a 6 _ h1
  omega
/-- a LAW's object and its rows -/
def LawAt (M : jM) (g : Nat) : Prop := 6 ≤ g ∧ g + 7 ≤ mx M ∧ (kd M g).1 = 3 ∧ (rv M g 0 = g + 1 ∧ rv M g 1 = g + 2 ∧ rv M g 3 = g + 3 ∧ rv M g 4 = g + 4 ∧ rv M g 5 = g + 5 ∧ rv M g 7 = g + 6) ∧ kd M (g + 1) = (20, 240) ∧ kd M (g + 2) = (20, 240) ∧ kd M (g + 3) = (20, 64) ∧ kd M (g + 4) = (20, 64) ∧ kd M (g + 5) = (20, 64) ∧ kd M (g + 6) = (20, 64)
theorem la_6 {M : jM} {g : Nat} (h : LawAt M g) : 6 ≤ g := h.1
theorem la_o {M : jM} {g : Nat} (h : LawAt M g) : jobj M 3 g = true := jobj_of (by have := h.1; omega) (by have := h.2.1; omega) h.2.2.1
theorem la_f0 {M : jM} {g : Nat} (h : LawAt M g) : rv M g 0 = g + 1 := h.2.2.2.1.1
theorem la_f1 {M : jM} {g : Nat} (h : LawAt M g) : rv M g 1 = g + 2 := h.2.2.2.1.2.1
theorem la_f3 {M : jM} {g : Nat} (h : LawAt M g) : rv M g 3 = g + 3 := h.2.2.2.1.2.2.1
theorem la_f4 {M : jM} {g : Nat} (h : LawAt M g) : rv M g 4 = g + 4 := h.2.2.2.1.2.2.2.1
theorem la_f5 {M : jM} {g : Nat} (h : LawAt M g) : rv M g 5 = g + 5 := h.2.2.2.1.2.2.2.2.1
theorem la_f7 {M : jM} {g : Nat} (h : LawAt M g) : rv M g 7 = g + 6 := h.2.2.2.1.2.2.2.2.2
theorem la_r1 {M : jM} {g : Nat} (h : LawAt M g) : jro M 20 240 (g + 1) := ⟨by omega, by have := h.2.1; omega, h.2.2.2.2.1⟩
theorem la_r2 {M : jM} {g : Nat} (h : LawAt M g) : jro M 20 240 (g + 2) := ⟨by omega, by have := h.2.1; omega, h.2.2.2.2.2.1⟩
theorem la_r3 {M : jM} {g : Nat} (h : LawAt M g) : jro M 20 64 (g + 3) := ⟨by omega, by have := h.2.1; omega, h.2.2.2.2.2.2.1⟩
theorem la_r4 {M : jM} {g : Nat} (h : LawAt M g) : jro M 20 64 (g + 4) := ⟨by omega, by have := h.2.1; omega, h.2.2.2.2.2.2.2.1⟩
theorem la_r5 {M : jM} {g : Nat} (h : LawAt M g) : jro M 20 64 (g + 5) := ⟨by omega, by have := h.2.1; omega, h.2.2.2.2.2.2.2.2.1⟩
theorem la_r6 {M : jM} {g : Nat} (h : LawAt M g) : jro M 20 64 (g + 6) := ⟨by omega, by have := h.2.1; omega, h.2.2.2.2.2.2.2.2.2⟩
theorem law20 {M : jM} (hS : Shp M) : LawAt M 20 := ⟨by decide, by have := hS.1; omega, by rw [hS.2.1 20 (by decide) (by decide) (by decide)]; rfl, ⟨sh_f hS rfl (by decide), sh_f hS rfl (by decide), sh_f hS rfl (by decide), sh_f hS rfl (by decide), sh_f hS rfl (by decide), sh_f hS rfl (by decide)⟩, hS.2.1 21 (by decide) (by decide) (by decide), hS.2.1 22 (by decide) (by decide) (by decide), hS.2.1 23 (by decide) (by decide) (by decide), hS.2.1 24 (by decide) (by decide) (by decide), hS.2.1 25 (by decide) (by decide) (by decide), hS.2.1 26 (by decide) (by decide) (by decide)⟩
section Rules2
variable {d : Nat} {m : jMe} {pc : Nat} {ls : jLs} {st : List jV} {M : jM} {Q : Option jV → jM → Prop}
theorem r_getS {i c j r v : Nat} (hd : decode m.2.2.1 pc = .ok (.getfield i, 3)) (hf : lkF m.1 i = some (c, j, 2)) (ho : jobj M c r = true) (hv : rv M r j = v) (k : Run d m (pc + 3) ls (vR v :: st) M Q) : Run d m pc ls (vR r :: st) M Q := by
  refine r_get2 hd hf ho ?_
  rw [hv]
  exact k
theorem r_lconst0 (hd : decode m.2.2.1 pc = .ok (.lconst 0, 1)) (k : Run d m (pc + 1) ls (vL (0 : Int) :: st) M Q) : Run d m pc ls st M Q := r_lconst hd k
theorem r_lconst1 (hd : decode m.2.2.1 pc = .ok (.lconst 1, 1)) (k : Run d m (pc + 1) ls (vL (1 : Int) :: st) M Q) : Run d m pc ls st M Q := r_lconst hd k
theorem r_tab_eq {x v dl lo hi o : Int} {os : Array Int} {len tgt : Nat} (hd : decode m.2.2.1 pc = .ok (.tableswitch dl lo hi os, len)) (hx : x = v) (h : ¬ (v < lo ∨ hi < v)) (ho : os[(v - lo).toNat]? = some o) (ht : (pc : Int) + o = (tgt : Int)) (k : Run d m tgt ls st M Q) : Run d m pc ls (vI x :: st) M Q := r_tab_in hd (by rw [hx]; exact h) (by rw [hx]; exact ho) ht k
theorem r_look_eq {x v dl o : Int} {ps : Array (Int × Int)} {len tgt : Nat} (hd : decode m.2.2.1 pc = .ok (.lookupswitch dl ps, len)) (hx : x = v) (h : (ps.toList.zip (ps.toList.drop 1)).all (fun (a, next) => a.1 < next.1) = true) (ho : Op.lookupswitch.offset ps.toList dl v = o) (ht : (pc : Int) + o = (tgt : Int)) (k : Run d m tgt ls st M Q) : Run d m pc ls (vI x :: st) M Q := r_look hd h (by rw [hx]; exact ho) ht k
theorem r_lenS {r t n : Nat} (hd : decode m.2.2.1 pc = .ok (.arraylength, 1)) (h : jro M t n r) (ht : 20 ≤ t ∧ t ≤ 24) (k : Run d m (pc + 1) ls (vI (n : Nat) :: st) M Q) : Run d m pc ls (vR r :: st) M Q := by
  obtain ⟨h0, h1, h2⟩ := h
  refine r_len hd ⟨h0, h1, by rw [h2]; exact ht.1, by rw [h2]; exact ht.2⟩ ?_
  rw [h2]
  exact k
theorem r_invS_i {i na : Nat} {cal : jMe} (hd : decode m.2.2.1 pc = .ok (.invokestatic i, 3)) (hs : ¬ (m.1 = 12 ∧ i = 42)) (hx : lkX m.1 i = none) (hm : lkM m.1 i = some (2, cal, na)) (hc : cal.1 ≠ 99) (hn : na ≤ st.length) {as q : List jV} (ha : (st.take na).reverse = as) (hq : st.drop na = q) (hw : jcat q ≤ 8) (hj : (jargs as).length ≤ cal.2.2.2.1) (k : Call d cal as M (fun r M2 => ∃ z : Int, r = some (vI z) ∧ Run (d + 1) m (pc + 3) ls (vI z :: q) M2 Q)) : Run (d + 1) m pc ls st M Q := r_invS hd hs hx hm hc hn ha hq hw hj (Call.mono k (Nat.le_refl _) (fun r M2 h => by obtain ⟨z, rfl, h⟩ := h; exact h))
theorem r_invS_l {i na : Nat} {cal : jMe} (hd : decode m.2.2.1 pc = .ok (.invokestatic i, 3)) (hs : ¬ (m.1 = 12 ∧ i = 42)) (hx : lkX m.1 i = none) (hm : lkM m.1 i = some (2, cal, na)) (hc : cal.1 ≠ 99) (hn : na ≤ st.length) {as q : List jV} (ha : (st.take na).reverse = as) (hq : st.drop na = q) (hw : jcat q ≤ 8) (hj : (jargs as).length ≤ cal.2.2.2.1) (k : Call d cal as M (fun r M2 => ∃ z : Int, r = some (vL z) ∧ Run (d + 1) m (pc + 3) ls (vL z :: q) M2 Q)) : Run (d + 1) m pc ls st M Q := r_invS hd hs hx hm hc hn ha hq hw hj (Call.mono k (Nat.le_refl _) (fun r M2 h => by obtain ⟨z, rfl, h⟩ := h; exact h))
theorem r_invS_a {i na : Nat} {cal : jMe} (hd : decode m.2.2.1 pc = .ok (.invokestatic i, 3)) (hs : ¬ (m.1 = 12 ∧ i = 42)) (hx : lkX m.1 i = none) (hm : lkM m.1 i = some (2, cal, na)) (hc : cal.1 ≠ 99) (hn : na ≤ st.length) {as q : List jV} (ha : (st.take na).reverse = as) (hq : st.drop na = q) (hw : jcat q ≤ 8) (hj : (jargs as).length ≤ cal.2.2.2.1) (k : Call d cal as M (fun r M2 => ∃ z : Nat, r = some (vR z) ∧ Run (d + 1) m (pc + 3) ls (vR z :: q) M2 Q)) : Run (d + 1) m pc ls st M Q := r_invS hd hs hx hm hc hn ha hq hw hj (Call.mono k (Nat.le_refl _) (fun r M2 h => by obtain ⟨z, rfl, h⟩ := h; exact h))
theorem r_invS_v {i na : Nat} {cal : jMe} (hd : decode m.2.2.1 pc = .ok (.invokestatic i, 3)) (hs : ¬ (m.1 = 12 ∧ i = 42)) (hx : lkX m.1 i = none) (hm : lkM m.1 i = some (2, cal, na)) (hc : cal.1 ≠ 99) (hn : na ≤ st.length) {as q : List jV} (ha : (st.take na).reverse = as) (hq : st.drop na = q) (hw : jcat q ≤ 8) (hj : (jargs as).length ≤ cal.2.2.2.1) (k : Call d cal as M (fun r M2 => r = none ∧ Run (d + 1) m (pc + 3) ls q M2 Q)) : Run (d + 1) m pc ls st M Q := r_invS hd hs hx hm hc hn ha hq hw hj (Call.mono k (Nat.le_refl _) (fun r M2 h => by obtain ⟨rfl, h⟩ := h; exact h))
theorem r_invV_i {i na r : Nat} {cal : jMe} (hd : decode m.2.2.1 pc = .ok (.invokevirtual i, 3)) (hm : lkM m.1 i = some (0, cal, na)) (hc : cal.1 ≠ 99) (hn : na ≤ st.length) {as q : List jV} (ha : (st.take na).reverse = as) (hq : st.drop na = vR r :: q) (hw : jcat q ≤ 8) (hj : (jargs as).length + 1 ≤ cal.2.2.2.1) (ho : jobj M cal.1 r = true) (k : Call d cal (vR r :: as) M (fun r M2 => ∃ z : Int, r = some (vI z) ∧ Run (d + 1) m (pc + 3) ls (vI z :: q) M2 Q)) : Run (d + 1) m pc ls st M Q := r_invV hd hm hc hn ha hq hw hj ho (Call.mono k (Nat.le_refl _) (fun r M2 h => by obtain ⟨z, rfl, h⟩ := h; exact h))
theorem r_invV_l {i na r : Nat} {cal : jMe} (hd : decode m.2.2.1 pc = .ok (.invokevirtual i, 3)) (hm : lkM m.1 i = some (0, cal, na)) (hc : cal.1 ≠ 99) (hn : na ≤ st.length) {as q : List jV} (ha : (st.take na).reverse = as) (hq : st.drop na = vR r :: q) (hw : jcat q ≤ 8) (hj : (jargs as).length + 1 ≤ cal.2.2.2.1) (ho : jobj M cal.1 r = true) (k : Call d cal (vR r :: as) M (fun r M2 => ∃ z : Int, r = some (vL z) ∧ Run (d + 1) m (pc + 3) ls (vL z :: q) M2 Q)) : Run (d + 1) m pc ls st M Q := r_invV hd hm hc hn ha hq hw hj ho (Call.mono k (Nat.le_refl _) (fun r M2 h => by obtain ⟨z, rfl, h⟩ := h; exact h))
theorem r_invV_a {i na r : Nat} {cal : jMe} (hd : decode m.2.2.1 pc = .ok (.invokevirtual i, 3)) (hm : lkM m.1 i = some (0, cal, na)) (hc : cal.1 ≠ 99) (hn : na ≤ st.length) {as q : List jV} (ha : (st.take na).reverse = as) (hq : st.drop na = vR r :: q) (hw : jcat q ≤ 8) (hj : (jargs as).length + 1 ≤ cal.2.2.2.1) (ho : jobj M cal.1 r = true) (k : Call d cal (vR r :: as) M (fun r M2 => ∃ z : Nat, r = some (vR z) ∧ Run (d + 1) m (pc + 3) ls (vR z :: q) M2 Q)) : Run (d + 1) m pc ls st M Q := r_invV hd hm hc hn ha hq hw hj ho (Call.mono k (Nat.le_refl _) (fun r M2 h => by obtain ⟨z, rfl, h⟩ := h; exact h))
theorem r_invV_v {i na r : Nat} {cal : jMe} (hd : decode m.2.2.1 pc = .ok (.invokevirtual i, 3)) (hm : lkM m.1 i = some (0, cal, na)) (hc : cal.1 ≠ 99) (hn : na ≤ st.length) {as q : List jV} (ha : (st.take na).reverse = as) (hq : st.drop na = vR r :: q) (hw : jcat q ≤ 8) (hj : (jargs as).length + 1 ≤ cal.2.2.2.1) (ho : jobj M cal.1 r = true) (k : Call d cal (vR r :: as) M (fun r M2 => r = none ∧ Run (d + 1) m (pc + 3) ls q M2 Q)) : Run (d + 1) m pc ls st M Q := r_invV hd hm hc hn ha hq hw hj ho (Call.mono k (Nat.le_refl _) (fun r M2 h => by obtain ⟨rfl, h⟩ := h; exact h))
end Rules2
