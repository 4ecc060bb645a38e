/-! A MEMORY that is being built: rules for what constructors do -/
def SpR (r i : Nat) : Bool := (r == 7 && i == 3) || (r == 6 && i == 5) || (r == 6 && i == 6) || (r == 468 && i == 30) || (r == 468 && i == 31)
/-- n cells, room w; ints that are not 0; references laid so far -/
def BdM (n w : Nat) (V : List (Nat × Nat × Int)) (D : Nat → Nat → Bool) (M0 M : jM) : Prop :=
  mx M = n ∧ ms M = w ∧ 6 ≤ n ∧ (∀ r, r < 6 → kd M r = kd M0 r ∧ iv M r = iv M0 r) ∧ (∀ r, 6 ≤ r → r < n → kd M r = K1 r) ∧ (∀ r i, 6 ≤ r → r < n → SpR r i = false → iv M r i = 0) ∧
  (∀ q, q ∈ V → q.1 < n ∧ SpR q.1 q.2.1 = true ∧ iv M q.1 q.2.1 = q.2.2) ∧ (∀ a j, D a j = true → a < n) ∧ (∀ a j v, D a j = true → R1 a j = some v → rv M a j = v) ∧ ∀ a j, 6 ≤ a → a < n → R1 a j = none → rv M a j = 0
def adD (D : Nat → Nat → Bool) (a j : Nat) : Nat → Nat → Bool := fun x y => D x y || (x == a && y == j)
theorem adD_t {D : Nat → Nat → Bool} {a j x y : Nat} : adD D a j x y = true ↔ D x y = true ∨ (x = a ∧ y = j) := by
  unfold adD
  simp only [Bool.or_eq_true, Bool.and_eq_true, beq_iff_eq]
section Build
variable {d n w : Nat} {V : List (Nat × Nat × Int)} {D : Nat → Nat → Bool} {M0 M : jM} {Q : Option jV → jM → Prop}
theorem BdM.anw {k : Nat × Nat} {len : Nat} (h : BdM n w V D M0 M) (hk : K1 n = k) : BdM (n + 1) (w + len) V D M0 (nw M k len) := by
  obtain ⟨h1, h2, h3, h4, h5, h6, h7, h8, h9, h10⟩ := h
  have ek : ∀ r, kd (nw M k len) r = if r = n then k else kd M r := fun r => by rw [← h1]; rfl
  have ei : ∀ r i, iv (nw M k len) r i = if r = n then 0 else iv M r i := fun r i => by rw [← h1]; rfl
  have er : ∀ r i, rv (nw M k len) r i = if r = n then 0 else rv M r i := fun r i => by rw [← h1]; rfl
  refine ⟨by rw [← h1]; rfl, by rw [← h2]; rfl, by omega, fun r hr => ⟨by rw [ek, if_neg (by omega)]; exact (h4 r hr).1, ?_⟩, fun r r6 hr => ?_, fun r i r6 hr hs => ?_, fun q hq => ?_, fun a j hD => by have := h8 a j hD; omega, fun a j v hD hR => ?_, fun a j a6 ha hR => ?_⟩
  · funext i
    rw [ei, if_neg (by omega), (h4 r hr).2]
  · rw [ek]
    by_cases c : r = n
    · rw [if_pos c, c]; exact hk.symm
    · rw [if_neg c]; exact h5 r r6 (by omega)
  · rw [ei]
    by_cases c : r = n
    · rw [if_pos c]
    · rw [if_neg c]; exact h6 r i r6 (by omega) hs
  · obtain ⟨q1, q2, q3⟩ := h7 q hq
    exact ⟨by omega, q2, by rw [ei, if_neg (by omega)]; exact q3⟩
  · have := h8 a j hD
    rw [er, if_neg (by omega)]
    exact h9 a j v hD hR
  · rw [er]
    by_cases c : a = n
    · rw [if_pos c]
    · rw [if_neg c]; exact h10 a j a6 (by omega) hR
theorem BdM.asr {a j v : Nat} (h : BdM n w V D M0 M) (ha : a < n) (hr : R1 a j = some v) : BdM n w V (adD D a j) M0 (sr M a j v) := by
  obtain ⟨h1, h2, h3, h4, h5, h6, h7, h8, h9, h10⟩ := h
  refine ⟨h1, h2, h3, h4, h5, h6, h7, fun x y hD => ?_, fun x y u hD hR => ?_, fun x y x6 hx hR => ?_⟩
  · rcases adD_t.mp hD with z | ⟨z, _⟩
    · exact h8 x y z
    · omega
  · show (if x = a ∧ y = j then v else rv M x y) = u
    by_cases c : x = a ∧ y = j
    · rw [if_pos c]
      rw [c.1, c.2, hr] at hR
      exact Option.some.inj hR
    · rw [if_neg c]
      rcases adD_t.mp hD with z | z
      · exact h9 x y u z hR
      · exact absurd z c
  · show (if x = a ∧ y = j then v else rv M x y) = 0
    rw [if_neg (fun c => by rw [c.1, c.2, hr] at hR; exact absurd hR (by simp))]
    exact h10 x y x6 hx hR
theorem BdM.asi {r i : Nat} {v : Int} (h : BdM n w V D M0 M) (hr : r < n) (hs : SpR r i = true) (h6 : 6 ≤ r) (hV : ∀ q, q ∈ V → ¬ (q.1 = r ∧ q.2.1 = i)) : BdM n w ((r, i, v) :: V) D M0 (si M r i v) := by
  obtain ⟨h1, h2, h3, h4, h5, g6, h7, h8, h9, h10⟩ := h
  have ei : ∀ x y, iv (si M r i v) x y = if x = r ∧ y = i then v else iv M x y := fun x y => rfl
  refine ⟨h1, h2, h3, fun x hx => ⟨(h4 x hx).1, ?_⟩, h5, fun x y x6 hx hS => ?_, fun q hq => ?_, h8, h9, h10⟩
  · funext y
    rw [ei, if_neg (by omega), (h4 x hx).2]
  · rw [ei]
    by_cases c : x = r ∧ y = i
    · rw [c.1, c.2, hs] at hS
      exact absurd hS (by decide)
    · rw [if_neg c]; exact g6 x y x6 hx hS
  · rcases List.mem_cons.mp hq with z | z
    · rw [z]
      exact ⟨hr, hs, by rw [ei, if_pos ⟨rfl, rfl⟩]⟩
    · obtain ⟨q1, q2, q3⟩ := h7 q z
      exact ⟨q1, q2, by rw [ei, if_neg (hV q z)]; exact q3⟩
theorem BdM.ob {a c : Nat} (h : BdM n w V D M0 M) (ha : 6 ≤ a ∧ a < n) (hk : K1 a = (c, 0)) : jobj M c a = true := jobj_of (by omega) (by have := h.1; omega) (by rw [h.2.2.2.2.1 a ha.1 ha.2, hk])
theorem g_arr {m : jMe} {pc pc1 a i c j t len : Nat} {z : Int} {ls : jLs} (h : BdM n w V D M0 M) (hstep : Run d m pc1 ls [vR (mx M), vR a] (nw M (t, len) len) Q → Run d m pc ls [vI z, vR a] M Q) (dp : decode m.2.2.1 pc1 = .ok (.putfield i, 3)) (hf : lkF m.1 i = some (c, j, 2)) (hc : m.1 = c) (hi : m.2.1.name = "<init>") (hK : K1 n = (t, len)) (hr : R1 a j = some n) (ha : 6 ≤ a ∧ a < n) (hka : K1 a = (c, 0)) (k : ∀ M2, BdM (n + 1) (w + len) V (adD D a j) M0 M2 → Run d m (pc1 + 3) ls [] M2 Q) : Run d m pc ls [vI z, vR a] M Q := by
  have b := h.anw (len := len) hK
  refine hstep (r_put2 dp hf (b.ob ⟨ha.1, by omega⟩ hka) (Or.inr ⟨hc, hi⟩) ?_)
  rw [h.1]
  exact k _ (b.asr (by omega) hr)
theorem g_int {m : jMe} {pc a i c j : Nat} {z : Int} {ls : jLs} (h : BdM n w V D M0 M) (dp : decode m.2.2.1 pc = .ok (.putfield i, 3)) (hf : lkF m.1 i = some (c, j, 0)) (hc : m.1 = c) (hi : m.2.1.name = "<init>") (ha : 6 ≤ a ∧ a < n) (hka : K1 a = (c, 0)) (hs : SpR a j = true) (hV : ∀ q, q ∈ V → ¬ (q.1 = a ∧ q.2.1 = j)) (k : ∀ M2, BdM n w ((a, j, z) :: V) D M0 M2 → Run d m (pc + 3) ls [] M2 Q) : Run d m pc ls [vI z, vR a] M Q :=
  r_put0 dp hf (h.ob ha hka) (Or.inr ⟨hc, hi⟩) (k _ (h.asi ha.2 hs ha.1 hV))
theorem g_new {m cal : jMe} {pc a i i2 i3 c c2 j s n2 w2 : Nat} {V2 : List (Nat × Nat × Int)} {D2 : Nat → Nat → Bool} {ls : jLs} (h : BdM n w V D M0 M) (dn : decode m.2.2.1 pc = .ok (.new i, 3)) (hn : lkN m.1 i = some c2) (du : decode m.2.2.1 (pc + 3) = .ok (.dup, 1)) (di : decode m.2.2.1 (pc + 4) = .ok (.invokespecial i2, 3)) (hz : lkO m.1 i2 = false) (hm : lkM m.1 i2 = some (1, cal, 0)) (h99 : cal.1 ≠ 99) (hcc : cal.1 = c2) (hnm : cal.2.1.name = "<init>") (hml : 1 ≤ cal.2.2.2.1) (hK : K1 n = (c2, 0)) (hs : jslots c2 = s)
    (call : ∀ (N : jM) (P : Option jV → jM → Prop), BdM (n + 1) (w + s) V D M0 N → (∀ M2, BdM n2 w2 V2 D2 M0 M2 → P none M2) → Call d cal [vR n] N P) (hn2 : n ≤ n2) (dp : decode m.2.2.1 (pc + 7) = .ok (.putfield i3, 3)) (hf : lkF m.1 i3 = some (c, j, 2)) (hc : m.1 = c) (hi : m.2.1.name = "<init>") (hr : R1 a j = some n) (ha : 6 ≤ a ∧ a < n) (hka : K1 a = (c, 0)) (k : ∀ M2, BdM n2 w2 V2 (adD D2 a j) M0 M2 → Run (d + 1) m (pc + 10) ls [] M2 Q) : Run (d + 1) m pc ls [vR a] M Q := by
  have b := h.anw (len := jslots c2) hK
  have e := h.1
  refine r_new dn hn ?_
  refine r_dupR du ?_
  rw [e]
  have o : jobj (nw M (c2, 0) (jslots c2)) cal.1 n = true := by
    rw [hcc]
    exact b.ob ⟨by omega, by omega⟩ hK
  refine r_invI di hz hm h99 (Nat.zero_le _) (as := []) (q := [vR n, vR a]) rfl rfl (Nat.le_of_ble_eq_true rfl) hml o hnm ?_
  rw [hs] at b
  rw [hs]
  refine call _ _ b (fun M2 b2 => ?_)
  show Run (d + 1) m (pc + 7) ls [vR n, vR a] M2 Q
  exact r_put2 dp hf (b2.ob ⟨ha.1, by omega⟩ hka) (Or.inr ⟨hc, hi⟩) (k _ (b2.asr (by omega) hr))
end Build
/-- a state's fields -/
def stDD (D : Nat → Nat → Bool) (a : Nat) : Nat → Nat → Bool := adD (adD (adD (adD (adD (adD (adD D a 0) a 1) a 2) a 3) a 4) a 5) a 6
theorem st_R {a j : Nat} (ha : isSt a = true) (hj : j < 7) : R1 a j = some (a + 1 + j) := by
  unfold R1
  rw [if_pos ha, if_pos hj]
