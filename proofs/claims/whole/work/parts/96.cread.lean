/-! THE CLASS reads: the tape, numbers, what is kept of the code -/
def OKT (T : jT) : Prop := T.2 ≤ 240 ∧ ∀ i, i < T.2 → 1 ≤ T.1 i ∧ T.1 i ≤ 255
def KT (M : jM) (T : jT) : Prop := iv M 7 1 = (T.2 : Int) ∧ T.2 ≤ 240 ∧ ∀ i, i < T.2 → iv M 8 i = T.1 i
def KN (M M' : jM) : Prop := Fr (fun r => r = 7) M M' ∧ ∀ i, i ≠ 2 → iv M' 7 i = iv M 7 i
def K3 (M M' : jM) : Prop := Fr (fun r => r = 7) M M' ∧ ∀ i, i ≠ 2 → i ≠ 3 → iv M' 7 i = iv M 7 i
def KF (M M' : jM) : Prop := Fr (fun r => r = 7 ∨ r = 20 ∨ r = 21 ∨ r = 22) M M' ∧ (∀ i, i ≠ 2 → i ≠ 3 → iv M' 7 i = iv M 7 i) ∧ (∀ i, i ≠ 2 → iv M' 20 i = iv M 20 i)
def nmT (T : jT) (m a : Nat) : Nat ⊕ (Nat × Int) := if fDg (nxT T a) = 1 then dgF T m (skT T a) 0 else .inl (skT T a)
section CRead
variable {d : Nat} {M M1 M2 N : jM} {Q : Option jV → jM → Prop} {T : jT} {a a' n : Nat} {l l' : List (Int × Int)}
theorem KN.refl : KN M M := ⟨Fr.refl, fun _ _ => rfl⟩
theorem KN.trans (h : KN M M1) (k : KN M1 M2) : KN M M2 := ⟨h.1.trans k.1, fun i hi => (k.2 i hi).trans (h.2 i hi)⟩
theorem KN.k3 (h : KN M M1) : K3 M M1 := ⟨h.1, fun i hi _ => h.2 i hi⟩
theorem K3.trans (h : K3 M M1) (k : K3 M1 M2) : K3 M M2 := ⟨h.1.trans k.1, fun i hi hj => (k.2 i hi hj).trans (h.2 i hi hj)⟩
theorem K3.kf (h : K3 M M1) : KF M M1 := ⟨h.1.mono (fun r hr => Or.inl hr), h.2, fun i _ => by rw [h.1.eiv (by decide)]⟩
theorem KN.kf (h : KN M M1) : KF M M1 := h.k3.kf
theorem KF.refl : KF M M := ⟨Fr.refl, fun _ _ _ => rfl, fun _ _ => rfl⟩
theorem KF.trans (h : KF M M1) (k : KF M1 M2) : KF M M2 := ⟨h.1.trans k.1, fun i hi hj => (k.2.1 i hi hj).trans (h.2.1 i hi hj), fun i hi => (k.2.2 i hi).trans (h.2.2 i hi)⟩
theorem KF.shp (h : KF M M1) (hS : Shp M) : Shp M1 := h.1.shp hS
theorem KT.kf (h : KT M T) (k : KF M M1) : KT M1 T := ⟨by rw [k.2.1 1 (by decide) (by decide)]; exact h.1, h.2.1, fun i hi => by rw [k.1.eiv (by decide)]; exact h.2.2 i hi⟩
theorem KN.si {v : Int} (h : KN M M1) (hN : N = si M1 7 2 v) : KN M N := ⟨by rw [hN]; exact h.1.ps rfl, fun i hi => by rw [hN, iv_si, if_neg (by omega)]; exact h.2 i hi⟩
theorem K3.si {v : Int} (h : K3 M M1) (hN : N = si M1 7 3 v) : K3 M N := ⟨by rw [hN]; exact h.1.ps rfl, fun i hi hj => by rw [hN, iv_si, if_neg (by omega)]; exact h.2 i hi hj⟩
theorem KF.si3 {v : Int} (h : KF M M1) (hN : N = si M1 7 3 v) : KF M N := h.trans (K3.kf (K3.si KN.refl.k3 hN))
theorem step_e {p : Nat} (hT : KT M T) (hp : iv M 7 2 = (p : Int)) (hl : p < T.2) : (if iv M 7 2 < iv M 7 1 then w32 (iv M 7 2 + 1) else iv M 7 2) = ((p + 1 : Nat) : Int) := by
  have := hT.1
  have := hT.2.1
  rw [if_pos (by omega), hp, w32s (by omega)]
theorem hr_e {p : Nat} (hT : KT M T) (hp : iv M 7 2 = (p : Int)) : (if iv M 7 1 ≤ iv M 7 2 then (-1 : Int) else atv M 240 8 (iv M 7 2)) = hrT T p := by
  have h1 := hT.1
  have h2 := hT.2.1
  unfold hrT
  rw [h1, hp]
  by_cases c : p < T.2
  · rw [if_neg (by omega), if_pos c, atv_n (by omega : p < 240)]
    exact hT.2.2 p c
  · rw [if_pos (by omega), if_neg c]
theorem c_next (hd : 5 ≤ d) (hS : Shp M) (hT : KT M T) (ha : iv M 7 2 = (a : Int)) (h : ∀ M', KN M M' → iv M' 7 2 = ((skT T a : Nat) : Int) → Q (some (vI (nxT T a))) M') : Call d mX8_next [vR 7] M Q := by
  obtain ⟨e, rfl⟩ := dd (d := d) (by omega)
  show Run (e + 1) mX8_next 0 [some (vR 7)] [] M Q
  have key : ∀ f a M1, T.2 - a ≤ f → KN M M1 → iv M1 7 2 = (a : Int) → (∀ M', KN M M' → iv M' 7 2 = ((skT T a : Nat) : Int) → Q (some (vI (nxT T a))) M') → Run (e + 1) mX8_next 0 [some (vR 7)] [] M1 Q := by
    intro f
    induction f with
    | zero =>
      intro a M1 hf k1 ha h
      have T1 := hT.kf k1.kf
      obtain ⟨z1, z2⟩ := nxT_end (T := T) (a := a) (by omega)
      have h0 := h M1 k1 (by rw [z2]; exact ha)
      rw [z1] at h0
      refine vk_next_0 (by omega) (k1.1.shp hS) ⟨fun _ v hv => ?_, fun c => absurd (by have := T1.1; omega) c⟩
      rw [hv, hr_e T1 ha, hrT_end (by omega)]
      exact h0
    | succ f ih =>
      intro a M1 hf k1 ha h
      have T1 := hT.kf k1.kf
      have hx := hr_e T1 ha
      have fin : hrT T a ≠ 32 → ∀ v, v = (if iv M1 7 1 ≤ iv M1 7 2 then (-1 : Int) else atv M1 240 8 (iv M1 7 2)) → Q (some (vI v)) M1 := by
        intro c v hv
        rw [hv, hx]
        have e1 : skT T a = a := skT_n c
        have e2 : nxT T a = hrT T a := by unfold nxT; rw [e1]
        rw [← e2]
        exact h M1 k1 (by rw [e1]; exact ha)
      refine vk_next_0 (by omega) (k1.1.shp hS) ⟨fun c => fin ?_, fun c => ⟨fun c2 => fin ?_, fun c2 N hN _ => ?_⟩⟩
      · rw [← hx, if_pos c]; decide
      · rw [← hx, if_neg c]; exact c2
      · rw [if_neg c] at hx
        have hx : hrT T a = 32 := by rw [← hx]; exact Classical.not_not.mp c2
        have hl : a < T.2 := by
          have := T1.1
          omega
        have := T1.2.1
        rw [ha, w32s (by omega)] at hN
        have e1 : skT T a = skT T (a + 1) := skT_y hx
        refine ih (a + 1) N (by omega) (k1.si hN) (by rw [hN, iv_si, if_pos ⟨rfl, rfl⟩]) (fun M' k' e' => ?_)
        have := h M' k' (by rw [e1]; exact e')
        unfold nxT at this ⊢
        rw [e1] at this
        exact this
  exact key _ a M (Nat.le_refl _) KN.refl ha h
theorem c_take {c : Int} (hd : 6 ≤ d) (hS : Shp M) (hT : KT M T) (ha : iv M 7 2 = (a : Int)) (hc : c ≠ -1) (hy : nxT T a = c → ∀ M', KN M M' → iv M' 7 2 = ((skT T a + 1 : Nat) : Int) → Q (some (vI 1)) M') (hn : nxT T a ≠ c → ∀ M', KN M M' → iv M' 7 2 = ((skT T a : Nat) : Int) → Q (some (vI 0)) M') : Call d mX8_take [vR 7, vI c] M Q := by
  obtain ⟨e, rfl⟩ := dd (d := d) (by omega)
  refine vk_take (by omega) hS (c_next (by omega) hS hT ha (fun M2 k2 e2 => ⟨_, rfl, k2.1.shp hS, fun z N hN _ => ?_, fun z => hn z M2 k2 e2⟩))
  have hl : skT T a < T.2 := nxT_lt (by rw [z]; exact hc)
  rw [step_e (hT.kf k2.kf) e2 hl] at hN
  exact hy z N (k2.si hN) (by rw [hN, iv_si, if_pos ⟨rfl, rfl⟩])
theorem fDg_0 {c : Int} : fDg c = 0 ↔ ¬ fDg c = 1 := by
  unfold fDg
  split <;> simp
theorem c_number {m : Nat} (hd : 6 ≤ d) (hS : Shp M) (hT : KT M T) (ha : iv M 7 2 = (a : Int)) (hm : m ≤ 4) (hy : ∀ q v, nmT T m a = .inr (q, v) → ∀ M', K3 M M' → iv M' 7 2 = (q : Nat) → iv M' 7 3 = iv M 7 3 → Q (some (vI v)) M') (hn : ∀ w, nmT T m a = .inl w → ∀ M', K3 M M' → iv M' 7 3 = (w : Nat) → Q (some (vI (-1))) M') : Call d mX8_number [vR 7, vI (m : Int)] M Q := by
  obtain ⟨e, rfl⟩ := dd (d := d) (by omega)
  refine vk_number (by omega) hS (c_next (by omega) hS hT ha (fun M2 k2 e2 => ⟨_, rfl, k2.1.shp hS, fun z => ?_, fun z N hN _ => ?_⟩))
  · have hg : fDg (nxT T a) = 1 := by
      by_cases y : fDg (nxT T a) = 1
      · exact y
      · exact absurd (fDg_0.mpr y) z
    unfold nmT at hy hn
    rw [if_pos hg] at hy hn
    have key : ∀ (k i p : Nat) (v : Int) M1, i + k = m → KN M M1 → iv M1 7 2 = (p : Int) → p ≤ 241 → 0 ≤ v → (v + 1) * ((10 ^ k : Nat) : Int) ≤ 10000 → (∀ q w, dgF T k p v = .inr (q, w) → dgF T m (skT T a) 0 = .inr (q, w)) → (∀ w, dgF T k p v = .inl w → dgF T m (skT T a) 0 = .inl w) → Run (e + 1) mX8_number 21 [some (vR 7), some (vI (m : Int)), some (vI v), some (vI (i : Int))] [] M1 Q := by
      intro k
      induction k with
      | zero =>
        intro i p v M1 hi k1 e1 hp hv0 hv g1 g2
        have T1 := hT.kf k1.kf
        have hx := hr_e T1 e1
        simp only [dgF] at g1 g2
        refine vk_number_21 (by omega) (k1.1.shp hS) ⟨fun c => ?_, fun c => ⟨fun c2 => ?_, fun c2 => ⟨fun c3 => absurd (by omega) c3, fun c3 N hN _ => ?_⟩⟩⟩
        · rw [if_pos c] at hx
          rw [if_neg (by rw [← hx]; decide)] at g1
          exact hy p v (g1 p v rfl) M1 k1.k3 e1 (k1.2 3 (by decide))
        · rw [if_neg c] at hx
          rw [hx, fDg_0] at c2
          rw [if_neg c2] at g1
          exact hy p v (g1 p v rfl) M1 k1.k3 e1 (k1.2 3 (by decide))
        · rw [if_neg c] at hx
          rw [hx, fDg_0, Classical.not_not] at c2
          rw [if_pos c2] at g2
          refine hn p (g2 p rfl) N (k1.k3.si hN) ?_
          rw [hN, iv_si, if_pos ⟨rfl, rfl⟩]; exact e1
      | succ k ih =>
        intro i p v M1 hi k1 e1 hp hv0 hv g1 g2
        have T1 := hT.kf k1.kf
        have hx := hr_e T1 e1
        have hpw : (1 : Int) ≤ ((10 ^ (k + 1) : Nat) : Int) := by
          have : 0 < 10 ^ (k + 1) := Nat.pow_pos (by decide)
          omega
        have hv2 := Int.mul_le_mul_of_nonneg_left hpw (show 0 ≤ v + 1 by omega)
        simp only [dgF] at g1 g2
        refine vk_number_21 (by omega) (k1.1.shp hS) ⟨fun c => ?_, fun c => ⟨fun c2 => ?_, fun c2 => ⟨fun c3 v14 h14 N hN _ => ?_, fun c3 => absurd (by omega) c3⟩⟩⟩
        · rw [if_pos c] at hx
          rw [if_neg (by rw [← hx]; decide)] at g1
          exact hy p v (g1 p v rfl) M1 k1.k3 e1 (k1.2 3 (by decide))
        · rw [if_neg c] at hx
          rw [hx, fDg_0] at c2
          rw [if_neg c2] at g1
          exact hy p v (g1 p v rfl) M1 k1.k3 e1 (k1.2 3 (by decide))
        · rw [if_neg c] at hx
          rw [hx, fDg_0, Classical.not_not] at c2
          rw [if_pos c2] at g1 g2
          have hdg := fDg_1.mp c2
          have hl : p < T.2 := by have := T1.1; omega
          have := T1.2.1
          have e14 : v14 = 10 * v + hrT T p - 48 := by
            rw [h14, hx, w32_i (z := v * 10) (by omega) (by omega), w32_i (z := v * 10 + hrT T p) (by omega) (by omega), w32_i (by omega) (by omega)]
            omega
          rw [e1, w32s (by omega)] at hN
          rw [w32s (by omega), e14]
          refine ih (i + 1) (p + 1) _ N (by omega) (k1.si hN) (by rw [hN, iv_si, if_pos ⟨rfl, rfl⟩]) (by omega) (by omega) ?_ g1 g2
          have e : (v + 1) * ((10 ^ (k + 1) : Nat) : Int) = (10 * v + 10) * ((10 ^ k : Nat) : Int) := by
            rw [Nat.pow_succ, Int.natCast_mul]
            rw [show (10 * v + 10) = (v + 1) * 10 by omega, Int.mul_assoc, Int.mul_comm ((10 ^ k : Nat) : Int)]
            rfl
          rw [e] at hv
          refine Int.le_trans (Int.mul_le_mul_of_nonneg_right (by omega) (Int.natCast_nonneg _)) hv
    have hl : skT T a < T.2 := nxT_lt (fun y => by rw [y] at hg; exact absurd hg (by decide))
    have := hT.2.1
    refine key m 0 (skT T a) 0 M2 (by omega) k2 e2 (by omega) (Int.le_refl _) ?_ (fun q w g => g) (fun w g => g)
    have : (10 : Nat) ^ m ≤ 10 ^ 4 := Nat.pow_le_pow_right (by decide) hm
    have h4 : (10 : Nat) ^ 4 = 10000 := rfl
    omega
  · have hg : ¬ fDg (nxT T a) = 1 := fun y => z (by rw [y]; decide)
    unfold nmT at hn
    rw [if_neg hg] at hn
    refine hn _ rfl N (k2.k3.si hN) ?_
    rw [hN, iv_si, if_pos ⟨rfl, rfl⟩]
    exact e2
/-- from n signs of code on, l more of them, and a place -/
def KA (M M' : jM) (n a : Nat) (l : List (Int × Int)) : Prop := KF M M' ∧ iv M' 7 2 = (a : Int) ∧ iv M' 7 3 = iv M 7 3 ∧ iv M' 20 2 = ((n + l.length : Nat) : Int) ∧ (∀ j, j < n → iv M' 21 j = iv M 21 j ∧ iv M' 22 j = iv M 22 j) ∧ RowL (iv M' 21) (iv M' 22) n l
theorem KA.start (ha : iv M 7 2 = (a : Int)) (hn : iv M 20 2 = (n : Int)) : KA M M n a [] := ⟨KF.refl, ha, rfl, hn, fun _ _ => ⟨rfl, rfl⟩, trivial⟩
theorem KA.trans (h : KA M M1 n a l) (k : KA M1 M2 (n + l.length) a' l') : KA M M2 n a' (l ++ l') := by
  obtain ⟨h1, h2, h3, h4, h5, h6⟩ := h
  obtain ⟨k1, k2, k3, k4, k5, k6⟩ := k
  refine ⟨h1.trans k1, k2, k3.trans h3, by rw [k4, List.length_append, Nat.add_assoc], fun j hj => ?_, (h6.cg (fun j g1 g2 => k5 j g2)).app k6⟩
  obtain ⟨q1, q2⟩ := k5 j (by omega)
  obtain ⟨p1, p2⟩ := h5 j hj
  exact ⟨q1.trans p1, q2.trans p2⟩
theorem KA.next (h : KA M M1 n a l) (k : KN M1 M2) (e : iv M2 7 2 = (a' : Int)) : KA M M2 n a' l := by
  obtain ⟨h1, h2, h3, h4, h5, h6⟩ := h
  refine ⟨h1.trans k.kf, e, (k.2 3 (by decide)).trans h3, by rw [k.1.eiv (by decide)]; exact h4, fun j hj => by rw [k.1.eiv (by decide), k.1.eiv (by decide)]; exact h5 j hj, by rw [k.1.eiv (by decide), k.1.eiv (by decide)]; exact h6⟩
theorem KA.k3 (h : KA M M1 n a l) (k : K3 M1 M2) (e : iv M2 7 2 = (a' : Int)) (e3 : iv M2 7 3 = iv M1 7 3) : KA M M2 n a' l := by
  obtain ⟨h1, h2, h3, h4, h5, h6⟩ := h
  refine ⟨h1.trans k.kf, e, e3.trans h3, by rw [k.1.eiv (by decide)]; exact h4, fun j hj => by rw [k.1.eiv (by decide), k.1.eiv (by decide)]; exact h5 j hj, by rw [k.1.eiv (by decide), k.1.eiv (by decide)]; exact h6⟩
theorem KA.pos {v : Int} (h : KA M M1 n a l) (hN : N = si M1 7 2 v) (hv : v = (a' : Int)) : KA M N n a' l := h.next (KN.refl.si hN) (by rw [hN, iv_si, if_pos ⟨rfl, rfl⟩]; exact hv)
theorem KA.add {sg x : Int} (h : KA M M1 n a l) (hb : n + l.length < 240) (hN : N = si (ptv (ptv M1 240 21 (iv M1 20 2) sg) 240 22 (iv M1 20 2) x) 20 2 (w32 (iv M1 20 2 + 1))) : KA M N n a (l ++ [(sg, x)]) := by
  have h4 := h.2.2.2.1
  rw [h4, w32s (by omega)] at hN
  have e7 : ∀ i, iv N 7 i = iv M1 7 i := fun i => by rw [hN, iv_si, if_neg (by omega), iv_ptv, if_neg (by omega), iv_ptv, if_neg (by omega)]
  have e21 : ∀ j, iv N 21 j = if j = n + l.length then sg else iv M1 21 j := fun j => by
    rw [hN, iv_si, if_neg (by omega), iv_ptv, if_neg (by omega), iv_ptv]
    by_cases c : j = n + l.length
    · rw [if_pos c, if_pos ⟨rfl, by omega, by omega⟩]
    · rw [if_neg c, if_neg (by omega)]
  have e22 : ∀ j, iv N 22 j = if j = n + l.length then x else iv M1 22 j := fun j => by
    rw [hN, iv_si, if_neg (by omega), iv_ptv]
    by_cases c : j = n + l.length
    · rw [if_pos c, if_pos ⟨rfl, by omega, by omega⟩]
    · rw [if_neg c, if_neg (by omega), iv_ptv, if_neg (by omega)]
  have e20 : ∀ i, i ≠ 2 → iv N 20 i = iv M1 20 i := fun i hi => by rw [hN, iv_si, if_neg (by omega), iv_ptv, if_neg (by omega), iv_ptv, if_neg (by omega)]
  refine h.trans ⟨⟨?_, fun i _ _ => e7 i, e20⟩, by rw [e7]; exact h.2.1, e7 3, by rw [hN, iv_si, if_pos ⟨rfl, rfl⟩]; rfl, fun j hj => ?_, ?_, ?_, trivial⟩
  · rw [hN]
    exact ((Fr.refl.pv (Or.inr (Or.inr (Or.inl rfl)))).pv (Or.inr (Or.inr (Or.inr rfl)))).ps (Or.inr (Or.inl rfl))
  · rw [e21, e22, if_neg (by omega), if_neg (by omega)]
    exact ⟨rfl, rfl⟩
  · rw [e21, if_pos rfl]
  · rw [e22, if_pos rfl]
/-- what a reader of the class comes to -/
def KO (M M' : jM) (n : Nat) (r : jR) (b : Int) : Prop := match r with
  | .inl w => b = 0 ∧ KF M M' ∧ iv M' 7 3 = (w : Int)
  | .inr (q, l) => b = 1 ∧ KA M M' n q l
def CP (T : jT) (d : Nat) (me : jMe) (as : List jV) (s : Nat → jR) : Prop := ∀ (k : Nat) (M : jM) (Q : Option jV → jM → Prop) (a n : Nat), d ≤ k → Shp M → KT M T → iv M 7 2 = (a : Int) → a ≤ T.2 → iv M 20 2 = (n : Int) → n ≤ a → (∀ M' b, KO M M' n (s a) b → Q (some (vI b)) M') → Call k me as M Q
theorem KO.lft {w : Nat} {b : Int} (h : KO M M1 n (.inl w) b) : b = 0 ∧ KF M M1 ∧ iv M1 7 3 = (w : Int) := h
theorem KO.rgt {q : Nat} {b : Int} (h : KO M M1 n (.inr (q, l)) b) : b = 1 ∧ KA M M1 n q l := h
theorem KO.kf {r : jR} {b : Int} (h : KO M M1 n r b) : KF M M1 := by
  revert h
  cases r with
  | inl w => exact fun h => h.2.1
  | inr x => exact fun h => h.2.1
end CRead
