/-! THE MODEL reads: the tape, numbers, what is kept of the code -/
def MT (M : jM) (T : jT) : Prop := iv M 468 2 = (T.2 : Int) ∧ T.2 ≤ 240 ∧ ∀ i, i < T.2 → iv M 469 i = T.1 i
def MN (M M' : jM) : Prop := Fr (fun r => r = 468) M M' ∧ ∀ i, i ≠ 3 → iv M' 468 i = iv M 468 i
def MF (t : Nat) (M M' : jM) : Prop := Fr (fun r => r = 468 ∨ r = 470 ∨ r = 471 ∨ r = 472) M M' ∧ (∀ i, i ≠ 3 → i ≠ 4 → i ≠ 5 → iv M' 468 i = iv M 468 i) ∧ (∀ i, i ≠ t → iv M' 472 i = iv M 472 i) ∧ ∀ i, (i < 520 * t ∨ 520 * t + 520 ≤ i) → iv M' 470 i = iv M 470 i ∧ iv M' 471 i = iv M 471 i
/-- from n signs of code on, l more of them, and a place -/
def MA (t n dp : Nat) (M M' : jM) (a : Nat) (l : List (Int × Int)) : Prop := MF t M M' ∧ (iv M' 468 3 = (a : Int) ∧ iv M' 468 4 = -1 ∧ iv M' 468 5 = (dp : Int)) ∧ iv M' 472 t = ((n + l.length : Nat) : Int) ∧ (∀ j, j < n → iv M' 470 (520 * t + j) = iv M 470 (520 * t + j) ∧ iv M' 471 (520 * t + j) = iv M 471 (520 * t + j)) ∧ RowL (mSg M' t) (mVl M' t) n l ∧ ∀ j, n ≤ j → j < n + l.length → 0 ≤ iv M' 470 (520 * t + j) ∧ iv M' 470 (520 * t + j) ≤ 11
/-- a fault is told; so many signs of code may still come behind it -/
def MB (t n a dp : Nat) (M M' : jM) (w s : Nat) : Prop := MF t M M' ∧ iv M' 468 4 = (w : Int) ∧ ∃ c p dq : Nat, iv M' 472 t = (c : Int) ∧ iv M' 468 3 = (p : Int) ∧ iv M' 468 5 = (dq : Int) ∧ c + a + s ≤ p + n ∧ p + dq ≤ 255 ∧ dp ≤ dq
def MO (t n a dp : Nat) (M M' : jM) (r : jR) : Prop := match r with
  | .inl w => MB t n a dp M M' w 0
  | .inr (q, l) => MA t n dp M M' q l
section MRead
variable {d : Nat} {M M1 M2 N : jM} {Q : Option jV → jM → Prop} {T : jT} {a a' n t dp w s : Nat} {l l' : List (Int × Int)}
theorem MN.refl : MN M M := ⟨Fr.refl, fun _ _ => rfl⟩
theorem MN.trans (h : MN M M1) (k : MN M1 M2) : MN M M2 := ⟨h.1.trans k.1, fun i hi => (k.2 i hi).trans (h.2 i hi)⟩
theorem MF.refl : MF t M M := ⟨Fr.refl, fun _ _ _ _ => rfl, fun _ _ => rfl, fun _ _ => ⟨rfl, rfl⟩⟩
theorem MF.trans (h : MF t M M1) (k : MF t M1 M2) : MF t M M2 := ⟨h.1.trans k.1, fun i h3 h4 h5 => (k.2.1 i h3 h4 h5).trans (h.2.1 i h3 h4 h5), fun i hi => (k.2.2.1 i hi).trans (h.2.2.1 i hi), fun i hi => ⟨(k.2.2.2 i hi).1.trans (h.2.2.2 i hi).1, (k.2.2.2 i hi).2.trans (h.2.2.2 i hi).2⟩⟩
theorem MF.shp (h : MF t M M1) (hS : Shp M) : Shp M1 := h.1.shp hS
theorem MF.mt (h : MF t M M1) (hT : MT M T) : MT M1 T := ⟨by rw [h.2.1 2 (by decide) (by decide) (by decide)]; exact hT.1, hT.2.1, fun i hi => by rw [h.1.eiv (by decide)]; exact hT.2.2 i hi⟩
/-- small steps: the tape's place, the fault, the depth -/
def M5 (M M' : jM) : Prop := Fr (fun r => r = 468) M M' ∧ ∀ i, i ≠ 3 → i ≠ 4 → i ≠ 5 → iv M' 468 i = iv M 468 i
theorem M5.mf (h : M5 M M1) : MF t M M1 := ⟨h.1.mono (fun r hr => Or.inl hr), h.2, fun i _ => by rw [h.1.eiv (by decide)], fun i _ => by rw [h.1.eiv (by decide), h.1.eiv (by decide)]; exact ⟨rfl, rfl⟩⟩
theorem MN.m5 (h : MN M M1) : M5 M M1 := ⟨h.1, fun i h3 _ _ => h.2 i h3⟩
theorem M5.refl : M5 M M := MN.refl.m5
theorem M5.trans (h : M5 M M1) (k : M5 M1 M2) : M5 M M2 := ⟨h.1.trans k.1, fun i h3 h4 h5 => (k.2 i h3 h4 h5).trans (h.2 i h3 h4 h5)⟩
theorem M5.si {i : Nat} {v : Int} (h : M5 M M1) (hN : N = si M1 468 i v) (hi : i = 3 ∨ i = 4 ∨ i = 5) : M5 M N := ⟨by rw [hN]; exact h.1.ps rfl, fun j h3 h4 h5 => by rw [hN, iv_si, if_neg (by omega)]; exact h.2 j h3 h4 h5⟩
theorem MN.si {v : Int} (h : MN M M1) (hN : N = si M1 468 3 v) : MN M N := ⟨by rw [hN]; exact h.1.ps rfl, fun j h3 => by rw [hN, iv_si, if_neg (by omega)]; exact h.2 j h3⟩
theorem si_at {r i : Nat} {v : Int} (hN : N = si M1 r i v) : iv N r i = v := by rw [hN, iv_si, if_pos ⟨rfl, rfl⟩]
theorem si_ne {r i : Nat} {v : Int} (hN : N = si M1 r i v) {j : Nat} (h : j ≠ i) : iv N r j = iv M1 r j := by rw [hN, iv_si, if_neg (by omega)]
theorem mhr_e {p : Nat} (hT : MT M T) (hp : iv M 468 3 = (p : Int)) : (if iv M 468 2 ≤ iv M 468 3 then (-1 : Int) else iv M 469 (iv M 468 3).toNat) = hrT T p := by
  have h1 := hT.1
  have h2 := hT.2.1
  unfold hrT
  rw [h1, hp]
  by_cases c : p < T.2
  · rw [if_neg (by omega), if_pos c, Int.toNat_natCast]
    exact hT.2.2 p c
  · rw [if_pos (by omega), if_neg c]
theorem m_look (hd : 7 ≤ d) (hS : Shp M) (hT : MT M T) (ha : iv M 468 3 = (a : Int)) (h : ∀ M', MN M M' → iv M' 468 3 = ((skT T a : Nat) : Int) → Q (some (vI (nxT T a))) M') : Call d mX11_look [vR 468] M Q := by
  obtain ⟨e, rfl⟩ := dd (d := d) (by omega)
  show Run (e + 1) mX11_look 0 [some (vR 468)] [] M Q
  have key : ∀ f a M1, T.2 - a ≤ f → MN M M1 → iv M1 468 3 = (a : Int) → (∀ M', MN M M' → iv M' 468 3 = ((skT T a : Nat) : Int) → Q (some (vI (nxT T a))) M') → Run (e + 1) mX11_look 0 [some (vR 468)] [] M1 Q := by
    intro f
    induction f with
    | zero =>
      intro a M1 hf k1 ha h
      have T1 := (k1.m5.mf (t := 0)).mt hT
      have h240 := T1.2.1
      have h1 := T1.1
      obtain ⟨z1, z2⟩ := nxT_end (T := T) (a := a) (by omega)
      have h0 := h M1 k1 (by rw [z2]; exact ha)
      rw [z1] at h0
      have hx := mhr_e T1 ha
      rw [hrT_end (by omega)] at hx
      refine vn_look_0 (by omega) (k1.1.shp hS) ⟨⟨by omega, by omega⟩, fun v hv => ⟨fun _ v2 hv2 => ?_, fun c => absurd (by rw [hv, hx]; decide) c⟩⟩
      rw [hv2, hx]
      exact h0
    | succ f ih =>
      intro a M1 hf k1 ha h
      have T1 := (k1.m5.mf (t := 0)).mt hT
      have h240 := T1.2.1
      have h1 := T1.1
      have hx := mhr_e T1 ha
      refine vn_look_0 (by omega) (k1.1.shp hS) ⟨⟨by omega, by omega⟩, fun v hv => ⟨fun c v2 hv2 => ?_, fun c N hN _ => ?_⟩⟩
      · rw [hv, hx] at c
        have e1 : skT T a = a := skT_n c
        have e2 : nxT T a = hrT T a := by unfold nxT; rw [e1]
        rw [hv2, hx, ← e2]
        exact h M1 k1 (by rw [e1]; exact ha)
      · rw [hv, hx] at c
        have c := Classical.not_not.mp c
        have hl : a < T.2 := by
          by_cases z : a < T.2
          · exact z
          · rw [hrT_end (by omega)] at c; exact absurd c (by decide)
        rw [ha, w32s (by omega)] at hN
        have e1 : skT T a = skT T (a + 1) := skT_y c
        refine ih (a + 1) N (by omega) (k1.si hN) (si_at hN) (fun M' k' e' => ?_)
        have := h M' k' (by rw [e1]; exact e')
        unfold nxT at this ⊢
        rw [e1] at this
        exact this
  exact key _ a M (Nat.le_refl _) MN.refl ha h
def PTf (t cc : Nat) (c v : Int) (M N : jM) : Prop := Fr (fun r => r = 470 ∨ r = 471 ∨ r = 472) M N ∧ (∀ j, iv N 470 j = if j = 520 * t + cc then c else iv M 470 j) ∧ (∀ j, iv N 471 j = if j = 520 * t + cc then v else iv M 471 j) ∧ ∀ j, iv N 472 j = if j = t then ((cc + 1 : Nat) : Int) else iv M 472 j
theorem m_put {c v : Int} {cc : Nat} (hd : 7 ≤ d) (hS : Shp M) (ht : t < 5) (h14 : iv M 468 14 = (t : Int)) (hc : iv M 472 t = (cc : Int)) (hcc : cc < 520) (h : ∀ N, PTf t cc c v M N → Q none N) : Call d mX11_put [vR 468, vI c, vI v] M Q := by
  obtain ⟨e, rfl⟩ := dd (d := d) (by omega)
  have ex : w32 (w32 (520 * (t : Int)) + (cc : Int)) = ((520 * t + cc : Nat) : Int) := by
    rw [w32_i (z := 520 * (t : Int)) (by omega) (by omega), w32_i (by omega) (by omega)]
    omega
  refine vn_put (by omega) hS ?_
  rw [h14, Int.toNat_natCast, hc, ex]
  refine ⟨⟨by omega, by omega⟩, fun v2 h2 => ⟨⟨by omega, by omega⟩, fun N1 hN1 _ => ?_⟩⟩
  rw [h2, Int.toNat_natCast] at hN1
  have a14 : iv N1 468 14 = (t : Int) := by rw [hN1, iv_si, if_neg (by omega)]; exact h14
  have a72 : iv N1 472 = iv M 472 := by rw [hN1]; exact (fr_si (P := fun r => r = 470) rfl).eiv (by decide)
  rw [a14, Int.toNat_natCast, a72, hc, ex]
  refine ⟨⟨by omega, by omega⟩, fun v3 h3 => ⟨⟨by omega, by omega⟩, fun N2 hN2 _ => ?_⟩⟩
  rw [h3, Int.toNat_natCast] at hN2
  have b14 : iv N2 468 14 = (t : Int) := by rw [hN2, iv_si, if_neg (by omega)]; exact a14
  have b72 : iv N2 472 = iv M 472 := by rw [hN2]; exact ((fr_si (P := fun r => r = 471) rfl).eiv (by decide)).trans a72
  rw [b14, Int.toNat_natCast, b72, hc, w32s (by omega)]
  refine ⟨⟨by omega, by omega⟩, fun N3 hN3 _ => h N3 ⟨?_, fun j => ?_, fun j => ?_, fun j => ?_⟩⟩
  · rw [hN3, hN2, hN1]
    exact ((fr_si (P := fun r => r = 470 ∨ r = 471 ∨ r = 472) (Or.inl rfl)).ps (Or.inr (Or.inl rfl))).ps (Or.inr (Or.inr rfl))
  · rw [hN3, iv_si, if_neg (by omega), hN2, iv_si, if_neg (by omega), hN1, iv_si]
    by_cases z : j = 520 * t + cc
    · rw [if_pos z, if_pos ⟨rfl, z⟩]
    · rw [if_neg z, if_neg (by omega)]
  · rw [hN3, iv_si, if_neg (by omega), hN2, iv_si]
    by_cases z : j = 520 * t + cc
    · rw [if_pos z, if_pos ⟨rfl, z⟩]
    · rw [if_neg z, if_neg (by omega), hN1, iv_si, if_neg (by omega)]
  · rw [hN3, iv_si, b72]
    by_cases z : j = t
    · rw [if_pos z, if_pos ⟨rfl, z⟩]
    · rw [if_neg z, if_neg (by omega)]
theorem PTf.mf {cc : Nat} {c v : Int} (h : PTf t cc c v M N) (hcc : cc < 520) : MF t M N := by
  obtain ⟨h1, h2, h3, h4⟩ := h
  refine ⟨h1.mono (by intro r hr; omega), fun i _ _ _ => by rw [h1.eiv (by decide)], fun i hi => by rw [h4, if_neg hi], fun i hi => ?_⟩
  rw [h2, h3, if_neg (by omega), if_neg (by omega)]
  exact ⟨rfl, rfl⟩
theorem MA.start (ha : iv M 468 3 = (a : Int)) (hw : iv M 468 4 = -1) (hdp : iv M 468 5 = (dp : Int)) (hn : iv M 472 t = (n : Int)) : MA t n dp M M a [] := ⟨MF.refl, ⟨ha, hw, hdp⟩, hn, fun _ _ => ⟨rfl, rfl⟩, trivial, fun j h1 h2 => absurd h2 (by simp only [List.length_nil]; omega)⟩
theorem MA.trans {dp' : Nat} (h : MA t n dp M M1 a l) (k : MA t (n + l.length) dp' M1 M2 a' l') : MA t n dp' M M2 a' (l ++ l') := by
  obtain ⟨h1, h2, h3, h4, h5, h6⟩ := h
  obtain ⟨k1, k2, k3, k4, k5, k6⟩ := k
  refine ⟨h1.trans k1, k2, by rw [k3, List.length_append, Nat.add_assoc], fun j hj => ?_, (h5.cg (fun j g1 g2 => ?_)).app k5, fun j g1 g2 => ?_⟩
  · obtain ⟨q1, q2⟩ := k4 j (by omega)
    obtain ⟨p1, p2⟩ := h4 j hj
    exact ⟨q1.trans p1, q2.trans p2⟩
  · obtain ⟨q1, q2⟩ := k4 j g2
    unfold mSg mVl
    rw [q1, q2]
    exact ⟨rfl, rfl⟩
  · by_cases c : j < n + l.length
    · rw [(k4 j c).1]; exact h6 j g1 c
    · exact k6 j (by omega) (by rw [List.length_append] at g2; omega)
theorem MA.step (h : MA t n dp M M1 a l) (k : M5 M1 M2) {dp' : Nat} (e3 : iv M2 468 3 = (a' : Int)) (e4 : iv M2 468 4 = -1) (e5 : iv M2 468 5 = (dp' : Int)) : MA t n dp' M M2 a' l := by
  obtain ⟨h1, h2, h3, h4, h5, h6⟩ := h
  unfold mSg mVl at h5
  refine ⟨h1.trans k.mf, ⟨e3, e4, e5⟩, by rw [k.1.eiv (by decide)]; exact h3, fun j hj => by rw [k.1.eiv (by decide), k.1.eiv (by decide)]; exact h4 j hj, ?_, fun j g1 g2 => by rw [k.1.eiv (by decide)]; exact h6 j g1 g2⟩
  unfold mSg mVl
  rw [k.1.eiv (by decide), k.1.eiv (by decide)]
  exact h5
theorem MA.next (h : MA t n dp M M1 a l) (k : MN M1 M2) (e3 : iv M2 468 3 = (a' : Int)) : MA t n dp M M2 a' l := h.step k.m5 e3 (by rw [k.2 4 (by decide)]; exact h.2.1.2.1) (by rw [k.2 5 (by decide)]; exact h.2.1.2.2)
theorem MA.put {c v : Int} (h : MA t n dp M M1 a l) (hb : n + l.length < 520) (hN : PTf t (n + l.length) c v M1 N) (hc : 0 ≤ c ∧ c ≤ 11) : MA t n dp M N a (l ++ [(trS c, v)]) := by
  have hmf := hN.mf hb
  obtain ⟨h1, h2, h3, h4⟩ := hN
  have e : ∀ i, iv N 468 i = iv M1 468 i := fun i => by rw [h1.eiv (by decide)]
  refine h.trans ⟨hmf, ⟨by rw [e]; exact h.2.1.1, by rw [e]; exact h.2.1.2.1, by rw [e]; exact h.2.1.2.2⟩, by rw [h4, if_pos rfl]; rfl, fun j hj => by rw [h2, h3, if_neg (by omega), if_neg (by omega)]; exact ⟨rfl, rfl⟩, ⟨?_, ?_, trivial⟩, fun j g1 g2 => ?_⟩
  · unfold mSg
    rw [h2, if_pos rfl]
  · unfold mVl
    rw [h3, if_pos rfl]
  · have : j = n + l.length := by
      simp only [List.length_cons, List.length_nil] at g2
      omega
    rw [this, h2, if_pos rfl]
    exact hc
/-- a fault found at the place -/
theorem MA.bad (h : MA t n dp M M1 a' l) (hN : N = si M1 468 4 (if iv M1 468 4 = -1 then iv M1 468 3 else iv M1 468 4)) (ha : a + l.length + s ≤ a') (hb : a' + dp ≤ 255) : MB t n a dp M N a' s := by
  obtain ⟨h1, ⟨h2, h3, h4⟩, h5, _⟩ := h
  rw [h3, if_pos rfl, h2] at hN
  refine ⟨h1.trans ((M5.refl.si hN (Or.inr (Or.inl rfl))).mf), si_at hN, n + l.length, a', dp, ?_, by rw [si_ne hN (by decide)]; exact h2, by rw [si_ne hN (by decide)]; exact h4, by omega, hb, Nat.le_refl _⟩
  rw [hN, iv_si, if_neg (by omega)]
  exact h5
theorem MB.put {c v : Int} (h : MB t n a dp M M1 w (s + 1)) (hna : n ≤ a) (hd : 7 ≤ d) (hS : Shp M) (ht : t < 5) (h14 : iv M 468 14 = (t : Int)) (k : ∀ N, MB t n a dp M N w s → Q none N) : Call d mX11_put [vR 468, vI c, vI v] M1 Q := by
  obtain ⟨h1, h2, cc, p, dq, c1, c2, c3, c4, c5, c6⟩ := h
  refine m_put hd (h1.shp hS) ht (by rw [h1.2.1 14 (by decide) (by decide) (by decide)]; exact h14) c1 (by omega) (fun N hN => k N ?_)
  have e : ∀ i, iv N 468 i = iv M1 468 i := fun i => by rw [hN.1.eiv (by decide)]
  exact ⟨h1.trans (hN.mf (by omega)), by rw [e]; exact h2, cc + 1, p, dq, by rw [hN.2.2.2, if_pos rfl], by rw [e]; exact c2, by rw [e]; exact c3, by omega, c5, c6⟩
theorem MB.of {a2 n2 dp2 s2 : Nat} (h : MB t n2 a2 dp2 M1 M2 w s2) (k : MF t M M1) (hs : a + n2 + s ≤ a2 + n + s2) (hdp : dp ≤ dp2) : MB t n a dp M M2 w s := by
  obtain ⟨h1, h2, cc, p, dq, c1, c2, c3, c4, c5, c6⟩ := h
  exact ⟨k.trans h1, h2, cc, p, dq, c1, c2, c3, by omega, c5, by omega⟩
theorem MB.wr (h : MB t n a dp M M1 w s) : iv M1 468 4 ≠ -1 := by rw [h.2.1]; omega
theorem MA.wr (h : MA t n dp M M1 a l) : iv M1 468 4 = -1 := h.2.1.2.1
theorem MO.lft (h : MO t n a dp M M1 (.inl w)) : MB t n a dp M M1 w 0 := h
theorem MO.rgt (h : MO t n a dp M M1 (.inr (a', l))) : MA t n dp M M1 a' l := h
theorem MO.mf {r : jR} (h : MO t n a dp M M1 r) : MF t M M1 := by
  revert h
  cases r with
  | inl w => exact fun h => h.1
  | inr x => exact fun h => h.1
theorem m_opens (hd : 7 ≤ d) (hS : Shp M) (ha : iv M 468 3 = (a : Int)) (hdp : iv M 468 5 = (dp : Int)) (ha2 : a < 1000) (hdp2 : dp < 1000) (hy : dp ≠ 6 → ∀ N, M5 M N → iv N 468 3 = ((a + 1 : Nat) : Int) → iv N 468 4 = iv M 468 4 → iv N 468 5 = ((dp + 1 : Nat) : Int) → Q none N) (hn : dp = 6 → ∀ N1 N, N1 = si M 468 4 (if iv M 468 4 = -1 then iv M 468 3 else iv M 468 4) → M5 N1 N → iv N 468 3 = ((a + 1 : Nat) : Int) → iv N 468 4 = iv N1 468 4 → iv N 468 5 = ((dp + 1 : Nat) : Int) → Q none N) : Call d mX11_opens [vR 468] M Q := by
  obtain ⟨e, rfl⟩ := dd (d := d) (by omega)
  refine vn_opens (by omega) hS ⟨fun c N hN _ N2 hN2 _ => ?_, fun c N hN _ N2 hN2 _ N3 hN3 _ => ?_⟩
  · rw [hdp, w32s (by omega)] at hN
    have e3 : iv N 468 3 = (a : Int) := by rw [si_ne hN (by decide)]; exact ha
    rw [e3, w32s (by omega)] at hN2
    exact hy (by omega) N2 ((M5.refl.si hN (Or.inr (Or.inr rfl))).si hN2 (Or.inl rfl)) (si_at hN2) (by rw [si_ne hN2 (by decide), si_ne hN (by decide)]) (by rw [si_ne hN2 (by decide), si_at hN])
  · have e5 : iv N 468 5 = (dp : Int) := by rw [si_ne hN (by decide)]; exact hdp
    rw [e5, w32s (by omega)] at hN2
    have e3 : iv N2 468 3 = (a : Int) := by rw [si_ne hN2 (by decide), si_ne hN (by decide)]; exact ha
    rw [e3, w32s (by omega)] at hN3
    exact hn (by omega) N N3 hN ((M5.refl.si hN2 (Or.inr (Or.inr rfl))).si hN3 (Or.inl rfl)) (si_at hN3) (by rw [si_ne hN3 (by decide), si_ne hN2 (by decide)]) (by rw [si_ne hN3 (by decide), si_at hN2])
/-- a bracket's end -/
theorem m_closesA {c : Int} {q : Nat} (hd : 9 ≤ d) (hS : Shp M) (hT : MT M T) (h : MA t n (dp + 1) M M1 q l) (hq : a + l.length ≤ q) (hqT : q ≤ T.2) (hdp : dp ≤ 6) (hy : nxT T q = c → ∀ N, MA t n dp M N (skT T q + 1) l → Q none N) (hn : nxT T q ≠ c → ∀ N, MB t n a dp M N (skT T q) 0 → Q none N) : Call d mX11_closes [vR 468, vI c] M1 Q := by
  obtain ⟨e, rfl⟩ := dd (d := d) (by omega)
  have s1 := h.1.shp hS
  have T1 := h.1.mt hT
  have h240 := hT.2.1
  have hk := (skT_in (T := T) q).1
  have hk2 := (skT_in (T := T) q).2 hqT
  refine vn_closes (by omega) s1 ⟨fun z => absurd h.wr z, fun _ => m_look (by omega) s1 T1 h.2.1.1 (fun M3 k3 e3 => ⟨_, rfl, k3.1.shp s1, fun z N hN _ N2 hN2 _ => ?_, fun z N hN _ N2 hN2 _ N3 hN3 _ => ?_⟩)⟩
  · have g := h.next k3 e3
    rw [e3, w32s (by omega)] at hN
    have e5 : iv N 468 5 = ((dp + 1 : Nat) : Int) := by rw [si_ne hN (by decide)]; exact g.2.1.2.2
    rw [e5, w32_i (by omega) (by omega)] at hN2
    refine hy z N2 (g.step ((M5.refl.si hN (Or.inl rfl)).si hN2 (Or.inr (Or.inr rfl))) ?_ ?_ ?_)
    · rw [si_ne hN2 (by decide), si_at hN]
    · rw [si_ne hN2 (by decide), si_ne hN (by decide)]; exact g.wr
    · rw [si_at hN2]; omega
  · have g := h.next k3 e3
    have hb := g.bad (a := a) (s := 0) hN (by omega) (by omega)
    have e3' : iv N 468 3 = ((skT T q : Nat) : Int) := by rw [si_ne hN (by decide)]; exact e3
    rw [e3', w32s (by omega)] at hN2
    have e5 : iv N2 468 5 = ((dp + 1 : Nat) : Int) := by rw [si_ne hN2 (by decide), si_ne hN (by decide)]; exact g.2.1.2.2
    rw [e5, w32_i (by omega) (by omega)] at hN3
    have k := (M5.refl.si hN2 (Or.inl rfl)).si hN3 (Or.inr (Or.inr rfl))
    obtain ⟨b1, b2, cc, p, dq, c1, c2, c3, c4, c5, c6⟩ := hb
    have hp : p = skT T q := by omega
    refine hn z N3 ⟨b1.trans k.mf, ?_, cc, p + 1, dp, by rw [k.1.eiv (by decide)]; exact c1, ?_, ?_, by omega, by omega, Nat.le_refl _⟩
    · rw [si_ne hN3 (by decide), si_ne hN2 (by decide)]; exact b2
    · rw [si_ne hN3 (by decide), si_at hN2, hp]
    · rw [si_at hN3]; omega
theorem m_closesB {c : Int} (hd : 9 ≤ d) (hS : Shp M) (h : MB t n a (dp + 1) M M1 w s) (k : ∀ N, MB t n a dp M N w s → Q none N) : Call d mX11_closes [vR 468, vI c] M1 Q := by
  obtain ⟨e, rfl⟩ := dd (d := d) (by omega)
  refine vn_closes (by omega) (h.1.shp hS) ⟨fun _ N hN _ N2 hN2 _ => ?_, fun z => absurd h.wr z⟩
  obtain ⟨b1, b2, cc, p, dq, c1, c2, c3, c4, c5, c6⟩ := h
  rw [c2, w32s (by omega)] at hN
  have e5 : iv N 468 5 = (dq : Int) := by rw [si_ne hN (by decide)]; exact c3
  rw [e5, w32_i (by omega) (by omega)] at hN2
  have kk := (M5.refl.si hN (Or.inl rfl)).si hN2 (Or.inr (Or.inr rfl))
  refine k N2 ⟨b1.trans kk.mf, ?_, cc, p + 1, dq - 1, by rw [kk.1.eiv (by decide)]; exact c1, ?_, ?_, by omega, by omega, by omega⟩
  · rw [si_ne hN2 (by decide), si_ne hN (by decide)]; exact b2
  · rw [si_ne hN2 (by decide), si_at hN]
  · rw [si_at hN2]; omega
/-- digits -/
theorem dgF_w {T : jT} : ∀ n p v w, dgF T n p v = .inl w → w = p + n
  | 0, p, v, w, h => by
    simp only [dgF] at h
    by_cases c : fDg (hrT T p) = 1
    · rw [if_pos c] at h; cases h; rfl
    · rw [if_neg c] at h; cases h
  | n + 1, p, v, w, h => by
    simp only [dgF] at h
    by_cases c : fDg (hrT T p) = 1
    · rw [if_pos c] at h
      have := dgF_w n (p + 1) _ w h
      omega
    · rw [if_neg c] at h; cases h
theorem m_plain {P : Nat} (hd : 8 ≤ d) (hS : Shp M) (hT : MT M T) (hp : iv M 468 3 = (P : Int)) (hp2 : P ≤ T.2) (hy : ∀ q v, dgF T 4 P 0 = .inr (q, v) → ∀ M', MN M M' → iv M' 468 3 = ((q : Nat) : Int) → Q (some (vI v)) M') (hn : ∀ w, dgF T 4 P 0 = .inl w → ∀ M1 N z, MN M M1 → iv M1 468 3 = ((w : Nat) : Int) → N = si M1 468 4 (if iv M1 468 4 = -1 then iv M1 468 3 else iv M1 468 4) → Q (some (vI z)) N) : Call d mX11_plainNumber [vR 468] M Q := by
  obtain ⟨e, rfl⟩ := dd (d := d) (by omega)
  have h240 := hT.2.1
  refine vn_plainNumber (by omega) hS ?_
  have key : ∀ (k i p : Nat) (v : Int) M1, i + k = 4 → MN M M1 → iv M1 468 3 = (p : Int) → p ≤ T.2 → 0 ≤ v → (v + 1) * ((10 ^ k : Nat) : Int) ≤ 10000 → (∀ q w, dgF T k p v = .inr (q, w) → dgF T 4 P 0 = .inr (q, w)) → (∀ w, dgF T k p v = .inl w → dgF T 4 P 0 = .inl w) → Run (e + 1) mX11_plainNumber 4 [some (vR 468), some (vI v), some (vI (i : Int))] [] M1 Q := by
    intro k
    induction k with
    | zero =>
      intro i p v M1 hi k1 e1 hp hv0 hv g1 g2
      have T1 := (k1.m5.mf (t := 0)).mt hT
      have h1 := T1.1
      have hx := mhr_e T1 e1
      simp only [dgF] at g1 g2
      refine vn_plainNumber_4 (by omega) (k1.1.shp hS) ⟨fun _ => ⟨⟨by omega, by omega⟩, fun v3 h3 => ⟨fun c => ?_, fun c N hN _ => ?_⟩⟩, fun c => absurd (by omega) c⟩
      · rw [h3, hx, fDg_0] at c
        rw [if_neg c] at g1
        exact hy p v (g1 p v rfl) M1 k1 e1
      · rw [h3, hx, fDg_0, Classical.not_not] at c
        rw [if_pos c] at g2
        exact hn p (g2 p rfl) M1 N v k1 e1 hN
    | succ k ih =>
      intro i p v M1 hi k1 e1 hp hv0 hv g1 g2
      have T1 := (k1.m5.mf (t := 0)).mt hT
      have h1 := T1.1
      have hx := mhr_e T1 e1
      have hpw : (1 : Int) ≤ ((10 ^ (k + 1) : Nat) : Int) := by
        have : 0 < 10 ^ (k + 1) := Nat.pow_pos (by decide)
        omega
      have hv2 := Int.mul_le_mul_of_nonneg_left hpw (show 0 ≤ v + 1 by omega)
      simp only [dgF] at g1 g2
      refine vn_plainNumber_4 (by omega) (k1.1.shp hS) ⟨fun c => absurd c (by omega), fun _ => ⟨⟨by omega, by omega⟩, fun v8 h8 => ⟨fun c v10 h10 => ⟨fun c2 => ?_, fun c2 => absurd (by rw [h10, ← h8]; exact c) c2⟩, fun c v14 h14 N hN _ => ?_⟩⟩⟩
      · rw [h8, hx, fDg_0] at c
        rw [if_neg c] at g1
        exact hy p v (g1 p v rfl) M1 k1 e1
      · rw [h8, hx, fDg_0, Classical.not_not] at c
        rw [if_pos c] at g1 g2
        have hdg := fDg_1.mp c
        have hl : p < T.2 := by
          by_cases z : p < T.2
          · exact z
          · rw [hrT_end (by omega)] at c; exact absurd c (by decide)
        have e14 : v14 = hrT T p := by rw [h14, hx]
        rw [e1, w32s (by omega)] at hN
        have e15 : w32 (w32 (w32 (10 * v) + v14) - 48) = 10 * v + hrT T p - 48 := by
          rw [e14, w32_i (z := 10 * v) (by omega) (by omega), w32_i (z := 10 * v + hrT T p) (by omega) (by omega), w32_i (by omega) (by omega)]
        rw [w32s (by omega), e15]
        refine ih (i + 1) (p + 1) _ N (by omega) (k1.si hN) (si_at hN) (by omega) (by omega) ?_ g1 g2
        have e : (v + 1) * ((10 ^ (k + 1) : Nat) : Int) = (10 * v + 10) * ((10 ^ k : Nat) : Int) := by
          rw [Nat.pow_succ, Int.natCast_mul]
          rw [show (10 * v + 10) = (v + 1) * 10 by omega, Int.mul_assoc, Int.mul_comm ((10 ^ k : Nat) : Int)]
          rfl
        rw [e] at hv
        exact Int.le_trans (Int.mul_le_mul_of_nonneg_right (by omega) (Int.natCast_nonneg _)) hv
  exact key 4 0 P 0 M rfl MN.refl hp hp2 (Int.le_refl _) (by decide) (fun q w g => g) (fun w g => g)
end MRead
