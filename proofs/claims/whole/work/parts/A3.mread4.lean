/-! THE MODEL reads a law -/
def MG (t : Nat) (M M' : jM) : Prop := Fr (fun r => r = 468 ∨ (470 ≤ r ∧ r ≤ 476)) M M' ∧ (∀ i, i ≠ 3 → i ≠ 4 → i ≠ 5 → i ≠ 14 → iv M' 468 i = iv M 468 i) ∧ (∀ i, i ≠ t → iv M' 472 i = iv M 472 i ∧ iv M' 473 i = iv M 473 i) ∧ (∀ i, (i < 520 * t ∨ 520 * t + 520 ≤ i) → iv M' 470 i = iv M 470 i ∧ iv M' 471 i = iv M 471 i) ∧ ∀ i, (i < 140 * t ∨ 140 * t + 140 ≤ i) → iv M' 474 i = iv M 474 i ∧ iv M' 475 i = iv M 475 i ∧ iv M' 476 i = iv M 476 i
def MLA (t : Nat) (M0 M : jM) (a : Nat) (L : jL) : Prop := MG t M0 M ∧ (iv M 468 14 = (t : Int) ∧ iv M 468 3 = (a : Int) ∧ iv M 468 4 = -1 ∧ iv M 468 5 = 0) ∧ (iv M 472 t = (L.1.length : Int) ∧ iv M 473 t = (L.2.length : Int)) ∧ RowL (mSg M t) (mVl M t) 0 L.1 ∧ (∀ j, j < L.1.length → 0 ≤ iv M 470 (520 * t + j) ∧ iv M 470 (520 * t + j) ≤ 11) ∧ RowC (mRow M 474 t) (mRow M 475 t) (mRow M 476 t) 0 L.2
def MLB (t : Nat) (M0 M : jM) (w : Nat) : Prop := MG t M0 M ∧ iv M 468 14 = (t : Int) ∧ iv M 468 4 = (w : Int)
/-- one clause more -/
def MC (t n c : Nat) (B N : jM) (q : Nat) (lc ls : List (Int × Int)) : Prop := MG t B N ∧ (iv N 468 14 = (t : Int) ∧ iv N 468 3 = (q : Int) ∧ iv N 468 4 = -1 ∧ iv N 468 5 = 0) ∧ (iv N 472 t = ((n + (lc.length + ls.length) : Nat) : Int) ∧ iv N 473 t = ((c + 1 : Nat) : Int)) ∧ (∀ j, j < n → iv N 470 (520 * t + j) = iv B 470 (520 * t + j) ∧ iv N 471 (520 * t + j) = iv B 471 (520 * t + j)) ∧ RowL (mSg N t) (mVl N t) n (lc ++ ls) ∧ (∀ j, n ≤ j → j < n + (lc.length + ls.length) → 0 ≤ iv N 470 (520 * t + j) ∧ iv N 470 (520 * t + j) ≤ 11) ∧ (∀ j, iv N 474 j = iv B 474 j) ∧ (∀ j, iv N 475 j = if j = 140 * t + c then ((n + lc.length : Nat) : Int) else iv B 475 j) ∧ ∀ j, iv N 476 j = if j = 140 * t + c then ((n + (lc.length + ls.length) : Nat) : Int) else iv B 476 j
section MRead4
variable {d t : Nat} {M0 M M1 N B : jM} {Q : Option jV → jM → Prop} {T : jT} {a n c w : Nat} {L : jL}
theorem MG.refl : MG t M M := ⟨Fr.refl, fun _ _ _ _ _ => rfl, fun _ _ => ⟨rfl, rfl⟩, fun _ _ => ⟨rfl, rfl⟩, fun _ _ => ⟨rfl, rfl, rfl⟩⟩
theorem MG.trans (h : MG t M M1) (k : MG t M1 N) : MG t M N := ⟨h.1.trans k.1, fun i h3 h4 h5 h6 => (k.2.1 i h3 h4 h5 h6).trans (h.2.1 i h3 h4 h5 h6), fun i hi => ⟨(k.2.2.1 i hi).1.trans (h.2.2.1 i hi).1, (k.2.2.1 i hi).2.trans (h.2.2.1 i hi).2⟩, fun i hi => ⟨(k.2.2.2.1 i hi).1.trans (h.2.2.2.1 i hi).1, (k.2.2.2.1 i hi).2.trans (h.2.2.2.1 i hi).2⟩, fun i hi => ⟨(k.2.2.2.2 i hi).1.trans (h.2.2.2.2 i hi).1, (k.2.2.2.2 i hi).2.1.trans (h.2.2.2.2 i hi).2.1, (k.2.2.2.2 i hi).2.2.trans (h.2.2.2.2 i hi).2.2⟩⟩
theorem MF.mg (h : MF t M M1) : MG t M M1 := ⟨h.1.mono (by intro r hr; omega), fun i h3 h4 h5 _ => h.2.1 i h3 h4 h5, fun i hi => ⟨h.2.2.1 i hi, by rw [h.1.eiv (by decide)]⟩, h.2.2.2, fun i _ => by rw [h.1.eiv (by decide), h.1.eiv (by decide), h.1.eiv (by decide)]; exact ⟨rfl, rfl, rfl⟩⟩
theorem MG.mt (h : MG t M M1) (hT : MT M T) : MT M1 T := ⟨by rw [h.2.1 2 (by decide) (by decide) (by decide) (by decide)]; exact hT.1, hT.2.1, fun i hi => by rw [h.1.eiv (by omega)]; exact hT.2.2 i hi⟩
theorem MG.cell {r i : Nat} {v : Int} (hr : r = 474 ∨ r = 475 ∨ r = 476) (hi : 140 * t ≤ i ∧ i < 140 * t + 140) (hN : N = si M r i v) : MG t M N := by
  have f : Fr (fun s => s = r) M N := by rw [hN]; exact fr_si rfl
  have g : ∀ s j, ¬ (s = r ∧ j = i) → iv N s j = iv M s j := fun s j z => by rw [hN, iv_si, if_neg z]
  exact ⟨f.mono (by intro s hs; omega), fun j _ _ _ _ => g _ _ (by omega), fun j _ => ⟨g _ _ (by omega), g _ _ (by omega)⟩, fun j _ => ⟨g _ _ (by omega), g _ _ (by omega)⟩, fun j hj => ⟨g _ _ (by omega), g _ _ (by omega), g _ _ (by omega)⟩⟩
theorem MG.cnt {v : Int} (hN : N = si M 473 t v) : MG t M N := by
  have f : Fr (fun s => s = 473) M N := by rw [hN]; exact fr_si rfl
  have g : ∀ s j, ¬ (s = 473 ∧ j = t) → iv N s j = iv M s j := fun s j z => by rw [hN, iv_si, if_neg z]
  exact ⟨f.mono (by intro s hs; omega), fun j _ _ _ _ => g _ _ (by omega), fun j hj => ⟨g _ _ (by omega), g _ _ (by omega)⟩, fun j _ => ⟨g _ _ (by omega), g _ _ (by omega)⟩, fun j hj => ⟨g _ _ (by omega), g _ _ (by omega), g _ _ (by omega)⟩⟩
theorem M5.mg (h : M5 M M1) : MG t M M1 := (M5.mf h).mg
theorem MLA.fin {q : Nat} {lc ls : List (Int × Int)} (g : MLA t M0 M a L) (k : MG t M B) (hlow : ∀ j, j < L.1.length → iv B 470 (520 * t + j) = iv M 470 (520 * t + j) ∧ iv B 471 (520 * t + j) = iv M 471 (520 * t + j)) (hc : ∀ j, j < L.2.length → iv B 474 (140 * t + j) = iv M 474 (140 * t + j) ∧ iv B 475 (140 * t + j) = iv M 475 (140 * t + j) ∧ iv B 476 (140 * t + j) = iv M 476 (140 * t + j)) (hc2 : iv B 474 (140 * t + L.2.length) = (L.1.length : Int)) (h : MC t L.1.length L.2.length B N q lc ls) : MLA t M0 N q (L.1 ++ (lc ++ ls), L.2 ++ [(L.1.length, L.1.length + lc.length, L.1.length + (lc.length + ls.length))]) := by
  obtain ⟨g1, g2, g3, g4, g5, g6⟩ := g
  obtain ⟨h1, h2, ⟨h3, h3'⟩, h4, h5, h6, h7, h8, h9⟩ := h
  refine ⟨g1.trans (k.trans h1), h2, ⟨?_, ?_⟩, ?_, fun j hj => ?_, ?_⟩
  · rw [h3]
    show _ = (((L.1 ++ (lc ++ ls)).length : Nat) : Int)
    rw [List.length_append, List.length_append]
  · rw [h3']
    show _ = (((L.2 ++ _).length : Nat) : Int)
    rw [List.length_append]
    rfl
  · refine (g4.cg (fun j _ hj => ?_)).app (by rw [Nat.zero_add]; exact h5)
    unfold mSg mVl
    rw [(h4 j (by omega)).1, (h4 j (by omega)).2, (hlow j (by omega)).1, (hlow j (by omega)).2]
    exact ⟨rfl, rfl⟩
  · have hj : j < (L.1 ++ (lc ++ ls)).length := hj
    rw [List.length_append, List.length_append] at hj
    by_cases z : j < L.1.length
    · rw [(h4 j z).1, (hlow j z).1]; exact g5 j z
    · exact h6 j (by omega) hj
  · refine (g6.cg (fun j _ hj => ?_)).app ?_
    · unfold mRow
      obtain ⟨c1, c2, c3⟩ := hc j (by omega)
      rw [h7, h8, h9, if_neg (by omega), if_neg (by omega)]
      exact ⟨c1, c2, c3⟩
    · rw [Nat.zero_add]
      unfold mRow
      refine ⟨?_, ?_, ?_, trivial⟩
      · exact (h7 _).trans hc2
      · exact (h8 _).trans (if_pos rfl)
      · exact (h9 _).trans (if_pos rfl)
theorem m_end {e : Nat} {l2 : Int} (he : 6 ≤ e) (hS : Shp M) (ht : t < 5) (h14 : iv M 468 14 = (t : Int)) (hc : c < 139) (h473 : iv M 473 t = (c : Int)) (h : ∀ N1 N, N1 = si M 476 (140 * t + c) (iv M 472 t) → N = si N1 473 t ((c + 1 : Nat) : Int) → MG t M N → Q none N) : Run (e + 1) mX11_clause 251 [some (vR 468), some (vI ((140 * t + c : Nat) : Int)), some (vI l2)] [] M Q := by
  refine vn_clause_251 (by omega) hS ?_
  rw [h14, Int.toNat_natCast, Int.toNat_natCast]
  refine ⟨⟨by omega, by omega⟩, ⟨by omega, by omega⟩, fun N1 h1 _ => ?_⟩
  have a14 : iv N1 468 14 = (t : Int) := by rw [h1, iv_si, if_neg (by omega)]; exact h14
  have a73 : iv N1 473 t = (c : Int) := by rw [h1, iv_si, if_neg (by omega)]; exact h473
  rw [a14, Int.toNat_natCast, a73, w32s (by omega)]
  exact ⟨⟨by omega, by omega⟩, fun N2 h2 _ => h N1 N2 h1 h2 ((MG.cell (Or.inr (Or.inr rfl)) ⟨by omega, by omega⟩ h1).trans (MG.cnt h2))⟩
/-- behind the first sum, or the condition; the fault told -/
theorem m_184B {e : Nat} {l2 : Int} (he : 6 ≤ e) (hS : Shp M) (ht : t < 5) (h14 : iv M 468 14 = (t : Int)) (hc : c < 139) (h473 : iv M 473 t = (c : Int)) (hw : iv M 468 4 = (w : Int)) (h : ∀ N, MG t M N → iv N 468 14 = (t : Int) → iv N 468 4 = (w : Int) → Q none N) : Run (e + 1) mX11_clause 184 [some (vR 468), some (vI ((140 * t + c : Nat) : Int)), some (vI l2)] [] M Q := by
  refine vn_clause_184 (by omega) hS ?_
  rw [Int.toNat_natCast]
  refine ⟨⟨by omega, by omega⟩, fun N hN sN => ?_⟩
  have gN : MG t M N := MG.cell (Or.inr (Or.inl rfl)) ⟨by omega, by omega⟩ hN
  have a14 : iv N 468 14 = (t : Int) := by rw [hN, iv_si, if_neg (by omega)]; exact h14
  have a4 : iv N 468 4 = (w : Int) := by rw [hN, iv_si, if_neg (by omega)]; exact hw
  have a73 : iv N 473 t = (c : Int) := by rw [hN, iv_si, if_neg (by omega)]; exact h473
  have fin : Run (e + 1) mX11_clause 251 [some (vR 468), some (vI ((140 * t + c : Nat) : Int)), some (vI l2)] [] N Q :=
    m_end (by omega) sN ht a14 hc a73 (fun N1 N2 h1 h2 g2 => h N2 (gN.trans g2) (by rw [h2, iv_si, if_neg (by omega), h1, iv_si, if_neg (by omega)]; exact a14) (by rw [h2, iv_si, if_neg (by omega), h1, iv_si, if_neg (by omega)]; exact a4))
  exact ⟨fun _ => fin, fun _ => ⟨fun _ => fin, fun z => absurd (by rw [a4]; omega) z⟩⟩
/-- behind a sum that is all -/
theorem m_184S {e q : Nat} {l : List (Int × Int)} (he : 6 ≤ e) (hSB : Shp B) (ht : t < 5) (h14 : iv B 468 14 = (t : Int)) (hc : c < 139) (h473 : iv B 473 t = (c : Int)) (h474 : iv B 474 (140 * t + c) = (n : Int)) (g : MA t n 0 B M q l) (h : ∀ N, MC t n c B N q [] l → Q none N) : Run (e + 1) mX11_clause 184 [some (vR 468), some (vI ((140 * t + c : Nat) : Int)), some (vI 0)] [] M Q := by
  have hS := g.1.shp hSB
  obtain ⟨g1, ⟨g2, g2', g2''⟩, g3, g4, g5, g6⟩ := g
  refine vn_clause_184 (by omega) hS ?_
  rw [Int.toNat_natCast, g1.1.eiv (by decide), h474]
  refine ⟨⟨by omega, by omega⟩, fun N hN sN => ⟨fun _ => ?_, fun z => absurd rfl z⟩⟩
  have gN : MG t M N := MG.cell (Or.inr (Or.inl rfl)) ⟨by omega, by omega⟩ hN
  have e68 : ∀ i, iv N 468 i = iv M 468 i := fun i => by rw [hN, iv_si, if_neg (by omega)]
  refine m_end (by omega) sN ht (by rw [e68, g1.2.1 14 (by decide) (by decide) (by decide)]; exact h14) hc (by rw [hN, iv_si, if_neg (by omega), g1.1.eiv (by decide)]; exact h473) (fun N1 N2 h1 h2 k2 => h N2 ?_)
  have ea : ∀ r i, r ≠ 473 → r ≠ 475 → r ≠ 476 → iv N2 r i = iv M r i := fun r i z1 z2 z3 => by rw [h2, iv_si, if_neg (by omega), h1, iv_si, if_neg (by omega), hN, iv_si, if_neg (by omega)]
  have er : ∀ r, r ≠ 473 → r ≠ 475 → r ≠ 476 → iv N2 r = iv M r := fun r z1 z2 z3 => funext (fun i => ea r i z1 z2 z3)
  refine ⟨g1.mg.trans (gN.trans k2), ⟨by rw [ea _ _ (by decide) (by decide) (by decide), g1.2.1 14 (by decide) (by decide) (by decide)]; exact h14, by rw [ea _ _ (by decide) (by decide) (by decide)]; exact g2, by rw [ea _ _ (by decide) (by decide) (by decide)]; exact g2', by rw [ea _ _ (by decide) (by decide) (by decide)]; exact g2''⟩, ⟨?_, ?_⟩, fun j hj => ?_, ?_, fun j j1 j2 => ?_, fun j => ?_, fun j => ?_, fun j => ?_⟩
  · rw [ea _ _ (by decide) (by decide) (by decide), g3]
    show _ = ((n + (0 + l.length) : Nat) : Int)
    rw [Nat.zero_add]
  · rw [h2, iv_si, if_pos ⟨rfl, rfl⟩]
  · rw [er _ (by decide) (by decide) (by decide), er _ (by decide) (by decide) (by decide)]; exact g4 j hj
  · unfold mSg mVl at g5 ⊢
    rw [er _ (by decide) (by decide) (by decide), er _ (by decide) (by decide) (by decide)]
    exact g5
  · rw [er _ (by decide) (by decide) (by decide)]
    exact g6 j j1 (by have j2 : j < n + (0 + l.length) := j2; omega)
  · rw [er _ (by decide) (by decide) (by decide), g1.1.eiv (by decide)]
  · rw [h2, iv_si, if_neg (by omega), h1, iv_si, if_neg (by omega), hN, iv_si, g1.1.eiv (by decide)]
    by_cases z : j = 140 * t + c
    · rw [if_pos ⟨rfl, z⟩, if_pos z]; rfl
    · rw [if_neg (by omega), if_neg z]
  · rw [h2, iv_si, if_neg (by omega), h1, iv_si]
    by_cases z : j = 140 * t + c
    · rw [if_pos ⟨rfl, z⟩, if_pos z, hN, iv_si, if_neg (by omega), g3]
      show _ = ((n + (0 + l.length) : Nat) : Int)
      rw [Nat.zero_add]
    · rw [if_neg (by omega), if_neg z, hN, iv_si, if_neg (by omega), g1.1.eiv (by decide)]
/-- behind a condition -/
theorem m_184C {e q : Nat} {lc : List (Int × Int)} (he : 300 ≤ e) (hSB : Shp B) (hT : MT B T) (ht : t < 5) (h14 : iv B 468 14 = (t : Int)) (hc : c < 139) (h473 : iv B 473 t = (c : Int)) (g : MA t n 0 B M q lc) (hq : n + lc.length ≤ q) (hq2 : q ≤ T.2) (hy : ∀ q' ls N, qsF T (.inr (q, lc)) = .inr (q', lc, ls) → MC t n c B N q' lc ls → Q none N) (hn : ∀ w N, qsF T (.inr (q, lc)) = .inl w → MG t B N → iv N 468 14 = (t : Int) → iv N 468 4 = (w : Int) → Q none N) : Run (e + 1) mX11_clause 184 [some (vR 468), some (vI ((140 * t + c : Nat) : Int)), some (vI 1)] [] M Q := by
  have hS := g.1.shp hSB
  have h240 := hT.2.1
  have hk1 := (skT_in (T := T) q).1
  have hk2 := (skT_in (T := T) q).2 hq2
  refine vn_clause_184 (by omega) hS ?_
  rw [Int.toNat_natCast]
  refine ⟨⟨by omega, by omega⟩, fun N hN sN => ⟨fun z => absurd z (by decide), fun _ => ?_⟩⟩
  have e68 : ∀ i, iv N 468 i = iv M 468 i := fun i => by rw [hN, iv_si, if_neg (by omega)]
  have gN : MG t B N := g.1.mg.trans (MG.cell (Or.inr (Or.inl rfl)) ⟨by omega, by omega⟩ hN)
  have rN : ∀ r, r ≠ 475 → iv N r = iv M r := fun r z => funext (fun i => by rw [hN, iv_si, if_neg (by omega)])
  have n475 : ∀ j, j ≠ 140 * t + c → iv N 475 j = iv B 475 j := fun j z => by rw [hN, iv_si, if_neg (by omega), g.1.1.eiv (by decide)]
  refine ⟨fun z => absurd (by rw [e68]; exact g.wr) z, fun _ => m_look (by omega) sN (gN.mt hT) (by rw [e68]; exact g.2.1.1) (fun M3 k3 e3 => ⟨_, rfl, k3.1.shp sN, fun z N2 hN2 s2 => ?_, fun z N2 hN2 _ => ?_⟩)⟩
  · have hlt : skT T q < T.2 := nxT_lt (by rw [z]; decide)
    have hv : qsF T (.inr (q, lc)) = (match smK T 6 (skT T q + 1) with
      | .inl w => .inl w
      | .inr (q', ls) => .inr (q', lc, ls)) := if_pos z
    rw [e3, w32s (by omega)] at hN2
    have k2 : MN N N2 := k3.si hN2
    have p14 : iv N2 468 14 = (t : Int) := by rw [k2.2 14 (by decide), e68, g.1.2.1 14 (by decide) (by decide) (by decide)]; exact h14
    have p72 : iv N2 472 t = ((n + lc.length : Nat) : Int) := by rw [k2.1.eiv (by decide), rN 472 (by decide)]; exact g.2.2.1
    rw [p14, Int.toNat_natCast, p72]
    refine ⟨⟨by omega, by omega⟩, fun N3 hN3 s3 => ?_⟩
    have gN3 : MG t B N3 := gN.trans (k2.m5.mg.trans (MG.cell (Or.inr (Or.inl rfl)) ⟨by omega, by omega⟩ hN3))
    have r3 : ∀ r, r ≠ 475 → iv N3 r = iv N2 r := fun r y => funext (fun i => by rw [hN3, iv_si, if_neg (by omega)])
    have q14 : iv N3 468 14 = (t : Int) := by rw [r3 468 (by decide)]; exact p14
    have q3 : iv N3 468 3 = ((skT T q + 1 : Nat) : Int) := by rw [r3 468 (by decide)]; exact si_at hN2
    have q4 : iv N3 468 4 = -1 := by rw [r3 468 (by decide), k2.2 4 (by decide), e68]; exact g.wr
    have q5 : iv N3 468 5 = ((0 : Nat) : Int) := by rw [r3 468 (by decide), k2.2 5 (by decide), e68]; exact g.2.1.2.2
    have n475' : ∀ j, iv N3 475 j = if j = 140 * t + c then ((n + lc.length : Nat) : Int) else iv B 475 j := fun j => by
      rw [hN3, iv_si]
      by_cases y : j = 140 * t + c
      · rw [if_pos ⟨rfl, y⟩, if_pos y]
      · rw [if_neg (by omega), if_neg y, k2.1.eiv (by decide), n475 j y]
    refine MP_smK (T := T) 6 e N3 _ (skT T q + 1) (n + lc.length) t 0 (by omega) s3 (gN3.mt hT) ht q14 q3 (by omega) q4 q5 rfl (by rw [r3 472 (by decide)]; exact p72) (by omega) (fun M4 hO => ⟨rfl, hO.mf.shp s3, ?_⟩)
    have s4 := hO.mf.shp s3
    have m14 : iv M4 468 14 = (t : Int) := by rw [hO.mf.2.1 14 (by decide) (by decide) (by decide)]; exact q14
    have m473 : iv M4 473 t = (c : Int) := by rw [hO.mf.1.eiv (by decide), r3 473 (by decide), k2.1.eiv (by decide), rN 473 (by decide), g.1.1.eiv (by decide)]; exact h473
    refine m_end (by omega) s4 ht m14 hc m473 (fun N4 N5 h4 h5 k5 => ?_)
    have ea : ∀ r, r ≠ 473 → r ≠ 476 → iv N5 r = iv M4 r := fun r y1 y2 => funext (fun i => by rw [h5, iv_si, if_neg (by omega), h4, iv_si, if_neg (by omega)])
    cases hr : smK T 6 (skT T q + 1) with
    | inl w =>
      rw [hr] at hO hv
      exact hn w N5 hv (gN3.trans (hO.mf.mg.trans k5)) (by rw [ea 468 (by decide) (by decide)]; exact m14) (by rw [ea 468 (by decide) (by decide)]; exact hO.lft.2.1)
    | inr x =>
      obtain ⟨q', ls⟩ := x
      rw [hr] at hO hv
      have hA := hO.rgt
      obtain ⟨a1, ⟨a2, a2', a2''⟩, a3, a4, a5, a6⟩ := hA
      have low : ∀ j, j < n + lc.length → iv N5 470 (520 * t + j) = iv M 470 (520 * t + j) ∧ iv N5 471 (520 * t + j) = iv M 471 (520 * t + j) := fun j hj => by
        rw [ea 470 (by decide) (by decide), ea 471 (by decide) (by decide), (a4 j hj).1, (a4 j hj).2, r3 470 (by decide), r3 471 (by decide), k2.1.eiv (by decide), k2.1.eiv (by decide), rN 470 (by decide), rN 471 (by decide)]
        exact ⟨rfl, rfl⟩
      refine hy q' ls N5 hv ⟨gN3.trans (hO.mf.mg.trans k5), ⟨by rw [ea 468 (by decide) (by decide)]; exact m14, by rw [ea 468 (by decide) (by decide)]; exact a2, by rw [ea 468 (by decide) (by decide)]; exact a2', by rw [ea 468 (by decide) (by decide)]; exact a2''⟩, ⟨?_, ?_⟩, fun j hj => ?_, ?_, fun j j1 j2 => ?_, fun j => ?_, fun j => ?_, fun j => ?_⟩
      · rw [ea 472 (by decide) (by decide), a3, Nat.add_assoc]
      · rw [h5, iv_si, if_pos ⟨rfl, rfl⟩]
      · obtain ⟨p1, p2⟩ := low j (by omega)
        obtain ⟨p3, p4⟩ := g.2.2.2.1 j hj
        exact ⟨p1.trans p3, p2.trans p4⟩
      · refine (g.2.2.2.2.1.cg (fun j _ hj => ?_)).app (a5.cg (fun j _ _ => ?_))
        · unfold mSg mVl
          rw [(low j hj).1, (low j hj).2]
          exact ⟨rfl, rfl⟩
        · unfold mSg mVl
          rw [ea 470 (by decide) (by decide), ea 471 (by decide) (by decide)]
          exact ⟨rfl, rfl⟩
      · by_cases y : j < n + lc.length
        · rw [(low j y).1]; exact g.2.2.2.2.2 j j1 y
        · rw [ea 470 (by decide) (by decide)]; exact a6 j (by omega) (by omega)
      · rw [ea 474 (by decide) (by decide), a1.1.eiv (by decide), r3 474 (by decide), k2.1.eiv (by decide), rN 474 (by decide), g.1.1.eiv (by decide)]
      · rw [ea 475 (by decide) (by decide), a1.1.eiv (by decide)]; exact n475' j
      · rw [h5, iv_si, if_neg (by omega), h4, iv_si]
        by_cases y : j = 140 * t + c
        · rw [if_pos ⟨rfl, y⟩, if_pos y, a3, Nat.add_assoc]
        · rw [if_neg (by omega), if_neg y, a1.1.eiv (by decide), r3 476 (by decide), k2.1.eiv (by decide), rN 476 (by decide), g.1.1.eiv (by decide)]
  · have hv : qsF T (.inr (q, lc)) = .inl (skT T q) := if_neg z
    have w4 : iv M3 468 4 = -1 := by rw [k3.2 4 (by decide), e68]; exact g.wr
    rw [w4, if_pos rfl, e3] at hN2
    have kk := k3.m5.si hN2 (Or.inr (Or.inl rfl))
    exact hn _ N2 hv (gN.trans kk.mg) (by rw [si_ne hN2 (by decide), k3.2 14 (by decide), e68, g.1.2.1 14 (by decide) (by decide) (by decide)]; exact h14) (si_at hN2)
end MRead4
