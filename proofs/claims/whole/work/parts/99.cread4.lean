/-! THE CLASS reads a law -/
def RowC (c f e : Nat → Int) : Nat → List (Nat × Nat × Nat) → Prop
  | _, [] => True
  | i, x :: r => c i = (x.1 : Int) ∧ f i = (x.2.1 : Int) ∧ e i = (x.2.2 : Int) ∧ RowC c f e (i + 1) r
theorem RowC.cg {c f e c' f' e' : Nat → Int} : ∀ {l : List (Nat × Nat × Nat)} {i : Nat}, RowC c f e i l → (∀ j, i ≤ j → j < i + l.length → c' j = c j ∧ f' j = f j ∧ e' j = e j) → RowC c' f' e' i l
  | [], _, _, _ => trivial
  | x :: r, i, h, k => by
    obtain ⟨h1, h2, h3, h4⟩ := h
    obtain ⟨e1, e2, e3⟩ := k i (Nat.le_refl _) (by simp)
    exact ⟨e1.trans h1, e2.trans h2, e3.trans h3, h4.cg (fun j g1 g2 => k j (by omega) (by simp only [List.length_cons]; omega))⟩
theorem RowC.app {c f e : Nat → Int} : ∀ {l l' : List (Nat × Nat × Nat)} {i : Nat}, RowC c f e i l → RowC c f e (i + l.length) l' → RowC c f e i (l ++ l')
  | [], _, _, _, h' => h'
  | x :: r, l', i, h, h' => ⟨h.1, h.2.1, h.2.2.1, RowC.app h.2.2.2 (by rw [show i + 1 + r.length = i + (x :: r).length by simp only [List.length_cons]; omega]; exact h')⟩
def KL (M M' : jM) : Prop := Fr (fun r => r = 7 ∨ (20 ≤ r ∧ r ≤ 25)) M M' ∧ ∀ i, i ≠ 2 → i ≠ 3 → iv M' 7 i = iv M 7 i
/-- a law read so far -/
def LA (M0 M : jM) (a : Nat) (L : jL) : Prop := KL M0 M ∧ iv M 7 2 = (a : Int) ∧ iv M 7 3 = -1 ∧ iv M 20 2 = (L.1.length : Int) ∧ iv M 20 6 = (L.2.length : Int) ∧ RowL (iv M 21) (iv M 22) 0 L.1 ∧ RowC (iv M 23) (iv M 24) (iv M 25) 0 L.2
section CRead4
variable {d : Nat} {M0 M M1 N B : jM} {Q : Option jV → jM → Prop} {T : jT} {a : Nat} {L : jL}
theorem KL.trans (h : KL M M1) (k : KL M1 N) : KL M N := ⟨h.1.trans k.1, fun i hi hj => (k.2 i hi hj).trans (h.2 i hi hj)⟩
theorem KF.kl (h : KF M M1) : KL M M1 := ⟨h.1.mono (by intro r hr; omega), h.2.1⟩
theorem KL.kt (h : KL M M1) (hT : KT M T) : KT M1 T := ⟨by rw [h.2 1 (by decide) (by decide)]; exact hT.1, hT.2.1, fun i hi => by rw [h.1.eiv (by omega)]; exact hT.2.2 i hi⟩
theorem KL.of {P : Nat → Prop} (h : Fr P M M1) (hp : ∀ r, P r → 20 ≤ r ∧ r ≤ 25) : KL M M1 := ⟨h.mono (fun r hr => Or.inr (hp r hr)), fun i _ _ => by rw [h.eiv (fun z => by have := hp _ z; omega)]⟩
theorem LA.fin {q : Nat} {lc ls : List (Int × Int)} (g : LA M0 M a L) (k : KL M N) (e2 : iv N 7 2 = (q : Int)) (e3 : iv N 7 3 = -1) (n2 : iv N 20 2 = ((L.1.length + (lc.length + ls.length) : Nat) : Int)) (n6 : iv N 20 6 = ((L.2.length + 1 : Nat) : Int)) (r1 : ∀ j, j < L.1.length → iv N 21 j = iv M 21 j ∧ iv N 22 j = iv M 22 j) (r2 : RowL (iv N 21) (iv N 22) L.1.length (lc ++ ls)) (c1 : ∀ j, j < L.2.length → iv N 23 j = iv M 23 j ∧ iv N 24 j = iv M 24 j ∧ iv N 25 j = iv M 25 j) (c2 : iv N 23 L.2.length = (L.1.length : Int) ∧ iv N 24 L.2.length = ((L.1.length + lc.length : Nat) : Int) ∧ iv N 25 L.2.length = ((L.1.length + (lc.length + ls.length) : Nat) : Int)) : LA M0 N q (L.1 ++ (lc ++ ls), L.2 ++ [(L.1.length, L.1.length + lc.length, L.1.length + (lc.length + ls.length))]) := by
  obtain ⟨g1, g2, g3, g4, g5, g6, g7⟩ := g
  refine ⟨g1.trans k, e2, e3, ?_, ?_, ?_, ?_⟩
  · rw [n2]
    show _ = (((L.1 ++ (lc ++ ls)).length : Nat) : Int)
    rw [List.length_append, List.length_append]
  · rw [n6]
    show _ = (((L.2 ++ _).length : Nat) : Int)
    rw [List.length_append]
    rfl
  · exact (g6.cg (fun j _ h => r1 j (by omega))).app (by rw [Nat.zero_add]; exact r2)
  · exact (g7.cg (fun j _ h => c1 j (by omega))).app (by rw [Nat.zero_add]; exact ⟨c2.1, c2.2.1, c2.2.2, trivial⟩)
/-- behind a condition: ? and a sum -/
theorem c_tail {e n q : Nat} {lc : List (Int × Int)} {cc : Nat} (he : 220 ≤ e) (hSB : Shp B) (hT : KT B T) (g : KA B M n q lc) (hq : n + lc.length ≤ q) (hq2 : q ≤ T.2) (hcc : iv B 20 6 = (cc : Int)) (hc64 : cc < 64) (hy : ∀ q' ls N, qsF T (.inr (q, lc)) = .inr (q', lc, ls) → KL B N → iv N 7 2 = (q' : Int) → iv N 7 3 = iv B 7 3 → iv N 20 2 = ((n + (lc.length + ls.length) : Nat) : Int) → iv N 20 6 = ((cc + 1 : Nat) : Int) → (∀ j, j < n → iv N 21 j = iv B 21 j ∧ iv N 22 j = iv B 22 j) → RowL (iv N 21) (iv N 22) n (lc ++ ls) → (∀ j, iv N 23 j = iv B 23 j) → (∀ j, iv N 24 j = if j = cc then ((n + lc.length : Nat) : Int) else iv B 24 j) → (∀ j, iv N 25 j = if j = cc then ((n + (lc.length + ls.length) : Nat) : Int) else iv B 25 j) → Q (some (vI 1)) N) (hn : ∀ w N, qsF T (.inr (q, lc)) = .inl w → KL B N → iv N 7 3 = (w : Int) → Q (some (vI 0)) N) : Call e mX8_take [vR 7, vI (63 : Int)] M (fun r32 M30 => ∃ z29 : Int, r32 = some (vI z29) ∧ Shp M30 ∧ (((z29 ≠ (0 : Int)) → (∀ N35 : jM, N35 = (ptv M30 64 24 (iv M30 20 6) (iv M30 20 2)) → Shp N35 → (Call e mX4_readSum [vR 19, vR 7, vI (0 : Int)] N35 (fun r40 M38 => ∃ z37 : Int, r40 = some (vI z37) ∧ Shp M38 ∧ (((z37 ≠ (0 : Int)) → (∀ N43 : jM, N43 = (si (ptv M38 64 25 (iv M38 20 6) (iv M38 20 2)) 20 6 (w32 (iv M38 20 6 + 1))) → Shp N43 → (Q (some (vI (1 : Int))) N43))) ∧ (¬ (z37 ≠ (0 : Int)) → (Q (some (vI (0 : Int))) M38))))))) ∧ (¬ (z29 ≠ (0 : Int)) → (∀ N45 : jM, N45 = (si M30 7 3 (iv M30 7 2)) → Shp N45 → (Q (some (vI (0 : Int))) N45))))) := by
  have sM := g.1.shp hSB
  have h240 := hT.2.1
  have hk1 := (skT_in (T := T) q).1
  refine c_take (by omega) sM (hT.kf g.1) g.2.1 (by decide) (fun z M3 k3 e3 => ⟨_, rfl, k3.1.shp sM, fun _ N hN sN => ?_, fun y => absurd (by decide) y⟩) (fun z M3 k3 e3 => ⟨_, rfl, k3.1.shp sM, fun y => absurd rfl y, fun _ N hN sN => ?_⟩)
  · have hlt : skT T q < T.2 := nxT_lt (by rw [z]; decide)
    have g3 : KA B M3 n (skT T q + 1) lc := g.next k3 e3
    have h6 : iv M3 20 6 = (cc : Int) := by rw [g3.1.2.2 6 (by decide)]; exact hcc
    rw [h6, g3.2.2.2.1] at hN
    have fN : Fr (fun r => r = 24) M3 N := by rw [hN]; exact fr_ptv rfl
    have n24 : ∀ j, iv N 24 j = if j = cc then ((n + lc.length : Nat) : Int) else iv B 24 j := fun j => by
      rw [hN, iv_ptv, g3.1.1.eiv (by decide)]
      by_cases c : j = cc
      · rw [if_pos c, if_pos ⟨rfl, by omega, by omega⟩]
      · rw [if_neg c, if_neg (by omega)]
    have kN : KL B N := g3.1.kl.trans (KL.of fN (by intro r hr; omega))
    have e7 : ∀ i, iv N 7 i = iv M3 7 i := fun i => by rw [fN.eiv (by decide)]
    have e20 : ∀ i, iv N 20 i = iv M3 20 i := fun i => by rw [fN.eiv (by decide)]
    refine CP_smK (T := T) 6 0 rfl e N _ (skT T q + 1) (n + lc.length) (by omega) sN (kN.kt hT) (by rw [e7]; exact g3.2.1) (by omega) (by rw [e20]; exact g3.2.2.2.1) (by omega) (fun M4 b hO => ⟨b, rfl, hO.kf.shp sN, ?_⟩)
    have hv : qsF T (.inr (q, lc)) = (match smK T 6 (skT T q + 1) with
      | .inl w => .inl w
      | .inr (q', ls) => .inr (q', lc, ls)) := if_pos z
    have hok := okP_smK (T := T) 6 (skT T q + 1) (by omega)
    cases hr : smK T 6 (skT T q + 1) with
    | inl w =>
      rw [hr] at hO hv
      obtain ⟨b0, kf, e3⟩ := hO.lft
      exact ⟨fun z => absurd b0 z, fun _ => hn w M4 hv (kN.trans kf.kl) e3⟩
    | inr x =>
      obtain ⟨q', ls⟩ := x
      rw [hr] at hO hv hok
      obtain ⟨b1, ka⟩ := hO.rgt
      obtain ⟨o1, o2, o3⟩ := hok
      refine ⟨fun _ N5 hN5 _ => ?_, fun z => absurd (by omega) z⟩
      obtain ⟨k1, k2, k3', k4, k5, k6⟩ := ka
      have h6' : iv M4 20 6 = (cc : Int) := by rw [k1.2.2 6 (by decide), e20]; exact h6
      rw [h6', k4, w32s (by omega)] at hN5
      have fN5 : Fr (fun r => r = 20 ∨ r = 25) M4 N5 := by rw [hN5]; exact (fr_ptv (P := fun r => r = 20 ∨ r = 25) (Or.inr rfl)).ps (Or.inl rfl)
      have e57 : ∀ i, iv N5 7 i = iv M4 7 i := fun i => by rw [fN5.eiv (by decide)]
      have e521 : ∀ i, iv N5 21 i = iv M4 21 i := fun i => by rw [fN5.eiv (by decide)]
      have e522 : ∀ i, iv N5 22 i = iv M4 22 i := fun i => by rw [fN5.eiv (by decide)]
      have low : ∀ j, j < n + lc.length → iv N5 21 j = iv M3 21 j ∧ iv N5 22 j = iv M3 22 j := fun j hj => by
        rw [e521, e522]
        obtain ⟨p1, p2⟩ := k5 j hj
        rw [p1, p2, fN.eiv (by decide), fN.eiv (by decide)]
        exact ⟨rfl, rfl⟩
      refine hy q' ls N5 hv (kN.trans (k1.kl.trans (KL.of fN5 (by intro r hr; omega)))) (by rw [e57]; exact k2) (by rw [e57, k3', e7]; exact g3.2.2.1) ?_ ?_ (fun j hj => ?_) ?_ (fun j => ?_) (fun j => ?_) (fun j => ?_)
      · rw [hN5, iv_si, if_neg (by omega), iv_ptv, if_neg (by omega), k4, Nat.add_assoc]
      · rw [hN5, iv_si, if_pos ⟨rfl, rfl⟩]
      · obtain ⟨p1, p2⟩ := low j (by omega)
        obtain ⟨p3, p4⟩ := g3.2.2.2.2.1 j hj
        exact ⟨p1.trans p3, p2.trans p4⟩
      · exact (g3.2.2.2.2.2.cg (fun j _ hj => low j hj)).app (k6.cg (fun j _ _ => ⟨e521 j, e522 j⟩))
      · rw [fN5.eiv (by decide), k1.1.eiv (by decide), fN.eiv (by decide), g3.1.1.eiv (by decide)]
      · rw [fN5.eiv (by decide), k1.1.eiv (by decide)]; exact n24 j
      · rw [hN5, iv_si, if_neg (by omega), iv_ptv, k1.1.eiv (by decide), fN.eiv (by decide), g3.1.1.eiv (by decide)]
        by_cases c : j = cc
        · rw [if_pos c, if_pos ⟨rfl, by omega, by omega⟩, Nat.add_assoc]
        · rw [if_neg c, if_neg (by omega)]
  · have hv : qsF T (.inr (q, lc)) = .inl (skT T q) := if_neg z
    exact hn _ N hv ((g.next k3 e3).1.si3 hN).kl (by rw [hN, iv_si, if_pos ⟨rfl, rfl⟩]; exact e3)
theorem c_clause (hd : 600 ≤ d) (hS0 : Shp M0) (hT0 : KT M0 T) (g : LA M0 M a L) (ha : a ≤ T.2) (hl : L.1.length ≤ a) (h4 : 4 * L.2.length ≤ a) (hy : ∀ q lc ls M', clF T a = .inr (q, lc, ls) → LA M0 M' q (L.1 ++ (lc ++ ls), L.2 ++ [(L.1.length, L.1.length + lc.length, L.1.length + (lc.length + ls.length))]) → Q (some (vI 1)) M') (hn : ∀ w M', clF T a = .inl w → KL M0 M' → iv M' 7 3 = (w : Int) → Q (some (vI 0)) M') : Call d mX4_readClause [vR 19, vR 7] M Q := by
  obtain ⟨e, rfl⟩ := dd (d := d) (by omega)
  obtain ⟨g1, g2, g3, g4, g5, g6, g7⟩ := g
  have hS := g1.1.shp hS0
  have hT := g1.kt hT0
  have h240 := hT.2.1
  have hk1 := (skT_in (T := T) a).1
  unfold clF at hy hn
  refine vk_readClause (by omega) hS (c_take (by omega) hS hT g2 (by decide) (fun z M2 k2 e2 => ⟨_, rfl, k2.1.shp hS, fun y => absurd y (by decide), fun _ => ?_⟩) (fun z M2 k2 e2 => ⟨_, rfl, k2.1.shp hS, fun _ N hN _ => ?_, fun y => absurd rfl y⟩))
  · have hlt : skT T a < T.2 := nxT_lt (by rw [z]; decide)
    rw [if_neg (fun y => y z)] at hy hn
    have s2 := k2.1.shp hS
    have T2 := hT.kf k2.kf
    have hk2 := (skT_in (T := T) (skT T a + 1)).1
    refine c_take (by omega) s2 T2 e2 (by decide) (fun z2 M3 k3 e3 => ⟨_, rfl, k3.1.shp s2, fun _ N hN sN => ?_, fun y => absurd (by decide) y⟩) (fun z2 M3 k3 e3 => ⟨_, rfl, k3.1.shp s2, fun y => absurd rfl y, fun _ N hN _ => ?_⟩)
    · have hlt2 : skT T (skT T a + 1) < T.2 := nxT_lt (by rw [z2]; decide)
      rw [if_neg (fun y => y z2)] at hy hn
      -- the clause begins at b
      have k23 := k2.trans k3
      have f20 : ∀ i, iv M3 20 i = iv M 20 i := fun i => by rw [k23.1.eiv (by decide)]
      rw [f20, f20, g4, g5] at hN
      have fN : Fr (fun r => r = 23 ∨ r = 24) M3 N := by rw [hN]; exact (fr_ptv (P := fun r => r = 23 ∨ r = 24) (Or.inl rfl)).pv (Or.inr rfl)
      have n23 : ∀ j, iv N 23 j = if j = L.2.length then (L.1.length : Int) else iv M 23 j := fun j => by
        rw [hN, iv_ptv, if_neg (by omega), iv_ptv, k23.1.eiv (by decide)]
        by_cases c : j = L.2.length
        · rw [if_pos c, if_pos ⟨rfl, by omega, by omega⟩]
        · rw [if_neg c, if_neg (by omega)]
      have n24 : ∀ j, iv N 24 j = if j = L.2.length then (L.1.length : Int) else iv M 24 j := fun j => by
        rw [hN, iv_ptv]
        by_cases c : j = L.2.length
        · rw [if_pos c, if_pos ⟨rfl, by omega, by omega⟩]
        · rw [if_neg c, if_neg (by omega), iv_ptv, if_neg (by omega), k23.1.eiv (by decide)]
      have n25 : iv N 25 = iv M 25 := by rw [fN.eiv (by decide), k23.1.eiv (by decide)]
      have n21 : iv N 21 = iv M 21 := by rw [fN.eiv (by decide), k23.1.eiv (by decide)]
      have n22 : iv N 22 = iv M 22 := by rw [fN.eiv (by decide), k23.1.eiv (by decide)]
      have n20 : ∀ i, iv N 20 i = iv M 20 i := fun i => by rw [fN.eiv (by decide), f20]
      have n7 : ∀ i, iv N 7 i = iv M3 7 i := fun i => by rw [fN.eiv (by decide)]
      have n73 : iv N 7 3 = -1 := by rw [n7, k23.2 3 (by decide)]; exact g3
      have kN : KL M N := k23.kf.kl.trans (KL.of fN (by intro r hr; omega))
      have TN := kN.kt hT
      have fin : ∀ q lc, L.1.length + lc.length ≤ q → q ≤ T.2 → clB T (skT T (skT T a + 1) + 1) = qsF T (.inr (q, lc)) → ∀ M4, KA N M4 L.1.length q lc → Call e mX8_take [vR 7, vI (63 : Int)] M4 (fun r32 M30 => ∃ z29 : Int, r32 = some (vI z29) ∧ Shp M30 ∧ (((z29 ≠ (0 : Int)) → (∀ N35 : jM, N35 = (ptv M30 64 24 (iv M30 20 6) (iv M30 20 2)) → Shp N35 → (Call e mX4_readSum [vR 19, vR 7, vI (0 : Int)] N35 (fun r40 M38 => ∃ z37 : Int, r40 = some (vI z37) ∧ Shp M38 ∧ (((z37 ≠ (0 : Int)) → (∀ N43 : jM, N43 = (si (ptv M38 64 25 (iv M38 20 6) (iv M38 20 2)) 20 6 (w32 (iv M38 20 6 + 1))) → Shp N43 → (Q (some (vI (1 : Int))) N43))) ∧ (¬ (z37 ≠ (0 : Int)) → (Q (some (vI (0 : Int))) M38))))))) ∧ (¬ (z29 ≠ (0 : Int)) → (∀ N45 : jM, N45 = (si M30 7 3 (iv M30 7 2)) → Shp N45 → (Q (some (vI (0 : Int))) N45))))) := by
        intro q lc o1 o2 hcl M4 g4'
        rw [hcl] at hy hn
        refine c_tail (by omega) sN TN g4' o1 o2 (by rw [n20]; exact g5) (by omega) (fun q' ls N2 hv kN2 a1 a2 a3 a4 a5 a6 a7 a8 a9 => ?_) (fun w N2 hv kN2 a1 => hn w N2 hv (g1.trans (kN.trans kN2)) a1)
        refine hy q' lc ls N2 hv (LA.fin ⟨g1, g2, g3, g4, g5, g6, g7⟩ (kN.trans kN2) a1 (by rw [a2]; exact n73) a3 a4 (fun j hj => by rw [(a5 j hj).1, (a5 j hj).2, n21, n22]; exact ⟨rfl, rfl⟩) a6 (fun j hj => ?_) ?_)
        · rw [a7, a8, a9, if_neg (by omega), if_neg (by omega), n23, n24, n25, if_neg (by omega), if_neg (by omega)]
          exact ⟨rfl, rfl, rfl⟩
        · rw [a7, a8, a9, if_pos rfl, if_pos rfl, n23, if_pos rfl]
          exact ⟨rfl, rfl, rfl⟩
      have p7 : iv N 7 2 = ((skT T (skT T a + 1) + 1 : Nat) : Int) := by rw [n7]; exact e3
      have gB : KA N N L.1.length (skT T (skT T a + 1) + 1) [] := KA.start p7 (by rw [n20]; exact g4)
      have hk3 := (skT_in (T := T) (skT T (skT T a + 1) + 1)).1
      have hk4 := (skT_in (T := T) (skT T (skT T a + 1) + 1)).2 (by omega)
      refine c_next (by omega) sN TN p7 (fun M5 k5 e5 => ⟨_, rfl, k5.1.shp sN, fun y => ?_, fun y => ?_⟩)
      · -- a condition first
        have s5 := k5.1.shp sN
        have hb : nxT T (skT T (skT T a + 1) + 1) = 33 ∨ nxT T (skT T (skT T a + 1) + 1) = 40 := by
          by_cases c1 : nxT T (skT T (skT T a + 1) + 1) = 33
          · exact Or.inl c1
          · rw [if_neg c1] at y
            by_cases c2 : nxT T (skT T (skT T a + 1) + 1) = 40
            · exact Or.inr c2
            · rw [if_neg c2] at y; exact absurd y (by decide)
        rw [y]
        have hB : clB T (skT T (skT T a + 1) + 1) = qsF T (cdF T (unK T 6) (unK T 6 (skT T (skT T a + 1) + 1))) := if_pos hb
        have usk : unK T 6 (skT T (skT T (skT T a + 1) + 1)) = unK T 6 (skT T (skT T a + 1) + 1) := by
          rw [unK_e]
          unfold unF
          rw [nxT_sk, skT_sk, smK_sk]
        refine (CP_unK (T := T) 6 0 rfl).2 e M5 _ (skT T (skT T (skT T a + 1) + 1)) L.1.length (by omega) s5 (TN.kf k5.kf) e5 hk4 (by rw [k5.1.eiv (by decide), n20]; exact g4) (by omega) (fun M6 b hO => ⟨b, rfl, hO.kf.shp s5, ?_⟩)
        have hO : KO M5 M6 L.1.length (cdF T (unK T 6) (unK T 6 (skT T (skT T (skT T a + 1) + 1)))) b := hO
        rw [usk] at hO
        have hO := hO.pre k5
        have hok := okR_cd (okP_unK (T := T) 6) (okP_unK (T := T) 6 (skT T (skT T a + 1) + 1) (by omega))
        cases hr : cdF T (unK T 6) (unK T 6 (skT T (skT T a + 1) + 1)) with
        | inl w =>
          rw [hr] at hO hB
          obtain ⟨b0, kf, e3⟩ := hO.lft
          rw [hB] at hn
          exact ⟨fun z => absurd b0 z, fun _ => hn w M6 rfl (g1.trans (kN.trans kf.kl)) e3⟩
        | inr x =>
          obtain ⟨q, lc⟩ := x
          rw [hr] at hO hB hok
          obtain ⟨b1, ka⟩ := hO.rgt
          obtain ⟨o1, o2, o3⟩ := hok
          exact ⟨fun _ => fin q lc (by omega) o3 hB M6 ka, fun z => absurd (by omega) z⟩
      · -- a sum first
        have s5 := k5.1.shp sN
        have hb : ¬ (nxT T (skT T (skT T a + 1) + 1) = 33 ∨ nxT T (skT T (skT T a + 1) + 1) = 40) := by
          intro c
          rcases c with c | c
          · rw [if_pos c] at y; exact y rfl
          · by_cases c1 : nxT T (skT T (skT T a + 1) + 1) = 33
            · rw [if_pos c1] at y; exact y rfl
            · rw [if_neg c1, if_pos c] at y; exact y rfl
        have y1 : (if nxT T (skT T (skT T a + 1) + 1) = 33 then (0 : Int) else if nxT T (skT T (skT T a + 1) + 1) = 40 then 0 else 1) = 1 := by
          rw [if_neg (fun c => hb (Or.inl c)), if_neg (fun c => hb (Or.inr c))]
        rw [y1]
        have hB : clB T (skT T (skT T a + 1) + 1) = (match smK T 6 (skT T (skT T a + 1) + 1) with
          | .inl w => .inl w
          | .inr (q, l) => if fSg (nxT T q) = 1 then qsF T (cdF T (unK T 6) (cmF T (smK T 6) (.inr (q, l)))) else .inr (skT T q, [], l)) := if_neg hb
        refine CP_smK (T := T) 6 0 rfl e M5 _ (skT T (skT T (skT T a + 1) + 1)) L.1.length (by omega) s5 (TN.kf k5.kf) e5 hk4 (by rw [k5.1.eiv (by decide), n20]; exact g4) (by omega) (fun M6 b hO => ⟨b, rfl, hO.kf.shp s5, ?_⟩)
        rw [smK_sk] at hO
        have hO := hO.pre k5
        have hok := okP_smK (T := T) 6 (skT T (skT T a + 1) + 1) (by omega)
        cases hr : smK T 6 (skT T (skT T a + 1) + 1) with
        | inl w =>
          rw [hr] at hO hB
          obtain ⟨b0, kf, e3⟩ := hO.lft
          rw [hB] at hn
          exact ⟨fun z => absurd b0 z, fun _ => hn w M6 rfl (g1.trans (kN.trans kf.kl)) e3⟩
        | inr x =>
          obtain ⟨q, l⟩ := x
          rw [hr] at hO hB hok
          dsimp only at hB
          obtain ⟨b1, ka⟩ := hO.rgt
          obtain ⟨o1, o2, o3⟩ := hok
          have s6 := ka.1.shp sN
          refine ⟨fun _ => c_next (by omega) s6 (TN.kf ka.1) ka.2.1 (fun M7 k7 e7 => ⟨_, rfl, k7.1.shp s6, fun y2 => ?_, fun y2 N2 hN2 _ => ?_⟩), fun z => absurd (by omega) z⟩
          · rw [fSg_0] at y2
            rw [if_pos y2] at hB
            have ka7 := ka.next k7 e7
            have hk7 := (skT_in (T := T) q).1
            have csk : cmF T (smK T 6) (.inr (skT T q, l)) = cmF T (smK T 6) (.inr (q, l)) := by
              unfold cmF
              dsimp only
              rw [nxT_sk, skT_sk]
            refine CQ_cond (T := T) e N M7 _ (skT T q) L.1.length l (by omega) sN TN ka7 (by omega) ((skT_in (T := T) q).2 o3) (fun M8 b hO => ⟨b, rfl, hO.kf.shp sN, ?_⟩)
            have hO : KO N M8 L.1.length (cdF T (unK T 6) (cmF T (smK T 6) (.inr (skT T q, l)))) b := hO
            rw [csk] at hO
            have hok2 := okR_cd (okP_unK (T := T) 6) (okR_cm (okP_smK (T := T) 6) (r := .inr (q, l)) (a0 := skT T (skT T a + 1) + 1) ⟨o1, o2, o3⟩)
            cases hr2 : cdF T (unK T 6) (cmF T (smK T 6) (.inr (q, l))) with
            | inl w =>
              rw [hr2] at hO hB
              obtain ⟨b0, kf, e3⟩ := hO.lft
              rw [hB] at hn
              exact ⟨fun z => absurd b0 z, fun _ => hn w M8 rfl (g1.trans (kN.trans kf.kl)) e3⟩
            | inr x =>
              obtain ⟨q2, lc⟩ := x
              rw [hr2] at hO hB hok2
              obtain ⟨b1, ka2⟩ := hO.rgt
              obtain ⟨p1, p2, p3⟩ := hok2
              exact ⟨fun _ => fin q2 lc (by omega) p3 hB M8 ka2, fun z => absurd (by omega) z⟩
          · rw [fSg_0] at y2
            rw [if_neg y2] at hB
            rw [hB] at hy
            have ka7 := ka.next k7 e7
            obtain ⟨q1, q2, q3, q4, q5, q6⟩ := ka7
            have h6 : iv M7 20 6 = (L.2.length : Int) := by rw [q1.2.2 6 (by decide), n20]; exact g5
            rw [h6, q4, w32s (by omega)] at hN2
            have fN2 : Fr (fun r => r = 20 ∨ r = 25) M7 N2 := by rw [hN2]; exact (fr_ptv (P := fun r => r = 20 ∨ r = 25) (Or.inr rfl)).ps (Or.inl rfl)
            have m7 : ∀ i, iv N2 7 i = iv M7 7 i := fun i => by rw [fN2.eiv (by decide)]
            have m21 : iv N2 21 = iv M7 21 := fN2.eiv (by decide)
            have m22 : iv N2 22 = iv M7 22 := fN2.eiv (by decide)
            refine hy (skT T q) [] l N2 rfl (LA.fin ⟨g1, g2, g3, g4, g5, g6, g7⟩ (kN.trans (q1.kl.trans (KL.of fN2 (by intro r hr; omega)))) (by rw [m7]; exact q2) (by rw [m7, q3]; exact n73) ?_ ?_ (fun j hj => ?_) (by rw [m21, m22]; exact q6) (fun j hj => ?_) ?_)
            · rw [hN2, iv_si, if_neg (by omega), iv_ptv, if_neg (by omega), q4]
              show _ = ((L.1.length + (0 + l.length) : Nat) : Int)
              rw [Nat.zero_add]
            · rw [hN2, iv_si, if_pos ⟨rfl, rfl⟩]
            · rw [m21, m22, (q5 j hj).1, (q5 j hj).2, n21, n22]; exact ⟨rfl, rfl⟩
            · rw [fN2.eiv (by decide), fN2.eiv (by decide), q1.1.eiv (by decide), q1.1.eiv (by decide), n23, n24, if_neg (by omega), if_neg (by omega), hN2, iv_si, if_neg (by omega), iv_ptv, if_neg (by omega), q1.1.eiv (by decide), n25]
              exact ⟨rfl, rfl, rfl⟩
            · rw [fN2.eiv (by decide), fN2.eiv (by decide), q1.1.eiv (by decide), q1.1.eiv (by decide), n23, n24, if_pos rfl, if_pos rfl, hN2, iv_si, if_neg (by omega), iv_ptv, if_pos ⟨rfl, rfl, by omega⟩]
              refine ⟨rfl, rfl, ?_⟩
              show _ = ((L.1.length + (0 + l.length) : Nat) : Int)
              rw [Nat.zero_add]
    · rw [if_pos z2] at hn
      refine hn _ N rfl (g1.trans ((k2.trans k3).kf.si3 hN).kl) (by rw [hN, iv_si, if_pos ⟨rfl, rfl⟩]; exact e3)
  · rw [if_pos z] at hn
    refine hn _ N rfl (g1.trans (k2.kf.si3 hN).kl) (by rw [hN, iv_si, if_pos ⟨rfl, rfl⟩]; exact e2)
theorem c_readLaw (hd : 602 ≤ d) (hS : Shp M) (hT : KT M T) (hy : ∀ q L M', lwT T = .inr L → LA M M' q L → Q (some (vI 1)) M') (hn : ∀ w M', lwT T = .inl w → KL M M' → iv M' 7 3 = (w : Int) → Q (some (vI 0)) M') : Call d mX4_read [vR 19, vR 7] M Q := by
  obtain ⟨e, rfl⟩ := dd (d := d) (by omega)
  have h240 := hT.2.1
  refine vk_read (by omega) hS (fun N hN _ N2 hN2 sN2 => ?_)
  have f1 : Fr (fun r => r = 20) M N := by rw [hN]; exact (fr_si (P := fun r => r = 20) rfl).ps rfl
  have f2 : Fr (fun r => r = 7) N N2 := by rw [hN2]; exact (fr_si (P := fun r => r = 7) rfl).ps rfl
  have e20 : ∀ i, iv N2 20 i = if i = 2 ∨ i = 6 then 0 else iv M 20 i := fun i => by
    rw [f2.eiv (by decide), hN, iv_si, iv_si]
    by_cases c6 : i = 6
    · rw [if_pos ⟨rfl, c6⟩, if_pos (Or.inr c6)]
    · by_cases c2 : i = 2
      · rw [if_neg (by omega), if_pos ⟨rfl, c2⟩, if_pos (Or.inl c2)]
      · rw [if_neg (by omega), if_neg (by omega), if_neg (by omega)]
  have e7 : ∀ i, iv N2 7 i = if i = 3 then -1 else if i = 2 then 0 else iv M 7 i := fun i => by
    rw [hN2, iv_si, iv_si, f1.eiv (by decide)]
    by_cases c3 : i = 3
    · rw [if_pos ⟨rfl, c3⟩, if_pos c3]
    · by_cases c2 : i = 2
      · rw [if_neg (by omega), if_pos ⟨rfl, c2⟩, if_neg c3, if_pos c2]
      · rw [if_neg (by omega), if_neg (by omega), if_neg c3, if_neg c2]
  have g0 : LA M N2 0 ([], []) := by
    refine ⟨⟨(f1.mono (by intro r hr; omega)).trans (f2.mono (by intro r hr; omega)), fun i h2 h3 => by rw [e7, if_neg h3, if_neg h2]⟩, ?_, ?_, ?_, ?_, trivial, trivial⟩
    · rw [e7]; rfl
    · rw [e7]; rfl
    · rw [e20]; rfl
    · rw [e20]; rfl
  have key : ∀ f i a L M1, T.2 + 1 - a ≤ f → i ≤ a → a ≤ T.2 → LA M M1 a L → L.1.length ≤ a → 4 * L.2.length ≤ a → (∀ q L' M', lwF T f a L = .inr L' → LA M M' q L' → Q (some (vI 1)) M') → (∀ w M', lwF T f a L = .inl w → KL M M' → iv M' 7 3 = (w : Int) → Q (some (vI 0)) M') → Run (e + 1) mX4_read 13 [some (vR 19), some (vR 7), some (vI (i : Int))] [] M1 Q := by
    intro f
    induction f with
    | zero => intro i a L M1 hf _ ha; omega
    | succ f ih =>
      intro i a L M1 hf hi ha g hl h4 hy hn
      have s1 := g.1.1.shp hS
      simp only [lwF] at hy hn
      refine vk_read_13 (by omega) s1 ⟨fun c => absurd c (by omega), fun _ => c_clause (by omega) hS hT g ha hl h4 (fun q lc ls M2 hcl g2 => ⟨_, rfl, g2.1.1.shp hS, fun _ => ?_, fun z => absurd (by decide) z⟩) (fun w M2 hcl k2 e2 => ⟨_, rfl, k2.1.shp hS, fun z => absurd rfl z, fun _ => ?_⟩)⟩
      · have s2 := g2.1.1.shp hS
        have T2 := g2.1.kt hT
        have hok := okC_cl (T := T) ha
        rw [hcl] at hok hy hn
        obtain ⟨o1, o2, o3⟩ := hok
        dsimp only at hy hn
        have hk := (skT_in (T := T) q).1
        have nx : ∀ (a' : Nat) M3, KN M2 M3 → iv M3 7 2 = (a' : Int) → LA M M3 a' (L.1 ++ (lc ++ ls), L.2 ++ [(L.1.length, L.1.length + lc.length, L.1.length + (lc.length + ls.length))]) := by
          intro a' M3 k e3
          obtain ⟨p1, p2, p3, p4, p5, p6, p7⟩ := g2
          refine ⟨p1.trans k.kf.kl, e3, (k.2 3 (by decide)).trans p3, ?_, ?_, ?_, ?_⟩
          · rw [k.1.eiv (by decide)]; exact p4
          · rw [k.1.eiv (by decide)]; exact p5
          · rw [k.1.eiv (by decide), k.1.eiv (by decide)]; exact p6
          · rw [k.1.eiv (by decide), k.1.eiv (by decide), k.1.eiv (by decide)]; exact p7
        refine c_next (by omega) s2 T2 g2.2.1 (fun M3 k3 e3 => ⟨_, rfl, k3.1.shp s2, fun z => ?_, fun z => ?_⟩)
        · rw [if_neg z] at hy hn
          have s3 := k3.1.shp s2
          have g3 := nx _ M3 k3 e3
          refine c_take (a := skT T q) (by omega) s3 (T2.kf k3.kf) e3 (by decide) (fun y M4 k4 e4 => ⟨_, rfl, k4.1.shp s3, fun _ => ?_, fun x => absurd (by decide) x⟩) (fun y M4 k4 e4 => ⟨_, rfl, k4.1.shp s3, fun x => absurd rfl x, fun _ N5 hN5 _ => ?_⟩)
          · rw [nxT_sk] at y
            rw [if_pos y] at hy hn
            rw [skT_sk] at e4
            have hlt : skT T q < T.2 := nxT_lt (by rw [y]; decide)
            rw [w32s (by omega)]
            refine ih (i + 1) (skT T q + 1) _ M4 (by omega) (by omega) (by omega) (nx _ M4 (k3.trans k4) e4) ?_ ?_ hy hn
            · show (L.1 ++ (lc ++ ls)).length ≤ _
              rw [List.length_append, List.length_append]
              omega
            · show 4 * (L.2 ++ _).length ≤ _
              rw [List.length_append]
              show 4 * (L.2.length + 1) ≤ _
              omega
          · rw [nxT_sk] at y
            rw [if_neg y] at hn
            rw [skT_sk] at e4
            exact hn _ N5 rfl ((nx _ M4 (k3.trans k4) e4).1.trans (KF.refl.si3 hN5).kl) (by rw [hN5, iv_si, if_pos ⟨rfl, rfl⟩]; exact e4)
        · rw [if_pos (Classical.not_not.mp z)] at hy
          exact hy (skT T q) _ M3 rfl (nx _ M3 k3 e3)
      · rw [hcl] at hn
        exact hn w M2 rfl k2 e2
  exact key (T.2 + 1) 0 0 ([], []) N2 (by omega) (Nat.le_refl _) (Nat.zero_le _) g0 (Nat.le_refl _) (Nat.le_refl _) hy hn
end CRead4
