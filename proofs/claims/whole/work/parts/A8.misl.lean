/-! THE MODEL reads an island: numbers, items -/
def chY (st : Nat) : Int := if st = 0 then 115 else if st = 1 then 112 else 116
def mnY (st : Nat) : Nat := if st = 1 then 3 else 4
theorem dgF_s {T : jT} {n p : Nat} {v : Int} (h : fDg (hrT T p) = 1) : dgF T (n + 1) p v = dgF T n (p + 1) (10 * v + hrT T p - 48) := by
  rw [dgF, if_pos h]
theorem dgF_n {T : jT} {n p : Nat} {v : Int} (h : ¬ fDg (hrT T p) = 1) : dgF T n p v = .inr (p, v) := by
  cases n <;> rw [dgF, if_neg h]
theorem dgF_0 {T : jT} {p : Nat} {v : Int} (h : fDg (hrT T p) = 1) : dgF T 0 p v = .inl p := by
  rw [dgF, if_pos h]
theorem fIn_b {v lo hi : Int} : fIn v lo hi ≠ 0 ↔ lo ≤ v ∧ v ≤ hi := by
  unfold fIn
  split <;> simp_all
theorem nxT_0 {T : jT} {a : Nat} (hO : OKT T) : nxT T a ≠ 0 := by
  by_cases c : nxT T a = -1
  · rw [c]; decide
  · have h1 := nxT_lt c
    have h2 := hO.2 _ h1
    have e : nxT T a = T.1 (skT T a) := by unfold nxT hrT; rw [if_pos h1]
    omega
theorem imF_1 {c : Int} (h : c ≠ 0) : imF 1 c ≠ 3 := by
  have e : imF 1 c = if (98 : Int) = c then 0 else if (100 : Int) = c then 1 else if (109 : Int) = c then 2 else if (0 : Int) = c then 3 else -1 := rfl
  rw [e]
  repeat' split
  all_goals omega
/-- what a clause's items leave alone -/
def MJ (r : Nat) (M M' : jM) : Prop := Fr (fun s => s = 468 ∨ s = r) M M' ∧ ∀ i, i ≠ 3 → i ≠ 4 → iv M' 468 i = iv M 468 i
section MIsl
variable {d st r fr B a : Nat} {M M1 N : jM} {Q : Option jV → jM → Prop} {T : jT} {it : Nat → Int}
theorem MJ.refl : MJ r M M := ⟨Fr.refl, fun _ _ _ => rfl⟩
theorem MJ.trans (h : MJ r M M1) (k : MJ r M1 N) : MJ r M N := ⟨h.1.trans k.1, fun i h3 h4 => (k.2 i h3 h4).trans (h.2 i h3 h4)⟩
theorem MN.mj (h : MN M M1) : MJ r M M1 := ⟨h.1.mono (fun s hs => Or.inl hs), fun i h3 _ => h.2 i h3⟩
theorem MJ.s4 {v : Int} (h : MJ r M M1) (hN : N = si M1 468 4 v) : MJ r M N := ⟨by rw [hN]; exact h.1.ps (Or.inl rfl), fun i h3 h4 => by rw [hN, iv_si, if_neg (by omega)]; exact h.2 i h3 h4⟩
theorem MJ.row {i : Nat} {v : Int} (h : MJ r M M1) (hr : r ≠ 468) (hN : N = si M1 r i v) : MJ r M N := ⟨by rw [hN]; exact h.1.ps (Or.inr rfl), fun j h3 h4 => by rw [hN, iv_si, if_neg (by omega)]; exact h.2 j h3 h4⟩
theorem MJ.mt (h : MJ r M M1) (hr : r ≠ 469) (hT : MT M T) : MT M1 T := ⟨by rw [h.2 2 (by decide) (by decide)]; exact hT.1, hT.2.1, fun i hi => by rw [h.1.eiv (by omega)]; exact hT.2.2 i hi⟩
theorem m_itemOf {c : Int} (hd : 7 ≤ d) (hS : Shp M) (hst : st < 3) (hc : c ≠ 0) (h : Q (some (vI (imF st c))) M) : Call d mX11_itemOf [vI (chY st), vI c] M Q := by
  obtain ⟨e, rfl⟩ := dd (d := d) (by omega)
  have go : ∀ z, z = imF st c → Q (some (vI z)) M := fun z hz => by rw [hz]; exact h
  have h3 : st = 0 ∨ st = 1 ∨ st = 2 := by omega
  rcases h3 with y | y | y <;> subst y
  · have e : imF 0 c = if (119 : Int) = c then 0 else if (103 : Int) = c then 1 else if (98 : Int) = c then 2 else if (107 : Int) = c then 3 else -1 := rfl
    refine vn_itemOf (by omega) hS ⟨fun z => absurd z (by decide), fun _ v hv => go v ?_, fun z => absurd rfl z.2⟩
    rw [hv, e]
    repeat' split
    all_goals omega
  · have e : imF 1 c = if (98 : Int) = c then 0 else if (100 : Int) = c then 1 else if (109 : Int) = c then 2 else if (0 : Int) = c then 3 else -1 := rfl
    refine vn_itemOf (by omega) hS ⟨fun _ v hv => go v ?_, fun z => absurd z (by decide), fun z => absurd rfl z.1⟩
    rw [hv, e]
    repeat' split
    all_goals omega
  · have e : imF 2 c = if (97 : Int) = c then 0 else if (111 : Int) = c then 1 else if (107 : Int) = c then 2 else if (115 : Int) = c then 3 else -1 := rfl
    refine vn_itemOf (by omega) hS ⟨fun z => absurd z (by decide), fun z => absurd z (by decide), fun _ v hv => go v ?_⟩
    rw [hv, e]
    repeat' split
    all_goals omega
theorem k_all {k : Nat} (hk : k < mnY st) (hst : st < 3) {R : Nat → Nat → Prop} (h : R 0 0 ∧ R 0 1 ∧ R 0 2 ∧ R 0 3 ∧ R 1 0 ∧ R 1 1 ∧ R 1 2 ∧ R 2 0 ∧ R 2 1 ∧ R 2 2 ∧ R 2 3) : R st k := by
  obtain ⟨h1, h2, h3, h4, h5, h6, h7, h8, h9, h10, h11⟩ := h
  have h3 : st = 0 ∨ st = 1 ∨ st = 2 := by omega
  rcases h3 with y | y | y <;> subst y
  · have : k < 4 := hk
    have : k = 0 ∨ k = 1 ∨ k = 2 ∨ k = 3 := by omega
    rcases this with y | y | y | y <;> subst y <;> assumption
  · have : k < 3 := hk
    have : k = 0 ∨ k = 1 ∨ k = 2 := by omega
    rcases this with y | y | y <;> subst y <;> assumption
  · have : k < 4 := hk
    have : k = 0 ∨ k = 1 ∨ k = 2 ∨ k = 3 := by omega
    rcases this with y | y | y | y <;> subst y <;> assumption
theorem m_lowest {k : Nat} (hd : 7 ≤ d) (hS : Shp M) (hst : st < 3) (hk : k < mnY st) (h : Q (some (vI (loY (4 * st + k)))) M) : Call d mX11_lowest [vI (chY st), vI (k : Int)] M Q := by
  obtain ⟨e, rfl⟩ := dd (d := d) (by omega)
  have go : ∀ z, z = loY (4 * st + k) → Q (some (vI z)) M := fun z hz => by rw [hz]; exact h
  refine vn_lowest (by omega) hS ⟨fun z => go _ ?_, fun z => go _ ?_, fun z => go _ ?_⟩
  · exact k_all (R := fun st k => chY st = 112 → (if (k : Int) ≠ 2 then (1 : Int) else 0) = loY (4 * st + k)) hk hst (by decide) z
  · exact k_all (R := fun st k => chY st = 115 → (if (k : Int) = 1 then (1 : Int) else if (k : Int) ≠ 2 then 0 else 1) = loY (4 * st + k)) hk hst (by decide) z
  · exact k_all (R := fun st k => (chY st ≠ 112 ∧ chY st ≠ 115) → (if (k : Int) ≠ 3 then (0 : Int) else 1) = loY (4 * st + k)) hk hst (by decide) z
theorem m_highest {k : Nat} (hd : 7 ≤ d) (hS : Shp M) (hst : st < 3) (hk : k < mnY st) (h : Q (some (vI (hiY (4 * st + k)))) M) : Call d mX11_highest [vI (chY st), vI (k : Int)] M Q := by
  obtain ⟨e, rfl⟩ := dd (d := d) (by omega)
  have go : ∀ z, z = hiY (4 * st + k) → Q (some (vI z)) M := fun z hz => by rw [hz]; exact h
  refine vn_highest (by omega) hS ⟨fun z => go _ ?_, fun z => go _ ?_, fun z v hv => go _ (hv.trans ?_)⟩
  · exact k_all (R := fun st k => chY st = 112 → (if (k : Int) ≠ 2 then (99 : Int) else 2) = hiY (4 * st + k)) hk hst (by decide) z
  · exact k_all (R := fun st k => chY st = 115 → (if (k : Int) ≠ 0 then (99 : Int) else 9) = hiY (4 * st + k)) hk hst (by decide) z
  · exact k_all (R := fun st k => (chY st ≠ 112 ∧ chY st ≠ 115) → (if (k : Int) ≠ 2 then (if (k : Int) ≠ 3 then (7 : Int) else 9) else 2) = hiY (4 * st + k)) hk hst (by decide) z
theorem m_usual {k : Nat} (hd : 7 ≤ d) (hS : Shp M) (hst : st < 3) (hk : k < mnY st) (h : Q (some (vI (utY (4 * st + k)))) M) : Call d mX11_usual [vI (chY st), vI (k : Int)] M Q := by
  obtain ⟨e, rfl⟩ := dd (d := d) (by omega)
  have go : ∀ z, z = utY (4 * st + k) → Q (some (vI z)) M := fun z hz => by rw [hz]; exact h
  refine vn_usual (by omega) hS ⟨fun z v hv => go _ (hv.trans ?_), fun z v hv => go _ (hv.trans ?_), fun z v hv => go _ (hv.trans ?_)⟩
  · exact k_all (R := fun st k => chY st = 112 → (if (k : Int) ≠ 0 then (if (k : Int) ≠ 1 then (0 : Int) else 10) else 9) = utY (4 * st + k)) hk hst (by decide) z
  · exact k_all (R := fun st k => chY st = 115 → (if (k : Int) ≠ 0 then (if (k : Int) ≠ 1 then (if (k : Int) ≠ 2 then (20 : Int) else 60) else 40) else 3) = utY (4 * st + k)) hk hst (by decide) z
  · exact k_all (R := fun st k => (chY st ≠ 112 ∧ chY st ≠ 115) → (if (k : Int) ≠ 1 then (if (k : Int) ≠ 3 then (0 : Int) else 3) else 1) = utY (4 * st + k)) hk hst (by decide) z
theorem bad5 {p : Nat} (k : M5 M M1) (e3 : iv M1 468 3 = (p : Int)) (e4 : iv M1 468 4 = -1) (hN : N = si M1 468 4 (if iv M1 468 4 = -1 then iv M1 468 3 else iv M1 468 4)) : M5 M N ∧ iv N 468 4 = (p : Int) := by
  refine ⟨k.si hN (Or.inr (Or.inl rfl)), ?_⟩
  rw [si_at hN, if_pos e4]
  exact e3
theorem m_num2 {lo hi : Int} (hd : 8 ≤ d) (hS : Shp M) (hT : MT M T) (ha : iv M 468 3 = (a : Int)) (ha2 : a ≤ T.2) (hw : iv M 468 4 = -1) (hy : ∀ q v, nmT T 2 a = .inr (q, v) → lo ≤ v ∧ v ≤ hi → ∀ M', MN M M' → iv M' 468 3 = ((q : Nat) : Int) → Q (some (vI v)) M') (hn : ∀ w, ((∃ q v, nmT T 2 a = .inr (q, v) ∧ ¬ (lo ≤ v ∧ v ≤ hi) ∧ w = q - 1) ∨ nmT T 2 a = .inl w) → ∀ M' z, M5 M M' → (∀ i, i ≠ 3 → i ≠ 4 → iv M' 468 i = iv M 468 i) → iv M' 468 4 = ((w : Nat) : Int) → Q (some (vI z)) M') : Call d mX11_number [vR 468, vI lo, vI hi] M Q := by
  obtain ⟨e, rfl⟩ := dd (d := d) (by omega)
  have h240 := hT.2.1
  have hk1 := (skT_in (T := T) a).2 ha2
  have h34 : ∀ {M1 N : jM}, MN M M1 → N = si M1 468 4 (if iv M1 468 4 = -1 then iv M1 468 3 else iv M1 468 4) → ∀ i, i ≠ 3 → i ≠ 4 → iv N 468 i = iv M 468 i := fun k hN i i3 i4 => by rw [si_ne hN i4]; exact k.2 i i3
  refine vn_number (by omega) hS (m_look (by omega) hS hT ha (fun M2 k2 e2 => ⟨_, rfl, k2.1.shp hS, fun c => ?_, fun c N hN _ => ?_⟩))
  · have c : fDg (nxT T a) = 1 := by
      by_cases y : fDg (nxT T a) = 1
      · exact y
      · exact absurd (fDg_0.mpr y) c
    have hd0 : nmT T 2 a = dgF T 1 (skT T a + 1) (10 * 0 + hrT T (skT T a) - 48) := by
      unfold nmT
      rw [if_pos c, dgF_s c]
    obtain ⟨p, hp⟩ : ∃ p, p = skT T a := ⟨_, rfl⟩
    have hlt : p < T.2 := by rw [hp]; exact nxT_lt (fun y => by rw [y] at c; exact absurd c (by decide))
    have hdg : 48 ≤ hrT T p ∧ hrT T p ≤ 57 := by rw [hp]; exact fDg_1.mp c
    rw [← hp] at e2 hd0
    have T2 := (k2.m5.mf (t := 0)).mt hT
    have t21 := T2.1
    have hx2 := mhr_e T2 e2
    refine ⟨⟨by omega, by omega⟩, fun v8 h8 N9 h9 s9 => ?_⟩
    rw [hx2] at h8
    rw [e2, w32s (by omega)] at h9
    have k9 : MN M N9 := k2.si h9
    have e9 : iv N9 468 3 = ((p + 1 : Nat) : Int) := si_at h9
    have w9 : iv N9 468 4 = -1 := (k9.2 4 (by decide)).trans hw
    have T9 := (k9.m5.mf (t := 0)).mt hT
    have t91 := T9.1
    have hx9 := mhr_e T9 e9
    have a8 : w32 (v8 - 48) = 10 * 0 + hrT T p - 48 := by rw [h8, w32_i (by omega) (by omega)]; omega
    rw [a8, hx9]
    clear a8
    refine ⟨⟨by omega, by omega⟩, fun v12 h12 => ⟨fun c12 v14 h14 => ⟨fun _ => ?_, fun c14 => absurd (by rw [h14, ← h12]; exact c12) c14⟩, fun c12 v23 h23 v24 h24 N25 h25 s25 => ?_⟩⟩
    · have c12 : ¬ fDg (hrT T (p + 1)) = 1 := by rw [h12] at c12; exact fDg_0.mp c12
      rw [dgF_n c12] at hd0
      refine ⟨fun c30 => hy _ _ hd0 (fIn_b.mp c30) N9 k9 e9, fun c30 N17 h17 _ N19 h19 _ => ?_⟩
      rw [e9] at h17
      have k17 : MN M N17 := k9.si h17
      have e17 : iv N17 468 3 = (p : Int) := by rw [si_at h17, w32_i (by omega) (by omega)]; omega
      obtain ⟨b1, b2⟩ := bad5 k17.m5 e17 ((k17.2 4 (by decide)).trans hw) h19
      exact hn p (Or.inl ⟨_, _, hd0, fun y => c30 (fIn_b.mpr y), by omega⟩) N19 _ b1 (h34 k17 h19) b2
    · have c12 : fDg (hrT T (p + 1)) = 1 := by
        by_cases y : fDg (hrT T (p + 1)) = 1
        · exact y
        · rw [h12] at c12; exact absurd (fDg_0.mpr y) c12
      have hdg2 := fDg_1.mp c12
      have hlt2 : p + 1 < T.2 := by
        by_cases z : p + 1 < T.2
        · exact z
        · rw [hrT_end (by omega)] at c12; exact absurd c12 (by decide)
      rw [dgF_s c12] at hd0
      have e24 : v24 = 10 * (10 * 0 + hrT T p - 48) + hrT T (p + 1) - 48 := by
        rw [h24, h23, w32_i (z := 10 * _) (by omega) (by omega), w32_i (z := _ + hrT T (p + 1)) (by omega) (by omega), w32_i (by omega) (by omega)]
      clear h24
      rw [e9, w32s (by omega)] at h25
      have k25 : MN M N25 := k9.si h25
      have e25 : iv N25 468 3 = ((p + 1 + 1 : Nat) : Int) := si_at h25
      have w25 : iv N25 468 4 = -1 := (k25.2 4 (by decide)).trans hw
      have T25 := (k25.m5.mf (t := 0)).mt hT
      have t251 := T25.1
      have hx25 := mhr_e T25 e25
      rw [e24, hx25]
      clear e24
      refine ⟨⟨by omega, by omega⟩, fun v28 h28 => ⟨fun c28 => ?_, fun c28 N35 h35 _ => ?_⟩⟩
      · have c28 : ¬ fDg (hrT T (p + 1 + 1)) = 1 := by rw [h28] at c28; exact fDg_0.mp c28
        rw [dgF_n c28] at hd0
        refine ⟨fun c30 => hy _ _ hd0 (fIn_b.mp c30) N25 k25 e25, fun c30 N31 h31 _ N33 h33 _ => ?_⟩
        rw [e25] at h31
        have k31 : MN M N31 := k25.si h31
        have e31 : iv N31 468 3 = ((p + 1 : Nat) : Int) := by rw [si_at h31, w32_i (by omega) (by omega)]; omega
        obtain ⟨b1, b2⟩ := bad5 k31.m5 e31 ((k31.2 4 (by decide)).trans hw) h33
        exact hn (p + 1) (Or.inl ⟨_, _, hd0, fun y => c30 (fIn_b.mpr y), by omega⟩) N33 _ b1 (h34 k31 h33) b2
      · have c28 : fDg (hrT T (p + 1 + 1)) = 1 := by
          by_cases y : fDg (hrT T (p + 1 + 1)) = 1
          · exact y
          · rw [h28] at c28; exact absurd (fDg_0.mpr y) c28
        rw [dgF_0 c28] at hd0
        obtain ⟨b1, b2⟩ := bad5 k25.m5 e25 w25 h35
        exact hn _ (Or.inr hd0) N35 _ b1 (h34 k25 h35) b2
  · have c : ¬ fDg (nxT T a) = 1 := fun y => c (by rw [y]; decide)
    have hd0 : nmT T 2 a = .inl (skT T a) := by
      unfold nmT
      rw [if_neg c]
    obtain ⟨b1, b2⟩ := bad5 k2.m5 e2 ((k2.2 4 (by decide)).trans hw) hN
    exact hn _ (Or.inr hd0) N _ b1 (h34 k2 hN) b2
theorem fHas_b {g k : Nat} (hg : g < 16) (hk : k < 4) : fHas (g : Int) (k : Int) ≠ 0 ↔ g.testBit k = true := by
  unfold fHas
  rw [(bits hg hk).2.2.2.1]
  cases g.testBit k <;> simp
end MIsl
