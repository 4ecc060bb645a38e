/-! ISLANDS and STATES as they are thought of -/
theorem Fr.pv {P : Nat → Prop} {M M1 : jM} {n r : Nat} {i v : Int} (h : Fr P M M1) (hr : P r) : Fr P M (ptv M1 n r i v) := h.trans (fr_ptv hr)
theorem Fr.ps {P : Nat → Prop} {M M1 : jM} {r i : Nat} {v : Int} (h : Fr P M M1) (hr : P r) : Fr P M (si M1 r i v) := h.trans (fr_si hr)
theorem Fr.pc {P : Nat → Prop} {M M1 : jM} {f t k : Nat} (h : Fr P M M1) (hr : P t) : Fr P M (cpr M1 f t k) := h.trans (fr_cpr hr)
theorem Fr.pl {P : Nat → Prop} {M M1 : jM} {r i : Nat} {v : Int} (h : Fr P M M1) (hr : P r) : Fr P M (sl M1 r i v) := h.trans (fr_sl hr)
theorem Fr.pvl {P : Nat → Prop} {M M1 : jM} {n r : Nat} {i v : Int} (h : Fr P M M1) (hr : P r) : Fr P M (ptl M1 n r i v) := h.trans (fr_ptl hr)
/-- persons, how deep, minds, what a law says, ground, bridge -/
abbrev jI : Type := Nat × (Nat → Int) × (Nat → Int) × Option ((Nat → Int) → Int) × Int × Int
abbrev jI.np (I : jI) : Nat := I.1
abbrev jI.dp (I : jI) : Nat → Int := I.2.1
abbrev jI.mi (I : jI) : Nat → Int := I.2.2.1
abbrev jI.lw (I : jI) : Option ((Nat → Int) → Int) := I.2.2.2.1
abbrev jI.gr (I : jI) : Int := I.2.2.2.2.1
abbrev jI.br (I : jI) : Int := I.2.2.2.2.2
/-- a state: 1 whom, 2 kind, 3 strength, 4 age, 5 mass, 6 body, 7 log; 0: 7 wind, 8 coins, 9 hour -/
abbrev jS : Type := Nat → Nat → Int
def inS (f i : Nat) : Prop := (1 ≤ f ∧ f ≤ 5 ∧ i < 32) ∨ (f = 6 ∧ i < 8) ∨ (f = 0 ∧ 7 ≤ i ∧ i ≤ 9)
def SA (M : jM) (a : Nat) (s : jS) : Prop := ∀ f i, inS f i → iv M (a + f) i = s f i
def SL (M : jM) (a : Nat) (s : jS) : Prop := ∀ i, i < 60 → iv M (a + 7) i = s 7 i
def letF (t k g dp wi ho : Int) : Nat → Int := fun i => if i = 0 then t else if i = 1 then k else if i = 2 then g else if i = 3 then dp else if i = 4 then wi else if i = 5 then ho else 0
def wrthF (I : jI) (q : Nat) (t k g wi ho : Int) : Int := match I.lw with
  | none => 100000 * t / (g + 1)
  | some F => F (letF t k g (I.dp q) wi (ho % 24))
def massF (I : jI) (q : Nat) (t k g wi ho : Int) : Int := rnd (fW (wrthF I q t k g wi ho) 0 1000000 * I.dp q)
def massS (I : jI) (s : jS) (j : Nat) : Int := if s 1 j = -1 then 0 else massF I (j / 4) (s 3 j) (s 2 j) (s 4 j) (s 0 7) (s 0 9)
/-- weighed -/
def pW (I : jI) (s : jS) : jS := fun f i => if f = 5 then massS I s i else s f i
def wtS (s : jS) (p : Nat) : Int := wtF (s 1) (s 5) p (1000 * s 6 p) 32
/-- an hour for the thoughts -/
def pP (s : jS) : jS := fun f i => if f = 1 ∧ s 5 i = 0 then -1 else if f = 4 ∧ s 5 i ≠ 0 ∧ s 4 i < 99 then s 4 i + 1 else if f = 0 ∧ i = 9 then s 0 9 + 1 else s f i
def pLay (s : jS) (j : Nat) (w k t : Int) : jS := fun f i => if i = j ∧ f = 1 then w else if i = j ∧ f = 2 then k else if i = j ∧ f = 3 then t else if i = j ∧ f = 4 then 0 else s f i
def pSet (s : jS) (f0 j : Nat) (w : Int) : jS := fun f i => if i = j ∧ f = f0 then w else s f i
def pGive (s : jS) (q : Nat) (w : Int) : jS := fun f i => if f = 1 ∧ 4 * q ≤ i ∧ i < 4 * q + 4 ∧ s 1 i = w then -1 else s f i
def pRen (s : jS) (w : Int) : jS := fun f i => if f = 4 ∧ s 1 i = w ∧ s 2 i = 2 then 0 else s f i
/-- the law of an island in the memory -/
def LawI (M : jM) (L : Option ((Nat → Int) → Int)) : Prop := match L with
  | none => rv M 29 5 = 0
  | some F => ∃ g, rv M 29 5 = g ∧ 500 ≤ g ∧ LawAt M g ∧ LawW M g ∧ F = lawF M g
def IA (M : jM) (I : jI) : Prop := iv M 29 0 = (I.np : Int) ∧ iv M 29 1 = I.gr ∧ iv M 29 2 = I.br ∧ (∀ i, i < 8 → iv M 30 i = I.dp i) ∧ (∀ i, i < 8 → iv M 31 i = I.mi i) ∧ LawI M I.lw
def WI (I : jI) : Prop := I.np ≤ 8 ∧ (∀ i, i < 8 → 0 ≤ I.dp i ∧ I.dp i ≤ 99) ∧ (∀ i, i < 8 → 0 ≤ I.mi i ∧ I.mi i ≤ 2) ∧ (0 ≤ I.gr ∧ I.gr ≤ 99) ∧ (0 ≤ I.br ∧ I.br ≤ 99)
/-- what every state keeps to -/
def WS (n : Nat) (s : jS) : Prop := (∀ i, i < 32 → -1 ≤ s 1 i ∧ s 1 i < n ∧ 0 ≤ s 2 i ∧ s 2 i ≤ 2 ∧ 0 ≤ s 3 i ∧ s 3 i ≤ 9 ∧ 0 ≤ s 4 i ∧ s 4 i ≤ 99) ∧ (∀ i, i < 32 → 4 * n ≤ i → s 1 i = -1) ∧ (∀ i, i < 8 → 0 ≤ s 6 i ∧ s 6 i ≤ 99) ∧ (0 ≤ s 0 7 ∧ s 0 7 ≤ 9) ∧ (0 ≤ s 0 8 ∧ s 0 8 ≤ 999) ∧ (0 ≤ s 0 9 ∧ s 0 9 ≤ 20000)
def WM (s : jS) : Prop := ∀ j, j < 32 → 0 ≤ s 5 j ∧ s 5 j ≤ 134217728
theorem SA.fr {P : Nat → Prop} {M M' : jM} {a : Nat} {s : jS} (h : SA M a s) (hf : Fr P M M') (hp : ∀ k, k < 7 → ¬ P (a + k)) : SA M' a s := by
  intro f i hi
  rw [hf.eiv (hp f (by unfold inS at hi; omega))]
  exact h f i hi
theorem SL.fr {P : Nat → Prop} {M M' : jM} {a : Nat} {s : jS} (h : SL M a s) (hf : Fr P M M') (hp : ¬ P (a + 7)) : SL M' a s := by
  intro i hi
  rw [hf.eiv hp]
  exact h i hi
theorem IA.fr {P : Nat → Prop} {M M' : jM} {I : jI} (h : IA M I) (hf : Fr P M M') (h29 : ¬ P 29) (h30 : ¬ P 30) (h31 : ¬ P 31) (hg : ∀ g, 500 ≤ g → rv M 29 5 = g → ∀ k, k < 6 → ¬ P (g + k)) : IA M' I := by
  obtain ⟨h1, h2, h3, h4, h5, h6⟩ := h
  unfold IA
  rw [hf.eiv h29, hf.eiv h30, hf.eiv h31]
  refine ⟨h1, h2, h3, h4, h5, ?_⟩
  unfold LawI at h6 ⊢
  split
  · rename_i hl; rw [hl] at h6; rw [hf.erv]; exact h6
  · rename_i F hl
    rw [hl] at h6
    obtain ⟨g, q1, q2, q3, q4, q5⟩ := h6
    obtain ⟨r1, r2⟩ := lawF_fr (g := g) hf (hg g q2 q1)
    exact ⟨g, by rw [hf.erv]; exact q1, q2, hf.law q3, r2 q4, by rw [r1]; exact q5⟩
/-- the cells that weighing spoils: the letters and the piles of laws -/
def Wp (M : jM) (r : Nat) : Prop := r = 32 ∨ (rv M 29 5 + 6 = r ∧ 500 ≤ rv M 29 5)
theorem massF_in {I : jI} {q : Nat} {t k g wi ho : Int} (hI : WI I) (hq : q < 8) : 0 ≤ fW (wrthF I q t k g wi ho) 0 1000000 * I.dp q ∧ fW (wrthF I q t k g wi ho) 0 1000000 * I.dp q ≤ 99000000 ∧ 0 ≤ massF I q t k g wi ho ∧ massF I q t k g wi ho ≤ 134217728 := by
  obtain ⟨d1, d2⟩ := hI.2.1 q hq
  obtain ⟨w1, w2⟩ := fW_in (x := wrthF I q t k g wi ho) (lo := 0) (hi := 1000000) (by decide)
  have h1 : 0 ≤ fW (wrthF I q t k g wi ho) 0 1000000 * I.dp q := Int.mul_nonneg w1 d1
  have h2 : fW (wrthF I q t k g wi ho) 0 1000000 * I.dp q ≤ 1000000 * 99 := Int.mul_le_mul w2 d2 d1 (by decide)
  refine ⟨h1, by omega, rnd_nonneg h1, ?_⟩
  exact rnd_pow (k := 27) h1 (by omega)
theorem stC_congr {sg v : Int} {L L' : Nat → Int} {st : List Int} {ty t' : List Bool} (hL : ∀ i, i < 6 → L i = L' i) (ht : tyC sg v ty = some t') : stC sg v L st = stC sg v L' st := by
  unfold stC
  by_cases c1 : sg = 110
  · rw [if_pos c1, if_pos c1]
  · rw [if_neg c1, if_neg c1]
    by_cases c2 : sg = 108
    · rw [if_pos c2, if_pos c2]
      unfold tyC at ht
      rw [if_neg c1, if_pos c2] at ht
      split at ht
      · rw [hL v.toNat (by omega)]
      · cases ht
    · rw [if_neg c2, if_neg c2]
theorem evC_congr {sg vl L L' : Nat → Int} (hL : ∀ i, i < 6 → L i = L' i) : ∀ (n i : Nat) {st : List Int} {ty t' : List Bool}, scC sg vl n i ty = some t' → evC sg vl L n i st = evC sg vl L' n i st
  | 0, _, _, _, _, _ => rfl
  | n + 1, i, st, ty, t', ht => by
    simp only [scC] at ht
    split at ht
    · rename_i t ht2
      simp only [evC]
      rw [stC_congr hL ht2]
      exact evC_congr hL n (i + 1) ht
    · cases ht
theorem lawF_congr {M : jM} {g : Nat} (hw : LawW M g) {L L' : Nat → Int} (hL : ∀ i, i < 6 → L i = L' i) : lawF M g L = lawF M g L' := by
  have key : ∀ (j i : Nat), ((i + j : Nat) : Int) = iv M g 6 → wC (iv M (g + 1)) (iv M (g + 2)) (iv M (g + 3)) (iv M (g + 4)) (iv M (g + 5)) L j i = wC (iv M (g + 1)) (iv M (g + 2)) (iv M (g + 3)) (iv M (g + 4)) (iv M (g + 5)) L' j i := by
    intro j
    induction j with
    | zero => intro i _; rfl
    | succ j ih =>
      intro i hij
      obtain ⟨f, s, en, q3, q4, q5, q6, q7, q8, q9, q10⟩ := hw.2.2 i (by omega)
      simp only [wC, q3, q4, q5, show ((s : Int) - f).toNat = s - f by omega, show ((en : Int) - s).toNat = en - s by omega, Int.toNat_natCast]
      rw [evC_congr hL (en - s) s q10, ih (i + 1) (by omega)]
      rcases q9 with q | q
      · subst q; simp
      · rw [evC_congr hL (s - f) f q]
  exact key (iv M g 6).toNat 0 (by have := hw.1; omega)
section IslandM
variable {d : Nat} {M : jM} {Q : Option jV → jM → Prop} {a : Nat} {I : jI} {s : jS}
theorem i_has {p : Int} (hd : 2 ≤ d) (hS : Shp M) (h : Q (some (vI (if 0 ≤ p ∧ p < iv M 29 0 then 1 else 0))) M) : Call d mX1_has [vR 29, vI p] M Q := by
  obtain ⟨e, rfl⟩ := dd (d := d) (by omega)
  refine vi_has (by omega) hS ?_
  refine (congrArg (fun z => Q (some (vI z)) M) ?_).mp h
  repeat' split
  all_goals first | rfl | omega
theorem i_takes {p : Nat} {k : Int} (hd : 2 ≤ d) (hS : Shp M) (hp : p < 8) (h : Q (some (vI (fG (iv M 31 p) k))) M) : Call d mX1_takes [vR 29, vI (p : Int), vI k] M Q := by
  obtain ⟨e, rfl⟩ := dd (d := d) (by omega)
  refine vi_takes (by omega) hS ?_
  rw [atv_n hp]
  exact ⟨by unfold fG; split <;> simp, h⟩
theorem i_massOf {q : Nat} {k t g wi ho : Int} (hd : 6 ≤ d) (hS : Shp M) (hA : IA M I) (hI : WI I) (hq : q < 8) (hk : 0 ≤ k ∧ k ≤ 2) (ht : 0 ≤ t ∧ t ≤ 9) (hg : 0 ≤ g ∧ g ≤ 99) (hwi : 0 ≤ wi ∧ wi ≤ 9) (hl2 : iv M 32 2 = g) (hl4 : iv M 32 4 = wi) (hl5 : iv M 32 5 = ho % 24)
    (h : ∀ M', Fr (Wp M) M M' → Q (some (vI (massF I q t k g wi ho))) M') : Call d mX1_massOf [vR 29, vI (q : Int), vI k, vI t] M Q := by
  obtain ⟨e, rfl⟩ := dd (d := d) (by omega)
  obtain ⟨b1, b2, b3, b4⟩ := massF_in (I := I) (q := q) (t := t) (k := k) (g := g) (wi := wi) (ho := ho) hI hq
  have hdp := hI.2.1 q hq
  obtain ⟨h1, h2, h3, h4, h5, h6⟩ := hA
  refine vi_massOf (by omega) hS ?_
  rw [atv_n hq, h4 q hq]
  cases hl : I.lw with
  | none =>
    unfold LawI at h6
    rw [hl] at h6
    have h6' : rv M 29 5 = 0 := h6
    rw [h6']
    have e2 : atv M 6 32 (2 : Int) = g := by rw [← hl2]; exact atv_n (i := 2) (by decide)
    have ew : wrthF I q t k g wi ho = 100000 * t / (g + 1) := by unfold wrthF; rw [hl]
    refine vi_massOf_n (by omega) hS ?_
    rw [e2, w32_i (z := g + 1) (by omega) (by omega), w32_i (z := 100000 * t) (by omega) (by omega), jdiv_eq ⟨by omega, by omega⟩ ⟨by omega, by omega⟩, ← ew]
    rw [w64_i (z := fW _ _ _ * _) (by omega) (by omega)]
    refine ⟨fun _ => ⟨by omega, ⟨b1, by omega⟩, ?_⟩, fun c => absurd c (by simp; omega)⟩
    rw [show rnd (fW (wrthF I q t k g wi ho) 0 1000000 * I.dp q) = massF I q t k g wi ho from rfl, w32_i (by omega) (by omega)]
    exact h M Fr.refl
  | some F =>
    unfold LawI at h6
    rw [hl] at h6
    obtain ⟨lw, q1, q2, q3, q4, q5⟩ := h6
    rw [q1]
    have ew : wrthF I q t k g wi ho = F (letF t k g (I.dp q) wi (ho % 24)) := by unfold wrthF; rw [hl]
    refine vi_massOf_l (by omega) q3 hS ?_
    have hf : Fr (fun r => r = 32) M (ptv (ptv (ptv M 6 32 (0 : Int) t) 6 32 (1 : Int) k) 6 32 (3 : Int) (I.dp q)) := ((Fr.refl.pv (by rfl)).pv (by rfl)).pv (by rfl)
    have hlet : ∀ i, i < 6 → iv (ptv (ptv (ptv M 6 32 (0 : Int) t) 6 32 (1 : Int) k) 6 32 (3 : Int) (I.dp q)) 32 i = letF t k g (I.dp q) wi (ho % 24) i := by
      intro i hi
      rw [ptv_k (by decide) (by decide), ptv_k (by decide) (by decide), ptv_k (by decide) (by decide)]
      have : i = 0 ∨ i = 1 ∨ i = 2 ∨ i = 3 ∨ i = 4 ∨ i = 5 := by omega
      rcases this with rfl | rfl | rfl | rfl | rfl | rfl <;> simp [iv_si, letF, hl2, hl4, hl5]
    have hLb : ∀ i, i < 6 → -1000000 ≤ letF t k g (I.dp q) wi (ho % 24) i ∧ letF t k g (I.dp q) wi (ho % 24) i ≤ 1000000 := by
      intro i _
      unfold letF
      repeat' split
      all_goals omega
    obtain ⟨r1, r2⟩ := lawF_fr (g := lw) hf (by intro k hk; omega)
    refine s_worth (by omega) (hf.shp hS) (hf.law q3) (r2 q4) (sh_r (hf.shp hS) rfl (by decide)) (by omega) (fun i hi => by rw [hlet i hi]; exact hLb i hi) (fun M' hf' => ⟨_, rfl, hf'.shp (hf.shp hS), hf'.law (hf.law q3), ?_⟩)
    rw [r1, lawF_congr q4 hlet, show lawF M lw (letF t k g (I.dp q) wi (ho % 24)) = wrthF I q t k g wi ho by rw [ew, q5]]
    rw [w64_i (z := fW _ _ _ * _) (by omega) (by omega)]
    refine ⟨⟨b1, by omega⟩, ?_⟩
    rw [show rnd (fW (wrthF I q t k g wi ho) 0 1000000 * I.dp q) = massF I q t k g wi ho from rfl, w32_i (by omega) (by omega)]
    exact h M' ((hf.mono (fun r hr => Or.inl hr)).trans (hf'.mono (fun r hr => Or.inr ⟨by rw [q1]; exact hr.symm, by rw [q1]; exact q2⟩)))
theorem i_weigh (hd : 8 ≤ d) (hS : Shp M) (hA : IA M I) (hI : WI I) (ha : isSt a = true) (hs : SA M a s) (hw : WS I.np s)
    (h : ∀ M', Fr (fun r => r = a + 5 ∨ Wp M r) M M' → SA M' a (pW I s) → Q none M') : Call d mX1_weigh [vR 29, vR a] M Q := by
  obtain ⟨e, rfl⟩ := dd (d := d) (by omega)
  have ha6 := st_b ha
  refine vi_weigh (by omega) ha hS ?_
  refine up_to (R := fun i => ∀ (M1 : jM) (l3 : Option jV), Fr (fun r => r = a + 5 ∨ Wp M r) M M1 → (∀ j, j < i → iv M1 (a + 5) j = massS I s j) → Run (e + 1) mX1_weigh 2 [some (vR 29), some (vR a), some (vI (i : Int)), l3] [] M1 Q) 32 ?_ ?_ M _ Fr.refl (fun j hj => absurd hj (by omega))
  · intro M1 l3 hf hm
    refine vi_weigh_2 (by omega) ha (hf.shp hS) ⟨fun _ => h M1 hf ?_, fun c => absurd c (by decide)⟩
    intro f i hi
    unfold inS at hi
    by_cases h5 : f = 5
    · subst h5
      have : i < 32 := by omega
      rw [hm i this]
      rfl
    · rw [hf.eiv (by unfold Wp; omega)]
      show _ = if f = 5 then massS I s i else s f i
      rw [if_neg h5]
      exact hs f i hi
  · intro i hi ih M1 l3 hf hm
    have g1 : ∀ f, f < 8 → f ≠ 5 → iv M1 (a + f) = iv M (a + f) := fun f hf1 hf5 => hf.eiv (by unfold Wp; omega)
    have s1 : iv M1 (a + 1) i = s 1 i := by rw [g1 1 (by decide) (by decide)]; exact hs 1 i (Or.inl ⟨by omega, by omega, hi⟩)
    have s2 : iv M1 (a + 2) i = s 2 i := by rw [g1 2 (by decide) (by decide)]; exact hs 2 i (Or.inl ⟨by omega, by omega, hi⟩)
    have s3 : iv M1 (a + 3) i = s 3 i := by rw [g1 3 (by decide) (by decide)]; exact hs 3 i (Or.inl ⟨by omega, by omega, hi⟩)
    have s4 : iv M1 (a + 4) i = s 4 i := by rw [g1 4 (by decide) (by decide)]; exact hs 4 i (Or.inl ⟨by omega, by omega, hi⟩)
    have s7 : iv M1 a 7 = s 0 7 := by rw [show iv M1 a = iv M a from g1 0 (by decide) (by decide)]; exact hs 0 7 (Or.inr (Or.inr ⟨rfl, by omega, by omega⟩))
    have s9 : iv M1 a 9 = s 0 9 := by rw [show iv M1 a = iv M a from g1 0 (by decide) (by decide)]; exact hs 0 9 (Or.inr (Or.inr ⟨rfl, by omega, by omega⟩))
    obtain ⟨w1, w2, w3, w4, w5⟩ := hw
    have wi := w1 i hi
    refine vi_weigh_2 (by omega) ha (hf.shp hS) ⟨fun c => absurd c (by omega), fun _ => ⟨fun c => ?_, fun c => ?_⟩⟩
    · rw [atv_n hi, s1] at c
      rw [w32s (by omega)]
      refine ih _ _ (hf.pv (Or.inl rfl)) (fun j hj => ?_)
      rw [ptv_n hi, iv_wi]
      by_cases hj2 : j = i
      · subst hj2
        rw [if_pos ⟨rfl, rfl⟩]
        unfold massS
        rw [if_pos c]
      · rw [if_neg (by omega)]
        exact hm j (by omega)
    · rw [atv_n hi, s1] at c
      have hq : i / 4 < 8 := by omega
      have e0 : jdiv (i : Int) 4 = ((i / 4 : Nat) : Int) := by rw [jdiv_eq ⟨by omega, by omega⟩ ⟨by decide, by decide⟩]; omega
      have hr9 : jrem (iv M1 a 9) 24 = s 0 9 % 24 := by rw [s9, jrem_eq ⟨by omega, by omega⟩ ⟨by decide, by decide⟩]
      have hf2 : Fr (fun r => r = 32) M1 (ptv (ptv (ptv M1 6 32 (2 : Int) (atv M1 32 (a + 4) i)) 6 32 (4 : Int) (iv M1 a 7)) 6 32 (5 : Int) (jrem (iv M1 a 9) (24 : Int))) := ((Fr.refl.pv (by rfl)).pv (by rfl)).pv (by rfl)
      have hL : ∀ k, iv (ptv (ptv (ptv M1 6 32 (2 : Int) (atv M1 32 (a + 4) i)) 6 32 (4 : Int) (iv M1 a 7)) 6 32 (5 : Int) (jrem (iv M1 a 9) (24 : Int))) 32 k = if k = 5 then s 0 9 % 24 else if k = 4 then s 0 7 else if k = 2 then s 4 i else iv M1 32 k := by
        intro k
        rw [ptv_k (by decide) (by decide), ptv_k (by decide) (by decide), ptv_k (by decide) (by decide), hr9, s7, atv_n hi, s4]
        simp [iv_si]
      generalize ptv (ptv (ptv M1 6 32 (2 : Int) (atv M1 32 (a + 4) i)) 6 32 (4 : Int) (iv M1 a 7)) 6 32 (5 : Int) (jrem (iv M1 a 9) (24 : Int)) = M2 at hf2 hL ⊢
      rw [e0, atv_n hi, atv_n hi, hf2.eiv (r := a + 2) (by omega), hf2.eiv (r := a + 3) (by omega), s2, s3]
      have hfa : Fr (fun r => r = a + 5 ∨ Wp M r) M M2 := hf.trans (hf2.mono (fun r hr => Or.inr (Or.inl hr)))
      have hA2 : IA M2 I := hA.fr hfa (by unfold Wp; omega) (by unfold Wp; omega) (by unfold Wp; omega) (by intro g h1 h2 k hk; unfold Wp; omega)
      have hq2 : i / 4 < 8 := by omega
      refine i_massOf (wi := s 0 7) (ho := s 0 9) (g := s 4 i) (by omega) (hfa.shp hS) hA2 hI hq2 ⟨by omega, by omega⟩ ⟨by omega, by omega⟩ ⟨by omega, by omega⟩ ⟨by omega, by omega⟩ (by rw [hL]; rfl) (by rw [hL]; rfl) (by rw [hL]; rfl) ?_
      intro M3 hf3
      have hwp : ∀ r, Wp M2 r → Wp M r := by intro r hr; unfold Wp at hr ⊢; rw [hfa.erv] at hr; exact hr
      have hf3a : Fr (fun r => r = a + 5 ∨ Wp M r) M M3 := hfa.trans (hf3.mono (fun r hr => Or.inr (hwp r hr)))
      refine ⟨_, rfl, hf3a.shp hS, ?_⟩
      rw [w32s (by omega)]
      refine ih _ _ (hf3a.pv (Or.inl rfl)) (fun j hj => ?_)
      rw [ptv_n hi, iv_wi]
      by_cases hj2 : j = i
      · subst hj2
        rw [if_pos ⟨rfl, rfl⟩]
        unfold massS
        rw [if_neg c]
      · rw [if_neg (by omega), hf3.eiv (by intro q; have := hwp _ q; unfold Wp at this; omega), hf2.eiv (by omega)]
        exact hm j (by omega)
end IslandM
