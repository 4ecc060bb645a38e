/-! THE CLASS: its state now, what is kept, an hour, draws -/
/-- a state but for its masses -/
def SB (M : jM) (a : Nat) (s : jS) : Prop := ∀ f i, inS f i → f ≠ 5 → iv M (a + f) i = s f i
def smS (M : jM) (a : Nat) (s : jS) : jS := fun f i => if f = 5 then iv M (a + 5) i else s f i
theorem lg_sle {M : jM} {r i : Nat} {v : Int} : lg (sl M r i v) r i = v := by
  show (if r = r ∧ i = i then v else lg M r i) = v
  exact if_pos ⟨rfl, rfl⟩
section CAct0
variable {M M' : jM} {a n : Nat} {s s' : jS} {I : jI} {P : Nat → Prop}
theorem SB.sa (h : SB M a s) : SA M a (smS M a s) := by
  intro f i hi
  unfold smS
  by_cases c : f = 5
  · rw [if_pos c, c]
  · rw [if_neg c]; exact h f i hi c
theorem SA.sb (h : SA M a s') (he : ∀ f i, f ≠ 5 → s' f i = s f i) : SB M a s := fun f i hi hf => (h f i hi).trans (he f i hf)
theorem SA.sb0 (h : SA M a s) : SB M a s := fun f i hi _ => h f i hi
theorem SB.cg (h : SB M a s) (he : ∀ f i, f ≠ 5 → s' f i = s f i) : SB M a s' := fun f i hi hf => (h f i hi hf).trans (he f i hf).symm
theorem SB.fr (h : SB M a s) (hf : Fr P M M') (hp : ∀ k, k < 7 → k ≠ 5 → ¬ P (a + k)) : SB M' a s := by
  intro f i hi h5
  rw [hf.eiv (hp f (by unfold inS at hi; omega) h5)]
  exact h f i hi h5
theorem SB.w0 (h : SB M a s) {i : Nat} (hi : 7 ≤ i ∧ i ≤ 9) : iv M a i = s 0 i := h 0 i (in0 hi) (by decide)
theorem SB.w1 (h : SB M a s) {f i : Nat} (hf : 1 ≤ f ∧ f ≤ 4) (hi : i < 32) : iv M (a + f) i = s f i := h f i (in32 ⟨hf.1, by omega⟩ hi) (by omega)
theorem SB.w6 (h : SB M a s) {i : Nat} (hi : i < 8) : iv M (a + 6) i = s 6 i := h 6 i (in8 hi) (by decide)
theorem WS.cg (h : WS n s) (he : ∀ f i, f ≠ 5 → s' f i = s f i) : WS n s' := by
  unfold WS
  rw [show s' 1 = s 1 from funext (fun i => he 1 i (by decide)), show s' 2 = s 2 from funext (fun i => he 2 i (by decide)), show s' 3 = s 3 from funext (fun i => he 3 i (by decide)), show s' 4 = s 4 from funext (fun i => he 4 i (by decide)), show s' 6 = s 6 from funext (fun i => he 6 i (by decide)), show s' 0 = s 0 from funext (fun i => he 0 i (by decide))]
  exact h
theorem smS_n {f i : Nat} (h : f ≠ 5) : smS M a s f i = s f i := if_neg h
theorem massS_cg {i : Nat} (he : ∀ f i, f ≠ 5 → s' f i = s f i) : massS I s' i = massS I s i := by
  unfold massS
  rw [he 1 i (by decide), he 2 i (by decide), he 3 i (by decide), he 4 i (by decide), he 0 7 (by decide), he 0 9 (by decide)]
theorem pW_cg (he : ∀ f i, f ≠ 5 → s' f i = s f i) : pW I s' = pW I s := by
  funext f i
  unfold pW
  by_cases c : f = 5
  · rw [if_pos c, if_pos c, massS_cg he]
  · rw [if_neg c, if_neg c, he f i c]
theorem WS.sm (h : WS n s) : WS n (smS M a s) := h.cg (fun _ _ => smS_n)
theorem massS_pN {u : jS} {i : Nat} : massS I (pN I u) i = massS I u i := by
  unfold massS pN
  simp
theorem WS.pN (h : WS n s) : WS n (pN I s) := h
theorem WS.pH (h : WS n s) (h9 : s 0 9 < 20000) : WS n (pH I s) := (h.pL h9).pN
theorem pH_09 : pH I s 0 9 = s 0 9 + 1 := pL_09
theorem Wp_eq {P : Nat → Prop} (h : Fr P M M') : Wp M' = Wp M := by
  funext r
  unfold Wp
  rw [h.erv]
/-- where nothing of an island lies -/
def Xc (M : jM) (r : Nat) : Prop := (r < 468 ∧ r ≠ 29 ∧ r ≠ 30 ∧ r ≠ 31) ∨ Wp M r
theorem IA.xc (h : IA M I) (hf : Fr P M M') (hp : ∀ r, P r → Xc M r) : IA M' I := by
  have q : ∀ r, ¬ Xc M r → ¬ P r := fun r hr hp2 => hr (hp r hp2)
  refine h.fr hf (q 29 ?_) (q 30 ?_) (q 31 ?_) (fun g hg hr k hk => q _ ?_)
  · unfold Xc Wp; omega
  · unfold Xc Wp; omega
  · unfold Xc Wp; omega
  · unfold Xc Wp; omega
end CAct0
/-- what is kept in the ring -/
def PA (M : jM) (K : Nat) (P : Nat → jS) : Prop := ∃ nx : Nat, nx < 40 ∧ iv M 65 1 = (nx : Int) ∧ iv M 65 2 = (K : Int) ∧ K ≤ 40 ∧ ∀ k, k < K → SB M (67 + 8 * ((nx + 39 - k) % 40)) (P k) ∧ SL M (67 + 8 * ((nx + 39 - k) % 40)) (P k)
theorem PA.fr {R : Nat → Prop} {M M' : jM} {K : Nat} {P : Nat → jS} (h : PA M K P) (hf : Fr R M M') (hp : ∀ r, 65 ≤ r → r ≤ 386 → ¬ R r) : PA M' K P := by
  obtain ⟨nx, h1, h2, h3, h4, h5⟩ := h
  refine ⟨nx, h1, by rw [hf.eiv (hp 65 (by omega) (by omega))]; exact h2, by rw [hf.eiv (hp 65 (by omega) (by omega))]; exact h3, h4, fun k hk => ?_⟩
  obtain ⟨a1, a2⟩ := h5 k hk
  exact ⟨a1.fr hf (fun j hj _ => hp _ (by omega) (by omega)), a2.fr hf (hp _ (by omega) (by omega))⟩
theorem ring_at {M : jM} (hS : Shp M) {j : Nat} (h : j < 40) : rv M 66 j = 67 + 8 * j := hS.2.2 66 j _ (by unfold R1; rw [if_neg (by decide), if_pos rfl, if_pos h])
theorem ring_st {j : Nat} (h : j < 40) : isSt (67 + 8 * j) = true := by
  unfold isSt
  simp only [decide_eq_true_eq]
  omega
section CAct
variable {d : Nat} {M : jM} {Q : Option jV → jM → Prop} {I : jI} {s : jS} {K : Nat} {P : Nat → jS}
theorem x_keep (hd : 5 ≤ d) (hS : Shp M) (hs : SB M 33 s) (hl : SL M 33 s) (hP : PA M K P) (h : ∀ M', Fr (fun r => 65 ≤ r ∧ r ≤ 386) M M' → PA M' (shK K) (shP s P) → Q none M') : Call d mX5_keep [vR 65, vR 33] M Q := by
  obtain ⟨e, rfl⟩ := dd (d := d) (by omega)
  obtain ⟨nx, h1, h2, h3, h4, h5⟩ := hP
  refine vp_keep (by omega) (by decide) hS ?_
  rw [h2, if_pos ⟨by omega, by omega⟩, Int.toNat_natCast, ring_at hS h1]
  refine vp_keep_12 (by omega) (by decide) (ring_st h1) hS (t_copyAll (by omega) hS (ring_st h1) (by decide) (by omega) hs.sa hl (fun M2 hf2 a2 l2 => ⟨rfl, hf2.shp hS, ?_⟩))
  intro N6 hN6 sN6 v8 hv8 N9 hN9 sN9
  have f2 : Fr (fun r => 65 ≤ r ∧ r ≤ 386) M M2 := hf2.mono (by intro r hr; omega)
  have e65 : iv M2 65 = iv M 65 := hf2.eiv (by omega)
  rw [e65, h2, w32_i (by omega) (by omega), jrem_eq ⟨by omega, by omega⟩ ⟨by decide, by decide⟩] at hN6
  have e2 : iv N6 65 2 = K := by rw [hN6, iv_si, if_neg (by omega), e65, h3]
  rw [e2, w32_i (by omega) (by omega)] at hv8
  have f9 : Fr (fun r => r = 65) M2 N9 := by rw [hN9, hN6]; exact (fr_si (P := fun r => r = 65) rfl).ps rfl
  refine h N9 (f2.trans (f9.mono (by intro r hr; omega))) ⟨(nx + 1) % 40, by omega, ?_, ?_, by unfold shK; split <;> omega, fun k hk => ?_⟩
  · rw [hN9, iv_si, if_neg (by omega), hN6, iv_si, if_pos ⟨rfl, rfl⟩]; omega
  · rw [hN9, iv_si, if_pos ⟨rfl, rfl⟩, hv8]; unfold shK; split <;> split <;> omega
  · cases k with
    | zero =>
      rw [show ((nx + 1) % 40 + 39 - 0) % 40 = nx by omega]
      exact ⟨(a2.fr f9 (fun k hk => by omega)).sb (fun _ _ => smS_n), l2.fr f9 (by omega)⟩
    | succ k =>
      have hk2 : k < K ∧ k < 39 := by unfold shK at hk; split at hk <;> omega
      rw [show ((nx + 1) % 40 + 39 - (k + 1)) % 40 = (nx + 39 - k) % 40 by omega]
      obtain ⟨b1, b2⟩ := h5 k hk2.1
      exact ⟨(b1.fr hf2 (fun j hj _ => by omega)).fr f9 (fun j hj _ => by omega), (b2.fr hf2 (by omega)).fr f9 (by omega)⟩
theorem x_takeBack (hd : 5 ≤ d) (hS : Shp M) (hP : PA M K P) (h0 : K = 0 → Q (some (vI 0)) M) (h : ∀ M', 0 < K → Fr (fun r => (33 ≤ r ∧ r ≤ 40) ∨ r = 65) M M' → SB M' 33 (P 0) → SL M' 33 (P 0) → PA M' (K - 1) (fun k => P (k + 1)) → Q (some (vI 1)) M') : Call d mX5_takeBack [vR 65, vR 33] M Q := by
  obtain ⟨e, rfl⟩ := dd (d := d) (by omega)
  obtain ⟨nx, h1, h2, h3, h4, h5⟩ := hP
  refine vp_back (by omega) (by decide) hS ?_
  have e1 : jrem (w32 (w32 (iv M 65 1 + 40) - 1)) 40 = (((nx + 39) % 40 : Nat) : Int) := by
    rw [h2, w32_i (z := (nx : Int) + 40) (by omega) (by omega), w32_i (z := (nx : Int) + 40 - 1) (by omega) (by omega), jrem_eq ⟨by omega, by omega⟩ ⟨by decide, by decide⟩]
    omega
  have hlt : (nx + 39) % 40 < 40 := by omega
  rw [e1, if_pos ⟨by omega, by omega⟩, Int.toNat_natCast, ring_at hS hlt]
  refine vp_back_22 (by omega) (by decide) (ring_st hlt) hS ⟨fun c => h0 (by omega), fun c => ?_⟩
  have hK : 0 < K := by omega
  obtain ⟨b1, b2⟩ := h5 0 hK
  rw [show (nx + 39 - 0) % 40 = (nx + 39) % 40 by omega] at b1 b2
  refine t_copyAll (by omega) hS (by decide) (ring_st hlt) (by omega) b1.sa b2 (fun M2 hf2 a2 l2 => ⟨rfl, hf2.shp hS, ?_⟩)
  intro N7 hN7 sN7 N9 hN9 sN9
  have e65 : iv M2 65 = iv M 65 := hf2.eiv (by omega)
  have e2 : iv N7 65 2 = K := by rw [hN7, iv_si, if_neg (by omega), e65, h3]
  rw [e2, w32_i (by omega) (by omega)] at hN9
  have f9 : Fr (fun r => r = 65) M2 N9 := by rw [hN9, hN7]; exact (fr_si (P := fun r => r = 65) rfl).ps rfl
  refine h N9 hK ((hf2.mono (by intro r hr; omega)).trans (f9.mono (by intro r hr; omega))) ((a2.fr f9 (fun k hk => by omega)).sb (fun _ _ => smS_n)) (l2.fr f9 (by omega)) ⟨(nx + 39) % 40, hlt, ?_, ?_, by omega, fun k hk => ?_⟩
  · rw [hN9, iv_si, if_neg (by omega), hN7, iv_si, if_pos ⟨rfl, rfl⟩]
  · rw [hN9, iv_si, if_pos ⟨rfl, rfl⟩]; omega
  · rw [show ((nx + 39) % 40 + 39 - k) % 40 = (nx + 39 - (k + 1)) % 40 by omega]
    obtain ⟨c1, c2⟩ := h5 (k + 1) (by omega)
    exact ⟨(c1.fr hf2 (fun j hj _ => by omega)).fr f9 (fun j hj _ => by omega), (c2.fr hf2 (by omega)).fr f9 (by omega)⟩
theorem x_clear (hd : 5 ≤ d) (hS : Shp M) (hP : PA M K P) (h : ∀ M', Fr (fun r => r = 65) M M' → PA M' 0 P → Q none M') : Call d mX5_clear [vR 65] M Q := by
  obtain ⟨e, rfl⟩ := dd (d := d) (by omega)
  obtain ⟨nx, h1, h2, h3, h4, h5⟩ := hP
  refine vp_clear (by omega) hS (fun N hN sN => h N (by rw [hN]; exact fr_si rfl) ⟨nx, h1, ?_, ?_, by omega, fun k hk => by omega⟩)
  · rw [hN, iv_si, if_neg (by omega), h2]
  · rw [hN, iv_si, if_pos ⟨rfl, rfl⟩]; rfl
/-- weighing, of a state but for its masses -/
theorem x_weigh {a : Nat} (hd : 8 ≤ d) (hS : Shp M) (hA : IA M I) (hI : WI I) (ha : isSt a = true) (hs : SB M a s) (hw : WS I.np s)
    (h : ∀ M', Fr (fun r => r = a + 5 ∨ Wp M r) M M' → SA M' a (pW I s) → Q none M') : Call d mX1_weigh [vR 29, vR a] M Q :=
  i_weigh hd hS hA hI ha hs.sa hw.sm (fun M' hf h2 => h M' hf (by rw [pW_cg (fun _ _ => smS_n)] at h2; exact h2))
theorem x_letPass (hd : 10 ≤ d) (hS : Shp M) (hA : IA M I) (hI : WI I) (hs : SA M 33 (pW I s)) (hl : SL M 33 s) (hw : WS I.np s) (h9 : s 0 9 < 20000)
    (h : ∀ M', Fr (fun r => (33 ≤ r ∧ r ≤ 40) ∨ Wp M r) M M' → SA M' 33 (pW I (pH I s)) → SL M' 33 (pH I s) → Q none M') : Call d mX10_letAnHourPass [vR 6] M Q := by
  obtain ⟨e, rfl⟩ := dd (d := d) (by omega)
  have hwL : WS I.np (pL I s) := hw.pL h9
  refine vx_letAnHourPass (by omega) hS (t_passHour (by omega) hS (by decide) hs (WS_pW hw) (fun M1 hf1 a1 => ⟨rfl, hf1.shp hS, ?_⟩))
  have s1 := hf1.shp hS
  have g1 : Fr (fun r => (33 ≤ r ∧ r ≤ 40) ∨ Wp M r) M M1 := hf1.mono (by intro r hr; unfold Sp at hr; omega)
  have A1 : IA M1 I := hA.xc hf1 (by intro r hr; unfold Sp at hr; unfold Xc; omega)
  refine x_weigh (by omega) s1 A1 hI (by decide) (s := pL I s) a1.sb0 hwL (fun M2 hf2 a2 => ⟨rfl, hf2.shp s1, ?_⟩)
  have s2 := hf2.shp s1
  rw [Wp_eq hf1] at hf2
  have g2 : Fr (fun r => (33 ≤ r ∧ r ≤ 40) ∨ Wp M r) M M2 := g1.trans (hf2.mono (by intro r hr; unfold Wp at *; omega))
  have A2 : IA M2 I := hA.xc g2 (by intro r hr; unfold Xc; unfold Wp at *; omega)
  refine t_floating (by omega) s2 (by decide) A2 hI a2 (WS_pW hwL) (WM_pW hI) ⟨_, rfl, s2, ?_⟩
  refine t_sinking (by omega) s2 (by decide) A2 hI a2 (WS_pW hwL) (WM_pW hI) ⟨_, rfl, s2, ?_⟩
  have hb := pkd_in (u := pL I s) hI
  refine t_note (by omega) s2 (by decide) a2 (WS_pW hwL) ⟨hb.1, hb.2.1⟩ ⟨hb.2.2.1, hb.2.2.2.1⟩ (fun M3 hf3 hx => ⟨rfl, hf3.shp s2, ?_⟩)
  refine h M3 (g2.trans (hf3.mono (by intro r hr; omega))) ?_ (fun i hi => ?_)
  · intro f i hi
    rw [hf3.eiv (by unfold inS at hi; omega), a2 f i hi]
    unfold pW
    by_cases c : f = 5
    · rw [if_pos c, if_pos c]; exact massS_pN.symm
    · rw [if_neg c, if_neg c]
      exact (if_neg (by unfold inS at hi; omega)).symm
  · rw [hx i hi]
    show _ = (if 7 = 7 ∧ (i : Int) = pL I s 0 9 % 60 then pkd I (pL I s) else pL I s 7 i)
    have e9 : pW I (pL I s) 0 9 = pL I s 0 9 := pW_n (by decide)
    have e1 : pW I (pL I s) 1 = pL I s 1 := funext (fun i => pW_n (by decide))
    rw [e9, e1]
    by_cases c : (i : Int) = pL I s 0 9 % 60
    · rw [if_pos c, if_pos ⟨rfl, c⟩]; rfl
    · rw [if_neg c, if_neg (fun q => c q.2), pL_7]
      have hw40 : ¬ (fun r => r = 33 + 5 ∨ Wp M r) (33 + 7) := by unfold Wp; omega
      rw [hf2.eiv (r := 33 + 7) hw40, hf1.eiv (r := 33 + 7) (by unfold Sp; omega)]
      exact hl i hi
/-- draws -/
def nxD (x : Int) : Int := w64 (w64 (x * 6364136223846793005) + 1442695040888963407)
def dvD (x : Int) (n : Int) : Int := w32 (jremL (jushrL x 33) n)
theorem jushrL_33 (x : Int) : 0 ≤ jushrL x 33 ∧ jushrL x 33 < 2147483648 := by
  unfold jushrL
  have hk : (((Int32.ofInt 33).toInt64.toUInt64 &&& Int64.toUInt64 63).toBitVec % 64).toNat = 33 := by decide +kernel
  have h : ((Int64.ofInt x).toUInt64 >>> ((Int32.ofInt 33).toInt64.toUInt64 &&& Int64.toUInt64 63)).toInt64.toBitVec.toNat = (Int64.ofInt x).toBitVec.toNat / 2 ^ 33 := by
    show ((Int64.ofInt x).toBitVec >>> (((Int32.ofInt 33).toInt64.toUInt64 &&& Int64.toUInt64 63).toBitVec % 64)).toNat = _
    rw [BitVec.ushiftRight_eq', hk, BitVec.toNat_ushiftRight, Nat.shiftRight_eq_div_pow]
  have h2 := (Int64.ofInt x).toBitVec.isLt
  have h3 : (Int64.ofInt x).toBitVec.toNat / 2 ^ 33 < 2147483648 := Nat.div_lt_of_lt_mul (by omega)
  rw [ti64 h (by omega)]
  omega
theorem dvD_in {x n : Int} (hn : 0 < n ∧ n ≤ 1000) : 0 ≤ dvD x n ∧ dvD x n < n := by
  have h := jushrL_33 x
  unfold dvD
  rw [jremL_eq ⟨by omega, by omega⟩ ⟨by omega, by omega⟩]
  have h1 := Int.emod_nonneg (jushrL x 33) (b := n) (by omega)
  have h2 := Int.emod_lt_of_pos (jushrL x 33) hn.1
  rw [w32_i (by omega) (by omega)]
  exact ⟨h1, h2⟩
theorem x_draw {n : Int} (hd : 5 ≤ d) (hS : Shp M) (hn : 1 ≤ n) (h : Q (some (vI (dvD (nxD (lg M 6 8)) n))) (sl M 6 8 (nxD (lg M 6 8)))) : Call d mX10_draw [vR 6, vI n] M Q := by
  obtain ⟨e, rfl⟩ := dd (d := d) (by omega)
  refine vx_draw (by omega) hS ⟨fun _ => ⟨by omega, ?_⟩, fun c => absurd hn c⟩
  have : lg (sl M 6 8 (w64 (w64 (lg M 6 8 * 6364136223846793005) + 1442695040888963407))) 6 8 = nxD (lg M 6 8) := lg_sle
  rw [this]
  exact h
end CAct
