/-! eased: of both -/
theorem heavF_at {w m : Nat → Int} {p : Int} : ∀ n, heavF w m p n = -1 ∨ ∃ b : Nat, b < n ∧ heavF w m p n = (b : Int) ∧ w b = p
  | 0 => Or.inl rfl
  | n + 1 => by
    simp only [heavF]
    by_cases c : w n = p ∧ (heavF w m p n = -1 ∨ m (heavF w m p n).toNat < m n)
    · rw [if_pos c]
      exact Or.inr ⟨n, by omega, rfl, c.1⟩
    · rw [if_neg c]
      rcases heavF_at (w := w) (m := m) (p := p) n with z | ⟨b, z1, z2, z3⟩
      · exact Or.inl z
      · exact Or.inr ⟨b, by omega, z2, z3⟩
theorem heavF_cg2 {w m m' : Nat → Int} {p : Int} : ∀ n, (∀ j, j < n → w j = p → m j = m' j) → heavF w m p n = heavF w m' p n
  | 0, _ => rfl
  | n + 1, h => by
    have ih := heavF_cg2 (w := w) (m := m) (m' := m') (p := p) n (fun j hj => h j (by omega))
    simp only [heavF]
    rw [← ih]
    by_cases c : w n = p
    · rw [← h n (by omega) c]
      rcases heavF_at (w := w) (m := m) (p := p) n with z | ⟨b, z1, z2, z3⟩
      · rw [z]; simp [c]
      · rw [z2, Int.toNat_natCast, ← h b (by omega) z3]
    · rw [if_neg (fun z => c z.1), if_neg (fun z => c z.1)]
theorem heavF_stop {w m : Nat → Int} {p : Int} {a : Nat} : ∀ k, (∀ j, a ≤ j → j < a + k → w j ≠ p) → heavF w m p (a + k) = heavF w m p a
  | 0, _ => rfl
  | k + 1, h => by
    rw [show a + (k + 1) = (a + k) + 1 by omega]
    simp only [heavF]
    rw [if_neg (fun z => h (a + k) (by omega) (by omega) z.1), heavF_stop k (fun j h1 h2 => h j h1 (by omega))]
/-- the heaviest given up, k times -/
def heS1 (I : jI) (p : Nat) (u : jS) : Int := heavF (u 1) (massS I u) p 32
def easS (I : jI) (p : Nat) (s : jS) : Nat → jS
  | 0 => s
  | k + 1 => pSet (easS I p s k) 1 (heS1 I p (easS I p s k)).toNat (-1)
def easN (c : Nat → Bool) : Nat → Nat → Int
  | 0, k => k
  | n + 1, k => if c k = true then (k : Int) else easN c n (k + 1)
def easC (I : jI) (p : Nat) (s : jS) (k : Nat) : Bool := decide (heS1 I p (easS I p s k) = -1) || !(skS I (pW I (easS I p s k)) p)
def aEased (W : kW) (p : Int) : Int := if ¬ (0 ≤ p ∧ p < W.I.np) then -1 else easN (easC W.I p.toNat W.s) 32 0
theorem easS_in {I : jI} {p : Nat} {s : jS} : ∀ k f i, easS I p s k f i = s f i ∨ (f = 1 ∧ easS I p s k 1 i = -1)
  | 0, f, i => Or.inl rfl
  | k + 1, f, i => by
    simp only [easS]
    unfold pSet
    by_cases c : i = (heS1 I p (easS I p s k)).toNat ∧ f = 1
    · rw [if_pos c]
      exact Or.inr ⟨c.2, if_pos ⟨c.1, rfl⟩⟩
    · rw [if_neg c]
      rcases easS_in (I := I) (p := p) (s := s) k f i with z | ⟨z1, z2⟩
      · exact Or.inl z
      · refine Or.inr ⟨z1, ?_⟩
        split
        · rfl
        · exact z2
theorem easS_mass {I : jI} {p : Nat} {s : jS} {k i : Nat} (h : easS I p s k 1 i ≠ -1) : massS I (easS I p s k) i = massS I s i := by
  have e : ∀ f j, f ≠ 1 → easS I p s k f j = s f j := fun f j hf => (easS_in k f j).resolve_right (fun z => hf z.1)
  have e1 : easS I p s k 1 i = s 1 i := (easS_in k 1 i).resolve_right (fun z => h z.2)
  unfold massS
  rw [e1, e 3 i (by decide), e 2 i (by decide), e 4 i (by decide), e 0 7 (by decide), e 0 9 (by decide)]
theorem heS1_in {I : jI} {p : Nat} {u : jS} (h : heS1 I p u ≠ -1) : ∃ b : Nat, b < 32 ∧ heS1 I p u = (b : Int) ∧ u 1 b = (p : Int) := (heavF_at 32).resolve_left h
theorem easS_ws {I : jI} {p : Nat} {s : jS} {n : Nat} (h : WS n s) : ∀ k, (∀ j, j < k → heS1 I p (easS I p s j) ≠ -1) → WS n (easS I p s k)
  | 0, _ => h
  | k + 1, hk => by
    obtain ⟨b, b1, b2, b3⟩ := heS1_in (hk k (by omega))
    simp only [easS]
    rw [b2, Int.toNat_natCast]
    exact (easS_ws h k (fun j hj => hk j (by omega))).set1 b1
/-- as the class has it: the masses are those ahead of all -/
def easX (I : jI) (p : Nat) (s : jS) (k : Nat) : jS := fun f i => if f = 5 then massS I s i else easS I p s k f i
theorem easX_n {I : jI} {p : Nat} {s : jS} {k f i : Nat} (h : f ≠ 5) : easX I p s k f i = easS I p s k f i := if_neg h
theorem easX_hv {I : jI} {p : Nat} {s : jS} {k : Nat} : heavF (easX I p s k 1) (easX I p s k 5) (p : Int) 32 = heS1 I p (easS I p s k) := by
  have e1 : easX I p s k 1 = easS I p s k 1 := funext (fun i => easX_n (by decide))
  have e5 : easX I p s k 5 = massS I s := funext (fun i => if_pos rfl)
  rw [e1, e5]
  exact heavF_cg2 32 (fun j _ hj => (easS_mass (by omega)).symm)
theorem easX_sk {I : jI} {p : Nat} {s : jS} {k : Nat} : skS I (easX I p s k) p = skS I (pW I (easS I p s k)) p := by
  unfold skS wtS
  rw [pW_n (f := 6) (by decide), easX_n (f := 6) (by decide)]
  have e : wtF (easX I p s k 1) (easX I p s k 5) (p : Int) (1000 * easS I p s k 6 p) 32 = wtF (pW I (easS I p s k) 1) (pW I (easS I p s k) 5) (p : Int) (1000 * easS I p s k 6 p) 32 := by
    refine wtF_cg2 32 (fun j _ => ?_)
    rw [easX_n (by decide), pW_n (by decide), pW_5]
    refine ⟨Iff.rfl, fun hj => ?_⟩
    rw [easS_mass (by omega)]
    exact if_pos rfl
  rw [e]
section EasedX
variable {d : Nat} {M : jM} {Q : Option jV → jM → Prop} {W : kW} {I : jI} {s : jS}
theorem X_eased {p : Int} (hd : 10 ≤ d) (hX : CX M W) (hok : OKW W) (h : ∀ M', FX M M' → CX M' W → Q (some (vI (aEased W p))) M') : Call d mX10_eased [vR 6, vI p] M Q := by
  obtain ⟨e, rfl⟩ := dd (d := d) (by omega)
  have hS := hX.shp
  have hn8 := hok.wi.1
  have h0 := h M (FX.refl hS) hX
  unfold aEased at h h0
  refine vx_eased (by omega) hS ⟨fun c => ?_, fun c => ?_⟩
  · rw [i01n, hX.np] at c
    rw [if_neg (by omega)] at h
    obtain ⟨q, rfl⟩ : ∃ q : Nat, p = (q : Int) := ⟨p.toNat, by omega⟩
    rw [Int.toNat_natCast] at h
    have gs := hok.gs (by omega)
    refine X_aside (by omega) hX hok (by omega) (fun M1 f1 b1 => ⟨rfl, f1.shp hS, ?_⟩)
    have g1 : Fr (As M) M M1 := f1.mono (fun r => As_sp)
    have s1 := g1.shp hS
    refine x_weigh (by omega) s1 (hX.ia.xc g1 (fun r => As_x)) hok.wi (by decide) b1 gs.1 (fun M2 f2 a2 => ⟨rfl, f2.shp s1, ?_⟩)
    have g2 := As_w g1 f2 rfl
    have fin : ∀ M' z, Fr (As M) M M' → z = easN (easC W.I q W.s) 32 0 → Q (some (vI z)) M' := fun M' z f hz => by rw [hz]; exact h M' (hX.as hok f).2 (hX.as hok f).1
    have e0 : pW W.I W.s = easX W.I q W.s 0 := by
      funext f i
      unfold easX pW
      rfl
    rw [e0] at a2
    refine up_to (R := fun i => ∀ M3 l3, Fr (As M) M M3 → SA M3 49 (easX W.I q W.s i) → (∀ j, j < i → heS1 W.I q (easS W.I q W.s j) ≠ -1) → easN (easC W.I q W.s) (32 - i) i = easN (easC W.I q W.s) 32 0 → Run (e + 1) mX10_eased 37 [some (vR 6), some (vI (q : Int)), some (vI (i : Int)), l3] [] M3 Q) 32 ?_ ?_ M2 _ g2 a2 (fun j hj => absurd hj (by omega)) rfl
    · intro M3 l3 f3 a3 _ hz
      exact vx_eased_37 (by omega) (f3.shp hS) ⟨fun _ => fin M3 _ f3 hz, fun c2 => absurd (by decide) c2⟩
    · intro i hi ih M3 l3 f3 a3 hne hz
      have s3 := f3.shp hS
      rw [show 32 - i = (32 - (i + 1)) + 1 by omega] at hz
      simp only [easN] at hz
      refine vx_eased_37 (by omega) s3 ⟨fun c2 => absurd c2 (by omega), fun _ => t_heaviest (by omega) s3 (by decide) a3 ⟨_, rfl, s3, fun c2 => ?_, fun c2 => ?_⟩⟩
      · rw [easX_hv] at c2
        refine fin M3 _ f3 ?_
        rw [if_pos (by unfold easC; simp [c2])] at hz
        exact hz
      · rw [easX_hv] at c2 ⊢
        have hwx : WS W.I.np (easX W.I q W.s i) := (easS_ws gs.1 i hne).cg (fun f j hf => easX_n hf)
        have hmx : WM (easX W.I q W.s i) := fun j hj => by
          have : easX W.I q W.s i 5 j = massS W.I W.s j := if_pos rfl
          rw [this]
          exact massS_in hok.wi hj
        refine t_sinks (by omega) s3 (by decide) (hX.ia.xc f3 (fun r => As_x)) hok.wi a3 hwx hmx (by omega) ⟨_, rfl, s3, fun c3 N hN sN => ?_, fun c3 => ?_⟩
        · rw [easX_sk] at c3
          have ck : skS W.I (pW W.I (easS W.I q W.s i)) q = true := by
            by_cases z : skS W.I (pW W.I (easS W.I q W.s i)) q = true
            · exact z
            · rw [if_neg z] at c3; exact absurd rfl c3
          rw [if_neg (by unfold easC; simp [c2, ck])] at hz
          obtain ⟨b, b1, b2, b3⟩ := heS1_in c2
          rw [w32s (i := i) (by omega)]
          refine ih N _ (by rw [hN]; exact f3.pv (Or.inl ⟨by omega, by omega⟩)) (fun f j hj => ?_) (fun j hj => ?_) hz
          · have hj2 := a3 f j hj
            rw [hN, b2, iv_ptv, hj2]
            unfold easX
            simp only [easS]
            rw [b2, Int.toNat_natCast]
            unfold pSet
            by_cases c5 : f = 5
            · subst c5; rw [if_neg (by omega)]; simp
            · rw [if_neg c5, if_neg c5]
              by_cases c6 : j = b ∧ f = 1
              · rw [if_pos c6, if_pos ⟨by omega, by omega, by omega⟩]
              · rw [if_neg c6, if_neg (by omega)]
          · by_cases z : j = i
            · rw [z]; exact c2
            · exact hne j (by omega)
        · rw [easX_sk] at c3
          have ck : ¬ skS W.I (pW W.I (easS W.I q W.s i)) q = true := fun z => by rw [if_pos z] at c3; exact c3 (by decide)
          refine fin M3 _ f3 ?_
          rw [if_pos (by unfold easC; simp [ck])] at hz
          exact hz
  · rw [i01n, hX.np] at c; rw [if_pos (by omega)] at h0; exact h0
end EasedX
