/-! eased: of the model -/
/-- a thought fewer each time: after 32 there is none -/
def pcnt (u : jS) (p : Nat) : Nat → Nat
  | 0 => 0
  | n + 1 => if u 1 n = (p : Int) then pcnt u p n + 1 else pcnt u p n
theorem pcnt_le {u : jS} {p : Nat} : ∀ n, pcnt u p n ≤ n
  | 0 => Nat.le_refl 0
  | n + 1 => by have := pcnt_le (u := u) (p := p) n; simp only [pcnt]; split <;> omega
theorem pcnt_set {u : jS} {p b : Nat} (hb : u 1 b = (p : Int)) : ∀ n, pcnt (pSet u 1 b (-1)) p n + (if b < n then 1 else 0) = pcnt u p n
  | 0 => by simp [pcnt]
  | n + 1 => by
    have ih := pcnt_set hb n
    simp only [pcnt]
    by_cases c : n = b
    · subst c
      rw [if_neg (by omega)] at ih
      have e1 : pSet u 1 n (-1) 1 n = -1 := if_pos ⟨rfl, rfl⟩
      rw [if_pos hb, e1, if_neg (by omega), if_pos (by omega)]
      omega
    · have e : pSet u 1 b (-1) 1 n = u 1 n := if_neg (fun z => c z.1)
      rw [e]
      split <;> split at ih <;> split <;> omega
theorem easS_cnt {I : jI} {p : Nat} {s : jS} : ∀ k, (∀ j, j < k → heS1 I p (easS I p s j) ≠ -1) → pcnt (easS I p s k) p 32 + k = pcnt s p 32
  | 0, _ => rfl
  | k + 1, h => by
    have ih := easS_cnt (I := I) (p := p) (s := s) k (fun j hj => h j (by omega))
    obtain ⟨b, b1, b2, b3⟩ := heS1_in (h k (by omega))
    have := pcnt_set b3 32
    simp only [easS]
    rw [b2, Int.toNat_natCast]
    rw [if_pos b1] at this
    omega
theorem pcnt_0 {u : jS} {p b : Nat} (hb : u 1 b = (p : Int)) : ∀ n, b < n → 0 < pcnt u p n
  | 0, h => by omega
  | n + 1, h => by
    simp only [pcnt]
    by_cases c : n = b
    · subst c; rw [if_pos hb]; omega
    · have := pcnt_0 hb n (by omega)
      split <;> omega
theorem easS_none {I : jI} {p : Nat} {s : jS} (h : ∀ j, j < 32 → heS1 I p (easS I p s j) ≠ -1) : heS1 I p (easS I p s 32) = -1 := by
  by_cases c : heS1 I p (easS I p s 32) = -1
  · exact c
  · obtain ⟨b, b1, b2, b3⟩ := heS1_in c
    have h1 := easS_cnt 32 h
    have h2 := pcnt_le (u := s) (p := p) 32
    have h3 := pcnt_0 b3 32 b1
    omega
section EasedM
variable {d : Nat} {M : jM} {Q : Option jV → jM → Prop} {W : kW} {I : jI} {s : jS}
theorem m_easeOnce {p : Nat} {u : jS} (hd : 15 ≤ d) (hS : Shp M) (hA : IM M I) (hI : WI I) (hs : MR M I.np u) (hw : WS I.np u) (h1 : heS1 I p u = -1 → ∀ M', FL M M' → Q (some (vI 0)) M') (h2 : heS1 I p u ≠ -1 → ∀ M', FL M M' → MR M' I.np (pSet u 1 (heS1 I p u).toNat (-1)) → Q (some (vI 1)) M') : Call d mX11_easeOnce [vR 468, vI (p : Int)] M Q := by
  obtain ⟨e, rfl⟩ := dd (d := d) (by omega)
  have hn8 := hI.1
  have hst : heavF (u 1) (massS I u) (p : Int) (4 * I.np) = heS1 I p u := by
    unfold heS1
    rw [show 32 = 4 * I.np + (32 - 4 * I.np) by omega]
    refine (heavF_stop _ (fun j a1 a2 => ?_)).symm
    rw [hw.2.1 j (by omega) a1]
    omega
  refine vn_easeOnce (by omega) hS ?_
  refine up_to (R := fun i => ∀ M1 l4, Fr Mp M M1 → Run (e + 1) mX11_easeOnce 4 [some (vR 468), some (vI (p : Int)), some (vI (heavF (u 1) (massS I u) (p : Int) i)), some (vI (i : Int)), l4] [] M1 Q) (4 * I.np) ?_ ?_ M _ Fr.refl
  · intro M1 l4 f1
    have s1 := f1.shp hS
    have A1 : IM M1 I := hA.fr f1 (by intro r hr; unfold Mp; omega)
    rw [hst]
    refine vn_easeOnce_4 (by omega) s1 ⟨fun _ => ⟨fun c => ?_, fun c => ?_⟩, fun c => absurd c (by rw [A1.1, w32_i (by omega) (by omega)]; omega)⟩
    · rw [if_pos c]
      exact h1 c M1 (FL.mp f1)
    · rw [if_neg c]
      obtain ⟨b, b1, b2, b3⟩ := heS1_in c
      have h2 := h2 c
      rw [b2] at h2 ⊢
      rw [Int.toNat_natCast] at h2
      have ed : jdiv (b : Int) 4 = ((b / 4 : Nat) : Int) := by rw [jdiv_eq ⟨by omega, by omega⟩ ⟨by decide, by decide⟩]; omega
      have er : jrem (b : Int) 4 = ((b % 4 : Nat) : Int) := by rw [jrem_eq ⟨by omega, by omega⟩ ⟨by decide, by decide⟩]; omega
      rw [ed, er, show (20 * ((b / 4 : Nat) : Int) + 5 * ((b % 4 : Nat) : Int) + 0).toNat = 5 * b by omega]
      clear ed er
      refine ⟨⟨⟨by omega, by omega⟩, by omega, by omega⟩, fun N hN sN => h2 N ?_ ?_⟩
      · rw [hN]; exact (FL.mp f1).si (by omega)
      · have r1 : MR M1 I.np u := hs.fr f1 (by unfold Mp; omega)
        have es : pSet u 1 b (-1) 1 b = -1 := if_pos ⟨rfl, rfl⟩
        refine MR_f.mpr ((MR_f.mp r1).upd hn8 (j := b) b1 (fun y hy hy2 => by rw [hN, iv_si, if_neg (by omega)]) (fun g j hg => if_neg (by omega)) ⟨fun _ => by rw [hN, iv_si, if_pos ⟨rfl, rfl⟩], fun z => absurd es z⟩)
  · intro i hi ih M1 l4 f1
    have s1 := f1.shp hS
    have A1 : IM M1 I := hA.fr f1 (by intro r hr; unfold Mp; omega)
    have r1 : MR M1 I.np u := hs.fr f1 (by unfold Mp; omega)
    obtain ⟨y1, y2⟩ := r1.1 i (by omega)
    simp only [heavF] at ih
    have hat := heavF_at (w := u 1) (m := massS I u) (p := (p : Int)) i
    refine vn_easeOnce_4 (by omega) s1 ⟨fun c => absurd c (by rw [A1.1, w32_i (by omega) (by omega)]; omega), fun _ => ?_⟩
    have ed : jdiv (i : Int) 4 = ((i / 4 : Nat) : Int) := by rw [jdiv_eq ⟨by omega, by omega⟩ ⟨by decide, by decide⟩]; omega
    have er : jrem (i : Int) 4 = ((i % 4 : Nat) : Int) := by rw [jrem_eq ⟨by omega, by omega⟩ ⟨by decide, by decide⟩]; omega
    rw [ed, er, show (20 * ((i / 4 : Nat) : Int) + 5 * ((i % 4 : Nat) : Int)).toNat = 5 * i by omega, show (20 * ((i / 4 : Nat) : Int) + 5 * ((i % 4 : Nat) : Int) + 1).toNat = 5 * i + 1 by omega, w32s (i := i) (by omega)]
    clear ed er
    refine ⟨⟨⟨by omega, by omega⟩, by omega, by omega⟩, fun c => ?_, fun c => ?_⟩
    · rw [i01] at c
      have ne : u 1 i ≠ (p : Int) := by
        intro z
        have z2 : u 1 i ≠ -1 := by omega
        exact c ⟨(y2 z2).1, by rw [(y2 z2).2.1]; exact z⟩
      have := fun l4 => ih M1 l4 f1
      rw [if_neg (fun z => ne z.1)] at this
      exact this _
    · rw [i01, Classical.not_not] at c
      have z2 : u 1 i ≠ -1 := fun z => by rw [y1 z] at c; omega
      have so : u 1 i = (p : Int) := by rw [← (y2 z2).2.1]; exact c.2
      refine ⟨fun c2 => ?_, fun c2 => ?_⟩
      · have := fun l4 => ih M1 l4 f1
        rw [if_pos ⟨so, Or.inl c2⟩] at this
        exact this _
      · obtain ⟨b, b1, b2, b3⟩ := hat.resolve_left c2
        rw [b2] at ih c2 ⊢
        have eb : jdiv (b : Int) 4 = ((b / 4 : Nat) : Int) := by rw [jdiv_eq ⟨by omega, by omega⟩ ⟨by decide, by decide⟩]; omega
        have eb2 : jrem (b : Int) 4 = ((b % 4 : Nat) : Int) := by rw [jrem_eq ⟨by omega, by omega⟩ ⟨by decide, by decide⟩]; omega
        rw [eb, eb2]
        clear eb eb2
        have i4 : 4 * (i / 4) + i % 4 = i := by omega
        have b4 : 4 * (b / 4) + b % 4 = b := by omega
        refine m_massOf (by omega) s1 A1 hI r1 hw (by omega) (by omega) (by rw [i4]; exact z2) (fun M2 f2 => ⟨_, rfl, f2.shp s1, ?_⟩)
        have s2 := f2.shp s1
        have A2 : IM M2 I := A1.fr f2 (by intro r hr; unfold Mp; omega)
        have r2 : MR M2 I.np u := r1.fr f2 (by unfold Mp; omega)
        refine m_massOf (by omega) s2 A2 hI r2 hw (by omega) (by omega) (by rw [b4, b3]; omega) (fun M3 f3 => ⟨_, rfl, f3.shp s2, ?_⟩)
        rw [i4, b4]
        have := fun l4 => ih M3 l4 ((f1.trans f2).trans f3)
        rw [Int.toNat_natCast] at this
        by_cases cm : massS I u b < massS I u i
        · rw [if_pos ⟨so, Or.inr cm⟩] at this
          rw [if_neg (by rw [jcmp_le]; omega)]
          exact this _
        · rw [if_neg (fun z => by rcases z.2 with z | z; exact c2 z; exact cm z)] at this
          rw [if_pos (by rw [jcmp_le]; omega)]
          exact this _
theorem M_eased {p : Int} (hd : 18 ≤ d) (hM : CM M W) (hok : OKW W) (h : ∀ M', FM M M' → CM M' W → Q (some (vI (aEased W p))) M') : Call d mX11_eased [vR 468, vI p] M Q := by
  obtain ⟨e, rfl⟩ := dd (d := d) (by omega)
  have hS := hM.shp
  have hn8 := hok.wi.1
  have h0 := h M Fr.refl hM
  unfold aEased at h h0
  refine vn_eased (by omega) hS ?_
  rw [hM.np, w32np hn8]
  simp only [fIn_0, fIn_n]
  refine ⟨fun c => ?_, fun c => ?_⟩
  · rw [if_neg (by omega)] at h
    obtain ⟨q, rfl⟩ : ∃ q : Nat, p = (q : Int) := ⟨p.toNat, by omega⟩
    rw [Int.toNat_natCast] at h
    have gs := hok.gs (by omega)
    refine m_aside0 (by omega) hS (fun M0 f0 hput => ⟨rfl, f0.shp hS, ?_⟩)
    have s0 := f0.shp hS
    have fb : Fr Tb M M0 := f0.mono (by intro r hr; unfold Tb; omega)
    have e6 : iv M0 486 = iv M 486 := f0.eiv (by omega)
    have A0 : IM M0 W.I := hM.im.fr f0 (by intro r hr; omega)
    have fin : ∀ (M1 : jM) (z : Int), FL M0 M1 → z = easN (easC W.I q W.s) 32 0 → Call e mX11_takeBack [vR 468, vI (0 : Int)] M1 (fun r M' => r = none ∧ Shp M' ∧ Q (some (vI z)) M') := fun M1 z f1 hz => m_back0 (by omega) s0 fb hput (fun x _ => by rw [e6]) f1 (fun M6 f6 k6 => ⟨rfl, f6.shp hS, by rw [hz]; exact h M6 (hM.tb f6 k6).2 (hM.tb f6 k6).1⟩)
    have key : ∀ (n i : Nat) (M1 : jM), i + n = 32 → FL M0 M1 → MR M1 W.I.np (easS W.I q W.s i) → (∀ j, j < i → heS1 W.I q (easS W.I q W.s j) ≠ -1) → easN (easC W.I q W.s) n i = easN (easC W.I q W.s) 32 0 → Run (e + 1) mX11_eased 17 [some (vR 468), some (vI (q : Int)), some (vI (i : Int))] [] M1 Q := by
      intro n
      induction n with
      | zero =>
        intro i M1 hi f1 r1 hne hz
        obtain rfl : i = 32 := by omega
        have s1 := f1.shp s0
        have A1 := f1.im A0
        have hw := easS_ws (I := W.I) (p := q) gs.1 32 hne
        have none_ : heS1 W.I q (easS W.I q W.s 32) = -1 := easS_none hne
        refine vn_eased_17 (by omega) s1 (m_doesSink (by omega) s1 A1 hok.wi r1 hw (by omega) (fun M2 f2 => ⟨_, rfl, f2.shp s1, fun c2 => ?_, fun c2 => ?_⟩))
        · exact fin M2 _ (f1.trans (FL.mp f2)) hz
        · have A2 := (FL.mp f2).im A1
          refine m_easeOnce (by omega) (f2.shp s1) A2 hok.wi (r1.fr f2 (by unfold Mp; omega)) hw (fun c3 M3 f3 => ⟨_, rfl, f3.shp (f2.shp s1), fun _ => fin M3 _ ((f1.trans (FL.mp f2)).trans f3) hz, fun c4 => absurd rfl c4⟩) (fun c3 => absurd none_ c3)
      | succ n ih =>
        intro i M1 hi f1 r1 hne hz
        have s1 := f1.shp s0
        have A1 := f1.im A0
        have hw := easS_ws (I := W.I) (p := q) gs.1 i hne
        simp only [easN] at hz
        refine vn_eased_17 (by omega) s1 (m_doesSink (by omega) s1 A1 hok.wi r1 hw (by omega) (fun M2 f2 => ⟨_, rfl, f2.shp s1, fun c2 => ?_, fun c2 => ?_⟩))
        · have ck : ¬ skS W.I (pW W.I (easS W.I q W.s i)) q = true := fun z => by rw [if_pos z] at c2; exact absurd c2 (by decide)
          rw [if_pos (by unfold easC; simp [ck])] at hz
          exact fin M2 _ (f1.trans (FL.mp f2)) hz
        · have ck : skS W.I (pW W.I (easS W.I q W.s i)) q = true := by
            by_cases z : skS W.I (pW W.I (easS W.I q W.s i)) q = true
            · exact z
            · rw [if_neg z] at c2; exact absurd rfl c2
          have A2 := (FL.mp f2).im A1
          refine m_easeOnce (by omega) (f2.shp s1) A2 hok.wi (r1.fr f2 (by unfold Mp; omega)) hw (fun c3 M3 f3 => ⟨_, rfl, f3.shp (f2.shp s1), fun _ => ?_, fun c4 => absurd rfl c4⟩) (fun c3 M3 f3 r3 => ⟨_, rfl, f3.shp (f2.shp s1), fun c4 => absurd c4 (by decide), fun _ => ?_⟩)
          · rw [if_pos (by unfold easC; simp [c3])] at hz
            exact fin M3 _ ((f1.trans (FL.mp f2)).trans f3) hz
          · rw [if_neg (by unfold easC; simp [c3, ck])] at hz
            rw [w32s (i := i) (by omega)]
            refine ih (i + 1) M3 (by omega) ((f1.trans (FL.mp f2)).trans f3) r3 (fun j hj => ?_) hz
            by_cases z : j = i
            · rw [z]; exact c3
            · exact hne j (by omega)
    exact key 32 0 M0 rfl FL.refl (by rw [MR_f, e6]; exact hM.mr (by omega)) (fun j hj => absurd hj (by omega)) rfl
  · rw [if_pos (by omega)] at h0; exact h0
end EasedM
