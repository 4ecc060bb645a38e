/-! odds: of the model, from a row of the tree -/
section OddsN
variable {d : Nat} {M : jM} {Q : Option jV → jM → Prop} {W : kW} {I : jI} {s : jS}
theorem w01 : w32 ((0 : Int) + 1) = 1 := (w32_i (z := 0 + 1) (by omega) (by omega)).trans (by decide)
theorem w12 : w32 ((1 : Int) + 1) = 2 := (w32_i (z := 1 + 1) (by omega) (by omega)).trans (by decide)
theorem odd_step {I : jI} {p : Nat} {s : jS} {ch pt : Int} (hc : 0 ≤ ch ∧ ch ≤ 100) (k : Nat) (hpt : 0 ≤ pt ∧ pt ≤ 1000000000) : ∃ x o1 o2 : Int, oddF I p ch (k + 1) s pt = o1 + o2 ∧ (∀ _ : Unit, oddF I p ch k (pL I s) (pt - x) = o1) ∧ (∀ _ : Unit, oddF I p ch k (pL I (pRen s p)) x = o2) ∧ (∀ _ : Unit, w64 (pt * ch) = pt * ch ∧ jdivL (pt * ch) 100 = x) ∧ (∀ _ : Unit, w32 x = x ∧ w64 x = x) ∧ (∀ _ : Unit, w32 (pt - x) = pt - x ∧ w64 (pt - x) = pt - x) ∧ (∀ _ : Unit, w32 (0 + o1) = o1) ∧ (∀ _ : Unit, w32 (o1 + o2) = o1 + o2 ∧ w64 (o1 + o2) = o1 + o2) ∧ (∀ _ : Unit, 0 ≤ pt - x ∧ pt - x ≤ 1000000000) ∧ (∀ _ : Unit, 0 ≤ x ∧ x ≤ 1000000000) := by
  obtain ⟨t1, t2, t3, t4⟩ := tune_in hpt hc
  have j : jdivL (pt * ch) 100 = pt * ch / 100 := jdivL_eq ⟨t1, by clear t3 t4; omega⟩ ⟨by decide, by decide⟩
  have w : w64 (pt * ch) = pt * ch := w64_i (by clear t3 t4 j; omega) (by clear t3 t4 j; omega)
  have e0 : oddF I p ch (k + 1) s pt = oddF I p ch k (pL I s) (pt - pt * ch / 100) + oddF I p ch k (pL I (pRen s p)) (pt * ch / 100) := rfl
  generalize pt * ch / 100 = x at *
  clear t1 t2
  have g1 : 0 ≤ pt - x ∧ pt - x ≤ 1000000000 := by clear e0 w j; omega
  have g2 : 0 ≤ x ∧ x ≤ 1000000000 := by clear e0 w j; omega
  have b1 := oddF_in (I := I) (p := p) hc k (pL I s) (pt - x) g1
  have b2 := oddF_in (I := I) (p := p) hc k (pL I (pRen s p)) x g2
  generalize hg1 : oddF I p ch k (pL I s) (pt - x) = o1 at *
  generalize hg2 : oddF I p ch k (pL I (pRen s p)) x = o2 at *
  refine ⟨x, o1, o2, e0, fun _ => hg1, fun _ => hg2, fun _ => ⟨w, j⟩, fun _ => ?_, fun _ => ?_, fun _ => ?_, fun _ => ?_, fun _ => g1, fun _ => g2⟩
  · clear e0 w j hg1 hg2; exact ⟨w32_i (by omega) (by omega), w64_i (by omega) (by omega)⟩
  · clear e0 w j hg1 hg2; exact ⟨w32_i (by omega) (by omega), w64_i (by omega) (by omega)⟩
  · clear e0 w j hg1 hg2; rw [Int.zero_add]; exact w32_i (by omega) (by omega)
  · clear e0 w j hg1 hg2; exact ⟨w32_i (by omega) (by omega), w64_i (by omega) (by omega)⟩
theorem m_oddsFrom {p : Nat} {ch : Int} (hI : WI I) (hp : p < I.np) (hc : 0 ≤ ch ∧ ch ≤ 100) : ∀ (k d dp : Nat) (M : jM) (s : jS) (pt : Int) (Q : Option jV → jM → Prop), dp + k ≤ 6 → 18 + k ≤ d → Shp M → IM M I → MR M I.np s → WS I.np s → s 0 9 + k ≤ 19000 → 0 ≤ pt ∧ pt ≤ 1000000000 → (∀ M', Fr Tb M M' → iv M' 486 = iv M 486 → (∀ x, x < 171 * dp → iv M' 489 x = iv M 489 x) → Q (some (vI (oddF I p ch k s pt))) M') → Call d mX11_oddsFrom [vR 468, vI (dp : Int), vI (p : Int), vI (k : Int), vI ch, vI pt] M Q := by
  intro k
  induction k with
  | zero =>
    intro d dp M s pt Q hk hd hS hA hs hw h9 hpt h
    obtain ⟨e, rfl⟩ := dd (d := d) (by omega)
    refine vn_oddsFrom (by omega) hS ⟨fun c => absurd rfl c, fun _ => m_doesFloat (by omega) hS hA hI hs hw hp (fun M1 f1 => ⟨_, rfl, f1.shp hS, ?_⟩)⟩
    have := h M1 (f1.mono (fun r hr => by unfold Mp at hr; unfold Tb; omega)) (f1.eiv (by unfold Mp; omega)) (fun x _ => by rw [f1.eiv (by unfold Mp; omega)])
    simp only [oddF] at this
    refine (congrArg (fun z => Q (some (vI z)) M1) ?_).mp this
    by_cases c3 : flS (pW I s) p = true <;> simp [c3]
  | succ k ih =>
    intro d dp M s pt Q hk hd hS hA hs hw h9 hpt h
    obtain ⟨e, rfl⟩ := dd (d := d) (by omega)
    obtain ⟨x, o1, o2, e0, ho1, ho2, q1, q2, q3, q4, q5, q6, q7⟩ := odd_step (I := I) (p := p) (s := s) hc k hpt
    rw [e0] at h
    clear hpt
    have ek : ∀ _ : Unit, w32 (((k + 1 : Nat) : Int) - 1) = (k : Int) := fun _ => by rw [w32_i (by omega) (by omega)]; omega
    have edp : ∀ _ : Unit, w32 ((dp : Int) + 1) = ((dp + 1 : Nat) : Int) := fun _ => w32s (by omega)
    refine vn_oddsFrom (by omega) hS ⟨fun _ => m_putAside (by omega) hS (by omega) (fun M1 f1 hx => ⟨rfl, f1.shp hS, ?_⟩), fun c => absurd (by omega) c⟩
    have s1 := f1.shp hS
    have A1 : IM M1 I := hA.fr f1 (by intro r hr; omega)
    have k1 : iv M1 486 = iv M 486 := f1.eiv (by omega)
    have r1 : MR M1 I.np s := by rw [MR_f, k1]; exact hs
    have g1 : Fr Tb M M1 := f1.mono (fun r hr => by unfold Tb; omega)
    rw [(q1 ()).1, (q1 ()).2, (q2 ()).1]
    -- back again from whatever was gone through behind this row
    have back : ∀ (M2 M3 : jM) (Q' : jM → Prop), FL M1 M2 → Fr Tb M2 M3 → iv M3 486 = iv M2 486 → (∀ x, x < 171 * (dp + 1) → iv M3 489 x = iv M2 489 x) → (∀ M4, Fr Tb M1 M4 → iv M4 486 = iv M 486 → (∀ x, x < 171 * (dp + 1) → iv M4 489 x = iv M1 489 x) → Q' M4) → Call e mX11_takeBack [vR 468, vI (dp : Int)] M3 (fun r M4 => r = none ∧ Shp M4 ∧ Q' M4) := by
      intro M2 M3 Q' f2 f3 k3 q3 h'
      have s3 := f3.shp (f2.shp s1)
      refine m_takeBack (by omega) s3 (by omega) (fun M4 f4 x4 => ⟨rfl, f4.shp s3, h' M4 (((f2.1.mono (by intro r hr; unfold Tb; omega)).trans f3).trans (f4.mono (by intro r hr; unfold Tb; omega))) ?_ ?_⟩)
      · funext x
        rw [x4, k3]
        by_cases c : x < 171
        · rw [if_pos c, q3 _ (by omega), f2.1.eiv (by omega), hx, if_pos (by omega)]
          congr 1
          omega
        · rw [if_neg c, f2.2 x (by omega), k1]
      · intro x hx2
        rw [f4.eiv (by omega), q3 x hx2, f2.1.eiv (by omega)]
    have two : ∀ (M4 : jM) (z1 : Int), z1 = o1 → Fr Tb M1 M4 → iv M4 486 = iv M 486 → (∀ x, x < 171 * (dp + 1) → iv M4 489 x = iv M1 489 x) → Run (e + 1) mX11_oddsFrom 44 [some (vR 468), some (vI (dp : Int)), some (vI (p : Int)), some (vI ((k + 1 : Nat) : Int)), some (vI ch), some (vI pt), some (vI x), some (vI z1), some (vI 1)] [] M4 Q := by
      intro M4 z1 hz1 f4 k4 q4
      have s4 := f4.shp s1
      have A4 : IM M4 I := A1.fr f4 (by intro r hr; unfold Tb; omega)
      have r4 : MR M4 I.np s := by rw [MR_f, k4]; exact hs
      refine vn_oddsFrom_44 (by omega) s4 ⟨fun c => absurd c (by decide), fun _ => ⟨fun c => absurd rfl c, fun _ => m_tuneUp (by omega) s4 A4 hI r4 hw (fun M5 f5 r5 => ⟨rfl, f5.shp s4, ?_⟩)⟩⟩
      have s5 := f5.shp s4
      refine m_live (by omega) s5 (f5.fl.im A4) hI r5 hw.ren (fun M6 f6 r6 => ⟨rfl, f6.shp s5, ?_⟩)
      have s6 := f6.shp s5
      have f46 := f5.fl.trans f6
      rw [ek (), edp (), if_neg (fun z => z rfl)]
      refine ih e (dp + 1) M6 (pL I (pRen s p)) x _ (by omega) (by omega) s6 (f46.im A4) r6 (hw.ren.pL (by rw [pRen_09]; omega)) (by rw [pL_09, pRen_09]; omega) (q7 ()) (fun M7 f7 k7 q7 => ⟨_, rfl, f7.shp s6, ?_⟩)
      have s7 := f7.shp s6
      refine m_takeBack (by omega) s7 (by omega) (fun M8 f8 x8 => ⟨rfl, f8.shp s7, ?_⟩)
      have k8 : iv M8 486 = iv M 486 := by
        funext x
        rw [x8, k7]
        by_cases c : x < 171
        · rw [if_pos c, q7 _ (by omega), f46.1.eiv (by omega), q4 _ (by omega), hx, if_pos (by omega)]
          congr 1
          omega
        · rw [if_neg c, f46.2 x (by omega), k4]
      rw [w12, hz1, ho2 (), (q5 ()).1]
      refine vn_oddsFrom_44 (by omega) (f8.shp s7) ⟨fun _ => ?_, fun c => absurd (Int.le_refl 2) c⟩
      refine h M8 ((((g1.trans f4).trans (f46.1.mono (by intro r hr; unfold Tb; omega))).trans f7).trans (f8.mono (by intro r hr; unfold Tb; omega))) k8 (fun x hx2 => ?_)
      rw [f8.eiv (by omega), q7 x (by omega), f46.1.eiv (by omega), q4 x (by omega), hx, if_neg (by omega)]
    refine vn_oddsFrom_44 (by omega) s1 ⟨fun c => absurd c (by decide), fun _ => ⟨fun _ => m_live (by omega) s1 A1 hI r1 hw (fun M2 f2 r2 => ⟨rfl, f2.shp s1, ?_⟩), fun c => absurd (by decide) c⟩⟩
    have s2 := f2.shp s1
    rw [ek (), edp (), if_pos (by decide), (q3 ()).1]
    refine ih e (dp + 1) M2 (pL I s) (pt - x) _ (by omega) (by omega) s2 (f2.im A1) r2 (hw.pL (by omega)) (by rw [pL_09]; omega) (q6 ()) (fun M3 f3 k3 q3 => ⟨_, rfl, f3.shp s2, ?_⟩)
    rw [ho1 (), q4 (), w01]
    exact back M2 M3 _ f2 f3 k3 q3 (fun M4 f4 k4 q4 => two M4 _ rfl f4 k4 q4)
theorem M_odds {p n c : Int} (hd : 26 ≤ d) (hM : CM M W) (hok : OKW W) (h : ∀ M', FM M M' → CM M' W → Q (some (vI (aOdds W p n c))) M') : Call d mX11_odds [vR 468, vI p, vI n, vI c] M Q := by
  obtain ⟨e, rfl⟩ := dd (d := d) (by omega)
  have hS := hM.shp
  have hn8 := hok.wi.1
  have h09 := hok.h0
  have h0 := h M Fr.refl hM
  unfold aOdds at h h0
  refine vn_odds (by omega) hS ?_
  rw [hM.np, w32np hn8]
  simp only [fIn_0, fIn_n]
  refine ⟨fun c1 => ?_, fun c1 => ⟨fun c2 => ?_, fun c2 => ⟨fun c3 => ?_, fun c3 => ?_⟩⟩⟩
  · rw [if_pos (by omega)] at h0; exact h0
  · rw [if_pos (by omega)] at h0; exact h0
  · rw [if_neg (by omega)] at h
    obtain ⟨q, rfl⟩ : ∃ q : Nat, p = (q : Int) := ⟨p.toNat, by omega⟩
    obtain ⟨m, rfl⟩ : ∃ m : Nat, n = (m : Int) := ⟨n.toNat, by omega⟩
    rw [Int.toNat_natCast, Int.toNat_natCast] at h
    exact m_oddsFrom hok.wi (by omega) ⟨by omega, by omega⟩ m e 0 M W.s 1000000000 _ (by omega) (by omega) hS hM.im (hM.mr (by omega)) (hok.gs (by omega)).1 (by omega) ⟨by omega, by omega⟩ (fun M2 f2 k2 _ => ⟨_, rfl, f2.shp hS, h M2 (hM.tb f2 k2).2 (hM.tb f2 k2).1⟩)
  · rw [if_pos (by omega)] at h0; exact h0
end OddsN

