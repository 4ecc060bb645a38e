/-! THE MODEL reads an island: items -/
section MIsl2
variable {d st r fr a : Nat} {B : Int} {M M1 N : jM} {Q : Option jV → jM → Prop} {T : jT} {it : Nat → Int}
theorem vn_itemsR {e : Nat} {s f m : Int} (hr : (r = 479 ∧ B = 4) ∨ (r = 480 ∧ B = 24) ∨ (r = 481 ∧ B = 48)) (he : 6 ≤ e) (hS : Shp M)
  (h : Run (e + 1) mX11_items 3 [some (vR 468), some (vI s), some (vR r), some (vI f), some (vI m), some (vI (0 : Int)), none] [] M Q) :
  Call (e + 1) mX11_items [vR 468, vI s, vR r, vI f, vI m] M Q := by
  rcases hr with ⟨rfl, rfl⟩ | ⟨rfl, rfl⟩ | ⟨rfl, rfl⟩
  · exact vn_items479 he hS h
  · exact vn_items480 he hS h
  · exact vn_items481 he hS h
theorem vn_itemsR_3 {e : Nat} {s f m l5 : Int} {l6 : Option jV} (hr : (r = 479 ∧ B = 4) ∨ (r = 480 ∧ B = 24) ∨ (r = 481 ∧ B = 48)) (he : 6 ≤ e) (hS : Shp M)
  (h : ((m ≤ l5) → (Call e mX11_look [vR 468] M (fun r5 M3 => ∃ z2 : Int, r5 = some (vI z2) ∧ Shp M3 ∧ (Call e mX11_itemOf [vI s, vI z2] M3 (fun r10 M8 => ∃ z7 : Int, r10 = some (vI z7) ∧ Shp M8 ∧ (Run (e + 1) mX11_items 41 [some (vR 468), some (vI s), some (vR r), some (vI f), some (vI m), some (vI (0 : Int)), some (vI z7)] [] M8 Q)))))) ∧ (¬ (m ≤ l5) → (Call e mX11_usual [vI s, vI l5] M (fun r15 M13 => ∃ z12 : Int, r15 = some (vI z12) ∧ Shp M13 ∧ ((0 ≤ (w32 (f + l5)) ∧ (w32 (f + l5)) < B) ∧ (∀ N18 : jM, N18 = (si M13 r (w32 (f + l5)).toNat z12) → Shp N18 → (Run (e + 1) mX11_items 3 [some (vR 468), some (vI s), some (vR r), some (vI f), some (vI m), some (vI (w32 (l5 + (1 : Int)))), l6] [] N18 Q))))))) :
  Run (e + 1) mX11_items 3 [some (vR 468), some (vI s), some (vR r), some (vI f), some (vI m), some (vI l5), l6] [] M Q := by
  rcases hr with ⟨rfl, rfl⟩ | ⟨rfl, rfl⟩ | ⟨rfl, rfl⟩
  · exact vn_items479_3 he hS h
  · exact vn_items480_3 he hS h
  · exact vn_items481_3 he hS h
theorem vn_itemsR_41 {e : Nat} {s f m l5 l6 : Int} (hr : (r = 479 ∧ B = 4) ∨ (r = 480 ∧ B = 24) ∨ (r = 481 ∧ B = 48)) (he : 6 ≤ e) (hS : Shp M)
  (h : (((iv M 468 4) ≠ (-1 : Int)) → (Q none M)) ∧ (¬ ((iv M 468 4) ≠ (-1 : Int)) → (((l6 = (-1 : Int)) → (Q none M)) ∧ (¬ (l6 = (-1 : Int)) → ((((fHas l5 l6) ≠ (0 : Int)) → (Q none M)) ∧ (¬ ((fHas l5 l6) ≠ (0 : Int)) → (∀ N25 : jM, N25 = (si M 468 3 (w32 ((iv M 468 3) + (1 : Int)))) → Shp N25 → (Call e mX11_lowest [vI s, vI l6] N25 (fun r30 M28 => ∃ z27 : Int, r30 = some (vI z27) ∧ Shp M28 ∧ (Call e mX11_highest [vI s, vI l6] M28 (fun r35 M33 => ∃ z32 : Int, r35 = some (vI z32) ∧ Shp M33 ∧ (Call e mX11_number [vR 468, vI z27, vI z32] M33 (fun r40 M38 => ∃ z37 : Int, r40 = some (vI z37) ∧ Shp M38 ∧ ((0 ≤ (w32 (f + l6)) ∧ (w32 (f + l6)) < B) ∧ (∀ N43 : jM, N43 = (si M38 r (w32 (f + l6)).toNat z37) → Shp N43 → ((((iv N43 468 4) ≠ (-1 : Int)) → (Run (e + 1) mX11_items 41 [some (vR 468), some (vI s), some (vR r), some (vI f), some (vI m), some (vI (jor l5 (jshl (1 : Int) l6))), some (vI (-1 : Int))] [] N43 Q)) ∧ (¬ ((iv N43 468 4) ≠ (-1 : Int)) → (Call e mX11_look [vR 468] N43 (fun r49 M47 => ∃ z46 : Int, r49 = some (vI z46) ∧ Shp M47 ∧ (Call e mX11_itemOf [vI s, vI z46] M47 (fun r54 M52 => ∃ z51 : Int, r54 = some (vI z51) ∧ Shp M52 ∧ (Run (e + 1) mX11_items 41 [some (vR 468), some (vI s), some (vR r), some (vI f), some (vI m), some (vI (jor l5 (jshl (1 : Int) l6))), some (vI z51)] [] M52 Q)))))))))))))))))))))) :
  Run (e + 1) mX11_items 41 [some (vR 468), some (vI s), some (vR r), some (vI f), some (vI m), some (vI l5), some (vI l6)] [] M Q := by
  rcases hr with ⟨rfl, rfl⟩ | ⟨rfl, rfl⟩ | ⟨rfl, rfl⟩
  · exact vn_items479_41 he hS h
  · exact vn_items480_41 he hS h
  · exact vn_items481_41 he hS h
theorem wfr {f k : Nat} (h : f + k < 1000) : w32 ((f : Int) + (k : Int)) = ((f + k : Nat) : Int) := by
  rw [w32_i (by omega) (by omega)]
  omega
theorem mnY_in : 3 ≤ mnY st ∧ mnY st ≤ 4 := by
  unfold mnY
  split <;> omega
theorem m_items (hd : 10 ≤ d) (hS : Shp M) (hT : MT M T) (hO : OKT T) (hst : st < 3) (hr : (r = 479 ∧ B = 4) ∨ (r = 480 ∧ B = 24) ∨ (r = 481 ∧ B = 48)) (hfr : ((fr + mnY st : Nat) : Int) ≤ B) (ha : iv M 468 3 = (a : Int)) (ha2 : a ≤ T.2) (hw : iv M 468 4 = -1)
    (hy : ∀ q it' M', itY T st 4 a 0 (fun i => utY (4 * st + i)) = .inr (q, it') → MJ r M M' → iv M' 468 3 = ((q : Nat) : Int) → iv M' 468 4 = -1 → (∀ k, k < mnY st → iv M' r (fr + k) = it' k) → (∀ j, j < fr → iv M' r j = iv M r j) → Q none M')
    (hn : ∀ w M', itY T st 4 a 0 (fun i => utY (4 * st + i)) = .inl w → MJ r M M' → iv M' 468 4 = ((w : Nat) : Int) → Q none M') : Call d mX11_items [vR 468, vI (chY st), vR r, vI (fr : Int), vI (mnY st : Int)] M Q := by
  obtain ⟨e, rfl⟩ := dd (d := d) (by omega)
  have hm := mnY_in (st := st)
  have hB : B ≤ 48 := by omega
  have hr8 : r ≠ 468 := by omega
  have hr9 : r ≠ 469 := by omega
  have h240 := hT.2.1
  refine vn_itemsR hr (by omega) hS ?_
  -- the second loop
  have key : ∀ (f i g a : Nat) (it : Nat → Int) (M1 : jM), i + f = 4 → g < 16 → cbN g = i → MJ r M M1 → iv M1 468 3 = ((skT T a : Nat) : Int) → iv M1 468 4 = -1 → a ≤ T.2 → (∀ k, k < mnY st → iv M1 r (fr + k) = it k) → (∀ j, j < fr → iv M1 r j = iv M r j) → itY T st f a g it = itY T st 4 a 0 (fun i => utY (4 * st + i)) ∨ True → (∀ q it' M', itY T st f a g it = .inr (q, it') → MJ r M M' → iv M' 468 3 = ((q : Nat) : Int) → iv M' 468 4 = -1 → (∀ k, k < mnY st → iv M' r (fr + k) = it' k) → (∀ j, j < fr → iv M' r j = iv M r j) → Q none M') → (∀ w M', itY T st f a g it = .inl w → MJ r M M' → iv M' 468 4 = ((w : Nat) : Int) → Q none M') → Run (e + 1) mX11_items 41 [some (vR 468), some (vI (chY st)), some (vR r), some (vI (fr : Int)), some (vI (mnY st : Int)), some (vI (g : Int)), some (vI (imF st (nxT T a)))] [] M1 Q := by
    intro f
    induction f with
    | zero =>
      intro i g a it M1 hi hg hc k1 e1 w1 ha hv hl _ hy hn
      have s1 := k1.1.shp hS
      simp only [itY] at hy hn
      have him := imF_in (st := st) (c := nxT T a)
      refine vn_itemsR_41 hr (by omega) s1 ⟨fun z => absurd w1 z, fun _ => ⟨fun _ => hy _ _ M1 rfl k1 e1 w1 hv hl, fun z => ⟨fun _ => hy _ _ M1 rfl k1 e1 w1 hv hl, fun y => ?_⟩⟩⟩
      obtain ⟨k, hk⟩ : ∃ k : Nat, imF st (nxT T a) = (k : Int) := ⟨(imF st (nxT T a)).toNat, by omega⟩
      rw [hk] at y
      exact absurd ((fHas_b hg (by omega)).mpr (bits_full hg (by omega) (by omega))) y
    | succ f ih =>
      intro i g a it M1 hi hg hc k1 e1 w1 ha hv hl _ hy hn
      have s1 := k1.1.shp hS
      have T1 := k1.mt hr9 hT
      simp only [itY] at hy hn
      have him := imF_in (st := st) (c := nxT T a)
      have hle : skT T a ≤ T.2 := (skT_in (T := T) a).2 ha
      refine vn_itemsR_41 hr (by omega) s1 ⟨fun z => absurd w1 z, fun _ => ⟨fun z => ?_, fun z => ?_⟩⟩
      · rw [if_pos (Or.inl z)] at hy
        exact hy _ _ M1 rfl k1 e1 w1 hv hl
      · obtain ⟨k, hk⟩ : ∃ k : Nat, imF st (nxT T a) = (k : Int) := ⟨(imF st (nxT T a)).toNat, by omega⟩
        have hkm : k < mnY st := by
          unfold mnY
          by_cases c : st = 1
          · rw [if_pos c]
            have := imF_1 (nxT_0 (T := T) (a := a) hO)
            rw [c] at hk him
            omega
          · rw [if_neg c]; omega
        have hlt : skT T a < T.2 := nxT_lt (fun x => z (imF_no hst (Or.inl x)))
        rw [hk] at hy hn ⊢
        rw [Int.toNat_natCast] at hy hn
        have hk4 : k < 4 := by omega
        refine ⟨fun y => ?_, fun y N25 h25 s25 => ?_⟩
        · rw [if_pos (Or.inr ((fHas_b hg (by omega)).mp y))] at hy
          exact hy _ _ M1 rfl k1 e1 w1 hv hl
        · have hb : ¬ g.testBit k = true := fun x => y ((fHas_b hg (by omega)).mpr x)
          have hbf : g.testBit k = false := by
            cases hb2 : g.testBit k with
            | false => rfl
            | true => exact absurd hb2 hb
          rw [if_neg (fun x => x.elim (by omega) hb)] at hy hn
          rw [e1, w32s (by omega)] at h25
          have k25 : MN M1 N25 := MN.refl.si h25
          have e25 : iv N25 468 3 = ((skT T a + 1 : Nat) : Int) := si_at h25
          have w25 : iv N25 468 4 = -1 := (k25.2 4 (by decide)).trans w1
          have m25 : MJ r M N25 := k1.trans k25.mj
          have r25 : ∀ j, iv N25 r j = iv M1 r j := fun j => by rw [h25, iv_si, if_neg (by omega)]
          have hfk : fr + k < 1000 := by omega
          refine m_lowest (by omega) s25 hst hkm ⟨_, rfl, s25, m_highest (by omega) s25 hst hkm ⟨_, rfl, s25, ?_⟩⟩
          rw [wfr hfk, Int.toNat_natCast, (bits hg hk4).2.2.1]
          refine m_num2 (by omega) s25 (m25.mt hr9 hT) e25 (by omega) w25 (fun q v hq hin M38 k38 e38 => ⟨_, rfl, k38.1.shp s25, ⟨by omega, by omega⟩, fun N43 h43 s43 => ?_⟩) (fun w hw M38 z k38 q38 w38 => ⟨_, rfl, k38.1.shp s25, ⟨by omega, by omega⟩, fun N43 h43 s43 => ?_⟩)
          · rw [hq] at hy hn
            dsimp only at hy hn
            rw [if_neg (by omega)] at hy hn
            obtain ⟨q1, q2⟩ := nmT_q (T := T) (by omega) hq
            have m38 : MJ r M M38 := m25.trans k38.mj
            have m43 : MJ r M N43 := m38.row hr8 h43
            have p43 : ∀ j, iv N43 468 j = iv M38 468 j := fun j => by rw [h43, iv_si, if_neg (by omega)]
            have w43 : iv N43 468 4 = -1 := by rw [p43, k38.2 4 (by decide)]; exact w25
            have e43 : iv N43 468 3 = (q : Int) := by rw [p43]; exact e38
            refine ⟨fun x => absurd w43 x, fun _ => m_look (by omega) s43 (m43.mt hr9 hT) e43 (fun M47 k47 e47 => ⟨_, rfl, k47.1.shp s43, ?_⟩)⟩
            have s47 := k47.1.shp s43
            have r43 : ∀ j, iv N43 r j = if j = fr + k then v else iv M1 r j := fun j => by
              rw [h43, iv_si]
              by_cases c : j = fr + k
              · rw [if_pos ⟨rfl, c⟩, if_pos c]
              · rw [if_neg (by omega), if_neg c, k38.1.eiv hr8, r25]
            refine m_itemOf (by omega) s47 hst (nxT_0 hO) ⟨_, rfl, s47, ?_⟩
            refine ih (i + 1) (g ||| 2 ^ k) q (upI it k v) M47 (by omega) (bits hg hk4).1 (by rw [(bits hg hk4).2.1 hbf, hc]) (m43.trans k47.mj) e47 ((k47.2 4 (by decide)).trans w43) q2 (fun j hj => ?_) (fun j hj => ?_) (Or.inr trivial) hy hn
            · rw [k47.1.eiv hr8, r43]
              unfold upI
              by_cases c : j = k
              · rw [if_pos c, if_pos (by omega)]
              · rw [if_neg c, if_neg (by omega)]; exact hv j hj
            · rw [k47.1.eiv hr8, r43, if_neg (by omega)]; exact hl j hj
          · have m38 : MJ r M M38 := m25.trans ⟨k38.1.mono (fun s hs => Or.inl hs), q38⟩
            have m43 : MJ r M N43 := m38.row hr8 h43
            have w43 : iv N43 468 4 = (w : Int) := by rw [h43, iv_si, if_neg (by omega)]; exact w38
            refine ⟨fun _ => vn_itemsR_41 hr (by omega) s43 ⟨fun _ => ?_, fun x => absurd (by rw [w43]; omega) x⟩, fun x => absurd (by rw [w43]; omega) x⟩
            rcases hw with ⟨q, v, hq, hin, ew⟩ | hq
            · rw [hq] at hn
              dsimp only at hn
              rw [if_pos (by omega), ← ew] at hn
              exact hn w N43 rfl m43 w43
            · rw [hq] at hn
              exact hn w N43 rfl m43 w43
  -- the first loop
  refine up_to (R := fun i => ∀ M1, Fr (fun s => s = r) M M1 → (∀ k, k < i → iv M1 r (fr + k) = utY (4 * st + k)) → (∀ j, j < fr → iv M1 r j = iv M r j) → Run (e + 1) mX11_items 3 [some (vR 468), some (vI (chY st)), some (vR r), some (vI (fr : Int)), some (vI (mnY st : Int)), some (vI (i : Int)), none] [] M1 Q) (mnY st) ?_ ?_ M Fr.refl (fun j hj => absurd hj (Nat.not_lt_zero _)) (fun _ _ => rfl)
  · intro M1 f1 hv hl
    have s1 := f1.shp hS
    have k1 : MJ r M M1 := ⟨f1.mono (fun s hs => Or.inr hs), fun i _ _ => by rw [f1.eiv (fun x => hr8 x.symm)]⟩
    refine vn_itemsR_3 hr (by omega) s1 ⟨fun _ => m_look (by omega) s1 (k1.mt hr9 hT) (by rw [f1.eiv (fun x => hr8 x.symm)]; exact ha) (fun M2 k2 e2 => ⟨_, rfl, k2.1.shp s1, ?_⟩), fun z => absurd (Int.le_refl _) z⟩
    have s2 := k2.1.shp s1
    refine m_itemOf (by omega) s2 hst (nxT_0 hO) ⟨_, rfl, s2, ?_⟩
    refine key 4 0 0 a _ M2 rfl (by decide) rfl (k1.trans k2.mj) e2 ?_ ha2 (fun k hk => by rw [k2.1.eiv hr8]; exact hv k hk) (fun j hj => by rw [k2.1.eiv hr8]; exact hl j hj) (Or.inr trivial) hy hn
    rw [k2.2 4 (by decide), f1.eiv (fun x => hr8 x.symm)]
    exact hw
  · intro i hi ih M1 f1 hv hl
    have s1 := f1.shp hS
    have hfk : fr + i < 1000 := by omega
    refine vn_itemsR_3 hr (by omega) s1 ⟨fun z => absurd z (by omega), fun _ => ?_⟩
    rw [wfr hfk, Int.toNat_natCast, w32s (by omega)]
    refine m_usual (by omega) s1 hst hi ⟨_, rfl, s1, ⟨by omega, by omega⟩, fun N hN sN => ?_⟩
    refine ih N (by rw [hN]; exact f1.ps rfl) (fun k hk => ?_) (fun j hj => ?_)
    · rw [hN, iv_si]
      by_cases c : k = i
      · rw [if_pos ⟨rfl, by omega⟩, c]
      · rw [if_neg (by omega)]; exact hv k (by omega)
    · rw [hN, iv_si, if_neg (by omega)]; exact hl j hj
end MIsl2
