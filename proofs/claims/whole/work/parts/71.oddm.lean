/-! odds: of the model -/
section OddsM
variable {d : Nat} {M : jM} {Q : Option jV → jM → Prop} {W : kW} {I : jI} {s : jS}
theorem m_tuneUp {w : Nat} (hd : 7 ≤ d) (hS : Shp M) (hA : IM M I) (hI : WI I) (hs : MR M I.np s) (hw : WS I.np s) (h : ∀ M', FP M M' → MR M' I.np (pRen s w) → Q none M') : Call d mX11_tuneUp [vR 468, vI (w : Int)] M Q := by
  obtain ⟨e, rfl⟩ := dd (d := d) (by omega)
  have hn8 := hI.1
  have prk : ∀ k f i, (i < k → (fun (f i : Nat) => if i < k then pRen s w f i else s f i) f i = pRen s w f i) := fun k f i hi => if_pos hi
  refine vn_tuneUp (by omega) hS ?_
  -- renewed ahead of the k-th
  have def_ : ∀ k : Nat, ∃ u : jS, (∀ f i, u f i = if i < k then pRen s w f i else s f i) := fun k => ⟨_, fun _ _ => rfl⟩
  have nx : ∀ (k : Nat) (u u' : jS), (∀ f i, u f i = if i < k then pRen s w f i else s f i) → (∀ f i, u' f i = if i < k + 1 then pRen s w f i else s f i) → ∀ g x, (x ≠ k ∨ g = 0 ∨ 5 ≤ g) → u' g x = u g x := by
    intro k u u' h1 h2 g x hg
    rw [h1, h2]
    by_cases c : x < k
    · rw [if_pos c, if_pos (by omega)]
    · rw [if_neg c]
      by_cases c2 : x < k + 1
      · rw [if_pos c2]; exact if_neg (fun z => by omega)
      · rw [if_neg c2]
  refine up_to (R := fun p => ∀ M1 l3 u, FP M M1 → (∀ f i, u f i = if i < 4 * p then pRen s w f i else s f i) → MRf (iv M1 486) I.np u → Run (e + 1) mX11_tuneUp 2 [some (vR 468), some (vI (w : Int)), some (vI (p : Int)), l3] [] M1 Q) I.np ?_ ?_ M _ s FP.refl (fun f i => by rw [if_neg (by omega)]) (MR_f.mp hs)
  · intro M1 l3 u f1 hu r1
    have A1 : IM M1 I := hA.fr f1.1 (by intro r hr; omega)
    refine vn_tuneUp_2 (by omega) (f1.shp hS) ⟨fun _ => h M1 f1 (r1.sc (fun j hj => ?_) (fun p hp => ?_) ?_ ?_ ?_), fun c => absurd c (by rw [A1.1]; omega)⟩
    · rw [hu, hu, hu, hu]
      by_cases c : j < 4 * I.np
      · rw [if_pos c, if_pos c, if_pos c, if_pos c]; exact ⟨rfl, fun _ => ⟨rfl, rfl, rfl⟩⟩
      · rw [if_neg c]
        exact ⟨if_neg (fun z => by omega), fun z => absurd (hw.2.1 j hj (by omega)) z⟩
    · rw [hu]
      have : pRen s w 6 p = s 6 p := if_neg (fun z => by omega)
      split <;> simp [this]
    · rw [hu]
      have : pRen s w 0 7 = s 0 7 := if_neg (fun z => by omega)
      split <;> simp [this]
    · rw [hu]
      have : pRen s w 0 8 = s 0 8 := if_neg (fun z => by omega)
      split <;> simp [this]
    · rw [hu]
      have : pRen s w 0 9 = s 0 9 := if_neg (fun z => by omega)
      split <;> simp [this]
  · intro p hp ih M1 l3 u f1 hu r1
    have A1 : IM M1 I := hA.fr f1.1 (by intro r hr; omega)
    refine vn_tuneUp_2 (by omega) (f1.shp hS) ⟨fun c => absurd c (by rw [A1.1]; omega), fun _ => ?_⟩
    refine up_to (R := fun i => ∀ M1 u, FP M M1 → (∀ f x, u f x = if x < 4 * p + i then pRen s w f x else s f x) → MRf (iv M1 486) I.np u → Run (e + 1) mX11_tuneUp 12 [some (vR 468), some (vI (w : Int)), some (vI (p : Int)), some (vI (i : Int))] [] M1 Q) 4 ?_ ?_ M1 u f1 hu r1
    · intro M1 u f1 hu r1
      refine vn_tuneUp_12 (by omega) (f1.shp hS) ⟨fun _ => ?_, fun c => absurd c (by decide)⟩
      rw [w32s (by omega)]
      exact ih M1 _ u f1 hu r1
    · intro i hi ih2 M1 u f1 hu r1
      rw [show 4 * p + (i + 1) = 4 * p + i + 1 by omega] at ih2
      obtain ⟨u', hu'⟩ := def_ (4 * p + i + 1)
      have ho := nx _ u u' hu hu'
      obtain ⟨y1, y2⟩ := r1.1 (4 * p + i) (by omega)
      have eu : ∀ f, u f (4 * p + i) = s f (4 * p + i) := fun f => by rw [hu, if_neg (by omega)]
      rw [eu 1] at y1
      rw [eu 1, eu 2, eu 3, eu 4] at y2
      have x0 : (20 * (p : Int) + 5 * (i : Int)).toNat = 5 * (4 * p + i) := by omega
      have x1 : (20 * (p : Int) + 5 * (i : Int) + 1).toNat = 5 * (4 * p + i) + 1 := by omega
      have x2 : (20 * (p : Int) + 5 * (i : Int) + 2).toNat = 5 * (4 * p + i) + 2 := by omega
      have x4 : (20 * (p : Int) + 5 * (i : Int) + 4).toNat = 5 * (4 * p + i) + 4 := by omega
      have e' : ∀ f, u' f (4 * p + i) = pRen s w f (4 * p + i) := fun f => by rw [hu', if_pos (by omega)]
      have keep : pRen s w 4 (4 * p + i) = s 4 (4 * p + i) ∨ s 1 (4 * p + i) = -1 → MRf (iv M1 486) I.np u' := by
        intro hk
        refine r1.upd hn8 (j := 4 * p + i) (by omega) (fun _ _ _ => rfl) ho ?_
        rw [e', e', e', e', show pRen s w 1 (4 * p + i) = s 1 (4 * p + i) from if_neg (fun z => by omega), show pRen s w 2 (4 * p + i) = s 2 (4 * p + i) from if_neg (fun z => by omega), show pRen s w 3 (4 * p + i) = s 3 (4 * p + i) from if_neg (fun z => by omega)]
        refine ⟨y1, fun z => ?_⟩
        rcases hk with hk | hk
        · rw [hk]; exact y2 z
        · exact absurd hk z
      refine vn_tuneUp_12 (by omega) (f1.shp hS) ?_
      rw [x0, x1, x2, x4, w32s (i := i) (by omega)]
      refine ⟨fun c => absurd c (by omega), fun _ => ⟨⟨⟨by omega, by omega⟩, by omega, by omega⟩, fun c => ?_, fun c => ⟨fun c2 => ?_, fun c2 N hN sN => ?_⟩⟩⟩
      · rw [i01] at c
        refine ih2 M1 u' f1 hu' (keep ?_)
        by_cases z : s 1 (4 * p + i) = -1
        · exact Or.inr z
        · refine Or.inl (if_neg (fun q => c ?_))
          exact ⟨(y2 z).1, by rw [(y2 z).2.1]; exact q.2.1⟩
      · rw [i01, Classical.not_not] at c
        have z : s 1 (4 * p + i) ≠ -1 := fun q => by rw [y1 q] at c; omega
        rw [(y2 z).2.2.1] at c2
        exact ih2 M1 u' f1 hu' (keep (Or.inl (if_neg (fun q => c2 q.2.2))))
      · rw [i01, Classical.not_not] at c
        have z : s 1 (4 * p + i) ≠ -1 := fun q => by rw [y1 q] at c; omega
        have c2 : s 2 (4 * p + i) = 2 := by
          rw [(y2 z).2.2.1] at c2
          by_cases q : s 2 (4 * p + i) = 2
          · exact q
          · exact absurd q c2
        have c1 : s 1 (4 * p + i) = w := by rw [(y2 z).2.1] at c; exact c.2
        have hv : ∀ x, iv N 486 x = if x = 5 * (4 * p + i) + 4 then 0 else iv M1 486 x := by
          intro x; rw [hN]; simp only [iv_si, true_and]
        refine ih2 N u' (by rw [hN]; exact f1.si (by omega)) hu' (r1.upd hn8 (j := 4 * p + i) (by omega) (fun x hx hx2 => by rw [hv, if_neg (by omega)]) ho ?_)
        rw [e', e', e', e', show pRen s w 1 (4 * p + i) = s 1 (4 * p + i) from if_neg (fun z => by omega), show pRen s w 2 (4 * p + i) = s 2 (4 * p + i) from if_neg (fun z => by omega), show pRen s w 3 (4 * p + i) = s 3 (4 * p + i) from if_neg (fun z => by omega), show pRen s w 4 (4 * p + i) = 0 from if_pos ⟨rfl, c1, c2⟩]
        obtain ⟨z1, z2, z3, z4, z5⟩ := y2 z
        refine ⟨fun q => absurd q z, fun _ => ⟨?_, ?_, ?_, ?_, ?_⟩⟩
        · rw [hv, if_neg (by omega)]; exact z1
        · rw [hv, if_neg (by omega)]; exact z2
        · rw [hv, if_neg (by omega)]; exact z3
        · rw [hv, if_neg (by omega)]; exact z4
        · rw [hv, if_pos rfl]
end OddsM
