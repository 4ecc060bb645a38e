/-! A LAW made: the class enacts it -/
/-- a law more, and the tape empty -/
def wTextL (W : kW) (L : jL) : kW := (W.1, W.2.1, W.2.2.1, W.2.2.2.1, W.2.2.2.2.1, (0, W.tb), W.rf, W.me, (W.lc + 1, W.lh), fun k => if k = W.lc then lwG L else W.lw k)
def EN (n : Nat) (M M' : jM) : Prop := mx M' = mx M + 7 ∧ ms M' = ms M + 744 ∧
  (∀ r, r < mx M → kd M' r = kd M r ∧ (r ≠ 6 → r ≠ 7 → iv M' r = iv M r) ∧ lg M' r = lg M r ∧ (r ≠ 27 → rv M' r = rv M r)) ∧
  (∀ i, iv M' 6 i = if i = 4 then ((n + 1 : Nat) : Int) else iv M 6 i) ∧ (∀ i, iv M' 7 i = if i = 1 then 0 else iv M 7 i) ∧ (∀ i, rv M' 27 i = if i = n then mx M else rv M 27 i) ∧
  LawAt M' (mx M) ∧ (∀ i, i < 240 → iv M' (mx M + 1) i = iv M 21 i ∧ iv M' (mx M + 2) i = iv M 22 i) ∧ (∀ i, i < 64 → iv M' (mx M + 3) i = iv M 23 i ∧ iv M' (mx M + 4) i = iv M 24 i ∧ iv M' (mx M + 5) i = iv M 25 i) ∧ iv M' (mx M) 6 = iv M 20 6
section XEnact
variable {d n : Nat} {M M' : jM} {Q : Option jV → jM → Prop} {W : kW}
theorem R1_27 {a j v : Nat} (h : R1 a j = some v) : a ≠ 27 := by
  intro ha
  subst ha
  unfold R1 at h
  rw [if_neg (by decide), if_neg (by decide), if_neg (by decide), Option.map_eq_some_iff] at h
  obtain ⟨q, hq, _⟩ := h
  have h1 := List.find?_some hq
  have h2 := List.mem_of_find?_eq_some hq
  have h3 : ∀ q ∈ R1L, q.1 ≠ 27 := by decide
  have := h3 q h2
  simp only [Bool.and_eq_true, beq_iff_eq] at h1
  omega
theorem Shp.r27 {i v : Nat} (h : Shp M) : Shp (sr M 27 i v) := ⟨h.1, h.2.1, fun a j w q => by
  have := h.2.2 a j w q
  show (if a = 27 ∧ j = i then v else rv M a j) = w
  rw [if_neg (fun z => R1_27 q z.1)]
  exact this⟩
theorem x_enact (hd : 4 ≤ d) (hS : Shp M) (h4 : iv M 6 4 = (n : Int)) (hn : n < 4) (h : ∀ M', EN n M M' → Q (some (vI (n : Int))) M') : Call d mX10_enact [vR 6] M Q := by
  obtain ⟨e, rfl⟩ := dd (d := d) (by omega)
  obtain ⟨e, rfl⟩ : ∃ e', e = e' + 1 := ⟨e - 1, by omega⟩
  have hg : 500 ≤ mx M := hS.1
  obtain ⟨g, hgd⟩ : ∃ g, g = mx M := ⟨_, rfl⟩
  have x0 : NX g M (nw M (3, 0) (jslots 3)) := nw_NX (by omega)
  have m0 : mx (nw M (3, 0) (jslots 3)) = g + 1 := by rw [hgd]; rfl
  have k0 : (kd (nw M (3, 0) (jslots 3)) g).1 = 3 := by
    show (if g = mx M then (3, 0) else kd M g).1 = 3
    rw [if_pos hgd]
  have o0 : jobj (nw M (3, 0) (jslots 3)) 3 g = true := jobj_of (by omega) (by omega) k0
  obtain ⟨M1, h1⟩ : ∃ M1, M1 = nLaw (nw M (3, 0) (jslots 3)) g := ⟨_, rfl⟩
  have x1 : NX g M M1 := by rw [h1]; exact x0.trans (nLaw_NX (by omega))
  have m1 : mx M1 = g + 7 := by rw [h1, nLaw_mx, m0]
  have ms1 : ms M1 = ms M + 744 := by
    rw [h1, nLaw_ms]
    show ms M + jslots 3 + 736 = _
    rw [jsl3]
  have l1 : LawAt M1 g := by rw [h1]; exact nLaw_at (by omega) m0 k0
  have s1 : Shp M1 := x1.shp (by omega) hS
  show Run (e + 1 + 1) mX10_enact 0 [some (vR 6), none, none] [] M Q
  refine r_aload_n dX10_enact_0 rfl ?_
  refine r_get0 dX10_enact_1 kF10_124 (sh_o hS kk6 (by decide)) ?_
  rw [h4]
  refine r_istore_n (ls2 := [some (vR 6), some (vI (n : Int)), none]) dX10_enact_4 (Nat.le_of_ble_eq_true rfl) rfl ?_
  refine r_iload_n dX10_enact_5 rfl ?_
  refine r_if_lt dX10_enact_6 rfl (fun c => absurd c (by omega)) (fun _ => ?_)
  refine r_iload_n dX10_enact_9 rfl ?_
  refine r_aload_n dX10_enact_10 rfl ?_
  refine r_getS (v := 27) dX10_enact_11 kF10_32 (sh_o hS kk6 (by decide)) (sh_f hS rr6_3 (by decide)) ?_
  refine r_lenS dX10_enact_14 (sh_r hS kk27 (by decide)) (by decide) ?_
  refine r_icmp_lt dX10_enact_15 rfl (fun _ => ?_) (fun c => absurd (show (n : Int) < 4 by omega) c)
  refine r_new dX10_enact_20 kN10_30 ?_
  rw [← hgd]
  refine r_dupR dX10_enact_23 ?_
  refine r_invI dX10_enact_24 (by rfl) kM10_149 (by decide) (Nat.le_of_ble_eq_true rfl) (as := []) (q := [vR g]) rfl rfl (Nat.le_of_ble_eq_true rfl) (Nat.le_of_ble_eq_true rfl) o0 rfl ?_
  refine x3_init (by omega) o0 ?_
  rw [← h1]
  refine r_astore_n (ls2 := [some (vR 6), some (vI (n : Int)), some (vR g)]) dX10_enact_27 (Nat.le_of_ble_eq_true rfl) rfl ?_
  refine r_aload_n dX10_enact_28 rfl ?_
  refine r_aload_n dX10_enact_29 rfl ?_
  refine r_getS (v := 19) dX10_enact_30 kF10_26 (sh_o s1 kk6 (by decide)) (sh_f s1 rr6_2 (by decide)) ?_
  refine r_getS (v := 20) dX10_enact_33 kF10_150 (sh_o s1 kk19 (by decide)) (sh_f s1 rr19_0 (by decide)) ?_
  refine r_invV_v dX10_enact_36 kM10_154 (by decide) (Nat.le_of_ble_eq_true rfl) (as := [vR 20]) (q := []) rfl rfl (Nat.le_of_ble_eq_true rfl) (Nat.le_of_ble_eq_true rfl) (la_o l1) ?_
  refine vl_copy l1 (law20 s1) (by omega) s1 ⟨rfl, ?_⟩
  obtain ⟨M2, h2⟩ : ∃ M2, M2 = si (cpr (cpr (cpr (si (cpr (cpr M1 (20 + 1) (g + 1) 240) (20 + 2) (g + 2) 240) g 2 (iv (cpr (cpr M1 (20 + 1) (g + 1) 240) (20 + 2) (g + 2) 240) 20 2)) (20 + 3) (g + 3) 64) (20 + 4) (g + 4) 64) (20 + 5) (g + 5) 64) g 6 (iv (cpr (cpr (cpr (si (cpr (cpr M1 (20 + 1) (g + 1) 240) (20 + 2) (g + 2) 240) g 2 (iv (cpr (cpr M1 (20 + 1) (g + 1) 240) (20 + 2) (g + 2) 240) 20 2)) (20 + 3) (g + 3) 64) (20 + 4) (g + 4) 64) (20 + 5) (g + 5) 64) 20 6) := ⟨_, rfl⟩
  rw [← h2]
  have f2 : Fr (fun r => g ≤ r) M1 M2 := by
    rw [h2]
    exact ((((((Fr.refl.pc (by show g ≤ g + 1; omega)).pc (by show g ≤ g + 2; omega)).ps (by show g ≤ g; omega)).pc (by show g ≤ g + 3; omega)).pc (by show g ≤ g + 4; omega)).pc (by show g ≤ g + 5; omega)).ps (by show g ≤ g; omega)
  have s2 := f2.shp s1
  have l2 : LawAt M2 g := f2.law l1
  have low : ∀ r, r < g → iv M1 r = iv M r := fun r hr => (x1.2 r hr).2.1
  have v1 : ∀ i, i < 240 → iv M2 (g + 1) i = iv M 21 i ∧ iv M2 (g + 2) i = iv M 22 i := by
    intro i hi
    refine ⟨?_, ?_⟩
    · rw [h2, iv_si, if_neg (by omega), iv_cpr, if_neg (by omega), iv_cpr, if_neg (by omega), iv_cpr, if_neg (by omega), iv_si, if_neg (by omega), iv_cpr, if_neg (by omega), iv_cpr, if_pos ⟨rfl, hi⟩, low 21 (by omega)]
    · rw [h2, iv_si, if_neg (by omega), iv_cpr, if_neg (by omega), iv_cpr, if_neg (by omega), iv_cpr, if_neg (by omega), iv_si, if_neg (by omega), iv_cpr, if_pos ⟨rfl, hi⟩, iv_cpr, if_neg (by omega), low 22 (by omega)]
  have v3 : ∀ i, i < 64 → iv M2 (g + 3) i = iv M 23 i ∧ iv M2 (g + 4) i = iv M 24 i ∧ iv M2 (g + 5) i = iv M 25 i := by
    intro i hi
    refine ⟨?_, ?_, ?_⟩
    · rw [h2, iv_si, if_neg (by omega), iv_cpr, if_neg (by omega), iv_cpr, if_neg (by omega), iv_cpr, if_pos ⟨rfl, hi⟩, iv_si, if_neg (by omega), iv_cpr, if_neg (by omega), iv_cpr, if_neg (by omega), low 23 (by omega)]
    · rw [h2, iv_si, if_neg (by omega), iv_cpr, if_neg (by omega), iv_cpr, if_pos ⟨rfl, hi⟩, iv_cpr, if_neg (by omega), iv_si, if_neg (by omega), iv_cpr, if_neg (by omega), iv_cpr, if_neg (by omega), low 24 (by omega)]
    · rw [h2, iv_si, if_neg (by omega), iv_cpr, if_pos ⟨rfl, hi⟩, iv_cpr, if_neg (by omega), iv_cpr, if_neg (by omega), iv_si, if_neg (by omega), iv_cpr, if_neg (by omega), iv_cpr, if_neg (by omega), low 25 (by omega)]
  have v6 : iv M2 g 6 = iv M 20 6 := by
    rw [h2, iv_si, if_pos ⟨rfl, rfl⟩, iv_cpr, if_neg (by omega), iv_cpr, if_neg (by omega), iv_cpr, if_neg (by omega), iv_si, if_neg (by omega), iv_cpr, if_neg (by omega), iv_cpr, if_neg (by omega), low 20 (by omega)]
  clear h2
  refine r_aload_n dX10_enact_39 rfl ?_
  refine r_getS (v := 27) dX10_enact_40 kF10_32 (sh_o s2 kk6 (by decide)) (sh_f s2 rr6_3 (by decide)) ?_
  refine r_iload_n dX10_enact_43 rfl ?_
  refine r_aload_n dX10_enact_44 rfl ?_
  refine r_aastore dX10_enact_45 ⟨Or.inr ⟨jro_ix (sh_r s2 kk27 (by decide)) ⟨by omega, by omega⟩, la_o l2⟩, by decide, by omega⟩ ?_
  rw [Int.toNat_natCast]
  have s3 : Shp (sr M2 27 n g) := s2.r27
  refine r_aload_n dX10_enact_46 rfl ?_
  refine r_dupR dX10_enact_47 ?_
  refine r_get0 dX10_enact_48 kF10_124 (sh_o s3 kk6 (by decide)) ?_
  refine r_iconst dX10_enact_51 (by decide) ?_
  refine r_iadd dX10_enact_52 ?_
  refine r_put0 dX10_enact_53 kF10_124 (sh_o s3 kk6 (by decide)) (Or.inl rfl) ?_
  have e4 : iv (sr M2 27 n g) 6 4 = (n : Int) := by
    show iv M2 6 4 = _
    rw [f2.eiv (by show ¬ g ≤ 6; omega), low 6 (by omega)]
    exact h4
  rw [e4, w32s (by omega)]
  have s4 : Shp (si (sr M2 27 n g) 6 4 ((n + 1 : Nat) : Int)) := s3
  refine r_aload_n dX10_enact_56 rfl ?_
  refine r_getS (v := 7) dX10_enact_57 kF10_10 (sh_o s4 kk6 (by decide)) (sh_f s4 rr6_0 (by decide)) ?_
  refine r_iconst dX10_enact_60 (by decide) ?_
  refine r_put0 dX10_enact_61 kF10_105 (sh_o s4 kk7 (by decide)) (Or.inl rfl) ?_
  refine r_iload_n dX10_enact_64 rfl ?_
  refine r_iret dX10_enact_65 rfl (h _ ?_)
  have eiv : ∀ r i, iv (si (si (sr M2 27 n g) 6 4 ((n + 1 : Nat) : Int)) 7 1 0) r i = if r = 7 ∧ i = 1 then 0 else if r = 6 ∧ i = 4 then ((n + 1 : Nat) : Int) else iv M2 r i := fun r i => by rw [iv_si, iv_si]; rfl
  have erv : ∀ r i, rv (si (si (sr M2 27 n g) 6 4 ((n + 1 : Nat) : Int)) 7 1 0) r i = if r = 27 ∧ i = n then g else rv M2 r i := fun r i => rfl
  have big : ∀ r, r ≠ 6 → r ≠ 7 → iv (si (si (sr M2 27 n g) 6 4 ((n + 1 : Nat) : Int)) 7 1 0) r = iv M2 r := fun r r6 r7 => funext (fun i => by rw [eiv, if_neg (fun z => r7 z.1), if_neg (fun z => r6 z.1)])
  unfold EN
  rw [← hgd]
  refine ⟨?_, ?_, fun r hr => ⟨?_, fun r6 r7 => ?_, ?_, fun r27 => ?_⟩, fun i => ?_, fun i => ?_, fun i => ?_, ?_, fun i hi => ?_, fun i hi => ?_, ?_⟩
  · show mx M2 = _
    rw [f2.emx]; exact m1
  · show ms M2 = _
    rw [f2.ems]; exact ms1
  · show kd M2 r = _
    rw [f2.ekd]; exact (x1.2 r hr).1
  · rw [big r r6 r7, f2.eiv (by show ¬ g ≤ r; omega)]; exact low r hr
  · show lg M2 r = _
    rw [f2.elg (by show ¬ g ≤ r; omega)]; exact (x1.2 r hr).2.2.1
  · funext i
    rw [erv, if_neg (fun z => r27 z.1), f2.erv]
    exact congrFun (x1.2 r hr).2.2.2 i
  · rw [eiv, if_neg (by omega)]
    by_cases c : i = 4
    · rw [if_pos ⟨rfl, c⟩, if_pos c]
    · rw [if_neg (by omega), if_neg c, f2.eiv (by show ¬ g ≤ 6; omega), low 6 (by omega)]
  · rw [eiv]
    by_cases c : i = 1
    · rw [if_pos ⟨rfl, c⟩, if_pos c]
    · rw [if_neg (by omega), if_neg (by omega), if_neg c, f2.eiv (by show ¬ g ≤ 7; omega), low 7 (by omega)]
  · rw [erv]
    by_cases c : i = n
    · rw [if_pos ⟨rfl, c⟩, if_pos c]
    · rw [if_neg (by omega), if_neg c, f2.erv]
      exact congrFun (x1.2 27 (by omega)).2.2.2 i
  · obtain ⟨q1, q2, q3, q4, q5⟩ := l2
    refine ⟨q1, q2, q3, ?_, q5⟩
    have e : ∀ i, rv (si (si (sr M2 27 n g) 6 4 ((n + 1 : Nat) : Int)) 7 1 0) g i = rv M2 g i := fun i => by rw [erv, if_neg (by omega)]
    rw [e, e, e, e, e, e]
    exact q4
  · rw [big _ (by omega) (by omega), big _ (by omega) (by omega)]; exact v1 i hi
  · rw [big _ (by omega) (by omega), big _ (by omega) (by omega), big _ (by omega) (by omega)]; exact v3 i hi
  · rw [big _ (by omega) (by omega)]; exact v6
end XEnact
