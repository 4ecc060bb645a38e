/-! THE MACHINE: the law's own method that catches -/
noncomputable abbrev mP : jMe := (12, yL_person, cL_person, 5, some .int)
theorem hh_at : ∀ w ∈ [Cond.classLink RL 13 nsE], w.onTables = true := by decide
theorem tabP {p : Program} {l : Launch} {S : Spec} {e : Env} {s s₁ : State} {m : MethodId} {args : Array Value} {below : List Frame} {meth : Method} {c : Code} {ret : Option FieldType} {cc : ByteArray} {maxL : Nat} (B : BodyLoose p l yL_person S cc maxL ret e s m args below meth c s₁) (h : (Cond.codeWith yL_person cL_person 5 (some .int) [(0, 10, 13, 13)]).before args s = true) : c.exceptionTable.toList = [] ++ (⟨0, 10, 13, 13⟩ : ExceptionTableEntry) :: [] := xq_table (x := yL_person) B h
theorem aP0 {x o : Nat} {p0 p1 : Int} {M : jM} {d : Nat} {q : Option jV} : act mP (0, [some (vR x), some (vI p0), some (vI p1), some (vR o), q], []) M = some (.inl ((1, [some (vR x), some (vI p0), some (vI p1), some (vR o), q], [vR o]), M)) := (act_of dL_person_0 (by rfl)).trans (by rfl)
theorem aP1 {ls : jLs} {o : Nat} {M : jM} : act mP (1, ls, [vR o]) M = some (.inl ((2, ls, [vI 0, vR o]), M)) := by
  rw [act_of (m := mP) dL_person_1 (by rfl)]
  exact if_pos (e := none) (show -32768 ≤ (0 : Int) ∧ (0 : Int) ≤ 32767 by decide)
theorem aP2 {x o : Nat} {p0 p1 : Int} {M : jM} {q : Option jV} : act mP (2, [some (vR x), some (vI p0), some (vI p1), some (vR o), q], [vI 0, vR o]) M = some (.inl ((3, [some (vR x), some (vI p0), some (vI p1), some (vR o), q], [vR x, vI 0, vR o]), M)) := (act_of dL_person_2 (by rfl)).trans (by rfl)
theorem aP3 {x o : Nat} {p0 p1 : Int} {M : jM} {q : Option jV} : act mP (3, [some (vR x), some (vI p0), some (vI p1), some (vR o), q], [vR x, vI 0, vR o]) M = some (.inl ((4, [some (vR x), some (vI p0), some (vI p1), some (vR o), q], [vI p0, vR x, vI 0, vR o]), M)) := (act_of dL_person_3 (by rfl)).trans (by rfl)
theorem aP4 {x o : Nat} {p0 p1 : Int} {M : jM} {q : Option jV} : act mP (4, [some (vR x), some (vI p0), some (vI p1), some (vR o), q], [vI p0, vR x, vI 0, vR o]) M = some (.inl ((5, [some (vR x), some (vI p0), some (vI p1), some (vR o), q], [vI p1, vI p0, vR x, vI 0, vR o]), M)) := (act_of dL_person_4 (by rfl)).trans (by rfl)
theorem aP8 {ls : jLs} {o : Nat} {z : Int} {M : jM} : act mP (8, ls, [vI z, vI 0, vR o]) M = some (.inl ((9, ls, [vL z, vI 0, vR o]), M)) := (act_of dL_person_8 (by rfl)).trans (by rfl)
theorem aP9 {ls : jLs} {o : Nat} {z : Int} {M : jM} (h : jIdx M 21 o 0 = true ∧ 6 ≤ o) : act mP (9, ls, [vL z, vI 0, vR o]) M = some (.inl ((10, ls, []), sl M o 0 z)) := by
  rw [act_of (m := mP) dL_person_9 (by rfl)]
  exact if_pos h
theorem aP10 {ls : jLs} {M : jM} : act mP (10, ls, []) M = some (.inl ((17, ls, []), M)) := (act_of dL_person_10 (by rfl)).trans (by rfl)
theorem aP15 {ls : jLs} {M : jM} : act mP (15, ls, []) M = some (.inl ((16, ls, [vI 1]), M)) := by
  rw [act_of (m := mP) dL_person_15 (by rfl)]
  exact if_pos (e := none) (show -32768 ≤ (1 : Int) ∧ (1 : Int) ≤ 32767 by decide)
theorem aP17 {ls : jLs} {M : jM} : act mP (17, ls, []) M = some (.inl ((18, ls, [vI 0]), M)) := by
  rw [act_of (m := mP) dL_person_17 (by rfl)]
  exact if_pos (e := none) (show -32768 ≤ (0 : Int) ∧ (0 : Int) ≤ 32767 by decide)
theorem aP16 {ls : jLs} {M : jM} : act mP (16, ls, [vI 1]) M = some (.inr (.inr (.inl (some (vI 1), M)))) := (act_of dL_person_16 (by rfl)).trans (by rfl)
theorem aP18 {ls : jLs} {M : jM} : act mP (18, ls, [vI 0]) M = some (.inr (.inr (.inl (some (vI 0), M)))) := (act_of dL_person_18 (by rfl)).trans (by rfl)
theorem jIdx_mono {M M2 : jM} {o : Nat} (h : jIdx M 21 o 0 = true) (hm : mx M ≤ mx M2) (hk : kd M2 o = kd M o) : jIdx M2 21 o 0 = true := by
  unfold jIdx at h ⊢
  simp only [Bool.and_eq_true, decide_eq_true_eq] at h ⊢
  rw [hk]
  exact ⟨⟨⟨⟨h.1.1.1.1, by omega⟩, h.1.1.2⟩, h.1.2⟩, h.2⟩
/-- nothing that exec does makes an old cell another one -/
theorem act_kd {m : jMe} {fr fr' : jFr} {M M' : jM} (h : act m fr M = some (.inl (fr', M'))) : ∀ r, r < mx M → kd M' r = kd M r := by
  unfold act at h
  split at h
  case h_2 => cases h
  rename_i ins len hd
  split at h
  case isFalse => cases h
  have hn : ∀ (k : Nat × Nat) (n r : Nat), r < mx M → kd (nw M k n) r = kd M r := fun k n r hr => by
    show (if r = mx M then k else kd M r) = kd M r
    exact if_neg (by omega)
  cases ins with
  | invokevirtual i =>
    simp only [actI, jCall] at h
    repeat' split at h
    all_goals cases h
  | invokestatic i =>
    simp only [actI, jStac, jMath, jCall, jPers] at h
    repeat' split at h
    all_goals first | (cases h; exact fun _ _ => rfl) | cases h
  | invokespecial i =>
    simp only [actI, jSpec, jCall] at h
    repeat' split at h
    all_goals first | (cases h; exact fun _ _ => rfl) | cases h
  | _ =>
    simp only [actI, jPush, jLdc, jLdc2, jLdI, jLdL, jLdR, jStI, jStL, jStR, jInc, jB32, jB64, jS64, jD32, jD64, jNegL, jI2L, jL2I, jCmp, jDup, jDup2, jPop, jGo, jIf, jIfc, jNull, jBr, jTab, jLook, jGet, jPut, jStat, jNew, jNewA, jAr, jNewR, jLen, jLdE, jLdA, jStE, jStA, jSpec, jRetI, jRetL, jRetA, jRetV] at h
    repeat' split at h
    all_goals first | (cases h; exact fun _ _ => rfl) | (cases h; exact hn _ _) | cases h
theorem exec_kd : ∀ (n d : Nat) (m : jMe) (fr : jFr) (M : jM) (x : jOut), exec n d m fr M = some x → ∀ r, r < mx M → kd x.2 r = kd M r := by
  intro n
  induction n with
  | zero => intro d m fr M x h; exact absurd h (by simp [exec])
  | succ n ih =>
    intro d m fr M x h
    rw [exec] at h
    cases ha : act m fr M with
    | none => rw [ha] at h; cases h
    | some a =>
      rw [ha] at h
      rcases a with ⟨fr', M'⟩ | ⟨cal, as, fr', M'⟩ | ⟨r, M'⟩ | ⟨q, M'⟩
      · have h1 := act_mx ha
        exact fun r hr => (ih _ _ _ _ _ h r (Nat.lt_of_lt_of_le hr h1.1)).trans (act_kd ha r hr)
      · obtain ⟨pc, ls, st⟩ := fr
        obtain ⟨q, -, rfl, -⟩ := act_call ha
        cases d with
        | zero => exact absurd h (by simp)
        | succ d =>
          dsimp only at h
          split at h
          · split at h
            · rename_i d'' x' p0 p1 o
              cases hx : exec n d'' mX10_person (0, jentry [x', p0, p1] mX10_person.2.2.2.1, []) M' with
              | none => rw [hx] at h; exact absurd h (by simp)
              | some y =>
                have h1 := ih _ _ _ _ _ hx
                have h0 := exec_mx _ _ _ _ _ _ hx
                rw [hx] at h
                rcases y with ⟨(_ | (z | z)) | u, M2⟩
                · exact absurd h (by simp)
                · exact fun r hr => (ih _ _ _ _ _ h r (Nat.lt_of_lt_of_le hr h0.1)).trans (h1 r hr)
                · exact absurd h (by simp)
                · exact fun r hr => (ih _ _ _ _ _ h r (Nat.lt_of_lt_of_le hr h0.1)).trans (h1 r hr)
            · exact absurd h (by simp)
          · cases hx : exec n d cal (0, jentry as cal.2.2.2.1, []) M' with
            | none => rw [hx] at h; exact absurd h (by simp)
            | some y =>
              have h1 := ih _ _ _ _ _ hx
              have h0 := exec_mx _ _ _ _ _ _ hx
              rw [hx] at h
              rcases y with ⟨r | u, M2⟩
              · exact fun r hr => (ih _ _ _ _ _ h r (Nat.lt_of_lt_of_le hr h0.1)).trans (h1 r hr)
              · exact absurd h (by simp)
      · have h1 := act_ret ha
        subst h1
        cases h
        exact fun _ _ => rfl
      · obtain ⟨pc, ls, st⟩ := fr
        obtain ⟨rfl, -, -⟩ := act_throw ha
        cases h
        exact fun r hr => if_neg (show ¬ r = mx M' by omega)
/-- what the law's own method comes to, by exec -/
def jPr (n d : Nat) (x o : Nat) (p0 p1 : Int) (M Mr : jM) (k : Int) : Prop := (∃ (z : Int) (M2 : jM), exec n d mX10_person (0, jentry [vR x, vI p0, vI p1] mX10_person.2.2.2.1, []) M = some (.inl (some (vI z)), M2) ∧ Mr = sl M2 o 0 z ∧ k = 0) ∨ (exec n d mX10_person (0, jentry [vR x, vI p0, vI p1] mX10_person.2.2.2.1, []) M = some (.inr (), Mr) ∧ k = 1)
theorem jPr_mx {n d x o : Nat} {p0 p1 k : Int} {M Mr : jM} (h : jPr n d x o p0 p1 M Mr k) : mx M ≤ mx Mr ∧ ms M ≤ ms Mr := by
  rcases h with ⟨z, M2, hx, rfl, _⟩ | ⟨hx, _⟩
  · exact exec_mx _ _ _ _ _ _ hx
  · exact exec_mx _ _ _ _ _ _ hx
theorem jcl10 : ∃ q : vw_C, jcl[10]? = some q := ⟨_, rfl⟩
theorem gLn : gL [none, none, none, none, none] := by
  intro i v h
  match i, h with
  | 0, h => cases h
  | 1, h => cases h
  | 2, h => cases h
  | 3, h => cases h
  | 4, h => cases h
  | i + 5, h => simp at h
theorem jln {G : jG} {lsA : Array Slot} {nL : Nat} (h : nL = 5) (h1 : lsA.size = nL) (h2 : lv_wf lsA) : jl G nL lsA [none, none, none, none, none] := by
  refine ⟨h.symm, h1, h2, fun i v hi => ?_⟩
  match i, hi with
  | 0, hi => cases hi
  | 1, hi => cases hi
  | 2, hi => cases hi
  | 3, hi => cases hi
  | 4, hi => cases hi
  | i + 5, hi => simp at hi
theorem js_pers {n d sa x o : Nat} {p0 p1 k : Int} {l : Launch} {G : jG} {M Mr : jM} (hl : l.stackTraces = false) (hj : jPr n d x o p0 p1 M Mr k) (ho : jobj M 10 x = true ∧ jIdx M 21 o 0 = true ∧ 6 ≤ o ∧ 6 ≤ x) (hd : 5 ≤ d) (hgm : gM M) (hg : i32 p0 ∧ i32 p1) : Met l yL_person (Cond.codeWith yL_person cL_person 5 (some .int) [(0, 10, 13, 13)] :: jW) (jroom (d + 1) M Mr) (jPreE G sa M [vR x, vI p0, vI p1, vR o]) (jPost G (some (vI k)) Mr) (mx Mr - mx M) (ms Mr - ms M) (fun q => G.bs ≤ q) := by
  refine va_MetW (cc := cL_person) (maxL := 5) (ret := some .int) (hh := [(0, 10, 13, 13)]) (by decide +kernel) rfl ?_
  intro p e s m args below meth c s₁ B hml hv
  obtain ⟨rfl, hK, hR, hE⟩ := hv
  have hts0 := atoms_spec (ws := Cond.codeWith yL_person cL_person 5 (some .int) [(0, 10, 13, 13)] :: jW) B.pre
  have hts : ∀ w ∈ jW, w.before (([vR x, vI p0, vI p1, vR o].map (jval G)).toArray) s = true := fun w hw => hts0 w (List.mem_cons_of_mem _ hw)
  have htab := tabP B (hts0 _ List.mem_cons_self)
  have hown : s.vm.findClass (jown mP.1) = some m.cls := findClass_of_methodNamed B.named
  have C : jCtx p (headSpec (Cond.codeWith yL_person cL_person 5 (some .int) [(0, 10, 13, 13)] :: jW) (jroom (d + 1) M Mr)).room s m (([vR x, vI p0, vI p1, vR o].map (jval G)).toArray) meth c G mP (d + 1) := ⟨B.exec, B.bytes, hml, hown, hts, hK, fun h => (name_of_methodNamed B.named B.method).1.trans h, B.returns, B.notSynchronized, Nat.le_refl _, Nat.le_refl _⟩
  have hm := jPr_mx hj
  have b0 : mx M ≤ mx M ∧ ms M ≤ ms M := ⟨Nat.le_refl _, Nat.le_refl _⟩
  have rM : mx M - mx M ≤ mx Mr - mx M ∧ ms M - ms M ≤ ms Mr - ms M := ⟨by omega, by omega⟩
  have rR : mx Mr - mx M ≤ mx Mr - mx M ∧ ms Mr - ms M ≤ ms Mr - ms M := ⟨Nat.le_refl _, Nat.le_refl _⟩
  -- at five
  have five : JW p l e (headSpec (Cond.codeWith yL_person cL_person 5 (some .int) [(0, 10, 13, 13)] :: jW) (jroom (d + 1) M Mr)).room s m (([vR x, vI p0, vI p1, vR o].map (jval G)).toArray) below meth c (MQ below (jPost G (some (vI k)) Mr) (([vR x, vI p0, vI p1, vR o].map (jval G)).toArray) s (mx Mr - mx M) (ms Mr - ms M) (fun q => G.bs ≤ q)) G (mx M) (ms M) M 5 [some (vR x), some (vI p0), some (vI p1), some (vR o), none] [vI p1, vI p0, vR x, vI 0, vR o] := by
    rcases hj with ⟨z, M2, hx, rfl, rfl⟩ | ⟨hx, rfl⟩
    · have hm2 := exec_mx _ _ _ _ _ _ hx
      dsimp only at hm2
      have hc : jCallF mP mX10_person [vR x, vI p0, vI p1] 5 [some (vR x), some (vI p0), some (vI p1), some (vR o), none] [vI p1, vI p0, vR x, vI 0, vR o] [vI 0, vR o] M := ⟨Nat.le_of_ble_eq_true rfl, Nat.le_of_ble_eq_true rfl, 7, 2, Or.inr ⟨x, [vI p0, vI p1], rfl, ho.1, rfl, rfl, Or.inl ⟨dL_person_5, kM12_7⟩⟩⟩
      have hk2 : kd M2 o = kd M o := by
        have := ho.2.1
        unfold jIdx at this
        simp only [Bool.and_eq_true, decide_eq_true_eq] at this
        exact exec_kd _ _ _ _ _ _ hx o this.1.1.1.2
      have hi2 := jIdx_mono ho.2.1 hm2.1 hk2
      refine s_call (js_all n) C hc hx b0 rR ?_
      show JW p l e _ s m _ below meth c _ G (mx M) (ms M) M2 8 _ [vI z, vI 0, vR o]
      refine snd_on C aP8 hm2 rR ?_
      refine snd_on C (aP9 ⟨hi2, ho.2.2.1⟩) hm2 rR ?_
      refine snd_on C aP10 hm2 rR ?_
      refine snd_on C aP17 hm2 rR ?_
      exact s_ret C aP18 (fun t ht hM hg hW => ⟨rfl, ht, hM, hg⟩) (fun q hq => hq)
    · intro H lsA locs hR1 hM1 hL hS hl1 hlo
      have hgs : gS [vR x, vI p0, vI p1] := gS_cons.mpr ⟨trivial, gS_cons.mpr ⟨hg.1, gS_cons.mpr ⟨hg.2, fun v hv => by cases hv⟩⟩⟩
      have hM' := js_metT (l := l) (G := G) (sa := sa) hl hx hd (Nat.le_of_ble_eq_true rfl) hgs hM1
      obtain ⟨-, hcw, hini, hst, hsel, -, hmh, hpd, -⟩ := jl12_7
      have hst2 : Cond.instanceMethod mX10_person.2.1 ∈ jW := by
        rcases hst with ⟨h, -⟩ | ⟨-, h⟩
        · cases h
        · exact h
      have hsel2 : Cond.selects mX10_person.2.1.cls mX10_person.2.1 mX10_person.2.1 ∈ jW := by
        rcases hsel with h | h
        · exact absurd rfl h
        · exact h
      have SF : CallFix p m c mP.2.2.1 c.maxLocals s (([vR x, vI p0, vI p1, vR o].map (jval G)).toArray) jW (jown mP.1) := ⟨C.1, C.2.1, rfl, hown, hts⟩
      obtain ⟨qc, hqc⟩ := jcl10
      obtain ⟨h6, hrm, hkd, cellB, g1, g2, g3, -⟩ := hR1.ob hqc ho.1
      have hrr : x ≠ 0 := (jobj_spec ho.1).1
      have hrecv : ∃ cellB : Cell, H[G.ad x]? = some cellB ∧ cellB.vm.isStatics = false ∧ s.vm.findClass mX10_person.2.1.cls = some cellB.cls := ⟨cellB, g1, by rw [g3]; rfl, by
        rw [show mX10_person.2.1.cls = jown 10 from rfl, (jclass_of hqc).2.2.2.2.1, g2]
        exact (hK.2.1.1 10 qc hqc).2.1⟩
      have hasr : ([vR x, vI p0, vI p1] : List jV).map (jval G) = Value.ref (G.ad x) :: [vI p0, vI p1].map (jval G) := by
        rw [List.map_cons]
        show jref G x :: _ = _
        rw [jref_ne hrr]
      have hstk : ([vI p1, vI p0, vR x, vI 0, vR o] : List jV).map (jval G) = ([vI p0, vI p1].map (jval G)).reverse ++ Value.ref (G.ad x) :: [vI 0, vR o].map (jval G) := by
        rw [← jref_ne hrr]
        rfl
      have hpre2 : ∀ U : State, U.heap = H → s.WarmedH U.vm → jPreE G sa M [vR x, vI p0, vI p1] ((Value.ref (G.ad x) :: [vI p0, vI p1].map (jval G)).toArray) U := fun U hU hW => by
        rw [← hasr]
        exact ⟨rfl, jK.warm hW hK, by rw [hU]; exact hR1, jEx.warm hW hE⟩
      have hW8 : 2 * (F0 m 5 lsA (([vI p1, vI p0, vR x, vI 0, vR o] : List jV).map (jval G))).monitorRoom + ((([vI 0, vR o] : List jV).map (jval G)).map fun v => v.category).sum ≤ 8 := by
        rw [jcat_eq]
        exact Nat.le_of_ble_eq_true rfl
      have hr := xq_runV (R := jroom (d + 1) M Mr) (C := mX10_person.2.1.cls) SF hM' ⟨callB_of (ws' := jW) 2 hts (jws_good (Ts := jW) hcw) rfl rfl rfl (hts _ hini) (hts _ jXw_8) ⟨hmh.1, hmh.2, hpd⟩ ⟨Nat.le_refl _, show 8 + (5 + 11) + 60 * (d + 1) ≤ 60 * (d + 1 + 1) by omega⟩, hts _ hst2, hts _ hsel2⟩ ⟨jPreE_blind, hrecv, hpre2⟩ (H := H) (locs := locs) (cells := mx M - mx M) (slots := ms M - ms M) (g := F0 m 5 lsA (([vI p1, vI p0, vR x, vI 0, vR o] : List jV).map (jval G))) (below := below) (meth := meth) (p := p) (e := e) rfl rfl hl1.2.1 hstk hW8 dL_person_5 ⟨show mx M - mx M + (mx Mr - mx M) ≤ mx Mr - mx M by omega, show ms M - ms M + (ms Mr - ms M) ≤ ms Mr - ms M by omega⟩
      intro T hT X
      rcases hr T hT X with ⟨v, st₀, t, T', L, h0, X', hL2, e1, e2, hF, st⟩ | ⟨q, st₀, t, T', L, E, ce, h0, X', hL2, e1, e2, ⟨hE1, hRep, hgM⟩, hce, hcv, hcl, st⟩
      · exact hF.elim
      · subst hE1
        rw [show mx M - mx M + (mx Mr - mx M) = mx Mr - mx M by omega, show ms M - ms M + (ms Mr - ms M) = ms Mr - ms M by omega] at X'
        have hlo2 : ∀ z ∈ locs ++ L, G.bs ≤ z.base := fun z hz => by
          rcases List.mem_append.mp hz with h | h
          · exact hlo z h
          · exact hL2 z h
        have kk : W p l e (headSpec (Cond.codeWith yL_person cL_person 5 (some .int) [(0, 10, 13, 13)] :: jW) (jroom (d + 1) M Mr)).room s m (([vR x, vI p0, vI p1, vR o].map (jval G)).toArray) below meth c T'.heap (locs ++ L) (mx Mr - mx M) (ms Mr - ms M) (MQ below (jPost G (some (vI 1)) Mr) (([vR x, vI p0, vI p1, vR o].map (jval G)).toArray) s (mx Mr - mx M) (ms Mr - ms M) (fun q => G.bs ≤ q)) (F0 m 13 lsA [.ref q]) := by
          refine lv_astore B.exec B.bytes dL_person_13 hl1.has (by rw [hml]; decide) rfl (fun ls2 hls2 => ?_)
          have j15 : JW p l e (headSpec (Cond.codeWith yL_person cL_person 5 (some .int) [(0, 10, 13, 13)] :: jW) (jroom (d + 1) M Mr)).room s m (([vR x, vI p0, vI p1, vR o].map (jval G)).toArray) below meth c (MQ below (jPost G (some (vI 1)) Mr) (([vR x, vI p0, vI p1, vR o].map (jval G)).toArray) s (mx Mr - mx M) (ms Mr - ms M) (fun q => G.bs ≤ q)) G (mx M) (ms M) Mr 15 [none, none, none, none, none] [] := snd_on C aP15 hm rR (s_ret C aP16 (fun t ht hM hg hW => ⟨rfl, ht, hM, hg⟩) (fun q hq => hq))
          exact j15 T'.heap ls2 (locs ++ L) (by rw [e1]; exact hRep) hgM gLn (fun v hv => by cases hv) (jln hml hls2.1 hls2.2.1) hlo2
        have hx13 : covers (⟨0, 10, 13, 13⟩ : ExceptionTableEntry) 5 = true := by decide
        have hc13 : (Cond.castable nsE nsE).before (([vR x, vI p0, vI p1, vR o].map (jval G)).toArray) s = true := va_Nw.use rfl (hE.2.2.2 _ (by simp [jBw]))
        obtain ⟨t2, a1, b1⟩ := xq_catch (own := RL) (name := nsE) (E := nsE) (pc := 5) (ls := lsA) (rest := ([vI 0, vR o] : List jV).map (jval G)) hown [] ⟨0, 10, 13, 13⟩ [] htab (fun z hz => absurd hz List.not_mem_nil) hx13 (by decide) (hts _ jXw_3) hc13 (by rw [e1]; exact hce) hcv hcl kk T' rfl X'
        exact ⟨t2, st.trans a1, b1⟩
  have start := snd_on (p := p) (l := l) (e := e) (below := below) C (aP0 (d := d)) b0 rM (snd_on C aP1 b0 rM (snd_on C aP2 b0 rM (snd_on C aP3 b0 rM (snd_on C aP4 b0 rM five))))
  have hgs : gS [vR x, vI p0, vI p1, vR o] := gS_cons.mpr ⟨trivial, gS_cons.mpr ⟨hg.1, gS_cons.mpr ⟨hg.2, gS_cons.mpr ⟨trivial, fun v hv => by cases hv⟩⟩⟩⟩
  have := start s.heap _ [] hR hgm (gL_entry (n := 5) hgs) (fun v hv => by cases hv) (by rw [hml]; exact jl_entry (as := [vR x, vI p0, vI p1, vR o]) (n := 5) (Nat.le_of_ble_eq_true rfl)) (fun q hq => by cases hq)
  rw [Nat.sub_self, Nat.sub_self] at this
  rw [lg_entry_eq]
  exact this
