/-! THE CLAIM OUT OF ONE WALK OF THE LAW'S BODY. Your part is whole_start (and what it stands on); all else here is the same for every law, but numbers. -/
def R_law : String := "RememberedWeightLaw"
def lw_P (b : Addr) (xs : List Int32) (args : Array Value) (s : State) : Prop := args = #[.ref b] ∧ s.IntsAt b xs ∧ xs.length ≤ 3072 ∧ (Jvm.Cond.and given_1 narrow_1).before args s = true
def lw_Q (_ : Array Value) (s : State) (o : Outcome) (t : State) : Prop := o = .returned (some (.int 1)) ∧ Framed s o t [] 601024 7293034
def lw_Z (below : List Frame) (a : Array Value) (s : State) : State → Prop := fun t => ∃ o, t.status = .running ∧ Ended t below o ∧ lw_Q a s o t
/-- the law's own end, with 1 on the stack, nothing written that was there before, its room as the claim has it -/
theorem lw_ret {p : Program} {l : Launch} {e : Env} {s : State} {m : MethodId} {below : List Frame} {meth : Method} {c : Code} {b : Nat} (hx : p.tables.exec = Jvm.exec) (hb : c.code = code) (hr : meth.sig.returnType = ret) (hlocks : meth.locks = false) {pc : Nat} {H : Heap} {ls : Array Slot} (hdg : decode code pc = .ok (.ireturn, 1)) : W p l e room_1 s m #[Value.ref b] below meth c H [] 601024 7293034 (lw_Z below #[Value.ref b] s) (F0 m pc ls [.int 1]) := by
  intro T hT X
  obtain ⟨fs, hret, hrun, hended, hW, hframe⟩ := X.leave (v := some (.int 1)) (hlocks := hlocks) (fun h => by rw [hr] at h; cases h)
  have hmeth' : T.vm.method? m = some meth := X.method'
  refine ⟨T.setFrames fs, ?_, .returned (some (.int 1)), hrun, hended, rfl, ⟨_, rfl⟩, hW, hframe⟩
  jvm_step X.here [X.here.top, hx, hb, hdg, hmeth', hr, ret, narrow_b1]
  (try refine ⟨rfl, ?_⟩); (try refine ⟨rfl, ?_⟩)
  first | (intro acts; rw [hret _ acts rfl rfl rfl]) | rw [hret _ _ rfl rfl rfl]
  exact Steps.refl _
/-- what holds at the law's entry: the machine, the code, the tables' words (any of lw_tbl by 'hts w (by decide +kernel)'), the script of L ints xs at the cell b, what the Statement gives of the start (any of its parts by flat_of_before) -/
def lw_At (p : Program) (s : State) (m : MethodId) (meth : Method) (c : Code) (b L : Nat) (xs : Nat → Int32) : Prop :=
  p.tables.exec = Jvm.exec ∧ c.code = code ∧ meth.sig.returnType = ret ∧ c.maxLocals = 7 ∧ s.vm.findClass R_law = some m.cls ∧ (∀ w ∈ lw_tbl, w.before #[Value.ref b] s = true) ∧ va_X b L xs s s.heap ∧ b < s.heap.size ∧ meth.locks = false ∧ (Jvm.Cond.and given_1 narrow_1).before #[Value.ref b] s = true
theorem whole_start {p : Program} {e : Env} {s : State} {m : MethodId} {below : List Frame} {meth : Method} {c : Code} (l : Launch) (hflags : l.flags = flags0) {b L : Nat} {xs : Nat → Int32} (hL : L ≤ 3072) (C0 : lw_At p s m meth c b L xs) : W p l e room_1 s m #[Value.ref b] below meth c s.heap [] 0 0 (lw_Z below #[Value.ref b] s) (entryFrame m ([Value.ref b] : List Value).toArray 7) := by
  obtain ⟨hx, hb, hr, hml, hown, hts, hX, hbl, hlocks, hgv⟩ := id C0
  have hf := flat_of_before _ hgv
  have htw : ∀ w ∈ jW, w.before #[Value.ref b] s = true := fun w hw => hts w (jW_in hw).1
  have key : ∀ k : Nat, ∃ y : ClassId × (Nat → Nat), ∀ q : vw_C, jcl[k]? = some q → u_Kn s q.1 q.2.1 q.2.2 y.1 y.2 := fun k => by
    cases hc : jcl[k]? with
    | none => exact ⟨(m.cls, fun _ => 0), fun q hq => by cases hq⟩
    | some q =>
      obtain ⟨hin, -, -, -, -, hinst, -⟩ := jclass_of hc
      obtain ⟨cC, iS, hk⟩ := u_known (ws := jW) htw hin (htw _ hinst)
      exact ⟨(cC, iS), fun q2 hq => by cases hq; exact hk⟩
  obtain ⟨f, hfk⟩ := Classical.skolem.mp key
  have hO7 : va_AO "RememberedWeight$State" s := va_AO.of (hts _ (jSw_in _ (by simp [jSw])))
  have hO3 : va_AO "RememberedWeight$Law" s := va_AO.of (hts _ (jSw_in _ (by simp [jSw])))
  obtain ⟨a20, x20⟩ := arr_prim (htw _ jwA_int) (Or.inl rfl)
  obtain ⟨a21, x21⟩ := arr_prim (htw _ jwA_long) (Or.inr (Or.inl rfl))
  obtain ⟨a22, x22⟩ := arr_prim (htw _ jwA_boolean) (Or.inr (Or.inr rfl))
  obtain ⟨a23, x23⟩ := arr_ref hO7
  obtain ⟨a24, x24⟩ := arr_ref hO3
  obtain ⟨t1, e1, c1, p1, q1, n1, y1, z1, v1, -⟩ := old_row hf rowW_1
  obtain ⟨t2, e2, c2, p2, q2, n2, y2, z2, v2, -⟩ := old_row hf rowW_2
  obtain ⟨t3, e3, c3, p3, q3, n3, y3, z3, v3, -⟩ := old_row hf rowW_3
  obtain ⟨t4, e4, c4, p4, q4, n4, y4, z4, v4, -⟩ := old_row hf rowW_4
  obtain ⟨c5, p5, q5, n5, y5, v5⟩ := hX
  obtain ⟨sa, -, -, -, hsa, -⟩ := Cond.exactly_spec (show (Cond.exactly (.string RX10 185) "java/lang/String").holds #[Value.ref b] s none s [] = true from hf _ (jSn_in _ (by simp [jSn])))
  obtain ⟨G, hG⟩ : ∃ G : jG, G = ((fun k => (f k).1), (fun k => (f k).2), (fun k => if k = 20 then a20 else if k = 21 then a21 else if k = 22 then a22 else if k = 23 then a23 else a24), s.heap.size, (fun r => if r = 1 then t1 else if r = 2 then t2 else if r = 3 then t3 else if r = 4 then t4 else if r = 5 then b else s.heap.size + (r - 6)), s.heap, (fun r => if r = 1 then c1 else if r = 2 then c2 else if r = 3 then c3 else if r = 4 then c4 else c5)) := ⟨_, rfl⟩
  have hbs : G.bs = s.heap.size := by rw [hG]
  have hH0 : G.H0 = s.heap := by rw [hG]
  have ad1 : G.ad 1 = t1 := by rw [hG]; rfl
  have ad2 : G.ad 2 = t2 := by rw [hG]; rfl
  have ad3 : G.ad 3 = t3 := by rw [hG]; rfl
  have ad4 : G.ad 4 = t4 := by rw [hG]; rfl
  have ad5 : G.ad 5 = b := by rw [hG]; rfl
  have sc1 : G.sc 1 = c1 := by rw [hG]; rfl
  have sc2 : G.sc 2 = c2 := by rw [hG]; rfl
  have sc3 : G.sc 3 = c3 := by rw [hG]; rfl
  have sc4 : G.sc 4 = c4 := by rw [hG]; rfl
  have sc5 : G.sc 5 = c5 := by rw [hG]; rfl
  have adN : ∀ r : Nat, 6 ≤ r → G.ad r = G.bs + (r - 6) := fun r hr => by
    rw [hG]
    show (if r = 1 then t1 else if r = 2 then t2 else if r = 3 then t3 else if r = 4 then t4 else if r = 5 then b else s.heap.size + (r - 6)) = s.heap.size + (r - 6)
    rw [if_neg (by omega), if_neg (by omega), if_neg (by omega), if_neg (by omega), if_neg (by omega)]
  have hA : ∀ a : Nat, a < s.heap.size → ¬ (G.bs ≤ a) := fun a ha => by rw [hbs]; omega
  have hKa : va_K G.D jcl (jtys G) s := by
    rw [hG]
    refine ⟨hfk, fun k q hq => ?_⟩
    match k, hq with
    | 0, hq => cases hq; exact x20
    | 1, hq => cases hq; exact x21
    | 2, hq => cases hq; exact x22
    | 3, hq => cases hq; exact x23
    | 4, hq => cases hq; exact x24
    | k + 5, hq => simp [jtys] at hq
  have five : ∀ r : Nat, r ≠ 0 → r < 6 → r = 1 ∨ r = 2 ∨ r = 3 ∨ r = 4 ∨ r = 5 := fun r h0 h6 => by omega
  have hK : jK G s := by
    refine ⟨adN, hKa, fun r r0 r6 => ?_, fun q hq => ?_, fun w hw => ?_, hO7, hO3⟩
    · rcases five r r0 r6 with rfl | rfl | rfl | rfl | rfl
      · rw [sc1]; exact ⟨q1, n1⟩
      · rw [sc2]; exact ⟨q2, n2⟩
      · rw [sc3]; exact ⟨q3, n3⟩
      · rw [sc4]; exact ⟨q4, n4⟩
      · rw [sc5]; exact ⟨q5, n5⟩
    · rw [hH0]
      have hini : (Cond.initialized "RememberedWeight$IslandReader").before #[Value.ref b] s = true := hts _ (jSw_in _ (by simp [jSw]))
      simp only [jnames, List.mem_cons, List.not_mem_nil, or_false] at hq
      rcases hq with rfl | rfl | rfl | rfl
      · rw [ad1]; exact va_Zof (hts _ (jSw_in _ (by simp [jSw]))) hini e1 hA
      · rw [ad2]; exact va_Zof (hts _ (jSw_in _ (by simp [jSw]))) hini e2 hA
      · rw [ad3]; exact va_Zof (hts _ (jSw_in _ (by simp [jSw]))) hini e3 hA
      · rw [ad4]; exact va_Zof (hts _ (jSw_in _ (by simp [jSw]))) hini e4 hA
    · have h1 := List.mem_filter.mp hw
      exact va_Nw.of (jisN_on h1.2) (hts w h1.1)
  have hE : jEx G sa s := by
    unfold jEx
    rw [hH0]
    have hini : (Cond.initialized Bundle.tN).before #[Value.ref b] s = true := hts _ (jSw_in _ (by simp [jSw]))
    exact ⟨xq_Zqof (hts _ (jSw_in _ (by simp [jSw]))) hini (hf _ (jSn_in _ (by simp [jSn]))) hA, xq_Zqof (hts _ (jSw_in _ (by simp [jSw]))) hini (hf _ (jSn_in _ (by simp [jSn]))) hA, vk_R.of (hts _ (jXw_in _ (by simp [jXw]))) hsa, fun w hw => va_Nw.of (jBw_on w hw) (hts w (jBw_in w hw))⟩
  have lt : ∀ {t : Nat} {cc : Cell}, s.heap[t]? = some cc → t < G.bs := fun h => by rw [hbs]; exact (Array.getElem?_eq_some_iff.mp h).1
  have hR : jRep G (M0F L xs) s.heap := by
    refine ⟨Nat.le_refl _, by rw [hbs]; rfl, fun q _ => by rw [hH0], fun r r0 r6 => ?_, fun r h1 h2 => absurd (show r < 6 from h2) (by omega)⟩
    rcases five r r0 r6 with rfl | rfl | rfl | rfl | rfl
    · unfold jold; rw [ad1, sc1]
      refine ⟨p1, lt p1, rfl, by show 12 < 2 ^ 31; decide, y1, z1, fun j hj => ?_⟩
      have hj : j < 12 := hj
      rw [v1 j hj]
      show _ = some (Value.int (Int32.ofInt (if 1 = 5 then (xs j).toInt else if 12 ≤ j then 0 else if 1 = 1 then leY j else _)))
      rw [if_neg (by decide), if_neg (by omega), if_pos rfl]
    · unfold jold; rw [ad2, sc2]
      refine ⟨p2, lt p2, rfl, by show 12 < 2 ^ 31; decide, y2, z2, fun j hj => ?_⟩
      have hj : j < 12 := hj
      rw [v2 j hj]
      show _ = some (Value.int (Int32.ofInt (if 2 = 5 then (xs j).toInt else if 12 ≤ j then 0 else if 2 = 1 then leY j else if 2 = 2 then loY j else _)))
      rw [if_neg (by decide), if_neg (by omega), if_neg (by decide), if_pos rfl]
    · unfold jold; rw [ad3, sc3]
      refine ⟨p3, lt p3, rfl, by show 12 < 2 ^ 31; decide, y3, z3, fun j hj => ?_⟩
      have hj : j < 12 := hj
      rw [v3 j hj]
      show _ = some (Value.int (Int32.ofInt (if 3 = 5 then (xs j).toInt else if 12 ≤ j then 0 else if 3 = 1 then leY j else if 3 = 2 then loY j else if 3 = 3 then hiY j else _)))
      rw [if_neg (by decide), if_neg (by omega), if_neg (by decide), if_neg (by decide), if_pos rfl]
    · unfold jold; rw [ad4, sc4]
      refine ⟨p4, lt p4, rfl, by show 12 < 2 ^ 31; decide, y4, z4, fun j hj => ?_⟩
      have hj : j < 12 := hj
      rw [v4 j hj]
      show _ = some (Value.int (Int32.ofInt (if 4 = 5 then (xs j).toInt else if 12 ≤ j then 0 else if 4 = 1 then leY j else if 4 = 2 then loY j else if 4 = 3 then hiY j else if 4 = 4 then utY j else 0)))
      rw [if_neg (by decide), if_neg (by omega), if_neg (by decide), if_neg (by decide), if_neg (by decide), if_pos rfl]
    · unfold jold; rw [ad5, sc5]
      refine ⟨p5, lt p5, rfl, by show L < 2 ^ 31; omega, by rw [y5]; exact Nat.le_refl _, by rw [y5]; rfl, fun j hj => ?_⟩
      have hj : j < L := hj
      rw [v5 j hj]
      show _ = some (Value.int (Int32.ofInt (if 5 = 5 then (xs j).toInt else if 12 ≤ j then 0 else if 5 = 1 then leY j else if 5 = 2 then loY j else if 5 = 3 then hiY j else if 5 = 4 then utY j else 0)))
      rw [if_pos rfl, Int32.ofInt_toInt]
  have hs : ST (M0F L xs) := by
    intro i hi
    refine ⟨?_, ?_, ?_, ?_⟩
    · show (if 1 = 5 then (xs i).toInt else if 12 ≤ i then 0 else if 1 = 1 then leY i else _) = leY i
      rw [if_neg (by decide), if_neg (by omega), if_pos rfl]
    · show (if 2 = 5 then (xs i).toInt else if 12 ≤ i then 0 else if 2 = 1 then leY i else if 2 = 2 then loY i else _) = loY i
      rw [if_neg (by decide), if_neg (by omega), if_neg (by decide), if_pos rfl]
    · show (if 3 = 5 then (xs i).toInt else if 12 ≤ i then 0 else if 3 = 1 then leY i else if 3 = 2 then loY i else if 3 = 3 then hiY i else _) = hiY i
      rw [if_neg (by decide), if_neg (by omega), if_neg (by decide), if_neg (by decide), if_pos rfl]
    · show (if 4 = 5 then (xs i).toInt else if 12 ≤ i then 0 else if 4 = 1 then leY i else if 4 = 2 then loY i else if 4 = 3 then hiY i else if 4 = 4 then utY i else 0) = utY i
      rw [if_neg (by decide), if_neg (by omega), if_neg (by decide), if_neg (by decide), if_neg (by decide), if_pos rfl]
  obtain ⟨n, r, ME, hexec, rfl, hm1, hm2⟩ := law_ok (d := 724) (M0 := M0F L xs) (by decide) hL rfl rfl (fun r h1 h2 => show (if r = 5 then ((20, L) : Nat × Nat) else (20, 12)) = (20, 12) from if_neg (by omega)) (show (if 5 = 5 then ((20, L) : Nat × Nat) else (20, 12)) = (20, L) from if_pos rfl) (fun j _ => (M0_g 5 j).1) hs
  have C : jCtx p room_1 s m #[Value.ref b] meth c G mL_law (724 + 1 + 1) := ⟨hx, hb, hml, hown, htw, hK, fun h => absurd h (by decide), hr, hlocks, Nat.le_of_ble_eq_true rfl, Nat.le_of_ble_eq_true rfl⟩
  have K := js_law n (724 + 1 + 1) _ (M0F L xs) (some (vI 1)) ME (by decide) hexec (sa := sa) (p := p) (l := l) (e := e) (R := room_1) (s := s) (mm := m) (args := #[Value.ref b]) (below := below) (meth := meth) (c := c) (Q := lw_Z below #[Value.ref b] s) (G := G) (mb := 6) (sb := 0) (no_tr hflags) C hE ⟨Nat.le_refl _, Nat.zero_le _⟩ ⟨show mx ME - 6 ≤ 601024 by omega, show ms ME - 0 ≤ 7293034 by have := w1F_le; omega⟩ (fun fr2 ha => by
    obtain ⟨pc, ls, st⟩ := fr2
    obtain ⟨hd, rfl⟩ := act_iret ha
    intro H lsA locs hR1 hM1 hL1 hS1 hl1 hlo
    exact va_forget (fun q hq => by have := hlo q hq; rw [hbs] at this; exact this) (W.widen (show mx ME - 6 ≤ 601024 by omega) (show ms ME - 0 ≤ 7293034 by have := w1F_le; omega) (lw_ret hx hb hr hlocks hd)))
  have K2 := K s.heap _ [] hR M0_g (gL_entry (n := 7) (fun v hv => by rcases List.mem_cons.mp hv with rfl | hv; exact trivial; cases hv)) (fun v hv => by cases hv) (by rw [hml]; exact jl_entry (as := [vR 5]) (n := 7) (Nat.le_of_ble_eq_true rfl)) (fun q hq => by cases hq)
  have e0 : ([vR 5] : List jV).map (jval G) = [Value.ref b] := by
    show [jref G 5] = _
    rw [jref_ne (by decide), ad5]
  rw [e0] at K2
  rw [lg_entry_eq]
  exact K2
set_option maxHeartbeats 4000000 in
theorem lw_walk (l : Launch) (hflags : l.flags = flags0) (b : Addr) (xs : List Int32) : MetFree l x (headSpec (Jvm.Cond.code x code maxLocals ret :: tables_1) room_1) (lw_P b xs) (fun _ _ _ _ _ => True) lw_Q := by
  refine MetFree.of_bodyS (code := code) (maxLocals := maxLocals) (ret := ret) (by decide) ?_ ?_
  · intro args s m h hn
    obtain ⟨meth, c, h1, h2, h3, h4, h5, h6, -, -⟩ := Cond.code_spec hn (atoms_spec (ws := Jvm.Cond.code x code maxLocals ret :: tables_1) h _ List.mem_cons_self)
    exact ⟨meth, c, h1, h2, h3, h4, h5, h6⟩
  · intro p e s m args below meth c s₁ B hml0 hP _
    obtain ⟨rfl, hx, hbd, hgv⟩ := hP
    obtain ⟨scr, harrAt, hlist, hof, hsmall⟩ := hx
    obtain ⟨hcb, hkn, -, -⟩ := State.arrayAt?_spec harrAt
    have hown : s.vm.findClass R_law = some m.cls := findClass_of_methodNamed B.named
    have hts0 : ∀ c ∈ (Jvm.Cond.code x code maxLocals ret :: tables_1), c.before #[Value.ref b] s = true := atoms_spec (ws := Jvm.Cond.code x code maxLocals ret :: tables_1) B.pre
    have hts : ∀ w ∈ lw_tbl, w.before #[Value.ref b] s = true := k2_hts_sels lw_privs (fun w hw => hts0 w (List.mem_cons_of_mem _ hw)) lw_privs_ok
    have hml : c.maxLocals = 7 := B.maxLocals_eq (hts0 _ List.mem_cons_self)
    have X₀ : Stand p l e room_1 s m #[Value.ref b] below meth c s₁ [] 0 0 := Stand.of_body B
    have hh0 : s₁.heap = s.heap := by rw [B.state]; rfl
    have hsz : scr.slots.size = xs.length := by rw [← Array.length_toList, hlist, List.length_map]
    have hval : ∀ j : Nat, j < xs.length → scr.slots[j]? = some (.int (xs.getD j 0)) := fun j hj => by
      rw [← Array.getElem?_toList, hlist]
      simp [hj]
    have hbl : b < s.heap.size := (Array.getElem?_eq_some_iff.mp hcb).1
    have hX : va_X b xs.length (fun j => xs.getD j 0) s s.heap := ⟨scr, hcb, hof, hkn, hsz, hval⟩
    have K : W p l e room_1 s m #[Value.ref b] below meth c s₁.heap [] 0 0 (lw_Z below #[Value.ref b] s) (entryFrame m ([Value.ref b] : List Value).toArray 7) := by
      rw [hh0]
      exact whole_start l hflags hbd ⟨B.exec, B.bytes, B.returns, hml, hown, hts, hX, hbl, B.notSynchronized, hgv⟩
    obtain ⟨t, a1, o, b1, b2, b3⟩ := K s₁ rfl X₀
    exact ⟨t, o, a1, b1, b2, b3⟩
theorem lw_pre_spec {args : Array Value} {s : State} (h : (Jvm.Cond.and given_1 narrow_1).before args s = true) (hr : rest_1_c.before args s = true) : ∃ (b : Addr) (xs : List Int32), lw_P b xs args s := by
  have hs := flat_of_before _ h
  have hq := flat_of_before _ hr
  have hc : (Cond.count 1).before args s = true := hs _ (by decide +kernel)
  have harr : (Cond.arrayOf (.arg 0) .int).before args s = true := hs _ (by decide +kernel)
  have hle : (Cond.le (.length (.arg 0)) (.int 3072)).before args s = true := hs _ (by decide +kernel)
  have hlen : (Cond.isInt (.length (.arg 0))).before args s = true := hq _ (by decide +kernel)
  have hall : (Cond.all (.arg 0) (.isInt (.elem (.arg 0) (.index 0)))).before args s = true := hq _ (by decide +kernel)
  obtain ⟨b, xs, hb, hx⟩ := State.ints_of_pre rfl harr hlen hall
  have hsm : xs.length < 2 ^ 31 := hx.choose_spec.2.2.2
  have hev : (Term.length (.arg 0)).eval args s none [] s = some (.int xs.length.toInt32) := hx.length_eval hb
  have hv := Cond.le_ints hev (show (Term.int 3072).eval args s none [] s = some (.int 3072) from rfl)
  have hd : xs.length.toInt32 ≤ 3072 := by
    simpa [Cond.before, Cond.holds, hv] using hle
  have hN : xs.length ≤ 3072 := (Int32.ofNat_le_ofNat hsm (by decide)).mp (show Int32.ofNat xs.length ≤ Int32.ofNat 3072 from hd)
  exact ⟨b, xs, Cond.one_arg hc (show args[0]? = some (.ref b) from hb), hx, hN, h⟩
theorem lw_comes (l : Launch) (hflags : l.flags = flags0) : Comes l x (Jvm.Cond.code x code maxLocals ret :: tables_1) room_1 (fun tb e args s => Calls_1 tb e args s ∧ rest_1 tb e args s ∧ Pre_1 tb e args s)
    (fun _ _ args s o t => lw_Q args s o t) := by
  intro p e ha hc hk s m args below hf hfit hheap happ hpre
  obtain ⟨b, xs, hP⟩ := lw_pre_spec hpre.2.2 hpre.2.1
  obtain ⟨k, o, h1, h2, h3, hQ⟩ := lw_walk l hflags b xs p e ha hc hk s m args below hf ((Spec.applies_iff_loose hf).mp happ).1 hP trivial
  exact ⟨k, o, h1, h2, h3, hQ⟩
theorem lw_frame {s t : State} {o : Outcome} {args : Array Value} (h : Framed s o t [] 601024 7293034) :
    Framed s o t (fieldLocs frame_1_writes args s ++ arrayLocs frame_1_arrays args s ++ staticLocs frame_1_statics s) 601024 7293034 := h
theorem lw_limb (L : Cond) (hL : ∀ (args : Array Value) (s t : State), L.after args s (.returned (some (.int 1))) t = true) :
    ArmFor flags0 classFile x code maxLocals ret World_1 tables_1 room_1 Calls_1 rest_1 Pre_1
      (fun tb e a s o t => postC L tb e a s o t ∧ Framed s o t (fieldLocs frame_1_writes a s ++ arrayLocs frame_1_arrays a s ++ staticLocs frame_1_statics s) 601024 7293034) := by
  intro l hflags _ _ p e ha hc hk s m args below hf hfit hheap happ hpre
  obtain ⟨k, o, h1, h2, h3, rfl, hF⟩ := lw_comes l hflags p e ha hc hk s m args below hf hfit hheap happ hpre
  exact ⟨k, _, h1, h2, h3, hL args s _, lw_frame hF⟩
theorem i_vc : Claimed_1_1 ∧ Claimed_1_2 := ⟨lw_limb limb_1_1 (fun args s t => by simp [limb_1_1, Cond.after, Cond.holds, Cond.value]), lw_limb limb_1_2 (fun args s t => Cond.after_iff.mpr (by
  first | (rw [show limb_1_2 = Cond.eq .result (.int 1) from rfl, Cond.eq_ints (x := 1) (y := 1) rfl rfl]; simp; done) | (simp [limb_1_2, Cond.value, Term.eval]; done)))⟩
