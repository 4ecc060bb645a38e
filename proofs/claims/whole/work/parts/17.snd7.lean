/-! calls over the machine, and the theorem: what runs, runs over the machine -/
theorem jPre_blind {G : jG} {M : jM} {as : List jV} : FrameBlind (jPre G M as) := by
  intro a U g mk h
  exact ⟨h.1, jK.same (u := U) rfl h.2.1, h.2.2⟩
theorem jws_good {Ts : List Cond} {cal : jMe} (h : Cond.code cal.2.1 cal.2.2.1 cal.2.2.2.1 cal.2.2.2.2 ∈ jW) : GoodIn jW (jws cal) := jW_good _ (fun w hw => by
  rcases List.mem_cons.mp hw with rfl | hw
  · exact h
  · exact hw)
theorem s_run {p : Program} {l : Launch} {e : Env} {R : Room} {s : State} {mm : MethodId} {args : Array Value} {below : List Frame} {meth : Method} {c : Code} {Q : State → Prop} {G : jG} {mb sb : Nat} {M M2 : jM} {pc : Nat} {ls : jLs} {q : List jV} {r : Option jV} {a : Array Value} {H : Heap} {lsA : Array Slot} {locs : List Loc} {st0 : List Value} (hr : va_Run p l e R s mm args below meth c H locs (mx M - mb) (ms M - sb) (mx M2 - mx M) (ms M2 - ms M) (F0 mm pc lsA st0) (q.map (jval G)) (jPost G r M2 a) (fun q => G.bs ≤ q)) (hmx : mx M ≤ mx M2 ∧ ms M ≤ ms M2) (hmb : mb ≤ mx M ∧ sb ≤ ms M) (hL : gL ls) (hS : gS q) (hl : jl G c.maxLocals lsA ls) (hlo : ∀ q ∈ locs, G.bs ≤ q.base) (k : JW p l e R s mm args below meth c Q G mb sb M2 (pc + 3) ls (r.toList ++ q)) : W p l e R s mm args below meth c H locs (mx M - mb) (ms M - sb) Q (F0 mm pc lsA st0) := by
  intro T hT X
  obtain ⟨v, st₀, t, T', L, h0, X', hL2, e1, e2, ⟨hv, hR2, hM2, hgr⟩, st⟩ := hr T hT X
  have hv2 : v = r.map (jval G) := Outcome.returned.inj hv
  subst hv2
  have hS2 : gS (r.toList ++ q) := by
    intro v hv
    rcases List.mem_append.mp hv with h | h
    · exact hgr v (by simpa using h)
    · exact hS v h
  have kk := k t.heap lsA (locs ++ L) hR2 hM2 hL hS2 hl (fun q hq => by
    rcases List.mem_append.mp hq with h | h
    · exact hlo q h
    · exact hL2 q h)
  rw [show mx M - mb + (mx M2 - mx M) = mx M2 - mb by omega, show ms M - sb + (ms M2 - ms M) = ms M2 - sb by omega] at X'
  obtain ⟨t2, a1, b1⟩ := kk T' e1 X'
  refine ⟨t2, st t2 ?_, b1⟩
  have he : (Option.map (jval G) r).toList ++ q.map (jval G) = (r.toList ++ q).map (jval G) := by cases r <;> simp
  show Steps p.tables e below (T'.setTop (F0 mm (pc + 3) lsA ((Option.map (jval G) r).toList ++ q.map (jval G)))) t2
  rw [he]
  exact a1
theorem jmap_rev {G : jG} {as q : List jV} : (as.reverse ++ q).map (jval G) = (as.map (jval G)).reverse ++ q.map (jval G) := by simp
theorem s_call {n : Nat} (IH : JS n) {p : Program} {l : Launch} {e : Env} {R : Room} {s : State} {mm : MethodId} {args : Array Value} {below : List Frame} {meth : Method} {c : Code} {Q : State → Prop} {G : jG} {mb sb : Nat} {m cal : jMe} {d : Nat} {M M2 : jM} {pc : Nat} {ls : jLs} {st as q : List jV} {r : Option jV} (C : jCtx p R s mm args meth c G m (d + 1)) (hc : jCallF m cal as pc ls st q M) (hx : exec n d cal (0, jentry as cal.2.2.2.1, []) M = some (.inl r, M2)) (hmb : mb ≤ mx M ∧ sb ≤ ms M) (hroom : mx M2 - mb ≤ R.cells ∧ ms M2 - sb ≤ R.slots) (k : JW p l e R s mm args below meth c Q G mb sb M2 (pc + 3) ls (r.toList ++ q)) : JW p l e R s mm args below meth c Q G mb sb M pc ls st := by
  intro H lsA locs hR hM hL hS hl hlo
  have hmx := exec_mx _ _ _ _ _ _ hx
  dsimp only at hmx
  have hfit : mx M - mb + (mx M2 - mx M) ≤ R.cells ∧ ms M - sb + (ms M2 - ms M) ≤ R.slots := by omega
  obtain ⟨hw, hlen, i, na, hcase⟩ := hc
  have hW8 : 2 * (F0 mm pc lsA (st.map (jval G))).monitorRoom + ((q.map (jval G)).map fun v => v.category).sum ≤ 8 := by
    rw [jcat_eq]
    show 0 + _ ≤ 8
    omega
  have hpre : ∀ {as : List jV}, ∀ U : State, U.heap = H → s.WarmedH U.vm → jPre G M as ((as.map (jval G)).toArray) U := fun U hU hW => ⟨rfl, jK.warm hW C.2.2.2.2.2.1, by rw [hU]; exact hR⟩
  have hfr : (jroom d M M2).frames + 1 ≤ R.frames := C.2.2.2.2.2.2.2.2.2.1
  have hlr := C.2.2.2.2.2.2.2.2.2.2
  have SF : CallFix p mm c m.2.2.1 c.maxLocals s args jW (jown m.1) := ⟨C.1, C.2.1, rfl, C.2.2.2.1, C.2.2.2.2.1⟩
  have hts := C.2.2.2.2.1
  have hN := C.2.2.2.2.2.1.2.2.2.2.1
  rcases hcase with ⟨hd, hm, hn, rfl⟩ | ⟨rr, as', rfl, ho, hn, rfl, hcase⟩
  · have hok := jMc hm
    have hgs : gS as := fun v hv => hS v (List.mem_append_left _ (List.mem_reverse.mpr hv))
    have hSq : gS q := fun v hv => hS v (List.mem_append_right _ hv)
    have hM' := js_met IH (l := l) (G := G) hx hok hlen hgs hM
    obtain ⟨hlink, hcw, hini, hst, -, hown, hmh, hpd, hml40, -⟩ := hok
    have hst2 : Cond.static cal.2.1 ∈ jW := by
      rcases hst with ⟨-, h⟩ | ⟨h, -⟩
      · exact h
      · exact absurd rfl h
    have hloc : 8 + (cal.2.2.2.1 + 11) + (jroom d M M2).locals ≤ R.locals := by
      show 8 + (cal.2.2.2.1 + 11) + 60 * (d + 1) ≤ R.locals
      omega
    rcases hlink with hlink | hlink
    · refine s_run (va_runS SF hM' ⟨callB_of (ws' := jW) na hts (jws_good (Ts := jW) hcw) rfl rfl rfl (hts _ hini) (hts _ hlink) ⟨hmh.1, hmh.2, hpd⟩ ⟨hfr, hloc⟩, hts _ hst2⟩ ⟨jPre_blind, hpre⟩ rfl (by rw [List.length_map]; exact hn) hl.2.1 jmap_rev hW8 hd hfit) hmx hmb hL hSq hl hlo k
    · refine s_run (va_runSN SF hM' ⟨va_cnB (ws' := jW) na hts (jws_good (Ts := jW) hcw) rfl rfl rfl (hN _ hlink) (hts _ hini) ⟨hmh.1, hmh.2, hpd⟩ ⟨hfr, hloc⟩, hts _ hst2, trivial⟩ ⟨jPre_blind, hpre⟩ rfl (by rw [List.length_map]; exact hn) hl.2.1 jmap_rev hW8 hd hfit) hmx hmb hL hSq hl hlo k
  · have hgs : gS (vR rr :: as') := gS_cons.mpr ⟨trivial, fun v hv => hS v (List.mem_append_left _ (List.mem_reverse.mpr hv))⟩
    have hSq : gS q := fun v hv => hS v (List.mem_append_right _ (List.mem_cons_of_mem _ hv))
    have hrr : rr ≠ 0 := (jobj_spec ho).1
    have hstk : (as'.reverse ++ vR rr :: q).map (jval G) = (as'.map (jval G)).reverse ++ Value.ref (G.ad rr) :: q.map (jval G) := by
      rw [jmap_rev, List.map_cons]
      show _ ++ jref G rr :: _ = _
      rw [jref_ne hrr]
    have hasr : (vR rr :: as').map (jval G) = Value.ref (G.ad rr) :: as'.map (jval G) := by
      rw [List.map_cons]
      show jref G rr :: _ = _
      rw [jref_ne hrr]
    have hpre2 : ∀ U : State, U.heap = H → s.WarmedH U.vm → jPre G M (vR rr :: as') ((Value.ref (G.ad rr) :: as'.map (jval G)).toArray) U := fun U hU hW => by rw [← hasr]; exact hpre U hU hW
    rcases hcase with ⟨hd, hm⟩ | ⟨hd, hm, hnm⟩
    · have hok := jMc hm
      have hM' := js_met IH (l := l) (G := G) hx hok hlen hgs hM
      obtain ⟨hlink, hcw, hini, hst, hsel, hown, hmh, hpd, hml40, -, -, -, hc12, -⟩ := hok
      have hst2 : Cond.instanceMethod cal.2.1 ∈ jW := by
        rcases hst with ⟨h, -⟩ | ⟨-, h⟩
        · cases h
        · exact h
      have hsel2 : Cond.selects cal.2.1.cls cal.2.1 cal.2.1 ∈ jW := by
        rcases hsel with h | h
        · exact absurd rfl h
        · exact h
      have hlt : cal.1 < 12 := by
        rcases hc12 with h | h
        · cases h
        · exact h
      have hloc : 8 + (cal.2.2.2.1 + 11) + (jroom d M M2).locals ≤ R.locals := by
        show 8 + (cal.2.2.2.1 + 11) + 60 * (d + 1) ≤ R.locals
        omega
      obtain ⟨qc, hqc⟩ : ∃ qc : vw_C, jcl[cal.1]? = some qc := by
        cases h : jcl[cal.1]? with
        | some q => exact ⟨q, rfl⟩
        | none => exact absurd (List.getElem?_eq_none_iff.mp h) (by simp [jcl]; omega)
      obtain ⟨h6, hrm, hkd, cellB, g1, g2, g3, -⟩ := hR.ob hqc ho
      have hrecv : ∃ cellB : Cell, H[G.ad rr]? = some cellB ∧ cellB.vm.isStatics = false ∧ s.vm.findClass cal.2.1.cls = some cellB.cls := ⟨cellB, g1, by rw [g3]; rfl, by
        rw [← hown, (jclass_of hqc).2.2.2.2.1, g2]
        exact (C.2.2.2.2.2.1.2.1.1 cal.1 qc hqc).2.1⟩
      rcases hlink with hlink | hlink
      · refine s_run (va_runV SF hM' ⟨callB_of (ws' := jW) na hts (jws_good (Ts := jW) hcw) rfl rfl rfl (hts _ hini) (hts _ hlink) ⟨hmh.1, hmh.2, hpd⟩ ⟨hfr, hloc⟩, hts _ hst2, hts _ hsel2⟩ ⟨jPre_blind, hrecv, hpre2⟩ rfl (by rw [List.length_map]; exact hn) hl.2.1 hstk hW8 hd hfit) hmx hmb hL hSq hl hlo k
      · refine s_run (va_runVN SF hM' ⟨va_cnB (ws' := jW) na hts (jws_good (Ts := jW) hcw) rfl rfl rfl (hN _ hlink) (hts _ hini) ⟨hmh.1, hmh.2, hpd⟩ ⟨hfr, hloc⟩, hts _ hst2, hts _ hsel2⟩ ⟨jPre_blind, hrecv, hpre2⟩ rfl (by rw [List.length_map]; exact hn) hl.2.1 hstk hW8 hd hfit) hmx hmb hL hSq hl hlo k
    · have hok := jMc hm
      have hM' := js_met IH (l := l) (G := G) hx hok hlen hgs hM
      obtain ⟨hlink, hcw, hini, hst, hsel, hown, hmh, hpd, hml40, -, -, -, hc12, hrn⟩ := hok
      have hst2 : Cond.instanceMethod cal.2.1 ∈ jW := by
        rcases hst with ⟨h, -⟩ | ⟨-, h⟩
        · cases h
        · exact h
      have hret : cal.2.2.2.2 = none := by
        rcases hrn with h | h
        · exact absurd rfl h
        · exact h
      have hloc : 8 + (cal.2.2.2.1 + 11) + (jroom d M M2).locals ≤ R.locals := by
        show 8 + (cal.2.2.2.1 + 11) + 60 * (d + 1) ≤ R.locals
        omega
      have hwsr : jws cal = Cond.code cal.2.1 cal.2.2.1 cal.2.2.2.1 none :: jW := by unfold jws; rw [hret]
      rcases hlink with hlink | hlink
      · refine s_run (va_runI SF hM' ⟨callB_of (ws' := jW) na hts (jws_good (Ts := jW) hcw) hwsr rfl rfl (hts _ hini) (hts _ hlink) ⟨hmh.1, hmh.2, hpd⟩ ⟨hfr, hloc⟩, hnm, hts _ hst2⟩ ⟨jPre_blind, hpre2⟩ rfl (by rw [List.length_map]; exact hn) hl.2.1 hstk hW8 hd hfit) hmx hmb hL hSq hl hlo k
      · refine s_run (va_runIN SF hM' ⟨va_cnB (ws' := jW) na hts (jws_good (Ts := jW) hcw) hwsr rfl rfl (hN _ hlink) (hts _ hini) ⟨hmh.1, hmh.2, hpd⟩ ⟨hfr, hloc⟩, hnm, hts _ hst2⟩ ⟨jPre_blind, hpre2⟩ rfl (by rw [List.length_map]; exact hn) hl.2.1 hstk hW8 hd hfit) hmx hmb hL hSq hl hlo k
theorem js_all : ∀ n, JS n := by
  intro n
  induction n with
  | zero => intro d m fr M r ME _ h; exact absurd h (by simp [exec])
  | succ n IH =>
    intro d m fr M r ME h12 h p l e R s mm args below meth c Q G mb sb C hmb hroom hret
    have hmx0 := exec_mx _ _ _ _ _ _ h
    dsimp only at hmx0
    rw [exec] at h
    cases ha : act m fr M with
    | none => rw [ha] at h; cases h
    | some a =>
      rw [ha] at h
      obtain ⟨pc, ls, st⟩ := fr
      rcases a with ⟨fr', M'⟩ | ⟨cal, as, fr', M'⟩ | ⟨r', M'⟩ | ⟨q, M'⟩
      · dsimp only at h
        have h1 := exec_mx _ _ _ _ _ _ h
        have h2 := act_mx ha
        dsimp only at h1
        exact snd_on C ha hmb ⟨by omega, by omega⟩ (IH d m fr' M' r ME h12 h C ⟨by omega, by omega⟩ hroom hret)
      · obtain ⟨q, rfl, rfl, hc⟩ := act_call ha
        rcases hc with hc | hc
        case inr => exact absurd hc.1 h12
        cases d with
        | zero => exact absurd h (by simp)
        | succ d =>
          dsimp only at h
          have h99 : cal.1 ≠ 99 := by
            obtain ⟨-, -, i, na, hcase⟩ := hc
            rcases hcase with ⟨-, hm, -⟩ | ⟨_, _, -, -, -, -, ⟨-, hm⟩ | ⟨-, hm, -⟩⟩ <;> exact (jMc hm).2.2.2.2.2.2.2.2.2.2.2.1
          rw [if_neg h99] at h
          cases hx : exec n d cal (0, jentry as cal.2.2.2.1, []) M' with
          | none => rw [hx] at h; exact absurd h (by simp)
          | some y =>
            rw [hx] at h
            rcases y with ⟨r1 | u, M2⟩
            · dsimp only at h
              have h1 := exec_mx _ _ _ _ _ _ hx
              have h2 := exec_mx _ _ _ _ _ _ h
              dsimp only at h1 h2
              exact s_call IH C hc hx hmb ⟨by omega, by omega⟩ (IH (d + 1) m _ M2 r ME h12 h C ⟨by omega, by omega⟩ hroom hret)
            · exact absurd h (by simp)
      · have h1 := act_ret ha
        subst h1
        cases h
        exact hret _ ha
      · cases h
