/-! THE MACHINE: the law runs as in exec -/
theorem jPw : ∀ w ∈ va_wsS RL 42 yL_person (Cond.codeWith yL_person cL_person 5 (some .int) [(0, 10, 13, 13)] :: jW), w ∈ jW := by
  intro w hw
  unfold va_wsS at hw
  rcases List.mem_append.mp hw with h | h
  · simp only [List.mem_cons, List.not_mem_nil, or_false] at h
    rcases h with rfl | rfl | rfl
    · exact jXw_4
    · exact jXw_5
    · exact jXw_6
  · rcases List.mem_cons.mp h with rfl | h
    · exact jXw_7
    · exact h
theorem dPn : yL_person.cls ≠ "java/lang/invoke/MethodHandle" ∧ yL_person.cls ≠ "java/lang/invoke/VarHandle" ∧ (parseMethodDescriptor yL_person.desc).map (fun d => d.parameters.length) = some 4 := ⟨by decide +kernel, by decide +kernel, by decide +kernel⟩
theorem s_pers {n d sa x o pc : Nat} {p0 p1 k : Int} {p : Program} {l : Launch} {e : Env} {R : Room} {s : State} {mm : MethodId} {args : Array Value} {below : List Frame} {meth : Method} {c : Code} {Q : State → Prop} {G : jG} {mb sb : Nat} {M Mr : jM} {ls : jLs} {q : List jV} (hl : l.stackTraces = false) (C : jCtx p R s mm args meth c G mL_law (d + 1 + 1)) (hE : jEx G sa s) (hdg : decode mL_law.2.2.1 pc = .ok (.invokestatic 42, 3)) (hj : jPr n d x o p0 p1 M Mr k) (ho : jobj M 10 x = true ∧ jIdx M 21 o 0 = true ∧ 6 ≤ o ∧ 6 ≤ x) (hw : jcat q ≤ 8) (hd : 5 ≤ d) (hmb : mb ≤ mx M ∧ sb ≤ ms M) (hroom : mx Mr - mb ≤ R.cells ∧ ms Mr - sb ≤ R.slots) (kk : JW p l e R s mm args below meth c Q G mb sb Mr (pc + 3) ls (vI k :: q)) : JW p l e R s mm args below meth c Q G mb sb M pc ls (vR o :: vI p1 :: vI p0 :: vR x :: q) := by
  intro H lsA locs hR hM hL hS hl1 hlo
  have hg1 : i32 p1 := hS (vI p1) (List.mem_cons_of_mem _ List.mem_cons_self)
  have hg0 : i32 p0 := hS (vI p0) (List.mem_cons_of_mem _ (List.mem_cons_of_mem _ List.mem_cons_self))
  have hSq : gS q := fun v hv => hS v (List.mem_cons_of_mem _ (List.mem_cons_of_mem _ (List.mem_cons_of_mem _ (List.mem_cons_of_mem _ hv))))
  have hm := jPr_mx hj
  have hM' := js_pers (l := l) (G := G) (sa := sa) hl hj ho hd hM ⟨hg0, hg1⟩
  have hts := C.2.2.2.2.1
  have SF : CallFix p mm c mL_law.2.2.1 c.maxLocals s args jW (jown mL_law.1) := ⟨C.1, C.2.1, rfl, C.2.2.2.1, hts⟩
  have hfr := C.2.2.2.2.2.2.2.2.2.1
  have hlr := C.2.2.2.2.2.2.2.2.2.2
  have hpre : ∀ U : State, U.heap = H → s.WarmedH U.vm → jPreE G sa M [vR x, vI p0, vI p1, vR o] ((([vR x, vI p0, vI p1, vR o] : List jV).map (jval G)).toArray) U := fun U hU hW => ⟨rfl, jK.warm hW C.2.2.2.2.2.1, by rw [hU]; exact hR, jEx.warm hW hE⟩
  have hW8 : 2 * (F0 mm pc lsA ((vR o :: vI p1 :: vI p0 :: vR x :: q).map (jval G))).monitorRoom + ((q.map (jval G)).map fun v => v.category).sum ≤ 8 := by
    rw [jcat_eq]
    show 0 + _ ≤ 8
    omega
  have hstk : (vR o :: vI p1 :: vI p0 :: vR x :: q).map (jval G) = (([vR x, vI p0, vI p1, vR o] : List jV).map (jval G)).reverse ++ q.map (jval G) := rfl
  have hcw := xq_cwSW (s := s) (args := args) (R := R) (own := RL) (index := 42) (y := yL_person) (Ts := jW) (ws' := jW) (rm := jroom (d + 1) M Mr) (maxL := 5) 4 hts (jW_good _ jPw) rfl rfl rfl dPn ⟨hfr, show 8 + (5 + 11) + 60 * (d + 1 + 1) ≤ R.locals by omega⟩
  exact s_run (r := some (vI k)) (xq_runSW SF hM' hcw ⟨jPreE_blind, hpre⟩ (H := H) (locs := locs) (cells := mx M - mb) (slots := ms M - sb) (g := F0 mm pc lsA ((vR o :: vI p1 :: vI p0 :: vR x :: q).map (jval G))) (below := below) (meth := meth) (p := p) (e := e) rfl rfl hl1.2.1 hstk hW8 hdg ⟨by omega, by omega⟩) hm hmb hL hSq hl1 hlo kk
def JSL (n : Nat) : Prop := ∀ (d : Nat) (fr : jFr) (M : jM) (r : Option jV) (ME : jM), 10 ≤ d → exec n d mL_law fr M = some (.inl r, ME) → ∀ {sa : Nat} {p : Program} {l : Launch} {e : Env} {R : Room} {s : State} {mm : MethodId} {args : Array Value} {below : List Frame} {meth : Method} {c : Code} {Q : State → Prop} {G : jG} {mb sb : Nat}, l.stackTraces = false → jCtx p R s mm args meth c G mL_law d → jEx G sa s → mb ≤ mx M ∧ sb ≤ ms M → mx ME - mb ≤ R.cells ∧ ms ME - sb ≤ R.slots → (∀ fr', act mL_law fr' ME = some (.inr (.inr (.inl (r, ME)))) → JW p l e R s mm args below meth c Q G mb sb ME fr'.1 fr'.2.1 fr'.2.2) → JW p l e R s mm args below meth c Q G mb sb M fr.1 fr.2.1 fr.2.2
theorem js_law : ∀ n, JSL n := by
  intro n
  induction n with
  | zero => intro d fr M r ME _ h; exact absurd h (by simp [exec])
  | succ n IH =>
    intro d fr M r ME hd10 h sa p l e R s mm args below meth c Q G mb sb hl C hE hmb hroom hret
    have hmx0 := exec_mx _ _ _ _ _ _ h
    dsimp only at hmx0
    rw [exec] at h
    cases ha : act mL_law fr M with
    | none => rw [ha] at h; cases h
    | some a =>
      rw [ha] at h
      obtain ⟨pc, ls, st⟩ := fr
      rcases a with ⟨fr', M'⟩ | ⟨cal, as, fr', M'⟩ | ⟨r', M'⟩ | ⟨q, M'⟩
      · dsimp only at h
        have h1 := exec_mx _ _ _ _ _ _ h
        have h2 := act_mx ha
        dsimp only at h1
        exact snd_on C ha hmb ⟨by omega, by omega⟩ (IH d fr' M' r ME hd10 h hl C hE ⟨by omega, by omega⟩ hroom hret)
      · obtain ⟨q, rfl, rfl, hc⟩ := act_call ha
        rcases hc with hc | hc
        · obtain ⟨d, rfl⟩ : ∃ d', d = d' + 1 := ⟨d - 1, by omega⟩
          dsimp only at h
          have h99 : cal.1 ≠ 99 := by
            obtain ⟨-, -, i, na, hcase⟩ := hc
            rcases hcase with ⟨-, hm, -⟩ | ⟨_, _, -, -, -, -, ⟨-, hm⟩ | ⟨-, hm, -⟩⟩ <;> exact (jMc hm).2.2.2.2.2.2.2.2.2.2.2.1
          rw [if_neg h99] at h
          cases hx : exec n d cal (0, jentry as cal.2.2.2.1, []) M' with
          | none => rw [hx] at h; exact absurd h (by simp)
          | some y =>
            rw [hx] at h
            rcases y with ⟨r1 | u, M2⟩
            · dsimp only at h
              have h1 := exec_mx _ _ _ _ _ _ hx
              have h2 := exec_mx _ _ _ _ _ _ h
              dsimp only at h1 h2
              exact s_call (js_all n) C hc hx hmb ⟨by omega, by omega⟩ (IH (d + 1) _ M2 r ME hd10 h hl C hE ⟨by omega, by omega⟩ hroom hret)
            · exact absurd h (by simp)
        · obtain ⟨-, rfl, hdg, hw, x, p0, p1, o, rfl, rfl, ho⟩ := hc
          obtain ⟨d, rfl⟩ : ∃ d', d = d' + 1 + 1 := ⟨d - 2, by omega⟩
          dsimp only at h
          rw [if_pos (show mL_person.1 = 99 from rfl)] at h
          cases hx : exec n d mX10_person (0, jentry [vR x, vI p0, vI p1] mX10_person.2.2.2.1, []) M' with
          | none => rw [hx] at h; exact absurd h (by simp)
          | some y =>
            rw [hx] at h
            have h1 := exec_mx _ _ _ _ _ _ hx
            rcases y with ⟨(_ | (z | z)) | u, M2⟩
            · exact absurd h (by simp)
            · have h : exec n (d + 1 + 1) mL_law (pc + 3, ls, vI 0 :: q) (sl M2 o 0 z) = some (.inl r, ME) := h
              have h2 := exec_mx _ _ _ _ _ _ h
              dsimp only at h1 h2
              rw [mx_sl, ms_sl] at h2
              have hj : jPr n d x o p0 p1 M' (sl M2 o 0 z) 0 := Or.inl ⟨z, M2, hx, rfl, rfl⟩
              exact s_pers hl C hE hdg hj ho hw (by omega) hmb ⟨by rw [mx_sl]; omega, by rw [ms_sl]; omega⟩ (IH (d + 1 + 1) _ _ r ME hd10 h hl C hE ⟨by rw [mx_sl]; omega, by rw [ms_sl]; omega⟩ hroom hret)
            · exact absurd h (by simp)
            · have h : exec n (d + 1 + 1) mL_law (pc + 3, ls, vI 1 :: q) M2 = some (.inl r, ME) := h
              have h2 := exec_mx _ _ _ _ _ _ h
              dsimp only at h1 h2
              have hj : jPr n d x o p0 p1 M' M2 1 := Or.inr ⟨hx, rfl⟩
              exact s_pers hl C hE hdg hj ho hw (by omega) hmb ⟨by omega, by omega⟩ (IH (d + 1 + 1) _ _ r ME hd10 h hl C hE ⟨by omega, by omega⟩ hroom hret)
      · have h1 := act_ret ha
        subst h1
        cases h
        exact hret _ ha
      · cases h
