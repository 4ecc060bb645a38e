/-! a method's contract out of its run -/
theorem exec_mx : ∀ (n d : Nat) (m : jMe) (fr : jFr) (M : jM) (x : jOut), exec n d m fr M = some x → mx M ≤ mx x.2 ∧ ms M ≤ ms x.2 := by
  intro n
  induction n with
  | zero => intro d m fr M x h; exact absurd h (by simp [exec])
  | succ n ih =>
    intro d m fr M x h
    rw [exec] at h
    cases ha : act m fr M with
    | none => rw [ha] at h; cases h
    | some a =>
      rw [ha] at h
      rcases a with ⟨fr', M'⟩ | ⟨cal, as, fr', M'⟩ | ⟨r, M'⟩ | ⟨q, M'⟩
      · have h1 := act_mx ha
        have h2 := ih _ _ _ _ _ h
        exact ⟨Nat.le_trans h1.1 h2.1, Nat.le_trans h1.2 h2.2⟩
      · obtain ⟨pc, ls, st⟩ := fr
        obtain ⟨q, -, rfl, -⟩ := act_call ha
        cases d with
        | zero => exact absurd h (by simp)
        | succ d =>
          dsimp only at h
          split at h
          · split at h
            · rename_i d'' x' p0 p1 o
              cases hx : exec n d'' mX10_person (0, jentry [x', p0, p1] mX10_person.2.2.2.1, []) M' with
              | none => rw [hx] at h; exact absurd h (by simp)
              | some y =>
                have h1 := ih _ _ _ _ _ hx
                rw [hx] at h
                rcases y with ⟨(_ | (z | z)) | u, M2⟩
                · exact absurd h (by simp)
                · have h2 := ih _ _ _ _ _ h
                  rw [mx_sl, ms_sl] at h2
                  exact ⟨Nat.le_trans h1.1 h2.1, Nat.le_trans h1.2 h2.2⟩
                · exact absurd h (by simp)
                · have h2 := ih _ _ _ _ _ h
                  exact ⟨Nat.le_trans h1.1 h2.1, Nat.le_trans h1.2 h2.2⟩
            · exact absurd h (by simp)
          · cases hx : exec n d cal (0, jentry as cal.2.2.2.1, []) M' with
            | none => rw [hx] at h; exact absurd h (by simp)
            | some y =>
              have h1 := ih _ _ _ _ _ hx
              rw [hx] at h
              rcases y with ⟨r | u, M2⟩
              · have h2 := ih _ _ _ _ _ h
                exact ⟨Nat.le_trans h1.1 h2.1, Nat.le_trans h1.2 h2.2⟩
              · exact absurd h (by simp)
      · have h1 := act_ret ha
        subst h1
        cases h
        exact ⟨Nat.le_refl _, Nat.le_refl _⟩
      · have h1 : M' = M := by
          unfold act at ha
          split at ha
          case h_2 => cases ha
          rename_i ins len hd
          split at ha
          case isFalse => cases ha
          cases ins with
          | invokevirtual i =>
            simp only [actI, jCall] at ha
            repeat' split at ha
            all_goals cases ha
          | invokestatic i =>
            simp only [actI, jStac, jMath, jCall, jPers] at ha
            repeat' split at ha
            all_goals cases ha
          | invokespecial i =>
            simp only [actI, jSpec, jCall] at ha
            repeat' split at ha
            all_goals cases ha
          | _ =>
            simp only [actI, jPush, jLdc, jLdc2, jLdI, jLdL, jLdR, jStI, jStL, jStR, jInc, jB32, jB64, jS64, jD32, jD64, jNegL, jI2L, jL2I, jCmp, jDup, jDup2, jPop, jGo, jIf, jIfc, jNull, jBr, jTab, jLook, jGet, jPut, jStat, jNew, jNewA, jAr, jNewR, jLen, jLdE, jLdA, jStE, jStA, jSpec, jRetI, jRetL, jRetA, jRetV] at ha
            repeat' split at ha
            all_goals first | (cases ha; rfl) | cases ha
        subst h1
        cases h
        exact ⟨Nat.le_succ _, Nat.le_add_right _ _⟩
theorem lgsl_cons (v : Value) (vs : List Value) : lg_sl (v :: vs) = (if v.category = 2 then [.val v, .second] else [.val v]) ++ lg_sl vs := rfl
theorem jargs_len {G : jG} : ∀ as : List jV, (lg_sl (as.map (jval G))).length = (jargs as).length
  | [] => rfl
  | .inl z :: t => by rw [List.map_cons, lgsl_cons]; simp [jval, Value.category, jargs, jargs_len t]
  | .inr (.inl z) :: t => by rw [List.map_cons, lgsl_cons]; simp [jval, Value.category, jargs, jargs_len t]
  | .inr (.inr z) :: t => by cases z <;> (rw [List.map_cons, lgsl_cons]; simp [jval, jref, Value.category, jargs, jargs_len t])
theorem jargs_at {G : jG} : ∀ (as : List jV) (i : Nat) (v : jV), (jargs as)[i]? = some (some v) → (lg_sl (as.map (jval G)))[i]? = some (.val (jval G v)) := by
  intro as
  induction as with
  | nil => intro i v h; simp [jargs] at h
  | cons a t ih =>
    intro i v h
    rw [List.map_cons, lgsl_cons]
    rcases a with z | z | z
    · simp only [jargs] at h
      rw [if_neg (by simp [jval, Value.category])]
      cases i with
      | zero => simp at h; subst h; rfl
      | succ i => simp at h; simpa using ih i v h
    · simp only [jargs] at h
      rw [if_pos (by simp [jval, Value.category])]
      match i, h with
      | 0, h => simp at h; subst h; rfl
      | 1, h => simp at h
      | i + 2, h => simp at h; simpa using ih i v h
    · simp only [jargs] at h
      rw [if_neg (by cases z <;> simp [jval, jref, Value.category])]
      cases i with
      | zero => simp at h; subst h; rfl
      | succ i => simp at h; simpa using ih i v h
theorem jl_entry {G : jG} {as : List jV} {n : Nat} (h : (jargs as).length ≤ n) : jl G n ((lg_sl (as.map (jval G)) ++ List.replicate (n - (lg_sl (as.map (jval G))).length) Slot.unset).toArray) (jentry as n) := by
  have he := lv_entry (as.map (jval G)) (n := n) (by rw [jargs_len]; exact h)
  refine ⟨by simp [jentry]; omega, he.1, he.2.1, fun i v hi => ?_⟩
  unfold jentry at hi
  by_cases hlt : i < (jargs as).length
  · rw [List.getElem?_append_left hlt] at hi
    have h1 := jargs_at (G := G) as i v hi
    rw [List.getElem?_toArray, List.getElem?_append_left (by rw [jargs_len]; exact hlt)]
    exact h1
  · rw [List.getElem?_append_right (by omega), List.getElem?_replicate] at hi
    split at hi <;> cases hi
theorem gL_entry {as : List jV} {n : Nat} (h : gS as) : gL (jentry as n) := by
  intro i v hi
  unfold jentry at hi
  by_cases hlt : i < (jargs as).length
  · rw [List.getElem?_append_left hlt] at hi
    have key : ∀ (as : List jV) (i : Nat), (jargs as)[i]? = some (some v) → v ∈ as := by
      intro as
      induction as with
      | nil => intro i h; simp [jargs] at h
      | cons a t ih =>
        intro i h
        rcases a with z | z | z
        · simp only [jargs] at h
          cases i with
          | zero => simp at h; subst h; exact List.mem_cons_self
          | succ i => simp at h; exact List.mem_cons_of_mem _ (ih i h)
        · simp only [jargs] at h
          match i, h with
          | 0, h => simp at h; subst h; exact List.mem_cons_self
          | 1, h => simp at h
          | i + 2, h => simp at h; exact List.mem_cons_of_mem _ (ih i h)
        · simp only [jargs] at h
          cases i with
          | zero => simp at h; subst h; exact List.mem_cons_self
          | succ i => simp at h; exact List.mem_cons_of_mem _ (ih i h)
    exact h v (key as i hi)
  · rw [List.getElem?_append_right (by omega), List.getElem?_replicate] at hi
    split at hi <;> cases hi
/-- an answer, over the machine -/
theorem s_ret {p : Program} {l : Launch} {e : Env} {R : Room} {s : State} {mm : MethodId} {args : Array Value} {below : List Frame} {meth : Method} {c : Code} {G : jG} {mb sb : Nat} {m : jMe} {d : Nat} {M M' : jM} {pc : Nat} {ls : jLs} {st : List jV} {r : Option jV} {Qc : Array Value → State → Outcome → State → Prop} {free : Addr → Prop} (C : jCtx p R s mm args meth c G m d) (h : act m (pc, ls, st) M = some (.inr (.inr (.inl (r, M'))))) (hq : ∀ t : State, jRep G M t.heap → gM M → (∀ v, r = some v → gV v) → s.WarmedH t.vm → Qc args s (.returned (r.map (jval G))) t) (hfree : ∀ q, G.bs ≤ q → free q) : JW p l e R s mm args below meth c (MQ below Qc args s (mx M - mb) (ms M - sb) free) G mb sb M pc ls st := by
  intro H lsA locs hR hM hL hS hl hlo
  obtain ⟨hx, hb, hml, hown, hts, hK, hname, hret, hlocks, -⟩ := C
  have hf : ∀ q ∈ locs, free q.base := fun q hq => hfree _ (hlo q hq)
  unfold act at h
  dsimp only at h
  split at h
  case h_2 => cases h
  rename_i ins len hd
  split at h
  case isFalse => cases h
  rename_i hj
  cases ins with
  | ireturn =>
    obtain rfl : len = 1 := by simpa [jlen] using hj
    simp only [actI, jRetI] at h
    split at h
    · rename_i z hz
      cases h
      exact W.iret hx hb (hret.trans hz) (fun t ht hW => hq t (by rw [ht]; exact hR) hM (fun v hv => by cases hv; try exact hS _ List.mem_cons_self) hW) hf hd
    · rename_i z hz
      split at h
      · rename_i h01
        cases h
        exact W.zret hx hb (hret.trans hz) (by rcases h01 with rfl | rfl; exact nb0.1; exact nb1.1) (fun t ht hW => hq t (by rw [ht]; exact hR) hM (fun v hv => by cases hv; try exact hS _ List.mem_cons_self) hW) hf hd
      · cases h
    · cases h
  | lreturn =>
    obtain rfl : len = 1 := by simpa [jlen] using hj
    simp only [actI, jRetL] at h
    split at h
    · rename_i z hz
      cases h
      exact W.lret hx hb (hret.trans hz) (fun t ht hW => hq t (by rw [ht]; exact hR) hM (fun v hv => by cases hv; try exact hS _ List.mem_cons_self) hW) hf hd
    · cases h
  | areturn =>
    obtain rfl : len = 1 := by simpa [jlen] using hj
    simp only [actI, jRetA] at h
    split at h
    · rename_i z n hz
      cases h
      exact W.aret hx hb (hret.trans hz) (Or.inl ⟨_, rfl⟩) (by cases z; exact Or.inl rfl; exact Or.inr ⟨_, rfl⟩) (fun t ht hW => hq t (by rw [ht]; exact hR) hM (fun v hv => by cases hv; try exact hS _ List.mem_cons_self) hW) hf hd
    · cases h
  | return_ =>
    obtain rfl : len = 1 := by simpa [jlen] using hj
    simp only [actI, jRetV] at h
    split at h
    · rename_i hz
      cases h
      exact W.vret hx hb (hret.trans hz) (fun t ht hW => hq t (by rw [ht]; exact hR) hM (fun v hv => by cases hv; try exact hS _ List.mem_cons_self) hW) hf hd
    · cases h
  | invokevirtual i =>
    simp only [actI, jCall] at h
    repeat' split at h
    all_goals cases h
  | invokestatic i =>
    simp only [actI, jStac, jMath, jCall, jPers] at h
    repeat' split at h
    all_goals cases h
  | invokespecial i =>
    simp only [actI, jSpec, jCall] at h
    repeat' split at h
    all_goals cases h
  | _ =>
    exfalso
    simp only [actI, jPush, jLdc, jLdc2, jLdI, jLdL, jLdR, jStI, jStL, jStR, jInc, jB32, jB64, jS64, jD32, jD64, jNegL, jI2L, jL2I, jCmp, jDup, jDup2, jPop, jGo, jIf, jIfc, jNull, jBr, jTab, jLook, jGet, jPut, jStat, jNew, jNewA, jAr, jNewR, jLen, jLdE, jLdA, jStE, jStA] at h
    repeat' split at h
    all_goals cases h
/-- n steps of fuel: what runs, runs over the machine (of every method but the law's own) -/
def JS (n : Nat) : Prop := ∀ (d : Nat) (m : jMe) (fr : jFr) (M : jM) (r : Option jV) (ME : jM), m.1 ≠ 12 → exec n d m fr M = some (.inl r, ME) → ∀ {p : Program} {l : Launch} {e : Env} {R : Room} {s : State} {mm : MethodId} {args : Array Value} {below : List Frame} {meth : Method} {c : Code} {Q : State → Prop} {G : jG} {mb sb : Nat}, jCtx p R s mm args meth c G m d → mb ≤ mx M ∧ sb ≤ ms M → mx ME - mb ≤ R.cells ∧ ms ME - sb ≤ R.slots → (∀ fr', act m fr' ME = some (.inr (.inr (.inl (r, ME)))) → JW p l e R s mm args below meth c Q G mb sb ME fr'.1 fr'.2.1 fr'.2.2) → JW p l e R s mm args below meth c Q G mb sb M fr.1 fr.2.1 fr.2.2
def jroom (d : Nat) (M M2 : jM) : Room := { frames := d + 1, cells := mx M2 - mx M, slots := ms M2 - ms M, locals := 60 * (d + 1) }
def jPre (G : jG) (M : jM) (as : List jV) : Array Value → State → Prop := va_Pc (as.map (jval G)) (fun U => jK G U ∧ jRep G M U.heap)
def jPost (G : jG) (r : Option jV) (M2 : jM) : Array Value → State → Outcome → State → Prop := fun _ _ o t => o = .returned (r.map (jval G)) ∧ jRep G M2 t.heap ∧ gM M2 ∧ ∀ v, r = some v → gV v
noncomputable def jws (cal : jMe) : List Cond := Cond.code cal.2.1 cal.2.2.1 cal.2.2.2.1 cal.2.2.2.2 :: jW
theorem js_met {n : Nat} (IH : JS n) {l : Launch} {G : jG} {d o i k na : Nat} {cal : jMe} {as : List jV} {M M2 : jM} {r : Option jV} (hx : exec n d cal (0, jentry as cal.2.2.2.1, []) M = some (.inl r, M2)) (hok : jMok o i k cal na) (hlen : (jargs as).length ≤ cal.2.2.2.1) (hgs : gS as) (hgm : gM M) : Met l cal.2.1 (jws cal) (jroom d M M2) (jPre G M as) (jPost G r M2) (mx M2 - mx M) (ms M2 - ms M) (fun q => G.bs ≤ q) := by
  obtain ⟨-, hcw, hini, -, -, hown, hmh, -, hml40, hpl, h12, h99, -⟩ := hok
  refine Met.ofW (cc := cal.2.2.1) (maxL := cal.2.2.2.1) (ret := cal.2.2.2.2) hpl rfl ?_
  intro p e s m args below meth c s₁ B hml hv
  obtain ⟨rfl, hK, hR⟩ := hv
  have hts := atoms_spec (ws := jws cal) B.pre
  have C : jCtx p (headSpec (jws cal) (jroom d M M2)).room s m ((as.map (jval G)).toArray) meth c G cal d := ⟨B.exec, B.bytes, hml, by rw [hown]; exact findClass_of_methodNamed B.named, fun w hw => hts w (List.mem_cons_of_mem _ hw), hK, fun h => (name_of_methodNamed B.named B.method).1.trans h, B.returns, B.notSynchronized, Nat.le_refl _, Nat.le_refl _⟩
  have hmx := exec_mx _ _ _ _ _ _ hx
  have key := IH d cal _ M r M2 h12 hx (p := p) (l := l) (e := e) (below := below) (Q := MQ below (jPost G r M2) ((as.map (jval G)).toArray) s (mx M2 - mx M) (ms M2 - ms M) (fun q => G.bs ≤ q)) (mb := mx M) (sb := ms M) C ⟨Nat.le_refl _, Nat.le_refl _⟩ ⟨Nat.le_refl _, Nat.le_refl _⟩ (fun fr' h => by
    obtain ⟨pc, ls, st⟩ := fr'
    exact s_ret C h (fun t ht hM hg hW => ⟨rfl, ht, hM, hg⟩) (fun q hq => hq))
  have := key s.heap _ [] hR hgm (gL_entry hgs) (fun v hv => by cases hv) (by rw [hml]; exact jl_entry hlen) (fun q hq => by cases hq)
  rw [Nat.sub_self, Nat.sub_self] at this
  rw [lg_entry_eq]
  exact this
