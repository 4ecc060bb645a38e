/-! THE MACHINE: person of the class throws over the machine as in exec -/
abbrev nsE : String := "java/util/NoSuchElementException"
def txE : String := "no such person, or nothing such to tell of one"
def jBw : List Cond := [.castable nsE nsE, .declares ⟨"java/lang/RuntimeException", "<init>", "(Ljava/lang/String;)V"⟩, .declares ⟨"java/lang/Exception", "<init>", "(Ljava/lang/String;)V"⟩, .declares ⟨"java/lang/Throwable", "<init>", "(Ljava/lang/String;)V"⟩]
def nsB : ByteArray := ⟨#[0x2a, 0x2b, 0xb7, 0x00, 0x0d, 0xb1]⟩
theorem nsB_0 : decode nsB 0 = .ok (.aload_n 0, 1) := by decide +kernel
theorem nsB_1 : decode nsB 1 = .ok (.aload_n 1, 1) := by decide +kernel
theorem nsB_2 : decode nsB 2 = .ok (.invokespecial 13, 3) := by decide +kernel
theorem nsB_5 : decode nsB 5 = .ok (.return_, 1) := by decide +kernel
def jAt : List Cond := xq_atS RX10 187 nsE 13 nsB "java/lang/RuntimeException" ["java/lang/Exception"]
/-- words of the throw and of the law's own method -/
def jXw : List Cond := [.classLink RX10 183 nsE, .initialized nsE, .classLink RL 13 nsE, .methodLink RL 42 yL_person, .static yL_person, .initialized RL, .codeWith yL_person cL_person 5 (some .int) [(0, 10, 13, 13)], .stringRef RX10 185 txE, .methodLink RL 7 yX10_person]
theorem jBw_in : ∀ w ∈ jBw, w ∈ lw_tbl := by decide +kernel
theorem jXw_in : ∀ w ∈ jXw, w ∈ lw_tbl := by decide +kernel
theorem jBw_on : ∀ w ∈ jBw, w.onTables = true := by decide
set_option maxRecDepth 20000 in
theorem jAt_g : ∀ w ∈ jAt.filter goodWord, w ∈ lw_tbl := by decide +kernel
theorem jAt_b : ∀ w ∈ jAt.filter (fun w => !goodWord w), w ∈ jBw := by decide +kernel
theorem jAt_o : ∀ w ∈ Cond.classLink RX10 183 nsE :: Cond.initialized nsE :: jAt, xq_ot w = true := by decide +kernel
theorem jXw_1 : Cond.classLink RX10 183 nsE ∈ jW := jW_mem (jXw_in _ (by simp [jXw])) rfl
theorem jXw_2 : Cond.initialized nsE ∈ jW := jW_mem (jXw_in _ (by simp [jXw])) rfl
theorem jXw_3 : Cond.classLink RL 13 nsE ∈ jW := jW_mem (jXw_in _ (by simp [jXw])) rfl
theorem jXw_4 : Cond.methodLink RL 42 yL_person ∈ jW := jW_mem (jXw_in _ (by simp [jXw])) rfl
theorem jXw_5 : Cond.static yL_person ∈ jW := jW_mem (jXw_in _ (by simp [jXw])) rfl
theorem jXw_6 : Cond.initialized RL ∈ jW := jW_mem (jXw_in _ (by simp [jXw])) rfl
theorem jXw_7 : Cond.codeWith yL_person cL_person 5 (some .int) [(0, 10, 13, 13)] ∈ jW := jW_mem (jXw_in _ (by simp [jXw])) rfl
/-- what an exception needs of the heap and the tables -/
def jEx (G : jG) (sa : Nat) (s : State) : Prop := xq_Zq Bundle.tN "UNASSIGNED_STACK" Bundle.steD (fun a => G.bs ≤ a) s G.H0 ∧ xq_Zq Bundle.tN "SUPPRESSED_SENTINEL" Bundle.listD (fun a => G.bs ≤ a) s G.H0 ∧ vk_R RX10 185 txE sa s ∧ ∀ w ∈ jBw, va_Nw w s
theorem jEx.warm {G : jG} {sa : Nat} {u U : State} (hW : u.WarmedH U.vm) (h : jEx G sa u) : jEx G sa U := by
  refine ⟨xq_Zq.moved hW.alike h.1, xq_Zq.moved hW.alike h.2.1, vk_R.warm hW h.2.2.1, fun w hw => ?_⟩
  have h4 := h.2.2.2 w hw
  simp only [jBw, List.mem_cons, List.not_mem_nil, or_false] at hw
  rcases hw with rfl | rfl | rfl | rfl
  · exact va_Nw.warmC hW h4
  · exact va_Nw.warmD hW h4
  · exact va_Nw.warmD hW h4
  · exact va_Nw.warmD hW h4
theorem jEx.same {G : jG} {sa : Nat} {u U : State} (hv : u.vm = U.vm) (h : jEx G sa u) : jEx G sa U := by
  have hal : u.vm.Alike U.vm := by rw [hv]; exact Vm.Alike.refl U.vm
  exact ⟨xq_Zq.moved hal h.1, xq_Zq.moved hal h.2.1, vk_R.same hv.symm h.2.2.1, fun w hw => va_Nw.same (jBw_on w hw) hv (h.2.2.2 w hw)⟩
def jPreE (G : jG) (sa : Nat) (M : jM) (as : List jV) : Array Value → State → Prop := va_Pc (as.map (jval G)) (fun U => jK G U ∧ jRep G M U.heap ∧ jEx G sa U)
theorem jPreE_blind {G : jG} {sa : Nat} {M : jM} {as : List jV} : FrameBlind (jPreE G sa M as) := by
  intro a U g mk h
  exact ⟨h.1, jK.same (u := U) rfl h.2.1, h.2.2.1, jEx.same (u := U) rfl h.2.2.2⟩
theorem jcl30 : jcl[30]? = none := by rfl
theorem jRep.exc {G : jG} {M : jM} {H H' : Heap} (hR : jRep G M H) (hA : ∀ r : Nat, 6 ≤ r → G.ad r = G.bs + (r - 6)) (hz : H'.size = H.size + 1) (ho : ∀ q : Nat, q < H.size → H'[q]? = H[q]?) : jRep G (jexc M) H' := by
  refine hR.grow hA hz ho ?_
  have e : kd (nw M (30, 0) 6) (mx M) = (30, 0) := if_pos rfl
  unfold jnew
  rw [e]
  exact ⟨fun q hq => absurd (show jcl[30]? = some q from hq) (by rw [jcl30]; simp), fun _ h2 => absurd (show 30 ≤ 24 from h2) (by decide)⟩
theorem act_throw {m : jMe} {pc : Nat} {ls : jLs} {st : List jV} {M M' : jM} {q : jFr} (ha : act m (pc, ls, st) M = some (.inr (.inr (.inr (q, M'))))) : M' = M ∧ pc = 20 ∧ st = [] := by
  unfold act at ha
  split at ha
  case h_2 => cases ha
  rename_i ins len hd
  split at ha
  case isFalse => cases ha
  cases ins with
  | invokevirtual i =>
    simp only [actI, jCall] at ha
    repeat' split at ha
    all_goals cases ha
  | invokestatic i =>
    simp only [actI, jStac, jMath, jCall, jPers] at ha
    repeat' split at ha
    all_goals cases ha
  | invokespecial i =>
    simp only [actI, jSpec, jCall] at ha
    repeat' split at ha
    all_goals cases ha
  | new i =>
    simp only [actI, jNew] at ha
    split at ha
    · cases ha
    · split at ha
      · rename_i hc
        cases ha
        exact ⟨rfl, hc.2.2.1, List.isEmpty_iff.mp hc.2.2.2⟩
      · cases ha
  | _ =>
    simp only [actI, jPush, jLdc, jLdc2, jLdI, jLdL, jLdR, jStI, jStL, jStR, jInc, jB32, jB64, jS64, jD32, jD64, jNegL, jI2L, jL2I, jCmp, jDup, jDup2, jPop, jGo, jIf, jIfc, jNull, jBr, jTab, jLook, jGet, jPut, jStat, jNewA, jAr, jNewR, jLen, jLdE, jLdA, jStE, jStA, jSpec, jRetI, jRetL, jRetA, jRetV] at ha
    repeat' split at ha
    all_goals cases ha
/-- what throws in exec, throws over the machine -/
def JST (n : Nat) : Prop := ∀ (d : Nat) (fr : jFr) (M ME : jM), exec n d mX10_person fr M = some (.inr (), ME) → ∀ {p : Program} {l : Launch} {e : Env} {R : Room} {s : State} {mm : MethodId} {args : Array Value} {below : List Frame} {meth : Method} {c : Code} {Q : State → Prop} {G : jG} {mb sb : Nat}, jCtx p R s mm args meth c G mX10_person d → mb ≤ mx M ∧ sb ≤ ms M → mx ME - mb ≤ R.cells ∧ ms ME - sb ≤ R.slots → (∀ (ls : jLs) (M1 : jM), ME = jexc M1 → mx M ≤ mx M1 ∧ ms M ≤ ms M1 → JW p l e R s mm args below meth c Q G mb sb M1 20 ls []) → JW p l e R s mm args below meth c Q G mb sb M fr.1 fr.2.1 fr.2.2
theorem js_throw : ∀ n, JST n := by
  intro n
  induction n with
  | zero => intro d fr M ME h; exact absurd h (by simp [exec])
  | succ n IH =>
    intro d fr M ME h p l e R s mm args below meth c Q G mb sb C hmb hroom hthr
    have hmx0 := exec_mx _ _ _ _ _ _ h
    dsimp only at hmx0
    rw [exec] at h
    cases ha : act mX10_person fr M with
    | none => rw [ha] at h; cases h
    | some a =>
      rw [ha] at h
      obtain ⟨pc, ls, st⟩ := fr
      rcases a with ⟨fr', M'⟩ | ⟨cal, as, fr', M'⟩ | ⟨r', M'⟩ | ⟨q, M'⟩
      · dsimp only at h
        have h1 := exec_mx _ _ _ _ _ _ h
        have h2 := act_mx ha
        dsimp only at h1
        exact snd_on C ha hmb ⟨by omega, by omega⟩ (IH d fr' M' ME h C ⟨by omega, by omega⟩ hroom (fun ls1 M1 e1 le => hthr ls1 M1 e1 ⟨by omega, by omega⟩))
      · obtain ⟨q, rfl, rfl, hc⟩ := act_call ha
        rcases hc with hc | hc
        case inr => exact absurd hc.1 (by decide)
        cases d with
        | zero => exact absurd h (by simp)
        | succ d =>
          dsimp only at h
          have h99 : cal.1 ≠ 99 := by
            obtain ⟨-, -, i, na, hcase⟩ := hc
            rcases hcase with ⟨-, hm, -⟩ | ⟨_, _, -, -, -, -, ⟨-, hm⟩ | ⟨-, hm, -⟩⟩ <;> exact (jMc hm).2.2.2.2.2.2.2.2.2.2.2.1
          rw [if_neg h99] at h
          cases hx : exec n d cal (0, jentry as cal.2.2.2.1, []) M' with
          | none => rw [hx] at h; exact absurd h (by simp)
          | some y =>
            rw [hx] at h
            rcases y with ⟨r1 | u, M2⟩
            · dsimp only at h
              have h1 := exec_mx _ _ _ _ _ _ hx
              have h2 := exec_mx _ _ _ _ _ _ h
              dsimp only at h1 h2
              exact s_call (js_all n) C hc hx hmb ⟨by omega, by omega⟩ (IH (d + 1) _ M2 ME h C ⟨by omega, by omega⟩ hroom (fun ls1 M1 e1 le => hthr ls1 M1 e1 ⟨by omega, by omega⟩))
            · exact absurd h (by simp)
      · cases h
      · obtain ⟨rfl, rfl, rfl⟩ := act_throw ha
        cases h
        exact hthr ls M' rfl ⟨Nat.le_refl _, Nat.le_refl _⟩
theorem jX10n : plainName yX10_person.cls = true := by decide +kernel
theorem xfitE : Bundle.fit nsE = true := by decide +kernel
theorem xfitY : Bundle.fit "java/lang/RuntimeException" = true := by decide +kernel
theorem xfitN : ∀ n ∈ ["java/lang/Exception"], Bundle.fit n = true := by decide +kernel
def jXC (G : jG) (M2 : jM) : String → State → State → Prop := fun E _ t => E = nsE ∧ jRep G M2 t.heap ∧ gM M2
theorem js_metT {n d sa : Nat} {l : Launch} {G : jG} {as : List jV} {M M2 : jM} (hl : l.stackTraces = false) (hx : exec n d mX10_person (0, jentry as mX10_person.2.2.2.1, []) M = some (.inr (), M2)) (hd : 5 ≤ d) (hlen : (jargs as).length ≤ mX10_person.2.2.2.1) (hgs : gS as) (hgm : gM M) : xq_Met l yX10_person (jws mX10_person) (jroom d M M2) (jPreE G sa M as) (fun _ _ _ _ => False) (jXC G M2) (mx M2 - mx M) (ms M2 - ms M) (fun q => G.bs ≤ q) := by
  refine xq_ofW (cc := mX10_person.2.2.1) (maxL := mX10_person.2.2.2.1) (ret := mX10_person.2.2.2.2) jX10n rfl ?_
  intro p e s m args below meth c s₁ B hml htab hv
  obtain ⟨rfl, hK, hR, hE⟩ := hv
  have hts := atoms_spec (ws := jws mX10_person) B.pre
  have htw : ∀ w ∈ jW, w.before ((as.map (jval G)).toArray) s = true := fun w hw => hts w (List.mem_cons_of_mem _ hw)
  have hown : s.vm.findClass (jown mX10_person.1) = some m.cls := findClass_of_methodNamed B.named
  have C : jCtx p (headSpec (jws mX10_person) (jroom d M M2)).room s m ((as.map (jval G)).toArray) meth c G mX10_person d := ⟨B.exec, B.bytes, hml, hown, htw, hK, fun h => (name_of_methodNamed B.named B.method).1.trans h, B.returns, B.notSynchronized, Nat.le_refl _, Nat.le_refl _⟩
  have hmx := exec_mx _ _ _ _ _ _ hx
  have key := js_throw n d _ M M2 hx (p := p) (l := l) (e := e) (below := below) (Q := xq_MQ below (fun _ _ _ _ => False) (jXC G M2) ((as.map (jval G)).toArray) s (mx M2 - mx M) (ms M2 - ms M) (fun q => G.bs ≤ q)) (mb := mx M) (sb := ms M) C ⟨Nat.le_refl _, Nat.le_refl _⟩ ⟨Nat.le_refl _, Nat.le_refl _⟩ (fun ls M1 e1 le => by
    intro H lsA locs hR1 hM1 hL hS hl1 hlo
    have hm1 : mx M2 = mx M1 + 1 := by rw [e1]; rfl
    have hm2 : ms M2 = ms M1 + 6 := by rw [e1]; rfl
    have hSx : va_S (fun a => G.bs ≤ a) s.heap H locs := by
      obtain ⟨a1, a2, a3, _⟩ := hR
      obtain ⟨b1, b2, b3, _⟩ := hR1
      refine ⟨by omega, fun q hq hn => ?_, hlo⟩
      have hqb : q < G.bs := by omega
      rw [b3 q hqb, a3 q hqb]
    have kp : ∀ a : Nat, a < G.H0.size → ¬ (G.bs ≤ a) → s.heap[a]? = G.H0[a]? := fun a _ hn => hR.2.2.1 a (by omega)
    exact xq_throwS (cc := mX10_person.2.2.1) (pc := 20) (own := RX10) (cls := nsE) (text := txE) (Y1 := "java/lang/RuntimeException") (names := ["java/lang/Exception"]) (ix := 13) (rx := nsB) (ik := 183) (is := 185) (ic := 187) (sa := sa) (A := fun a => G.bs ≤ a) B.exec B.bytes hl nsB_0 nsB_1 nsB_2 nsB_5 hown xfitE xfitY xfitN (htw _ jXw_1) (htw _ jXw_2) hE.2.2.1 (xq_hat (fun w hw => htw w (jW_mem (jAt_g w hw) (List.mem_filter.mp hw).2)) jAt_b (fun w hw => va_Nw.use (jBw_on w hw) (hE.2.2.2 w hw))) jAt_o (hE.1.kept kp) (hE.2.1.kept kp) hSx hl1.2.1 dX10_person_20 dX10_person_23 dX10_person_24 dX10_person_26 dX10_person_29 (fun x hx => (htab x hx).elim) (show 1 + 4 < d + 1 by omega) (show 0 + (13 * (1 + 2) + 43) ≤ 60 * (d + 1) by omega) (show mx M1 - mx M + 1 ≤ mx M2 - mx M by omega) (show ms M1 - ms M + 6 ≤ ms M2 - ms M by omega) B.notSynchronized (fun t _ hz hq => ⟨rfl, by rw [e1]; exact hR1.exc hK.1 hz hq, by rw [e1]; exact hM1.nw⟩) hlo (by omega) (by omega))
  have := key s.heap _ [] hR hgm (gL_entry hgs) (fun v hv => by cases hv) (by rw [hml]; exact jl_entry hlen) (fun q hq => by cases hq)
  rw [Nat.sub_self, Nat.sub_self] at this
  rw [lg_entry_eq]
  exact this
theorem jXw_8 : Cond.methodLink RL 7 yX10_person ∈ jW := jW_mem (jXw_in _ (by simp [jXw])) rfl
