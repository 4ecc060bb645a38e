/-! whatever goes on, goes on over the machine -/
theorem jcat_eq {G : jG} : ∀ q : List jV, ((q.map (jval G)).map fun v => v.category).sum = jcat q
  | [] => rfl
  | .inl z :: t => by simp only [List.map_cons, List.sum_cons, jcat_eq t]; rfl
  | .inr (.inl z) :: t => by simp only [List.map_cons, List.sum_cons, jcat_eq t]; rfl
  | .inr (.inr z) :: t => by cases z <;> (simp only [List.map_cons, List.sum_cons, jcat_eq t]; rfl)
theorem s_math0 {p : Program} {l : Launch} {e : Env} {R : Room} {s : State} {mm : MethodId} {args : Array Value} {below : List Frame} {meth : Method} {c : Code} {Q : State → Prop} {G : jG} {mb sb : Nat} {m : jMe} {d : Nat} {M : jM} {pc : Nat} {ls : jLs} {st : List jV} {i : Nat} {a b : Int} (C : jCtx p R s mm args meth c G m d) (hd : decode m.2.2.1 pc = .ok (.invokestatic i, 3)) (hx : lkX m.1 i = some 0) (hw : jcat st ≤ 8) (hroom : mx M - mb ≤ R.cells ∧ ms M - sb ≤ R.slots) (k : JW p l e R s mm args below meth c Q G mb sb M (pc + 3) ls (vI (if a < b then b else a) :: st)) : JW p l e R s mm args below meth c Q G mb sb M pc ls (vI b :: vI a :: st) := by
  intro H lsA locs hR hM hL hS hl hlo
  obtain ⟨hb, hS⟩ := gS_cons.mp hS
  obtain ⟨ha, hS⟩ := gS_cons.mp hS
  have hg : gV (vI (if a < b then b else a)) := by split <;> assumption
  have kk := k H lsA locs hR hM hL (gS_cons.mpr ⟨hg, hS⟩) hl hlo
  have hts := C.2.2.2.2.1
  have he : (if Int32.ofInt a < Int32.ofInt b then Int32.ofInt b else Int32.ofInt a) = Int32.ofInt (if a < b then b else a) := by
    simp only [n_lt ha hb]
    split <;> rfl
  refine va_mmax C.1 C.2.1 hl.2.1.symm C.2.2.2.1 (hts _ (jXc hx).2) (hts _ jx0.1) (hts _ jx0.2.1) (hts _ jx0.2.2) (by have := C.2.2.2.2.2.2.2.2.2.1; omega) (by
    have h1 := C.2.2.2.2.2.2.2.2.2.2
    rw [jcat_eq st]
    omega) hroom.1 hroom.2 hd ?_
  rw [he]
  exact kk
theorem s_math1 {p : Program} {l : Launch} {e : Env} {R : Room} {s : State} {mm : MethodId} {args : Array Value} {below : List Frame} {meth : Method} {c : Code} {Q : State → Prop} {G : jG} {mb sb : Nat} {m : jMe} {d : Nat} {M : jM} {pc : Nat} {ls : jLs} {st : List jV} {i : Nat} {a b : Int} (C : jCtx p R s mm args meth c G m d) (hd : decode m.2.2.1 pc = .ok (.invokestatic i, 3)) (hx : lkX m.1 i = some 1) (hw : jcat st ≤ 8) (hroom : mx M - mb ≤ R.cells ∧ ms M - sb ≤ R.slots) (k : JW p l e R s mm args below meth c Q G mb sb M (pc + 3) ls (vL (if b < a then a else b) :: st)) : JW p l e R s mm args below meth c Q G mb sb M pc ls (vL b :: vL a :: st) := by
  intro H lsA locs hR hM hL hS hl hlo
  obtain ⟨hb, hS⟩ := gS_cons.mp hS
  obtain ⟨ha, hS⟩ := gS_cons.mp hS
  have hg : gV (vL (if b < a then a else b)) := by split <;> assumption
  have kk := k H lsA locs hR hM hL (gS_cons.mpr ⟨hg, hS⟩) hl hlo
  have hts := C.2.2.2.2.1
  have he : (if Int64.ofInt b < Int64.ofInt a then Int64.ofInt a else Int64.ofInt b) = Int64.ofInt (if b < a then a else b) := by
    simp only [n_ltL hb ha]
    split <;> rfl
  refine va_mmax_long C.1 C.2.1 hl.2.1.symm C.2.2.2.1 (hts _ (jXc hx).2) (hts _ jx1.1) (hts _ jx1.2.1) (hts _ jx1.2.2) (by have := C.2.2.2.2.2.2.2.2.2.1; omega) (by
    have h1 := C.2.2.2.2.2.2.2.2.2.2
    rw [jcat_eq st]
    omega) hroom.1 hroom.2 hd ?_
  rw [he]
  exact kk
theorem s_math2 {p : Program} {l : Launch} {e : Env} {R : Room} {s : State} {mm : MethodId} {args : Array Value} {below : List Frame} {meth : Method} {c : Code} {Q : State → Prop} {G : jG} {mb sb : Nat} {m : jMe} {d : Nat} {M : jM} {pc : Nat} {ls : jLs} {st : List jV} {i : Nat} {a b : Int} (C : jCtx p R s mm args meth c G m d) (hd : decode m.2.2.1 pc = .ok (.invokestatic i, 3)) (hx : lkX m.1 i = some 2) (hw : jcat st ≤ 8) (hroom : mx M - mb ≤ R.cells ∧ ms M - sb ≤ R.slots) (k : JW p l e R s mm args below meth c Q G mb sb M (pc + 3) ls (vI (if b < a then b else a) :: st)) : JW p l e R s mm args below meth c Q G mb sb M pc ls (vI b :: vI a :: st) := by
  intro H lsA locs hR hM hL hS hl hlo
  obtain ⟨hb, hS⟩ := gS_cons.mp hS
  obtain ⟨ha, hS⟩ := gS_cons.mp hS
  have hg : gV (vI (if b < a then b else a)) := by split <;> assumption
  have kk := k H lsA locs hR hM hL (gS_cons.mpr ⟨hg, hS⟩) hl hlo
  have hts := C.2.2.2.2.1
  have he : (if Int32.ofInt b < Int32.ofInt a then Int32.ofInt b else Int32.ofInt a) = Int32.ofInt (if b < a then b else a) := by
    simp only [n_lt hb ha]
    split <;> rfl
  refine va_mmin C.1 C.2.1 hl.2.1.symm C.2.2.2.1 (hts _ (jXc hx).2) (hts _ jx2.1) (hts _ jx2.2.1) (hts _ jx2.2.2) (by have := C.2.2.2.2.2.2.2.2.2.1; omega) (by
    have h1 := C.2.2.2.2.2.2.2.2.2.2
    rw [jcat_eq st]
    omega) hroom.1 hroom.2 hd ?_
  rw [he]
  exact kk
theorem s_math3 {p : Program} {l : Launch} {e : Env} {R : Room} {s : State} {mm : MethodId} {args : Array Value} {below : List Frame} {meth : Method} {c : Code} {Q : State → Prop} {G : jG} {mb sb : Nat} {m : jMe} {d : Nat} {M : jM} {pc : Nat} {ls : jLs} {st : List jV} {i : Nat} {a b : Int} (C : jCtx p R s mm args meth c G m d) (hd : decode m.2.2.1 pc = .ok (.invokestatic i, 3)) (hx : lkX m.1 i = some 3) (hw : jcat st ≤ 8) (hroom : mx M - mb ≤ R.cells ∧ ms M - sb ≤ R.slots) (k : JW p l e R s mm args below meth c Q G mb sb M (pc + 3) ls (vL (if b < a then b else a) :: st)) : JW p l e R s mm args below meth c Q G mb sb M pc ls (vL b :: vL a :: st) := by
  intro H lsA locs hR hM hL hS hl hlo
  obtain ⟨hb, hS⟩ := gS_cons.mp hS
  obtain ⟨ha, hS⟩ := gS_cons.mp hS
  have hg : gV (vL (if b < a then b else a)) := by split <;> assumption
  have kk := k H lsA locs hR hM hL (gS_cons.mpr ⟨hg, hS⟩) hl hlo
  have hts := C.2.2.2.2.1
  have he : (if Int64.ofInt b < Int64.ofInt a then Int64.ofInt b else Int64.ofInt a) = Int64.ofInt (if b < a then b else a) := by
    simp only [n_ltL hb ha]
    split <;> rfl
  refine va_mmin_long C.1 C.2.1 hl.2.1.symm C.2.2.2.1 (hts _ (jXc hx).2) (hts _ jx3.1) (hts _ jx3.2.1) (hts _ jx3.2.2) (by have := C.2.2.2.2.2.2.2.2.2.1; omega) (by
    have h1 := C.2.2.2.2.2.2.2.2.2.2
    rw [jcat_eq st]
    omega) hroom.1 hroom.2 hd ?_
  rw [he]
  exact kk
theorem jCall_no (k o i pc : Nat) (ls : jLs) (st : List jV) (M : jM) {x : jFr × jM} : ¬ jCall k o i pc ls st M = some (.inl x) := by
  intro h
  unfold jCall at h
  repeat' split at h
  all_goals cases h
theorem snd_on {p : Program} {l : Launch} {e : Env} {R : Room} {s : State} {mm : MethodId} {args : Array Value} {below : List Frame} {meth : Method} {c : Code} {Q : State → Prop} {G : jG} {mb sb : Nat} {m : jMe} {d : Nat} {M : jM} {pc : Nat} {ls : jLs} {st : List jV} (C : jCtx p R s mm args meth c G m d) {fr' : jFr} {M' : jM} (h : act m (pc, ls, st) M = some (.inl (fr', M'))) (hmb : mb ≤ mx M ∧ sb ≤ ms M) (hroom : mx M' - mb ≤ R.cells ∧ ms M' - sb ≤ R.slots) (k : JW p l e R s mm args below meth c Q G mb sb M' fr'.1 fr'.2.1 fr'.2.2) : JW p l e R s mm args below meth c Q G mb sb M pc ls st := by
  unfold act at h
  dsimp only at h
  split at h
  case h_2 => cases h
  rename_i ins len hd
  split at h
  case isFalse => cases h
  rename_i hj
  cases ins with
  | iadd =>
    obtain rfl : len = 1 := by simpa [jlen] using hj
    simp only [actI, jB32] at h
    split at h
    · cases h; exact s_iadd C hd k
    · cases h
  | isub =>
    obtain rfl : len = 1 := by simpa [jlen] using hj
    simp only [actI, jB32] at h
    split at h
    · cases h; exact s_isub C hd k
    · cases h
  | imul =>
    obtain rfl : len = 1 := by simpa [jlen] using hj
    simp only [actI, jB32] at h
    split at h
    · cases h; exact s_imul C hd k
    · cases h
  | iand =>
    obtain rfl : len = 1 := by simpa [jlen] using hj
    simp only [actI, jB32] at h
    split at h
    · cases h; exact s_iand C hd k
    · cases h
  | ior =>
    obtain rfl : len = 1 := by simpa [jlen] using hj
    simp only [actI, jB32] at h
    split at h
    · cases h; exact s_ior C hd k
    · cases h
  | ixor =>
    obtain rfl : len = 1 := by simpa [jlen] using hj
    simp only [actI, jB32] at h
    split at h
    · cases h; exact s_ixor C hd k
    · cases h
  | ishl =>
    obtain rfl : len = 1 := by simpa [jlen] using hj
    simp only [actI, jB32] at h
    split at h
    · cases h; exact s_ishl C hd k
    · cases h
  | ishr =>
    obtain rfl : len = 1 := by simpa [jlen] using hj
    simp only [actI, jB32] at h
    split at h
    · cases h; exact s_ishr C hd k
    · cases h
  | iushr =>
    obtain rfl : len = 1 := by simpa [jlen] using hj
    simp only [actI, jB32] at h
    split at h
    · cases h; exact s_iushr C hd k
    · cases h
  | ladd =>
    obtain rfl : len = 1 := by simpa [jlen] using hj
    simp only [actI, jB64] at h
    split at h
    · cases h; exact s_ladd C hd k
    · cases h
  | lsub =>
    obtain rfl : len = 1 := by simpa [jlen] using hj
    simp only [actI, jB64] at h
    split at h
    · cases h; exact s_lsub C hd k
    · cases h
  | lmul =>
    obtain rfl : len = 1 := by simpa [jlen] using hj
    simp only [actI, jB64] at h
    split at h
    · cases h; exact s_lmul C hd k
    · cases h
  | land =>
    obtain rfl : len = 1 := by simpa [jlen] using hj
    simp only [actI, jB64] at h
    split at h
    · cases h; exact s_land C hd k
    · cases h
  | lor =>
    obtain rfl : len = 1 := by simpa [jlen] using hj
    simp only [actI, jB64] at h
    split at h
    · cases h; exact s_lor C hd k
    · cases h
  | lshl =>
    obtain rfl : len = 1 := by simpa [jlen] using hj
    simp only [actI, jS64] at h
    split at h
    · cases h; exact s_lshl C hd k
    · cases h
  | lshr =>
    obtain rfl : len = 1 := by simpa [jlen] using hj
    simp only [actI, jS64] at h
    split at h
    · cases h; exact s_lshr C hd k
    · cases h
  | lushr =>
    obtain rfl : len = 1 := by simpa [jlen] using hj
    simp only [actI, jS64] at h
    split at h
    · cases h; exact s_lushr C hd k
    · cases h
  | idiv =>
    obtain rfl : len = 1 := by simpa [jlen] using hj
    simp only [actI, jD32] at h
    split at h
    · split at h
      · rename_i hb; cases h; exact s_idiv C hd hb k
      · cases h
    · cases h
  | irem =>
    obtain rfl : len = 1 := by simpa [jlen] using hj
    simp only [actI, jD32] at h
    split at h
    · split at h
      · rename_i hb; cases h; exact s_irem C hd hb k
      · cases h
    · cases h
  | ldiv =>
    obtain rfl : len = 1 := by simpa [jlen] using hj
    simp only [actI, jD64] at h
    split at h
    · split at h
      · rename_i hb; cases h; exact s_ldiv C hd hb k
      · cases h
    · cases h
  | lrem =>
    obtain rfl : len = 1 := by simpa [jlen] using hj
    simp only [actI, jD64] at h
    split at h
    · split at h
      · rename_i hb; cases h; exact s_lrem C hd hb k
      · cases h
    · cases h
  | lneg =>
    obtain rfl : len = 1 := by simpa [jlen] using hj
    simp only [actI, jNegL] at h
    split at h
    · cases h; exact s_lneg C hd k
    · cases h
  | i2l =>
    obtain rfl : len = 1 := by simpa [jlen] using hj
    simp only [actI, jI2L] at h
    split at h
    · cases h; exact s_i2l C hd k
    · cases h
  | l2i =>
    obtain rfl : len = 1 := by simpa [jlen] using hj
    simp only [actI, jL2I] at h
    split at h
    · cases h; exact s_l2i C hd k
    · cases h
  | lcmp =>
    obtain rfl : len = 1 := by simpa [jlen] using hj
    simp only [actI, jCmp] at h
    split at h
    · cases h; exact s_lcmp C hd k
    · cases h
  | aconst_null =>
    obtain rfl : len = 1 := by simpa [jlen] using hj
    simp only [actI, jPush] at h
    cases h; exact s_null C hd k
  | iconst z =>
    obtain rfl : len = 1 := by simpa [jlen] using hj
    simp only [actI] at h
    split at h
    · rename_i hz; simp only [jPush] at h; cases h; exact s_iconst C hd hz k
    · cases h
  | bipush z =>
    obtain rfl : len = 2 := by simpa [jlen] using hj
    simp only [actI] at h
    split at h
    · rename_i hz; simp only [jPush] at h; cases h; exact s_bipush C hd hz k
    · cases h
  | sipush z =>
    obtain rfl : len = 3 := by simpa [jlen] using hj
    simp only [actI] at h
    split at h
    · rename_i hz; simp only [jPush] at h; cases h; exact s_sipush C hd hz k
    · cases h
  | lconst j =>
    obtain rfl : len = 1 := by simpa [jlen] using hj
    simp only [actI, jPush] at h
    cases h; exact s_lconst C hd k
  | ldc i =>
    obtain rfl : len = 2 := by simpa [jlen] using hj
    simp only [actI, jLdc] at h
    split at h
    · rename_i hk; cases h; exact s_ldc C hd hk k
    · cases h
  | ldc_w i =>
    obtain rfl : len = 3 := by simpa [jlen] using hj
    simp only [actI, jLdc] at h
    split at h
    · rename_i hk; cases h; exact s_ldc_w C hd hk k
    · cases h
  | ldc2_w i =>
    obtain rfl : len = 3 := by simpa [jlen] using hj
    simp only [actI, jLdc2] at h
    split at h
    · rename_i hk; cases h; exact s_ldc2 C hd hk k
    · cases h
  | iload i =>
    obtain rfl : len = 2 := by simpa [jlen] using hj
    simp only [actI, jLdI] at h
    split at h
    · rename_i hg; cases h; exact s_iload C hd hg k
    · cases h
  | iload_n i =>
    obtain rfl : len = 1 := by simpa [jlen] using hj
    simp only [actI, jLdI] at h
    split at h
    · rename_i hg; cases h; exact s_iload_n C hd hg k
    · cases h
  | lload i =>
    obtain rfl : len = 2 := by simpa [jlen] using hj
    simp only [actI, jLdL] at h
    split at h
    · rename_i hg; cases h; exact s_lload C hd hg k
    · cases h
  | lload_n i =>
    obtain rfl : len = 1 := by simpa [jlen] using hj
    simp only [actI, jLdL] at h
    split at h
    · rename_i hg; cases h; exact s_lload_n C hd hg k
    · cases h
  | aload i =>
    obtain rfl : len = 2 := by simpa [jlen] using hj
    simp only [actI, jLdR] at h
    split at h
    · rename_i hg; cases h; exact s_aload C hd hg k
    · cases h
  | aload_n i =>
    obtain rfl : len = 1 := by simpa [jlen] using hj
    simp only [actI, jLdR] at h
    split at h
    · rename_i hg; cases h; exact s_aload_n C hd hg k
    · cases h
  | istore i =>
    obtain rfl : len = 2 := by simpa [jlen] using hj
    simp only [actI, jStI] at h
    split at h
    · split at h
      · rename_i hn; cases h; exact s_istore C hd hn k
      · cases h
    · cases h
  | istore_n i =>
    obtain rfl : len = 1 := by simpa [jlen] using hj
    simp only [actI, jStI] at h
    split at h
    · split at h
      · rename_i hn; cases h; exact s_istore_n C hd hn k
      · cases h
    · cases h
  | lstore i =>
    obtain rfl : len = 2 := by simpa [jlen] using hj
    simp only [actI, jStL] at h
    split at h
    · split at h
      · rename_i hn; cases h; exact s_lstore C hd hn k
      · cases h
    · cases h
  | lstore_n i =>
    obtain rfl : len = 1 := by simpa [jlen] using hj
    simp only [actI, jStL] at h
    split at h
    · split at h
      · rename_i hn; cases h; exact s_lstore_n C hd hn k
      · cases h
    · cases h
  | astore i =>
    obtain rfl : len = 2 := by simpa [jlen] using hj
    simp only [actI, jStR] at h
    split at h
    · split at h
      · rename_i hn; cases h; exact s_astore C hd hn k
      · cases h
    · cases h
  | astore_n i =>
    obtain rfl : len = 1 := by simpa [jlen] using hj
    simp only [actI, jStR] at h
    split at h
    · split at h
      · rename_i hn; cases h; exact s_astore_n C hd hn k
      · cases h
    · cases h
  | iinc i z =>
    obtain rfl : len = 3 := by simpa [jlen] using hj
    simp only [actI, jInc] at h
    split at h
    · rename_i hg; cases h; exact s_iinc C hd hg k
    · cases h
  | dup =>
    obtain rfl : len = 1 := by simpa [jlen] using hj
    simp only [actI, jDup] at h
    split at h
    · cases h
    · rename_i hv; cases h; exact s_dup C hd (fun z hz => by subst hz; exact hv _ rfl) k
    · cases h
  | dup2 =>
    obtain rfl : len = 1 := by simpa [jlen] using hj
    simp only [actI, jDup2] at h
    split at h
    · cases h; exact s_dup2L C hd k
    · cases h
    · rename_i hv hu; cases h; exact s_dup2 C hd (fun z hz => by subst hz; first | exact hv _ rfl | exact hu _ rfl | simp_all) (fun z hz => by subst hz; first | exact hv _ rfl | exact hu _ rfl | simp_all) k
    · cases h
  | pop =>
    obtain rfl : len = 1 := by simpa [jlen] using hj
    simp only [actI, jPop] at h
    split at h
    · cases h
    · rename_i hv; cases h; exact s_pop C hd (fun z hz => by subst hz; exact hv _ rfl) k
    · cases h
  | goto off =>
    obtain rfl : len = 3 := by simpa [jlen] using hj
    simp only [actI] at h
    obtain ⟨tgt, ht, rfl, rfl⟩ := jGo_some h
    exact s_goto C hd ht k
  | ifCond cc off =>
    obtain rfl : len = 3 := by simpa [jlen] using hj
    simp only [actI, jIf] at h
    split at h
    · obtain ⟨tgt, ht, rfl, hb⟩ := jBr_some h
      rcases hb with ⟨hb, rfl⟩ | ⟨hb, rfl⟩ <;> cases cc
      · exact s_if_eq C hd ht (fun _ => k) (fun q => absurd (by simpa [jholds] using hb) q)
      · exact s_if_ne C hd ht (fun _ => k) (fun q => absurd (by simpa [jholds] using hb) q)
      · exact s_if_lt C hd ht (fun _ => k) (fun q => absurd (by simpa [jholds] using hb) q)
      · exact s_if_ge C hd ht (fun _ => k) (fun q => absurd (by simpa [jholds] using hb) q)
      · exact s_if_gt C hd ht (fun _ => k) (fun q => absurd (by simpa [jholds] using hb) q)
      · exact s_if_le C hd ht (fun _ => k) (fun q => absurd (by simpa [jholds] using hb) q)
      · exact s_if_eq C hd ht (fun q => absurd q (by simpa [jholds] using hb)) (fun _ => k)
      · exact s_if_ne C hd ht (fun q => absurd q (by simpa [jholds] using hb)) (fun _ => k)
      · exact s_if_lt C hd ht (fun q => absurd q (by simpa [jholds] using hb)) (fun _ => k)
      · exact s_if_ge C hd ht (fun q => absurd q (by simpa [jholds] using hb)) (fun _ => k)
      · exact s_if_gt C hd ht (fun q => absurd q (by simpa [jholds] using hb)) (fun _ => k)
      · exact s_if_le C hd ht (fun q => absurd q (by simpa [jholds] using hb)) (fun _ => k)
    · cases h
  | if_icmp cc off =>
    obtain rfl : len = 3 := by simpa [jlen] using hj
    simp only [actI, jIfc] at h
    split at h
    · obtain ⟨tgt, ht, rfl, hb⟩ := jBr_some h
      rcases hb with ⟨hb, rfl⟩ | ⟨hb, rfl⟩ <;> cases cc
      · exact s_icmp_eq C hd ht (fun _ => k) (fun q => absurd (by simpa [jholds] using hb) q)
      · exact s_icmp_ne C hd ht (fun _ => k) (fun q => absurd (by simpa [jholds] using hb) q)
      · exact s_icmp_lt C hd ht (fun _ => k) (fun q => absurd (by simpa [jholds] using hb) q)
      · exact s_icmp_ge C hd ht (fun _ => k) (fun q => absurd (by simpa [jholds] using hb) q)
      · exact s_icmp_gt C hd ht (fun _ => k) (fun q => absurd (by simpa [jholds] using hb) q)
      · exact s_icmp_le C hd ht (fun _ => k) (fun q => absurd (by simpa [jholds] using hb) q)
      · exact s_icmp_eq C hd ht (fun q => absurd q (by simpa [jholds] using hb)) (fun _ => k)
      · exact s_icmp_ne C hd ht (fun q => absurd q (by simpa [jholds] using hb)) (fun _ => k)
      · exact s_icmp_lt C hd ht (fun q => absurd q (by simpa [jholds] using hb)) (fun _ => k)
      · exact s_icmp_ge C hd ht (fun q => absurd q (by simpa [jholds] using hb)) (fun _ => k)
      · exact s_icmp_gt C hd ht (fun q => absurd q (by simpa [jholds] using hb)) (fun _ => k)
      · exact s_icmp_le C hd ht (fun q => absurd q (by simpa [jholds] using hb)) (fun _ => k)
    · cases h
  | ifnull off =>
    obtain rfl : len = 3 := by simpa [jlen] using hj
    simp only [actI, jNull] at h
    split at h
    · obtain ⟨tgt, ht, rfl, hb⟩ := jBr_some h
      rcases hb with ⟨hb, rfl⟩ | ⟨hb, rfl⟩
      · exact s_ifnull C hd ht (fun _ => k) (fun q => absurd (by simpa using hb) q)
      · exact s_ifnull C hd ht (fun q => absurd q (by simpa using hb)) (fun _ => k)
    · cases h
  | ifnonnull off =>
    obtain rfl : len = 3 := by simpa [jlen] using hj
    simp only [actI, jNull] at h
    split at h
    · obtain ⟨tgt, ht, rfl, hb⟩ := jBr_some h
      rcases hb with ⟨hb, rfl⟩ | ⟨hb, rfl⟩
      · exact s_ifnonnull C hd ht (fun _ => k) (fun q => absurd (by simpa using hb) q)
      · exact s_ifnonnull C hd ht (fun q => absurd q (by simpa using hb)) (fun _ => k)
    · cases h
  | tableswitch dl lo hi os =>
    simp only [actI, jTab] at h
    split at h
    · split at h
      · rename_i hx
        obtain ⟨tgt, ht, rfl, rfl⟩ := jGo_some h
        exact s_tab C hd (Or.inl ⟨hx, rfl⟩) ht k
      · rename_i hx
        split at h
        · rename_i off ho
          obtain ⟨tgt, ht, rfl, rfl⟩ := jGo_some h
          exact s_tab C hd (Or.inr ⟨hx, ho⟩) ht k
        · cases h
    · cases h
  | lookupswitch dl ps =>
    simp only [actI, jLook] at h
    split at h
    · split at h
      · rename_i hx
        obtain ⟨tgt, ht, rfl, rfl⟩ := jGo_some h
        exact s_look C hd hx ht k
      · cases h
    · cases h
  | getfield i =>
    obtain rfl : len = 3 := by simpa [jlen] using hj
    simp only [actI, jGet] at h
    split at h
    · rename_i hf
      split at h
      · rename_i ho
        split at h
        · cases h; exact s_getv C hd hf ho (Or.inl ⟨rfl, rfl⟩) k
        · cases h; exact s_getv C hd hf ho (Or.inr (Or.inl ⟨rfl, rfl⟩)) k
        · rename_i h1 h2; cases h; exact s_getv C hd hf ho (Or.inr (Or.inr ⟨h1, h2, rfl⟩)) k
      · cases h
    · cases h
  | putfield i =>
    obtain rfl : len = 3 := by simpa [jlen] using hj
    simp only [actI, jPut] at h
    split at h
    · rename_i hf
      split at h
      · rename_i ho
        split at h
        · cases h; exact s_putv C hd hf ho.1 ho.2 (Or.inr (Or.inr (Or.inl ⟨rfl, _, rfl, rfl⟩))) k
        · split at h
          · rename_i hz; cases h; exact s_putv C hd hf ho.1 ho.2 (Or.inr (Or.inr (Or.inr ⟨rfl, _, rfl, rfl, hz⟩))) k
          · cases h
        · cases h; exact s_putv C hd hf ho.1 ho.2 (Or.inl ⟨rfl, _, rfl, rfl⟩) k
        · cases h; exact s_putv C hd hf ho.1 ho.2 (Or.inr (Or.inl ⟨rfl, _, rfl, rfl⟩)) k
        · cases h
      · cases h
    · cases h
  | getstatic i =>
    obtain rfl : len = 3 := by simpa [jlen] using hj
    simp only [actI, jStat] at h
    split at h
    · rename_i hs; cases h; exact s_stat C hd hs k
    · cases h
  | new i =>
    obtain rfl : len = 3 := by simpa [jlen] using hj
    simp only [actI, jNew] at h
    split at h
    · rename_i hs; cases h; exact s_new C hd hs hmb hroom k
    · split at h <;> cases h
  | newarray t =>
    obtain rfl : len = 2 := by simpa [jlen] using hj
    simp only [actI, jNewA] at h
    split at h
    · simp only [jAr] at h
      split at h
      · split at h
        · rename_i hz; cases h; exact s_newar C hd rfl (Or.inl ⟨rfl, rfl⟩) hz hmb hroom k
        · cases h
      · cases h
    · simp only [jAr] at h
      split at h
      · split at h
        · rename_i hz; cases h; exact s_newar C hd rfl (Or.inr (Or.inl ⟨rfl, rfl⟩)) hz hmb hroom k
        · cases h
      · cases h
    · simp only [jAr] at h
      split at h
      · split at h
        · rename_i hz; cases h; exact s_newar C hd rfl (Or.inr (Or.inr ⟨rfl, rfl⟩)) hz hmb hroom k
        · cases h
      · cases h
    · cases h
  | anewarray i =>
    obtain rfl : len = 3 := by simpa [jlen] using hj
    simp only [actI, jNewR] at h
    split at h
    · rename_i ha
      simp only [jAr] at h
      split at h
      · split at h
        · rename_i hz; cases h; exact s_newr C hd ha hz hmb hroom k
        · cases h
      · cases h
    · cases h
  | arraylength =>
    obtain rfl : len = 1 := by simpa [jlen] using hj
    simp only [actI, jLen] at h
    split at h
    · split at h
      · rename_i hx; cases h; exact s_len C hd hx k
      · cases h
    · cases h
  | iaload =>
    obtain rfl : len = 1 := by simpa [jlen] using hj
    simp only [actI, jLdE] at h
    split at h
    · split at h
      · rename_i hx; cases h; exact s_iald C hd hx k
      · cases h
    · cases h
  | laload =>
    obtain rfl : len = 1 := by simpa [jlen] using hj
    simp only [actI, jLdE] at h
    split at h
    · split at h
      · rename_i hx; cases h; exact s_lald C hd hx k
      · cases h
    · cases h
  | baload =>
    obtain rfl : len = 1 := by simpa [jlen] using hj
    simp only [actI, jLdE] at h
    split at h
    · split at h
      · rename_i hx; cases h; exact s_zald C hd hx k
      · cases h
    · cases h
  | aaload =>
    obtain rfl : len = 1 := by simpa [jlen] using hj
    simp only [actI, jLdA] at h
    split at h
    · split at h
      · rename_i hx
        cases h
        rcases hx with hx | hx
        · exact s_aald C hd hx (Or.inl rfl) k
        · exact s_aald C hd hx (Or.inr rfl) k
      · cases h
    · cases h
  | iastore =>
    obtain rfl : len = 1 := by simpa [jlen] using hj
    simp only [actI, jStE] at h
    split at h
    · split at h
      · rename_i hx
        split at h
        · cases h; exact s_iast C hd hx.1 hx.2 k
        · exfalso; omega
        · exfalso; omega
        · cases h
      · cases h
    · cases h
  | lastore =>
    obtain rfl : len = 1 := by simpa [jlen] using hj
    simp only [actI, jStE] at h
    split at h
    · split at h
      · rename_i hx
        split at h
        · exfalso; omega
        · exfalso; omega
        · cases h; exact s_last C hd hx.1 hx.2 k
        · cases h
      · cases h
    · cases h
  | bastore =>
    obtain rfl : len = 1 := by simpa [jlen] using hj
    simp only [actI, jStE] at h
    split at h
    · split at h
      · rename_i hx
        split at h
        · exfalso; omega
        · split at h
          · rename_i hz; cases h; exact s_zast C hd hx.1 hx.2 hz k
          · cases h
        · exfalso; omega
        · cases h
      · cases h
    · cases h
  | aastore =>
    obtain rfl : len = 1 := by simpa [jlen] using hj
    simp only [actI, jStA] at h
    split at h
    · split at h
      · rename_i hx
        cases h
        rcases hx.1 with hy | hy
        · exact s_aast C hd hy.1 (Or.inl ⟨rfl, rfl⟩) hy.2 k
        · exact s_aast C hd hy.1 (Or.inr ⟨rfl, rfl⟩) hy.2 k
      · cases h
    · cases h
  | invokevirtual i =>
    simp only [actI] at h
    exact absurd h (jCall_no _ _ _ _ _ _ _)
  | invokestatic i =>
    simp only [actI, jStac] at h
    split at h
    · unfold jPers at h
      split at h
      · split at h <;> cases h
      · cases h
    · split at h
      · rename_i hx
        obtain rfl : len = 3 := by simpa [jlen] using hj
        simp only [jMath] at h
        split at h
        · split at h
          · rename_i hw; cases h; exact s_math0 C hd hx hw hroom k
          · cases h
        · split at h
          · rename_i hw; cases h; exact s_math1 C hd hx hw hroom k
          · cases h
        · split at h
          · rename_i hw; cases h; exact s_math2 C hd hx hw hroom k
          · cases h
        · split at h
          · rename_i hw; cases h; exact s_math3 C hd hx hw hroom k
          · cases h
        · cases h
      · exact absurd h (jCall_no _ _ _ _ _ _ _)
  | invokespecial i =>
    obtain rfl : len = 3 := by simpa [jlen] using hj
    simp only [actI, jSpec] at h
    split at h
    · rename_i hO
      split at h
      · split at h
        · rename_i hr
          cases h
          intro H lsA locs hR hM hL hS hl hlo
          have hS2 := (gS_cons.mp hS).2
          have kk := k H lsA locs hR hM hL hS2 hl hlo
          rename_i r q
          show W p l e R s mm args below meth c H locs _ _ Q (F0 mm pc lsA (jref G r :: q.map (jval G)))
          rw [jref_ne hr.1]
          exact W.objInit C.1 C.2.1 C.2.2.2.1 (C.2.2.2.2.1 _ (jOc hO)) (C.2.2.2.2.1 _ jwObj.1) (C.2.2.2.2.1 _ jwObj.2) rfl hl.2.1 rfl hd (by have := C.2.2.2.2.2.2.2.2.2.1; omega) (by
            have h1 := C.2.2.2.2.2.2.2.2.2.2
            have h2 : ((q.map (jval G)).map fun v => v.category).sum = jcat q := jcat_eq q
            show 2 * (F0 mm pc lsA _).monitorRoom + ((q.map (jval G)).map fun v => v.category).sum + 12 ≤ R.locals
            rw [h2]
            show 0 + _ + 12 ≤ _
            omega) kk
        · cases h
      · cases h
    · exact absurd h (jCall_no _ _ _ _ _ _ _)
  | ireturn =>
    simp only [actI, jRetI] at h
    split at h
    · cases h
    · split at h <;> cases h
    · cases h
  | lreturn =>
    simp only [actI, jRetL] at h
    split at h <;> cases h
  | areturn =>
    simp only [actI, jRetA] at h
    split at h <;> cases h
  | return_ =>
    simp only [actI, jRetV] at h
    split at h <;> cases h
  | _ => exact absurd h (by simp [actI])
