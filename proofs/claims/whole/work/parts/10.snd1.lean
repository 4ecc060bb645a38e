/-! each instruction over the machine: those that touch no cell -/
section Snd1
variable {p : Program} {l : Launch} {e : Env} {R : Room} {s : State} {mm : MethodId} {args : Array Value} {below : List Frame} {meth : Method} {c : Code} {Q : State → Prop} {G : jG} {mb sb : Nat} {m : jMe} {d : Nat} {M : jM} {pc : Nat} {ls : jLs} {st : List jV}
theorem s_iconst {z : Int} (C : jCtx p R s mm args meth c G m d) (hd : decode m.2.2.1 pc = .ok (.iconst z, 1)) (hz : -32768 ≤ z ∧ z ≤ 32767) (k : JW p l e R s mm args below meth c Q G mb sb M (pc + 1) ls (vI z :: st)) : JW p l e R s mm args below meth c Q G mb sb M pc ls st := by
  intro H lsA locs hR hM hL hS hl hlo
  exact lv_iconst C.1 C.2.1 hd rfl (k H lsA locs hR hM hL (gS_cons.mpr ⟨by constructor <;> omega, hS⟩) hl hlo)
theorem s_bipush {z : Int} (C : jCtx p R s mm args meth c G m d) (hd : decode m.2.2.1 pc = .ok (.bipush z, 2)) (hz : -128 ≤ z ∧ z ≤ 127) (k : JW p l e R s mm args below meth c Q G mb sb M (pc + 2) ls (vI z :: st)) : JW p l e R s mm args below meth c Q G mb sb M pc ls st := by
  intro H lsA locs hR hM hL hS hl hlo
  have hi : i32 z := by constructor <;> omega
  refine lv_bipush C.1 C.2.1 hd (v := Int32.ofInt z) ?_ (k H lsA locs hR hM hL (gS_cons.mpr ⟨hi, hS⟩) hl hlo)
  apply Int32.toInt_inj.mp
  rw [n_to hi, Int8.toInt_toInt32, Int8.toInt_ofInt_of_le (by omega) (by omega)]
theorem s_sipush {z : Int} (C : jCtx p R s mm args meth c G m d) (hd : decode m.2.2.1 pc = .ok (.sipush z, 3)) (hz : -32768 ≤ z ∧ z ≤ 32767) (k : JW p l e R s mm args below meth c Q G mb sb M (pc + 3) ls (vI z :: st)) : JW p l e R s mm args below meth c Q G mb sb M pc ls st := by
  intro H lsA locs hR hM hL hS hl hlo
  have hi : i32 z := by constructor <;> omega
  refine lv_sipush C.1 C.2.1 hd (v := Int32.ofInt z) ?_ (k H lsA locs hR hM hL (gS_cons.mpr ⟨hi, hS⟩) hl hlo)
  apply Int32.toInt_inj.mp
  rw [n_to hi, Int16.toInt_toInt32, Int16.toInt_ofInt_of_le (by omega) (by omega)]
theorem s_lconst {j : Fin 2} (C : jCtx p R s mm args meth c G m d) (hd : decode m.2.2.1 pc = .ok (.lconst j, 1)) (k : JW p l e R s mm args below meth c Q G mb sb M (pc + 1) ls (vL (j.val : Nat) :: st)) : JW p l e R s mm args below meth c Q G mb sb M pc ls st := by
  intro H lsA locs hR hM hL hS hl hlo
  exact lv_lconst C.1 C.2.1 hd rfl (k H lsA locs hR hM hL (gS_cons.mpr ⟨by have := j.isLt; constructor <;> omega, hS⟩) hl hlo)
theorem s_null (C : jCtx p R s mm args meth c G m d) (hd : decode m.2.2.1 pc = .ok (.aconst_null, 1)) (k : JW p l e R s mm args below meth c Q G mb sb M (pc + 1) ls (vR 0 :: st)) : JW p l e R s mm args below meth c Q G mb sb M pc ls st := by
  intro H lsA locs hR hM hL hS hl hlo
  exact lv_null C.1 C.2.1 hd (k H lsA locs hR hM hL (gS_cons.mpr ⟨trivial, hS⟩) hl hlo)
theorem s_iload {i : Nat} {z : Int} (C : jCtx p R s mm args meth c G m d) (hd : decode m.2.2.1 pc = .ok (.iload i, 2)) (hg : jget ls i = some (vI z)) (k : JW p l e R s mm args below meth c Q G mb sb M (pc + 2) ls (vI z :: st)) : JW p l e R s mm args below meth c Q G mb sb M pc ls st := by
  intro H lsA locs hR hM hL hS hl hlo
  have hx := jget_some hg
  exact lv_iload C.1 C.2.1 hd (hl.2.2.2 _ _ hx) (k H lsA locs hR hM hL (gS_cons.mpr ⟨hL _ _ hx, hS⟩) hl hlo)
theorem s_iload_n {i : Fin 4} {z : Int} (C : jCtx p R s mm args meth c G m d) (hd : decode m.2.2.1 pc = .ok (.iload_n i, 1)) (hg : jget ls i.val = some (vI z)) (k : JW p l e R s mm args below meth c Q G mb sb M (pc + 1) ls (vI z :: st)) : JW p l e R s mm args below meth c Q G mb sb M pc ls st := by
  intro H lsA locs hR hM hL hS hl hlo
  have hx := jget_some hg
  exact lv_iload_n C.1 C.2.1 hd rfl (hl.2.2.2 _ _ hx) (k H lsA locs hR hM hL (gS_cons.mpr ⟨hL _ _ hx, hS⟩) hl hlo)
theorem s_lload {i : Nat} {z : Int} (C : jCtx p R s mm args meth c G m d) (hd : decode m.2.2.1 pc = .ok (.lload i, 2)) (hg : jget ls i = some (vL z)) (k : JW p l e R s mm args below meth c Q G mb sb M (pc + 2) ls (vL z :: st)) : JW p l e R s mm args below meth c Q G mb sb M pc ls st := by
  intro H lsA locs hR hM hL hS hl hlo
  have hx := jget_some hg
  exact lv_lload C.1 C.2.1 hd (hl.2.2.2 _ _ hx) (k H lsA locs hR hM hL (gS_cons.mpr ⟨hL _ _ hx, hS⟩) hl hlo)
theorem s_lload_n {i : Fin 4} {z : Int} (C : jCtx p R s mm args meth c G m d) (hd : decode m.2.2.1 pc = .ok (.lload_n i, 1)) (hg : jget ls i.val = some (vL z)) (k : JW p l e R s mm args below meth c Q G mb sb M (pc + 1) ls (vL z :: st)) : JW p l e R s mm args below meth c Q G mb sb M pc ls st := by
  intro H lsA locs hR hM hL hS hl hlo
  have hx := jget_some hg
  exact lv_lload_n C.1 C.2.1 hd rfl (hl.2.2.2 _ _ hx) (k H lsA locs hR hM hL (gS_cons.mpr ⟨hL _ _ hx, hS⟩) hl hlo)
theorem s_aload {i : Nat} {r : Nat} (C : jCtx p R s mm args meth c G m d) (hd : decode m.2.2.1 pc = .ok (.aload i, 2)) (hg : jget ls i = some (vR r)) (k : JW p l e R s mm args below meth c Q G mb sb M (pc + 2) ls (vR r :: st)) : JW p l e R s mm args below meth c Q G mb sb M pc ls st := by
  intro H lsA locs hR hM hL hS hl hlo
  have hx := jget_some hg
  have hy := hl.2.2.2 _ _ hx
  have kk := k H lsA locs hR hM hL (gS_cons.mpr ⟨trivial, hS⟩) hl hlo
  cases r with
  | zero => exact lv_aloadN C.1 C.2.1 hd hy kk
  | succ r => exact lv_aload C.1 C.2.1 hd hy kk
theorem s_aload_n {i : Fin 4} {r : Nat} (C : jCtx p R s mm args meth c G m d) (hd : decode m.2.2.1 pc = .ok (.aload_n i, 1)) (hg : jget ls i.val = some (vR r)) (k : JW p l e R s mm args below meth c Q G mb sb M (pc + 1) ls (vR r :: st)) : JW p l e R s mm args below meth c Q G mb sb M pc ls st := by
  intro H lsA locs hR hM hL hS hl hlo
  have hx := jget_some hg
  have hy := hl.2.2.2 _ _ hx
  have kk := k H lsA locs hR hM hL (gS_cons.mpr ⟨trivial, hS⟩) hl hlo
  cases r with
  | zero => exact lv_aload_nN C.1 C.2.1 hd rfl hy kk
  | succ r => exact lv_aload_n C.1 C.2.1 hd rfl hy kk
theorem s_istore {i : Nat} {z : Int} (C : jCtx p R s mm args meth c G m d) (hd : decode m.2.2.1 pc = .ok (.istore i, 2)) (hn : i < ls.length) (k : JW p l e R s mm args below meth c Q G mb sb M (pc + 2) (jput1 ls i (vI z)) st) : JW p l e R s mm args below meth c Q G mb sb M pc ls (vI z :: st) := by
  intro H lsA locs hR hM hL hS hl hlo
  obtain ⟨hz, hS⟩ := gS_cons.mp hS
  exact lv_istore C.1 C.2.1 hd hl.has (by rw [← hl.1]; exact hn) rfl (fun ls2 h2 => k H ls2 locs hR hM (hL.put1 hz) hS (jl.put1 (v := vI z) hl.1 h2) hlo)
theorem s_istore_n {i : Fin 4} {z : Int} (C : jCtx p R s mm args meth c G m d) (hd : decode m.2.2.1 pc = .ok (.istore_n i, 1)) (hn : i.val < ls.length) (k : JW p l e R s mm args below meth c Q G mb sb M (pc + 1) (jput1 ls i.val (vI z)) st) : JW p l e R s mm args below meth c Q G mb sb M pc ls (vI z :: st) := by
  intro H lsA locs hR hM hL hS hl hlo
  obtain ⟨hz, hS⟩ := gS_cons.mp hS
  exact lv_istore_n C.1 C.2.1 hd rfl hl.has (by rw [← hl.1]; exact hn) rfl (fun ls2 h2 => k H ls2 locs hR hM (hL.put1 hz) hS (jl.put1 (v := vI z) hl.1 h2) hlo)
theorem s_lstore {i : Nat} {z : Int} (C : jCtx p R s mm args meth c G m d) (hd : decode m.2.2.1 pc = .ok (.lstore i, 2)) (hn : i + 1 < ls.length) (k : JW p l e R s mm args below meth c Q G mb sb M (pc + 2) (jput2 ls i (vL z)) st) : JW p l e R s mm args below meth c Q G mb sb M pc ls (vL z :: st) := by
  intro H lsA locs hR hM hL hS hl hlo
  obtain ⟨hz, hS⟩ := gS_cons.mp hS
  exact lv_lstore C.1 C.2.1 hd hl.has (by rw [← hl.1]; exact hn) rfl (fun ls2 h2 => k H ls2 locs hR hM (hL.put2 hz) hS (jl.put2 (v := vL z) hl.1 h2) hlo)
theorem s_lstore_n {i : Fin 4} {z : Int} (C : jCtx p R s mm args meth c G m d) (hd : decode m.2.2.1 pc = .ok (.lstore_n i, 1)) (hn : i.val + 1 < ls.length) (k : JW p l e R s mm args below meth c Q G mb sb M (pc + 1) (jput2 ls i.val (vL z)) st) : JW p l e R s mm args below meth c Q G mb sb M pc ls (vL z :: st) := by
  intro H lsA locs hR hM hL hS hl hlo
  obtain ⟨hz, hS⟩ := gS_cons.mp hS
  exact lv_lstore_n C.1 C.2.1 hd rfl hl.has (by rw [← hl.1]; exact hn) rfl (fun ls2 h2 => k H ls2 locs hR hM (hL.put2 hz) hS (jl.put2 (v := vL z) hl.1 h2) hlo)
theorem s_astore {i : Nat} {r : Nat} (C : jCtx p R s mm args meth c G m d) (hd : decode m.2.2.1 pc = .ok (.astore i, 2)) (hn : i < ls.length) (k : JW p l e R s mm args below meth c Q G mb sb M (pc + 2) (jput1 ls i (vR r)) st) : JW p l e R s mm args below meth c Q G mb sb M pc ls (vR r :: st) := by
  intro H lsA locs hR hM hL hS hl hlo
  have hz := (gS_cons.mp hS).1
  have hS2 := (gS_cons.mp hS).2
  cases r with
  | zero => exact lv_astoreN C.1 C.2.1 hd hl.has (by rw [← hl.1]; exact hn) rfl (fun ls2 h2 => k H ls2 locs hR hM (hL.put1 trivial) hS2 (jl.put1 (v := vR 0) hl.1 h2) hlo)
  | succ r => exact lv_astore C.1 C.2.1 hd hl.has (by rw [← hl.1]; exact hn) rfl (fun ls2 h2 => k H ls2 locs hR hM (hL.put1 trivial) hS2 (jl.put1 (v := vR (r + 1)) hl.1 h2) hlo)
theorem s_astore_n {i : Fin 4} {r : Nat} (C : jCtx p R s mm args meth c G m d) (hd : decode m.2.2.1 pc = .ok (.astore_n i, 1)) (hn : i.val < ls.length) (k : JW p l e R s mm args below meth c Q G mb sb M (pc + 1) (jput1 ls i.val (vR r)) st) : JW p l e R s mm args below meth c Q G mb sb M pc ls (vR r :: st) := by
  intro H lsA locs hR hM hL hS hl hlo
  have hz := (gS_cons.mp hS).1
  have hS2 := (gS_cons.mp hS).2
  cases r with
  | zero => exact lv_astore_nN C.1 C.2.1 hd rfl hl.has (by rw [← hl.1]; exact hn) rfl (fun ls2 h2 => k H ls2 locs hR hM (hL.put1 trivial) hS2 (jl.put1 (v := vR 0) hl.1 h2) hlo)
  | succ r => exact lv_astore_n C.1 C.2.1 hd rfl hl.has (by rw [← hl.1]; exact hn) rfl (fun ls2 h2 => k H ls2 locs hR hM (hL.put1 trivial) hS2 (jl.put1 (v := vR (r + 1)) hl.1 h2) hlo)
theorem s_iinc {i : Nat} {x z : Int} (C : jCtx p R s mm args meth c G m d) (hd : decode m.2.2.1 pc = .ok (.iinc i z, 3)) (hg : jget ls i = some (vI x)) (k : JW p l e R s mm args below meth c Q G mb sb M (pc + 3) (jput1 ls i (vI (w32 (x + z)))) st) : JW p l e R s mm args below meth c Q G mb sb M pc ls st := by
  intro H lsA locs hR hM hL hS hl hlo
  have hx := jget_some hg
  obtain ⟨j, hj⟩ := List.getElem?_of_mem (jlist_mem (G := G) hx)
  refine lv_iinc C.1 C.2.1 hd hl.has hj (v := Int32.ofInt (w32 (x + z))) (n_add x z) (by rw [← hl.1]; exact (List.getElem?_eq_some_iff.mp hx).1) rfl (fun ls2 h2 => k H ls2 locs hR hM (hL.put1 (w32_in _)) hS (jl.put1 (v := vI (w32 (x + z))) hl.1 h2) hlo)
theorem s_iadd {a b : Int} (C : jCtx p R s mm args meth c G m d) (hd : decode m.2.2.1 pc = .ok (.iadd, 1)) (k : JW p l e R s mm args below meth c Q G mb sb M (pc + 1) ls (vI (w32 (a + b)) :: st)) : JW p l e R s mm args below meth c Q G mb sb M pc ls (vI b :: vI a :: st) := by
  intro H lsA locs hR hM hL hS hl hlo
  have hS := (gS_cons.mp (gS_cons.mp hS).2).2
  refine lv_iadd C.1 C.2.1 hd ?_
  rw [n_add a b]
  exact k H lsA locs hR hM hL (gS_cons.mpr ⟨w32_in _, hS⟩) hl hlo
theorem s_isub {a b : Int} (C : jCtx p R s mm args meth c G m d) (hd : decode m.2.2.1 pc = .ok (.isub, 1)) (k : JW p l e R s mm args below meth c Q G mb sb M (pc + 1) ls (vI (w32 (a - b)) :: st)) : JW p l e R s mm args below meth c Q G mb sb M pc ls (vI b :: vI a :: st) := by
  intro H lsA locs hR hM hL hS hl hlo
  have hS := (gS_cons.mp (gS_cons.mp hS).2).2
  refine lv_isub C.1 C.2.1 hd ?_
  rw [n_sub a b]
  exact k H lsA locs hR hM hL (gS_cons.mpr ⟨w32_in _, hS⟩) hl hlo
theorem s_imul {a b : Int} (C : jCtx p R s mm args meth c G m d) (hd : decode m.2.2.1 pc = .ok (.imul, 1)) (k : JW p l e R s mm args below meth c Q G mb sb M (pc + 1) ls (vI (w32 (a * b)) :: st)) : JW p l e R s mm args below meth c Q G mb sb M pc ls (vI b :: vI a :: st) := by
  intro H lsA locs hR hM hL hS hl hlo
  have hS := (gS_cons.mp (gS_cons.mp hS).2).2
  refine lv_imul C.1 C.2.1 hd ?_
  rw [n_mul a b]
  exact k H lsA locs hR hM hL (gS_cons.mpr ⟨w32_in _, hS⟩) hl hlo
theorem s_ladd {a b : Int} (C : jCtx p R s mm args meth c G m d) (hd : decode m.2.2.1 pc = .ok (.ladd, 1)) (k : JW p l e R s mm args below meth c Q G mb sb M (pc + 1) ls (vL (w64 (a + b)) :: st)) : JW p l e R s mm args below meth c Q G mb sb M pc ls (vL b :: vL a :: st) := by
  intro H lsA locs hR hM hL hS hl hlo
  have hS := (gS_cons.mp (gS_cons.mp hS).2).2
  refine lv_ladd C.1 C.2.1 hd ?_
  rw [n_addL a b]
  exact k H lsA locs hR hM hL (gS_cons.mpr ⟨w64_in _, hS⟩) hl hlo
theorem s_lsub {a b : Int} (C : jCtx p R s mm args meth c G m d) (hd : decode m.2.2.1 pc = .ok (.lsub, 1)) (k : JW p l e R s mm args below meth c Q G mb sb M (pc + 1) ls (vL (w64 (a - b)) :: st)) : JW p l e R s mm args below meth c Q G mb sb M pc ls (vL b :: vL a :: st) := by
  intro H lsA locs hR hM hL hS hl hlo
  have hS := (gS_cons.mp (gS_cons.mp hS).2).2
  refine lv_lsub C.1 C.2.1 hd ?_
  rw [n_subL a b]
  exact k H lsA locs hR hM hL (gS_cons.mpr ⟨w64_in _, hS⟩) hl hlo
theorem s_lmul {a b : Int} (C : jCtx p R s mm args meth c G m d) (hd : decode m.2.2.1 pc = .ok (.lmul, 1)) (k : JW p l e R s mm args below meth c Q G mb sb M (pc + 1) ls (vL (w64 (a * b)) :: st)) : JW p l e R s mm args below meth c Q G mb sb M pc ls (vL b :: vL a :: st) := by
  intro H lsA locs hR hM hL hS hl hlo
  have hS := (gS_cons.mp (gS_cons.mp hS).2).2
  refine lv_lmul C.1 C.2.1 hd ?_
  rw [n_mulL a b]
  exact k H lsA locs hR hM hL (gS_cons.mpr ⟨w64_in _, hS⟩) hl hlo
theorem s_iand {a b : Int} (C : jCtx p R s mm args meth c G m d) (hd : decode m.2.2.1 pc = .ok (.iand, 1)) (k : JW p l e R s mm args below meth c Q G mb sb M (pc + 1) ls (vI (jand a b) :: st)) : JW p l e R s mm args below meth c Q G mb sb M pc ls (vI b :: vI a :: st) := by
  intro H lsA locs hR hM hL hS hl hlo
  have hS := (gS_cons.mp (gS_cons.mp hS).2).2
  have kk := k H lsA locs hR hM hL (gS_cons.mpr ⟨t32_in _, hS⟩) hl hlo
  refine lv_iand C.1 C.2.1 hd ?_
  simpa only [List.map_cons, jval, jand, Int32.ofInt_toInt] using kk
theorem s_ior {a b : Int} (C : jCtx p R s mm args meth c G m d) (hd : decode m.2.2.1 pc = .ok (.ior, 1)) (k : JW p l e R s mm args below meth c Q G mb sb M (pc + 1) ls (vI (jor a b) :: st)) : JW p l e R s mm args below meth c Q G mb sb M pc ls (vI b :: vI a :: st) := by
  intro H lsA locs hR hM hL hS hl hlo
  have hS := (gS_cons.mp (gS_cons.mp hS).2).2
  have kk := k H lsA locs hR hM hL (gS_cons.mpr ⟨t32_in _, hS⟩) hl hlo
  refine lv_ior C.1 C.2.1 hd ?_
  simpa only [List.map_cons, jval, jor, Int32.ofInt_toInt] using kk
theorem s_ixor {a b : Int} (C : jCtx p R s mm args meth c G m d) (hd : decode m.2.2.1 pc = .ok (.ixor, 1)) (k : JW p l e R s mm args below meth c Q G mb sb M (pc + 1) ls (vI (jxor a b) :: st)) : JW p l e R s mm args below meth c Q G mb sb M pc ls (vI b :: vI a :: st) := by
  intro H lsA locs hR hM hL hS hl hlo
  have hS := (gS_cons.mp (gS_cons.mp hS).2).2
  have kk := k H lsA locs hR hM hL (gS_cons.mpr ⟨t32_in _, hS⟩) hl hlo
  refine lv_ixor C.1 C.2.1 hd ?_
  simpa only [List.map_cons, jval, jxor, Int32.ofInt_toInt] using kk
theorem s_ishl {a b : Int} (C : jCtx p R s mm args meth c G m d) (hd : decode m.2.2.1 pc = .ok (.ishl, 1)) (k : JW p l e R s mm args below meth c Q G mb sb M (pc + 1) ls (vI (jshl a b) :: st)) : JW p l e R s mm args below meth c Q G mb sb M pc ls (vI b :: vI a :: st) := by
  intro H lsA locs hR hM hL hS hl hlo
  have hS := (gS_cons.mp (gS_cons.mp hS).2).2
  have kk := k H lsA locs hR hM hL (gS_cons.mpr ⟨t32_in _, hS⟩) hl hlo
  refine lv_ishl C.1 C.2.1 hd ?_
  simpa only [List.map_cons, jval, jshl, Int32.ofInt_toInt] using kk
theorem s_ishr {a b : Int} (C : jCtx p R s mm args meth c G m d) (hd : decode m.2.2.1 pc = .ok (.ishr, 1)) (k : JW p l e R s mm args below meth c Q G mb sb M (pc + 1) ls (vI (jshr a b) :: st)) : JW p l e R s mm args below meth c Q G mb sb M pc ls (vI b :: vI a :: st) := by
  intro H lsA locs hR hM hL hS hl hlo
  have hS := (gS_cons.mp (gS_cons.mp hS).2).2
  have kk := k H lsA locs hR hM hL (gS_cons.mpr ⟨t32_in _, hS⟩) hl hlo
  refine lv_ishr C.1 C.2.1 hd ?_
  simpa only [List.map_cons, jval, jshr, Int32.ofInt_toInt] using kk
theorem s_iushr {a b : Int} (C : jCtx p R s mm args meth c G m d) (hd : decode m.2.2.1 pc = .ok (.iushr, 1)) (k : JW p l e R s mm args below meth c Q G mb sb M (pc + 1) ls (vI (jushr a b) :: st)) : JW p l e R s mm args below meth c Q G mb sb M pc ls (vI b :: vI a :: st) := by
  intro H lsA locs hR hM hL hS hl hlo
  have hS := (gS_cons.mp (gS_cons.mp hS).2).2
  have kk := k H lsA locs hR hM hL (gS_cons.mpr ⟨t32_in _, hS⟩) hl hlo
  refine lv_iushr C.1 C.2.1 hd rfl ?_
  simpa only [List.map_cons, jval, jushr, Int32.ofInt_toInt] using kk
theorem s_land {a b : Int} (C : jCtx p R s mm args meth c G m d) (hd : decode m.2.2.1 pc = .ok (.land, 1)) (k : JW p l e R s mm args below meth c Q G mb sb M (pc + 1) ls (vL (jandL a b) :: st)) : JW p l e R s mm args below meth c Q G mb sb M pc ls (vL b :: vL a :: st) := by
  intro H lsA locs hR hM hL hS hl hlo
  have hS := (gS_cons.mp (gS_cons.mp hS).2).2
  have kk := k H lsA locs hR hM hL (gS_cons.mpr ⟨t64_in _, hS⟩) hl hlo
  refine lv_land C.1 C.2.1 hd ?_
  simpa only [List.map_cons, jval, jandL, Int64.ofInt_toInt] using kk
theorem s_lor {a b : Int} (C : jCtx p R s mm args meth c G m d) (hd : decode m.2.2.1 pc = .ok (.lor, 1)) (k : JW p l e R s mm args below meth c Q G mb sb M (pc + 1) ls (vL (jorL a b) :: st)) : JW p l e R s mm args below meth c Q G mb sb M pc ls (vL b :: vL a :: st) := by
  intro H lsA locs hR hM hL hS hl hlo
  have hS := (gS_cons.mp (gS_cons.mp hS).2).2
  have kk := k H lsA locs hR hM hL (gS_cons.mpr ⟨t64_in _, hS⟩) hl hlo
  refine lv_lor C.1 C.2.1 hd ?_
  simpa only [List.map_cons, jval, jorL, Int64.ofInt_toInt] using kk
theorem s_lshl {a b : Int} (C : jCtx p R s mm args meth c G m d) (hd : decode m.2.2.1 pc = .ok (.lshl, 1)) (k : JW p l e R s mm args below meth c Q G mb sb M (pc + 1) ls (vL (jshlL a b) :: st)) : JW p l e R s mm args below meth c Q G mb sb M pc ls (vI b :: vL a :: st) := by
  intro H lsA locs hR hM hL hS hl hlo
  have hS := (gS_cons.mp (gS_cons.mp hS).2).2
  have kk := k H lsA locs hR hM hL (gS_cons.mpr ⟨t64_in _, hS⟩) hl hlo
  refine lv_lshl C.1 C.2.1 hd rfl ?_
  simpa only [List.map_cons, jval, jshlL, Int64.ofInt_toInt] using kk
theorem s_lshr {a b : Int} (C : jCtx p R s mm args meth c G m d) (hd : decode m.2.2.1 pc = .ok (.lshr, 1)) (k : JW p l e R s mm args below meth c Q G mb sb M (pc + 1) ls (vL (jshrL a b) :: st)) : JW p l e R s mm args below meth c Q G mb sb M pc ls (vI b :: vL a :: st) := by
  intro H lsA locs hR hM hL hS hl hlo
  have hS := (gS_cons.mp (gS_cons.mp hS).2).2
  have kk := k H lsA locs hR hM hL (gS_cons.mpr ⟨t64_in _, hS⟩) hl hlo
  refine lv_lshr C.1 C.2.1 hd rfl ?_
  simpa only [List.map_cons, jval, jshrL, Int64.ofInt_toInt] using kk
theorem s_lushr {a b : Int} (C : jCtx p R s mm args meth c G m d) (hd : decode m.2.2.1 pc = .ok (.lushr, 1)) (k : JW p l e R s mm args below meth c Q G mb sb M (pc + 1) ls (vL (jushrL a b) :: st)) : JW p l e R s mm args below meth c Q G mb sb M pc ls (vI b :: vL a :: st) := by
  intro H lsA locs hR hM hL hS hl hlo
  have hS := (gS_cons.mp (gS_cons.mp hS).2).2
  have kk := k H lsA locs hR hM hL (gS_cons.mpr ⟨t64_in _, hS⟩) hl hlo
  refine lv_lushr C.1 C.2.1 hd rfl ?_
  simpa only [List.map_cons, jval, jushrL, Int64.ofInt_toInt] using kk
theorem s_idiv {a b : Int} (C : jCtx p R s mm args meth c G m d) (hd : decode m.2.2.1 pc = .ok (.idiv, 1)) (hb : b ≠ 0) (k : JW p l e R s mm args below meth c Q G mb sb M (pc + 1) ls (vI (jdiv a b) :: st)) : JW p l e R s mm args below meth c Q G mb sb M pc ls (vI b :: vI a :: st) := by
  intro H lsA locs hR hM hL hS hl hlo
  obtain ⟨hb1, hS1⟩ := gS_cons.mp hS
  have hS := (gS_cons.mp hS1).2
  have kk := k H lsA locs hR hM hL (gS_cons.mpr ⟨t32_in _, hS⟩) hl hlo
  refine lv_idiv C.1 C.2.1 hd (fun h => hb ((n_eq hb1 z_in).mp h)) ?_
  simpa only [List.map_cons, jval, jdiv, Int32.ofInt_toInt] using kk
theorem s_irem {a b : Int} (C : jCtx p R s mm args meth c G m d) (hd : decode m.2.2.1 pc = .ok (.irem, 1)) (hb : b ≠ 0) (k : JW p l e R s mm args below meth c Q G mb sb M (pc + 1) ls (vI (jrem a b) :: st)) : JW p l e R s mm args below meth c Q G mb sb M pc ls (vI b :: vI a :: st) := by
  intro H lsA locs hR hM hL hS hl hlo
  obtain ⟨hb1, hS1⟩ := gS_cons.mp hS
  have hS := (gS_cons.mp hS1).2
  have kk := k H lsA locs hR hM hL (gS_cons.mpr ⟨t32_in _, hS⟩) hl hlo
  refine lv_irem C.1 C.2.1 hd (fun h => hb ((n_eq hb1 z_in).mp h)) ?_
  simpa only [List.map_cons, jval, jrem, Int32.ofInt_toInt] using kk
theorem s_ldiv {a b : Int} (C : jCtx p R s mm args meth c G m d) (hd : decode m.2.2.1 pc = .ok (.ldiv, 1)) (hb : b ≠ 0) (k : JW p l e R s mm args below meth c Q G mb sb M (pc + 1) ls (vL (jdivL a b) :: st)) : JW p l e R s mm args below meth c Q G mb sb M pc ls (vL b :: vL a :: st) := by
  intro H lsA locs hR hM hL hS hl hlo
  obtain ⟨hb1, hS1⟩ := gS_cons.mp hS
  have hS := (gS_cons.mp hS1).2
  have kk := k H lsA locs hR hM hL (gS_cons.mpr ⟨t64_in _, hS⟩) hl hlo
  refine lv_ldiv C.1 C.2.1 hd (fun h => hb ((n_eqL hb1 (i32_64 z_in)).mp h)) ?_
  simpa only [List.map_cons, jval, jdivL, Int64.ofInt_toInt] using kk
theorem s_lrem {a b : Int} (C : jCtx p R s mm args meth c G m d) (hd : decode m.2.2.1 pc = .ok (.lrem, 1)) (hb : b ≠ 0) (k : JW p l e R s mm args below meth c Q G mb sb M (pc + 1) ls (vL (jremL a b) :: st)) : JW p l e R s mm args below meth c Q G mb sb M pc ls (vL b :: vL a :: st) := by
  intro H lsA locs hR hM hL hS hl hlo
  obtain ⟨hb1, hS1⟩ := gS_cons.mp hS
  have hS := (gS_cons.mp hS1).2
  have kk := k H lsA locs hR hM hL (gS_cons.mpr ⟨t64_in _, hS⟩) hl hlo
  refine lv_lrem C.1 C.2.1 hd (fun h => hb ((n_eqL hb1 (i32_64 z_in)).mp h)) ?_
  simpa only [List.map_cons, jval, jremL, Int64.ofInt_toInt] using kk
theorem s_lneg {a : Int} (C : jCtx p R s mm args meth c G m d) (hd : decode m.2.2.1 pc = .ok (.lneg, 1)) (k : JW p l e R s mm args below meth c Q G mb sb M (pc + 1) ls (vL (w64 (-a)) :: st)) : JW p l e R s mm args below meth c Q G mb sb M pc ls (vL a :: st) := by
  intro H lsA locs hR hM hL hS hl hlo
  have hS := (gS_cons.mp hS).2
  refine lv_lneg C.1 C.2.1 hd ?_
  rw [n_negL]
  exact k H lsA locs hR hM hL (gS_cons.mpr ⟨w64_in _, hS⟩) hl hlo
theorem s_i2l {a : Int} (C : jCtx p R s mm args meth c G m d) (hd : decode m.2.2.1 pc = .ok (.i2l, 1)) (k : JW p l e R s mm args below meth c Q G mb sb M (pc + 1) ls (vL a :: st)) : JW p l e R s mm args below meth c Q G mb sb M pc ls (vI a :: st) := by
  intro H lsA locs hR hM hL hS hl hlo
  obtain ⟨ha, hS⟩ := gS_cons.mp hS
  exact lv_i2l C.1 C.2.1 hd (n_i2l ha) (k H lsA locs hR hM hL (gS_cons.mpr ⟨i32_64 ha, hS⟩) hl hlo)
theorem s_l2i {a : Int} (C : jCtx p R s mm args meth c G m d) (hd : decode m.2.2.1 pc = .ok (.l2i, 1)) (k : JW p l e R s mm args below meth c Q G mb sb M (pc + 1) ls (vI (w32 a) :: st)) : JW p l e R s mm args below meth c Q G mb sb M pc ls (vL a :: st) := by
  intro H lsA locs hR hM hL hS hl hlo
  obtain ⟨ha, hS⟩ := gS_cons.mp hS
  exact lv_l2i C.1 C.2.1 hd (n_l2i a) (k H lsA locs hR hM hL (gS_cons.mpr ⟨w32_in _, hS⟩) hl hlo)
theorem s_lcmp {a b : Int} (C : jCtx p R s mm args meth c G m d) (hd : decode m.2.2.1 pc = .ok (.lcmp, 1)) (k : JW p l e R s mm args below meth c Q G mb sb M (pc + 1) ls (vI (jcmp a b) :: st)) : JW p l e R s mm args below meth c Q G mb sb M pc ls (vL b :: vL a :: st) := by
  intro H lsA locs hR hM hL hS hl hlo
  obtain ⟨hb, hS⟩ := gS_cons.mp hS
  obtain ⟨ha, hS⟩ := gS_cons.mp hS
  refine W.lcmp C.1 C.2.1 hd ?_
  rw [n_cmp ha hb]
  exact k H lsA locs hR hM hL (gS_cons.mpr ⟨jcmp_in _ _, hS⟩) hl hlo
theorem jval_c1 {G : jG} {v : jV} (h : ∀ z, v ≠ vL z) : (jval G v).category = 1 := by
  rcases lv_cat (jval G v) with h1 | h1
  · exact h1
  · obtain ⟨z, hz⟩ := (jval_cat G v).mp h1
    exact absurd hz (h z)
theorem s_dup {v : jV} (C : jCtx p R s mm args meth c G m d) (hd : decode m.2.2.1 pc = .ok (.dup, 1)) (hv : ∀ z, v ≠ vL z) (k : JW p l e R s mm args below meth c Q G mb sb M (pc + 1) ls (v :: v :: st)) : JW p l e R s mm args below meth c Q G mb sb M pc ls (v :: st) := by
  intro H lsA locs hR hM hL hS hl hlo
  obtain ⟨ha, hS1⟩ := gS_cons.mp hS
  exact lv_dup C.1 C.2.1 hd (jval_c1 hv) (k H lsA locs hR hM hL (gS_cons.mpr ⟨ha, hS⟩) hl hlo)
theorem s_dup2 {v u : jV} (C : jCtx p R s mm args meth c G m d) (hd : decode m.2.2.1 pc = .ok (.dup2, 1)) (hv : ∀ z, v ≠ vL z) (hu : ∀ z, u ≠ vL z) (k : JW p l e R s mm args below meth c Q G mb sb M (pc + 1) ls (v :: u :: v :: u :: st)) : JW p l e R s mm args below meth c Q G mb sb M pc ls (v :: u :: st) := by
  intro H lsA locs hR hM hL hS hl hlo
  obtain ⟨ha, hS1⟩ := gS_cons.mp hS
  exact lv_dup2_11 C.1 C.2.1 hd (jval_c1 hv) (jval_c1 hu) (k H lsA locs hR hM hL (gS_cons.mpr ⟨ha, gS_cons.mpr ⟨(gS_cons.mp hS1).1, hS⟩⟩) hl hlo)
theorem s_dup2L {z : Int} (C : jCtx p R s mm args meth c G m d) (hd : decode m.2.2.1 pc = .ok (.dup2, 1)) (k : JW p l e R s mm args below meth c Q G mb sb M (pc + 1) ls (vL z :: vL z :: st)) : JW p l e R s mm args below meth c Q G mb sb M pc ls (vL z :: st) := by
  intro H lsA locs hR hM hL hS hl hlo
  obtain ⟨ha, hS1⟩ := gS_cons.mp hS
  exact lv_dup2_2 C.1 C.2.1 hd rfl (k H lsA locs hR hM hL (gS_cons.mpr ⟨ha, hS⟩) hl hlo)
theorem s_pop {v : jV} (C : jCtx p R s mm args meth c G m d) (hd : decode m.2.2.1 pc = .ok (.pop, 1)) (hv : ∀ z, v ≠ vL z) (k : JW p l e R s mm args below meth c Q G mb sb M (pc + 1) ls st) : JW p l e R s mm args below meth c Q G mb sb M pc ls (v :: st) := by
  intro H lsA locs hR hM hL hS hl hlo
  exact lv_pop C.1 C.2.1 hd (jval_c1 hv) (k H lsA locs hR hM hL (gS_cons.mp hS).2 hl hlo)
theorem s_goto {off : Int} {tgt : Nat} (C : jCtx p R s mm args meth c G m d) (hd : decode m.2.2.1 pc = .ok (.goto off, 3)) (ht : (pc : Int) + off = (tgt : Int)) (k : JW p l e R s mm args below meth c Q G mb sb M tgt ls st) : JW p l e R s mm args below meth c Q G mb sb M pc ls st := by
  intro H lsA locs hR hM hL hS hl hlo
  exact lv_goto C.1 C.2.1 hd ht (k H lsA locs hR hM hL hS hl hlo)
theorem s_if_eq {x : Int} {off : Int} {tgt : Nat} (C : jCtx p R s mm args meth c G m d) (hd : decode m.2.2.1 pc = .ok (.ifCond .eq off, 3)) (ht : (pc : Int) + off = (tgt : Int)) (kt : x = 0 → JW p l e R s mm args below meth c Q G mb sb M tgt ls st) (kf : ¬ (x = 0) → JW p l e R s mm args below meth c Q G mb sb M (pc + 3) ls st) : JW p l e R s mm args below meth c Q G mb sb M pc ls (vI x :: st) := by
  intro H lsA locs hR hM hL hS hl hlo
  obtain ⟨hx, hS⟩ := gS_cons.mp hS
  exact lv_if_eq C.1 C.2.1 hd ht (fun q => kt ((n_eq hx z_in).mp q) H lsA locs hR hM hL hS hl hlo) (fun q => kf (fun z => q ((n_eq hx z_in).mpr z)) H lsA locs hR hM hL hS hl hlo)
theorem s_icmp_eq {x y : Int} {off : Int} {tgt : Nat} (C : jCtx p R s mm args meth c G m d) (hd : decode m.2.2.1 pc = .ok (.if_icmp .eq off, 3)) (ht : (pc : Int) + off = (tgt : Int)) (kt : x = y → JW p l e R s mm args below meth c Q G mb sb M tgt ls st) (kf : ¬ (x = y) → JW p l e R s mm args below meth c Q G mb sb M (pc + 3) ls st) : JW p l e R s mm args below meth c Q G mb sb M pc ls (vI y :: vI x :: st) := by
  intro H lsA locs hR hM hL hS hl hlo
  obtain ⟨hy, hS⟩ := gS_cons.mp hS
  obtain ⟨hx, hS⟩ := gS_cons.mp hS
  exact lv_icmp_eq C.1 C.2.1 hd ht (fun q => kt ((n_eq hx hy).mp q) H lsA locs hR hM hL hS hl hlo) (fun q => kf (fun z => q ((n_eq hx hy).mpr z)) H lsA locs hR hM hL hS hl hlo)
theorem s_if_ne {x : Int} {off : Int} {tgt : Nat} (C : jCtx p R s mm args meth c G m d) (hd : decode m.2.2.1 pc = .ok (.ifCond .ne off, 3)) (ht : (pc : Int) + off = (tgt : Int)) (kt : x ≠ 0 → JW p l e R s mm args below meth c Q G mb sb M tgt ls st) (kf : ¬ (x ≠ 0) → JW p l e R s mm args below meth c Q G mb sb M (pc + 3) ls st) : JW p l e R s mm args below meth c Q G mb sb M pc ls (vI x :: st) := by
  intro H lsA locs hR hM hL hS hl hlo
  obtain ⟨hx, hS⟩ := gS_cons.mp hS
  exact lv_if_ne C.1 C.2.1 hd ht (fun q => kt (fun z => q ((n_eq hx z_in).mpr z)) H lsA locs hR hM hL hS hl hlo) (fun q => kf (fun z => z ((n_eq hx z_in).mp q)) H lsA locs hR hM hL hS hl hlo)
theorem s_icmp_ne {x y : Int} {off : Int} {tgt : Nat} (C : jCtx p R s mm args meth c G m d) (hd : decode m.2.2.1 pc = .ok (.if_icmp .ne off, 3)) (ht : (pc : Int) + off = (tgt : Int)) (kt : x ≠ y → JW p l e R s mm args below meth c Q G mb sb M tgt ls st) (kf : ¬ (x ≠ y) → JW p l e R s mm args below meth c Q G mb sb M (pc + 3) ls st) : JW p l e R s mm args below meth c Q G mb sb M pc ls (vI y :: vI x :: st) := by
  intro H lsA locs hR hM hL hS hl hlo
  obtain ⟨hy, hS⟩ := gS_cons.mp hS
  obtain ⟨hx, hS⟩ := gS_cons.mp hS
  exact lv_icmp_ne C.1 C.2.1 hd ht (fun q => kt (fun z => q ((n_eq hx hy).mpr z)) H lsA locs hR hM hL hS hl hlo) (fun q => kf (fun z => z ((n_eq hx hy).mp q)) H lsA locs hR hM hL hS hl hlo)
theorem s_if_lt {x : Int} {off : Int} {tgt : Nat} (C : jCtx p R s mm args meth c G m d) (hd : decode m.2.2.1 pc = .ok (.ifCond .lt off, 3)) (ht : (pc : Int) + off = (tgt : Int)) (kt : x < 0 → JW p l e R s mm args below meth c Q G mb sb M tgt ls st) (kf : ¬ (x < 0) → JW p l e R s mm args below meth c Q G mb sb M (pc + 3) ls st) : JW p l e R s mm args below meth c Q G mb sb M pc ls (vI x :: st) := by
  intro H lsA locs hR hM hL hS hl hlo
  obtain ⟨hx, hS⟩ := gS_cons.mp hS
  exact lv_if_lt C.1 C.2.1 hd ht (fun q => kt ((n_lt hx z_in).mp q) H lsA locs hR hM hL hS hl hlo) (fun q => kf (fun z => q ((n_lt hx z_in).mpr z)) H lsA locs hR hM hL hS hl hlo)
theorem s_icmp_lt {x y : Int} {off : Int} {tgt : Nat} (C : jCtx p R s mm args meth c G m d) (hd : decode m.2.2.1 pc = .ok (.if_icmp .lt off, 3)) (ht : (pc : Int) + off = (tgt : Int)) (kt : x < y → JW p l e R s mm args below meth c Q G mb sb M tgt ls st) (kf : ¬ (x < y) → JW p l e R s mm args below meth c Q G mb sb M (pc + 3) ls st) : JW p l e R s mm args below meth c Q G mb sb M pc ls (vI y :: vI x :: st) := by
  intro H lsA locs hR hM hL hS hl hlo
  obtain ⟨hy, hS⟩ := gS_cons.mp hS
  obtain ⟨hx, hS⟩ := gS_cons.mp hS
  exact lv_icmp_lt C.1 C.2.1 hd ht (fun q => kt ((n_lt hx hy).mp q) H lsA locs hR hM hL hS hl hlo) (fun q => kf (fun z => q ((n_lt hx hy).mpr z)) H lsA locs hR hM hL hS hl hlo)
theorem s_if_ge {x : Int} {off : Int} {tgt : Nat} (C : jCtx p R s mm args meth c G m d) (hd : decode m.2.2.1 pc = .ok (.ifCond .ge off, 3)) (ht : (pc : Int) + off = (tgt : Int)) (kt : 0 ≤ x → JW p l e R s mm args below meth c Q G mb sb M tgt ls st) (kf : ¬ (0 ≤ x) → JW p l e R s mm args below meth c Q G mb sb M (pc + 3) ls st) : JW p l e R s mm args below meth c Q G mb sb M pc ls (vI x :: st) := by
  intro H lsA locs hR hM hL hS hl hlo
  obtain ⟨hx, hS⟩ := gS_cons.mp hS
  exact lv_if_ge C.1 C.2.1 hd ht (fun q => kt ((n_le z_in hx).mp q) H lsA locs hR hM hL hS hl hlo) (fun q => kf (fun z => q ((n_le z_in hx).mpr z)) H lsA locs hR hM hL hS hl hlo)
theorem s_icmp_ge {x y : Int} {off : Int} {tgt : Nat} (C : jCtx p R s mm args meth c G m d) (hd : decode m.2.2.1 pc = .ok (.if_icmp .ge off, 3)) (ht : (pc : Int) + off = (tgt : Int)) (kt : y ≤ x → JW p l e R s mm args below meth c Q G mb sb M tgt ls st) (kf : ¬ (y ≤ x) → JW p l e R s mm args below meth c Q G mb sb M (pc + 3) ls st) : JW p l e R s mm args below meth c Q G mb sb M pc ls (vI y :: vI x :: st) := by
  intro H lsA locs hR hM hL hS hl hlo
  obtain ⟨hy, hS⟩ := gS_cons.mp hS
  obtain ⟨hx, hS⟩ := gS_cons.mp hS
  exact lv_icmp_ge C.1 C.2.1 hd ht (fun q => kt ((n_le hy hx).mp q) H lsA locs hR hM hL hS hl hlo) (fun q => kf (fun z => q ((n_le hy hx).mpr z)) H lsA locs hR hM hL hS hl hlo)
theorem s_if_gt {x : Int} {off : Int} {tgt : Nat} (C : jCtx p R s mm args meth c G m d) (hd : decode m.2.2.1 pc = .ok (.ifCond .gt off, 3)) (ht : (pc : Int) + off = (tgt : Int)) (kt : 0 < x → JW p l e R s mm args below meth c Q G mb sb M tgt ls st) (kf : ¬ (0 < x) → JW p l e R s mm args below meth c Q G mb sb M (pc + 3) ls st) : JW p l e R s mm args below meth c Q G mb sb M pc ls (vI x :: st) := by
  intro H lsA locs hR hM hL hS hl hlo
  obtain ⟨hx, hS⟩ := gS_cons.mp hS
  exact lv_if_gt C.1 C.2.1 hd ht (fun q => kt ((n_lt z_in hx).mp q) H lsA locs hR hM hL hS hl hlo) (fun q => kf (fun z => q ((n_lt z_in hx).mpr z)) H lsA locs hR hM hL hS hl hlo)
theorem s_icmp_gt {x y : Int} {off : Int} {tgt : Nat} (C : jCtx p R s mm args meth c G m d) (hd : decode m.2.2.1 pc = .ok (.if_icmp .gt off, 3)) (ht : (pc : Int) + off = (tgt : Int)) (kt : y < x → JW p l e R s mm args below meth c Q G mb sb M tgt ls st) (kf : ¬ (y < x) → JW p l e R s mm args below meth c Q G mb sb M (pc + 3) ls st) : JW p l e R s mm args below meth c Q G mb sb M pc ls (vI y :: vI x :: st) := by
  intro H lsA locs hR hM hL hS hl hlo
  obtain ⟨hy, hS⟩ := gS_cons.mp hS
  obtain ⟨hx, hS⟩ := gS_cons.mp hS
  exact lv_icmp_gt C.1 C.2.1 hd ht (fun q => kt ((n_lt hy hx).mp q) H lsA locs hR hM hL hS hl hlo) (fun q => kf (fun z => q ((n_lt hy hx).mpr z)) H lsA locs hR hM hL hS hl hlo)
theorem s_if_le {x : Int} {off : Int} {tgt : Nat} (C : jCtx p R s mm args meth c G m d) (hd : decode m.2.2.1 pc = .ok (.ifCond .le off, 3)) (ht : (pc : Int) + off = (tgt : Int)) (kt : x ≤ 0 → JW p l e R s mm args below meth c Q G mb sb M tgt ls st) (kf : ¬ (x ≤ 0) → JW p l e R s mm args below meth c Q G mb sb M (pc + 3) ls st) : JW p l e R s mm args below meth c Q G mb sb M pc ls (vI x :: st) := by
  intro H lsA locs hR hM hL hS hl hlo
  obtain ⟨hx, hS⟩ := gS_cons.mp hS
  exact lv_if_le C.1 C.2.1 hd ht (fun q => kt ((n_le hx z_in).mp q) H lsA locs hR hM hL hS hl hlo) (fun q => kf (fun z => q ((n_le hx z_in).mpr z)) H lsA locs hR hM hL hS hl hlo)
theorem s_icmp_le {x y : Int} {off : Int} {tgt : Nat} (C : jCtx p R s mm args meth c G m d) (hd : decode m.2.2.1 pc = .ok (.if_icmp .le off, 3)) (ht : (pc : Int) + off = (tgt : Int)) (kt : x ≤ y → JW p l e R s mm args below meth c Q G mb sb M tgt ls st) (kf : ¬ (x ≤ y) → JW p l e R s mm args below meth c Q G mb sb M (pc + 3) ls st) : JW p l e R s mm args below meth c Q G mb sb M pc ls (vI y :: vI x :: st) := by
  intro H lsA locs hR hM hL hS hl hlo
  obtain ⟨hy, hS⟩ := gS_cons.mp hS
  obtain ⟨hx, hS⟩ := gS_cons.mp hS
  exact lv_icmp_le C.1 C.2.1 hd ht (fun q => kt ((n_le hx hy).mp q) H lsA locs hR hM hL hS hl hlo) (fun q => kf (fun z => q ((n_le hx hy).mpr z)) H lsA locs hR hM hL hS hl hlo)
theorem s_ifnull {x : Nat} {off : Int} {tgt : Nat} (C : jCtx p R s mm args meth c G m d) (hd : decode m.2.2.1 pc = .ok (.ifnull off, 3)) (ht : (pc : Int) + off = (tgt : Int)) (kt : x = 0 → JW p l e R s mm args below meth c Q G mb sb M tgt ls st) (kf : ¬ (x = 0) → JW p l e R s mm args below meth c Q G mb sb M (pc + 3) ls st) : JW p l e R s mm args below meth c Q G mb sb M pc ls (vR x :: st) := by
  intro H lsA locs hR hM hL hS hl hlo
  have hS2 := (gS_cons.mp hS).2
  cases x with
  | zero => exact lv_ifnullN C.1 C.2.1 hd ht (kt rfl H lsA locs hR hM hL hS2 hl hlo)
  | succ x => exact lv_ifnull C.1 C.2.1 hd (kf (Nat.succ_ne_zero x) H lsA locs hR hM hL hS2 hl hlo)
theorem s_ifnonnull {x : Nat} {off : Int} {tgt : Nat} (C : jCtx p R s mm args meth c G m d) (hd : decode m.2.2.1 pc = .ok (.ifnonnull off, 3)) (ht : (pc : Int) + off = (tgt : Int)) (kt : x ≠ 0 → JW p l e R s mm args below meth c Q G mb sb M tgt ls st) (kf : ¬ (x ≠ 0) → JW p l e R s mm args below meth c Q G mb sb M (pc + 3) ls st) : JW p l e R s mm args below meth c Q G mb sb M pc ls (vR x :: st) := by
  intro H lsA locs hR hM hL hS hl hlo
  have hS2 := (gS_cons.mp hS).2
  cases x with
  | zero => exact lv_ifnonnullN C.1 C.2.1 hd (kf (fun q => q rfl) H lsA locs hR hM hL hS2 hl hlo)
  | succ x => exact lv_ifnonnull C.1 C.2.1 hd ht (kt (Nat.succ_ne_zero x) H lsA locs hR hM hL hS2 hl hlo)
theorem s_tab {x dl lo hi : Int} {os : Array Int} {len : Nat} (C : jCtx p R s mm args meth c G m d) (hd : decode m.2.2.1 pc = .ok (.tableswitch dl lo hi os, len)) {off : Int} {tgt : Nat} (h : ((x < lo ∨ hi < x) ∧ off = dl) ∨ (¬ (x < lo ∨ hi < x) ∧ os[(x - lo).toNat]? = some off)) (ht : (pc : Int) + off = (tgt : Int)) (k : JW p l e R s mm args below meth c Q G mb sb M tgt ls st) : JW p l e R s mm args below meth c Q G mb sb M pc ls (vI x :: st) := by
  intro H lsA locs hR hM hL hS hl hlo
  obtain ⟨hx, hS⟩ := gS_cons.mp hS
  have kk := k H lsA locs hR hM hL hS hl hlo
  rcases h with ⟨h1, rfl⟩ | ⟨h1, h2⟩
  · exact lv_tableOut C.1 C.2.1 hd (by rw [n_to hx]; exact h1) ht kk
  · exact lv_tableIn C.1 C.2.1 hd (by rw [n_to hx]; exact fun z => h1 (Or.inl z)) (by rw [n_to hx]; exact fun z => h1 (Or.inr z)) (by rw [n_to hx]; exact h2) ht kk
theorem s_look {x dl : Int} {ps : Array (Int × Int)} {len : Nat} (C : jCtx p R s mm args meth c G m d) (hd : decode m.2.2.1 pc = .ok (.lookupswitch dl ps, len)) {tgt : Nat} (h : (ps.toList.zip (ps.toList.drop 1)).all (fun (a, next) => a.1 < next.1) = true) (ht : (pc : Int) + Op.lookupswitch.offset ps.toList dl x = (tgt : Int)) (k : JW p l e R s mm args below meth c Q G mb sb M tgt ls st) : JW p l e R s mm args below meth c Q G mb sb M pc ls (vI x :: st) := by
  intro H lsA locs hR hM hL hS hl hlo
  obtain ⟨hx, hS⟩ := gS_cons.mp hS
  exact lv_lookup C.1 C.2.1 hd h (by rw [n_to hx]) ht (k H lsA locs hR hM hL hS hl hlo)
end Snd1
