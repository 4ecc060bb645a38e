/-! each instruction over the machine: rows and new cells -/
theorem jty_get {G : jG} {ty : FieldType} {t : Nat} (h : (G.cT t, ty) ∈ jtys G) {s : State} (hK : va_K G.D jcl (jtys G) s) : ArrOfT s (G.cT t) ty ∧ va_RA s (G.cT t) ty := by
  obtain ⟨k, hk⟩ := List.getElem?_of_mem h
  exact hK.2 k _ hk
/-- a row's cell, of ints, longs, booleans -/
theorem jRep.row {G : jG} {M : jM} {H : Heap} {s : State} {t r : Nat} {z : Int} {ty : FieldType} (hK : jK G s) (hR : jRep G M H) (h : jIdx M t r z = true) (ht : t = 20 ∨ t = 21 ∨ t = 22) (hty : (G.cT t, ty) ∈ jtys G) (h20 : t = 20 → ty = .int) : r ≠ 0 ∧ 0 ≤ z ∧ ∃ cell : Cell, H[G.ad r]? = some cell ∧ s.isArrayOf cell ty ∧ cell.vm ≠ .unknown ∧ z.toNat < cell.slots.size ∧ i32 z ∧ cell.slots[z.toNat]? = some (jelem G M t r z.toNat) ∧ (6 ≤ r → cell = arrV (G.cT t) (kd M r).2 (jelem G M t r)) := by
  obtain ⟨h0, h1, h2, h3, h4⟩ := jIdx_spec h
  obtain ⟨g1, g2, g3, g4, g5⟩ := hR
  refine ⟨h0, h3, ?_⟩
  rcases Nat.lt_or_ge r 6 with h6 | h6
  · obtain ⟨a1, a2, a3, a4, a5, a6, a7⟩ := g4 r h0 h6
    have ht2 : t = 20 := by omega
    obtain ⟨b1, b2⟩ := hK.2.2.1 r h0 h6
    subst ht2
    rw [h20 rfl]
    refine ⟨_, a1, b1, b2, by omega, ⟨by omega, by omega⟩, a7 _ (by omega), fun h => by omega⟩
  · obtain ⟨a1, a2⟩ := (g5 r h6 h1).2 (by omega) (by omega)
    rw [h2] at a2
    have hA := (jty_get hty hK.2.1).1 (kd M r).2 (jelem G M t r)
    refine ⟨_, a2, hA, fun q => (by cases q), by rw [arrV_size]; omega, ⟨by omega, by omega⟩, arrV_read _ _ (by omega), fun _ => rfl⟩
/-- a row of references -/
theorem jRep.rowA {G : jG} {M : jM} {H : Heap} {t r : Nat} {z : Int} (hR : jRep G M H) (h : jIdx M t r z = true) (ht : t = 23 ∨ t = 24) : 6 ≤ r ∧ r < mx M ∧ 0 ≤ z ∧ i32 z ∧ z.toNat < (kd M r).2 ∧ (kd M r).1 = t ∧ H[G.ad r]? = some (arrV (G.cT t) (kd M r).2 (jelem G M t r)) := by
  obtain ⟨h0, h1, h2, h3, h4⟩ := jIdx_spec h
  obtain ⟨g1, g2, g3, g4, g5⟩ := hR
  rcases Nat.lt_or_ge r 6 with h6 | h6
  · have := (g4 r h0 h6).2.2.1; omega
  · obtain ⟨a1, a2⟩ := (g5 r h6 h1).2 (by omega) (by omega)
    rw [h2] at a2
    exact ⟨h6, h1, h3, ⟨by omega, by omega⟩, by omega, h2, a2⟩
theorem jnin {z : Int} {n : Nat} (hz : i32 z) (h0 : 0 ≤ z) (h : z.toNat < n) : ¬ (Int32.ofInt z < 0 ∨ n ≤ (Int32.ofInt z).toNatClampNeg) := by
  rw [n_cl hz h0]
  rintro (q | q)
  · have := (n_lt hz z_in).mp q; omega
  · omega
def jtyc : FieldType → Bool
  | .int => true
  | .boolean => true
  | .long => true
  | .object _ => true
  | .array _ => true
  | _ => false
theorem jtyc_c {ty : FieldType} (h : jtyc ty = true) : ty = .int ∨ ty = .boolean ∨ ty = .long ∨ (∃ n, ty = .object n) ∨ ∃ u, ty = .array u := by
  unfold jtyc at h
  split at h
  · exact Or.inl rfl
  · exact Or.inr (Or.inl rfl)
  · exact Or.inr (Or.inr (Or.inl rfl))
  · exact Or.inr (Or.inr (Or.inr (Or.inl ⟨_, rfl⟩)))
  · exact Or.inr (Or.inr (Or.inr (Or.inr ⟨_, rfl⟩)))
  · cases h
theorem jty_ok (c k : Nat) : jtyc (jty c k) = true := by
  unfold jty
  split <;> first | (unfold tyX0; split <;> rfl) | (unfold tyX1; split <;> rfl) | (unfold tyX2; split <;> rfl) | (unfold tyX3; split <;> rfl) | (unfold tyX4; split <;> rfl) | (unfold tyX5; split <;> rfl) | (unfold tyX6; split <;> rfl) | (unfold tyX7; split <;> rfl) | (unfold tyX8; split <;> rfl) | (unfold tyX9; split <;> rfl) | (unfold tyX10; split <;> rfl) | (unfold tyX11; split <;> rfl)
section Snd3
variable {p : Program} {l : Launch} {e : Env} {R : Room} {s : State} {mm : MethodId} {args : Array Value} {below : List Frame} {meth : Method} {c : Code} {Q : State → Prop} {G : jG} {mb sb : Nat} {m : jMe} {d : Nat} {M : jM} {pc : Nat} {ls : jLs} {st : List jV}
theorem s_iald {r : Nat} {i : Int} (C : jCtx p R s mm args meth c G m d) (hd : decode m.2.2.1 pc = .ok (.iaload, 1)) (h : jIdx M 20 r i = true) (k : JW p l e R s mm args below meth c Q G mb sb M (pc + 1) ls (vI (iv M r i.toNat) :: st)) : JW p l e R s mm args below meth c Q G mb sb M pc ls (vI i :: vR r :: st) := by
  intro H lsA locs hR hM hL hS hl hlo
  have hS := (gS_cons.mp (gS_cons.mp hS).2).2
  obtain ⟨h0, h1, cell, q1, q2, q3, q4, q5, q6, -⟩ := hR.row C.2.2.2.2.2.1 h (Or.inl rfl) (ty := .int) (by simp [jtys]) (fun _ => rfl)
  have kk := k H lsA locs hR hM hL (gS_cons.mpr ⟨(hM r _).1, hS⟩) hl hlo
  show W p l e R s mm args below meth c H locs _ _ Q (F0 mm pc lsA (Value.int (Int32.ofInt i) :: jref G r :: st.map (jval G)))
  rw [jref_ne h0]
  exact W.iald C.1 C.2.1 q1 q2 q3 (jnin q5 h1 q4) (by rw [n_cl q5 h1]; exact q6) rfl rfl hd kk
theorem s_lald {r : Nat} {i : Int} (C : jCtx p R s mm args meth c G m d) (hd : decode m.2.2.1 pc = .ok (.laload, 1)) (h : jIdx M 21 r i = true) (k : JW p l e R s mm args below meth c Q G mb sb M (pc + 1) ls (vL (lg M r i.toNat) :: st)) : JW p l e R s mm args below meth c Q G mb sb M pc ls (vI i :: vR r :: st) := by
  intro H lsA locs hR hM hL hS hl hlo
  have hS := (gS_cons.mp (gS_cons.mp hS).2).2
  obtain ⟨h0, h1, cell, q1, q2, q3, q4, q5, q6, -⟩ := hR.row C.2.2.2.2.2.1 h (Or.inr (Or.inl rfl)) (ty := .long) (by simp [jtys]) (fun h => by omega)
  have kk := k H lsA locs hR hM hL (gS_cons.mpr ⟨(hM r _).2, hS⟩) hl hlo
  show W p l e R s mm args below meth c H locs _ _ Q (F0 mm pc lsA (Value.int (Int32.ofInt i) :: jref G r :: st.map (jval G)))
  rw [jref_ne h0]
  exact W.lald C.1 C.2.1 q1 q2 q3 (jnin q5 h1 q4) (by rw [n_cl q5 h1]; exact q6) rfl rfl hd kk
theorem s_zald {r : Nat} {i : Int} (C : jCtx p R s mm args meth c G m d) (hd : decode m.2.2.1 pc = .ok (.baload, 1)) (h : jIdx M 22 r i = true) (k : JW p l e R s mm args below meth c Q G mb sb M (pc + 1) ls (vI (iv M r i.toNat) :: st)) : JW p l e R s mm args below meth c Q G mb sb M pc ls (vI i :: vR r :: st) := by
  intro H lsA locs hR hM hL hS hl hlo
  have hS := (gS_cons.mp (gS_cons.mp hS).2).2
  obtain ⟨h0, h1, cell, q1, q2, q3, q4, q5, q6, -⟩ := hR.row C.2.2.2.2.2.1 h (Or.inr (Or.inr rfl)) (ty := .boolean) (by simp [jtys]) (fun h => by omega)
  have kk := k H lsA locs hR hM hL (gS_cons.mpr ⟨(hM r _).1, hS⟩) hl hlo
  show W p l e R s mm args below meth c H locs _ _ Q (F0 mm pc lsA (Value.int (Int32.ofInt i) :: jref G r :: st.map (jval G)))
  rw [jref_ne h0]
  exact W.zald C.1 C.2.1 q1 q2 q3 (jnin q5 h1 q4) (by rw [n_cl q5 h1]; exact q6) rfl rfl hd kk
theorem s_aald {r t : Nat} {i : Int} (C : jCtx p R s mm args meth c G m d) (hd : decode m.2.2.1 pc = .ok (.aaload, 1)) (h : jIdx M t r i = true) (ht : t = 23 ∨ t = 24) (k : JW p l e R s mm args below meth c Q G mb sb M (pc + 1) ls (vR (rv M r i.toNat) :: st)) : JW p l e R s mm args below meth c Q G mb sb M pc ls (vI i :: vR r :: st) := by
  intro H lsA locs hR hM hL hS hl hlo
  have hS := (gS_cons.mp (gS_cons.mp hS).2).2
  obtain ⟨h6, hr, h1, q5, q4, -, q1⟩ := hR.rowA h ht
  have kk := k H lsA locs hR hM hL (gS_cons.mpr ⟨trivial, hS⟩) hl hlo
  show W p l e R s mm args below meth c H locs _ _ Q (F0 mm pc lsA (Value.int (Int32.ofInt i) :: jref G r :: st.map (jval G)))
  rw [jref_ne (show r ≠ 0 by omega)]
  have hrd : (arrV (G.cT t) (kd M r).2 (jelem G M t r)).slots[(Int32.ofInt i).toNatClampNeg]? = some (jval G (vR (rv M r i.toNat))) := by
    rw [n_cl q5 h1, arrV_read _ _ q4]
    rcases ht with rfl | rfl <;> rfl
  have hin : ¬ (Int32.ofInt i < 0 ∨ (arrV (G.cT t) (kd M r).2 (jelem G M t r)).slots.size ≤ (Int32.ofInt i).toNatClampNeg) := by rw [arrV_size]; exact jnin q5 h1 q4
  rcases ht with rfl | rfl
  · exact W.aald C.1 C.2.1 q1 ((jty_get (ty := .object "RememberedWeight$State") (by simp [jtys]) C.2.2.2.2.2.1.2.1).1 _ _) rfl (fun q => by cases q) hin hrd rfl rfl hd kk
  · exact W.aald C.1 C.2.1 q1 ((jty_get (ty := .object "RememberedWeight$Law") (by simp [jtys]) C.2.2.2.2.2.1.2.1).1 _ _) rfl (fun q => by cases q) hin hrd rfl rfl hd kk
theorem s_len {r : Nat} (C : jCtx p R s mm args meth c G m d) (hd : decode m.2.2.1 pc = .ok (.arraylength, 1)) (h : r ≠ 0 ∧ r < mx M ∧ 20 ≤ (kd M r).1 ∧ (kd M r).1 ≤ 24) (k : JW p l e R s mm args below meth c Q G mb sb M (pc + 1) ls (vI ((kd M r).2 : Nat) :: st)) : JW p l e R s mm args below meth c Q G mb sb M pc ls (vR r :: st) := by
  intro H lsA locs hR hM hL hS hl hlo
  have hS := (gS_cons.mp hS).2
  obtain ⟨h0, h1, h2, h3⟩ := h
  show W p l e R s mm args below meth c H locs _ _ Q (F0 mm pc lsA (jref G r :: st.map (jval G)))
  rw [jref_ne h0]
  obtain ⟨g1, g2, g3, g4, g5⟩ := id hR
  rcases Nat.lt_or_ge r 6 with h6 | h6
  · obtain ⟨a1, a2, a3, a4, a5, a6, a7⟩ := g4 r h0 h6
    obtain ⟨b1, b2⟩ := C.2.2.2.2.2.1.2.2.1 r h0 h6
    exact W.alen (n := Int32.ofInt ((kd M r).2 : Nat)) C.1 C.2.1 a1 b1 (by rw [n_nat]; exact a6) rfl rfl hd (k H lsA locs hR hM hL (gS_cons.mpr ⟨⟨by omega, by omega⟩, hS⟩) hl hlo)
  · obtain ⟨a1, a2⟩ := (g5 r h6 h1).2 h2 h3
    have kk := k H lsA locs hR hM hL (gS_cons.mpr ⟨⟨by omega, by omega⟩, hS⟩) hl hlo
    have hK := C.2.2.2.2.2.1.2.1
    have hs : (arrV (G.cT (kd M r).1) (kd M r).2 (jelem G M (kd M r).1 r)).slots.size.toInt32 = Int32.ofInt ((kd M r).2 : Nat) := by rw [arrV_size, n_nat]
    have : (kd M r).1 = 20 ∨ (kd M r).1 = 21 ∨ (kd M r).1 = 22 ∨ (kd M r).1 = 23 ∨ (kd M r).1 = 24 := by omega
    generalize (kd M r).1 = t at this a2 hs
    rcases this with rfl | rfl | rfl | rfl | rfl
    · exact W.alen C.1 C.2.1 a2 ((jty_get (ty := .int) (by simp [jtys]) hK).1 _ _) hs rfl rfl hd kk
    · exact W.alen C.1 C.2.1 a2 ((jty_get (ty := .long) (by simp [jtys]) hK).1 _ _) hs rfl rfl hd kk
    · exact W.alen C.1 C.2.1 a2 ((jty_get (ty := .boolean) (by simp [jtys]) hK).1 _ _) hs rfl rfl hd kk
    · exact W.alen C.1 C.2.1 a2 ((jty_get (ty := .object "RememberedWeight$State") (by simp [jtys]) hK).1 _ _) hs rfl rfl hd kk
    · exact W.alen C.1 C.2.1 a2 ((jty_get (ty := .object "RememberedWeight$Law") (by simp [jtys]) hK).1 _ _) hs rfl rfl hd kk
/-- a row's cell behind a store -/
theorem jRep.stored {G : jG} {M M' : jM} {H H' : Heap} {t r j : Nat} {v : Value} (hR : jRep G M H) (hA : ∀ r : Nat, 6 ≤ r → G.ad r = G.bs + (r - 6)) (h6 : 6 ≤ r) (hr : r < mx M) (hk : (kd M r).1 = t) (ht : 20 ≤ t ∧ t ≤ 24) (hmx : mx M' = mx M) (hkd : ∀ r', kd M' r' = kd M r') (hv : ∀ r', r' ≠ r → ∀ i, iv M' r' i = iv M r' i ∧ lg M' r' i = lg M r' i ∧ rv M' r' i = rv M r' i) (he : updV (jelem G M t r) j v = jelem G M' t r) (e1 : H'[G.ad r]? = some ((arrV (G.cT t) (kd M r).2 (jelem G M t r)).setSlot j v)) (e2 : H'.size = H.size) (e3 : ∀ q : Nat, q ≠ G.ad r → H'[q]? = H[q]?) : jRep G M' H' := by
  refine hR.upd hA h6 hmx hkd hv e2 e3 ⟨fun q hq => ?_, fun _ _ => ?_⟩
  · rw [hkd, hk] at hq
    have := jcl_lt hq
    omega
  · rw [hkd, hk, e1, arrV_store, he]
    exact ⟨((hR.2.2.2.2 r h6 hr).2 (by omega) (by omega)).1, rfl⟩
theorem s_iast {r : Nat} {i z : Int} (C : jCtx p R s mm args meth c G m d) (hd : decode m.2.2.1 pc = .ok (.iastore, 1)) (h : jIdx M 20 r i = true) (h6 : 6 ≤ r) (k : JW p l e R s mm args below meth c Q G mb sb (si M r i.toNat z) (pc + 1) ls st) : JW p l e R s mm args below meth c Q G mb sb M pc ls (vI z :: vI i :: vR r :: st) := by
  intro H lsA locs hR hM hL hS hl hlo
  obtain ⟨hz, hS⟩ := gS_cons.mp hS
  have hS := (gS_cons.mp (gS_cons.mp hS).2).2
  obtain ⟨h0, h1, cell, q1, q2, q3, q4, q5, q6, q7⟩ := hR.row C.2.2.2.2.2.1 h (Or.inl rfl) (ty := .int) (by simp [jtys]) (fun _ => rfl)
  obtain ⟨-, hr, hk, -, -⟩ := jIdx_spec h
  have hA := C.2.2.2.2.2.1.1
  show W p l e R s mm args below meth c H locs _ _ Q (F0 mm pc lsA (Value.int (Int32.ofInt z) :: Value.int (Int32.ofInt i) :: jref G r :: st.map (jval G)))
  rw [jref_ne h0]
  refine W.iast C.1 C.2.1 q1 q2 q3 (jnin q5 h1 q4) rfl rfl hd fun H' e1 e2 e3 => ?_
  rw [n_cl q5 h1, q7 h6] at e1
  rw [n_cl q5 h1]
  have hR' : jRep G (si M r i.toNat z) H' := hR.stored hA h6 hr hk (by omega) rfl (fun _ => rfl) (fun r' hne j => ⟨by rw [iv_si, if_neg (fun q => hne q.1)], rfl, rfl⟩) (by
    funext j
    unfold updV jelem
    simp only [iv_si, true_and]
    split <;> rfl) e1 e2 e3
  exact k H' lsA _ hR' (hM.si hz) hL hS hl (fun q hq => by
    rcases List.mem_append.mp hq with h | h
    · exact hlo q h
    · rw [List.mem_singleton.mp h]
      show G.bs ≤ G.ad r
      have := hA r h6
      omega)
theorem s_last {r : Nat} {i z : Int} (C : jCtx p R s mm args meth c G m d) (hd : decode m.2.2.1 pc = .ok (.lastore, 1)) (h : jIdx M 21 r i = true) (h6 : 6 ≤ r) (k : JW p l e R s mm args below meth c Q G mb sb (sl M r i.toNat z) (pc + 1) ls st) : JW p l e R s mm args below meth c Q G mb sb M pc ls (vL z :: vI i :: vR r :: st) := by
  intro H lsA locs hR hM hL hS hl hlo
  obtain ⟨hz, hS⟩ := gS_cons.mp hS
  have hS := (gS_cons.mp (gS_cons.mp hS).2).2
  obtain ⟨h0, h1, cell, q1, q2, q3, q4, q5, q6, q7⟩ := hR.row C.2.2.2.2.2.1 h (Or.inr (Or.inl rfl)) (ty := .long) (by simp [jtys]) (fun h => by omega)
  obtain ⟨-, hr, hk, -, -⟩ := jIdx_spec h
  have hA := C.2.2.2.2.2.1.1
  show W p l e R s mm args below meth c H locs _ _ Q (F0 mm pc lsA (Value.long (Int64.ofInt z) :: Value.int (Int32.ofInt i) :: jref G r :: st.map (jval G)))
  rw [jref_ne h0]
  refine W.last C.1 C.2.1 q1 q2 q3 (jnin q5 h1 q4) rfl rfl hd fun H' e1 e2 e3 => ?_
  rw [n_cl q5 h1, q7 h6] at e1
  rw [n_cl q5 h1]
  have hR' : jRep G (sl M r i.toNat z) H' := hR.stored hA h6 hr hk (by omega) rfl (fun _ => rfl) (fun r' hne j => ⟨rfl, by rw [lg_sl2, if_neg (fun q => hne q.1)], rfl⟩) (by
    funext j
    unfold updV jelem
    simp only [lg_sl2, true_and]
    split <;> rfl) e1 e2 e3
  exact k H' lsA _ hR' (hM.sl hz) hL hS hl (fun q hq => by
    rcases List.mem_append.mp hq with h | h
    · exact hlo q h
    · rw [List.mem_singleton.mp h]
      show G.bs ≤ G.ad r
      have := hA r h6
      omega)
theorem s_zast {r : Nat} {i z : Int} (C : jCtx p R s mm args meth c G m d) (hd : decode m.2.2.1 pc = .ok (.bastore, 1)) (h : jIdx M 22 r i = true) (h6 : 6 ≤ r) (h01 : z = 0 ∨ z = 1) (k : JW p l e R s mm args below meth c Q G mb sb (si M r i.toNat z) (pc + 1) ls st) : JW p l e R s mm args below meth c Q G mb sb M pc ls (vI z :: vI i :: vR r :: st) := by
  intro H lsA locs hR hM hL hS hl hlo
  obtain ⟨hz, hS⟩ := gS_cons.mp hS
  have hS := (gS_cons.mp (gS_cons.mp hS).2).2
  obtain ⟨h0, h1, cell, q1, q2, q3, q4, q5, q6, q7⟩ := hR.row C.2.2.2.2.2.1 h (Or.inr (Or.inr rfl)) (ty := .boolean) (by simp [jtys]) (fun h => by omega)
  obtain ⟨-, hr, hk, -, -⟩ := jIdx_spec h
  have hA := C.2.2.2.2.2.1.1
  have hnar : narrow .boolean (.int (Int32.ofInt z)) = .int (Int32.ofInt z) := by rcases h01 with rfl | rfl; exact nb0.1; exact nb1.1
  show W p l e R s mm args below meth c H locs _ _ Q (F0 mm pc lsA (Value.int (Int32.ofInt z) :: Value.int (Int32.ofInt i) :: jref G r :: st.map (jval G)))
  rw [jref_ne h0]
  refine W.zast C.1 C.2.1 q1 q2 q3 (jnin q5 h1 q4) rfl rfl hd fun H' e1 e2 e3 => ?_
  rw [n_cl q5 h1, q7 h6, hnar] at e1
  rw [n_cl q5 h1]
  have hR' : jRep G (si M r i.toNat z) H' := hR.stored hA h6 hr hk (by omega) rfl (fun _ => rfl) (fun r' hne j => ⟨by rw [iv_si, if_neg (fun q => hne q.1)], rfl, rfl⟩) (by
    funext j
    unfold updV jelem
    simp only [iv_si, true_and]
    split <;> rfl) e1 e2 e3
  exact k H' lsA _ hR' (hM.si hz) hL hS hl (fun q hq => by
    rcases List.mem_append.mp hq with h | h
    · exact hlo q h
    · rw [List.mem_singleton.mp h]
      show G.bs ≤ G.ad r
      have := hA r h6
      omega)
theorem s_aast {r v t cv : Nat} {i : Int} (C : jCtx p R s mm args meth c G m d) (hd : decode m.2.2.1 pc = .ok (.aastore, 1)) (h : jIdx M t r i = true) (ht : (t = 23 ∧ cv = 7) ∨ (t = 24 ∧ cv = 3)) (hv : jobj M cv v = true) (k : JW p l e R s mm args below meth c Q G mb sb (sr M r i.toNat v) (pc + 1) ls st) : JW p l e R s mm args below meth c Q G mb sb M pc ls (vR v :: vI i :: vR r :: st) := by
  intro H lsA locs hR hM hL hS hl hlo
  have hS := (gS_cons.mp (gS_cons.mp (gS_cons.mp hS).2).2).2
  obtain ⟨h6, hr, h1, q5, q4, hkd, q1⟩ := hR.rowA h (by omega)
  obtain ⟨q, hq, hqt⟩ : ∃ q : vw_C, jcl[cv]? = some q ∧ (G.cT t, FieldType.object q.1) ∈ jtys G := by
    rcases ht with ⟨rfl, rfl⟩ | ⟨rfl, rfl⟩
    · exact ⟨_, rfl, by simp [jtys, RX7]⟩
    · exact ⟨_, rfl, by simp [jtys, RX3]⟩
  obtain ⟨h6v, hrv, -, cellV, g1, g2, g3, -⟩ := hR.ob hq hv
  have hA := C.2.2.2.2.2.1.1
  have hK := C.2.2.2.2.2.1.2.1
  have hcls := (hK.1 cv q hq).2
  obtain ⟨kA, comp, k1, k2, k3, -⟩ := (jty_get hqt hK).2
  have hcomp : comp = G.D.1 cv := Option.some.inj (k3.symm.trans hcls.1)
  subst hcomp
  obtain ⟨kC, hkC, -⟩ := hcls.2
  show W p l e R s mm args below meth c H locs _ _ Q (F0 mm pc lsA (jref G v :: Value.int (Int32.ofInt i) :: jref G r :: st.map (jval G)))
  rw [jref_ne (show r ≠ 0 by omega), jref_ne (show v ≠ 0 by omega)]
  have hin := jnin q5 h1 q4
  refine W.aast C.1 C.2.1 q1 (fun q h => by cases h) (fun h => by cases h) k1 k2 rfl hkC ⟨fun z => hin (Or.inl z), by rw [arrV_size]; exact Nat.not_le.mp fun z => hin (Or.inr z)⟩ g1 (fun q h => by rw [g3] at h; cases h) (by rw [g2]; exact hkC) (by rw [g2]; exact va_assign hcls) rfl rfl hd fun H' e1 e2 e3 => ?_
  rw [n_cl q5 h1] at e1 ⊢
  have hR' : jRep G (sr M r i.toNat v) H' := hR.stored hA h6 hr hkd (by omega) rfl (fun _ => rfl) (fun r' hne j => ⟨rfl, rfl, by rw [rv_sr, if_neg (fun q => hne q.1)]⟩) (by
    funext j
    unfold updV jelem
    rcases ht with ⟨rfl, rfl⟩ | ⟨rfl, rfl⟩ <;> simp only [rv_sr, true_and] <;> split <;> first | rfl | exact (jref_ne (show v ≠ 0 by omega)).symm) e1 e2 e3
  exact k H' lsA _ hR' hM.sr hL hS hl (fun q hq => by
    rcases List.mem_append.mp hq with h | h
    · exact hlo q h
    · rw [List.mem_singleton.mp h]
      show G.bs ≤ G.ad r
      have := hA r h6
      omega)
theorem jnew_row {G : jG} {M : jM} {H' : Heap} {t n : Nat} (ht : 20 ≤ t ∧ t ≤ 24) (hn : n ≤ 65536) (e : H'[G.ad (mx M)]? = some (arrV (G.cT t) n (jelem G (nw M (t, n) n) t (mx M)))) : jnew G (nw M (t, n) n) H' (mx M) := by
  unfold jnew
  rw [kd_nw, if_pos rfl]
  refine ⟨fun q hq => ?_, fun _ _ => ⟨hn, e⟩⟩
  have := jcl_lt hq
  omega
theorem s_newar {ty : FieldType} {t : Nat} {at' : ArrayType} {z : Int} (C : jCtx p R s mm args meth c G m d) (hd : decode m.2.2.1 pc = .ok (.newarray at', 2)) (hat : newarray.typeOf at' = ty) (ht : (t = 20 ∧ ty = .int) ∨ (t = 21 ∧ ty = .long) ∨ (t = 22 ∧ ty = .boolean)) (hz : 0 ≤ z ∧ z ≤ 65536) (hmb : mb ≤ mx M ∧ sb ≤ ms M) (hroom : mx M + 1 - mb ≤ R.cells ∧ ms M + z.toNat - sb ≤ R.slots) (k : JW p l e R s mm args below meth c Q G mb sb (nw M (t, z.toNat) z.toNat) (pc + 2) ls (vR (mx M) :: st)) : JW p l e R s mm args below meth c Q G mb sb M pc ls (vI z :: st) := by
  intro H lsA locs hR hM hL hS hl hlo
  obtain ⟨hz32, hS⟩ := gS_cons.mp hS
  obtain ⟨hA, hK, -⟩ := C.2.2.2.2.2.1
  obtain ⟨ha, ha0⟩ := hR.next hA
  have hw : Cond.arrayClass (newarray.typeOf at') ∈ jW := by
    rw [hat]
    rcases ht with ⟨-, rfl⟩ | ⟨-, rfl⟩ | ⟨-, rfl⟩
    · exact jwA_int
    · exact jwA_long
    · exact jwA_boolean
  have hjt : (G.cT t, ty) ∈ jtys G := by rcases ht with ⟨rfl, rfl⟩ | ⟨rfl, rfl⟩ | ⟨rfl, rfl⟩ <;> simp [jtys]
  have hbytes : z.toNat * componentBytes (newarray.typeOf at') ≤ 536870912 := by
    rw [hat]
    rcases ht with ⟨-, rfl⟩ | ⟨-, rfl⟩ | ⟨-, rfl⟩ <;> simp only [componentBytes] <;> omega
  refine va_newaK C.1 C.2.1 (C.2.2.2.2.1 _ hw) rfl hd rfl (fun q => by have := (n_lt hz32 z_in).mp q; omega) (n_cl hz32 hz.1) hbytes (by omega) (by omega) rfl fun H' cA e1 e2 e3 _ hnm => ?_
  have hcA : cA = G.cT t := by
    have h1 := (jty_get hjt hK).2
    rw [hat] at hnm
    rcases ht with ⟨rfl, rfl⟩ | ⟨rfl, rfl⟩ | ⟨rfl, rfl⟩ <;> exact Option.some.inj (hnm.symm.trans h1)
  subst hcA
  have hR' : jRep G (nw M (t, z.toNat) z.toNat) H' := by
    refine hR.grow hA e2 e3 (jnew_row (by omega) (by omega) ?_)
    rw [ha, e1, hat]
    congr 2
    funext j
    unfold jelem
    rcases ht with ⟨rfl, rfl⟩ | ⟨rfl, rfl⟩ | ⟨rfl, rfl⟩ <;> simp only [iv_nw, lg_nw, if_pos] <;> rfl
  have kk := k H' lsA locs hR' hM.nw hL (gS_cons.mpr ⟨trivial, hS⟩) hl hlo
  rw [mx_nw, ms_nw] at kk
  rw [show mx M - mb + 1 = mx M + 1 - mb by omega, show ms M - sb + z.toNat = ms M + z.toNat - sb by omega]
  rw [← ha, ← jref_ne ha0]
  exact kk
theorem s_newr {i t : Nat} {z : Int} (C : jCtx p R s mm args meth c G m d) (hd : decode m.2.2.1 pc = .ok (.anewarray i, 3)) (hk : lkA m.1 i = some t) (hz : 0 ≤ z ∧ z ≤ 65536) (hmb : mb ≤ mx M ∧ sb ≤ ms M) (hroom : mx M + 1 - mb ≤ R.cells ∧ ms M + z.toNat - sb ≤ R.slots) (k : JW p l e R s mm args below meth c Q G mb sb (nw M (t, z.toNat) z.toNat) (pc + 3) ls (vR (mx M) :: st)) : JW p l e R s mm args below meth c Q G mb sb M pc ls (vI z :: st) := by
  intro H lsA locs hR hM hL hS hl hlo
  obtain ⟨hz32, hS⟩ := gS_cons.mp hS
  obtain ⟨hA, hK, -, -, -, hO7, hO3⟩ := C.2.2.2.2.2.1
  obtain ⟨ha, ha0⟩ := hR.next hA
  obtain ⟨ht, hw⟩ := jAc hk
  have hover : va_AO (jarC t) s := by rcases ht with rfl | rfl; exact hO7; exact hO3
  have hjt : (G.cT t, .object (jarC t)) ∈ jtys G := by rcases ht with rfl | rfl <;> simp [jtys, jarC]
  refine W.anew C.1 C.2.1 C.2.2.2.1 (C.2.2.2.2.1 _ hw) (va_AO.use hover) rfl hd rfl (fun q => by have := (n_lt hz32 z_in).mp q; omega) (by rw [n_cl hz32 hz.1]; omega) (by omega) (by rw [n_cl hz32 hz.1]; omega) fun cA kA comp f1 f2 f3 f4 => ?_
  rw [n_cl hz32 hz.1]
  have hcA : cA = G.cT t := by
    obtain ⟨kA', comp', g1, g2, g3, g4⟩ := (jty_get hjt hK).2
    exact Option.some.inj (f1.symm.trans g4)
  subst hcA
  generalize hH1 : H.push ({ cls := G.cT t, slots := Array.replicate z.toNat .null, vm := .none } : Cell) = H'
  have e2 : H'.size = H.size + 1 := by rw [← hH1, Array.size_push]
  have e1 : H'[H.size]? = some (arrV (G.cT t) z.toNat (fun _ => .null)) := by rw [← hH1, Array.getElem?_push_size, ← arrV_new]
  have e3 : ∀ q : Nat, q < H.size → H'[q]? = H[q]? := fun q hq => by rw [← hH1, Array.getElem?_push, if_neg (Nat.ne_of_lt hq)]
  have hR' : jRep G (nw M (t, z.toNat) z.toNat) H' := by
    refine hR.grow hA e2 e3 (jnew_row (by omega) (by omega) ?_)
    rw [ha, e1]
    congr 2
    funext j
    unfold jelem
    rcases ht with rfl | rfl <;> simp only [rv_nw, if_pos] <;> rfl
  have kk := k H' lsA locs hR' hM.nw hL (gS_cons.mpr ⟨trivial, hS⟩) hl hlo
  rw [mx_nw, ms_nw] at kk
  rw [show mx M - mb + 1 = mx M + 1 - mb by omega, show ms M - sb + z.toNat = ms M + z.toNat - sb by omega]
  rw [← ha, ← jref_ne ha0]
  exact kk
theorem s_new {i cc : Nat} (C : jCtx p R s mm args meth c G m d) (hd : decode m.2.2.1 pc = .ok (.new i, 3)) (hk : lkN m.1 i = some cc) (hmb : mb ≤ mx M ∧ sb ≤ ms M) (hroom : mx M + 1 - mb ≤ R.cells ∧ ms M + jslots cc - sb ≤ R.slots) (k : JW p l e R s mm args below meth c Q G mb sb (nw M (cc, 0) (jslots cc)) (pc + 3) ls (vR (mx M) :: st)) : JW p l e R s mm args below meth c Q G mb sb M pc ls st := by
  intro H lsA locs hR hM hL hS hl hlo
  obtain ⟨hA, hK, -⟩ := C.2.2.2.2.2.1
  obtain ⟨ha, ha0⟩ := hR.next hA
  obtain ⟨q, hq, hw⟩ := jNc hk
  obtain ⟨hin, hty, hnm, -, -, hinst, hini⟩ := jclass_of hq
  have hts := C.2.2.2.2.1
  have hKn := hK.1 cc q hq
  have hsl : jslots cc = q.2.2 := by unfold jslots; rw [hq]
  rw [hsl] at hroom k
  refine W.newcK C.1 C.2.1 C.2.2.2.1 (hts _ hw) (hts _ hinst) (hts _ hini) rfl hd (by omega) (by omega) hKn.2.1 rfl fun H' kC hkC e1 e2 e3 => ?_
  have hR' : jRep G (nw M (cc, 0) q.2.2) H' := by
    refine hR.grow hA e2 e3 ?_
    unfold jnew
    rw [kd_nw, if_pos rfl]
    refine ⟨fun q' hq' => ?_, fun h1 _ => ?_⟩
    · have : q' = q := Option.some.inj (hq'.symm.trans hq)
      subst this
      rw [ha]
      refine (u_born (jty cc) hts hin hKn hkC e1 hty).to (fun j hj => ?_)
      unfold jfv
      rw [iv_nw, lg_nw, rv_nw, if_pos rfl, if_pos rfl, if_pos rfl]
      have hdef : ∀ ty : FieldType, (ty = .int ∨ ty = .boolean ∨ ty = .long ∨ (∃ n, ty = .object n) ∨ ∃ u, ty = .array u) → defaultValue ty = (match ty with | .int => .int (Int32.ofInt 0) | .boolean => .int (Int32.ofInt 0) | .long => .long (Int64.ofInt 0) | _ => jref G 0) := by
        rintro ty (rfl | rfl | rfl | ⟨n, rfl⟩ | ⟨u, rfl⟩) <;> rfl
      exact hdef _ (jtyc_c (jty_ok cc j))
    · have := jcl_lt hq
      omega
  have kk := k H' lsA locs hR' hM.nw hL (gS_cons.mpr ⟨trivial, hS⟩) hl hlo
  rw [mx_nw, ms_nw] at kk
  rw [show mx M - mb + 1 = mx M + 1 - mb by omega, show ms M - sb + q.2.2 = ms M + q.2.2 - sb by omega]
  rw [← ha, ← jref_ne ha0]
  exact kk
end Snd3
