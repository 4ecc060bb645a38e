/-! each instruction over the machine: fields, rows, new cells -/
theorem mx_si {M : jM} {r i : Nat} {z : Int} : mx (si M r i z) = mx M := rfl
theorem mx_sl {M : jM} {r i : Nat} {z : Int} : mx (sl M r i z) = mx M := rfl
theorem mx_sr {M : jM} {r i z : Nat} : mx (sr M r i z) = mx M := rfl
theorem ms_si {M : jM} {r i : Nat} {z : Int} : ms (si M r i z) = ms M := rfl
theorem ms_sl {M : jM} {r i : Nat} {z : Int} : ms (sl M r i z) = ms M := rfl
theorem ms_sr {M : jM} {r i z : Nat} : ms (sr M r i z) = ms M := rfl
theorem kd_si {M : jM} {r i : Nat} {z : Int} : kd (si M r i z) = kd M := rfl
theorem kd_sl {M : jM} {r i : Nat} {z : Int} : kd (sl M r i z) = kd M := rfl
theorem kd_sr {M : jM} {r i z : Nat} : kd (sr M r i z) = kd M := rfl
theorem iv_si {M : jM} {r i r' i' : Nat} {z : Int} : iv (si M r i z) r' i' = if r' = r ∧ i' = i then z else iv M r' i' := rfl
theorem lg_si {M : jM} {r i : Nat} {z : Int} : lg (si M r i z) = lg M := rfl
theorem rv_si {M : jM} {r i : Nat} {z : Int} : rv (si M r i z) = rv M := rfl
theorem iv_sl {M : jM} {r i : Nat} {z : Int} : iv (sl M r i z) = iv M := rfl
theorem lg_sl2 {M : jM} {r i r' i' : Nat} {z : Int} : lg (sl M r i z) r' i' = if r' = r ∧ i' = i then z else lg M r' i' := rfl
theorem rv_sl {M : jM} {r i : Nat} {z : Int} : rv (sl M r i z) = rv M := rfl
theorem iv_sr {M : jM} {r i z : Nat} : iv (sr M r i z) = iv M := rfl
theorem lg_sr {M : jM} {r i z : Nat} : lg (sr M r i z) = lg M := rfl
theorem rv_sr {M : jM} {r i z r' i' : Nat} : rv (sr M r i z) r' i' = if r' = r ∧ i' = i then z else rv M r' i' := rfl
theorem mx_nw {M : jM} {k : Nat × Nat} {n : Nat} : mx (nw M k n) = mx M + 1 := rfl
theorem ms_nw {M : jM} {k : Nat × Nat} {n : Nat} : ms (nw M k n) = ms M + n := rfl
theorem kd_nw {M : jM} {k : Nat × Nat} {n r : Nat} : kd (nw M k n) r = if r = mx M then k else kd M r := rfl
theorem iv_nw {M : jM} {k : Nat × Nat} {n r i : Nat} : iv (nw M k n) r i = if r = mx M then 0 else iv M r i := rfl
theorem lg_nw {M : jM} {k : Nat × Nat} {n r i : Nat} : lg (nw M k n) r i = if r = mx M then 0 else lg M r i := rfl
theorem rv_nw {M : jM} {k : Nat × Nat} {n r i : Nat} : rv (nw M k n) r i = if r = mx M then 0 else rv M r i := rfl
theorem gM.si {M : jM} {r i : Nat} {z : Int} (h : gM M) (hz : i32 z) : gM (si M r i z) := by
  intro r' i'
  refine ⟨?_, (h r' i').2⟩
  rw [iv_si]
  split
  · exact hz
  · exact (h r' i').1
theorem gM.sl {M : jM} {r i : Nat} {z : Int} (h : gM M) (hz : i64 z) : gM (sl M r i z) := by
  intro r' i'
  refine ⟨(h r' i').1, ?_⟩
  rw [lg_sl2]
  split
  · exact hz
  · exact (h r' i').2
theorem gM.sr {M : jM} {r i z : Nat} (h : gM M) : gM (sr M r i z) := h
theorem gM.nw {M : jM} {k : Nat × Nat} {n : Nat} (h : gM M) : gM (nw M k n) := by
  intro r i
  rw [iv_nw, lg_nw]
  split
  · exact ⟨z_in, i32_64 z_in⟩
  · exact h r i
theorem jfv_eq {G : jG} {M M' : jM} {c r k : Nat} (h1 : iv M' r k = iv M r k) (h2 : lg M' r k = lg M r k) (h3 : rv M' r k = rv M r k) : jfv G M' c r k = jfv G M c r k := by
  unfold jfv
  rw [h1, h2, h3]
theorem jelem_eq {G : jG} {M M' : jM} {t r : Nat} (h : ∀ i, iv M' r i = iv M r i ∧ lg M' r i = lg M r i ∧ rv M' r i = rv M r i) : jelem G M' t r = jelem G M t r := by
  funext j
  unfold jelem
  rw [(h j).1, (h j).2.1, (h j).2.2]
theorem jnew.kept {G : jG} {M M' : jM} {H H' : Heap} {r : Nat} (h : jnew G M H r) (hk : kd M' r = kd M r) (hv : ∀ i, iv M' r i = iv M r i ∧ lg M' r i = lg M r i ∧ rv M' r i = rv M r i) (hH : H'[G.ad r]? = H[G.ad r]?) : jnew G M' H' r := by
  unfold jnew
  rw [hk, hH, jelem_eq hv]
  exact ⟨fun q hq => ((h.1 q hq).kept hH).to (fun k _ => (jfv_eq (hv k).1 (hv k).2.1 (hv k).2.2).symm), h.2⟩
theorem jold.kept {G : jG} {M M' : jM} {H H' : Heap} {r : Nat} (h : jold G M H r) (hk : kd M' r = kd M r) (hv : ∀ i, iv M' r i = iv M r i) (hH : H'[G.ad r]? = H[G.ad r]?) : jold G M' H' r := by
  unfold jold
  rw [hk, hH]
  simp only [hv]
  exact h
theorem jRep.upd {G : jG} {M M' : jM} {H H' : Heap} {r : Nat} (hR : jRep G M H) (hA : ∀ r : Nat, 6 ≤ r → G.ad r = G.bs + (r - 6)) (h6 : 6 ≤ r) (hmx : mx M' = mx M) (hkd : ∀ r', kd M' r' = kd M r') (hv : ∀ r', r' ≠ r → ∀ i, iv M' r' i = iv M r' i ∧ lg M' r' i = lg M r' i ∧ rv M' r' i = rv M r' i) (hz : H'.size = H.size) (ho : ∀ q : Nat, q ≠ G.ad r → H'[q]? = H[q]?) (hn : jnew G M' H' r) : jRep G M' H' := by
  obtain ⟨g1, g2, g3, g4, g5⟩ := hR
  have har : G.ad r = G.bs + (r - 6) := hA r h6
  refine ⟨by rw [hmx]; exact g1, by rw [hmx, hz]; exact g2, fun q hq => ?_, fun r' h1 h2 => ?_, fun r' h1 h2 => ?_⟩
  · rw [ho q (by omega)]; exact g3 q hq
  · have := (g4 r' h1 h2).2.1
    exact (g4 r' h1 h2).kept (hkd r') (fun i => (hv r' (by omega) i).1) (ho _ (by omega))
  · by_cases he : r' = r
    · subst he; exact hn
    · rw [hmx] at h2
      have := hA r' h1
      exact (g5 r' h1 h2).kept (hkd r') (hv r' he) (ho _ (by omega))
theorem jRep.grow {G : jG} {M : jM} {k : Nat × Nat} {n : Nat} {H H' : Heap} (hR : jRep G M H) (hA : ∀ r : Nat, 6 ≤ r → G.ad r = G.bs + (r - 6)) (hz : H'.size = H.size + 1) (ho : ∀ q : Nat, q < H.size → H'[q]? = H[q]?) (hn : jnew G (nw M k n) H' (mx M)) : jRep G (nw M k n) H' := by
  obtain ⟨g1, g2, g3, g4, g5⟩ := hR
  refine ⟨by rw [mx_nw]; omega, by rw [mx_nw, hz, g2]; omega, fun q hq => ?_, fun r' h1 h2 => ?_, fun r' h1 h2 => ?_⟩
  · rw [ho q (by omega)]; exact g3 q hq
  · have := (g4 r' h1 h2).2.1
    refine (g4 r' h1 h2).kept ?_ (fun i => ?_) (ho _ (by omega))
    · rw [kd_nw, if_neg (by omega)]
    · rw [iv_nw, if_neg (by omega)]
  · by_cases he : r' = mx M
    · subst he; exact hn
    · rw [mx_nw] at h2
      have := hA r' h1
      refine (g5 r' h1 (by omega)).kept ?_ (fun i => ?_) (ho _ (by omega))
      · rw [kd_nw, if_neg he]
      · rw [iv_nw, lg_nw, rv_nw, if_neg he, if_neg he, if_neg he]; exact ⟨rfl, rfl, rfl⟩
/-- the address of the next new cell -/
theorem jRep.next {G : jG} {M : jM} {H : Heap} (hR : jRep G M H) (hA : ∀ r : Nat, 6 ≤ r → G.ad r = G.bs + (r - 6)) : G.ad (mx M) = H.size ∧ mx M ≠ 0 := by
  obtain ⟨g1, g2, -⟩ := hR
  exact ⟨by rw [hA _ g1, g2], by omega⟩
theorem jobj_spec {M : jM} {c r : Nat} (h : jobj M c r = true) : r ≠ 0 ∧ r < mx M ∧ (kd M r).1 = c := by
  unfold jobj at h
  simp only [Bool.and_eq_true, decide_eq_true_eq] at h
  exact ⟨h.1.1, h.1.2, h.2⟩
theorem jIdx_spec {M : jM} {t r : Nat} {z : Int} (h : jIdx M t r z = true) : r ≠ 0 ∧ r < mx M ∧ (kd M r).1 = t ∧ 0 ≤ z ∧ z < (kd M r).2 := by
  unfold jIdx at h
  simp only [Bool.and_eq_true, decide_eq_true_eq] at h
  exact ⟨h.1.1.1.1, h.1.1.1.2, h.1.1.2, h.1.2, h.2⟩
theorem jcl_lt {c : Nat} {q : vw_C} (h : jcl[c]? = some q) : c < 12 := (List.getElem?_eq_some_iff.mp h).1
theorem jRep.ob {G : jG} {M : jM} {H : Heap} {c r : Nat} {q : vw_C} (hR : jRep G M H) (hc : jcl[c]? = some q) (ho : jobj M c r = true) : 6 ≤ r ∧ r < mx M ∧ (kd M r).1 = c ∧ t_OB (G.ad r) (G.D.1 c) q.2.2 (G.D.2 c) H (jfv G M c r) := by
  obtain ⟨h0, h1, h2⟩ := jobj_spec ho
  obtain ⟨g1, g2, g3, g4, g5⟩ := hR
  have hlt := jcl_lt hc
  have h6 : 6 ≤ r := by
    rcases Nat.lt_or_ge r 6 with h | h
    · have := (g4 r h0 h).2.2.1; omega
    · exact h
  subst h2
  exact ⟨h6, h1, rfl, (g5 r h6 h1).1 q hc⟩
theorem jtyok_c {ty : FieldType} {t : Nat} (h : jtyok ty t = true) : (ty = .int ∧ t = 0) ∨ (ty = .boolean ∧ t = 3) ∨ (ty = .long ∧ t = 1) ∨ (∃ n, ty = .object n ∧ t = 2) ∨ (∃ u, ty = .array u ∧ t = 2) := by
  unfold jtyok at h
  split at h
  · exact Or.inl ⟨rfl, rfl⟩
  · exact Or.inr (Or.inl ⟨rfl, rfl⟩)
  · exact Or.inr (Or.inr (Or.inl ⟨rfl, rfl⟩))
  · exact Or.inr (Or.inr (Or.inr (Or.inl ⟨_, rfl, rfl⟩)))
  · exact Or.inr (Or.inr (Or.inr (Or.inr ⟨_, rfl, rfl⟩)))
  · cases h
theorem nb0 : narrow .boolean (.int (Int32.ofInt 0)) = .int (Int32.ofInt 0) ∧ fits .boolean (.int (Int32.ofInt 0)) = true := by first | exact ⟨rfl, rfl⟩ | decide
theorem nb1 : narrow .boolean (.int (Int32.ofInt 1)) = .int (Int32.ofInt 1) ∧ fits .boolean (.int (Int32.ofInt 1)) = true := by first | exact ⟨rfl, rfl⟩ | decide
section Snd2
variable {p : Program} {l : Launch} {e : Env} {R : Room} {s : State} {mm : MethodId} {args : Array Value} {below : List Frame} {meth : Method} {c : Code} {Q : State → Prop} {G : jG} {mb sb : Nat} {m : jMe} {d : Nat} {M : jM} {pc : Nat} {ls : jLs} {st : List jV}
theorem s_getv {i cc k t r : Nat} {v : jV} (C : jCtx p R s mm args meth c G m d) (hd : decode m.2.2.1 pc = .ok (.getfield i, 3)) (hf : lkF m.1 i = some (cc, k, t)) (ho : jobj M cc r = true) (hv : (t = 1 ∧ v = vL (lg M r k)) ∨ (t = 2 ∧ v = vR (rv M r k)) ∨ (t ≠ 1 ∧ t ≠ 2 ∧ v = vI (iv M r k))) (k2 : JW p l e R s mm args below meth c Q G mb sb M (pc + 3) ls (v :: st)) : JW p l e R s mm args below meth c Q G mb sb M pc ls (vR r :: st) := by
  intro H lsA locs hR hM hL hS hl hlo
  have hS := (gS_cons.mp hS).2
  obtain ⟨q, hc, hk, ht, hw⟩ := jF hf
  obtain ⟨h6, hr, -, cell, q1, q2, q3, q4⟩ := hR.ob hc ho
  have hgv : gV v := by
    rcases hv with ⟨-, rfl⟩ | ⟨-, rfl⟩ | ⟨-, -, rfl⟩
    · exact (hM r k).2
    · trivial
    · exact (hM r k).1
  have hval : jfv G M cc r k = jval G v := by
    unfold jfv
    rcases jtyok_c ht with ⟨hty, h9⟩ | ⟨hty, h9⟩ | ⟨hty, h9⟩ | ⟨_, hty, h9⟩ | ⟨_, hty, h9⟩ <;> rw [hty] <;> rcases hv with ⟨h1, rfl⟩ | ⟨h1, rfl⟩ | ⟨h1, h2, rfl⟩ <;> first | rfl | omega
  have kk := k2 H lsA locs hR hM hL (gS_cons.mpr ⟨hgv, hS⟩) hl hlo
  obtain ⟨hx, hb, hml, hown, hts, ⟨hA, hK, -, -, hN, -⟩, -⟩ := C
  obtain ⟨hSl, hfc, kC, hkC, hkind⟩ := hK.1 cc q hc
  obtain ⟨cf, kf, fi, f, hi, hsl⟩ := hSl k hk
  obtain ⟨hin, -, -, -, -⟩ := jclass_of hc
  have hst := (u_facts hfc hkC (u_lays hts hin hk) hi).1
  show W p l e R s mm args below meth c H locs _ _ Q (F0 mm pc lsA (jref G r :: st.map (jval G)))
  rw [jref_ne (show r ≠ 0 by omega)]
  have hslot : cell.slots[f.slot]? = some (jval G v) := by rw [hsl, q4 k hk, hval]
  have hkn : cell.vm ≠ .unknown := by rw [q3]; exact fun h => by cases h
  rcases hw with hw | ⟨hw, -⟩
  · exact W.getf hx hb hown (hts _ hw) hi hst q1 hkn hslot rfl rfl hd kk
  · exact va_Wgetf hx hb hown (va_Nw.use rfl (hN _ hw)) hi hst q1 hkn hslot rfl rfl hd kk
theorem s_putv {i cc k t r : Nat} {v : jV} {M' : jM} (C : jCtx p R s mm args meth c G m d) (hd : decode m.2.2.1 pc = .ok (.putfield i, 3)) (hf : lkF m.1 i = some (cc, k, t)) (ho : jobj M cc r = true) (hn : jfin cc k = false ∨ (m.1 = cc ∧ m.2.1.name = "<init>")) (hv : (t = 1 ∧ ∃ z, v = vL z ∧ M' = sl M r k z) ∨ (t = 2 ∧ ∃ z, v = vR z ∧ M' = sr M r k z) ∨ (t = 0 ∧ ∃ z, v = vI z ∧ M' = si M r k z) ∨ (t = 3 ∧ ∃ z, v = vI z ∧ M' = si M r k z ∧ (z = 0 ∨ z = 1))) (k2 : JW p l e R s mm args below meth c Q G mb sb M' (pc + 3) ls st) : JW p l e R s mm args below meth c Q G mb sb M pc ls (v :: vR r :: st) := by
  intro H lsA locs hR hM hL hS hl hlo
  obtain ⟨hgv, hS⟩ := gS_cons.mp hS
  have hS := (gS_cons.mp hS).2
  obtain ⟨q, hc, hk, ht, hw⟩ := jF hf
  obtain ⟨h6, hr, hkd, cell, q1, q2, q3, q4⟩ := hR.ob hc ho
  obtain ⟨hx, hb, hml, hown, hts, ⟨hA, hK, -, -, hN, -⟩, hname, -⟩ := C
  obtain ⟨hSl, hfc, kC, hkC, hkind⟩ := hK.1 cc q hc
  obtain ⟨cf, kf, fi, f, hi, hsl⟩ := hSl k hk
  obtain ⟨hin, hty, hnm, hdecl, hownc, -⟩ := jclass_of hc
  have hst := (u_facts hfc hkC (u_lays hts hin hk) hi).1
  have hap := va_apart (own := q.1) hts hin (jty cc) hty hnm hK hc
  have hlay := hts _ (hin _ (u_in_lay hk))
  have hmx : mx M' = mx M ∧ ms M' = ms M ∧ (∀ r', kd M' r' = kd M r') ∧ gM M' ∧ (∀ r', r' ≠ r → ∀ i, iv M' r' i = iv M r' i ∧ lg M' r' i = lg M r' i ∧ rv M' r' i = rv M r' i) := by
    rcases hv with ⟨-, z, rfl, rfl⟩ | ⟨-, z, rfl, rfl⟩ | ⟨-, z, rfl, rfl⟩ | ⟨-, z, rfl, rfl, -⟩
    · exact ⟨rfl, rfl, fun _ => rfl, hM.sl hgv, fun r' h i => ⟨rfl, by rw [lg_sl2, if_neg (fun q => h q.1)], rfl⟩⟩
    · exact ⟨rfl, rfl, fun _ => rfl, hM.sr, fun r' h i => ⟨rfl, rfl, by rw [rv_sr, if_neg (fun q => h q.1)]⟩⟩
    · exact ⟨rfl, rfl, fun _ => rfl, hM.si hgv, fun r' h i => ⟨by rw [iv_si, if_neg (fun q => h q.1)], rfl, rfl⟩⟩
    · exact ⟨rfl, rfl, fun _ => rfl, hM.si hgv, fun r' h i => ⟨by rw [iv_si, if_neg (fun q => h q.1)], rfl, rfl⟩⟩
  obtain ⟨e1, e2, e3, e4, e5⟩ := hmx
  have hnf : narrow (jty cc k) (jval G v) = jval G v ∧ fits (jty cc k) (jval G v) = true := by
    rcases jtyok_c ht with ⟨hty2, h9⟩ | ⟨hty2, h9⟩ | ⟨hty2, h9⟩ | ⟨_, hty2, h9⟩ | ⟨_, hty2, h9⟩ <;> rw [hty2] <;> rcases hv with ⟨h1, z, rfl, -⟩ | ⟨h1, z, rfl, -⟩ | ⟨h1, z, rfl, -⟩ | ⟨h1, z, rfl, -, hz⟩ <;> first | omega | exact ⟨rfl, rfl⟩ | (cases z <;> exact ⟨rfl, rfl⟩) | (rcases hz with rfl | rfl <;> first | exact nb0 | exact nb1)
  have hfv : ∀ j, j < q.2.2 → updV (jfv G M cc r) k (jval G v) j = jfv G M' cc r j := by
    intro j hj
    unfold updV
    by_cases hjk : j = k
    · subst hjk
      rw [if_pos rfl]
      unfold jfv
      rcases jtyok_c ht with ⟨hty2, h9⟩ | ⟨hty2, h9⟩ | ⟨hty2, h9⟩ | ⟨_, hty2, h9⟩ | ⟨_, hty2, h9⟩ <;> rw [hty2] <;> rcases hv with ⟨h1, z, rfl, rfl⟩ | ⟨h1, z, rfl, rfl⟩ | ⟨h1, z, rfl, rfl⟩ | ⟨h1, z, rfl, rfl, hz⟩ <;> first | omega | simp [jval, iv_si, lg_sl2, rv_sr]
    · rw [if_neg hjk]
      rcases hv with ⟨h1, z, rfl, rfl⟩ | ⟨h1, z, rfl, rfl⟩ | ⟨h1, z, rfl, rfl⟩ | ⟨h1, z, rfl, rfl, hz⟩ <;> refine (jfv_eq ?_ ?_ ?_).symm <;> simp [iv_si, lg_sl2, rv_sr, lg_si, rv_si, iv_sl, rv_sl, iv_sr, lg_sr, hjk]
  show W p l e R s mm args below meth c H locs _ _ Q (F0 mm pc lsA (jval G v :: jref G r :: st.map (jval G)))
  rw [jref_ne (show r ≠ 0 by omega)]
  have har := hA r h6
  have fin : ∀ H' : Heap, H'[G.ad r]? = some (cell.setSlot f.slot (jval G v)) → H'.size = H.size → (∀ q, q ≠ G.ad r → H'[q]? = H[q]?) → W p l e R s mm args below meth c H' (locs ++ [⟨G.ad r, f.slot⟩]) (mx M - mb) (ms M - sb) Q (F0 mm (pc + 3) lsA (st.map (jval G))) := by
    intro H' f1 f2 f3
    have hnew : jnew G M' H' r := by
      refine ⟨fun q' hq' => ?_, fun h1 h2 => ?_⟩
      · rw [e3, hkd] at hq' ⊢
        have : q' = q := Option.some.inj (hq'.symm.trans hc)
        subst this
        rw [hsl] at f1
        exact t_OB.to (V := updV (jfv G M cc r) k (jval G v)) ⟨_, f1, q2, q3, t_set q4 hap hk _⟩ hfv
      · rw [e3, hkd] at h1
        have := jcl_lt hc
        omega
    have hR' := hR.upd hA h6 e1 e3 e5 f2 f3 hnew
    have kk := k2 H' lsA (locs ++ [⟨G.ad r, f.slot⟩]) hR' e4 hL hS hl (fun q hq => by
      rcases List.mem_append.mp hq with h | h
      · exact hlo q h
      · rw [List.mem_singleton.mp h]
        show G.bs ≤ G.ad r
        omega)
    rw [e1, e2] at kk
    exact kk
  have hlt : f.slot < cell.slots.size := by rw [hsl]; exact k2_hasslot (q4 k hk)
  cases hfin : (q.2.1 k).2.2.2 with
  | false =>
    unfold u_lay at hlay
    rw [if_neg (by rw [hfin]; decide)] at hlay
    have h6 := u_store hfc hkC hkind hlay hi (hty k hk) hnf.1 hnf.2
    rcases hw with hw | ⟨hw, -⟩
    · exact W.putK hx hb (f := f) ⟨hown, hts _ hw, ⟨_, _, _, hi⟩, hst⟩ (by rw [q2]; exact h6) q1 q3 hlt rfl rfl hd fin
    · exact va_WputK hx hb (f := f) hown (va_Nw.use rfl (hN _ hw)) hi hst (by rw [q2]; exact h6) q1 q3 hlt rfl rfl hd fin
  | true =>
    have hj : jfin cc k = true := by unfold jfin; rw [hc]; exact hfin
    rcases hn with hn | ⟨hn1, hn2⟩
    · rw [hj] at hn; cases hn
    unfold u_lay at hlay
    rw [if_pos hfin] at hlay
    have hcf : mm.cls = cf := by
      obtain ⟨_, _, c', _, _, _, -, -, hf', -, -, -, hown2, -⟩ := Cond.laysFinal_spec hlay
      have g1 : c' = cf := by have := hi.symm.trans hf'; simp at this; exact this.1.symm
      rw [hdecl k hk, ← hownc, ← hn1] at hown2
      rw [← g1]; exact Option.some.inj (hown.symm.trans hown2)
    have h6 := u_fits hfc hkC hkind (Or.inr hlay) hi (hty k hk) hnf.1 hnf.2
    rcases hw with hw | ⟨hw, hne⟩
    · exact W.putFinK hx hb hown (hts _ hw) hi hst hcf (hname hn2) (by rw [q2]; exact h6) q1 q3 hlt rfl rfl hd fin
    · exact absurd hn1 hne
theorem s_ldc {i : Nat} {z : Int} (C : jCtx p R s mm args meth c G m d) (hd : decode m.2.2.1 pc = .ok (.ldc i, 2)) (hk : lkK m.1 i = some z) (k : JW p l e R s mm args below meth c Q G mb sb M (pc + 2) ls (vI z :: st)) : JW p l e R s mm args below meth c Q G mb sb M pc ls st := by
  intro H lsA locs hR hM hL hS hl hlo
  exact lv_ldc C.1 C.2.1 C.2.2.2.1 (C.2.2.2.2.1 _ (jKc hk).1) hd (k H lsA locs hR hM hL (gS_cons.mpr ⟨(jKc hk).2, hS⟩) hl hlo)
theorem s_ldc_w {i : Nat} {z : Int} (C : jCtx p R s mm args meth c G m d) (hd : decode m.2.2.1 pc = .ok (.ldc_w i, 3)) (hk : lkK m.1 i = some z) (k : JW p l e R s mm args below meth c Q G mb sb M (pc + 3) ls (vI z :: st)) : JW p l e R s mm args below meth c Q G mb sb M pc ls st := by
  intro H lsA locs hR hM hL hS hl hlo
  exact lv_ldcw C.1 C.2.1 C.2.2.2.1 (C.2.2.2.2.1 _ (jKc hk).1) hd (k H lsA locs hR hM hL (gS_cons.mpr ⟨(jKc hk).2, hS⟩) hl hlo)
theorem s_ldc2 {i : Nat} {z : Int} (C : jCtx p R s mm args meth c G m d) (hd : decode m.2.2.1 pc = .ok (.ldc2_w i, 3)) (hk : lkL m.1 i = some z) (k : JW p l e R s mm args below meth c Q G mb sb M (pc + 3) ls (vL z :: st)) : JW p l e R s mm args below meth c Q G mb sb M pc ls st := by
  intro H lsA locs hR hM hL hS hl hlo
  exact lv_ldc2 C.1 C.2.1 C.2.2.2.1 (C.2.2.2.2.1 _ (jLc hk).1) hd (k H lsA locs hR hM hL (gS_cons.mpr ⟨(jLc hk).2, hS⟩) hl hlo)
theorem s_stat {i r : Nat} (C : jCtx p R s mm args meth c G m d) (hd : decode m.2.2.1 pc = .ok (.getstatic i, 3)) (hs : lkS m.1 i = some r) (k : JW p l e R s mm args below meth c Q G mb sb M (pc + 3) ls (vR r :: st)) : JW p l e R s mm args below meth c Q G mb sb M pc ls st := by
  intro H lsA locs hR hM hL hS hl hlo
  have kk := k H lsA locs hR hM hL (gS_cons.mpr ⟨trivial, hS⟩) hl hlo
  obtain ⟨n, hn, hw⟩ := jSc hs
  obtain ⟨hx, hb, hml, hown, hts, ⟨hA, hK, -, hZ, hN, -⟩, -⟩ := C
  have hr : r ≠ 0 := by
    simp only [jnames, List.mem_cons, Prod.mk.injEq, List.not_mem_nil, or_false] at hn
    omega
  obtain ⟨cf, kf, fi, f, a, cell, h1, h2, h3, h4, h5, h6, h7, h8⟩ := hZ _ hn
  have ha : a < G.bs := by omega
  refine W.gets hx hb hown (hts _ hw) h1 h2 h3 h4 (by rw [hR.2.2.1 a ha]; exact h5) (fun e => by rw [e] at h6; cases h6) h7 rfl hd ?_
  show W p l e R s mm args below meth c H locs _ _ Q (F0 mm (pc + 3) lsA (Value.ref (G.ad r) :: st.map (jval G)))
  rw [← jref_ne hr]
  exact kk
end Snd2
