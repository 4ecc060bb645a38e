/-! PERSON of the class throws; the law's own method that catches -/
section Throw
variable {d : Nat} {m : jMe} {pc : Nat} {ls : jLs} {st : List jV} {M M2 : jM}
theorem t_on {ins : Instr} {len pc' : Nat} {ls' : jLs} {st' : List jV} {M' : jM} (hd : decode m.2.2.1 pc = .ok (ins, len)) (h : actI m ins pc ls st M = some (.inl ((pc', ls', st'), M'))) (k : RunT d m pc' ls' st' M' M2) (hj : jlen ins len = true := by rfl) : RunT d m pc ls st M M2 := by
  obtain ⟨n, h1⟩ := k
  exact ⟨n + 1, by rw [exec, act_of hd hj, h]; exact h1⟩
theorem t_call {ins : Instr} {len pc' : Nat} {cal : jMe} {as : List jV} {ls' : jLs} {st' : List jV} {M' : jM} (hd : decode m.2.2.1 pc = .ok (ins, len)) (h : actI m ins pc ls st M = some (.inr (.inl (cal, as, (pc', ls', st'), M')))) (hc : cal.1 ≠ 99) (k : Call d cal as M' (fun r M3 => RunT (d + 1) m pc' ls' (r.toList ++ st') M3 M2)) (hj : jlen ins len = true := by rfl) : RunT (d + 1) m pc ls st M M2 := by
  obtain ⟨n, r, M3, h1, n2, h2⟩ := k
  refine ⟨max n n2 + 1, ?_⟩
  rw [exec, act_of hd hj, h]
  dsimp only
  rw [if_neg hc, exec_le h1 (Nat.le_max_left n n2)]
  exact exec_le h2 (Nat.le_max_right n n2)
theorem t_aload_n {i : Fin 4} {z : Nat} (hd : decode m.2.2.1 pc = .ok (.aload_n i, 1)) (hl : jget ls i.val = some (vR z)) (k : RunT d m (pc + 1) ls (vR z :: st) M M2) : RunT d m pc ls st M M2 := t_on hd (by simp only [actI, jLdR, hl]) k
theorem t_iload_n {i : Fin 4} {z : Int} (hd : decode m.2.2.1 pc = .ok (.iload_n i, 1)) (hl : jget ls i.val = some (vI z)) (k : RunT d m (pc + 1) ls (vI z :: st) M M2) : RunT d m pc ls st M M2 := t_on hd (by simp only [actI, jLdI, hl]) k
theorem t_iconst {z : Int} (hd : decode m.2.2.1 pc = .ok (.iconst z, 1)) (hz : -32768 ≤ z ∧ z ≤ 32767) (k : RunT d m (pc + 1) ls (vI z :: st) M M2) : RunT d m pc ls st M M2 := t_on hd (if_pos hz) k
theorem t_getS {i c j r v : Nat} (hd : decode m.2.2.1 pc = .ok (.getfield i, 3)) (hf : lkF m.1 i = some (c, j, 2)) (ho : jobj M c r = true) (hv : rv M r j = v) (k : RunT d m (pc + 3) ls (vR v :: st) M M2) : RunT d m pc ls (vR r :: st) M M2 := by
  subst hv
  exact t_on hd (by simp only [actI, jGet, hf]; rw [if_pos ho]) k
theorem t_if_eq {x : Int} {off : Int} {tgt : Nat} (hd : decode m.2.2.1 pc = .ok (.ifCond .eq off, 3)) (ht : (pc : Int) + off = (tgt : Int)) (kt : x = 0 → RunT d m tgt ls st M M2) (kf : ¬ (x = 0) → RunT d m (pc + 3) ls st M M2) : RunT d m pc ls (vI x :: st) M M2 := by
  by_cases h : x = 0
  · exact t_on hd (jBr_t ht (by simp only [jholds]; simpa using h)) (kt h)
  · exact t_on hd (jBr_f ht (by simp only [jholds]; simpa using h)) (kf h)
theorem t_if_lt {x : Int} {off : Int} {tgt : Nat} (hd : decode m.2.2.1 pc = .ok (.ifCond .lt off, 3)) (ht : (pc : Int) + off = (tgt : Int)) (kt : x < 0 → RunT d m tgt ls st M M2) (kf : ¬ (x < 0) → RunT d m (pc + 3) ls st M M2) : RunT d m pc ls (vI x :: st) M M2 := by
  by_cases h : x < 0
  · exact t_on hd (jBr_t ht (by simp only [jholds]; simpa using h)) (kt h)
  · exact t_on hd (jBr_f ht (by simp only [jholds]; simpa using h)) (kf h)
theorem t_icmp_le {x y : Int} {off : Int} {tgt : Nat} (hd : decode m.2.2.1 pc = .ok (.if_icmp .le off, 3)) (ht : (pc : Int) + off = (tgt : Int)) (kt : x ≤ y → RunT d m tgt ls st M M2) (kf : ¬ (x ≤ y) → RunT d m (pc + 3) ls st M M2) : RunT d m pc ls (vI y :: vI x :: st) M M2 := by
  by_cases h : x ≤ y
  · exact t_on hd (jBr_t ht (by simp only [jholds]; simpa using h)) (kt h)
  · exact t_on hd (jBr_f ht (by simp only [jholds]; simpa using h)) (kf h)
theorem t_invV {i na r : Nat} {cal : jMe} (hd : decode m.2.2.1 pc = .ok (.invokevirtual i, 3)) (hm : lkM m.1 i = some (0, cal, na)) (hc : cal.1 ≠ 99) (hn : na ≤ st.length) {as q : List jV} (ha : (st.take na).reverse = as) (hq : st.drop na = vR r :: q) (hw : jcat q ≤ 8) (hj : (jargs as).length + 1 ≤ cal.2.2.2.1) (ho : jobj M cal.1 r = true)
    (k : Call d cal (vR r :: as) M (fun r M3 => RunT (d + 1) m (pc + 3) ls (r.toList ++ q) M3 M2)) : RunT (d + 1) m pc ls st M M2 := by
  subst ha
  refine t_call hd ?_ hc k
  have hq2 : st.drop (na + 1) = q := by
    have := congrArg (List.drop 1) hq
    rwa [List.drop_drop] at this
  simp only [actI, jCall, hm]
  rw [if_pos ⟨trivial, hn, (show jcat (st.drop (na + 1)) ≤ 8 by rw [hq2]; exact hw), hj⟩, hq]
  simp only [if_pos ho]
theorem noN : lkN 10 183 = none := by rfl
theorem t_newT {ls : jLs} (hd : decode mX10_person.2.2.1 20 = .ok (.new 183, 3)) : RunT d mX10_person 20 ls [] M (jexc M) := by
  have h : actI mX10_person (.new 183) 20 ls [] M = some (.inr (.inr (.inr ((20, ls, []), M)))) := by
    show jNew 10 183 20 ls [] M = _
    unfold jNew
    rw [noN]
    exact if_pos ⟨rfl, rfl, rfl, rfl⟩
  exact ⟨1, by rw [exec, act_of hd (by rfl), h]⟩
theorem X_throw {W : kW} {p w : Int} (hd : 9 ≤ d) (hX : CX M W) (hv : ¬ okPer W p w) : RunT d mX10_person 0 (jentry [vR 6, vI p, vI w] mX10_person.2.2.2.1) [] M (jexc M) := by
  obtain ⟨e, rfl⟩ := dd (d := d) (by omega)
  have hS := hX.shp
  show RunT (e + 1) mX10_person 0 [some (vR 6), some (vI p), some (vI w), none, none] [] M (jexc M)
  have th : RunT (e + 1) mX10_person 20 [some (vR 6), some (vI p), some (vI w), none, none] [] M (jexc M) := t_newT dX10_person_20
  refine t_aload_n dX10_person_0 rfl ?_
  refine t_getS (v := 29) dX10_person_1 kF10_50 (sh_o hS kk6 (by decide)) (sh_f hS rr6_9 (by decide)) ?_
  refine t_iload_n dX10_person_4 rfl ?_
  refine t_invV dX10_person_5 kM10_179 (by decide) (Nat.le_of_ble_eq_true rfl) (as := [vI p]) (q := []) rfl rfl (Nat.le_of_ble_eq_true rfl) (Nat.le_of_ble_eq_true rfl) (sh_o hS kk29 (by decide)) (i_has (by omega) hS ?_)
  show RunT (e + 1) mX10_person 8 [some (vR 6), some (vI p), some (vI w), none, none] [vI (if 0 ≤ p ∧ p < iv M 29 0 then 1 else 0)] M (jexc M)
  refine t_if_eq (tgt := 20) dX10_person_8 rfl (fun _ => th) (fun c1 => ?_)
  rw [i01, hX.np] at c1
  refine t_iload_n dX10_person_11 rfl ?_
  refine t_if_lt (tgt := 20) dX10_person_12 rfl (fun _ => th) (fun c2 => ?_)
  refine t_iload_n dX10_person_15 rfl ?_
  refine t_iconst dX10_person_16 (by decide) ?_
  refine t_icmp_le (tgt := 30) dX10_person_17 rfl (fun c3 => ?_) (fun _ => th)
  refine absurd ?_ hv
  have c1 := Classical.not_not.mp c1
  exact ⟨c1.1, c1.2, by omega, c3⟩
end Throw
/-- the law -/
noncomputable abbrev mL_law : jMe := (12, yL_law, cL_law, 7, some .boolean)
section Pers
variable {d pc o x : Nat} {p0 p1 : Int} {ls : jLs} {q : List jV} {M M2 : jM} {Q : Option jV → jM → Prop}
theorem act_pers (ho : jobj M 10 x = true ∧ jIdx M 21 o 0 = true ∧ 6 ≤ o ∧ 6 ≤ x ∧ jcat q ≤ 8) : actI mL_law (.invokestatic 42) pc ls (vR o :: vI p1 :: vI p0 :: vR x :: q) M = some (.inr (.inl (mL_person, [vR x, vI p0, vI p1, vR o], (pc + 3, ls, q), M))) := by
  show jStac 12 42 pc ls _ M = _
  unfold jStac
  rw [if_pos ⟨rfl, rfl⟩]
  exact if_pos ho
theorem r_persK (hd : decode mL_law.2.2.1 pc = .ok (.invokestatic 42, 3)) (ho : jobj M 10 x = true ∧ jIdx M 21 o 0 = true ∧ 6 ≤ o ∧ 6 ≤ x ∧ jcat q ≤ 8) (k : Call d mX10_person [vR x, vI p0, vI p1] M (fun r M2 => ∃ z : Int, r = some (vI z) ∧ Run (d + 1 + 1) mL_law (pc + 3) ls (vI 0 :: q) (sl M2 o 0 z) Q)) : Run (d + 1 + 1) mL_law pc ls (vR o :: vI p1 :: vI p0 :: vR x :: q) M Q := by
  obtain ⟨n, r, M2, h1, z, rfl, n2, r2, M3, h2, hq⟩ := k
  refine ⟨max n n2 + 1, r2, M3, ?_, hq⟩
  rw [exec, act_of hd (by rfl), act_pers ho]
  dsimp only
  rw [if_pos (show mL_person.1 = 99 from rfl)]
  have h1' := exec_le h1 (Nat.le_max_left n n2)
  rw [h1']
  exact exec_le h2 (Nat.le_max_right n n2)
theorem r_persT (hd : decode mL_law.2.2.1 pc = .ok (.invokestatic 42, 3)) (ho : jobj M 10 x = true ∧ jIdx M 21 o 0 = true ∧ 6 ≤ o ∧ 6 ≤ x ∧ jcat q ≤ 8) (t : RunT d mX10_person 0 (jentry [vR x, vI p0, vI p1] mX10_person.2.2.2.1) [] M M2) (k : Run (d + 1 + 1) mL_law (pc + 3) ls (vI 1 :: q) M2 Q) : Run (d + 1 + 1) mL_law pc ls (vR o :: vI p1 :: vI p0 :: vR x :: q) M Q := by
  obtain ⟨n, h1⟩ := t
  obtain ⟨n2, r2, M3, h2, hq⟩ := k
  refine ⟨max n n2 + 1, r2, M3, ?_, hq⟩
  rw [exec, act_of hd (by rfl), act_pers ho]
  dsimp only
  rw [if_pos (show mL_person.1 = 99 from rfl)]
  have h1' := exec_le h1 (Nat.le_max_left n n2)
  rw [h1']
  exact exec_le h2 (Nat.le_max_right n n2)
end Pers
