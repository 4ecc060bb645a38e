/-! runs: more fuel and more depth change nothing; rules, one an instruction -/
theorem exec_step {n d : Nat} {m : jMe} {fr : jFr} {M : jM} {x : jOut} (ih : ∀ d m fr M x, exec n d m fr M = some x → exec (n + 1) d m fr M = some x) (h : exec (n + 1) d m fr M = some x) : exec (n + 2) d m fr M = some x := by
  rw [exec] at h ⊢
  generalize act m fr M = a at h ⊢
  rcases a with _ | ⟨fr', M'⟩ | ⟨cal, as, fr', M'⟩ | ⟨r, M'⟩ | ⟨q, M'⟩
  · exact h
  · exact ih _ _ _ _ _ h
  · cases d with
    | zero => exact h
    | succ d =>
      dsimp only at h ⊢
      split at h
      · rename_i hc
        rw [if_pos hc]
        split at h
        · rename_i d'' x p0 p1 o
          cases hx : exec n d'' mX10_person (0, jentry [x, p0, p1] mX10_person.2.2.2.1, []) M' with
          | none => rw [hx] at h; exact absurd h (by simp)
          | some y =>
            rw [hx] at h
            rw [ih _ _ _ _ _ hx]
            rcases y with ⟨(_ | (z | z)) | u, M2⟩
            · exact absurd h (by simp)
            · exact ih _ _ _ _ _ h
            · exact absurd h (by simp)
            · exact ih _ _ _ _ _ h
        · exact absurd h (by simp)
      · rename_i hc
        rw [if_neg hc]
        cases hx : exec n d cal (0, jentry as cal.2.2.2.1, []) M' with
        | none => rw [hx] at h; exact absurd h (by simp)
        | some y =>
          rw [hx] at h
          rw [ih _ _ _ _ _ hx]
          rcases y with ⟨r | u, M2⟩
          · exact ih _ _ _ _ _ h
          · exact absurd h (by simp)
  · exact h
  · exact h
theorem exec_suc : ∀ (n d : Nat) (m : jMe) (fr : jFr) (M : jM) (x : jOut), exec n d m fr M = some x → exec (n + 1) d m fr M = some x := by
  intro n
  induction n with
  | zero => intro d m fr M x h; exact absurd h (by simp [exec])
  | succ n ih => intro d m fr M x h; exact exec_step ih h
theorem exec_le {n k d : Nat} {m : jMe} {fr : jFr} {M : jM} {x : jOut} (h : exec n d m fr M = some x) (hk : n ≤ k) : exec k d m fr M = some x := by
  induction k with
  | zero =>
    have : n = 0 := by omega
    subst this; exact h
  | succ k ih =>
    by_cases hn : n = k + 1
    · subst hn; exact h
    · exact exec_suc _ _ _ _ _ _ (ih (by omega))
theorem exec_deep : ∀ (n d : Nat) (m : jMe) (fr : jFr) (M : jM) (x : jOut), exec n d m fr M = some x → exec n (d + 1) m fr M = some x := by
  intro n
  induction n with
  | zero => intro d m fr M x h; exact absurd h (by simp [exec])
  | succ n ih =>
    intro d m fr M x h
    rw [exec] at h ⊢
    generalize act m fr M = a at h ⊢
    rcases a with _ | ⟨fr', M'⟩ | ⟨cal, as, fr', M'⟩ | ⟨r, M'⟩ | ⟨q, M'⟩
    · exact h
    · exact ih _ _ _ _ _ h
    · cases d with
      | zero => exact absurd h (by simp)
      | succ d =>
        dsimp only at h ⊢
        split at h
        · rename_i hc
          rw [if_pos hc]
          split at h
          · rename_i d'' x p0 p1 o
            cases hx : exec n d'' mX10_person (0, jentry [x, p0, p1] mX10_person.2.2.2.1, []) M' with
            | none => rw [hx] at h; exact absurd h (by simp)
            | some y =>
              rw [hx] at h
              rw [ih _ _ _ _ _ hx]
              rcases y with ⟨(_ | (z | z)) | u, M2⟩
              · exact absurd h (by simp)
              · exact ih _ _ _ _ _ h
              · exact absurd h (by simp)
              · exact ih _ _ _ _ _ h
          · exact absurd h (by simp)
        · rename_i hc
          rw [if_neg hc]
          cases hx : exec n d cal (0, jentry as cal.2.2.2.1, []) M' with
          | none => rw [hx] at h; exact absurd h (by simp)
          | some y =>
            rw [hx] at h
            rw [ih _ _ _ _ _ hx]
            rcases y with ⟨r | u, M2⟩
            · exact ih _ _ _ _ _ h
            · exact absurd h (by simp)
    · exact h
    · exact h
theorem exec_dle {n d k : Nat} {m : jMe} {fr : jFr} {M : jM} {x : jOut} (h : exec n d m fr M = some x) (hk : d ≤ k) : exec n k m fr M = some x := by
  induction k with
  | zero =>
    have : d = 0 := by omega
    subst this; exact h
  | succ k ih =>
    by_cases hn : d = k + 1
    · subst hn; exact h
    · exact exec_deep _ _ _ _ _ _ (ih (by omega))
/-- from this place the method comes to its end, with an answer and a memory of which Q holds -/
def Run (d : Nat) (m : jMe) (pc : Nat) (ls : jLs) (st : List jV) (M : jM) (Q : Option jV → jM → Prop) : Prop := ∃ (n : Nat) (r : Option jV) (M' : jM), exec n d m (pc, ls, st) M = some (.inl r, M') ∧ Q r M'
/-- .. it throws, with the memory M' -/
def RunT (d : Nat) (m : jMe) (pc : Nat) (ls : jLs) (st : List jV) (M M' : jM) : Prop := ∃ n : Nat, exec n d m (pc, ls, st) M = some (.inr (), M')
/-- a call of a method -/
def Call (d : Nat) (m : jMe) (as : List jV) (M : jM) (Q : Option jV → jM → Prop) : Prop := Run d m 0 (jentry as m.2.2.2.1) [] M Q
theorem Run.mono {d k : Nat} {m : jMe} {pc : Nat} {ls : jLs} {st : List jV} {M : jM} {Q Q' : Option jV → jM → Prop} (h : Run d m pc ls st M Q) (hk : d ≤ k) (hq : ∀ r M', Q r M' → Q' r M') : Run k m pc ls st M Q' := by
  obtain ⟨n, r, M', h1, h2⟩ := h
  exact ⟨n, r, M', exec_dle h1 hk, hq r M' h2⟩
theorem Call.mono {d k : Nat} {m : jMe} {as : List jV} {M : jM} {Q Q' : Option jV → jM → Prop} (h : Call d m as M Q) (hk : d ≤ k) (hq : ∀ r M', Q r M' → Q' r M') : Call k m as M Q' := Run.mono h hk hq
theorem r_act {d : Nat} {m : jMe} {pc : Nat} {ls : jLs} {st : List jV} {M : jM} {Q : Option jV → jM → Prop} {pc' : Nat} {ls' : jLs} {st' : List jV} {M' : jM} (h : act m (pc, ls, st) M = some (.inl ((pc', ls', st'), M'))) (k : Run d m pc' ls' st' M' Q) : Run d m pc ls st M Q := by
  obtain ⟨n, r, M2, h1, h2⟩ := k
  exact ⟨n + 1, r, M2, by rw [exec, h]; exact h1, h2⟩
theorem act_of {m : jMe} {pc : Nat} {ls : jLs} {st : List jV} {M : jM} {ins : Instr} {len : Nat} (hd : decode m.2.2.1 pc = .ok (ins, len)) (hj : jlen ins len = true) : act m (pc, ls, st) M = actI m ins pc ls st M := by
  show (match decode m.2.2.1 pc with | .ok (ins, len) => if jlen ins len = true then actI m ins pc ls st M else none | _ => none) = _
  rw [hd]
  exact if_pos hj
theorem r_on {d : Nat} {m : jMe} {pc : Nat} {ls : jLs} {st : List jV} {M : jM} {Q : Option jV → jM → Prop} {ins : Instr} {len : Nat} {pc' : Nat} {ls' : jLs} {st' : List jV} {M' : jM} (hd : decode m.2.2.1 pc = .ok (ins, len)) (h : actI m ins pc ls st M = some (.inl ((pc', ls', st'), M'))) (k : Run d m pc' ls' st' M' Q) (hj : jlen ins len = true := by rfl) : Run d m pc ls st M Q := r_act ((act_of hd hj).trans h) k
theorem r_call {d : Nat} {m : jMe} {pc : Nat} {ls : jLs} {st : List jV} {M : jM} {Q : Option jV → jM → Prop} {ins : Instr} {len : Nat} {cal : jMe} {as : List jV} {pc' : Nat} {ls' : jLs} {st' : List jV} {M' : jM} (hd : decode m.2.2.1 pc = .ok (ins, len)) (h : actI m ins pc ls st M = some (.inr (.inl (cal, as, (pc', ls', st'), M')))) (hc : cal.1 ≠ 99)
    (k : Call d cal as M' (fun r M2 => Run (d + 1) m pc' ls' (r.toList ++ st') M2 Q)) (hj : jlen ins len = true := by rfl) : Run (d + 1) m pc ls st M Q := by
  obtain ⟨n, r, M2, h1, n2, r2, M3, h2, hq⟩ := k
  refine ⟨max n n2 + 1, r2, M3, ?_, hq⟩
  rw [exec, act_of hd hj, h]
  dsimp only
  rw [if_neg hc, exec_le h1 (Nat.le_max_left n n2)]
  exact exec_le h2 (Nat.le_max_right n n2)
theorem r_ret {d : Nat} {m : jMe} {pc : Nat} {ls : jLs} {st : List jV} {M : jM} {Q : Option jV → jM → Prop} {ins : Instr} {len : Nat} {r : Option jV} (hd : decode m.2.2.1 pc = .ok (ins, len)) (h : actI m ins pc ls st M = some (.inr (.inr (.inl (r, M))))) (k : Q r M) (hj : jlen ins len = true := by rfl) : Run d m pc ls st M Q := ⟨1, r, M, by rw [exec, act_of hd hj, h], k⟩
section Rules
variable {d : Nat} {m : jMe} {pc : Nat} {ls : jLs} {st : List jV} {M : jM} {Q : Option jV → jM → Prop}
theorem r_null (hd : decode m.2.2.1 pc = .ok (.aconst_null, 1)) (k : Run d m (pc + 1) ls (vR 0 :: st) M Q) : Run d m pc ls (st) M Q := r_on hd rfl k
theorem r_iconst {z : Int} (hd : decode m.2.2.1 pc = .ok (.iconst z, 1)) (hz : -32768 ≤ z ∧ z ≤ 32767) (k : Run d m (pc + 1) ls (vI z :: st) M Q) : Run d m pc ls st M Q := r_on hd (if_pos hz) k
theorem r_bipush {z : Int} (hd : decode m.2.2.1 pc = .ok (.bipush z, 2)) (hz : -128 ≤ z ∧ z ≤ 127) (k : Run d m (pc + 2) ls (vI z :: st) M Q) : Run d m pc ls st M Q := r_on hd (if_pos hz) k
theorem r_sipush {z : Int} (hd : decode m.2.2.1 pc = .ok (.sipush z, 3)) (hz : -32768 ≤ z ∧ z ≤ 32767) (k : Run d m (pc + 3) ls (vI z :: st) M Q) : Run d m pc ls st M Q := r_on hd (if_pos hz) k
theorem r_lconst {j : Fin 2} (hd : decode m.2.2.1 pc = .ok (.lconst j, 1)) (k : Run d m (pc + 1) ls (vL (j.val : Nat) :: st) M Q) : Run d m pc ls st M Q := r_on hd rfl k
theorem r_ldc {i : Nat} {z : Int} (hd : decode m.2.2.1 pc = .ok (.ldc i, 2)) (hk : lkK m.1 i = some z) (k : Run d m (pc + 2) ls (vI z :: st) M Q) : Run d m pc ls st M Q := r_on hd (by simp only [actI, jLdc, hk]) k
theorem r_ldc_w {i : Nat} {z : Int} (hd : decode m.2.2.1 pc = .ok (.ldc_w i, 3)) (hk : lkK m.1 i = some z) (k : Run d m (pc + 3) ls (vI z :: st) M Q) : Run d m pc ls st M Q := r_on hd (by simp only [actI, jLdc, hk]) k
theorem r_ldc2 {i : Nat} {z : Int} (hd : decode m.2.2.1 pc = .ok (.ldc2_w i, 3)) (hk : lkL m.1 i = some z) (k : Run d m (pc + 3) ls (vL z :: st) M Q) : Run d m pc ls st M Q := r_on hd (by simp only [actI, jLdc2, hk]) k
theorem r_iload {i : Nat} {z : Int} (hd : decode m.2.2.1 pc = .ok (.iload i, 2)) (hl : jget ls i = some (vI z)) (k : Run d m (pc + 2) ls (vI z :: st) M Q) : Run d m pc ls st M Q := r_on hd (by simp only [actI, jLdI, hl]) k
theorem r_iload_n {i : Fin 4} {z : Int} (hd : decode m.2.2.1 pc = .ok (.iload_n i, 1)) (hl : jget ls i.val = some (vI z)) (k : Run d m (pc + 1) ls (vI z :: st) M Q) : Run d m pc ls st M Q := r_on hd (by simp only [actI, jLdI, hl]) k
theorem r_lload {i : Nat} {z : Int} (hd : decode m.2.2.1 pc = .ok (.lload i, 2)) (hl : jget ls i = some (vL z)) (k : Run d m (pc + 2) ls (vL z :: st) M Q) : Run d m pc ls st M Q := r_on hd (by simp only [actI, jLdL, hl]) k
theorem r_lload_n {i : Fin 4} {z : Int} (hd : decode m.2.2.1 pc = .ok (.lload_n i, 1)) (hl : jget ls i.val = some (vL z)) (k : Run d m (pc + 1) ls (vL z :: st) M Q) : Run d m pc ls st M Q := r_on hd (by simp only [actI, jLdL, hl]) k
theorem r_aload {i : Nat} {z : Nat} (hd : decode m.2.2.1 pc = .ok (.aload i, 2)) (hl : jget ls i = some (vR z)) (k : Run d m (pc + 2) ls (vR z :: st) M Q) : Run d m pc ls st M Q := r_on hd (by simp only [actI, jLdR, hl]) k
theorem r_aload_n {i : Fin 4} {z : Nat} (hd : decode m.2.2.1 pc = .ok (.aload_n i, 1)) (hl : jget ls i.val = some (vR z)) (k : Run d m (pc + 1) ls (vR z :: st) M Q) : Run d m pc ls st M Q := r_on hd (by simp only [actI, jLdR, hl]) k
theorem r_istore {i : Nat} {z : Int} {ls2 : jLs} (hd : decode m.2.2.1 pc = .ok (.istore i, 2)) (hn : i < ls.length) (hl : jput1 ls i (vI z) = ls2) (k : Run d m (pc + 2) ls2 st M Q) : Run d m pc ls (vI z :: st) M Q := r_on hd ((if_pos hn).trans (by rw [hl])) k
theorem r_istore_n {i : Fin 4} {z : Int} {ls2 : jLs} (hd : decode m.2.2.1 pc = .ok (.istore_n i, 1)) (hn : i.val < ls.length) (hl : jput1 ls i.val (vI z) = ls2) (k : Run d m (pc + 1) ls2 st M Q) : Run d m pc ls (vI z :: st) M Q := r_on hd ((if_pos hn).trans (by rw [hl])) k
theorem r_lstore {i : Nat} {z : Int} {ls2 : jLs} (hd : decode m.2.2.1 pc = .ok (.lstore i, 2)) (hn : i + 1 < ls.length) (hl : jput2 ls i (vL z) = ls2) (k : Run d m (pc + 2) ls2 st M Q) : Run d m pc ls (vL z :: st) M Q := r_on hd ((if_pos hn).trans (by rw [hl])) k
theorem r_lstore_n {i : Fin 4} {z : Int} {ls2 : jLs} (hd : decode m.2.2.1 pc = .ok (.lstore_n i, 1)) (hn : i.val + 1 < ls.length) (hl : jput2 ls i.val (vL z) = ls2) (k : Run d m (pc + 1) ls2 st M Q) : Run d m pc ls (vL z :: st) M Q := r_on hd ((if_pos hn).trans (by rw [hl])) k
theorem r_astore {i : Nat} {z : Nat} {ls2 : jLs} (hd : decode m.2.2.1 pc = .ok (.astore i, 2)) (hn : i < ls.length) (hl : jput1 ls i (vR z) = ls2) (k : Run d m (pc + 2) ls2 st M Q) : Run d m pc ls (vR z :: st) M Q := r_on hd ((if_pos hn).trans (by rw [hl])) k
theorem r_astore_n {i : Fin 4} {z : Nat} {ls2 : jLs} (hd : decode m.2.2.1 pc = .ok (.astore_n i, 1)) (hn : i.val < ls.length) (hl : jput1 ls i.val (vR z) = ls2) (k : Run d m (pc + 1) ls2 st M Q) : Run d m pc ls (vR z :: st) M Q := r_on hd ((if_pos hn).trans (by rw [hl])) k
theorem r_iinc {i : Nat} {x z : Int} {ls2 : jLs} (hd : decode m.2.2.1 pc = .ok (.iinc i z, 3)) (hx : jget ls i = some (vI x)) (hl : jput1 ls i (vI (w32 (x + z))) = ls2) (k : Run d m (pc + 3) ls2 st M Q) : Run d m pc ls st M Q := r_on hd (by simp only [actI, jInc, hx, hl, if_pos]) k
theorem r_iadd {a b : Int} (hd : decode m.2.2.1 pc = .ok (.iadd, 1)) (k : Run d m (pc + 1) ls (vI (w32 (a + b)) :: st) M Q) : Run d m pc ls (vI b :: vI a :: st) M Q := r_on hd rfl k
theorem r_isub {a b : Int} (hd : decode m.2.2.1 pc = .ok (.isub, 1)) (k : Run d m (pc + 1) ls (vI (w32 (a - b)) :: st) M Q) : Run d m pc ls (vI b :: vI a :: st) M Q := r_on hd rfl k
theorem r_imul {a b : Int} (hd : decode m.2.2.1 pc = .ok (.imul, 1)) (k : Run d m (pc + 1) ls (vI (w32 (a * b)) :: st) M Q) : Run d m pc ls (vI b :: vI a :: st) M Q := r_on hd rfl k
theorem r_iand {a b : Int} (hd : decode m.2.2.1 pc = .ok (.iand, 1)) (k : Run d m (pc + 1) ls (vI (jand a b) :: st) M Q) : Run d m pc ls (vI b :: vI a :: st) M Q := r_on hd rfl k
theorem r_ior {a b : Int} (hd : decode m.2.2.1 pc = .ok (.ior, 1)) (k : Run d m (pc + 1) ls (vI (jor a b) :: st) M Q) : Run d m pc ls (vI b :: vI a :: st) M Q := r_on hd rfl k
theorem r_ixor {a b : Int} (hd : decode m.2.2.1 pc = .ok (.ixor, 1)) (k : Run d m (pc + 1) ls (vI (jxor a b) :: st) M Q) : Run d m pc ls (vI b :: vI a :: st) M Q := r_on hd rfl k
theorem r_ishl {a b : Int} (hd : decode m.2.2.1 pc = .ok (.ishl, 1)) (k : Run d m (pc + 1) ls (vI (jshl a b) :: st) M Q) : Run d m pc ls (vI b :: vI a :: st) M Q := r_on hd rfl k
theorem r_ishr {a b : Int} (hd : decode m.2.2.1 pc = .ok (.ishr, 1)) (k : Run d m (pc + 1) ls (vI (jshr a b) :: st) M Q) : Run d m pc ls (vI b :: vI a :: st) M Q := r_on hd rfl k
theorem r_iushr {a b : Int} (hd : decode m.2.2.1 pc = .ok (.iushr, 1)) (k : Run d m (pc + 1) ls (vI (jushr a b) :: st) M Q) : Run d m pc ls (vI b :: vI a :: st) M Q := r_on hd rfl k
theorem r_ladd {a b : Int} (hd : decode m.2.2.1 pc = .ok (.ladd, 1)) (k : Run d m (pc + 1) ls (vL (w64 (a + b)) :: st) M Q) : Run d m pc ls (vL b :: vL a :: st) M Q := r_on hd rfl k
theorem r_lsub {a b : Int} (hd : decode m.2.2.1 pc = .ok (.lsub, 1)) (k : Run d m (pc + 1) ls (vL (w64 (a - b)) :: st) M Q) : Run d m pc ls (vL b :: vL a :: st) M Q := r_on hd rfl k
theorem r_lmul {a b : Int} (hd : decode m.2.2.1 pc = .ok (.lmul, 1)) (k : Run d m (pc + 1) ls (vL (w64 (a * b)) :: st) M Q) : Run d m pc ls (vL b :: vL a :: st) M Q := r_on hd rfl k
theorem r_land {a b : Int} (hd : decode m.2.2.1 pc = .ok (.land, 1)) (k : Run d m (pc + 1) ls (vL (jandL a b) :: st) M Q) : Run d m pc ls (vL b :: vL a :: st) M Q := r_on hd rfl k
theorem r_lor {a b : Int} (hd : decode m.2.2.1 pc = .ok (.lor, 1)) (k : Run d m (pc + 1) ls (vL (jorL a b) :: st) M Q) : Run d m pc ls (vL b :: vL a :: st) M Q := r_on hd rfl k
theorem r_lshl {a b : Int} (hd : decode m.2.2.1 pc = .ok (.lshl, 1)) (k : Run d m (pc + 1) ls (vL (jshlL a b) :: st) M Q) : Run d m pc ls (vI b :: vL a :: st) M Q := r_on hd rfl k
theorem r_lshr {a b : Int} (hd : decode m.2.2.1 pc = .ok (.lshr, 1)) (k : Run d m (pc + 1) ls (vL (jshrL a b) :: st) M Q) : Run d m pc ls (vI b :: vL a :: st) M Q := r_on hd rfl k
theorem r_lushr {a b : Int} (hd : decode m.2.2.1 pc = .ok (.lushr, 1)) (k : Run d m (pc + 1) ls (vL (jushrL a b) :: st) M Q) : Run d m pc ls (vI b :: vL a :: st) M Q := r_on hd rfl k
theorem r_idiv {a b : Int} (hd : decode m.2.2.1 pc = .ok (.idiv, 1)) (hb : b ≠ 0) (k : Run d m (pc + 1) ls (vI (jdiv a b) :: st) M Q) : Run d m pc ls (vI b :: vI a :: st) M Q := r_on hd (if_pos hb) k
theorem r_irem {a b : Int} (hd : decode m.2.2.1 pc = .ok (.irem, 1)) (hb : b ≠ 0) (k : Run d m (pc + 1) ls (vI (jrem a b) :: st) M Q) : Run d m pc ls (vI b :: vI a :: st) M Q := r_on hd (if_pos hb) k
theorem r_ldiv {a b : Int} (hd : decode m.2.2.1 pc = .ok (.ldiv, 1)) (hb : b ≠ 0) (k : Run d m (pc + 1) ls (vL (jdivL a b) :: st) M Q) : Run d m pc ls (vL b :: vL a :: st) M Q := r_on hd (if_pos hb) k
theorem r_lrem {a b : Int} (hd : decode m.2.2.1 pc = .ok (.lrem, 1)) (hb : b ≠ 0) (k : Run d m (pc + 1) ls (vL (jremL a b) :: st) M Q) : Run d m pc ls (vL b :: vL a :: st) M Q := r_on hd (if_pos hb) k
theorem r_lneg {a : Int} (hd : decode m.2.2.1 pc = .ok (.lneg, 1)) (k : Run d m (pc + 1) ls (vL (w64 (-a)) :: st) M Q) : Run d m pc ls (vL a :: st) M Q := r_on hd rfl k
theorem r_i2l {a : Int} (hd : decode m.2.2.1 pc = .ok (.i2l, 1)) (k : Run d m (pc + 1) ls (vL a :: st) M Q) : Run d m pc ls (vI a :: st) M Q := r_on hd rfl k
theorem r_l2i {a : Int} (hd : decode m.2.2.1 pc = .ok (.l2i, 1)) (k : Run d m (pc + 1) ls (vI (w32 a) :: st) M Q) : Run d m pc ls (vL a :: st) M Q := r_on hd rfl k
theorem r_lcmp {a b : Int} (hd : decode m.2.2.1 pc = .ok (.lcmp, 1)) (k : Run d m (pc + 1) ls (vI (jcmp a b) :: st) M Q) : Run d m pc ls (vL b :: vL a :: st) M Q := r_on hd rfl k
theorem r_dupI {a : Int} (hd : decode m.2.2.1 pc = .ok (.dup, 1)) (k : Run d m (pc + 1) ls (vI a :: vI a :: st) M Q) : Run d m pc ls (vI a :: st) M Q := r_on hd rfl k
theorem r_dupR {a : Nat} (hd : decode m.2.2.1 pc = .ok (.dup, 1)) (k : Run d m (pc + 1) ls (vR a :: vR a :: st) M Q) : Run d m pc ls (vR a :: st) M Q := r_on hd rfl k
theorem r_dup2IR {a : Int} {b : Nat} (hd : decode m.2.2.1 pc = .ok (.dup2, 1)) (k : Run d m (pc + 1) ls (vI a :: vR b :: vI a :: vR b :: st) M Q) : Run d m pc ls (vI a :: vR b :: st) M Q := r_on hd rfl k
theorem r_popI {a : Int} (hd : decode m.2.2.1 pc = .ok (.pop, 1)) (k : Run d m (pc + 1) ls st M Q) : Run d m pc ls (vI a :: st) M Q := r_on hd rfl k
theorem r_popR {a : Nat} (hd : decode m.2.2.1 pc = .ok (.pop, 1)) (k : Run d m (pc + 1) ls st M Q) : Run d m pc ls (vR a :: st) M Q := r_on hd rfl k
theorem jGo_eq {off : Int} {tgt : Nat} (ht : (pc : Int) + off = (tgt : Int)) : jGo pc off ls st M = jOn tgt ls st M := by
  unfold jGo
  rw [ht, if_pos (Int.natCast_nonneg tgt), Int.toNat_natCast]
theorem jGo_some {off : Int} {fr' : jFr} {M' : jM} (h : jGo pc off ls st M = some (.inl (fr', M'))) : ∃ tgt : Nat, (pc : Int) + off = (tgt : Int) ∧ fr' = (tgt, ls, st) ∧ M' = M := by
  unfold jGo at h
  split at h
  · rename_i h0
    cases h
    exact ⟨((pc : Int) + off).toNat, (Int.toNat_of_nonneg h0).symm, rfl, rfl⟩
  · cases h
theorem jBr_t {b : Bool} {off : Int} {tgt : Nat} (ht : (pc : Int) + off = (tgt : Int)) (hb : b = true) : jBr b off pc ls st M = jOn tgt ls st M := by
  unfold jBr
  rw [ht, if_pos (Int.natCast_nonneg tgt), if_pos hb, Int.toNat_natCast]
theorem jBr_f {b : Bool} {off : Int} {tgt : Nat} (ht : (pc : Int) + off = (tgt : Int)) (hb : ¬ b = true) : jBr b off pc ls st M = jOn (pc + 3) ls st M := by
  unfold jBr
  rw [ht, if_pos (Int.natCast_nonneg tgt), if_neg hb]
theorem jBr_some {b : Bool} {off : Int} {fr' : jFr} {M' : jM} (h : jBr b off pc ls st M = some (.inl (fr', M'))) : ∃ tgt : Nat, (pc : Int) + off = (tgt : Int) ∧ M' = M ∧ ((b = true ∧ fr' = (tgt, ls, st)) ∨ (b = false ∧ fr' = (pc + 3, ls, st))) := by
  unfold jBr at h
  split at h
  · rename_i h0
    refine ⟨((pc : Int) + off).toNat, (Int.toNat_of_nonneg h0).symm, ?_⟩
    split at h
    · rename_i hb; cases h; exact ⟨rfl, Or.inl ⟨hb, rfl⟩⟩
    · rename_i hb; cases h; exact ⟨rfl, Or.inr ⟨by simpa using hb, rfl⟩⟩
  · cases h
theorem r_goto {off : Int} {tgt : Nat} (hd : decode m.2.2.1 pc = .ok (.goto off, 3)) (ht : (pc : Int) + off = (tgt : Int)) (k : Run d m tgt ls st M Q) : Run d m pc ls st M Q := r_on hd (jGo_eq ht) k
theorem r_if_eq {x : Int} {off : Int} {tgt : Nat} (hd : decode m.2.2.1 pc = .ok (.ifCond .eq off, 3)) (ht : (pc : Int) + off = (tgt : Int)) (kt : x = 0 → Run d m tgt ls st M Q) (kf : ¬ (x = 0) → Run d m (pc + 3) ls st M Q) : Run d m pc ls (vI x :: st) M Q := by
  by_cases h : x = 0
  · exact r_on hd (jBr_t ht (by simp only [jholds]; simpa using h)) (kt h)
  · exact r_on hd (jBr_f ht (by simp only [jholds]; simpa using h)) (kf h)
theorem r_icmp_eq {x y : Int} {off : Int} {tgt : Nat} (hd : decode m.2.2.1 pc = .ok (.if_icmp .eq off, 3)) (ht : (pc : Int) + off = (tgt : Int)) (kt : x = y → Run d m tgt ls st M Q) (kf : ¬ (x = y) → Run d m (pc + 3) ls st M Q) : Run d m pc ls (vI y :: vI x :: st) M Q := by
  by_cases h : x = y
  · exact r_on hd (jBr_t ht (by simp only [jholds]; simpa using h)) (kt h)
  · exact r_on hd (jBr_f ht (by simp only [jholds]; simpa using h)) (kf h)
theorem r_if_ne {x : Int} {off : Int} {tgt : Nat} (hd : decode m.2.2.1 pc = .ok (.ifCond .ne off, 3)) (ht : (pc : Int) + off = (tgt : Int)) (kt : x ≠ 0 → Run d m tgt ls st M Q) (kf : ¬ (x ≠ 0) → Run d m (pc + 3) ls st M Q) : Run d m pc ls (vI x :: st) M Q := by
  by_cases h : x ≠ 0
  · exact r_on hd (jBr_t ht (by simp only [jholds]; simpa using h)) (kt h)
  · exact r_on hd (jBr_f ht (by simp only [jholds]; simpa using h)) (kf h)
theorem r_icmp_ne {x y : Int} {off : Int} {tgt : Nat} (hd : decode m.2.2.1 pc = .ok (.if_icmp .ne off, 3)) (ht : (pc : Int) + off = (tgt : Int)) (kt : x ≠ y → Run d m tgt ls st M Q) (kf : ¬ (x ≠ y) → Run d m (pc + 3) ls st M Q) : Run d m pc ls (vI y :: vI x :: st) M Q := by
  by_cases h : x ≠ y
  · exact r_on hd (jBr_t ht (by simp only [jholds]; simpa using h)) (kt h)
  · exact r_on hd (jBr_f ht (by simp only [jholds]; simpa using h)) (kf h)
theorem r_if_lt {x : Int} {off : Int} {tgt : Nat} (hd : decode m.2.2.1 pc = .ok (.ifCond .lt off, 3)) (ht : (pc : Int) + off = (tgt : Int)) (kt : x < 0 → Run d m tgt ls st M Q) (kf : ¬ (x < 0) → Run d m (pc + 3) ls st M Q) : Run d m pc ls (vI x :: st) M Q := by
  by_cases h : x < 0
  · exact r_on hd (jBr_t ht (by simp only [jholds]; simpa using h)) (kt h)
  · exact r_on hd (jBr_f ht (by simp only [jholds]; simpa using h)) (kf h)
theorem r_icmp_lt {x y : Int} {off : Int} {tgt : Nat} (hd : decode m.2.2.1 pc = .ok (.if_icmp .lt off, 3)) (ht : (pc : Int) + off = (tgt : Int)) (kt : x < y → Run d m tgt ls st M Q) (kf : ¬ (x < y) → Run d m (pc + 3) ls st M Q) : Run d m pc ls (vI y :: vI x :: st) M Q := by
  by_cases h : x < y
  · exact r_on hd (jBr_t ht (by simp only [jholds]; simpa using h)) (kt h)
  · exact r_on hd (jBr_f ht (by simp only [jholds]; simpa using h)) (kf h)
theorem r_if_ge {x : Int} {off : Int} {tgt : Nat} (hd : decode m.2.2.1 pc = .ok (.ifCond .ge off, 3)) (ht : (pc : Int) + off = (tgt : Int)) (kt : 0 ≤ x → Run d m tgt ls st M Q) (kf : ¬ (0 ≤ x) → Run d m (pc + 3) ls st M Q) : Run d m pc ls (vI x :: st) M Q := by
  by_cases h : 0 ≤ x
  · exact r_on hd (jBr_t ht (by simp only [jholds]; simpa using h)) (kt h)
  · exact r_on hd (jBr_f ht (by simp only [jholds]; simpa using h)) (kf h)
theorem r_icmp_ge {x y : Int} {off : Int} {tgt : Nat} (hd : decode m.2.2.1 pc = .ok (.if_icmp .ge off, 3)) (ht : (pc : Int) + off = (tgt : Int)) (kt : y ≤ x → Run d m tgt ls st M Q) (kf : ¬ (y ≤ x) → Run d m (pc + 3) ls st M Q) : Run d m pc ls (vI y :: vI x :: st) M Q := by
  by_cases h : y ≤ x
  · exact r_on hd (jBr_t ht (by simp only [jholds]; simpa using h)) (kt h)
  · exact r_on hd (jBr_f ht (by simp only [jholds]; simpa using h)) (kf h)
theorem r_if_gt {x : Int} {off : Int} {tgt : Nat} (hd : decode m.2.2.1 pc = .ok (.ifCond .gt off, 3)) (ht : (pc : Int) + off = (tgt : Int)) (kt : 0 < x → Run d m tgt ls st M Q) (kf : ¬ (0 < x) → Run d m (pc + 3) ls st M Q) : Run d m pc ls (vI x :: st) M Q := by
  by_cases h : 0 < x
  · exact r_on hd (jBr_t ht (by simp only [jholds]; simpa using h)) (kt h)
  · exact r_on hd (jBr_f ht (by simp only [jholds]; simpa using h)) (kf h)
theorem r_icmp_gt {x y : Int} {off : Int} {tgt : Nat} (hd : decode m.2.2.1 pc = .ok (.if_icmp .gt off, 3)) (ht : (pc : Int) + off = (tgt : Int)) (kt : y < x → Run d m tgt ls st M Q) (kf : ¬ (y < x) → Run d m (pc + 3) ls st M Q) : Run d m pc ls (vI y :: vI x :: st) M Q := by
  by_cases h : y < x
  · exact r_on hd (jBr_t ht (by simp only [jholds]; simpa using h)) (kt h)
  · exact r_on hd (jBr_f ht (by simp only [jholds]; simpa using h)) (kf h)
theorem r_if_le {x : Int} {off : Int} {tgt : Nat} (hd : decode m.2.2.1 pc = .ok (.ifCond .le off, 3)) (ht : (pc : Int) + off = (tgt : Int)) (kt : x ≤ 0 → Run d m tgt ls st M Q) (kf : ¬ (x ≤ 0) → Run d m (pc + 3) ls st M Q) : Run d m pc ls (vI x :: st) M Q := by
  by_cases h : x ≤ 0
  · exact r_on hd (jBr_t ht (by simp only [jholds]; simpa using h)) (kt h)
  · exact r_on hd (jBr_f ht (by simp only [jholds]; simpa using h)) (kf h)
theorem r_icmp_le {x y : Int} {off : Int} {tgt : Nat} (hd : decode m.2.2.1 pc = .ok (.if_icmp .le off, 3)) (ht : (pc : Int) + off = (tgt : Int)) (kt : x ≤ y → Run d m tgt ls st M Q) (kf : ¬ (x ≤ y) → Run d m (pc + 3) ls st M Q) : Run d m pc ls (vI y :: vI x :: st) M Q := by
  by_cases h : x ≤ y
  · exact r_on hd (jBr_t ht (by simp only [jholds]; simpa using h)) (kt h)
  · exact r_on hd (jBr_f ht (by simp only [jholds]; simpa using h)) (kf h)
theorem r_ifnull {x : Nat} {off : Int} {tgt : Nat} (hd : decode m.2.2.1 pc = .ok (.ifnull off, 3)) (ht : (pc : Int) + off = (tgt : Int)) (kt : x = 0 → Run d m tgt ls st M Q) (kf : ¬ (x = 0) → Run d m (pc + 3) ls st M Q) : Run d m pc ls (vR x :: st) M Q := by
  by_cases h : x = 0
  · exact r_on hd (jBr_t ht (by simpa using h)) (kt h)
  · exact r_on hd (jBr_f ht (by simpa using h)) (kf h)
theorem r_ifnonnull {x : Nat} {off : Int} {tgt : Nat} (hd : decode m.2.2.1 pc = .ok (.ifnonnull off, 3)) (ht : (pc : Int) + off = (tgt : Int)) (kt : x ≠ 0 → Run d m tgt ls st M Q) (kf : ¬ (x ≠ 0) → Run d m (pc + 3) ls st M Q) : Run d m pc ls (vR x :: st) M Q := by
  by_cases h : x ≠ 0
  · exact r_on hd (jBr_t ht (by simpa using h)) (kt h)
  · exact r_on hd (jBr_f ht (by simpa using h)) (kf h)
theorem r_tab_out {x dl lo hi : Int} {os : Array Int} {len tgt : Nat} (hd : decode m.2.2.1 pc = .ok (.tableswitch dl lo hi os, len)) (h : x < lo ∨ hi < x) (ht : (pc : Int) + dl = (tgt : Int)) (k : Run d m tgt ls st M Q) : Run d m pc ls (vI x :: st) M Q := r_on hd ((if_pos h).trans (jGo_eq ht)) k
theorem r_tab_in {x dl lo hi o : Int} {os : Array Int} {len tgt : Nat} (hd : decode m.2.2.1 pc = .ok (.tableswitch dl lo hi os, len)) (h : ¬ (x < lo ∨ hi < x)) (ho : os[(x - lo).toNat]? = some o) (ht : (pc : Int) + o = (tgt : Int)) (k : Run d m tgt ls st M Q) : Run d m pc ls (vI x :: st) M Q := r_on hd ((if_neg h).trans (by rw [ho]; exact jGo_eq ht)) k
theorem r_look {x dl o : Int} {ps : Array (Int × Int)} {len tgt : Nat} (hd : decode m.2.2.1 pc = .ok (.lookupswitch dl ps, len)) (h : (ps.toList.zip (ps.toList.drop 1)).all (fun (a, next) => a.1 < next.1) = true) (ho : Op.lookupswitch.offset ps.toList dl x = o) (ht : (pc : Int) + o = (tgt : Int)) (k : Run d m tgt ls st M Q) : Run d m pc ls (vI x :: st) M Q := r_on hd ((if_pos h).trans (by rw [ho]; exact jGo_eq ht)) k
theorem r_get0 {i c j r : Nat} (hd : decode m.2.2.1 pc = .ok (.getfield i, 3)) (hf : lkF m.1 i = some (c, j, 0)) (ho : jobj M c r = true) (k : Run d m (pc + 3) ls (vI (iv M r j) :: st) M Q) : Run d m pc ls (vR r :: st) M Q := r_on hd (by simp only [actI, jGet, hf]; rw [if_pos ho]) k
theorem r_get3 {i c j r : Nat} (hd : decode m.2.2.1 pc = .ok (.getfield i, 3)) (hf : lkF m.1 i = some (c, j, 3)) (ho : jobj M c r = true) (k : Run d m (pc + 3) ls (vI (iv M r j) :: st) M Q) : Run d m pc ls (vR r :: st) M Q := r_on hd (by simp only [actI, jGet, hf]; rw [if_pos ho]) k
theorem r_get1 {i c j r : Nat} (hd : decode m.2.2.1 pc = .ok (.getfield i, 3)) (hf : lkF m.1 i = some (c, j, 1)) (ho : jobj M c r = true) (k : Run d m (pc + 3) ls (vL (lg M r j) :: st) M Q) : Run d m pc ls (vR r :: st) M Q := r_on hd (by simp only [actI, jGet, hf]; rw [if_pos ho]) k
theorem r_get2 {i c j r : Nat} (hd : decode m.2.2.1 pc = .ok (.getfield i, 3)) (hf : lkF m.1 i = some (c, j, 2)) (ho : jobj M c r = true) (k : Run d m (pc + 3) ls (vR (rv M r j) :: st) M Q) : Run d m pc ls (vR r :: st) M Q := r_on hd (by simp only [actI, jGet, hf]; rw [if_pos ho]) k
theorem r_put0 {i c j r : Nat} {z : Int} (hd : decode m.2.2.1 pc = .ok (.putfield i, 3)) (hf : lkF m.1 i = some (c, j, 0)) (ho : jobj M c r = true) (hn : jfin c j = false ∨ (m.1 = c ∧ m.2.1.name = "<init>")) (k : Run d m (pc + 3) ls st (si M r j z) Q) : Run d m pc ls (vI z :: vR r :: st) M Q := r_on hd (by simp only [actI, jPut, hf]; rw [if_pos ⟨ho, hn⟩]) k
theorem r_put1 {i c j r : Nat} {z : Int} (hd : decode m.2.2.1 pc = .ok (.putfield i, 3)) (hf : lkF m.1 i = some (c, j, 1)) (ho : jobj M c r = true) (hn : jfin c j = false ∨ (m.1 = c ∧ m.2.1.name = "<init>")) (k : Run d m (pc + 3) ls st (sl M r j z) Q) : Run d m pc ls (vL z :: vR r :: st) M Q := r_on hd (by simp only [actI, jPut, hf]; rw [if_pos ⟨ho, hn⟩]) k
theorem r_put2 {i c j r : Nat} {z : Nat} (hd : decode m.2.2.1 pc = .ok (.putfield i, 3)) (hf : lkF m.1 i = some (c, j, 2)) (ho : jobj M c r = true) (hn : jfin c j = false ∨ (m.1 = c ∧ m.2.1.name = "<init>")) (k : Run d m (pc + 3) ls st (sr M r j z) Q) : Run d m pc ls (vR z :: vR r :: st) M Q := r_on hd (by simp only [actI, jPut, hf]; rw [if_pos ⟨ho, hn⟩]) k
theorem r_put3 {i c j r : Nat} {z : Int} (hd : decode m.2.2.1 pc = .ok (.putfield i, 3)) (hf : lkF m.1 i = some (c, j, 3)) (ho : jobj M c r = true) (hn : jfin c j = false ∨ (m.1 = c ∧ m.2.1.name = "<init>")) (hz : z = 0 ∨ z = 1) (k : Run d m (pc + 3) ls st (si M r j z) Q) : Run d m pc ls (vI z :: vR r :: st) M Q := r_on hd (by simp only [actI, jPut, hf]; rw [if_pos ⟨ho, hn⟩, if_pos hz]) k
theorem r_stat {i r : Nat} (hd : decode m.2.2.1 pc = .ok (.getstatic i, 3)) (hs : lkS m.1 i = some r) (k : Run d m (pc + 3) ls (vR r :: st) M Q) : Run d m pc ls st M Q := r_on hd (by simp only [actI, jStat, hs]) k
theorem r_new {i c : Nat} (hd : decode m.2.2.1 pc = .ok (.new i, 3)) (hs : lkN m.1 i = some c) (k : Run d m (pc + 3) ls (vR (mx M) :: st) (nw M (c, 0) (jslots c)) Q) : Run d m pc ls st M Q := r_on hd (by simp only [actI, jNew, hs]) k
theorem r_newarray_int {z : Int} (hd : decode m.2.2.1 pc = .ok (.newarray .int, 2)) (hz : 0 ≤ z ∧ z ≤ 65536) (k : Run d m (pc + 2) ls (vR (mx M) :: st) (nw M (20, z.toNat) z.toNat) Q) : Run d m pc ls (vI z :: st) M Q := r_on hd (if_pos hz) k
theorem r_newarray_long {z : Int} (hd : decode m.2.2.1 pc = .ok (.newarray .long, 2)) (hz : 0 ≤ z ∧ z ≤ 65536) (k : Run d m (pc + 2) ls (vR (mx M) :: st) (nw M (21, z.toNat) z.toNat) Q) : Run d m pc ls (vI z :: st) M Q := r_on hd (if_pos hz) k
theorem r_newarray_boolean {z : Int} (hd : decode m.2.2.1 pc = .ok (.newarray .boolean, 2)) (hz : 0 ≤ z ∧ z ≤ 65536) (k : Run d m (pc + 2) ls (vR (mx M) :: st) (nw M (22, z.toNat) z.toNat) Q) : Run d m pc ls (vI z :: st) M Q := r_on hd (if_pos hz) k
theorem r_anewarray {i t : Nat} {z : Int} (hd : decode m.2.2.1 pc = .ok (.anewarray i, 3)) (ha : lkA m.1 i = some t) (hz : 0 ≤ z ∧ z ≤ 65536) (k : Run d m (pc + 3) ls (vR (mx M) :: st) (nw M (t, z.toNat) z.toNat) Q) : Run d m pc ls (vI z :: st) M Q := r_on hd (by simp only [actI, jNewR, ha]; exact if_pos hz) k
theorem r_len {r : Nat} (hd : decode m.2.2.1 pc = .ok (.arraylength, 1)) (h : r ≠ 0 ∧ r < mx M ∧ 20 ≤ (kd M r).1 ∧ (kd M r).1 ≤ 24) (k : Run d m (pc + 1) ls (vI ((kd M r).2 : Nat) :: st) M Q) : Run d m pc ls (vR r :: st) M Q := r_on hd (if_pos h) k
theorem r_iaload {r : Nat} {i : Int} (hd : decode m.2.2.1 pc = .ok (.iaload, 1)) (h : jIdx M 20 r i = true) (k : Run d m (pc + 1) ls (vI (iv M r i.toNat) :: st) M Q) : Run d m pc ls (vI i :: vR r :: st) M Q := r_on hd (if_pos h) k
theorem r_laload {r : Nat} {i : Int} (hd : decode m.2.2.1 pc = .ok (.laload, 1)) (h : jIdx M 21 r i = true) (k : Run d m (pc + 1) ls (vL (lg M r i.toNat) :: st) M Q) : Run d m pc ls (vI i :: vR r :: st) M Q := r_on hd (if_pos h) k
theorem r_baload {r : Nat} {i : Int} (hd : decode m.2.2.1 pc = .ok (.baload, 1)) (h : jIdx M 22 r i = true) (k : Run d m (pc + 1) ls (vI (iv M r i.toNat) :: st) M Q) : Run d m pc ls (vI i :: vR r :: st) M Q := r_on hd (if_pos h) k
theorem r_aaload {r : Nat} {i : Int} (hd : decode m.2.2.1 pc = .ok (.aaload, 1)) (h : jIdx M 23 r i = true ∨ jIdx M 24 r i = true) (k : Run d m (pc + 1) ls (vR (rv M r i.toNat) :: st) M Q) : Run d m pc ls (vI i :: vR r :: st) M Q := r_on hd (if_pos h) k
theorem r_iastore {r : Nat} {i z : Int} (hd : decode m.2.2.1 pc = .ok (.iastore, 1)) (h : jIdx M 20 r i = true ∧ 6 ≤ r) (k : Run d m (pc + 1) ls st (si M r i.toNat z) Q) : Run d m pc ls (vI z :: vI i :: vR r :: st) M Q := r_on hd (if_pos h) k
theorem r_bastore {r : Nat} {i z : Int} (hd : decode m.2.2.1 pc = .ok (.bastore, 1)) (h : jIdx M 22 r i = true ∧ 6 ≤ r) (hz : z = 0 ∨ z = 1) (k : Run d m (pc + 1) ls st (si M r i.toNat z) Q) : Run d m pc ls (vI z :: vI i :: vR r :: st) M Q := r_on hd ((if_pos h).trans (if_pos hz)) k
theorem r_lastore {r : Nat} {i z : Int} (hd : decode m.2.2.1 pc = .ok (.lastore, 1)) (h : jIdx M 21 r i = true ∧ 6 ≤ r) (k : Run d m (pc + 1) ls st (sl M r i.toNat z) Q) : Run d m pc ls (vL z :: vI i :: vR r :: st) M Q := r_on hd (if_pos h) k
theorem r_aastore {r v : Nat} {i : Int} (hd : decode m.2.2.1 pc = .ok (.aastore, 1)) (h : ((jIdx M 23 r i = true ∧ jobj M 7 v = true) ∨ (jIdx M 24 r i = true ∧ jobj M 3 v = true)) ∧ 6 ≤ r ∧ 6 ≤ v) (k : Run d m (pc + 1) ls st (sr M r i.toNat v) Q) : Run d m pc ls (vR v :: vI i :: vR r :: st) M Q := r_on hd (if_pos h) k
theorem r_invS {i na : Nat} {cal : jMe} (hd : decode m.2.2.1 pc = .ok (.invokestatic i, 3)) (hs : ¬ (m.1 = 12 ∧ i = 42)) (hx : lkX m.1 i = none) (hm : lkM m.1 i = some (2, cal, na)) (hc : cal.1 ≠ 99) (hn : na ≤ st.length) {as q : List jV} (ha : (st.take na).reverse = as) (hq : st.drop na = q) (hw : jcat q ≤ 8) (hj : (jargs as).length ≤ cal.2.2.2.1)
    (k : Call d cal as M (fun r M2 => Run (d + 1) m (pc + 3) ls (r.toList ++ q) M2 Q)) : Run (d + 1) m pc ls st M Q := by
  subst ha; subst hq
  refine r_call hd ?_ hc k
  simp only [actI, jStac, if_neg hs, hx, jCall, hm]
  rw [if_pos ⟨trivial, hn, hw, hj⟩]
theorem r_invV {i na r : Nat} {cal : jMe} (hd : decode m.2.2.1 pc = .ok (.invokevirtual i, 3)) (hm : lkM m.1 i = some (0, cal, na)) (hc : cal.1 ≠ 99) (hn : na ≤ st.length) {as q : List jV} (ha : (st.take na).reverse = as) (hq : st.drop na = vR r :: q) (hw : jcat q ≤ 8) (hj : (jargs as).length + 1 ≤ cal.2.2.2.1) (ho : jobj M cal.1 r = true)
    (k : Call d cal (vR r :: as) M (fun r M2 => Run (d + 1) m (pc + 3) ls (r.toList ++ q) M2 Q)) : Run (d + 1) m pc ls st M Q := by
  subst ha
  refine r_call hd ?_ hc k
  have hq2 : st.drop (na + 1) = q := by
    have := congrArg (List.drop 1) hq
    rwa [List.drop_drop] at this
  simp only [actI, jCall, hm]
  rw [if_pos ⟨trivial, hn, (show jcat (st.drop (na + 1)) ≤ 8 by rw [hq2]; exact hw), hj⟩, hq]
  simp only [if_pos ho]
theorem r_invI {i na r : Nat} {cal : jMe} (hd : decode m.2.2.1 pc = .ok (.invokespecial i, 3)) (hz : lkO m.1 i = false) (hm : lkM m.1 i = some (1, cal, na)) (hc : cal.1 ≠ 99) (hn : na ≤ st.length) {as q : List jV} (ha : (st.take na).reverse = as) (hq : st.drop na = vR r :: q) (hw : jcat q ≤ 8) (hj : (jargs as).length + 1 ≤ cal.2.2.2.1) (ho : jobj M cal.1 r = true) (hi : cal.2.1.name = "<init>")
    (k : Call d cal (vR r :: as) M (fun r M2 => Run (d + 1) m (pc + 3) ls (r.toList ++ q) M2 Q)) : Run (d + 1) m pc ls st M Q := by
  subst ha
  refine r_call hd ?_ hc k
  have hq2 : st.drop (na + 1) = q := by
    have := congrArg (List.drop 1) hq
    rwa [List.drop_drop] at this
  simp only [actI, jSpec, hz, jCall, hm]
  rw [if_neg (by decide), if_pos ⟨trivial, hn, (show jcat (st.drop (na + 1)) ≤ 8 by rw [hq2]; exact hw), hj⟩, hq]
  simp only [if_pos (show jobj M cal.1 r = true ∧ cal.2.1.name = "<init>" from ⟨ho, hi⟩)]
theorem r_math0 {i : Nat} {a b : Int} (hd : decode m.2.2.1 pc = .ok (.invokestatic i, 3)) (hs : ¬ (m.1 = 12 ∧ i = 42)) (hx : lkX m.1 i = some 0) (hw : jcat st ≤ 8) (k : Run d m (pc + 3) ls (vI (if a < b then b else a) :: st) M Q) : Run d m pc ls (vI b :: vI a :: st) M Q := r_on hd (by simp only [actI, jStac, if_neg hs, hx, jMath, if_pos hw]) k
theorem r_math1 {i : Nat} {a b : Int} (hd : decode m.2.2.1 pc = .ok (.invokestatic i, 3)) (hs : ¬ (m.1 = 12 ∧ i = 42)) (hx : lkX m.1 i = some 1) (hw : jcat st ≤ 8) (k : Run d m (pc + 3) ls (vL (if b < a then a else b) :: st) M Q) : Run d m pc ls (vL b :: vL a :: st) M Q := r_on hd (by simp only [actI, jStac, if_neg hs, hx, jMath, if_pos hw]) k
theorem r_math2 {i : Nat} {a b : Int} (hd : decode m.2.2.1 pc = .ok (.invokestatic i, 3)) (hs : ¬ (m.1 = 12 ∧ i = 42)) (hx : lkX m.1 i = some 2) (hw : jcat st ≤ 8) (k : Run d m (pc + 3) ls (vI (if b < a then b else a) :: st) M Q) : Run d m pc ls (vI b :: vI a :: st) M Q := r_on hd (by simp only [actI, jStac, if_neg hs, hx, jMath, if_pos hw]) k
theorem r_math3 {i : Nat} {a b : Int} (hd : decode m.2.2.1 pc = .ok (.invokestatic i, 3)) (hs : ¬ (m.1 = 12 ∧ i = 42)) (hx : lkX m.1 i = some 3) (hw : jcat st ≤ 8) (k : Run d m (pc + 3) ls (vL (if b < a then b else a) :: st) M Q) : Run d m pc ls (vL b :: vL a :: st) M Q := r_on hd (by simp only [actI, jStac, if_neg hs, hx, jMath, if_pos hw]) k
theorem r_obj {i r : Nat} (hd : decode m.2.2.1 pc = .ok (.invokespecial i, 3)) (hz : lkO m.1 i = true) (hr : r ≠ 0) (hw : jcat st ≤ 8) (k : Run d m (pc + 3) ls st M Q) : Run d m pc ls (vR r :: st) M Q := r_on hd (by simp only [actI, jSpec, hz, if_pos]; rw [if_pos ⟨hr, hw⟩]) k
theorem r_iret {z : Int} (hd : decode m.2.2.1 pc = .ok (.ireturn, 1)) (ht : m.2.2.2.2 = some .int) (k : Q (some (vI z)) M) : Run d m pc ls [vI z] M Q := r_ret hd (by simp only [actI, jRetI, ht]) k
theorem r_zret {z : Int} (hd : decode m.2.2.1 pc = .ok (.ireturn, 1)) (ht : m.2.2.2.2 = some .boolean) (hz : z = 0 ∨ z = 1) (k : Q (some (vI z)) M) : Run d m pc ls [vI z] M Q := r_ret hd (by simp only [actI, jRetI, ht]; rw [if_pos hz]) k
theorem r_lret {z : Int} (hd : decode m.2.2.1 pc = .ok (.lreturn, 1)) (ht : m.2.2.2.2 = some .long) (k : Q (some (vL z)) M) : Run d m pc ls [vL z] M Q := r_ret hd (by simp only [actI, jRetL, ht]) k
theorem r_aret {z : Nat} {t : String} (hd : decode m.2.2.1 pc = .ok (.areturn, 1)) (ht : m.2.2.2.2 = some (.object t)) (k : Q (some (vR z)) M) : Run d m pc ls [vR z] M Q := r_ret hd (by simp only [actI, jRetA, ht]) k
theorem r_vret (hd : decode m.2.2.1 pc = .ok (.return_, 1)) (ht : m.2.2.2.2 = none) (k : Q none M) : Run d m pc ls [] M Q := r_ret hd (by simp only [actI, jRetV, ht]) k
end Rules
