/-! STATES: log; who floats, who sinks -/
section StateM5
variable {d : Nat} {M : jM} {Q : Option jV → jM → Prop} {a n : Nat} {I : jI} {s : jS}
theorem cntF_in {w : Nat → Int} : ∀ n, 0 ≤ cntF w n ∧ cntF w n ≤ n
  | 0 => by simp [cntF]
  | n + 1 => by
    have := cntF_in (w := w) n
    simp only [cntF]
    split <;> omega
theorem t_note {x y : Int} (hd : 4 ≤ d) (hS : Shp M) (ha : isSt a = true) (hs : SA M a s) (hw : WS n s) (hx : 0 ≤ x ∧ x < 256) (hy : 0 ≤ y ∧ y < 256)
    (h : ∀ M', Fr (fun r => r = a + 7) M M' → (∀ i, i < 60 → iv M' (a + 7) i = if (i : Int) = s 0 9 % 60 then x + y * 256 + cntF (s 1) 32 * 65536 else iv M (a + 7) i) → Q none M') : Call d mX7_note [vR a, vI x, vI y] M Q := by
  obtain ⟨e, rfl⟩ := dd (d := d) (by omega)
  have hc := cntF_in (w := s 1) 32
  have h9 := hw.2.2.2.2.2
  refine vs_note ha (by omega) hS (t_thoughtCount (by omega) hS ha hs ⟨_, rfl, hS, ?_⟩)
  rw [hs.w0 ⟨by omega, by omega⟩, jrem_eq ⟨by omega, by omega⟩ ⟨by decide, by decide⟩]
  have e1 : jshl y 8 = y * ((2 ^ 8 : Nat) : Int) := by
    rw [jshl_eq ⟨by decide, by decide⟩]
    exact w32_i (by simp; omega) (by simp; omega)
  have e2 : jshl (cntF (s 1) 32) 16 = cntF (s 1) 32 * ((2 ^ 16 : Nat) : Int) := by
    rw [jshl_eq ⟨by decide, by decide⟩]
    exact w32_i (by simp; omega) (by simp; omega)
  have p8 : ((2 ^ 8 : Nat) : Int) = 256 := rfl
  have p16 : ((2 ^ 16 : Nat) : Int) = 65536 := rfl
  rw [e1, e2, jor_hi (k := 8) (by rw [p8]; omega) hy.1 (by rw [p8]; omega) (by omega) (by rw [p8]; omega), jor_hi (k := 16) (by rw [p8, p16]; omega) hc.1 (by rw [p8, p16]; omega) (by rw [p8]; omega) (by rw [p16]; omega), p8, p16]
  refine h _ (fr_ptv rfl) (fun i hi => ?_)
  rw [iv_ptv]
  by_cases hc2 : (i : Int) = s 0 9 % 60
  · rw [if_pos ⟨rfl, hc2, by omega⟩, if_pos hc2]
  · rw [if_neg (fun q => hc2 q.2.1), if_neg hc2]
theorem t_logged {i : Int} {w : Nat} (hd : 2 ≤ d) (hS : Shp M) (ha : isSt a = true) (hs : SA M a s) (hw : WS n s) (hi : 0 ≤ i ∧ i ≤ s 0 9) (hw2 : w ≤ 2) (hv : i32 (iv M (a + 7) ((s 0 9 - i) % 60).toNat)) (h : Q (some (vI (iv M (a + 7) ((s 0 9 - i) % 60).toNat / (2 ^ (8 * w) : Nat) % 256))) M) : Call d mX7_logged [vR a, vI i, vI (w : Int)] M Q := by
  obtain ⟨e, rfl⟩ := dd (d := d) (by omega)
  have h9 := hw.2.2.2.2.2
  refine vs_logged ha (by omega) hS ?_
  rw [hs.w0 ⟨by omega, by omega⟩, w32_i (z := s 0 9 - i) (by omega) (by omega), jrem_eq ⟨by omega, by omega⟩ ⟨by decide, by decide⟩, atv_k (by omega) (by omega), w32_i (z := 8 * (w : Int)) (by omega) (by omega), jshr_eq hv ⟨by omega, by omega⟩, show (255 : Int) = ((2 ^ 8 - 1 : Nat) : Int) from rfl, jand_mask _ 8 (by decide), show (8 * (w : Int)).toNat = 8 * w by omega]
  exact h
theorem t_sinks {p : Nat} (hd : 4 ≤ d) (hS : Shp M) (ha : isSt a = true) (hA : IA M I) (hI : WI I) (hs : SA M a s) (hw : WS n s) (hm : WM s) (hp : p < 8) (h : Q (some (vI (if skS I s p then 1 else 0))) M) : Call d mX1_sinks [vR 29, vR a, vI (p : Int)] M Q := by
  obtain ⟨e, rfl⟩ := dd (d := d) (by omega)
  refine vi_sinks (by omega) ha hS (t_weight (by omega) hS ha hs hw hm hp ⟨_, rfl, hS, ?_⟩)
  have hg := hI.2.2.2.1
  rw [hA.2.1, w64_i (by omega) (by omega)]
  refine (congrArg (fun z => Q (some (vI z)) M) ?_).mp h
  unfold skS
  simp only [jcmp_le, decide_eq_true_eq]
  split <;> split <;> first | rfl | omega
theorem t_floating (hd : 5 ≤ d) (hS : Shp M) (ha : isSt a = true) (hA : IA M I) (hI : WI I) (hs : SA M a s) (hw : WS n s) (hm : WM s) (h : Q (some (vI (bitF (flS s) I.np))) M) : Call d mX1_floating [vR 29, vR a] M Q := by
  obtain ⟨e, rfl⟩ := dd (d := d) (by omega)
  have hnp := hI.1
  refine vi_floating (by omega) ha hS ?_
  refine up_to (R := fun i => Run (e + 1) mX1_floating 4 [some (vR 29), some (vR a), some (vI (bitF (flS s) i)), some (vI (i : Int))] [] M Q) I.np ?_ ?_
  · exact vi_floating_4 (by omega) ha hS ⟨fun _ => h, fun c => absurd c (by rw [hA.1]; omega)⟩
  · intro i hi ih
    have hb := bitF_in (c := flS s) i
    refine vi_floating_4 (by omega) ha hS ⟨fun c => absurd c (by rw [hA.1]; omega), fun _ => t_floats (by omega) hS ha hs hw hm (by omega) ⟨_, rfl, hS, ?_⟩⟩
    rw [w32s (by omega)]
    simp only [bitF] at ih
    by_cases c : flS s i = true
    · rw [if_pos c] at ih ⊢
      rw [if_neg (by decide), jor_bit (by omega) hb]
      exact ih
    · rw [if_neg c] at ih ⊢
      have h30 : (2 : Nat) ^ i ≤ 2 ^ 8 := Nat.pow_le_pow_right (by decide) (by omega)
      rw [if_pos rfl, jor_0 ⟨hb.1, by omega⟩]
      exact ih
theorem t_sinking (hd : 6 ≤ d) (hS : Shp M) (ha : isSt a = true) (hA : IA M I) (hI : WI I) (hs : SA M a s) (hw : WS n s) (hm : WM s) (h : Q (some (vI (bitF (skS I s) I.np))) M) : Call d mX1_sinking [vR 29, vR a] M Q := by
  obtain ⟨e, rfl⟩ := dd (d := d) (by omega)
  have hnp := hI.1
  refine vi_sinking (by omega) ha hS ?_
  refine up_to (R := fun i => Run (e + 1) mX1_sinking 4 [some (vR 29), some (vR a), some (vI (bitF (skS I s) i)), some (vI (i : Int))] [] M Q) I.np ?_ ?_
  · exact vi_sinking_4 (by omega) ha hS ⟨fun _ => h, fun c => absurd c (by rw [hA.1]; omega)⟩
  · intro i hi ih
    have hb := bitF_in (c := skS I s) i
    refine vi_sinking_4 (by omega) ha hS ⟨fun c => absurd c (by rw [hA.1]; omega), fun _ => t_sinks (by omega) hS ha hA hI hs hw hm (by omega) ⟨_, rfl, hS, ?_⟩⟩
    rw [w32s (by omega)]
    simp only [bitF] at ih
    by_cases c : skS I s i = true
    · rw [if_pos c] at ih ⊢
      rw [if_neg (by decide), jor_bit (by omega) hb]
      exact ih
    · rw [if_neg c] at ih ⊢
      have h30 : (2 : Nat) ^ i ≤ 2 ^ 8 := Nat.pow_le_pow_right (by decide) (by omega)
      rw [if_pos rfl, jor_0 ⟨hb.1, by omega⟩]
      exact ih
def abS (I : jI) (s : jS) (p : Int) (i : Nat) : Bool := decide ((i : Int) ≠ p ∧ fG (I.mi i) 0 = 1 ∧ fE (s 1) i ≠ -1)
theorem t_able {p : Int} (hd : 4 ≤ d) (hS : Shp M) (ha : isSt a = true) (hA : IA M I) (hI : WI I) (hs : SA M a s) (h : Q (some (vI (bitF (abS I s p) I.np))) M) : Call d mX1_ableToThinkPolitely [vR 29, vR a, vI p] M Q := by
  obtain ⟨e, rfl⟩ := dd (d := d) (by omega)
  have hnp := hI.1
  refine vi_able (by omega) ha hS ?_
  refine up_to (R := fun i => ∀ l5, Run (e + 1) mX1_ableToThinkPolitely 5 [some (vR 29), some (vR a), some (vI p), some (vI (bitF (abS I s p) i)), some (vI (i : Int)), l5] [] M Q) I.np ?_ ?_ _
  · intro l5
    exact vi_able_5 (by omega) ha hS ⟨fun _ => h, fun c => absurd c (by rw [hA.1]; omega)⟩
  · intro i hi ih l5
    have hb := bitF_in (c := abS I s p) i
    have h30 : (2 : Nat) ^ i ≤ 2 ^ 8 := Nat.pow_le_pow_right (by decide) (by omega)
    have no : ∀ l5, ¬ abS I s p i = true → Run (e + 1) mX1_ableToThinkPolitely 5 [some (vR 29), some (vR a), some (vI p), some (vI (jor (bitF (abS I s p) i) 0)), some (vI (w32 ((i : Int) + 1))), l5] [] M Q := by
      intro l5 c
      have := ih l5
      simp only [bitF] at this
      rw [if_neg c] at this
      rw [w32s (by omega), jor_0 ⟨hb.1, by omega⟩]
      exact this
    refine vi_able_5 (by omega) ha hS ⟨fun c => absurd c (by rw [hA.1]; omega), fun _ => ⟨fun c => ?_, fun c => ?_⟩⟩
    · exact no _ (by unfold abS; simp [c])
    · refine i_takes (by omega) hS (by omega) ⟨_, rfl, hS, fun c2 => ?_, fun c2 => t_emptyPlace (by omega) hS ha hs (by omega) ⟨_, rfl, hS, ?_⟩⟩
      · rw [hA.2.2.2.2.1 i (by omega)] at c2
        exact no _ (by unfold abS; simp [c2])
      · rw [hA.2.2.2.2.1 i (by omega)] at c2
        have c2' : fG (I.mi i) 0 = 1 := by unfold fG at c2 ⊢; split at c2 <;> simp_all
        by_cases c3 : fE (s 1) i = -1
        · rw [if_pos c3, if_pos rfl]
          exact no _ (by unfold abS; simp [c3])
        · have c4 : abS I s p i = true := by unfold abS; simp [c, c2', c3]
          have := ih (some (vI (1 : Int)))
          simp only [bitF] at this
          rw [if_pos c4] at this
          rw [if_neg c3, if_neg (by decide), jor_bit (by omega) hb, w32s (by omega)]
          exact this
end StateM5
