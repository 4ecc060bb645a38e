/-! odds: of both -/
def oddF (I : jI) (p : Nat) (ch : Int) : Nat → jS → Int → Int
  | 0, s, pt => if flS (pW I s) p then pt else 0
  | k + 1, s, pt => oddF I p ch k (pL I s) (pt - pt * ch / 100) + oddF I p ch k (pL I (pRen s p)) (pt * ch / 100)
theorem tune_in {pt ch : Int} (hp : 0 ≤ pt ∧ pt ≤ 1000000000) (hc : 0 ≤ ch ∧ ch ≤ 100) : 0 ≤ pt * ch ∧ pt * ch ≤ 100000000000 ∧ 0 ≤ pt * ch / 100 ∧ pt * ch / 100 ≤ pt := by
  have h1 : 0 ≤ pt * ch := Int.mul_nonneg hp.1 hc.1
  have h2 : pt * ch ≤ pt * 100 := Int.mul_le_mul_of_nonneg_left hc.2 hp.1
  omega
theorem oddF_in {I : jI} {p : Nat} {ch : Int} (hc : 0 ≤ ch ∧ ch ≤ 100) : ∀ (k : Nat) (s : jS) (pt : Int), 0 ≤ pt ∧ pt ≤ 1000000000 → 0 ≤ oddF I p ch k s pt ∧ oddF I p ch k s pt ≤ pt
  | 0, s, pt, h => by simp only [oddF]; split <;> omega
  | k + 1, s, pt, h => by
    obtain ⟨t1, t2, t3, t4⟩ := tune_in h hc
    have a := oddF_in (I := I) (p := p) hc k (pL I s) (pt - pt * ch / 100) (by omega)
    have b := oddF_in (I := I) (p := p) hc k (pL I (pRen s p)) (pt * ch / 100) (by omega)
    simp only [oddF]
    omega
theorem WS.ren {n : Nat} {s : jS} {w : Int} (h : WS n s) : WS n (pRen s w) := by
  obtain ⟨w1, w2, w3, w4, w5, w6⟩ := h
  have e : ∀ f i, f ≠ 4 → pRen s w f i = s f i := fun f i hf => if_neg (fun z => hf z.1)
  refine ⟨fun i hi => ?_, fun i hi hn => ?_, fun i hi => ?_, ?_, ?_, ?_⟩
  · rw [e 1 i (by omega), e 2 i (by omega), e 3 i (by omega)]
    have := w1 i hi
    have h4 : pRen s w 4 i = 0 ∨ pRen s w 4 i = s 4 i := by unfold pRen; split <;> simp
    rcases h4 with z | z <;> omega
  · rw [e 1 i (by omega)]; exact w2 i hi hn
  · rw [e 6 i (by omega)]; exact w3 i hi
  · rw [e 0 7 (by omega)]; exact w4
  · rw [e 0 8 (by omega)]; exact w5
  · rw [e 0 9 (by omega)]; exact w6
theorem pRen_09 {s : jS} {w : Int} : pRen s w 0 9 = s 0 9 := if_neg (fun z => by omega)
theorem pW_ren {I : jI} {s : jS} {w : Int} : pW I (pRen (pW I s) w) = pW I (pRen s w) := by
  refine pW_cg (fun f i hf => ?_)
  unfold pRen
  rw [pW_n (f := 1) (by decide), pW_n (f := 2) (by decide), pW_n hf]
def aOdds (W : kW) (p n c : Int) : Int := if ¬ (0 ≤ p ∧ p < W.I.np) ∨ n < 0 ∨ 6 < n ∨ c < 0 ∨ 100 < c then -1 else oddF W.I p.toNat c n.toNat W.s 1000000000
section OddsX
variable {d : Nat} {M : jM} {Q : Option jV → jM → Prop} {W : kW} {I : jI}
theorem lad_at (hS : Shp M) {j : Nat} (h : j < 7) : rv M 410 j = 411 + 8 * j := hS.2.2 410 j _ (by unfold R1; rw [if_neg (by decide), if_neg (by decide), if_pos rfl, if_pos h])
theorem lad_st {j : Nat} (h : j < 7) : isSt (411 + 8 * j) = true := by
  unfold isSt
  simp only [decide_eq_true_eq]
  omega
def Lp (k : Nat) (M : jM) (r : Nat) : Prop := (411 ≤ r ∧ r < 419 + 8 * k) ∨ Wp M r
end OddsX
