/-! held: of both -/
/-- the place at which a mind of the set has the thought laid -/
def heJ (s : jS) (c : Nat → Bool) (i : Nat) : Bool := c (i / 4) && decide (fE (s 1) (i / 4) = ((i % 4 : Nat) : Int))
def heS (s : jS) (c : Nat → Bool) (p : Int) : jS := fun f i => if heJ s c i = true ∧ 1 ≤ f ∧ f ≤ 4 then (if f = 1 then p else if f = 3 then 5 else 0) else s f i
/-- all are laid, the masses are weighed, and then these alone think it -/
def heT (I : jI) (s : jS) (ab c : Nat → Bool) (p : Int) : jS := fun f i => if f = 1 ∧ heJ s ab i = true then (if c (i / 4) = true then p else -1) else pW I (heS s ab p) f i
theorem heJ_iff {s : jS} {c : Nat → Bool} {i : Nat} : heJ s c i = true ↔ c (i / 4) = true ∧ fE (s 1) (i / 4) = ((i % 4 : Nat) : Int) := by
  unfold heJ; simp
theorem heS_f {s : jS} {c : Nat → Bool} {p : Int} {f i : Nat} (h : f = 0 ∨ 5 ≤ f) : heS s c p f i = s f i := if_neg (by omega)
theorem heS_no {s : jS} {c : Nat → Bool} {p : Int} {f i : Nat} (h : ¬ heJ s c i = true) : heS s c p f i = s f i := if_neg (fun z => h z.1)
theorem heS_yes {s : jS} {c : Nat → Bool} {p : Int} {i : Nat} (h : heJ s c i = true) : heS s c p 1 i = p ∧ heS s c p 2 i = 0 ∧ heS s c p 3 i = 5 ∧ heS s c p 4 i = 0 :=
  ⟨by unfold heS; rw [if_pos ⟨h, by omega, by omega⟩]; rfl, by unfold heS; rw [if_pos ⟨h, by omega, by omega⟩]; rfl, by unfold heS; rw [if_pos ⟨h, by omega, by omega⟩]; rfl, by unfold heS; rw [if_pos ⟨h, by omega, by omega⟩]; rfl⟩
theorem heS_add {s : jS} {c c' : Nat → Bool} {p : Int} {q e : Nat} (hE : fE (s 1) q = (e : Int)) (he : e < 4) (hq : c q = false) (hc : ∀ x, c' x = true ↔ (c x = true ∨ x = q)) : heS s c' p = pLay (heS s c p) (4 * q + e) p 0 5 := by
  funext f i
  by_cases ci : i = 4 * q + e
  · subst ci
    have h4 : (4 * q + e) / 4 = q := by omega
    have h5 : (4 * q + e) % 4 = e := by omega
    have j' : heJ s c' (4 * q + e) = true := by rw [heJ_iff, h4, h5]; exact ⟨(hc q).mpr (Or.inr rfl), hE⟩
    have j0 : ¬ heJ s c (4 * q + e) = true := by rw [heJ_iff, h4, hq]; simp
    unfold heS pLay
    by_cases f1 : f = 1
    · subst f1; simp [j']
    · by_cases f2 : f = 2
      · subst f2; simp [j']
      · by_cases f3 : f = 3
        · subst f3; simp [j']
        · by_cases f4 : f = 4
          · subst f4; simp [j']
          · rw [if_neg (by omega), if_neg (by omega), if_neg (by omega), if_neg (by omega), if_neg (by omega)]
            exact (if_neg (by omega)).symm
  · have e1 : heJ s c' i = true ↔ heJ s c i = true := by
      rw [heJ_iff, heJ_iff, hc]
      constructor
      · rintro ⟨z1, z2⟩
        refine ⟨?_, z2⟩
        rcases z1 with z1 | z1
        · exact z1
        · rw [z1, hE] at z2; omega
      · rintro ⟨z1, z2⟩
        exact ⟨Or.inl z1, z2⟩
    have e2 : pLay (heS s c p) (4 * q + e) p 0 5 f i = heS s c p f i := by
      unfold pLay
      rw [if_neg (by omega), if_neg (by omega), if_neg (by omega), if_neg (by omega)]
    rw [e2]
    unfold heS
    simp only [e1]
theorem heS_0 {s : jS} {p : Int} : heS s (fun _ => false) p = s := by
  funext f i
  exact heS_no (by unfold heJ; simp)
theorem heS_cg {s : jS} {c c' : Nat → Bool} {p : Int} (h : ∀ x, c x = c' x) : heS s c p = heS s c' p := by rw [show c = c' from funext h]
theorem WS.he {n : Nat} {s : jS} {c : Nat → Bool} {p : Int} (h : WS n s) (hp : 0 ≤ p ∧ p < n) (hc : ∀ q, c q = true → q < n) : WS n (heS s c p) := by
  obtain ⟨w1, w2, w3, w4, w5, w6⟩ := h
  refine ⟨fun i hi => ?_, fun i hi hn => ?_, fun i hi => ?_, ?_, ?_, ?_⟩
  · by_cases j : heJ s c i = true
    · obtain ⟨a1, a2, a3, a4⟩ := heS_yes (p := p) j
      rw [a1, a2, a3, a4]
      omega
    · rw [heS_no j, heS_no j, heS_no j, heS_no j]; exact w1 i hi
  · rw [heS_no]
    · exact w2 i hi hn
    · intro j
      have := hc _ (heJ_iff.mp j).1
      omega
  · rw [heS_f (by omega)]; exact w3 i hi
  · rw [heS_f (by omega)]; exact w4
  · rw [heS_f (by omega)]; exact w5
  · rw [heS_f (by omega)]; exact w6
theorem heT_WS {n : Nat} {I : jI} {s : jS} {ab c : Nat → Bool} {p : Int} (h : WS n s) (hp : 0 ≤ p ∧ p < n) (hc : ∀ q, ab q = true → q < n) : WS n (heT I s ab c p) := by
  have k := h.he (p := p) hp hc
  obtain ⟨w1, w2, w3, w4, w5, w6⟩ := k
  have e : ∀ f i, f ≠ 1 → f ≠ 5 → heT I s ab c p f i = heS s ab p f i := fun f i h1 h5 => by
    unfold heT; rw [if_neg (fun z => h1 z.1)]; exact pW_n h5
  refine ⟨fun i hi => ?_, fun i hi hn => ?_, fun i hi => ?_, ?_, ?_, ?_⟩
  · rw [e 2 i (by omega) (by omega), e 3 i (by omega) (by omega), e 4 i (by omega) (by omega)]
    have := w1 i hi
    unfold heT
    split
    · split <;> omega
    · rw [pW_n (by decide)]; exact this
  · unfold heT
    rw [if_neg (fun z => by have := hc _ (heJ_iff.mp z.2).1; omega)]
    rw [pW_n (by decide)]
    exact w2 i hi hn
  · rw [e 6 i (by omega) (by omega)]; exact w3 i hi
  · rw [e 0 7 (by omega) (by omega)]; exact w4
  · rw [e 0 8 (by omega) (by omega)]; exact w5
  · rw [e 0 9 (by omega) (by omega)]; exact w6
theorem wtF_cg2 {w w' m m' : Nat → Int} {p s0 : Int} : ∀ n, (∀ j, j < n → (w j = p ↔ w' j = p) ∧ (w j = p → m j = m' j)) → wtF w m p s0 n = wtF w' m' p s0 n
  | 0, _ => rfl
  | n + 1, h => by
    have ih := wtF_cg2 (s0 := s0) n (fun j hj => h j (by omega))
    obtain ⟨h1, h2⟩ := h n (by omega)
    simp only [wtF]
    rw [ih]
    by_cases c : w n = p
    · rw [if_pos c, if_pos (h1.mp c), h2 c]
    · rw [if_neg c, if_neg (fun z => c (h1.mpr z))]
/-- it weighs the same whether the others' places are empty or were emptied after -/
theorem heT_wt {I : jI} {s : jS} {ab c b : Nat → Bool} {p : Nat} (hab : ∀ q, ab q = true → fE (s 1) q ≠ -1) (hc : ∀ q, q < 8 → c q = true → ab q = true) (hb : ∀ q, q < 8 → ab q = true → b q = c q) : wtS (heT I s ab b p) p = wtS (pW I (heS s c p)) p := by
  have e6 : heT I s ab b p 6 p = pW I (heS s c p) 6 p := by
    unfold heT
    rw [if_neg (fun z => by omega), pW_n (by decide), pW_n (by decide), heS_f (by omega), heS_f (by omega)]
  unfold wtS
  rw [e6]
  refine wtF_cg2 32 (fun j hj => ?_)
  have q8 : j / 4 < 8 := by omega
  have m5 : heT I s ab b p 5 j = massS I (heS s ab p) j := by
    unfold heT
    rw [if_neg (fun z => by omega)]
    rfl
  have m5' : pW I (heS s c p) 5 j = massS I (heS s c p) j := rfl
  have w5' : pW I (heS s c p) 1 j = heS s c p 1 j := pW_n (by decide)
  rw [m5, m5', w5']
  by_cases ja : heJ s ab j = true
  · have ew : heT I s ab b p 1 j = if c (j / 4) = true then (p : Int) else -1 := by
      unfold heT
      rw [if_pos ⟨rfl, ja⟩, hb _ q8 (heJ_iff.mp ja).1]
    rw [ew]
    by_cases cc : c (j / 4) = true
    · have jc : heJ s c j = true := heJ_iff.mpr ⟨cc, (heJ_iff.mp ja).2⟩
      obtain ⟨a1, a2, a3, a4⟩ := heS_yes (p := (p : Int)) ja
      obtain ⟨b1, b2, b3, b4⟩ := heS_yes (p := (p : Int)) jc
      rw [if_pos cc, b1]
      refine ⟨Iff.rfl, fun _ => ?_⟩
      unfold massS
      rw [a1, a2, a3, a4, b1, b2, b3, b4, heS_f (f := 0) (by omega), heS_f (f := 0) (by omega), heS_f (f := 0) (by omega), heS_f (f := 0) (by omega)]
    · have jc : ¬ heJ s c j = true := fun z => cc (heJ_iff.mp z).1
      have hs1 : s 1 j = -1 := by
        have h1 := (heJ_iff.mp ja)
        have h2 := fE_at (hab _ h1.1)
        rw [h1.2, Int.toNat_natCast, show 4 * (j / 4) + j % 4 = j by omega] at h2
        exact h2
      rw [if_neg cc, heS_no jc, hs1]
      exact ⟨Iff.rfl, fun z => by omega⟩
  · have jc : ¬ heJ s c j = true := fun z => ja (heJ_iff.mpr ⟨hc _ q8 (heJ_iff.mp z).1, (heJ_iff.mp z).2⟩)
    have ew : heT I s ab b p 1 j = s 1 j := by
      unfold heT
      rw [if_neg (fun z => ja z.2), pW_n (by decide), heS_no ja]
    rw [ew, heS_no jc]
    refine ⟨Iff.rfl, fun _ => ?_⟩
    unfold massS
    rw [heS_no ja, heS_no ja, heS_no ja, heS_no ja, heS_no jc, heS_no jc, heS_no jc, heS_no jc, heS_f (f := 0) (by omega), heS_f (f := 0) (by omega), heS_f (f := 0) (by omega), heS_f (f := 0) (by omega)]
/-- the best set among the first -/
def heB (ok : Nat → Bool) : Nat → Int
  | 0 => -1
  | n + 1 => if ok (n + 1) = true ∧ (heB ok n = -1 ∨ bcF ((n + 1 : Nat) : Int) < bcF (heB ok n)) then ((n + 1 : Nat) : Int) else heB ok n
theorem heB_in {ok : Nat → Bool} : ∀ n, -1 ≤ heB ok n ∧ heB ok n ≤ n
  | 0 => by simp [heB]
  | n + 1 => by
    have := heB_in (ok := ok) n
    simp only [heB]
    split <;> omega
theorem heB_stop {ok : Nat → Bool} {n : Nat} : ∀ k, (∀ j, n < j → j ≤ n + k → ok j = false) → heB ok (n + k) = heB ok n
  | 0, _ => rfl
  | k + 1, h => by
    rw [show n + (k + 1) = (n + k) + 1 by omega]
    simp only [heB]
    rw [if_neg (fun z => by have := h (n + k + 1) (by omega) (by omega); rw [this] at z; exact absurd z.1 (by decide)), heB_stop k (fun j h1 h2 => h j h1 (by omega))]
/-- the set of those who are able, as bits -/
def abN (c : Nat → Bool) : Nat → Nat
  | 0 => 0
  | n + 1 => if c n = true then 2 ^ n + abN c n else abN c n
theorem abN_lt {c : Nat → Bool} : ∀ n, abN c n < 2 ^ n
  | 0 => Nat.zero_lt_one
  | n + 1 => by
    have := abN_lt (c := c) n
    have h2 : 2 ^ (n + 1) = 2 * 2 ^ n := Nat.pow_succ'
    simp only [abN]
    split <;> omega
theorem abN_bit {c : Nat → Bool} : ∀ n, bitF c n = ((abN c n : Nat) : Int)
  | 0 => rfl
  | n + 1 => by
    simp only [bitF, abN]
    rw [abN_bit n]
    split <;> omega
theorem abN_t {c : Nat → Bool} : ∀ n q, (abN c n).testBit q = (decide (q < n) && c q)
  | 0, q => by simp [abN]
  | n + 1, q => by
    have hl := abN_lt (c := c) n
    simp only [abN]
    by_cases hc : c n = true
    · rw [if_pos hc]
      by_cases h1 : q = n
      · subst h1
        rw [Nat.testBit_two_pow_add_eq, Nat.testBit_lt_two_pow hl, hc]
        simp
      · by_cases h2 : q < n
        · rw [Nat.testBit_two_pow_add_gt h2, abN_t n q]
          simp [h2, show q < n + 1 by omega]
        · have hl2 := abN_lt (c := c) (n + 1)
          simp only [abN] at hl2
          rw [if_pos hc] at hl2
          rw [Nat.testBit_lt_two_pow (Nat.lt_of_lt_of_le hl2 (Nat.pow_le_pow_right (by decide) (by omega)))]
          simp [show ¬ q < n + 1 by omega]
    · rw [if_neg hc, abN_t n q]
      by_cases h1 : q = n
      · subst h1
        simp [hc]
      · simp [show q < n ↔ q < n + 1 by omega]
/-- a set of those alone who are able -/
theorem sub_iff {sm a : Nat} (hs : sm < 256) (ha : a < 256) : jand (sm : Int) (jxor (a : Int) (-1)) = 0 ↔ ∀ q, sm.testBit q = true → a.testBit q = true := by
  rw [jandn (by omega) (by omega)]
  have hm : ∀ q, q < 32 → (4294967295 : Nat).testBit q = true := fun q hq => by
    rw [show (4294967295 : Nat) = 2 ^ 32 - 1 from rfl, Nat.testBit_two_pow_sub_one]
    simp [hq]
  have h32 : ∀ q, sm.testBit q = true → q < 32 := fun q hq => by
    by_cases h : q < 32
    · exact h
    · rw [Nat.testBit_lt_two_pow (Nat.lt_of_lt_of_le (show sm < 2 ^ 8 from hs) (Nat.pow_le_pow_right (by decide) (by omega)))] at hq
      exact absurd hq (by decide)
  constructor
  · intro h q hq
    have h0 : sm &&& (a ^^^ 4294967295) = 0 := by omega
    have h1 : (sm &&& (a ^^^ 4294967295)).testBit q = false := by rw [h0]; simp
    rw [Nat.testBit_and, Nat.testBit_xor, hq, hm q (h32 q hq)] at h1
    cases hh : a.testBit q
    · rw [hh] at h1; exact absurd h1 (by decide)
    · rfl
  · intro h
    have h0 : sm &&& (a ^^^ 4294967295) = 0 := by
      refine Nat.eq_of_testBit_eq (fun q => ?_)
      rw [Nat.testBit_and, Nat.testBit_xor, Nat.zero_testBit]
      cases hq : sm.testBit q
      · rfl
      · rw [h q hq, hm q (h32 q hq)]
        rfl
    rw [h0]
    rfl
def heOk (W : kW) (p : Nat) (sm : Nat) : Bool := decide (jand (sm : Int) (jxor (bitF (abS W.I W.s p) W.I.np) (-1)) = 0) && !(flS (pW W.I (heS W.s sm.testBit p)) p)
def aHeld (W : kW) (p : Int) : Int := if ¬ (0 ≤ p ∧ p < W.I.np) then -1 else if flS (pW W.I W.s) p.toNat = true then heB (heOk W p.toNat) 255 else 0
theorem heT_ab {I : jI} {s : jS} {ab : Nat → Bool} {p : Int} : heT I s ab ab p = pW I (heS s ab p) := by
  funext f i
  unfold heT
  by_cases c : f = 1 ∧ heJ s ab i = true
  · obtain ⟨c1, c2⟩ := c
    subst c1
    rw [if_pos ⟨rfl, c2⟩, if_pos (heJ_iff.mp c2).1, pW_n (by decide), (heS_yes c2).1]
  · rw [if_neg c]
theorem heT_WM {I : jI} {s : jS} {ab b : Nat → Bool} {p : Int} (hI : WI I) : WM (heT I s ab b p) := by
  intro j hj
  have e : heT I s ab b p 5 j = massS I (heS s ab p) j := by
    unfold heT
    rw [if_neg (fun z => by omega)]
    rfl
  rw [e]
  exact massS_in hI hj
theorem heS_fE {s : jS} {c : Nat → Bool} {p : Int} {q : Nat} (h : c q = false) : fE (heS s c p 1) q = fE (s 1) q := by
  refine fE_congr (fun j hj => heS_no (fun z => ?_))
  have := (heJ_iff.mp z).1
  rw [show (4 * q + j) / 4 = q by omega, h] at this
  exact absurd this (by decide)
theorem heT_fl {I : jI} {s : jS} {ab c b : Nat → Bool} {p : Nat} (hab : ∀ q, ab q = true → fE (s 1) q ≠ -1) (hc : ∀ q, q < 8 → c q = true → ab q = true) (hb : ∀ q, q < 8 → ab q = true → b q = c q) : flS (heT I s ab b p) p = flS (pW I (heS s c p)) p := by
  unfold flS
  rw [heT_wt hab hc hb]
  have e : heT I s ab b p 0 7 = pW I (heS s c p) 0 7 := by
    unfold heT
    rw [if_neg (fun z => by omega), pW_n (by decide), pW_n (by decide), heS_f (by omega), heS_f (by omega)]
  rw [e]
