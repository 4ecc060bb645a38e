/-! STATES: their methods over what they are thought to be -/
theorem wtF_congr {w w' m m' : Nat → Int} {p s0 : Int} : ∀ n, (∀ j, j < n → w j = w' j ∧ m j = m' j) → wtF w m p s0 n = wtF w' m' p s0 n
  | 0, _ => rfl
  | n + 1, h => by
    simp only [wtF]
    rw [wtF_congr n (fun j hj => h j (by omega)), (h n (by omega)).1, (h n (by omega)).2]
theorem cntF_congr {w w' : Nat → Int} : ∀ n, (∀ j, j < n → w j = w' j) → cntF w n = cntF w' n
  | 0, _ => rfl
  | n + 1, h => by
    simp only [cntF]
    rw [cntF_congr n (fun j hj => h j (by omega)), h n (by omega)]
theorem ofF_congr {w w' : Nat → Int} {p : Int} : ∀ n, (∀ j, j < n → w j = w' j) → ofF w p n = ofF w' p n
  | 0, _ => rfl
  | n + 1, h => by
    simp only [ofF]
    rw [ofF_congr n (fun j hj => h j (by omega)), h n (by omega)]
theorem heavF_congr {w w' m m' : Nat → Int} {p : Int} : ∀ n, (∀ j, j < n → w j = w' j ∧ m j = m' j) → heavF w m p n = heavF w' m' p n
  | 0, _ => rfl
  | n + 1, h => by
    have hb := heavF_in (w := w') (m := m') (p := p) n
    simp only [heavF]
    rw [heavF_congr n (fun j hj => h j (by omega)), (h n (by omega)).1, (h n (by omega)).2]
    by_cases hq : heavF w' m' p n = -1
    · simp [hq]
    · rw [(h (heavF w' m' p n).toNat (by omega)).2]
theorem oldF_congr {w w' g g' : Nat → Int} : ∀ n, (∀ j, j < n → w j = w' j ∧ g j = g' j) → oldF w g n = oldF w' g' n
  | 0, _ => rfl
  | n + 1, h => by
    simp only [oldF]
    rw [oldF_congr n (fun j hj => h j (by omega)), (h n (by omega)).1, (h n (by omega)).2]
theorem fE_congr {w w' : Nat → Int} {q : Nat} (h : ∀ j, j < 4 → w (4 * q + j) = w' (4 * q + j)) : fE w q = fE w' q := by
  unfold fE
  rw [show w (4 * q) = w' (4 * q) from h 0 (by decide), h 1 (by decide), h 2 (by decide), h 3 (by decide)]
theorem thkF_congr {w w' : Nat → Int} {q : Nat} {p : Int} (h : ∀ j, j < 4 → w (4 * q + j) = w' (4 * q + j)) : thkF w q p = thkF w' q p := by
  unfold thkF
  rw [show w (4 * q) = w' (4 * q) from h 0 (by decide), h 1 (by decide), h 2 (by decide), h 3 (by decide)]
theorem in32 {f i : Nat} (hf : 1 ≤ f ∧ f ≤ 5) (hi : i < 32) : inS f i := Or.inl ⟨hf.1, hf.2, hi⟩
theorem in8 {i : Nat} (hi : i < 8) : inS 6 i := Or.inr (Or.inl ⟨rfl, hi⟩)
theorem in0 {i : Nat} (hi : 7 ≤ i ∧ i ≤ 9) : inS 0 i := Or.inr (Or.inr ⟨rfl, hi.1, hi.2⟩)
theorem SA.w0 {M : jM} {a : Nat} {s : jS} (h : SA M a s) {i : Nat} (hi : 7 ≤ i ∧ i ≤ 9) : iv M a i = s 0 i := h 0 i (in0 hi)
theorem wtS_in {n p : Nat} {s : jS} (hw : WS n s) (hm : WM s) (hp : p < 8) : 0 ≤ wtS s p ∧ wtS s p ≤ 8858370048 := by
  have hb := hw.2.2.1 p hp
  have := wtF_in (w := s 1) (m := s 5) (p := (p : Int)) (s0 := 1000 * s 6 p) ⟨by omega, by omega⟩ 32 (by omega) hm
  unfold wtS
  omega
def flS (s : jS) (p : Nat) : Bool := decide (wtS s p < 10000 * s 0 7)
def skS (I : jI) (s : jS) (p : Nat) : Bool := decide (1000000 * I.gr < wtS s p)
def bitF (c : Nat → Bool) : Nat → Int
  | 0 => 0
  | n + 1 => if c n then bitF c n + (2 ^ n : Nat) else bitF c n
theorem bitF_in {c : Nat → Bool} : ∀ n, 0 ≤ bitF c n ∧ bitF c n < (2 ^ n : Nat)
  | 0 => by simp [bitF]
  | n + 1 => by
    have := bitF_in (c := c) n
    have h2 : ((2 ^ (n + 1) : Nat) : Int) = 2 * (2 ^ n : Nat) := by rw [Nat.pow_succ']; rfl
    simp only [bitF]
    split <;> omega
theorem bitF_congr {c c' : Nat → Bool} : ∀ n, (∀ j, j < n → c j = c' j) → bitF c n = bitF c' n
  | 0, _ => rfl
  | n + 1, h => by
    simp only [bitF]
    rw [bitF_congr n (fun j hj => h j (by omega)), h n (by omega)]
theorem jor_0 {b : Int} (hb : 0 ≤ b ∧ b < 2147483648) : jor b 0 = b := by
  rw [jor_nat hb ⟨by decide, by decide⟩]
  simp
  omega
theorem jor_hi {x y : Int} {k : Nat} (hx : 0 ≤ x ∧ x < (2 ^ k : Nat)) (hy : 0 ≤ y) (hk : x + y * (2 ^ k : Nat) < 2147483648) (hk2 : x < 2147483648) (hyk : 0 ≤ y * (2 ^ k : Nat)): jor x (y * (2 ^ k : Nat)) = x + y * (2 ^ k : Nat) := by
  rw [jor_nat ⟨hx.1, hk2⟩ ⟨hyk, by omega⟩]
  have h1 : (y * (2 ^ k : Nat)).toNat = y.toNat <<< k := by
    rw [Nat.shiftLeft_eq]
    obtain ⟨n, rfl⟩ := Int.eq_ofNat_of_zero_le hy
    rw [show (n : Int) * ((2 ^ k : Nat) : Int) = ((n * 2 ^ k : Nat) : Int) by rw [Int.natCast_mul]]
    rfl
  rw [h1, Nat.or_comm, ← Nat.shiftLeft_add_eq_or_of_lt (b := x.toNat) (i := k) (by omega) y.toNat, ← h1]
  omega
theorem jor_bit {b : Int} {i : Nat} (hi : i < 30) (hb : 0 ≤ b ∧ b < (2 ^ i : Nat)) : jor b (jshl 1 (i : Int)) = b + (2 ^ i : Nat) := by
  have h30 : (2 : Nat) ^ i ≤ 2 ^ 29 := Nat.pow_le_pow_right (by decide) (by omega)
  have h30' : (2 : Nat) ^ 29 = 536870912 := by decide
  have e1 : jshl 1 (i : Int) = 1 * (2 ^ i : Nat) := by
    rw [jshl_eq ⟨by omega, by omega⟩, Int.toNat_natCast, w32_i (by omega) (by omega)]
  rw [e1, jor_hi hb (by decide) (by omega) (by omega) (by omega)]
  omega
section StateM4
variable {d : Nat} {M : jM} {Q : Option jV → jM → Prop} {a b n : Nat} {I : jI} {s : jS}
theorem t_weight {p : Nat} (hd : 2 ≤ d) (hS : Shp M) (ha : isSt a = true) (hs : SA M a s) (hw : WS n s) (hm : WM s) (hp : p < 8) (h : Q (some (vL (wtS s p))) M) : Call d mX7_weight [vR a, vI (p : Int)] M Q := by
  have hb := hw.2.2.1 p hp
  have e6 := hs 6 p (in8 hp)
  refine s_weight hd hS ha hp (by rw [e6]; omega) (fun j hj => by rw [hs 5 j (in32 ⟨by omega, by omega⟩ hj)]; exact hm j hj) ?_
  rw [e6, wtF_congr (w' := s 1) (m' := s 5) 32 (fun j hj => ⟨hs 1 j (in32 ⟨by omega, by omega⟩ hj), hs 5 j (in32 ⟨by omega, by omega⟩ hj)⟩)]
  exact h
theorem t_floats {p : Nat} (hd : 3 ≤ d) (hS : Shp M) (ha : isSt a = true) (hs : SA M a s) (hw : WS n s) (hm : WM s) (hp : p < 8) (h : Q (some (vI (if flS s p then 1 else 0))) M) : Call d mX7_floats [vR a, vI (p : Int)] M Q := by
  have hb := hw.2.2.1 p hp
  have e6 := hs 6 p (in8 hp)
  have e7 := hs.w0 (i := 7) ⟨by omega, by omega⟩
  refine s_floats hd hS ha hp (by rw [e6]; omega) (by rw [e7]; exact hw.2.2.2.1) (fun j hj => by rw [hs 5 j (in32 ⟨by omega, by omega⟩ hj)]; exact hm j hj) ?_
  rw [e6, e7, wtF_congr (w' := s 1) (m' := s 5) 32 (fun j hj => ⟨hs 1 j (in32 ⟨by omega, by omega⟩ hj), hs 5 j (in32 ⟨by omega, by omega⟩ hj)⟩)]
  refine (congrArg (fun z => Q (some (vI z)) M) ?_).mp h
  unfold flS wtS
  simp only [decide_eq_true_eq]
theorem t_emptyPlace {q : Nat} (hd : 2 ≤ d) (hS : Shp M) (ha : isSt a = true) (hs : SA M a s) (hq : q < 8) (h : Q (some (vI (fE (s 1) q))) M) : Call d mX7_emptyPlace [vR a, vI (q : Int)] M Q := by
  refine s_emptyPlace hd hS ha hq ?_
  rw [fE_congr (w' := s 1) (fun j hj => hs 1 (4 * q + j) (in32 ⟨by omega, by omega⟩ (by omega)))]
  exact h
theorem t_thoughtCount (hd : 2 ≤ d) (hS : Shp M) (ha : isSt a = true) (hs : SA M a s) (h : Q (some (vI (cntF (s 1) 32))) M) : Call d mX7_thoughtCount [vR a] M Q := by
  refine s_thoughtCount hd hS ha ?_
  rw [cntF_congr (w' := s 1) 32 (fun j hj => hs 1 j (in32 ⟨by omega, by omega⟩ hj))]
  exact h
theorem t_thoughtsOf {p : Int} (hd : 2 ≤ d) (hS : Shp M) (ha : isSt a = true) (hs : SA M a s) (h : Q (some (vI (ofF (s 1) p 32))) M) : Call d mX7_thoughtsOf [vR a, vI p] M Q := by
  refine s_thoughtsOf hd hS ha ?_
  rw [ofF_congr (w' := s 1) 32 (fun j hj => hs 1 j (in32 ⟨by omega, by omega⟩ hj))]
  exact h
theorem t_oldestAge (hd : 2 ≤ d) (hS : Shp M) (ha : isSt a = true) (hs : SA M a s) (h : Q (some (vI (oldF (s 1) (s 4) 32))) M) : Call d mX7_oldestAge [vR a] M Q := by
  refine s_oldestAge hd hS ha ?_
  rw [oldF_congr (w' := s 1) (g' := s 4) 32 (fun j hj => ⟨hs 1 j (in32 ⟨by omega, by omega⟩ hj), hs 4 j (in32 ⟨by omega, by omega⟩ hj)⟩)]
  exact h
theorem t_heaviest {p : Int} (hd : 2 ≤ d) (hS : Shp M) (ha : isSt a = true) (hs : SA M a s) (h : Q (some (vI (heavF (s 1) (s 5) p 32))) M) : Call d mX7_heaviestThoughtOf [vR a, vI p] M Q := by
  refine s_heaviest hd hS ha ?_
  rw [heavF_congr (w' := s 1) (m' := s 5) 32 (fun j hj => ⟨hs 1 j (in32 ⟨by omega, by omega⟩ hj), hs 5 j (in32 ⟨by omega, by omega⟩ hj)⟩)]
  exact h
theorem t_thinksOf {q : Nat} {p : Int} (hd : 2 ≤ d) (hS : Shp M) (ha : isSt a = true) (hs : SA M a s) (hq : q < 8) (h : Q (some (vI (thkF (s 1) q p))) M) : Call d mX7_thinksOf [vR a, vI (q : Int), vI p] M Q := by
  refine s_thinksOf hd hS ha hq ?_
  rw [thkF_congr (w' := s 1) (fun j hj => hs 1 (4 * q + j) (in32 ⟨by omega, by omega⟩ (by omega)))]
  exact h
/-- the cells of a state but for its log -/
def Sp (a r : Nat) : Prop := a ≤ r ∧ r < a + 7
theorem t_passHour (hd : 2 ≤ d) (hS : Shp M) (ha : isSt a = true) (hs : SA M a s) (hw : WS n s) (h : ∀ M', Fr (Sp a) M M' → SA M' a (pP s) → Q none M') : Call d mX7_passHour [vR a] M Q := by
  obtain ⟨w1, w2, w3, w4, w5, w6⟩ := hw
  refine s_passHour hd hS ha (by rw [hs.w0 ⟨by omega, by omega⟩]; omega) (fun j hj => by rw [hs 4 j (in32 ⟨by omega, by omega⟩ hj)]; have := w1 j hj; omega) (h _ (fr_wi (fun r hr => ?_)) ?_)
  · unfold Sp at hr
    funext i
    unfold fPassH fPass
    rw [if_neg (by omega), if_neg (by omega), if_neg (by omega)]
  · intro f i hi
    rw [iv_wi]
    unfold fPassH fPass pP
    have hi2 := hi
    unfold inS at hi2
    rw [hs f i hi]
    by_cases f1 : f = 1
    · subst f1
      have hi3 : i < 32 := by omega
      rw [hs 5 i (in32 ⟨by omega, by omega⟩ hi3), hs 4 i (in32 ⟨by omega, by omega⟩ hi3)]
      simp [hi3]
    · by_cases f4 : f = 4
      · subst f4
        have hi3 : i < 32 := by omega
        rw [hs 5 i (in32 ⟨by omega, by omega⟩ hi3), hs 4 i (in32 ⟨by omega, by omega⟩ hi3)]
        simp [hi3]
      · by_cases f0 : f = 0
        · subst f0
          rw [hs.w0 (i := 9) ⟨by omega, by omega⟩]
          simp
        · rw [if_neg (by omega), if_neg (by omega), if_neg (by omega), if_neg (by omega), if_neg (by omega), if_neg (by omega)]
theorem t_layIn {q p : Nat} {w k t : Int} (hd : 2 ≤ d) (hS : Shp M) (ha : isSt a = true) (hs : SA M a s) (hq : q < 8) (hp : p < 4) (h : ∀ M', Fr (Sp a) M M' → SA M' a (pLay s (4 * q + p) w k t) → Q none M') : Call d mX7_lay [vR a, vI (q : Int), vI (p : Int), vI w, vI k, vI t] M Q := by
  refine s_lay hd hS ha hq hp (h _ (fr_wi (fun r hr => ?_)) ?_)
  · unfold Sp at hr
    funext i
    unfold fLay
    rw [if_neg (by omega), if_neg (by omega), if_neg (by omega), if_neg (by omega)]
  · intro f i hi
    rw [iv_wi]
    unfold fLay pLay
    rw [hs f i hi]
    simp
theorem t_giveUpAll {q : Nat} {w : Int} (hd : 2 ≤ d) (hS : Shp M) (ha : isSt a = true) (hs : SA M a s) (hq : q < 8) (h : ∀ M', Fr (Sp a) M M' → SA M' a (pGive s q w) → Q none M') : Call d mX7_giveUpAll [vR a, vI (q : Int), vI w] M Q := by
  refine s_giveUpAll hd hS ha hq (h _ (fr_wi (fun r hr => ?_)) ?_)
  · unfold Sp at hr
    funext i
    unfold fGive
    rw [if_neg (by omega)]
  · intro f i hi
    rw [iv_wi]
    unfold fGive pGive
    rw [hs f i hi]
    by_cases f1 : f = 1
    · subst f1
      rw [hs 1 i hi]
      simp
    · rw [if_neg (by omega), if_neg (by omega)]
theorem t_renewTunesOf {w : Int} (hd : 2 ≤ d) (hS : Shp M) (ha : isSt a = true) (hs : SA M a s) (h : ∀ M', Fr (Sp a) M M' → SA M' a (pRen s w) → Q none M') : Call d mX7_renewTunesOf [vR a, vI w] M Q := by
  refine s_renewTunesOf hd hS ha (h _ (fr_wi (fun r hr => ?_)) ?_)
  · unfold Sp at hr
    funext i
    unfold fRenew
    rw [if_neg (by omega)]
  · intro f i hi
    rw [iv_wi]
    unfold fRenew pRen
    rw [hs f i hi]
    by_cases f4 : f = 4
    · subst f4
      have hi3 : i < 32 := by unfold inS at hi; omega
      rw [hs 1 i (in32 ⟨by omega, by omega⟩ hi3), hs 2 i (in32 ⟨by omega, by omega⟩ hi3)]
      simp [hi3]
    · rw [if_neg (by omega), if_neg (by omega)]
theorem t_copyMinds (hd : 2 ≤ d) (hS : Shp M) (ha : isSt a = true) (hb : isSt b = true) (hab : a ≠ b) (hs : SA M b s) (h : ∀ M', Fr (Sp a) M M' → SA M' a s → Q none M') : Call d mX7_copyMinds [vR a, vR b] M Q := by
  refine s_copyMinds hd hS ha hb hab (h _ (fr_wi (fun r hr => ?_)) ?_)
  · unfold Sp at hr
    funext i
    unfold fCopy
    rw [if_neg (by omega), if_neg (by omega), if_neg (by omega), if_neg (by omega), if_neg (by omega), if_neg (by omega), if_neg (by omega), if_neg (by omega), if_neg (by omega)]
  · intro f i hi
    rw [iv_wi, ← hs f i hi]
    unfold fCopy
    unfold inS at hi
    rcases hi with ⟨h1, h2, h3⟩ | ⟨h1, h2⟩ | ⟨h1, h2, h3⟩
    · have : f = 1 ∨ f = 2 ∨ f = 3 ∨ f = 4 ∨ f = 5 := by omega
      rcases this with rfl | rfl | rfl | rfl | rfl <;> simp [h3]
    · subst h1
      simp [h2]
    · subst h1
      have : i = 7 ∨ i = 8 ∨ i = 9 := by omega
      rcases this with rfl | rfl | rfl <;> simp
theorem t_copyAll (hd : 3 ≤ d) (hS : Shp M) (ha : isSt a = true) (hb : isSt b = true) (hab : a ≠ b) (hs : SA M b s) (hl : SL M b s) (h : ∀ M', Fr (fun r => a ≤ r ∧ r < a + 8) M M' → SA M' a s → SL M' a s → Q none M') : Call d mX7_copyAll [vR a, vR b] M Q := by
  obtain ⟨e, rfl⟩ := dd (d := d) (by omega)
  have hne := st_ne ha hb
  refine vs_copyAll ha hb hab (by omega) hS ?_
  have hd1 : e = e - 1 + 1 := by omega
  have hf1 : Fr (Sp a) M (wi M (fCopy M a b)) ∧ SA (wi M (fCopy M a b)) a s := by
    refine ⟨fr_wi (fun r hr => ?_), fun f i hi => ?_⟩
    · unfold Sp at hr
      funext i
      unfold fCopy
      rw [if_neg (by omega), if_neg (by omega), if_neg (by omega), if_neg (by omega), if_neg (by omega), if_neg (by omega), if_neg (by omega), if_neg (by omega), if_neg (by omega)]
    · rw [iv_wi, ← hs f i hi]
      unfold fCopy
      unfold inS at hi
      rcases hi with ⟨h1, h2, h3⟩ | ⟨h1, h2⟩ | ⟨h1, h2, h3⟩
      · have : f = 1 ∨ f = 2 ∨ f = 3 ∨ f = 4 ∨ f = 5 := by omega
        rcases this with rfl | rfl | rfl | rfl | rfl <;> simp [h3]
      · subst h1
        simp [h2]
      · subst h1
        have : i = 7 ∨ i = 8 ∨ i = 9 := by omega
        rcases this with rfl | rfl | rfl <;> simp
  refine h _ ((hf1.1.mono (fun r hr => by unfold Sp at hr; omega)).pc ⟨by omega, by omega⟩) ?_ ?_
  · exact hf1.2.fr (P := fun r => r = a + 7) (fr_cpr rfl) (fun k hk => by omega)
  · intro i hi
    rw [iv_cpr, if_pos ⟨rfl, hi⟩, hf1.1.eiv (by unfold Sp; omega)]
    exact hl i hi
end StateM4
