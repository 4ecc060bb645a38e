/-! THE BRIDGE: loads, sets -/
/-- how many bits, as the machine counts them -/
def bcF (x : Int) : Int := (jand (w32 ((w32 ((jand (w32 ((w32 ((jand (w32 (x - (jand (jushr x (1 : Int)) (1431655765 : Int)))) (858993459 : Int)) + (jand (jushr (w32 (x - (jand (jushr x (1 : Int)) (1431655765 : Int)))) (2 : Int)) (858993459 : Int)))) + (jushr (w32 ((jand (w32 (x - (jand (jushr x (1 : Int)) (1431655765 : Int)))) (858993459 : Int)) + (jand (jushr (w32 (x - (jand (jushr x (1 : Int)) (1431655765 : Int)))) (2 : Int)) (858993459 : Int)))) (4 : Int)))) (252645135 : Int)) + (jushr (jand (w32 ((w32 ((jand (w32 (x - (jand (jushr x (1 : Int)) (1431655765 : Int)))) (858993459 : Int)) + (jand (jushr (w32 (x - (jand (jushr x (1 : Int)) (1431655765 : Int)))) (2 : Int)) (858993459 : Int)))) + (jushr (w32 ((jand (w32 (x - (jand (jushr x (1 : Int)) (1431655765 : Int)))) (858993459 : Int)) + (jand (jushr (w32 (x - (jand (jushr x (1 : Int)) (1431655765 : Int)))) (2 : Int)) (858993459 : Int)))) (4 : Int)))) (252645135 : Int)) (8 : Int)))) + (jushr (w32 ((jand (w32 ((w32 ((jand (w32 (x - (jand (jushr x (1 : Int)) (1431655765 : Int)))) (858993459 : Int)) + (jand (jushr (w32 (x - (jand (jushr x (1 : Int)) (1431655765 : Int)))) (2 : Int)) (858993459 : Int)))) + (jushr (w32 ((jand (w32 (x - (jand (jushr x (1 : Int)) (1431655765 : Int)))) (858993459 : Int)) + (jand (jushr (w32 (x - (jand (jushr x (1 : Int)) (1431655765 : Int)))) (2 : Int)) (858993459 : Int)))) (4 : Int)))) (252645135 : Int)) + (jushr (jand (w32 ((w32 ((jand (w32 (x - (jand (jushr x (1 : Int)) (1431655765 : Int)))) (858993459 : Int)) + (jand (jushr (w32 (x - (jand (jushr x (1 : Int)) (1431655765 : Int)))) (2 : Int)) (858993459 : Int)))) + (jushr (w32 ((jand (w32 (x - (jand (jushr x (1 : Int)) (1431655765 : Int)))) (858993459 : Int)) + (jand (jushr (w32 (x - (jand (jushr x (1 : Int)) (1431655765 : Int)))) (2 : Int)) (858993459 : Int)))) (4 : Int)))) (252645135 : Int)) (8 : Int)))) (16 : Int)))) (63 : Int))
theorem d_bitCount {d : Nat} {M : jM} {Q : Option jV → jM → Prop} {x : Int} (hd : 1 ≤ d) (h : Q (some (vI (bcF x))) M) : Call d mJ6_bitCount_0f7a4 [vI x] M Q := by
  obtain ⟨e, rfl⟩ := dd hd
  exact vc_J6bitCount h
theorem bcF_nn (x : Int) : 0 ≤ bcF x := by
  unfold bcF
  rw [show (63 : Int) = ((2 ^ 6 - 1 : Nat) : Int) from rfl, jand_mask _ 6 (by decide)]
  exact Int.emod_nonneg _ (by decide)
theorem bcF_0 : bcF 0 = 0 := by decide +kernel
theorem jshl_1 {n : Nat} (h : n ≤ 8) : jshl 1 (n : Int) = ((2 ^ n : Nat) : Int) ∧ (2 ^ n : Nat) ≤ 256 ∧ 1 ≤ (2 ^ n : Nat) := by
  have h1 : (2 : Nat) ^ n ≤ 2 ^ 8 := Nat.pow_le_pow_right (by decide) h
  have h2 := Nat.two_pow_pos n
  have h3 : (2 : Nat) ^ 8 = 256 := by decide
  refine ⟨?_, by omega, by omega⟩
  rw [jshl_eq ⟨by omega, by omega⟩, Int.toNat_natCast, Int.one_mul, w32_i (by omega) (by omega)]
theorem tbI_n {s k : Nat} (hs : s < 2147483648) (hk : k < 31) : tbI (s : Int) k = s.testBit k := by
  unfold tbI
  rw [jshr_eq ⟨by omega, by omega⟩ ⟨by omega, by omega⟩, Int.toNat_natCast, show (1 : Int) = ((2 ^ 1 - 1 : Nat) : Int) from rfl, jand_mask _ 1 (by decide), Nat.testBit_eq_decide_div_mod_eq]
  have e : (s : Int) / ((2 ^ k : Nat) : Int) % ((2 ^ 1 : Nat) : Int) = ((s / 2 ^ k % 2 : Nat) : Int) := by
    rw [Int.natCast_emod, Int.natCast_ediv]
  rw [e]
  congr 1
  refine propext ⟨fun h => ?_, fun h => ?_⟩
  · have h : ((s / 2 ^ k % 2 : Nat) : Int) = 1 := h
    omega
  · show ((s / 2 ^ k % 2 : Nat) : Int) = 1
    omega
def nxM (a s : Nat) : Nat := (s - 1) &&& a
def pthM (a : Nat) : Nat → Nat → List Nat
  | 0, _ => []
  | k + 1, s => if s = 0 then [] else s :: pthM a k (nxM a s)
def pendM (a : Nat) : Nat → Nat → Nat
  | 0, s => s
  | k + 1, s => if s = 0 then 0 else pendM a k (nxM a s)
def pcM (a : Nat) : Nat := (if a.testBit 0 then 1 else 0) + (if a.testBit 1 then 1 else 0) + (if a.testBit 2 then 1 else 0) + (if a.testBit 3 then 1 else 0) + (if a.testBit 4 then 1 else 0) + (if a.testBit 5 then 1 else 0) + (if a.testBit 6 then 1 else 0) + (if a.testBit 7 then 1 else 0)
def okM (a : Nat) : Bool := (pthM a 256 a).all (fun s => decide (0 < s) && decide (s ≤ a) && decide (a ^^^ s < a) && decide (a &&& (s ^^^ 4294967295) = a ^^^ s)) && decide (pendM a 256 a = 0) && (a == 0 || (pthM a 256 a).any (fun s => (s == 1 || s == 2 || s == 4 || s == 8 || s == 16 || s == 32 || s == 64 || s == 128) && decide (pcM (a ^^^ s) + 1 = pcM a))) && decide (pcM a ≤ 8)
set_option maxRecDepth 100000 in
theorem okM_all : (List.range 256).all okM = true := by decide +kernel
theorem okM_s {a s : Nat} (ha : a < 256) (hs : s ∈ pthM a 256 a) : 0 < s ∧ s ≤ a ∧ a ^^^ s < a ∧ a &&& (s ^^^ 4294967295) = a ^^^ s := by
  have h := List.all_eq_true.mp okM_all a (List.mem_range.mpr ha)
  unfold okM at h
  simp only [Bool.and_eq_true] at h
  have h2 := List.all_eq_true.mp h.1.1.1 s hs
  simp only [Bool.and_eq_true, decide_eq_true_eq] at h2
  exact ⟨h2.1.1.1, h2.1.1.2, h2.1.2, h2.2⟩
theorem okM_e {a : Nat} (ha : a < 256) : pendM a 256 a = 0 ∧ pcM a ≤ 8 := by
  have h := List.all_eq_true.mp okM_all a (List.mem_range.mpr ha)
  unfold okM at h
  simp only [Bool.and_eq_true, decide_eq_true_eq] at h
  exact ⟨h.1.1.2, h.2⟩
theorem okM_l {a : Nat} (ha : a < 256) (h0 : a ≠ 0) : ∃ i, i < 8 ∧ 2 ^ i ∈ pthM a 256 a ∧ pcM (a ^^^ 2 ^ i) + 1 = pcM a := by
  have h := List.all_eq_true.mp okM_all a (List.mem_range.mpr ha)
  unfold okM at h
  simp only [Bool.and_eq_true, Bool.or_eq_true] at h
  rcases h.1.2 with z | z
  · exact absurd (by simpa using z) h0
  · obtain ⟨s, hs, hz⟩ := List.any_eq_true.mp z
    simp only [Bool.and_eq_true, Bool.or_eq_true, beq_iff_eq, decide_eq_true_eq] at hz
    obtain ⟨h1, h2⟩ := hz
    have : ∃ i, i < 8 ∧ s = 2 ^ i := by
      rcases h1 with ((((((h1 | h1) | h1) | h1) | h1) | h1) | h1) | h1
      · exact ⟨0, by decide, h1⟩
      · exact ⟨1, by decide, h1⟩
      · exact ⟨2, by decide, h1⟩
      · exact ⟨3, by decide, h1⟩
      · exact ⟨4, by decide, h1⟩
      · exact ⟨5, by decide, h1⟩
      · exact ⟨6, by decide, h1⟩
      · exact ⟨7, by decide, h1⟩
    obtain ⟨i, hi, rfl⟩ := this
    exact ⟨i, hi, hs, h2⟩
theorem jandn {a b : Nat} (ha : a < 2147483648) (hb : b < 2147483648) : jand (a : Int) (jxor (b : Int) (-1)) = ((a &&& (b ^^^ 4294967295) : Nat) : Int) := by
  unfold jand jxor
  rw [Int32.ofInt_toInt]
  refine ti32 ?_ (Nat.lt_of_le_of_lt Nat.and_le_left ha)
  rw [Int32.toBitVec_and, BitVec.toNat_and, Int32.toBitVec_xor, BitVec.toNat_xor, tn32 (by omega) (by omega), tn32 (by omega) (by omega), Int.toNat_natCast, Int.toNat_natCast]
  rfl
/-- the least by a part that goes now -/
def stM (b : Nat → Bool) (f : Nat → Int) (a : Nat) (best : Int) (s : Nat) : Int := if b s = true ∧ f (a ^^^ s) + 1 < best then f (a ^^^ s) + 1 else best
def flM (b : Nat → Bool) (f : Nat → Int) (a : Nat) (l : List Nat) (i : Int) : Int := l.foldl (stM b f a) i
theorem flM_le {b : Nat → Bool} {f : Nat → Int} {a : Nat} : ∀ (l : List Nat) (i : Int), flM b f a l i ≤ i ∧ (∀ s ∈ l, b s = true → flM b f a l i ≤ f (a ^^^ s) + 1) ∧ (flM b f a l i = i ∨ ∃ s ∈ l, b s = true ∧ flM b f a l i = f (a ^^^ s) + 1)
  | [], i => ⟨Int.le_refl _, (fun s hs => absurd hs (List.not_mem_nil)), Or.inl rfl⟩
  | x :: l, i => by
    obtain ⟨h1, h2, h3⟩ := flM_le (b := b) (f := f) (a := a) l (stM b f a i x)
    have e : flM b f a (x :: l) i = flM b f a l (stM b f a i x) := rfl
    have hs : stM b f a i x ≤ i ∧ (b x = true → stM b f a i x ≤ f (a ^^^ x) + 1) ∧ (stM b f a i x = i ∨ (b x = true ∧ stM b f a i x = f (a ^^^ x) + 1)) := by
      unfold stM
      by_cases c : b x = true ∧ f (a ^^^ x) + 1 < i
      · rw [if_pos c]; exact ⟨by omega, fun _ => Int.le_refl _, Or.inr ⟨c.1, rfl⟩⟩
      · rw [if_neg c]; exact ⟨Int.le_refl _, fun z => by rcases Int.lt_or_le (f (a ^^^ x) + 1) i with q | q; exact absurd ⟨z, q⟩ c; exact q, Or.inl rfl⟩
    rw [e]
    refine ⟨by omega, fun s hm hb => ?_, ?_⟩
    · rcases List.mem_cons.mp hm with z | z
      · subst z; have := hs.2.1 hb; omega
      · exact h2 s z hb
    · rcases h3 with z | ⟨s, m1, m2, m3⟩
      · rcases hs.2.2 with q | ⟨q1, q2⟩
        · exact Or.inl (by omega)
        · exact Or.inr ⟨x, List.mem_cons_self, q1, by omega⟩
      · exact Or.inr ⟨s, List.mem_cons_of_mem _ m1, m2, m3⟩
theorem flM_cg {b : Nat → Bool} {f g : Nat → Int} {a : Nat} : ∀ (l : List Nat) (i : Int), (∀ s ∈ l, f (a ^^^ s) = g (a ^^^ s)) → flM b f a l i = flM b g a l i
  | [], _, _ => rfl
  | x :: l, i, h => by
    show flM b f a l (stM b f a i x) = flM b g a l (stM b g a i x)
    have : stM b f a i x = stM b g a i x := by unfold stM; rw [h x List.mem_cons_self]
    rw [this]
    exact flM_cg l _ (fun s hs => h s (List.mem_cons_of_mem _ hs))
/-- the table up to n -/
def gT (b : Nat → Bool) (i : Int) : Nat → Nat → Int
  | 0, _ => 0
  | n + 1, x => if x = n ∧ n ≠ 0 then flM b (gT b i n) n (pthM n 256 n) i else gT b i n x
def gB (b : Nat → Bool) (i : Int) (x : Nat) : Int := gT b i (x + 1) x
theorem gT_v {b : Nat → Bool} {i : Int} {x : Nat} : ∀ n, x < n → gT b i n x = gB b i x
  | 0, h => absurd h (Nat.not_lt_zero x)
  | n + 1, h => by
    by_cases c : x = n
    · subst c; rfl
    · rw [← gT_v n (by omega)]
      exact if_neg (fun z => c z.1)
theorem gV_0 {b : Nat → Bool} {i : Int} : gB b i 0 = 0 := by
  unfold gB gT
  rw [if_neg (by omega)]
  rfl
theorem gV_s {b : Nat → Bool} {i : Int} {x : Nat} (h0 : x ≠ 0) (hx : x < 256) : gB b i x = flM b (gB b i) x (pthM x 256 x) i := by
  have : gB b i x = flM b (gT b i x) x (pthM x 256 x) i := by
    unfold gB
    show (if x = x ∧ x ≠ 0 then _ else _) = _
    rw [if_pos ⟨rfl, h0⟩]
  rw [this]
  exact flM_cg _ _ (fun s hs => gT_v x (okM_s hx hs).2.2.1)
/-- all are borne alone: both tables are one -/
theorem gV_eq {b : Nat → Bool} {n : Nat} (hn : n ≤ 8) (hb : ∀ i, i < n → b (2 ^ i) = true) : ∀ x, x < 2 ^ n → gB b 8 x = gB b 1000000 x ∧ gB b 1000000 x ≤ pcM x := by
  have h256 := (jshl_1 hn).2.1
  intro x
  induction x using Nat.strongRecOn with
  | ind x ih =>
    intro hx
    by_cases h0 : x = 0
    · subst h0; rw [gV_0, gV_0]; exact ⟨rfl, by omega⟩
    · have hx2 : x < 256 := by omega
      have lt : ∀ s ∈ pthM x 256 x, x ^^^ s < x := fun s hs => (okM_s hx2 hs).2.2.1
      have e8 : gB b 8 x = flM b (gB b 1000000) x (pthM x 256 x) 8 := by
        rw [gV_s h0 hx2]
        exact flM_cg _ _ (fun s hs => (ih _ (lt s hs) (by have := lt s hs; omega)).1)
      obtain ⟨a1, a2, a3⟩ := flM_le (b := b) (f := gB b 1000000) (a := x) (pthM x 256 x) 8
      have eM := gV_s (b := b) (i := 1000000) h0 hx2
      obtain ⟨c1, c2, c3⟩ := flM_le (b := b) (f := gB b 1000000) (a := x) (pthM x 256 x) 1000000
      obtain ⟨i, hi, hm, hp⟩ := okM_l hx2 h0
      have hle := (okM_s hx2 hm).2.1
      have hin : i < n := by
        rcases Nat.lt_or_ge i n with z | z
        · exact z
        · have := Nat.pow_le_pow_right (show 0 < 2 by decide) z; omega
      have hlt := lt _ hm
      have i2 := (ih _ hlt (by omega)).2
      have p8 := (okM_e hx2).2
      have m1 := c2 _ hm (hb i hin)
      rw [← e8] at a1 a2 a3
      rw [← eM] at c1 c2 c3
      refine ⟨?_, by omega⟩
      rcases c3 with z | ⟨s, s1, s2, s3⟩
      · omega
      · have := a2 s s1 s2
        rcases a3 with z | ⟨s', t1, t2, t3⟩
        · omega
        · have := c2 s' t1 t2
          omega
/-- one is not borne alone: who goes with that one never crosses -/
theorem gV_no {b : Nat → Bool} {i : Nat} (hi : i < 8) (hb : ∀ s, s < 256 → s.testBit i = true → b s = false) : ∀ x, x < 256 → x.testBit i = true → gB b 1000000 x = 1000000 := by
  intro x
  induction x using Nat.strongRecOn with
  | ind x ih =>
    intro hx ht
    have h0 : x ≠ 0 := fun z => by rw [z] at ht; simp at ht
    have eM := gV_s (b := b) (i := 1000000) h0 hx
    obtain ⟨c1, c2, c3⟩ := flM_le (b := b) (f := gB b 1000000) (a := x) (pthM x 256 x) 1000000
    rw [← eM] at c1 c2 c3
    rcases c3 with z | ⟨s, s1, s2, s3⟩
    · exact z
    · exfalso
      obtain ⟨k1, k2, k3, k4⟩ := okM_s hx s1
      by_cases q : s.testBit i = true
      · rw [hb s (by omega) q] at s2; cases s2
      · have : (x ^^^ s).testBit i = true := by rw [Nat.testBit_xor, ht]; simp [q]
        have := ih _ k3 (by omega) this
        omega
-- loads
theorem loF_rnd {c : Nat → Bool} {w : Nat → Int} : ∀ n, (∀ j, j < n → 0 ≤ w j) → 0 ≤ loF c w n ∧ rnd (loF c w n) = loF c w n
  | 0, _ => ⟨Int.le_refl _, rnd_small (by show (0 : Int) < _; decide)⟩
  | n + 1, h => by
    obtain ⟨a, b⟩ := loF_rnd (c := c) (w := w) n (fun j hj => h j (by omega))
    have := h n (by omega)
    simp only [loF]
    split
    · exact ⟨rnd_nonneg (by omega), rnd_idem (by omega)⟩
    · exact ⟨a, b⟩
theorem loF_ge {c : Nat → Bool} {w : Nat → Int} {i : Nat} (hc : c i = true) (hr : rnd (w i) = w i) : ∀ n, (∀ j, j < n → 0 ≤ w j) → i < n → w i ≤ loF c w n
  | 0, _, h => absurd h (Nat.not_lt_zero i)
  | n + 1, h, hi => by
    obtain ⟨a, b⟩ := loF_rnd (c := c) (w := w) n (fun j hj => h j (by omega))
    have hn := h n (by omega)
    simp only [loF]
    by_cases e : i = n
    · rw [if_pos (by rw [← e]; exact hc), ← hr, e]
      exact rnd_mono hn (by omega)
    · have ih := loF_ge hc hr n (fun j hj => h j (by omega)) (by omega)
      split
      · have := rnd_mono a (show loF c w n ≤ loF c w n + w n by omega)
        omega
      · exact ih
theorem loF_one {c : Nat → Bool} {w : Nat → Int} {i : Nat} (hc : ∀ j, c j = decide (j = i)) (hr : rnd (w i) = w i) : ∀ n, loF c w n = if i < n then w i else 0
  | 0 => by rw [if_neg (Nat.not_lt_zero i)]; rfl
  | n + 1 => by
    simp only [loF]
    rw [loF_one hc hr n]
    by_cases e : n = i
    · rw [if_pos (by rw [hc]; simpa using e), if_neg (by omega), if_pos (by omega), e, Int.zero_add]; exact hr
    · rw [if_neg (by rw [hc]; simpa using e)]
      by_cases l : i < n
      · rw [if_pos l, if_pos (by omega)]
      · rw [if_neg l, if_neg (by omega)]
