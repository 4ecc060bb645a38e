/-! what the static helpers answer -/
theorem jcmp_pos {a b : Int} : 0 < jcmp a b ↔ b < a := by unfold jcmp; split <;> (try split) <;> omega
theorem jcmp_neg {a b : Int} : jcmp a b < 0 ↔ a < b := by unfold jcmp; split <;> (try split) <;> omega
theorem jcmp_eq {a b : Int} : jcmp a b = 0 ↔ a = b := by unfold jcmp; split <;> (try split) <;> omega
theorem jcmp_le {a b : Int} : jcmp a b ≤ 0 ↔ a ≤ b := by unfold jcmp; split <;> (try split) <;> omega
theorem jcmp_ge {a b : Int} : 0 ≤ jcmp a b ↔ b ≤ a := by unfold jcmp; split <;> (try split) <;> omega
/-- a row read, a row written, with the index looked at first -/
def atv (M : jM) (n r : Nat) (i : Int) : Int := if 0 ≤ i ∧ i < n then iv M r i.toNat else 0
def atl (M : jM) (n r : Nat) (i : Int) : Int := if 0 ≤ i ∧ i < n then lg M r i.toNat else 0
def ptv (M : jM) (n r : Nat) (i v : Int) : jM := (M.1, M.2.1, M.2.2.1, (fun r' i' => if r' = r ∧ (i' : Int) = i ∧ (i' : Int) < n then v else iv M r' i'), M.2.2.2.2.1, M.2.2.2.2.2)
def ptl (M : jM) (n r : Nat) (i v : Int) : jM := (M.1, M.2.1, M.2.2.1, M.2.2.2.1, (fun r' i' => if r' = r ∧ (i' : Int) = i ∧ (i' : Int) < n then v else lg M r' i'), M.2.2.2.2.2)
def cpr (M : jM) (f t k : Nat) : jM := (M.1, M.2.1, M.2.2.1, (fun r i => if r = t ∧ i < k then iv M f i else iv M r i), M.2.2.2.2.1, M.2.2.2.2.2)
theorem iv_ptv {M : jM} {n r r' i' : Nat} {i v : Int} : iv (ptv M n r i v) r' i' = if r' = r ∧ (i' : Int) = i ∧ (i' : Int) < n then v else iv M r' i' := rfl
theorem lg_ptv {M : jM} {n r : Nat} {i v : Int} : lg (ptv M n r i v) = lg M := rfl
theorem rv_ptv {M : jM} {n r : Nat} {i v : Int} : rv (ptv M n r i v) = rv M := rfl
theorem iv_ptl {M : jM} {n r : Nat} {i v : Int} : iv (ptl M n r i v) = iv M := rfl
theorem lg_ptl {M : jM} {n r r' i' : Nat} {i v : Int} : lg (ptl M n r i v) r' i' = if r' = r ∧ (i' : Int) = i ∧ (i' : Int) < n then v else lg M r' i' := rfl
theorem rv_ptl {M : jM} {n r : Nat} {i v : Int} : rv (ptl M n r i v) = rv M := rfl
theorem iv_cpr {M : jM} {f t k r i : Nat} : iv (cpr M f t k) r i = if r = t ∧ i < k then iv M f i else iv M r i := rfl
theorem lg_cpr {M : jM} {f t k : Nat} : lg (cpr M f t k) = lg M := rfl
theorem rv_cpr {M : jM} {f t k : Nat} : rv (cpr M f t k) = rv M := rfl
theorem ptv_in {M : jM} {n r : Nat} {i v : Int} (h : 0 ≤ i ∧ i < n) : ptv M n r i v = si M r i.toNat v := by
  unfold ptv si
  refine congrArg (fun x => (M.1, M.2.1, M.2.2.1, x, M.2.2.2.2.1, M.2.2.2.2.2)) ?_
  funext r' i'
  unfold up2
  have : (r' = r ∧ (i' : Int) = i ∧ (i' : Int) < n) ↔ (r' = r ∧ i' = i.toNat) := by
    constructor
    · rintro ⟨h1, h2, h3⟩; exact ⟨h1, by omega⟩
    · rintro ⟨h1, h2⟩; exact ⟨h1, by omega, by omega⟩
  simp only [this]
  rfl
theorem ptv_out {M : jM} {n r : Nat} {i v : Int} (h : i < 0 ∨ (n : Int) ≤ i) : ptv M n r i v = M := by
  have : (fun (r' i' : Nat) => if r' = r ∧ (i' : Int) = i ∧ (i' : Int) < n then v else iv M r' i') = iv M := by
    funext r' i'
    rw [if_neg (by omega)]
  unfold ptv
  rw [this]
  rfl
theorem ptl_in {M : jM} {n r : Nat} {i v : Int} (h : 0 ≤ i ∧ i < n) : ptl M n r i v = sl M r i.toNat v := by
  unfold ptl sl
  refine congrArg (fun x => (M.1, M.2.1, M.2.2.1, M.2.2.2.1, x, M.2.2.2.2.2)) ?_
  funext r' i'
  unfold up2
  have : (r' = r ∧ (i' : Int) = i ∧ (i' : Int) < n) ↔ (r' = r ∧ i' = i.toNat) := by
    constructor
    · rintro ⟨h1, h2, h3⟩; exact ⟨h1, by omega⟩
    · rintro ⟨h1, h2⟩; exact ⟨h1, by omega, by omega⟩
  simp only [this]
  rfl
theorem ptl_out {M : jM} {n r : Nat} {i v : Int} (h : i < 0 ∨ (n : Int) ≤ i) : ptl M n r i v = M := by
  have : (fun (r' i' : Nat) => if r' = r ∧ (i' : Int) = i ∧ (i' : Int) < n then v else lg M r' i') = lg M := by
    funext r' i'
    rw [if_neg (by omega)]
  unfold ptl
  rw [this]
  rfl
section Helpers
variable {d : Nat} {M : jM} {Q : Option jV → jM → Prop}
theorem dd {d : Nat} (h : 1 ≤ d) : ∃ e, d = e + 1 := ⟨d - 1, by omega⟩
theorem c_at {r n : Nat} {i : Int} (hd : 1 ≤ d) (hr : jro M 20 n r) (h : Q (some (vI (atv M n r i))) M) : Call d mX10_at [vR r, vI i] M Q := by
  obtain ⟨e, rfl⟩ := dd hd
  unfold atv at h
  refine vc_at hr ⟨fun c => ?_, fun c => ⟨fun c2 => ?_, fun c2 => ⟨⟨by omega, by omega⟩, ?_⟩⟩⟩
  · rw [if_neg (by omega)] at h; exact h
  · rw [if_neg (by omega)] at h; exact h
  · rw [if_pos ⟨by omega, by omega⟩] at h; exact h
theorem c_longAt {r n : Nat} {i : Int} (hd : 1 ≤ d) (hr : jro M 21 n r) (h : Q (some (vL (atl M n r i))) M) : Call d mX10_longAt [vR r, vI i] M Q := by
  obtain ⟨e, rfl⟩ := dd hd
  unfold atl at h
  refine vc_longAt hr ⟨fun c => ?_, fun c => ⟨fun c2 => ?_, fun c2 => ⟨⟨by omega, by omega⟩, ?_⟩⟩⟩
  · rw [if_neg (by omega)] at h; exact h
  · rw [if_neg (by omega)] at h; exact h
  · rw [if_pos ⟨by omega, by omega⟩] at h; exact h
theorem c_put {r n : Nat} {i v : Int} (hd : 1 ≤ d) (hr : jro M 20 n r) (h6 : 6 ≤ r) (h : Q none (ptv M n r i v)) : Call d mX10_put [vR r, vI i, vI v] M Q := by
  obtain ⟨e, rfl⟩ := dd hd
  refine vc_put hr h6 ⟨fun c => ?_, fun c => ⟨fun c2 => ?_, fun c2 => ⟨⟨by omega, by omega⟩, ?_⟩⟩⟩
  · rw [ptv_out (Or.inl c)] at h; exact h
  · rw [ptv_out (Or.inr c2)] at h; exact h
  · rw [ptv_in ⟨by omega, by omega⟩] at h; exact h
theorem c_putLong {r n : Nat} {i v : Int} (hd : 1 ≤ d) (hr : jro M 21 n r) (h6 : 6 ≤ r) (h : Q none (ptl M n r i v)) : Call d mX10_putLong [vR r, vI i, vL v] M Q := by
  obtain ⟨e, rfl⟩ := dd hd
  refine vc_putLong hr h6 ⟨fun c => ?_, fun c => ⟨fun c2 => ?_, fun c2 => ⟨⟨by omega, by omega⟩, ?_⟩⟩⟩
  · rw [ptl_out (Or.inl c)] at h; exact h
  · rw [ptl_out (Or.inr c2)] at h; exact h
  · rw [ptl_in ⟨by omega, by omega⟩] at h; exact h
theorem c_stateAt {r n : Nat} {i : Int} (hd : 1 ≤ d) (hr : jro M 23 n r) (h : Q (some (vR (if 0 ≤ i ∧ i < n then rv M r i.toNat else 0))) M) : Call d mX10_stateAt [vR r, vI i] M Q := by
  obtain ⟨e, rfl⟩ := dd hd
  refine vc_stateAt hr ⟨fun c => ?_, fun c => ⟨fun c2 => ?_, fun c2 => ⟨⟨by omega, by omega⟩, ?_⟩⟩⟩
  · rw [if_neg (by omega)] at h; exact h
  · rw [if_neg (by omega)] at h; exact h
  · rw [if_pos ⟨by omega, by omega⟩] at h; exact h
theorem cpr_0 {f t : Nat} : cpr M f t 0 = M := by
  have : (fun (r i : Nat) => if r = t ∧ i < 0 then iv M f i else iv M r i) = iv M := by
    funext r i
    rw [if_neg (by omega)]
  unfold cpr
  rw [this]
  rfl
theorem cpr_s {f t k : Nat} : si (cpr M f t k) t k (iv (cpr M f t k) f k) = cpr M f t (k + 1) := by
  unfold si
  refine congrArg (fun x => (M.1, M.2.1, M.2.2.1, x, M.2.2.2.2.1, M.2.2.2.2.2)) ?_
  funext r i
  show up2 (iv (cpr M f t k)) t k (iv (cpr M f t k) f k) r i = _
  unfold up2
  rw [iv_cpr, iv_cpr]
  by_cases h1 : r = t ∧ i = k
  · obtain ⟨rfl, rfl⟩ := h1
    simp
  · rw [if_neg h1]
    by_cases h2 : r = t ∧ i < k
    · rw [if_pos h2, if_pos ⟨h2.1, by omega⟩]
    · rw [if_neg h2, if_neg (by omega)]
theorem c_copyRow {f t n k : Nat} (hd : 1 ≤ d) (hf : jro M 20 n f) (ht : jro M 20 k t) (h6 : 6 ≤ t) (hnk : n < 65536 ∧ k < 65536) (h : Q none (cpr M f t (min n k))) : Call d mX10_copyRow [vR f, vR t] M Q := by
  obtain ⟨e, rfl⟩ := dd hd
  refine vc_copyRow hf ht h6 ?_
  have key : ∀ (j : Nat) (i : Nat), i ≤ min n k → min n k - i = j → Run (e + 1) mX10_copyRow 11 [some (vR f), some (vR t), some (vI (i : Int))] [] (cpr M f t i) Q := by
    intro j
    induction j with
    | zero =>
      intro i hi hj
      have he : i = min n k := by omega
      refine vc_copyRow_11 (n := n) (k := k) hf ht h6 ⟨fun _ => by rw [he]; exact h, fun c => ⟨fun _ => by rw [he]; exact h, fun c2 => absurd c2 (by omega)⟩⟩
    | succ j ih =>
      intro i hi hj
      refine vc_copyRow_11 (n := n) (k := k) hf ht h6 ⟨fun c => absurd c (by omega), fun c => ⟨fun c2 => absurd c2 (by omega), fun c2 => ⟨⟨by omega, by omega⟩, ⟨by omega, by omega⟩, ?_⟩⟩⟩
      rw [Int.toNat_natCast, cpr_s, w32_id (z := (i : Int) + 1) ⟨by omega, by omega⟩]
      exact ih (i + 1) (by omega) (by omega)
  have := key _ 0 (Nat.zero_le _) rfl
  rw [cpr_0] at this
  exact this
def fW (v lo hi : Int) : Int := if v < lo then lo else if hi < v then hi else v
theorem c_within {v lo hi : Int} (hd : 1 ≤ d) (hlo : i32 lo) (hhi : i32 hi) (hlh : lo ≤ hi) (h : Q (some (vI (fW v lo hi))) M) : Call d mX10_within [vL v, vI lo, vI hi] M Q := by
  obtain ⟨e, rfl⟩ := dd hd
  refine vc_within ?_
  simp only [jcmp_ge, jcmp_le]
  unfold fW at h
  unfold i32 at hlo hhi
  have he : (if lo ≤ v then (if v ≤ hi then w32 v else hi) else lo) = (if v < lo then lo else if hi < v then hi else v) := by
    by_cases h1 : v < lo
    · rw [if_neg (by omega), if_pos h1]
    · rw [if_pos (by omega), if_neg h1]
      by_cases h2 : hi < v
      · rw [if_neg (by omega), if_pos h2]
      · rw [if_pos (by omega), if_neg h2, w32_id ⟨by omega, by omega⟩]
  rw [he]
  exact h
def fT (v : Int) : Int := fW v 0 2147483647
theorem c_asTold {v : Int} (hd : 2 ≤ d) (hS : Shp M) (h : Q (some (vI (fT v))) M) : Call d mX10_asTold [vL v] M Q := by
  obtain ⟨e, rfl⟩ := dd (d := d) (by omega)
  exact vc_asTold (c_within (by omega) ⟨by omega, by omega⟩ ⟨by omega, by omega⟩ (by omega) ⟨_, rfl, hS, h⟩)
def fK (k : Int) : Int := if 0 ≤ k ∧ k < 3 then 1 else 0
def fP (k : Int) : Int := if 0 ≤ k ∧ k < 4 then 1 else 0
/-- what goes into a mind -/
def fG (m k : Int) : Int := if m = 0 ∨ (m = 2 ↔ k = 2) then 1 else 0
theorem c_isKind {k : Int} (hd : 1 ≤ d) (h : Q (some (vI (fK k))) M) : Call d mX10_isKind [vI k] M Q := by
  obtain ⟨e, rfl⟩ := dd hd
  refine vc_isKind ?_
  have : (if k < 0 then (0 : Int) else if 3 ≤ k then 0 else 1) = fK k := by unfold fK; split <;> (try split) <;> (try split) <;> omega
  rw [this]; exact h
theorem c_isPlace {k : Int} (hd : 1 ≤ d) (h : Q (some (vI (fP k))) M) : Call d mX10_isPlace [vI k] M Q := by
  obtain ⟨e, rfl⟩ := dd hd
  refine vc_isPlace ?_
  have : (if k < 0 then (0 : Int) else if 4 ≤ k then 0 else 1) = fP k := by unfold fP; split <;> (try split) <;> (try split) <;> omega
  rw [this]; exact h
theorem c_goesInto {m k : Int} (hd : 1 ≤ d) (h : Q (some (vI (fG m k))) M) : Call d mX10_goesInto [vI m, vI k] M Q := by
  obtain ⟨e, rfl⟩ := dd hd
  refine vc_goesInto ?_
  have : (if m = 0 then (1 : Int) else if m ≠ 2 then (if k ≠ 2 then 1 else 0) else (if k ≠ 2 then 0 else 1)) = fG m k := by
    unfold fG
    by_cases h1 : m = 0 <;> by_cases h2 : m = 2 <;> by_cases h3 : k = 2 <;> simp [h1, h2, h3]
  rw [this]; exact h
end Helpers
/-! how many binary digits; rounding -/
def bl (x : Int) : Nat := if x ≤ 0 then 0 else Nat.log2 x.toNat + 1
theorem bl_le {x : Int} (h : 0 < x) (k : Nat) : ((2 ^ k : Nat) : Int) ≤ x ↔ k < bl x := by
  unfold bl
  rw [if_neg (by omega)]
  have h1 := Nat.le_log2 (n := x.toNat) (k := k) (by omega)
  constructor
  · intro h2
    have := h1.mpr (by omega)
    omega
  · intro h2
    have := h1.mp (by omega)
    omega
theorem bl_pos {x : Int} (h : 0 < x) : 0 < bl x := by unfold bl; rw [if_neg (by omega)]; omega
theorem bl_lt {x : Int} (h : 0 < x) (k : Nat) : x < ((2 ^ k : Nat) : Int) ↔ bl x ≤ k := by
  have := bl_le h k
  omega
theorem bl_eq {x : Int} {k : Nat} (h1 : ((2 ^ k : Nat) : Int) ≤ x) (h2 : x < ((2 ^ (k + 1) : Nat) : Int)) : bl x = k + 1 := by
  have h0 : 0 < x := by have := Nat.two_pow_pos k; omega
  have := (bl_le h0 k).mp h1
  have := (bl_lt h0 (k + 1)).mp h2
  omega
def rnd (x : Int) : Int := if bl x ≤ 24 then x else (if x % (2 ^ (bl x - 24) : Nat) > (2 ^ (bl x - 25) : Nat) ∨ (x % (2 ^ (bl x - 24) : Nat) = (2 ^ (bl x - 25) : Nat) ∧ x / (2 ^ (bl x - 24) : Nat) % 2 = 1) then x / (2 ^ (bl x - 24) : Nat) + 1 else x / (2 ^ (bl x - 24) : Nat)) * (2 ^ (bl x - 24) : Nat)
section Helpers2
variable {d : Nat} {M : jM} {Q : Option jV → jM → Prop}
theorem div_le_iff {x : Int} {k : Nat} {y : Int} : y ≤ x / (2 ^ k : Nat) ↔ y * (2 ^ k : Nat) ≤ x := by
  have := Nat.two_pow_pos k
  exact Int.le_ediv_iff_mul_le (by omega)
theorem rounded_tail {x : Int} {e c : Nat} (hx : 0 ≤ x ∧ x < 4611686018427387904) (hc : c = bl x - 24) (h : Q (some (vL (rnd x))) M) : Run (e + 1) mX10_rounded 24 [some (vL x), none, some (vI (c : Int)), none, none, none, none, none, none, none, none, none] [] M Q := by
  refine vc_rounded_24 ⟨fun h0 => ?_, fun h0 => ?_⟩
  · have hx0 : 0 < x := by
      rcases Int.lt_or_le 0 x with h1 | h1
      · exact h1
      · exfalso; unfold bl at hc; rw [if_pos h1] at hc; omega
    have hb := (bl_lt hx0 62).mp (by omega)
    have hc1 : 1 ≤ c := by omega
    have hc38 : c ≤ 38 := by omega
    have hp : (2 ^ c : Nat) ≤ 2 ^ 38 := Nat.pow_le_pow_right (by decide) hc38
    have hp0 := Nat.two_pow_pos c
    have hpp : (2 ^ c : Nat) = 2 * 2 ^ (c - 1) := by rw [← Nat.pow_succ']; congr 1; omega
    have e1 : jshlL 1 (c : Int) = ((2 ^ c : Nat) : Int) := by
      rw [jshlL_eq ⟨by omega, by omega⟩, Int.toNat_natCast, Int.one_mul, w64_id ⟨by omega, by omega⟩]
    have e2 : jshrL x (c : Int) = x / (2 ^ c : Nat) := by rw [jshrL_eq ⟨by omega, by omega⟩ ⟨by omega, by omega⟩, Int.toNat_natCast]
    have e3 : w64 (jshlL 1 (c : Int) - 1) = ((2 ^ c - 1 : Nat) : Int) := by rw [e1, w64_id ⟨by omega, by omega⟩]; omega
    have e4 : jandL x (w64 (jshlL 1 (c : Int) - 1)) = x % (2 ^ c : Nat) := by rw [e3, jandL_mask x c (by omega)]
    have e5 : jshrL (jshlL 1 (c : Int)) 1 = ((2 ^ (c - 1) : Nat) : Int) := by
      rw [e1, jshrL_eq ⟨by omega, by omega⟩ ⟨by decide, by decide⟩]
      show ((2 ^ c : Nat) : Int) / ((2 ^ 1 : Nat) : Int) = _
      rw [hpp]
      omega
    have e6 : jandL (x / (2 ^ c : Nat)) 1 = x / (2 ^ c : Nat) % 2 := jandL_mask _ 1 (by decide)
    have hq0 : 0 ≤ x / (2 ^ c : Nat) := Int.ediv_nonneg hx.1 (by omega)
    have hq1 : x / (2 ^ c : Nat) < 16777216 := by
      have h1 := (bl_lt hx0 (24 + c)).mp
      have h2 := (bl_lt hx0 (24 + c)).mpr (by omega)
      rw [Nat.pow_add] at h2
      refine Int.ediv_lt_of_lt_mul (by omega) ?_
      rw [show (16777216 : Int) * ((2 ^ c : Nat) : Int) = ((2 ^ 24 * 2 ^ c : Nat) : Int) by rw [Int.natCast_mul]; rfl]
      exact h2
    have e7 : w64 (x / (2 ^ c : Nat) + 1) = x / (2 ^ c : Nat) + 1 := w64_id ⟨by omega, by omega⟩
    simp only [e4, e5, e6, e7, e2, jcmp_pos]
    have e8 : ∀ z : Int, 0 ≤ z → z ≤ 16777216 → jshlL z (c : Int) = z * ((2 ^ c : Nat) : Int) := by
      intro z hz0 hz1
      rw [jshlL_eq ⟨by omega, by omega⟩, Int.toNat_natCast]
      have h1 : z * ((2 ^ c : Nat) : Int) ≤ 16777216 * ((2 ^ c : Nat) : Int) := Int.mul_le_mul_of_nonneg_right hz1 (by omega)
      have h2 : 0 ≤ z * ((2 ^ c : Nat) : Int) := Int.mul_nonneg hz0 (by omega)
      exact w64_id ⟨by omega, by omega⟩
    have hr : rnd x = (if x % (2 ^ c : Nat) > (2 ^ (c - 1) : Nat) ∨ (x % (2 ^ c : Nat) = (2 ^ (c - 1) : Nat) ∧ x / (2 ^ c : Nat) % 2 = 1) then x / (2 ^ c : Nat) + 1 else x / (2 ^ c : Nat)) * (2 ^ c : Nat) := by
      unfold rnd
      rw [if_neg (by omega), ← hc, show bl x - 25 = c - 1 by omega]
    rw [hr] at h
    generalize x / (2 ^ c : Nat) = kept at *
    generalize x % (2 ^ c : Nat) = rest at *
    generalize ((2 ^ (c - 1) : Nat) : Int) = half at *
    have j1 : ∀ a b : Int, (jcmp a b ≠ 0) ↔ a ≠ b := fun a b => by rw [Ne, jcmp_eq]
    simp only [j1]
    have hsel : (if (if half < rest then (1 : Int) else if rest ≠ half then 0 else if kept % 2 ≠ 1 then 0 else 1) = 0 then kept else kept + 1) = (if rest > half ∨ (rest = half ∧ kept % 2 = 1) then kept + 1 else kept) := by
      by_cases a1 : half < rest <;> by_cases a2 : rest = half <;> by_cases a3 : kept % 2 = 1 <;> simp [a1, a2, a3] <;> omega
    rw [hsel, e8 _ (by split <;> omega) (by split <;> omega)]
    exact h
  · have : bl x ≤ 24 := by omega
    unfold rnd at h
    rw [if_pos this] at h
    exact h
theorem c_rounded {x : Int} (hd : 1 ≤ d) (hx : 0 ≤ x ∧ x < 4611686018427387904) (h : Q (some (vL (rnd x))) M) : Call d mX10_rounded [vL x] M Q := by
  obtain ⟨e, rfl⟩ := dd hd
  refine vc_rounded ?_
  have hb : bl x ≤ 62 := by
    rcases Int.lt_or_le 0 x with h1 | h1
    · exact (bl_lt h1 62).mp (by omega)
    · unfold bl; rw [if_pos h1]; omega
  have key : ∀ (j c : Nat), c ≤ bl x - 24 → bl x - 24 - c = j → Run (e + 1) mX10_rounded 2 [some (vL x), none, some (vI (c : Int)), none, none, none, none, none, none, none, none, none] [] M Q := by
    intro j
    induction j with
    | zero =>
      intro c hc hj
      refine vc_rounded_2 ⟨fun q => rounded_tail hx (by omega) h, fun q => ⟨fun q2 => rounded_tail hx (by omega) h, fun q2 => ?_⟩⟩
      exfalso
      rw [jcmp_neg, jshrL_eq ⟨by omega, by omega⟩ ⟨by omega, by omega⟩, Int.toNat_natCast] at q2
      have hx0 : 0 < x := by
        rcases Int.lt_or_le 0 x with h1 | h1
        · exact h1
        · exfalso
          have : x = 0 := by omega
          subst this
          rw [Int.zero_ediv] at q2
          omega
      have h2 := (bl_lt hx0 (24 + c)).mpr (by omega)
      have h3 := div_le_iff.mp (Int.not_lt.mp q2)
      rw [Nat.pow_add, Int.natCast_mul] at h2
      have : ((2 ^ 24 : Nat) : Int) = 16777216 := rfl
      rw [this] at h2
      omega
    | succ j ih =>
      intro c hc hj
      have hx0 : 0 < x := by
        rcases Int.lt_or_le 0 x with h1 | h1
        · exact h1
        · exfalso; unfold bl at hj; rw [if_pos h1] at hj; omega
      refine vc_rounded_2 ⟨fun q => absurd q (by omega), fun q => ⟨fun q2 => ?_, fun q2 => ?_⟩⟩
      · exfalso
        rw [jcmp_neg, jshrL_eq ⟨by omega, by omega⟩ ⟨by omega, by omega⟩, Int.toNat_natCast] at q2
        have h2 := (bl_le hx0 (24 + c)).mpr (by omega)
        have h3 := (div_le_iff (x := x) (k := c) (y := 16777216)).mpr (by
          rw [Nat.pow_add, Int.natCast_mul] at h2
          exact h2)
        omega
      · rw [w32_id (z := (c : Int) + 1) ⟨by omega, by omega⟩]
        exact ih (c + 1) (by omega) (by omega)
  exact key _ 0 (Nat.zero_le _) rfl
end Helpers2
