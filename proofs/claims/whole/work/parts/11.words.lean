/-! the words behind the link tables -/
theorem jW_mem {w : Cond} (h : w ∈ lw_tbl) (g : goodWord w = true) : w ∈ jW := List.mem_filter.mpr ⟨h, g⟩
theorem jW_in {w : Cond} (h : w ∈ jW) : w ∈ lw_tbl ∧ goodWord w = true := List.mem_filter.mp h
theorem jW_good (ws : List Cond) (h : ∀ w ∈ ws, w ∈ jW) : GoodIn jW ws := fun w hw => ⟨h w hw, good_of_word (jW_in (h w hw)).2⟩
theorem jW_at {i : Nat} {w : Cond} (h : lw_tbl[i]? = some w) (g : goodWord w = true) : w ∈ jW := jW_mem (List.mem_of_getElem? h) g
theorem jN_at {i : Nat} {w : Cond} (h : lw_tbl[i]? = some w) (g : jisN w = true) : w ∈ jN := List.mem_filter.mpr ⟨List.mem_of_getElem? h, g⟩
theorem jW_of {ws : List Cond} (ps : List Nat) (h : ws = ps.filterMap (fun i => lw_tbl[i]?)) (g : ws.all goodWord = true) : ∀ w ∈ ws, w ∈ jW := by
  intro w hw
  have g1 := List.all_eq_true.mp g w hw
  rw [h] at hw
  obtain ⟨i, -, hi⟩ := List.mem_filterMap.mp hw
  exact jW_at hi g1
set_option maxRecDepth 100000 in
theorem jwX0 : ∀ w ∈ u_ws RX0 TX0 4, w ∈ jW := jW_of [447, 449, 451, 453] (by decide +kernel) (by decide +kernel)
theorem jdX0 : ∀ k, k < 4 → (TX0 k).1 = RX0 := by decide +kernel
set_option maxRecDepth 100000 in
theorem jwX1 : ∀ w ∈ u_ws RX1 TX1 7, w ∈ jW := jW_of [292, 294, 296, 298, 300, 302, 304] (by decide +kernel) (by decide +kernel)
theorem jdX1 : ∀ k, k < 7 → (TX1 k).1 = RX1 := by decide +kernel
set_option maxRecDepth 100000 in
theorem jwX2 : ∀ w ∈ u_ws RX2 TX2 12, w ∈ jW := jW_of [203, 205, 207, 209, 211, 213, 215, 217, 219, 221, 223, 225] (by decide +kernel) (by decide +kernel)
theorem jdX2 : ∀ k, k < 12 → (TX2 k).1 = RX2 := by decide +kernel
set_option maxRecDepth 100000 in
theorem jwX3 : ∀ w ∈ u_ws RX3 TX3 8, w ∈ jW := jW_of [248, 250, 252, 254, 256, 258, 260, 262] (by decide +kernel) (by decide +kernel)
theorem jdX3 : ∀ k, k < 8 → (TX3 k).1 = RX3 := by decide +kernel
set_option maxRecDepth 100000 in
theorem jwX4 : ∀ w ∈ u_ws RX4 TX4 1, w ∈ jW := jW_of [267] (by decide +kernel) (by decide +kernel)
theorem jdX4 : ∀ k, k < 1 → (TX4 k).1 = RX4 := by decide +kernel
set_option maxRecDepth 100000 in
theorem jwX5 : ∀ w ∈ u_ws RX5 TX5 3, w ∈ jW := jW_of [377, 379, 381] (by decide +kernel) (by decide +kernel)
theorem jdX5 : ∀ k, k < 3 → (TX5 k).1 = RX5 := by decide +kernel
set_option maxRecDepth 100000 in
theorem jwX6 : ∀ w ∈ u_ws RX6 TX6 13, w ∈ jW := jW_of [409, 411, 413, 415, 417, 419, 421, 423, 425, 427, 429, 431, 433] (by decide +kernel) (by decide +kernel)
theorem jdX6 : ∀ k, k < 13 → (TX6 k).1 = RX6 := by decide +kernel
set_option maxRecDepth 100000 in
theorem jwX7 : ∀ w ∈ u_ws RX7 TX7 10, w ∈ jW := jW_of [343, 345, 347, 349, 351, 353, 355, 357, 359, 361] (by decide +kernel) (by decide +kernel)
theorem jdX7 : ∀ k, k < 10 → (TX7 k).1 = RX7 := by decide +kernel
set_option maxRecDepth 100000 in
theorem jwX8 : ∀ w ∈ u_ws RX8 TX8 4, w ∈ jW := jW_of [164, 166, 168, 170] (by decide +kernel) (by decide +kernel)
theorem jdX8 : ∀ k, k < 4 → (TX8 k).1 = RX8 := by decide +kernel
set_option maxRecDepth 100000 in
theorem jwX9 : ∀ w ∈ u_ws RX9 TX9 1, w ∈ jW := jW_of [466] (by decide +kernel) (by decide +kernel)
theorem jdX9 : ∀ k, k < 1 → (TX9 k).1 = RX9 := by decide +kernel
set_option maxRecDepth 100000 in
theorem jwX10 : ∀ w ∈ u_ws RX10 TX10 20, w ∈ jW := jW_of [489, 491, 493, 495, 497, 499, 501, 503, 505, 507, 509, 511, 513, 515, 517, 519, 521, 523, 525, 527] (by decide +kernel) (by decide +kernel)
theorem jdX10 : ∀ k, k < 20 → (TX10 k).1 = RX10 := by decide +kernel
set_option maxRecDepth 100000 in
theorem jwX11 : ∀ w ∈ u_ws RX11 TX11 47, w ∈ jW := jW_of [1383, 1385, 1387, 1389, 1391, 1393, 1395, 1397, 1399, 1401, 1403, 1405, 1407, 1409, 1411, 1413, 1415, 1417, 1419, 1421, 1423, 1425, 1427, 1429, 1431, 1433, 1435, 1437, 1439, 1441, 1443, 1445, 1447, 1449, 1451, 1453, 1455, 1457, 1459, 1461, 1463, 1465, 1467, 1469, 1471, 1473, 1475] (by decide +kernel) (by decide +kernel)
theorem jdX11 : ∀ k, k < 47 → (TX11 k).1 = RX11 := by decide +kernel
def jclass (c : Nat) (q : vw_C) : Prop := (∀ w ∈ u_ws q.1 q.2.1 q.2.2, w ∈ jW) ∧ (∀ k, k < q.2.2 → parseFieldDescriptor (q.2.1 k).2.2.1 = some (jty c k)) ∧ (∀ a, a < q.2.2 → ∀ b, b < q.2.2 → a ≠ b → (q.2.1 a).2.1 ≠ (q.2.1 b).2.1) ∧ (∀ k, k < q.2.2 → (q.2.1 k).1 = q.1) ∧ jown c = q.1 ∧ Cond.instantiable q.1 q.2.2 ∈ jW ∧ Cond.initialized q.1 ∈ jW
set_option maxRecDepth 100000 in
theorem jclass_of {c : Nat} {q : vw_C} (h : jcl[c]? = some q) : jclass c q := by
  match c, h with
  | 0, h => cases h; exact ⟨jwX0, tyX0_ok, nmX0, jdX0, rfl, jW_at (i := 438) (by decide +kernel) rfl, jW_at (i := 132) (by decide +kernel) rfl⟩
  | 1, h => cases h; exact ⟨jwX1, tyX1_ok, nmX1, jdX1, rfl, jW_at (i := 273) (by decide +kernel) rfl, jW_at (i := 128) (by decide +kernel) rfl⟩
  | 2, h => cases h; exact ⟨jwX2, tyX2_ok, nmX2, jdX2, rfl, jW_at (i := 175) (by decide +kernel) rfl, jW_at (i := 125) (by decide +kernel) rfl⟩
  | 3, h => cases h; exact ⟨jwX3, tyX3_ok, nmX3, jdX3, rfl, jW_at (i := 235) (by decide +kernel) rfl, jW_at (i := 127) (by decide +kernel) rfl⟩
  | 4, h => cases h; exact ⟨jwX4, tyX4_ok, nmX4, jdX4, rfl, jW_at (i := 229) (by decide +kernel) rfl, jW_at (i := 126) (by decide +kernel) rfl⟩
  | 5, h => cases h; exact ⟨jwX5, tyX5_ok, nmX5, jdX5, rfl, jW_at (i := 365) (by decide +kernel) rfl, jW_at (i := 130) (by decide +kernel) rfl⟩
  | 6, h => cases h; exact ⟨jwX6, tyX6_ok, nmX6, jdX6, rfl, jW_at (i := 385) (by decide +kernel) rfl, jW_at (i := 131) (by decide +kernel) rfl⟩
  | 7, h => cases h; exact ⟨jwX7, tyX7_ok, nmX7, jdX7, rfl, jW_at (i := 308) (by decide +kernel) rfl, jW_at (i := 129) (by decide +kernel) rfl⟩
  | 8, h => cases h; exact ⟨jwX8, tyX8_ok, nmX8, jdX8, rfl, jW_at (i := 152) (by decide +kernel) rfl, jW_at (i := 124) (by decide +kernel) rfl⟩
  | 9, h => cases h; exact ⟨jwX9, tyX9_ok, nmX9, jdX9, rfl, jW_at (i := 458) (by decide +kernel) rfl, jW_at (i := 133) (by decide +kernel) rfl⟩
  | 10, h => cases h; exact ⟨jwX10, tyX10_ok, nmX10, jdX10, rfl, jW_at (i := 144) (by decide +kernel) rfl, jW_at (i := 123) (by decide +kernel) rfl⟩
  | 11, h => cases h; exact ⟨jwX11, tyX11_ok, nmX11, jdX11, rfl, jW_at (i := 1331) (by decide +kernel) rfl, jW_at (i := 134) (by decide +kernel) rfl⟩
  | c + 12, h => simp [jcl] at h
def jtyok (t : FieldType) (n : Nat) : Bool := match t, n with
  | .int, 0 => true
  | .boolean, 3 => true
  | .long, 1 => true
  | .object _, 2 => true
  | .array _, 2 => true
  | _, _ => false
noncomputable def chkF (e : jE) : Bool := match lw_tbl[e.2.2.2.2.2.1]?, jcl[e.2.2.1]? with
  | some (.fieldLink own i ref n d), some q => e.2.2.2.2.2.2 == false && own == jown e.1 && i == e.2.1 && decide (e.2.2.2.1 < q.2.2) && ref == (q.2.1 e.2.2.2.1).1 && n == (q.2.1 e.2.2.2.1).2.1 && d == (q.2.1 e.2.2.2.1).2.2.1 && jtyok (jty e.2.2.1 e.2.2.2.1) e.2.2.2.2.1 && goodWord (.fieldLink own i ref n d)
  | some (.fieldLinkNest own i ref n d host), some q => e.2.2.2.2.2.2 == true && own == jown e.1 && i == e.2.1 && decide (e.2.2.2.1 < q.2.2) && ref == (q.2.1 e.2.2.2.1).1 && n == (q.2.1 e.2.2.2.1).2.1 && d == (q.2.1 e.2.2.2.1).2.2.1 && jtyok (jty e.2.2.1 e.2.2.2.1) e.2.2.2.2.1 && host == "RememberedWeight" && e.1 != e.2.2.1
  | _, _ => false
set_option maxRecDepth 100000 in
theorem chkF_all : lkFt.all chkF = true := by decide +kernel
def jFok (o i c k t : Nat) (q : vw_C) : Prop := jcl[c]? = some q ∧ k < q.2.2 ∧ jtyok (jty c k) t = true ∧ (Cond.fieldLink (jown o) i (q.2.1 k).1 (q.2.1 k).2.1 (q.2.1 k).2.2.1 ∈ jW ∨ (Cond.fieldLinkNest (jown o) i (q.2.1 k).1 (q.2.1 k).2.1 (q.2.1 k).2.2.1 "RememberedWeight" ∈ jN ∧ o ≠ c))
theorem jF {o i c k t : Nat} (h : lkF o i = some (c, k, t)) : ∃ q, jFok o i c k t q := by
  unfold lkF at h
  obtain ⟨e, he, hq⟩ := Option.map_eq_some_iff.mp h
  have h1 := List.find?_some he
  have h2 := List.all_eq_true.mp chkF_all e (List.mem_of_find?_eq_some he)
  obtain ⟨o', i', c', k', t', p', b'⟩ := e
  simp only [Bool.and_eq_true, beq_iff_eq] at h1
  obtain ⟨rfl, rfl⟩ := h1
  cases hq
  unfold chkF at h2
  dsimp only at h2
  split at h2
  · rename_i own i ref n d q hw hc
    simp only [Bool.and_eq_true, beq_iff_eq, decide_eq_true_eq] at h2
    obtain ⟨⟨⟨⟨⟨⟨⟨⟨-, rfl⟩, rfl⟩, hk⟩, rfl⟩, rfl⟩, rfl⟩, ht⟩, hg⟩ := h2
    exact ⟨q, hc, hk, ht, Or.inl (jW_at hw hg)⟩
  · rename_i own i ref n d host q hw hc
    simp only [Bool.and_eq_true, beq_iff_eq, decide_eq_true_eq, bne_iff_ne] at h2
    obtain ⟨⟨⟨⟨⟨⟨⟨⟨⟨-, rfl⟩, rfl⟩, hk⟩, rfl⟩, rfl⟩, rfl⟩, ht⟩, rfl⟩, hne⟩ := h2
    exact ⟨q, hc, hk, ht, Or.inr ⟨jN_at hw rfl, hne⟩⟩
  · cases h2
noncomputable def chkK (e : Nat × Nat × Int × Nat) : Bool := match lw_tbl[e.2.2.2]? with
  | some (.constant own i v) => own == jown e.1 && i == e.2.1 && v == Int32.ofInt e.2.2.1 && decide (-2147483648 ≤ e.2.2.1) && decide (e.2.2.1 < 2147483648) && goodWord (.constant own i v)
  | _ => false
noncomputable def chkL (e : Nat × Nat × Int × Nat) : Bool := match lw_tbl[e.2.2.2]? with
  | some (.constantLong own i v) => own == jown e.1 && i == e.2.1 && v == Int64.ofInt e.2.2.1 && decide (-9223372036854775808 ≤ e.2.2.1) && decide (e.2.2.1 < 9223372036854775808) && goodWord (.constantLong own i v)
  | _ => false
noncomputable def chkN (e : Nat × Nat × Nat × Nat) : Bool := match lw_tbl[e.2.2.2]?, jcl[e.2.2.1]? with
  | some (.classLink own i C), some q => own == jown e.1 && i == e.2.1 && C == q.1 && goodWord (.classLink own i C)
  | _, _ => false
def jarC (t : Nat) : String := if t = 23 then "RememberedWeight$State" else "RememberedWeight$Law"
noncomputable def chkA (e : Nat × Nat × Nat × Nat) : Bool := match lw_tbl[e.2.2.2]? with
  | some (.classLink own i C) => own == jown e.1 && i == e.2.1 && (e.2.2.1 == 23 || e.2.2.1 == 24) && C == jarC e.2.2.1 && goodWord (.classLink own i C)
  | _ => false
noncomputable def chkO (e : Nat × Nat × Nat) : Bool := match lw_tbl[e.2.2]? with
  | some (.methodLink own i y) => own == jown e.1 && i == e.2.1 && y == Lib.objectInit && goodWord (.methodLink own i y)
  | _ => false
noncomputable def chkS (e : Nat × Nat × Nat × Nat) : Bool := match lw_tbl[e.2.2.2]?, jnames.find? (fun q => q.1 == e.2.2.1) with
  | some (.fieldLink own i ref n d), some q => own == jown e.1 && i == e.2.1 && ref == "RememberedWeight$IslandReader" && n == q.2 && d == "[I" && goodWord (.fieldLink own i ref n d)
  | _, _ => false
set_option maxRecDepth 100000 in
theorem chkK_all : lkKt.all chkK = true := by decide +kernel
set_option maxRecDepth 100000 in
theorem chkL_all : lkLt.all chkL = true := by decide +kernel
set_option maxRecDepth 100000 in
theorem chkN_all : lkNt.all chkN = true := by decide +kernel
set_option maxRecDepth 100000 in
theorem chkA_all : lkAt.all chkA = true := by decide +kernel
set_option maxRecDepth 100000 in
theorem chkO_all : lkOt.all chkO = true := by decide +kernel
set_option maxRecDepth 100000 in
theorem chkS_all : lkSt.all chkS = true := by decide +kernel
theorem jKc {o i : Nat} {z : Int} (h : lkK o i = some z) : Cond.constant (jown o) i (Int32.ofInt z) ∈ jW ∧ i32 z := by
  unfold lkK at h
  obtain ⟨e, he, hq⟩ := Option.map_eq_some_iff.mp h
  have h1 := List.find?_some he
  have h2 := List.all_eq_true.mp chkK_all e (List.mem_of_find?_eq_some he)
  obtain ⟨o', i', z', p'⟩ := e
  simp only [Bool.and_eq_true, beq_iff_eq] at h1
  obtain ⟨rfl, rfl⟩ := h1
  cases hq
  unfold chkK at h2
  dsimp only at h2
  split at h2
  · rename_i hw
    simp only [Bool.and_eq_true, beq_iff_eq, decide_eq_true_eq] at h2
    obtain ⟨⟨⟨⟨⟨rfl, rfl⟩, rfl⟩, ha⟩, hb⟩, hg⟩ := h2
    exact ⟨jW_at hw hg, ha, hb⟩
  · cases h2
theorem jLc {o i : Nat} {z : Int} (h : lkL o i = some z) : Cond.constantLong (jown o) i (Int64.ofInt z) ∈ jW ∧ i64 z := by
  unfold lkL at h
  obtain ⟨e, he, hq⟩ := Option.map_eq_some_iff.mp h
  have h1 := List.find?_some he
  have h2 := List.all_eq_true.mp chkL_all e (List.mem_of_find?_eq_some he)
  obtain ⟨o', i', z', p'⟩ := e
  simp only [Bool.and_eq_true, beq_iff_eq] at h1
  obtain ⟨rfl, rfl⟩ := h1
  cases hq
  unfold chkL at h2
  dsimp only at h2
  split at h2
  · rename_i hw
    simp only [Bool.and_eq_true, beq_iff_eq, decide_eq_true_eq] at h2
    obtain ⟨⟨⟨⟨⟨rfl, rfl⟩, rfl⟩, ha⟩, hb⟩, hg⟩ := h2
    exact ⟨jW_at hw hg, ha, hb⟩
  · cases h2
theorem jNc {o i c : Nat} (h : lkN o i = some c) : ∃ q, jcl[c]? = some q ∧ Cond.classLink (jown o) i q.1 ∈ jW := by
  unfold lkN at h
  obtain ⟨e, he, hq⟩ := Option.map_eq_some_iff.mp h
  have h1 := List.find?_some he
  have h2 := List.all_eq_true.mp chkN_all e (List.mem_of_find?_eq_some he)
  obtain ⟨o', i', z', p'⟩ := e
  simp only [Bool.and_eq_true, beq_iff_eq] at h1
  obtain ⟨rfl, rfl⟩ := h1
  cases hq
  unfold chkN at h2
  dsimp only at h2
  split at h2
  · rename_i own i C q hw hc
    simp only [Bool.and_eq_true, beq_iff_eq, decide_eq_true_eq] at h2
    obtain ⟨⟨⟨rfl, rfl⟩, rfl⟩, hg⟩ := h2
    exact ⟨q, hc, jW_at hw hg⟩
  · cases h2
theorem jAc {o i t : Nat} (h : lkA o i = some t) : (t = 23 ∨ t = 24) ∧ Cond.classLink (jown o) i (jarC t) ∈ jW := by
  unfold lkA at h
  obtain ⟨e, he, hq⟩ := Option.map_eq_some_iff.mp h
  have h1 := List.find?_some he
  have h2 := List.all_eq_true.mp chkA_all e (List.mem_of_find?_eq_some he)
  obtain ⟨o', i', z', p'⟩ := e
  simp only [Bool.and_eq_true, beq_iff_eq] at h1
  obtain ⟨rfl, rfl⟩ := h1
  cases hq
  unfold chkA at h2
  dsimp only at h2
  split at h2
  · rename_i own i C hw
    simp only [Bool.and_eq_true, Bool.or_eq_true, beq_iff_eq, decide_eq_true_eq] at h2
    obtain ⟨⟨⟨⟨rfl, rfl⟩, ht⟩, rfl⟩, hg⟩ := h2
    exact ⟨ht, jW_at hw hg⟩
  · cases h2
theorem jOc {o i : Nat} (h : lkO o i = true) : Cond.methodLink (jown o) i Lib.objectInit ∈ jW := by
  unfold lkO at h
  obtain ⟨e, he⟩ := Option.isSome_iff_exists.mp h
  have h1 := List.find?_some he
  have h2 := List.all_eq_true.mp chkO_all e (List.mem_of_find?_eq_some he)
  obtain ⟨o', i', p'⟩ := e
  simp only [Bool.and_eq_true, beq_iff_eq] at h1
  obtain ⟨rfl, rfl⟩ := h1
  unfold chkO at h2
  dsimp only at h2
  split at h2
  · rename_i own i y hw
    simp only [Bool.and_eq_true, beq_iff_eq, decide_eq_true_eq] at h2
    obtain ⟨⟨⟨rfl, rfl⟩, rfl⟩, hg⟩ := h2
    exact jW_at hw hg
  · cases h2
theorem jSc {o i r : Nat} (h : lkS o i = some r) : ∃ n, (r, n) ∈ jnames ∧ Cond.fieldLink (jown o) i "RememberedWeight$IslandReader" n "[I" ∈ jW := by
  unfold lkS at h
  obtain ⟨e, he, hq⟩ := Option.map_eq_some_iff.mp h
  have h1 := List.find?_some he
  have h2 := List.all_eq_true.mp chkS_all e (List.mem_of_find?_eq_some he)
  obtain ⟨o', i', z', p'⟩ := e
  simp only [Bool.and_eq_true, beq_iff_eq] at h1
  obtain ⟨rfl, rfl⟩ := h1
  cases hq
  unfold chkS at h2
  dsimp only at h2
  split at h2
  · rename_i own i ref n d q hw hc
    simp only [Bool.and_eq_true, beq_iff_eq, decide_eq_true_eq] at h2
    obtain ⟨⟨⟨⟨⟨rfl, rfl⟩, rfl⟩, rfl⟩, rfl⟩, hg⟩ := h2
    have h3 := List.find?_some hc
    have h4 := List.mem_of_find?_eq_some hc
    simp only [beq_iff_eq] at h3
    subst h3
    exact ⟨q.2, h4, jW_at hw hg⟩
  · cases h2
theorem jwObj : Cond.instanceMethod Lib.objectInit ∈ jW ∧ Cond.code Lib.objectInit ⟨#[0xb1]⟩ 1 none ∈ jW := ⟨jW_at (i := 149) (by decide +kernel) rfl, jW_at (i := 150) (by decide +kernel) rfl⟩
theorem jwA_int : Cond.arrayClass .int ∈ jW := jW_at (i := 173) (by decide +kernel) rfl
theorem jwA_long : Cond.arrayClass .long ∈ jW := jW_at (i := 436) (by decide +kernel) rfl
theorem jwA_boolean : Cond.arrayClass .boolean ∈ jW := jW_at (i := 456) (by decide +kernel) rfl
