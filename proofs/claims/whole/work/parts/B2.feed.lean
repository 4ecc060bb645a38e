/-! THE TAPE is fed: bytes; the class -/
def byF (x : Int) (j : Nat) : Int := (x / ((2 ^ (24 - 8 * j) : Nat) : Int)) % 256
def argF (x y z u v : Int) : Nat → Int := fun i => if i = 0 then x else if i = 1 then y else if i = 2 then z else if i = 3 then u else v
def bF (a : Nat → Int) (k : Nat) : Int := byF (a (k / 4)) (k % 4)
def cnF (b : Nat → Int) : Nat → Nat
  | 0 => 0
  | n + 1 => if b n = 0 then cnF b n else cnF b n + 1
abbrev jTp : Type := Nat × (Nat → Int)
def apF (b : Nat → Int) : Nat → jTp → jTp
  | 0, T => T
  | n + 1, T => if b n = 0 then apF b n T else ((apF b n T).1 + 1, fun i => if i = (apF b n T).1 then b n else (apF b n T).2 i)
theorem byF_in {x : Int} {j : Nat} : 0 ≤ byF x j ∧ byF x j ≤ 255 := by
  unfold byF
  omega
theorem and255 (Y : Int32) : (Y &&& Int32.ofInt 255).toInt = ((Y.toBitVec.toNat % 256 : Nat) : Int) := by
  refine ti32 ?_ (by omega)
  rw [Int32.toBitVec_and, BitVec.toNat_and, tn32 (by decide) (by decide)]
  show Y.toBitVec.toNat &&& (2 ^ 8 - 1) = _
  rw [Nat.and_two_pow_sub_one_eq_mod]
theorem jbyte_u {x : Int} {j : Nat} (hj : j < 4) : jand (jushr x (24 - 8 * (j : Int))) 255 = byF x j := by
  have hs : 0 ≤ (24 - 8 * (j : Int)) ∧ (24 - 8 * (j : Int)) < 32 := by omega
  have hk : (((Int32.ofInt (24 - 8 * (j : Int))).toUInt32 &&& Int32.toUInt32 31).toBitVec % 32).toNat = (24 - 8 * (j : Int)).toNat := by
    obtain ⟨n, hn⟩ := Int.eq_ofNat_of_zero_le hs.1
    rw [hn]
    have hn : n < 32 := by omega
    exact (by decide +kernel : ∀ n : Nat, n < 32 → (((Int32.ofInt (n : Int)).toUInt32 &&& Int32.toUInt32 31).toBitVec % 32).toNat = (n : Int).toNat) n hn
  have h := pk_ushr (Int32.ofInt x) (Int32.ofInt (24 - 8 * (j : Int))) (24 - 8 * (j : Int)).toNat hk
  unfold jand jushr
  rw [Int32.ofInt_toInt, and255, h]
  show (((BitVec.ofInt 32 x).toNat / 2 ^ (24 - 8 * (j : Int)).toNat % 256 : Nat) : Int) = _
  rw [BitVec.toNat_ofInt]
  unfold byF
  have : j = 0 ∨ j = 1 ∨ j = 2 ∨ j = 3 := by omega
  rcases this with rfl | rfl | rfl | rfl
  · show (((x % 4294967296).toNat / 16777216 % 256 : Nat) : Int) = (x / 16777216) % 256
    omega
  · show (((x % 4294967296).toNat / 65536 % 256 : Nat) : Int) = (x / 65536) % 256
    omega
  · show (((x % 4294967296).toNat / 256 % 256 : Nat) : Int) = (x / 256) % 256
    omega
  · show (((x % 4294967296).toNat / 1 % 256 : Nat) : Int) = (x / 1) % 256
    omega
theorem jbyte_s {x : Int} {j : Nat} (hx : i32 x) (hj : j < 4) : jand (jshr x (24 - 8 * (j : Int))) 255 = byF x j := by
  rw [jshr_eq hx (by omega), show (255 : Int) = ((2 ^ 8 - 1 : Nat) : Int) from rfl, jand_mask _ 8 (by decide)]
  unfold byF
  rw [show (24 - 8 * (j : Int)).toNat = 24 - 8 * j by omega]
  rfl
theorem bF_blk {a : Nat → Int} {i k : Nat} (hk : k < 4) : bF a (4 * i + k) = byF (a i) k := by
  unfold bF
  rw [show (4 * i + k) / 4 = i by omega, show (4 * i + k) % 4 = k by omega]
theorem cnF_in {b : Nat → Int} : ∀ n, cnF b n ≤ n
  | 0 => Nat.le_refl _
  | n + 1 => by
    have := cnF_in (b := b) n
    simp only [cnF]
    split <;> omega
theorem cnF_mono {b : Nat → Int} {m : Nat} : ∀ n, cnF b m ≤ cnF b (m + n)
  | 0 => Nat.le_refl _
  | n + 1 => by
    have := cnF_mono (b := b) (m := m) n
    show cnF b m ≤ cnF b ((m + n) + 1)
    simp only [cnF]
    split <;> omega
theorem cnF_add {b : Nat → Int} {m : Nat} : ∀ n, cnF b (m + n) = cnF b m + cnF (fun k => b (m + k)) n
  | 0 => rfl
  | n + 1 => by
    have := cnF_add (b := b) (m := m) n
    show cnF b ((m + n) + 1) = _
    simp only [cnF]
    rw [this]
    split <;> omega
theorem cnF_cg {b b' : Nat → Int} : ∀ n, (∀ k, k < n → b k = b' k) → cnF b n = cnF b' n
  | 0, _ => rfl
  | n + 1, h => by
    simp only [cnF]
    rw [cnF_cg n (fun k hk => h k (by omega)), h n (by omega)]
theorem apF_add {b : Nat → Int} {m : Nat} {T : jTp} : ∀ n, apF b (m + n) T = apF (fun k => b (m + k)) n (apF b m T)
  | 0 => rfl
  | n + 1 => by
    show apF b ((m + n) + 1) T = _
    simp only [apF]
    rw [apF_add n]
theorem apF_cg {b b' : Nat → Int} {T : jTp} : ∀ n, (∀ k, k < n → b k = b' k) → apF b n T = apF b' n T
  | 0, _ => rfl
  | n + 1, h => by
    simp only [apF]
    rw [apF_cg n (fun k hk => h k (by omega)), h n (by omega)]
theorem apF_len {b : Nat → Int} {T : jTp} : ∀ n, (apF b n T).1 = T.1 + cnF b n
  | 0 => rfl
  | n + 1 => by
    have := apF_len (b := b) (T := T) n
    simp only [apF, cnF]
    by_cases c : b n = 0
    · rw [if_pos c, if_pos c]; exact this
    · rw [if_neg c, if_neg c]
      show (apF b n T).1 + 1 = _
      omega
theorem apF_in {b : Nat → Int} {T : jTp} (hb : ∀ k, 0 ≤ b k ∧ b k ≤ 255) (hT : ∀ i, i < T.1 → 1 ≤ T.2 i ∧ T.2 i ≤ 255) : ∀ n i, i < (apF b n T).1 → 1 ≤ (apF b n T).2 i ∧ (apF b n T).2 i ≤ 255
  | 0, i, hi => hT i hi
  | n + 1, i, hi => by
    have ih := apF_in hb hT n
    have hbn := hb n
    simp only [apF] at hi ⊢
    by_cases c : b n = 0
    · rw [if_pos c] at hi ⊢; exact ih i hi
    · rw [if_neg c] at hi ⊢
      have hi : i < (apF b n T).1 + 1 := hi
      show 1 ≤ (if i = (apF b n T).1 then b n else (apF b n T).2 i) ∧ (if i = (apF b n T).1 then b n else (apF b n T).2 i) ≤ 255
      by_cases z : i = (apF b n T).1
      · rw [if_pos z]; omega
      · rw [if_neg z]; exact ih i (by omega)
theorem cn_blk {a : Nat → Int} {i : Nat} : cnF (bF a) (4 * i + 4) = cnF (bF a) (4 * i) + cnF (byF (a i)) 4 := by
  rw [cnF_add, cnF_cg 4 (fun k hk => bF_blk hk)]
theorem ap_blk {a : Nat → Int} {i : Nat} {T : jTp} : apF (bF a) (4 * i + 4) T = apF (byF (a i)) 4 (apF (bF a) (4 * i) T) := by
  rw [apF_add, apF_cg 4 (fun k hk => bF_blk hk)]
def wFeed (W : kW) (x y z u v : Int) : Int × kW := if W.tl + cnF (bF (argF x y z u v)) 20 ≤ 240 then (((W.tl + cnF (bF (argF x y z u v)) 20 : Nat) : Int), W.setT (apF (bF (argF x y z u v)) 20 (W.tl, W.tb))) else (-1, W)
def wEnd (W : kW) (n : Int) : Int × kW := if 0 ≤ n ∧ n ≤ W.tl then (1, W.setT (n.toNat, W.tb)) else (0, W)
theorem okT' {W : kW} {u : jTp} (h : OKW W) (h1 : u.1 ≤ 240) (h2 : ∀ i, i < u.1 → 1 ≤ u.2 i ∧ u.2 i ≤ 255) : OKW (W.setT u) := by
  obtain ⟨a1, a2, a3, a4, a5, a6, a7, a8, a9, a10, a11⟩ := h
  exact ⟨a1, a2, a3, a4, a5, a6, a7, ⟨h1, h2⟩, a9, a10, a11⟩
theorem okFeed {W : kW} {x y z u v : Int} (h : OKW W) : OKW (wFeed W x y z u v).2 := by
  unfold wFeed
  split
  · rename_i c
    refine okT' h (by rw [apF_len]; exact c) (apF_in (fun k => byF_in) h.2.2.2.2.2.2.2.1.2 20)
  · exact h
theorem okEnd {W : kW} {n : Int} (h : OKW W) : OKW (wEnd W n).2 := by
  have ht := h.2.2.2.2.2.2.2.1
  unfold wEnd
  split
  · rename_i c
    exact okT' h (by show n.toNat ≤ 240; have := ht.1; omega) (fun i hi => ht.2 i (by have hi : i < n.toNat := hi; omega))
  · exact h
/-- the cells of the tape and of the readers -/
def Rr (r : Nat) : Prop := 7 ≤ r ∧ r ≤ 25
section Feed
variable {d : Nat} {M M' : jM} {Q : Option jV → jM → Prop} {W : kW} {P : Nat → Prop}
theorem Rr_x {r : Nat} (h : Rr r) : Xc M r := by unfold Rr at h; unfold Xc; omega
theorem CX.tape {u : jTp} (h : CX M W) (hok : OKW W) (hf : Fr P M M') (hp : ∀ r, P r → Rr r) (hT : TapX M' (W.setT u)) (hR : RdrX M') : CX M' (W.setT u) ∧ FX M M' := by
  obtain ⟨a0, a1, a2, a3, a4, a5, a6, a7, a8, a9, a10⟩ := h
  have q : ∀ r, ¬ Rr r → ¬ P r := fun r hr z => hr (hp r z)
  have e : ∀ r, ¬ Rr r → iv M' r = iv M r := fun r hr => hf.eiv (q r hr)
  have e6 : iv M' 6 = iv M 6 := e 6 (by unfold Rr; omega)
  have hl0 : LawX M' W := a7.fr hf e6 (fun r hr hq => by have := hp r hq; unfold Rr at this; omega) hok
  refine ⟨⟨hf.shp a0, a1.xc hf (fun r hr => Rr_x (hp r hr)), ?_, ?_, ?_, ?_, hT, hl0, ?_, ⟨hR, ?_⟩, ?_⟩, FX.of hf a0 (fun r hr => by have := hp r hr; unfold Rr at this; omega)⟩
  · obtain ⟨h1, h2, h3⟩ := a2
    refine ⟨fun z => ?_, by rw [e 33 (by unfold Rr; omega)]; exact h2, h3.fr hf (fun r _ _ => q r (by unfold Rr; omega))⟩
    obtain ⟨b1, b2⟩ := h1 z
    exact ⟨b1.fr hf (fun k hk _ => q _ (by unfold Rr; omega)), b2.fr hf (q _ (by unfold Rr; omega))⟩
  · unfold PicX
    rw [e6]
    exact ⟨a3.1, fun v hv => by
      obtain ⟨b1, b2⟩ := a3.2 v hv
      exact ⟨b1.fr hf (fun k hk _ => q _ (by unfold Rr; omega)), b2.fr hf (q _ (by unfold Rr; omega))⟩⟩
  · exact fun z => (a4 z).fr hf (fun k hk _ => q _ (by unfold Rr; omega))
  · obtain ⟨r1, r2, r3⟩ := a5
    refine ⟨by rw [e 387 (by unfold Rr; omega)]; exact r1, fun k hk => ?_, ?_⟩
    · rw [e 388 (by unfold Rr; omega), e 389 (by unfold Rr; omega), e 390 (by unfold Rr; omega), e 391 (by unfold Rr; omega)]; exact r2 k hk
    · rw [e 387 (by unfold Rr; omega)]; exact r3.imp id (fun z => ⟨z.1, z.2.fr hf (fun r hr => q r (by unfold Rr; omega))⟩)
  · unfold RefX at a8 ⊢; rw [e 28 (by unfold Rr; omega)]; exact a8
  · unfold LgtX at a9 ⊢; rw [e 43 (by unfold Rr; omega), e 44 (by unfold Rr; omega), e 45 (by unfold Rr; omega), e 48 (by unfold Rr; omega)]; exact a9.2
  · rw [e6]; exact a10
theorem c_signs {x : Int} (hd : 1 ≤ d) (h : Q (some (vI (cnF (byF x) 4 : Nat))) M) : Call d mX10_signsOf [vI x] M Q := by
  obtain ⟨e, rfl⟩ := dd hd
  refine vc_signsOf ?_
  have : (24 : Int) = 24 - 8 * ((0 : Nat) : Int) := by decide
  rw [this]
  refine up_to (R := fun j => Run (e + 1) mX10_signsOf 5 [some (vI x), some (vI (cnF (byF x) j : Nat)), some (vI (24 - 8 * (j : Int)))] [] M Q) 4 ?_ ?_
  · exact vc_signsOf_5 ⟨fun _ => h, fun z => absurd (by decide) z⟩
  · intro j hj ih
    refine vc_signsOf_5 ⟨fun z => absurd z (by omega), fun _ => ?_⟩
    rw [jbyte_u hj]
    have hc := cnF_in (b := byF x) j
    have e1 : w32 (24 - 8 * (j : Int) + -8) = 24 - 8 * ((j + 1 : Nat) : Int) := by rw [w32_i (by omega) (by omega)]; omega
    have e2 : w32 (((cnF (byF x) j : Nat) : Int) + (if byF x j = 0 then 0 else 1)) = ((cnF (byF x) (j + 1) : Nat) : Int) := by
      simp only [cnF]
      by_cases c : byF x j = 0
      · rw [if_pos c, if_pos c, w32_i (by omega) (by omega)]; omega
      · rw [if_neg c, if_neg c, w32_i (by omega) (by omega)]; omega
    rw [e1, e2]
    exact ih
theorem c_append {x : Int} {T : jTp} (hd : 5 ≤ d) (hS : Shp M) (h1 : iv M 7 1 = (T.1 : Int)) (h2 : ∀ i, i < T.1 → iv M 8 i = T.2 i) (hb : T.1 + cnF (byF x) 4 ≤ 240) (h : ∀ M', Fr (fun r => r = 7 ∨ r = 8) M M' → iv M' 7 1 = ((apF (byF x) 4 T).1 : Int) → (∀ i, i < (apF (byF x) 4 T).1 → iv M' 8 i = (apF (byF x) 4 T).2 i) → Q none M') : Call d mX8_append [vR 7, vI x] M Q := by
  obtain ⟨e, rfl⟩ := dd (d := d) (by omega)
  refine vk_append (by omega) hS ?_
  have : (24 : Int) = 24 - 8 * ((0 : Nat) : Int) := by decide
  rw [this]
  refine up_to (R := fun j => ∀ (M1 : jM) (l3 : Option jV), Fr (fun r => r = 7 ∨ r = 8) M M1 → iv M1 7 1 = ((apF (byF x) j T).1 : Int) → (∀ i, i < (apF (byF x) j T).1 → iv M1 8 i = (apF (byF x) j T).2 i) → Run (e + 1) mX8_append 3 [some (vR 7), some (vI x), some (vI (24 - 8 * (j : Int))), l3] [] M1 Q) 4 ?_ ?_ M none Fr.refl h1 h2
  · intro M1 l3 f1 g1 g2
    exact vk_append_3 (by omega) (f1.shp hS) ⟨fun _ => h M1 f1 g1 g2, fun z => absurd (by decide) z⟩
  · intro j hj ih M1 l3 f1 g1 g2
    have e1 : w32 (24 - 8 * (j : Int) + -8) = 24 - 8 * ((j + 1 : Nat) : Int) := by rw [w32_i (by omega) (by omega)]; omega
    have hlen := apF_len (b := byF x) (T := T) j
    refine vk_append_3 (by omega) (f1.shp hS) ⟨fun z => absurd z (by omega), fun _ => ?_⟩
    rw [jbyte_u hj, e1]
    clear e1
    refine ⟨fun c => ?_, fun c => ⟨fun c2 => ?_, fun c2 N4 h4 _ N6 h6 _ => ?_⟩⟩
    · have ea : apF (byF x) (j + 1) T = apF (byF x) j T := by simp only [apF]; rw [if_pos c]
      exact ih M1 _ f1 (by rw [ea]; exact g1) (by rw [ea]; exact g2)
    · have hm := cnF_mono (b := byF x) (m := j + 1) (3 - j)
      have hc1 : cnF (byF x) (j + 1) = cnF (byF x) j + 1 := by simp only [cnF]; rw [if_neg c]
      rw [show j + 1 + (3 - j) = 4 by omega] at hm
      omega
    · have ea : apF (byF x) (j + 1) T = ((apF (byF x) j T).1 + 1, fun i => if i = (apF (byF x) j T).1 then byF x j else (apF (byF x) j T).2 i) := by simp only [apF]; rw [if_neg c]
      rw [g1] at h4
      have i4 : iv N4 7 1 = ((apF (byF x) j T).1 : Int) := by rw [h4, iv_ptv, if_neg (by omega)]; exact g1
      rw [i4, w32s (by omega)] at h6
      refine ih N6 _ (by rw [h6, h4]; exact (f1.pv (Or.inr rfl)).ps (Or.inl rfl)) (by rw [ea, h6, iv_si, if_pos ⟨rfl, rfl⟩]) (fun i hi => ?_)
      rw [ea] at hi ⊢
      have hi : i < (apF (byF x) j T).1 + 1 := hi
      show _ = if i = (apF (byF x) j T).1 then byF x j else (apF (byF x) j T).2 i
      rw [h6, iv_si, if_neg (by omega), h4, iv_ptv]
      by_cases z : i = (apF (byF x) j T).1
      · rw [if_pos z, if_pos ⟨rfl, by omega, by omega⟩]
      · rw [if_neg z, if_neg (by omega)]
        exact g2 i (by omega)
theorem X_feed {x y z u v : Int} (hd : 7 ≤ d) (hX : CX M W) (hok : OKW W) (h : ∀ M', FX M M' → CX M' (wFeed W x y z u v).2 → Q (some (vI (wFeed W x y z u v).1)) M') : Call d mX10_feed [vR 6, vI x, vI y, vI z, vI u, vI v] M Q := by
  obtain ⟨e, rfl⟩ := dd (d := d) (by omega)
  have hS := hX.shp
  obtain ⟨t1, t2⟩ := hX.2.2.2.2.2.2.1
  have h240 := hok.2.2.2.2.2.2.2.1.1
  have c0 := cn_blk (a := argF x y z u v) (i := 0)
  have c1 := cn_blk (a := argF x y z u v) (i := 1)
  have c2 := cn_blk (a := argF x y z u v) (i := 2)
  have c3 := cn_blk (a := argF x y z u v) (i := 3)
  have c4 := cn_blk (a := argF x y z u v) (i := 4)
  have p0 := ap_blk (a := argF x y z u v) (i := 0) (T := (W.tl, W.tb))
  have p1 := ap_blk (a := argF x y z u v) (i := 1) (T := (W.tl, W.tb))
  have p2 := ap_blk (a := argF x y z u v) (i := 2) (T := (W.tl, W.tb))
  have p3 := ap_blk (a := argF x y z u v) (i := 3) (T := (W.tl, W.tb))
  have p4 := ap_blk (a := argF x y z u v) (i := 4) (T := (W.tl, W.tb))
  have q0 : argF x y z u v 0 = x := rfl
  have q1 : argF x y z u v 1 = y := rfl
  have q2 : argF x y z u v 2 = z := rfl
  have q3 : argF x y z u v 3 = u := rfl
  have q4 : argF x y z u v 4 = v := rfl
  have z0 : cnF (bF (argF x y z u v)) (4 * 0) = 0 := rfl
  have y0 : apF (bF (argF x y z u v)) (4 * 0) (W.tl, W.tb) = (W.tl, W.tb) := rfl
  rw [q0, z0] at c0; rw [q1] at c1; rw [q2] at c2; rw [q3] at c3; rw [q4] at c4
  rw [q0, y0] at p0; rw [q1] at p1; rw [q2] at p2; rw [q3] at p3; rw [q4] at p4
  clear q0 q1 q2 q3 q4 z0 y0
  simp only [Nat.mul_one, Nat.mul_zero, Nat.zero_add, Nat.reduceMul, Nat.reduceAdd] at c0 c1 c2 c3 c4 p0 p1 p2 p3 p4
  have l0 := apF_len (b := bF (argF x y z u v)) (T := (W.tl, W.tb)) 4
  have l1 := apF_len (b := bF (argF x y z u v)) (T := (W.tl, W.tb)) 8
  have l2 := apF_len (b := bF (argF x y z u v)) (T := (W.tl, W.tb)) 12
  have l3 := apF_len (b := bF (argF x y z u v)) (T := (W.tl, W.tb)) 16
  have b0 := cnF_in (b := byF x) 4
  have b1 := cnF_in (b := byF y) 4
  have b2 := cnF_in (b := byF z) 4
  have b3 := cnF_in (b := byF u) 4
  have b4 := cnF_in (b := byF v) 4
  refine vx_feed (by omega) hS (c_signs (by omega) ⟨_, rfl, hS, c_signs (by omega) ⟨_, rfl, hS, c_signs (by omega) ⟨_, rfl, hS, c_signs (by omega) ⟨_, rfl, hS, c_signs (by omega) ⟨_, rfl, hS, fun v26 h26 => ?_⟩⟩⟩⟩⟩)
  rw [t1, w32_i (z := ((cnF (byF x) 4 : Nat) : Int) + _) (by omega) (by omega), w32_i (z := _ + ((cnF (byF z) 4 : Nat) : Int)) (by omega) (by omega), w32_i (z := _ + ((cnF (byF u) 4 : Nat) : Int)) (by omega) (by omega), w32_i (z := _ + ((cnF (byF v) 4 : Nat) : Int)) (by omega) (by omega), w32_i (by omega) (by omega)] at h26
  unfold wFeed at h
  refine ⟨fun c => ?_, fun c => ?_⟩
  · have hc : W.tl + cnF (bF (argF x y z u v)) 20 ≤ 240 := by omega
    rw [if_pos hc] at h
    have l0 : (apF (byF x) 4 (W.tl, W.tb)).1 = W.tl + cnF (bF (argF x y z u v)) 4 := by rw [← p0]; exact l0
    refine c_append (T := (W.tl, W.tb)) (by omega) hS t1 t2 (by show W.tl + _ ≤ 240; omega) (fun M1 f1 g1 k1 => ⟨rfl, f1.shp hS, ?_⟩)
    rw [← p0] at g1 k1
    have s1 := f1.shp hS
    have l0 : (apF (bF (argF x y z u v)) 4 (W.tl, W.tb)).1 = W.tl + cnF (bF (argF x y z u v)) 4 := apF_len 4
    refine c_append (by omega) s1 g1 k1 (by rw [l0]; omega) (fun M2 f2 g2 k2 => ⟨rfl, f2.shp s1, ?_⟩)
    rw [← p1] at g2 k2
    have s2 := f2.shp s1
    refine c_append (by omega) s2 g2 k2 (by rw [apF_len]; show W.tl + _ + _ ≤ 240; omega) (fun M3 f3 g3 k3 => ⟨rfl, f3.shp s2, ?_⟩)
    rw [← p2] at g3 k3
    have s3 := f3.shp s2
    refine c_append (by omega) s3 g3 k3 (by rw [apF_len]; show W.tl + _ + _ ≤ 240; omega) (fun M4 f4 g4 k4 => ⟨rfl, f4.shp s3, ?_⟩)
    rw [← p3] at g4 k4
    have s4 := f4.shp s3
    refine c_append (by omega) s4 g4 k4 (by rw [apF_len]; show W.tl + _ + _ ≤ 240; omega) (fun M5 f5 g5 k5 => ⟨rfl, f5.shp s4, ?_⟩)
    rw [← p4] at g5 k5
    have fA : Fr (fun r => r = 7 ∨ r = 8) M M5 := (((f1.trans f2).trans f3).trans f4).trans f5
    have hr := hX.2.2.2.2.2.2.2.2.2.1.1
    have g := hX.tape (u := apF (bF (argF x y z u v)) 20 (W.tl, W.tb)) hok fA (fun r hr => by unfold Rr; omega) ⟨g5, k5⟩ (by unfold RdrX at hr ⊢; rw [fA.eiv (by decide), fA.eiv (by decide), fA.eiv (by decide)]; exact hr)
    rw [g5, apF_len]
    exact h M5 g.2 g.1
  · have hc : ¬ W.tl + cnF (bF (argF x y z u v)) 20 ≤ 240 := by omega
    rw [if_neg hc] at h
    exact h M (FX.refl hS) hX
theorem X_end {n : Int} (hd : 7 ≤ d) (hX : CX M W) (hok : OKW W) (h : ∀ M', FX M M' → CX M' (wEnd W n).2 → Q (some (vI (wEnd W n).1)) M') : Call d mX10_end [vR 6, vI n] M Q := by
  obtain ⟨e, rfl⟩ := dd (d := d) (by omega)
  have hS := hX.shp
  obtain ⟨t1, t2⟩ := hX.2.2.2.2.2.2.1
  unfold wEnd at h
  refine vx_end (by omega) hS ?_
  rw [t1]
  refine ⟨fun c => ?_, fun c => ⟨fun c2 N hN _ => ?_, fun c2 => ?_⟩⟩
  · rw [if_neg (by omega)] at h; exact h M (FX.refl hS) hX
  · rw [if_pos ⟨by omega, c2⟩] at h
    have fN : Fr (fun r => r = 7) M N := by rw [hN]; exact fr_si rfl
    have hr := hX.2.2.2.2.2.2.2.2.2.1.1
    have g := hX.tape (u := (n.toNat, W.tb)) hok fN (fun r hr => by unfold Rr; omega) ⟨by rw [hN, iv_si, if_pos ⟨rfl, rfl⟩]; show n = ((n.toNat : Nat) : Int); omega, fun i hi => by
      have hi : i < n.toNat := hi
      rw [fN.eiv (by decide)]; exact t2 i (by omega)⟩ (by unfold RdrX at hr ⊢; rw [fN.eiv (by decide), fN.eiv (by decide), fN.eiv (by decide)]; exact hr)
    exact h N g.2 g.1
  · rw [if_neg (by omega)] at h; exact h M (FX.refl hS) hX
end Feed
