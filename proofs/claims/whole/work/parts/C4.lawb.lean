/-! THE LAW: its locals, an argument out of the script; person -/
abbrev lsL (i : Nat) (a b : Option jV) : jLs := [some (vR 5), some (vR 6), some (vR 468), some (vR 499), some (vI (i : Int)), a, b]
section LawB
variable {d c i L w pc : Nat} {k : Int} {M : jM} {W : kW} {a b : Option jV} {st : List jV} {Q : Option jV → jM → Prop}
theorem law_arg (d0 : decode cL_law pc = .ok (.aload_n 0, 1)) (d1 : decode cL_law (pc + 1) = .ok (.iload 4, 2)) (d3 : decode cL_law (pc + 3) = .ok (.iconst k, 1)) (d4 : decode cL_law (pc + 4) = .ok (.iadd, 1)) (d5 : decode cL_law (pc + 5) = .ok (.iaload, 1)) (hk : -32768 ≤ k ∧ k ≤ 32767) (hb : jro M 20 L 5) (hi : 0 ≤ k ∧ k ≤ 5 ∧ i + 6 ≤ L ∧ L ≤ 3072) (K : Run d mL_law (pc + 6) (lsL i a b) (vI (iv M 5 ((i : Int) + k).toNat) :: st) M Q) : Run d mL_law pc (lsL i a b) st M Q := by
  refine r_aload_n d0 rfl ?_
  refine r_iload d1 rfl ?_
  refine r_iconst d3 hk ?_
  refine r_iadd d4 ?_
  rw [w32_i (by omega) (by omega)]
  exact r_iaload d5 (jro_ix hb (by omega)) K
/-- the first cell of the law's own row of longs -/
theorem LSc.out (h : LSc L w c M) (hS : Shp M) : jro M 21 1 499 := ⟨by decide, by have := hS.1; omega, h.2.2.1⟩
theorem s499_x {z : Int} : Fr (fun r => 468 ≤ r ∧ r < 500) M (sl M 499 0 z) := fr_sl (P := fun r => 468 ≤ r ∧ r < 500) ⟨by decide, by decide⟩
theorem law_c5 (hd : 724 ≤ d) (hL : L ≤ 3072) (hi : i + 6 ≤ L) (h : LWc L w c W M) (K : ∀ a b W2 M2, LWc L w (c + 1) W2 M2 → Run (d + 1 + 1) mL_law 1513 (lsL i a b) [] M2 Q) : Run (d + 1 + 1) mL_law 381 (lsL i a b) [] M Q := by
  obtain ⟨hok, hX, hM, hl⟩ := id h
  have hS := hX.shp
  have hb := hl.row hS
  refine r_aload_n dL_law_381 rfl ?_
  refine law_arg dL_law_382 dL_law_383 dL_law_385 dL_law_386 dL_law_387 (by decide) hb (by omega) ?_
  refine law_arg dL_law_388 dL_law_389 dL_law_391 dL_law_392 dL_law_393 (by decide) hb (by omega) ?_
  refine r_aload_n dL_law_394 rfl ?_
  have ho : jobj M 10 6 = true ∧ jIdx M 21 499 0 = true ∧ 6 ≤ 499 ∧ 6 ≤ 6 ∧ jcat ([] : List jV) ≤ 8 := ⟨sh_o hS kk6 (by decide), jro_ix (hl.out hS) (by decide), by decide, by decide, by decide⟩
  generalize hp : iv M 5 ((i : Int) + 1).toNat = p
  generalize hq : iv M 5 ((i : Int) + 2).toNat = q
  by_cases hv : okPer W p q
  · refine r_persK dL_law_395 ho ?_
    refine X_person (by omega) hX hok hv (fun M1 f1 x1 => ⟨_, rfl, ?_⟩)
    generalize hz : aPerson W p q = z
    have hM0 := hM.fx f1
    have fs : Fr (fun r => 468 ≤ r ∧ r < 500) M1 (sl M1 499 0 z) := s499_x
    have x1' := x1.f5 fs
    have hS1 := x1'.shp
    have hM1 : CM (sl M1 499 0 z) W := hM0.cg hS1 (fun r _ _ => rfl)
    have hl1 := (hl.fx f1).f5 fs
    have hb1 := hl1.row hS1
    have e5 : iv (sl M1 499 0 z) 5 = iv M 5 := (f1.2.1 5 (Or.inl (by decide))).1
    have eo : lg (sl M1 499 0 z) 499 0 = z := by
      show (if 499 = 499 ∧ 0 = 0 then z else lg M1 499 0) = z
      exact if_pos ⟨rfl, rfl⟩
    generalize hN : sl M1 499 0 z = N at x1' hS1 hM1 hl1 hb1 e5 eo
    refine r_istore (ls2 := lsL i (some (vI 0)) b) dL_law_398 (Nat.le_of_ble_eq_true rfl) rfl ?_
    refine r_aload_n dL_law_400 rfl ?_
    refine law_arg dL_law_401 dL_law_402 dL_law_404 dL_law_405 dL_law_406 (by decide) hb1 (by omega) ?_
    refine law_arg dL_law_407 dL_law_408 dL_law_410 dL_law_411 dL_law_412 (by decide) hb1 (by omega) ?_
    rw [e5, hp, hq]
    refine r_invV_i dL_law_413 kM12_47 (by decide) (Nat.le_of_ble_eq_true rfl) (as := [vI p, vI q]) (q := []) rfl rfl (Nat.le_of_ble_eq_true rfl) (Nat.le_of_ble_eq_true rfl) (sh_o hS1 kk468 (by decide)) ?_
    refine M_person (by omega) hM1 hok (fun no => absurd hv no) (fun _ M2 f2 m2 t2 => ⟨_, rfl, ?_⟩)
    rw [hz]
    have x2 := x1'.fm f2
    have hS2 := x2.shp
    have hl2 := hl1.fm f2
    have f2' : Fr (fun r => 468 ≤ r ∧ r < 499) N M2 := f2
    have eo2 : lg M2 499 0 = z := by rw [f2'.elg (by omega)]; exact eo
    refine r_istore (ls2 := lsL i (some (vI 0)) (some (vI z))) dL_law_416 (Nat.le_of_ble_eq_true rfl) rfl ?_
    refine r_aload_n dL_law_418 rfl ?_
    refine r_invV_i dL_law_419 kM12_48 (by decide) (Nat.le_of_ble_eq_true rfl) (as := []) (q := []) rfl rfl (Nat.le_of_ble_eq_true rfl) (Nat.le_of_ble_eq_true rfl) (sh_o hS2 kk468 (by decide)) ?_
    refine vn_thrown (by omega) hS2 ⟨_, rfl, ?_⟩
    rw [t2]
    refine r_iload dL_law_422 rfl ?_
    refine r_icmp_eq (tgt := 429) dL_law_424 rfl (fun _ => ?_) (fun q => absurd rfl q)
    refine r_iload dL_law_429 rfl ?_
    refine r_if_ne (tgt := 446) dL_law_431 rfl (fun q => absurd rfl q) (fun _ => ?_)
    refine r_aload_n dL_law_434 rfl ?_
    refine r_iconst dL_law_435 (by decide) ?_
    refine r_laload dL_law_436 (jro_ix (hl2.out hS2) (by decide)) ?_
    rw [show (0 : Int).toNat = 0 from rfl, eo2]
    refine r_iload dL_law_437 rfl ?_
    refine r_i2l dL_law_439 ?_
    refine r_lcmp dL_law_440 ?_
    have ec : jcmp z z = 0 := by unfold jcmp; rw [if_neg (by omega), if_pos rfl]
    rw [ec]
    refine r_if_eq (tgt := 446) dL_law_441 rfl (fun _ => ?_) (fun q => absurd rfl q)
    refine r_goto (tgt := 1513) dL_law_446 rfl ?_
    exact K _ _ W M2 ⟨hok, x2, m2, hl2⟩
  · refine r_persT dL_law_395 ho (X_throw (by omega) hX hv) ?_
    obtain ⟨x1, f1⟩ := hX.exc
    have hS1 := x1.shp
    have hM1 := hM.fx f1
    have hl1 := hl.fx f1
    have hb1 := hl1.row hS1
    have e5 : iv (jexc M) 5 = iv M 5 := (f1.2.1 5 (Or.inl (by decide))).1
    generalize hN : jexc M = N at x1 f1 hS1 hM1 hl1 hb1 e5
    refine r_istore (ls2 := lsL i (some (vI 1)) b) dL_law_398 (Nat.le_of_ble_eq_true rfl) rfl ?_
    refine r_aload_n dL_law_400 rfl ?_
    refine law_arg dL_law_401 dL_law_402 dL_law_404 dL_law_405 dL_law_406 (by decide) hb1 (by omega) ?_
    refine law_arg dL_law_407 dL_law_408 dL_law_410 dL_law_411 dL_law_412 (by decide) hb1 (by omega) ?_
    rw [e5, hp, hq]
    refine r_invV_i dL_law_413 kM12_47 (by decide) (Nat.le_of_ble_eq_true rfl) (as := [vI p, vI q]) (q := []) rfl rfl (Nat.le_of_ble_eq_true rfl) (Nat.le_of_ble_eq_true rfl) (sh_o hS1 kk468 (by decide)) ?_
    refine M_person (by omega) hM1 hok (fun _ M2 f2 m2 t2 => ⟨_, rfl, ?_⟩) (fun y => absurd y hv)
    have x2 := x1.fm f2
    have hS2 := x2.shp
    have hl2 := hl1.fm f2
    refine r_istore (ls2 := lsL i (some (vI 1)) (some (vI 0))) dL_law_416 (Nat.le_of_ble_eq_true rfl) rfl ?_
    refine r_aload_n dL_law_418 rfl ?_
    refine r_invV_i dL_law_419 kM12_48 (by decide) (Nat.le_of_ble_eq_true rfl) (as := []) (q := []) rfl rfl (Nat.le_of_ble_eq_true rfl) (Nat.le_of_ble_eq_true rfl) (sh_o hS2 kk468 (by decide)) ?_
    refine vn_thrown (by omega) hS2 ⟨_, rfl, ?_⟩
    rw [t2]
    refine r_iload dL_law_422 rfl ?_
    refine r_icmp_eq (tgt := 429) dL_law_424 rfl (fun _ => ?_) (fun q => absurd rfl q)
    refine r_iload dL_law_429 rfl ?_
    refine r_if_ne (tgt := 446) dL_law_431 rfl (fun _ => ?_) (fun q => absurd (by decide) q)
    refine r_goto (tgt := 1513) dL_law_446 rfl ?_
    exact K _ _ W M2 ⟨hok, x2, m2, hl2⟩
end LawB
