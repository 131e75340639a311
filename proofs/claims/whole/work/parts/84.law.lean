-- @needs 80_sim 78_lawkit 81_lawk 40_cC 41_cC 42_cC 43_cC 44_cC 45_cC 46_cC 47_cC 48_cC 49_cC 50_cC 51_cC 52_cC 60_cM 61_cM 62_cM 63_cM 64_cM 65_cM 66_cM 67_cM 68_cM 69_cM 70_cM 71_cM 72_cM 73_cM 74_cM 75_cM 76_cM
set_option maxRecDepth 100000
theorem lc_law {Core : Mem → Mem → Prop} {p : Program} {l : Launch} {e : Env} {s : State} {m : MethodId} {below : List Frame} {meth : Method} {c : Code} {b L : Nat} {xs : Nat → Int32} {ad bd : Nat → Nat} {o : Nat} {D : va_G} {k : Nat → ClassId} {Q : State → Prop} (X : LX p l s m meth c b L xs ad bd o D k) {j : Nat} (hj : 6 * j + 6 ≤ L) (hsim : S_law Core) (K : LG Core p l e s m below meth c b ad bd o D k Q j (106 + (j + 1)) (5192 + 6 * (j + 1)) 1451) : LG Core p l e s m below meth c b ad bd o D k Q j (106 + j) (5192 + 6 * j) 250 := by
  obtain ⟨⟨hx, hb, hml, hown, hG, hX, hbl, hL⟩, ⟨hK, hE, hfl⟩, ⟨had, hbd, hA1, hA2, hAo⟩, hdm, hdc, hdo, hdo2⟩ := X
  intro C R f H ls hC hI hN hPc hPm hPo hS hl
  have hj5 : j < 512 := by omega
  have hcs : 106 + j ≤ room_1.cells ∧ 5192 + 6 * j ≤ room_1.slots := ⟨by show 106 + j ≤ 601024; omega, by show 5192 + 6 * j ≤ 7293034; omega⟩
  have hcs1 : 106 + j + 1 ≤ room_1.cells ∧ 5192 + 6 * j + 6 ≤ room_1.slots := ⟨by show 106 + j + 1 ≤ 601024; omega, by show 5192 + 6 * j + 6 ≤ 7293034; omega⟩
  refine lv_aload_n hx hb dL_law_250 rfl (lv_at hl 1 rfl) ?_
  refine l_ld (o := 1) (i0 := 0) (i4 := 4) hx hb hX hbl hS hl rfl rfl (by omega) hL rfl rfl dL_law_251 dL_law_252 dL_law_254 dL_law_255 dL_law_256 ?_
  refine lcall_i [.int (xs (6 * j + 1))] [] hx hb hml hG hown hK (c_X6_law had C (xs (6 * j + 1))) gw_10_0 gm_X6_law gd_X6_law rfl rfl ⟨(Nat.le_of_ble_eq_true rfl), (Nat.le_of_ble_eq_true rfl)⟩ hcs (rX6 hK hPc rfl) hPc hA1 hS rfl hl.1 rfl (Nat.le_of_ble_eq_true rfl) dL_law_257 (fun r1 C1 H1 hF1 hPc hk hS => ?_)
  have hPm := l_kept hPm hk (l_d hdm)
  have hPo := l_kept hPo hk (l_do hdo)
  refine lv_aload_n hx hb dL_law_260 rfl (lv_at hl 2 rfl) ?_
  refine l_ld (o := 1) (i0 := 0) (i4 := 4) hx hb hX hbl hS hl rfl rfl (by omega) hL rfl rfl dL_law_261 dL_law_262 dL_law_264 dL_law_265 dL_law_266 ?_
  refine lcall_i [.int (xs (6 * j + 1))] [.int r1] hx hb hml hG hown hK (c_X7_law hbd R (xs (6 * j + 1)) hI) gw_11_9 gm_X7_law gd_X7_law rfl rfl ⟨(Nat.le_of_ble_eq_true rfl), (Nat.le_of_ble_eq_true rfl)⟩ hcs (rX7 hK hPm) hPm hA2 hS rfl hl.1 rfl (Nat.le_of_ble_eq_true rfl) dL_law_267 (fun r2 R1 H2 hF2 hPm hk hS => ?_)
  obtain ⟨hF2, hT⟩ := hF2
  have hPc := l_kept hPc hk (l_d hdc)
  have hPo := l_kept hPo hk (l_do hdo2)
  have sim := hsim C R (xs (6 * j + 1)) hC hI hN
  rw [hF1, hF2] at sim
  obtain ⟨hr, hC1⟩ := sim
  refine lv_icmp_eq (tgt := 1451) hx hb dL_law_270 (by decide) (fun _ => ?_) (fun hne => absurd hr hne)
  exact W.widen (by omega) (by omega) (K C1 R1 f H2 ls hC1 hT.1 (hT.2 hN) hPc hPm hPo hS hl)
theorem lc_of {Core : Mem → Mem → Prop} {p : Program} {l : Launch} {e : Env} {s : State} {m : MethodId} {below : List Frame} {meth : Method} {c : Code} {b L : Nat} {xs : Nat → Int32} {ad bd : Nat → Nat} {o : Nat} {D : va_G} {k : Nat → ClassId} {Q : State → Prop} (X : LX p l s m meth c b L xs ad bd o D k) {j : Nat} (hj : 6 * j + 6 ≤ L) (hsim : S_of Core) (K : LG Core p l e s m below meth c b ad bd o D k Q j (106 + (j + 1)) (5192 + 6 * (j + 1)) 1451) : LG Core p l e s m below meth c b ad bd o D k Q j (106 + j) (5192 + 6 * j) 377 := by
  obtain ⟨⟨hx, hb, hml, hown, hG, hX, hbl, hL⟩, ⟨hK, hE, hfl⟩, ⟨had, hbd, hA1, hA2, hAo⟩, hdm, hdc, hdo, hdo2⟩ := X
  intro C R f H ls hC hI hN hPc hPm hPo hS hl
  have hj5 : j < 512 := by omega
  have hcs : 106 + j ≤ room_1.cells ∧ 5192 + 6 * j ≤ room_1.slots := ⟨by show 106 + j ≤ 601024; omega, by show 5192 + 6 * j ≤ 7293034; omega⟩
  have hcs1 : 106 + j + 1 ≤ room_1.cells ∧ 5192 + 6 * j + 6 ≤ room_1.slots := ⟨by show 106 + j + 1 ≤ 601024; omega, by show 5192 + 6 * j + 6 ≤ 7293034; omega⟩
  refine lv_aload_n hx hb dL_law_377 rfl (lv_at hl 1 rfl) ?_
  refine l_ld (o := 1) (i0 := 0) (i4 := 4) hx hb hX hbl hS hl rfl rfl (by omega) hL rfl rfl dL_law_378 dL_law_379 dL_law_381 dL_law_382 dL_law_383 ?_
  refine l_ld (o := 2) (i0 := 0) (i4 := 4) hx hb hX hbl hS hl rfl rfl (by omega) hL rfl rfl dL_law_384 dL_law_385 dL_law_387 dL_law_388 dL_law_389 ?_
  refine lcall_i [.int (xs (6 * j + 1)), .int (xs (6 * j + 2))] [] hx hb hml hG hown hK (c_X6_of had C (xs (6 * j + 1)) (xs (6 * j + 2))) gw_15_22 gm_X6_of gd_X6_of rfl rfl ⟨(Nat.le_of_ble_eq_true rfl), (Nat.le_of_ble_eq_true rfl)⟩ hcs (rX6 hK hPc rfl) hPc hA1 hS rfl hl.1 rfl (Nat.le_of_ble_eq_true rfl) dL_law_390 (fun r1 C1 H1 hF1 hPc hk hS => ?_)
  obtain ⟨hF1, hu⟩ := hF1; rw [hu] at hPc
  have hPm := l_kept hPm hk (l_d hdm)
  have hPo := l_kept hPo hk (l_do hdo)
  refine lv_aload_n hx hb dL_law_393 rfl (lv_at hl 2 rfl) ?_
  refine l_ld (o := 1) (i0 := 0) (i4 := 4) hx hb hX hbl hS hl rfl rfl (by omega) hL rfl rfl dL_law_394 dL_law_395 dL_law_397 dL_law_398 dL_law_399 ?_
  refine l_ld (o := 2) (i0 := 0) (i4 := 4) hx hb hX hbl hS hl rfl rfl (by omega) hL rfl rfl dL_law_400 dL_law_401 dL_law_403 dL_law_404 dL_law_405 ?_
  refine lcall_i [.int (xs (6 * j + 1)), .int (xs (6 * j + 2))] [.int r1] hx hb hml hG hown hK (c_X7_of hbd R (xs (6 * j + 1)) (xs (6 * j + 2)) hI) gw_16_12 gm_X7_of gd_X7_of rfl rfl ⟨(Nat.le_of_ble_eq_true rfl), (Nat.le_of_ble_eq_true rfl)⟩ hcs (rX7 hK hPm) hPm hA2 hS rfl hl.1 rfl (Nat.le_of_ble_eq_true rfl) dL_law_406 (fun r2 R1 H2 hF2 hPm hk hS => ?_)
  obtain ⟨hF2, hT⟩ := hF2
  have hPc := l_kept hPc hk (l_d hdc)
  have hPo := l_kept hPo hk (l_do hdo2)
  have sim := hsim C R (xs (6 * j + 1)) (xs (6 * j + 2)) hC hI hN
  rw [hF1, hF2] at sim
  obtain ⟨hr, hC1⟩ := sim
  refine lv_icmp_eq (tgt := 1451) hx hb dL_law_409 (by decide) (fun _ => ?_) (fun hne => absurd hr hne)
  exact W.widen (by omega) (by omega) (K C R1 f H2 ls hC1 hT.1 (hT.2 hN) hPc hPm hPo hS hl)
theorem lc_turn {Core : Mem → Mem → Prop} {p : Program} {l : Launch} {e : Env} {s : State} {m : MethodId} {below : List Frame} {meth : Method} {c : Code} {b L : Nat} {xs : Nat → Int32} {ad bd : Nat → Nat} {o : Nat} {D : va_G} {k : Nat → ClassId} {Q : State → Prop} (X : LX p l s m meth c b L xs ad bd o D k) {j : Nat} (hj : 6 * j + 6 ≤ L) (hsim : S_turn Core) (K : LG Core p l e s m below meth c b ad bd o D k Q j (106 + (j + 1)) (5192 + 6 * (j + 1)) 1451) : LG Core p l e s m below meth c b ad bd o D k Q j (106 + j) (5192 + 6 * j) 464 := by
  obtain ⟨⟨hx, hb, hml, hown, hG, hX, hbl, hL⟩, ⟨hK, hE, hfl⟩, ⟨had, hbd, hA1, hA2, hAo⟩, hdm, hdc, hdo, hdo2⟩ := X
  intro C R f H ls hC hI hN hPc hPm hPo hS hl
  have hj5 : j < 512 := by omega
  have hcs : 106 + j ≤ room_1.cells ∧ 5192 + 6 * j ≤ room_1.slots := ⟨by show 106 + j ≤ 601024; omega, by show 5192 + 6 * j ≤ 7293034; omega⟩
  have hcs1 : 106 + j + 1 ≤ room_1.cells ∧ 5192 + 6 * j + 6 ≤ room_1.slots := ⟨by show 106 + j + 1 ≤ 601024; omega, by show 5192 + 6 * j + 6 ≤ 7293034; omega⟩
  refine lv_aload_n hx hb dL_law_464 rfl (lv_at hl 1 rfl) ?_
  refine l_ld (o := 1) (i0 := 0) (i4 := 4) hx hb hX hbl hS hl rfl rfl (by omega) hL rfl rfl dL_law_465 dL_law_466 dL_law_468 dL_law_469 dL_law_470 ?_
  refine lcall_i [.int (xs (6 * j + 1))] [] hx hb hml hG hown hK (c_X6_turn had C (xs (6 * j + 1))) gw_25_5 gm_X6_turn gd_X6_turn rfl rfl ⟨(Nat.le_of_ble_eq_true rfl), (Nat.le_of_ble_eq_true rfl)⟩ hcs (rX6 hK hPc rfl) hPc hA1 hS rfl hl.1 rfl (Nat.le_of_ble_eq_true rfl) dL_law_471 (fun r1 C1 H1 hF1 hPc hk hS => ?_)
  have hPm := l_kept hPm hk (l_d hdm)
  have hPo := l_kept hPo hk (l_do hdo)
  refine lv_aload_n hx hb dL_law_474 rfl (lv_at hl 2 rfl) ?_
  refine l_ld (o := 1) (i0 := 0) (i4 := 4) hx hb hX hbl hS hl rfl rfl (by omega) hL rfl rfl dL_law_475 dL_law_476 dL_law_478 dL_law_479 dL_law_480 ?_
  refine lcall_i [.int (xs (6 * j + 1))] [.int r1] hx hb hml hG hown hK (c_X7_turn hbd R (xs (6 * j + 1)) hI) gw_25_12 gm_X7_turn gd_X7_turn rfl rfl ⟨(Nat.le_of_ble_eq_true rfl), (Nat.le_of_ble_eq_true rfl)⟩ hcs (rX7 hK hPm) hPm hA2 hS rfl hl.1 rfl (Nat.le_of_ble_eq_true rfl) dL_law_481 (fun r2 R1 H2 hF2 hPm hk hS => ?_)
  obtain ⟨hF2, hT⟩ := hF2
  have hPc := l_kept hPc hk (l_d hdc)
  have hPo := l_kept hPo hk (l_do hdo2)
  have sim := hsim C R (xs (6 * j + 1)) hC hI hN
  rw [hF1, hF2] at sim
  obtain ⟨hr, hC1⟩ := sim
  refine lv_icmp_eq (tgt := 1451) hx hb dL_law_484 (by decide) (fun _ => ?_) (fun hne => absurd hr hne)
  exact W.widen (by omega) (by omega) (K C1 R1 f H2 ls hC1 hT.1 (hT.2 hN) hPc hPm hPo hS hl)
theorem lc_ends {Core : Mem → Mem → Prop} {p : Program} {l : Launch} {e : Env} {s : State} {m : MethodId} {below : List Frame} {meth : Method} {c : Code} {b L : Nat} {xs : Nat → Int32} {ad bd : Nat → Nat} {o : Nat} {D : va_G} {k : Nat → ClassId} {Q : State → Prop} (X : LX p l s m meth c b L xs ad bd o D k) {j : Nat} (hj : 6 * j + 6 ≤ L) (hsim : S_ends Core) (K : LG Core p l e s m below meth c b ad bd o D k Q j (106 + (j + 1)) (5192 + 6 * (j + 1)) 1451) : LG Core p l e s m below meth c b ad bd o D k Q j (106 + j) (5192 + 6 * j) 527 := by
  obtain ⟨⟨hx, hb, hml, hown, hG, hX, hbl, hL⟩, ⟨hK, hE, hfl⟩, ⟨had, hbd, hA1, hA2, hAo⟩, hdm, hdc, hdo, hdo2⟩ := X
  intro C R f H ls hC hI hN hPc hPm hPo hS hl
  have hj5 : j < 512 := by omega
  have hcs : 106 + j ≤ room_1.cells ∧ 5192 + 6 * j ≤ room_1.slots := ⟨by show 106 + j ≤ 601024; omega, by show 5192 + 6 * j ≤ 7293034; omega⟩
  have hcs1 : 106 + j + 1 ≤ room_1.cells ∧ 5192 + 6 * j + 6 ≤ room_1.slots := ⟨by show 106 + j + 1 ≤ 601024; omega, by show 5192 + 6 * j + 6 ≤ 7293034; omega⟩
  refine lv_aload_n hx hb dL_law_527 rfl (lv_at hl 1 rfl) ?_
  refine l_ld (o := 1) (i0 := 0) (i4 := 4) hx hb hX hbl hS hl rfl rfl (by omega) hL rfl rfl dL_law_528 dL_law_529 dL_law_531 dL_law_532 dL_law_533 ?_
  refine lcall_i [.int (xs (6 * j + 1))] [] hx hb hml hG hown hK (c_X6_ends had C (xs (6 * j + 1))) gw_27_18 gm_X6_ends gd_X6_ends rfl rfl ⟨(Nat.le_of_ble_eq_true rfl), (Nat.le_of_ble_eq_true rfl)⟩ hcs (rX6 hK hPc rfl) hPc hA1 hS rfl hl.1 rfl (Nat.le_of_ble_eq_true rfl) dL_law_534 (fun r1 C1 H1 hF1 hPc hk hS => ?_)
  have hPm := l_kept hPm hk (l_d hdm)
  have hPo := l_kept hPo hk (l_do hdo)
  refine lv_aload_n hx hb dL_law_537 rfl (lv_at hl 2 rfl) ?_
  refine l_ld (o := 1) (i0 := 0) (i4 := 4) hx hb hX hbl hS hl rfl rfl (by omega) hL rfl rfl dL_law_538 dL_law_539 dL_law_541 dL_law_542 dL_law_543 ?_
  refine lcall_i [.int (xs (6 * j + 1))] [.int r1] hx hb hml hG hown hK (c_X7_ends hbd R (xs (6 * j + 1)) hI) gw_28_12 gm_X7_ends gd_X7_ends rfl rfl ⟨(Nat.le_of_ble_eq_true rfl), (Nat.le_of_ble_eq_true rfl)⟩ hcs (rX7 hK hPm) hPm hA2 hS rfl hl.1 rfl (Nat.le_of_ble_eq_true rfl) dL_law_544 (fun r2 R1 H2 hF2 hPm hk hS => ?_)
  obtain ⟨hF2, hT⟩ := hF2
  have hPc := l_kept hPc hk (l_d hdc)
  have hPo := l_kept hPo hk (l_do hdo2)
  have sim := hsim C R (xs (6 * j + 1)) hC hI hN
  rw [hF1, hF2] at sim
  obtain ⟨hr, hC1⟩ := sim
  refine lv_icmp_eq (tgt := 1451) hx hb dL_law_547 (by decide) (fun _ => ?_) (fun hne => absurd hr hne)
  exact W.widen (by omega) (by omega) (K C1 R1 f H2 ls hC1 hT.1 (hT.2 hN) hPc hPm hPo hS hl)
theorem lc_sides {Core : Mem → Mem → Prop} {p : Program} {l : Launch} {e : Env} {s : State} {m : MethodId} {below : List Frame} {meth : Method} {c : Code} {b L : Nat} {xs : Nat → Int32} {ad bd : Nat → Nat} {o : Nat} {D : va_G} {k : Nat → ClassId} {Q : State → Prop} (X : LX p l s m meth c b L xs ad bd o D k) {j : Nat} (hj : 6 * j + 6 ≤ L) (hsim : S_sides Core) (K : LG Core p l e s m below meth c b ad bd o D k Q j (106 + (j + 1)) (5192 + 6 * (j + 1)) 1451) : LG Core p l e s m below meth c b ad bd o D k Q j (106 + j) (5192 + 6 * j) 682 := by
  obtain ⟨⟨hx, hb, hml, hown, hG, hX, hbl, hL⟩, ⟨hK, hE, hfl⟩, ⟨had, hbd, hA1, hA2, hAo⟩, hdm, hdc, hdo, hdo2⟩ := X
  intro C R f H ls hC hI hN hPc hPm hPo hS hl
  have hj5 : j < 512 := by omega
  have hcs : 106 + j ≤ room_1.cells ∧ 5192 + 6 * j ≤ room_1.slots := ⟨by show 106 + j ≤ 601024; omega, by show 5192 + 6 * j ≤ 7293034; omega⟩
  have hcs1 : 106 + j + 1 ≤ room_1.cells ∧ 5192 + 6 * j + 6 ≤ room_1.slots := ⟨by show 106 + j + 1 ≤ 601024; omega, by show 5192 + 6 * j + 6 ≤ 7293034; omega⟩
  refine lv_aload_n hx hb dL_law_682 rfl (lv_at hl 1 rfl) ?_
  refine lcall_i [] [] hx hb hml hG hown hK (c_X6_sides had C) gw_31_23 gm_X6_sides gd_X6_sides rfl rfl ⟨(Nat.le_of_ble_eq_true rfl), (Nat.le_of_ble_eq_true rfl)⟩ hcs (rX6 hK hPc rfl) hPc hA1 hS rfl hl.1 rfl (Nat.le_of_ble_eq_true rfl) dL_law_683 (fun r1 C1 H1 hF1 hPc hk hS => ?_)
  have hPm := l_kept hPm hk (l_d hdm)
  have hPo := l_kept hPo hk (l_do hdo)
  refine lv_aload_n hx hb dL_law_686 rfl (lv_at hl 2 rfl) ?_
  refine lcall_i [] [.int r1] hx hb hml hG hown hK (c_X7_sides hbd R hI) gw_32_3 gm_X7_sides gd_X7_sides rfl rfl ⟨(Nat.le_of_ble_eq_true rfl), (Nat.le_of_ble_eq_true rfl)⟩ hcs (rX7 hK hPm) hPm hA2 hS rfl hl.1 rfl (Nat.le_of_ble_eq_true rfl) dL_law_687 (fun r2 R1 H2 hF2 hPm hk hS => ?_)
  obtain ⟨hF2, hT⟩ := hF2
  have hPc := l_kept hPc hk (l_d hdc)
  have hPo := l_kept hPo hk (l_do hdo2)
  have sim := hsim C R hC hI hN
  rw [hF1, hF2] at sim
  obtain ⟨hr, hC1⟩ := sim
  refine lv_icmp_eq (tgt := 1451) hx hb dL_law_690 (by decide) (fun _ => ?_) (fun hne => absurd hr hne)
  exact W.widen (by omega) (by omega) (K C1 R1 f H2 ls hC1 hT.1 (hT.2 hN) hPc hPm hPo hS hl)
theorem lc_answer {Core : Mem → Mem → Prop} {p : Program} {l : Launch} {e : Env} {s : State} {m : MethodId} {below : List Frame} {meth : Method} {c : Code} {b L : Nat} {xs : Nat → Int32} {ad bd : Nat → Nat} {o : Nat} {D : va_G} {k : Nat → ClassId} {Q : State → Prop} (X : LX p l s m meth c b L xs ad bd o D k) {j : Nat} (hj : 6 * j + 6 ≤ L) (hsim : S_answer Core) (K : LG Core p l e s m below meth c b ad bd o D k Q j (106 + (j + 1)) (5192 + 6 * (j + 1)) 1451) : LG Core p l e s m below meth c b ad bd o D k Q j (106 + j) (5192 + 6 * j) 829 := by
  obtain ⟨⟨hx, hb, hml, hown, hG, hX, hbl, hL⟩, ⟨hK, hE, hfl⟩, ⟨had, hbd, hA1, hA2, hAo⟩, hdm, hdc, hdo, hdo2⟩ := X
  intro C R f H ls hC hI hN hPc hPm hPo hS hl
  have hj5 : j < 512 := by omega
  have hcs : 106 + j ≤ room_1.cells ∧ 5192 + 6 * j ≤ room_1.slots := ⟨by show 106 + j ≤ 601024; omega, by show 5192 + 6 * j ≤ 7293034; omega⟩
  have hcs1 : 106 + j + 1 ≤ room_1.cells ∧ 5192 + 6 * j + 6 ≤ room_1.slots := ⟨by show 106 + j + 1 ≤ 601024; omega, by show 5192 + 6 * j + 6 ≤ 7293034; omega⟩
  refine lv_aload_n hx hb dL_law_829 rfl (lv_at hl 1 rfl) ?_
  refine l_ld (o := 1) (i0 := 0) (i4 := 4) hx hb hX hbl hS hl rfl rfl (by omega) hL rfl rfl dL_law_830 dL_law_831 dL_law_833 dL_law_834 dL_law_835 ?_
  refine l_ld (o := 2) (i0 := 0) (i4 := 4) hx hb hX hbl hS hl rfl rfl (by omega) hL rfl rfl dL_law_836 dL_law_837 dL_law_839 dL_law_840 dL_law_841 ?_
  refine l_ld (o := 3) (i0 := 0) (i4 := 4) hx hb hX hbl hS hl rfl rfl (by omega) hL rfl rfl dL_law_842 dL_law_843 dL_law_845 dL_law_846 dL_law_847 ?_
  refine l_ld (o := 4) (i0 := 0) (i4 := 4) hx hb hX hbl hS hl rfl rfl (by omega) hL rfl rfl dL_law_848 dL_law_849 dL_law_851 dL_law_852 dL_law_853 ?_
  refine lcall_i [.int (xs (6 * j + 1)), .int (xs (6 * j + 2)), .int (xs (6 * j + 3)), .int (xs (6 * j + 4))] [] hx hb hml hG hown hK (c_X6_answer had C (xs (6 * j + 1)) (xs (6 * j + 2)) (xs (6 * j + 3)) (xs (6 * j + 4))) gw_34_19 gm_X6_answer gd_X6_answer rfl rfl ⟨(Nat.le_of_ble_eq_true rfl), (Nat.le_of_ble_eq_true rfl)⟩ hcs (rX6 hK hPc rfl) hPc hA1 hS rfl hl.1 rfl (Nat.le_of_ble_eq_true rfl) dL_law_854 (fun r1 C1 H1 hF1 hPc hk hS => ?_)
  have hPm := l_kept hPm hk (l_d hdm)
  have hPo := l_kept hPo hk (l_do hdo)
  refine lv_aload_n hx hb dL_law_857 rfl (lv_at hl 2 rfl) ?_
  refine l_ld (o := 1) (i0 := 0) (i4 := 4) hx hb hX hbl hS hl rfl rfl (by omega) hL rfl rfl dL_law_858 dL_law_859 dL_law_861 dL_law_862 dL_law_863 ?_
  refine l_ld (o := 2) (i0 := 0) (i4 := 4) hx hb hX hbl hS hl rfl rfl (by omega) hL rfl rfl dL_law_864 dL_law_865 dL_law_867 dL_law_868 dL_law_869 ?_
  refine l_ld (o := 3) (i0 := 0) (i4 := 4) hx hb hX hbl hS hl rfl rfl (by omega) hL rfl rfl dL_law_870 dL_law_871 dL_law_873 dL_law_874 dL_law_875 ?_
  refine l_ld (o := 4) (i0 := 0) (i4 := 4) hx hb hX hbl hS hl rfl rfl (by omega) hL rfl rfl dL_law_876 dL_law_877 dL_law_879 dL_law_880 dL_law_881 ?_
  refine lcall_i [.int (xs (6 * j + 1)), .int (xs (6 * j + 2)), .int (xs (6 * j + 3)), .int (xs (6 * j + 4))] [.int r1] hx hb hml hG hown hK (c_X7_answer hbd R (xs (6 * j + 1)) (xs (6 * j + 2)) (xs (6 * j + 3)) (xs (6 * j + 4)) hI) gw_35_2 gm_X7_answer gd_X7_answer rfl rfl ⟨(Nat.le_of_ble_eq_true rfl), (Nat.le_of_ble_eq_true rfl)⟩ hcs (rX7 hK hPm) hPm hA2 hS rfl hl.1 rfl (Nat.le_of_ble_eq_true rfl) dL_law_882 (fun r2 R1 H2 hF2 hPm hk hS => ?_)
  obtain ⟨hF2, hT⟩ := hF2
  have hPc := l_kept hPc hk (l_d hdc)
  have hPo := l_kept hPo hk (l_do hdo2)
  have sim := hsim C R (xs (6 * j + 1)) (xs (6 * j + 2)) (xs (6 * j + 3)) (xs (6 * j + 4)) hC hI hN
  rw [hF1, hF2] at sim
  obtain ⟨hr, hC1⟩ := sim
  refine lv_icmp_eq (tgt := 1451) hx hb dL_law_885 (by decide) (fun _ => ?_) (fun hne => absurd hr hne)
  exact W.widen (by omega) (by omega) (K C1 R1 f H2 ls hC1 hT.1 (hT.2 hN) hPc hPm hPo hS hl)
theorem lc_read {Core : Mem → Mem → Prop} {p : Program} {l : Launch} {e : Env} {s : State} {m : MethodId} {below : List Frame} {meth : Method} {c : Code} {b L : Nat} {xs : Nat → Int32} {ad bd : Nat → Nat} {o : Nat} {D : va_G} {k : Nat → ClassId} {Q : State → Prop} (X : LX p l s m meth c b L xs ad bd o D k) {j : Nat} (hj : 6 * j + 6 ≤ L) (hsim : S_read Core) (K : LG Core p l e s m below meth c b ad bd o D k Q j (106 + (j + 1)) (5192 + 6 * (j + 1)) 1451) : LG Core p l e s m below meth c b ad bd o D k Q j (106 + j) (5192 + 6 * j) 976 := by
  obtain ⟨⟨hx, hb, hml, hown, hG, hX, hbl, hL⟩, ⟨hK, hE, hfl⟩, ⟨had, hbd, hA1, hA2, hAo⟩, hdm, hdc, hdo, hdo2⟩ := X
  intro C R f H ls hC hI hN hPc hPm hPo hS hl
  have hj5 : j < 512 := by omega
  have hcs : 106 + j ≤ room_1.cells ∧ 5192 + 6 * j ≤ room_1.slots := ⟨by show 106 + j ≤ 601024; omega, by show 5192 + 6 * j ≤ 7293034; omega⟩
  have hcs1 : 106 + j + 1 ≤ room_1.cells ∧ 5192 + 6 * j + 6 ≤ room_1.slots := ⟨by show 106 + j + 1 ≤ 601024; omega, by show 5192 + 6 * j + 6 ≤ 7293034; omega⟩
  refine lv_aload_n hx hb dL_law_976 rfl (lv_at hl 1 rfl) ?_
  refine l_ld (o := 1) (i0 := 0) (i4 := 4) hx hb hX hbl hS hl rfl rfl (by omega) hL rfl rfl dL_law_977 dL_law_978 dL_law_980 dL_law_981 dL_law_982 ?_
  refine l_ld (o := 2) (i0 := 0) (i4 := 4) hx hb hX hbl hS hl rfl rfl (by omega) hL rfl rfl dL_law_983 dL_law_984 dL_law_986 dL_law_987 dL_law_988 ?_
  refine lcall_i [.int (xs (6 * j + 1)), .int (xs (6 * j + 2))] [] hx hb hml hG hown hK (c_X6_read had C (xs (6 * j + 1)) (xs (6 * j + 2))) gw_36_9 gm_X6_read gd_X6_read rfl rfl ⟨(Nat.le_of_ble_eq_true rfl), (Nat.le_of_ble_eq_true rfl)⟩ hcs (rX6 hK hPc rfl) hPc hA1 hS rfl hl.1 rfl (Nat.le_of_ble_eq_true rfl) dL_law_989 (fun r1 C1 H1 hF1 hPc hk hS => ?_)
  have hPm := l_kept hPm hk (l_d hdm)
  have hPo := l_kept hPo hk (l_do hdo)
  refine lv_aload_n hx hb dL_law_992 rfl (lv_at hl 2 rfl) ?_
  refine l_ld (o := 1) (i0 := 0) (i4 := 4) hx hb hX hbl hS hl rfl rfl (by omega) hL rfl rfl dL_law_993 dL_law_994 dL_law_996 dL_law_997 dL_law_998 ?_
  refine l_ld (o := 2) (i0 := 0) (i4 := 4) hx hb hX hbl hS hl rfl rfl (by omega) hL rfl rfl dL_law_999 dL_law_1000 dL_law_1002 dL_law_1003 dL_law_1004 ?_
  refine lcall_i [.int (xs (6 * j + 1)), .int (xs (6 * j + 2))] [.int r1] hx hb hml hG hown hK (c_X7_read hbd R (xs (6 * j + 1)) (xs (6 * j + 2)) hI) gw_37_3 gm_X7_read gd_X7_read rfl rfl ⟨(Nat.le_of_ble_eq_true rfl), (Nat.le_of_ble_eq_true rfl)⟩ hcs (rX7 hK hPm) hPm hA2 hS rfl hl.1 rfl (Nat.le_of_ble_eq_true rfl) dL_law_1005 (fun r2 R1 H2 hF2 hPm hk hS => ?_)
  obtain ⟨hF2, hT⟩ := hF2
  have hPc := l_kept hPc hk (l_d hdc)
  have hPo := l_kept hPo hk (l_do hdo2)
  have sim := hsim C R (xs (6 * j + 1)) (xs (6 * j + 2)) hC hI hN
  rw [hF1, hF2] at sim
  obtain ⟨hr, hC1⟩ := sim
  refine lv_icmp_eq (tgt := 1451) hx hb dL_law_1008 (by decide) (fun _ => ?_) (fun hne => absurd hr hne)
  exact W.widen (by omega) (by omega) (K C1 R1 f H2 ls hC1 hT.1 (hT.2 hN) hPc hPm hPo hS hl)
theorem lc_image {Core : Mem → Mem → Prop} {p : Program} {l : Launch} {e : Env} {s : State} {m : MethodId} {below : List Frame} {meth : Method} {c : Code} {b L : Nat} {xs : Nat → Int32} {ad bd : Nat → Nat} {o : Nat} {D : va_G} {k : Nat → ClassId} {Q : State → Prop} (X : LX p l s m meth c b L xs ad bd o D k) {j : Nat} (hj : 6 * j + 6 ≤ L) (hsim : S_image Core) (K : LG Core p l e s m below meth c b ad bd o D k Q j (106 + (j + 1)) (5192 + 6 * (j + 1)) 1451) : LG Core p l e s m below meth c b ad bd o D k Q j (106 + j) (5192 + 6 * j) 1063 := by
  obtain ⟨⟨hx, hb, hml, hown, hG, hX, hbl, hL⟩, ⟨hK, hE, hfl⟩, ⟨had, hbd, hA1, hA2, hAo⟩, hdm, hdc, hdo, hdo2⟩ := X
  intro C R f H ls hC hI hN hPc hPm hPo hS hl
  have hj5 : j < 512 := by omega
  have hcs : 106 + j ≤ room_1.cells ∧ 5192 + 6 * j ≤ room_1.slots := ⟨by show 106 + j ≤ 601024; omega, by show 5192 + 6 * j ≤ 7293034; omega⟩
  have hcs1 : 106 + j + 1 ≤ room_1.cells ∧ 5192 + 6 * j + 6 ≤ room_1.slots := ⟨by show 106 + j + 1 ≤ 601024; omega, by show 5192 + 6 * j + 6 ≤ 7293034; omega⟩
  refine lv_aload_n hx hb dL_law_1063 rfl (lv_at hl 1 rfl) ?_
  refine lcall_i [] [] hx hb hml hG hown hK (c_X6_image had C) gw_39_4 gm_X6_image gd_X6_image rfl rfl ⟨(Nat.le_of_ble_eq_true rfl), (Nat.le_of_ble_eq_true rfl)⟩ hcs (rX6 hK hPc rfl) hPc hA1 hS rfl hl.1 rfl (Nat.le_of_ble_eq_true rfl) dL_law_1064 (fun r1 C1 H1 hF1 hPc hk hS => ?_)
  have hPm := l_kept hPm hk (l_d hdm)
  have hPo := l_kept hPo hk (l_do hdo)
  refine lv_aload_n hx hb dL_law_1067 rfl (lv_at hl 2 rfl) ?_
  refine lcall_i [] [.int r1] hx hb hml hG hown hK (c_X7_image hbd R hI) gw_39_9 gm_X7_image gd_X7_image rfl rfl ⟨(Nat.le_of_ble_eq_true rfl), (Nat.le_of_ble_eq_true rfl)⟩ hcs (rX7 hK hPm) hPm hA2 hS rfl hl.1 rfl (Nat.le_of_ble_eq_true rfl) dL_law_1068 (fun r2 R1 H2 hF2 hPm hk hS => ?_)
  obtain ⟨hF2, hT⟩ := hF2
  have hPc := l_kept hPc hk (l_d hdc)
  have hPo := l_kept hPo hk (l_do hdo2)
  have sim := hsim C R hC hI hN
  rw [hF1, hF2] at sim
  obtain ⟨hr, hC1⟩ := sim
  refine lv_icmp_eq (tgt := 1451) hx hb dL_law_1071 (by decide) (fun _ => ?_) (fun hne => absurd hr hne)
  exact W.widen (by omega) (by omega) (K C1 R1 f H2 ls hC1 hT.1 (hT.2 hN) hPc hPm hPo hS hl)
theorem lc_keep {Core : Mem → Mem → Prop} {p : Program} {l : Launch} {e : Env} {s : State} {m : MethodId} {below : List Frame} {meth : Method} {c : Code} {b L : Nat} {xs : Nat → Int32} {ad bd : Nat → Nat} {o : Nat} {D : va_G} {k : Nat → ClassId} {Q : State → Prop} (X : LX p l s m meth c b L xs ad bd o D k) {j : Nat} (hj : 6 * j + 6 ≤ L) (hsim : S_keep Core) (K : LG Core p l e s m below meth c b ad bd o D k Q j (106 + (j + 1)) (5192 + 6 * (j + 1)) 1451) : LG Core p l e s m below meth c b ad bd o D k Q j (106 + j) (5192 + 6 * j) 1114 := by
  obtain ⟨⟨hx, hb, hml, hown, hG, hX, hbl, hL⟩, ⟨hK, hE, hfl⟩, ⟨had, hbd, hA1, hA2, hAo⟩, hdm, hdc, hdo, hdo2⟩ := X
  intro C R f H ls hC hI hN hPc hPm hPo hS hl
  have hj5 : j < 512 := by omega
  have hcs : 106 + j ≤ room_1.cells ∧ 5192 + 6 * j ≤ room_1.slots := ⟨by show 106 + j ≤ 601024; omega, by show 5192 + 6 * j ≤ 7293034; omega⟩
  have hcs1 : 106 + j + 1 ≤ room_1.cells ∧ 5192 + 6 * j + 6 ≤ room_1.slots := ⟨by show 106 + j + 1 ≤ 601024; omega, by show 5192 + 6 * j + 6 ≤ 7293034; omega⟩
  refine lv_aload_n hx hb dL_law_1114 rfl (lv_at hl 1 rfl) ?_
  refine l_ld (o := 1) (i0 := 0) (i4 := 4) hx hb hX hbl hS hl rfl rfl (by omega) hL rfl rfl dL_law_1115 dL_law_1116 dL_law_1118 dL_law_1119 dL_law_1120 ?_
  refine l_ld (o := 2) (i0 := 0) (i4 := 4) hx hb hX hbl hS hl rfl rfl (by omega) hL rfl rfl dL_law_1121 dL_law_1122 dL_law_1124 dL_law_1125 dL_law_1126 ?_
  refine l_ld (o := 3) (i0 := 0) (i4 := 4) hx hb hX hbl hS hl rfl rfl (by omega) hL rfl rfl dL_law_1127 dL_law_1128 dL_law_1130 dL_law_1131 dL_law_1132 ?_
  refine lcall_i [.int (xs (6 * j + 1)), .int (xs (6 * j + 2)), .int (xs (6 * j + 3))] [] hx hb hml hG hown hK (c_X6_keep had C (xs (6 * j + 1)) (xs (6 * j + 2)) (xs (6 * j + 3))) gw_40_16 gm_X6_keep gd_X6_keep rfl rfl ⟨(Nat.le_of_ble_eq_true rfl), (Nat.le_of_ble_eq_true rfl)⟩ hcs (rX6 hK hPc rfl) hPc hA1 hS rfl hl.1 rfl (Nat.le_of_ble_eq_true rfl) dL_law_1133 (fun r1 C1 H1 hF1 hPc hk hS => ?_)
  have hPm := l_kept hPm hk (l_d hdm)
  have hPo := l_kept hPo hk (l_do hdo)
  refine lv_aload_n hx hb dL_law_1136 rfl (lv_at hl 2 rfl) ?_
  refine l_ld (o := 1) (i0 := 0) (i4 := 4) hx hb hX hbl hS hl rfl rfl (by omega) hL rfl rfl dL_law_1137 dL_law_1138 dL_law_1140 dL_law_1141 dL_law_1142 ?_
  refine l_ld (o := 2) (i0 := 0) (i4 := 4) hx hb hX hbl hS hl rfl rfl (by omega) hL rfl rfl dL_law_1143 dL_law_1144 dL_law_1146 dL_law_1147 dL_law_1148 ?_
  refine l_ld (o := 3) (i0 := 0) (i4 := 4) hx hb hX hbl hS hl rfl rfl (by omega) hL rfl rfl dL_law_1149 dL_law_1150 dL_law_1152 dL_law_1153 dL_law_1154 ?_
  refine lcall_i [.int (xs (6 * j + 1)), .int (xs (6 * j + 2)), .int (xs (6 * j + 3))] [.int r1] hx hb hml hG hown hK (c_X7_keep hbd R (xs (6 * j + 1)) (xs (6 * j + 2)) (xs (6 * j + 3)) hI) gw_41_6 gm_X7_keep gd_X7_keep rfl rfl ⟨(Nat.le_of_ble_eq_true rfl), (Nat.le_of_ble_eq_true rfl)⟩ hcs (rX7 hK hPm) hPm hA2 hS rfl hl.1 rfl (Nat.le_of_ble_eq_true rfl) dL_law_1155 (fun r2 R1 H2 hF2 hPm hk hS => ?_)
  obtain ⟨hF2, hT⟩ := hF2
  have hPc := l_kept hPc hk (l_d hdc)
  have hPo := l_kept hPo hk (l_do hdo2)
  have sim := hsim C R (xs (6 * j + 1)) (xs (6 * j + 2)) (xs (6 * j + 3)) hC hI hN
  rw [hF1, hF2] at sim
  obtain ⟨hr, hC1⟩ := sim
  refine lv_icmp_eq (tgt := 1451) hx hb dL_law_1158 (by decide) (fun _ => ?_) (fun hne => absurd hr hne)
  exact W.widen (by omega) (by omega) (K C1 R1 f H2 ls hC1 hT.1 (hT.2 hN) hPc hPm hPo hS hl)
theorem lc_element {Core : Mem → Mem → Prop} {p : Program} {l : Launch} {e : Env} {s : State} {m : MethodId} {below : List Frame} {meth : Method} {c : Code} {b L : Nat} {xs : Nat → Int32} {ad bd : Nat → Nat} {o : Nat} {D : va_G} {k : Nat → ClassId} {Q : State → Prop} (X : LX p l s m meth c b L xs ad bd o D k) {j : Nat} (hj : 6 * j + 6 ≤ L) (hsim : S_element Core) (K : LG Core p l e s m below meth c b ad bd o D k Q j (106 + (j + 1)) (5192 + 6 * (j + 1)) 1451) : LG Core p l e s m below meth c b ad bd o D k Q j (106 + j) (5192 + 6 * j) 1261 := by
  obtain ⟨⟨hx, hb, hml, hown, hG, hX, hbl, hL⟩, ⟨hK, hE, hfl⟩, ⟨had, hbd, hA1, hA2, hAo⟩, hdm, hdc, hdo, hdo2⟩ := X
  intro C R f H ls hC hI hN hPc hPm hPo hS hl
  have hj5 : j < 512 := by omega
  have hcs : 106 + j ≤ room_1.cells ∧ 5192 + 6 * j ≤ room_1.slots := ⟨by show 106 + j ≤ 601024; omega, by show 5192 + 6 * j ≤ 7293034; omega⟩
  have hcs1 : 106 + j + 1 ≤ room_1.cells ∧ 5192 + 6 * j + 6 ≤ room_1.slots := ⟨by show 106 + j + 1 ≤ 601024; omega, by show 5192 + 6 * j + 6 ≤ 7293034; omega⟩
  refine lv_aload_n hx hb dL_law_1261 rfl (lv_at hl 1 rfl) ?_
  refine l_ld (o := 1) (i0 := 0) (i4 := 4) hx hb hX hbl hS hl rfl rfl (by omega) hL rfl rfl dL_law_1262 dL_law_1263 dL_law_1265 dL_law_1266 dL_law_1267 ?_
  refine l_ld (o := 2) (i0 := 0) (i4 := 4) hx hb hX hbl hS hl rfl rfl (by omega) hL rfl rfl dL_law_1268 dL_law_1269 dL_law_1271 dL_law_1272 dL_law_1273 ?_
  refine lv_aload_n hx hb dL_law_1274 rfl (lv_at hl 3 rfl) ?_
  refine va_calli (A1 := AO ad o) (vx_runSW (As := [.ref (ad 0), .int (xs (6 * j + 1)), .int (xs (6 * j + 2)), .ref o]) (rest := []) ⟨hx, hb, hml, hown, hG⟩ (c_L_element hfl had C (xs (6 * j + 1)) (xs (6 * j + 2)) hdo f) (vx_cwSW 4 hG (good_SW gw_42_16 ⟨gw_42_17, gw_42_18, gw_42_19⟩) rfl rfl rfl (by decide +kernel) ⟨Nat.le_of_ble_eq_true rfl, Nat.le_of_ble_eq_true rfl⟩) ⟨fun a U g mk q => ?_, fun U hU hW => ⟨rfl, ⟨⟨by rw [hU]; exact hPc, va_K.moved hW.alike hK⟩, by rw [hU]; exact ((hE.kept hS.2.1).narrow hA1).warm hW⟩, by rw [hU]; exact hPo⟩⟩ rfl rfl hl.1 rfl (lv_room (m := m) (pc := 1275) (ls := ls) (rest := []) (Nat.le_of_ble_eq_true rfl)) dL_law_1275 hcs1) hS (fun q _ h => h.elim (hA1 q) (fun h => h ▸ hAo)) (fun q h => h.elim (hA1 q) (fun h => h ▸ hAo)) (fun k1 g1 t H1 locs1 ht ha hp hB hz1 hk1 hS1 => ?_)
  · obtain ⟨q0, ⟨⟨qP, qK⟩, qE⟩, qO⟩ := q
    exact ⟨q0, ⟨⟨qP, va_K.moved (u := U) (U := U.calling g mk a) (Vm.Alike.refl U.vm) qK⟩, qE.calling⟩, qO⟩
  obtain ⟨hk0, hk9⟩ := hp
  obtain ⟨⟨hPc, -⟩, hPo⟩ := hB
  rw [ht] at hPc hPo
  have hPm : va_P D vwCl (wld 31 bd (cM bd k R)) H1 := hPm.kept fun i q hi => hk1 q.1 (vx_lt hPm hi) (fun h => h.elim (l_d hdm i q hi) (fun h2 => by
    obtain ⟨h3, rfl⟩ := wld_inv hi
    exact hdo2 ⟨i, h3, h2.symm⟩))
  refine va_forget (fun q hq => hS1.2.2 q hq) ?_
  have hS : va_S (Ah s) s.heap H1 [] := ⟨hS1.1, hS1.2.1, fun _ h => absurd h List.not_mem_nil⟩
  refine lv_istore (lv' := [(5, .int k1), (0, .ref b), (1, .ref (ad 0)), (2, .ref (bd 0)), (3, .ref o), (4, .int (nI (6 * j)))]) hx hb dL_law_1278 hl (by decide) rfl (fun ls hl => ?_)
  refine lv_aload_n hx hb dL_law_1280 rfl (lv_at hl 3 rfl) ?_
  refine l_ld (o := 1) (i0 := 1) (i4 := 5) hx hb hX hbl hS hl rfl rfl (by omega) hL rfl rfl dL_law_1281 dL_law_1282 dL_law_1284 dL_law_1285 dL_law_1286 ?_
  refine l_ld (o := 2) (i0 := 1) (i4 := 5) hx hb hX hbl hS hl rfl rfl (by omega) hL rfl rfl dL_law_1287 dL_law_1288 dL_law_1290 dL_law_1291 dL_law_1292 ?_
  refine lcall_l [.int (xs (6 * j + 1)), .int (xs (6 * j + 2))] [] hx hb hml hG hown hK (c_X7_element hbd R (xs (6 * j + 1)) (xs (6 * j + 2)) hI) gw_43_6 gm_X7_element gd_X7_element rfl rfl ⟨(Nat.le_of_ble_eq_true rfl), (Nat.le_of_ble_eq_true rfl)⟩ hcs1 (rX7 hK hPm) hPm hA2 hS rfl hl.1 rfl (Nat.le_of_ble_eq_true rfl) dL_law_1293 (fun r2 R1 H2 hF2 hPm hk hS => ?_)
  obtain ⟨hF2, hT⟩ := hF2
  have hPc := l_kept hPc hk (l_d hdc)
  have hPo := l_kept hPo hk (l_do hdo2)
  have sim := hsim C R (xs (6 * j + 1)) (xs (6 * j + 2)) hC hI hN
  rw [hF2] at sim
  obtain ⟨hth, hv, hC1⟩ := sim
  refine lv_lstore (lv' := [(6, .long r2), (5, .int k1), (0, .ref b), (1, .ref (ad 0)), (2, .ref (bd 0)), (3, .ref o), (4, .int (nI (6 * j)))]) hx hb dL_law_1296 hl (by decide) rfl (fun ls hl => ?_)
  refine lv_aload_n hx hb dL_law_1298 rfl (lv_at hl 4 rfl) ?_
  refine lcall_i [] [] hx hb hml hG hown hK (c_X7_thrown hbd R1 hT.1) gw_43_10 gm_X7_thrown gd_X7_thrown rfl rfl ⟨(Nat.le_of_ble_eq_true rfl), (Nat.le_of_ble_eq_true rfl)⟩ hcs1 (rX7 hK hPm) hPm hA2 hS rfl hl.1 rfl (Nat.le_of_ble_eq_true rfl) dL_law_1299 (fun r3 R2 H3 hF3 hPm hk hS => ?_)
  obtain ⟨hF3, hu⟩ := hF3; rw [hu] at hPm
  have hPc := l_kept hPc hk (l_d hdc)
  have hPo := l_kept hPo hk (l_do hdo2)
  refine lv_iload hx hb dL_law_1302 (lv_at hl 1 rfl) ?_
  refine lv_icmp_eq (tgt := 1309) hx hb dL_law_1304 (by decide) (fun _ => ?_) (fun hne => absurd (hF3.symm.trans (hth.trans hk0.symm)) hne)
  have fin : W p l e room_1 s m #[Value.ref b] below meth c H3 [] (106 + j + 1) (5192 + 6 * j + 6) Q (F0 m 1325 ls []) := by
    refine lv_goto (tgt := 1451) hx hb dL_law_1325 (by decide) ?_
    exact K C R1 g1 H3 ls hC1 hT.1 (hT.2 hN) hPc hPm hPo hS (lv_sub hl [2, 3, 4, 5, 6] rfl)
  refine lv_iload hx hb dL_law_1309 (lv_at hl 1 rfl) ?_
  refine lv_if_ne (tgt := 1325) hx hb dL_law_1311 (by decide) (fun _ => fin) (fun hz0 => ?_)
  have hz0 : k1 = 0 := hz0
  refine lv_aload_n hx hb dL_law_1314 rfl (lv_at hl 5 rfl) ?_
  refine lv_iconst (v := 0) hx hb dL_law_1315 (by decide) ?_
  refine va_lald (n := 1) (f := g1) hx hb hK hPo 0 3 rfl rfl (vin_I (by decide) (by decide)) dL_law_1316 ?_
  have hg : g1 (0 : Int32).toNatClampNeg = r2 := (hk9 hz0).trans (hv (hk0.symm.trans hz0))
  refine lv_lload hx hb dL_law_1317 (lv_at hl 0 rfl) ?_
  refine W.lcmp hx hb dL_law_1319 ?_
  rw [hg, show lg_cmp r2 r2 = 0 by simp [lg_cmp]]
  exact lv_if_eq (tgt := 1325) hx hb dL_law_1320 (by decide) (fun _ => fin) (fun hc => absurd rfl hc)
theorem lc_toss {Core : Mem → Mem → Prop} {p : Program} {l : Launch} {e : Env} {s : State} {m : MethodId} {below : List Frame} {meth : Method} {c : Code} {b L : Nat} {xs : Nat → Int32} {ad bd : Nat → Nat} {o : Nat} {D : va_G} {k : Nat → ClassId} {Q : State → Prop} (X : LX p l s m meth c b L xs ad bd o D k) {j : Nat} (hj : 6 * j + 6 ≤ L) (hsim : S_toss Core) (K : LG Core p l e s m below meth c b ad bd o D k Q j (106 + (j + 1)) (5192 + 6 * (j + 1)) 1451) : LG Core p l e s m below meth c b ad bd o D k Q j (106 + j) (5192 + 6 * j) 1426 := by
  obtain ⟨⟨hx, hb, hml, hown, hG, hX, hbl, hL⟩, ⟨hK, hE, hfl⟩, ⟨had, hbd, hA1, hA2, hAo⟩, hdm, hdc, hdo, hdo2⟩ := X
  intro C R f H ls hC hI hN hPc hPm hPo hS hl
  have hj5 : j < 512 := by omega
  have hcs : 106 + j ≤ room_1.cells ∧ 5192 + 6 * j ≤ room_1.slots := ⟨by show 106 + j ≤ 601024; omega, by show 5192 + 6 * j ≤ 7293034; omega⟩
  have hcs1 : 106 + j + 1 ≤ room_1.cells ∧ 5192 + 6 * j + 6 ≤ room_1.slots := ⟨by show 106 + j + 1 ≤ 601024; omega, by show 5192 + 6 * j + 6 ≤ 7293034; omega⟩
  refine lv_aload_n hx hb dL_law_1426 rfl (lv_at hl 1 rfl) ?_
  refine l_ld (o := 1) (i0 := 0) (i4 := 4) hx hb hX hbl hS hl rfl rfl (by omega) hL rfl rfl dL_law_1427 dL_law_1428 dL_law_1430 dL_law_1431 dL_law_1432 ?_
  refine va_calli (A1 := AW 74 ad) (vx_runVW (As := [.int (xs (6 * j + 1))]) (rest := []) ⟨hx, hb, hml, hown, hG⟩ (c_X6_toss hfl had C (xs (6 * j + 1))) (vx_cwVW 1 hG (good_VW gw_45_5 ⟨gw_45_6, gw_45_7, gw_1_2, gw_45_8⟩) rfl rfl rfl (by decide +kernel) ⟨Nat.le_of_ble_eq_true rfl, Nat.le_of_ble_eq_true rfl⟩) ⟨GE_blind _, rX6 hK hPc rfl, fun U hU hW => ⟨rfl, ⟨by rw [hU]; exact hPc, va_K.moved hW.alike hK⟩, by rw [hU]; exact ((hE.kept hS.2.1).narrow hA1).warm hW⟩⟩ rfl rfl hl.1 rfl (lv_room (m := m) (pc := 1433) (ls := ls) (rest := []) (Nat.le_of_ble_eq_true rfl)) dL_law_1433 hcs1) hS (fun q _ h => hA1 q h) hA1 (fun r1 C1 t H1 locs1 ht ha hF1 hB hz1 hk hS1 => ?_)
  obtain ⟨hPc, -⟩ := hB
  rw [ht] at hPc
  refine va_forget (fun q hq => hS1.2.2 q hq) ?_
  have hS : va_S (Ah s) s.heap H1 [] := ⟨hS1.1, hS1.2.1, fun _ h => absurd h List.not_mem_nil⟩
  obtain ⟨hF1, hu⟩ := hF1; rw [hu] at hPc
  have hPm := l_kept hPm hk (l_d hdm)
  have hPo := l_kept hPo hk (l_do hdo)
  refine lv_aload_n hx hb dL_law_1436 rfl (lv_at hl 2 rfl) ?_
  refine l_ld (o := 1) (i0 := 0) (i4 := 4) hx hb hX hbl hS hl rfl rfl (by omega) hL rfl rfl dL_law_1437 dL_law_1438 dL_law_1440 dL_law_1441 dL_law_1442 ?_
  refine lcall_i [.int (xs (6 * j + 1))] [.int r1] hx hb hml hG hown hK (c_X7_toss hbd R (xs (6 * j + 1)) hI) gw_45_23 gm_X7_toss gd_X7_toss rfl rfl ⟨(Nat.le_of_ble_eq_true rfl), (Nat.le_of_ble_eq_true rfl)⟩ hcs1 (rX7 hK hPm) hPm hA2 hS rfl hl.1 rfl (Nat.le_of_ble_eq_true rfl) dL_law_1443 (fun r2 R1 H2 hF2 hPm hk hS => ?_)
  obtain ⟨hF2, hT⟩ := hF2
  have hPc := l_kept hPc hk (l_d hdc)
  have hPo := l_kept hPo hk (l_do hdo2)
  have sim := hsim C R (xs (6 * j + 1)) hC hI hN
  rw [hF1, hF2] at sim
  obtain ⟨hr, hC1⟩ := sim
  refine lv_icmp_eq (tgt := 1451) hx hb dL_law_1446 (by decide) (fun _ => ?_) (fun hne => absurd hr hne)
  exact K C R1 f H2 ls hC1 hT.1 (hT.2 hN) hPc hPm hPo hS hl
