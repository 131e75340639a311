-- @needs 80_sim 78_lawkit 81_lawk 40_cC 41_cC 42_cC 43_cC 44_cC 45_cC 46_cC 47_cC 48_cC 49_cC 50_cC 51_cC 52_cC 60_cM 61_cM 62_cM 63_cM 64_cM 65_cM 66_cM 67_cM 68_cM 69_cM 70_cM 71_cM 72_cM 73_cM 74_cM 75_cM 76_cM
set_option maxRecDepth 100000
theorem lc_fault {Core : Mem → Mem → Prop} {p : Program} {l : Launch} {e : Env} {s : State} {m : MethodId} {below : List Frame} {meth : Method} {c : Code} {b L : Nat} {xs : Nat → Int32} {ad bd : Nat → Nat} {o : Nat} {D : va_G} {k : Nat → ClassId} {Q : State → Prop} (X : LX p l s m meth c b L xs ad bd o D k) {j : Nat} (hj : 6 * j + 6 ≤ L) (hsim : S_fault Core) (K : LG Core p l e s m below meth c b ad bd o D k Q j (106 + (j + 1)) (5192 + 6 * (j + 1)) 1451) : LG Core p l e s m below meth c b ad bd o D k Q j (106 + j) (5192 + 6 * j) 225 := by
  obtain ⟨⟨hx, hb, hml, hown, hG, hX, hbl, hL⟩, ⟨hK, hE, hfl⟩, ⟨had, hbd, hA1, hA2, hAo⟩, hdm, hdc, hdo, hdo2⟩ := X
  intro C R f H ls hC hI hN hPc hPm hPo hS hl
  have hj5 : j < 512 := by omega
  have hcs : 106 + j ≤ room_1.cells ∧ 5192 + 6 * j ≤ room_1.slots := ⟨by show 106 + j ≤ 601024; omega, by show 5192 + 6 * j ≤ 7293034; omega⟩
  have hcs1 : 106 + j + 1 ≤ room_1.cells ∧ 5192 + 6 * j + 6 ≤ room_1.slots := ⟨by show 106 + j + 1 ≤ 601024; omega, by show 5192 + 6 * j + 6 ≤ 7293034; omega⟩
  refine lv_aload_n hx hb dL_law_225 rfl (lv_at hl 1 rfl) ?_
  refine l_ld (o := 1) (i0 := 0) (i4 := 4) hx hb hX hbl hS hl rfl rfl (by omega) hL rfl rfl dL_law_226 dL_law_227 dL_law_229 dL_law_230 dL_law_231 ?_
  refine lcall_i [.int (xs (6 * j + 1))] [] hx hb hml hG hown hK (c_X6_fault had C (xs (6 * j + 1))) gw_7_16 gm_X6_fault gd_X6_fault rfl rfl ⟨(Nat.le_of_ble_eq_true rfl), (Nat.le_of_ble_eq_true rfl)⟩ hcs (rX6 hK hPc rfl) hPc hA1 hS rfl hl.1 rfl (Nat.le_of_ble_eq_true rfl) dL_law_232 (fun r1 C1 H1 hF1 hPc hk hS => ?_)
  obtain ⟨hF1, hu⟩ := hF1; rw [hu] at hPc
  have hPm := l_kept hPm hk (l_d hdm)
  have hPo := l_kept hPo hk (l_do hdo)
  refine lv_aload_n hx hb dL_law_235 rfl (lv_at hl 2 rfl) ?_
  refine l_ld (o := 1) (i0 := 0) (i4 := 4) hx hb hX hbl hS hl rfl rfl (by omega) hL rfl rfl dL_law_236 dL_law_237 dL_law_239 dL_law_240 dL_law_241 ?_
  refine lcall_i [.int (xs (6 * j + 1))] [.int r1] hx hb hml hG hown hK (c_X7_fault hbd R (xs (6 * j + 1)) hI) gw_8_23 gm_X7_fault gd_X7_fault rfl rfl ⟨(Nat.le_of_ble_eq_true rfl), (Nat.le_of_ble_eq_true rfl)⟩ hcs (rX7 hK hPm) hPm hA2 hS rfl hl.1 rfl (Nat.le_of_ble_eq_true rfl) dL_law_242 (fun r2 R1 H2 hF2 hPm hk hS => ?_)
  obtain ⟨hF2, hT⟩ := hF2
  have hPc := l_kept hPc hk (l_d hdc)
  have hPo := l_kept hPo hk (l_do hdo2)
  have sim := hsim C R (xs (6 * j + 1)) hC hI hN
  rw [hF1, hF2] at sim
  obtain ⟨hr, hC1⟩ := sim
  refine lv_icmp_eq (tgt := 1451) hx hb dL_law_245 (by decide) (fun _ => ?_) (fun hne => absurd hr hne)
  exact W.widen (by omega) (by omega) (K C R1 f H2 ls hC1 hT.1 (hT.2 hN) hPc hPm hPo hS hl)
theorem lc_boat {Core : Mem → Mem → Prop} {p : Program} {l : Launch} {e : Env} {s : State} {m : MethodId} {below : List Frame} {meth : Method} {c : Code} {b L : Nat} {xs : Nat → Int32} {ad bd : Nat → Nat} {o : Nat} {D : va_G} {k : Nat → ClassId} {Q : State → Prop} (X : LX p l s m meth c b L xs ad bd o D k) {j : Nat} (hj : 6 * j + 6 ≤ L) (hsim : S_boat Core) (K : LG Core p l e s m below meth c b ad bd o D k Q j (106 + (j + 1)) (5192 + 6 * (j + 1)) 1451) : LG Core p l e s m below meth c b ad bd o D k Q j (106 + j) (5192 + 6 * j) 300 := by
  obtain ⟨⟨hx, hb, hml, hown, hG, hX, hbl, hL⟩, ⟨hK, hE, hfl⟩, ⟨had, hbd, hA1, hA2, hAo⟩, hdm, hdc, hdo, hdo2⟩ := X
  intro C R f H ls hC hI hN hPc hPm hPo hS hl
  have hj5 : j < 512 := by omega
  have hcs : 106 + j ≤ room_1.cells ∧ 5192 + 6 * j ≤ room_1.slots := ⟨by show 106 + j ≤ 601024; omega, by show 5192 + 6 * j ≤ 7293034; omega⟩
  have hcs1 : 106 + j + 1 ≤ room_1.cells ∧ 5192 + 6 * j + 6 ≤ room_1.slots := ⟨by show 106 + j + 1 ≤ 601024; omega, by show 5192 + 6 * j + 6 ≤ 7293034; omega⟩
  by_cases hz : xs (6 * j + 3) = 0
  · refine lv_aload_n hx hb dL_law_300 rfl (lv_at hl 1 rfl) ?_
    refine l_ld (o := 1) (i0 := 0) (i4 := 4) hx hb hX hbl hS hl rfl rfl (by omega) hL rfl rfl dL_law_301 dL_law_302 dL_law_304 dL_law_305 dL_law_306 ?_
    refine l_ld (o := 2) (i0 := 0) (i4 := 4) hx hb hX hbl hS hl rfl rfl (by omega) hL rfl rfl dL_law_307 dL_law_308 dL_law_310 dL_law_311 dL_law_312 ?_
    refine l_ld (o := 3) (i0 := 0) (i4 := 4) hx hb hX hbl hS hl rfl rfl (by omega) hL rfl rfl dL_law_313 dL_law_314 dL_law_316 dL_law_317 dL_law_318 ?_
    refine lv_if_eq (tgt := 326) hx hb dL_law_319 (by decide) (fun _ => ?_) (fun hc => absurd hz hc)
    refine lv_iconst (v := 0) hx hb dL_law_326 (by decide) ?_
    refine l_ld (o := 4) (i0 := 0) (i4 := 4) hx hb hX hbl hS hl rfl rfl (by omega) hL rfl rfl dL_law_327 dL_law_328 dL_law_330 dL_law_331 dL_law_332 ?_
    refine lcall_i [.int (xs (6 * j + 1)), .int (xs (6 * j + 2)), .int (0 : Int32), .int (xs (6 * j + 4))] [] hx hb hml hG hown hK (c_X6_boat had C (xs (6 * j + 1)) (xs (6 * j + 2)) (0 : Int32) (by decide) (xs (6 * j + 4))) gw_13_14 gm_X6_boat gd_X6_boat rfl rfl ⟨(Nat.le_of_ble_eq_true rfl), (Nat.le_of_ble_eq_true rfl)⟩ hcs (rX6 hK hPc rfl) hPc hA1 hS rfl hl.1 rfl (Nat.le_of_ble_eq_true rfl) dL_law_333 (fun r1 C1 H1 hF1 hPc hk hS => ?_)
    have hPm := l_kept hPm hk (l_d hdm)
    have hPo := l_kept hPo hk (l_do hdo)
    refine lv_aload_n hx hb dL_law_336 rfl (lv_at hl 2 rfl) ?_
    refine l_ld (o := 1) (i0 := 0) (i4 := 4) hx hb hX hbl hS hl rfl rfl (by omega) hL rfl rfl dL_law_337 dL_law_338 dL_law_340 dL_law_341 dL_law_342 ?_
    refine l_ld (o := 2) (i0 := 0) (i4 := 4) hx hb hX hbl hS hl rfl rfl (by omega) hL rfl rfl dL_law_343 dL_law_344 dL_law_346 dL_law_347 dL_law_348 ?_
    refine l_ld (o := 3) (i0 := 0) (i4 := 4) hx hb hX hbl hS hl rfl rfl (by omega) hL rfl rfl dL_law_349 dL_law_350 dL_law_352 dL_law_353 dL_law_354 ?_
    refine lv_if_eq (tgt := 362) hx hb dL_law_355 (by decide) (fun _ => ?_) (fun hc => absurd hz hc)
    refine lv_iconst (v := 0) hx hb dL_law_362 (by decide) ?_
    refine l_ld (o := 4) (i0 := 0) (i4 := 4) hx hb hX hbl hS hl rfl rfl (by omega) hL rfl rfl dL_law_363 dL_law_364 dL_law_366 dL_law_367 dL_law_368 ?_
    refine lcall_i [.int (xs (6 * j + 1)), .int (xs (6 * j + 2)), .int (0 : Int32), .int (xs (6 * j + 4))] [.int r1] hx hb hml hG hown hK (c_X7_boat hbd R (xs (6 * j + 1)) (xs (6 * j + 2)) (0 : Int32) (by decide) (xs (6 * j + 4)) hI) gw_15_7 gm_X7_boat gd_X7_boat rfl rfl ⟨(Nat.le_of_ble_eq_true rfl), (Nat.le_of_ble_eq_true rfl)⟩ hcs (rX7 hK hPm) hPm hA2 hS rfl hl.1 rfl (Nat.le_of_ble_eq_true rfl) dL_law_369 (fun r2 R1 H2 hF2 hPm hk hS => ?_)
    obtain ⟨hF2, hT⟩ := hF2
    have hPc := l_kept hPc hk (l_d hdc)
    have hPo := l_kept hPo hk (l_do hdo2)
    have sim := hsim C R (xs (6 * j + 1)) (xs (6 * j + 2)) (0 : Int32) (xs (6 * j + 4)) hC hI hN (by decide)
    rw [hF1, hF2] at sim
    obtain ⟨hr, hC1⟩ := sim
    refine lv_icmp_eq (tgt := 1451) hx hb dL_law_372 (by decide) (fun _ => ?_) (fun hne => absurd hr hne)
    exact W.widen (by omega) (by omega) (K C1 R1 f H2 ls hC1 hT.1 (hT.2 hN) hPc hPm hPo hS hl)
  · refine lv_aload_n hx hb dL_law_300 rfl (lv_at hl 1 rfl) ?_
    refine l_ld (o := 1) (i0 := 0) (i4 := 4) hx hb hX hbl hS hl rfl rfl (by omega) hL rfl rfl dL_law_301 dL_law_302 dL_law_304 dL_law_305 dL_law_306 ?_
    refine l_ld (o := 2) (i0 := 0) (i4 := 4) hx hb hX hbl hS hl rfl rfl (by omega) hL rfl rfl dL_law_307 dL_law_308 dL_law_310 dL_law_311 dL_law_312 ?_
    refine l_ld (o := 3) (i0 := 0) (i4 := 4) hx hb hX hbl hS hl rfl rfl (by omega) hL rfl rfl dL_law_313 dL_law_314 dL_law_316 dL_law_317 dL_law_318 ?_
    refine lv_if_eq (tgt := 326) hx hb dL_law_319 (by decide) (fun hc => absurd hc hz) (fun _ => ?_)
    refine lv_iconst (v := 1) hx hb dL_law_322 (by decide) ?_
    refine lv_goto (tgt := 327) hx hb dL_law_323 (by decide) ?_
    refine l_ld (o := 4) (i0 := 0) (i4 := 4) hx hb hX hbl hS hl rfl rfl (by omega) hL rfl rfl dL_law_327 dL_law_328 dL_law_330 dL_law_331 dL_law_332 ?_
    refine lcall_i [.int (xs (6 * j + 1)), .int (xs (6 * j + 2)), .int (1 : Int32), .int (xs (6 * j + 4))] [] hx hb hml hG hown hK (c_X6_boat had C (xs (6 * j + 1)) (xs (6 * j + 2)) (1 : Int32) (by decide) (xs (6 * j + 4))) gw_13_14 gm_X6_boat gd_X6_boat rfl rfl ⟨(Nat.le_of_ble_eq_true rfl), (Nat.le_of_ble_eq_true rfl)⟩ hcs (rX6 hK hPc rfl) hPc hA1 hS rfl hl.1 rfl (Nat.le_of_ble_eq_true rfl) dL_law_333 (fun r1 C1 H1 hF1 hPc hk hS => ?_)
    have hPm := l_kept hPm hk (l_d hdm)
    have hPo := l_kept hPo hk (l_do hdo)
    refine lv_aload_n hx hb dL_law_336 rfl (lv_at hl 2 rfl) ?_
    refine l_ld (o := 1) (i0 := 0) (i4 := 4) hx hb hX hbl hS hl rfl rfl (by omega) hL rfl rfl dL_law_337 dL_law_338 dL_law_340 dL_law_341 dL_law_342 ?_
    refine l_ld (o := 2) (i0 := 0) (i4 := 4) hx hb hX hbl hS hl rfl rfl (by omega) hL rfl rfl dL_law_343 dL_law_344 dL_law_346 dL_law_347 dL_law_348 ?_
    refine l_ld (o := 3) (i0 := 0) (i4 := 4) hx hb hX hbl hS hl rfl rfl (by omega) hL rfl rfl dL_law_349 dL_law_350 dL_law_352 dL_law_353 dL_law_354 ?_
    refine lv_if_eq (tgt := 362) hx hb dL_law_355 (by decide) (fun hc => absurd hc hz) (fun _ => ?_)
    refine lv_iconst (v := 1) hx hb dL_law_358 (by decide) ?_
    refine lv_goto (tgt := 363) hx hb dL_law_359 (by decide) ?_
    refine l_ld (o := 4) (i0 := 0) (i4 := 4) hx hb hX hbl hS hl rfl rfl (by omega) hL rfl rfl dL_law_363 dL_law_364 dL_law_366 dL_law_367 dL_law_368 ?_
    refine lcall_i [.int (xs (6 * j + 1)), .int (xs (6 * j + 2)), .int (1 : Int32), .int (xs (6 * j + 4))] [.int r1] hx hb hml hG hown hK (c_X7_boat hbd R (xs (6 * j + 1)) (xs (6 * j + 2)) (1 : Int32) (by decide) (xs (6 * j + 4)) hI) gw_15_7 gm_X7_boat gd_X7_boat rfl rfl ⟨(Nat.le_of_ble_eq_true rfl), (Nat.le_of_ble_eq_true rfl)⟩ hcs (rX7 hK hPm) hPm hA2 hS rfl hl.1 rfl (Nat.le_of_ble_eq_true rfl) dL_law_369 (fun r2 R1 H2 hF2 hPm hk hS => ?_)
    obtain ⟨hF2, hT⟩ := hF2
    have hPc := l_kept hPc hk (l_d hdc)
    have hPo := l_kept hPo hk (l_do hdo2)
    have sim := hsim C R (xs (6 * j + 1)) (xs (6 * j + 2)) (1 : Int32) (xs (6 * j + 4)) hC hI hN (by decide)
    rw [hF1, hF2] at sim
    obtain ⟨hr, hC1⟩ := sim
    refine lv_icmp_eq (tgt := 1451) hx hb dL_law_372 (by decide) (fun _ => ?_) (fun hne => absurd hr hne)
    exact W.widen (by omega) (by omega) (K C1 R1 f H2 ls hC1 hT.1 (hT.2 hN) hPc hPm hPo hS hl)
theorem lc_go {Core : Mem → Mem → Prop} {p : Program} {l : Launch} {e : Env} {s : State} {m : MethodId} {below : List Frame} {meth : Method} {c : Code} {b L : Nat} {xs : Nat → Int32} {ad bd : Nat → Nat} {o : Nat} {D : va_G} {k : Nat → ClassId} {Q : State → Prop} (X : LX p l s m meth c b L xs ad bd o D k) {j : Nat} (hj : 6 * j + 6 ≤ L) (hsim : S_go Core) (K : LG Core p l e s m below meth c b ad bd o D k Q j (106 + (j + 1)) (5192 + 6 * (j + 1)) 1451) : LG Core p l e s m below meth c b ad bd o D k Q j (106 + j) (5192 + 6 * j) 439 := by
  obtain ⟨⟨hx, hb, hml, hown, hG, hX, hbl, hL⟩, ⟨hK, hE, hfl⟩, ⟨had, hbd, hA1, hA2, hAo⟩, hdm, hdc, hdo, hdo2⟩ := X
  intro C R f H ls hC hI hN hPc hPm hPo hS hl
  have hj5 : j < 512 := by omega
  have hcs : 106 + j ≤ room_1.cells ∧ 5192 + 6 * j ≤ room_1.slots := ⟨by show 106 + j ≤ 601024; omega, by show 5192 + 6 * j ≤ 7293034; omega⟩
  have hcs1 : 106 + j + 1 ≤ room_1.cells ∧ 5192 + 6 * j + 6 ≤ room_1.slots := ⟨by show 106 + j + 1 ≤ 601024; omega, by show 5192 + 6 * j + 6 ≤ 7293034; omega⟩
  refine lv_aload_n hx hb dL_law_439 rfl (lv_at hl 1 rfl) ?_
  refine l_ld (o := 1) (i0 := 0) (i4 := 4) hx hb hX hbl hS hl rfl rfl (by omega) hL rfl rfl dL_law_440 dL_law_441 dL_law_443 dL_law_444 dL_law_445 ?_
  refine lcall_i [.int (xs (6 * j + 1))] [] hx hb hml hG hown hK (c_X6_go had C (xs (6 * j + 1))) gw_18_4 gm_X6_go gd_X6_go rfl rfl ⟨(Nat.le_of_ble_eq_true rfl), (Nat.le_of_ble_eq_true rfl)⟩ hcs (rX6 hK hPc rfl) hPc hA1 hS rfl hl.1 rfl (Nat.le_of_ble_eq_true rfl) dL_law_446 (fun r1 C1 H1 hF1 hPc hk hS => ?_)
  have hPm := l_kept hPm hk (l_d hdm)
  have hPo := l_kept hPo hk (l_do hdo)
  refine lv_aload_n hx hb dL_law_449 rfl (lv_at hl 2 rfl) ?_
  refine l_ld (o := 1) (i0 := 0) (i4 := 4) hx hb hX hbl hS hl rfl rfl (by omega) hL rfl rfl dL_law_450 dL_law_451 dL_law_453 dL_law_454 dL_law_455 ?_
  refine lcall_i [.int (xs (6 * j + 1))] [.int r1] hx hb hml hG hown hK (c_X7_go hbd R (xs (6 * j + 1)) hI) gw_22_0 gm_X7_go gd_X7_go rfl rfl ⟨(Nat.le_of_ble_eq_true rfl), (Nat.le_of_ble_eq_true rfl)⟩ hcs (rX7 hK hPm) hPm hA2 hS rfl hl.1 rfl (Nat.le_of_ble_eq_true rfl) dL_law_456 (fun r2 R1 H2 hF2 hPm hk hS => ?_)
  obtain ⟨hF2, hT⟩ := hF2
  have hPc := l_kept hPc hk (l_d hdc)
  have hPo := l_kept hPo hk (l_do hdo2)
  have sim := hsim C R (xs (6 * j + 1)) hC hI hN
  rw [hF1, hF2] at sim
  obtain ⟨hr, hC1⟩ := sim
  refine lv_icmp_eq (tgt := 1451) hx hb dL_law_459 (by decide) (fun _ => ?_) (fun hne => absurd hr hne)
  exact W.widen (by omega) (by omega) (K C1 R1 f H2 ls hC1 hT.1 (hT.2 hN) hPc hPm hPo hS hl)
theorem lc_place {Core : Mem → Mem → Prop} {p : Program} {l : Launch} {e : Env} {s : State} {m : MethodId} {below : List Frame} {meth : Method} {c : Code} {b L : Nat} {xs : Nat → Int32} {ad bd : Nat → Nat} {o : Nat} {D : va_G} {k : Nat → ClassId} {Q : State → Prop} (X : LX p l s m meth c b L xs ad bd o D k) {j : Nat} (hj : 6 * j + 6 ≤ L) (hsim : S_place Core) (K : LG Core p l e s m below meth c b ad bd o D k Q j (106 + (j + 1)) (5192 + 6 * (j + 1)) 1451) : LG Core p l e s m below meth c b ad bd o D k Q j (106 + j) (5192 + 6 * j) 502 := by
  obtain ⟨⟨hx, hb, hml, hown, hG, hX, hbl, hL⟩, ⟨hK, hE, hfl⟩, ⟨had, hbd, hA1, hA2, hAo⟩, hdm, hdc, hdo, hdo2⟩ := X
  intro C R f H ls hC hI hN hPc hPm hPo hS hl
  have hj5 : j < 512 := by omega
  have hcs : 106 + j ≤ room_1.cells ∧ 5192 + 6 * j ≤ room_1.slots := ⟨by show 106 + j ≤ 601024; omega, by show 5192 + 6 * j ≤ 7293034; omega⟩
  have hcs1 : 106 + j + 1 ≤ room_1.cells ∧ 5192 + 6 * j + 6 ≤ room_1.slots := ⟨by show 106 + j + 1 ≤ 601024; omega, by show 5192 + 6 * j + 6 ≤ 7293034; omega⟩
  refine lv_aload_n hx hb dL_law_502 rfl (lv_at hl 1 rfl) ?_
  refine l_ld (o := 1) (i0 := 0) (i4 := 4) hx hb hX hbl hS hl rfl rfl (by omega) hL rfl rfl dL_law_503 dL_law_504 dL_law_506 dL_law_507 dL_law_508 ?_
  refine lcall_i [.int (xs (6 * j + 1))] [] hx hb hml hG hown hK (c_X6_place had C (xs (6 * j + 1))) gw_26_5 gm_X6_place gd_X6_place rfl rfl ⟨(Nat.le_of_ble_eq_true rfl), (Nat.le_of_ble_eq_true rfl)⟩ hcs (rX6 hK hPc rfl) hPc hA1 hS rfl hl.1 rfl (Nat.le_of_ble_eq_true rfl) dL_law_509 (fun r1 C1 H1 hF1 hPc hk hS => ?_)
  obtain ⟨hF1, hu⟩ := hF1; rw [hu] at hPc
  have hPm := l_kept hPm hk (l_d hdm)
  have hPo := l_kept hPo hk (l_do hdo)
  refine lv_aload_n hx hb dL_law_512 rfl (lv_at hl 2 rfl) ?_
  refine l_ld (o := 1) (i0 := 0) (i4 := 4) hx hb hX hbl hS hl rfl rfl (by omega) hL rfl rfl dL_law_513 dL_law_514 dL_law_516 dL_law_517 dL_law_518 ?_
  refine lcall_i [.int (xs (6 * j + 1))] [.int r1] hx hb hml hG hown hK (c_X7_place hbd R (xs (6 * j + 1)) hI) gw_27_2 gm_X7_place gd_X7_place rfl rfl ⟨(Nat.le_of_ble_eq_true rfl), (Nat.le_of_ble_eq_true rfl)⟩ hcs (rX7 hK hPm) hPm hA2 hS rfl hl.1 rfl (Nat.le_of_ble_eq_true rfl) dL_law_519 (fun r2 R1 H2 hF2 hPm hk hS => ?_)
  obtain ⟨hF2, hT⟩ := hF2
  have hPc := l_kept hPc hk (l_d hdc)
  have hPo := l_kept hPo hk (l_do hdo2)
  have sim := hsim C R (xs (6 * j + 1)) hC hI hN
  rw [hF1, hF2] at sim
  obtain ⟨hr, hC1⟩ := sim
  refine lv_icmp_eq (tgt := 1451) hx hb dL_law_522 (by decide) (fun _ => ?_) (fun hne => absurd hr hne)
  exact W.widen (by omega) (by omega) (K C R1 f H2 ls hC1 hT.1 (hT.2 hN) hPc hPm hPo hS hl)
theorem lc_best {Core : Mem → Mem → Prop} {p : Program} {l : Launch} {e : Env} {s : State} {m : MethodId} {below : List Frame} {meth : Method} {c : Code} {b L : Nat} {xs : Nat → Int32} {ad bd : Nat → Nat} {o : Nat} {D : va_G} {k : Nat → ClassId} {Q : State → Prop} (X : LX p l s m meth c b L xs ad bd o D k) {j : Nat} (hj : 6 * j + 6 ≤ L) (hsim : S_best Core) (K : LG Core p l e s m below meth c b ad bd o D k Q j (106 + (j + 1)) (5192 + 6 * (j + 1)) 1451) : LG Core p l e s m below meth c b ad bd o D k Q j (106 + j) (5192 + 6 * j) 617 := by
  obtain ⟨⟨hx, hb, hml, hown, hG, hX, hbl, hL⟩, ⟨hK, hE, hfl⟩, ⟨had, hbd, hA1, hA2, hAo⟩, hdm, hdc, hdo, hdo2⟩ := X
  intro C R f H ls hC hI hN hPc hPm hPo hS hl
  have hj5 : j < 512 := by omega
  have hcs : 106 + j ≤ room_1.cells ∧ 5192 + 6 * j ≤ room_1.slots := ⟨by show 106 + j ≤ 601024; omega, by show 5192 + 6 * j ≤ 7293034; omega⟩
  have hcs1 : 106 + j + 1 ≤ room_1.cells ∧ 5192 + 6 * j + 6 ≤ room_1.slots := ⟨by show 106 + j + 1 ≤ 601024; omega, by show 5192 + 6 * j + 6 ≤ 7293034; omega⟩
  by_cases hz : xs (6 * j + 2) = 0
  · refine lv_aload_n hx hb dL_law_617 rfl (lv_at hl 1 rfl) ?_
    refine l_ld (o := 1) (i0 := 0) (i4 := 4) hx hb hX hbl hS hl rfl rfl (by omega) hL rfl rfl dL_law_618 dL_law_619 dL_law_621 dL_law_622 dL_law_623 ?_
    refine l_ld (o := 2) (i0 := 0) (i4 := 4) hx hb hX hbl hS hl rfl rfl (by omega) hL rfl rfl dL_law_624 dL_law_625 dL_law_627 dL_law_628 dL_law_629 ?_
    refine lv_if_eq (tgt := 637) hx hb dL_law_630 (by decide) (fun _ => ?_) (fun hc => absurd hz hc)
    refine lv_iconst (v := 0) hx hb dL_law_637 (by decide) ?_
    refine l_ld (o := 3) (i0 := 0) (i4 := 4) hx hb hX hbl hS hl rfl rfl (by omega) hL rfl rfl dL_law_638 dL_law_639 dL_law_641 dL_law_642 dL_law_643 ?_
    refine lcall_i [.int (xs (6 * j + 1)), .int (0 : Int32), .int (xs (6 * j + 3))] [] hx hb hml hG hown hK (c_X6_best had C (xs (6 * j + 1)) (0 : Int32) (by decide) (xs (6 * j + 3))) gw_31_5 gm_X6_best gd_X6_best rfl rfl ⟨(Nat.le_of_ble_eq_true rfl), (Nat.le_of_ble_eq_true rfl)⟩ hcs (rX6 hK hPc rfl) hPc hA1 hS rfl hl.1 rfl (Nat.le_of_ble_eq_true rfl) dL_law_644 (fun r1 C1 H1 hF1 hPc hk hS => ?_)
    have hPm := l_kept hPm hk (l_d hdm)
    have hPo := l_kept hPo hk (l_do hdo)
    refine lv_aload_n hx hb dL_law_647 rfl (lv_at hl 2 rfl) ?_
    refine l_ld (o := 1) (i0 := 0) (i4 := 4) hx hb hX hbl hS hl rfl rfl (by omega) hL rfl rfl dL_law_648 dL_law_649 dL_law_651 dL_law_652 dL_law_653 ?_
    refine l_ld (o := 2) (i0 := 0) (i4 := 4) hx hb hX hbl hS hl rfl rfl (by omega) hL rfl rfl dL_law_654 dL_law_655 dL_law_657 dL_law_658 dL_law_659 ?_
    refine lv_if_eq (tgt := 667) hx hb dL_law_660 (by decide) (fun _ => ?_) (fun hc => absurd hz hc)
    refine lv_iconst (v := 0) hx hb dL_law_667 (by decide) ?_
    refine l_ld (o := 3) (i0 := 0) (i4 := 4) hx hb hX hbl hS hl rfl rfl (by omega) hL rfl rfl dL_law_668 dL_law_669 dL_law_671 dL_law_672 dL_law_673 ?_
    refine lcall_i [.int (xs (6 * j + 1)), .int (0 : Int32), .int (xs (6 * j + 3))] [.int r1] hx hb hml hG hown hK (c_X7_best hbd R (xs (6 * j + 1)) (0 : Int32) (by decide) (xs (6 * j + 3)) hI) gw_31_14 gm_X7_best gd_X7_best rfl rfl ⟨(Nat.le_of_ble_eq_true rfl), (Nat.le_of_ble_eq_true rfl)⟩ hcs (rX7 hK hPm) hPm hA2 hS rfl hl.1 rfl (Nat.le_of_ble_eq_true rfl) dL_law_674 (fun r2 R1 H2 hF2 hPm hk hS => ?_)
    obtain ⟨hF2, hT⟩ := hF2
    have hPc := l_kept hPc hk (l_d hdc)
    have hPo := l_kept hPo hk (l_do hdo2)
    have sim := hsim C R (xs (6 * j + 1)) (0 : Int32) (xs (6 * j + 3)) hC hI hN (by decide)
    rw [hF1, hF2] at sim
    obtain ⟨hr, hC1⟩ := sim
    refine lv_icmp_eq (tgt := 1451) hx hb dL_law_677 (by decide) (fun _ => ?_) (fun hne => absurd hr hne)
    exact W.widen (by omega) (by omega) (K C1 R1 f H2 ls hC1 hT.1 (hT.2 hN) hPc hPm hPo hS hl)
  · refine lv_aload_n hx hb dL_law_617 rfl (lv_at hl 1 rfl) ?_
    refine l_ld (o := 1) (i0 := 0) (i4 := 4) hx hb hX hbl hS hl rfl rfl (by omega) hL rfl rfl dL_law_618 dL_law_619 dL_law_621 dL_law_622 dL_law_623 ?_
    refine l_ld (o := 2) (i0 := 0) (i4 := 4) hx hb hX hbl hS hl rfl rfl (by omega) hL rfl rfl dL_law_624 dL_law_625 dL_law_627 dL_law_628 dL_law_629 ?_
    refine lv_if_eq (tgt := 637) hx hb dL_law_630 (by decide) (fun hc => absurd hc hz) (fun _ => ?_)
    refine lv_iconst (v := 1) hx hb dL_law_633 (by decide) ?_
    refine lv_goto (tgt := 638) hx hb dL_law_634 (by decide) ?_
    refine l_ld (o := 3) (i0 := 0) (i4 := 4) hx hb hX hbl hS hl rfl rfl (by omega) hL rfl rfl dL_law_638 dL_law_639 dL_law_641 dL_law_642 dL_law_643 ?_
    refine lcall_i [.int (xs (6 * j + 1)), .int (1 : Int32), .int (xs (6 * j + 3))] [] hx hb hml hG hown hK (c_X6_best had C (xs (6 * j + 1)) (1 : Int32) (by decide) (xs (6 * j + 3))) gw_31_5 gm_X6_best gd_X6_best rfl rfl ⟨(Nat.le_of_ble_eq_true rfl), (Nat.le_of_ble_eq_true rfl)⟩ hcs (rX6 hK hPc rfl) hPc hA1 hS rfl hl.1 rfl (Nat.le_of_ble_eq_true rfl) dL_law_644 (fun r1 C1 H1 hF1 hPc hk hS => ?_)
    have hPm := l_kept hPm hk (l_d hdm)
    have hPo := l_kept hPo hk (l_do hdo)
    refine lv_aload_n hx hb dL_law_647 rfl (lv_at hl 2 rfl) ?_
    refine l_ld (o := 1) (i0 := 0) (i4 := 4) hx hb hX hbl hS hl rfl rfl (by omega) hL rfl rfl dL_law_648 dL_law_649 dL_law_651 dL_law_652 dL_law_653 ?_
    refine l_ld (o := 2) (i0 := 0) (i4 := 4) hx hb hX hbl hS hl rfl rfl (by omega) hL rfl rfl dL_law_654 dL_law_655 dL_law_657 dL_law_658 dL_law_659 ?_
    refine lv_if_eq (tgt := 667) hx hb dL_law_660 (by decide) (fun hc => absurd hc hz) (fun _ => ?_)
    refine lv_iconst (v := 1) hx hb dL_law_663 (by decide) ?_
    refine lv_goto (tgt := 668) hx hb dL_law_664 (by decide) ?_
    refine l_ld (o := 3) (i0 := 0) (i4 := 4) hx hb hX hbl hS hl rfl rfl (by omega) hL rfl rfl dL_law_668 dL_law_669 dL_law_671 dL_law_672 dL_law_673 ?_
    refine lcall_i [.int (xs (6 * j + 1)), .int (1 : Int32), .int (xs (6 * j + 3))] [.int r1] hx hb hml hG hown hK (c_X7_best hbd R (xs (6 * j + 1)) (1 : Int32) (by decide) (xs (6 * j + 3)) hI) gw_31_14 gm_X7_best gd_X7_best rfl rfl ⟨(Nat.le_of_ble_eq_true rfl), (Nat.le_of_ble_eq_true rfl)⟩ hcs (rX7 hK hPm) hPm hA2 hS rfl hl.1 rfl (Nat.le_of_ble_eq_true rfl) dL_law_674 (fun r2 R1 H2 hF2 hPm hk hS => ?_)
    obtain ⟨hF2, hT⟩ := hF2
    have hPc := l_kept hPc hk (l_d hdc)
    have hPo := l_kept hPo hk (l_do hdo2)
    have sim := hsim C R (xs (6 * j + 1)) (1 : Int32) (xs (6 * j + 3)) hC hI hN (by decide)
    rw [hF1, hF2] at sim
    obtain ⟨hr, hC1⟩ := sim
    refine lv_icmp_eq (tgt := 1451) hx hb dL_law_677 (by decide) (fun _ => ?_) (fun hne => absurd hr hne)
    exact W.widen (by omega) (by omega) (K C1 R1 f H2 ls hC1 hT.1 (hT.2 hN) hPc hPm hPo hS hl)
theorem lc_safe {Core : Mem → Mem → Prop} {p : Program} {l : Launch} {e : Env} {s : State} {m : MethodId} {below : List Frame} {meth : Method} {c : Code} {b L : Nat} {xs : Nat → Int32} {ad bd : Nat → Nat} {o : Nat} {D : va_G} {k : Nat → ClassId} {Q : State → Prop} (X : LX p l s m meth c b L xs ad bd o D k) {j : Nat} (hj : 6 * j + 6 ≤ L) (hsim : S_safe Core) (K : LG Core p l e s m below meth c b ad bd o D k Q j (106 + (j + 1)) (5192 + 6 * (j + 1)) 1451) : LG Core p l e s m below meth c b ad bd o D k Q j (106 + j) (5192 + 6 * j) 768 := by
  obtain ⟨⟨hx, hb, hml, hown, hG, hX, hbl, hL⟩, ⟨hK, hE, hfl⟩, ⟨had, hbd, hA1, hA2, hAo⟩, hdm, hdc, hdo, hdo2⟩ := X
  intro C R f H ls hC hI hN hPc hPm hPo hS hl
  have hj5 : j < 512 := by omega
  have hcs : 106 + j ≤ room_1.cells ∧ 5192 + 6 * j ≤ room_1.slots := ⟨by show 106 + j ≤ 601024; omega, by show 5192 + 6 * j ≤ 7293034; omega⟩
  have hcs1 : 106 + j + 1 ≤ room_1.cells ∧ 5192 + 6 * j + 6 ≤ room_1.slots := ⟨by show 106 + j + 1 ≤ 601024; omega, by show 5192 + 6 * j + 6 ≤ 7293034; omega⟩
  refine lv_aload_n hx hb dL_law_768 rfl (lv_at hl 1 rfl) ?_
  refine l_ld (o := 1) (i0 := 0) (i4 := 4) hx hb hX hbl hS hl rfl rfl (by omega) hL rfl rfl dL_law_769 dL_law_770 dL_law_772 dL_law_773 dL_law_774 ?_
  refine l_ld (o := 2) (i0 := 0) (i4 := 4) hx hb hX hbl hS hl rfl rfl (by omega) hL rfl rfl dL_law_775 dL_law_776 dL_law_778 dL_law_779 dL_law_780 ?_
  refine l_ld (o := 3) (i0 := 0) (i4 := 4) hx hb hX hbl hS hl rfl rfl (by omega) hL rfl rfl dL_law_781 dL_law_782 dL_law_784 dL_law_785 dL_law_786 ?_
  refine l_ld (o := 4) (i0 := 0) (i4 := 4) hx hb hX hbl hS hl rfl rfl (by omega) hL rfl rfl dL_law_787 dL_law_788 dL_law_790 dL_law_791 dL_law_792 ?_
  refine lcall_i [.int (xs (6 * j + 1)), .int (xs (6 * j + 2)), .int (xs (6 * j + 3)), .int (xs (6 * j + 4))] [] hx hb hml hG hown hK (c_X6_safe had C (xs (6 * j + 1)) (xs (6 * j + 2)) (xs (6 * j + 3)) (xs (6 * j + 4))) gw_34_1 gm_X6_safe gd_X6_safe rfl rfl ⟨(Nat.le_of_ble_eq_true rfl), (Nat.le_of_ble_eq_true rfl)⟩ hcs (rX6 hK hPc rfl) hPc hA1 hS rfl hl.1 rfl (Nat.le_of_ble_eq_true rfl) dL_law_793 (fun r1 C1 H1 hF1 hPc hk hS => ?_)
  have hPm := l_kept hPm hk (l_d hdm)
  have hPo := l_kept hPo hk (l_do hdo)
  refine lv_aload_n hx hb dL_law_796 rfl (lv_at hl 2 rfl) ?_
  refine l_ld (o := 1) (i0 := 0) (i4 := 4) hx hb hX hbl hS hl rfl rfl (by omega) hL rfl rfl dL_law_797 dL_law_798 dL_law_800 dL_law_801 dL_law_802 ?_
  refine l_ld (o := 2) (i0 := 0) (i4 := 4) hx hb hX hbl hS hl rfl rfl (by omega) hL rfl rfl dL_law_803 dL_law_804 dL_law_806 dL_law_807 dL_law_808 ?_
  refine l_ld (o := 3) (i0 := 0) (i4 := 4) hx hb hX hbl hS hl rfl rfl (by omega) hL rfl rfl dL_law_809 dL_law_810 dL_law_812 dL_law_813 dL_law_814 ?_
  refine l_ld (o := 4) (i0 := 0) (i4 := 4) hx hb hX hbl hS hl rfl rfl (by omega) hL rfl rfl dL_law_815 dL_law_816 dL_law_818 dL_law_819 dL_law_820 ?_
  refine lcall_i [.int (xs (6 * j + 1)), .int (xs (6 * j + 2)), .int (xs (6 * j + 3)), .int (xs (6 * j + 4))] [.int r1] hx hb hml hG hown hK (c_X7_safe hbd R (xs (6 * j + 1)) (xs (6 * j + 2)) (xs (6 * j + 3)) (xs (6 * j + 4)) hI) gw_34_13 gm_X7_safe gd_X7_safe rfl rfl ⟨(Nat.le_of_ble_eq_true rfl), (Nat.le_of_ble_eq_true rfl)⟩ hcs (rX7 hK hPm) hPm hA2 hS rfl hl.1 rfl (Nat.le_of_ble_eq_true rfl) dL_law_821 (fun r2 R1 H2 hF2 hPm hk hS => ?_)
  obtain ⟨hF2, hT⟩ := hF2
  have hPc := l_kept hPc hk (l_d hdc)
  have hPo := l_kept hPo hk (l_do hdo2)
  have sim := hsim C R (xs (6 * j + 1)) (xs (6 * j + 2)) (xs (6 * j + 3)) (xs (6 * j + 4)) hC hI hN
  rw [hF1, hF2] at sim
  obtain ⟨hr, hC1⟩ := sim
  refine lv_icmp_eq (tgt := 1451) hx hb dL_law_824 (by decide) (fun _ => ?_) (fun hne => absurd hr hne)
  exact W.widen (by omega) (by omega) (K C1 R1 f H2 ls hC1 hT.1 (hT.2 hN) hPc hPm hPo hS hl)
theorem lc_which {Core : Mem → Mem → Prop} {p : Program} {l : Launch} {e : Env} {s : State} {m : MethodId} {below : List Frame} {meth : Method} {c : Code} {b L : Nat} {xs : Nat → Int32} {ad bd : Nat → Nat} {o : Nat} {D : va_G} {k : Nat → ClassId} {Q : State → Prop} (X : LX p l s m meth c b L xs ad bd o D k) {j : Nat} (hj : 6 * j + 6 ≤ L) (hsim : S_which Core) (K : LG Core p l e s m below meth c b ad bd o D k Q j (106 + (j + 1)) (5192 + 6 * (j + 1)) 1451) : LG Core p l e s m below meth c b ad bd o D k Q j (106 + j) (5192 + 6 * j) 951 := by
  obtain ⟨⟨hx, hb, hml, hown, hG, hX, hbl, hL⟩, ⟨hK, hE, hfl⟩, ⟨had, hbd, hA1, hA2, hAo⟩, hdm, hdc, hdo, hdo2⟩ := X
  intro C R f H ls hC hI hN hPc hPm hPo hS hl
  have hj5 : j < 512 := by omega
  have hcs : 106 + j ≤ room_1.cells ∧ 5192 + 6 * j ≤ room_1.slots := ⟨by show 106 + j ≤ 601024; omega, by show 5192 + 6 * j ≤ 7293034; omega⟩
  have hcs1 : 106 + j + 1 ≤ room_1.cells ∧ 5192 + 6 * j + 6 ≤ room_1.slots := ⟨by show 106 + j + 1 ≤ 601024; omega, by show 5192 + 6 * j + 6 ≤ 7293034; omega⟩
  refine lv_aload_n hx hb dL_law_951 rfl (lv_at hl 1 rfl) ?_
  refine l_ld (o := 1) (i0 := 0) (i4 := 4) hx hb hX hbl hS hl rfl rfl (by omega) hL rfl rfl dL_law_952 dL_law_953 dL_law_955 dL_law_956 dL_law_957 ?_
  refine lcall_i [.int (xs (6 * j + 1))] [] hx hb hml hG hown hK (c_X6_which had C (xs (6 * j + 1))) gw_35_15 gm_X6_which gd_X6_which rfl rfl ⟨(Nat.le_of_ble_eq_true rfl), (Nat.le_of_ble_eq_true rfl)⟩ hcs (rX6 hK hPc rfl) hPc hA1 hS rfl hl.1 rfl (Nat.le_of_ble_eq_true rfl) dL_law_958 (fun r1 C1 H1 hF1 hPc hk hS => ?_)
  obtain ⟨hF1, hu⟩ := hF1; rw [hu] at hPc
  have hPm := l_kept hPm hk (l_d hdm)
  have hPo := l_kept hPo hk (l_do hdo)
  refine lv_aload_n hx hb dL_law_961 rfl (lv_at hl 2 rfl) ?_
  refine l_ld (o := 1) (i0 := 0) (i4 := 4) hx hb hX hbl hS hl rfl rfl (by omega) hL rfl rfl dL_law_962 dL_law_963 dL_law_965 dL_law_966 dL_law_967 ?_
  refine lcall_i [.int (xs (6 * j + 1))] [.int r1] hx hb hml hG hown hK (c_X7_which hbd R (xs (6 * j + 1)) hI) gw_36_5 gm_X7_which gd_X7_which rfl rfl ⟨(Nat.le_of_ble_eq_true rfl), (Nat.le_of_ble_eq_true rfl)⟩ hcs (rX7 hK hPm) hPm hA2 hS rfl hl.1 rfl (Nat.le_of_ble_eq_true rfl) dL_law_968 (fun r2 R1 H2 hF2 hPm hk hS => ?_)
  obtain ⟨hF2, hT⟩ := hF2
  have hPc := l_kept hPc hk (l_d hdc)
  have hPo := l_kept hPo hk (l_do hdo2)
  have sim := hsim C R (xs (6 * j + 1)) hC hI hN
  rw [hF1, hF2] at sim
  obtain ⟨hr, hC1⟩ := sim
  refine lv_icmp_eq (tgt := 1451) hx hb dL_law_971 (by decide) (fun _ => ?_) (fun hne => absurd hr hne)
  exact W.widen (by omega) (by omega) (K C R1 f H2 ls hC1 hT.1 (hT.2 hN) hPc hPm hPo hS hl)
theorem lc_pairs {Core : Mem → Mem → Prop} {p : Program} {l : Launch} {e : Env} {s : State} {m : MethodId} {below : List Frame} {meth : Method} {c : Code} {b L : Nat} {xs : Nat → Int32} {ad bd : Nat → Nat} {o : Nat} {D : va_G} {k : Nat → ClassId} {Q : State → Prop} (X : LX p l s m meth c b L xs ad bd o D k) {j : Nat} (hj : 6 * j + 6 ≤ L) (hsim : S_pairs Core) (K : LG Core p l e s m below meth c b ad bd o D k Q j (106 + (j + 1)) (5192 + 6 * (j + 1)) 1451) : LG Core p l e s m below meth c b ad bd o D k Q j (106 + j) (5192 + 6 * j) 1050 := by
  obtain ⟨⟨hx, hb, hml, hown, hG, hX, hbl, hL⟩, ⟨hK, hE, hfl⟩, ⟨had, hbd, hA1, hA2, hAo⟩, hdm, hdc, hdo, hdo2⟩ := X
  intro C R f H ls hC hI hN hPc hPm hPo hS hl
  have hj5 : j < 512 := by omega
  have hcs : 106 + j ≤ room_1.cells ∧ 5192 + 6 * j ≤ room_1.slots := ⟨by show 106 + j ≤ 601024; omega, by show 5192 + 6 * j ≤ 7293034; omega⟩
  have hcs1 : 106 + j + 1 ≤ room_1.cells ∧ 5192 + 6 * j + 6 ≤ room_1.slots := ⟨by show 106 + j + 1 ≤ 601024; omega, by show 5192 + 6 * j + 6 ≤ 7293034; omega⟩
  refine lv_aload_n hx hb dL_law_1050 rfl (lv_at hl 1 rfl) ?_
  refine lcall_i [] [] hx hb hml hG hown hK (c_X6_pairs had C) gw_38_20 gm_X6_pairs gd_X6_pairs rfl rfl ⟨(Nat.le_of_ble_eq_true rfl), (Nat.le_of_ble_eq_true rfl)⟩ hcs (rX6 hK hPc rfl) hPc hA1 hS rfl hl.1 rfl (Nat.le_of_ble_eq_true rfl) dL_law_1051 (fun r1 C1 H1 hF1 hPc hk hS => ?_)
  have hPm := l_kept hPm hk (l_d hdm)
  have hPo := l_kept hPo hk (l_do hdo)
  refine lv_aload_n hx hb dL_law_1054 rfl (lv_at hl 2 rfl) ?_
  refine lcall_i [] [.int r1] hx hb hml hG hown hK (c_X7_pairs hbd R hI) gw_39_0 gm_X7_pairs gd_X7_pairs rfl rfl ⟨(Nat.le_of_ble_eq_true rfl), (Nat.le_of_ble_eq_true rfl)⟩ hcs (rX7 hK hPm) hPm hA2 hS rfl hl.1 rfl (Nat.le_of_ble_eq_true rfl) dL_law_1055 (fun r2 R1 H2 hF2 hPm hk hS => ?_)
  obtain ⟨hF2, hT⟩ := hF2
  have hPc := l_kept hPc hk (l_d hdc)
  have hPo := l_kept hPo hk (l_do hdo2)
  have sim := hsim C R hC hI hN
  rw [hF1, hF2] at sim
  obtain ⟨hr, hC1⟩ := sim
  refine lv_icmp_eq (tgt := 1451) hx hb dL_law_1058 (by decide) (fun _ => ?_) (fun hne => absurd hr hne)
  exact W.widen (by omega) (by omega) (K C1 R1 f H2 ls hC1 hT.1 (hT.2 hN) hPc hPm hPo hS hl)
theorem lc_count {Core : Mem → Mem → Prop} {p : Program} {l : Launch} {e : Env} {s : State} {m : MethodId} {below : List Frame} {meth : Method} {c : Code} {b L : Nat} {xs : Nat → Int32} {ad bd : Nat → Nat} {o : Nat} {D : va_G} {k : Nat → ClassId} {Q : State → Prop} (X : LX p l s m meth c b L xs ad bd o D k) {j : Nat} (hj : 6 * j + 6 ≤ L) (hsim : S_count Core) (K : LG Core p l e s m below meth c b ad bd o D k Q j (106 + (j + 1)) (5192 + 6 * (j + 1)) 1451) : LG Core p l e s m below meth c b ad bd o D k Q j (106 + j) (5192 + 6 * j) 1089 := by
  obtain ⟨⟨hx, hb, hml, hown, hG, hX, hbl, hL⟩, ⟨hK, hE, hfl⟩, ⟨had, hbd, hA1, hA2, hAo⟩, hdm, hdc, hdo, hdo2⟩ := X
  intro C R f H ls hC hI hN hPc hPm hPo hS hl
  have hj5 : j < 512 := by omega
  have hcs : 106 + j ≤ room_1.cells ∧ 5192 + 6 * j ≤ room_1.slots := ⟨by show 106 + j ≤ 601024; omega, by show 5192 + 6 * j ≤ 7293034; omega⟩
  have hcs1 : 106 + j + 1 ≤ room_1.cells ∧ 5192 + 6 * j + 6 ≤ room_1.slots := ⟨by show 106 + j + 1 ≤ 601024; omega, by show 5192 + 6 * j + 6 ≤ 7293034; omega⟩
  refine lv_aload_n hx hb dL_law_1089 rfl (lv_at hl 1 rfl) ?_
  refine l_ld (o := 1) (i0 := 0) (i4 := 4) hx hb hX hbl hS hl rfl rfl (by omega) hL rfl rfl dL_law_1090 dL_law_1091 dL_law_1093 dL_law_1094 dL_law_1095 ?_
  refine lcall_i [.int (xs (6 * j + 1))] [] hx hb hml hG hown hK (c_X6_count had C (xs (6 * j + 1))) gw_39_22 gm_X6_count gd_X6_count rfl rfl ⟨(Nat.le_of_ble_eq_true rfl), (Nat.le_of_ble_eq_true rfl)⟩ hcs (rX6 hK hPc rfl) hPc hA1 hS rfl hl.1 rfl (Nat.le_of_ble_eq_true rfl) dL_law_1096 (fun r1 C1 H1 hF1 hPc hk hS => ?_)
  have hPm := l_kept hPm hk (l_d hdm)
  have hPo := l_kept hPo hk (l_do hdo)
  refine lv_aload_n hx hb dL_law_1099 rfl (lv_at hl 2 rfl) ?_
  refine l_ld (o := 1) (i0 := 0) (i4 := 4) hx hb hX hbl hS hl rfl rfl (by omega) hL rfl rfl dL_law_1100 dL_law_1101 dL_law_1103 dL_law_1104 dL_law_1105 ?_
  refine lcall_i [.int (xs (6 * j + 1))] [.int r1] hx hb hml hG hown hK (c_X7_count hbd R (xs (6 * j + 1)) hI) gw_40_12 gm_X7_count gd_X7_count rfl rfl ⟨(Nat.le_of_ble_eq_true rfl), (Nat.le_of_ble_eq_true rfl)⟩ hcs (rX7 hK hPm) hPm hA2 hS rfl hl.1 rfl (Nat.le_of_ble_eq_true rfl) dL_law_1106 (fun r2 R1 H2 hF2 hPm hk hS => ?_)
  obtain ⟨hF2, hT⟩ := hF2
  have hPc := l_kept hPc hk (l_d hdc)
  have hPo := l_kept hPo hk (l_do hdo2)
  have sim := hsim C R (xs (6 * j + 1)) hC hI hN
  rw [hF1, hF2] at sim
  obtain ⟨hr, hC1⟩ := sim
  refine lv_icmp_eq (tgt := 1451) hx hb dL_law_1109 (by decide) (fun _ => ?_) (fun hne => absurd hr hne)
  exact W.widen (by omega) (by omega) (K C1 R1 f H2 ls hC1 hT.1 (hT.2 hN) hPc hPm hPo hS hl)
theorem lc_put {Core : Mem → Mem → Prop} {p : Program} {l : Launch} {e : Env} {s : State} {m : MethodId} {below : List Frame} {meth : Method} {c : Code} {b L : Nat} {xs : Nat → Int32} {ad bd : Nat → Nat} {o : Nat} {D : va_G} {k : Nat → ClassId} {Q : State → Prop} (X : LX p l s m meth c b L xs ad bd o D k) {j : Nat} (hj : 6 * j + 6 ≤ L) (hsim : S_put Core) (K : LG Core p l e s m below meth c b ad bd o D k Q j (106 + (j + 1)) (5192 + 6 * (j + 1)) 1451) : LG Core p l e s m below meth c b ad bd o D k Q j (106 + j) (5192 + 6 * j) 1212 := by
  obtain ⟨⟨hx, hb, hml, hown, hG, hX, hbl, hL⟩, ⟨hK, hE, hfl⟩, ⟨had, hbd, hA1, hA2, hAo⟩, hdm, hdc, hdo, hdo2⟩ := X
  intro C R f H ls hC hI hN hPc hPm hPo hS hl
  have hj5 : j < 512 := by omega
  have hcs : 106 + j ≤ room_1.cells ∧ 5192 + 6 * j ≤ room_1.slots := ⟨by show 106 + j ≤ 601024; omega, by show 5192 + 6 * j ≤ 7293034; omega⟩
  have hcs1 : 106 + j + 1 ≤ room_1.cells ∧ 5192 + 6 * j + 6 ≤ room_1.slots := ⟨by show 106 + j + 1 ≤ 601024; omega, by show 5192 + 6 * j + 6 ≤ 7293034; omega⟩
  refine lv_aload_n hx hb dL_law_1212 rfl (lv_at hl 1 rfl) ?_
  refine l_ld (o := 1) (i0 := 0) (i4 := 4) hx hb hX hbl hS hl rfl rfl (by omega) hL rfl rfl dL_law_1213 dL_law_1214 dL_law_1216 dL_law_1217 dL_law_1218 ?_
  refine l_ld (o := 2) (i0 := 0) (i4 := 4) hx hb hX hbl hS hl rfl rfl (by omega) hL rfl rfl dL_law_1219 dL_law_1220 dL_law_1222 dL_law_1223 dL_law_1224 ?_
  refine l_ld (o := 3) (i0 := 0) (i4 := 4) hx hb hX hbl hS hl rfl rfl (by omega) hL rfl rfl dL_law_1225 dL_law_1226 dL_law_1228 dL_law_1229 dL_law_1230 ?_
  refine lcall_i [.int (xs (6 * j + 1)), .int (xs (6 * j + 2)), .int (xs (6 * j + 3))] [] hx hb hml hG hown hK (c_X6_put had C (xs (6 * j + 1)) (xs (6 * j + 2)) (xs (6 * j + 3))) gw_42_0 gm_X6_put gd_X6_put rfl rfl ⟨(Nat.le_of_ble_eq_true rfl), (Nat.le_of_ble_eq_true rfl)⟩ hcs (rX6 hK hPc rfl) hPc hA1 hS rfl hl.1 rfl (Nat.le_of_ble_eq_true rfl) dL_law_1231 (fun r1 C1 H1 hF1 hPc hk hS => ?_)
  have hPm := l_kept hPm hk (l_d hdm)
  have hPo := l_kept hPo hk (l_do hdo)
  refine lv_aload_n hx hb dL_law_1234 rfl (lv_at hl 2 rfl) ?_
  refine l_ld (o := 1) (i0 := 0) (i4 := 4) hx hb hX hbl hS hl rfl rfl (by omega) hL rfl rfl dL_law_1235 dL_law_1236 dL_law_1238 dL_law_1239 dL_law_1240 ?_
  refine l_ld (o := 2) (i0 := 0) (i4 := 4) hx hb hX hbl hS hl rfl rfl (by omega) hL rfl rfl dL_law_1241 dL_law_1242 dL_law_1244 dL_law_1245 dL_law_1246 ?_
  refine l_ld (o := 3) (i0 := 0) (i4 := 4) hx hb hX hbl hS hl rfl rfl (by omega) hL rfl rfl dL_law_1247 dL_law_1248 dL_law_1250 dL_law_1251 dL_law_1252 ?_
  refine lcall_i [.int (xs (6 * j + 1)), .int (xs (6 * j + 2)), .int (xs (6 * j + 3))] [.int r1] hx hb hml hG hown hK (c_X7_put hbd R (xs (6 * j + 1)) (xs (6 * j + 2)) (xs (6 * j + 3)) hI) gw_42_9 gm_X7_put gd_X7_put rfl rfl ⟨(Nat.le_of_ble_eq_true rfl), (Nat.le_of_ble_eq_true rfl)⟩ hcs (rX7 hK hPm) hPm hA2 hS rfl hl.1 rfl (Nat.le_of_ble_eq_true rfl) dL_law_1253 (fun r2 R1 H2 hF2 hPm hk hS => ?_)
  obtain ⟨hF2, hT⟩ := hF2
  have hPc := l_kept hPc hk (l_d hdc)
  have hPo := l_kept hPo hk (l_do hdo2)
  have sim := hsim C R (xs (6 * j + 1)) (xs (6 * j + 2)) (xs (6 * j + 3)) hC hI hN
  rw [hF1, hF2] at sim
  obtain ⟨hr, hC1⟩ := sim
  refine lv_icmp_eq (tgt := 1451) hx hb dL_law_1256 (by decide) (fun _ => ?_) (fun hne => absurd hr hne)
  exact W.widen (by omega) (by omega) (K C1 R1 f H2 ls hC1 hT.1 (hT.2 hN) hPc hPm hPo hS hl)
theorem lc_skill {Core : Mem → Mem → Prop} {p : Program} {l : Launch} {e : Env} {s : State} {m : MethodId} {below : List Frame} {meth : Method} {c : Code} {b L : Nat} {xs : Nat → Int32} {ad bd : Nat → Nat} {o : Nat} {D : va_G} {k : Nat → ClassId} {Q : State → Prop} (X : LX p l s m meth c b L xs ad bd o D k) {j : Nat} (hj : 6 * j + 6 ≤ L) (hsim : S_skill Core) (K : LG Core p l e s m below meth c b ad bd o D k Q j (106 + (j + 1)) (5192 + 6 * (j + 1)) 1451) : LG Core p l e s m below meth c b ad bd o D k Q j (106 + j) (5192 + 6 * j) 1401 := by
  obtain ⟨⟨hx, hb, hml, hown, hG, hX, hbl, hL⟩, ⟨hK, hE, hfl⟩, ⟨had, hbd, hA1, hA2, hAo⟩, hdm, hdc, hdo, hdo2⟩ := X
  intro C R f H ls hC hI hN hPc hPm hPo hS hl
  have hj5 : j < 512 := by omega
  have hcs : 106 + j ≤ room_1.cells ∧ 5192 + 6 * j ≤ room_1.slots := ⟨by show 106 + j ≤ 601024; omega, by show 5192 + 6 * j ≤ 7293034; omega⟩
  have hcs1 : 106 + j + 1 ≤ room_1.cells ∧ 5192 + 6 * j + 6 ≤ room_1.slots := ⟨by show 106 + j + 1 ≤ 601024; omega, by show 5192 + 6 * j + 6 ≤ 7293034; omega⟩
  refine lv_aload_n hx hb dL_law_1401 rfl (lv_at hl 1 rfl) ?_
  refine l_ld (o := 1) (i0 := 0) (i4 := 4) hx hb hX hbl hS hl rfl rfl (by omega) hL rfl rfl dL_law_1402 dL_law_1403 dL_law_1405 dL_law_1406 dL_law_1407 ?_
  refine lcall_i [.int (xs (6 * j + 1))] [] hx hb hml hG hown hK (c_X6_skill had C (xs (6 * j + 1))) gw_44_4 gm_X6_skill gd_X6_skill rfl rfl ⟨(Nat.le_of_ble_eq_true rfl), (Nat.le_of_ble_eq_true rfl)⟩ hcs (rX6 hK hPc rfl) hPc hA1 hS rfl hl.1 rfl (Nat.le_of_ble_eq_true rfl) dL_law_1408 (fun r1 C1 H1 hF1 hPc hk hS => ?_)
  obtain ⟨hF1, hu⟩ := hF1; rw [hu] at hPc
  have hPm := l_kept hPm hk (l_d hdm)
  have hPo := l_kept hPo hk (l_do hdo)
  refine lv_aload_n hx hb dL_law_1411 rfl (lv_at hl 2 rfl) ?_
  refine l_ld (o := 1) (i0 := 0) (i4 := 4) hx hb hX hbl hS hl rfl rfl (by omega) hL rfl rfl dL_law_1412 dL_law_1413 dL_law_1415 dL_law_1416 dL_law_1417 ?_
  refine lcall_i [.int (xs (6 * j + 1))] [.int r1] hx hb hml hG hown hK (c_X7_skill hbd R (xs (6 * j + 1)) hI) gw_44_18 gm_X7_skill gd_X7_skill rfl rfl ⟨(Nat.le_of_ble_eq_true rfl), (Nat.le_of_ble_eq_true rfl)⟩ hcs (rX7 hK hPm) hPm hA2 hS rfl hl.1 rfl (Nat.le_of_ble_eq_true rfl) dL_law_1418 (fun r2 R1 H2 hF2 hPm hk hS => ?_)
  obtain ⟨hF2, hT⟩ := hF2
  have hPc := l_kept hPc hk (l_d hdc)
  have hPo := l_kept hPo hk (l_do hdo2)
  have sim := hsim C R (xs (6 * j + 1)) hC hI hN
  rw [hF1, hF2] at sim
  obtain ⟨hr, hC1⟩ := sim
  refine lv_icmp_eq (tgt := 1451) hx hb dL_law_1421 (by decide) (fun _ => ?_) (fun hne => absurd hr hne)
  exact W.widen (by omega) (by omega) (K C R1 f H2 ls hC1 hT.1 (hT.2 hN) hPc hPm hPo hS hl)
