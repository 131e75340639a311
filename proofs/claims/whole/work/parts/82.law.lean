-- @needs 80_sim 78_lawkit 81_lawk 40_cC 41_cC 42_cC 43_cC 44_cC 45_cC 46_cC 47_cC 48_cC 49_cC 50_cC 51_cC 52_cC 60_cM 61_cM 62_cM 63_cM 64_cM 65_cM 66_cM 67_cM 68_cM 69_cM 70_cM 71_cM 72_cM 73_cM 74_cM 75_cM 76_cM
set_option maxRecDepth 100000
theorem lc_set {Core : Mem → Mem → Prop} {p : Program} {l : Launch} {e : Env} {s : State} {m : MethodId} {below : List Frame} {meth : Method} {c : Code} {b L : Nat} {xs : Nat → Int32} {ad bd : Nat → Nat} {o : Nat} {D : va_G} {k : Nat → ClassId} {Q : State → Prop} (X : LX p l s m meth c b L xs ad bd o D k) {j : Nat} (hj : 6 * j + 6 ≤ L) (hsim : S_set Core) (K : LG Core p l e s m below meth c b ad bd o D k Q j (106 + (j + 1)) (5192 + 6 * (j + 1)) 1451) : LG Core p l e s m below meth c b ad bd o D k Q j (106 + j) (5192 + 6 * j) 188 := by
  obtain ⟨⟨hx, hb, hml, hown, hG, hX, hbl, hL⟩, ⟨hK, hE, hfl⟩, ⟨had, hbd, hA1, hA2, hAo⟩, hdm, hdc, hdo, hdo2⟩ := X
  intro C R f H ls hC hI hN hPc hPm hPo hS hl
  have hj5 : j < 512 := by omega
  have hcs : 106 + j ≤ room_1.cells ∧ 5192 + 6 * j ≤ room_1.slots := ⟨by show 106 + j ≤ 601024; omega, by show 5192 + 6 * j ≤ 7293034; omega⟩
  have hcs1 : 106 + j + 1 ≤ room_1.cells ∧ 5192 + 6 * j + 6 ≤ room_1.slots := ⟨by show 106 + j + 1 ≤ 601024; omega, by show 5192 + 6 * j + 6 ≤ 7293034; omega⟩
  refine lv_aload_n hx hb dL_law_188 rfl (lv_at hl 1 rfl) ?_
  refine l_ld (o := 1) (i0 := 0) (i4 := 4) hx hb hX hbl hS hl rfl rfl (by omega) hL rfl rfl dL_law_189 dL_law_190 dL_law_192 dL_law_193 dL_law_194 ?_
  refine l_ld (o := 2) (i0 := 0) (i4 := 4) hx hb hX hbl hS hl rfl rfl (by omega) hL rfl rfl dL_law_195 dL_law_196 dL_law_198 dL_law_199 dL_law_200 ?_
  refine lcall_iE [.int (xs (6 * j + 1)), .int (xs (6 * j + 2))] [] hx hb hml hG hown hK ((hE.kept hS.2.1).narrow hA1) (c_X6_set had C (xs (6 * j + 1)) (xs (6 * j + 2))) gw_5_20 ⟨gw_5_21, gw_5_22, gw_1_2, gw_5_23⟩ gd_X6_set rfl rfl ⟨(Nat.le_of_ble_eq_true rfl), (Nat.le_of_ble_eq_true rfl)⟩ hcs (rX6 hK hPc rfl) hPc hA1 hS rfl hl.1 rfl (Nat.le_of_ble_eq_true rfl) dL_law_201 (fun r1 C1 H1 hF1 hPc hk hS => ?_)
  have hPm := l_kept hPm hk (l_d hdm)
  have hPo := l_kept hPo hk (l_do hdo)
  refine lv_aload_n hx hb dL_law_204 rfl (lv_at hl 2 rfl) ?_
  refine l_ld (o := 1) (i0 := 0) (i4 := 4) hx hb hX hbl hS hl rfl rfl (by omega) hL rfl rfl dL_law_205 dL_law_206 dL_law_208 dL_law_209 dL_law_210 ?_
  refine l_ld (o := 2) (i0 := 0) (i4 := 4) hx hb hX hbl hS hl rfl rfl (by omega) hL rfl rfl dL_law_211 dL_law_212 dL_law_214 dL_law_215 dL_law_216 ?_
  refine lcall_i [.int (xs (6 * j + 1)), .int (xs (6 * j + 2))] [.int r1] hx hb hml hG hown hK (c_X7_set hbd R (xs (6 * j + 1)) (xs (6 * j + 2)) hI) gw_6_19 gm_X7_set gd_X7_set rfl rfl ⟨(Nat.le_of_ble_eq_true rfl), (Nat.le_of_ble_eq_true rfl)⟩ hcs (rX7 hK hPm) hPm hA2 hS rfl hl.1 rfl (Nat.le_of_ble_eq_true rfl) dL_law_217 (fun r2 R1 H2 hF2 hPm hk hS => ?_)
  obtain ⟨hF2, hT⟩ := hF2
  have hPc := l_kept hPc hk (l_d hdc)
  have hPo := l_kept hPo hk (l_do hdo2)
  have sim := hsim C R (xs (6 * j + 1)) (xs (6 * j + 2)) hC hI hN
  rw [hF1, hF2] at sim
  obtain ⟨hr, hC1⟩ := sim
  refine lv_icmp_eq (tgt := 1451) hx hb dL_law_220 (by decide) (fun _ => ?_) (fun hne => absurd hr hne)
  exact W.widen (by omega) (by omega) (K C1 R1 f H2 ls hC1 hT.1 (hT.2 hN) hPc hPm hPo hS hl)
theorem lc_wind {Core : Mem → Mem → Prop} {p : Program} {l : Launch} {e : Env} {s : State} {m : MethodId} {below : List Frame} {meth : Method} {c : Code} {b L : Nat} {xs : Nat → Int32} {ad bd : Nat → Nat} {o : Nat} {D : va_G} {k : Nat → ClassId} {Q : State → Prop} (X : LX p l s m meth c b L xs ad bd o D k) {j : Nat} (hj : 6 * j + 6 ≤ L) (hsim : S_wind Core) (K : LG Core p l e s m below meth c b ad bd o D k Q j (106 + (j + 1)) (5192 + 6 * (j + 1)) 1451) : LG Core p l e s m below meth c b ad bd o D k Q j (106 + j) (5192 + 6 * j) 275 := by
  obtain ⟨⟨hx, hb, hml, hown, hG, hX, hbl, hL⟩, ⟨hK, hE, hfl⟩, ⟨had, hbd, hA1, hA2, hAo⟩, hdm, hdc, hdo, hdo2⟩ := X
  intro C R f H ls hC hI hN hPc hPm hPo hS hl
  have hj5 : j < 512 := by omega
  have hcs : 106 + j ≤ room_1.cells ∧ 5192 + 6 * j ≤ room_1.slots := ⟨by show 106 + j ≤ 601024; omega, by show 5192 + 6 * j ≤ 7293034; omega⟩
  have hcs1 : 106 + j + 1 ≤ room_1.cells ∧ 5192 + 6 * j + 6 ≤ room_1.slots := ⟨by show 106 + j + 1 ≤ 601024; omega, by show 5192 + 6 * j + 6 ≤ 7293034; omega⟩
  refine lv_aload_n hx hb dL_law_275 rfl (lv_at hl 1 rfl) ?_
  refine l_ld (o := 1) (i0 := 0) (i4 := 4) hx hb hX hbl hS hl rfl rfl (by omega) hL rfl rfl dL_law_276 dL_law_277 dL_law_279 dL_law_280 dL_law_281 ?_
  refine lcall_i [.int (xs (6 * j + 1))] [] hx hb hml hG hown hK (c_X6_wind had C (xs (6 * j + 1))) gw_11_15 gm_X6_wind gd_X6_wind rfl rfl ⟨(Nat.le_of_ble_eq_true rfl), (Nat.le_of_ble_eq_true rfl)⟩ hcs (rX6 hK hPc rfl) hPc hA1 hS rfl hl.1 rfl (Nat.le_of_ble_eq_true rfl) dL_law_282 (fun r1 C1 H1 hF1 hPc hk hS => ?_)
  have hPm := l_kept hPm hk (l_d hdm)
  have hPo := l_kept hPo hk (l_do hdo)
  refine lv_aload_n hx hb dL_law_285 rfl (lv_at hl 2 rfl) ?_
  refine l_ld (o := 1) (i0 := 0) (i4 := 4) hx hb hX hbl hS hl rfl rfl (by omega) hL rfl rfl dL_law_286 dL_law_287 dL_law_289 dL_law_290 dL_law_291 ?_
  refine lcall_i [.int (xs (6 * j + 1))] [.int r1] hx hb hml hG hown hK (c_X7_wind hbd R (xs (6 * j + 1)) hI) gw_12_11 gm_X7_wind gd_X7_wind rfl rfl ⟨(Nat.le_of_ble_eq_true rfl), (Nat.le_of_ble_eq_true rfl)⟩ hcs (rX7 hK hPm) hPm hA2 hS rfl hl.1 rfl (Nat.le_of_ble_eq_true rfl) dL_law_292 (fun r2 R1 H2 hF2 hPm hk hS => ?_)
  obtain ⟨hF2, hT⟩ := hF2
  have hPc := l_kept hPc hk (l_d hdc)
  have hPo := l_kept hPo hk (l_do hdo2)
  have sim := hsim C R (xs (6 * j + 1)) hC hI hN
  rw [hF1, hF2] at sim
  obtain ⟨hr, hC1⟩ := sim
  refine lv_icmp_eq (tgt := 1451) hx hb dL_law_295 (by decide) (fun _ => ?_) (fun hne => absurd hr hne)
  exact W.widen (by omega) (by omega) (K C1 R1 f H2 ls hC1 hT.1 (hT.2 hN) hPc hPm hPo hS hl)
theorem lc_badAir {Core : Mem → Mem → Prop} {p : Program} {l : Launch} {e : Env} {s : State} {m : MethodId} {below : List Frame} {meth : Method} {c : Code} {b L : Nat} {xs : Nat → Int32} {ad bd : Nat → Nat} {o : Nat} {D : va_G} {k : Nat → ClassId} {Q : State → Prop} (X : LX p l s m meth c b L xs ad bd o D k) {j : Nat} (hj : 6 * j + 6 ≤ L) (hsim : S_badAir Core) (K : LG Core p l e s m below meth c b ad bd o D k Q j (106 + (j + 1)) (5192 + 6 * (j + 1)) 1451) : LG Core p l e s m below meth c b ad bd o D k Q j (106 + j) (5192 + 6 * j) 414 := by
  obtain ⟨⟨hx, hb, hml, hown, hG, hX, hbl, hL⟩, ⟨hK, hE, hfl⟩, ⟨had, hbd, hA1, hA2, hAo⟩, hdm, hdc, hdo, hdo2⟩ := X
  intro C R f H ls hC hI hN hPc hPm hPo hS hl
  have hj5 : j < 512 := by omega
  have hcs : 106 + j ≤ room_1.cells ∧ 5192 + 6 * j ≤ room_1.slots := ⟨by show 106 + j ≤ 601024; omega, by show 5192 + 6 * j ≤ 7293034; omega⟩
  have hcs1 : 106 + j + 1 ≤ room_1.cells ∧ 5192 + 6 * j + 6 ≤ room_1.slots := ⟨by show 106 + j + 1 ≤ 601024; omega, by show 5192 + 6 * j + 6 ≤ 7293034; omega⟩
  refine lv_aload_n hx hb dL_law_414 rfl (lv_at hl 1 rfl) ?_
  refine l_ld (o := 1) (i0 := 0) (i4 := 4) hx hb hX hbl hS hl rfl rfl (by omega) hL rfl rfl dL_law_415 dL_law_416 dL_law_418 dL_law_419 dL_law_420 ?_
  refine lcall_i [.int (xs (6 * j + 1))] [] hx hb hml hG hown hK (c_X6_badAir had C (xs (6 * j + 1))) gw_16_20 gm_X6_badAir gd_X6_badAir rfl rfl ⟨(Nat.le_of_ble_eq_true rfl), (Nat.le_of_ble_eq_true rfl)⟩ hcs (rX6 hK hPc rfl) hPc hA1 hS rfl hl.1 rfl (Nat.le_of_ble_eq_true rfl) dL_law_421 (fun r1 C1 H1 hF1 hPc hk hS => ?_)
  have hPm := l_kept hPm hk (l_d hdm)
  have hPo := l_kept hPo hk (l_do hdo)
  refine lv_aload_n hx hb dL_law_424 rfl (lv_at hl 2 rfl) ?_
  refine l_ld (o := 1) (i0 := 0) (i4 := 4) hx hb hX hbl hS hl rfl rfl (by omega) hL rfl rfl dL_law_425 dL_law_426 dL_law_428 dL_law_429 dL_law_430 ?_
  refine lcall_i [.int (xs (6 * j + 1))] [.int r1] hx hb hml hG hown hK (c_X7_badAir hbd R (xs (6 * j + 1)) hI) gw_17_13 gm_X7_badAir gd_X7_badAir rfl rfl ⟨(Nat.le_of_ble_eq_true rfl), (Nat.le_of_ble_eq_true rfl)⟩ hcs (rX7 hK hPm) hPm hA2 hS rfl hl.1 rfl (Nat.le_of_ble_eq_true rfl) dL_law_431 (fun r2 R1 H2 hF2 hPm hk hS => ?_)
  obtain ⟨hF2, hT⟩ := hF2
  have hPc := l_kept hPc hk (l_d hdc)
  have hPo := l_kept hPo hk (l_do hdo2)
  have sim := hsim C R (xs (6 * j + 1)) hC hI hN
  rw [hF1, hF2] at sim
  obtain ⟨hr, hC1⟩ := sim
  refine lv_icmp_eq (tgt := 1451) hx hb dL_law_434 (by decide) (fun _ => ?_) (fun hne => absurd hr hne)
  exact W.widen (by omega) (by omega) (K C1 R1 f H2 ls hC1 hT.1 (hT.2 hN) hPc hPm hPo hS hl)
theorem lc_anew {Core : Mem → Mem → Prop} {p : Program} {l : Launch} {e : Env} {s : State} {m : MethodId} {below : List Frame} {meth : Method} {c : Code} {b L : Nat} {xs : Nat → Int32} {ad bd : Nat → Nat} {o : Nat} {D : va_G} {k : Nat → ClassId} {Q : State → Prop} (X : LX p l s m meth c b L xs ad bd o D k) {j : Nat} (hj : 6 * j + 6 ≤ L) (hsim : S_anew Core) (K : LG Core p l e s m below meth c b ad bd o D k Q j (106 + (j + 1)) (5192 + 6 * (j + 1)) 1451) : LG Core p l e s m below meth c b ad bd o D k Q j (106 + j) (5192 + 6 * j) 489 := by
  obtain ⟨⟨hx, hb, hml, hown, hG, hX, hbl, hL⟩, ⟨hK, hE, hfl⟩, ⟨had, hbd, hA1, hA2, hAo⟩, hdm, hdc, hdo, hdo2⟩ := X
  intro C R f H ls hC hI hN hPc hPm hPo hS hl
  have hj5 : j < 512 := by omega
  have hcs : 106 + j ≤ room_1.cells ∧ 5192 + 6 * j ≤ room_1.slots := ⟨by show 106 + j ≤ 601024; omega, by show 5192 + 6 * j ≤ 7293034; omega⟩
  have hcs1 : 106 + j + 1 ≤ room_1.cells ∧ 5192 + 6 * j + 6 ≤ room_1.slots := ⟨by show 106 + j + 1 ≤ 601024; omega, by show 5192 + 6 * j + 6 ≤ 7293034; omega⟩
  refine lv_aload_n hx hb dL_law_489 rfl (lv_at hl 1 rfl) ?_
  refine lcall_i [] [] hx hb hml hG hown hK (c_X6_anew had C) gw_25_16 gm_X6_anew gd_X6_anew rfl rfl ⟨(Nat.le_of_ble_eq_true rfl), (Nat.le_of_ble_eq_true rfl)⟩ hcs (rX6 hK hPc rfl) hPc hA1 hS rfl hl.1 rfl (Nat.le_of_ble_eq_true rfl) dL_law_490 (fun r1 C1 H1 hF1 hPc hk hS => ?_)
  have hPm := l_kept hPm hk (l_d hdm)
  have hPo := l_kept hPo hk (l_do hdo)
  refine lv_aload_n hx hb dL_law_493 rfl (lv_at hl 2 rfl) ?_
  refine lcall_i [] [.int r1] hx hb hml hG hown hK (c_X7_anew hbd R hI) gw_26_1 gm_X7_anew gd_X7_anew rfl rfl ⟨(Nat.le_of_ble_eq_true rfl), (Nat.le_of_ble_eq_true rfl)⟩ hcs (rX7 hK hPm) hPm hA2 hS rfl hl.1 rfl (Nat.le_of_ble_eq_true rfl) dL_law_494 (fun r2 R1 H2 hF2 hPm hk hS => ?_)
  obtain ⟨hF2, hT⟩ := hF2
  have hPc := l_kept hPc hk (l_d hdc)
  have hPo := l_kept hPo hk (l_do hdo2)
  have sim := hsim C R hC hI hN
  rw [hF1, hF2] at sim
  obtain ⟨hr, hC1⟩ := sim
  refine lv_icmp_eq (tgt := 1451) hx hb dL_law_497 (by decide) (fun _ => ?_) (fun hne => absurd hr hne)
  exact W.widen (by omega) (by omega) (K C1 R1 f H2 ls hC1 hT.1 (hT.2 hN) hPc hPm hPo hS hl)
theorem lc_tacks {Core : Mem → Mem → Prop} {p : Program} {l : Launch} {e : Env} {s : State} {m : MethodId} {below : List Frame} {meth : Method} {c : Code} {b L : Nat} {xs : Nat → Int32} {ad bd : Nat → Nat} {o : Nat} {D : va_G} {k : Nat → ClassId} {Q : State → Prop} (X : LX p l s m meth c b L xs ad bd o D k) {j : Nat} (hj : 6 * j + 6 ≤ L) (hsim : S_tacks Core) (K : LG Core p l e s m below meth c b ad bd o D k Q j (106 + (j + 1)) (5192 + 6 * (j + 1)) 1451) : LG Core p l e s m below meth c b ad bd o D k Q j (106 + j) (5192 + 6 * j) 552 := by
  obtain ⟨⟨hx, hb, hml, hown, hG, hX, hbl, hL⟩, ⟨hK, hE, hfl⟩, ⟨had, hbd, hA1, hA2, hAo⟩, hdm, hdc, hdo, hdo2⟩ := X
  intro C R f H ls hC hI hN hPc hPm hPo hS hl
  have hj5 : j < 512 := by omega
  have hcs : 106 + j ≤ room_1.cells ∧ 5192 + 6 * j ≤ room_1.slots := ⟨by show 106 + j ≤ 601024; omega, by show 5192 + 6 * j ≤ 7293034; omega⟩
  have hcs1 : 106 + j + 1 ≤ room_1.cells ∧ 5192 + 6 * j + 6 ≤ room_1.slots := ⟨by show 106 + j + 1 ≤ 601024; omega, by show 5192 + 6 * j + 6 ≤ 7293034; omega⟩
  by_cases hz : xs (6 * j + 2) = 0
  · refine lv_aload_n hx hb dL_law_552 rfl (lv_at hl 1 rfl) ?_
    refine l_ld (o := 1) (i0 := 0) (i4 := 4) hx hb hX hbl hS hl rfl rfl (by omega) hL rfl rfl dL_law_553 dL_law_554 dL_law_556 dL_law_557 dL_law_558 ?_
    refine l_ld (o := 2) (i0 := 0) (i4 := 4) hx hb hX hbl hS hl rfl rfl (by omega) hL rfl rfl dL_law_559 dL_law_560 dL_law_562 dL_law_563 dL_law_564 ?_
    refine lv_if_eq (tgt := 572) hx hb dL_law_565 (by decide) (fun _ => ?_) (fun hc => absurd hz hc)
    refine lv_iconst (v := 0) hx hb dL_law_572 (by decide) ?_
    refine l_ld (o := 3) (i0 := 0) (i4 := 4) hx hb hX hbl hS hl rfl rfl (by omega) hL rfl rfl dL_law_573 dL_law_574 dL_law_576 dL_law_577 dL_law_578 ?_
    refine lcall_i [.int (xs (6 * j + 1)), .int (0 : Int32), .int (xs (6 * j + 3))] [] hx hb hml hG hown hK (c_X6_tacks had C (xs (6 * j + 1)) (0 : Int32) (by decide) (xs (6 * j + 3))) gw_29_19 gm_X6_tacks gd_X6_tacks rfl rfl ⟨(Nat.le_of_ble_eq_true rfl), (Nat.le_of_ble_eq_true rfl)⟩ hcs (rX6 hK hPc rfl) hPc hA1 hS rfl hl.1 rfl (Nat.le_of_ble_eq_true rfl) dL_law_579 (fun r1 C1 H1 hF1 hPc hk hS => ?_)
    have hPm := l_kept hPm hk (l_d hdm)
    have hPo := l_kept hPo hk (l_do hdo)
    refine lv_aload_n hx hb dL_law_582 rfl (lv_at hl 2 rfl) ?_
    refine l_ld (o := 1) (i0 := 0) (i4 := 4) hx hb hX hbl hS hl rfl rfl (by omega) hL rfl rfl dL_law_583 dL_law_584 dL_law_586 dL_law_587 dL_law_588 ?_
    refine l_ld (o := 2) (i0 := 0) (i4 := 4) hx hb hX hbl hS hl rfl rfl (by omega) hL rfl rfl dL_law_589 dL_law_590 dL_law_592 dL_law_593 dL_law_594 ?_
    refine lv_if_eq (tgt := 602) hx hb dL_law_595 (by decide) (fun _ => ?_) (fun hc => absurd hz hc)
    refine lv_iconst (v := 0) hx hb dL_law_602 (by decide) ?_
    refine l_ld (o := 3) (i0 := 0) (i4 := 4) hx hb hX hbl hS hl rfl rfl (by omega) hL rfl rfl dL_law_603 dL_law_604 dL_law_606 dL_law_607 dL_law_608 ?_
    refine lcall_i [.int (xs (6 * j + 1)), .int (0 : Int32), .int (xs (6 * j + 3))] [.int r1] hx hb hml hG hown hK (c_X7_tacks hbd R (xs (6 * j + 1)) (0 : Int32) (by decide) (xs (6 * j + 3)) hI) gw_30_7 gm_X7_tacks gd_X7_tacks rfl rfl ⟨(Nat.le_of_ble_eq_true rfl), (Nat.le_of_ble_eq_true rfl)⟩ hcs (rX7 hK hPm) hPm hA2 hS rfl hl.1 rfl (Nat.le_of_ble_eq_true rfl) dL_law_609 (fun r2 R1 H2 hF2 hPm hk hS => ?_)
    obtain ⟨hF2, hT⟩ := hF2
    have hPc := l_kept hPc hk (l_d hdc)
    have hPo := l_kept hPo hk (l_do hdo2)
    have sim := hsim C R (xs (6 * j + 1)) (0 : Int32) (xs (6 * j + 3)) hC hI hN (by decide)
    rw [hF1, hF2] at sim
    obtain ⟨hr, hC1⟩ := sim
    refine lv_icmp_eq (tgt := 1451) hx hb dL_law_612 (by decide) (fun _ => ?_) (fun hne => absurd hr hne)
    exact W.widen (by omega) (by omega) (K C1 R1 f H2 ls hC1 hT.1 (hT.2 hN) hPc hPm hPo hS hl)
  · refine lv_aload_n hx hb dL_law_552 rfl (lv_at hl 1 rfl) ?_
    refine l_ld (o := 1) (i0 := 0) (i4 := 4) hx hb hX hbl hS hl rfl rfl (by omega) hL rfl rfl dL_law_553 dL_law_554 dL_law_556 dL_law_557 dL_law_558 ?_
    refine l_ld (o := 2) (i0 := 0) (i4 := 4) hx hb hX hbl hS hl rfl rfl (by omega) hL rfl rfl dL_law_559 dL_law_560 dL_law_562 dL_law_563 dL_law_564 ?_
    refine lv_if_eq (tgt := 572) hx hb dL_law_565 (by decide) (fun hc => absurd hc hz) (fun _ => ?_)
    refine lv_iconst (v := 1) hx hb dL_law_568 (by decide) ?_
    refine lv_goto (tgt := 573) hx hb dL_law_569 (by decide) ?_
    refine l_ld (o := 3) (i0 := 0) (i4 := 4) hx hb hX hbl hS hl rfl rfl (by omega) hL rfl rfl dL_law_573 dL_law_574 dL_law_576 dL_law_577 dL_law_578 ?_
    refine lcall_i [.int (xs (6 * j + 1)), .int (1 : Int32), .int (xs (6 * j + 3))] [] hx hb hml hG hown hK (c_X6_tacks had C (xs (6 * j + 1)) (1 : Int32) (by decide) (xs (6 * j + 3))) gw_29_19 gm_X6_tacks gd_X6_tacks rfl rfl ⟨(Nat.le_of_ble_eq_true rfl), (Nat.le_of_ble_eq_true rfl)⟩ hcs (rX6 hK hPc rfl) hPc hA1 hS rfl hl.1 rfl (Nat.le_of_ble_eq_true rfl) dL_law_579 (fun r1 C1 H1 hF1 hPc hk hS => ?_)
    have hPm := l_kept hPm hk (l_d hdm)
    have hPo := l_kept hPo hk (l_do hdo)
    refine lv_aload_n hx hb dL_law_582 rfl (lv_at hl 2 rfl) ?_
    refine l_ld (o := 1) (i0 := 0) (i4 := 4) hx hb hX hbl hS hl rfl rfl (by omega) hL rfl rfl dL_law_583 dL_law_584 dL_law_586 dL_law_587 dL_law_588 ?_
    refine l_ld (o := 2) (i0 := 0) (i4 := 4) hx hb hX hbl hS hl rfl rfl (by omega) hL rfl rfl dL_law_589 dL_law_590 dL_law_592 dL_law_593 dL_law_594 ?_
    refine lv_if_eq (tgt := 602) hx hb dL_law_595 (by decide) (fun hc => absurd hc hz) (fun _ => ?_)
    refine lv_iconst (v := 1) hx hb dL_law_598 (by decide) ?_
    refine lv_goto (tgt := 603) hx hb dL_law_599 (by decide) ?_
    refine l_ld (o := 3) (i0 := 0) (i4 := 4) hx hb hX hbl hS hl rfl rfl (by omega) hL rfl rfl dL_law_603 dL_law_604 dL_law_606 dL_law_607 dL_law_608 ?_
    refine lcall_i [.int (xs (6 * j + 1)), .int (1 : Int32), .int (xs (6 * j + 3))] [.int r1] hx hb hml hG hown hK (c_X7_tacks hbd R (xs (6 * j + 1)) (1 : Int32) (by decide) (xs (6 * j + 3)) hI) gw_30_7 gm_X7_tacks gd_X7_tacks rfl rfl ⟨(Nat.le_of_ble_eq_true rfl), (Nat.le_of_ble_eq_true rfl)⟩ hcs (rX7 hK hPm) hPm hA2 hS rfl hl.1 rfl (Nat.le_of_ble_eq_true rfl) dL_law_609 (fun r2 R1 H2 hF2 hPm hk hS => ?_)
    obtain ⟨hF2, hT⟩ := hF2
    have hPc := l_kept hPc hk (l_d hdc)
    have hPo := l_kept hPo hk (l_do hdo2)
    have sim := hsim C R (xs (6 * j + 1)) (1 : Int32) (xs (6 * j + 3)) hC hI hN (by decide)
    rw [hF1, hF2] at sim
    obtain ⟨hr, hC1⟩ := sim
    refine lv_icmp_eq (tgt := 1451) hx hb dL_law_612 (by decide) (fun _ => ?_) (fun hne => absurd hr hne)
    exact W.widen (by omega) (by omega) (K C1 R1 f H2 ls hC1 hT.1 (hT.2 hN) hPc hPm hPo hS hl)
theorem lc_lead {Core : Mem → Mem → Prop} {p : Program} {l : Launch} {e : Env} {s : State} {m : MethodId} {below : List Frame} {meth : Method} {c : Code} {b L : Nat} {xs : Nat → Int32} {ad bd : Nat → Nat} {o : Nat} {D : va_G} {k : Nat → ClassId} {Q : State → Prop} (X : LX p l s m meth c b L xs ad bd o D k) {j : Nat} (hj : 6 * j + 6 ≤ L) (hsim : S_lead Core) (K : LG Core p l e s m below meth c b ad bd o D k Q j (106 + (j + 1)) (5192 + 6 * (j + 1)) 1451) : LG Core p l e s m below meth c b ad bd o D k Q j (106 + j) (5192 + 6 * j) 695 := by
  obtain ⟨⟨hx, hb, hml, hown, hG, hX, hbl, hL⟩, ⟨hK, hE, hfl⟩, ⟨had, hbd, hA1, hA2, hAo⟩, hdm, hdc, hdo, hdo2⟩ := X
  intro C R f H ls hC hI hN hPc hPm hPo hS hl
  have hj5 : j < 512 := by omega
  have hcs : 106 + j ≤ room_1.cells ∧ 5192 + 6 * j ≤ room_1.slots := ⟨by show 106 + j ≤ 601024; omega, by show 5192 + 6 * j ≤ 7293034; omega⟩
  have hcs1 : 106 + j + 1 ≤ room_1.cells ∧ 5192 + 6 * j + 6 ≤ room_1.slots := ⟨by show 106 + j + 1 ≤ 601024; omega, by show 5192 + 6 * j + 6 ≤ 7293034; omega⟩
  refine lv_aload_n hx hb dL_law_695 rfl (lv_at hl 1 rfl) ?_
  refine l_ld (o := 1) (i0 := 0) (i4 := 4) hx hb hX hbl hS hl rfl rfl (by omega) hL rfl rfl dL_law_696 dL_law_697 dL_law_699 dL_law_700 dL_law_701 ?_
  refine l_ld (o := 2) (i0 := 0) (i4 := 4) hx hb hX hbl hS hl rfl rfl (by omega) hL rfl rfl dL_law_702 dL_law_703 dL_law_705 dL_law_706 dL_law_707 ?_
  refine l_ld (o := 3) (i0 := 0) (i4 := 4) hx hb hX hbl hS hl rfl rfl (by omega) hL rfl rfl dL_law_708 dL_law_709 dL_law_711 dL_law_712 dL_law_713 ?_
  refine l_ld (o := 4) (i0 := 0) (i4 := 4) hx hb hX hbl hS hl rfl rfl (by omega) hL rfl rfl dL_law_714 dL_law_715 dL_law_717 dL_law_718 dL_law_719 ?_
  refine l_ld (o := 5) (i0 := 0) (i4 := 4) hx hb hX hbl hS hl rfl rfl (by omega) hL rfl rfl dL_law_720 dL_law_721 dL_law_723 dL_law_724 dL_law_725 ?_
  refine lcall_i [.int (xs (6 * j + 1)), .int (xs (6 * j + 2)), .int (xs (6 * j + 3)), .int (xs (6 * j + 4)), .int (xs (6 * j + 5))] [] hx hb hml hG hown hK (c_X6_lead had C (xs (6 * j + 1)) (xs (6 * j + 2)) (xs (6 * j + 3)) (xs (6 * j + 4)) (xs (6 * j + 5))) gw_32_11 gm_X6_lead gd_X6_lead rfl rfl ⟨(Nat.le_of_ble_eq_true rfl), (Nat.le_of_ble_eq_true rfl)⟩ hcs (rX6 hK hPc rfl) hPc hA1 hS rfl hl.1 rfl (Nat.le_of_ble_eq_true rfl) dL_law_726 (fun r1 C1 H1 hF1 hPc hk hS => ?_)
  have hPm := l_kept hPm hk (l_d hdm)
  have hPo := l_kept hPo hk (l_do hdo)
  refine lv_aload_n hx hb dL_law_729 rfl (lv_at hl 2 rfl) ?_
  refine l_ld (o := 1) (i0 := 0) (i4 := 4) hx hb hX hbl hS hl rfl rfl (by omega) hL rfl rfl dL_law_730 dL_law_731 dL_law_733 dL_law_734 dL_law_735 ?_
  refine l_ld (o := 2) (i0 := 0) (i4 := 4) hx hb hX hbl hS hl rfl rfl (by omega) hL rfl rfl dL_law_736 dL_law_737 dL_law_739 dL_law_740 dL_law_741 ?_
  refine l_ld (o := 3) (i0 := 0) (i4 := 4) hx hb hX hbl hS hl rfl rfl (by omega) hL rfl rfl dL_law_742 dL_law_743 dL_law_745 dL_law_746 dL_law_747 ?_
  refine l_ld (o := 4) (i0 := 0) (i4 := 4) hx hb hX hbl hS hl rfl rfl (by omega) hL rfl rfl dL_law_748 dL_law_749 dL_law_751 dL_law_752 dL_law_753 ?_
  refine l_ld (o := 5) (i0 := 0) (i4 := 4) hx hb hX hbl hS hl rfl rfl (by omega) hL rfl rfl dL_law_754 dL_law_755 dL_law_757 dL_law_758 dL_law_759 ?_
  refine lcall_i [.int (xs (6 * j + 1)), .int (xs (6 * j + 2)), .int (xs (6 * j + 3)), .int (xs (6 * j + 4)), .int (xs (6 * j + 5))] [.int r1] hx hb hml hG hown hK (c_X7_lead hbd R (xs (6 * j + 1)) (xs (6 * j + 2)) (xs (6 * j + 3)) (xs (6 * j + 4)) (xs (6 * j + 5)) hI) gw_33_8 gm_X7_lead gd_X7_lead rfl rfl ⟨(Nat.le_of_ble_eq_true rfl), (Nat.le_of_ble_eq_true rfl)⟩ hcs (rX7 hK hPm) hPm hA2 hS rfl hl.1 rfl (Nat.le_of_ble_eq_true rfl) dL_law_760 (fun r2 R1 H2 hF2 hPm hk hS => ?_)
  obtain ⟨hF2, hT⟩ := hF2
  have hPc := l_kept hPc hk (l_d hdc)
  have hPo := l_kept hPo hk (l_do hdo2)
  have sim := hsim C R (xs (6 * j + 1)) (xs (6 * j + 2)) (xs (6 * j + 3)) (xs (6 * j + 4)) (xs (6 * j + 5)) hC hI hN
  rw [hF1, hF2] at sim
  obtain ⟨hr, hC1⟩ := sim
  refine lv_icmp_eq (tgt := 1451) hx hb dL_law_763 (by decide) (fun _ => ?_) (fun hne => absurd hr hne)
  exact W.widen (by omega) (by omega) (K C1 R1 f H2 ls hC1 hT.1 (hT.2 hN) hPc hPm hPo hS hl)
theorem lc_cover {Core : Mem → Mem → Prop} {p : Program} {l : Launch} {e : Env} {s : State} {m : MethodId} {below : List Frame} {meth : Method} {c : Code} {b L : Nat} {xs : Nat → Int32} {ad bd : Nat → Nat} {o : Nat} {D : va_G} {k : Nat → ClassId} {Q : State → Prop} (X : LX p l s m meth c b L xs ad bd o D k) {j : Nat} (hj : 6 * j + 6 ≤ L) (hsim : S_cover Core) (K : LG Core p l e s m below meth c b ad bd o D k Q j (106 + (j + 1)) (5192 + 6 * (j + 1)) 1451) : LG Core p l e s m below meth c b ad bd o D k Q j (106 + j) (5192 + 6 * j) 890 := by
  obtain ⟨⟨hx, hb, hml, hown, hG, hX, hbl, hL⟩, ⟨hK, hE, hfl⟩, ⟨had, hbd, hA1, hA2, hAo⟩, hdm, hdc, hdo, hdo2⟩ := X
  intro C R f H ls hC hI hN hPc hPm hPo hS hl
  have hj5 : j < 512 := by omega
  have hcs : 106 + j ≤ room_1.cells ∧ 5192 + 6 * j ≤ room_1.slots := ⟨by show 106 + j ≤ 601024; omega, by show 5192 + 6 * j ≤ 7293034; omega⟩
  have hcs1 : 106 + j + 1 ≤ room_1.cells ∧ 5192 + 6 * j + 6 ≤ room_1.slots := ⟨by show 106 + j + 1 ≤ 601024; omega, by show 5192 + 6 * j + 6 ≤ 7293034; omega⟩
  refine lv_aload_n hx hb dL_law_890 rfl (lv_at hl 1 rfl) ?_
  refine l_ld (o := 1) (i0 := 0) (i4 := 4) hx hb hX hbl hS hl rfl rfl (by omega) hL rfl rfl dL_law_891 dL_law_892 dL_law_894 dL_law_895 dL_law_896 ?_
  refine l_ld (o := 2) (i0 := 0) (i4 := 4) hx hb hX hbl hS hl rfl rfl (by omega) hL rfl rfl dL_law_897 dL_law_898 dL_law_900 dL_law_901 dL_law_902 ?_
  refine l_ld (o := 3) (i0 := 0) (i4 := 4) hx hb hX hbl hS hl rfl rfl (by omega) hL rfl rfl dL_law_903 dL_law_904 dL_law_906 dL_law_907 dL_law_908 ?_
  refine l_ld (o := 4) (i0 := 0) (i4 := 4) hx hb hX hbl hS hl rfl rfl (by omega) hL rfl rfl dL_law_909 dL_law_910 dL_law_912 dL_law_913 dL_law_914 ?_
  refine lcall_i [.int (xs (6 * j + 1)), .int (xs (6 * j + 2)), .int (xs (6 * j + 3)), .int (xs (6 * j + 4))] [] hx hb hml hG hown hK (c_X6_cover had C (xs (6 * j + 1)) (xs (6 * j + 2)) (xs (6 * j + 3)) (xs (6 * j + 4))) gw_35_6 gm_X6_cover gd_X6_cover rfl rfl ⟨(Nat.le_of_ble_eq_true rfl), (Nat.le_of_ble_eq_true rfl)⟩ hcs (rX6 hK hPc rfl) hPc hA1 hS rfl hl.1 rfl (Nat.le_of_ble_eq_true rfl) dL_law_915 (fun r1 C1 H1 hF1 hPc hk hS => ?_)
  have hPm := l_kept hPm hk (l_d hdm)
  have hPo := l_kept hPo hk (l_do hdo)
  refine lv_aload_n hx hb dL_law_918 rfl (lv_at hl 2 rfl) ?_
  refine l_ld (o := 1) (i0 := 0) (i4 := 4) hx hb hX hbl hS hl rfl rfl (by omega) hL rfl rfl dL_law_919 dL_law_920 dL_law_922 dL_law_923 dL_law_924 ?_
  refine l_ld (o := 2) (i0 := 0) (i4 := 4) hx hb hX hbl hS hl rfl rfl (by omega) hL rfl rfl dL_law_925 dL_law_926 dL_law_928 dL_law_929 dL_law_930 ?_
  refine l_ld (o := 3) (i0 := 0) (i4 := 4) hx hb hX hbl hS hl rfl rfl (by omega) hL rfl rfl dL_law_931 dL_law_932 dL_law_934 dL_law_935 dL_law_936 ?_
  refine l_ld (o := 4) (i0 := 0) (i4 := 4) hx hb hX hbl hS hl rfl rfl (by omega) hL rfl rfl dL_law_937 dL_law_938 dL_law_940 dL_law_941 dL_law_942 ?_
  refine lcall_i [.int (xs (6 * j + 1)), .int (xs (6 * j + 2)), .int (xs (6 * j + 3)), .int (xs (6 * j + 4))] [.int r1] hx hb hml hG hown hK (c_X7_cover hbd R (xs (6 * j + 1)) (xs (6 * j + 2)) (xs (6 * j + 3)) (xs (6 * j + 4)) hI) gw_35_10 gm_X7_cover gd_X7_cover rfl rfl ⟨(Nat.le_of_ble_eq_true rfl), (Nat.le_of_ble_eq_true rfl)⟩ hcs (rX7 hK hPm) hPm hA2 hS rfl hl.1 rfl (Nat.le_of_ble_eq_true rfl) dL_law_943 (fun r2 R1 H2 hF2 hPm hk hS => ?_)
  obtain ⟨hF2, hT⟩ := hF2
  have hPc := l_kept hPc hk (l_d hdc)
  have hPo := l_kept hPo hk (l_do hdo2)
  have sim := hsim C R (xs (6 * j + 1)) (xs (6 * j + 2)) (xs (6 * j + 3)) (xs (6 * j + 4)) hC hI hN
  rw [hF1, hF2] at sim
  obtain ⟨hr, hC1⟩ := sim
  refine lv_icmp_eq (tgt := 1451) hx hb dL_law_946 (by decide) (fun _ => ?_) (fun hne => absurd hr hne)
  exact W.widen (by omega) (by omega) (K C1 R1 f H2 ls hC1 hT.1 (hT.2 hN) hPc hPm hPo hS hl)
theorem lc_worth {Core : Mem → Mem → Prop} {p : Program} {l : Launch} {e : Env} {s : State} {m : MethodId} {below : List Frame} {meth : Method} {c : Code} {b L : Nat} {xs : Nat → Int32} {ad bd : Nat → Nat} {o : Nat} {D : va_G} {k : Nat → ClassId} {Q : State → Prop} (X : LX p l s m meth c b L xs ad bd o D k) {j : Nat} (hj : 6 * j + 6 ≤ L) (hsim : S_worth Core) (K : LG Core p l e s m below meth c b ad bd o D k Q j (106 + (j + 1)) (5192 + 6 * (j + 1)) 1451) : LG Core p l e s m below meth c b ad bd o D k Q j (106 + j) (5192 + 6 * j) 1013 := by
  obtain ⟨⟨hx, hb, hml, hown, hG, hX, hbl, hL⟩, ⟨hK, hE, hfl⟩, ⟨had, hbd, hA1, hA2, hAo⟩, hdm, hdc, hdo, hdo2⟩ := X
  intro C R f H ls hC hI hN hPc hPm hPo hS hl
  have hj5 : j < 512 := by omega
  have hcs : 106 + j ≤ room_1.cells ∧ 5192 + 6 * j ≤ room_1.slots := ⟨by show 106 + j ≤ 601024; omega, by show 5192 + 6 * j ≤ 7293034; omega⟩
  have hcs1 : 106 + j + 1 ≤ room_1.cells ∧ 5192 + 6 * j + 6 ≤ room_1.slots := ⟨by show 106 + j + 1 ≤ 601024; omega, by show 5192 + 6 * j + 6 ≤ 7293034; omega⟩
  refine lv_aload_n hx hb dL_law_1013 rfl (lv_at hl 1 rfl) ?_
  refine l_ld (o := 1) (i0 := 0) (i4 := 4) hx hb hX hbl hS hl rfl rfl (by omega) hL rfl rfl dL_law_1014 dL_law_1015 dL_law_1017 dL_law_1018 dL_law_1019 ?_
  refine l_ld (o := 2) (i0 := 0) (i4 := 4) hx hb hX hbl hS hl rfl rfl (by omega) hL rfl rfl dL_law_1020 dL_law_1021 dL_law_1023 dL_law_1024 dL_law_1025 ?_
  refine lcall_i [.int (xs (6 * j + 1)), .int (xs (6 * j + 2))] [] hx hb hml hG hown hK (c_X6_worth had C (xs (6 * j + 1)) (xs (6 * j + 2))) gw_37_14 gm_X6_worth gd_X6_worth rfl rfl ⟨(Nat.le_of_ble_eq_true rfl), (Nat.le_of_ble_eq_true rfl)⟩ hcs (rX6 hK hPc rfl) hPc hA1 hS rfl hl.1 rfl (Nat.le_of_ble_eq_true rfl) dL_law_1026 (fun r1 C1 H1 hF1 hPc hk hS => ?_)
  have hPm := l_kept hPm hk (l_d hdm)
  have hPo := l_kept hPo hk (l_do hdo)
  refine lv_aload_n hx hb dL_law_1029 rfl (lv_at hl 2 rfl) ?_
  refine l_ld (o := 1) (i0 := 0) (i4 := 4) hx hb hX hbl hS hl rfl rfl (by omega) hL rfl rfl dL_law_1030 dL_law_1031 dL_law_1033 dL_law_1034 dL_law_1035 ?_
  refine l_ld (o := 2) (i0 := 0) (i4 := 4) hx hb hX hbl hS hl rfl rfl (by omega) hL rfl rfl dL_law_1036 dL_law_1037 dL_law_1039 dL_law_1040 dL_law_1041 ?_
  refine lcall_i [.int (xs (6 * j + 1)), .int (xs (6 * j + 2))] [.int r1] hx hb hml hG hown hK (c_X7_worth hbd R (xs (6 * j + 1)) (xs (6 * j + 2)) hI) gw_38_16 gm_X7_worth gd_X7_worth rfl rfl ⟨(Nat.le_of_ble_eq_true rfl), (Nat.le_of_ble_eq_true rfl)⟩ hcs (rX7 hK hPm) hPm hA2 hS rfl hl.1 rfl (Nat.le_of_ble_eq_true rfl) dL_law_1042 (fun r2 R1 H2 hF2 hPm hk hS => ?_)
  obtain ⟨hF2, hT⟩ := hF2
  have hPc := l_kept hPc hk (l_d hdc)
  have hPo := l_kept hPo hk (l_do hdo2)
  have sim := hsim C R (xs (6 * j + 1)) (xs (6 * j + 2)) hC hI hN
  rw [hF1, hF2] at sim
  obtain ⟨hr, hC1⟩ := sim
  refine lv_icmp_eq (tgt := 1451) hx hb dL_law_1045 (by decide) (fun _ => ?_) (fun hne => absurd hr hne)
  exact W.widen (by omega) (by omega) (K C1 R1 f H2 ls hC1 hT.1 (hT.2 hN) hPc hPm hPo hS hl)
theorem lc_restore {Core : Mem → Mem → Prop} {p : Program} {l : Launch} {e : Env} {s : State} {m : MethodId} {below : List Frame} {meth : Method} {c : Code} {b L : Nat} {xs : Nat → Int32} {ad bd : Nat → Nat} {o : Nat} {D : va_G} {k : Nat → ClassId} {Q : State → Prop} (X : LX p l s m meth c b L xs ad bd o D k) {j : Nat} (hj : 6 * j + 6 ≤ L) (hsim : S_restore Core) (K : LG Core p l e s m below meth c b ad bd o D k Q j (106 + (j + 1)) (5192 + 6 * (j + 1)) 1451) : LG Core p l e s m below meth c b ad bd o D k Q j (106 + j) (5192 + 6 * j) 1076 := by
  obtain ⟨⟨hx, hb, hml, hown, hG, hX, hbl, hL⟩, ⟨hK, hE, hfl⟩, ⟨had, hbd, hA1, hA2, hAo⟩, hdm, hdc, hdo, hdo2⟩ := X
  intro C R f H ls hC hI hN hPc hPm hPo hS hl
  have hj5 : j < 512 := by omega
  have hcs : 106 + j ≤ room_1.cells ∧ 5192 + 6 * j ≤ room_1.slots := ⟨by show 106 + j ≤ 601024; omega, by show 5192 + 6 * j ≤ 7293034; omega⟩
  have hcs1 : 106 + j + 1 ≤ room_1.cells ∧ 5192 + 6 * j + 6 ≤ room_1.slots := ⟨by show 106 + j + 1 ≤ 601024; omega, by show 5192 + 6 * j + 6 ≤ 7293034; omega⟩
  refine lv_aload_n hx hb dL_law_1076 rfl (lv_at hl 1 rfl) ?_
  refine lcall_i [] [] hx hb hml hG hown hK (c_X6_restore had C) gw_39_14 gm_X6_restore gd_X6_restore rfl rfl ⟨(Nat.le_of_ble_eq_true rfl), (Nat.le_of_ble_eq_true rfl)⟩ hcs (rX6 hK hPc rfl) hPc hA1 hS rfl hl.1 rfl (Nat.le_of_ble_eq_true rfl) dL_law_1077 (fun r1 C1 H1 hF1 hPc hk hS => ?_)
  have hPm := l_kept hPm hk (l_d hdm)
  have hPo := l_kept hPo hk (l_do hdo)
  refine lv_aload_n hx hb dL_law_1080 rfl (lv_at hl 2 rfl) ?_
  refine lcall_i [] [.int r1] hx hb hml hG hown hK (c_X7_restore hbd R hI) gw_39_18 gm_X7_restore gd_X7_restore rfl rfl ⟨(Nat.le_of_ble_eq_true rfl), (Nat.le_of_ble_eq_true rfl)⟩ hcs (rX7 hK hPm) hPm hA2 hS rfl hl.1 rfl (Nat.le_of_ble_eq_true rfl) dL_law_1081 (fun r2 R1 H2 hF2 hPm hk hS => ?_)
  obtain ⟨hF2, hT⟩ := hF2
  have hPc := l_kept hPc hk (l_d hdc)
  have hPo := l_kept hPo hk (l_do hdo2)
  have sim := hsim C R hC hI hN
  rw [hF1, hF2] at sim
  obtain ⟨hr, hC1⟩ := sim
  refine lv_icmp_eq (tgt := 1451) hx hb dL_law_1084 (by decide) (fun _ => ?_) (fun hne => absurd hr hne)
  exact W.widen (by omega) (by omega) (K C1 R1 f H2 ls hC1 hT.1 (hT.2 hN) hPc hPm hPo hS hl)
theorem lc_row {Core : Mem → Mem → Prop} {p : Program} {l : Launch} {e : Env} {s : State} {m : MethodId} {below : List Frame} {meth : Method} {c : Code} {b L : Nat} {xs : Nat → Int32} {ad bd : Nat → Nat} {o : Nat} {D : va_G} {k : Nat → ClassId} {Q : State → Prop} (X : LX p l s m meth c b L xs ad bd o D k) {j : Nat} (hj : 6 * j + 6 ≤ L) (hsim : S_row Core) (K : LG Core p l e s m below meth c b ad bd o D k Q j (106 + (j + 1)) (5192 + 6 * (j + 1)) 1451) : LG Core p l e s m below meth c b ad bd o D k Q j (106 + j) (5192 + 6 * j) 1163 := by
  obtain ⟨⟨hx, hb, hml, hown, hG, hX, hbl, hL⟩, ⟨hK, hE, hfl⟩, ⟨had, hbd, hA1, hA2, hAo⟩, hdm, hdc, hdo, hdo2⟩ := X
  intro C R f H ls hC hI hN hPc hPm hPo hS hl
  have hj5 : j < 512 := by omega
  have hcs : 106 + j ≤ room_1.cells ∧ 5192 + 6 * j ≤ room_1.slots := ⟨by show 106 + j ≤ 601024; omega, by show 5192 + 6 * j ≤ 7293034; omega⟩
  have hcs1 : 106 + j + 1 ≤ room_1.cells ∧ 5192 + 6 * j + 6 ≤ room_1.slots := ⟨by show 106 + j + 1 ≤ 601024; omega, by show 5192 + 6 * j + 6 ≤ 7293034; omega⟩
  refine lv_aload_n hx hb dL_law_1163 rfl (lv_at hl 1 rfl) ?_
  refine l_ld (o := 1) (i0 := 0) (i4 := 4) hx hb hX hbl hS hl rfl rfl (by omega) hL rfl rfl dL_law_1164 dL_law_1165 dL_law_1167 dL_law_1168 dL_law_1169 ?_
  refine l_ld (o := 2) (i0 := 0) (i4 := 4) hx hb hX hbl hS hl rfl rfl (by omega) hL rfl rfl dL_law_1170 dL_law_1171 dL_law_1173 dL_law_1174 dL_law_1175 ?_
  refine l_ld (o := 3) (i0 := 0) (i4 := 4) hx hb hX hbl hS hl rfl rfl (by omega) hL rfl rfl dL_law_1176 dL_law_1177 dL_law_1179 dL_law_1180 dL_law_1181 ?_
  refine lcall_i [.int (xs (6 * j + 1)), .int (xs (6 * j + 2)), .int (xs (6 * j + 3))] [] hx hb hml hG hown hK (c_X6_row had C (xs (6 * j + 1)) (xs (6 * j + 2)) (xs (6 * j + 3))) gw_41_10 gm_X6_row gd_X6_row rfl rfl ⟨(Nat.le_of_ble_eq_true rfl), (Nat.le_of_ble_eq_true rfl)⟩ hcs (rX6 hK hPc rfl) hPc hA1 hS rfl hl.1 rfl (Nat.le_of_ble_eq_true rfl) dL_law_1182 (fun r1 C1 H1 hF1 hPc hk hS => ?_)
  have hPm := l_kept hPm hk (l_d hdm)
  have hPo := l_kept hPo hk (l_do hdo)
  refine lv_aload_n hx hb dL_law_1185 rfl (lv_at hl 2 rfl) ?_
  refine l_ld (o := 1) (i0 := 0) (i4 := 4) hx hb hX hbl hS hl rfl rfl (by omega) hL rfl rfl dL_law_1186 dL_law_1187 dL_law_1189 dL_law_1190 dL_law_1191 ?_
  refine l_ld (o := 2) (i0 := 0) (i4 := 4) hx hb hX hbl hS hl rfl rfl (by omega) hL rfl rfl dL_law_1192 dL_law_1193 dL_law_1195 dL_law_1196 dL_law_1197 ?_
  refine l_ld (o := 3) (i0 := 0) (i4 := 4) hx hb hX hbl hS hl rfl rfl (by omega) hL rfl rfl dL_law_1198 dL_law_1199 dL_law_1201 dL_law_1202 dL_law_1203 ?_
  refine lcall_i [.int (xs (6 * j + 1)), .int (xs (6 * j + 2)), .int (xs (6 * j + 3))] [.int r1] hx hb hml hG hown hK (c_X7_row hbd R (xs (6 * j + 1)) (xs (6 * j + 2)) (xs (6 * j + 3)) hI) gw_41_19 gm_X7_row gd_X7_row rfl rfl ⟨(Nat.le_of_ble_eq_true rfl), (Nat.le_of_ble_eq_true rfl)⟩ hcs (rX7 hK hPm) hPm hA2 hS rfl hl.1 rfl (Nat.le_of_ble_eq_true rfl) dL_law_1204 (fun r2 R1 H2 hF2 hPm hk hS => ?_)
  obtain ⟨hF2, hT⟩ := hF2
  have hPc := l_kept hPc hk (l_d hdc)
  have hPo := l_kept hPo hk (l_do hdo2)
  have sim := hsim C R (xs (6 * j + 1)) (xs (6 * j + 2)) (xs (6 * j + 3)) hC hI hN
  rw [hF1, hF2] at sim
  obtain ⟨hr, hC1⟩ := sim
  refine lv_icmp_eq (tgt := 1451) hx hb dL_law_1207 (by decide) (fun _ => ?_) (fun hne => absurd hr hne)
  exact W.widen (by omega) (by omega) (K C1 R1 f H2 ls hC1 hT.1 (hT.2 hN) hPc hPm hPo hS hl)
theorem lc_copy {Core : Mem → Mem → Prop} {p : Program} {l : Launch} {e : Env} {s : State} {m : MethodId} {below : List Frame} {meth : Method} {c : Code} {b L : Nat} {xs : Nat → Int32} {ad bd : Nat → Nat} {o : Nat} {D : va_G} {k : Nat → ClassId} {Q : State → Prop} (X : LX p l s m meth c b L xs ad bd o D k) {j : Nat} (hj : 6 * j + 6 ≤ L) (hsim : S_copy Core) (hcp : ∀ C R : Mem, Core C R → ∀ i : Nat, kShf i → 0 ≤ (C i 3).toInt ∧ (C i 3).toInt ≤ 100) (K : LG Core p l e s m below meth c b ad bd o D k Q j (106 + (j + 1)) (5192 + 6 * (j + 1)) 1451) : LG Core p l e s m below meth c b ad bd o D k Q j (106 + j) (5192 + 6 * j) 1328 := by
  obtain ⟨⟨hx, hb, hml, hown, hG, hX, hbl, hL⟩, ⟨hK, hE, hfl⟩, ⟨had, hbd, hA1, hA2, hAo⟩, hdm, hdc, hdo, hdo2⟩ := X
  intro C R f H ls hC hI hN hPc hPm hPo hS hl
  have hj5 : j < 512 := by omega
  have hcs : 106 + j ≤ room_1.cells ∧ 5192 + 6 * j ≤ room_1.slots := ⟨by show 106 + j ≤ 601024; omega, by show 5192 + 6 * j ≤ 7293034; omega⟩
  have hcs1 : 106 + j + 1 ≤ room_1.cells ∧ 5192 + 6 * j + 6 ≤ room_1.slots := ⟨by show 106 + j + 1 ≤ 601024; omega, by show 5192 + 6 * j + 6 ≤ 7293034; omega⟩
  refine lv_aload_n hx hb dL_law_1328 rfl (lv_at hl 1 rfl) ?_
  refine l_ld (o := 1) (i0 := 0) (i4 := 4) hx hb hX hbl hS hl rfl rfl (by omega) hL rfl rfl dL_law_1329 dL_law_1330 dL_law_1332 dL_law_1333 dL_law_1334 ?_
  refine l_ld (o := 2) (i0 := 0) (i4 := 4) hx hb hX hbl hS hl rfl rfl (by omega) hL rfl rfl dL_law_1335 dL_law_1336 dL_law_1338 dL_law_1339 dL_law_1340 ?_
  refine l_ld (o := 3) (i0 := 0) (i4 := 4) hx hb hX hbl hS hl rfl rfl (by omega) hL rfl rfl dL_law_1341 dL_law_1342 dL_law_1344 dL_law_1345 dL_law_1346 ?_
  refine l_ld (o := 4) (i0 := 0) (i4 := 4) hx hb hX hbl hS hl rfl rfl (by omega) hL rfl rfl dL_law_1347 dL_law_1348 dL_law_1350 dL_law_1351 dL_law_1352 ?_
  refine l_ld (o := 5) (i0 := 0) (i4 := 4) hx hb hX hbl hS hl rfl rfl (by omega) hL rfl rfl dL_law_1353 dL_law_1354 dL_law_1356 dL_law_1357 dL_law_1358 ?_
  refine lcall_i [.int (xs (6 * j + 1)), .int (xs (6 * j + 2)), .int (xs (6 * j + 3)), .int (xs (6 * j + 4)), .int (xs (6 * j + 5))] [] hx hb hml hG hown hK (c_X6_copy had C (xs (6 * j + 1)) (xs (6 * j + 2)) (xs (6 * j + 3)) (xs (6 * j + 4)) (xs (6 * j + 5)) (hcp C R hC)) gw_43_14 gm_X6_copy gd_X6_copy rfl rfl ⟨(Nat.le_of_ble_eq_true rfl), (Nat.le_of_ble_eq_true rfl)⟩ hcs (rX6 hK hPc rfl) hPc hA1 hS rfl hl.1 rfl (Nat.le_of_ble_eq_true rfl) dL_law_1359 (fun r1 C1 H1 hF1 hPc hk hS => ?_)
  have hPm := l_kept hPm hk (l_d hdm)
  have hPo := l_kept hPo hk (l_do hdo)
  refine lv_aload_n hx hb dL_law_1362 rfl (lv_at hl 2 rfl) ?_
  refine l_ld (o := 1) (i0 := 0) (i4 := 4) hx hb hX hbl hS hl rfl rfl (by omega) hL rfl rfl dL_law_1363 dL_law_1364 dL_law_1366 dL_law_1367 dL_law_1368 ?_
  refine l_ld (o := 2) (i0 := 0) (i4 := 4) hx hb hX hbl hS hl rfl rfl (by omega) hL rfl rfl dL_law_1369 dL_law_1370 dL_law_1372 dL_law_1373 dL_law_1374 ?_
  refine l_ld (o := 3) (i0 := 0) (i4 := 4) hx hb hX hbl hS hl rfl rfl (by omega) hL rfl rfl dL_law_1375 dL_law_1376 dL_law_1378 dL_law_1379 dL_law_1380 ?_
  refine l_ld (o := 4) (i0 := 0) (i4 := 4) hx hb hX hbl hS hl rfl rfl (by omega) hL rfl rfl dL_law_1381 dL_law_1382 dL_law_1384 dL_law_1385 dL_law_1386 ?_
  refine l_ld (o := 5) (i0 := 0) (i4 := 4) hx hb hX hbl hS hl rfl rfl (by omega) hL rfl rfl dL_law_1387 dL_law_1388 dL_law_1390 dL_law_1391 dL_law_1392 ?_
  refine lcall_i [.int (xs (6 * j + 1)), .int (xs (6 * j + 2)), .int (xs (6 * j + 3)), .int (xs (6 * j + 4)), .int (xs (6 * j + 5))] [.int r1] hx hb hml hG hown hK (c_X7_copy hbd R (xs (6 * j + 1)) (xs (6 * j + 2)) (xs (6 * j + 3)) (xs (6 * j + 4)) (xs (6 * j + 5)) hI) gw_44_0 gm_X7_copy gd_X7_copy rfl rfl ⟨(Nat.le_of_ble_eq_true rfl), (Nat.le_of_ble_eq_true rfl)⟩ hcs (rX7 hK hPm) hPm hA2 hS rfl hl.1 rfl (Nat.le_of_ble_eq_true rfl) dL_law_1393 (fun r2 R1 H2 hF2 hPm hk hS => ?_)
  obtain ⟨hF2, hT⟩ := hF2
  have hPc := l_kept hPc hk (l_d hdc)
  have hPo := l_kept hPo hk (l_do hdo2)
  have sim := hsim C R (xs (6 * j + 1)) (xs (6 * j + 2)) (xs (6 * j + 3)) (xs (6 * j + 4)) (xs (6 * j + 5)) hC hI hN
  rw [hF1, hF2] at sim
  obtain ⟨hr, hC1⟩ := sim
  refine lv_icmp_eq (tgt := 1451) hx hb dL_law_1396 (by decide) (fun _ => ?_) (fun hne => absurd hr hne)
  exact W.widen (by omega) (by omega) (K C1 R1 f H2 ls hC1 hT.1 (hT.2 hN) hPc hPm hPo hS hl)
