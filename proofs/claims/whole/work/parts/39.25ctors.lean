-- @needs 24_ctor 22_cellsM
def B_X4 (D : va_G) (k : Nat → ClassId) (h0 : Nat) : Unit → (Nat → Prop) → State → Prop := fun _ A t => BN D A [(h0, .inr (4, [.int 0, .int 0, .int 0]))] t
def rn_X4 : Room := { frames := 1, cells := 0, slots := 0, locals := 12 }
set_option maxRecDepth 100000 in
set_option maxHeartbeats 0 in
theorem n_X4 {l : Launch} {D : va_G} {k : Nat → ClassId} {h0 sz : Nat} : Met l yX4_init (Cond.code yX4_init cX4_init 1 none :: wsL_law) rn_X4 (va_Pc [.ref h0] (fun U => U.heap.size = sz ∧ GN D k [(h0, .inr (4, [.int 0, .int 0, .int 0]))] U)) (va_Qv (fun _ : Unit => True) (fun u t => B_X4 D k h0 u (va_A [(h0, .inr (4, [.int 0, .int 0, .int 0]))] sz) t) (va_A [(h0, .inr (4, [.int 0, .int 0, .int 0]))] sz)) 0 0 (va_A [(h0, .inr (4, [.int 0, .int 0, .int 0]))] sz) := by
  refine met_n (B := B_X4 D k h0) (plainFor_of_name (by decide)) (Nat.le_of_ble_eq_true rfl) ?_ (D1 trivial)
  intro p e s m args below meth c Q ls A hx hb hml hG hown hK hE hin hret hP hD hA hS hl
  have hin := hin rfl
  refine lv_aload_n hx hb dX4_init_0 rfl (lv_at hl 0 rfl) ?_
  refine W.objInit hx hb hown (hG _ gw_3_22) (hG _ gw_1_11) (hG _ gw_1_12) rfl (by rw [hml]; exact hl.1) rfl dX4_init_1 (Nat.le_of_ble_eq_true rfl) (Nat.le_of_ble_eq_true rfl) ?_
  refine W.eq (g2 := F0 m 4 ls []) rfl ?_
  exact hret _ _ _ _ () (fun t ht => ⟨by rw [ht]; exact hP, hD⟩) hS dX4_init_4
def B_X1 (D : va_G) (k : Nat → ClassId) (h0 : Nat) : Unit → (Nat → Prop) → State → Prop := fun _ A t => ∃ q1 : Nat, BN D A [(h0, .inr (1, [.ref q1, .int 0, .int 0, .int 0, .int 0, .int 0, .int 0, .int (-4), .int 0, .int 0, .int 0])), (q1, .inr (4, [.int 0, .int 0, .int 0]))] t
def rn_X1 : Room := { frames := 2, cells := 1, slots := 3, locals := 32 }
set_option maxRecDepth 100000 in
set_option maxHeartbeats 0 in
theorem n_X1 {l : Launch} {D : va_G} {k : Nat → ClassId} {h0 sz : Nat} : Met l yX1_init (Cond.code yX1_init cX1_init 1 none :: wsL_law) rn_X1 (va_Pc [.ref h0] (fun U => U.heap.size = sz ∧ GN D k [(h0, .inr (1, [.null, .int 0, .int 0, .int 0, .int 0, .int 0, .int 0, .int 0, .int 0, .int 0, .int 0]))] U)) (va_Qv (fun _ : Unit => True) (fun u t => B_X1 D k h0 u (va_A [(h0, .inr (1, [.null, .int 0, .int 0, .int 0, .int 0, .int 0, .int 0, .int 0, .int 0, .int 0, .int 0]))] sz) t) (va_A [(h0, .inr (1, [.null, .int 0, .int 0, .int 0, .int 0, .int 0, .int 0, .int 0, .int 0, .int 0, .int 0]))] sz)) 1 3 (va_A [(h0, .inr (1, [.null, .int 0, .int 0, .int 0, .int 0, .int 0, .int 0, .int 0, .int 0, .int 0, .int 0]))] sz) := by
  refine met_n (B := B_X1 D k h0) (plainFor_of_name (by decide)) (Nat.le_of_ble_eq_true rfl) ?_ (D1 trivial)
  intro p e s m args below meth c Q ls A hx hb hml hG hown hK hE hin hret hP hD hA hS hl
  have hin := hin rfl
  refine lv_aload_n hx hb dX1_init_0 rfl (lv_at hl 0 rfl) ?_
  refine W.objInit hx hb hown (hG _ gw_3_14) (hG _ gw_1_11) (hG _ gw_1_12) rfl (by rw [hml]; exact hl.1) rfl dX1_init_1 (Nat.le_of_ble_eq_true rfl) (Nat.le_of_ble_eq_true rfl) ?_
  refine W.eq (g2 := F0 m 4 ls []) rfl ?_
  refine lv_aload_n hx hb dX1_init_4 rfl (lv_at hl 0 rfl) ?_
  refine n_O (k := k) (ci := 4) (fs := [.int 0, .int 0, .int 0]) (C := RX4) (T := TX4) (N := 3) hx hb hG inlX4 tyX4 tyX4_ok hown gw_3_15 gw_3_16 gw_3_17 hK hP hD hS hA rfl (fun j hj => by rcases (show j = 0 ∨ j = 1 ∨ j = 2 by omega) with rfl | rfl | rfl <;> rfl) 1 3 (Nat.le_of_ble_eq_true rfl) (Nat.le_of_ble_eq_true rfl) (Nat.le_of_ble_eq_true rfl) (Nat.le_of_ble_eq_true rfl) dX1_init_5 (fun q1 H hP hD hS => ?_)
  have hP : va_P D vwCl [(h0, .inr (1, [.null, .int 0, .int 0, .int 0, .int 0, .int 0, .int 0, .int 0, .int 0, .int 0, .int 0])), (q1, .inr (4, [.int 0, .int 0, .int 0]))] H := hP
  have hD : va_D A [(h0, .inr (1, [.null, .int 0, .int 0, .int 0, .int 0, .int 0, .int 0, .int 0, .int 0, .int 0, .int 0])), (q1, .inr (4, [.int 0, .int 0, .int 0]))] := hD
  refine lv_dup hx hb dX1_init_8 rfl ?_
  have hPc := hP.sub (ws' := [(q1, .inr (4, [.int 0, .int 0, .int 0]))]) [1] rfl
  have hFc := va_free (wc := [(q1, .inr (4, [.int 0, .int 0, .int 0]))]) hD hS hA [1] rfl
  refine call_nN [.ref q1, .ref h0] 1 3 hx hb hml hG hown hK hE (B := B_X4 D k q1) (rm := rn_X4) (mc := 0) (ms := 0) (n_X4 (h0 := q1)) hE.2.2.1.2.2.1 ⟨gw_3_20, gw_3_17, gw_3_21⟩ rfl (by decide +kernel) rfl rfl ⟨Nat.le_of_ble_eq_true rfl, Nat.le_of_ble_eq_true rfl⟩ (Nat.le_of_ble_eq_true rfl) (Nat.le_of_ble_eq_true rfl) (Nat.le_of_ble_eq_true rfl) (Nat.le_of_ble_eq_true rfl) hPc hD hS hA [1] rfl hl.1 rfl (Nat.le_of_ble_eq_true rfl) dX1_init_9 (fun u t H1 locs ht hB hk1 hS => ?_)
  obtain ⟨hP1, hD1⟩ := hB
  rw [ht] at hP1
  obtain ⟨hP, hD⟩ := va_join (wr := [(h0, .inr (1, [.null, .int 0, .int 0, .int 0, .int 0, .int 0, .int 0, .int 0, .int 0, .int 0, .int 0]))]) (w1 := [(q1, .inr (4, [.int 0, .int 0, .int 0]))]) hP hD [1] [0] rfl rfl (by decide) (by decide) hk1 hFc hP1 hD1
  generalize H1 = H at hP hS ⊢
  have hP : va_P D vwCl [(h0, .inr (1, [.null, .int 0, .int 0, .int 0, .int 0, .int 0, .int 0, .int 0, .int 0, .int 0, .int 0])), (q1, .inr (4, [.int 0, .int 0, .int 0]))] H := hP
  have hD : va_D A [(h0, .inr (1, [.null, .int 0, .int 0, .int 0, .int 0, .int 0, .int 0, .int 0, .int 0, .int 0, .int 0])), (q1, .inr (4, [.int 0, .int 0, .int 0]))] := hD
  refine va_putF (D := D) (ci := 1) (v := .ref q1) (ty := tyX1 0) (C := RX1) (T := TX1) (N := 11) hx hb hG inlX1 tyX1 tyX1_ok nmX1 hown hK hP hD hS 0 rfl rfl 0 (by decide) (hG _ gw_3_18) (fun _ h => h) rfl hin rfl (tyX1_ok 0 (by decide)) rfl rfl (Nat.le_of_ble_eq_true rfl) dX1_init_12 (fun H locs hP hD hS => ?_)
  have hP : va_P D vwCl [(h0, .inr (1, [.ref q1, .int 0, .int 0, .int 0, .int 0, .int 0, .int 0, .int 0, .int 0, .int 0, .int 0])), (q1, .inr (4, [.int 0, .int 0, .int 0]))] H := hP
  have hD : va_D A [(h0, .inr (1, [.ref q1, .int 0, .int 0, .int 0, .int 0, .int 0, .int 0, .int 0, .int 0, .int 0, .int 0])), (q1, .inr (4, [.int 0, .int 0, .int 0]))] := hD
  refine lv_aload_n hx hb dX1_init_15 rfl (lv_at hl 0 rfl) ?_
  refine lv_bipush (v := (-4)) hx hb dX1_init_16 (by decide) ?_
  refine va_put (D := D) (ci := 1) (v := .int (-4)) (ty := tyX1 7) (C := RX1) (T := TX1) (N := 11) hx hb hG inlX1 tyX1 tyX1_ok nmX1 hown hK hP hD hS 0 rfl rfl 7 (by decide) (hG _ gw_3_19) (fun _ h => h) rfl (tyX1_ok 7 (by decide)) rfl rfl (Nat.le_of_ble_eq_true rfl) dX1_init_18 (fun H locs hP hD hS => ?_)
  have hP : va_P D vwCl [(h0, .inr (1, [.ref q1, .int 0, .int 0, .int 0, .int 0, .int 0, .int 0, .int (-4), .int 0, .int 0, .int 0])), (q1, .inr (4, [.int 0, .int 0, .int 0]))] H := hP
  have hD : va_D A [(h0, .inr (1, [.ref q1, .int 0, .int 0, .int 0, .int 0, .int 0, .int 0, .int (-4), .int 0, .int 0, .int 0])), (q1, .inr (4, [.int 0, .int 0, .int 0]))] := hD
  exact hret _ _ _ _ () (fun t ht => ⟨q1, by rw [ht]; exact hP, hD⟩) hS dX1_init_21
def B_X2 (D : va_G) (k : Nat → ClassId) (h0 : Nat) : Unit → (Nat → Prop) → State → Prop := fun _ A t => ∃ q1 q2 q3 : Nat, BN D A [(h0, .inr (2, [.ref q1, .int 0, .ref q2, .int 0, .ref q3])), (q1, .inl (k 0, 100, .inl fun _ => 0)), (q2, .inl (k 0, 100, .inl fun _ => 0)), (q3, .inl (k 0, 100, .inl fun _ => 0))] t
def rn_X2 : Room := { frames := 1, cells := 3, slots := 300, locals := 12 }
set_option maxRecDepth 100000 in
set_option maxHeartbeats 0 in
theorem n_X2 {l : Launch} {D : va_G} {k : Nat → ClassId} {h0 sz : Nat} : Met l yX2_init (Cond.code yX2_init cX2_init 1 none :: wsL_law) rn_X2 (va_Pc [.ref h0] (fun U => U.heap.size = sz ∧ GN D k [(h0, .inr (2, [.null, .int 0, .null, .int 0, .null]))] U)) (va_Qv (fun _ : Unit => True) (fun u t => B_X2 D k h0 u (va_A [(h0, .inr (2, [.null, .int 0, .null, .int 0, .null]))] sz) t) (va_A [(h0, .inr (2, [.null, .int 0, .null, .int 0, .null]))] sz)) 3 300 (va_A [(h0, .inr (2, [.null, .int 0, .null, .int 0, .null]))] sz) := by
  refine met_n (B := B_X2 D k h0) (plainFor_of_name (by decide)) (Nat.le_of_ble_eq_true rfl) ?_ (D1 trivial)
  intro p e s m args below meth c Q ls A hx hb hml hG hown hK hE hin hret hP hD hA hS hl
  have hin := hin rfl
  refine lv_aload_n hx hb dX2_init_0 rfl (lv_at hl 0 rfl) ?_
  refine W.objInit hx hb hown (hG _ gw_2_20) (hG _ gw_1_11) (hG _ gw_1_12) rfl (by rw [hml]; exact hl.1) rfl dX2_init_1 (Nat.le_of_ble_eq_true rfl) (Nat.le_of_ble_eq_true rfl) ?_
  refine W.eq (g2 := F0 m 4 ls []) rfl ?_
  refine lv_aload_n hx hb dX2_init_4 rfl (lv_at hl 0 rfl) ?_
  refine lv_bipush (v := 100) hx hb dX2_init_5 (by decide) ?_
  refine n_I (k := k) hx hb hG hK hP hD hS hA 100 (by decide) (by decide) (Nat.le_of_ble_eq_true rfl) 1 100 (Nat.le_of_ble_eq_true rfl) (Nat.le_of_ble_eq_true rfl) (Nat.le_of_ble_eq_true rfl) (Nat.le_of_ble_eq_true rfl) dX2_init_7 (fun q1 H hP hD hS => ?_)
  have hP : va_P D vwCl [(h0, .inr (2, [.null, .int 0, .null, .int 0, .null])), (q1, .inl (k 0, 100, .inl fun _ => 0))] H := hP
  have hD : va_D A [(h0, .inr (2, [.null, .int 0, .null, .int 0, .null])), (q1, .inl (k 0, 100, .inl fun _ => 0))] := hD
  refine va_putF (D := D) (ci := 2) (v := .ref q1) (ty := tyX2 0) (C := RX2) (T := TX2) (N := 5) hx hb hG inlX2 tyX2 tyX2_ok nmX2 hown hK hP hD hS 0 rfl rfl 0 (by decide) (hG _ gw_2_21) (fun _ h => h) rfl hin rfl (tyX2_ok 0 (by decide)) rfl rfl (Nat.le_of_ble_eq_true rfl) dX2_init_9 (fun H locs hP hD hS => ?_)
  have hP : va_P D vwCl [(h0, .inr (2, [.ref q1, .int 0, .null, .int 0, .null])), (q1, .inl (k 0, 100, .inl fun _ => 0))] H := hP
  have hD : va_D A [(h0, .inr (2, [.ref q1, .int 0, .null, .int 0, .null])), (q1, .inl (k 0, 100, .inl fun _ => 0))] := hD
  refine lv_aload_n hx hb dX2_init_12 rfl (lv_at hl 0 rfl) ?_
  refine lv_bipush (v := 100) hx hb dX2_init_13 (by decide) ?_
  refine n_I (k := k) hx hb hG hK hP hD hS hA 100 (by decide) (by decide) (Nat.le_of_ble_eq_true rfl) 2 200 (Nat.le_of_ble_eq_true rfl) (Nat.le_of_ble_eq_true rfl) (Nat.le_of_ble_eq_true rfl) (Nat.le_of_ble_eq_true rfl) dX2_init_15 (fun q2 H hP hD hS => ?_)
  have hP : va_P D vwCl [(h0, .inr (2, [.ref q1, .int 0, .null, .int 0, .null])), (q1, .inl (k 0, 100, .inl fun _ => 0)), (q2, .inl (k 0, 100, .inl fun _ => 0))] H := hP
  have hD : va_D A [(h0, .inr (2, [.ref q1, .int 0, .null, .int 0, .null])), (q1, .inl (k 0, 100, .inl fun _ => 0)), (q2, .inl (k 0, 100, .inl fun _ => 0))] := hD
  refine va_putF (D := D) (ci := 2) (v := .ref q2) (ty := tyX2 2) (C := RX2) (T := TX2) (N := 5) hx hb hG inlX2 tyX2 tyX2_ok nmX2 hown hK hP hD hS 0 rfl rfl 2 (by decide) (hG _ gw_2_22) (fun _ h => h) rfl hin rfl (tyX2_ok 2 (by decide)) rfl rfl (Nat.le_of_ble_eq_true rfl) dX2_init_17 (fun H locs hP hD hS => ?_)
  have hP : va_P D vwCl [(h0, .inr (2, [.ref q1, .int 0, .ref q2, .int 0, .null])), (q1, .inl (k 0, 100, .inl fun _ => 0)), (q2, .inl (k 0, 100, .inl fun _ => 0))] H := hP
  have hD : va_D A [(h0, .inr (2, [.ref q1, .int 0, .ref q2, .int 0, .null])), (q1, .inl (k 0, 100, .inl fun _ => 0)), (q2, .inl (k 0, 100, .inl fun _ => 0))] := hD
  refine lv_aload_n hx hb dX2_init_20 rfl (lv_at hl 0 rfl) ?_
  refine lv_bipush (v := 100) hx hb dX2_init_21 (by decide) ?_
  refine n_I (k := k) hx hb hG hK hP hD hS hA 100 (by decide) (by decide) (Nat.le_of_ble_eq_true rfl) 3 300 (Nat.le_of_ble_eq_true rfl) (Nat.le_of_ble_eq_true rfl) (Nat.le_of_ble_eq_true rfl) (Nat.le_of_ble_eq_true rfl) dX2_init_23 (fun q3 H hP hD hS => ?_)
  have hP : va_P D vwCl [(h0, .inr (2, [.ref q1, .int 0, .ref q2, .int 0, .null])), (q1, .inl (k 0, 100, .inl fun _ => 0)), (q2, .inl (k 0, 100, .inl fun _ => 0)), (q3, .inl (k 0, 100, .inl fun _ => 0))] H := hP
  have hD : va_D A [(h0, .inr (2, [.ref q1, .int 0, .ref q2, .int 0, .null])), (q1, .inl (k 0, 100, .inl fun _ => 0)), (q2, .inl (k 0, 100, .inl fun _ => 0)), (q3, .inl (k 0, 100, .inl fun _ => 0))] := hD
  refine va_putF (D := D) (ci := 2) (v := .ref q3) (ty := tyX2 4) (C := RX2) (T := TX2) (N := 5) hx hb hG inlX2 tyX2 tyX2_ok nmX2 hown hK hP hD hS 0 rfl rfl 4 (by decide) (hG _ gw_2_23) (fun _ h => h) rfl hin rfl (tyX2_ok 4 (by decide)) rfl rfl (Nat.le_of_ble_eq_true rfl) dX2_init_25 (fun H locs hP hD hS => ?_)
  have hP : va_P D vwCl [(h0, .inr (2, [.ref q1, .int 0, .ref q2, .int 0, .ref q3])), (q1, .inl (k 0, 100, .inl fun _ => 0)), (q2, .inl (k 0, 100, .inl fun _ => 0)), (q3, .inl (k 0, 100, .inl fun _ => 0))] H := hP
  have hD : va_D A [(h0, .inr (2, [.ref q1, .int 0, .ref q2, .int 0, .ref q3])), (q1, .inl (k 0, 100, .inl fun _ => 0)), (q2, .inl (k 0, 100, .inl fun _ => 0)), (q3, .inl (k 0, 100, .inl fun _ => 0))] := hD
  exact hret _ _ _ _ () (fun t ht => ⟨q1, q2, q3, by rw [ht]; exact hP, hD⟩) hS dX2_init_28
def B_X5 (D : va_G) (k : Nat → ClassId) (h0 : Nat) : Unit → (Nat → Prop) → State → Prop := fun _ A t => ∃ q1 q2 : Nat, BN D A [(h0, .inr (5, [.int 0, .ref q1, .int 0, .int 0, .ref q2])), (q1, .inr (4, [.int 0, .int 0, .int 0])), (q2, .inl (k 0, 100, .inl fun _ => 0))] t
def rn_X5 : Room := { frames := 2, cells := 2, slots := 103, locals := 32 }
set_option maxRecDepth 100000 in
set_option maxHeartbeats 0 in
theorem n_X5 {l : Launch} {D : va_G} {k : Nat → ClassId} {h0 sz : Nat} : Met l yX5_init (Cond.code yX5_init cX5_init 1 none :: wsL_law) rn_X5 (va_Pc [.ref h0] (fun U => U.heap.size = sz ∧ GN D k [(h0, .inr (5, [.int 0, .null, .int 0, .int 0, .null]))] U)) (va_Qv (fun _ : Unit => True) (fun u t => B_X5 D k h0 u (va_A [(h0, .inr (5, [.int 0, .null, .int 0, .int 0, .null]))] sz) t) (va_A [(h0, .inr (5, [.int 0, .null, .int 0, .int 0, .null]))] sz)) 2 103 (va_A [(h0, .inr (5, [.int 0, .null, .int 0, .int 0, .null]))] sz) := by
  refine met_n (B := B_X5 D k h0) (plainFor_of_name (by decide)) (Nat.le_of_ble_eq_true rfl) ?_ (D1 trivial)
  intro p e s m args below meth c Q ls A hx hb hml hG hown hK hE hin hret hP hD hA hS hl
  have hin := hin rfl
  refine lv_aload_n hx hb dX5_init_0 rfl (lv_at hl 0 rfl) ?_
  refine W.objInit hx hb hown (hG _ gw_4_1) (hG _ gw_1_11) (hG _ gw_1_12) rfl (by rw [hml]; exact hl.1) rfl dX5_init_1 (Nat.le_of_ble_eq_true rfl) (Nat.le_of_ble_eq_true rfl) ?_
  refine W.eq (g2 := F0 m 4 ls []) rfl ?_
  refine lv_aload_n hx hb dX5_init_4 rfl (lv_at hl 0 rfl) ?_
  refine lv_iconst (v := 0) hx hb dX5_init_5 (by decide) ?_
  refine va_put (D := D) (ci := 5) (v := .int 0) (ty := tyX5 0) (C := RX5) (T := TX5) (N := 5) hx hb hG inlX5 tyX5 tyX5_ok nmX5 hown hK hP hD hS 0 rfl rfl 0 (by decide) (hG _ gw_4_2) (fun _ h => h) rfl (tyX5_ok 0 (by decide)) rfl rfl (Nat.le_of_ble_eq_true rfl) dX5_init_6 (fun H locs hP hD hS => ?_)
  have hP : va_P D vwCl [(h0, .inr (5, [.int 0, .null, .int 0, .int 0, .null]))] H := hP
  have hD : va_D A [(h0, .inr (5, [.int 0, .null, .int 0, .int 0, .null]))] := hD
  refine lv_aload_n hx hb dX5_init_9 rfl (lv_at hl 0 rfl) ?_
  refine n_O (k := k) (ci := 4) (fs := [.int 0, .int 0, .int 0]) (C := RX4) (T := TX4) (N := 3) hx hb hG inlX4 tyX4 tyX4_ok hown gw_4_3 gw_3_16 gw_3_17 hK hP hD hS hA rfl (fun j hj => by rcases (show j = 0 ∨ j = 1 ∨ j = 2 by omega) with rfl | rfl | rfl <;> rfl) 1 3 (Nat.le_of_ble_eq_true rfl) (Nat.le_of_ble_eq_true rfl) (Nat.le_of_ble_eq_true rfl) (Nat.le_of_ble_eq_true rfl) dX5_init_10 (fun q1 H hP hD hS => ?_)
  have hP : va_P D vwCl [(h0, .inr (5, [.int 0, .null, .int 0, .int 0, .null])), (q1, .inr (4, [.int 0, .int 0, .int 0]))] H := hP
  have hD : va_D A [(h0, .inr (5, [.int 0, .null, .int 0, .int 0, .null])), (q1, .inr (4, [.int 0, .int 0, .int 0]))] := hD
  refine lv_dup hx hb dX5_init_13 rfl ?_
  have hPc := hP.sub (ws' := [(q1, .inr (4, [.int 0, .int 0, .int 0]))]) [1] rfl
  have hFc := va_free (wc := [(q1, .inr (4, [.int 0, .int 0, .int 0]))]) hD hS hA [1] rfl
  refine call_nN [.ref q1, .ref h0] 1 3 hx hb hml hG hown hK hE (B := B_X4 D k q1) (rm := rn_X4) (mc := 0) (ms := 0) (n_X4 (h0 := q1)) hE.2.2.1.2.2.2.2 ⟨gw_3_20, gw_3_17, gw_3_21⟩ rfl (by decide +kernel) rfl rfl ⟨Nat.le_of_ble_eq_true rfl, Nat.le_of_ble_eq_true rfl⟩ (Nat.le_of_ble_eq_true rfl) (Nat.le_of_ble_eq_true rfl) (Nat.le_of_ble_eq_true rfl) (Nat.le_of_ble_eq_true rfl) hPc hD hS hA [1] rfl hl.1 rfl (Nat.le_of_ble_eq_true rfl) dX5_init_14 (fun u t H1 locs ht hB hk1 hS => ?_)
  obtain ⟨hP1, hD1⟩ := hB
  rw [ht] at hP1
  obtain ⟨hP, hD⟩ := va_join (wr := [(h0, .inr (5, [.int 0, .null, .int 0, .int 0, .null]))]) (w1 := [(q1, .inr (4, [.int 0, .int 0, .int 0]))]) hP hD [1] [0] rfl rfl (by decide) (by decide) hk1 hFc hP1 hD1
  generalize H1 = H at hP hS ⊢
  have hP : va_P D vwCl [(h0, .inr (5, [.int 0, .null, .int 0, .int 0, .null])), (q1, .inr (4, [.int 0, .int 0, .int 0]))] H := hP
  have hD : va_D A [(h0, .inr (5, [.int 0, .null, .int 0, .int 0, .null])), (q1, .inr (4, [.int 0, .int 0, .int 0]))] := hD
  refine va_putF (D := D) (ci := 5) (v := .ref q1) (ty := tyX5 1) (C := RX5) (T := TX5) (N := 5) hx hb hG inlX5 tyX5 tyX5_ok nmX5 hown hK hP hD hS 0 rfl rfl 1 (by decide) (hG _ gw_4_4) (fun _ h => h) rfl hin rfl (tyX5_ok 1 (by decide)) rfl rfl (Nat.le_of_ble_eq_true rfl) dX5_init_17 (fun H locs hP hD hS => ?_)
  have hP : va_P D vwCl [(h0, .inr (5, [.int 0, .ref q1, .int 0, .int 0, .null])), (q1, .inr (4, [.int 0, .int 0, .int 0]))] H := hP
  have hD : va_D A [(h0, .inr (5, [.int 0, .ref q1, .int 0, .int 0, .null])), (q1, .inr (4, [.int 0, .int 0, .int 0]))] := hD
  refine lv_aload_n hx hb dX5_init_20 rfl (lv_at hl 0 rfl) ?_
  refine lv_bipush (v := 100) hx hb dX5_init_21 (by decide) ?_
  refine n_I (k := k) hx hb hG hK hP hD hS hA 100 (by decide) (by decide) (Nat.le_of_ble_eq_true rfl) 2 103 (Nat.le_of_ble_eq_true rfl) (Nat.le_of_ble_eq_true rfl) (Nat.le_of_ble_eq_true rfl) (Nat.le_of_ble_eq_true rfl) dX5_init_23 (fun q2 H hP hD hS => ?_)
  have hP : va_P D vwCl [(h0, .inr (5, [.int 0, .ref q1, .int 0, .int 0, .null])), (q1, .inr (4, [.int 0, .int 0, .int 0])), (q2, .inl (k 0, 100, .inl fun _ => 0))] H := hP
  have hD : va_D A [(h0, .inr (5, [.int 0, .ref q1, .int 0, .int 0, .null])), (q1, .inr (4, [.int 0, .int 0, .int 0])), (q2, .inl (k 0, 100, .inl fun _ => 0))] := hD
  refine va_putF (D := D) (ci := 5) (v := .ref q2) (ty := tyX5 4) (C := RX5) (T := TX5) (N := 5) hx hb hG inlX5 tyX5 tyX5_ok nmX5 hown hK hP hD hS 0 rfl rfl 4 (by decide) (hG _ gw_4_5) (fun _ h => h) rfl hin rfl (tyX5_ok 4 (by decide)) rfl rfl (Nat.le_of_ble_eq_true rfl) dX5_init_25 (fun H locs hP hD hS => ?_)
  have hP : va_P D vwCl [(h0, .inr (5, [.int 0, .ref q1, .int 0, .int 0, .ref q2])), (q1, .inr (4, [.int 0, .int 0, .int 0])), (q2, .inl (k 0, 100, .inl fun _ => 0))] H := hP
  have hD : va_D A [(h0, .inr (5, [.int 0, .ref q1, .int 0, .int 0, .ref q2])), (q1, .inr (4, [.int 0, .int 0, .int 0])), (q2, .inl (k 0, 100, .inl fun _ => 0))] := hD
  exact hret _ _ _ _ () (fun t ht => ⟨q1, q2, by rw [ht]; exact hP, hD⟩) hS dX5_init_28
def B_X0 (D : va_G) (k : Nat → ClassId) (h0 : Nat) : Unit → (Nat → Prop) → State → Prop := fun _ A t => ∃ q1 q2 q3 q4 q5 : Nat, BN D A [(h0, .inr (0, [.int 200, .int 0, .int 100, .int 2, .int 0, .ref q1, .ref q5])), (q1, .inr (2, [.ref q2, .int 0, .ref q3, .int 0, .ref q4])), (q2, .inl (k 0, 100, .inl fun _ => 0)), (q3, .inl (k 0, 100, .inl fun _ => 0)), (q4, .inl (k 0, 100, .inl fun _ => 0)), (q5, .inl (k 0, 401, .inl (fun q => if q < 401 then 100 else (fun _ => 0) q)))] t
def rn_X0 : Room := { frames := 2, cells := 5, slots := 706, locals := 32 }
set_option maxRecDepth 100000 in
set_option maxHeartbeats 0 in
theorem n_X0 {l : Launch} {D : va_G} {k : Nat → ClassId} {h0 sz : Nat} : Met l yX0_init (Cond.code yX0_init cX0_init 1 none :: wsL_law) rn_X0 (va_Pc [.ref h0] (fun U => U.heap.size = sz ∧ GN D k [(h0, .inr (0, [.int 0, .int 0, .int 0, .int 0, .int 0, .null, .null]))] U)) (va_Qv (fun _ : Unit => True) (fun u t => B_X0 D k h0 u (va_A [(h0, .inr (0, [.int 0, .int 0, .int 0, .int 0, .int 0, .null, .null]))] sz) t) (va_A [(h0, .inr (0, [.int 0, .int 0, .int 0, .int 0, .int 0, .null, .null]))] sz)) 5 706 (va_A [(h0, .inr (0, [.int 0, .int 0, .int 0, .int 0, .int 0, .null, .null]))] sz) := by
  refine met_n (B := B_X0 D k h0) (plainFor_of_name (by decide)) (Nat.le_of_ble_eq_true rfl) ?_ (D1 trivial)
  intro p e s m args below meth c Q ls A hx hb hml hG hown hK hE hin hret hP hD hA hS hl
  have hin := hin rfl
  refine lv_aload_n hx hb dX0_init_0 rfl (lv_at hl 0 rfl) ?_
  refine W.objInit hx hb hown (hG _ gw_2_8) (hG _ gw_1_11) (hG _ gw_1_12) rfl (by rw [hml]; exact hl.1) rfl dX0_init_1 (Nat.le_of_ble_eq_true rfl) (Nat.le_of_ble_eq_true rfl) ?_
  refine W.eq (g2 := F0 m 4 ls []) rfl ?_
  refine lv_aload_n hx hb dX0_init_4 rfl (lv_at hl 0 rfl) ?_
  refine lv_sipush (v := 200) hx hb dX0_init_5 (by decide) ?_
  refine va_put (D := D) (ci := 0) (v := .int 200) (ty := tyX0 0) (C := RX0) (T := TX0) (N := 7) hx hb hG inlX0 tyX0 tyX0_ok nmX0 hown hK hP hD hS 0 rfl rfl 0 (by decide) (hG _ gw_2_9) (fun _ h => h) rfl (tyX0_ok 0 (by decide)) rfl rfl (Nat.le_of_ble_eq_true rfl) dX0_init_8 (fun H locs hP hD hS => ?_)
  have hP : va_P D vwCl [(h0, .inr (0, [.int 200, .int 0, .int 0, .int 0, .int 0, .null, .null]))] H := hP
  have hD : va_D A [(h0, .inr (0, [.int 200, .int 0, .int 0, .int 0, .int 0, .null, .null]))] := hD
  refine lv_aload_n hx hb dX0_init_11 rfl (lv_at hl 0 rfl) ?_
  refine lv_bipush (v := 100) hx hb dX0_init_12 (by decide) ?_
  refine va_put (D := D) (ci := 0) (v := .int 100) (ty := tyX0 2) (C := RX0) (T := TX0) (N := 7) hx hb hG inlX0 tyX0 tyX0_ok nmX0 hown hK hP hD hS 0 rfl rfl 2 (by decide) (hG _ gw_2_10) (fun _ h => h) rfl (tyX0_ok 2 (by decide)) rfl rfl (Nat.le_of_ble_eq_true rfl) dX0_init_14 (fun H locs hP hD hS => ?_)
  have hP : va_P D vwCl [(h0, .inr (0, [.int 200, .int 0, .int 100, .int 0, .int 0, .null, .null]))] H := hP
  have hD : va_D A [(h0, .inr (0, [.int 200, .int 0, .int 100, .int 0, .int 0, .null, .null]))] := hD
  refine lv_aload_n hx hb dX0_init_17 rfl (lv_at hl 0 rfl) ?_
  refine lv_iconst (v := 2) hx hb dX0_init_18 (by decide) ?_
  refine va_put (D := D) (ci := 0) (v := .int 2) (ty := tyX0 3) (C := RX0) (T := TX0) (N := 7) hx hb hG inlX0 tyX0 tyX0_ok nmX0 hown hK hP hD hS 0 rfl rfl 3 (by decide) (hG _ gw_2_11) (fun _ h => h) rfl (tyX0_ok 3 (by decide)) rfl rfl (Nat.le_of_ble_eq_true rfl) dX0_init_19 (fun H locs hP hD hS => ?_)
  have hP : va_P D vwCl [(h0, .inr (0, [.int 200, .int 0, .int 100, .int 2, .int 0, .null, .null]))] H := hP
  have hD : va_D A [(h0, .inr (0, [.int 200, .int 0, .int 100, .int 2, .int 0, .null, .null]))] := hD
  refine lv_aload_n hx hb dX0_init_22 rfl (lv_at hl 0 rfl) ?_
  refine n_O (k := k) (ci := 2) (fs := [.null, .int 0, .null, .int 0, .null]) (C := RX2) (T := TX2) (N := 5) hx hb hG inlX2 tyX2 tyX2_ok hown gw_2_12 gw_2_13 gw_2_14 hK hP hD hS hA rfl (fun j hj => by rcases (show j = 0 ∨ j = 1 ∨ j = 2 ∨ j = 3 ∨ j = 4 by omega) with rfl | rfl | rfl | rfl | rfl <;> rfl) 1 5 (Nat.le_of_ble_eq_true rfl) (Nat.le_of_ble_eq_true rfl) (Nat.le_of_ble_eq_true rfl) (Nat.le_of_ble_eq_true rfl) dX0_init_23 (fun q1 H hP hD hS => ?_)
  have hP : va_P D vwCl [(h0, .inr (0, [.int 200, .int 0, .int 100, .int 2, .int 0, .null, .null])), (q1, .inr (2, [.null, .int 0, .null, .int 0, .null]))] H := hP
  have hD : va_D A [(h0, .inr (0, [.int 200, .int 0, .int 100, .int 2, .int 0, .null, .null])), (q1, .inr (2, [.null, .int 0, .null, .int 0, .null]))] := hD
  refine lv_dup hx hb dX0_init_26 rfl ?_
  have hPc := hP.sub (ws' := [(q1, .inr (2, [.null, .int 0, .null, .int 0, .null]))]) [1] rfl
  have hFc := va_free (wc := [(q1, .inr (2, [.null, .int 0, .null, .int 0, .null]))]) hD hS hA [1] rfl
  refine call_nN [.ref q1, .ref h0] 4 305 hx hb hml hG hown hK hE (B := B_X2 D k q1) (rm := rn_X2) (mc := 3) (ms := 300) (n_X2 (h0 := q1)) hE.2.2.1.1 ⟨gw_2_18, gw_2_14, gw_2_19⟩ rfl (by decide +kernel) rfl rfl ⟨Nat.le_of_ble_eq_true rfl, Nat.le_of_ble_eq_true rfl⟩ (Nat.le_of_ble_eq_true rfl) (Nat.le_of_ble_eq_true rfl) (Nat.le_of_ble_eq_true rfl) (Nat.le_of_ble_eq_true rfl) hPc hD hS hA [1] rfl hl.1 rfl (Nat.le_of_ble_eq_true rfl) dX0_init_27 (fun u t H1 locs ht hB hk1 hS => ?_)
  obtain ⟨q2, q3, q4, hP1, hD1⟩ := hB
  rw [ht] at hP1
  obtain ⟨hP, hD⟩ := va_join (wr := [(h0, .inr (0, [.int 200, .int 0, .int 100, .int 2, .int 0, .null, .null]))]) (w1 := [(q1, .inr (2, [.ref q2, .int 0, .ref q3, .int 0, .ref q4])), (q2, .inl (k 0, 100, .inl fun _ => 0)), (q3, .inl (k 0, 100, .inl fun _ => 0)), (q4, .inl (k 0, 100, .inl fun _ => 0))]) hP hD [1] [0] rfl rfl (by decide) (by decide) hk1 hFc hP1 hD1
  generalize H1 = H at hP hS ⊢
  have hP : va_P D vwCl [(h0, .inr (0, [.int 200, .int 0, .int 100, .int 2, .int 0, .null, .null])), (q1, .inr (2, [.ref q2, .int 0, .ref q3, .int 0, .ref q4])), (q2, .inl (k 0, 100, .inl fun _ => 0)), (q3, .inl (k 0, 100, .inl fun _ => 0)), (q4, .inl (k 0, 100, .inl fun _ => 0))] H := hP
  have hD : va_D A [(h0, .inr (0, [.int 200, .int 0, .int 100, .int 2, .int 0, .null, .null])), (q1, .inr (2, [.ref q2, .int 0, .ref q3, .int 0, .ref q4])), (q2, .inl (k 0, 100, .inl fun _ => 0)), (q3, .inl (k 0, 100, .inl fun _ => 0)), (q4, .inl (k 0, 100, .inl fun _ => 0))] := hD
  refine va_putF (D := D) (ci := 0) (v := .ref q1) (ty := tyX0 5) (C := RX0) (T := TX0) (N := 7) hx hb hG inlX0 tyX0 tyX0_ok nmX0 hown hK hP hD hS 0 rfl rfl 5 (by decide) (hG _ gw_2_15) (fun _ h => h) rfl hin rfl (tyX0_ok 5 (by decide)) rfl rfl (Nat.le_of_ble_eq_true rfl) dX0_init_30 (fun H locs hP hD hS => ?_)
  have hP : va_P D vwCl [(h0, .inr (0, [.int 200, .int 0, .int 100, .int 2, .int 0, .ref q1, .null])), (q1, .inr (2, [.ref q2, .int 0, .ref q3, .int 0, .ref q4])), (q2, .inl (k 0, 100, .inl fun _ => 0)), (q3, .inl (k 0, 100, .inl fun _ => 0)), (q4, .inl (k 0, 100, .inl fun _ => 0))] H := hP
  have hD : va_D A [(h0, .inr (0, [.int 200, .int 0, .int 100, .int 2, .int 0, .ref q1, .null])), (q1, .inr (2, [.ref q2, .int 0, .ref q3, .int 0, .ref q4])), (q2, .inl (k 0, 100, .inl fun _ => 0)), (q3, .inl (k 0, 100, .inl fun _ => 0)), (q4, .inl (k 0, 100, .inl fun _ => 0))] := hD
  refine lv_aload_n hx hb dX0_init_33 rfl (lv_at hl 0 rfl) ?_
  refine lv_sipush (v := 401) hx hb dX0_init_34 (by decide) ?_
  refine n_I (k := k) hx hb hG hK hP hD hS hA 401 (by decide) (by decide) (Nat.le_of_ble_eq_true rfl) 5 706 (Nat.le_of_ble_eq_true rfl) (Nat.le_of_ble_eq_true rfl) (Nat.le_of_ble_eq_true rfl) (Nat.le_of_ble_eq_true rfl) dX0_init_37 (fun q5 H hP hD hS => ?_)
  have hP : va_P D vwCl [(h0, .inr (0, [.int 200, .int 0, .int 100, .int 2, .int 0, .ref q1, .null])), (q1, .inr (2, [.ref q2, .int 0, .ref q3, .int 0, .ref q4])), (q2, .inl (k 0, 100, .inl fun _ => 0)), (q3, .inl (k 0, 100, .inl fun _ => 0)), (q4, .inl (k 0, 100, .inl fun _ => 0)), (q5, .inl (k 0, 401, .inl fun _ => 0))] H := hP
  have hD : va_D A [(h0, .inr (0, [.int 200, .int 0, .int 100, .int 2, .int 0, .ref q1, .null])), (q1, .inr (2, [.ref q2, .int 0, .ref q3, .int 0, .ref q4])), (q2, .inl (k 0, 100, .inl fun _ => 0)), (q3, .inl (k 0, 100, .inl fun _ => 0)), (q4, .inl (k 0, 100, .inl fun _ => 0)), (q5, .inl (k 0, 401, .inl fun _ => 0))] := hD
  refine va_putF (D := D) (ci := 0) (v := .ref q5) (ty := tyX0 6) (C := RX0) (T := TX0) (N := 7) hx hb hG inlX0 tyX0 tyX0_ok nmX0 hown hK hP hD hS 0 rfl rfl 6 (by decide) (hG _ gw_2_17) (fun _ h => h) rfl hin rfl (tyX0_ok 6 (by decide)) rfl rfl (Nat.le_of_ble_eq_true rfl) dX0_init_39 (fun H locs hP hD hS => ?_)
  have hP : va_P D vwCl [(h0, .inr (0, [.int 200, .int 0, .int 100, .int 2, .int 0, .ref q1, .ref q5])), (q1, .inr (2, [.ref q2, .int 0, .ref q3, .int 0, .ref q4])), (q2, .inl (k 0, 100, .inl fun _ => 0)), (q3, .inl (k 0, 100, .inl fun _ => 0)), (q4, .inl (k 0, 100, .inl fun _ => 0)), (q5, .inl (k 0, 401, .inl fun _ => 0))] H := hP
  have hD : va_D A [(h0, .inr (0, [.int 200, .int 0, .int 100, .int 2, .int 0, .ref q1, .ref q5])), (q1, .inr (2, [.ref q2, .int 0, .ref q3, .int 0, .ref q4])), (q2, .inl (k 0, 100, .inl fun _ => 0)), (q3, .inl (k 0, 100, .inl fun _ => 0)), (q4, .inl (k 0, 100, .inl fun _ => 0)), (q5, .inl (k 0, 401, .inl fun _ => 0))] := hD
  refine lv_aload_n hx hb dX0_init_42 rfl (lv_at hl 0 rfl) ?_
  refine va_get (D := D) (ci := 0) (v := .ref q5) (C := RX0) (T := TX0) (N := 7) hx hb hG inlX0 hown hK hP 0 rfl rfl 6 (by decide) (hG _ gw_2_17) (fun _ h => h) rfl dX0_init_43 ?_
  refine lv_bipush (v := 100) hx hb dX0_init_46 (by decide) ?_
  have hPc := hP.sub (ws' := [(q5, .inl (k 0, 401, .inl fun _ => 0))]) [5] rfl
  have hFc := va_free (wc := [(q5, .inl (k 0, 401, .inl fun _ => 0))]) hD hS hA [5] rfl
  refine call_f (R := rn_X0) (cells := 5) (slots := 706) (a := q5) (v := 100) (N := 401) (by decide) hx hb hml hG hown hK hE gw_3_0 hPc hD hS hA [5] rfl hl.1 (Nat.le_of_ble_eq_true rfl) (Nat.le_of_ble_eq_true rfl) (Nat.le_of_ble_eq_true rfl) (Nat.le_of_ble_eq_true rfl) dX0_init_48 (fun t H1 locs ht hB hk1 hS => ?_)
  obtain ⟨hP1, hD1⟩ := hB
  rw [ht] at hP1
  obtain ⟨hP, hD⟩ := va_join (wr := [(h0, .inr (0, [.int 200, .int 0, .int 100, .int 2, .int 0, .ref q1, .ref q5])), (q1, .inr (2, [.ref q2, .int 0, .ref q3, .int 0, .ref q4])), (q2, .inl (k 0, 100, .inl fun _ => 0)), (q3, .inl (k 0, 100, .inl fun _ => 0)), (q4, .inl (k 0, 100, .inl fun _ => 0))]) (w1 := [(q5, .inl (k 0, 401, .inl (fun q => if q < 401 then 100 else (fun _ => 0) q)))]) hP hD [5] [0, 1, 2, 3, 4] rfl rfl (by decide) (by decide) hk1 hFc hP1 hD1
  generalize H1 = H at hP hS ⊢
  have hP : va_P D vwCl [(h0, .inr (0, [.int 200, .int 0, .int 100, .int 2, .int 0, .ref q1, .ref q5])), (q1, .inr (2, [.ref q2, .int 0, .ref q3, .int 0, .ref q4])), (q2, .inl (k 0, 100, .inl fun _ => 0)), (q3, .inl (k 0, 100, .inl fun _ => 0)), (q4, .inl (k 0, 100, .inl fun _ => 0)), (q5, .inl (k 0, 401, .inl (fun q => if q < 401 then 100 else (fun _ => 0) q)))] H := hP
  have hD : va_D A [(h0, .inr (0, [.int 200, .int 0, .int 100, .int 2, .int 0, .ref q1, .ref q5])), (q1, .inr (2, [.ref q2, .int 0, .ref q3, .int 0, .ref q4])), (q2, .inl (k 0, 100, .inl fun _ => 0)), (q3, .inl (k 0, 100, .inl fun _ => 0)), (q4, .inl (k 0, 100, .inl fun _ => 0)), (q5, .inl (k 0, 401, .inl (fun q => if q < 401 then 100 else (fun _ => 0) q)))] := hD
  exact hret _ _ _ _ () (fun t ht => ⟨q1, q2, q3, q4, q5, by rw [ht]; exact hP, hD⟩) hS dX0_init_51
def B_X3 (D : va_G) (k : Nat → ClassId) (h0 : Nat) : Unit → (Nat → Prop) → State → Prop := fun _ A t => ∃ q1 q2 q3 q4 q5 q6 q7 q8 q9 : Nat, BN D A [(h0, .inr (3, [.ref q1, .int 0, .int 0])), (q1, .inl (k 1, 4, .inr (.inr (.inr (.inr (va_up (va_up (va_up (va_up (fun _ => none) (0 : Int32).toNatClampNeg (some q2)) (1 : Int32).toNatClampNeg (some q4)) (2 : Int32).toNatClampNeg (some q6)) (3 : Int32).toNatClampNeg (some q8))))))), (q2, .inr (1, [.ref q3, .int 0, .int 0, .int 0, .int 0, .int 0, .int 0, .int (-4), .int 0, .int 0, .int 0])), (q3, .inr (4, [.int 0, .int 0, .int 0])), (q4, .inr (1, [.ref q5, .int 0, .int 0, .int 0, .int 0, .int 0, .int 0, .int (-4), .int 0, .int 0, .int 0])), (q5, .inr (4, [.int 0, .int 0, .int 0])), (q6, .inr (1, [.ref q7, .int 0, .int 0, .int 0, .int 0, .int 0, .int 0, .int (-4), .int 0, .int 0, .int 0])), (q7, .inr (4, [.int 0, .int 0, .int 0])), (q8, .inr (1, [.ref q9, .int 0, .int 0, .int 0, .int 0, .int 0, .int 0, .int (-4), .int 0, .int 0, .int 0])), (q9, .inr (4, [.int 0, .int 0, .int 0]))] t
def rn_X3 : Room := { frames := 3, cells := 9, slots := 60, locals := 52 }
set_option maxRecDepth 100000 in
set_option maxHeartbeats 0 in
theorem n_X3 {l : Launch} {D : va_G} {k : Nat → ClassId} {h0 sz : Nat} : Met l yX3_init (Cond.code yX3_init cX3_init 2 none :: wsL_law) rn_X3 (va_Pc [.ref h0] (fun U => U.heap.size = sz ∧ GN D k [(h0, .inr (3, [.null, .int 0, .int 0]))] U)) (va_Qv (fun _ : Unit => True) (fun u t => B_X3 D k h0 u (va_A [(h0, .inr (3, [.null, .int 0, .int 0]))] sz) t) (va_A [(h0, .inr (3, [.null, .int 0, .int 0]))] sz)) 9 60 (va_A [(h0, .inr (3, [.null, .int 0, .int 0]))] sz) := by
  refine met_n (B := B_X3 D k h0) (plainFor_of_name (by decide)) (Nat.le_of_ble_eq_true rfl) ?_ (D1 trivial)
  intro p e s m args below meth c Q ls A hx hb hml hG hown hK hE hin hret hP hD hA hS hl
  have hin := hin rfl
  refine lv_aload_n hx hb dX3_init_0 rfl (lv_at hl 0 rfl) ?_
  refine W.objInit hx hb hown (hG _ gw_3_7) (hG _ gw_1_11) (hG _ gw_1_12) rfl (by rw [hml]; exact hl.1) rfl dX3_init_1 (Nat.le_of_ble_eq_true rfl) (Nat.le_of_ble_eq_true rfl) ?_
  refine W.eq (g2 := F0 m 4 ls []) rfl ?_
  refine lv_aload_n hx hb dX3_init_4 rfl (lv_at hl 0 rfl) ?_
  refine lv_iconst (v := 4) hx hb dX3_init_5 (by decide) ?_
  refine n_Q (C := "WindBay$Boat") 1 rfl hx hb hG hown gw_3_8 hE.1 hK hP hD hS hA 4 (by decide) (by decide) (Nat.le_of_ble_eq_true rfl) 1 4 (Nat.le_of_ble_eq_true rfl) (Nat.le_of_ble_eq_true rfl) (Nat.le_of_ble_eq_true rfl) (Nat.le_of_ble_eq_true rfl) dX3_init_6 (fun q1 H hP hD hS => ?_)
  have hP : va_P D vwCl [(h0, .inr (3, [.null, .int 0, .int 0])), (q1, .inl (k 1, 4, .inr (.inr (.inr (.inr (fun _ => none))))))] H := hP
  have hD : va_D A [(h0, .inr (3, [.null, .int 0, .int 0])), (q1, .inl (k 1, 4, .inr (.inr (.inr (.inr (fun _ => none))))))] := hD
  refine va_putF (D := D) (ci := 3) (v := .ref q1) (ty := tyX3 0) (C := RX3) (T := TX3) (N := 3) hx hb hG inlX3 tyX3 tyX3_ok nmX3 hown hK hP hD hS 0 rfl rfl 0 (by decide) (hG _ gw_3_9) (fun _ h => h) rfl hin rfl (tyX3_ok 0 (by decide)) rfl rfl (Nat.le_of_ble_eq_true rfl) dX3_init_9 (fun H locs hP hD hS => ?_)
  have hP : va_P D vwCl [(h0, .inr (3, [.ref q1, .int 0, .int 0])), (q1, .inl (k 1, 4, .inr (.inr (.inr (.inr (fun _ => none))))))] H := hP
  have hD : va_D A [(h0, .inr (3, [.ref q1, .int 0, .int 0])), (q1, .inl (k 1, 4, .inr (.inr (.inr (.inr (fun _ => none))))))] := hD
  refine lv_iconst (v := 0) hx hb dX3_init_12 (by decide) ?_
  refine lv_istore_n (lv' := [(1, .int 0), (0, .ref h0)]) hx hb dX3_init_13 rfl hl (by decide) rfl (fun ls hl => ?_)
  refine lv_iload_n hx hb dX3_init_14 rfl (lv_at hl 0 rfl) ?_
  refine lv_aload_n hx hb dX3_init_15 rfl (lv_at hl 1 rfl) ?_
  refine va_get (D := D) (ci := 3) (v := .ref q1) (C := RX3) (T := TX3) (N := 3) hx hb hG inlX3 hown hK hP 0 rfl rfl 0 (by decide) (hG _ gw_3_9) (fun _ h => h) rfl dX3_init_16 ?_
  refine va_alen (v := 4) (ty := .object "WindBay$Boat") hx hb hK hP 1 1 rfl rfl (by rfl) dX3_init_19 ?_
  refine lv_icmp_ge (tgt := 42) hx hb dX3_init_20 (by decide) (fun hc => absurd hc (show ¬ (4 : Int32) ≤ 0 by decide)) (fun _ => ?_)
  refine lv_aload_n hx hb dX3_init_23 rfl (lv_at hl 1 rfl) ?_
  refine va_get (D := D) (ci := 3) (v := .ref q1) (C := RX3) (T := TX3) (N := 3) hx hb hG inlX3 hown hK hP 0 rfl rfl 0 (by decide) (hG _ gw_3_9) (fun _ h => h) rfl dX3_init_24 ?_
  refine lv_iload_n hx hb dX3_init_27 rfl (lv_at hl 0 rfl) ?_
  refine n_O (k := k) (ci := 1) (fs := [.null, .int 0, .int 0, .int 0, .int 0, .int 0, .int 0, .int 0, .int 0, .int 0, .int 0]) (C := RX1) (T := TX1) (N := 11) hx hb hG inlX1 tyX1 tyX1_ok hown gw_3_8 gw_3_10 gw_3_11 hK hP hD hS hA rfl (fun j hj => by rcases (show j = 0 ∨ j = 1 ∨ j = 2 ∨ j = 3 ∨ j = 4 ∨ j = 5 ∨ j = 6 ∨ j = 7 ∨ j = 8 ∨ j = 9 ∨ j = 10 by omega) with rfl | rfl | rfl | rfl | rfl | rfl | rfl | rfl | rfl | rfl | rfl <;> rfl) 2 15 (Nat.le_of_ble_eq_true rfl) (Nat.le_of_ble_eq_true rfl) (Nat.le_of_ble_eq_true rfl) (Nat.le_of_ble_eq_true rfl) dX3_init_28 (fun q2 H hP hD hS => ?_)
  have hP : va_P D vwCl [(h0, .inr (3, [.ref q1, .int 0, .int 0])), (q1, .inl (k 1, 4, .inr (.inr (.inr (.inr (fun _ => none)))))), (q2, .inr (1, [.null, .int 0, .int 0, .int 0, .int 0, .int 0, .int 0, .int 0, .int 0, .int 0, .int 0]))] H := hP
  have hD : va_D A [(h0, .inr (3, [.ref q1, .int 0, .int 0])), (q1, .inl (k 1, 4, .inr (.inr (.inr (.inr (fun _ => none)))))), (q2, .inr (1, [.null, .int 0, .int 0, .int 0, .int 0, .int 0, .int 0, .int 0, .int 0, .int 0, .int 0]))] := hD
  refine lv_dup hx hb dX3_init_31 rfl ?_
  have hPc := hP.sub (ws' := [(q2, .inr (1, [.null, .int 0, .int 0, .int 0, .int 0, .int 0, .int 0, .int 0, .int 0, .int 0, .int 0]))]) [2] rfl
  have hFc := va_free (wc := [(q2, .inr (1, [.null, .int 0, .int 0, .int 0, .int 0, .int 0, .int 0, .int 0, .int 0, .int 0, .int 0]))]) hD hS hA [2] rfl
  refine call_nN [.ref q2, .int 0, .ref q1] 3 18 hx hb hml hG hown hK hE (B := B_X1 D k q2) (rm := rn_X1) (mc := 1) (ms := 3) (n_X1 (h0 := q2)) hE.2.2.1.2.1 ⟨gw_3_12, gw_3_11, gw_3_13⟩ rfl (by decide +kernel) rfl rfl ⟨Nat.le_of_ble_eq_true rfl, Nat.le_of_ble_eq_true rfl⟩ (Nat.le_of_ble_eq_true rfl) (Nat.le_of_ble_eq_true rfl) (Nat.le_of_ble_eq_true rfl) (Nat.le_of_ble_eq_true rfl) hPc hD hS hA [2] rfl hl.1 rfl (Nat.le_of_ble_eq_true rfl) dX3_init_32 (fun u t H1 locs ht hB hk1 hS => ?_)
  obtain ⟨q3, hP1, hD1⟩ := hB
  rw [ht] at hP1
  obtain ⟨hP, hD⟩ := va_join (wr := [(h0, .inr (3, [.ref q1, .int 0, .int 0])), (q1, .inl (k 1, 4, .inr (.inr (.inr (.inr (fun _ => none))))))]) (w1 := [(q2, .inr (1, [.ref q3, .int 0, .int 0, .int 0, .int 0, .int 0, .int 0, .int (-4), .int 0, .int 0, .int 0])), (q3, .inr (4, [.int 0, .int 0, .int 0]))]) hP hD [2] [0, 1] rfl rfl (by decide) (by decide) hk1 hFc hP1 hD1
  generalize H1 = H at hP hS ⊢
  have hP : va_P D vwCl [(h0, .inr (3, [.ref q1, .int 0, .int 0])), (q1, .inl (k 1, 4, .inr (.inr (.inr (.inr (fun _ => none)))))), (q2, .inr (1, [.ref q3, .int 0, .int 0, .int 0, .int 0, .int 0, .int 0, .int (-4), .int 0, .int 0, .int 0])), (q3, .inr (4, [.int 0, .int 0, .int 0]))] H := hP
  have hD : va_D A [(h0, .inr (3, [.ref q1, .int 0, .int 0])), (q1, .inl (k 1, 4, .inr (.inr (.inr (.inr (fun _ => none)))))), (q2, .inr (1, [.ref q3, .int 0, .int 0, .int 0, .int 0, .int 0, .int 0, .int (-4), .int 0, .int 0, .int 0])), (q3, .inr (4, [.int 0, .int 0, .int 0]))] := hD
  refine va_astq hx hb hK hP hD hS 1 1 2 1 rfl rfl rfl rfl (i := 0) (vin_I (by decide) (by decide)) dX3_init_35 (fun H locs hP hD hS => ?_)
  have hP : va_P D vwCl [(h0, .inr (3, [.ref q1, .int 0, .int 0])), (q1, .inl (k 1, 4, .inr (.inr (.inr (.inr (va_up (fun _ => none) (0 : Int32).toNatClampNeg (some q2))))))), (q2, .inr (1, [.ref q3, .int 0, .int 0, .int 0, .int 0, .int 0, .int 0, .int (-4), .int 0, .int 0, .int 0])), (q3, .inr (4, [.int 0, .int 0, .int 0]))] H := hP
  have hD : va_D A [(h0, .inr (3, [.ref q1, .int 0, .int 0])), (q1, .inl (k 1, 4, .inr (.inr (.inr (.inr (va_up (fun _ => none) (0 : Int32).toNatClampNeg (some q2))))))), (q2, .inr (1, [.ref q3, .int 0, .int 0, .int 0, .int 0, .int 0, .int 0, .int (-4), .int 0, .int 0, .int 0])), (q3, .inr (4, [.int 0, .int 0, .int 0]))] := hD
  refine lv_iinc (v := 1) (lv' := [(1, .int 1), (0, .ref h0)]) hx hb dX3_init_36 hl (k := 0) rfl (by decide) (by decide) rfl (fun ls hl => ?_)
  refine lv_goto (tgt := 14) hx hb dX3_init_39 (by decide) ?_
  refine lv_iload_n hx hb dX3_init_14 rfl (lv_at hl 0 rfl) ?_
  refine lv_aload_n hx hb dX3_init_15 rfl (lv_at hl 1 rfl) ?_
  refine va_get (D := D) (ci := 3) (v := .ref q1) (C := RX3) (T := TX3) (N := 3) hx hb hG inlX3 hown hK hP 0 rfl rfl 0 (by decide) (hG _ gw_3_9) (fun _ h => h) rfl dX3_init_16 ?_
  refine va_alen (v := 4) (ty := .object "WindBay$Boat") hx hb hK hP 1 1 rfl rfl (by rfl) dX3_init_19 ?_
  refine lv_icmp_ge (tgt := 42) hx hb dX3_init_20 (by decide) (fun hc => absurd hc (show ¬ (4 : Int32) ≤ 1 by decide)) (fun _ => ?_)
  refine lv_aload_n hx hb dX3_init_23 rfl (lv_at hl 1 rfl) ?_
  refine va_get (D := D) (ci := 3) (v := .ref q1) (C := RX3) (T := TX3) (N := 3) hx hb hG inlX3 hown hK hP 0 rfl rfl 0 (by decide) (hG _ gw_3_9) (fun _ h => h) rfl dX3_init_24 ?_
  refine lv_iload_n hx hb dX3_init_27 rfl (lv_at hl 0 rfl) ?_
  refine n_O (k := k) (ci := 1) (fs := [.null, .int 0, .int 0, .int 0, .int 0, .int 0, .int 0, .int 0, .int 0, .int 0, .int 0]) (C := RX1) (T := TX1) (N := 11) hx hb hG inlX1 tyX1 tyX1_ok hown gw_3_8 gw_3_10 gw_3_11 hK hP hD hS hA rfl (fun j hj => by rcases (show j = 0 ∨ j = 1 ∨ j = 2 ∨ j = 3 ∨ j = 4 ∨ j = 5 ∨ j = 6 ∨ j = 7 ∨ j = 8 ∨ j = 9 ∨ j = 10 by omega) with rfl | rfl | rfl | rfl | rfl | rfl | rfl | rfl | rfl | rfl | rfl <;> rfl) 4 29 (Nat.le_of_ble_eq_true rfl) (Nat.le_of_ble_eq_true rfl) (Nat.le_of_ble_eq_true rfl) (Nat.le_of_ble_eq_true rfl) dX3_init_28 (fun q4 H hP hD hS => ?_)
  have hP : va_P D vwCl [(h0, .inr (3, [.ref q1, .int 0, .int 0])), (q1, .inl (k 1, 4, .inr (.inr (.inr (.inr (va_up (fun _ => none) (0 : Int32).toNatClampNeg (some q2))))))), (q2, .inr (1, [.ref q3, .int 0, .int 0, .int 0, .int 0, .int 0, .int 0, .int (-4), .int 0, .int 0, .int 0])), (q3, .inr (4, [.int 0, .int 0, .int 0])), (q4, .inr (1, [.null, .int 0, .int 0, .int 0, .int 0, .int 0, .int 0, .int 0, .int 0, .int 0, .int 0]))] H := hP
  have hD : va_D A [(h0, .inr (3, [.ref q1, .int 0, .int 0])), (q1, .inl (k 1, 4, .inr (.inr (.inr (.inr (va_up (fun _ => none) (0 : Int32).toNatClampNeg (some q2))))))), (q2, .inr (1, [.ref q3, .int 0, .int 0, .int 0, .int 0, .int 0, .int 0, .int (-4), .int 0, .int 0, .int 0])), (q3, .inr (4, [.int 0, .int 0, .int 0])), (q4, .inr (1, [.null, .int 0, .int 0, .int 0, .int 0, .int 0, .int 0, .int 0, .int 0, .int 0, .int 0]))] := hD
  refine lv_dup hx hb dX3_init_31 rfl ?_
  have hPc := hP.sub (ws' := [(q4, .inr (1, [.null, .int 0, .int 0, .int 0, .int 0, .int 0, .int 0, .int 0, .int 0, .int 0, .int 0]))]) [4] rfl
  have hFc := va_free (wc := [(q4, .inr (1, [.null, .int 0, .int 0, .int 0, .int 0, .int 0, .int 0, .int 0, .int 0, .int 0, .int 0]))]) hD hS hA [4] rfl
  refine call_nN [.ref q4, .int 1, .ref q1] 5 32 hx hb hml hG hown hK hE (B := B_X1 D k q4) (rm := rn_X1) (mc := 1) (ms := 3) (n_X1 (h0 := q4)) hE.2.2.1.2.1 ⟨gw_3_12, gw_3_11, gw_3_13⟩ rfl (by decide +kernel) rfl rfl ⟨Nat.le_of_ble_eq_true rfl, Nat.le_of_ble_eq_true rfl⟩ (Nat.le_of_ble_eq_true rfl) (Nat.le_of_ble_eq_true rfl) (Nat.le_of_ble_eq_true rfl) (Nat.le_of_ble_eq_true rfl) hPc hD hS hA [4] rfl hl.1 rfl (Nat.le_of_ble_eq_true rfl) dX3_init_32 (fun u t H1 locs ht hB hk1 hS => ?_)
  obtain ⟨q5, hP1, hD1⟩ := hB
  rw [ht] at hP1
  obtain ⟨hP, hD⟩ := va_join (wr := [(h0, .inr (3, [.ref q1, .int 0, .int 0])), (q1, .inl (k 1, 4, .inr (.inr (.inr (.inr (va_up (fun _ => none) (0 : Int32).toNatClampNeg (some q2))))))), (q2, .inr (1, [.ref q3, .int 0, .int 0, .int 0, .int 0, .int 0, .int 0, .int (-4), .int 0, .int 0, .int 0])), (q3, .inr (4, [.int 0, .int 0, .int 0]))]) (w1 := [(q4, .inr (1, [.ref q5, .int 0, .int 0, .int 0, .int 0, .int 0, .int 0, .int (-4), .int 0, .int 0, .int 0])), (q5, .inr (4, [.int 0, .int 0, .int 0]))]) hP hD [4] [0, 1, 2, 3] rfl rfl (by decide) (by decide) hk1 hFc hP1 hD1
  generalize H1 = H at hP hS ⊢
  have hP : va_P D vwCl [(h0, .inr (3, [.ref q1, .int 0, .int 0])), (q1, .inl (k 1, 4, .inr (.inr (.inr (.inr (va_up (fun _ => none) (0 : Int32).toNatClampNeg (some q2))))))), (q2, .inr (1, [.ref q3, .int 0, .int 0, .int 0, .int 0, .int 0, .int 0, .int (-4), .int 0, .int 0, .int 0])), (q3, .inr (4, [.int 0, .int 0, .int 0])), (q4, .inr (1, [.ref q5, .int 0, .int 0, .int 0, .int 0, .int 0, .int 0, .int (-4), .int 0, .int 0, .int 0])), (q5, .inr (4, [.int 0, .int 0, .int 0]))] H := hP
  have hD : va_D A [(h0, .inr (3, [.ref q1, .int 0, .int 0])), (q1, .inl (k 1, 4, .inr (.inr (.inr (.inr (va_up (fun _ => none) (0 : Int32).toNatClampNeg (some q2))))))), (q2, .inr (1, [.ref q3, .int 0, .int 0, .int 0, .int 0, .int 0, .int 0, .int (-4), .int 0, .int 0, .int 0])), (q3, .inr (4, [.int 0, .int 0, .int 0])), (q4, .inr (1, [.ref q5, .int 0, .int 0, .int 0, .int 0, .int 0, .int 0, .int (-4), .int 0, .int 0, .int 0])), (q5, .inr (4, [.int 0, .int 0, .int 0]))] := hD
  refine va_astq hx hb hK hP hD hS 1 1 4 1 rfl rfl rfl rfl (i := 1) (vin_I (by decide) (by decide)) dX3_init_35 (fun H locs hP hD hS => ?_)
  have hP : va_P D vwCl [(h0, .inr (3, [.ref q1, .int 0, .int 0])), (q1, .inl (k 1, 4, .inr (.inr (.inr (.inr (va_up (va_up (fun _ => none) (0 : Int32).toNatClampNeg (some q2)) (1 : Int32).toNatClampNeg (some q4))))))), (q2, .inr (1, [.ref q3, .int 0, .int 0, .int 0, .int 0, .int 0, .int 0, .int (-4), .int 0, .int 0, .int 0])), (q3, .inr (4, [.int 0, .int 0, .int 0])), (q4, .inr (1, [.ref q5, .int 0, .int 0, .int 0, .int 0, .int 0, .int 0, .int (-4), .int 0, .int 0, .int 0])), (q5, .inr (4, [.int 0, .int 0, .int 0]))] H := hP
  have hD : va_D A [(h0, .inr (3, [.ref q1, .int 0, .int 0])), (q1, .inl (k 1, 4, .inr (.inr (.inr (.inr (va_up (va_up (fun _ => none) (0 : Int32).toNatClampNeg (some q2)) (1 : Int32).toNatClampNeg (some q4))))))), (q2, .inr (1, [.ref q3, .int 0, .int 0, .int 0, .int 0, .int 0, .int 0, .int (-4), .int 0, .int 0, .int 0])), (q3, .inr (4, [.int 0, .int 0, .int 0])), (q4, .inr (1, [.ref q5, .int 0, .int 0, .int 0, .int 0, .int 0, .int 0, .int (-4), .int 0, .int 0, .int 0])), (q5, .inr (4, [.int 0, .int 0, .int 0]))] := hD
  refine lv_iinc (v := 2) (lv' := [(1, .int 2), (0, .ref h0)]) hx hb dX3_init_36 hl (k := 0) rfl (by decide) (by decide) rfl (fun ls hl => ?_)
  refine lv_goto (tgt := 14) hx hb dX3_init_39 (by decide) ?_
  refine lv_iload_n hx hb dX3_init_14 rfl (lv_at hl 0 rfl) ?_
  refine lv_aload_n hx hb dX3_init_15 rfl (lv_at hl 1 rfl) ?_
  refine va_get (D := D) (ci := 3) (v := .ref q1) (C := RX3) (T := TX3) (N := 3) hx hb hG inlX3 hown hK hP 0 rfl rfl 0 (by decide) (hG _ gw_3_9) (fun _ h => h) rfl dX3_init_16 ?_
  refine va_alen (v := 4) (ty := .object "WindBay$Boat") hx hb hK hP 1 1 rfl rfl (by rfl) dX3_init_19 ?_
  refine lv_icmp_ge (tgt := 42) hx hb dX3_init_20 (by decide) (fun hc => absurd hc (show ¬ (4 : Int32) ≤ 2 by decide)) (fun _ => ?_)
  refine lv_aload_n hx hb dX3_init_23 rfl (lv_at hl 1 rfl) ?_
  refine va_get (D := D) (ci := 3) (v := .ref q1) (C := RX3) (T := TX3) (N := 3) hx hb hG inlX3 hown hK hP 0 rfl rfl 0 (by decide) (hG _ gw_3_9) (fun _ h => h) rfl dX3_init_24 ?_
  refine lv_iload_n hx hb dX3_init_27 rfl (lv_at hl 0 rfl) ?_
  refine n_O (k := k) (ci := 1) (fs := [.null, .int 0, .int 0, .int 0, .int 0, .int 0, .int 0, .int 0, .int 0, .int 0, .int 0]) (C := RX1) (T := TX1) (N := 11) hx hb hG inlX1 tyX1 tyX1_ok hown gw_3_8 gw_3_10 gw_3_11 hK hP hD hS hA rfl (fun j hj => by rcases (show j = 0 ∨ j = 1 ∨ j = 2 ∨ j = 3 ∨ j = 4 ∨ j = 5 ∨ j = 6 ∨ j = 7 ∨ j = 8 ∨ j = 9 ∨ j = 10 by omega) with rfl | rfl | rfl | rfl | rfl | rfl | rfl | rfl | rfl | rfl | rfl <;> rfl) 6 43 (Nat.le_of_ble_eq_true rfl) (Nat.le_of_ble_eq_true rfl) (Nat.le_of_ble_eq_true rfl) (Nat.le_of_ble_eq_true rfl) dX3_init_28 (fun q6 H hP hD hS => ?_)
  have hP : va_P D vwCl [(h0, .inr (3, [.ref q1, .int 0, .int 0])), (q1, .inl (k 1, 4, .inr (.inr (.inr (.inr (va_up (va_up (fun _ => none) (0 : Int32).toNatClampNeg (some q2)) (1 : Int32).toNatClampNeg (some q4))))))), (q2, .inr (1, [.ref q3, .int 0, .int 0, .int 0, .int 0, .int 0, .int 0, .int (-4), .int 0, .int 0, .int 0])), (q3, .inr (4, [.int 0, .int 0, .int 0])), (q4, .inr (1, [.ref q5, .int 0, .int 0, .int 0, .int 0, .int 0, .int 0, .int (-4), .int 0, .int 0, .int 0])), (q5, .inr (4, [.int 0, .int 0, .int 0])), (q6, .inr (1, [.null, .int 0, .int 0, .int 0, .int 0, .int 0, .int 0, .int 0, .int 0, .int 0, .int 0]))] H := hP
  have hD : va_D A [(h0, .inr (3, [.ref q1, .int 0, .int 0])), (q1, .inl (k 1, 4, .inr (.inr (.inr (.inr (va_up (va_up (fun _ => none) (0 : Int32).toNatClampNeg (some q2)) (1 : Int32).toNatClampNeg (some q4))))))), (q2, .inr (1, [.ref q3, .int 0, .int 0, .int 0, .int 0, .int 0, .int 0, .int (-4), .int 0, .int 0, .int 0])), (q3, .inr (4, [.int 0, .int 0, .int 0])), (q4, .inr (1, [.ref q5, .int 0, .int 0, .int 0, .int 0, .int 0, .int 0, .int (-4), .int 0, .int 0, .int 0])), (q5, .inr (4, [.int 0, .int 0, .int 0])), (q6, .inr (1, [.null, .int 0, .int 0, .int 0, .int 0, .int 0, .int 0, .int 0, .int 0, .int 0, .int 0]))] := hD
  refine lv_dup hx hb dX3_init_31 rfl ?_
  have hPc := hP.sub (ws' := [(q6, .inr (1, [.null, .int 0, .int 0, .int 0, .int 0, .int 0, .int 0, .int 0, .int 0, .int 0, .int 0]))]) [6] rfl
  have hFc := va_free (wc := [(q6, .inr (1, [.null, .int 0, .int 0, .int 0, .int 0, .int 0, .int 0, .int 0, .int 0, .int 0, .int 0]))]) hD hS hA [6] rfl
  refine call_nN [.ref q6, .int 2, .ref q1] 7 46 hx hb hml hG hown hK hE (B := B_X1 D k q6) (rm := rn_X1) (mc := 1) (ms := 3) (n_X1 (h0 := q6)) hE.2.2.1.2.1 ⟨gw_3_12, gw_3_11, gw_3_13⟩ rfl (by decide +kernel) rfl rfl ⟨Nat.le_of_ble_eq_true rfl, Nat.le_of_ble_eq_true rfl⟩ (Nat.le_of_ble_eq_true rfl) (Nat.le_of_ble_eq_true rfl) (Nat.le_of_ble_eq_true rfl) (Nat.le_of_ble_eq_true rfl) hPc hD hS hA [6] rfl hl.1 rfl (Nat.le_of_ble_eq_true rfl) dX3_init_32 (fun u t H1 locs ht hB hk1 hS => ?_)
  obtain ⟨q7, hP1, hD1⟩ := hB
  rw [ht] at hP1
  obtain ⟨hP, hD⟩ := va_join (wr := [(h0, .inr (3, [.ref q1, .int 0, .int 0])), (q1, .inl (k 1, 4, .inr (.inr (.inr (.inr (va_up (va_up (fun _ => none) (0 : Int32).toNatClampNeg (some q2)) (1 : Int32).toNatClampNeg (some q4))))))), (q2, .inr (1, [.ref q3, .int 0, .int 0, .int 0, .int 0, .int 0, .int 0, .int (-4), .int 0, .int 0, .int 0])), (q3, .inr (4, [.int 0, .int 0, .int 0])), (q4, .inr (1, [.ref q5, .int 0, .int 0, .int 0, .int 0, .int 0, .int 0, .int (-4), .int 0, .int 0, .int 0])), (q5, .inr (4, [.int 0, .int 0, .int 0]))]) (w1 := [(q6, .inr (1, [.ref q7, .int 0, .int 0, .int 0, .int 0, .int 0, .int 0, .int (-4), .int 0, .int 0, .int 0])), (q7, .inr (4, [.int 0, .int 0, .int 0]))]) hP hD [6] [0, 1, 2, 3, 4, 5] rfl rfl (by decide) (by decide) hk1 hFc hP1 hD1
  generalize H1 = H at hP hS ⊢
  have hP : va_P D vwCl [(h0, .inr (3, [.ref q1, .int 0, .int 0])), (q1, .inl (k 1, 4, .inr (.inr (.inr (.inr (va_up (va_up (fun _ => none) (0 : Int32).toNatClampNeg (some q2)) (1 : Int32).toNatClampNeg (some q4))))))), (q2, .inr (1, [.ref q3, .int 0, .int 0, .int 0, .int 0, .int 0, .int 0, .int (-4), .int 0, .int 0, .int 0])), (q3, .inr (4, [.int 0, .int 0, .int 0])), (q4, .inr (1, [.ref q5, .int 0, .int 0, .int 0, .int 0, .int 0, .int 0, .int (-4), .int 0, .int 0, .int 0])), (q5, .inr (4, [.int 0, .int 0, .int 0])), (q6, .inr (1, [.ref q7, .int 0, .int 0, .int 0, .int 0, .int 0, .int 0, .int (-4), .int 0, .int 0, .int 0])), (q7, .inr (4, [.int 0, .int 0, .int 0]))] H := hP
  have hD : va_D A [(h0, .inr (3, [.ref q1, .int 0, .int 0])), (q1, .inl (k 1, 4, .inr (.inr (.inr (.inr (va_up (va_up (fun _ => none) (0 : Int32).toNatClampNeg (some q2)) (1 : Int32).toNatClampNeg (some q4))))))), (q2, .inr (1, [.ref q3, .int 0, .int 0, .int 0, .int 0, .int 0, .int 0, .int (-4), .int 0, .int 0, .int 0])), (q3, .inr (4, [.int 0, .int 0, .int 0])), (q4, .inr (1, [.ref q5, .int 0, .int 0, .int 0, .int 0, .int 0, .int 0, .int (-4), .int 0, .int 0, .int 0])), (q5, .inr (4, [.int 0, .int 0, .int 0])), (q6, .inr (1, [.ref q7, .int 0, .int 0, .int 0, .int 0, .int 0, .int 0, .int (-4), .int 0, .int 0, .int 0])), (q7, .inr (4, [.int 0, .int 0, .int 0]))] := hD
  refine va_astq hx hb hK hP hD hS 1 1 6 1 rfl rfl rfl rfl (i := 2) (vin_I (by decide) (by decide)) dX3_init_35 (fun H locs hP hD hS => ?_)
  have hP : va_P D vwCl [(h0, .inr (3, [.ref q1, .int 0, .int 0])), (q1, .inl (k 1, 4, .inr (.inr (.inr (.inr (va_up (va_up (va_up (fun _ => none) (0 : Int32).toNatClampNeg (some q2)) (1 : Int32).toNatClampNeg (some q4)) (2 : Int32).toNatClampNeg (some q6))))))), (q2, .inr (1, [.ref q3, .int 0, .int 0, .int 0, .int 0, .int 0, .int 0, .int (-4), .int 0, .int 0, .int 0])), (q3, .inr (4, [.int 0, .int 0, .int 0])), (q4, .inr (1, [.ref q5, .int 0, .int 0, .int 0, .int 0, .int 0, .int 0, .int (-4), .int 0, .int 0, .int 0])), (q5, .inr (4, [.int 0, .int 0, .int 0])), (q6, .inr (1, [.ref q7, .int 0, .int 0, .int 0, .int 0, .int 0, .int 0, .int (-4), .int 0, .int 0, .int 0])), (q7, .inr (4, [.int 0, .int 0, .int 0]))] H := hP
  have hD : va_D A [(h0, .inr (3, [.ref q1, .int 0, .int 0])), (q1, .inl (k 1, 4, .inr (.inr (.inr (.inr (va_up (va_up (va_up (fun _ => none) (0 : Int32).toNatClampNeg (some q2)) (1 : Int32).toNatClampNeg (some q4)) (2 : Int32).toNatClampNeg (some q6))))))), (q2, .inr (1, [.ref q3, .int 0, .int 0, .int 0, .int 0, .int 0, .int 0, .int (-4), .int 0, .int 0, .int 0])), (q3, .inr (4, [.int 0, .int 0, .int 0])), (q4, .inr (1, [.ref q5, .int 0, .int 0, .int 0, .int 0, .int 0, .int 0, .int (-4), .int 0, .int 0, .int 0])), (q5, .inr (4, [.int 0, .int 0, .int 0])), (q6, .inr (1, [.ref q7, .int 0, .int 0, .int 0, .int 0, .int 0, .int 0, .int (-4), .int 0, .int 0, .int 0])), (q7, .inr (4, [.int 0, .int 0, .int 0]))] := hD
  refine lv_iinc (v := 3) (lv' := [(1, .int 3), (0, .ref h0)]) hx hb dX3_init_36 hl (k := 0) rfl (by decide) (by decide) rfl (fun ls hl => ?_)
  refine lv_goto (tgt := 14) hx hb dX3_init_39 (by decide) ?_
  refine lv_iload_n hx hb dX3_init_14 rfl (lv_at hl 0 rfl) ?_
  refine lv_aload_n hx hb dX3_init_15 rfl (lv_at hl 1 rfl) ?_
  refine va_get (D := D) (ci := 3) (v := .ref q1) (C := RX3) (T := TX3) (N := 3) hx hb hG inlX3 hown hK hP 0 rfl rfl 0 (by decide) (hG _ gw_3_9) (fun _ h => h) rfl dX3_init_16 ?_
  refine va_alen (v := 4) (ty := .object "WindBay$Boat") hx hb hK hP 1 1 rfl rfl (by rfl) dX3_init_19 ?_
  refine lv_icmp_ge (tgt := 42) hx hb dX3_init_20 (by decide) (fun hc => absurd hc (show ¬ (4 : Int32) ≤ 3 by decide)) (fun _ => ?_)
  refine lv_aload_n hx hb dX3_init_23 rfl (lv_at hl 1 rfl) ?_
  refine va_get (D := D) (ci := 3) (v := .ref q1) (C := RX3) (T := TX3) (N := 3) hx hb hG inlX3 hown hK hP 0 rfl rfl 0 (by decide) (hG _ gw_3_9) (fun _ h => h) rfl dX3_init_24 ?_
  refine lv_iload_n hx hb dX3_init_27 rfl (lv_at hl 0 rfl) ?_
  refine n_O (k := k) (ci := 1) (fs := [.null, .int 0, .int 0, .int 0, .int 0, .int 0, .int 0, .int 0, .int 0, .int 0, .int 0]) (C := RX1) (T := TX1) (N := 11) hx hb hG inlX1 tyX1 tyX1_ok hown gw_3_8 gw_3_10 gw_3_11 hK hP hD hS hA rfl (fun j hj => by rcases (show j = 0 ∨ j = 1 ∨ j = 2 ∨ j = 3 ∨ j = 4 ∨ j = 5 ∨ j = 6 ∨ j = 7 ∨ j = 8 ∨ j = 9 ∨ j = 10 by omega) with rfl | rfl | rfl | rfl | rfl | rfl | rfl | rfl | rfl | rfl | rfl <;> rfl) 8 57 (Nat.le_of_ble_eq_true rfl) (Nat.le_of_ble_eq_true rfl) (Nat.le_of_ble_eq_true rfl) (Nat.le_of_ble_eq_true rfl) dX3_init_28 (fun q8 H hP hD hS => ?_)
  have hP : va_P D vwCl [(h0, .inr (3, [.ref q1, .int 0, .int 0])), (q1, .inl (k 1, 4, .inr (.inr (.inr (.inr (va_up (va_up (va_up (fun _ => none) (0 : Int32).toNatClampNeg (some q2)) (1 : Int32).toNatClampNeg (some q4)) (2 : Int32).toNatClampNeg (some q6))))))), (q2, .inr (1, [.ref q3, .int 0, .int 0, .int 0, .int 0, .int 0, .int 0, .int (-4), .int 0, .int 0, .int 0])), (q3, .inr (4, [.int 0, .int 0, .int 0])), (q4, .inr (1, [.ref q5, .int 0, .int 0, .int 0, .int 0, .int 0, .int 0, .int (-4), .int 0, .int 0, .int 0])), (q5, .inr (4, [.int 0, .int 0, .int 0])), (q6, .inr (1, [.ref q7, .int 0, .int 0, .int 0, .int 0, .int 0, .int 0, .int (-4), .int 0, .int 0, .int 0])), (q7, .inr (4, [.int 0, .int 0, .int 0])), (q8, .inr (1, [.null, .int 0, .int 0, .int 0, .int 0, .int 0, .int 0, .int 0, .int 0, .int 0, .int 0]))] H := hP
  have hD : va_D A [(h0, .inr (3, [.ref q1, .int 0, .int 0])), (q1, .inl (k 1, 4, .inr (.inr (.inr (.inr (va_up (va_up (va_up (fun _ => none) (0 : Int32).toNatClampNeg (some q2)) (1 : Int32).toNatClampNeg (some q4)) (2 : Int32).toNatClampNeg (some q6))))))), (q2, .inr (1, [.ref q3, .int 0, .int 0, .int 0, .int 0, .int 0, .int 0, .int (-4), .int 0, .int 0, .int 0])), (q3, .inr (4, [.int 0, .int 0, .int 0])), (q4, .inr (1, [.ref q5, .int 0, .int 0, .int 0, .int 0, .int 0, .int 0, .int (-4), .int 0, .int 0, .int 0])), (q5, .inr (4, [.int 0, .int 0, .int 0])), (q6, .inr (1, [.ref q7, .int 0, .int 0, .int 0, .int 0, .int 0, .int 0, .int (-4), .int 0, .int 0, .int 0])), (q7, .inr (4, [.int 0, .int 0, .int 0])), (q8, .inr (1, [.null, .int 0, .int 0, .int 0, .int 0, .int 0, .int 0, .int 0, .int 0, .int 0, .int 0]))] := hD
  refine lv_dup hx hb dX3_init_31 rfl ?_
  have hPc := hP.sub (ws' := [(q8, .inr (1, [.null, .int 0, .int 0, .int 0, .int 0, .int 0, .int 0, .int 0, .int 0, .int 0, .int 0]))]) [8] rfl
  have hFc := va_free (wc := [(q8, .inr (1, [.null, .int 0, .int 0, .int 0, .int 0, .int 0, .int 0, .int 0, .int 0, .int 0, .int 0]))]) hD hS hA [8] rfl
  refine call_nN [.ref q8, .int 3, .ref q1] 9 60 hx hb hml hG hown hK hE (B := B_X1 D k q8) (rm := rn_X1) (mc := 1) (ms := 3) (n_X1 (h0 := q8)) hE.2.2.1.2.1 ⟨gw_3_12, gw_3_11, gw_3_13⟩ rfl (by decide +kernel) rfl rfl ⟨Nat.le_of_ble_eq_true rfl, Nat.le_of_ble_eq_true rfl⟩ (Nat.le_of_ble_eq_true rfl) (Nat.le_of_ble_eq_true rfl) (Nat.le_of_ble_eq_true rfl) (Nat.le_of_ble_eq_true rfl) hPc hD hS hA [8] rfl hl.1 rfl (Nat.le_of_ble_eq_true rfl) dX3_init_32 (fun u t H1 locs ht hB hk1 hS => ?_)
  obtain ⟨q9, hP1, hD1⟩ := hB
  rw [ht] at hP1
  obtain ⟨hP, hD⟩ := va_join (wr := [(h0, .inr (3, [.ref q1, .int 0, .int 0])), (q1, .inl (k 1, 4, .inr (.inr (.inr (.inr (va_up (va_up (va_up (fun _ => none) (0 : Int32).toNatClampNeg (some q2)) (1 : Int32).toNatClampNeg (some q4)) (2 : Int32).toNatClampNeg (some q6))))))), (q2, .inr (1, [.ref q3, .int 0, .int 0, .int 0, .int 0, .int 0, .int 0, .int (-4), .int 0, .int 0, .int 0])), (q3, .inr (4, [.int 0, .int 0, .int 0])), (q4, .inr (1, [.ref q5, .int 0, .int 0, .int 0, .int 0, .int 0, .int 0, .int (-4), .int 0, .int 0, .int 0])), (q5, .inr (4, [.int 0, .int 0, .int 0])), (q6, .inr (1, [.ref q7, .int 0, .int 0, .int 0, .int 0, .int 0, .int 0, .int (-4), .int 0, .int 0, .int 0])), (q7, .inr (4, [.int 0, .int 0, .int 0]))]) (w1 := [(q8, .inr (1, [.ref q9, .int 0, .int 0, .int 0, .int 0, .int 0, .int 0, .int (-4), .int 0, .int 0, .int 0])), (q9, .inr (4, [.int 0, .int 0, .int 0]))]) hP hD [8] [0, 1, 2, 3, 4, 5, 6, 7] rfl rfl (by decide) (by decide) hk1 hFc hP1 hD1
  generalize H1 = H at hP hS ⊢
  have hP : va_P D vwCl [(h0, .inr (3, [.ref q1, .int 0, .int 0])), (q1, .inl (k 1, 4, .inr (.inr (.inr (.inr (va_up (va_up (va_up (fun _ => none) (0 : Int32).toNatClampNeg (some q2)) (1 : Int32).toNatClampNeg (some q4)) (2 : Int32).toNatClampNeg (some q6))))))), (q2, .inr (1, [.ref q3, .int 0, .int 0, .int 0, .int 0, .int 0, .int 0, .int (-4), .int 0, .int 0, .int 0])), (q3, .inr (4, [.int 0, .int 0, .int 0])), (q4, .inr (1, [.ref q5, .int 0, .int 0, .int 0, .int 0, .int 0, .int 0, .int (-4), .int 0, .int 0, .int 0])), (q5, .inr (4, [.int 0, .int 0, .int 0])), (q6, .inr (1, [.ref q7, .int 0, .int 0, .int 0, .int 0, .int 0, .int 0, .int (-4), .int 0, .int 0, .int 0])), (q7, .inr (4, [.int 0, .int 0, .int 0])), (q8, .inr (1, [.ref q9, .int 0, .int 0, .int 0, .int 0, .int 0, .int 0, .int (-4), .int 0, .int 0, .int 0])), (q9, .inr (4, [.int 0, .int 0, .int 0]))] H := hP
  have hD : va_D A [(h0, .inr (3, [.ref q1, .int 0, .int 0])), (q1, .inl (k 1, 4, .inr (.inr (.inr (.inr (va_up (va_up (va_up (fun _ => none) (0 : Int32).toNatClampNeg (some q2)) (1 : Int32).toNatClampNeg (some q4)) (2 : Int32).toNatClampNeg (some q6))))))), (q2, .inr (1, [.ref q3, .int 0, .int 0, .int 0, .int 0, .int 0, .int 0, .int (-4), .int 0, .int 0, .int 0])), (q3, .inr (4, [.int 0, .int 0, .int 0])), (q4, .inr (1, [.ref q5, .int 0, .int 0, .int 0, .int 0, .int 0, .int 0, .int (-4), .int 0, .int 0, .int 0])), (q5, .inr (4, [.int 0, .int 0, .int 0])), (q6, .inr (1, [.ref q7, .int 0, .int 0, .int 0, .int 0, .int 0, .int 0, .int (-4), .int 0, .int 0, .int 0])), (q7, .inr (4, [.int 0, .int 0, .int 0])), (q8, .inr (1, [.ref q9, .int 0, .int 0, .int 0, .int 0, .int 0, .int 0, .int (-4), .int 0, .int 0, .int 0])), (q9, .inr (4, [.int 0, .int 0, .int 0]))] := hD
  refine va_astq hx hb hK hP hD hS 1 1 8 1 rfl rfl rfl rfl (i := 3) (vin_I (by decide) (by decide)) dX3_init_35 (fun H locs hP hD hS => ?_)
  have hP : va_P D vwCl [(h0, .inr (3, [.ref q1, .int 0, .int 0])), (q1, .inl (k 1, 4, .inr (.inr (.inr (.inr (va_up (va_up (va_up (va_up (fun _ => none) (0 : Int32).toNatClampNeg (some q2)) (1 : Int32).toNatClampNeg (some q4)) (2 : Int32).toNatClampNeg (some q6)) (3 : Int32).toNatClampNeg (some q8))))))), (q2, .inr (1, [.ref q3, .int 0, .int 0, .int 0, .int 0, .int 0, .int 0, .int (-4), .int 0, .int 0, .int 0])), (q3, .inr (4, [.int 0, .int 0, .int 0])), (q4, .inr (1, [.ref q5, .int 0, .int 0, .int 0, .int 0, .int 0, .int 0, .int (-4), .int 0, .int 0, .int 0])), (q5, .inr (4, [.int 0, .int 0, .int 0])), (q6, .inr (1, [.ref q7, .int 0, .int 0, .int 0, .int 0, .int 0, .int 0, .int (-4), .int 0, .int 0, .int 0])), (q7, .inr (4, [.int 0, .int 0, .int 0])), (q8, .inr (1, [.ref q9, .int 0, .int 0, .int 0, .int 0, .int 0, .int 0, .int (-4), .int 0, .int 0, .int 0])), (q9, .inr (4, [.int 0, .int 0, .int 0]))] H := hP
  have hD : va_D A [(h0, .inr (3, [.ref q1, .int 0, .int 0])), (q1, .inl (k 1, 4, .inr (.inr (.inr (.inr (va_up (va_up (va_up (va_up (fun _ => none) (0 : Int32).toNatClampNeg (some q2)) (1 : Int32).toNatClampNeg (some q4)) (2 : Int32).toNatClampNeg (some q6)) (3 : Int32).toNatClampNeg (some q8))))))), (q2, .inr (1, [.ref q3, .int 0, .int 0, .int 0, .int 0, .int 0, .int 0, .int (-4), .int 0, .int 0, .int 0])), (q3, .inr (4, [.int 0, .int 0, .int 0])), (q4, .inr (1, [.ref q5, .int 0, .int 0, .int 0, .int 0, .int 0, .int 0, .int (-4), .int 0, .int 0, .int 0])), (q5, .inr (4, [.int 0, .int 0, .int 0])), (q6, .inr (1, [.ref q7, .int 0, .int 0, .int 0, .int 0, .int 0, .int 0, .int (-4), .int 0, .int 0, .int 0])), (q7, .inr (4, [.int 0, .int 0, .int 0])), (q8, .inr (1, [.ref q9, .int 0, .int 0, .int 0, .int 0, .int 0, .int 0, .int (-4), .int 0, .int 0, .int 0])), (q9, .inr (4, [.int 0, .int 0, .int 0]))] := hD
  refine lv_iinc (v := 4) (lv' := [(1, .int 4), (0, .ref h0)]) hx hb dX3_init_36 hl (k := 0) rfl (by decide) (by decide) rfl (fun ls hl => ?_)
  refine lv_goto (tgt := 14) hx hb dX3_init_39 (by decide) ?_
  refine lv_iload_n hx hb dX3_init_14 rfl (lv_at hl 0 rfl) ?_
  refine lv_aload_n hx hb dX3_init_15 rfl (lv_at hl 1 rfl) ?_
  refine va_get (D := D) (ci := 3) (v := .ref q1) (C := RX3) (T := TX3) (N := 3) hx hb hG inlX3 hown hK hP 0 rfl rfl 0 (by decide) (hG _ gw_3_9) (fun _ h => h) rfl dX3_init_16 ?_
  refine va_alen (v := 4) (ty := .object "WindBay$Boat") hx hb hK hP 1 1 rfl rfl (by rfl) dX3_init_19 ?_
  refine lv_icmp_ge (tgt := 42) hx hb dX3_init_20 (by decide) (fun _ => ?_) (fun hc => absurd (show (4 : Int32) ≤ 4 by decide) hc)
  exact hret _ _ _ _ () (fun t ht => ⟨q1, q2, q3, q4, q5, q6, q7, q8, q9, by rw [ht]; exact hP, hD⟩) hS dX3_init_42
