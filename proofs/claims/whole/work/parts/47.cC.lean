-- @needs 12_dec 13_dec 14_dec 15_dec 31_hC 43_cC 44_cC 45_cC 46_cC
def rm_X6_go : Room := { frames := 5, cells := 0, slots := 0, locals := 107 }
theorem gm_X6_go : Cond.instanceMethod yX6_go ∈ wsL_law ∧ Cond.selects RX6 yX6_go yX6_go ∈ wsL_law ∧ Cond.initialized RX6 ∈ wsL_law ∧ Cond.code yX6_go cX6_go 2 (some .int) ∈ wsL_law := ⟨gw_18_5, gw_18_6, gw_1_2, gw_18_7⟩
theorem gd_X6_go : yX6_go.cls = RX6 ∧ yX6_go.cls ≠ "java/lang/invoke/MethodHandle" ∧ yX6_go.cls ≠ "java/lang/invoke/VarHandle" ∧ (parseMethodDescriptor yX6_go.desc).map (fun d => d.parameters.length) = some 1 := by decide +kernel
set_option maxRecDepth 100000 in
set_option maxHeartbeats 0 in
theorem c_X6_go {l : Launch} {D : va_G} {k : Nat → ClassId} {ad : Nat → Nat} (had : InjN 74 ad) (M : Mem) (a1 : Int32) : Met l yX6_go (Cond.code yX6_go cX6_go 2 (some .int) :: wsL_law) rm_X6_go (va_Pc [.ref (ad 0), .int a1] (GW 74 ad D k (cC ad k M))) (va_Qi (fun r u => f_X6_go M a1 = (r, u)) (fun u t => GW 74 ad D k (cC ad k u) t) (AW 74 ad)) 0 0 (AW 74 ad) := by
  refine met_i (g := cC ad k) (M := M) (plainFor_of_name (by decide)) (Nat.le_of_ble_eq_true rfl) ?_
  intro p e s m args below meth c Q ls hx hb hml hG hown hK hret hP hS hl
  have hl : lv_has ls 2 [(0, .ref (ad 0)), (1, .int a1)] := hl
  obtain ⟨V, hV⟩ : ∃ V, f_X6_go M a1 = V := ⟨_, rfl⟩
  have he := hV
  unfold f_X6_go at he
  refine lv_iload_n hx hb dX6_go_0 rfl (lv_at hl 1 rfl) ?_
  refine lv_iconst (v := 1) hx hb dX6_go_1 (by decide) ?_
  refine lv_icmp_lt (tgt := 11) hx hb dX6_go_2 (by decide) (fun hc_1 => ?_) (fun hc_1 => ?_)
  · have he := ite_t he hc_1
    refine lv_iconst (v := (-1)) hx hb dX6_go_11 (by decide) ?_
    exact hret _ _ _ _ _ _ (hV.trans he.symm) hP hS dX6_go_12
  · have he := ite_f he hc_1
    refine lv_iload_n hx hb dX6_go_5 rfl (lv_at hl 1 rfl) ?_
    refine lv_bipush (v := 100) hx hb dX6_go_6 (by decide) ?_
    refine lv_icmp_le (tgt := 13) hx hb dX6_go_8 (by decide) (fun hc_2 => ?_) (fun hc_2 => ?_)
    · have he := ite_t he hc_2
      refine lv_aload_n hx hb dX6_go_13 rfl (lv_at hl 0 rfl) ?_
      refine gX6_1 hx hb hG hown hK hP rfl gw_1_20 dX6_go_14 ?_
      refine gX3_1 hx hb hG hown hK hP (by decide) gw_18_8 dX6_go_17 ?_
      refine lv_if_eq (tgt := 33) hx hb dX6_go_20 (by decide) (fun hc_3 => ?_) (fun hc_3 => ?_)
      · have he := ite_t he hc_3
        refine lv_bipush (v := (-3)) hx hb dX6_go_33 (by decide) ?_
        exact hret _ _ _ _ _ _ (hV.trans he.symm) hP hS dX6_go_35
      · have he := ite_f he hc_3
        refine lv_aload_n hx hb dX6_go_23 rfl (lv_at hl 0 rfl) ?_
        refine gX6_1 hx hb hG hown hK hP rfl gw_1_20 dX6_go_24 ?_
        refine call_i [] [] hx hb hml hG hown hK (c_X3_hasEnded had M 13 (by decide)) gw_18_9 gm_X3_hasEnded gd_X3_hasEnded rfl rfl ⟨Nat.le_of_ble_eq_true rfl, Nat.le_of_ble_eq_true rfl⟩ ⟨Nat.le_refl _, Nat.le_refl _⟩ (rX3 hK hP (by decide)) hP (fun _ h => h) hS rfl hl.1 rfl (Nat.le_of_ble_eq_true rfl) dX6_go_27 (fun r_4 u_6 H locs hF_5 hP hS => ?_)
        obtain ⟨hz_7, hF_5, hu⟩ := hF_5; rw [hu] at hP; subst hF_5
        refine lv_if_eq (tgt := 36) hx hb dX6_go_30 (by decide) (fun hc_8 => ?_) (fun hc_8 => ?_)
        · have he := ite_t he hc_8
          refine lv_aload_n hx hb dX6_go_36 rfl (lv_at hl 0 rfl) ?_
          refine gX6_1 hx hb hG hown hK hP rfl gw_1_20 dX6_go_37 ?_
          refine lv_aload_n hx hb dX6_go_40 rfl (lv_at hl 0 rfl) ?_
          refine gX6_0 hx hb hG hown hK hP rfl gw_1_16 dX6_go_41 ?_
          refine lv_iload_n hx hb dX6_go_44 rfl (lv_at hl 1 rfl) ?_
          refine call_v [.ref (ad 1), .int a1] [] hx hb hml hG hown hK (c_X3_goOn had M 13 (by decide) 1 (by decide) a1) gw_18_22 gm_X3_goOn gd_X3_goOn rfl rfl ⟨Nat.le_of_ble_eq_true rfl, Nat.le_of_ble_eq_true rfl⟩ ⟨Nat.le_refl _, Nat.le_refl _⟩ (rX3 hK hP (by decide)) hP (fun _ h => h) hS rfl hl.1 rfl (Nat.le_of_ble_eq_true rfl) dX6_go_45 (fun M_11 H locs hF_10 hP hS => ?_)
          have he := bnd_at he hF_10.symm
          refine lv_aload_n hx hb dX6_go_48 rfl (lv_at hl 0 rfl) ?_
          refine gX6_1 hx hb hG hown hK hP rfl gw_1_20 dX6_go_49 ?_
          refine gX3_2 hx hb hG hown hK hP (by decide) gw_13_18 dX6_go_52 ?_
          exact hret _ _ _ _ _ _ (hV.trans he.symm) hP hS dX6_go_55
        · have he := ite_f he hc_8
          refine lv_bipush (v := (-3)) hx hb dX6_go_33 (by decide) ?_
          exact hret _ _ _ _ _ _ (hV.trans he.symm) hP hS dX6_go_35
    · have he := ite_f he hc_2
      refine lv_iconst (v := (-1)) hx hb dX6_go_11 (by decide) ?_
      exact hret _ _ _ _ _ _ (hV.trans he.symm) hP hS dX6_go_12
def rm_X6_turn : Room := { frames := 2, cells := 0, slots := 0, locals := 41 }
theorem gm_X6_turn : Cond.instanceMethod yX6_turn ∈ wsL_law ∧ Cond.selects RX6 yX6_turn yX6_turn ∈ wsL_law ∧ Cond.initialized RX6 ∈ wsL_law ∧ Cond.code yX6_turn cX6_turn 3 (some .int) ∈ wsL_law := ⟨gw_25_6, gw_25_7, gw_1_2, gw_25_8⟩
theorem gd_X6_turn : yX6_turn.cls = RX6 ∧ yX6_turn.cls ≠ "java/lang/invoke/MethodHandle" ∧ yX6_turn.cls ≠ "java/lang/invoke/VarHandle" ∧ (parseMethodDescriptor yX6_turn.desc).map (fun d => d.parameters.length) = some 1 := by decide +kernel
set_option maxRecDepth 100000 in
set_option maxHeartbeats 0 in
theorem c_X6_turn {l : Launch} {D : va_G} {k : Nat → ClassId} {ad : Nat → Nat} (had : InjN 74 ad) (M : Mem) (a1 : Int32) : Met l yX6_turn (Cond.code yX6_turn cX6_turn 3 (some .int) :: wsL_law) rm_X6_turn (va_Pc [.ref (ad 0), .int a1] (GW 74 ad D k (cC ad k M))) (va_Qi (fun r u => f_X6_turn M a1 = (r, u)) (fun u t => GW 74 ad D k (cC ad k u) t) (AW 74 ad)) 0 0 (AW 74 ad) := by
  refine met_i (g := cC ad k) (M := M) (plainFor_of_name (by decide)) (Nat.le_of_ble_eq_true rfl) ?_
  intro p e s m args below meth c Q ls hx hb hml hG hown hK hret hP hS hl
  have hl : lv_has ls 3 [(0, .ref (ad 0)), (1, .int a1)] := hl
  obtain ⟨V, hV⟩ : ∃ V, f_X6_turn M a1 = V := ⟨_, rfl⟩
  have he := hV
  unfold f_X6_turn at he
  refine lv_aload_n hx hb dX6_turn_0 rfl (lv_at hl 0 rfl) ?_
  refine gX6_1 hx hb hG hown hK hP rfl gw_1_20 dX6_turn_1 ?_
  refine lv_iload_n hx hb dX6_turn_4 rfl (lv_at hl 1 rfl) ?_
  refine call_e [.int a1] [] hx hb hml hG hown hK (c_X3_boatAt had M 13 (by decide) a1) gw_16_2 gm_X3_boatAt gd_X3_boatAt rfl rfl ⟨Nat.le_of_ble_eq_true rfl, Nat.le_of_ble_eq_true rfl⟩ ⟨Nat.le_refl _, Nat.le_refl _⟩ (rX3 hK hP (by decide)) hP (fun _ h => h) hS rfl hl.1 rfl (Nat.le_of_ble_eq_true rfl) dX6_turn_5 (fun r_1 u_3 H locs hF_2 hP hS => ?_)
  obtain ⟨hz_4, hF_2, hu⟩ := hF_2; rw [hu] at hP
  rcases r_1 with _ | b_5
  · have he := oel_n he hF_2
    refine lv_astore_nN (lv' := [(2, .null), (0, .ref (ad 0)), (1, .int a1)]) hx hb dX6_turn_8 rfl hl (by decide) rfl (fun ls hl => ?_)
    refine lv_aload_nN hx hb dX6_turn_9 rfl (lv_at hl 0 rfl) ?_
    refine lv_ifnonnullN hx hb dX6_turn_10 ?_
    refine lv_iconst (v := (-1)) hx hb dX6_turn_13 (by decide) ?_
    exact hret _ _ _ _ _ _ (hV.trans he.symm) hP hS dX6_turn_14
  · have he := oel_s he hF_2
    refine lv_astore_n (lv' := [(2, .ref (ad b_5)), (0, .ref (ad 0)), (1, .int a1)]) hx hb dX6_turn_8 rfl hl (by decide) rfl (fun ls hl => ?_)
    refine lv_aload_n hx hb dX6_turn_9 rfl (lv_at hl 0 rfl) ?_
    refine lv_ifnonnull (tgt := 15) hx hb dX6_turn_10 (by decide) ?_
    refine lv_aload_n hx hb dX6_turn_15 rfl (lv_at hl 0 rfl) ?_
    refine lv_aload_n hx hb dX6_turn_16 rfl (lv_at hl 1 rfl) ?_
    refine gX6_0 hx hb hG hown hK hP rfl gw_1_16 dX6_turn_17 ?_
    refine call_i [.ref (ad 1)] [] hx hb hml hG hown hK (c_X1_canTurn had M b_5 (hz_4 _ rfl) 1 (by decide)) gw_25_10 gm_X1_canTurn gd_X1_canTurn rfl rfl ⟨Nat.le_of_ble_eq_true rfl, Nat.le_of_ble_eq_true rfl⟩ ⟨Nat.le_refl _, Nat.le_refl _⟩ (rX1 hK hP (hz_4 _ rfl)) hP (fun _ h => h) hS rfl hl.1 rfl (Nat.le_of_ble_eq_true rfl) dX6_turn_20 (fun r_6 u_8 H locs hF_7 hP hS => ?_)
    obtain ⟨hz_9, hF_7, hu⟩ := hF_7; rw [hu] at hP; subst hF_7
    refine lv_if_ne (tgt := 29) hx hb dX6_turn_23 (by decide) (fun hc_10 => ?_) (fun hc_10 => ?_)
    · have he := ite_t he hc_10
      refine lv_aload_n hx hb dX6_turn_29 rfl (lv_at hl 0 rfl) ?_
      refine lv_aload_n hx hb dX6_turn_30 rfl (lv_at hl 1 rfl) ?_
      refine gX6_0 hx hb hG hown hK hP rfl gw_1_16 dX6_turn_31 ?_
      refine gX0_3 hx hb hG hown hK hP (by decide) gw_25_9 dX6_turn_34 ?_
      refine call_v [.int (M 1 3)] [] hx hb hml hG hown hK (c_X1_comeAbout had M b_5 (hz_4 _ rfl) (M 1 3)) gw_25_11 gm_X1_comeAbout gd_X1_comeAbout rfl rfl ⟨Nat.le_of_ble_eq_true rfl, Nat.le_of_ble_eq_true rfl⟩ ⟨Nat.le_refl _, Nat.le_refl _⟩ (rX1 hK hP (hz_4 _ rfl)) hP (fun _ h => h) hS rfl hl.1 rfl (Nat.le_of_ble_eq_true rfl) dX6_turn_37 (fun M_13 H locs hF_12 hP hS => ?_)
      have he := bnd_at he hF_12.symm
      refine lv_aload_n hx hb dX6_turn_40 rfl (lv_at hl 1 rfl) ?_
      refine gX6_0 hx hb hG hown hK hP rfl gw_1_16 dX6_turn_41 ?_
      refine gX0_3 hx hb hG hown hK hP (by decide) gw_25_9 dX6_turn_44 ?_
      exact hret _ _ _ _ _ _ (hV.trans he.symm) hP hS dX6_turn_47
    · have he := ite_f he (fun q => q hc_10)
      refine lv_bipush (v := (-3)) hx hb dX6_turn_26 (by decide) ?_
      exact hret _ _ _ _ _ _ (hV.trans he.symm) hP hS dX6_turn_28
def rm_X3_beginAnew : Room := { frames := 1, cells := 0, slots := 0, locals := 20 }
theorem gm_X3_beginAnew : Cond.instanceMethod yX3_beginAnew ∈ wsL_law ∧ Cond.selects RX3 yX3_beginAnew yX3_beginAnew ∈ wsL_law ∧ Cond.initialized RX3 ∈ wsL_law ∧ Cond.code yX3_beginAnew cX3_beginAnew 2 none ∈ wsL_law := ⟨gw_25_21, gw_25_22, gw_1_19, gw_25_23⟩
theorem gd_X3_beginAnew : yX3_beginAnew.cls = RX3 ∧ yX3_beginAnew.cls ≠ "java/lang/invoke/MethodHandle" ∧ yX3_beginAnew.cls ≠ "java/lang/invoke/VarHandle" ∧ (parseMethodDescriptor yX3_beginAnew.desc).map (fun d => d.parameters.length) = some 0 := by decide +kernel
set_option maxRecDepth 100000 in
set_option maxHeartbeats 0 in
theorem c_X3_beginAnew {l : Launch} {D : va_G} {k : Nat → ClassId} {ad : Nat → Nat} (had : InjN 74 ad) (M : Mem) (o : Nat) (ho : kRace o) : Met l yX3_beginAnew (Cond.code yX3_beginAnew cX3_beginAnew 2 none :: wsL_law) rm_X3_beginAnew (va_Pc [.ref (ad o)] (GW 74 ad D k (cC ad k M))) (va_Qv (fun u => f_X3_beginAnew M o = u) (fun u t => GW 74 ad D k (cC ad k u) t) (AW 74 ad)) 0 0 (AW 74 ad) := by
  refine met_v (g := cC ad k) (M := M) (plainFor_of_name (by decide)) (Nat.le_of_ble_eq_true rfl) ?_
  intro p e s m args below meth c Q ls hx hb hml hG hown hK hret hP hS hl
  have hl : lv_has ls 2 [(0, .ref (ad o))] := hl
  obtain ⟨V, hV⟩ : ∃ V, f_X3_beginAnew M o = V := ⟨_, rfl⟩
  have he := hV
  unfold f_X3_beginAnew at he
  refine lv_aload_n hx hb dX3_beginAnew_0 rfl (lv_at hl 0 rfl) ?_
  refine lv_iconst (v := 0) hx hb dX3_beginAnew_1 (by decide) ?_
  refine pX3_2 hx hb hG hown hK hP had AW_in hS ho gw_18_13 dX3_beginAnew_2 (fun H locs hP hS => ?_)
  obtain ⟨M_1, eM_1⟩ : ∃ y : Mem, y = up2 M o 2 0 := ⟨_, rfl⟩
  rw [← eM_1] at hP
  have he := bnd_at he eM_1
  refine lv_iconst (v := 0) hx hb dX3_beginAnew_5 (by decide) ?_
  refine lv_istore_n (lv' := [(1, .int 0), (0, .ref (ad o))]) hx hb dX3_beginAnew_6 rfl hl (by decide) rfl (fun ls hl => ?_)
  obtain ⟨M_22, hr_14, he⟩ := bnd_ex he
  have j39 : ∀ (H : Heap) (locs : List Loc) (ls : Array Slot), va_P D vwCl (wld 74 ad (cC ad k M_22)) H → va_S (AW 74 ad) s.heap H locs → lv_has ls 2 [] → W p l e rm_X3_beginAnew s m args below meth c H locs 0 0 Q (F0 m 39 ls []) := by
    intro H locs ls hP hS hl
    exact hret _ _ _ _ _ (hV.trans he.symm) hP hS dX3_beginAnew_39
  have lp7 : ∀ (nn : Nat) (H : Heap) (locs : List Loc) (ls : Array Slot) (M_13 : Mem) (v_12 : Int32), (0 ≤ v_12.toInt) → (4 - v_12.toInt).toNat < nn → lp_X3_beginAnew_7 nn o M_13 v_12 = M_22 → va_P D vwCl (wld 74 ad (cC ad k M_13)) H → va_S (AW 74 ad) s.heap H locs → lv_has ls 2 [(0, .ref (ad o)), (1, .int v_12)] → W p l e rm_X3_beginAnew s m args below meth c H locs 0 0 Q (F0 m 7 ls []) := by
    intro nn
    induction nn with
    | zero =>
      intro H locs ls M_13 v_12 h0v_12 hμ
      exact absurd hμ (Nat.not_lt_zero _)
    | succ nn ih =>
      intro H locs ls M_13 v_12 h0v_12 hμ hr_14 hP hS hl
      rw [lp_X3_beginAnew_7] at hr_14
      refine lv_iload_n hx hb dX3_beginAnew_7 rfl (lv_at hl 1 rfl) ?_
      refine lv_aload_n hx hb dX3_beginAnew_8 rfl (lv_at hl 0 rfl) ?_
      refine gX3_1 hx hb hG hown hK hP ho gw_6_7 dX3_beginAnew_9 ?_
      refine lv_icmp_ge (tgt := 39) hx hb dX3_beginAnew_12 (by decide) (fun hc_15 => ?_) (fun hc_15 => ?_)
      · have hr_14 := ite_t hr_14 hc_15
        cases hr_14
        exact j39 _ _ _ hP hS (lv_sub hl [] rfl)
      · have hr_14 := ite_f hr_14 hc_15
        refine lv_iload_n hx hb dX3_beginAnew_15 rfl (lv_at hl 1 rfl) ?_
        refine lv_aload_n hx hb dX3_beginAnew_16 rfl (lv_at hl 0 rfl) ?_
        refine gX3_0 hx hb hG hown hK hP ho gw_3_9 dX3_beginAnew_17 ?_
        refine an_kBts hx hb hK hP (kR_bts ho) dX3_beginAnew_20 ?_
        refine lv_icmp_ge (tgt := 39) hx hb dX3_beginAnew_21 (by decide) (fun hc_16 => ?_) (fun hc_16 => ?_)
        · have hr_14 := ite_t hr_14 hc_16
          cases hr_14
          exact j39 _ _ _ hP hS (lv_sub hl [] rfl)
        · have hr_14 := ite_f hr_14 hc_16
          refine lv_aload_n hx hb dX3_beginAnew_24 rfl (lv_at hl 0 rfl) ?_
          refine gX3_0 hx hb hG hown hK hP ho gw_3_9 dX3_beginAnew_25 ?_
          refine lv_iload_n hx hb dX3_beginAnew_28 rfl (lv_at hl 1 rfl) ?_
          have hn_17 : vp_in v_12 4 := (vin_I (by have q0 : v_12.toInt < (M_13 o 1).toInt := nle_I hc_15; have q1 : v_12.toInt < 4 := nle_I hc_16; omega) (by have q0 : v_12.toInt < (M_13 o 1).toInt := nle_I hc_15; have q1 : v_12.toInt < 4 := nle_I hc_16; omega))
          refine al_kBts hx hb hK hP (kR_bts ho) hn_17 dX3_beginAnew_29 ?_
          refine call_v [] [] hx hb hml hG hown hK (c_X1_beginAnew had M_13 (4 * (o + 3) - 45 + v_12.toNatClampNeg) (kR_boat (kR_bts ho) hn_17)) gw_26_0 gm_X1_beginAnew gd_X1_beginAnew rfl rfl ⟨Nat.le_of_ble_eq_true rfl, Nat.le_of_ble_eq_true rfl⟩ ⟨Nat.le_refl _, Nat.le_refl _⟩ (rX1 hK hP (kR_boat (kR_bts ho) hn_17)) hP (fun _ h => h) hS rfl hl.1 rfl (Nat.le_of_ble_eq_true rfl) dX3_beginAnew_30 (fun M_20 H locs hF_19 hP hS => ?_)
          have hr_14 := bnd_at hr_14 hF_19.symm
          obtain ⟨y_21, ey_21⟩ : ∃ y_21 : Int32, y_21 = v_12 + 1 := ⟨_, rfl⟩
          have hr_14 := bnd_at hr_14 ey_21
          refine lv_iinc (v := y_21) (lv' := [(1, .int y_21), (0, .ref (ad o))]) hx hb dX3_beginAnew_33 hl (k := 1) rfl (by rw [ey_21]; rfl) (by decide) rfl (fun ls hl => ?_)
          refine lv_goto (tgt := 7) hx hb dX3_beginAnew_36 (by decide) ?_
          exact ih _ _ _ _ _ (by rw [ey_21, inc_I (N := 4) (nle_I hc_16) (by decide)]; omega) (by rw [ey_21]; exact mu_I hμ (nle_I hc_16) (by decide)) hr_14 hP hS (lv_sub hl [1, 0] rfl)
  exact lp7 _ _ _ _ _ _ (by decide) (by decide) hr_14 hP hS (lv_sub hl [1, 0] rfl)
def rm_X6_anew : Room := { frames := 2, cells := 0, slots := 0, locals := 41 }
theorem gm_X6_anew : Cond.instanceMethod yX6_anew ∈ wsL_law ∧ Cond.selects RX6 yX6_anew yX6_anew ∈ wsL_law ∧ Cond.initialized RX6 ∈ wsL_law ∧ Cond.code yX6_anew cX6_anew 1 (some .int) ∈ wsL_law := ⟨gw_25_17, gw_25_18, gw_1_2, gw_25_19⟩
theorem gd_X6_anew : yX6_anew.cls = RX6 ∧ yX6_anew.cls ≠ "java/lang/invoke/MethodHandle" ∧ yX6_anew.cls ≠ "java/lang/invoke/VarHandle" ∧ (parseMethodDescriptor yX6_anew.desc).map (fun d => d.parameters.length) = some 0 := by decide +kernel
set_option maxRecDepth 100000 in
set_option maxHeartbeats 0 in
theorem c_X6_anew {l : Launch} {D : va_G} {k : Nat → ClassId} {ad : Nat → Nat} (had : InjN 74 ad) (M : Mem)  : Met l yX6_anew (Cond.code yX6_anew cX6_anew 1 (some .int) :: wsL_law) rm_X6_anew (va_Pc [.ref (ad 0)] (GW 74 ad D k (cC ad k M))) (va_Qi (fun r u => f_X6_anew M = (r, u)) (fun u t => GW 74 ad D k (cC ad k u) t) (AW 74 ad)) 0 0 (AW 74 ad) := by
  refine met_i (g := cC ad k) (M := M) (plainFor_of_name (by decide)) (Nat.le_of_ble_eq_true rfl) ?_
  intro p e s m args below meth c Q ls hx hb hml hG hown hK hret hP hS hl
  have hl : lv_has ls 1 [(0, .ref (ad 0))] := hl
  obtain ⟨V, hV⟩ : ∃ V, f_X6_anew M = V := ⟨_, rfl⟩
  have he := hV
  unfold f_X6_anew at he
  refine lv_aload_n hx hb dX6_anew_0 rfl (lv_at hl 0 rfl) ?_
  refine gX6_1 hx hb hG hown hK hP rfl gw_1_20 dX6_anew_1 ?_
  refine call_v [] [] hx hb hml hG hown hK (c_X3_beginAnew had M 13 (by decide)) gw_25_20 gm_X3_beginAnew gd_X3_beginAnew rfl rfl ⟨Nat.le_of_ble_eq_true rfl, Nat.le_of_ble_eq_true rfl⟩ ⟨Nat.le_refl _, Nat.le_refl _⟩ (rX3 hK hP (by decide)) hP (fun _ h => h) hS rfl hl.1 rfl (Nat.le_of_ble_eq_true rfl) dX6_anew_4 (fun M_3 H locs hF_2 hP hS => ?_)
  have he := bnd_at he hF_2.symm
  refine lv_aload_n hx hb dX6_anew_7 rfl (lv_at hl 0 rfl) ?_
  refine gX6_1 hx hb hG hown hK hP rfl gw_1_20 dX6_anew_8 ?_
  refine gX3_1 hx hb hG hown hK hP (by decide) gw_18_8 dX6_anew_11 ?_
  exact hret _ _ _ _ _ _ (hV.trans he.symm) hP hS dX6_anew_14
def rm_X1_height : Room := { frames := 1, cells := 0, slots := 0, locals := 14 }
theorem gm_X1_height : Cond.instanceMethod yX1_height ∈ wsL_law ∧ Cond.selects RX1 yX1_height yX1_height ∈ wsL_law ∧ Cond.initialized RX1 ∈ wsL_law ∧ Cond.code yX1_height cX1_height 1 (some .int) ∈ wsL_law := ⟨gw_26_23, gw_27_0, gw_3_11, gw_27_1⟩
theorem gd_X1_height : yX1_height.cls = RX1 ∧ yX1_height.cls ≠ "java/lang/invoke/MethodHandle" ∧ yX1_height.cls ≠ "java/lang/invoke/VarHandle" ∧ (parseMethodDescriptor yX1_height.desc).map (fun d => d.parameters.length) = some 0 := by decide +kernel
set_option maxRecDepth 100000 in
set_option maxHeartbeats 0 in
theorem c_X1_height {l : Launch} {D : va_G} {k : Nat → ClassId} {ad : Nat → Nat} (had : InjN 74 ad) (M : Mem) (o : Nat) (ho : kBoat o) : Met l yX1_height (Cond.code yX1_height cX1_height 1 (some .int) :: wsL_law) rm_X1_height (va_Pc [.ref (ad o)] (GW 74 ad D k (cC ad k M))) (va_Qi (fun r u => f_X1_height M o = r ∧ u = M) (fun u t => GW 74 ad D k (cC ad k u) t) (AW 74 ad)) 0 0 (AW 74 ad) := by
  refine met_i (g := cC ad k) (M := M) (plainFor_of_name (by decide)) (Nat.le_of_ble_eq_true rfl) ?_
  intro p e s m args below meth c Q ls hx hb hml hG hown hK hret hP hS hl
  have hl : lv_has ls 1 [(0, .ref (ad o))] := hl
  obtain ⟨V, hV⟩ : ∃ V, f_X1_height M o = V := ⟨_, rfl⟩
  have he := hV
  unfold f_X1_height at he
  refine lv_aload_n hx hb dX1_height_0 rfl (lv_at hl 0 rfl) ?_
  refine gX1_4 hx hb hG hown hK hP ho gw_15_3 dX1_height_1 ?_
  refine lv_aload_n hx hb dX1_height_4 rfl (lv_at hl 0 rfl) ?_
  refine gX1_3 hx hb hG hown hK hP ho gw_15_2 dX1_height_5 ?_
  refine w_abs hx hb hml hG hown gw_17_10 (Nat.le_of_ble_eq_true rfl) (Nat.le_of_ble_eq_true rfl) hl.1 ⟨Nat.le_refl _, Nat.le_refl _⟩ dX1_height_8 ?_
  refine lv_iconst (v := 2) hx hb dX1_height_11 (by decide) ?_
  refine lv_idiv hx hb dX1_height_12 (by decide) ?_
  refine lv_isub hx hb dX1_height_13 ?_
  exact hret _ _ _ _ _ _ ⟨hV.trans he.symm, rfl⟩ hP hS dX1_height_14
def rm_X1_isAheadOf : Room := { frames := 2, cells := 0, slots := 0, locals := 34 }
theorem gm_X1_isAheadOf : Cond.instanceMethod yX1_isAheadOf ∈ wsL_law ∧ Cond.selects RX1 yX1_isAheadOf yX1_isAheadOf ∈ wsL_law ∧ Cond.initialized RX1 ∈ wsL_law ∧ Cond.code yX1_isAheadOf cX1_isAheadOf 2 (some .boolean) ∈ wsL_law := ⟨gw_26_18, gw_26_19, gw_3_11, gw_26_20⟩
theorem gd_X1_isAheadOf : yX1_isAheadOf.cls = RX1 ∧ yX1_isAheadOf.cls ≠ "java/lang/invoke/MethodHandle" ∧ yX1_isAheadOf.cls ≠ "java/lang/invoke/VarHandle" ∧ (parseMethodDescriptor yX1_isAheadOf.desc).map (fun d => d.parameters.length) = some 1 := by decide +kernel
set_option maxRecDepth 100000 in
set_option maxHeartbeats 0 in
theorem c_X1_isAheadOf {l : Launch} {D : va_G} {k : Nat → ClassId} {ad : Nat → Nat} (had : InjN 74 ad) (M : Mem) (o : Nat) (ho : kBoat o) (a1 : Nat) (ha1 : kBoat a1) : Met l yX1_isAheadOf (Cond.code yX1_isAheadOf cX1_isAheadOf 2 (some .boolean) :: wsL_law) rm_X1_isAheadOf (va_Pc [.ref (ad o), .ref (ad a1)] (GW 74 ad D k (cC ad k M))) (va_Qi (fun r u => (r = 0 ∨ r = 1) ∧ f_X1_isAheadOf M o a1 = r ∧ u = M) (fun u t => GW 74 ad D k (cC ad k u) t) (AW 74 ad)) 0 0 (AW 74 ad) := by
  refine met_z (g := cC ad k) (M := M) (plainFor_of_name (by decide)) (Nat.le_of_ble_eq_true rfl) ?_
  intro p e s m args below meth c Q ls hx hb hml hG hown hK hret hP hS hl
  have hl : lv_has ls 2 [(0, .ref (ad o)), (1, .ref (ad a1))] := hl
  obtain ⟨V, hV⟩ : ∃ V, f_X1_isAheadOf M o a1 = V := ⟨_, rfl⟩
  have he := hV
  unfold f_X1_isAheadOf at he
  refine lv_aload_n hx hb dX1_isAheadOf_0 rfl (lv_at hl 0 rfl) ?_
  refine gX1_7 hx hb hG hown hK hP ho gw_3_19 dX1_isAheadOf_1 ?_
  refine lv_aload_n hx hb dX1_isAheadOf_4 rfl (lv_at hl 1 rfl) ?_
  refine gX1_7 hx hb hG hown hK hP ha1 gw_3_19 dX1_isAheadOf_5 ?_
  refine lv_icmp_eq (tgt := 42) hx hb dX1_isAheadOf_8 (by decide) (fun hc_1 => ?_) (fun hc_1 => ?_)
  · have he := ite_t he hc_1
    refine lv_aload_n hx hb dX1_isAheadOf_42 rfl (lv_at hl 0 rfl) ?_
    refine call_i [] [] hx hb hml hG hown hK (c_X1_height had M o ho) gw_26_22 gm_X1_height gd_X1_height rfl rfl ⟨Nat.le_of_ble_eq_true rfl, Nat.le_of_ble_eq_true rfl⟩ ⟨Nat.le_refl _, Nat.le_refl _⟩ (rX1 hK hP ho) hP (fun _ h => h) hS rfl hl.1 rfl (Nat.le_of_ble_eq_true rfl) dX1_isAheadOf_43 (fun r_2 u_4 H locs hF_3 hP hS => ?_)
    obtain ⟨hF_3, hu⟩ := hF_3; rw [hu] at hP; subst hF_3
    refine lv_aload_n hx hb dX1_isAheadOf_46 rfl (lv_at hl 1 rfl) ?_
    refine call_i [] [.int (f_X1_height M o)] hx hb hml hG hown hK (c_X1_height had M a1 ha1) gw_26_22 gm_X1_height gd_X1_height rfl rfl ⟨Nat.le_of_ble_eq_true rfl, Nat.le_of_ble_eq_true rfl⟩ ⟨Nat.le_refl _, Nat.le_refl _⟩ (rX1 hK hP ha1) hP (fun _ h => h) hS rfl hl.1 rfl (Nat.le_of_ble_eq_true rfl) dX1_isAheadOf_47 (fun r_5 u_7 H locs hF_6 hP hS => ?_)
    obtain ⟨hF_6, hu⟩ := hF_6; rw [hu] at hP; subst hF_6
    refine lv_icmp_eq (tgt := 70) hx hb dX1_isAheadOf_50 (by decide) (fun hc_8 => ?_) (fun hc_8 => ?_)
    · have he := ite_t he hc_8
      refine lv_aload_n hx hb dX1_isAheadOf_70 rfl (lv_at hl 0 rfl) ?_
      refine gX1_0 hx hb hG hown hK hP ho gw_3_18 dX1_isAheadOf_71 ?_
      refine gX4_2 hx hb hG hown hK hP (kR_slr ho) gw_26_21 dX1_isAheadOf_74 ?_
      refine lv_aload_n hx hb dX1_isAheadOf_77 rfl (lv_at hl 1 rfl) ?_
      refine gX1_0 hx hb hG hown hK hP ha1 gw_3_18 dX1_isAheadOf_78 ?_
      refine gX4_2 hx hb hG hown hK hP (kR_slr ha1) gw_26_21 dX1_isAheadOf_81 ?_
      obtain ⟨t_11, hr_10, he⟩ := bnd_ex he
      have j92 : ∀ (H : Heap) (locs : List Loc) (ls : Array Slot), (t_11 = 0 ∨ t_11 = 1) → va_P D vwCl (wld 74 ad (cC ad k M)) H → va_S (AW 74 ad) s.heap H locs → lv_has ls 2 [] → W p l e rm_X1_isAheadOf s m args below meth c H locs 0 0 Q (F0 m 92 ls [.int t_11]) := by
        intro H locs ls zt_11 hP hS hl
        exact hret _ _ _ _ _ _ ⟨zt_11, (hV.trans he.symm), rfl⟩ (nz01 zt_11) hP hS dX1_isAheadOf_92
      refine lv_icmp_ge (tgt := 91) hx hb dX1_isAheadOf_84 (by decide) (fun hc_9 => ?_) (fun hc_9 => ?_)
      · have hr_10 := ite_t hr_10 hc_9
        refine lv_iconst (v := 0) hx hb dX1_isAheadOf_91 (by decide) ?_
        cases hr_10
        exact j92 _ _ _ (Or.inl rfl) hP hS (lv_sub hl [] rfl)
      · have hr_10 := ite_f hr_10 hc_9
        refine lv_iconst (v := 1) hx hb dX1_isAheadOf_87 (by decide) ?_
        refine lv_goto (tgt := 92) hx hb dX1_isAheadOf_88 (by decide) ?_
        cases hr_10
        exact j92 _ _ _ (Or.inr rfl) hP hS (lv_sub hl [] rfl)
    · have he := ite_f he hc_8
      refine lv_aload_n hx hb dX1_isAheadOf_53 rfl (lv_at hl 0 rfl) ?_
      refine call_i [] [] hx hb hml hG hown hK (c_X1_height had M o ho) gw_26_22 gm_X1_height gd_X1_height rfl rfl ⟨Nat.le_of_ble_eq_true rfl, Nat.le_of_ble_eq_true rfl⟩ ⟨Nat.le_refl _, Nat.le_refl _⟩ (rX1 hK hP ho) hP (fun _ h => h) hS rfl hl.1 rfl (Nat.le_of_ble_eq_true rfl) dX1_isAheadOf_54 (fun r_12 u_14 H locs hF_13 hP hS => ?_)
      obtain ⟨hF_13, hu⟩ := hF_13; rw [hu] at hP; subst hF_13
      refine lv_aload_n hx hb dX1_isAheadOf_57 rfl (lv_at hl 1 rfl) ?_
      refine call_i [] [.int (f_X1_height M o)] hx hb hml hG hown hK (c_X1_height had M a1 ha1) gw_26_22 gm_X1_height gd_X1_height rfl rfl ⟨Nat.le_of_ble_eq_true rfl, Nat.le_of_ble_eq_true rfl⟩ ⟨Nat.le_refl _, Nat.le_refl _⟩ (rX1 hK hP ha1) hP (fun _ h => h) hS rfl hl.1 rfl (Nat.le_of_ble_eq_true rfl) dX1_isAheadOf_58 (fun r_15 u_17 H locs hF_16 hP hS => ?_)
      obtain ⟨hF_16, hu⟩ := hF_16; rw [hu] at hP; subst hF_16
      obtain ⟨t_20, hr_19, he⟩ := bnd_ex he
      have j69 : ∀ (H : Heap) (locs : List Loc) (ls : Array Slot), (t_20 = 0 ∨ t_20 = 1) → va_P D vwCl (wld 74 ad (cC ad k M)) H → va_S (AW 74 ad) s.heap H locs → lv_has ls 2 [] → W p l e rm_X1_isAheadOf s m args below meth c H locs 0 0 Q (F0 m 69 ls [.int t_20]) := by
        intro H locs ls zt_20 hP hS hl
        exact hret _ _ _ _ _ _ ⟨zt_20, (hV.trans he.symm), rfl⟩ (nz01 zt_20) hP hS dX1_isAheadOf_69
      refine lv_icmp_le (tgt := 68) hx hb dX1_isAheadOf_61 (by decide) (fun hc_18 => ?_) (fun hc_18 => ?_)
      · have hr_19 := ite_t hr_19 hc_18
        refine lv_iconst (v := 0) hx hb dX1_isAheadOf_68 (by decide) ?_
        cases hr_19
        exact j69 _ _ _ (Or.inl rfl) hP hS (lv_sub hl [] rfl)
      · have hr_19 := ite_f hr_19 hc_18
        refine lv_iconst (v := 1) hx hb dX1_isAheadOf_64 (by decide) ?_
        refine lv_goto (tgt := 69) hx hb dX1_isAheadOf_65 (by decide) ?_
        cases hr_19
        exact j69 _ _ _ (Or.inr rfl) hP hS (lv_sub hl [] rfl)
  · have he := ite_f he hc_1
    refine lv_aload_n hx hb dX1_isAheadOf_11 rfl (lv_at hl 0 rfl) ?_
    refine call_i [] [] hx hb hml hG hown hK (c_X1_isIn had M o ho) gw_19_19 gm_X1_isIn gd_X1_isIn rfl rfl ⟨Nat.le_of_ble_eq_true rfl, Nat.le_of_ble_eq_true rfl⟩ ⟨Nat.le_refl _, Nat.le_refl _⟩ (rX1 hK hP ho) hP (fun _ h => h) hS rfl hl.1 rfl (Nat.le_of_ble_eq_true rfl) dX1_isAheadOf_12 (fun r_21 u_23 H locs hF_22 hP hS => ?_)
    obtain ⟨hz_24, hF_22, hu⟩ := hF_22; rw [hu] at hP; subst hF_22
    obtain ⟨t_33, hr_26, he⟩ := bnd_ex he
    have j41 : ∀ (H : Heap) (locs : List Loc) (ls : Array Slot), (t_33 = 0 ∨ t_33 = 1) → va_P D vwCl (wld 74 ad (cC ad k M)) H → va_S (AW 74 ad) s.heap H locs → lv_has ls 2 [] → W p l e rm_X1_isAheadOf s m args below meth c H locs 0 0 Q (F0 m 41 ls [.int t_33]) := by
      intro H locs ls zt_33 hP hS hl
      exact hret _ _ _ _ _ _ ⟨zt_33, (hV.trans he.symm), rfl⟩ (nz01 zt_33) hP hS dX1_isAheadOf_41
    refine lv_if_eq (tgt := 40) hx hb dX1_isAheadOf_15 (by decide) (fun hc_25 => ?_) (fun hc_25 => ?_)
    · have hr_26 := ite_t hr_26 hc_25
      refine lv_iconst (v := 0) hx hb dX1_isAheadOf_40 (by decide) ?_
      cases hr_26
      exact j41 _ _ _ (Or.inl rfl) hP hS (lv_sub hl [] rfl)
    · have hr_26 := ite_f hr_26 hc_25
      refine lv_aload_n hx hb dX1_isAheadOf_18 rfl (lv_at hl 1 rfl) ?_
      refine call_i [] [] hx hb hml hG hown hK (c_X1_isIn had M a1 ha1) gw_19_19 gm_X1_isIn gd_X1_isIn rfl rfl ⟨Nat.le_of_ble_eq_true rfl, Nat.le_of_ble_eq_true rfl⟩ ⟨Nat.le_refl _, Nat.le_refl _⟩ (rX1 hK hP ha1) hP (fun _ h => h) hS rfl hl.1 rfl (Nat.le_of_ble_eq_true rfl) dX1_isAheadOf_19 (fun r_27 u_29 H locs hF_28 hP hS => ?_)
      obtain ⟨hz_30, hF_28, hu⟩ := hF_28; rw [hu] at hP; subst hF_28
      refine lv_if_eq (tgt := 36) hx hb dX1_isAheadOf_22 (by decide) (fun hc_31 => ?_) (fun hc_31 => ?_)
      · have hr_26 := ite_t hr_26 hc_31
        refine lv_iconst (v := 1) hx hb dX1_isAheadOf_36 (by decide) ?_
        refine lv_goto (tgt := 41) hx hb dX1_isAheadOf_37 (by decide) ?_
        cases hr_26
        exact j41 _ _ _ (Or.inr rfl) hP hS (lv_sub hl [] rfl)
      · have hr_26 := ite_f hr_26 hc_31
        refine lv_aload_n hx hb dX1_isAheadOf_25 rfl (lv_at hl 0 rfl) ?_
        refine gX1_7 hx hb hG hown hK hP ho gw_3_19 dX1_isAheadOf_26 ?_
        refine lv_aload_n hx hb dX1_isAheadOf_29 rfl (lv_at hl 1 rfl) ?_
        refine gX1_7 hx hb hG hown hK hP ha1 gw_3_19 dX1_isAheadOf_30 ?_
        refine lv_icmp_ge (tgt := 40) hx hb dX1_isAheadOf_33 (by decide) (fun hc_32 => ?_) (fun hc_32 => ?_)
        · have hr_26 := ite_t hr_26 hc_32
          refine lv_iconst (v := 0) hx hb dX1_isAheadOf_40 (by decide) ?_
          cases hr_26
          exact j41 _ _ _ (Or.inl rfl) hP hS (lv_sub hl [] rfl)
        · have hr_26 := ite_f hr_26 hc_32
          refine lv_iconst (v := 1) hx hb dX1_isAheadOf_36 (by decide) ?_
          refine lv_goto (tgt := 41) hx hb dX1_isAheadOf_37 (by decide) ?_
          cases hr_26
          exact j41 _ _ _ (Or.inr rfl) hP hS (lv_sub hl [] rfl)
def rm_X3_placeOf : Room := { frames := 3, cells := 0, slots := 0, locals := 55 }
theorem gm_X3_placeOf : Cond.instanceMethod yX3_placeOf ∈ wsL_law ∧ Cond.selects RX3 yX3_placeOf yX3_placeOf ∈ wsL_law ∧ Cond.initialized RX3 ∈ wsL_law ∧ Cond.code yX3_placeOf cX3_placeOf 4 (some .int) ∈ wsL_law := ⟨gw_26_14, gw_26_15, gw_1_19, gw_26_16⟩
theorem gd_X3_placeOf : yX3_placeOf.cls = RX3 ∧ yX3_placeOf.cls ≠ "java/lang/invoke/MethodHandle" ∧ yX3_placeOf.cls ≠ "java/lang/invoke/VarHandle" ∧ (parseMethodDescriptor yX3_placeOf.desc).map (fun d => d.parameters.length) = some 1 := by decide +kernel
set_option maxRecDepth 100000 in
set_option maxHeartbeats 0 in
theorem c_X3_placeOf {l : Launch} {D : va_G} {k : Nat → ClassId} {ad : Nat → Nat} (had : InjN 74 ad) (M : Mem) (o : Nat) (ho : kRace o) (a1 : Option Nat) (ha1 : ∀ i, a1 = some i → kBoat i) : Met l yX3_placeOf (Cond.code yX3_placeOf cX3_placeOf 4 (some .int) :: wsL_law) rm_X3_placeOf (va_Pc [.ref (ad o), va_re ad a1] (GW 74 ad D k (cC ad k M))) (va_Qi (fun r u => f_X3_placeOf M o a1 = r ∧ u = M) (fun u t => GW 74 ad D k (cC ad k u) t) (AW 74 ad)) 0 0 (AW 74 ad) := by
  refine met_i (g := cC ad k) (M := M) (plainFor_of_name (by decide)) (by cases a1 <;> exact Nat.le_of_ble_eq_true rfl) ?_
  intro p e s m args below meth c Q ls hx hb hml hG hown hK hret hP hS hl
  have hl : lv_has ls 4 [(0, .ref (ad o)), (1, va_re ad a1)] := hl
  obtain ⟨V, hV⟩ : ∃ V, f_X3_placeOf M o a1 = V := ⟨_, rfl⟩
  have he := hV
  unfold f_X3_placeOf at he
  rcases a1 with _ | b0
  · have he := oel_n he rfl
    have hl : lv_has ls 4 [(0, .ref (ad o)), (1, .null)] := hl
    refine lv_iconst (v := 1) hx hb dX3_placeOf_0 (by decide) ?_
    refine lv_istore_n (lv' := [(2, .int 1), (0, .ref (ad o)), (1, .null)]) hx hb dX3_placeOf_1 rfl hl (by decide) rfl (fun ls hl => ?_)
    refine lv_iconst (v := 0) hx hb dX3_placeOf_2 (by decide) ?_
    refine lv_istore_n (lv' := [(3, .int 0), (2, .int 1), (0, .ref (ad o)), (1, .null)]) hx hb dX3_placeOf_3 rfl hl (by decide) rfl (fun ls hl => ?_)
    obtain ⟨w_4, hr_3, he⟩ := bnd_ex he
    have j52 : ∀ (H : Heap) (locs : List Loc) (ls : Array Slot), (w_4 = 0 ∨ w_4 = 1) → va_P D vwCl (wld 74 ad (cC ad k M)) H → va_S (AW 74 ad) s.heap H locs → lv_has ls 4 [(2, .int w_4)] → W p l e rm_X3_placeOf s m args below meth c H locs 0 0 Q (F0 m 52 ls []) := by
      intro H locs ls zw_4 hP hS hl
      refine lv_iload_n hx hb dX3_placeOf_52 rfl (lv_at hl 0 rfl) ?_
      exact hret _ _ _ _ _ _ ⟨hV.trans he.symm, rfl⟩ hP hS dX3_placeOf_53
    have lp4 : ∀ (nn : Nat) (H : Heap) (locs : List Loc) (ls : Array Slot) (v_1 : Int32) (v_2 : Int32), (v_1 = 0 ∨ v_1 = 1) → (v_2 = 0 ∨ v_2 = 1) → 0 < nn → lp_X3_placeOf_4 nn v_1 v_2 = w_4 → va_P D vwCl (wld 74 ad (cC ad k M)) H → va_S (AW 74 ad) s.heap H locs → lv_has ls 4 [(0, .ref (ad o)), (1, .null), (2, .int v_1), (3, .int v_2)] → W p l e rm_X3_placeOf s m args below meth c H locs 0 0 Q (F0 m 4 ls []) := by
      intro nn
      induction nn with
      | zero =>
        intro H locs ls v_1 v_2 zv_1 zv_2 hμ
        exact absurd hμ (Nat.not_lt_zero _)
      | succ nn ih =>
        intro H locs ls v_1 v_2 zv_1 zv_2 hμ hr_3 hP hS hl
        rw [lp_X3_placeOf_4] at hr_3
        refine lv_aload_nN hx hb dX3_placeOf_4 rfl (lv_at hl 1 rfl) ?_
        refine lv_ifnullN (tgt := 52) hx hb dX3_placeOf_5 (by decide) ?_
        cases hr_3
        exact j52 _ _ _ zv_1 hP hS (lv_sub hl [2] rfl)
    exact lp4 _ _ _ _ _ _ (Or.inr rfl) (Or.inl rfl) (by decide) hr_3 hP hS (lv_sub hl [2, 3, 1, 0] rfl)
  · have he := oel_s he rfl
    have hl : lv_has ls 4 [(0, .ref (ad o)), (1, .ref (ad b0))] := hl
    refine lv_iconst (v := 1) hx hb dX3_placeOf_0 (by decide) ?_
    refine lv_istore_n (lv' := [(2, .int 1), (0, .ref (ad o)), (1, .ref (ad b0))]) hx hb dX3_placeOf_1 rfl hl (by decide) rfl (fun ls hl => ?_)
    refine lv_iconst (v := 0) hx hb dX3_placeOf_2 (by decide) ?_
    refine lv_istore_n (lv' := [(3, .int 0), (2, .int 1), (0, .ref (ad o)), (1, .ref (ad b0))]) hx hb dX3_placeOf_3 rfl hl (by decide) rfl (fun ls hl => ?_)
    obtain ⟨w_35, hr_22, he⟩ := bnd_ex he
    have j52 : ∀ (H : Heap) (locs : List Loc) (ls : Array Slot), va_P D vwCl (wld 74 ad (cC ad k M)) H → va_S (AW 74 ad) s.heap H locs → lv_has ls 4 [(2, .int w_35)] → W p l e rm_X3_placeOf s m args below meth c H locs 0 0 Q (F0 m 52 ls []) := by
      intro H locs ls hP hS hl
      refine lv_iload_n hx hb dX3_placeOf_52 rfl (lv_at hl 0 rfl) ?_
      exact hret _ _ _ _ _ _ ⟨hV.trans he.symm, rfl⟩ hP hS dX3_placeOf_53
    have lp4 : ∀ (nn : Nat) (H : Heap) (locs : List Loc) (ls : Array Slot) (v_20 : Int32) (v_21 : Int32), (0 ≤ v_21.toInt) → (4 - v_21.toInt).toNat < nn → lp_X3_placeOf_4' nn M o b0 v_20 v_21 = w_35 → va_P D vwCl (wld 74 ad (cC ad k M)) H → va_S (AW 74 ad) s.heap H locs → lv_has ls 4 [(0, .ref (ad o)), (1, .ref (ad b0)), (2, .int v_20), (3, .int v_21)] → W p l e rm_X3_placeOf s m args below meth c H locs 0 0 Q (F0 m 4 ls []) := by
      intro nn
      induction nn with
      | zero =>
        intro H locs ls v_20 v_21 h0v_21 hμ
        exact absurd hμ (Nat.not_lt_zero _)
      | succ nn ih =>
        intro H locs ls v_20 v_21 h0v_21 hμ hr_22 hP hS hl
        rw [lp_X3_placeOf_4'] at hr_22
        refine lv_aload_n hx hb dX3_placeOf_4 rfl (lv_at hl 1 rfl) ?_
        refine lv_ifnull hx hb dX3_placeOf_5 ?_
        refine lv_iload_n hx hb dX3_placeOf_8 rfl (lv_at hl 3 rfl) ?_
        refine lv_aload_n hx hb dX3_placeOf_9 rfl (lv_at hl 0 rfl) ?_
        refine gX3_1 hx hb hG hown hK hP ho gw_6_7 dX3_placeOf_10 ?_
        refine lv_icmp_ge (tgt := 52) hx hb dX3_placeOf_13 (by decide) (fun hc_23 => ?_) (fun hc_23 => ?_)
        · have hr_22 := ite_t hr_22 hc_23
          cases hr_22
          exact j52 _ _ _ hP hS (lv_sub hl [2] rfl)
        · have hr_22 := ite_f hr_22 hc_23
          refine lv_iload_n hx hb dX3_placeOf_16 rfl (lv_at hl 3 rfl) ?_
          refine lv_aload_n hx hb dX3_placeOf_17 rfl (lv_at hl 0 rfl) ?_
          refine gX3_0 hx hb hG hown hK hP ho gw_3_9 dX3_placeOf_18 ?_
          refine an_kBts hx hb hK hP (kR_bts ho) dX3_placeOf_21 ?_
          refine lv_icmp_ge (tgt := 52) hx hb dX3_placeOf_22 (by decide) (fun hc_24 => ?_) (fun hc_24 => ?_)
          · have hr_22 := ite_t hr_22 hc_24
            cases hr_22
            exact j52 _ _ _ hP hS (lv_sub hl [2] rfl)
          · have hr_22 := ite_f hr_22 hc_24
            refine lv_iload_n hx hb dX3_placeOf_25 rfl (lv_at hl 2 rfl) ?_
            refine lv_aload_n hx hb dX3_placeOf_26 rfl (lv_at hl 0 rfl) ?_
            refine gX3_0 hx hb hG hown hK hP ho gw_3_9 dX3_placeOf_27 ?_
            refine lv_iload_n hx hb dX3_placeOf_30 rfl (lv_at hl 3 rfl) ?_
            have hn_25 : vp_in v_21 4 := (vin_I (by have q0 : v_21.toInt < (M o 1).toInt := nle_I hc_23; have q1 : v_21.toInt < 4 := nle_I hc_24; omega) (by have q0 : v_21.toInt < (M o 1).toInt := nle_I hc_23; have q1 : v_21.toInt < 4 := nle_I hc_24; omega))
            refine al_kBts hx hb hK hP (kR_bts ho) hn_25 dX3_placeOf_31 ?_
            refine lv_aload_n hx hb dX3_placeOf_32 rfl (lv_at hl 1 rfl) ?_
            refine call_i [.ref (ad b0)] [.int v_20] hx hb hml hG hown hK (c_X1_isAheadOf had M (4 * (o + 3) - 45 + v_21.toNatClampNeg) (kR_boat (kR_bts ho) hn_25) b0 (ha1 _ rfl)) gw_26_17 gm_X1_isAheadOf gd_X1_isAheadOf rfl rfl ⟨Nat.le_of_ble_eq_true rfl, Nat.le_of_ble_eq_true rfl⟩ ⟨Nat.le_refl _, Nat.le_refl _⟩ (rX1 hK hP (kR_boat (kR_bts ho) hn_25)) hP (fun _ h => h) hS rfl hl.1 rfl (Nat.le_of_ble_eq_true rfl) dX3_placeOf_33 (fun r_26 u_28 H locs hF_27 hP hS => ?_)
            obtain ⟨hz_29, hF_27, hu⟩ := hF_27; rw [hu] at hP; subst hF_27
            obtain ⟨t_32, hr_31, hr_22⟩ := bnd_ex hr_22
            have j44 : ∀ (H : Heap) (locs : List Loc) (ls : Array Slot), (t_32 = 0 ∨ t_32 = 1) → va_P D vwCl (wld 74 ad (cC ad k M)) H → va_S (AW 74 ad) s.heap H locs → lv_has ls 4 [(0, .ref (ad o)), (1, .ref (ad b0)), (3, .int v_21)] → W p l e rm_X3_placeOf s m args below meth c H locs 0 0 Q (F0 m 44 ls [.int t_32, .int v_20]) := by
              intro H locs ls zt_32 hP hS hl
              refine lv_iadd hx hb dX3_placeOf_44 ?_
              refine lv_topi (fun y_33 ey_33 => ?_)
              have hr_22 := bnd_at hr_22 ey_33
              refine lv_istore_n (lv' := [(2, .int y_33), (0, .ref (ad o)), (1, .ref (ad b0)), (3, .int v_21)]) hx hb dX3_placeOf_45 rfl hl (by decide) rfl (fun ls hl => ?_)
              obtain ⟨y_34, ey_34⟩ : ∃ y_34 : Int32, y_34 = v_21 + 1 := ⟨_, rfl⟩
              have hr_22 := bnd_at hr_22 ey_34
              refine lv_iinc (v := y_34) (lv' := [(3, .int y_34), (2, .int y_33), (0, .ref (ad o)), (1, .ref (ad b0))]) hx hb dX3_placeOf_46 hl (k := 3) rfl (by rw [ey_34]; rfl) (by decide) rfl (fun ls hl => ?_)
              refine lv_goto (tgt := 4) hx hb dX3_placeOf_49 (by decide) ?_
              exact ih _ _ _ _ _ (by rw [ey_34, inc_I (N := 4) (nle_I hc_24) (by decide)]; omega) (by rw [ey_34]; exact mu_I hμ (nle_I hc_24) (by decide)) hr_22 hP hS (lv_sub hl [2, 3, 1, 0] rfl)
            refine lv_if_eq (tgt := 43) hx hb dX3_placeOf_36 (by decide) (fun hc_30 => ?_) (fun hc_30 => ?_)
            · have hr_31 := ite_t hr_31 hc_30
              refine lv_iconst (v := 0) hx hb dX3_placeOf_43 (by decide) ?_
              cases hr_31
              exact j44 _ _ _ (Or.inl rfl) hP hS (lv_sub hl [0, 1, 3] rfl)
            · have hr_31 := ite_f hr_31 hc_30
              refine lv_iconst (v := 1) hx hb dX3_placeOf_39 (by decide) ?_
              refine lv_goto (tgt := 44) hx hb dX3_placeOf_40 (by decide) ?_
              cases hr_31
              exact j44 _ _ _ (Or.inr rfl) hP hS (lv_sub hl [0, 1, 3] rfl)
    exact lp4 _ _ _ _ _ _ (by decide) (by decide) hr_22 hP hS (lv_sub hl [2, 3, 1, 0] rfl)
def rm_X3_boatAtPlace : Room := { frames := 4, cells := 0, slots := 0, locals := 78 }
theorem gm_X3_boatAtPlace : Cond.instanceMethod yX3_boatAtPlace ∈ wsL_law ∧ Cond.selects RX3 yX3_boatAtPlace yX3_boatAtPlace ∈ wsL_law ∧ Cond.initialized RX3 ∈ wsL_law ∧ Cond.code yX3_boatAtPlace cX3_boatAtPlace 3 (some .int) ∈ wsL_law := ⟨gw_26_10, gw_26_11, gw_1_19, gw_26_12⟩
theorem gd_X3_boatAtPlace : yX3_boatAtPlace.cls = RX3 ∧ yX3_boatAtPlace.cls ≠ "java/lang/invoke/MethodHandle" ∧ yX3_boatAtPlace.cls ≠ "java/lang/invoke/VarHandle" ∧ (parseMethodDescriptor yX3_boatAtPlace.desc).map (fun d => d.parameters.length) = some 1 := by decide +kernel
set_option maxRecDepth 100000 in
set_option maxHeartbeats 0 in
theorem c_X3_boatAtPlace {l : Launch} {D : va_G} {k : Nat → ClassId} {ad : Nat → Nat} (had : InjN 74 ad) (M : Mem) (o : Nat) (ho : kRace o) (a1 : Int32) : Met l yX3_boatAtPlace (Cond.code yX3_boatAtPlace cX3_boatAtPlace 3 (some .int) :: wsL_law) rm_X3_boatAtPlace (va_Pc [.ref (ad o), .int a1] (GW 74 ad D k (cC ad k M))) (va_Qi (fun r u => f_X3_boatAtPlace M o a1 = r ∧ u = M) (fun u t => GW 74 ad D k (cC ad k u) t) (AW 74 ad)) 0 0 (AW 74 ad) := by
  refine met_i (g := cC ad k) (M := M) (plainFor_of_name (by decide)) (Nat.le_of_ble_eq_true rfl) ?_
  intro p e s m args below meth c Q ls hx hb hml hG hown hK hret hP hS hl
  have hl : lv_has ls 3 [(0, .ref (ad o)), (1, .int a1)] := hl
  obtain ⟨V, hV⟩ : ∃ V, f_X3_boatAtPlace M o a1 = V := ⟨_, rfl⟩
  have he := hV
  unfold f_X3_boatAtPlace at he
  refine lv_iconst (v := 0) hx hb dX3_boatAtPlace_0 (by decide) ?_
  refine lv_istore_n (lv' := [(2, .int 0), (0, .ref (ad o)), (1, .int a1)]) hx hb dX3_boatAtPlace_1 rfl hl (by decide) rfl (fun ls hl => ?_)
  have lp2 : ∀ (nn : Nat) (H : Heap) (locs : List Loc) (ls : Array Slot) (v_10 : Int32), (0 ≤ v_10.toInt) → (4 - v_10.toInt).toNat < nn → lp_X3_boatAtPlace_2 nn M o a1 v_10 = V → va_P D vwCl (wld 74 ad (cC ad k M)) H → va_S (AW 74 ad) s.heap H locs → lv_has ls 3 [(0, .ref (ad o)), (1, .int a1), (2, .int v_10)] → W p l e rm_X3_boatAtPlace s m args below meth c H locs 0 0 Q (F0 m 2 ls []) := by
    intro nn
    induction nn with
    | zero =>
      intro H locs ls v_10 h0v_10 hμ
      exact absurd hμ (Nat.not_lt_zero _)
    | succ nn ih =>
      intro H locs ls v_10 h0v_10 hμ he hP hS hl
      rw [lp_X3_boatAtPlace_2] at he
      refine lv_iload_n hx hb dX3_boatAtPlace_2 rfl (lv_at hl 2 rfl) ?_
      refine lv_aload_n hx hb dX3_boatAtPlace_3 rfl (lv_at hl 0 rfl) ?_
      refine gX3_1 hx hb hG hown hK hP ho gw_6_7 dX3_boatAtPlace_4 ?_
      refine lv_icmp_ge (tgt := 41) hx hb dX3_boatAtPlace_7 (by decide) (fun hc_11 => ?_) (fun hc_11 => ?_)
      · have he := ite_t he hc_11
        refine lv_bipush (v := (-4)) hx hb dX3_boatAtPlace_41 (by decide) ?_
        exact hret _ _ _ _ _ _ ⟨hV.trans he.symm, rfl⟩ hP hS dX3_boatAtPlace_43
      · have he := ite_f he hc_11
        refine lv_iload_n hx hb dX3_boatAtPlace_10 rfl (lv_at hl 2 rfl) ?_
        refine lv_aload_n hx hb dX3_boatAtPlace_11 rfl (lv_at hl 0 rfl) ?_
        refine gX3_0 hx hb hG hown hK hP ho gw_3_9 dX3_boatAtPlace_12 ?_
        refine an_kBts hx hb hK hP (kR_bts ho) dX3_boatAtPlace_15 ?_
        refine lv_icmp_ge (tgt := 41) hx hb dX3_boatAtPlace_16 (by decide) (fun hc_12 => ?_) (fun hc_12 => ?_)
        · have he := ite_t he hc_12
          refine lv_bipush (v := (-4)) hx hb dX3_boatAtPlace_41 (by decide) ?_
          exact hret _ _ _ _ _ _ ⟨hV.trans he.symm, rfl⟩ hP hS dX3_boatAtPlace_43
        · have he := ite_f he hc_12
          refine lv_aload_n hx hb dX3_boatAtPlace_19 rfl (lv_at hl 0 rfl) ?_
          refine lv_aload_n hx hb dX3_boatAtPlace_20 rfl (lv_at hl 0 rfl) ?_
          refine gX3_0 hx hb hG hown hK hP ho gw_3_9 dX3_boatAtPlace_21 ?_
          refine lv_iload_n hx hb dX3_boatAtPlace_24 rfl (lv_at hl 2 rfl) ?_
          have hn_13 : vp_in v_10 4 := (vin_I (by have q0 : v_10.toInt < (M o 1).toInt := nle_I hc_11; have q1 : v_10.toInt < 4 := nle_I hc_12; omega) (by have q0 : v_10.toInt < (M o 1).toInt := nle_I hc_11; have q1 : v_10.toInt < 4 := nle_I hc_12; omega))
          refine al_kBts hx hb hK hP (kR_bts ho) hn_13 dX3_boatAtPlace_25 ?_
          refine call_i [.ref (ad (4 * (o + 3) - 45 + v_10.toNatClampNeg))] [] hx hb hml hG hown hK (c_X3_placeOf had M o ho (some (4 * (o + 3) - 45 + v_10.toNatClampNeg)) (fun _ h => by cases h; exact (kR_boat (kR_bts ho) hn_13))) gw_26_13 gm_X3_placeOf gd_X3_placeOf rfl rfl ⟨Nat.le_of_ble_eq_true rfl, Nat.le_of_ble_eq_true rfl⟩ ⟨Nat.le_refl _, Nat.le_refl _⟩ (rX3 hK hP ho) hP (fun _ h => h) hS rfl hl.1 rfl (Nat.le_of_ble_eq_true rfl) dX3_boatAtPlace_26 (fun r_14 u_16 H locs hF_15 hP hS => ?_)
          obtain ⟨hF_15, hu⟩ := hF_15; rw [hu] at hP; subst hF_15
          refine lv_iload_n hx hb dX3_boatAtPlace_29 rfl (lv_at hl 1 rfl) ?_
          refine lv_icmp_ne (tgt := 35) hx hb dX3_boatAtPlace_30 (by decide) (fun hc_17 => ?_) (fun hc_17 => ?_)
          · have he := ite_t he hc_17
            obtain ⟨y_18, ey_18⟩ : ∃ y_18 : Int32, y_18 = v_10 + 1 := ⟨_, rfl⟩
            have he := bnd_at he ey_18
            refine lv_iinc (v := y_18) (lv' := [(2, .int y_18), (0, .ref (ad o)), (1, .int a1)]) hx hb dX3_boatAtPlace_35 hl (k := 2) rfl (by rw [ey_18]; rfl) (by decide) rfl (fun ls hl => ?_)
            refine lv_goto (tgt := 2) hx hb dX3_boatAtPlace_38 (by decide) ?_
            exact ih _ _ _ _ (by rw [ey_18, inc_I (N := 4) (nle_I hc_12) (by decide)]; omega) (by rw [ey_18]; exact mu_I hμ (nle_I hc_12) (by decide)) he hP hS (lv_sub hl [1, 2, 0] rfl)
          · have he := ite_f he (fun q => q hc_17)
            refine lv_iload_n hx hb dX3_boatAtPlace_33 rfl (lv_at hl 2 rfl) ?_
            exact hret _ _ _ _ _ _ ⟨hV.trans he.symm, rfl⟩ hP hS dX3_boatAtPlace_34
  exact lp2 _ _ _ _ _ (by decide) (by decide) he hP hS (lv_sub hl [1, 2, 0] rfl)
def rm_X6_place : Room := { frames := 5, cells := 0, slots := 0, locals := 100 }
theorem gm_X6_place : Cond.instanceMethod yX6_place ∈ wsL_law ∧ Cond.selects RX6 yX6_place yX6_place ∈ wsL_law ∧ Cond.initialized RX6 ∈ wsL_law ∧ Cond.code yX6_place cX6_place 2 (some .int) ∈ wsL_law := ⟨gw_26_6, gw_26_7, gw_1_2, gw_26_8⟩
theorem gd_X6_place : yX6_place.cls = RX6 ∧ yX6_place.cls ≠ "java/lang/invoke/MethodHandle" ∧ yX6_place.cls ≠ "java/lang/invoke/VarHandle" ∧ (parseMethodDescriptor yX6_place.desc).map (fun d => d.parameters.length) = some 1 := by decide +kernel
set_option maxRecDepth 100000 in
set_option maxHeartbeats 0 in
theorem c_X6_place {l : Launch} {D : va_G} {k : Nat → ClassId} {ad : Nat → Nat} (had : InjN 74 ad) (M : Mem) (a1 : Int32) : Met l yX6_place (Cond.code yX6_place cX6_place 2 (some .int) :: wsL_law) rm_X6_place (va_Pc [.ref (ad 0), .int a1] (GW 74 ad D k (cC ad k M))) (va_Qi (fun r u => f_X6_place M a1 = r ∧ u = M) (fun u t => GW 74 ad D k (cC ad k u) t) (AW 74 ad)) 0 0 (AW 74 ad) := by
  refine met_i (g := cC ad k) (M := M) (plainFor_of_name (by decide)) (Nat.le_of_ble_eq_true rfl) ?_
  intro p e s m args below meth c Q ls hx hb hml hG hown hK hret hP hS hl
  have hl : lv_has ls 2 [(0, .ref (ad 0)), (1, .int a1)] := hl
  obtain ⟨V, hV⟩ : ∃ V, f_X6_place M a1 = V := ⟨_, rfl⟩
  have he := hV
  unfold f_X6_place at he
  refine lv_iload_n hx hb dX6_place_0 rfl (lv_at hl 1 rfl) ?_
  refine lv_iconst (v := 1) hx hb dX6_place_1 (by decide) ?_
  obtain ⟨t_6, hr_2, he⟩ := bnd_ex he
  have j17 : ∀ (H : Heap) (locs : List Loc) (ls : Array Slot), va_P D vwCl (wld 74 ad (cC ad k M)) H → va_S (AW 74 ad) s.heap H locs → lv_has ls 2 [] → W p l e rm_X6_place s m args below meth c H locs 0 0 Q (F0 m 17 ls [.int t_6]) := by
    intro H locs ls hP hS hl
    exact hret _ _ _ _ _ _ ⟨hV.trans he.symm, rfl⟩ hP hS dX6_place_17
  refine lv_icmp_ge (tgt := 9) hx hb dX6_place_2 (by decide) (fun hc_1 => ?_) (fun hc_1 => ?_)
  · have hr_2 := ite_t hr_2 hc_1
    refine lv_aload_n hx hb dX6_place_9 rfl (lv_at hl 0 rfl) ?_
    refine gX6_1 hx hb hG hown hK hP rfl gw_1_20 dX6_place_10 ?_
    refine lv_iload_n hx hb dX6_place_13 rfl (lv_at hl 1 rfl) ?_
    refine call_i [.int a1] [] hx hb hml hG hown hK (c_X3_boatAtPlace had M 13 (by decide) a1) gw_26_9 gm_X3_boatAtPlace gd_X3_boatAtPlace rfl rfl ⟨Nat.le_of_ble_eq_true rfl, Nat.le_of_ble_eq_true rfl⟩ ⟨Nat.le_refl _, Nat.le_refl _⟩ (rX3 hK hP (by decide)) hP (fun _ h => h) hS rfl hl.1 rfl (Nat.le_of_ble_eq_true rfl) dX6_place_14 (fun r_3 u_5 H locs hF_4 hP hS => ?_)
    obtain ⟨hF_4, hu⟩ := hF_4; rw [hu] at hP; subst hF_4
    cases hr_2
    exact j17 _ _ _ hP hS (lv_sub hl [] rfl)
  · have hr_2 := ite_f hr_2 hc_1
    refine lv_iconst (v := (-1)) hx hb dX6_place_5 (by decide) ?_
    refine lv_goto (tgt := 17) hx hb dX6_place_6 (by decide) ?_
    cases hr_2
    exact j17 _ _ _ hP hS (lv_sub hl [] rfl)
def rm_X1_take : Room := { frames := 1, cells := 0, slots := 0, locals := 23 }
theorem gm_X1_take : Cond.instanceMethod yX1_take ∈ wsL_law ∧ Cond.selects RX1 yX1_take yX1_take ∈ wsL_law ∧ Cond.initialized RX1 ∈ wsL_law ∧ Cond.code yX1_take cX1_take 2 none ∈ wsL_law := ⟨gw_28_7, gw_28_8, gw_3_11, gw_28_9⟩
theorem gd_X1_take : yX1_take.cls = RX1 ∧ yX1_take.cls ≠ "java/lang/invoke/MethodHandle" ∧ yX1_take.cls ≠ "java/lang/invoke/VarHandle" ∧ (parseMethodDescriptor yX1_take.desc).map (fun d => d.parameters.length) = some 1 := by decide +kernel
set_option maxRecDepth 100000 in
set_option maxHeartbeats 0 in
theorem c_X1_take {l : Launch} {D : va_G} {k : Nat → ClassId} {ad : Nat → Nat} (had : InjN 74 ad) (M : Mem) (o : Nat) (ho : kBoat o) (a1 : Nat) (ha1 : kBoat a1) : Met l yX1_take (Cond.code yX1_take cX1_take 2 none :: wsL_law) rm_X1_take (va_Pc [.ref (ad o), .ref (ad a1)] (GW 74 ad D k (cC ad k M))) (va_Qv (fun u => f_X1_take M o a1 = u) (fun u t => GW 74 ad D k (cC ad k u) t) (AW 74 ad)) 0 0 (AW 74 ad) := by
  refine met_v (g := cC ad k) (M := M) (plainFor_of_name (by decide)) (Nat.le_of_ble_eq_true rfl) ?_
  intro p e s m args below meth c Q ls hx hb hml hG hown hK hret hP hS hl
  have hl : lv_has ls 2 [(0, .ref (ad o)), (1, .ref (ad a1))] := hl
  obtain ⟨V, hV⟩ : ∃ V, f_X1_take M o a1 = V := ⟨_, rfl⟩
  have he := hV
  unfold f_X1_take at he
  refine lv_aload_n hx hb dX1_take_0 rfl (lv_at hl 0 rfl) ?_
  refine gX1_0 hx hb hG hown hK hP ho gw_3_18 dX1_take_1 ?_
  refine lv_aload_n hx hb dX1_take_4 rfl (lv_at hl 1 rfl) ?_
  refine gX1_0 hx hb hG hown hK hP ha1 gw_3_18 dX1_take_5 ?_
  refine gX4_0 hx hb hG hown hK hP (kR_slr ha1) gw_16_10 dX1_take_8 ?_
  refine lv_aload_n hx hb dX1_take_11 rfl (lv_at hl 1 rfl) ?_
  refine gX1_0 hx hb hG hown hK hP ha1 gw_3_18 dX1_take_12 ?_
  refine gX4_1 hx hb hG hown hK hP (kR_slr ha1) gw_16_11 dX1_take_15 ?_
  refine lv_aload_n hx hb dX1_take_18 rfl (lv_at hl 1 rfl) ?_
  refine gX1_0 hx hb hG hown hK hP ha1 gw_3_18 dX1_take_19 ?_
  refine gX4_2 hx hb hG hown hK hP (kR_slr ha1) gw_26_21 dX1_take_22 ?_
  refine call_v [.int (M (a1 + 12) 0), .int (M (a1 + 12) 1), .int (M (a1 + 12) 2)] [] hx hb hml hG hown hK (c_X4_become had M (o + 12) (kR_slr ho) (M (a1 + 12) 0) (M (a1 + 12) 1) (M (a1 + 12) 2)) gw_28_10 gm_X4_become gd_X4_become rfl rfl ⟨Nat.le_of_ble_eq_true rfl, Nat.le_of_ble_eq_true rfl⟩ ⟨Nat.le_refl _, Nat.le_refl _⟩ (rX4 hK hP (kR_slr ho)) hP (fun _ h => h) hS rfl hl.1 rfl (Nat.le_of_ble_eq_true rfl) dX1_take_25 (fun M_3 H locs hF_2 hP hS => ?_)
  have he := bnd_at he hF_2.symm
  refine lv_aload_n hx hb dX1_take_28 rfl (lv_at hl 0 rfl) ?_
  refine lv_aload_n hx hb dX1_take_29 rfl (lv_at hl 1 rfl) ?_
  refine gX1_1 hx hb hG hown hK hP ha1 gw_14_20 dX1_take_30 ?_
  refine pX1_1 hx hb hG hown hK hP had AW_in hS ho gw_14_20 dX1_take_33 (fun H locs hP hS => ?_)
  obtain ⟨M_4, eM_4⟩ : ∃ y : Mem, y = up2 M_3 o 1 (M_3 a1 1) := ⟨_, rfl⟩
  rw [← eM_4] at hP
  have he := bnd_at he eM_4
  refine lv_aload_n hx hb dX1_take_36 rfl (lv_at hl 0 rfl) ?_
  refine lv_aload_n hx hb dX1_take_37 rfl (lv_at hl 1 rfl) ?_
  refine gX1_2 hx hb hG hown hK hP ha1 gw_14_21 dX1_take_38 ?_
  refine pX1_2 hx hb hG hown hK hP had AW_in hS ho gw_14_21 (b01_or _)  dX1_take_41 (fun H locs hP hS => ?_)
  obtain ⟨M_5, eM_5⟩ : ∃ y : Mem, y = up2 M_4 o 2 (b01 (M_4 a1 2)) := ⟨_, rfl⟩
  rw [← eM_5] at hP
  have he := bnd_at he eM_5
  refine lv_aload_n hx hb dX1_take_44 rfl (lv_at hl 0 rfl) ?_
  refine lv_aload_n hx hb dX1_take_45 rfl (lv_at hl 1 rfl) ?_
  refine gX1_3 hx hb hG hown hK hP ha1 gw_15_2 dX1_take_46 ?_
  refine pX1_3 hx hb hG hown hK hP had AW_in hS ho gw_15_2 dX1_take_49 (fun H locs hP hS => ?_)
  obtain ⟨M_6, eM_6⟩ : ∃ y : Mem, y = up2 M_5 o 3 (M_5 a1 3) := ⟨_, rfl⟩
  rw [← eM_6] at hP
  have he := bnd_at he eM_6
  refine lv_aload_n hx hb dX1_take_52 rfl (lv_at hl 0 rfl) ?_
  refine lv_aload_n hx hb dX1_take_53 rfl (lv_at hl 1 rfl) ?_
  refine gX1_4 hx hb hG hown hK hP ha1 gw_15_3 dX1_take_54 ?_
  refine pX1_4 hx hb hG hown hK hP had AW_in hS ho gw_15_3 dX1_take_57 (fun H locs hP hS => ?_)
  obtain ⟨M_7, eM_7⟩ : ∃ y : Mem, y = up2 M_6 o 4 (M_6 a1 4) := ⟨_, rfl⟩
  rw [← eM_7] at hP
  have he := bnd_at he eM_7
  refine lv_aload_n hx hb dX1_take_60 rfl (lv_at hl 0 rfl) ?_
  refine lv_aload_n hx hb dX1_take_61 rfl (lv_at hl 1 rfl) ?_
  refine gX1_5 hx hb hG hown hK hP ha1 gw_15_4 dX1_take_62 ?_
  refine pX1_5 hx hb hG hown hK hP had AW_in hS ho gw_15_4 (b01_or _)  dX1_take_65 (fun H locs hP hS => ?_)
  obtain ⟨M_8, eM_8⟩ : ∃ y : Mem, y = up2 M_7 o 5 (b01 (M_7 a1 5)) := ⟨_, rfl⟩
  rw [← eM_8] at hP
  have he := bnd_at he eM_8
  refine lv_aload_n hx hb dX1_take_68 rfl (lv_at hl 0 rfl) ?_
  refine lv_aload_n hx hb dX1_take_69 rfl (lv_at hl 1 rfl) ?_
  refine gX1_6 hx hb hG hown hK hP ha1 gw_15_5 dX1_take_70 ?_
  refine pX1_6 hx hb hG hown hK hP had AW_in hS ho gw_15_5 dX1_take_73 (fun H locs hP hS => ?_)
  obtain ⟨M_9, eM_9⟩ : ∃ y : Mem, y = up2 M_8 o 6 (M_8 a1 6) := ⟨_, rfl⟩
  rw [← eM_9] at hP
  have he := bnd_at he eM_9
  refine lv_aload_n hx hb dX1_take_76 rfl (lv_at hl 0 rfl) ?_
  refine lv_aload_n hx hb dX1_take_77 rfl (lv_at hl 1 rfl) ?_
  refine gX1_7 hx hb hG hown hK hP ha1 gw_3_19 dX1_take_78 ?_
  refine pX1_7 hx hb hG hown hK hP had AW_in hS ho gw_3_19 dX1_take_81 (fun H locs hP hS => ?_)
  obtain ⟨M_10, eM_10⟩ : ∃ y : Mem, y = up2 M_9 o 7 (M_9 a1 7) := ⟨_, rfl⟩
  rw [← eM_10] at hP
  have he := bnd_at he eM_10
  refine lv_aload_n hx hb dX1_take_84 rfl (lv_at hl 0 rfl) ?_
  refine lv_aload_n hx hb dX1_take_85 rfl (lv_at hl 1 rfl) ?_
  refine gX1_8 hx hb hG hown hK hP ha1 gw_15_6 dX1_take_86 ?_
  refine pX1_8 hx hb hG hown hK hP had AW_in hS ho gw_15_6 dX1_take_89 (fun H locs hP hS => ?_)
  obtain ⟨M_11, eM_11⟩ : ∃ y : Mem, y = up2 M_10 o 8 (M_10 a1 8) := ⟨_, rfl⟩
  rw [← eM_11] at hP
  have he := bnd_at he eM_11
  exact hret _ _ _ _ _ (hV.trans he.symm) hP hS dX1_take_92
def rm_X3_take : Room := { frames := 2, cells := 0, slots := 0, locals := 44 }
theorem gm_X3_take : Cond.instanceMethod yX3_take ∈ wsL_law ∧ Cond.selects RX3 yX3_take yX3_take ∈ wsL_law ∧ Cond.initialized RX3 ∈ wsL_law ∧ Cond.code yX3_take cX3_take 3 none ∈ wsL_law := ⟨gw_28_3, gw_28_4, gw_1_19, gw_28_5⟩
theorem gd_X3_take : yX3_take.cls = RX3 ∧ yX3_take.cls ≠ "java/lang/invoke/MethodHandle" ∧ yX3_take.cls ≠ "java/lang/invoke/VarHandle" ∧ (parseMethodDescriptor yX3_take.desc).map (fun d => d.parameters.length) = some 1 := by decide +kernel
set_option maxRecDepth 100000 in
set_option maxHeartbeats 0 in
theorem c_X3_take {l : Launch} {D : va_G} {k : Nat → ClassId} {ad : Nat → Nat} (had : InjN 74 ad) (M : Mem) (o : Nat) (ho : kRace o) (a1 : Nat) (ha1 : kRace a1) : Met l yX3_take (Cond.code yX3_take cX3_take 3 none :: wsL_law) rm_X3_take (va_Pc [.ref (ad o), .ref (ad a1)] (GW 74 ad D k (cC ad k M))) (va_Qv (fun u => f_X3_take M o a1 = u) (fun u t => GW 74 ad D k (cC ad k u) t) (AW 74 ad)) 0 0 (AW 74 ad) := by
  refine met_v (g := cC ad k) (M := M) (plainFor_of_name (by decide)) (Nat.le_of_ble_eq_true rfl) ?_
  intro p e s m args below meth c Q ls hx hb hml hG hown hK hret hP hS hl
  have hl : lv_has ls 3 [(0, .ref (ad o)), (1, .ref (ad a1))] := hl
  obtain ⟨V, hV⟩ : ∃ V, f_X3_take M o a1 = V := ⟨_, rfl⟩
  have he := hV
  unfold f_X3_take at he
  refine lv_aload_n hx hb dX3_take_0 rfl (lv_at hl 0 rfl) ?_
  refine lv_aload_n hx hb dX3_take_1 rfl (lv_at hl 1 rfl) ?_
  refine gX3_1 hx hb hG hown hK hP ha1 gw_6_7 dX3_take_2 ?_
  refine pX3_1 hx hb hG hown hK hP had AW_in hS ho gw_6_7 dX3_take_5 (fun H locs hP hS => ?_)
  obtain ⟨M_1, eM_1⟩ : ∃ y : Mem, y = up2 M o 1 (M a1 1) := ⟨_, rfl⟩
  rw [← eM_1] at hP
  have he := bnd_at he eM_1
  refine lv_aload_n hx hb dX3_take_8 rfl (lv_at hl 0 rfl) ?_
  refine lv_aload_n hx hb dX3_take_9 rfl (lv_at hl 1 rfl) ?_
  refine gX3_2 hx hb hG hown hK hP ha1 gw_18_13 dX3_take_10 ?_
  refine pX3_2 hx hb hG hown hK hP had AW_in hS ho gw_18_13 dX3_take_13 (fun H locs hP hS => ?_)
  obtain ⟨M_2, eM_2⟩ : ∃ y : Mem, y = up2 M_1 o 2 (M_1 a1 2) := ⟨_, rfl⟩
  rw [← eM_2] at hP
  have he := bnd_at he eM_2
  refine lv_iconst (v := 0) hx hb dX3_take_16 (by decide) ?_
  refine lv_istore_n (lv' := [(2, .int 0), (0, .ref (ad o)), (1, .ref (ad a1))]) hx hb dX3_take_17 rfl hl (by decide) rfl (fun ls hl => ?_)
  obtain ⟨M_25, hr_16, he⟩ := bnd_ex he
  have j57 : ∀ (H : Heap) (locs : List Loc) (ls : Array Slot), va_P D vwCl (wld 74 ad (cC ad k M_25)) H → va_S (AW 74 ad) s.heap H locs → lv_has ls 3 [] → W p l e rm_X3_take s m args below meth c H locs 0 0 Q (F0 m 57 ls []) := by
    intro H locs ls hP hS hl
    exact hret _ _ _ _ _ (hV.trans he.symm) hP hS dX3_take_57
  have lp18 : ∀ (nn : Nat) (H : Heap) (locs : List Loc) (ls : Array Slot) (M_15 : Mem) (v_14 : Int32), (0 ≤ v_14.toInt) → (4 - v_14.toInt).toNat < nn → lp_X3_take_18 nn o a1 M_15 v_14 = M_25 → va_P D vwCl (wld 74 ad (cC ad k M_15)) H → va_S (AW 74 ad) s.heap H locs → lv_has ls 3 [(0, .ref (ad o)), (1, .ref (ad a1)), (2, .int v_14)] → W p l e rm_X3_take s m args below meth c H locs 0 0 Q (F0 m 18 ls []) := by
    intro nn
    induction nn with
    | zero =>
      intro H locs ls M_15 v_14 h0v_14 hμ
      exact absurd hμ (Nat.not_lt_zero _)
    | succ nn ih =>
      intro H locs ls M_15 v_14 h0v_14 hμ hr_16 hP hS hl
      rw [lp_X3_take_18] at hr_16
      refine lv_iload_n hx hb dX3_take_18 rfl (lv_at hl 2 rfl) ?_
      refine lv_aload_n hx hb dX3_take_19 rfl (lv_at hl 0 rfl) ?_
      refine gX3_0 hx hb hG hown hK hP ho gw_3_9 dX3_take_20 ?_
      refine an_kBts hx hb hK hP (kR_bts ho) dX3_take_23 ?_
      refine lv_icmp_ge (tgt := 57) hx hb dX3_take_24 (by decide) (fun hc_17 => ?_) (fun hc_17 => ?_)
      · have hr_16 := ite_t hr_16 hc_17
        cases hr_16
        exact j57 _ _ _ hP hS (lv_sub hl [] rfl)
      · have hr_16 := ite_f hr_16 hc_17
        refine lv_iload_n hx hb dX3_take_27 rfl (lv_at hl 2 rfl) ?_
        refine lv_aload_n hx hb dX3_take_28 rfl (lv_at hl 1 rfl) ?_
        refine gX3_0 hx hb hG hown hK hP ha1 gw_3_9 dX3_take_29 ?_
        refine an_kBts hx hb hK hP (kR_bts ha1) dX3_take_32 ?_
        refine lv_icmp_ge (tgt := 57) hx hb dX3_take_33 (by decide) (fun hc_18 => ?_) (fun hc_18 => ?_)
        · have hr_16 := ite_t hr_16 hc_18
          cases hr_16
          exact j57 _ _ _ hP hS (lv_sub hl [] rfl)
        · have hr_16 := ite_f hr_16 hc_18
          refine lv_aload_n hx hb dX3_take_36 rfl (lv_at hl 0 rfl) ?_
          refine gX3_0 hx hb hG hown hK hP ho gw_3_9 dX3_take_37 ?_
          refine lv_iload_n hx hb dX3_take_40 rfl (lv_at hl 2 rfl) ?_
          have hn_19 : vp_in v_14 4 := (vin_I (by have q0 : v_14.toInt < 4 := nle_I hc_17; have q1 : v_14.toInt < 4 := nle_I hc_18; omega) (by have q0 : v_14.toInt < 4 := nle_I hc_17; have q1 : v_14.toInt < 4 := nle_I hc_18; omega))
          refine al_kBts hx hb hK hP (kR_bts ho) hn_19 dX3_take_41 ?_
          refine lv_aload_n hx hb dX3_take_42 rfl (lv_at hl 1 rfl) ?_
          refine gX3_0 hx hb hG hown hK hP ha1 gw_3_9 dX3_take_43 ?_
          refine lv_iload_n hx hb dX3_take_46 rfl (lv_at hl 2 rfl) ?_
          have hn_20 : vp_in v_14 4 := (vin_I (by have q0 : v_14.toInt < 4 := nle_I hc_17; have q1 : v_14.toInt < 4 := nle_I hc_18; omega) (by have q0 : v_14.toInt < 4 := nle_I hc_17; have q1 : v_14.toInt < 4 := nle_I hc_18; omega))
          refine al_kBts hx hb hK hP (kR_bts ha1) hn_20 dX3_take_47 ?_
          refine call_v [.ref (ad (4 * (a1 + 3) - 45 + v_14.toNatClampNeg))] [] hx hb hml hG hown hK (c_X1_take had M_15 (4 * (o + 3) - 45 + v_14.toNatClampNeg) (kR_boat (kR_bts ho) hn_19) (4 * (a1 + 3) - 45 + v_14.toNatClampNeg) (kR_boat (kR_bts ha1) hn_20)) gw_28_6 gm_X1_take gd_X1_take rfl rfl ⟨Nat.le_of_ble_eq_true rfl, Nat.le_of_ble_eq_true rfl⟩ ⟨Nat.le_refl _, Nat.le_refl _⟩ (rX1 hK hP (kR_boat (kR_bts ho) hn_19)) hP (fun _ h => h) hS rfl hl.1 rfl (Nat.le_of_ble_eq_true rfl) dX3_take_48 (fun M_23 H locs hF_22 hP hS => ?_)
          have hr_16 := bnd_at hr_16 hF_22.symm
          obtain ⟨y_24, ey_24⟩ : ∃ y_24 : Int32, y_24 = v_14 + 1 := ⟨_, rfl⟩
          have hr_16 := bnd_at hr_16 ey_24
          refine lv_iinc (v := y_24) (lv' := [(2, .int y_24), (0, .ref (ad o)), (1, .ref (ad a1))]) hx hb dX3_take_51 hl (k := 2) rfl (by rw [ey_24]; rfl) (by decide) rfl (fun ls hl => ?_)
          refine lv_goto (tgt := 18) hx hb dX3_take_54 (by decide) ?_
          exact ih _ _ _ _ _ (by rw [ey_24, inc_I (N := 4) (nle_I hc_17) (by decide)]; omega) (by rw [ey_24]; exact mu_I hμ (nle_I hc_17) (by decide)) hr_16 hP hS (lv_sub hl [1, 2, 0] rfl)
  exact lp18 _ _ _ _ _ _ (by decide) (by decide) hr_16 hP hS (lv_sub hl [1, 2, 0] rfl)
