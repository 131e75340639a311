-- @needs 12_dec 13_dec 14_dec 15_dec 37_fault 60_cM 63_cM 64_cM
def rm_X7_turnOne : Room := { frames := 0, cells := 0, slots := 0, locals := 0 }
theorem gm_X7_turnOne : Cond.instanceMethod yX7_turnOne ∈ wsL_law ∧ Cond.selects RX7 yX7_turnOne yX7_turnOne ∈ wsL_law ∧ Cond.initialized RX7 ∈ wsL_law ∧ Cond.code yX7_turnOne cX7_turnOne 2 none ∈ wsL_law := ⟨gw_25_2, gw_25_3, gw_1_5, gw_25_4⟩
theorem gd_X7_turnOne : yX7_turnOne.cls = RX7 ∧ yX7_turnOne.cls ≠ "java/lang/invoke/MethodHandle" ∧ yX7_turnOne.cls ≠ "java/lang/invoke/VarHandle" ∧ (parseMethodDescriptor yX7_turnOne.desc).map (fun d => d.parameters.length) = some 1 := by decide +kernel
set_option maxRecDepth 100000 in
set_option maxHeartbeats 0 in
theorem c_X7_turnOne {l : Launch} {D : va_G} {k : Nat → ClassId} {ad : Nat → Nat} (had : InjN 31 ad) (M : Mem) (a1 : Int32) (hI : MI M) (hbx : 0 ≤ a1.toInt ∧ a1.toInt < 4) : Met l yX7_turnOne (Cond.code yX7_turnOne cX7_turnOne 2 none :: wsL_law) rm_X7_turnOne (va_Pc [.ref (ad 0), .int a1] (GW 31 ad D k (cM ad k M))) (va_Qv (fun u => (f_X7_turnOne M a1 = u ∧ TI M u)) (fun u t => GW 31 ad D k (cM ad k u) t) (AW 31 ad)) 0 0 (AW 31 ad) := by
  refine met_v (g := cM ad k) (M := M) (plainFor_of_name (by decide)) (Nat.le_of_ble_eq_true rfl) ?_
  intro p e s m args below meth c Q ls hx hb hml hG hown hK hret hP hS hl
  have hl : lv_has ls 2 [(0, .ref (ad 0)), (1, .int a1)] := hl
  obtain ⟨V, hV⟩ : ∃ V, f_X7_turnOne M a1 = V := ⟨_, rfl⟩
  have he := hV
  unfold f_X7_turnOne at he
  have hT0 : TI M M := TI_rf hI
  have qb_M := hI.1
  have qs_M := hI.2.1
  have qz_M := hI.2.2.1
  refine lv_aload_n hx hb dX7_turnOne_0 rfl (lv_at hl 0 rfl) ?_
  refine gX7_15 hx hb hG hown hK hP gw_4_20 dX7_turnOne_1 ?_
  refine lv_iload_n hx hb dX7_turnOne_4 rfl (lv_at hl 1 rfl) ?_
  refine lv_aload_n hx hb dX7_turnOne_5 rfl (lv_at hl 0 rfl) ?_
  refine gX7_15 hx hb hG hown hK hP gw_4_20 dX7_turnOne_6 ?_
  refine lv_iload_n hx hb dX7_turnOne_9 rfl (lv_at hl 1 rfl) ?_
  refine al_M8 hx hb hK hP (vin_I (by omega) (by omega)) dX7_turnOne_10 ?_
  refine lv_ineg hx hb dX7_turnOne_11 ?_
  refine as_M8 hx hb hK hP had AW_in hS (vin_I (by omega) (by omega)) dX7_turnOne_12 (fun H locs hP hS => ?_)
  obtain ⟨M_1, eM_1⟩ : ∃ y : Mem, y = up2 M 8 a1.toNatClampNeg (-(M 8 a1.toNatClampNeg)) := ⟨_, rfl⟩
  rw [← eM_1] at hP
  have he := bnd_at he eM_1
  have hTM_1 : TI M M_1 := by rw [eM_1]; exact TI_a hT0 (by decide)
  have qb_M_1 := hTM_1.1.1
  have qs_M_1 := hTM_1.1.2.1
  have qz_M_1 := hTM_1.1.2.2.1
  refine lv_aload_n hx hb dX7_turnOne_13 rfl (lv_at hl 0 rfl) ?_
  refine gX7_16 hx hb hG hown hK hP gw_4_21 dX7_turnOne_14 ?_
  refine lv_iload_n hx hb dX7_turnOne_17 rfl (lv_at hl 1 rfl) ?_
  refine lv_aload_n hx hb dX7_turnOne_18 rfl (lv_at hl 0 rfl) ?_
  refine gX7_3 hx hb hG hown hK hP gw_4_12 dX7_turnOne_19 ?_
  refine as_M9 hx hb hK hP had AW_in hS (vin_I (by omega) (by omega)) dX7_turnOne_22 (fun H locs hP hS => ?_)
  obtain ⟨M_2, eM_2⟩ : ∃ y : Mem, y = up2 M_1 9 a1.toNatClampNeg (M_1 0 3) := ⟨_, rfl⟩
  rw [← eM_2] at hP
  have he := bnd_at he eM_2
  have hTM_2 : TI M M_2 := by rw [eM_2]; exact TI_a hTM_1 (by decide)
  have qb_M_2 := hTM_2.1.1
  have qs_M_2 := hTM_2.1.2.1
  have qz_M_2 := hTM_2.1.2.2.1
  refine lv_aload_n hx hb dX7_turnOne_23 rfl (lv_at hl 0 rfl) ?_
  refine gX7_18 hx hb hG hown hK hP gw_4_23 dX7_turnOne_24 ?_
  refine lv_iload_n hx hb dX7_turnOne_27 rfl (lv_at hl 1 rfl) ?_
  refine lv_dup2_11 hx hb dX7_turnOne_28 rfl rfl ?_
  refine al_M11 hx hb hK hP (vin_I (by omega) (by omega)) dX7_turnOne_29 ?_
  refine lv_iconst (v := 1) hx hb dX7_turnOne_30 (by decide) ?_
  refine lv_iadd hx hb dX7_turnOne_31 ?_
  refine as_M11 hx hb hK hP had AW_in hS (vin_I (by omega) (by omega)) dX7_turnOne_32 (fun H locs hP hS => ?_)
  obtain ⟨M_3, eM_3⟩ : ∃ y : Mem, y = up2 M_2 11 a1.toNatClampNeg ((M_2 11 a1.toNatClampNeg) + 1) := ⟨_, rfl⟩
  rw [← eM_3] at hP
  have he := bnd_at he eM_3
  have hTM_3 : TI M M_3 := by rw [eM_3]; exact TI_a hTM_2 (by decide)
  have qb_M_3 := hTM_3.1.1
  have qs_M_3 := hTM_3.1.2.1
  have qz_M_3 := hTM_3.1.2.2.1
  exact hret _ _ _ _ _ ⟨(hV.trans he.symm), hTM_3⟩ hP hS dX7_turnOne_33
def rm_X7_mayTurn : Room := { frames := 1, cells := 0, slots := 0, locals := 21 }
theorem gm_X7_mayTurn : Cond.instanceMethod yX7_mayTurn ∈ wsL_law ∧ Cond.selects RX7 yX7_mayTurn yX7_mayTurn ∈ wsL_law ∧ Cond.initialized RX7 ∈ wsL_law ∧ Cond.code yX7_mayTurn cX7_mayTurn 2 (some .boolean) ∈ wsL_law := ⟨gw_23_14, gw_23_15, gw_1_5, gw_23_16⟩
theorem gd_X7_mayTurn : yX7_mayTurn.cls = RX7 ∧ yX7_mayTurn.cls ≠ "java/lang/invoke/MethodHandle" ∧ yX7_mayTurn.cls ≠ "java/lang/invoke/VarHandle" ∧ (parseMethodDescriptor yX7_mayTurn.desc).map (fun d => d.parameters.length) = some 1 := by decide +kernel
set_option maxRecDepth 100000 in
set_option maxHeartbeats 0 in
theorem c_X7_mayTurn {l : Launch} {D : va_G} {k : Nat → ClassId} {ad : Nat → Nat} (had : InjN 31 ad) (M : Mem) (a1 : Int32) (hI : MI M) (hbx : 0 ≤ a1.toInt ∧ a1.toInt < 4) : Met l yX7_mayTurn (Cond.code yX7_mayTurn cX7_mayTurn 2 (some .boolean) :: wsL_law) rm_X7_mayTurn (va_Pc [.ref (ad 0), .int a1] (GW 31 ad D k (cM ad k M))) (va_Qi (fun r u => (r = 0 ∨ r = 1) ∧ f_X7_mayTurn M a1 = r ∧ u = M) (fun u t => GW 31 ad D k (cM ad k u) t) (AW 31 ad)) 0 0 (AW 31 ad) := by
  refine met_z (g := cM ad k) (M := M) (plainFor_of_name (by decide)) (Nat.le_of_ble_eq_true rfl) ?_
  intro p e s m args below meth c Q ls hx hb hml hG hown hK hret hP hS hl
  have hl : lv_has ls 2 [(0, .ref (ad 0)), (1, .int a1)] := hl
  obtain ⟨V, hV⟩ : ∃ V, f_X7_mayTurn M a1 = V := ⟨_, rfl⟩
  have he := hV
  unfold f_X7_mayTurn at he
  have hT0 : TI M M := TI_rf hI
  have qb_M := hI.1
  have qs_M := hI.2.1
  have qz_M := hI.2.2.1
  refine lv_aload_n hx hb dX7_mayTurn_0 rfl (lv_at hl 0 rfl) ?_
  refine lv_iload_n hx hb dX7_mayTurn_1 rfl (lv_at hl 1 rfl) ?_
  refine call_i [.int a1] [] hx hb hml hG hown hK (c_X7_isIn had M a1 hT0.1 (by omega)) gw_18_0 gm_X7_isIn gd_X7_isIn rfl rfl ⟨Nat.le_of_ble_eq_true rfl, Nat.le_of_ble_eq_true rfl⟩ ⟨Nat.le_refl _, Nat.le_refl _⟩ (rX7 hK hP) hP (fun _ h => h) hS rfl hl.1 rfl (Nat.le_of_ble_eq_true rfl) dX7_mayTurn_2 (fun r_1 u_3 H locs hF_2 hP hS => ?_)
  obtain ⟨hz_4, hF_2, hu⟩ := hF_2; rw [hu] at hP; subst hF_2
  obtain ⟨t_13, hr_6, he⟩ := bnd_ex he
  have j30 : ∀ (H : Heap) (locs : List Loc) (ls : Array Slot), (t_13 = 0 ∨ t_13 = 1) → va_P D vwCl (wld 31 ad (cM ad k M)) H → va_S (AW 31 ad) s.heap H locs → lv_has ls 2 [] → W p l e rm_X7_mayTurn s m args below meth c H locs 0 0 Q (F0 m 30 ls [.int t_13]) := by
    intro H locs ls zt_13 hP hS hl
    exact hret _ _ _ _ _ _ ⟨zt_13, (hV.trans he.symm), rfl⟩ (nz01 zt_13) hP hS dX7_mayTurn_30
  refine lv_if_ne (tgt := 29) hx hb dX7_mayTurn_5 (by decide) (fun hc_5 => ?_) (fun hc_5 => ?_)
  · have hr_6 := ite_t hr_6 hc_5
    refine lv_iconst (v := 0) hx hb dX7_mayTurn_29 (by decide) ?_
    cases hr_6
    exact j30 _ _ _ (Or.inl rfl) hP hS (lv_sub hl [] rfl)
  · have hr_6 := ite_f hr_6 (fun q => q hc_5)
    refine lv_aload_n hx hb dX7_mayTurn_8 rfl (lv_at hl 0 rfl) ?_
    refine lv_iload_n hx hb dX7_mayTurn_9 rfl (lv_at hl 1 rfl) ?_
    refine call_i [.int a1] [] hx hb hml hG hown hK (c_X7_isAtDist had M a1 hT0.1 (by have q0 : (f_X7_isIn M a1).toInt = 0 := congrArg Int32.toInt hc_5; omega)) gw_23_2 gm_X7_isAtDist gd_X7_isAtDist rfl rfl ⟨Nat.le_of_ble_eq_true rfl, Nat.le_of_ble_eq_true rfl⟩ ⟨Nat.le_refl _, Nat.le_refl _⟩ (rX7 hK hP) hP (fun _ h => h) hS rfl hl.1 rfl (Nat.le_of_ble_eq_true rfl) dX7_mayTurn_10 (fun r_7 u_9 H locs hF_8 hP hS => ?_)
    obtain ⟨hz_10, hF_8, hu⟩ := hF_8; rw [hu] at hP; subst hF_8
    refine lv_if_ne (tgt := 29) hx hb dX7_mayTurn_13 (by decide) (fun hc_11 => ?_) (fun hc_11 => ?_)
    · have hr_6 := ite_t hr_6 hc_11
      refine lv_iconst (v := 0) hx hb dX7_mayTurn_29 (by decide) ?_
      cases hr_6
      exact j30 _ _ _ (Or.inl rfl) hP hS (lv_sub hl [] rfl)
    · have hr_6 := ite_f hr_6 (fun q => q hc_11)
      refine lv_aload_n hx hb dX7_mayTurn_16 rfl (lv_at hl 0 rfl) ?_
      refine gX7_16 hx hb hG hown hK hP gw_4_21 dX7_mayTurn_17 ?_
      refine lv_iload_n hx hb dX7_mayTurn_20 rfl (lv_at hl 1 rfl) ?_
      refine al_M9 hx hb hK hP (vin_I (by have q0 : (f_X7_isIn M a1).toInt = 0 := congrArg Int32.toInt hc_5; have q1 : (f_X7_isAtDist M a1).toInt = 0 := congrArg Int32.toInt hc_11; omega) (by have q0 : (f_X7_isIn M a1).toInt = 0 := congrArg Int32.toInt hc_5; have q1 : (f_X7_isAtDist M a1).toInt = 0 := congrArg Int32.toInt hc_11; omega)) dX7_mayTurn_21 ?_
      refine lv_if_ne (tgt := 29) hx hb dX7_mayTurn_22 (by decide) (fun hc_12 => ?_) (fun hc_12 => ?_)
      · have hr_6 := ite_t hr_6 hc_12
        refine lv_iconst (v := 0) hx hb dX7_mayTurn_29 (by decide) ?_
        cases hr_6
        exact j30 _ _ _ (Or.inl rfl) hP hS (lv_sub hl [] rfl)
      · have hr_6 := ite_f hr_6 (fun q => q hc_12)
        refine lv_iconst (v := 1) hx hb dX7_mayTurn_25 (by decide) ?_
        refine lv_goto (tgt := 30) hx hb dX7_mayTurn_26 (by decide) ?_
        cases hr_6
        exact j30 _ _ _ (Or.inr rfl) hP hS (lv_sub hl [] rfl)
def rm_X7_isOut : Room := { frames := 0, cells := 0, slots := 0, locals := 0 }
theorem gm_X7_isOut : Cond.instanceMethod yX7_isOut ∈ wsL_law ∧ Cond.selects RX7 yX7_isOut yX7_isOut ∈ wsL_law ∧ Cond.initialized RX7 ∈ wsL_law ∧ Cond.code yX7_isOut cX7_isOut 2 (some .boolean) ∈ wsL_law := ⟨gw_23_18, gw_23_19, gw_1_5, gw_23_20⟩
theorem gd_X7_isOut : yX7_isOut.cls = RX7 ∧ yX7_isOut.cls ≠ "java/lang/invoke/MethodHandle" ∧ yX7_isOut.cls ≠ "java/lang/invoke/VarHandle" ∧ (parseMethodDescriptor yX7_isOut.desc).map (fun d => d.parameters.length) = some 1 := by decide +kernel
set_option maxRecDepth 100000 in
set_option maxHeartbeats 0 in
theorem c_X7_isOut {l : Launch} {D : va_G} {k : Nat → ClassId} {ad : Nat → Nat} (had : InjN 31 ad) (M : Mem) (a1 : Int32) (hI : MI M) (hbx : 0 ≤ a1.toInt ∧ a1.toInt < 4) : Met l yX7_isOut (Cond.code yX7_isOut cX7_isOut 2 (some .boolean) :: wsL_law) rm_X7_isOut (va_Pc [.ref (ad 0), .int a1] (GW 31 ad D k (cM ad k M))) (va_Qi (fun r u => (r = 0 ∨ r = 1) ∧ f_X7_isOut M a1 = r ∧ u = M) (fun u t => GW 31 ad D k (cM ad k u) t) (AW 31 ad)) 0 0 (AW 31 ad) := by
  refine met_z (g := cM ad k) (M := M) (plainFor_of_name (by decide)) (Nat.le_of_ble_eq_true rfl) ?_
  intro p e s m args below meth c Q ls hx hb hml hG hown hK hret hP hS hl
  have hl : lv_has ls 2 [(0, .ref (ad 0)), (1, .int a1)] := hl
  obtain ⟨V, hV⟩ : ∃ V, f_X7_isOut M a1 = V := ⟨_, rfl⟩
  have he := hV
  unfold f_X7_isOut at he
  have hT0 : TI M M := TI_rf hI
  have qb_M := hI.1
  have qs_M := hI.2.1
  have qz_M := hI.2.2.1
  refine lv_aload_n hx hb dX7_isOut_0 rfl (lv_at hl 0 rfl) ?_
  refine gX7_13 hx hb hG hown hK hP gw_4_18 dX7_isOut_1 ?_
  refine lv_iload_n hx hb dX7_isOut_4 rfl (lv_at hl 1 rfl) ?_
  refine al_M6 hx hb hK hP (vin_I (by omega) (by omega)) dX7_isOut_5 ?_
  refine lv_aload_n hx hb dX7_isOut_6 rfl (lv_at hl 0 rfl) ?_
  refine gX7_15 hx hb hG hown hK hP gw_4_20 dX7_isOut_7 ?_
  refine lv_iload_n hx hb dX7_isOut_10 rfl (lv_at hl 1 rfl) ?_
  refine al_M8 hx hb hK hP (vin_I (by omega) (by omega)) dX7_isOut_11 ?_
  refine lv_imul hx hb dX7_isOut_12 ?_
  refine lv_sipush (v := 200) hx hb dX7_isOut_13 (by decide) ?_
  obtain ⟨t_3, hr_2, he⟩ := bnd_ex he
  have j24 : ∀ (H : Heap) (locs : List Loc) (ls : Array Slot), (t_3 = 0 ∨ t_3 = 1) → va_P D vwCl (wld 31 ad (cM ad k M)) H → va_S (AW 31 ad) s.heap H locs → lv_has ls 2 [] → W p l e rm_X7_isOut s m args below meth c H locs 0 0 Q (F0 m 24 ls [.int t_3]) := by
    intro H locs ls zt_3 hP hS hl
    exact hret _ _ _ _ _ _ ⟨zt_3, (hV.trans he.symm), rfl⟩ (nz01 zt_3) hP hS dX7_isOut_24
  refine lv_icmp_ne (tgt := 23) hx hb dX7_isOut_16 (by decide) (fun hc_1 => ?_) (fun hc_1 => ?_)
  · have hr_2 := ite_t hr_2 hc_1
    refine lv_iconst (v := 0) hx hb dX7_isOut_23 (by decide) ?_
    cases hr_2
    exact j24 _ _ _ (Or.inl rfl) hP hS (lv_sub hl [] rfl)
  · have hr_2 := ite_f hr_2 (fun q => q hc_1)
    refine lv_iconst (v := 1) hx hb dX7_isOut_19 (by decide) ?_
    refine lv_goto (tgt := 24) hx hb dX7_isOut_20 (by decide) ?_
    cases hr_2
    exact j24 _ _ _ (Or.inr rfl) hP hS (lv_sub hl [] rfl)
def rm_X7_isHeaded : Room := { frames := 0, cells := 0, slots := 0, locals := 0 }
theorem gm_X7_isHeaded : Cond.instanceMethod yX7_isHeaded ∈ wsL_law ∧ Cond.selects RX7 yX7_isHeaded yX7_isHeaded ∈ wsL_law ∧ Cond.initialized RX7 ∈ wsL_law ∧ Cond.code yX7_isHeaded cX7_isHeaded 2 (some .boolean) ∈ wsL_law := ⟨gw_24_6, gw_24_7, gw_1_5, gw_24_8⟩
theorem gd_X7_isHeaded : yX7_isHeaded.cls = RX7 ∧ yX7_isHeaded.cls ≠ "java/lang/invoke/MethodHandle" ∧ yX7_isHeaded.cls ≠ "java/lang/invoke/VarHandle" ∧ (parseMethodDescriptor yX7_isHeaded.desc).map (fun d => d.parameters.length) = some 1 := by decide +kernel
set_option maxRecDepth 100000 in
set_option maxHeartbeats 0 in
theorem c_X7_isHeaded {l : Launch} {D : va_G} {k : Nat → ClassId} {ad : Nat → Nat} (had : InjN 31 ad) (M : Mem) (a1 : Int32) (hI : MI M) (hbx : 0 ≤ a1.toInt ∧ a1.toInt < 4) : Met l yX7_isHeaded (Cond.code yX7_isHeaded cX7_isHeaded 2 (some .boolean) :: wsL_law) rm_X7_isHeaded (va_Pc [.ref (ad 0), .int a1] (GW 31 ad D k (cM ad k M))) (va_Qi (fun r u => (r = 0 ∨ r = 1) ∧ f_X7_isHeaded M a1 = r ∧ u = M) (fun u t => GW 31 ad D k (cM ad k u) t) (AW 31 ad)) 0 0 (AW 31 ad) := by
  refine met_z (g := cM ad k) (M := M) (plainFor_of_name (by decide)) (Nat.le_of_ble_eq_true rfl) ?_
  intro p e s m args below meth c Q ls hx hb hml hG hown hK hret hP hS hl
  have hl : lv_has ls 2 [(0, .ref (ad 0)), (1, .int a1)] := hl
  obtain ⟨V, hV⟩ : ∃ V, f_X7_isHeaded M a1 = V := ⟨_, rfl⟩
  have he := hV
  unfold f_X7_isHeaded at he
  have hT0 : TI M M := TI_rf hI
  have qb_M := hI.1
  have qs_M := hI.2.1
  have qz_M := hI.2.2.1
  refine lv_aload_n hx hb dX7_isHeaded_0 rfl (lv_at hl 0 rfl) ?_
  refine gX7_15 hx hb hG hown hK hP gw_4_20 dX7_isHeaded_1 ?_
  refine lv_iload_n hx hb dX7_isHeaded_4 rfl (lv_at hl 1 rfl) ?_
  refine al_M8 hx hb hK hP (vin_I (by omega) (by omega)) dX7_isHeaded_5 ?_
  refine lv_aload_n hx hb dX7_isHeaded_6 rfl (lv_at hl 0 rfl) ?_
  refine gX7_28 hx hb hG hown hK hP gw_5_5 dX7_isHeaded_7 ?_
  refine lv_aload_n hx hb dX7_isHeaded_10 rfl (lv_at hl 0 rfl) ?_
  refine gX7_7 hx hb hG hown hK hP gw_15_12 dX7_isHeaded_11 ?_
  refine al_M17 hx hb hK hP (vin_I (by have ll0 : (0 : Int32).toInt = 0 := rfl; have ll7 : (7 : Int32).toInt = 7 := rfl; omega) (by have ll0 : (0 : Int32).toInt = 0 := rfl; have ll7 : (7 : Int32).toInt = 7 := rfl; omega)) dX7_isHeaded_14 ?_
  refine lv_iconst (v := 5) hx hb dX7_isHeaded_15 (by decide) ?_
  refine lv_idiv hx hb dX7_isHeaded_16 (by decide) ?_
  refine lv_imul hx hb dX7_isHeaded_17 ?_
  refine lv_aload_n hx hb dX7_isHeaded_18 rfl (lv_at hl 0 rfl) ?_
  refine gX7_12 hx hb hG hown hK hP gw_4_17 dX7_isHeaded_19 ?_
  refine lv_iload_n hx hb dX7_isHeaded_22 rfl (lv_at hl 1 rfl) ?_
  refine al_M5 hx hb hK hP (vin_I (by omega) (by omega)) dX7_isHeaded_23 ?_
  refine lv_iconst (v := 5) hx hb dX7_isHeaded_24 (by decide) ?_
  refine lv_idiv hx hb dX7_isHeaded_25 (by decide) ?_
  obtain ⟨t_3, hr_2, he⟩ := bnd_ex he
  have j34 : ∀ (H : Heap) (locs : List Loc) (ls : Array Slot), (t_3 = 0 ∨ t_3 = 1) → va_P D vwCl (wld 31 ad (cM ad k M)) H → va_S (AW 31 ad) s.heap H locs → lv_has ls 2 [] → W p l e rm_X7_isHeaded s m args below meth c H locs 0 0 Q (F0 m 34 ls [.int t_3]) := by
    intro H locs ls zt_3 hP hS hl
    exact hret _ _ _ _ _ _ ⟨zt_3, (hV.trans he.symm), rfl⟩ (nz01 zt_3) hP hS dX7_isHeaded_34
  refine lv_icmp_le (tgt := 33) hx hb dX7_isHeaded_26 (by decide) (fun hc_1 => ?_) (fun hc_1 => ?_)
  · have hr_2 := ite_t hr_2 hc_1
    refine lv_iconst (v := 0) hx hb dX7_isHeaded_33 (by decide) ?_
    cases hr_2
    exact j34 _ _ _ (Or.inl rfl) hP hS (lv_sub hl [] rfl)
  · have hr_2 := ite_f hr_2 hc_1
    refine lv_iconst (v := 1) hx hb dX7_isHeaded_29 (by decide) ?_
    refine lv_goto (tgt := 34) hx hb dX7_isHeaded_30 (by decide) ?_
    cases hr_2
    exact j34 _ _ _ (Or.inr rfl) hP hS (lv_sub hl [] rfl)
def rm_X7_isTurnTime : Room := { frames := 0, cells := 0, slots := 0, locals := 0 }
theorem gm_X7_isTurnTime : Cond.instanceMethod yX7_isTurnTime ∈ wsL_law ∧ Cond.selects RX7 yX7_isTurnTime yX7_isTurnTime ∈ wsL_law ∧ Cond.initialized RX7 ∈ wsL_law ∧ Cond.code yX7_isTurnTime cX7_isTurnTime 2 (some .boolean) ∈ wsL_law := ⟨gw_24_2, gw_24_3, gw_1_5, gw_24_4⟩
theorem gd_X7_isTurnTime : yX7_isTurnTime.cls = RX7 ∧ yX7_isTurnTime.cls ≠ "java/lang/invoke/MethodHandle" ∧ yX7_isTurnTime.cls ≠ "java/lang/invoke/VarHandle" ∧ (parseMethodDescriptor yX7_isTurnTime.desc).map (fun d => d.parameters.length) = some 1 := by decide +kernel
set_option maxRecDepth 100000 in
set_option maxHeartbeats 0 in
theorem c_X7_isTurnTime {l : Launch} {D : va_G} {k : Nat → ClassId} {ad : Nat → Nat} (had : InjN 31 ad) (M : Mem) (a1 : Int32) (hI : MI M) (hbx : 0 ≤ a1.toInt ∧ a1.toInt < 4) : Met l yX7_isTurnTime (Cond.code yX7_isTurnTime cX7_isTurnTime 2 (some .boolean) :: wsL_law) rm_X7_isTurnTime (va_Pc [.ref (ad 0), .int a1] (GW 31 ad D k (cM ad k M))) (va_Qi (fun r u => (r = 0 ∨ r = 1) ∧ f_X7_isTurnTime M a1 = r ∧ u = M) (fun u t => GW 31 ad D k (cM ad k u) t) (AW 31 ad)) 0 0 (AW 31 ad) := by
  refine met_z (g := cM ad k) (M := M) (plainFor_of_name (by decide)) (Nat.le_of_ble_eq_true rfl) ?_
  intro p e s m args below meth c Q ls hx hb hml hG hown hK hret hP hS hl
  have hl : lv_has ls 2 [(0, .ref (ad 0)), (1, .int a1)] := hl
  obtain ⟨V, hV⟩ : ∃ V, f_X7_isTurnTime M a1 = V := ⟨_, rfl⟩
  have he := hV
  unfold f_X7_isTurnTime at he
  have hT0 : TI M M := TI_rf hI
  have qb_M := hI.1
  have qs_M := hI.2.1
  have qz_M := hI.2.2.1
  refine lv_aload_n hx hb dX7_isTurnTime_0 rfl (lv_at hl 0 rfl) ?_
  refine gX7_12 hx hb hG hown hK hP gw_4_17 dX7_isTurnTime_1 ?_
  refine lv_iload_n hx hb dX7_isTurnTime_4 rfl (lv_at hl 1 rfl) ?_
  refine al_M5 hx hb hK hP (vin_I (by omega) (by omega)) dX7_isTurnTime_5 ?_
  obtain ⟨t_4, hr_2, he⟩ := bnd_ex he
  have j30 : ∀ (H : Heap) (locs : List Loc) (ls : Array Slot), (t_4 = 0 ∨ t_4 = 1) → va_P D vwCl (wld 31 ad (cM ad k M)) H → va_S (AW 31 ad) s.heap H locs → lv_has ls 2 [] → W p l e rm_X7_isTurnTime s m args below meth c H locs 0 0 Q (F0 m 30 ls [.int t_4]) := by
    intro H locs ls zt_4 hP hS hl
    exact hret _ _ _ _ _ _ ⟨zt_4, (hV.trans he.symm), rfl⟩ (nz01 zt_4) hP hS dX7_isTurnTime_30
  refine lv_if_le (tgt := 29) hx hb dX7_isTurnTime_6 (by decide) (fun hc_1 => ?_) (fun hc_1 => ?_)
  · have hr_2 := ite_t hr_2 hc_1
    refine lv_iconst (v := 0) hx hb dX7_isTurnTime_29 (by decide) ?_
    cases hr_2
    exact j30 _ _ _ (Or.inl rfl) hP hS (lv_sub hl [] rfl)
  · have hr_2 := ite_f hr_2 hc_1
    refine lv_aload_n hx hb dX7_isTurnTime_9 rfl (lv_at hl 0 rfl) ?_
    refine gX7_7 hx hb hG hown hK hP gw_15_12 dX7_isTurnTime_10 ?_
    refine lv_iconst (v := 5) hx hb dX7_isTurnTime_13 (by decide) ?_
    refine lv_aload_n hx hb dX7_isTurnTime_14 rfl (lv_at hl 0 rfl) ?_
    refine gX7_12 hx hb hG hown hK hP gw_4_17 dX7_isTurnTime_15 ?_
    refine lv_iload_n hx hb dX7_isTurnTime_18 rfl (lv_at hl 1 rfl) ?_
    refine al_M5 hx hb hK hP (vin_I (by have q0 : 0 < (M 5 a1.toNatClampNeg).toInt := nle_I hc_1; omega) (by have q0 : 0 < (M 5 a1.toNatClampNeg).toInt := nle_I hc_1; omega)) dX7_isTurnTime_19 ?_
    refine lv_imul hx hb dX7_isTurnTime_20 ?_
    refine lv_irem hx hb dX7_isTurnTime_21 (ne5_I (by have ll5 : (5 : Int32).toInt = 5 := rfl; have q1 : 0 < (M 5 a1.toNatClampNeg).toInt := nle_I hc_1; omega)) ?_
    refine lv_if_ne (tgt := 29) hx hb dX7_isTurnTime_22 (by decide) (fun hc_3 => ?_) (fun hc_3 => ?_)
    · have hr_2 := ite_t hr_2 hc_3
      refine lv_iconst (v := 0) hx hb dX7_isTurnTime_29 (by decide) ?_
      cases hr_2
      exact j30 _ _ _ (Or.inl rfl) hP hS (lv_sub hl [] rfl)
    · have hr_2 := ite_f hr_2 (fun q => q hc_3)
      refine lv_iconst (v := 1) hx hb dX7_isTurnTime_25 (by decide) ?_
      refine lv_goto (tgt := 30) hx hb dX7_isTurnTime_26 (by decide) ?_
      cases hr_2
      exact j30 _ _ _ (Or.inr rfl) hP hS (lv_sub hl [] rfl)
def rm_X7_isCovering : Room := { frames := 0, cells := 0, slots := 0, locals := 0 }
theorem gm_X7_isCovering : Cond.instanceMethod yX7_isCovering ∈ wsL_law ∧ Cond.selects RX7 yX7_isCovering yX7_isCovering ∈ wsL_law ∧ Cond.initialized RX7 ∈ wsL_law ∧ Cond.code yX7_isCovering cX7_isCovering 3 (some .boolean) ∈ wsL_law := ⟨gw_24_10, gw_24_11, gw_1_5, gw_24_12⟩
theorem gd_X7_isCovering : yX7_isCovering.cls = RX7 ∧ yX7_isCovering.cls ≠ "java/lang/invoke/MethodHandle" ∧ yX7_isCovering.cls ≠ "java/lang/invoke/VarHandle" ∧ (parseMethodDescriptor yX7_isCovering.desc).map (fun d => d.parameters.length) = some 1 := by decide +kernel
set_option maxRecDepth 100000 in
set_option maxHeartbeats 0 in
theorem c_X7_isCovering {l : Launch} {D : va_G} {k : Nat → ClassId} {ad : Nat → Nat} (had : InjN 31 ad) (M : Mem) (a1 : Int32) (hI : MI M) (hbx : 0 ≤ a1.toInt ∧ a1.toInt < 4) (hbb : a1.toInt < (M 0 8).toInt) : Met l yX7_isCovering (Cond.code yX7_isCovering cX7_isCovering 3 (some .boolean) :: wsL_law) rm_X7_isCovering (va_Pc [.ref (ad 0), .int a1] (GW 31 ad D k (cM ad k M))) (va_Qi (fun r u => (r = 0 ∨ r = 1) ∧ f_X7_isCovering M a1 = r ∧ u = M) (fun u t => GW 31 ad D k (cM ad k u) t) (AW 31 ad)) 0 0 (AW 31 ad) := by
  refine met_z (g := cM ad k) (M := M) (plainFor_of_name (by decide)) (Nat.le_of_ble_eq_true rfl) ?_
  intro p e s m args below meth c Q ls hx hb hml hG hown hK hret hP hS hl
  have hl : lv_has ls 3 [(0, .ref (ad 0)), (1, .int a1)] := hl
  obtain ⟨V, hV⟩ : ∃ V, f_X7_isCovering M a1 = V := ⟨_, rfl⟩
  have he := hV
  unfold f_X7_isCovering at he
  have hT0 : TI M M := TI_rf hI
  have qb_M := hI.1
  have qs_M := hI.2.1
  have qz_M := hI.2.2.1
  refine lv_iload_n hx hb dX7_isCovering_0 rfl (lv_at hl 1 rfl) ?_
  obtain ⟨t_3, hr_2, he⟩ := bnd_ex he
  have j16 : ∀ (H : Heap) (locs : List Loc) (ls : Array Slot), va_P D vwCl (wld 31 ad (cM ad k M)) H → va_S (AW 31 ad) s.heap H locs → lv_has ls 3 [(0, .ref (ad 0)), (1, .int a1)] → W p l e rm_X7_isCovering s m args below meth c H locs 0 0 Q (F0 m 16 ls [.int t_3]) := by
    intro H locs ls hP hS hl
    refine lv_istore_n (lv' := [(2, .int t_3), (0, .ref (ad 0)), (1, .int a1)]) hx hb dX7_isCovering_16 rfl hl (by decide) rfl (fun ls hl => ?_)
    refine lv_iload_n hx hb dX7_isCovering_17 rfl (lv_at hl 0 rfl) ?_
    refine lv_iload_n hx hb dX7_isCovering_18 rfl (lv_at hl 2 rfl) ?_
    obtain ⟨t_8, hr_5, he⟩ := bnd_ex he
    have j57 : ∀ (H : Heap) (locs : List Loc) (ls : Array Slot), (t_8 = 0 ∨ t_8 = 1) → va_P D vwCl (wld 31 ad (cM ad k M)) H → va_S (AW 31 ad) s.heap H locs → lv_has ls 3 [] → W p l e rm_X7_isCovering s m args below meth c H locs 0 0 Q (F0 m 57 ls [.int t_8]) := by
      intro H locs ls zt_8 hP hS hl
      exact hret _ _ _ _ _ _ ⟨zt_8, (hV.trans he.symm), rfl⟩ (nz01 zt_8) hP hS dX7_isCovering_57
    refine lv_icmp_eq (tgt := 56) hx hb dX7_isCovering_19 (by decide) (fun hc_4 => ?_) (fun hc_4 => ?_)
    · have hr_5 := ite_t hr_5 hc_4
      refine lv_iconst (v := 0) hx hb dX7_isCovering_56 (by decide) ?_
      cases hr_5
      exact j57 _ _ _ (Or.inl rfl) hP hS (lv_sub hl [] rfl)
    · have hr_5 := ite_f hr_5 hc_4
      refine lv_aload_n hx hb dX7_isCovering_22 rfl (lv_at hl 1 rfl) ?_
      refine gX7_15 hx hb hG hown hK hP gw_4_20 dX7_isCovering_23 ?_
      refine lv_iload_n hx hb dX7_isCovering_26 rfl (lv_at hl 0 rfl) ?_
      refine al_M8 hx hb hK hP (cov_in hbx (by omega) hbb hr_2) dX7_isCovering_27 ?_
      refine lv_aload_n hx hb dX7_isCovering_28 rfl (lv_at hl 1 rfl) ?_
      refine gX7_15 hx hb hG hown hK hP gw_4_20 dX7_isCovering_29 ?_
      refine lv_iload_n hx hb dX7_isCovering_32 rfl (lv_at hl 2 rfl) ?_
      refine al_M8 hx hb hK hP (vin_I hbx.1 hbx.2) dX7_isCovering_33 ?_
      refine lv_icmp_eq (tgt := 56) hx hb dX7_isCovering_34 (by decide) (fun hc_6 => ?_) (fun hc_6 => ?_)
      · have hr_5 := ite_t hr_5 hc_6
        refine lv_iconst (v := 0) hx hb dX7_isCovering_56 (by decide) ?_
        cases hr_5
        exact j57 _ _ _ (Or.inl rfl) hP hS (lv_sub hl [] rfl)
      · have hr_5 := ite_f hr_5 hc_6
        refine lv_aload_n hx hb dX7_isCovering_37 rfl (lv_at hl 1 rfl) ?_
        refine gX7_14 hx hb hG hown hK hP gw_4_19 dX7_isCovering_38 ?_
        refine lv_iload_n hx hb dX7_isCovering_41 rfl (lv_at hl 0 rfl) ?_
        refine al_M7 hx hb hK hP (cov_in hbx (by omega) hbb hr_2) dX7_isCovering_42 ?_
        refine lv_aload_n hx hb dX7_isCovering_43 rfl (lv_at hl 1 rfl) ?_
        refine gX7_14 hx hb hG hown hK hP gw_4_19 dX7_isCovering_44 ?_
        refine lv_iload_n hx hb dX7_isCovering_47 rfl (lv_at hl 2 rfl) ?_
        refine al_M7 hx hb hK hP (vin_I hbx.1 hbx.2) dX7_isCovering_48 ?_
        refine lv_icmp_ge (tgt := 56) hx hb dX7_isCovering_49 (by decide) (fun hc_7 => ?_) (fun hc_7 => ?_)
        · have hr_5 := ite_t hr_5 hc_7
          refine lv_iconst (v := 0) hx hb dX7_isCovering_56 (by decide) ?_
          cases hr_5
          exact j57 _ _ _ (Or.inl rfl) hP hS (lv_sub hl [] rfl)
        · have hr_5 := ite_f hr_5 hc_7
          refine lv_iconst (v := 1) hx hb dX7_isCovering_52 (by decide) ?_
          refine lv_goto (tgt := 57) hx hb dX7_isCovering_53 (by decide) ?_
          cases hr_5
          exact j57 _ _ _ (Or.inr rfl) hP hS (lv_sub hl [] rfl)
  refine lv_if_ne (tgt := 13) hx hb dX7_isCovering_1 (by decide) (fun hc_1 => ?_) (fun hc_1 => ?_)
  · have hr_2 := ite_t hr_2 hc_1
    refine lv_iload_n hx hb dX7_isCovering_13 rfl (lv_at hl 1 rfl) ?_
    refine lv_iconst (v := 1) hx hb dX7_isCovering_14 (by decide) ?_
    refine lv_isub hx hb dX7_isCovering_15 ?_
    cases hr_2
    exact j16 _ _ _ hP hS (lv_sub hl [0, 1] rfl)
  · have hr_2 := ite_f hr_2 (fun q => q hc_1)
    refine lv_aload_n hx hb dX7_isCovering_4 rfl (lv_at hl 0 rfl) ?_
    refine gX7_8 hx hb hG hown hK hP gw_7_15 dX7_isCovering_5 ?_
    refine lv_iconst (v := 1) hx hb dX7_isCovering_8 (by decide) ?_
    refine lv_isub hx hb dX7_isCovering_9 ?_
    refine lv_goto (tgt := 16) hx hb dX7_isCovering_10 (by decide) ?_
    cases hr_2
    exact j16 _ _ _ hP hS (lv_sub hl [0, 1] rfl)
def rm_X7_isSide : Room := { frames := 0, cells := 0, slots := 0, locals := 0 }
theorem gm_X7_isSide : Cond.instanceMethod yX7_isSide ∈ wsL_law ∧ Cond.selects RX7 yX7_isSide yX7_isSide ∈ wsL_law ∧ Cond.initialized RX7 ∈ wsL_law ∧ Cond.code yX7_isSide cX7_isSide 2 (some .boolean) ∈ wsL_law := ⟨gw_24_14, gw_24_15, gw_1_5, gw_24_16⟩
theorem gd_X7_isSide : yX7_isSide.cls = RX7 ∧ yX7_isSide.cls ≠ "java/lang/invoke/MethodHandle" ∧ yX7_isSide.cls ≠ "java/lang/invoke/VarHandle" ∧ (parseMethodDescriptor yX7_isSide.desc).map (fun d => d.parameters.length) = some 1 := by decide +kernel
set_option maxRecDepth 100000 in
set_option maxHeartbeats 0 in
theorem c_X7_isSide {l : Launch} {D : va_G} {k : Nat → ClassId} {ad : Nat → Nat} (had : InjN 31 ad) (M : Mem) (a1 : Int32) (hI : MI M) (hbx : 0 ≤ a1.toInt ∧ a1.toInt < 4) : Met l yX7_isSide (Cond.code yX7_isSide cX7_isSide 2 (some .boolean) :: wsL_law) rm_X7_isSide (va_Pc [.ref (ad 0), .int a1] (GW 31 ad D k (cM ad k M))) (va_Qi (fun r u => (r = 0 ∨ r = 1) ∧ f_X7_isSide M a1 = r ∧ u = M) (fun u t => GW 31 ad D k (cM ad k u) t) (AW 31 ad)) 0 0 (AW 31 ad) := by
  refine met_z (g := cM ad k) (M := M) (plainFor_of_name (by decide)) (Nat.le_of_ble_eq_true rfl) ?_
  intro p e s m args below meth c Q ls hx hb hml hG hown hK hret hP hS hl
  have hl : lv_has ls 2 [(0, .ref (ad 0)), (1, .int a1)] := hl
  obtain ⟨V, hV⟩ : ∃ V, f_X7_isSide M a1 = V := ⟨_, rfl⟩
  have he := hV
  unfold f_X7_isSide at he
  have hT0 : TI M M := TI_rf hI
  have qb_M := hI.1
  have qs_M := hI.2.1
  have qz_M := hI.2.2.1
  refine lv_aload_n hx hb dX7_isSide_0 rfl (lv_at hl 0 rfl) ?_
  refine gX7_13 hx hb hG hown hK hP gw_4_18 dX7_isSide_1 ?_
  refine lv_iload_n hx hb dX7_isSide_4 rfl (lv_at hl 1 rfl) ?_
  refine al_M6 hx hb hK hP (vin_I (by omega) (by omega)) dX7_isSide_5 ?_
  refine lv_aload_n hx hb dX7_isSide_6 rfl (lv_at hl 0 rfl) ?_
  refine gX7_15 hx hb hG hown hK hP gw_4_20 dX7_isSide_7 ?_
  refine lv_iload_n hx hb dX7_isSide_10 rfl (lv_at hl 1 rfl) ?_
  refine al_M8 hx hb hK hP (vin_I (by omega) (by omega)) dX7_isSide_11 ?_
  refine lv_imul hx hb dX7_isSide_12 ?_
  refine lv_iconst (v := 5) hx hb dX7_isSide_13 (by decide) ?_
  refine lv_aload_n hx hb dX7_isSide_14 rfl (lv_at hl 0 rfl) ?_
  refine gX7_12 hx hb hG hown hK hP gw_4_17 dX7_isSide_15 ?_
  refine lv_iload_n hx hb dX7_isSide_18 rfl (lv_at hl 1 rfl) ?_
  refine al_M5 hx hb hK hP (vin_I (by omega) (by omega)) dX7_isSide_19 ?_
  refine lv_imul hx hb dX7_isSide_20 ?_
  obtain ⟨t_3, hr_2, he⟩ := bnd_ex he
  have j29 : ∀ (H : Heap) (locs : List Loc) (ls : Array Slot), (t_3 = 0 ∨ t_3 = 1) → va_P D vwCl (wld 31 ad (cM ad k M)) H → va_S (AW 31 ad) s.heap H locs → lv_has ls 2 [] → W p l e rm_X7_isSide s m args below meth c H locs 0 0 Q (F0 m 29 ls [.int t_3]) := by
    intro H locs ls zt_3 hP hS hl
    exact hret _ _ _ _ _ _ ⟨zt_3, (hV.trans he.symm), rfl⟩ (nz01 zt_3) hP hS dX7_isSide_29
  refine lv_icmp_lt (tgt := 28) hx hb dX7_isSide_21 (by decide) (fun hc_1 => ?_) (fun hc_1 => ?_)
  · have hr_2 := ite_t hr_2 hc_1
    refine lv_iconst (v := 0) hx hb dX7_isSide_28 (by decide) ?_
    cases hr_2
    exact j29 _ _ _ (Or.inl rfl) hP hS (lv_sub hl [] rfl)
  · have hr_2 := ite_f hr_2 hc_1
    refine lv_iconst (v := 1) hx hb dX7_isSide_24 (by decide) ?_
    refine lv_goto (tgt := 29) hx hb dX7_isSide_25 (by decide) ?_
    cases hr_2
    exact j29 _ _ _ (Or.inr rfl) hP hS (lv_sub hl [] rfl)
def rm_X7_isLast : Room := { frames := 1, cells := 0, slots := 0, locals := 20 }
theorem gm_X7_isLast : Cond.instanceMethod yX7_isLast ∈ wsL_law ∧ Cond.selects RX7 yX7_isLast yX7_isLast ∈ wsL_law ∧ Cond.initialized RX7 ∈ wsL_law ∧ Cond.code yX7_isLast cX7_isLast 2 (some .boolean) ∈ wsL_law := ⟨gw_24_18, gw_24_19, gw_1_5, gw_24_20⟩
theorem gd_X7_isLast : yX7_isLast.cls = RX7 ∧ yX7_isLast.cls ≠ "java/lang/invoke/MethodHandle" ∧ yX7_isLast.cls ≠ "java/lang/invoke/VarHandle" ∧ (parseMethodDescriptor yX7_isLast.desc).map (fun d => d.parameters.length) = some 1 := by decide +kernel
set_option maxRecDepth 100000 in
set_option maxHeartbeats 0 in
theorem c_X7_isLast {l : Launch} {D : va_G} {k : Nat → ClassId} {ad : Nat → Nat} (had : InjN 31 ad) (M : Mem) (a1 : Int32) (hI : MI M) (hbx : 0 ≤ a1.toInt ∧ a1.toInt < 4) : Met l yX7_isLast (Cond.code yX7_isLast cX7_isLast 2 (some .boolean) :: wsL_law) rm_X7_isLast (va_Pc [.ref (ad 0), .int a1] (GW 31 ad D k (cM ad k M))) (va_Qi (fun r u => (r = 0 ∨ r = 1) ∧ f_X7_isLast M a1 = r ∧ u = M) (fun u t => GW 31 ad D k (cM ad k u) t) (AW 31 ad)) 0 0 (AW 31 ad) := by
  refine met_z (g := cM ad k) (M := M) (plainFor_of_name (by decide)) (Nat.le_of_ble_eq_true rfl) ?_
  intro p e s m args below meth c Q ls hx hb hml hG hown hK hret hP hS hl
  have hl : lv_has ls 2 [(0, .ref (ad 0)), (1, .int a1)] := hl
  obtain ⟨V, hV⟩ : ∃ V, f_X7_isLast M a1 = V := ⟨_, rfl⟩
  have he := hV
  unfold f_X7_isLast at he
  have hT0 : TI M M := TI_rf hI
  have qb_M := hI.1
  have qs_M := hI.2.1
  have qz_M := hI.2.2.1
  refine lv_aload_n hx hb dX7_isLast_0 rfl (lv_at hl 0 rfl) ?_
  refine gX7_13 hx hb hG hown hK hP gw_4_18 dX7_isLast_1 ?_
  refine lv_iload_n hx hb dX7_isLast_4 rfl (lv_at hl 1 rfl) ?_
  refine al_M6 hx hb hK hP (vin_I (by omega) (by omega)) dX7_isLast_5 ?_
  refine lv_aload_n hx hb dX7_isLast_6 rfl (lv_at hl 0 rfl) ?_
  refine gX7_15 hx hb hG hown hK hP gw_4_20 dX7_isLast_7 ?_
  refine lv_iload_n hx hb dX7_isLast_10 rfl (lv_at hl 1 rfl) ?_
  refine al_M8 hx hb hK hP (vin_I (by omega) (by omega)) dX7_isLast_11 ?_
  refine lv_imul hx hb dX7_isLast_12 ?_
  obtain ⟨t_7, hr_2, he⟩ := bnd_ex he
  have j50 : ∀ (H : Heap) (locs : List Loc) (ls : Array Slot), (t_7 = 0 ∨ t_7 = 1) → va_P D vwCl (wld 31 ad (cM ad k M)) H → va_S (AW 31 ad) s.heap H locs → lv_has ls 2 [] → W p l e rm_X7_isLast s m args below meth c H locs 0 0 Q (F0 m 50 ls [.int t_7]) := by
    intro H locs ls zt_7 hP hS hl
    exact hret _ _ _ _ _ _ ⟨zt_7, (hV.trans he.symm), rfl⟩ (nz01 zt_7) hP hS dX7_isLast_50
  refine lv_if_le (tgt := 49) hx hb dX7_isLast_13 (by decide) (fun hc_1 => ?_) (fun hc_1 => ?_)
  · have hr_2 := ite_t hr_2 hc_1
    refine lv_iconst (v := 0) hx hb dX7_isLast_49 (by decide) ?_
    cases hr_2
    exact j50 _ _ _ (Or.inl rfl) hP hS (lv_sub hl [] rfl)
  · have hr_2 := ite_f hr_2 hc_1
    refine lv_bipush (v := 8) hx hb dX7_isLast_16 (by decide) ?_
    refine lv_aload_n hx hb dX7_isLast_18 rfl (lv_at hl 0 rfl) ?_
    refine gX7_0 hx hb hG hown hK hP gw_4_10 dX7_isLast_19 ?_
    refine lv_aload_n hx hb dX7_isLast_22 rfl (lv_at hl 0 rfl) ?_
    refine gX7_14 hx hb hG hown hK hP gw_4_19 dX7_isLast_23 ?_
    refine lv_iload_n hx hb dX7_isLast_26 rfl (lv_at hl 1 rfl) ?_
    refine al_M7 hx hb hK hP (vin_I (by have q0 : 0 < ((M 6 a1.toNatClampNeg) * (M 8 a1.toNatClampNeg)).toInt := nle_I hc_1; omega) (by have q0 : 0 < ((M 6 a1.toNatClampNeg) * (M 8 a1.toNatClampNeg)).toInt := nle_I hc_1; omega)) dX7_isLast_27 ?_
    refine lv_isub hx hb dX7_isLast_28 ?_
    refine lv_imul hx hb dX7_isLast_29 ?_
    refine lv_bipush (v := 6) hx hb dX7_isLast_30 (by decide) ?_
    refine lv_idiv hx hb dX7_isLast_32 (by decide) ?_
    refine lv_aload_n hx hb dX7_isLast_33 rfl (lv_at hl 0 rfl) ?_
    refine gX7_13 hx hb hG hown hK hP gw_4_18 dX7_isLast_34 ?_
    refine lv_iload_n hx hb dX7_isLast_37 rfl (lv_at hl 1 rfl) ?_
    refine al_M6 hx hb hK hP (vin_I (by have q0 : 0 < ((M 6 a1.toNatClampNeg) * (M 8 a1.toNatClampNeg)).toInt := nle_I hc_1; omega) (by have q0 : 0 < ((M 6 a1.toNatClampNeg) * (M 8 a1.toNatClampNeg)).toInt := nle_I hc_1; omega)) dX7_isLast_38 ?_
    refine callS_i [.int (M 6 a1.toNatClampNeg)] [.int ((8 * ((M 0 0) - (M 7 a1.toNatClampNeg))) / 6)] hx hb hml hG hown hK (c_X7_plainly had (M := M)  (M 6 a1.toNatClampNeg)) gw_23_10 gm_X7_plainly gd_X7_plainly rfl rfl ⟨Nat.le_of_ble_eq_true rfl, Nat.le_of_ble_eq_true rfl⟩ ⟨Nat.le_refl _, Nat.le_refl _⟩ hP (fun _ h => h) hS rfl hl.1 rfl (Nat.le_of_ble_eq_true rfl) dX7_isLast_39 (fun r_3 u_5 H locs hF_4 hP hS => ?_)
    obtain ⟨hF_4, hu⟩ := hF_4; rw [hu] at hP; subst hF_4
    refine lv_icmp_gt (tgt := 49) hx hb dX7_isLast_42 (by decide) (fun hc_6 => ?_) (fun hc_6 => ?_)
    · have hr_2 := ite_t hr_2 hc_6
      refine lv_iconst (v := 0) hx hb dX7_isLast_49 (by decide) ?_
      cases hr_2
      exact j50 _ _ _ (Or.inl rfl) hP hS (lv_sub hl [] rfl)
    · have hr_2 := ite_f hr_2 hc_6
      refine lv_iconst (v := 1) hx hb dX7_isLast_45 (by decide) ?_
      refine lv_goto (tgt := 50) hx hb dX7_isLast_46 (by decide) ?_
      cases hr_2
      exact j50 _ _ _ (Or.inr rfl) hP hS (lv_sub hl [] rfl)
def rm_X7_turnsByKind : Room := { frames := 2, cells := 0, slots := 0, locals := 49 }
theorem gm_X7_turnsByKind : Cond.instanceMethod yX7_turnsByKind ∈ wsL_law ∧ Cond.selects RX7 yX7_turnsByKind yX7_turnsByKind ∈ wsL_law ∧ Cond.initialized RX7 ∈ wsL_law ∧ Cond.code yX7_turnsByKind cX7_turnsByKind 2 (some .boolean) ∈ wsL_law := ⟨gw_23_22, gw_23_23, gw_1_5, gw_24_0⟩
theorem gd_X7_turnsByKind : yX7_turnsByKind.cls = RX7 ∧ yX7_turnsByKind.cls ≠ "java/lang/invoke/MethodHandle" ∧ yX7_turnsByKind.cls ≠ "java/lang/invoke/VarHandle" ∧ (parseMethodDescriptor yX7_turnsByKind.desc).map (fun d => d.parameters.length) = some 1 := by decide +kernel
set_option maxRecDepth 100000 in
set_option maxHeartbeats 0 in
theorem c_X7_turnsByKind {l : Launch} {D : va_G} {k : Nat → ClassId} {ad : Nat → Nat} (had : InjN 31 ad) (M : Mem) (a1 : Int32) (hI : MI M) (hbx : 0 ≤ a1.toInt ∧ a1.toInt < 4) (hbb : a1.toInt < (M 0 8).toInt) : Met l yX7_turnsByKind (Cond.code yX7_turnsByKind cX7_turnsByKind 2 (some .boolean) :: wsL_law) rm_X7_turnsByKind (va_Pc [.ref (ad 0), .int a1] (GW 31 ad D k (cM ad k M))) (va_Qi (fun r u => (r = 0 ∨ r = 1) ∧ f_X7_turnsByKind M a1 = r ∧ u = M) (fun u t => GW 31 ad D k (cM ad k u) t) (AW 31 ad)) 0 0 (AW 31 ad) := by
  refine met_z (g := cM ad k) (M := M) (plainFor_of_name (by decide)) (Nat.le_of_ble_eq_true rfl) ?_
  intro p e s m args below meth c Q ls hx hb hml hG hown hK hret hP hS hl
  have hl : lv_has ls 2 [(0, .ref (ad 0)), (1, .int a1)] := hl
  obtain ⟨V, hV⟩ : ∃ V, f_X7_turnsByKind M a1 = V := ⟨_, rfl⟩
  have he := hV
  unfold f_X7_turnsByKind at he
  have hT0 : TI M M := TI_rf hI
  have qb_M := hI.1
  have qs_M := hI.2.1
  have qz_M := hI.2.2.1
  refine lv_aload_n hx hb dX7_turnsByKind_0 rfl (lv_at hl 0 rfl) ?_
  refine gX7_9 hx hb hG hown hK hP gw_4_14 dX7_turnsByKind_1 ?_
  refine lv_iload_n hx hb dX7_turnsByKind_4 rfl (lv_at hl 1 rfl) ?_
  refine al_M2 hx hb hK hP (vin_I (by omega) (by omega)) dX7_turnsByKind_5 ?_
  by_cases hw_1 : M 2 a1.toNatClampNeg = 0
  · have he := ite_t he hw_1
    refine lv_tableIn (tgt := 48) hx hb dX7_turnsByKind_6 (by rw [hw_1]; decide) (by rw [hw_1]; decide) (by rw [hw_1]; rfl) (by decide) ?_
    refine lv_aload_n hx hb dX7_turnsByKind_48 rfl (lv_at hl 0 rfl) ?_
    refine lv_iload_n hx hb dX7_turnsByKind_49 rfl (lv_at hl 1 rfl) ?_
    refine call_i [.int a1] [] hx hb hml hG hown hK (c_X7_isTurnTime had M a1 hT0.1 (by have q0 : (M 2 a1.toNatClampNeg).toInt = 0 := congrArg Int32.toInt hw_1; omega)) gw_24_1 gm_X7_isTurnTime gd_X7_isTurnTime rfl rfl ⟨Nat.le_of_ble_eq_true rfl, Nat.le_of_ble_eq_true rfl⟩ ⟨Nat.le_refl _, Nat.le_refl _⟩ (rX7 hK hP) hP (fun _ h => h) hS rfl hl.1 rfl (Nat.le_of_ble_eq_true rfl) dX7_turnsByKind_50 (fun r_2 u_4 H locs hF_3 hP hS => ?_)
    obtain ⟨hz_5, hF_3, hu⟩ := hF_3; rw [hu] at hP; subst hF_3
    exact hret _ _ _ _ _ _ ⟨hz_5, (hV.trans he.symm), rfl⟩ (nz01 hz_5) hP hS dX7_turnsByKind_53
  · have he := ite_f he hw_1
    by_cases hw_6 : M 2 a1.toNatClampNeg = 1
    · have he := ite_t he hw_6
      refine lv_tableIn (tgt := 54) hx hb dX7_turnsByKind_6 (by rw [hw_6]; decide) (by rw [hw_6]; decide) (by rw [hw_6]; rfl) (by decide) ?_
      refine lv_aload_n hx hb dX7_turnsByKind_54 rfl (lv_at hl 0 rfl) ?_
      refine lv_iload_n hx hb dX7_turnsByKind_55 rfl (lv_at hl 1 rfl) ?_
      refine call_i [.int a1] [] hx hb hml hG hown hK (c_X7_isHeaded had M a1 hT0.1 (by have q0 : (M 2 a1.toNatClampNeg).toInt = 1 := congrArg Int32.toInt hw_6; omega)) gw_24_5 gm_X7_isHeaded gd_X7_isHeaded rfl rfl ⟨Nat.le_of_ble_eq_true rfl, Nat.le_of_ble_eq_true rfl⟩ ⟨Nat.le_refl _, Nat.le_refl _⟩ (rX7 hK hP) hP (fun _ h => h) hS rfl hl.1 rfl (Nat.le_of_ble_eq_true rfl) dX7_turnsByKind_56 (fun r_7 u_9 H locs hF_8 hP hS => ?_)
      obtain ⟨hz_10, hF_8, hu⟩ := hF_8; rw [hu] at hP; subst hF_8
      exact hret _ _ _ _ _ _ ⟨hz_10, (hV.trans he.symm), rfl⟩ (nz01 hz_10) hP hS dX7_turnsByKind_59
    · have he := ite_f he hw_6
      by_cases hw_11 : M 2 a1.toNatClampNeg = 2
      · have he := ite_t he hw_11
        refine lv_tableIn (tgt := 60) hx hb dX7_turnsByKind_6 (by rw [hw_11]; decide) (by rw [hw_11]; decide) (by rw [hw_11]; rfl) (by decide) ?_
        refine lv_aload_n hx hb dX7_turnsByKind_60 rfl (lv_at hl 0 rfl) ?_
        refine lv_iload_n hx hb dX7_turnsByKind_61 rfl (lv_at hl 1 rfl) ?_
        refine call_i [.int a1] [] hx hb hml hG hown hK (c_X7_isBad had M a1 hT0.1 (by have q0 : (M 2 a1.toNatClampNeg).toInt = 2 := congrArg Int32.toInt hw_11; omega)) gw_17_17 gm_X7_isBad gd_X7_isBad rfl rfl ⟨Nat.le_of_ble_eq_true rfl, Nat.le_of_ble_eq_true rfl⟩ ⟨Nat.le_refl _, Nat.le_refl _⟩ (rX7 hK hP) hP (fun _ h => h) hS rfl hl.1 rfl (Nat.le_of_ble_eq_true rfl) dX7_turnsByKind_62 (fun r_12 u_14 H locs hF_13 hP hS => ?_)
        obtain ⟨hz_15, hF_13, hu⟩ := hF_13; rw [hu] at hP; subst hF_13
        exact hret _ _ _ _ _ _ ⟨hz_15, (hV.trans he.symm), rfl⟩ (nz01 hz_15) hP hS dX7_turnsByKind_65
      · have he := ite_f he hw_11
        by_cases hw_16 : M 2 a1.toNatClampNeg = 3
        · have he := ite_t he hw_16
          refine lv_tableIn (tgt := 66) hx hb dX7_turnsByKind_6 (by rw [hw_16]; decide) (by rw [hw_16]; decide) (by rw [hw_16]; rfl) (by decide) ?_
          refine lv_aload_n hx hb dX7_turnsByKind_66 rfl (lv_at hl 0 rfl) ?_
          refine lv_iload_n hx hb dX7_turnsByKind_67 rfl (lv_at hl 1 rfl) ?_
          refine call_i [.int a1] [] hx hb hml hG hown hK (c_X7_isBad had M a1 hT0.1 (by have q0 : (M 2 a1.toNatClampNeg).toInt = 3 := congrArg Int32.toInt hw_16; omega)) gw_17_17 gm_X7_isBad gd_X7_isBad rfl rfl ⟨Nat.le_of_ble_eq_true rfl, Nat.le_of_ble_eq_true rfl⟩ ⟨Nat.le_refl _, Nat.le_refl _⟩ (rX7 hK hP) hP (fun _ h => h) hS rfl hl.1 rfl (Nat.le_of_ble_eq_true rfl) dX7_turnsByKind_68 (fun r_17 u_19 H locs hF_18 hP hS => ?_)
          obtain ⟨hz_20, hF_18, hu⟩ := hF_18; rw [hu] at hP; subst hF_18
          obtain ⟨t_28, hr_22, he⟩ := bnd_ex he
          have j87 : ∀ (H : Heap) (locs : List Loc) (ls : Array Slot), (t_28 = 0 ∨ t_28 = 1) → va_P D vwCl (wld 31 ad (cM ad k M)) H → va_S (AW 31 ad) s.heap H locs → lv_has ls 2 [] → W p l e rm_X7_turnsByKind s m args below meth c H locs 0 0 Q (F0 m 87 ls [.int t_28]) := by
            intro H locs ls zt_28 hP hS hl
            exact hret _ _ _ _ _ _ ⟨zt_28, (hV.trans he.symm), rfl⟩ (nz01 zt_28) hP hS dX7_turnsByKind_87
          refine lv_if_ne (tgt := 82) hx hb dX7_turnsByKind_71 (by decide) (fun hc_21 => ?_) (fun hc_21 => ?_)
          · have hr_22 := ite_t hr_22 hc_21
            refine lv_iconst (v := 1) hx hb dX7_turnsByKind_82 (by decide) ?_
            refine lv_goto (tgt := 87) hx hb dX7_turnsByKind_83 (by decide) ?_
            cases hr_22
            exact j87 _ _ _ (Or.inr rfl) hP hS (lv_sub hl [] rfl)
          · have hr_22 := ite_f hr_22 (fun q => q hc_21)
            refine lv_aload_n hx hb dX7_turnsByKind_74 rfl (lv_at hl 0 rfl) ?_
            refine lv_iload_n hx hb dX7_turnsByKind_75 rfl (lv_at hl 1 rfl) ?_
            refine call_i [.int a1] [] hx hb hml hG hown hK (c_X7_isCovering had M a1 hT0.1 (by have q0 : (M 2 a1.toNatClampNeg).toInt = 3 := congrArg Int32.toInt hw_16; have q1 : (f_X7_isBad M a1).toInt = 0 := congrArg Int32.toInt hc_21; omega) (by have q0 : (M 2 a1.toNatClampNeg).toInt = 3 := congrArg Int32.toInt hw_16; have q1 : (f_X7_isBad M a1).toInt = 0 := congrArg Int32.toInt hc_21; omega)) gw_24_9 gm_X7_isCovering gd_X7_isCovering rfl rfl ⟨Nat.le_of_ble_eq_true rfl, Nat.le_of_ble_eq_true rfl⟩ ⟨Nat.le_refl _, Nat.le_refl _⟩ (rX7 hK hP) hP (fun _ h => h) hS rfl hl.1 rfl (Nat.le_of_ble_eq_true rfl) dX7_turnsByKind_76 (fun r_23 u_25 H locs hF_24 hP hS => ?_)
            obtain ⟨hz_26, hF_24, hu⟩ := hF_24; rw [hu] at hP; subst hF_24
            refine lv_if_eq (tgt := 86) hx hb dX7_turnsByKind_79 (by decide) (fun hc_27 => ?_) (fun hc_27 => ?_)
            · have hr_22 := ite_t hr_22 hc_27
              refine lv_iconst (v := 0) hx hb dX7_turnsByKind_86 (by decide) ?_
              cases hr_22
              exact j87 _ _ _ (Or.inl rfl) hP hS (lv_sub hl [] rfl)
            · have hr_22 := ite_f hr_22 hc_27
              refine lv_iconst (v := 1) hx hb dX7_turnsByKind_82 (by decide) ?_
              refine lv_goto (tgt := 87) hx hb dX7_turnsByKind_83 (by decide) ?_
              cases hr_22
              exact j87 _ _ _ (Or.inr rfl) hP hS (lv_sub hl [] rfl)
        · have he := ite_f he hw_16
          by_cases hw_29 : M 2 a1.toNatClampNeg = 4
          · have he := ite_t he hw_29
            refine lv_tableIn (tgt := 88) hx hb dX7_turnsByKind_6 (by rw [hw_29]; decide) (by rw [hw_29]; decide) (by rw [hw_29]; rfl) (by decide) ?_
            refine lv_aload_n hx hb dX7_turnsByKind_88 rfl (lv_at hl 0 rfl) ?_
            refine lv_iload_n hx hb dX7_turnsByKind_89 rfl (lv_at hl 1 rfl) ?_
            refine call_i [.int a1] [] hx hb hml hG hown hK (c_X7_isTurnTime had M a1 hT0.1 (by have q0 : (M 2 a1.toNatClampNeg).toInt = 4 := congrArg Int32.toInt hw_29; omega)) gw_24_1 gm_X7_isTurnTime gd_X7_isTurnTime rfl rfl ⟨Nat.le_of_ble_eq_true rfl, Nat.le_of_ble_eq_true rfl⟩ ⟨Nat.le_refl _, Nat.le_refl _⟩ (rX7 hK hP) hP (fun _ h => h) hS rfl hl.1 rfl (Nat.le_of_ble_eq_true rfl) dX7_turnsByKind_90 (fun r_30 u_32 H locs hF_31 hP hS => ?_)
            obtain ⟨hz_33, hF_31, hu⟩ := hF_31; rw [hu] at hP; subst hF_31
            obtain ⟨t_37, hr_35, he⟩ := bnd_ex he
            have j120 : ∀ (H : Heap) (locs : List Loc) (ls : Array Slot), (t_37 = 0 ∨ t_37 = 1) → va_P D vwCl (wld 31 ad (cM ad k M)) H → va_S (AW 31 ad) s.heap H locs → lv_has ls 2 [] → W p l e rm_X7_turnsByKind s m args below meth c H locs 0 0 Q (F0 m 120 ls [.int t_37]) := by
              intro H locs ls zt_37 hP hS hl
              exact hret _ _ _ _ _ _ ⟨zt_37, (hV.trans he.symm), rfl⟩ (nz01 zt_37) hP hS dX7_turnsByKind_120
            refine lv_if_eq (tgt := 119) hx hb dX7_turnsByKind_93 (by decide) (fun hc_34 => ?_) (fun hc_34 => ?_)
            · have hr_35 := ite_t hr_35 hc_34
              refine lv_iconst (v := 0) hx hb dX7_turnsByKind_119 (by decide) ?_
              cases hr_35
              exact j120 _ _ _ (Or.inl rfl) hP hS (lv_sub hl [] rfl)
            · have hr_35 := ite_f hr_35 hc_34
              refine lv_aload_n hx hb dX7_turnsByKind_96 rfl (lv_at hl 0 rfl) ?_
              refine gX7_7 hx hb hG hown hK hP gw_15_12 dX7_turnsByKind_97 ?_
              refine lv_iconst (v := 5) hx hb dX7_turnsByKind_100 (by decide) ?_
              refine lv_aload_n hx hb dX7_turnsByKind_101 rfl (lv_at hl 0 rfl) ?_
              refine gX7_12 hx hb hG hown hK hP gw_4_17 dX7_turnsByKind_102 ?_
              refine lv_iload_n hx hb dX7_turnsByKind_105 rfl (lv_at hl 1 rfl) ?_
              refine al_M5 hx hb hK hP (vin_I (by have q0 : (M 2 a1.toNatClampNeg).toInt = 4 := congrArg Int32.toInt hw_29; have q1 : (f_X7_isTurnTime M a1).toInt ≠ 0 := ne_I hc_34; omega) (by have q0 : (M 2 a1.toNatClampNeg).toInt = 4 := congrArg Int32.toInt hw_29; have q1 : (f_X7_isTurnTime M a1).toInt ≠ 0 := ne_I hc_34; omega)) dX7_turnsByKind_106 ?_
              refine lv_imul hx hb dX7_turnsByKind_107 ?_
              refine lv_idiv hx hb dX7_turnsByKind_108 (ttime_nz hc_34) ?_
              refine lv_iconst (v := 2) hx hb dX7_turnsByKind_109 (by decide) ?_
              refine lv_irem hx hb dX7_turnsByKind_110 (by decide) ?_
              refine lv_iconst (v := 1) hx hb dX7_turnsByKind_111 (by decide) ?_
              refine lv_icmp_ne (tgt := 119) hx hb dX7_turnsByKind_112 (by decide) (fun hc_36 => ?_) (fun hc_36 => ?_)
              · have hr_35 := ite_t hr_35 hc_36
                refine lv_iconst (v := 0) hx hb dX7_turnsByKind_119 (by decide) ?_
                cases hr_35
                exact j120 _ _ _ (Or.inl rfl) hP hS (lv_sub hl [] rfl)
              · have hr_35 := ite_f hr_35 (fun q => q hc_36)
                refine lv_iconst (v := 1) hx hb dX7_turnsByKind_115 (by decide) ?_
                refine lv_goto (tgt := 120) hx hb dX7_turnsByKind_116 (by decide) ?_
                cases hr_35
                exact j120 _ _ _ (Or.inr rfl) hP hS (lv_sub hl [] rfl)
          · have he := ite_f he hw_29
            by_cases hw_38 : M 2 a1.toNatClampNeg = 5
            · have he := ite_t he hw_38
              refine lv_tableIn (tgt := 121) hx hb dX7_turnsByKind_6 (by rw [hw_38]; decide) (by rw [hw_38]; decide) (by rw [hw_38]; rfl) (by decide) ?_
              refine lv_aload_n hx hb dX7_turnsByKind_121 rfl (lv_at hl 0 rfl) ?_
              refine lv_iload_n hx hb dX7_turnsByKind_122 rfl (lv_at hl 1 rfl) ?_
              refine call_i [.int a1] [] hx hb hml hG hown hK (c_X7_isSide had M a1 hT0.1 (by have q0 : (M 2 a1.toNatClampNeg).toInt = 5 := congrArg Int32.toInt hw_38; omega)) gw_24_13 gm_X7_isSide gd_X7_isSide rfl rfl ⟨Nat.le_of_ble_eq_true rfl, Nat.le_of_ble_eq_true rfl⟩ ⟨Nat.le_refl _, Nat.le_refl _⟩ (rX7 hK hP) hP (fun _ h => h) hS rfl hl.1 rfl (Nat.le_of_ble_eq_true rfl) dX7_turnsByKind_123 (fun r_39 u_41 H locs hF_40 hP hS => ?_)
              obtain ⟨hz_42, hF_40, hu⟩ := hF_40; rw [hu] at hP; subst hF_40
              exact hret _ _ _ _ _ _ ⟨hz_42, (hV.trans he.symm), rfl⟩ (nz01 hz_42) hP hS dX7_turnsByKind_126
            · have he := ite_f he hw_38
              by_cases hw_43 : M 2 a1.toNatClampNeg = 6
              · have he := ite_t he hw_43
                refine lv_tableIn (tgt := 127) hx hb dX7_turnsByKind_6 (by rw [hw_43]; decide) (by rw [hw_43]; decide) (by rw [hw_43]; rfl) (by decide) ?_
                refine lv_aload_n hx hb dX7_turnsByKind_127 rfl (lv_at hl 0 rfl) ?_
                refine lv_iload_n hx hb dX7_turnsByKind_128 rfl (lv_at hl 1 rfl) ?_
                refine call_i [.int a1] [] hx hb hml hG hown hK (c_X7_isSide had M a1 hT0.1 (by have q0 : (M 2 a1.toNatClampNeg).toInt = 6 := congrArg Int32.toInt hw_43; omega)) gw_24_13 gm_X7_isSide gd_X7_isSide rfl rfl ⟨Nat.le_of_ble_eq_true rfl, Nat.le_of_ble_eq_true rfl⟩ ⟨Nat.le_refl _, Nat.le_refl _⟩ (rX7 hK hP) hP (fun _ h => h) hS rfl hl.1 rfl (Nat.le_of_ble_eq_true rfl) dX7_turnsByKind_129 (fun r_44 u_46 H locs hF_45 hP hS => ?_)
                obtain ⟨hz_47, hF_45, hu⟩ := hF_45; rw [hu] at hP; subst hF_45
                obtain ⟨t_55, hr_49, he⟩ := bnd_ex he
                have j148 : ∀ (H : Heap) (locs : List Loc) (ls : Array Slot), (t_55 = 0 ∨ t_55 = 1) → va_P D vwCl (wld 31 ad (cM ad k M)) H → va_S (AW 31 ad) s.heap H locs → lv_has ls 2 [] → W p l e rm_X7_turnsByKind s m args below meth c H locs 0 0 Q (F0 m 148 ls [.int t_55]) := by
                  intro H locs ls zt_55 hP hS hl
                  exact hret _ _ _ _ _ _ ⟨zt_55, (hV.trans he.symm), rfl⟩ (nz01 zt_55) hP hS dX7_turnsByKind_148
                refine lv_if_ne (tgt := 143) hx hb dX7_turnsByKind_132 (by decide) (fun hc_48 => ?_) (fun hc_48 => ?_)
                · have hr_49 := ite_t hr_49 hc_48
                  refine lv_iconst (v := 1) hx hb dX7_turnsByKind_143 (by decide) ?_
                  refine lv_goto (tgt := 148) hx hb dX7_turnsByKind_144 (by decide) ?_
                  cases hr_49
                  exact j148 _ _ _ (Or.inr rfl) hP hS (lv_sub hl [] rfl)
                · have hr_49 := ite_f hr_49 (fun q => q hc_48)
                  refine lv_aload_n hx hb dX7_turnsByKind_135 rfl (lv_at hl 0 rfl) ?_
                  refine lv_iload_n hx hb dX7_turnsByKind_136 rfl (lv_at hl 1 rfl) ?_
                  refine call_i [.int a1] [] hx hb hml hG hown hK (c_X7_isLast had M a1 hT0.1 (by have q0 : (M 2 a1.toNatClampNeg).toInt = 6 := congrArg Int32.toInt hw_43; have q1 : (f_X7_isSide M a1).toInt = 0 := congrArg Int32.toInt hc_48; omega)) gw_24_17 gm_X7_isLast gd_X7_isLast rfl rfl ⟨Nat.le_of_ble_eq_true rfl, Nat.le_of_ble_eq_true rfl⟩ ⟨Nat.le_refl _, Nat.le_refl _⟩ (rX7 hK hP) hP (fun _ h => h) hS rfl hl.1 rfl (Nat.le_of_ble_eq_true rfl) dX7_turnsByKind_137 (fun r_50 u_52 H locs hF_51 hP hS => ?_)
                  obtain ⟨hz_53, hF_51, hu⟩ := hF_51; rw [hu] at hP; subst hF_51
                  refine lv_if_eq (tgt := 147) hx hb dX7_turnsByKind_140 (by decide) (fun hc_54 => ?_) (fun hc_54 => ?_)
                  · have hr_49 := ite_t hr_49 hc_54
                    refine lv_iconst (v := 0) hx hb dX7_turnsByKind_147 (by decide) ?_
                    cases hr_49
                    exact j148 _ _ _ (Or.inl rfl) hP hS (lv_sub hl [] rfl)
                  · have hr_49 := ite_f hr_49 hc_54
                    refine lv_iconst (v := 1) hx hb dX7_turnsByKind_143 (by decide) ?_
                    refine lv_goto (tgt := 148) hx hb dX7_turnsByKind_144 (by decide) ?_
                    cases hr_49
                    exact j148 _ _ _ (Or.inr rfl) hP hS (lv_sub hl [] rfl)
              · have he := ite_f he hw_43
                refine lv_tableOut (tgt := 149) hx hb dX7_turnsByKind_6 (by have q0 : (M 2 a1.toNatClampNeg).toInt ≠ 0 := ne_I hw_1; have q1 : (M 2 a1.toNatClampNeg).toInt ≠ 1 := ne_I hw_6; have q2 : (M 2 a1.toNatClampNeg).toInt ≠ 2 := ne_I hw_11; have q3 : (M 2 a1.toNatClampNeg).toInt ≠ 3 := ne_I hw_16; have q4 : (M 2 a1.toNatClampNeg).toInt ≠ 4 := ne_I hw_29; have q5 : (M 2 a1.toNatClampNeg).toInt ≠ 5 := ne_I hw_38; have q6 : (M 2 a1.toNatClampNeg).toInt ≠ 6 := ne_I hw_43; omega) (by decide) ?_
                refine lv_aload_n hx hb dX7_turnsByKind_149 rfl (lv_at hl 0 rfl) ?_
                refine lv_iload_n hx hb dX7_turnsByKind_150 rfl (lv_at hl 1 rfl) ?_
                refine call_i [.int a1] [] hx hb hml hG hown hK (c_X7_isHeaded had M a1 hT0.1 (by have q0 : (M 2 a1.toNatClampNeg).toInt ≠ 0 := ne_I hw_1; have q1 : (M 2 a1.toNatClampNeg).toInt ≠ 1 := ne_I hw_6; have q2 : (M 2 a1.toNatClampNeg).toInt ≠ 2 := ne_I hw_11; have q3 : (M 2 a1.toNatClampNeg).toInt ≠ 3 := ne_I hw_16; have q4 : (M 2 a1.toNatClampNeg).toInt ≠ 4 := ne_I hw_29; have q5 : (M 2 a1.toNatClampNeg).toInt ≠ 5 := ne_I hw_38; have q6 : (M 2 a1.toNatClampNeg).toInt ≠ 6 := ne_I hw_43; omega)) gw_24_5 gm_X7_isHeaded gd_X7_isHeaded rfl rfl ⟨Nat.le_of_ble_eq_true rfl, Nat.le_of_ble_eq_true rfl⟩ ⟨Nat.le_refl _, Nat.le_refl _⟩ (rX7 hK hP) hP (fun _ h => h) hS rfl hl.1 rfl (Nat.le_of_ble_eq_true rfl) dX7_turnsByKind_151 (fun r_56 u_58 H locs hF_57 hP hS => ?_)
                obtain ⟨hz_59, hF_57, hu⟩ := hF_57; rw [hu] at hP; subst hF_57
                obtain ⟨t_64, hr_61, he⟩ := bnd_ex he
                have j180 : ∀ (H : Heap) (locs : List Loc) (ls : Array Slot), (t_64 = 0 ∨ t_64 = 1) → va_P D vwCl (wld 31 ad (cM ad k M)) H → va_S (AW 31 ad) s.heap H locs → lv_has ls 2 [] → W p l e rm_X7_turnsByKind s m args below meth c H locs 0 0 Q (F0 m 180 ls [.int t_64]) := by
                  intro H locs ls zt_64 hP hS hl
                  exact hret _ _ _ _ _ _ ⟨zt_64, (hV.trans he.symm), rfl⟩ (nz01 zt_64) hP hS dX7_turnsByKind_180
                refine lv_if_eq (tgt := 179) hx hb dX7_turnsByKind_154 (by decide) (fun hc_60 => ?_) (fun hc_60 => ?_)
                · have hr_61 := ite_t hr_61 hc_60
                  refine lv_iconst (v := 0) hx hb dX7_turnsByKind_179 (by decide) ?_
                  cases hr_61
                  exact j180 _ _ _ (Or.inl rfl) hP hS (lv_sub hl [] rfl)
                · have hr_61 := ite_f hr_61 hc_60
                  refine lv_aload_n hx hb dX7_turnsByKind_157 rfl (lv_at hl 0 rfl) ?_
                  refine gX7_3 hx hb hG hown hK hP gw_4_12 dX7_turnsByKind_158 ?_
                  refine lv_iconst (v := 2) hx hb dX7_turnsByKind_161 (by decide) ?_
                  refine lv_icmp_le (tgt := 175) hx hb dX7_turnsByKind_162 (by decide) (fun hc_62 => ?_) (fun hc_62 => ?_)
                  · have hr_61 := ite_t hr_61 hc_62
                    refine lv_iconst (v := 1) hx hb dX7_turnsByKind_175 (by decide) ?_
                    refine lv_goto (tgt := 180) hx hb dX7_turnsByKind_176 (by decide) ?_
                    cases hr_61
                    exact j180 _ _ _ (Or.inr rfl) hP hS (lv_sub hl [] rfl)
                  · have hr_61 := ite_f hr_61 hc_62
                    refine lv_aload_n hx hb dX7_turnsByKind_165 rfl (lv_at hl 0 rfl) ?_
                    refine gX7_7 hx hb hG hown hK hP gw_15_12 dX7_turnsByKind_166 ?_
                    refine lv_bipush (v := 10) hx hb dX7_turnsByKind_169 (by decide) ?_
                    refine lv_irem hx hb dX7_turnsByKind_171 (by decide) ?_
                    refine lv_if_ne (tgt := 179) hx hb dX7_turnsByKind_172 (by decide) (fun hc_63 => ?_) (fun hc_63 => ?_)
                    · have hr_61 := ite_t hr_61 hc_63
                      refine lv_iconst (v := 0) hx hb dX7_turnsByKind_179 (by decide) ?_
                      cases hr_61
                      exact j180 _ _ _ (Or.inl rfl) hP hS (lv_sub hl [] rfl)
                    · have hr_61 := ite_f hr_61 (fun q => q hc_63)
                      refine lv_iconst (v := 1) hx hb dX7_turnsByKind_175 (by decide) ?_
                      refine lv_goto (tgt := 180) hx hb dX7_turnsByKind_176 (by decide) ?_
                      cases hr_61
                      exact j180 _ _ _ (Or.inr rfl) hP hS (lv_sub hl [] rfl)
