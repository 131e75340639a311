-- @needs 12_dec 13_dec 14_dec 15_dec 34_hM 60_cM 63_cM 67_cM 69_cM 71_cM
def rm_X7_isGame : Room := { frames := 2, cells := 0, slots := 0, locals := 45 }
theorem gm_X7_isGame : Cond.static yX7_isGame ∈ wsL_law ∧ Cond.initialized yX7_isGame.cls ∈ wsL_law ∧ Cond.code yX7_isGame cX7_isGame 3 (some .boolean) ∈ wsL_law := ⟨gw_33_23, gw_1_5, gw_34_0⟩
theorem gd_X7_isGame : yX7_isGame.cls ≠ "java/lang/invoke/MethodHandle" ∧ yX7_isGame.cls ≠ "java/lang/invoke/VarHandle" ∧ (parseMethodDescriptor yX7_isGame.desc).map (fun d => d.parameters.length) = some 3 := by decide +kernel
set_option maxRecDepth 100000 in
set_option maxHeartbeats 0 in
theorem c_X7_isGame {l : Launch} {D : va_G} {k : Nat → ClassId} {ad : Nat → Nat} (had : InjN 31 ad) {M : Mem} (a1 : Int32) (a2 : Int32) (a3 : Int32) : Met l yX7_isGame (Cond.code yX7_isGame cX7_isGame 3 (some .boolean) :: wsL_law) rm_X7_isGame (va_Pc [.int a1, .int a2, .int a3] (GW 31 ad D k (cM ad k M))) (va_Qi (fun r u => (r = 0 ∨ r = 1) ∧ f_X7_isGame a1 a2 a3 = r ∧ u = M) (fun u t => GW 31 ad D k (cM ad k u) t) (AW 31 ad)) 0 0 (AW 31 ad) := by
  refine met_z (g := cM ad k) (M := M) (plainFor_of_name (by decide)) (Nat.le_of_ble_eq_true rfl) ?_
  intro p e s m args below meth c Q ls hx hb hml hG hown hK hret hP hS hl
  have hl : lv_has ls 3 [(0, .int a1), (1, .int a2), (2, .int a3)] := hl
  obtain ⟨V, hV⟩ : ∃ V, f_X7_isGame a1 a2 a3 = V := ⟨_, rfl⟩
  have he := hV
  unfold f_X7_isGame at he
  refine lv_iload_n hx hb dX7_isGame_0 rfl (lv_at hl 0 rfl) ?_
  refine callS_i [.int a1] [] hx hb hml hG hown hK (c_X7_isPlace had (M := M)  a1) gw_15_23 gm_X7_isPlace gd_X7_isPlace rfl rfl ⟨Nat.le_of_ble_eq_true rfl, Nat.le_of_ble_eq_true rfl⟩ ⟨Nat.le_refl _, Nat.le_refl _⟩ hP (fun _ h => h) hS rfl hl.1 rfl (Nat.le_of_ble_eq_true rfl) dX7_isGame_1 (fun r_1 u_3 H locs hF_2 hP hS => ?_)
  obtain ⟨hz_4, hF_2, hu⟩ := hF_2; rw [hu] at hP; subst hF_2
  obtain ⟨t_17, hr_6, he⟩ := bnd_ex he
  have j31 : ∀ (H : Heap) (locs : List Loc) (ls : Array Slot), (t_17 = 0 ∨ t_17 = 1) → va_P D vwCl (wld 31 ad (cM ad k M)) H → va_S (AW 31 ad) s.heap H locs → lv_has ls 3 [] → W p l e rm_X7_isGame s m args below meth c H locs 0 0 Q (F0 m 31 ls [.int t_17]) := by
    intro H locs ls zt_17 hP hS hl
    exact hret _ _ _ _ _ _ ⟨zt_17, (hV.trans he.symm), rfl⟩ (nz01 zt_17) hP hS dX7_isGame_31
  refine lv_if_eq (tgt := 30) hx hb dX7_isGame_4 (by decide) (fun hc_5 => ?_) (fun hc_5 => ?_)
  · have hr_6 := ite_t hr_6 hc_5
    refine lv_iconst (v := 0) hx hb dX7_isGame_30 (by decide) ?_
    cases hr_6
    exact j31 _ _ _ (Or.inl rfl) hP hS (lv_sub hl [] rfl)
  · have hr_6 := ite_f hr_6 hc_5
    refine lv_iload_n hx hb dX7_isGame_7 rfl (lv_at hl 1 rfl) ?_
    refine callS_i [.int a2] [] hx hb hml hG hown hK (c_X7_isPlace had (M := M)  a2) gw_15_23 gm_X7_isPlace gd_X7_isPlace rfl rfl ⟨Nat.le_of_ble_eq_true rfl, Nat.le_of_ble_eq_true rfl⟩ ⟨Nat.le_refl _, Nat.le_refl _⟩ hP (fun _ h => h) hS rfl hl.1 rfl (Nat.le_of_ble_eq_true rfl) dX7_isGame_8 (fun r_7 u_9 H locs hF_8 hP hS => ?_)
    obtain ⟨hz_10, hF_8, hu⟩ := hF_8; rw [hu] at hP; subst hF_8
    refine lv_if_eq (tgt := 30) hx hb dX7_isGame_11 (by decide) (fun hc_11 => ?_) (fun hc_11 => ?_)
    · have hr_6 := ite_t hr_6 hc_11
      refine lv_iconst (v := 0) hx hb dX7_isGame_30 (by decide) ?_
      cases hr_6
      exact j31 _ _ _ (Or.inl rfl) hP hS (lv_sub hl [] rfl)
    · have hr_6 := ite_f hr_6 hc_11
      refine lv_iload_n hx hb dX7_isGame_14 rfl (lv_at hl 2 rfl) ?_
      refine lv_i2l (v := a3.toInt64) hx hb dX7_isGame_15 rfl ?_
      refine lv_lconst (v := 0) hx hb dX7_isGame_16 (by decide) ?_
      refine lv_ldc2 (v := 3) hx hb hown (hG _ gw_34_1) dX7_isGame_17 ?_
      refine callS_i [.long a3.toInt64, .long 0, .long 3] [] hx hb hml hG hown hK (c_X7_in had (M := M)  a3.toInt64 0 3) gw_7_0 gm_X7_in gd_X7_in rfl rfl ⟨Nat.le_of_ble_eq_true rfl, Nat.le_of_ble_eq_true rfl⟩ ⟨Nat.le_refl _, Nat.le_refl _⟩ hP (fun _ h => h) hS rfl hl.1 rfl (Nat.le_of_ble_eq_true rfl) dX7_isGame_20 (fun r_12 u_14 H locs hF_13 hP hS => ?_)
      obtain ⟨hz_15, hF_13, hu⟩ := hF_13; rw [hu] at hP; subst hF_13
      refine lv_if_eq (tgt := 30) hx hb dX7_isGame_23 (by decide) (fun hc_16 => ?_) (fun hc_16 => ?_)
      · have hr_6 := ite_t hr_6 hc_16
        refine lv_iconst (v := 0) hx hb dX7_isGame_30 (by decide) ?_
        cases hr_6
        exact j31 _ _ _ (Or.inl rfl) hP hS (lv_sub hl [] rfl)
      · have hr_6 := ite_f hr_6 hc_16
        refine lv_iconst (v := 1) hx hb dX7_isGame_26 (by decide) ?_
        refine lv_goto (tgt := 31) hx hb dX7_isGame_27 (by decide) ?_
        cases hr_6
        exact j31 _ _ _ (Or.inr rfl) hP hS (lv_sub hl [] rfl)
def rm_X7_lead : Room := { frames := 6, cells := 0, slots := 0, locals := 134 }
theorem gm_X7_lead : Cond.instanceMethod yX7_lead ∈ wsL_law ∧ Cond.selects RX7 yX7_lead yX7_lead ∈ wsL_law ∧ Cond.initialized RX7 ∈ wsL_law ∧ Cond.code yX7_lead cX7_lead 7 (some .int) ∈ wsL_law := ⟨gw_33_18, gw_33_19, gw_1_5, gw_33_20⟩
theorem gd_X7_lead : yX7_lead.cls = RX7 ∧ yX7_lead.cls ≠ "java/lang/invoke/MethodHandle" ∧ yX7_lead.cls ≠ "java/lang/invoke/VarHandle" ∧ (parseMethodDescriptor yX7_lead.desc).map (fun d => d.parameters.length) = some 5 := by decide +kernel
set_option maxRecDepth 100000 in
set_option maxHeartbeats 0 in
theorem c_X7_lead {l : Launch} {D : va_G} {k : Nat → ClassId} {ad : Nat → Nat} (had : InjN 31 ad) (M : Mem) (a1 : Int32) (a2 : Int32) (a3 : Int32) (a4 : Int32) (a5 : Int32) (hI : MI M) : Met l yX7_lead (Cond.code yX7_lead cX7_lead 7 (some .int) :: wsL_law) rm_X7_lead (va_Pc [.ref (ad 0), .int a1, .int a2, .int a3, .int a4, .int a5] (GW 31 ad D k (cM ad k M))) (va_Qi (fun r u => (f_X7_lead M a1 a2 a3 a4 a5 = (r, u) ∧ TI M u)) (fun u t => GW 31 ad D k (cM ad k u) t) (AW 31 ad)) 0 0 (AW 31 ad) := by
  refine met_i (g := cM ad k) (M := M) (plainFor_of_name (by decide)) (Nat.le_of_ble_eq_true rfl) ?_
  intro p e s m args below meth c Q ls hx hb hml hG hown hK hret hP hS hl
  have hl : lv_has ls 7 [(0, .ref (ad 0)), (1, .int a1), (2, .int a2), (3, .int a3), (4, .int a4), (5, .int a5)] := hl
  obtain ⟨V, hV⟩ : ∃ V, f_X7_lead M a1 a2 a3 a4 a5 = V := ⟨_, rfl⟩
  have he := hV
  unfold f_X7_lead at he
  have hT0 : TI M M := TI_rf hI
  have qb_M := hI.1
  have qs_M := hI.2.1
  have qz_M := hI.2.2.1
  refine lv_aload_n hx hb dX7_lead_0 rfl (lv_at hl 0 rfl) ?_
  refine lv_iconst (v := 0) hx hb dX7_lead_1 (by decide) ?_
  refine pX7_19 hx hb hG hown hK hP had AW_in hS gw_5_17 dX7_lead_2 (fun H locs hP hS => ?_)
  obtain ⟨M_1, eM_1⟩ : ∃ y : Mem, y = up2 M 0 19 0 := ⟨_, rfl⟩
  rw [← eM_1] at hP
  have he := bnd_at he eM_1
  have hTM_1 : TI M M_1 := by rw [eM_1]; exact TI_f hT0 (by decide)
  have qb_M_1 := hTM_1.1.1
  have qs_M_1 := hTM_1.1.2.1
  have qz_M_1 := hTM_1.1.2.2.1
  refine lv_iload_n hx hb dX7_lead_5 rfl (lv_at hl 1 rfl) ?_
  refine lv_iload_n hx hb dX7_lead_6 rfl (lv_at hl 2 rfl) ?_
  refine lv_iload_n hx hb dX7_lead_7 rfl (lv_at hl 3 rfl) ?_
  refine callS_i [.int a1, .int a2, .int a3] [] hx hb hml hG hown hK (c_X7_isGame had (M := M_1)  a1 a2 a3) gw_33_22 gm_X7_isGame gd_X7_isGame rfl rfl ⟨Nat.le_of_ble_eq_true rfl, Nat.le_of_ble_eq_true rfl⟩ ⟨Nat.le_refl _, Nat.le_refl _⟩ hP (fun _ h => h) hS rfl hl.1 rfl (Nat.le_of_ble_eq_true rfl) dX7_lead_8 (fun r_2 u_4 H locs hF_3 hP hS => ?_)
  obtain ⟨hz_5, hF_3, hu⟩ := hF_3; rw [hu] at hP; subst hF_3
  refine lv_if_eq (tgt := 40) hx hb dX7_lead_11 (by decide) (fun hc_6 => ?_) (fun hc_6 => ?_)
  · have he := ite_t he hc_6
    refine lv_ldcw (v := (-1000000001)) hx hb hown (hG _ gw_13_2) dX7_lead_40 ?_
    exact hret _ _ _ _ _ _ ⟨(hV.trans he.symm), hTM_1⟩ hP hS dX7_lead_43
  · have he := ite_f he hc_6
    refine lv_iload hx hb dX7_lead_14 (lv_at hl 4 rfl) ?_
    refine lv_i2l (v := a4.toInt64) hx hb dX7_lead_16 rfl ?_
    refine lv_lconst (v := 0) hx hb dX7_lead_17 (by decide) ?_
    refine lv_ldc2 (v := 15) hx hb hown (hG _ gw_33_21) dX7_lead_18 ?_
    refine callS_i [.long a4.toInt64, .long 0, .long 15] [] hx hb hml hG hown hK (c_X7_in had (M := M_1)  a4.toInt64 0 15) gw_7_0 gm_X7_in gd_X7_in rfl rfl ⟨Nat.le_of_ble_eq_true rfl, Nat.le_of_ble_eq_true rfl⟩ ⟨Nat.le_refl _, Nat.le_refl _⟩ hP (fun _ h => h) hS rfl hl.1 rfl (Nat.le_of_ble_eq_true rfl) dX7_lead_21 (fun r_7 u_9 H locs hF_8 hP hS => ?_)
    obtain ⟨hz_10, hF_8, hu⟩ := hF_8; rw [hu] at hP; subst hF_8
    refine lv_if_eq (tgt := 40) hx hb dX7_lead_24 (by decide) (fun hc_11 => ?_) (fun hc_11 => ?_)
    · have he := ite_t he hc_11
      refine lv_ldcw (v := (-1000000001)) hx hb hown (hG _ gw_13_2) dX7_lead_40 ?_
      exact hret _ _ _ _ _ _ ⟨(hV.trans he.symm), hTM_1⟩ hP hS dX7_lead_43
    · have he := ite_f he hc_11
      refine lv_iload hx hb dX7_lead_27 (lv_at hl 5 rfl) ?_
      refine lv_i2l (v := a5.toInt64) hx hb dX7_lead_29 rfl ?_
      refine lv_lconst (v := 0) hx hb dX7_lead_30 (by decide) ?_
      refine lv_ldc2 (v := 15) hx hb hown (hG _ gw_33_21) dX7_lead_31 ?_
      refine callS_i [.long a5.toInt64, .long 0, .long 15] [] hx hb hml hG hown hK (c_X7_in had (M := M_1)  a5.toInt64 0 15) gw_7_0 gm_X7_in gd_X7_in rfl rfl ⟨Nat.le_of_ble_eq_true rfl, Nat.le_of_ble_eq_true rfl⟩ ⟨Nat.le_refl _, Nat.le_refl _⟩ hP (fun _ h => h) hS rfl hl.1 rfl (Nat.le_of_ble_eq_true rfl) dX7_lead_34 (fun r_12 u_14 H locs hF_13 hP hS => ?_)
      obtain ⟨hz_15, hF_13, hu⟩ := hF_13; rw [hu] at hP; subst hF_13
      refine lv_if_ne (tgt := 44) hx hb dX7_lead_37 (by decide) (fun hc_16 => ?_) (fun hc_16 => ?_)
      · have he := ite_t he hc_16
        refine lv_aload_n hx hb dX7_lead_44 rfl (lv_at hl 0 rfl) ?_
        refine call_v [] [] hx hb hml hG hown hK (c_X7_open had M_1 hTM_1.1) gw_29_2 gm_X7_open gd_X7_open rfl rfl ⟨Nat.le_of_ble_eq_true rfl, Nat.le_of_ble_eq_true rfl⟩ ⟨Nat.le_refl _, Nat.le_refl _⟩ (rX7 hK hP) hP (fun _ h => h) hS rfl hl.1 rfl (Nat.le_of_ble_eq_true rfl) dX7_lead_45 (fun M_19 H locs hF_18 hP hS => ?_)
        obtain ⟨hF_18, hti_20⟩ := hF_18
        have he := bnd_at he hF_18.symm
        have hTM_19 : TI M M_19 := TI_tr hTM_1 hti_20
        have qb_M_19 := hTM_19.1.1
        have qs_M_19 := hTM_19.1.2.1
        have qz_M_19 := hTM_19.1.2.2.1
        refine lv_aload_n hx hb dX7_lead_48 rfl (lv_at hl 0 rfl) ?_
        refine call_v [] [] hx hb hml hG hown hK (c_X7_layWinds had M_19 hTM_19.1) gw_22_19 gm_X7_layWinds gd_X7_layWinds rfl rfl ⟨Nat.le_of_ble_eq_true rfl, Nat.le_of_ble_eq_true rfl⟩ ⟨Nat.le_refl _, Nat.le_refl _⟩ (rX7 hK hP) hP (fun _ h => h) hS rfl hl.1 rfl (Nat.le_of_ble_eq_true rfl) dX7_lead_49 (fun M_23 H locs hF_22 hP hS => ?_)
        obtain ⟨hF_22, hti_24⟩ := hF_22
        have he := bnd_at he hF_22.symm
        have hTM_23 : TI M M_23 := TI_tr hTM_19 hti_24
        have qb_M_23 := hTM_23.1.1
        have qs_M_23 := hTM_23.1.2.1
        have qz_M_23 := hTM_23.1.2.2.1
        refine lv_aload_n hx hb dX7_lead_52 rfl (lv_at hl 0 rfl) ?_
        refine lv_iload_n hx hb dX7_lead_53 rfl (lv_at hl 1 rfl) ?_
        refine lv_iload_n hx hb dX7_lead_54 rfl (lv_at hl 2 rfl) ?_
        refine lv_iload_n hx hb dX7_lead_55 rfl (lv_at hl 3 rfl) ?_
        refine lv_iload hx hb dX7_lead_56 (lv_at hl 4 rfl) ?_
        refine lv_iload hx hb dX7_lead_58 (lv_at hl 5 rfl) ?_
        refine call_i [.int a1, .int a2, .int a3, .int a4, .int a5] [] hx hb hml hG hown hK (c_X7_leadBy had M_23 a1 a2 a3 a4 a5 hTM_23.1) gw_34_2 gm_X7_leadBy gd_X7_leadBy rfl rfl ⟨Nat.le_of_ble_eq_true rfl, Nat.le_of_ble_eq_true rfl⟩ ⟨Nat.le_refl _, Nat.le_refl _⟩ (rX7 hK hP) hP (fun _ h => h) hS rfl hl.1 rfl (Nat.le_of_ble_eq_true rfl) dX7_lead_60 (fun r_25 M_27 H locs hF_26 hP hS => ?_)
        obtain ⟨hF_26, hti_28⟩ := hF_26
        have he := bnd2_at he hF_26
        have hTM_27 : TI M M_27 := TI_tr hTM_23 hti_28
        have qb_M_27 := hTM_27.1.1
        have qs_M_27 := hTM_27.1.2.1
        have qz_M_27 := hTM_27.1.2.2.1
        refine lv_istore (lv' := [(6, .int r_25), (0, .ref (ad 0)), (1, .int a1), (2, .int a2), (3, .int a3), (4, .int a4), (5, .int a5)]) hx hb dX7_lead_63 hl (by decide) rfl (fun ls hl => ?_)
        refine lv_aload_n hx hb dX7_lead_65 rfl (lv_at hl 1 rfl) ?_
        refine call_v [] [] hx hb hml hG hown hK (c_X7_close had M_27 hTM_27.1) gw_30_1 gm_X7_close gd_X7_close rfl rfl ⟨Nat.le_of_ble_eq_true rfl, Nat.le_of_ble_eq_true rfl⟩ ⟨Nat.le_refl _, Nat.le_refl _⟩ (rX7 hK hP) hP (fun _ h => h) hS rfl hl.1 rfl (Nat.le_of_ble_eq_true rfl) dX7_lead_66 (fun M_31 H locs hF_30 hP hS => ?_)
        obtain ⟨hF_30, hti_32⟩ := hF_30
        have he := bnd_at he hF_30.symm
        have hTM_31 : TI M M_31 := TI_tr hTM_27 hti_32
        have qb_M_31 := hTM_31.1.1
        have qs_M_31 := hTM_31.1.2.1
        have qz_M_31 := hTM_31.1.2.2.1
        refine lv_iload hx hb dX7_lead_69 (lv_at hl 0 rfl) ?_
        exact hret _ _ _ _ _ _ ⟨(hV.trans he.symm), hTM_31⟩ hP hS dX7_lead_71
      · have he := ite_f he (fun q => q hc_16)
        refine lv_ldcw (v := (-1000000001)) hx hb hown (hG _ gw_13_2) dX7_lead_40 ?_
        exact hret _ _ _ _ _ _ ⟨(hV.trans he.symm), hTM_1⟩ hP hS dX7_lead_43
def rm_X7_safe : Room := { frames := 6, cells := 0, slots := 0, locals := 134 }
theorem gm_X7_safe : Cond.instanceMethod yX7_safe ∈ wsL_law ∧ Cond.selects RX7 yX7_safe yX7_safe ∈ wsL_law ∧ Cond.initialized RX7 ∈ wsL_law ∧ Cond.code yX7_safe cX7_safe 11 (some .int) ∈ wsL_law := ⟨gw_34_23, gw_35_0, gw_1_5, gw_35_1⟩
theorem gd_X7_safe : yX7_safe.cls = RX7 ∧ yX7_safe.cls ≠ "java/lang/invoke/MethodHandle" ∧ yX7_safe.cls ≠ "java/lang/invoke/VarHandle" ∧ (parseMethodDescriptor yX7_safe.desc).map (fun d => d.parameters.length) = some 4 := by decide +kernel
set_option maxRecDepth 100000 in
set_option maxHeartbeats 0 in
theorem c_X7_safe {l : Launch} {D : va_G} {k : Nat → ClassId} {ad : Nat → Nat} (had : InjN 31 ad) (M : Mem) (a1 : Int32) (a2 : Int32) (a3 : Int32) (a4 : Int32) (hI : MI M) : Met l yX7_safe (Cond.code yX7_safe cX7_safe 11 (some .int) :: wsL_law) rm_X7_safe (va_Pc [.ref (ad 0), .int a1, .int a2, .int a3, .int a4] (GW 31 ad D k (cM ad k M))) (va_Qi (fun r u => (f_X7_safe M a1 a2 a3 a4 = (r, u) ∧ TI M u)) (fun u t => GW 31 ad D k (cM ad k u) t) (AW 31 ad)) 0 0 (AW 31 ad) := by
  refine met_i (g := cM ad k) (M := M) (plainFor_of_name (by decide)) (Nat.le_of_ble_eq_true rfl) ?_
  intro p e s m args below meth c Q ls hx hb hml hG hown hK hret hP hS hl
  have hl : lv_has ls 11 [(0, .ref (ad 0)), (1, .int a1), (2, .int a2), (3, .int a3), (4, .int a4)] := hl
  obtain ⟨V, hV⟩ : ∃ V, f_X7_safe M a1 a2 a3 a4 = V := ⟨_, rfl⟩
  have he := hV
  unfold f_X7_safe at he
  have hT0 : TI M M := TI_rf hI
  have qb_M := hI.1
  have qs_M := hI.2.1
  have qz_M := hI.2.2.1
  refine lv_aload_n hx hb dX7_safe_0 rfl (lv_at hl 0 rfl) ?_
  refine lv_iconst (v := 0) hx hb dX7_safe_1 (by decide) ?_
  refine pX7_19 hx hb hG hown hK hP had AW_in hS gw_5_17 dX7_safe_2 (fun H locs hP hS => ?_)
  obtain ⟨M_1, eM_1⟩ : ∃ y : Mem, y = up2 M 0 19 0 := ⟨_, rfl⟩
  rw [← eM_1] at hP
  have he := bnd_at he eM_1
  have hTM_1 : TI M M_1 := by rw [eM_1]; exact TI_f hT0 (by decide)
  have qb_M_1 := hTM_1.1.1
  have qs_M_1 := hTM_1.1.2.1
  have qz_M_1 := hTM_1.1.2.2.1
  refine lv_iload_n hx hb dX7_safe_5 rfl (lv_at hl 1 rfl) ?_
  refine lv_iload_n hx hb dX7_safe_6 rfl (lv_at hl 2 rfl) ?_
  refine lv_iload_n hx hb dX7_safe_7 rfl (lv_at hl 3 rfl) ?_
  refine callS_i [.int a1, .int a2, .int a3] [] hx hb hml hG hown hK (c_X7_isGame had (M := M_1)  a1 a2 a3) gw_33_22 gm_X7_isGame gd_X7_isGame rfl rfl ⟨Nat.le_of_ble_eq_true rfl, Nat.le_of_ble_eq_true rfl⟩ ⟨Nat.le_refl _, Nat.le_refl _⟩ hP (fun _ h => h) hS rfl hl.1 rfl (Nat.le_of_ble_eq_true rfl) dX7_safe_8 (fun r_2 u_4 H locs hF_3 hP hS => ?_)
  obtain ⟨hz_5, hF_3, hu⟩ := hF_3; rw [hu] at hP; subst hF_3
  refine lv_if_eq (tgt := 25) hx hb dX7_safe_11 (by decide) (fun hc_6 => ?_) (fun hc_6 => ?_)
  · have he := ite_t he hc_6
    refine lv_ldcw (v := (-1000000001)) hx hb hown (hG _ gw_13_2) dX7_safe_25 ?_
    exact hret _ _ _ _ _ _ ⟨(hV.trans he.symm), hTM_1⟩ hP hS dX7_safe_28
  · have he := ite_f he hc_6
    refine lv_iload hx hb dX7_safe_14 (lv_at hl 4 rfl) ?_
    refine lv_i2l (v := a4.toInt64) hx hb dX7_safe_16 rfl ?_
    refine lv_lconst (v := 0) hx hb dX7_safe_17 (by decide) ?_
    refine lv_lconst (v := 1) hx hb dX7_safe_18 (by decide) ?_
    refine callS_i [.long a4.toInt64, .long 0, .long 1] [] hx hb hml hG hown hK (c_X7_in had (M := M_1)  a4.toInt64 0 1) gw_7_0 gm_X7_in gd_X7_in rfl rfl ⟨Nat.le_of_ble_eq_true rfl, Nat.le_of_ble_eq_true rfl⟩ ⟨Nat.le_refl _, Nat.le_refl _⟩ hP (fun _ h => h) hS rfl hl.1 rfl (Nat.le_of_ble_eq_true rfl) dX7_safe_19 (fun r_7 u_9 H locs hF_8 hP hS => ?_)
    obtain ⟨hz_10, hF_8, hu⟩ := hF_8; rw [hu] at hP; subst hF_8
    refine lv_if_ne (tgt := 29) hx hb dX7_safe_22 (by decide) (fun hc_11 => ?_) (fun hc_11 => ?_)
    · have he := ite_t he hc_11
      refine lv_aload_n hx hb dX7_safe_29 rfl (lv_at hl 0 rfl) ?_
      refine call_v [] [] hx hb hml hG hown hK (c_X7_open had M_1 hTM_1.1) gw_29_2 gm_X7_open gd_X7_open rfl rfl ⟨Nat.le_of_ble_eq_true rfl, Nat.le_of_ble_eq_true rfl⟩ ⟨Nat.le_refl _, Nat.le_refl _⟩ (rX7 hK hP) hP (fun _ h => h) hS rfl hl.1 rfl (Nat.le_of_ble_eq_true rfl) dX7_safe_30 (fun M_14 H locs hF_13 hP hS => ?_)
      obtain ⟨hF_13, hti_15⟩ := hF_13
      have he := bnd_at he hF_13.symm
      have hTM_14 : TI M M_14 := TI_tr hTM_1 hti_15
      have qb_M_14 := hTM_14.1.1
      have qs_M_14 := hTM_14.1.2.1
      have qz_M_14 := hTM_14.1.2.2.1
      refine lv_aload_n hx hb dX7_safe_33 rfl (lv_at hl 0 rfl) ?_
      refine call_v [] [] hx hb hml hG hown hK (c_X7_layWinds had M_14 hTM_14.1) gw_22_19 gm_X7_layWinds gd_X7_layWinds rfl rfl ⟨Nat.le_of_ble_eq_true rfl, Nat.le_of_ble_eq_true rfl⟩ ⟨Nat.le_refl _, Nat.le_refl _⟩ (rX7 hK hP) hP (fun _ h => h) hS rfl hl.1 rfl (Nat.le_of_ble_eq_true rfl) dX7_safe_34 (fun M_18 H locs hF_17 hP hS => ?_)
      obtain ⟨hF_17, hti_19⟩ := hF_17
      have he := bnd_at he hF_17.symm
      have hTM_18 : TI M M_18 := TI_tr hTM_14 hti_19
      have qb_M_18 := hTM_18.1.1
      have qs_M_18 := hTM_18.1.2.1
      have qz_M_18 := hTM_18.1.2.2.1
      refine lv_iconst (v := 0) hx hb dX7_safe_37 (by decide) ?_
      refine lv_istore (lv' := [(5, .int 0), (0, .ref (ad 0)), (1, .int a1), (2, .int a2), (3, .int a3), (4, .int a4)]) hx hb dX7_safe_38 hl (by decide) rfl (fun ls hl => ?_)
      refine lv_ldcw (v := (-1000000000)) hx hb hown (hG _ gw_35_2) dX7_safe_40 ?_
      refine lv_istore (lv' := [(6, .int (-1000000000)), (5, .int 0), (0, .ref (ad 0)), (1, .int a1), (2, .int a2), (3, .int a3), (4, .int a4)]) hx hb dX7_safe_43 hl (by decide) rfl (fun ls hl => ?_)
      refine lv_iconst (v := 0) hx hb dX7_safe_45 (by decide) ?_
      refine lv_istore (lv' := [(7, .int 0), (6, .int (-1000000000)), (5, .int 0), (0, .ref (ad 0)), (1, .int a1), (2, .int a2), (3, .int a3), (4, .int a4)]) hx hb dX7_safe_46 hl (by decide) rfl (fun ls hl => ?_)
      obtain ⟨w_143, w_144, M_145, hr_106, he⟩ := bnd3_ex he
      have j143 : ∀ (H : Heap) (locs : List Loc) (ls : Array Slot), TI M M_145 → va_P D vwCl (wld 31 ad (cM ad k M_145)) H → va_S (AW 31 ad) s.heap H locs → lv_has ls 11 [(0, .ref (ad 0)), (4, .int a4), (5, .int w_143), (6, .int w_144)] → W p l e rm_X7_safe s m args below meth c H locs 0 0 Q (F0 m 143 ls []) := by
        intro H locs ls hTM_145 hP hS hl
        have qb_M_145 := hTM_145.1.1
        have qs_M_145 := hTM_145.1.2.1
        have qz_M_145 := hTM_145.1.2.2.1
        refine lv_aload_n hx hb dX7_safe_143 rfl (lv_at hl 0 rfl) ?_
        refine call_v [] [] hx hb hml hG hown hK (c_X7_close had M_145 hTM_145.1) gw_30_1 gm_X7_close gd_X7_close rfl rfl ⟨Nat.le_of_ble_eq_true rfl, Nat.le_of_ble_eq_true rfl⟩ ⟨Nat.le_refl _, Nat.le_refl _⟩ (rX7 hK hP) hP (fun _ h => h) hS rfl hl.1 rfl (Nat.le_of_ble_eq_true rfl) dX7_safe_144 (fun M_148 H locs hF_147 hP hS => ?_)
        obtain ⟨hF_147, hti_149⟩ := hF_147
        have he := bnd_at he hF_147.symm
        have hTM_148 : TI M M_148 := TI_tr hTM_145 hti_149
        have qb_M_148 := hTM_148.1.1
        have qs_M_148 := hTM_148.1.2.1
        have qz_M_148 := hTM_148.1.2.2.1
        refine lv_iload hx hb dX7_safe_147 (lv_at hl 1 rfl) ?_
        obtain ⟨t_152, hr_151, he⟩ := bnd_ex he
        have j159 : ∀ (H : Heap) (locs : List Loc) (ls : Array Slot), va_P D vwCl (wld 31 ad (cM ad k M_148)) H → va_S (AW 31 ad) s.heap H locs → lv_has ls 11 [] → W p l e rm_X7_safe s m args below meth c H locs 0 0 Q (F0 m 159 ls [.int t_152]) := by
          intro H locs ls hP hS hl
          exact hret _ _ _ _ _ _ ⟨(hV.trans he.symm), hTM_148⟩ hP hS dX7_safe_159
        refine lv_if_ne (tgt := 157) hx hb dX7_safe_149 (by decide) (fun hc_150 => ?_) (fun hc_150 => ?_)
        · have hr_151 := ite_t hr_151 hc_150
          refine lv_iload hx hb dX7_safe_157 (lv_at hl 2 rfl) ?_
          cases hr_151
          exact j159 _ _ _ hP hS (lv_sub hl [] rfl)
        · have hr_151 := ite_f hr_151 (fun q => q hc_150)
          refine lv_iload hx hb dX7_safe_152 (lv_at hl 3 rfl) ?_
          refine lv_goto (tgt := 159) hx hb dX7_safe_154 (by decide) ?_
          cases hr_151
          exact j159 _ _ _ hP hS (lv_sub hl [] rfl)
      have lp48 : ∀ (nn : Nat) (H : Heap) (locs : List Loc) (ls : Array Slot) (M_105 : Mem) (v_102 : Int32) (v_103 : Int32) (v_104 : Int32), (0 ≤ v_104.toInt) → (TI M M_105) → (16 - v_104.toInt).toNat < nn → lp_X7_safe_48 nn a1 a2 a3 M_105 v_102 v_103 v_104 = (w_143, w_144, M_145) → va_P D vwCl (wld 31 ad (cM ad k M_105)) H → va_S (AW 31 ad) s.heap H locs → lv_has ls 11 [(0, .ref (ad 0)), (1, .int a1), (2, .int a2), (3, .int a3), (4, .int a4), (5, .int v_102), (6, .int v_103), (7, .int v_104)] → W p l e rm_X7_safe s m args below meth c H locs 0 0 Q (F0 m 48 ls []) := by
        intro nn
        induction nn with
        | zero =>
          intro H locs ls M_105 v_102 v_103 v_104 h0v_104 hTM_105 hμ
          exact absurd hμ (Nat.not_lt_zero _)
        | succ nn ih =>
          intro H locs ls M_105 v_102 v_103 v_104 h0v_104 hTM_105 hμ hr_106 hP hS hl
          rw [lp_X7_safe_48] at hr_106
          have qb_M_105 := hTM_105.1.1
          have qs_M_105 := hTM_105.1.2.1
          have qz_M_105 := hTM_105.1.2.2.1
          refine lv_iload hx hb dX7_safe_48 (lv_at hl 7 rfl) ?_
          refine lv_bipush (v := 16) hx hb dX7_safe_50 (by decide) ?_
          refine lv_icmp_ge (tgt := 143) hx hb dX7_safe_52 (by decide) (fun hc_107 => ?_) (fun hc_107 => ?_)
          · have hr_106 := ite_t hr_106 hc_107
            cases hr_106
            exact j143 _ _ _ hTM_105 hP hS (lv_sub hl [0, 4, 5, 6] rfl)
          · have hr_106 := ite_f hr_106 hc_107
            refine lv_ldcw (v := 1000000000) hx hb hown (hG _ gw_35_3) dX7_safe_55 ?_
            refine lv_istore (lv' := [(8, .int 1000000000), (0, .ref (ad 0)), (1, .int a1), (2, .int a2), (3, .int a3), (4, .int a4), (5, .int v_102), (6, .int v_103), (7, .int v_104)]) hx hb dX7_safe_58 hl (by decide) rfl (fun ls hl => ?_)
            refine lv_iconst (v := 0) hx hb dX7_safe_60 (by decide) ?_
            refine lv_istore (lv' := [(9, .int 0), (8, .int 1000000000), (0, .ref (ad 0)), (1, .int a1), (2, .int a2), (3, .int a3), (4, .int a4), (5, .int v_102), (6, .int v_103), (7, .int v_104)]) hx hb dX7_safe_61 hl (by decide) rfl (fun ls hl => ?_)
            obtain ⟨w_134, M_135, hr_124, hr_106⟩ := bnd2_ex hr_106
            have j105 : ∀ (H : Heap) (locs : List Loc) (ls : Array Slot), TI M M_135 → va_P D vwCl (wld 31 ad (cM ad k M_135)) H → va_S (AW 31 ad) s.heap H locs → lv_has ls 11 [(0, .ref (ad 0)), (1, .int a1), (2, .int a2), (3, .int a3), (4, .int a4), (5, .int v_102), (6, .int v_103), (7, .int v_104), (8, .int w_134)] → W p l e rm_X7_safe s m args below meth c H locs 0 0 Q (F0 m 105 ls []) := by
              intro H locs ls hTM_135 hP hS hl
              have qb_M_135 := hTM_135.1.1
              have qs_M_135 := hTM_135.1.2.1
              have qz_M_135 := hTM_135.1.2.2.1
              refine lv_iload hx hb dX7_safe_105 (lv_at hl 8 rfl) ?_
              refine lv_iload hx hb dX7_safe_107 (lv_at hl 6 rfl) ?_
              obtain ⟨t_138, hr_137, hr_106⟩ := bnd_ex hr_106
              have j119 : ∀ (H : Heap) (locs : List Loc) (ls : Array Slot), va_P D vwCl (wld 31 ad (cM ad k M_135)) H → va_S (AW 31 ad) s.heap H locs → lv_has ls 11 [(0, .ref (ad 0)), (1, .int a1), (2, .int a2), (3, .int a3), (4, .int a4), (6, .int v_103), (7, .int v_104), (8, .int w_134)] → W p l e rm_X7_safe s m args below meth c H locs 0 0 Q (F0 m 119 ls [.int t_138]) := by
                intro H locs ls hP hS hl
                refine lv_istore (lv' := [(5, .int t_138), (0, .ref (ad 0)), (1, .int a1), (2, .int a2), (3, .int a3), (4, .int a4), (6, .int v_103), (7, .int v_104), (8, .int w_134)]) hx hb dX7_safe_119 hl (by decide) rfl (fun ls hl => ?_)
                refine lv_iload hx hb dX7_safe_121 (lv_at hl 8 rfl) ?_
                refine lv_iload hx hb dX7_safe_123 (lv_at hl 6 rfl) ?_
                obtain ⟨t_141, hr_140, hr_106⟩ := bnd_ex hr_106
                have j135 : ∀ (H : Heap) (locs : List Loc) (ls : Array Slot), va_P D vwCl (wld 31 ad (cM ad k M_135)) H → va_S (AW 31 ad) s.heap H locs → lv_has ls 11 [(0, .ref (ad 0)), (1, .int a1), (2, .int a2), (3, .int a3), (4, .int a4), (5, .int t_138), (7, .int v_104)] → W p l e rm_X7_safe s m args below meth c H locs 0 0 Q (F0 m 135 ls [.int t_141]) := by
                  intro H locs ls hP hS hl
                  refine lv_istore (lv' := [(6, .int t_141), (0, .ref (ad 0)), (1, .int a1), (2, .int a2), (3, .int a3), (4, .int a4), (5, .int t_138), (7, .int v_104)]) hx hb dX7_safe_135 hl (by decide) rfl (fun ls hl => ?_)
                  obtain ⟨y_142, ey_142⟩ : ∃ y_142 : Int32, y_142 = v_104 + 1 := ⟨_, rfl⟩
                  have hr_106 := bnd_at hr_106 ey_142
                  refine lv_iinc (v := y_142) (lv' := [(7, .int y_142), (6, .int t_141), (0, .ref (ad 0)), (1, .int a1), (2, .int a2), (3, .int a3), (4, .int a4), (5, .int t_138)]) hx hb dX7_safe_137 hl (k := 7) rfl (by rw [ey_142]; rfl) (by decide) rfl (fun ls hl => ?_)
                  refine lv_goto (tgt := 48) hx hb dX7_safe_140 (by decide) ?_
                  exact ih _ _ _ _ _ _ _ (by rw [ey_142, inc_I (N := 16) (nle_I hc_107) (by decide)]; omega) hTM_135 (by rw [ey_142]; exact mu_I hμ (nle_I hc_107) (by decide)) hr_106 hP hS (lv_sub hl [2, 3, 4, 5, 6, 7, 1, 0] rfl)
                refine lv_icmp_le (tgt := 133) hx hb dX7_safe_125 (by decide) (fun hc_139 => ?_) (fun hc_139 => ?_)
                · have hr_140 := ite_t hr_140 hc_139
                  refine lv_iload hx hb dX7_safe_133 (lv_at hl 6 rfl) ?_
                  cases hr_140
                  exact j135 _ _ _ hP hS (lv_sub hl [1, 2, 3, 4, 5, 0, 7] rfl)
                · have hr_140 := ite_f hr_140 hc_139
                  refine lv_iload hx hb dX7_safe_128 (lv_at hl 8 rfl) ?_
                  refine lv_goto (tgt := 135) hx hb dX7_safe_130 (by decide) ?_
                  cases hr_140
                  exact j135 _ _ _ hP hS (lv_sub hl [1, 2, 3, 4, 5, 0, 7] rfl)
              refine lv_icmp_le (tgt := 117) hx hb dX7_safe_109 (by decide) (fun hc_136 => ?_) (fun hc_136 => ?_)
              · have hr_137 := ite_t hr_137 hc_136
                refine lv_iload hx hb dX7_safe_117 (lv_at hl 5 rfl) ?_
                cases hr_137
                exact j119 _ _ _ hP hS (lv_sub hl [0, 1, 2, 3, 4, 6, 7, 8] rfl)
              · have hr_137 := ite_f hr_137 hc_136
                refine lv_iload hx hb dX7_safe_112 (lv_at hl 7 rfl) ?_
                refine lv_goto (tgt := 119) hx hb dX7_safe_114 (by decide) ?_
                cases hr_137
                exact j119 _ _ _ hP hS (lv_sub hl [0, 1, 2, 3, 4, 6, 7, 8] rfl)
            have lp63 : ∀ (nn : Nat) (H : Heap) (locs : List Loc) (ls : Array Slot) (M_123 : Mem) (v_121 : Int32) (v_122 : Int32), (0 ≤ v_122.toInt) → (TI M M_123) → (16 - v_122.toInt).toNat < nn → lp_X7_safe_63'' nn a1 a2 a3 v_104 M_123 v_121 v_122 = (w_134, M_135) → va_P D vwCl (wld 31 ad (cM ad k M_123)) H → va_S (AW 31 ad) s.heap H locs → lv_has ls 11 [(0, .ref (ad 0)), (1, .int a1), (2, .int a2), (3, .int a3), (4, .int a4), (5, .int v_102), (6, .int v_103), (7, .int v_104), (8, .int v_121), (9, .int v_122)] → W p l e rm_X7_safe s m args below meth c H locs 0 0 Q (F0 m 63 ls []) := by
              intro nn
              induction nn with
              | zero =>
                intro H locs ls M_123 v_121 v_122 h0v_122 hTM_123 hμ
                exact absurd hμ (Nat.not_lt_zero _)
              | succ nn ih =>
                intro H locs ls M_123 v_121 v_122 h0v_122 hTM_123 hμ hr_124 hP hS hl
                rw [lp_X7_safe_63''] at hr_124
                have qb_M_123 := hTM_123.1.1
                have qs_M_123 := hTM_123.1.2.1
                have qz_M_123 := hTM_123.1.2.2.1
                refine lv_iload hx hb dX7_safe_63 (lv_at hl 9 rfl) ?_
                refine lv_bipush (v := 16) hx hb dX7_safe_65 (by decide) ?_
                refine lv_icmp_ge (tgt := 105) hx hb dX7_safe_67 (by decide) (fun hc_125 => ?_) (fun hc_125 => ?_)
                · have hr_124 := ite_t hr_124 hc_125
                  cases hr_124
                  exact j105 _ _ _ hTM_123 hP hS (lv_sub hl [0, 1, 2, 3, 4, 5, 6, 7, 8] rfl)
                · have hr_124 := ite_f hr_124 hc_125
                  refine lv_aload_n hx hb dX7_safe_70 rfl (lv_at hl 0 rfl) ?_
                  refine lv_iload_n hx hb dX7_safe_71 rfl (lv_at hl 1 rfl) ?_
                  refine lv_iload_n hx hb dX7_safe_72 rfl (lv_at hl 2 rfl) ?_
                  refine lv_iload_n hx hb dX7_safe_73 rfl (lv_at hl 3 rfl) ?_
                  refine lv_iload hx hb dX7_safe_74 (lv_at hl 7 rfl) ?_
                  refine lv_iload hx hb dX7_safe_76 (lv_at hl 9 rfl) ?_
                  refine call_i [.int a1, .int a2, .int a3, .int v_104, .int v_122] [] hx hb hml hG hown hK (c_X7_leadBy had M_123 a1 a2 a3 v_104 v_122 hTM_123.1) gw_34_2 gm_X7_leadBy gd_X7_leadBy rfl rfl ⟨Nat.le_of_ble_eq_true rfl, Nat.le_of_ble_eq_true rfl⟩ ⟨Nat.le_refl _, Nat.le_refl _⟩ (rX7 hK hP) hP (fun _ h => h) hS rfl hl.1 rfl (Nat.le_of_ble_eq_true rfl) dX7_safe_78 (fun r_126 M_128 H locs hF_127 hP hS => ?_)
                  obtain ⟨hF_127, hti_129⟩ := hF_127
                  have hr_124 := bnd2_at hr_124 hF_127
                  have hTM_128 : TI M M_128 := TI_tr hTM_123 hti_129
                  have qb_M_128 := hTM_128.1.1
                  have qs_M_128 := hTM_128.1.2.1
                  have qz_M_128 := hTM_128.1.2.2.1
                  refine lv_istore (lv' := [(10, .int r_126), (0, .ref (ad 0)), (1, .int a1), (2, .int a2), (3, .int a3), (4, .int a4), (5, .int v_102), (6, .int v_103), (7, .int v_104), (8, .int v_121), (9, .int v_122)]) hx hb dX7_safe_81 hl (by decide) rfl (fun ls hl => ?_)
                  refine lv_iload hx hb dX7_safe_83 (lv_at hl 0 rfl) ?_
                  refine lv_iload hx hb dX7_safe_85 (lv_at hl 9 rfl) ?_
                  obtain ⟨t_132, hr_131, hr_124⟩ := bnd_ex hr_124
                  have j97 : ∀ (H : Heap) (locs : List Loc) (ls : Array Slot), va_P D vwCl (wld 31 ad (cM ad k M_128)) H → va_S (AW 31 ad) s.heap H locs → lv_has ls 11 [(0, .ref (ad 0)), (1, .int a1), (2, .int a2), (3, .int a3), (4, .int a4), (5, .int v_102), (6, .int v_103), (7, .int v_104), (9, .int v_122)] → W p l e rm_X7_safe s m args below meth c H locs 0 0 Q (F0 m 97 ls [.int t_132]) := by
                    intro H locs ls hP hS hl
                    refine lv_istore (lv' := [(8, .int t_132), (0, .ref (ad 0)), (1, .int a1), (2, .int a2), (3, .int a3), (4, .int a4), (5, .int v_102), (6, .int v_103), (7, .int v_104), (9, .int v_122)]) hx hb dX7_safe_97 hl (by decide) rfl (fun ls hl => ?_)
                    obtain ⟨y_133, ey_133⟩ : ∃ y_133 : Int32, y_133 = v_122 + 1 := ⟨_, rfl⟩
                    have hr_124 := bnd_at hr_124 ey_133
                    refine lv_iinc (v := y_133) (lv' := [(9, .int y_133), (8, .int t_132), (0, .ref (ad 0)), (1, .int a1), (2, .int a2), (3, .int a3), (4, .int a4), (5, .int v_102), (6, .int v_103), (7, .int v_104)]) hx hb dX7_safe_99 hl (k := 9) rfl (by rw [ey_133]; rfl) (by decide) rfl (fun ls hl => ?_)
                    refine lv_goto (tgt := 63) hx hb dX7_safe_102 (by decide) ?_
                    exact ih _ _ _ _ _ _ (by rw [ey_133, inc_I (N := 16) (nle_I hc_125) (by decide)]; omega) hTM_128 (by rw [ey_133]; exact mu_I hμ (nle_I hc_125) (by decide)) hr_124 hP hS (lv_sub hl [2, 3, 4, 5, 6, 7, 8, 9, 1, 0] rfl)
                  refine lv_icmp_ge (tgt := 95) hx hb dX7_safe_87 (by decide) (fun hc_130 => ?_) (fun hc_130 => ?_)
                  · have hr_131 := ite_t hr_131 hc_130
                    refine lv_iload hx hb dX7_safe_95 (lv_at hl 9 rfl) ?_
                    cases hr_131
                    exact j97 _ _ _ hP hS (lv_sub hl [1, 2, 3, 4, 5, 6, 7, 8, 10] rfl)
                  · have hr_131 := ite_f hr_131 hc_130
                    refine lv_iload hx hb dX7_safe_90 (lv_at hl 0 rfl) ?_
                    refine lv_goto (tgt := 97) hx hb dX7_safe_92 (by decide) ?_
                    cases hr_131
                    exact j97 _ _ _ hP hS (lv_sub hl [1, 2, 3, 4, 5, 6, 7, 8, 10] rfl)
            exact lp63 _ _ _ _ _ _ _ (by decide) hTM_105 (by decide) hr_124 hP hS (lv_sub hl [2, 3, 4, 5, 6, 7, 8, 9, 1, 0] rfl)
      exact lp48 _ _ _ _ _ _ _ _ (by decide) hTM_18 (by decide) hr_106 hP hS (lv_sub hl [3, 4, 5, 6, 7, 2, 1, 0] rfl)
    · have he := ite_f he (fun q => q hc_11)
      refine lv_ldcw (v := (-1000000001)) hx hb hown (hG _ gw_13_2) dX7_safe_25 ?_
      exact hret _ _ _ _ _ _ ⟨(hV.trans he.symm), hTM_1⟩ hP hS dX7_safe_28
def rm_X7_answer : Room := { frames := 6, cells := 0, slots := 0, locals := 134 }
theorem gm_X7_answer : Cond.instanceMethod yX7_answer ∈ wsL_law ∧ Cond.selects RX7 yX7_answer yX7_answer ∈ wsL_law ∧ Cond.initialized RX7 ∈ wsL_law ∧ Cond.code yX7_answer cX7_answer 9 (some .int) ∈ wsL_law := ⟨gw_35_12, gw_35_13, gw_1_5, gw_35_14⟩
theorem gd_X7_answer : yX7_answer.cls = RX7 ∧ yX7_answer.cls ≠ "java/lang/invoke/MethodHandle" ∧ yX7_answer.cls ≠ "java/lang/invoke/VarHandle" ∧ (parseMethodDescriptor yX7_answer.desc).map (fun d => d.parameters.length) = some 4 := by decide +kernel
set_option maxRecDepth 100000 in
set_option maxHeartbeats 0 in
theorem c_X7_answer {l : Launch} {D : va_G} {k : Nat → ClassId} {ad : Nat → Nat} (had : InjN 31 ad) (M : Mem) (a1 : Int32) (a2 : Int32) (a3 : Int32) (a4 : Int32) (hI : MI M) : Met l yX7_answer (Cond.code yX7_answer cX7_answer 9 (some .int) :: wsL_law) rm_X7_answer (va_Pc [.ref (ad 0), .int a1, .int a2, .int a3, .int a4] (GW 31 ad D k (cM ad k M))) (va_Qi (fun r u => (f_X7_answer M a1 a2 a3 a4 = (r, u) ∧ TI M u)) (fun u t => GW 31 ad D k (cM ad k u) t) (AW 31 ad)) 0 0 (AW 31 ad) := by
  refine met_i (g := cM ad k) (M := M) (plainFor_of_name (by decide)) (Nat.le_of_ble_eq_true rfl) ?_
  intro p e s m args below meth c Q ls hx hb hml hG hown hK hret hP hS hl
  have hl : lv_has ls 9 [(0, .ref (ad 0)), (1, .int a1), (2, .int a2), (3, .int a3), (4, .int a4)] := hl
  obtain ⟨V, hV⟩ : ∃ V, f_X7_answer M a1 a2 a3 a4 = V := ⟨_, rfl⟩
  have he := hV
  unfold f_X7_answer at he
  have hT0 : TI M M := TI_rf hI
  have qb_M := hI.1
  have qs_M := hI.2.1
  have qz_M := hI.2.2.1
  refine lv_aload_n hx hb dX7_answer_0 rfl (lv_at hl 0 rfl) ?_
  refine lv_iconst (v := 0) hx hb dX7_answer_1 (by decide) ?_
  refine pX7_19 hx hb hG hown hK hP had AW_in hS gw_5_17 dX7_answer_2 (fun H locs hP hS => ?_)
  obtain ⟨M_1, eM_1⟩ : ∃ y : Mem, y = up2 M 0 19 0 := ⟨_, rfl⟩
  rw [← eM_1] at hP
  have he := bnd_at he eM_1
  have hTM_1 : TI M M_1 := by rw [eM_1]; exact TI_f hT0 (by decide)
  have qb_M_1 := hTM_1.1.1
  have qs_M_1 := hTM_1.1.2.1
  have qz_M_1 := hTM_1.1.2.2.1
  refine lv_iload_n hx hb dX7_answer_5 rfl (lv_at hl 1 rfl) ?_
  refine lv_iload_n hx hb dX7_answer_6 rfl (lv_at hl 2 rfl) ?_
  refine lv_iload_n hx hb dX7_answer_7 rfl (lv_at hl 3 rfl) ?_
  refine callS_i [.int a1, .int a2, .int a3] [] hx hb hml hG hown hK (c_X7_isGame had (M := M_1)  a1 a2 a3) gw_33_22 gm_X7_isGame gd_X7_isGame rfl rfl ⟨Nat.le_of_ble_eq_true rfl, Nat.le_of_ble_eq_true rfl⟩ ⟨Nat.le_refl _, Nat.le_refl _⟩ hP (fun _ h => h) hS rfl hl.1 rfl (Nat.le_of_ble_eq_true rfl) dX7_answer_8 (fun r_2 u_4 H locs hF_3 hP hS => ?_)
  obtain ⟨hz_5, hF_3, hu⟩ := hF_3; rw [hu] at hP; subst hF_3
  refine lv_if_eq (tgt := 27) hx hb dX7_answer_11 (by decide) (fun hc_6 => ?_) (fun hc_6 => ?_)
  · have he := ite_t he hc_6
    refine lv_iconst (v := (-1)) hx hb dX7_answer_27 (by decide) ?_
    exact hret _ _ _ _ _ _ ⟨(hV.trans he.symm), hTM_1⟩ hP hS dX7_answer_28
  · have he := ite_f he hc_6
    refine lv_iload hx hb dX7_answer_14 (lv_at hl 4 rfl) ?_
    refine lv_i2l (v := a4.toInt64) hx hb dX7_answer_16 rfl ?_
    refine lv_lconst (v := 0) hx hb dX7_answer_17 (by decide) ?_
    refine lv_ldc2 (v := 15) hx hb hown (hG _ gw_33_21) dX7_answer_18 ?_
    refine callS_i [.long a4.toInt64, .long 0, .long 15] [] hx hb hml hG hown hK (c_X7_in had (M := M_1)  a4.toInt64 0 15) gw_7_0 gm_X7_in gd_X7_in rfl rfl ⟨Nat.le_of_ble_eq_true rfl, Nat.le_of_ble_eq_true rfl⟩ ⟨Nat.le_refl _, Nat.le_refl _⟩ hP (fun _ h => h) hS rfl hl.1 rfl (Nat.le_of_ble_eq_true rfl) dX7_answer_21 (fun r_7 u_9 H locs hF_8 hP hS => ?_)
    obtain ⟨hz_10, hF_8, hu⟩ := hF_8; rw [hu] at hP; subst hF_8
    refine lv_if_ne (tgt := 29) hx hb dX7_answer_24 (by decide) (fun hc_11 => ?_) (fun hc_11 => ?_)
    · have he := ite_t he hc_11
      refine lv_aload_n hx hb dX7_answer_29 rfl (lv_at hl 0 rfl) ?_
      refine call_v [] [] hx hb hml hG hown hK (c_X7_open had M_1 hTM_1.1) gw_29_2 gm_X7_open gd_X7_open rfl rfl ⟨Nat.le_of_ble_eq_true rfl, Nat.le_of_ble_eq_true rfl⟩ ⟨Nat.le_refl _, Nat.le_refl _⟩ (rX7 hK hP) hP (fun _ h => h) hS rfl hl.1 rfl (Nat.le_of_ble_eq_true rfl) dX7_answer_30 (fun M_14 H locs hF_13 hP hS => ?_)
      obtain ⟨hF_13, hti_15⟩ := hF_13
      have he := bnd_at he hF_13.symm
      have hTM_14 : TI M M_14 := TI_tr hTM_1 hti_15
      have qb_M_14 := hTM_14.1.1
      have qs_M_14 := hTM_14.1.2.1
      have qz_M_14 := hTM_14.1.2.2.1
      refine lv_aload_n hx hb dX7_answer_33 rfl (lv_at hl 0 rfl) ?_
      refine call_v [] [] hx hb hml hG hown hK (c_X7_layWinds had M_14 hTM_14.1) gw_22_19 gm_X7_layWinds gd_X7_layWinds rfl rfl ⟨Nat.le_of_ble_eq_true rfl, Nat.le_of_ble_eq_true rfl⟩ ⟨Nat.le_refl _, Nat.le_refl _⟩ (rX7 hK hP) hP (fun _ h => h) hS rfl hl.1 rfl (Nat.le_of_ble_eq_true rfl) dX7_answer_34 (fun M_18 H locs hF_17 hP hS => ?_)
      obtain ⟨hF_17, hti_19⟩ := hF_17
      have he := bnd_at he hF_17.symm
      have hTM_18 : TI M M_18 := TI_tr hTM_14 hti_19
      have qb_M_18 := hTM_18.1.1
      have qs_M_18 := hTM_18.1.2.1
      have qz_M_18 := hTM_18.1.2.2.1
      refine lv_iconst (v := 0) hx hb dX7_answer_37 (by decide) ?_
      refine lv_istore (lv' := [(5, .int 0), (0, .ref (ad 0)), (1, .int a1), (2, .int a2), (3, .int a3), (4, .int a4)]) hx hb dX7_answer_38 hl (by decide) rfl (fun ls hl => ?_)
      refine lv_ldcw (v := 1000000000) hx hb hown (hG _ gw_35_3) dX7_answer_40 ?_
      refine lv_istore (lv' := [(6, .int 1000000000), (5, .int 0), (0, .ref (ad 0)), (1, .int a1), (2, .int a2), (3, .int a3), (4, .int a4)]) hx hb dX7_answer_43 hl (by decide) rfl (fun ls hl => ?_)
      refine lv_iconst (v := 0) hx hb dX7_answer_45 (by decide) ?_
      refine lv_istore (lv' := [(7, .int 0), (6, .int 1000000000), (5, .int 0), (0, .ref (ad 0)), (1, .int a1), (2, .int a2), (3, .int a3), (4, .int a4)]) hx hb dX7_answer_46 hl (by decide) rfl (fun ls hl => ?_)
      obtain ⟨w_71, M_72, hr_58, he⟩ := bnd2_ex he
      have j106 : ∀ (H : Heap) (locs : List Loc) (ls : Array Slot), TI M M_72 → va_P D vwCl (wld 31 ad (cM ad k M_72)) H → va_S (AW 31 ad) s.heap H locs → lv_has ls 9 [(0, .ref (ad 0)), (5, .int w_71)] → W p l e rm_X7_answer s m args below meth c H locs 0 0 Q (F0 m 106 ls []) := by
        intro H locs ls hTM_72 hP hS hl
        have qb_M_72 := hTM_72.1.1
        have qs_M_72 := hTM_72.1.2.1
        have qz_M_72 := hTM_72.1.2.2.1
        refine lv_aload_n hx hb dX7_answer_106 rfl (lv_at hl 0 rfl) ?_
        refine call_v [] [] hx hb hml hG hown hK (c_X7_close had M_72 hTM_72.1) gw_30_1 gm_X7_close gd_X7_close rfl rfl ⟨Nat.le_of_ble_eq_true rfl, Nat.le_of_ble_eq_true rfl⟩ ⟨Nat.le_refl _, Nat.le_refl _⟩ (rX7 hK hP) hP (fun _ h => h) hS rfl hl.1 rfl (Nat.le_of_ble_eq_true rfl) dX7_answer_107 (fun M_75 H locs hF_74 hP hS => ?_)
        obtain ⟨hF_74, hti_76⟩ := hF_74
        have he := bnd_at he hF_74.symm
        have hTM_75 : TI M M_75 := TI_tr hTM_72 hti_76
        have qb_M_75 := hTM_75.1.1
        have qs_M_75 := hTM_75.1.2.1
        have qz_M_75 := hTM_75.1.2.2.1
        refine lv_iload hx hb dX7_answer_110 (lv_at hl 1 rfl) ?_
        exact hret _ _ _ _ _ _ ⟨(hV.trans he.symm), hTM_75⟩ hP hS dX7_answer_112
      have lp48 : ∀ (nn : Nat) (H : Heap) (locs : List Loc) (ls : Array Slot) (M_57 : Mem) (v_54 : Int32) (v_55 : Int32) (v_56 : Int32), (0 ≤ v_56.toInt) → (TI M M_57) → (16 - v_56.toInt).toNat < nn → lp_X7_answer_48 nn a1 a2 a3 a4 M_57 v_54 v_55 v_56 = (w_71, M_72) → va_P D vwCl (wld 31 ad (cM ad k M_57)) H → va_S (AW 31 ad) s.heap H locs → lv_has ls 9 [(0, .ref (ad 0)), (1, .int a1), (2, .int a2), (3, .int a3), (4, .int a4), (5, .int v_54), (6, .int v_55), (7, .int v_56)] → W p l e rm_X7_answer s m args below meth c H locs 0 0 Q (F0 m 48 ls []) := by
        intro nn
        induction nn with
        | zero =>
          intro H locs ls M_57 v_54 v_55 v_56 h0v_56 hTM_57 hμ
          exact absurd hμ (Nat.not_lt_zero _)
        | succ nn ih =>
          intro H locs ls M_57 v_54 v_55 v_56 h0v_56 hTM_57 hμ hr_58 hP hS hl
          rw [lp_X7_answer_48] at hr_58
          have qb_M_57 := hTM_57.1.1
          have qs_M_57 := hTM_57.1.2.1
          have qz_M_57 := hTM_57.1.2.2.1
          refine lv_iload hx hb dX7_answer_48 (lv_at hl 7 rfl) ?_
          refine lv_bipush (v := 16) hx hb dX7_answer_50 (by decide) ?_
          refine lv_icmp_ge (tgt := 106) hx hb dX7_answer_52 (by decide) (fun hc_59 => ?_) (fun hc_59 => ?_)
          · have hr_58 := ite_t hr_58 hc_59
            cases hr_58
            exact j106 _ _ _ hTM_57 hP hS (lv_sub hl [0, 5] rfl)
          · have hr_58 := ite_f hr_58 hc_59
            refine lv_aload_n hx hb dX7_answer_55 rfl (lv_at hl 0 rfl) ?_
            refine lv_iload_n hx hb dX7_answer_56 rfl (lv_at hl 1 rfl) ?_
            refine lv_iload_n hx hb dX7_answer_57 rfl (lv_at hl 2 rfl) ?_
            refine lv_iload_n hx hb dX7_answer_58 rfl (lv_at hl 3 rfl) ?_
            refine lv_iload hx hb dX7_answer_59 (lv_at hl 4 rfl) ?_
            refine lv_iload hx hb dX7_answer_61 (lv_at hl 7 rfl) ?_
            refine call_i [.int a1, .int a2, .int a3, .int a4, .int v_56] [] hx hb hml hG hown hK (c_X7_leadBy had M_57 a1 a2 a3 a4 v_56 hTM_57.1) gw_34_2 gm_X7_leadBy gd_X7_leadBy rfl rfl ⟨Nat.le_of_ble_eq_true rfl, Nat.le_of_ble_eq_true rfl⟩ ⟨Nat.le_refl _, Nat.le_refl _⟩ (rX7 hK hP) hP (fun _ h => h) hS rfl hl.1 rfl (Nat.le_of_ble_eq_true rfl) dX7_answer_63 (fun r_60 M_62 H locs hF_61 hP hS => ?_)
            obtain ⟨hF_61, hti_63⟩ := hF_61
            have hr_58 := bnd2_at hr_58 hF_61
            have hTM_62 : TI M M_62 := TI_tr hTM_57 hti_63
            have qb_M_62 := hTM_62.1.1
            have qs_M_62 := hTM_62.1.2.1
            have qz_M_62 := hTM_62.1.2.2.1
            refine lv_istore (lv' := [(8, .int r_60), (0, .ref (ad 0)), (1, .int a1), (2, .int a2), (3, .int a3), (4, .int a4), (5, .int v_54), (6, .int v_55), (7, .int v_56)]) hx hb dX7_answer_66 hl (by decide) rfl (fun ls hl => ?_)
            refine lv_iload hx hb dX7_answer_68 (lv_at hl 0 rfl) ?_
            refine lv_iload hx hb dX7_answer_70 (lv_at hl 7 rfl) ?_
            obtain ⟨t_66, hr_65, hr_58⟩ := bnd_ex hr_58
            have j82 : ∀ (H : Heap) (locs : List Loc) (ls : Array Slot), va_P D vwCl (wld 31 ad (cM ad k M_62)) H → va_S (AW 31 ad) s.heap H locs → lv_has ls 9 [(0, .ref (ad 0)), (1, .int a1), (2, .int a2), (3, .int a3), (4, .int a4), (6, .int v_55), (7, .int v_56), (8, .int r_60)] → W p l e rm_X7_answer s m args below meth c H locs 0 0 Q (F0 m 82 ls [.int t_66]) := by
              intro H locs ls hP hS hl
              refine lv_istore (lv' := [(5, .int t_66), (0, .ref (ad 0)), (1, .int a1), (2, .int a2), (3, .int a3), (4, .int a4), (6, .int v_55), (7, .int v_56), (8, .int r_60)]) hx hb dX7_answer_82 hl (by decide) rfl (fun ls hl => ?_)
              refine lv_iload hx hb dX7_answer_84 (lv_at hl 8 rfl) ?_
              refine lv_iload hx hb dX7_answer_86 (lv_at hl 6 rfl) ?_
              obtain ⟨t_69, hr_68, hr_58⟩ := bnd_ex hr_58
              have j98 : ∀ (H : Heap) (locs : List Loc) (ls : Array Slot), va_P D vwCl (wld 31 ad (cM ad k M_62)) H → va_S (AW 31 ad) s.heap H locs → lv_has ls 9 [(0, .ref (ad 0)), (1, .int a1), (2, .int a2), (3, .int a3), (4, .int a4), (5, .int t_66), (7, .int v_56)] → W p l e rm_X7_answer s m args below meth c H locs 0 0 Q (F0 m 98 ls [.int t_69]) := by
                intro H locs ls hP hS hl
                refine lv_istore (lv' := [(6, .int t_69), (0, .ref (ad 0)), (1, .int a1), (2, .int a2), (3, .int a3), (4, .int a4), (5, .int t_66), (7, .int v_56)]) hx hb dX7_answer_98 hl (by decide) rfl (fun ls hl => ?_)
                obtain ⟨y_70, ey_70⟩ : ∃ y_70 : Int32, y_70 = v_56 + 1 := ⟨_, rfl⟩
                have hr_58 := bnd_at hr_58 ey_70
                refine lv_iinc (v := y_70) (lv' := [(7, .int y_70), (6, .int t_69), (0, .ref (ad 0)), (1, .int a1), (2, .int a2), (3, .int a3), (4, .int a4), (5, .int t_66)]) hx hb dX7_answer_100 hl (k := 7) rfl (by rw [ey_70]; rfl) (by decide) rfl (fun ls hl => ?_)
                refine lv_goto (tgt := 48) hx hb dX7_answer_103 (by decide) ?_
                exact ih _ _ _ _ _ _ _ (by rw [ey_70, inc_I (N := 16) (nle_I hc_59) (by decide)]; omega) hTM_62 (by rw [ey_70]; exact mu_I hμ (nle_I hc_59) (by decide)) hr_58 hP hS (lv_sub hl [2, 3, 4, 5, 6, 7, 1, 0] rfl)
              refine lv_icmp_ge (tgt := 96) hx hb dX7_answer_88 (by decide) (fun hc_67 => ?_) (fun hc_67 => ?_)
              · have hr_68 := ite_t hr_68 hc_67
                refine lv_iload hx hb dX7_answer_96 (lv_at hl 6 rfl) ?_
                cases hr_68
                exact j98 _ _ _ hP hS (lv_sub hl [1, 2, 3, 4, 5, 0, 7] rfl)
              · have hr_68 := ite_f hr_68 hc_67
                refine lv_iload hx hb dX7_answer_91 (lv_at hl 8 rfl) ?_
                refine lv_goto (tgt := 98) hx hb dX7_answer_93 (by decide) ?_
                cases hr_68
                exact j98 _ _ _ hP hS (lv_sub hl [1, 2, 3, 4, 5, 0, 7] rfl)
            refine lv_icmp_ge (tgt := 80) hx hb dX7_answer_72 (by decide) (fun hc_64 => ?_) (fun hc_64 => ?_)
            · have hr_65 := ite_t hr_65 hc_64
              refine lv_iload hx hb dX7_answer_80 (lv_at hl 6 rfl) ?_
              cases hr_65
              exact j82 _ _ _ hP hS (lv_sub hl [1, 2, 3, 4, 5, 7, 8, 0] rfl)
            · have hr_65 := ite_f hr_65 hc_64
              refine lv_iload hx hb dX7_answer_75 (lv_at hl 8 rfl) ?_
              refine lv_goto (tgt := 82) hx hb dX7_answer_77 (by decide) ?_
              cases hr_65
              exact j82 _ _ _ hP hS (lv_sub hl [1, 2, 3, 4, 5, 7, 8, 0] rfl)
      exact lp48 _ _ _ _ _ _ _ _ (by decide) hTM_18 (by decide) hr_58 hP hS (lv_sub hl [3, 4, 5, 6, 7, 2, 1, 0] rfl)
    · have he := ite_f he (fun q => q hc_11)
      refine lv_iconst (v := (-1)) hx hb dX7_answer_27 (by decide) ?_
      exact hret _ _ _ _ _ _ ⟨(hV.trans he.symm), hTM_1⟩ hP hS dX7_answer_28
def rm_X7_cover : Room := { frames := 7, cells := 0, slots := 0, locals := 160 }
theorem gm_X7_cover : Cond.instanceMethod yX7_cover ∈ wsL_law ∧ Cond.selects RX7 yX7_cover yX7_cover ∈ wsL_law ∧ Cond.initialized RX7 ∈ wsL_law ∧ Cond.code yX7_cover cX7_cover 5 (some .int) ∈ wsL_law := ⟨gw_35_20, gw_35_21, gw_1_5, gw_35_22⟩
theorem gd_X7_cover : yX7_cover.cls = RX7 ∧ yX7_cover.cls ≠ "java/lang/invoke/MethodHandle" ∧ yX7_cover.cls ≠ "java/lang/invoke/VarHandle" ∧ (parseMethodDescriptor yX7_cover.desc).map (fun d => d.parameters.length) = some 4 := by decide +kernel
set_option maxRecDepth 100000 in
set_option maxHeartbeats 0 in
theorem c_X7_cover {l : Launch} {D : va_G} {k : Nat → ClassId} {ad : Nat → Nat} (had : InjN 31 ad) (M : Mem) (a1 : Int32) (a2 : Int32) (a3 : Int32) (a4 : Int32) (hI : MI M) : Met l yX7_cover (Cond.code yX7_cover cX7_cover 5 (some .int) :: wsL_law) rm_X7_cover (va_Pc [.ref (ad 0), .int a1, .int a2, .int a3, .int a4] (GW 31 ad D k (cM ad k M))) (va_Qi (fun r u => (f_X7_cover M a1 a2 a3 a4 = (r, u) ∧ TI M u)) (fun u t => GW 31 ad D k (cM ad k u) t) (AW 31 ad)) 0 0 (AW 31 ad) := by
  refine met_i (g := cM ad k) (M := M) (plainFor_of_name (by decide)) (Nat.le_of_ble_eq_true rfl) ?_
  intro p e s m args below meth c Q ls hx hb hml hG hown hK hret hP hS hl
  have hl : lv_has ls 5 [(0, .ref (ad 0)), (1, .int a1), (2, .int a2), (3, .int a3), (4, .int a4)] := hl
  obtain ⟨V, hV⟩ : ∃ V, f_X7_cover M a1 a2 a3 a4 = V := ⟨_, rfl⟩
  have he := hV
  unfold f_X7_cover at he
  have hT0 : TI M M := TI_rf hI
  have qb_M := hI.1
  have qs_M := hI.2.1
  have qz_M := hI.2.2.1
  refine lv_aload_n hx hb dX7_cover_0 rfl (lv_at hl 0 rfl) ?_
  refine lv_iload_n hx hb dX7_cover_1 rfl (lv_at hl 1 rfl) ?_
  refine lv_iload_n hx hb dX7_cover_2 rfl (lv_at hl 2 rfl) ?_
  refine lv_iload_n hx hb dX7_cover_3 rfl (lv_at hl 3 rfl) ?_
  refine lv_iload hx hb dX7_cover_4 (lv_at hl 4 rfl) ?_
  refine lv_iload hx hb dX7_cover_6 (lv_at hl 4 rfl) ?_
  refine call_i [.int a1, .int a2, .int a3, .int a4, .int a4] [] hx hb hml hG hown hK (c_X7_lead had M a1 a2 a3 a4 a4 hT0.1) gw_35_23 gm_X7_lead gd_X7_lead rfl rfl ⟨Nat.le_of_ble_eq_true rfl, Nat.le_of_ble_eq_true rfl⟩ ⟨Nat.le_refl _, Nat.le_refl _⟩ (rX7 hK hP) hP (fun _ h => h) hS rfl hl.1 rfl (Nat.le_of_ble_eq_true rfl) dX7_cover_8 (fun r_1 M_3 H locs hF_2 hP hS => ?_)
  obtain ⟨hF_2, hti_4⟩ := hF_2
  have he := bnd2_at he hF_2
  have hTM_3 : TI M M_3 := TI_tr hT0 hti_4
  have qb_M_3 := hTM_3.1.1
  have qs_M_3 := hTM_3.1.2.1
  have qz_M_3 := hTM_3.1.2.2.1
  exact hret _ _ _ _ _ _ ⟨(hV.trans he.symm), hTM_3⟩ hP hS dX7_cover_11
