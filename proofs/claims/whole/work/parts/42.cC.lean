-- @needs 12_dec 13_dec 14_dec 15_dec 31_hC 40_cC 41_cC
def rm_X6_fault : Room := { frames := 2, cells := 0, slots := 0, locals := 46 }
theorem gm_X6_fault : Cond.instanceMethod yX6_fault ∈ wsL_law ∧ Cond.selects RX6 yX6_fault yX6_fault ∈ wsL_law ∧ Cond.initialized RX6 ∈ wsL_law ∧ Cond.code yX6_fault cX6_fault 4 (some .int) ∈ wsL_law := ⟨gw_7_17, gw_7_18, gw_1_2, gw_7_19⟩
theorem gd_X6_fault : yX6_fault.cls = RX6 ∧ yX6_fault.cls ≠ "java/lang/invoke/MethodHandle" ∧ yX6_fault.cls ≠ "java/lang/invoke/VarHandle" ∧ (parseMethodDescriptor yX6_fault.desc).map (fun d => d.parameters.length) = some 1 := by decide +kernel
set_option maxRecDepth 100000 in
set_option maxHeartbeats 0 in
theorem c_X6_fault {l : Launch} {D : va_G} {k : Nat → ClassId} {ad : Nat → Nat} (had : InjN 74 ad) (M : Mem) (a1 : Int32) : Met l yX6_fault (Cond.code yX6_fault cX6_fault 4 (some .int) :: wsL_law) rm_X6_fault (va_Pc [.ref (ad 0), .int a1] (GW 74 ad D k (cC ad k M))) (va_Qi (fun r u => f_X6_fault M a1 = r ∧ u = M) (fun u t => GW 74 ad D k (cC ad k u) t) (AW 74 ad)) 0 0 (AW 74 ad) := by
  refine met_i (g := cC ad k) (M := M) (plainFor_of_name (by decide)) (Nat.le_of_ble_eq_true rfl) ?_
  intro p e s m args below meth c Q ls hx hb hml hG hown hK hret hP hS hl
  have hl : lv_has ls 4 [(0, .ref (ad 0)), (1, .int a1)] := hl
  obtain ⟨V, hV⟩ : ∃ V, f_X6_fault M a1 = V := ⟨_, rfl⟩
  have he := hV
  unfold f_X6_fault at he
  refine lv_aload_n hx hb dX6_fault_0 rfl (lv_at hl 0 rfl) ?_
  refine lv_iload_n hx hb dX6_fault_1 rfl (lv_at hl 1 rfl) ?_
  refine call_e [.int a1] [] hx hb hml hG hown hK (c_X6_shelfAt had M a1) gw_7_22 gm_X6_shelfAt gd_X6_shelfAt rfl rfl ⟨Nat.le_of_ble_eq_true rfl, Nat.le_of_ble_eq_true rfl⟩ ⟨Nat.le_refl _, Nat.le_refl _⟩ (rX6 hK hP rfl) hP (fun _ h => h) hS rfl hl.1 rfl (Nat.le_of_ble_eq_true rfl) dX6_fault_2 (fun r_1 u_3 H locs hF_2 hP hS => ?_)
  obtain ⟨hz_4, hF_2, hu⟩ := hF_2; rw [hu] at hP
  rcases r_1 with _ | b_5
  · have he := oel_n he hF_2
    refine lv_astore_nN (lv' := [(2, .null), (0, .ref (ad 0)), (1, .int a1)]) hx hb dX6_fault_5 rfl hl (by decide) rfl (fun ls hl => ?_)
    refine lv_aload_nN hx hb dX6_fault_6 rfl (lv_at hl 0 rfl) ?_
    refine lv_ifnonnullN hx hb dX6_fault_7 ?_
    refine lv_iconst (v := (-1)) hx hb dX6_fault_10 (by decide) ?_
    exact hret _ _ _ _ _ _ ⟨hV.trans he.symm, rfl⟩ hP hS dX6_fault_11
  · have he := oel_s he hF_2
    refine lv_astore_n (lv' := [(2, .ref (ad b_5)), (0, .ref (ad 0)), (1, .int a1)]) hx hb dX6_fault_5 rfl hl (by decide) rfl (fun ls hl => ?_)
    refine lv_aload_n hx hb dX6_fault_6 rfl (lv_at hl 0 rfl) ?_
    refine lv_ifnonnull (tgt := 12) hx hb dX6_fault_7 (by decide) ?_
    refine lv_aload_n hx hb dX6_fault_12 rfl (lv_at hl 0 rfl) ?_
    refine call_i [] [] hx hb hml hG hown hK (c_X5_textRefusal had M b_5 (hz_4 _ rfl)) gw_8_2 gm_X5_textRefusal gd_X5_textRefusal rfl rfl ⟨Nat.le_of_ble_eq_true rfl, Nat.le_of_ble_eq_true rfl⟩ ⟨Nat.le_refl _, Nat.le_refl _⟩ (rX5 hK hP (hz_4 _ rfl)) hP (fun _ h => h) hS rfl hl.1 rfl (Nat.le_of_ble_eq_true rfl) dX6_fault_13 (fun r_6 u_8 H locs hF_7 hP hS => ?_)
    obtain ⟨hF_7, hu⟩ := hF_7; rw [hu] at hP; subst hF_7
    refine lv_topi (fun y_9 ey_9 => ?_)
    have he := bnd_at he ey_9
    refine lv_istore_n (lv' := [(3, .int y_9), (2, .ref (ad b_5)), (0, .ref (ad 0)), (1, .int a1)]) hx hb dX6_fault_16 rfl hl (by decide) rfl (fun ls hl => ?_)
    refine lv_iload_n hx hb dX6_fault_17 rfl (lv_at hl 0 rfl) ?_
    obtain ⟨t_15, hr_11, he⟩ := bnd_ex he
    have j36 : ∀ (H : Heap) (locs : List Loc) (ls : Array Slot), va_P D vwCl (wld 74 ad (cC ad k M)) H → va_S (AW 74 ad) s.heap H locs → lv_has ls 4 [] → W p l e rm_X6_fault s m args below meth c H locs 0 0 Q (F0 m 36 ls [.int t_15]) := by
      intro H locs ls hP hS hl
      exact hret _ _ _ _ _ _ ⟨hV.trans he.symm, rfl⟩ hP hS dX6_fault_36
    refine lv_if_eq (tgt := 25) hx hb dX6_fault_18 (by decide) (fun hc_10 => ?_) (fun hc_10 => ?_)
    · have hr_11 := ite_t hr_11 hc_10
      refine lv_aload_n hx hb dX6_fault_25 rfl (lv_at hl 1 rfl) ?_
      refine gX5_4 hx hb hG hown hK hP (hz_4 _ rfl) gw_7_20 dX6_fault_26 ?_
      refine lv_aload_n hx hb dX6_fault_29 rfl (lv_at hl 1 rfl) ?_
      refine gX5_3 hx hb hG hown hK hP (hz_4 _ rfl) gw_7_21 dX6_fault_30 ?_
      refine callS_i [.ref (ad (b_5 + 16)), .int (M b_5 3)] [] hx hb hml hG hown hK (c_X2_faultIn had M (b_5 + 16) (kA_elm (kR_elm (hz_4 _ rfl))) (M b_5 3)) gw_8_11 gm_X2_faultIn gd_X2_faultIn rfl rfl ⟨Nat.le_of_ble_eq_true rfl, Nat.le_of_ble_eq_true rfl⟩ ⟨Nat.le_refl _, Nat.le_refl _⟩ hP (fun _ h => h) hS rfl hl.1 rfl (Nat.le_of_ble_eq_true rfl) dX6_fault_33 (fun r_12 u_14 H locs hF_13 hP hS => ?_)
      obtain ⟨hF_13, hu⟩ := hF_13; rw [hu] at hP; subst hF_13
      cases hr_11
      exact j36 _ _ _ hP hS (lv_sub hl [] rfl)
    · have hr_11 := ite_f hr_11 hc_10
      refine lv_iload_n hx hb dX6_fault_21 rfl (lv_at hl 0 rfl) ?_
      refine lv_goto (tgt := 36) hx hb dX6_fault_22 (by decide) ?_
      cases hr_11
      exact j36 _ _ _ hP hS (lv_sub hl [] rfl)
def rm_X2_addStep : Room := { frames := 0, cells := 0, slots := 0, locals := 0 }
theorem gm_X2_addStep : Cond.instanceMethod yX2_addStep ∈ wsL_law ∧ Cond.selects RX2 yX2_addStep yX2_addStep ∈ wsL_law ∧ Cond.initialized RX2 ∈ wsL_law ∧ Cond.code yX2_addStep cX2_addStep 2 none ∈ wsL_law := ⟨gw_10_15, gw_10_16, gw_2_14, gw_10_17⟩
theorem gd_X2_addStep : yX2_addStep.cls = RX2 ∧ yX2_addStep.cls ≠ "java/lang/invoke/MethodHandle" ∧ yX2_addStep.cls ≠ "java/lang/invoke/VarHandle" ∧ (parseMethodDescriptor yX2_addStep.desc).map (fun d => d.parameters.length) = some 1 := by decide +kernel
set_option maxRecDepth 100000 in
set_option maxHeartbeats 0 in
theorem c_X2_addStep {l : Launch} {D : va_G} {k : Nat → ClassId} {ad : Nat → Nat} (had : InjN 74 ad) (M : Mem) (o : Nat) (ho : kLaw o) (a1 : Int32) : Met l yX2_addStep (Cond.code yX2_addStep cX2_addStep 2 none :: wsL_law) rm_X2_addStep (va_Pc [.ref (ad o), .int a1] (GW 74 ad D k (cC ad k M))) (va_Qv (fun u => f_X2_addStep M o a1 = u) (fun u t => GW 74 ad D k (cC ad k u) t) (AW 74 ad)) 0 0 (AW 74 ad) := by
  refine met_v (g := cC ad k) (M := M) (plainFor_of_name (by decide)) (Nat.le_of_ble_eq_true rfl) ?_
  intro p e s m args below meth c Q ls hx hb hml hG hown hK hret hP hS hl
  have hl : lv_has ls 2 [(0, .ref (ad o)), (1, .int a1)] := hl
  obtain ⟨V, hV⟩ : ∃ V, f_X2_addStep M o a1 = V := ⟨_, rfl⟩
  have he := hV
  unfold f_X2_addStep at he
  refine lv_aload_n hx hb dX2_addStep_0 rfl (lv_at hl 0 rfl) ?_
  refine gX2_1 hx hb hG hown hK hP ho gw_10_12 dX2_addStep_1 ?_
  obtain ⟨M_6, hr_2, he⟩ := bnd_ex he
  have j39 : ∀ (H : Heap) (locs : List Loc) (ls : Array Slot), va_P D vwCl (wld 74 ad (cC ad k M_6)) H → va_S (AW 74 ad) s.heap H locs → lv_has ls 2 [] → W p l e rm_X2_addStep s m args below meth c H locs 0 0 Q (F0 m 39 ls []) := by
    intro H locs ls hP hS hl
    exact hret _ _ _ _ _ (hV.trans he.symm) hP hS dX2_addStep_39
  refine lv_if_lt (tgt := 39) hx hb dX2_addStep_4 (by decide) (fun hc_1 => ?_) (fun hc_1 => ?_)
  · have hr_2 := ite_t hr_2 hc_1
    cases hr_2
    exact j39 _ _ _ hP hS (lv_sub hl [] rfl)
  · have hr_2 := ite_f hr_2 hc_1
    refine lv_aload_n hx hb dX2_addStep_7 rfl (lv_at hl 0 rfl) ?_
    refine gX2_1 hx hb hG hown hK hP ho gw_10_12 dX2_addStep_8 ?_
    refine lv_aload_n hx hb dX2_addStep_11 rfl (lv_at hl 0 rfl) ?_
    refine gX2_0 hx hb hG hown hK hP ho gw_2_21 dX2_addStep_12 ?_
    refine an_kTxt hx hb hK hP (kR_txt ho) dX2_addStep_15 ?_
    refine lv_icmp_ge (tgt := 39) hx hb dX2_addStep_16 (by decide) (fun hc_3 => ?_) (fun hc_3 => ?_)
    · have hr_2 := ite_t hr_2 hc_3
      cases hr_2
      exact j39 _ _ _ hP hS (lv_sub hl [] rfl)
    · have hr_2 := ite_f hr_2 hc_3
      refine lv_aload_n hx hb dX2_addStep_19 rfl (lv_at hl 0 rfl) ?_
      refine gX2_0 hx hb hG hown hK hP ho gw_2_21 dX2_addStep_20 ?_
      refine lv_aload_n hx hb dX2_addStep_23 rfl (lv_at hl 0 rfl) ?_
      refine gX2_1 hx hb hG hown hK hP ho gw_10_12 dX2_addStep_24 ?_
      refine lv_iload_n hx hb dX2_addStep_27 rfl (lv_at hl 1 rfl) ?_
      refine as_kTxt hx hb hK hP had AW_in hS (kR_txt ho) (vin_I (by have q0 : 0 ≤ (M o 1).toInt := nlt_I hc_1; have q1 : (M o 1).toInt < 100 := nle_I hc_3; omega) (by have q0 : 0 ≤ (M o 1).toInt := nlt_I hc_1; have q1 : (M o 1).toInt < 100 := nle_I hc_3; omega)) dX2_addStep_28 (fun H locs hP hS => ?_)
      obtain ⟨M_4, eM_4⟩ : ∃ y : Mem, y = up2 M (o + 6) (M o 1).toNatClampNeg a1 := ⟨_, rfl⟩
      rw [← eM_4] at hP
      have hr_2 := bnd_at hr_2 eM_4
      refine lv_aload_n hx hb dX2_addStep_29 rfl (lv_at hl 0 rfl) ?_
      refine lv_dup hx hb dX2_addStep_30 rfl ?_
      refine gX2_1 hx hb hG hown hK hP ho gw_10_12 dX2_addStep_31 ?_
      refine lv_iconst (v := 1) hx hb dX2_addStep_34 (by decide) ?_
      refine lv_iadd hx hb dX2_addStep_35 ?_
      refine pX2_1 hx hb hG hown hK hP had AW_in hS ho gw_10_12 dX2_addStep_36 (fun H locs hP hS => ?_)
      obtain ⟨M_5, eM_5⟩ : ∃ y : Mem, y = up2 M_4 o 1 ((M_4 o 1) + 1) := ⟨_, rfl⟩
      rw [← eM_5] at hP
      have hr_2 := bnd_at hr_2 eM_5
      cases hr_2
      exact j39 _ _ _ hP hS (lv_sub hl [] rfl)
def rm_X2_tightness : Room := { frames := 1, cells := 0, slots := 0, locals := 20 }
theorem gm_X2_tightness : Cond.static yX2_tightness ∈ wsL_law ∧ Cond.initialized yX2_tightness.cls ∈ wsL_law ∧ Cond.code yX2_tightness cX2_tightness 1 (some .int) ∈ wsL_law := ⟨gw_11_7, gw_2_14, gw_11_8⟩
theorem gd_X2_tightness : yX2_tightness.cls ≠ "java/lang/invoke/MethodHandle" ∧ yX2_tightness.cls ≠ "java/lang/invoke/VarHandle" ∧ (parseMethodDescriptor yX2_tightness.desc).map (fun d => d.parameters.length) = some 1 := by decide +kernel
set_option maxRecDepth 100000 in
set_option maxHeartbeats 0 in
theorem c_X2_tightness {l : Launch} {D : va_G} {k : Nat → ClassId} {ad : Nat → Nat} (had : InjN 74 ad) {M : Mem} (a1 : Int32) : Met l yX2_tightness (Cond.code yX2_tightness cX2_tightness 1 (some .int) :: wsL_law) rm_X2_tightness (va_Pc [.int a1] (GW 74 ad D k (cC ad k M))) (va_Qi (fun r u => f_X2_tightness a1 = r ∧ u = M) (fun u t => GW 74 ad D k (cC ad k u) t) (AW 74 ad)) 0 0 (AW 74 ad) := by
  refine met_i (g := cC ad k) (M := M) (plainFor_of_name (by decide)) (Nat.le_of_ble_eq_true rfl) ?_
  intro p e s m args below meth c Q ls hx hb hml hG hown hK hret hP hS hl
  have hl : lv_has ls 1 [(0, .int a1)] := hl
  obtain ⟨V, hV⟩ : ∃ V, f_X2_tightness a1 = V := ⟨_, rfl⟩
  have he := hV
  unfold f_X2_tightness at he
  refine lv_iload_n hx hb dX2_tightness_0 rfl (lv_at hl 0 rfl) ?_
  refine callS_i [.int a1] [] hx hb hml hG hown hK (c_X2_isProductSign had (M := M)  a1) gw_8_20 gm_X2_isProductSign gd_X2_isProductSign rfl rfl ⟨Nat.le_of_ble_eq_true rfl, Nat.le_of_ble_eq_true rfl⟩ ⟨Nat.le_refl _, Nat.le_refl _⟩ hP (fun _ h => h) hS rfl hl.1 rfl (Nat.le_of_ble_eq_true rfl) dX2_tightness_1 (fun r_1 u_3 H locs hF_2 hP hS => ?_)
  obtain ⟨hz_4, hF_2, hu⟩ := hF_2; rw [hu] at hP; subst hF_2
  refine lv_if_eq (tgt := 9) hx hb dX2_tightness_4 (by decide) (fun hc_5 => ?_) (fun hc_5 => ?_)
  · have he := ite_t he hc_5
    refine lv_iload_n hx hb dX2_tightness_9 rfl (lv_at hl 0 rfl) ?_
    refine callS_i [.int a1] [] hx hb hml hG hown hK (c_X2_isSumSign had (M := M)  a1) gw_8_17 gm_X2_isSumSign gd_X2_isSumSign rfl rfl ⟨Nat.le_of_ble_eq_true rfl, Nat.le_of_ble_eq_true rfl⟩ ⟨Nat.le_refl _, Nat.le_refl _⟩ hP (fun _ h => h) hS rfl hl.1 rfl (Nat.le_of_ble_eq_true rfl) dX2_tightness_10 (fun r_6 u_8 H locs hF_7 hP hS => ?_)
    obtain ⟨hz_9, hF_7, hu⟩ := hF_7; rw [hu] at hP; subst hF_7
    obtain ⟨t_12, hr_11, he⟩ := bnd_ex he
    have j21 : ∀ (H : Heap) (locs : List Loc) (ls : Array Slot), (t_12 = 0 ∨ t_12 = 1) → va_P D vwCl (wld 74 ad (cC ad k M)) H → va_S (AW 74 ad) s.heap H locs → lv_has ls 1 [] → W p l e rm_X2_tightness s m args below meth c H locs 0 0 Q (F0 m 21 ls [.int t_12]) := by
      intro H locs ls zt_12 hP hS hl
      exact hret _ _ _ _ _ _ ⟨hV.trans he.symm, rfl⟩ hP hS dX2_tightness_21
    refine lv_if_eq (tgt := 20) hx hb dX2_tightness_13 (by decide) (fun hc_10 => ?_) (fun hc_10 => ?_)
    · have hr_11 := ite_t hr_11 hc_10
      refine lv_iconst (v := 0) hx hb dX2_tightness_20 (by decide) ?_
      cases hr_11
      exact j21 _ _ _ (Or.inl rfl) hP hS (lv_sub hl [] rfl)
    · have hr_11 := ite_f hr_11 hc_10
      refine lv_iconst (v := 1) hx hb dX2_tightness_16 (by decide) ?_
      refine lv_goto (tgt := 21) hx hb dX2_tightness_17 (by decide) ?_
      cases hr_11
      exact j21 _ _ _ (Or.inr rfl) hP hS (lv_sub hl [] rfl)
  · have he := ite_f he hc_5
    refine lv_iconst (v := 2) hx hb dX2_tightness_7 (by decide) ?_
    exact hret _ _ _ _ _ _ ⟨hV.trans he.symm, rfl⟩ hP hS dX2_tightness_8
def rm_X2_endWaits : Room := { frames := 2, cells := 0, slots := 0, locals := 40 }
theorem gm_X2_endWaits : Cond.instanceMethod yX2_endWaits ∈ wsL_law ∧ Cond.selects RX2 yX2_endWaits yX2_endWaits ∈ wsL_law ∧ Cond.initialized RX2 ∈ wsL_law ∧ Cond.code yX2_endWaits cX2_endWaits 2 none ∈ wsL_law := ⟨gw_11_3, gw_11_4, gw_2_14, gw_11_5⟩
theorem gd_X2_endWaits : yX2_endWaits.cls = RX2 ∧ yX2_endWaits.cls ≠ "java/lang/invoke/MethodHandle" ∧ yX2_endWaits.cls ≠ "java/lang/invoke/VarHandle" ∧ (parseMethodDescriptor yX2_endWaits.desc).map (fun d => d.parameters.length) = some 1 := by decide +kernel
set_option maxRecDepth 100000 in
set_option maxHeartbeats 0 in
theorem c_X2_endWaits {l : Launch} {D : va_G} {k : Nat → ClassId} {ad : Nat → Nat} (had : InjN 74 ad) (M : Mem) (o : Nat) (ho : kLaw o) (a1 : Int32) : Met l yX2_endWaits (Cond.code yX2_endWaits cX2_endWaits 2 none :: wsL_law) rm_X2_endWaits (va_Pc [.ref (ad o), .int a1] (GW 74 ad D k (cC ad k M))) (va_Qv (fun u => f_X2_endWaits M o a1 = u) (fun u t => GW 74 ad D k (cC ad k u) t) (AW 74 ad)) 0 0 (AW 74 ad) := by
  refine met_v (g := cC ad k) (M := M) (plainFor_of_name (by decide)) (Nat.le_of_ble_eq_true rfl) ?_
  intro p e s m args below meth c Q ls hx hb hml hG hown hK hret hP hS hl
  have hl : lv_has ls 2 [(0, .ref (ad o)), (1, .int a1)] := hl
  obtain ⟨V, hV⟩ : ∃ V, f_X2_endWaits M o a1 = V := ⟨_, rfl⟩
  have he := hV
  unfold f_X2_endWaits at he
  obtain ⟨M_13, hr_2, he⟩ := bnd_ex he
  have j64 : ∀ (H : Heap) (locs : List Loc) (ls : Array Slot), va_P D vwCl (wld 74 ad (cC ad k M_13)) H → va_S (AW 74 ad) s.heap H locs → lv_has ls 2 [] → W p l e rm_X2_endWaits s m args below meth c H locs 0 0 Q (F0 m 64 ls []) := by
    intro H locs ls hP hS hl
    exact hret _ _ _ _ _ (hV.trans he.symm) hP hS dX2_endWaits_64
  have lp0 : ∀ (nn : Nat) (H : Heap) (locs : List Loc) (ls : Array Slot) (M_1 : Mem), (M_1 o 3).toInt.toNat < nn → lp_X2_endWaits_0 nn o a1 M_1 = M_13 → va_P D vwCl (wld 74 ad (cC ad k M_1)) H → va_S (AW 74 ad) s.heap H locs → lv_has ls 2 [(0, .ref (ad o)), (1, .int a1)] → W p l e rm_X2_endWaits s m args below meth c H locs 0 0 Q (F0 m 0 ls []) := by
    intro nn
    induction nn with
    | zero =>
      intro H locs ls M_1 hμ
      exact absurd hμ (Nat.not_lt_zero _)
    | succ nn ih =>
      intro H locs ls M_1 hμ hr_2 hP hS hl
      rw [lp_X2_endWaits_0] at hr_2
      refine lv_aload_n hx hb dX2_endWaits_0 rfl (lv_at hl 0 rfl) ?_
      refine gX2_3 hx hb hG hown hK hP ho gw_10_13 dX2_endWaits_1 ?_
      refine lv_if_le (tgt := 64) hx hb dX2_endWaits_4 (by decide) (fun hc_3 => ?_) (fun hc_3 => ?_)
      · have hr_2 := ite_t hr_2 hc_3
        cases hr_2
        exact j64 _ _ _ hP hS (lv_sub hl [] rfl)
      · have hr_2 := ite_f hr_2 hc_3
        refine lv_aload_n hx hb dX2_endWaits_7 rfl (lv_at hl 0 rfl) ?_
        refine gX2_3 hx hb hG hown hK hP ho gw_10_13 dX2_endWaits_8 ?_
        refine lv_aload_n hx hb dX2_endWaits_11 rfl (lv_at hl 0 rfl) ?_
        refine gX2_2 hx hb hG hown hK hP ho gw_2_22 dX2_endWaits_12 ?_
        refine an_kWt hx hb hK hP (kR_wt ho) dX2_endWaits_15 ?_
        refine lv_icmp_gt (tgt := 64) hx hb dX2_endWaits_16 (by decide) (fun hc_4 => ?_) (fun hc_4 => ?_)
        · have hr_2 := ite_t hr_2 hc_4
          cases hr_2
          exact j64 _ _ _ hP hS (lv_sub hl [] rfl)
        · have hr_2 := ite_f hr_2 hc_4
          refine lv_aload_n hx hb dX2_endWaits_19 rfl (lv_at hl 0 rfl) ?_
          refine gX2_2 hx hb hG hown hK hP ho gw_2_22 dX2_endWaits_20 ?_
          refine lv_aload_n hx hb dX2_endWaits_23 rfl (lv_at hl 0 rfl) ?_
          refine gX2_3 hx hb hG hown hK hP ho gw_10_13 dX2_endWaits_24 ?_
          refine lv_iconst (v := 1) hx hb dX2_endWaits_27 (by decide) ?_
          refine lv_isub hx hb dX2_endWaits_28 ?_
          refine al_kWt hx hb hK hP (kR_wt ho) (by have qp := nle_I hc_3; have qq := nlt_I hc_4; have q0 : (0 : Int32).toInt = 0 := rfl; have q1 : (100 : Int32).toInt = 100 := rfl; exact vin_I (by rw [dec_I (by omega)]; omega) (by rw [dec_I (by omega)]; omega)) dX2_endWaits_29 ?_
          refine callS_i [.int (M_1 (o + 64) ((M_1 o 3) - 1).toNatClampNeg)] [] hx hb hml hG hown hK (c_X2_tightness had (M := M_1)  (M_1 (o + 64) ((M_1 o 3) - 1).toNatClampNeg)) gw_11_6 gm_X2_tightness gd_X2_tightness rfl rfl ⟨Nat.le_of_ble_eq_true rfl, Nat.le_of_ble_eq_true rfl⟩ ⟨Nat.le_refl _, Nat.le_refl _⟩ hP (fun _ h => h) hS rfl hl.1 rfl (Nat.le_of_ble_eq_true rfl) dX2_endWaits_30 (fun r_5 u_7 H locs hF_6 hP hS => ?_)
          obtain ⟨hF_6, hu⟩ := hF_6; rw [hu] at hP; subst hF_6
          refine lv_iload_n hx hb dX2_endWaits_33 rfl (lv_at hl 1 rfl) ?_
          refine lv_icmp_lt (tgt := 64) hx hb dX2_endWaits_34 (by decide) (fun hc_8 => ?_) (fun hc_8 => ?_)
          · have hr_2 := ite_t hr_2 hc_8
            cases hr_2
            exact j64 _ _ _ hP hS (lv_sub hl [] rfl)
          · have hr_2 := ite_f hr_2 hc_8
            refine lv_aload_n hx hb dX2_endWaits_37 rfl (lv_at hl 0 rfl) ?_
            refine lv_dup hx hb dX2_endWaits_38 rfl ?_
            refine gX2_3 hx hb hG hown hK hP ho gw_10_13 dX2_endWaits_39 ?_
            refine lv_iconst (v := 1) hx hb dX2_endWaits_42 (by decide) ?_
            refine lv_isub hx hb dX2_endWaits_43 ?_
            refine pX2_3 hx hb hG hown hK hP had AW_in hS ho gw_10_13 dX2_endWaits_44 (fun H locs hP hS => ?_)
            obtain ⟨M_9, eM_9⟩ : ∃ y : Mem, y = up2 M_1 o 3 ((M_1 o 3) - 1) := ⟨_, rfl⟩
            rw [← eM_9] at hP
            have hr_2 := bnd_at hr_2 eM_9
            refine lv_aload_n hx hb dX2_endWaits_47 rfl (lv_at hl 0 rfl) ?_
            refine lv_aload_n hx hb dX2_endWaits_48 rfl (lv_at hl 0 rfl) ?_
            refine gX2_2 hx hb hG hown hK hP ho gw_2_22 dX2_endWaits_49 ?_
            refine lv_aload_n hx hb dX2_endWaits_52 rfl (lv_at hl 0 rfl) ?_
            refine gX2_3 hx hb hG hown hK hP ho gw_10_13 dX2_endWaits_53 ?_
            refine al_kWt hx hb hK hP (kR_wt ho) (by have qp := nle_I hc_3; have qq := nlt_I hc_4; have q0 : (0 : Int32).toInt = 0 := rfl; have q1 : (100 : Int32).toInt = 100 := rfl; rw [eM_9, up2_s]; exact vin_I (by rw [dec_I (by omega)]; omega) (by rw [dec_I (by omega)]; omega)) dX2_endWaits_56 ?_
            refine lv_ineg hx hb dX2_endWaits_57 ?_
            refine call_v [.int (-(M_9 (o + 64) (M_9 o 3).toNatClampNeg))] [] hx hb hml hG hown hK (c_X2_addStep had M_9 o ho (-(M_9 (o + 64) (M_9 o 3).toNatClampNeg))) gw_10_14 gm_X2_addStep gd_X2_addStep rfl rfl ⟨Nat.le_of_ble_eq_true rfl, Nat.le_of_ble_eq_true rfl⟩ ⟨Nat.le_refl _, Nat.le_refl _⟩ (rX2 hK hP ho) hP (fun _ h => h) hS rfl hl.1 rfl (Nat.le_of_ble_eq_true rfl) dX2_endWaits_58 (fun M_12 H locs hF_11 hP hS => ?_)
            have hr_2 := bnd_at hr_2 hF_11.symm
            refine lv_goto (tgt := 0) hx hb dX2_endWaits_61 (by decide) ?_
            exact ih _ _ _ _ (by have qp := nle_I hc_3; have q0 : (0 : Int32).toInt = 0 := rfl; rw [← hF_11, addStep_w, eM_9, up2_s, dec_I (by omega)]; omega) hr_2 hP hS (lv_sub hl [0, 1] rfl)
  exact lp0 _ _ _ _ _ (Nat.lt_succ_self _) hr_2 hP hS (lv_sub hl [0, 1] rfl)
def rm_X2_tellSign : Room := { frames := 3, cells := 0, slots := 0, locals := 61 }
theorem gm_X2_tellSign : Cond.instanceMethod yX2_tellSign ∈ wsL_law ∧ Cond.selects RX2 yX2_tellSign yX2_tellSign ∈ wsL_law ∧ Cond.initialized RX2 ∈ wsL_law ∧ Cond.code yX2_tellSign cX2_tellSign 2 none ∈ wsL_law := ⟨gw_10_19, gw_10_20, gw_2_14, gw_10_21⟩
theorem gd_X2_tellSign : yX2_tellSign.cls = RX2 ∧ yX2_tellSign.cls ≠ "java/lang/invoke/MethodHandle" ∧ yX2_tellSign.cls ≠ "java/lang/invoke/VarHandle" ∧ (parseMethodDescriptor yX2_tellSign.desc).map (fun d => d.parameters.length) = some 1 := by decide +kernel
set_option maxRecDepth 100000 in
set_option maxHeartbeats 0 in
theorem c_X2_tellSign {l : Launch} {D : va_G} {k : Nat → ClassId} {ad : Nat → Nat} (had : InjN 74 ad) (M : Mem) (o : Nat) (ho : kLaw o) (a1 : Int32) : Met l yX2_tellSign (Cond.code yX2_tellSign cX2_tellSign 2 none :: wsL_law) rm_X2_tellSign (va_Pc [.ref (ad o), .int a1] (GW 74 ad D k (cC ad k M))) (va_Qv (fun u => f_X2_tellSign M o a1 = u) (fun u t => GW 74 ad D k (cC ad k u) t) (AW 74 ad)) 0 0 (AW 74 ad) := by
  refine met_v (g := cC ad k) (M := M) (plainFor_of_name (by decide)) (Nat.le_of_ble_eq_true rfl) ?_
  intro p e s m args below meth c Q ls hx hb hml hG hown hK hret hP hS hl
  have hl : lv_has ls 2 [(0, .ref (ad o)), (1, .int a1)] := hl
  obtain ⟨V, hV⟩ : ∃ V, f_X2_tellSign M o a1 = V := ⟨_, rfl⟩
  have he := hV
  unfold f_X2_tellSign at he
  refine lv_iload_n hx hb dX2_tellSign_0 rfl (lv_at hl 1 rfl) ?_
  refine lv_bipush (v := 41) hx hb dX2_tellSign_1 (by decide) ?_
  refine lv_icmp_ne (tgt := 26) hx hb dX2_tellSign_3 (by decide) (fun hc_1 => ?_) (fun hc_1 => ?_)
  · have he := ite_t he hc_1
    refine lv_iload_n hx hb dX2_tellSign_26 rfl (lv_at hl 1 rfl) ?_
    refine lv_bipush (v := 40) hx hb dX2_tellSign_27 (by decide) ?_
    obtain ⟨M_10, hr_3, he⟩ := bnd_ex he
    have j40 : ∀ (H : Heap) (locs : List Loc) (ls : Array Slot), va_P D vwCl (wld 74 ad (cC ad k M_10)) H → va_S (AW 74 ad) s.heap H locs → lv_has ls 2 [(0, .ref (ad o)), (1, .int a1)] → W p l e rm_X2_tellSign s m args below meth c H locs 0 0 Q (F0 m 40 ls []) := by
      intro H locs ls hP hS hl
      refine lv_aload_n hx hb dX2_tellSign_40 rfl (lv_at hl 0 rfl) ?_
      refine gX2_3 hx hb hG hown hK hP ho gw_10_13 dX2_tellSign_41 ?_
      obtain ⟨M_16, hr_12, he⟩ := bnd_ex he
      have j79 : ∀ (H : Heap) (locs : List Loc) (ls : Array Slot), va_P D vwCl (wld 74 ad (cC ad k M_16)) H → va_S (AW 74 ad) s.heap H locs → lv_has ls 2 [] → W p l e rm_X2_tellSign s m args below meth c H locs 0 0 Q (F0 m 79 ls []) := by
        intro H locs ls hP hS hl
        exact hret _ _ _ _ _ (hV.trans he.symm) hP hS dX2_tellSign_79
      refine lv_if_lt (tgt := 79) hx hb dX2_tellSign_44 (by decide) (fun hc_11 => ?_) (fun hc_11 => ?_)
      · have hr_12 := ite_t hr_12 hc_11
        cases hr_12
        exact j79 _ _ _ hP hS (lv_sub hl [] rfl)
      · have hr_12 := ite_f hr_12 hc_11
        refine lv_aload_n hx hb dX2_tellSign_47 rfl (lv_at hl 0 rfl) ?_
        refine gX2_3 hx hb hG hown hK hP ho gw_10_13 dX2_tellSign_48 ?_
        refine lv_aload_n hx hb dX2_tellSign_51 rfl (lv_at hl 0 rfl) ?_
        refine gX2_2 hx hb hG hown hK hP ho gw_2_22 dX2_tellSign_52 ?_
        refine an_kWt hx hb hK hP (kR_wt ho) dX2_tellSign_55 ?_
        refine lv_icmp_ge (tgt := 79) hx hb dX2_tellSign_56 (by decide) (fun hc_13 => ?_) (fun hc_13 => ?_)
        · have hr_12 := ite_t hr_12 hc_13
          cases hr_12
          exact j79 _ _ _ hP hS (lv_sub hl [] rfl)
        · have hr_12 := ite_f hr_12 hc_13
          refine lv_aload_n hx hb dX2_tellSign_59 rfl (lv_at hl 0 rfl) ?_
          refine gX2_2 hx hb hG hown hK hP ho gw_2_22 dX2_tellSign_60 ?_
          refine lv_aload_n hx hb dX2_tellSign_63 rfl (lv_at hl 0 rfl) ?_
          refine gX2_3 hx hb hG hown hK hP ho gw_10_13 dX2_tellSign_64 ?_
          refine lv_iload_n hx hb dX2_tellSign_67 rfl (lv_at hl 1 rfl) ?_
          refine as_kWt hx hb hK hP had AW_in hS (kR_wt ho) (vin_I (by have q0 : 0 ≤ (M_10 o 3).toInt := nlt_I hc_11; have q1 : (M_10 o 3).toInt < 100 := nle_I hc_13; omega) (by have q0 : 0 ≤ (M_10 o 3).toInt := nlt_I hc_11; have q1 : (M_10 o 3).toInt < 100 := nle_I hc_13; omega)) dX2_tellSign_68 (fun H locs hP hS => ?_)
          obtain ⟨M_14, eM_14⟩ : ∃ y : Mem, y = up2 M_10 (o + 64) (M_10 o 3).toNatClampNeg a1 := ⟨_, rfl⟩
          rw [← eM_14] at hP
          have hr_12 := bnd_at hr_12 eM_14
          refine lv_aload_n hx hb dX2_tellSign_69 rfl (lv_at hl 0 rfl) ?_
          refine lv_dup hx hb dX2_tellSign_70 rfl ?_
          refine gX2_3 hx hb hG hown hK hP ho gw_10_13 dX2_tellSign_71 ?_
          refine lv_iconst (v := 1) hx hb dX2_tellSign_74 (by decide) ?_
          refine lv_iadd hx hb dX2_tellSign_75 ?_
          refine pX2_3 hx hb hG hown hK hP had AW_in hS ho gw_10_13 dX2_tellSign_76 (fun H locs hP hS => ?_)
          obtain ⟨M_15, eM_15⟩ : ∃ y : Mem, y = up2 M_14 o 3 ((M_14 o 3) + 1) := ⟨_, rfl⟩
          rw [← eM_15] at hP
          have hr_12 := bnd_at hr_12 eM_15
          cases hr_12
          exact j79 _ _ _ hP hS (lv_sub hl [] rfl)
    refine lv_icmp_eq (tgt := 40) hx hb dX2_tellSign_29 (by decide) (fun hc_2 => ?_) (fun hc_2 => ?_)
    · have hr_3 := ite_t hr_3 hc_2
      cases hr_3
      exact j40 _ _ _ hP hS (lv_sub hl [0, 1] rfl)
    · have hr_3 := ite_f hr_3 hc_2
      refine lv_aload_n hx hb dX2_tellSign_32 rfl (lv_at hl 0 rfl) ?_
      refine lv_iload_n hx hb dX2_tellSign_33 rfl (lv_at hl 1 rfl) ?_
      refine callS_i [.int a1] [.ref (ad o)] hx hb hml hG hown hK (c_X2_tightness had (M := M)  a1) gw_11_6 gm_X2_tightness gd_X2_tightness rfl rfl ⟨Nat.le_of_ble_eq_true rfl, Nat.le_of_ble_eq_true rfl⟩ ⟨Nat.le_refl _, Nat.le_refl _⟩ hP (fun _ h => h) hS rfl hl.1 rfl (Nat.le_of_ble_eq_true rfl) dX2_tellSign_34 (fun r_4 u_6 H locs hF_5 hP hS => ?_)
      obtain ⟨hF_5, hu⟩ := hF_5; rw [hu] at hP; subst hF_5
      refine call_v [.int (f_X2_tightness a1)] [] hx hb hml hG hown hK (c_X2_endWaits had M o ho (f_X2_tightness a1)) gw_11_2 gm_X2_endWaits gd_X2_endWaits rfl rfl ⟨Nat.le_of_ble_eq_true rfl, Nat.le_of_ble_eq_true rfl⟩ ⟨Nat.le_refl _, Nat.le_refl _⟩ (rX2 hK hP ho) hP (fun _ h => h) hS rfl hl.1 rfl (Nat.le_of_ble_eq_true rfl) dX2_tellSign_37 (fun M_9 H locs hF_8 hP hS => ?_)
      have hr_3 := bnd_at hr_3 hF_8.symm
      cases hr_3
      exact j40 _ _ _ hP hS (lv_sub hl [0, 1] rfl)
  · have he := ite_f he (fun q => q hc_1)
    refine lv_aload_n hx hb dX2_tellSign_6 rfl (lv_at hl 0 rfl) ?_
    refine lv_iconst (v := 1) hx hb dX2_tellSign_7 (by decide) ?_
    refine call_v [.int 1] [] hx hb hml hG hown hK (c_X2_endWaits had M o ho 1) gw_11_2 gm_X2_endWaits gd_X2_endWaits rfl rfl ⟨Nat.le_of_ble_eq_true rfl, Nat.le_of_ble_eq_true rfl⟩ ⟨Nat.le_refl _, Nat.le_refl _⟩ (rX2 hK hP ho) hP (fun _ h => h) hS rfl hl.1 rfl (Nat.le_of_ble_eq_true rfl) dX2_tellSign_8 (fun M_19 H locs hF_18 hP hS => ?_)
    have he := bnd_at he hF_18.symm
    refine lv_aload_n hx hb dX2_tellSign_11 rfl (lv_at hl 0 rfl) ?_
    refine lv_iconst (v := 0) hx hb dX2_tellSign_12 (by decide) ?_
    refine lv_aload_n hx hb dX2_tellSign_13 rfl (lv_at hl 0 rfl) ?_
    refine gX2_3 hx hb hG hown hK hP ho gw_10_13 dX2_tellSign_14 ?_
    refine lv_iconst (v := 1) hx hb dX2_tellSign_17 (by decide) ?_
    refine lv_isub hx hb dX2_tellSign_18 ?_
    refine w_max hx hb hml hG hown gw_10_22 (Nat.le_of_ble_eq_true rfl) (Nat.le_of_ble_eq_true rfl) hl.1 ⟨Nat.le_refl _, Nat.le_refl _⟩ dX2_tellSign_19 ?_
    refine pX2_3 hx hb hG hown hK hP had AW_in hS ho gw_10_13 dX2_tellSign_22 (fun H locs hP hS => ?_)
    obtain ⟨M_20, eM_20⟩ : ∃ y : Mem, y = up2 M_19 o 3 (mx 0 ((M_19 o 3) - 1)) := ⟨_, rfl⟩
    rw [← eM_20] at hP
    have he := bnd_at he eM_20
    exact hret _ _ _ _ _ (hV.trans he.symm) hP hS dX2_tellSign_25
def rm_X2_tell : Room := { frames := 4, cells := 0, slots := 0, locals := 82 }
theorem gm_X2_tell : Cond.instanceMethod yX2_tell ∈ wsL_law ∧ Cond.selects RX2 yX2_tell yX2_tell ∈ wsL_law ∧ Cond.initialized RX2 ∈ wsL_law ∧ Cond.code yX2_tell cX2_tell 6 none ∈ wsL_law := ⟨gw_10_9, gw_10_10, gw_2_14, gw_10_11⟩
theorem gd_X2_tell : yX2_tell.cls = RX2 ∧ yX2_tell.cls ≠ "java/lang/invoke/MethodHandle" ∧ yX2_tell.cls ≠ "java/lang/invoke/VarHandle" ∧ (parseMethodDescriptor yX2_tell.desc).map (fun d => d.parameters.length) = some 2 := by decide +kernel
set_option maxRecDepth 100000 in
set_option maxHeartbeats 0 in
theorem c_X2_tell {l : Launch} {D : va_G} {k : Nat → ClassId} {ad : Nat → Nat} (had : InjN 74 ad) (M : Mem) (o : Nat) (ho : kLaw o) (a1 : Nat) (ha1 : kA100 a1) (a2 : Int32) : Met l yX2_tell (Cond.code yX2_tell cX2_tell 6 none :: wsL_law) rm_X2_tell (va_Pc [.ref (ad o), .ref (ad a1), .int a2] (GW 74 ad D k (cC ad k M))) (va_Qv (fun u => f_X2_tell M o a1 a2 = u) (fun u t => GW 74 ad D k (cC ad k u) t) (AW 74 ad)) 0 0 (AW 74 ad) := by
  refine met_v (g := cC ad k) (M := M) (plainFor_of_name (by decide)) (Nat.le_of_ble_eq_true rfl) ?_
  intro p e s m args below meth c Q ls hx hb hml hG hown hK hret hP hS hl
  have hl : lv_has ls 6 [(0, .ref (ad o)), (1, .ref (ad a1)), (2, .int a2)] := hl
  obtain ⟨V, hV⟩ : ∃ V, f_X2_tell M o a1 a2 = V := ⟨_, rfl⟩
  have he := hV
  unfold f_X2_tell at he
  refine lv_aload_n hx hb dX2_tell_0 rfl (lv_at hl 0 rfl) ?_
  refine lv_iconst (v := 0) hx hb dX2_tell_1 (by decide) ?_
  refine pX2_1 hx hb hG hown hK hP had AW_in hS ho gw_10_12 dX2_tell_2 (fun H locs hP hS => ?_)
  obtain ⟨M_1, eM_1⟩ : ∃ y : Mem, y = up2 M o 1 0 := ⟨_, rfl⟩
  rw [← eM_1] at hP
  have he := bnd_at he eM_1
  refine lv_aload_n hx hb dX2_tell_5 rfl (lv_at hl 0 rfl) ?_
  refine lv_iconst (v := 0) hx hb dX2_tell_6 (by decide) ?_
  refine pX2_3 hx hb hG hown hK hP had AW_in hS ho gw_10_13 dX2_tell_7 (fun H locs hP hS => ?_)
  obtain ⟨M_2, eM_2⟩ : ∃ y : Mem, y = up2 M_1 o 3 0 := ⟨_, rfl⟩
  rw [← eM_2] at hP
  have he := bnd_at he eM_2
  refine lv_iconst (v := 0) hx hb dX2_tell_10 (by decide) ?_
  refine lv_istore_n (lv' := [(3, .int 0), (0, .ref (ad o)), (1, .ref (ad a1)), (2, .int a2)]) hx hb dX2_tell_11 rfl hl (by decide) rfl (fun ls hl => ?_)
  refine lv_iconst (v := 0) hx hb dX2_tell_12 (by decide) ?_
  refine lv_istore (lv' := [(4, .int 0), (3, .int 0), (0, .ref (ad o)), (1, .ref (ad a1)), (2, .int a2)]) hx hb dX2_tell_13 hl (by decide) rfl (fun ls hl => ?_)
  obtain ⟨M_103, hr_56, he⟩ := bnd_ex he
  have j138 : ∀ (H : Heap) (locs : List Loc) (ls : Array Slot), va_P D vwCl (wld 74 ad (cC ad k M_103)) H → va_S (AW 74 ad) s.heap H locs → lv_has ls 6 [(0, .ref (ad o))] → W p l e rm_X2_tell s m args below meth c H locs 0 0 Q (F0 m 138 ls []) := by
    intro H locs ls hP hS hl
    refine lv_aload_n hx hb dX2_tell_138 rfl (lv_at hl 0 rfl) ?_
    refine lv_iconst (v := 1) hx hb dX2_tell_139 (by decide) ?_
    refine call_v [.int 1] [] hx hb hml hG hown hK (c_X2_endWaits had M_103 o ho 1) gw_11_2 gm_X2_endWaits gd_X2_endWaits rfl rfl ⟨Nat.le_of_ble_eq_true rfl, Nat.le_of_ble_eq_true rfl⟩ ⟨Nat.le_refl _, Nat.le_refl _⟩ (rX2 hK hP ho) hP (fun _ h => h) hS rfl hl.1 rfl (Nat.le_of_ble_eq_true rfl) dX2_tell_140 (fun M_106 H locs hF_105 hP hS => ?_)
    have he := bnd_at he hF_105.symm
    exact hret _ _ _ _ _ (hV.trans he.symm) hP hS dX2_tell_143
  have lp15 : ∀ (nn : Nat) (H : Heap) (locs : List Loc) (ls : Array Slot) (M_55 : Mem) (v_53 : Int32) (v_54 : Int32), (0 ≤ v_54.toInt) → (100 - v_54.toInt).toNat < nn → lp_X2_tell_15 nn o a1 a2 M_55 v_53 v_54 = M_103 → va_P D vwCl (wld 74 ad (cC ad k M_55)) H → va_S (AW 74 ad) s.heap H locs → lv_has ls 6 [(0, .ref (ad o)), (1, .ref (ad a1)), (2, .int a2), (3, .int v_53), (4, .int v_54)] → W p l e rm_X2_tell s m args below meth c H locs 0 0 Q (F0 m 15 ls []) := by
    intro nn
    induction nn with
    | zero =>
      intro H locs ls M_55 v_53 v_54 h0v_54 hμ
      exact absurd hμ (Nat.not_lt_zero _)
    | succ nn ih =>
      intro H locs ls M_55 v_53 v_54 h0v_54 hμ hr_56 hP hS hl
      rw [lp_X2_tell_15] at hr_56
      refine lv_iload hx hb dX2_tell_15 (lv_at hl 4 rfl) ?_
      refine lv_iload_n hx hb dX2_tell_17 rfl (lv_at hl 2 rfl) ?_
      refine lv_icmp_ge (tgt := 138) hx hb dX2_tell_18 (by decide) (fun hc_57 => ?_) (fun hc_57 => ?_)
      · have hr_56 := ite_t hr_56 hc_57
        cases hr_56
        exact j138 _ _ _ hP hS (lv_sub hl [0] rfl)
      · have hr_56 := ite_f hr_56 hc_57
        refine lv_iload hx hb dX2_tell_21 (lv_at hl 4 rfl) ?_
        refine lv_aload_n hx hb dX2_tell_23 rfl (lv_at hl 1 rfl) ?_
        refine an_kA100 hx hb hK hP ha1 dX2_tell_24 ?_
        refine lv_icmp_ge (tgt := 138) hx hb dX2_tell_25 (by decide) (fun hc_58 => ?_) (fun hc_58 => ?_)
        · have hr_56 := ite_t hr_56 hc_58
          cases hr_56
          exact j138 _ _ _ hP hS (lv_sub hl [0] rfl)
        · have hr_56 := ite_f hr_56 hc_58
          refine lv_aload_n hx hb dX2_tell_28 rfl (lv_at hl 1 rfl) ?_
          refine lv_iload hx hb dX2_tell_29 (lv_at hl 4 rfl) ?_
          refine al_kA100 hx hb hK hP ha1 (vin_I (by have q0 : v_54.toInt < a2.toInt := nle_I hc_57; have q1 : v_54.toInt < 100 := nle_I hc_58; omega) (by have q0 : v_54.toInt < a2.toInt := nle_I hc_57; have q1 : v_54.toInt < 100 := nle_I hc_58; omega)) dX2_tell_31 ?_
          refine lv_topi (fun y_59 ey_59 => ?_)
          have hr_56 := bnd_at hr_56 ey_59
          refine lv_istore (lv' := [(5, .int y_59), (0, .ref (ad o)), (1, .ref (ad a1)), (2, .int a2), (3, .int v_53), (4, .int v_54)]) hx hb dX2_tell_32 hl (by decide) rfl (fun ls hl => ?_)
          refine lv_iload hx hb dX2_tell_34 (lv_at hl 0 rfl) ?_
          refine callS_i [.int y_59] [] hx hb hml hG hown hK (c_X2_isDigit had (M := M_55)  y_59) gw_8_14 gm_X2_isDigit gd_X2_isDigit rfl rfl ⟨Nat.le_of_ble_eq_true rfl, Nat.le_of_ble_eq_true rfl⟩ ⟨Nat.le_refl _, Nat.le_refl _⟩ hP (fun _ h => h) hS rfl hl.1 rfl (Nat.le_of_ble_eq_true rfl) dX2_tell_36 (fun r_60 u_62 H locs hF_61 hP hS => ?_)
          obtain ⟨hz_63, hF_61, hu⟩ := hF_61; rw [hu] at hP; subst hF_61
          obtain ⟨x_100, M_101, hr_65, hr_56⟩ := bnd2_ex hr_56
          have j132 : ∀ (H : Heap) (locs : List Loc) (ls : Array Slot), va_P D vwCl (wld 74 ad (cC ad k M_101)) H → va_S (AW 74 ad) s.heap H locs → lv_has ls 6 [(0, .ref (ad o)), (1, .ref (ad a1)), (2, .int a2), (3, .int x_100), (4, .int v_54)] → W p l e rm_X2_tell s m args below meth c H locs 0 0 Q (F0 m 132 ls []) := by
            intro H locs ls hP hS hl
            obtain ⟨y_102, ey_102⟩ : ∃ y_102 : Int32, y_102 = v_54 + 1 := ⟨_, rfl⟩
            have hr_56 := bnd_at hr_56 ey_102
            refine lv_iinc (v := y_102) (lv' := [(4, .int y_102), (0, .ref (ad o)), (1, .ref (ad a1)), (2, .int a2), (3, .int x_100)]) hx hb dX2_tell_132 hl (k := 4) rfl (by rw [ey_102]; rfl) (by decide) rfl (fun ls hl => ?_)
            refine lv_goto (tgt := 15) hx hb dX2_tell_135 (by decide) ?_
            exact ih _ _ _ _ _ _ (by rw [ey_102, inc_I (N := 100) (nle_I hc_58) (by decide)]; omega) (by rw [ey_102]; exact mu_I hμ (nle_I hc_58) (by decide)) hr_56 hP hS (lv_sub hl [1, 2, 3, 4, 0] rfl)
          refine lv_if_eq (tgt := 92) hx hb dX2_tell_39 (by decide) (fun hc_64 => ?_) (fun hc_64 => ?_)
          · have hr_65 := ite_t hr_65 hc_64
            refine lv_iload hx hb dX2_tell_92 (lv_at hl 0 rfl) ?_
            refine lv_bipush (v := 116) hx hb dX2_tell_94 (by decide) ?_
            refine lv_icmp_eq (tgt := 106) hx hb dX2_tell_96 (by decide) (fun hc_66 => ?_) (fun hc_66 => ?_)
            · have hr_65 := ite_t hr_65 hc_66
              refine lv_aload_n hx hb dX2_tell_106 rfl (lv_at hl 1 rfl) ?_
              refine lv_iload hx hb dX2_tell_107 (lv_at hl 0 rfl) ?_
              refine lv_bipush (v := 116) hx hb dX2_tell_109 (by decide) ?_
              obtain ⟨t_69, hr_68, hr_65⟩ := bnd_ex hr_65
              have j120 : ∀ (H : Heap) (locs : List Loc) (ls : Array Slot), va_P D vwCl (wld 74 ad (cC ad k M_55)) H → va_S (AW 74 ad) s.heap H locs → lv_has ls 6 [(0, .ref (ad o)), (1, .ref (ad a1)), (2, .int a2), (3, .int v_53), (4, .int v_54)] → W p l e rm_X2_tell s m args below meth c H locs 0 0 Q (F0 m 120 ls [.int t_69, .ref (ad o)]) := by
                intro H locs ls hP hS hl
                refine call_v [.int t_69] [] hx hb hml hG hown hK (c_X2_addStep had M_55 o ho t_69) gw_10_14 gm_X2_addStep gd_X2_addStep rfl rfl ⟨Nat.le_of_ble_eq_true rfl, Nat.le_of_ble_eq_true rfl⟩ ⟨Nat.le_refl _, Nat.le_refl _⟩ (rX2 hK hP ho) hP (fun _ h => h) hS rfl hl.1 rfl (Nat.le_of_ble_eq_true rfl) dX2_tell_120 (fun M_72 H locs hF_71 hP hS => ?_)
                have hr_65 := bnd_at hr_65 hF_71.symm
                refine lv_goto (tgt := 132) hx hb dX2_tell_123 (by decide) ?_
                cases hr_65
                exact j132 _ _ _ hP hS (lv_sub hl [0, 1, 2, 3, 4] rfl)
              refine lv_icmp_ne (tgt := 118) hx hb dX2_tell_111 (by decide) (fun hc_67 => ?_) (fun hc_67 => ?_)
              · have hr_68 := ite_t hr_68 hc_67
                refine lv_bipush (v := (-2)) hx hb dX2_tell_118 (by decide) ?_
                cases hr_68
                exact j120 _ _ _ hP hS (lv_sub hl [1, 2, 3, 4, 5] rfl)
              · have hr_68 := ite_f hr_68 (fun q => q hc_67)
                refine lv_iconst (v := (-1)) hx hb dX2_tell_114 (by decide) ?_
                refine lv_goto (tgt := 120) hx hb dX2_tell_115 (by decide) ?_
                cases hr_68
                exact j120 _ _ _ hP hS (lv_sub hl [1, 2, 3, 4, 5] rfl)
            · have hr_65 := ite_f hr_65 hc_66
              refine lv_iload hx hb dX2_tell_99 (lv_at hl 0 rfl) ?_
              refine lv_bipush (v := 115) hx hb dX2_tell_101 (by decide) ?_
              refine lv_icmp_ne (tgt := 126) hx hb dX2_tell_103 (by decide) (fun hc_73 => ?_) (fun hc_73 => ?_)
              · have hr_65 := ite_t hr_65 hc_73
                refine lv_aload_n hx hb dX2_tell_126 rfl (lv_at hl 1 rfl) ?_
                refine lv_iload hx hb dX2_tell_127 (lv_at hl 0 rfl) ?_
                refine call_v [.int y_59] [] hx hb hml hG hown hK (c_X2_tellSign had M_55 o ho y_59) gw_10_18 gm_X2_tellSign gd_X2_tellSign rfl rfl ⟨Nat.le_of_ble_eq_true rfl, Nat.le_of_ble_eq_true rfl⟩ ⟨Nat.le_refl _, Nat.le_refl _⟩ (rX2 hK hP ho) hP (fun _ h => h) hS rfl hl.1 rfl (Nat.le_of_ble_eq_true rfl) dX2_tell_129 (fun M_76 H locs hF_75 hP hS => ?_)
                have hr_65 := bnd_at hr_65 hF_75.symm
                cases hr_65
                exact j132 _ _ _ hP hS (lv_sub hl [1, 2, 3, 4, 5] rfl)
              · have hr_65 := ite_f hr_65 (fun q => q hc_73)
                refine lv_aload_n hx hb dX2_tell_106 rfl (lv_at hl 1 rfl) ?_
                refine lv_iload hx hb dX2_tell_107 (lv_at hl 0 rfl) ?_
                refine lv_bipush (v := 116) hx hb dX2_tell_109 (by decide) ?_
                obtain ⟨t_79, hr_78, hr_65⟩ := bnd_ex hr_65
                have j120 : ∀ (H : Heap) (locs : List Loc) (ls : Array Slot), va_P D vwCl (wld 74 ad (cC ad k M_55)) H → va_S (AW 74 ad) s.heap H locs → lv_has ls 6 [(0, .ref (ad o)), (1, .ref (ad a1)), (2, .int a2), (3, .int v_53), (4, .int v_54)] → W p l e rm_X2_tell s m args below meth c H locs 0 0 Q (F0 m 120 ls [.int t_79, .ref (ad o)]) := by
                  intro H locs ls hP hS hl
                  refine call_v [.int t_79] [] hx hb hml hG hown hK (c_X2_addStep had M_55 o ho t_79) gw_10_14 gm_X2_addStep gd_X2_addStep rfl rfl ⟨Nat.le_of_ble_eq_true rfl, Nat.le_of_ble_eq_true rfl⟩ ⟨Nat.le_refl _, Nat.le_refl _⟩ (rX2 hK hP ho) hP (fun _ h => h) hS rfl hl.1 rfl (Nat.le_of_ble_eq_true rfl) dX2_tell_120 (fun M_82 H locs hF_81 hP hS => ?_)
                  have hr_65 := bnd_at hr_65 hF_81.symm
                  refine lv_goto (tgt := 132) hx hb dX2_tell_123 (by decide) ?_
                  cases hr_65
                  exact j132 _ _ _ hP hS (lv_sub hl [0, 1, 2, 3, 4] rfl)
                refine lv_icmp_ne (tgt := 118) hx hb dX2_tell_111 (by decide) (fun hc_77 => ?_) (fun hc_77 => ?_)
                · have hr_78 := ite_t hr_78 hc_77
                  refine lv_bipush (v := (-2)) hx hb dX2_tell_118 (by decide) ?_
                  cases hr_78
                  exact j120 _ _ _ hP hS (lv_sub hl [1, 2, 3, 4, 5] rfl)
                · have hr_78 := ite_f hr_78 (fun q => q hc_77)
                  refine lv_iconst (v := (-1)) hx hb dX2_tell_114 (by decide) ?_
                  refine lv_goto (tgt := 120) hx hb dX2_tell_115 (by decide) ?_
                  cases hr_78
                  exact j120 _ _ _ hP hS (lv_sub hl [1, 2, 3, 4, 5] rfl)
          · have hr_65 := ite_f hr_65 hc_64
            refine lv_iload_n hx hb dX2_tell_42 rfl (lv_at hl 4 rfl) ?_
            refine lv_bipush (v := 10) hx hb dX2_tell_43 (by decide) ?_
            refine lv_imul hx hb dX2_tell_45 ?_
            refine lv_iload hx hb dX2_tell_46 (lv_at hl 0 rfl) ?_
            refine lv_iadd hx hb dX2_tell_48 ?_
            refine lv_bipush (v := 48) hx hb dX2_tell_49 (by decide) ?_
            refine lv_isub hx hb dX2_tell_51 ?_
            refine lv_topi (fun y_83 ey_83 => ?_)
            have hr_65 := bnd_at hr_65 ey_83
            refine lv_istore_n (lv' := [(3, .int y_83), (5, .int y_59), (0, .ref (ad o)), (1, .ref (ad a1)), (2, .int a2), (4, .int v_54)]) hx hb dX2_tell_52 rfl hl (by decide) rfl (fun ls hl => ?_)
            refine lv_iload hx hb dX2_tell_53 (lv_at hl 5 rfl) ?_
            refine lv_iconst (v := 1) hx hb dX2_tell_55 (by decide) ?_
            refine lv_iadd hx hb dX2_tell_56 ?_
            refine lv_iload_n hx hb dX2_tell_57 rfl (lv_at hl 4 rfl) ?_
            refine lv_icmp_ge (tgt := 82) hx hb dX2_tell_58 (by decide) (fun hc_84 => ?_) (fun hc_84 => ?_)
            · have hr_65 := ite_t hr_65 hc_84
              refine lv_aload_n hx hb dX2_tell_82 rfl (lv_at hl 2 rfl) ?_
              refine lv_iload_n hx hb dX2_tell_83 rfl (lv_at hl 0 rfl) ?_
              refine call_v [.int y_83] [] hx hb hml hG hown hK (c_X2_addStep had M_55 o ho y_83) gw_10_14 gm_X2_addStep gd_X2_addStep rfl rfl ⟨Nat.le_of_ble_eq_true rfl, Nat.le_of_ble_eq_true rfl⟩ ⟨Nat.le_refl _, Nat.le_refl _⟩ (rX2 hK hP ho) hP (fun _ h => h) hS rfl hl.1 rfl (Nat.le_of_ble_eq_true rfl) dX2_tell_84 (fun M_87 H locs hF_86 hP hS => ?_)
              have hr_65 := bnd_at hr_65 hF_86.symm
              refine lv_iconst (v := 0) hx hb dX2_tell_87 (by decide) ?_
              refine lv_istore_n (lv' := [(3, .int 0), (5, .int y_59), (0, .ref (ad o)), (1, .ref (ad a1)), (2, .int a2), (4, .int v_54)]) hx hb dX2_tell_88 rfl hl (by decide) rfl (fun ls hl => ?_)
              refine lv_goto (tgt := 132) hx hb dX2_tell_89 (by decide) ?_
              cases hr_65
              exact j132 _ _ _ hP hS (lv_sub hl [2, 3, 4, 0, 5] rfl)
            · have hr_65 := ite_f hr_65 hc_84
              refine lv_iload hx hb dX2_tell_61 (lv_at hl 5 rfl) ?_
              refine lv_iconst (v := 1) hx hb dX2_tell_63 (by decide) ?_
              refine lv_iadd hx hb dX2_tell_64 ?_
              refine lv_aload_n hx hb dX2_tell_65 rfl (lv_at hl 3 rfl) ?_
              refine an_kA100 hx hb hK hP ha1 dX2_tell_66 ?_
              refine lv_icmp_ge (tgt := 82) hx hb dX2_tell_67 (by decide) (fun hc_88 => ?_) (fun hc_88 => ?_)
              · have hr_65 := ite_t hr_65 hc_88
                refine lv_aload_n hx hb dX2_tell_82 rfl (lv_at hl 2 rfl) ?_
                refine lv_iload_n hx hb dX2_tell_83 rfl (lv_at hl 0 rfl) ?_
                refine call_v [.int y_83] [] hx hb hml hG hown hK (c_X2_addStep had M_55 o ho y_83) gw_10_14 gm_X2_addStep gd_X2_addStep rfl rfl ⟨Nat.le_of_ble_eq_true rfl, Nat.le_of_ble_eq_true rfl⟩ ⟨Nat.le_refl _, Nat.le_refl _⟩ (rX2 hK hP ho) hP (fun _ h => h) hS rfl hl.1 rfl (Nat.le_of_ble_eq_true rfl) dX2_tell_84 (fun M_91 H locs hF_90 hP hS => ?_)
                have hr_65 := bnd_at hr_65 hF_90.symm
                refine lv_iconst (v := 0) hx hb dX2_tell_87 (by decide) ?_
                refine lv_istore_n (lv' := [(3, .int 0), (5, .int y_59), (0, .ref (ad o)), (1, .ref (ad a1)), (2, .int a2), (4, .int v_54)]) hx hb dX2_tell_88 rfl hl (by decide) rfl (fun ls hl => ?_)
                refine lv_goto (tgt := 132) hx hb dX2_tell_89 (by decide) ?_
                cases hr_65
                exact j132 _ _ _ hP hS (lv_sub hl [2, 3, 4, 0, 5] rfl)
              · have hr_65 := ite_f hr_65 hc_88
                refine lv_aload_n hx hb dX2_tell_70 rfl (lv_at hl 3 rfl) ?_
                refine lv_iload hx hb dX2_tell_71 (lv_at hl 5 rfl) ?_
                refine lv_iconst (v := 1) hx hb dX2_tell_73 (by decide) ?_
                refine lv_iadd hx hb dX2_tell_74 ?_
                refine al_kA100 hx hb hK hP ha1 (vin_I (by rw [inc_I (N := 100) (nle_I hc_58) (by decide)]; omega) (nle_I hc_88)) dX2_tell_75 ?_
                refine callS_i [.int (M_55 a1 (v_54 + 1).toNatClampNeg)] [] hx hb hml hG hown hK (c_X2_isDigit had (M := M_55)  (M_55 a1 (v_54 + 1).toNatClampNeg)) gw_8_14 gm_X2_isDigit gd_X2_isDigit rfl rfl ⟨Nat.le_of_ble_eq_true rfl, Nat.le_of_ble_eq_true rfl⟩ ⟨Nat.le_refl _, Nat.le_refl _⟩ hP (fun _ h => h) hS rfl hl.1 rfl (Nat.le_of_ble_eq_true rfl) dX2_tell_76 (fun r_92 u_94 H locs hF_93 hP hS => ?_)
                obtain ⟨hz_95, hF_93, hu⟩ := hF_93; rw [hu] at hP; subst hF_93
                refine lv_if_ne (tgt := 132) hx hb dX2_tell_79 (by decide) (fun hc_96 => ?_) (fun hc_96 => ?_)
                · have hr_65 := ite_t hr_65 hc_96
                  cases hr_65
                  exact j132 _ _ _ hP hS (lv_sub hl [2, 3, 4, 0, 5] rfl)
                · have hr_65 := ite_f hr_65 (fun q => q hc_96)
                  refine lv_aload_n hx hb dX2_tell_82 rfl (lv_at hl 2 rfl) ?_
                  refine lv_iload_n hx hb dX2_tell_83 rfl (lv_at hl 0 rfl) ?_
                  refine call_v [.int y_83] [] hx hb hml hG hown hK (c_X2_addStep had M_55 o ho y_83) gw_10_14 gm_X2_addStep gd_X2_addStep rfl rfl ⟨Nat.le_of_ble_eq_true rfl, Nat.le_of_ble_eq_true rfl⟩ ⟨Nat.le_refl _, Nat.le_refl _⟩ (rX2 hK hP ho) hP (fun _ h => h) hS rfl hl.1 rfl (Nat.le_of_ble_eq_true rfl) dX2_tell_84 (fun M_99 H locs hF_98 hP hS => ?_)
                  have hr_65 := bnd_at hr_65 hF_98.symm
                  refine lv_iconst (v := 0) hx hb dX2_tell_87 (by decide) ?_
                  refine lv_istore_n (lv' := [(3, .int 0), (5, .int y_59), (0, .ref (ad o)), (1, .ref (ad a1)), (2, .int a2), (4, .int v_54)]) hx hb dX2_tell_88 rfl hl (by decide) rfl (fun ls hl => ?_)
                  refine lv_goto (tgt := 132) hx hb dX2_tell_89 (by decide) ?_
                  cases hr_65
                  exact j132 _ _ _ hP hS (lv_sub hl [2, 3, 4, 0, 5] rfl)
  exact lp15 _ _ _ _ _ _ _ (by decide) (by decide) hr_56 hP hS (lv_sub hl [2, 3, 4, 1, 0] rfl)
def rm_J7_fill_53178 : Room := { frames := 0, cells := 0, slots := 0, locals := 0 }
theorem gm_J7_fill_53178 : Cond.static yJ7_fill_53178 ∈ wsL_law ∧ Cond.initialized yJ7_fill_53178.cls ∈ wsL_law ∧ Cond.code yJ7_fill_53178 cJ7_fill_53178 4 none ∈ wsL_law := ⟨gw_3_1, gw_3_2, gw_3_3⟩
theorem gd_J7_fill_53178 : yJ7_fill_53178.cls ≠ "java/lang/invoke/MethodHandle" ∧ yJ7_fill_53178.cls ≠ "java/lang/invoke/VarHandle" ∧ (parseMethodDescriptor yJ7_fill_53178.desc).map (fun d => d.parameters.length) = some 2 := by decide +kernel
set_option maxRecDepth 100000 in
set_option maxHeartbeats 0 in
theorem c_J7_fill_53178 {l : Launch} {D : va_G} {k : Nat → ClassId} {ad : Nat → Nat} (had : InjN 74 ad) (M : Mem) (a1 : Nat) (ha1 : kIA a1) (a2 : Int32) : Met l yJ7_fill_53178 (Cond.code yJ7_fill_53178 cJ7_fill_53178 4 none :: wsL_law) rm_J7_fill_53178 (va_Pc [.ref (ad a1), .int a2] (GW 74 ad D k (cC ad k M))) (va_Qv (fun u => f_J7_fill_53178 M a1 a2 = u) (fun u t => GW 74 ad D k (cC ad k u) t) (AW 74 ad)) 0 0 (AW 74 ad) := by
  refine met_v (g := cC ad k) (M := M) (by decide +kernel) (Nat.le_of_ble_eq_true rfl) ?_
  intro p e s m args below meth c Q ls hx hb hml hG hown hK hret hP hS hl
  have hl : lv_has ls 4 [(0, .ref (ad a1)), (1, .int a2)] := hl
  obtain ⟨V, hV⟩ : ∃ V, f_J7_fill_53178 M a1 a2 = V := ⟨_, rfl⟩
  have he := hV
  unfold f_J7_fill_53178 at he
  refine lv_iconst (v := 0) hx hb dJ7_fill_53178_0 (by decide) ?_
  refine lv_istore_n (lv' := [(2, .int 0), (0, .ref (ad a1)), (1, .int a2)]) hx hb dJ7_fill_53178_1 rfl hl (by decide) rfl (fun ls hl => ?_)
  refine lv_aload_n hx hb dJ7_fill_53178_2 rfl (lv_at hl 1 rfl) ?_
  refine an_kIA hx hb hK hP ha1 dJ7_fill_53178_3 ?_
  refine lv_topi (fun y_1 ey_1 => ?_)
  have he := bnd_at he ey_1
  refine lv_istore_n (lv' := [(3, .int y_1), (2, .int 0), (0, .ref (ad a1)), (1, .int a2)]) hx hb dJ7_fill_53178_4 rfl hl (by decide) rfl (fun ls hl => ?_)
  obtain ⟨M_14, hr_10, he⟩ := bnd_ex he
  have j20 : ∀ (H : Heap) (locs : List Loc) (ls : Array Slot), va_P D vwCl (wld 74 ad (cC ad k M_14)) H → va_S (AW 74 ad) s.heap H locs → lv_has ls 4 [] → W p l e rm_J7_fill_53178 s m args below meth c H locs 0 0 Q (F0 m 20 ls []) := by
    intro H locs ls hP hS hl
    exact hret _ _ _ _ _ (hV.trans he.symm) hP hS dJ7_fill_53178_20
  have lp5 : ∀ (nn : Nat) (H : Heap) (locs : List Loc) (ls : Array Slot) (M_9 : Mem) (v_8 : Int32), (0 ≤ v_8.toInt) → (y_1.toInt - v_8.toInt).toNat < nn → lp_J7_fill_53178_5 nn a1 a2 y_1 M_9 v_8 = M_14 → va_P D vwCl (wld 74 ad (cC ad k M_9)) H → va_S (AW 74 ad) s.heap H locs → lv_has ls 4 [(0, .ref (ad a1)), (1, .int a2), (2, .int v_8), (3, .int y_1)] → W p l e rm_J7_fill_53178 s m args below meth c H locs 0 0 Q (F0 m 5 ls []) := by
    intro nn
    induction nn with
    | zero =>
      intro H locs ls M_9 v_8 h0v_8 hμ
      exact absurd hμ (Nat.not_lt_zero _)
    | succ nn ih =>
      intro H locs ls M_9 v_8 h0v_8 hμ hr_10 hP hS hl
      rw [lp_J7_fill_53178_5] at hr_10
      refine lv_iload_n hx hb dJ7_fill_53178_5 rfl (lv_at hl 2 rfl) ?_
      refine lv_iload_n hx hb dJ7_fill_53178_6 rfl (lv_at hl 3 rfl) ?_
      refine lv_icmp_ge (tgt := 20) hx hb dJ7_fill_53178_7 (by decide) (fun hc_11 => ?_) (fun hc_11 => ?_)
      · have hr_10 := ite_t hr_10 hc_11
        cases hr_10
        exact j20 _ _ _ hP hS (lv_sub hl [] rfl)
      · have hr_10 := ite_f hr_10 hc_11
        refine lv_aload_n hx hb dJ7_fill_53178_10 rfl (lv_at hl 0 rfl) ?_
        refine lv_iload_n hx hb dJ7_fill_53178_11 rfl (lv_at hl 2 rfl) ?_
        refine lv_iload_n hx hb dJ7_fill_53178_12 rfl (lv_at hl 1 rfl) ?_
        refine as_kIA hx hb hK hP had AW_in hS ha1 (vin_I (by omega) (by rw [← nI_toInt (show nIA a1 < 2 ^ 31 from Nat.lt_of_le_of_lt (nIA_le a1) (by decide))]; have := nle_I hc_11; rw [ey_1] at this; exact this)) dJ7_fill_53178_13 (fun H locs hP hS => ?_)
        obtain ⟨M_12, eM_12⟩ : ∃ y : Mem, y = up2 M_9 a1 v_8.toNatClampNeg a2 := ⟨_, rfl⟩
        rw [← eM_12] at hP
        have hr_10 := bnd_at hr_10 eM_12
        obtain ⟨y_13, ey_13⟩ : ∃ y_13 : Int32, y_13 = v_8 + 1 := ⟨_, rfl⟩
        have hr_10 := bnd_at hr_10 ey_13
        refine lv_iinc (v := y_13) (lv' := [(2, .int y_13), (0, .ref (ad a1)), (1, .int a2), (3, .int y_1)]) hx hb dJ7_fill_53178_14 hl (k := 2) rfl (by rw [ey_13]; rfl) (by decide) rfl (fun ls hl => ?_)
        refine lv_goto (tgt := 5) hx hb dJ7_fill_53178_17 (by decide) ?_
        exact ih _ _ _ _ _ (by rw [ey_13, inc_I (N := y_1.toInt) (nle_I hc_11) (Int32.toInt_le _)]; omega) (by rw [ey_13]; exact mu_I hμ (nle_I hc_11) (Int32.toInt_le _)) hr_10 hP hS (lv_sub hl [1, 2, 0, 3] rfl)
  exact lp5 _ _ _ _ _ _ (by decide) (Nat.lt_succ_self _) hr_10 hP hS (lv_sub hl [2, 3, 1, 0] rfl)
def rm_X0_tellLaw : Room := { frames := 5, cells := 0, slots := 0, locals := 107 }
theorem gm_X0_tellLaw : Cond.instanceMethod yX0_tellLaw ∈ wsL_law ∧ Cond.selects RX0 yX0_tellLaw yX0_tellLaw ∈ wsL_law ∧ Cond.initialized RX0 ∈ wsL_law ∧ Cond.code yX0_tellLaw cX0_tellLaw 3 none ∈ wsL_law := ⟨gw_10_5, gw_10_6, gw_1_15, gw_10_7⟩
theorem gd_X0_tellLaw : yX0_tellLaw.cls = RX0 ∧ yX0_tellLaw.cls ≠ "java/lang/invoke/MethodHandle" ∧ yX0_tellLaw.cls ≠ "java/lang/invoke/VarHandle" ∧ (parseMethodDescriptor yX0_tellLaw.desc).map (fun d => d.parameters.length) = some 2 := by decide +kernel
set_option maxRecDepth 100000 in
set_option maxHeartbeats 0 in
theorem c_X0_tellLaw {l : Launch} {D : va_G} {k : Nat → ClassId} {ad : Nat → Nat} (had : InjN 74 ad) (M : Mem) (o : Nat) (ho : kBay o) (a1 : Nat) (ha1 : kA100 a1) (a2 : Int32) : Met l yX0_tellLaw (Cond.code yX0_tellLaw cX0_tellLaw 3 none :: wsL_law) rm_X0_tellLaw (va_Pc [.ref (ad o), .ref (ad a1), .int a2] (GW 74 ad D k (cC ad k M))) (va_Qv (fun u => f_X0_tellLaw M o a1 a2 = u) (fun u t => GW 74 ad D k (cC ad k u) t) (AW 74 ad)) 0 0 (AW 74 ad) := by
  refine met_v (g := cC ad k) (M := M) (plainFor_of_name (by decide)) (Nat.le_of_ble_eq_true rfl) ?_
  intro p e s m args below meth c Q ls hx hb hml hG hown hK hret hP hS hl
  have hl : lv_has ls 3 [(0, .ref (ad o)), (1, .ref (ad a1)), (2, .int a2)] := hl
  obtain ⟨V, hV⟩ : ∃ V, f_X0_tellLaw M o a1 a2 = V := ⟨_, rfl⟩
  have he := hV
  unfold f_X0_tellLaw at he
  refine lv_aload_n hx hb dX0_tellLaw_0 rfl (lv_at hl 0 rfl) ?_
  refine gX0_5 hx hb hG hown hK hP ho gw_2_15 dX0_tellLaw_1 ?_
  refine lv_aload_n hx hb dX0_tellLaw_4 rfl (lv_at hl 1 rfl) ?_
  refine lv_iload_n hx hb dX0_tellLaw_5 rfl (lv_at hl 2 rfl) ?_
  refine call_v [.ref (ad a1), .int a2] [] hx hb hml hG hown hK (c_X2_tell had M (o + 3) (kR_law ho) a1 ha1 a2) gw_10_8 gm_X2_tell gd_X2_tell rfl rfl ⟨Nat.le_of_ble_eq_true rfl, Nat.le_of_ble_eq_true rfl⟩ ⟨Nat.le_refl _, Nat.le_refl _⟩ (rX2 hK hP (kR_law ho)) hP (fun _ h => h) hS rfl hl.1 rfl (Nat.le_of_ble_eq_true rfl) dX0_tellLaw_6 (fun M_3 H locs hF_2 hP hS => ?_)
  have he := bnd_at he hF_2.symm
  refine lv_aload_n hx hb dX0_tellLaw_9 rfl (lv_at hl 0 rfl) ?_
  refine gX0_6 hx hb hG hown hK hP ho gw_2_17 dX0_tellLaw_10 ?_
  refine lv_bipush (v := 100) hx hb dX0_tellLaw_13 (by decide) ?_
  refine callS_v [.ref (ad (o + 6)), .int 100] [] hx hb hml hG hown hK (c_J7_fill_53178 had M_3 (o + 6) (kI_win (kR_win ho)) 100) gw_3_0 gm_J7_fill_53178 gd_J7_fill_53178 rfl rfl ⟨Nat.le_of_ble_eq_true rfl, Nat.le_of_ble_eq_true rfl⟩ ⟨Nat.le_refl _, Nat.le_refl _⟩ hP (fun _ h => h) hS rfl hl.1 rfl (Nat.le_of_ble_eq_true rfl) dX0_tellLaw_15 (fun M_6 H locs hF_5 hP hS => ?_)
  have he := bnd_at he hF_5.symm
  exact hret _ _ _ _ _ (hV.trans he.symm) hP hS dX0_tellLaw_18
def rm_X6_law : Room := { frames := 6, cells := 0, slots := 0, locals := 129 }
theorem gm_X6_law : Cond.instanceMethod yX6_law ∈ wsL_law ∧ Cond.selects RX6 yX6_law yX6_law ∈ wsL_law ∧ Cond.initialized RX6 ∈ wsL_law ∧ Cond.code yX6_law cX6_law 5 (some .int) ∈ wsL_law := ⟨gw_10_1, gw_10_2, gw_1_2, gw_10_3⟩
theorem gd_X6_law : yX6_law.cls = RX6 ∧ yX6_law.cls ≠ "java/lang/invoke/MethodHandle" ∧ yX6_law.cls ≠ "java/lang/invoke/VarHandle" ∧ (parseMethodDescriptor yX6_law.desc).map (fun d => d.parameters.length) = some 1 := by decide +kernel
set_option maxRecDepth 100000 in
set_option maxHeartbeats 0 in
theorem c_X6_law {l : Launch} {D : va_G} {k : Nat → ClassId} {ad : Nat → Nat} (had : InjN 74 ad) (M : Mem) (a1 : Int32) : Met l yX6_law (Cond.code yX6_law cX6_law 5 (some .int) :: wsL_law) rm_X6_law (va_Pc [.ref (ad 0), .int a1] (GW 74 ad D k (cC ad k M))) (va_Qi (fun r u => f_X6_law M a1 = (r, u)) (fun u t => GW 74 ad D k (cC ad k u) t) (AW 74 ad)) 0 0 (AW 74 ad) := by
  refine met_i (g := cC ad k) (M := M) (plainFor_of_name (by decide)) (Nat.le_of_ble_eq_true rfl) ?_
  intro p e s m args below meth c Q ls hx hb hml hG hown hK hret hP hS hl
  have hl : lv_has ls 5 [(0, .ref (ad 0)), (1, .int a1)] := hl
  obtain ⟨V, hV⟩ : ∃ V, f_X6_law M a1 = V := ⟨_, rfl⟩
  have he := hV
  unfold f_X6_law at he
  refine lv_aload_n hx hb dX6_law_0 rfl (lv_at hl 0 rfl) ?_
  refine lv_iload_n hx hb dX6_law_1 rfl (lv_at hl 1 rfl) ?_
  refine call_e [.int a1] [] hx hb hml hG hown hK (c_X6_shelfAt had M a1) gw_7_22 gm_X6_shelfAt gd_X6_shelfAt rfl rfl ⟨Nat.le_of_ble_eq_true rfl, Nat.le_of_ble_eq_true rfl⟩ ⟨Nat.le_refl _, Nat.le_refl _⟩ (rX6 hK hP rfl) hP (fun _ h => h) hS rfl hl.1 rfl (Nat.le_of_ble_eq_true rfl) dX6_law_2 (fun r_1 u_3 H locs hF_2 hP hS => ?_)
  obtain ⟨hz_4, hF_2, hu⟩ := hF_2; rw [hu] at hP
  rcases r_1 with _ | b_5
  · have he := oel_n he hF_2
    refine lv_astore_nN (lv' := [(2, .null), (0, .ref (ad 0)), (1, .int a1)]) hx hb dX6_law_5 rfl hl (by decide) rfl (fun ls hl => ?_)
    refine lv_aload_nN hx hb dX6_law_6 rfl (lv_at hl 0 rfl) ?_
    refine lv_ifnonnullN hx hb dX6_law_7 ?_
    refine lv_iconst (v := (-1)) hx hb dX6_law_10 (by decide) ?_
    exact hret _ _ _ _ _ _ (hV.trans he.symm) hP hS dX6_law_11
  · have he := oel_s he hF_2
    refine lv_astore_n (lv' := [(2, .ref (ad b_5)), (0, .ref (ad 0)), (1, .int a1)]) hx hb dX6_law_5 rfl hl (by decide) rfl (fun ls hl => ?_)
    refine lv_aload_n hx hb dX6_law_6 rfl (lv_at hl 0 rfl) ?_
    refine lv_ifnonnull (tgt := 12) hx hb dX6_law_7 (by decide) ?_
    refine lv_aload_n hx hb dX6_law_12 rfl (lv_at hl 0 rfl) ?_
    refine call_i [] [] hx hb hml hG hown hK (c_X5_textRefusal had M b_5 (hz_4 _ rfl)) gw_8_2 gm_X5_textRefusal gd_X5_textRefusal rfl rfl ⟨Nat.le_of_ble_eq_true rfl, Nat.le_of_ble_eq_true rfl⟩ ⟨Nat.le_refl _, Nat.le_refl _⟩ (rX5 hK hP (hz_4 _ rfl)) hP (fun _ h => h) hS rfl hl.1 rfl (Nat.le_of_ble_eq_true rfl) dX6_law_13 (fun r_6 u_8 H locs hF_7 hP hS => ?_)
    obtain ⟨hF_7, hu⟩ := hF_7; rw [hu] at hP; subst hF_7
    refine lv_topi (fun y_9 ey_9 => ?_)
    have he := bnd_at he ey_9
    refine lv_istore_n (lv' := [(3, .int y_9), (2, .ref (ad b_5)), (0, .ref (ad 0)), (1, .int a1)]) hx hb dX6_law_16 rfl hl (by decide) rfl (fun ls hl => ?_)
    refine lv_iload_n hx hb dX6_law_17 rfl (lv_at hl 0 rfl) ?_
    refine lv_if_eq (tgt := 23) hx hb dX6_law_18 (by decide) (fun hc_10 => ?_) (fun hc_10 => ?_)
    · have he := ite_t he hc_10
      refine lv_aload_n hx hb dX6_law_23 rfl (lv_at hl 1 rfl) ?_
      refine gX5_4 hx hb hG hown hK hP (hz_4 _ rfl) gw_7_20 dX6_law_24 ?_
      refine lv_aload_n hx hb dX6_law_27 rfl (lv_at hl 1 rfl) ?_
      refine gX5_3 hx hb hG hown hK hP (hz_4 _ rfl) gw_7_21 dX6_law_28 ?_
      refine callS_i [.ref (ad (b_5 + 16)), .int (M b_5 3)] [] hx hb hml hG hown hK (c_X2_faultIn had M (b_5 + 16) (kA_elm (kR_elm (hz_4 _ rfl))) (M b_5 3)) gw_8_11 gm_X2_faultIn gd_X2_faultIn rfl rfl ⟨Nat.le_of_ble_eq_true rfl, Nat.le_of_ble_eq_true rfl⟩ ⟨Nat.le_refl _, Nat.le_refl _⟩ hP (fun _ h => h) hS rfl hl.1 rfl (Nat.le_of_ble_eq_true rfl) dX6_law_31 (fun r_11 u_13 H locs hF_12 hP hS => ?_)
      obtain ⟨hF_12, hu⟩ := hF_12; rw [hu] at hP; subst hF_12
      refine lv_topi (fun y_14 ey_14 => ?_)
      have he := bnd_at he ey_14
      refine lv_istore (lv' := [(4, .int y_14), (3, .int y_9), (2, .ref (ad b_5)), (0, .ref (ad 0)), (1, .int a1)]) hx hb dX6_law_34 hl (by decide) rfl (fun ls hl => ?_)
      refine lv_iload hx hb dX6_law_36 (lv_at hl 0 rfl) ?_
      refine lv_bipush (v := (-4)) hx hb dX6_law_38 (by decide) ?_
      refine lv_icmp_eq (tgt := 49) hx hb dX6_law_40 (by decide) (fun hc_15 => ?_) (fun hc_15 => ?_)
      · have he := ite_t he hc_15
        refine lv_aload_n hx hb dX6_law_49 rfl (lv_at hl 3 rfl) ?_
        refine gX6_0 hx hb hG hown hK hP rfl gw_1_16 dX6_law_50 ?_
        refine lv_aload_n hx hb dX6_law_53 rfl (lv_at hl 2 rfl) ?_
        refine gX5_4 hx hb hG hown hK hP (hz_4 _ rfl) gw_7_20 dX6_law_54 ?_
        refine lv_aload_n hx hb dX6_law_57 rfl (lv_at hl 2 rfl) ?_
        refine gX5_3 hx hb hG hown hK hP (hz_4 _ rfl) gw_7_21 dX6_law_58 ?_
        refine call_v [.ref (ad (b_5 + 16)), .int (M b_5 3)] [] hx hb hml hG hown hK (c_X0_tellLaw had M 1 (by decide) (b_5 + 16) (kA_elm (kR_elm (hz_4 _ rfl))) (M b_5 3)) gw_10_4 gm_X0_tellLaw gd_X0_tellLaw rfl rfl ⟨Nat.le_of_ble_eq_true rfl, Nat.le_of_ble_eq_true rfl⟩ ⟨Nat.le_refl _, Nat.le_refl _⟩ (rX0 hK hP (by decide)) hP (fun _ h => h) hS rfl hl.1 rfl (Nat.le_of_ble_eq_true rfl) dX6_law_61 (fun M_18 H locs hF_17 hP hS => ?_)
        have he := bnd_at he hF_17.symm
        refine lv_iconst (v := 1) hx hb dX6_law_64 (by decide) ?_
        exact hret _ _ _ _ _ _ (hV.trans he.symm) hP hS dX6_law_65
      · have he := ite_f he hc_15
        refine lv_bipush (v := (-100)) hx hb dX6_law_43 (by decide) ?_
        refine lv_iload hx hb dX6_law_45 (lv_at hl 0 rfl) ?_
        refine lv_isub hx hb dX6_law_47 ?_
        exact hret _ _ _ _ _ _ (hV.trans he.symm) hP hS dX6_law_48
    · have he := ite_f he hc_10
      refine lv_iload_n hx hb dX6_law_21 rfl (lv_at hl 0 rfl) ?_
      exact hret _ _ _ _ _ _ (hV.trans he.symm) hP hS dX6_law_22
