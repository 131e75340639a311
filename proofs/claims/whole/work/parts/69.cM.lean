-- @needs 12_dec 13_dec 14_dec 15_dec 37_fault 60_cM 61_cM 63_cM 68_cM
def rm_X7_wrongRow : Room := { frames := 1, cells := 0, slots := 0, locals := 25 }
theorem gm_X7_wrongRow : Cond.instanceMethod yX7_wrongRow ∈ wsL_law ∧ Cond.selects RX7 yX7_wrongRow yX7_wrongRow ∈ wsL_law ∧ Cond.initialized RX7 ∈ wsL_law ∧ Cond.code yX7_wrongRow cX7_wrongRow 2 (some .int) ∈ wsL_law := ⟨gw_9_8, gw_9_9, gw_1_5, gw_9_10⟩
theorem gd_X7_wrongRow : yX7_wrongRow.cls = RX7 ∧ yX7_wrongRow.cls ≠ "java/lang/invoke/MethodHandle" ∧ yX7_wrongRow.cls ≠ "java/lang/invoke/VarHandle" ∧ (parseMethodDescriptor yX7_wrongRow.desc).map (fun d => d.parameters.length) = some 1 := by decide +kernel
set_option maxRecDepth 100000 in
set_option maxHeartbeats 0 in
theorem c_X7_wrongRow {l : Launch} {D : va_G} {k : Nat → ClassId} {ad : Nat → Nat} (had : InjN 31 ad) (M : Mem) (a1 : Int32) (hI : MI M) : Met l yX7_wrongRow (Cond.code yX7_wrongRow cX7_wrongRow 2 (some .int) :: wsL_law) rm_X7_wrongRow (va_Pc [.ref (ad 0), .int a1] (GW 31 ad D k (cM ad k M))) (va_Qi (fun r u => f_X7_wrongRow M a1 = r ∧ u = M) (fun u t => GW 31 ad D k (cM ad k u) t) (AW 31 ad)) 0 0 (AW 31 ad) := by
  refine met_i (g := cM ad k) (M := M) (plainFor_of_name (by decide)) (Nat.le_of_ble_eq_true rfl) ?_
  intro p e s m args below meth c Q ls hx hb hml hG hown hK hret hP hS hl
  have hl : lv_has ls 2 [(0, .ref (ad 0)), (1, .int a1)] := hl
  obtain ⟨V, hV⟩ : ∃ V, f_X7_wrongRow M a1 = V := ⟨_, rfl⟩
  have he := hV
  unfold f_X7_wrongRow at he
  have hT0 : TI M M := TI_rf hI
  have qb_M := hI.1
  have qs_M := hI.2.1
  have qz_M := hI.2.2.1
  refine lv_iload_n hx hb dX7_wrongRow_0 rfl (lv_at hl 1 rfl) ?_
  refine lv_i2l (v := a1.toInt64) hx hb dX7_wrongRow_1 rfl ?_
  refine lv_lconst (v := 0) hx hb dX7_wrongRow_2 (by decide) ?_
  refine lv_ldc2 (v := 7) hx hb hown (hG _ gw_9_11) dX7_wrongRow_3 ?_
  refine callS_i [.long a1.toInt64, .long 0, .long 7] [] hx hb hml hG hown hK (c_X7_in had (M := M)  a1.toInt64 0 7) gw_7_2 gm_X7_in gd_X7_in rfl rfl ⟨Nat.le_of_ble_eq_true rfl, Nat.le_of_ble_eq_true rfl⟩ ⟨Nat.le_refl _, Nat.le_refl _⟩ hP (fun _ h => h) hS rfl hl.1 rfl (Nat.le_of_ble_eq_true rfl) dX7_wrongRow_6 (fun r_1 u_3 H locs hF_2 hP hS => ?_)
  obtain ⟨hz_4, hF_2, hu⟩ := hF_2; rw [hu] at hP; subst hF_2
  obtain ⟨t_9, hr_6, he⟩ := bnd_ex he
  have j46 : ∀ (H : Heap) (locs : List Loc) (ls : Array Slot), va_P D vwCl (wld 31 ad (cM ad k M)) H → va_S (AW 31 ad) s.heap H locs → lv_has ls 2 [] → W p l e rm_X7_wrongRow s m args below meth c H locs 0 0 Q (F0 m 46 ls [.int t_9]) := by
    intro H locs ls hP hS hl
    exact hret _ _ _ _ _ _ ⟨hV.trans he.symm, rfl⟩ hP hS dX7_wrongRow_46
  refine lv_if_ne (tgt := 16) hx hb dX7_wrongRow_9 (by decide) (fun hc_5 => ?_) (fun hc_5 => ?_)
  · have hr_6 := ite_t hr_6 hc_5
    refine lv_aload_n hx hb dX7_wrongRow_16 rfl (lv_at hl 0 rfl) ?_
    refine gX7_42 hx hb hG hown hK hP gw_5_11 dX7_wrongRow_17 ?_
    refine lv_iload_n hx hb dX7_wrongRow_20 rfl (lv_at hl 1 rfl) ?_
    refine al_M23 hx hb hK hP (vin_I (by have q0 : (f_X7_in a1.toInt64 0 7).toInt ≠ 0 := ne_I hc_5; have r1 : 0 ≤ a1.toInt ∧ a1.toInt ≤ 7 := in_I hc_5; omega) (by have q0 : (f_X7_in a1.toInt64 0 7).toInt ≠ 0 := ne_I hc_5; have r1 : 0 ≤ a1.toInt ∧ a1.toInt ≤ 7 := in_I hc_5; omega)) dX7_wrongRow_21 ?_
    refine lv_if_ne (tgt := 30) hx hb dX7_wrongRow_22 (by decide) (fun hc_7 => ?_) (fun hc_7 => ?_)
    · have hr_6 := ite_t hr_6 hc_7
      refine lv_aload_n hx hb dX7_wrongRow_30 rfl (lv_at hl 0 rfl) ?_
      refine gX7_42 hx hb hG hown hK hP gw_5_11 dX7_wrongRow_31 ?_
      refine lv_iload_n hx hb dX7_wrongRow_34 rfl (lv_at hl 1 rfl) ?_
      refine al_M23 hx hb hK hP (vin_I (by have q0 : (f_X7_in a1.toInt64 0 7).toInt ≠ 0 := ne_I hc_5; have r1 : 0 ≤ a1.toInt ∧ a1.toInt ≤ 7 := in_I hc_5; have q2 : (M 23 a1.toNatClampNeg).toInt ≠ 0 := ne_I hc_7; omega) (by have q0 : (f_X7_in a1.toInt64 0 7).toInt ≠ 0 := ne_I hc_5; have r1 : 0 ≤ a1.toInt ∧ a1.toInt ≤ 7 := in_I hc_5; have q2 : (M 23 a1.toNatClampNeg).toInt ≠ 0 := ne_I hc_7; omega)) dX7_wrongRow_35 ?_
      refine lv_iconst (v := 2) hx hb dX7_wrongRow_36 (by decide) ?_
      refine lv_icmp_eq (tgt := 45) hx hb dX7_wrongRow_37 (by decide) (fun hc_8 => ?_) (fun hc_8 => ?_)
      · have hr_6 := ite_t hr_6 hc_8
        refine lv_iconst (v := 0) hx hb dX7_wrongRow_45 (by decide) ?_
        cases hr_6
        exact j46 _ _ _ hP hS (lv_sub hl [] rfl)
      · have hr_6 := ite_f hr_6 hc_8
        refine lv_bipush (v := (-12)) hx hb dX7_wrongRow_40 (by decide) ?_
        refine lv_goto (tgt := 46) hx hb dX7_wrongRow_42 (by decide) ?_
        cases hr_6
        exact j46 _ _ _ hP hS (lv_sub hl [] rfl)
    · have hr_6 := ite_f hr_6 (fun q => q hc_7)
      refine lv_bipush (v := (-11)) hx hb dX7_wrongRow_25 (by decide) ?_
      refine lv_goto (tgt := 46) hx hb dX7_wrongRow_27 (by decide) ?_
      cases hr_6
      exact j46 _ _ _ hP hS (lv_sub hl [] rfl)
  · have hr_6 := ite_f hr_6 (fun q => q hc_5)
    refine lv_iconst (v := (-1)) hx hb dX7_wrongRow_12 (by decide) ?_
    refine lv_goto (tgt := 46) hx hb dX7_wrongRow_13 (by decide) ?_
    cases hr_6
    exact j46 _ _ _ hP hS (lv_sub hl [] rfl)
def rm_X7_wrongSort : Room := { frames := 2, cells := 0, slots := 0, locals := 46 }
theorem gm_X7_wrongSort : Cond.instanceMethod yX7_wrongSort ∈ wsL_law ∧ Cond.selects RX7 yX7_wrongSort yX7_wrongSort ∈ wsL_law ∧ Cond.initialized RX7 ∈ wsL_law ∧ Cond.code yX7_wrongSort cX7_wrongSort 3 (some .int) ∈ wsL_law := ⟨gw_9_4, gw_9_5, gw_1_5, gw_9_6⟩
theorem gd_X7_wrongSort : yX7_wrongSort.cls = RX7 ∧ yX7_wrongSort.cls ≠ "java/lang/invoke/MethodHandle" ∧ yX7_wrongSort.cls ≠ "java/lang/invoke/VarHandle" ∧ (parseMethodDescriptor yX7_wrongSort.desc).map (fun d => d.parameters.length) = some 2 := by decide +kernel
set_option maxRecDepth 100000 in
set_option maxHeartbeats 0 in
theorem c_X7_wrongSort {l : Launch} {D : va_G} {k : Nat → ClassId} {ad : Nat → Nat} (had : InjN 31 ad) (M : Mem) (a1 : Int32) (a2 : Int32) (hI : MI M) : Met l yX7_wrongSort (Cond.code yX7_wrongSort cX7_wrongSort 3 (some .int) :: wsL_law) rm_X7_wrongSort (va_Pc [.ref (ad 0), .int a1, .int a2] (GW 31 ad D k (cM ad k M))) (va_Qi (fun r u => f_X7_wrongSort M a1 a2 = r ∧ u = M) (fun u t => GW 31 ad D k (cM ad k u) t) (AW 31 ad)) 0 0 (AW 31 ad) := by
  refine met_i (g := cM ad k) (M := M) (plainFor_of_name (by decide)) (Nat.le_of_ble_eq_true rfl) ?_
  intro p e s m args below meth c Q ls hx hb hml hG hown hK hret hP hS hl
  have hl : lv_has ls 3 [(0, .ref (ad 0)), (1, .int a1), (2, .int a2)] := hl
  obtain ⟨V, hV⟩ : ∃ V, f_X7_wrongSort M a1 a2 = V := ⟨_, rfl⟩
  have he := hV
  unfold f_X7_wrongSort at he
  have hT0 : TI M M := TI_rf hI
  have qb_M := hI.1
  have qs_M := hI.2.1
  have qz_M := hI.2.2.1
  refine lv_aload_n hx hb dX7_wrongSort_0 rfl (lv_at hl 0 rfl) ?_
  refine lv_iload_n hx hb dX7_wrongSort_1 rfl (lv_at hl 1 rfl) ?_
  refine call_i [.int a1] [] hx hb hml hG hown hK (c_X7_wrongRow had M a1 hT0.1) gw_9_7 gm_X7_wrongRow gd_X7_wrongRow rfl rfl ⟨Nat.le_of_ble_eq_true rfl, Nat.le_of_ble_eq_true rfl⟩ ⟨Nat.le_refl _, Nat.le_refl _⟩ (rX7 hK hP) hP (fun _ h => h) hS rfl hl.1 rfl (Nat.le_of_ble_eq_true rfl) dX7_wrongSort_2 (fun r_1 u_3 H locs hF_2 hP hS => ?_)
  obtain ⟨hF_2, hu⟩ := hF_2; rw [hu] at hP; subst hF_2
  obtain ⟨t_10, hr_5, he⟩ := bnd_ex he
  have j32 : ∀ (H : Heap) (locs : List Loc) (ls : Array Slot), va_P D vwCl (wld 31 ad (cM ad k M)) H → va_S (AW 31 ad) s.heap H locs → lv_has ls 3 [] → W p l e rm_X7_wrongSort s m args below meth c H locs 0 0 Q (F0 m 32 ls [.int t_10]) := by
    intro H locs ls hP hS hl
    exact hret _ _ _ _ _ _ ⟨hV.trans he.symm, rfl⟩ hP hS dX7_wrongSort_32
  refine lv_if_ge (tgt := 16) hx hb dX7_wrongSort_5 (by decide) (fun hc_4 => ?_) (fun hc_4 => ?_)
  · have hr_5 := ite_t hr_5 hc_4
    refine lv_aload_n hx hb dX7_wrongSort_16 rfl (lv_at hl 0 rfl) ?_
    refine gX7_46 hx hb hG hown hK hP gw_5_15 dX7_wrongSort_17 ?_
    refine lv_iload_n hx hb dX7_wrongSort_20 rfl (lv_at hl 1 rfl) ?_
    refine al_M27 hx hb hK hP (vin_I (by have q0 : 0 ≤ (f_X7_wrongRow M a1).toInt := le_I hc_4; have r1 : 0 ≤ a1.toInt ∧ a1.toInt < 8 := wrongRow_in (nlt_of_le hc_4); omega) (by have q0 : 0 ≤ (f_X7_wrongRow M a1).toInt := le_I hc_4; have r1 : 0 ≤ a1.toInt ∧ a1.toInt < 8 := wrongRow_in (nlt_of_le hc_4); omega)) dX7_wrongSort_21 ?_
    refine lv_iload_n hx hb dX7_wrongSort_22 rfl (lv_at hl 2 rfl) ?_
    refine lv_icmp_eq (tgt := 31) hx hb dX7_wrongSort_23 (by decide) (fun hc_6 => ?_) (fun hc_6 => ?_)
    · have hr_5 := ite_t hr_5 hc_6
      refine lv_iconst (v := 0) hx hb dX7_wrongSort_31 (by decide) ?_
      cases hr_5
      exact j32 _ _ _ hP hS (lv_sub hl [] rfl)
    · have hr_5 := ite_f hr_5 hc_6
      refine lv_bipush (v := (-12)) hx hb dX7_wrongSort_26 (by decide) ?_
      refine lv_goto (tgt := 32) hx hb dX7_wrongSort_28 (by decide) ?_
      cases hr_5
      exact j32 _ _ _ hP hS (lv_sub hl [] rfl)
  · have hr_5 := ite_f hr_5 hc_4
    refine lv_aload_n hx hb dX7_wrongSort_8 rfl (lv_at hl 0 rfl) ?_
    refine lv_iload_n hx hb dX7_wrongSort_9 rfl (lv_at hl 1 rfl) ?_
    refine call_i [.int a1] [] hx hb hml hG hown hK (c_X7_wrongRow had M a1 hT0.1) gw_9_7 gm_X7_wrongRow gd_X7_wrongRow rfl rfl ⟨Nat.le_of_ble_eq_true rfl, Nat.le_of_ble_eq_true rfl⟩ ⟨Nat.le_refl _, Nat.le_refl _⟩ (rX7 hK hP) hP (fun _ h => h) hS rfl hl.1 rfl (Nat.le_of_ble_eq_true rfl) dX7_wrongSort_10 (fun r_7 u_9 H locs hF_8 hP hS => ?_)
    obtain ⟨hF_8, hu⟩ := hF_8; rw [hu] at hP; subst hF_8
    refine lv_goto (tgt := 32) hx hb dX7_wrongSort_13 (by decide) ?_
    cases hr_5
    exact j32 _ _ _ hP hS (lv_sub hl [] rfl)
def rm_X7_fault : Room := { frames := 3, cells := 0, slots := 0, locals := 68 }
theorem gm_X7_fault : Cond.instanceMethod yX7_fault ∈ wsL_law ∧ Cond.selects RX7 yX7_fault yX7_fault ∈ wsL_law ∧ Cond.initialized RX7 ∈ wsL_law ∧ Cond.code yX7_fault cX7_fault 3 (some .int) ∈ wsL_law := ⟨gw_9_0, gw_9_1, gw_1_5, gw_9_2⟩
theorem gd_X7_fault : yX7_fault.cls = RX7 ∧ yX7_fault.cls ≠ "java/lang/invoke/MethodHandle" ∧ yX7_fault.cls ≠ "java/lang/invoke/VarHandle" ∧ (parseMethodDescriptor yX7_fault.desc).map (fun d => d.parameters.length) = some 1 := by decide +kernel
set_option maxRecDepth 100000 in
set_option maxHeartbeats 0 in
theorem c_X7_fault {l : Launch} {D : va_G} {k : Nat → ClassId} {ad : Nat → Nat} (had : InjN 31 ad) (M : Mem) (a1 : Int32) (hI : MI M) : Met l yX7_fault (Cond.code yX7_fault cX7_fault 3 (some .int) :: wsL_law) rm_X7_fault (va_Pc [.ref (ad 0), .int a1] (GW 31 ad D k (cM ad k M))) (va_Qi (fun r u => (f_X7_fault M a1 = (r, u) ∧ TI M u)) (fun u t => GW 31 ad D k (cM ad k u) t) (AW 31 ad)) 0 0 (AW 31 ad) := by
  refine met_i (g := cM ad k) (M := M) (plainFor_of_name (by decide)) (Nat.le_of_ble_eq_true rfl) ?_
  intro p e s m args below meth c Q ls hx hb hml hG hown hK hret hP hS hl
  have hl : lv_has ls 3 [(0, .ref (ad 0)), (1, .int a1)] := hl
  obtain ⟨V, hV⟩ : ∃ V, f_X7_fault M a1 = V := ⟨_, rfl⟩
  have he := hV
  unfold f_X7_fault at he
  have hT0 : TI M M := TI_rf hI
  have qb_M := hI.1
  have qs_M := hI.2.1
  have qz_M := hI.2.2.1
  refine lv_aload_n hx hb dX7_fault_0 rfl (lv_at hl 0 rfl) ?_
  refine lv_iconst (v := 0) hx hb dX7_fault_1 (by decide) ?_
  refine pX7_19 hx hb hG hown hK hP had AW_in hS gw_5_19 dX7_fault_2 (fun H locs hP hS => ?_)
  obtain ⟨M_1, eM_1⟩ : ∃ y : Mem, y = up2 M 0 19 0 := ⟨_, rfl⟩
  rw [← eM_1] at hP
  have he := bnd_at he eM_1
  have hTM_1 : TI M M_1 := by rw [eM_1]; exact TI_f hT0 (by decide)
  have qb_M_1 := hTM_1.1.1
  have qs_M_1 := hTM_1.1.2.1
  have qz_M_1 := hTM_1.1.2.2.1
  refine lv_aload_n hx hb dX7_fault_5 rfl (lv_at hl 0 rfl) ?_
  refine lv_iload_n hx hb dX7_fault_6 rfl (lv_at hl 1 rfl) ?_
  refine lv_iconst (v := 0) hx hb dX7_fault_7 (by decide) ?_
  refine call_i [.int a1, .int 0] [] hx hb hml hG hown hK (c_X7_wrongSort had M_1 a1 0 hTM_1.1) gw_9_3 gm_X7_wrongSort gd_X7_wrongSort rfl rfl ⟨Nat.le_of_ble_eq_true rfl, Nat.le_of_ble_eq_true rfl⟩ ⟨Nat.le_refl _, Nat.le_refl _⟩ (rX7 hK hP) hP (fun _ h => h) hS rfl hl.1 rfl (Nat.le_of_ble_eq_true rfl) dX7_fault_8 (fun r_2 u_4 H locs hF_3 hP hS => ?_)
  obtain ⟨hF_3, hu⟩ := hF_3; rw [hu] at hP; subst hF_3
  refine lv_topi (fun y_5 ey_5 => ?_)
  have he := bnd_at he ey_5
  refine lv_istore_n (lv' := [(2, .int y_5), (0, .ref (ad 0)), (1, .int a1)]) hx hb dX7_fault_11 rfl hl (by decide) rfl (fun ls hl => ?_)
  refine lv_iload_n hx hb dX7_fault_12 rfl (lv_at hl 0 rfl) ?_
  refine lv_if_ge (tgt := 18) hx hb dX7_fault_13 (by decide) (fun hc_6 => ?_) (fun hc_6 => ?_)
  · have he := ite_t he hc_6
    refine lv_aload_n hx hb dX7_fault_18 rfl (lv_at hl 1 rfl) ?_
    refine lv_iload_n hx hb dX7_fault_19 rfl (lv_at hl 2 rfl) ?_
    refine call_v [.int a1] [] hx hb hml hG hown hK (c_X7_readText had M_1 a1 hTM_1.1 (by have qy_5 := congrArg Int32.toInt ey_5; have q1 : 0 ≤ y_5.toInt := le_I hc_6; have r2 : 0 ≤ a1.toInt ∧ a1.toInt < 8 := wrongSort_in (nlt_of_le (by rw [ey_5] at hc_6; exact hc_6)); omega)) gw_9_12 gm_X7_readText gd_X7_readText rfl rfl ⟨Nat.le_of_ble_eq_true rfl, Nat.le_of_ble_eq_true rfl⟩ ⟨Nat.le_refl _, Nat.le_refl _⟩ (rX7 hK hP) hP (fun _ h => h) hS rfl hl.1 rfl (Nat.le_of_ble_eq_true rfl) dX7_fault_20 (fun M_9 H locs hF_8 hP hS => ?_)
    obtain ⟨hF_8, hti_10⟩ := hF_8
    have he := bnd_at he hF_8.symm
    have hTM_9 : TI M M_9 := TI_tr hTM_1 hti_10
    have qb_M_9 := hTM_9.1.1
    have qs_M_9 := hTM_9.1.2.1
    have qz_M_9 := hTM_9.1.2.2.1
    refine lv_aload_n hx hb dX7_fault_23 rfl (lv_at hl 1 rfl) ?_
    refine call_i [] [] hx hb hml hG hown hK (c_X7_faultOf had M_9 hTM_9.1) gw_9_17 gm_X7_faultOf gd_X7_faultOf rfl rfl ⟨Nat.le_of_ble_eq_true rfl, Nat.le_of_ble_eq_true rfl⟩ ⟨Nat.le_refl _, Nat.le_refl _⟩ (rX7 hK hP) hP (fun _ h => h) hS rfl hl.1 rfl (Nat.le_of_ble_eq_true rfl) dX7_fault_24 (fun r_11 M_13 H locs hF_12 hP hS => ?_)
    obtain ⟨hF_12, hti_14⟩ := hF_12
    have he := bnd2_at he hF_12
    have hTM_13 : TI M M_13 := TI_tr hTM_9 hti_14
    have qb_M_13 := hTM_13.1.1
    have qs_M_13 := hTM_13.1.2.1
    have qz_M_13 := hTM_13.1.2.2.1
    exact hret _ _ _ _ _ _ ⟨(hV.trans he.symm), hTM_13⟩ hP hS dX7_fault_27
  · have he := ite_f he hc_6
    refine lv_iload_n hx hb dX7_fault_16 rfl (lv_at hl 0 rfl) ?_
    exact hret _ _ _ _ _ _ ⟨(hV.trans he.symm), hTM_1⟩ hP hS dX7_fault_17
def rm_X7_law : Room := { frames := 3, cells := 0, slots := 0, locals := 68 }
theorem gm_X7_law : Cond.instanceMethod yX7_law ∈ wsL_law ∧ Cond.selects RX7 yX7_law yX7_law ∈ wsL_law ∧ Cond.initialized RX7 ∈ wsL_law ∧ Cond.code yX7_law cX7_law 5 (some .int) ∈ wsL_law := ⟨gw_11_10, gw_11_11, gw_1_5, gw_11_12⟩
theorem gd_X7_law : yX7_law.cls = RX7 ∧ yX7_law.cls ≠ "java/lang/invoke/MethodHandle" ∧ yX7_law.cls ≠ "java/lang/invoke/VarHandle" ∧ (parseMethodDescriptor yX7_law.desc).map (fun d => d.parameters.length) = some 1 := by decide +kernel
set_option maxRecDepth 100000 in
set_option maxHeartbeats 0 in
theorem c_X7_law {l : Launch} {D : va_G} {k : Nat → ClassId} {ad : Nat → Nat} (had : InjN 31 ad) (M : Mem) (a1 : Int32) (hI : MI M) : Met l yX7_law (Cond.code yX7_law cX7_law 5 (some .int) :: wsL_law) rm_X7_law (va_Pc [.ref (ad 0), .int a1] (GW 31 ad D k (cM ad k M))) (va_Qi (fun r u => (f_X7_law M a1 = (r, u) ∧ TI M u)) (fun u t => GW 31 ad D k (cM ad k u) t) (AW 31 ad)) 0 0 (AW 31 ad) := by
  refine met_i (g := cM ad k) (M := M) (plainFor_of_name (by decide)) (Nat.le_of_ble_eq_true rfl) ?_
  intro p e s m args below meth c Q ls hx hb hml hG hown hK hret hP hS hl
  have hl : lv_has ls 5 [(0, .ref (ad 0)), (1, .int a1)] := hl
  obtain ⟨V, hV⟩ : ∃ V, f_X7_law M a1 = V := ⟨_, rfl⟩
  have he := hV
  unfold f_X7_law at he
  have hT0 : TI M M := TI_rf hI
  have qb_M := hI.1
  have qs_M := hI.2.1
  have qz_M := hI.2.2.1
  refine lv_aload_n hx hb dX7_law_0 rfl (lv_at hl 0 rfl) ?_
  refine lv_iconst (v := 0) hx hb dX7_law_1 (by decide) ?_
  refine pX7_19 hx hb hG hown hK hP had AW_in hS gw_5_19 dX7_law_2 (fun H locs hP hS => ?_)
  obtain ⟨M_1, eM_1⟩ : ∃ y : Mem, y = up2 M 0 19 0 := ⟨_, rfl⟩
  rw [← eM_1] at hP
  have he := bnd_at he eM_1
  have hTM_1 : TI M M_1 := by rw [eM_1]; exact TI_f hT0 (by decide)
  have qb_M_1 := hTM_1.1.1
  have qs_M_1 := hTM_1.1.2.1
  have qz_M_1 := hTM_1.1.2.2.1
  refine lv_aload_n hx hb dX7_law_5 rfl (lv_at hl 0 rfl) ?_
  refine lv_iload_n hx hb dX7_law_6 rfl (lv_at hl 1 rfl) ?_
  refine lv_iconst (v := 0) hx hb dX7_law_7 (by decide) ?_
  refine call_i [.int a1, .int 0] [] hx hb hml hG hown hK (c_X7_wrongSort had M_1 a1 0 hTM_1.1) gw_9_3 gm_X7_wrongSort gd_X7_wrongSort rfl rfl ⟨Nat.le_of_ble_eq_true rfl, Nat.le_of_ble_eq_true rfl⟩ ⟨Nat.le_refl _, Nat.le_refl _⟩ (rX7 hK hP) hP (fun _ h => h) hS rfl hl.1 rfl (Nat.le_of_ble_eq_true rfl) dX7_law_8 (fun r_2 u_4 H locs hF_3 hP hS => ?_)
  obtain ⟨hF_3, hu⟩ := hF_3; rw [hu] at hP; subst hF_3
  refine lv_topi (fun y_5 ey_5 => ?_)
  have he := bnd_at he ey_5
  refine lv_istore_n (lv' := [(2, .int y_5), (0, .ref (ad 0)), (1, .int a1)]) hx hb dX7_law_11 rfl hl (by decide) rfl (fun ls hl => ?_)
  refine lv_iload_n hx hb dX7_law_12 rfl (lv_at hl 0 rfl) ?_
  refine lv_if_ge (tgt := 18) hx hb dX7_law_13 (by decide) (fun hc_6 => ?_) (fun hc_6 => ?_)
  · have he := ite_t he hc_6
    refine lv_aload_n hx hb dX7_law_18 rfl (lv_at hl 1 rfl) ?_
    refine lv_iload_n hx hb dX7_law_19 rfl (lv_at hl 2 rfl) ?_
    refine call_v [.int a1] [] hx hb hml hG hown hK (c_X7_readText had M_1 a1 hTM_1.1 (by have qy_5 := congrArg Int32.toInt ey_5; have q1 : 0 ≤ y_5.toInt := le_I hc_6; have r2 : 0 ≤ a1.toInt ∧ a1.toInt < 8 := wrongSort_in (nlt_of_le (by rw [ey_5] at hc_6; exact hc_6)); omega)) gw_9_12 gm_X7_readText gd_X7_readText rfl rfl ⟨Nat.le_of_ble_eq_true rfl, Nat.le_of_ble_eq_true rfl⟩ ⟨Nat.le_refl _, Nat.le_refl _⟩ (rX7 hK hP) hP (fun _ h => h) hS rfl hl.1 rfl (Nat.le_of_ble_eq_true rfl) dX7_law_20 (fun M_9 H locs hF_8 hP hS => ?_)
    obtain ⟨hF_8, hti_10⟩ := hF_8
    have he := bnd_at he hF_8.symm
    have hTM_9 : TI M M_9 := TI_tr hTM_1 hti_10
    have qb_M_9 := hTM_9.1.1
    have qs_M_9 := hTM_9.1.2.1
    have qz_M_9 := hTM_9.1.2.2.1
    refine lv_aload_n hx hb dX7_law_23 rfl (lv_at hl 1 rfl) ?_
    refine call_i [] [] hx hb hml hG hown hK (c_X7_faultOf had M_9 hTM_9.1) gw_9_17 gm_X7_faultOf gd_X7_faultOf rfl rfl ⟨Nat.le_of_ble_eq_true rfl, Nat.le_of_ble_eq_true rfl⟩ ⟨Nat.le_refl _, Nat.le_refl _⟩ (rX7 hK hP) hP (fun _ h => h) hS rfl hl.1 rfl (Nat.le_of_ble_eq_true rfl) dX7_law_24 (fun r_11 M_13 H locs hF_12 hP hS => ?_)
    obtain ⟨hF_12, hti_14⟩ := hF_12
    have he := bnd2_at he hF_12
    have hTM_13 : TI M M_13 := TI_tr hTM_9 hti_14
    have qb_M_13 := hTM_13.1.1
    have qs_M_13 := hTM_13.1.2.1
    have qz_M_13 := hTM_13.1.2.2.1
    refine lv_istore_n (lv' := [(3, .int r_11), (2, .int y_5), (0, .ref (ad 0)), (1, .int a1)]) hx hb dX7_law_27 rfl hl (by decide) rfl (fun ls hl => ?_)
    refine lv_iload_n hx hb dX7_law_28 rfl (lv_at hl 0 rfl) ?_
    refine lv_if_lt (tgt := 37) hx hb dX7_law_29 (by decide) (fun hc_15 => ?_) (fun hc_15 => ?_)
    · have he := ite_t he hc_15
      refine lv_aload_n hx hb dX7_law_37 rfl (lv_at hl 2 rfl) ?_
      refine lv_aload_n hx hb dX7_law_38 rfl (lv_at hl 2 rfl) ?_
      refine gX7_21 hx hb hG hown hK hP gw_9_16 dX7_law_39 ?_
      refine pX7_5 hx hb hG hown hK hP had AW_in hS gw_11_13 dX7_law_42 (fun H locs hP hS => ?_)
      obtain ⟨M_16, eM_16⟩ : ∃ y : Mem, y = up2 M_13 0 5 (M_13 0 21) := ⟨_, rfl⟩
      rw [← eM_16] at hP
      have he := bnd_at he eM_16
      refine lv_iconst (v := 0) hx hb dX7_law_45 (by decide) ?_
      refine lv_istore (lv' := [(4, .int 0), (3, .int r_11), (2, .int y_5), (0, .ref (ad 0)), (1, .int a1)]) hx hb dX7_law_46 hl (by decide) rfl (fun ls hl => ?_)
      obtain ⟨M_29, hr_25, he⟩ := bnd_ex he
      have j77 : ∀ (H : Heap) (locs : List Loc) (ls : Array Slot), va_P D vwCl (wld 31 ad (cM ad k M_29)) H → va_S (AW 31 ad) s.heap H locs → lv_has ls 5 [(0, .ref (ad 0))] → W p l e rm_X7_law s m args below meth c H locs 0 0 Q (F0 m 77 ls []) := by
        intro H locs ls hP hS hl
        refine lv_aload_n hx hb dX7_law_77 rfl (lv_at hl 0 rfl) ?_
        refine lv_iconst (v := 0) hx hb dX7_law_78 (by decide) ?_
        refine pX7_29 hx hb hG hown hK hP had AW_in hS gw_11_14 (Or.inl rfl)  dX7_law_79 (fun H locs hP hS => ?_)
        obtain ⟨M_30, eM_30⟩ : ∃ y : Mem, y = up2 M_29 0 29 0 := ⟨_, rfl⟩
        rw [← eM_30] at hP
        have he := bnd_at he eM_30
        refine lv_iconst (v := 1) hx hb dX7_law_82 (by decide) ?_
        exact hret _ _ _ _ _ _ ⟨(hV.trans he.symm), ti_law hI (hV.trans he.symm)⟩ hP hS dX7_law_83
      have lp48 : ∀ (nn : Nat) (H : Heap) (locs : List Loc) (ls : Array Slot) (M_24 : Mem) (v_23 : Int32), (0 ≤ v_23.toInt) → ((M_24 0 21).toInt ≤ 100) → (100 - v_23.toInt).toNat < nn → lp_X7_law_48 nn M_24 v_23 = M_29 → va_P D vwCl (wld 31 ad (cM ad k M_24)) H → va_S (AW 31 ad) s.heap H locs → lv_has ls 5 [(0, .ref (ad 0)), (4, .int v_23)] → W p l e rm_X7_law s m args below meth c H locs 0 0 Q (F0 m 48 ls []) := by
        intro nn
        induction nn with
        | zero =>
          intro H locs ls M_24 v_23 h0v_23 hz21 hμ
          exact absurd hμ (Nat.not_lt_zero _)
        | succ nn ih =>
          intro H locs ls M_24 v_23 h0v_23 hz21 hμ hr_25 hP hS hl
          rw [lp_X7_law_48] at hr_25
          refine lv_iload hx hb dX7_law_48 (lv_at hl 1 rfl) ?_
          refine lv_aload_n hx hb dX7_law_50 rfl (lv_at hl 0 rfl) ?_
          refine gX7_21 hx hb hG hown hK hP gw_9_16 dX7_law_51 ?_
          refine lv_icmp_ge (tgt := 77) hx hb dX7_law_54 (by decide) (fun hc_26 => ?_) (fun hc_26 => ?_)
          · have hr_25 := ite_t hr_25 hc_26
            cases hr_25
            exact j77 _ _ _ hP hS (lv_sub hl [0] rfl)
          · have hr_25 := ite_f hr_25 hc_26
            refine lv_aload_n hx hb dX7_law_57 rfl (lv_at hl 0 rfl) ?_
            refine gX7_6 hx hb hG hown hK hP gw_4_13 dX7_law_58 ?_
            refine lv_iload hx hb dX7_law_61 (lv_at hl 1 rfl) ?_
            refine lv_aload_n hx hb dX7_law_63 rfl (lv_at hl 0 rfl) ?_
            refine gX7_20 hx hb hG hown hK hP gw_5_0 dX7_law_64 ?_
            refine lv_iload hx hb dX7_law_67 (lv_at hl 1 rfl) ?_
            refine al_M12 hx hb hK hP (vin_I (by have q0 : v_23.toInt < (M_24 0 21).toInt := nle_I hc_26; omega) (by have q0 : v_23.toInt < (M_24 0 21).toInt := nle_I hc_26; omega)) dX7_law_69 ?_
            refine as_M1 hx hb hK hP had AW_in hS (vin_I (by have q0 : v_23.toInt < (M_24 0 21).toInt := nle_I hc_26; omega) (by have q0 : v_23.toInt < (M_24 0 21).toInt := nle_I hc_26; omega)) dX7_law_70 (fun H locs hP hS => ?_)
            obtain ⟨M_27, eM_27⟩ : ∃ y : Mem, y = up2 M_24 1 v_23.toNatClampNeg (M_24 12 v_23.toNatClampNeg) := ⟨_, rfl⟩
            rw [← eM_27] at hP
            have hr_25 := bnd_at hr_25 eM_27
            obtain ⟨y_28, ey_28⟩ : ∃ y_28 : Int32, y_28 = v_23 + 1 := ⟨_, rfl⟩
            have hr_25 := bnd_at hr_25 ey_28
            refine lv_iinc (v := y_28) (lv' := [(4, .int y_28), (0, .ref (ad 0))]) hx hb dX7_law_71 hl (k := 1) rfl (by rw [ey_28]; rfl) (by decide) rfl (fun ls hl => ?_)
            refine lv_goto (tgt := 48) hx hb dX7_law_74 (by decide) ?_
            exact ih _ _ _ _ _ (by rw [ey_28, inc_I (N := 100) (bnd_lt (nle_I hc_26) (by omega)) (by decide)]; omega) (by rw [eM_27, up2_o _ _ (by decide)]; exact hz21) (by rw [ey_28]; exact mu_I hμ (bnd_lt (nle_I hc_26) (by omega)) (by decide)) hr_25 hP hS (lv_sub hl [1, 0] rfl)
      exact lp48 _ _ _ _ _ _ (by decide) (by rw [eM_16, up2_n _ _ (by decide)]; omega) (by decide) hr_25 hP hS (lv_sub hl [3, 0] rfl)
    · have he := ite_f he hc_15
      refine lv_bipush (v := (-100)) hx hb dX7_law_32 (by decide) ?_
      refine lv_iload_n hx hb dX7_law_34 rfl (lv_at hl 0 rfl) ?_
      refine lv_isub hx hb dX7_law_35 ?_
      exact hret _ _ _ _ _ _ ⟨(hV.trans he.symm), hTM_13⟩ hP hS dX7_law_36
  · have he := ite_f he hc_6
    refine lv_iload_n hx hb dX7_law_16 rfl (lv_at hl 0 rfl) ?_
    exact hret _ _ _ _ _ _ ⟨(hV.trans he.symm), hTM_1⟩ hP hS dX7_law_17
def rm_X7_wind : Room := { frames := 3, cells := 0, slots := 0, locals := 66 }
theorem gm_X7_wind : Cond.instanceMethod yX7_wind ∈ wsL_law ∧ Cond.selects RX7 yX7_wind yX7_wind ∈ wsL_law ∧ Cond.initialized RX7 ∈ wsL_law ∧ Cond.code yX7_wind cX7_wind 2 (some .int) ∈ wsL_law := ⟨gw_12_12, gw_12_13, gw_1_5, gw_12_14⟩
theorem gd_X7_wind : yX7_wind.cls = RX7 ∧ yX7_wind.cls ≠ "java/lang/invoke/MethodHandle" ∧ yX7_wind.cls ≠ "java/lang/invoke/VarHandle" ∧ (parseMethodDescriptor yX7_wind.desc).map (fun d => d.parameters.length) = some 1 := by decide +kernel
set_option maxRecDepth 100000 in
set_option maxHeartbeats 0 in
theorem c_X7_wind {l : Launch} {D : va_G} {k : Nat → ClassId} {ad : Nat → Nat} (had : InjN 31 ad) (M : Mem) (a1 : Int32) (hI : MI M) : Met l yX7_wind (Cond.code yX7_wind cX7_wind 2 (some .int) :: wsL_law) rm_X7_wind (va_Pc [.ref (ad 0), .int a1] (GW 31 ad D k (cM ad k M))) (va_Qi (fun r u => (f_X7_wind M a1 = (r, u) ∧ TI M u)) (fun u t => GW 31 ad D k (cM ad k u) t) (AW 31 ad)) 0 0 (AW 31 ad) := by
  refine met_i (g := cM ad k) (M := M) (plainFor_of_name (by decide)) (Nat.le_of_ble_eq_true rfl) ?_
  intro p e s m args below meth c Q ls hx hb hml hG hown hK hret hP hS hl
  have hl : lv_has ls 2 [(0, .ref (ad 0)), (1, .int a1)] := hl
  obtain ⟨V, hV⟩ : ∃ V, f_X7_wind M a1 = V := ⟨_, rfl⟩
  have he := hV
  unfold f_X7_wind at he
  have hT0 : TI M M := TI_rf hI
  have qb_M := hI.1
  have qs_M := hI.2.1
  have qz_M := hI.2.2.1
  refine lv_aload_n hx hb dX7_wind_0 rfl (lv_at hl 0 rfl) ?_
  refine lv_iconst (v := 0) hx hb dX7_wind_1 (by decide) ?_
  refine pX7_19 hx hb hG hown hK hP had AW_in hS gw_5_19 dX7_wind_2 (fun H locs hP hS => ?_)
  obtain ⟨M_1, eM_1⟩ : ∃ y : Mem, y = up2 M 0 19 0 := ⟨_, rfl⟩
  rw [← eM_1] at hP
  have he := bnd_at he eM_1
  have hTM_1 : TI M M_1 := by rw [eM_1]; exact TI_f hT0 (by decide)
  have qb_M_1 := hTM_1.1.1
  have qs_M_1 := hTM_1.1.2.1
  have qz_M_1 := hTM_1.1.2.2.1
  refine lv_iload_n hx hb dX7_wind_5 rfl (lv_at hl 1 rfl) ?_
  refine lv_i2l (v := a1.toInt64) hx hb dX7_wind_6 rfl ?_
  refine lv_lconst (v := 0) hx hb dX7_wind_7 (by decide) ?_
  refine lv_ldc2 (v := 400) hx hb hown (hG _ gw_12_15) dX7_wind_8 ?_
  refine callS_i [.long a1.toInt64, .long 0, .long 400] [] hx hb hml hG hown hK (c_X7_in had (M := M_1)  a1.toInt64 0 400) gw_7_2 gm_X7_in gd_X7_in rfl rfl ⟨Nat.le_of_ble_eq_true rfl, Nat.le_of_ble_eq_true rfl⟩ ⟨Nat.le_refl _, Nat.le_refl _⟩ hP (fun _ h => h) hS rfl hl.1 rfl (Nat.le_of_ble_eq_true rfl) dX7_wind_11 (fun r_2 u_4 H locs hF_3 hP hS => ?_)
  obtain ⟨hz_5, hF_3, hu⟩ := hF_3; rw [hu] at hP; subst hF_3
  obtain ⟨t_12, M_13, hr_7, he⟩ := bnd2_ex he
  have j32 : ∀ (H : Heap) (locs : List Loc) (ls : Array Slot), TI M M_13 → va_P D vwCl (wld 31 ad (cM ad k M_13)) H → va_S (AW 31 ad) s.heap H locs → lv_has ls 2 [] → W p l e rm_X7_wind s m args below meth c H locs 0 0 Q (F0 m 32 ls [.int t_12]) := by
    intro H locs ls hTM_13 hP hS hl
    have qb_M_13 := hTM_13.1.1
    have qs_M_13 := hTM_13.1.2.1
    have qz_M_13 := hTM_13.1.2.2.1
    exact hret _ _ _ _ _ _ ⟨(hV.trans he.symm), hTM_13⟩ hP hS dX7_wind_32
  refine lv_if_eq (tgt := 29) hx hb dX7_wind_14 (by decide) (fun hc_6 => ?_) (fun hc_6 => ?_)
  · have hr_7 := ite_t hr_7 hc_6
    refine lv_ldcw (v := (-1000000001)) hx hb hown (hG _ gw_12_16) dX7_wind_29 ?_
    cases hr_7
    exact j32 _ _ _ hTM_1 hP hS (lv_sub hl [] rfl)
  · have hr_7 := ite_f hr_7 hc_6
    refine lv_aload_n hx hb dX7_wind_17 rfl (lv_at hl 0 rfl) ?_
    refine lv_iload_n hx hb dX7_wind_18 rfl (lv_at hl 1 rfl) ?_
    refine lv_aload_n hx hb dX7_wind_19 rfl (lv_at hl 0 rfl) ?_
    refine gX7_4 hx hb hG hown hK hP gw_7_1 dX7_wind_20 ?_
    refine call_i [.int a1, .int (M_1 0 4)] [] hx hb hml hG hown hK (c_X7_windBy had M_1 a1 (M_1 0 4) hTM_1.1) gw_12_17 gm_X7_windBy gd_X7_windBy rfl rfl ⟨Nat.le_of_ble_eq_true rfl, Nat.le_of_ble_eq_true rfl⟩ ⟨Nat.le_refl _, Nat.le_refl _⟩ (rX7 hK hP) hP (fun _ h => h) hS rfl hl.1 rfl (Nat.le_of_ble_eq_true rfl) dX7_wind_23 (fun r_8 M_10 H locs hF_9 hP hS => ?_)
    obtain ⟨hF_9, hti_11⟩ := hF_9
    have hr_7 := bnd2_at hr_7 hF_9
    have hTM_10 : TI M M_10 := TI_tr hTM_1 hti_11
    have qb_M_10 := hTM_10.1.1
    have qs_M_10 := hTM_10.1.2.1
    have qz_M_10 := hTM_10.1.2.2.1
    refine lv_goto (tgt := 32) hx hb dX7_wind_26 (by decide) ?_
    cases hr_7
    exact j32 _ _ _ hTM_10 hP hS (lv_sub hl [] rfl)
def rm_X7_isPlace : Room := { frames := 1, cells := 0, slots := 0, locals := 25 }
theorem gm_X7_isPlace : Cond.static yX7_isPlace ∈ wsL_law ∧ Cond.initialized yX7_isPlace.cls ∈ wsL_law ∧ Cond.code yX7_isPlace cX7_isPlace 1 (some .boolean) ∈ wsL_law := ⟨gw_15_14, gw_1_5, gw_15_15⟩
theorem gd_X7_isPlace : yX7_isPlace.cls ≠ "java/lang/invoke/MethodHandle" ∧ yX7_isPlace.cls ≠ "java/lang/invoke/VarHandle" ∧ (parseMethodDescriptor yX7_isPlace.desc).map (fun d => d.parameters.length) = some 1 := by decide +kernel
set_option maxRecDepth 100000 in
set_option maxHeartbeats 0 in
theorem c_X7_isPlace {l : Launch} {D : va_G} {k : Nat → ClassId} {ad : Nat → Nat} (had : InjN 31 ad) {M : Mem} (a1 : Int32) : Met l yX7_isPlace (Cond.code yX7_isPlace cX7_isPlace 1 (some .boolean) :: wsL_law) rm_X7_isPlace (va_Pc [.int a1] (GW 31 ad D k (cM ad k M))) (va_Qi (fun r u => (r = 0 ∨ r = 1) ∧ f_X7_isPlace a1 = r ∧ u = M) (fun u t => GW 31 ad D k (cM ad k u) t) (AW 31 ad)) 0 0 (AW 31 ad) := by
  refine met_z (g := cM ad k) (M := M) (plainFor_of_name (by decide)) (Nat.le_of_ble_eq_true rfl) ?_
  intro p e s m args below meth c Q ls hx hb hml hG hown hK hret hP hS hl
  have hl : lv_has ls 1 [(0, .int a1)] := hl
  obtain ⟨V, hV⟩ : ∃ V, f_X7_isPlace a1 = V := ⟨_, rfl⟩
  have he := hV
  unfold f_X7_isPlace at he
  refine lv_iload_n hx hb dX7_isPlace_0 rfl (lv_at hl 0 rfl) ?_
  refine lv_i2l (v := a1.toInt64) hx hb dX7_isPlace_1 rfl ?_
  refine lv_ldc2 (v := (-200)) hx hb hown (hG _ gw_15_16) dX7_isPlace_2 ?_
  refine lv_ldc2 (v := 200) hx hb hown (hG _ gw_15_17) dX7_isPlace_5 ?_
  refine callS_i [.long a1.toInt64, .long (-200), .long 200] [] hx hb hml hG hown hK (c_X7_in had (M := M)  a1.toInt64 (-200) 200) gw_7_2 gm_X7_in gd_X7_in rfl rfl ⟨Nat.le_of_ble_eq_true rfl, Nat.le_of_ble_eq_true rfl⟩ ⟨Nat.le_refl _, Nat.le_refl _⟩ hP (fun _ h => h) hS rfl hl.1 rfl (Nat.le_of_ble_eq_true rfl) dX7_isPlace_8 (fun r_1 u_3 H locs hF_2 hP hS => ?_)
  obtain ⟨hz_4, hF_2, hu⟩ := hF_2; rw [hu] at hP; subst hF_2
  exact hret _ _ _ _ _ _ ⟨hz_4, (hV.trans he.symm), rfl⟩ (nz01 hz_4) hP hS dX7_isPlace_11
def rm_X7_begin : Room := { frames := 0, cells := 0, slots := 0, locals := 0 }
theorem gm_X7_begin : Cond.instanceMethod yX7_begin ∈ wsL_law ∧ Cond.selects RX7 yX7_begin yX7_begin ∈ wsL_law ∧ Cond.initialized RX7 ∈ wsL_law ∧ Cond.code yX7_begin cX7_begin 2 none ∈ wsL_law := ⟨gw_15_19, gw_15_20, gw_1_5, gw_15_21⟩
theorem gd_X7_begin : yX7_begin.cls = RX7 ∧ yX7_begin.cls ≠ "java/lang/invoke/MethodHandle" ∧ yX7_begin.cls ≠ "java/lang/invoke/VarHandle" ∧ (parseMethodDescriptor yX7_begin.desc).map (fun d => d.parameters.length) = some 1 := by decide +kernel
set_option maxRecDepth 100000 in
set_option maxHeartbeats 0 in
theorem c_X7_begin {l : Launch} {D : va_G} {k : Nat → ClassId} {ad : Nat → Nat} (had : InjN 31 ad) (M : Mem) (a1 : Int32) (hI : MI M) (hbx : 0 ≤ a1.toInt ∧ a1.toInt < 4) : Met l yX7_begin (Cond.code yX7_begin cX7_begin 2 none :: wsL_law) rm_X7_begin (va_Pc [.ref (ad 0), .int a1] (GW 31 ad D k (cM ad k M))) (va_Qv (fun u => (f_X7_begin M a1 = u ∧ TI M u)) (fun u t => GW 31 ad D k (cM ad k u) t) (AW 31 ad)) 0 0 (AW 31 ad) := by
  refine met_v (g := cM ad k) (M := M) (plainFor_of_name (by decide)) (Nat.le_of_ble_eq_true rfl) ?_
  intro p e s m args below meth c Q ls hx hb hml hG hown hK hret hP hS hl
  have hl : lv_has ls 2 [(0, .ref (ad 0)), (1, .int a1)] := hl
  obtain ⟨V, hV⟩ : ∃ V, f_X7_begin M a1 = V := ⟨_, rfl⟩
  have he := hV
  unfold f_X7_begin at he
  have hT0 : TI M M := TI_rf hI
  have qb_M := hI.1
  have qs_M := hI.2.1
  have qz_M := hI.2.2.1
  refine lv_aload_n hx hb dX7_begin_0 rfl (lv_at hl 0 rfl) ?_
  refine gX7_13 hx hb hG hown hK hP gw_4_18 dX7_begin_1 ?_
  refine lv_iload_n hx hb dX7_begin_4 rfl (lv_at hl 1 rfl) ?_
  refine lv_aload_n hx hb dX7_begin_5 rfl (lv_at hl 0 rfl) ?_
  refine gX7_10 hx hb hG hown hK hP gw_4_15 dX7_begin_6 ?_
  refine lv_iload_n hx hb dX7_begin_9 rfl (lv_at hl 1 rfl) ?_
  refine al_M3 hx hb hK hP (vin_I (by omega) (by omega)) dX7_begin_10 ?_
  refine as_M6 hx hb hK hP had AW_in hS (vin_I (by omega) (by omega)) dX7_begin_11 (fun H locs hP hS => ?_)
  obtain ⟨M_1, eM_1⟩ : ∃ y : Mem, y = up2 M 6 a1.toNatClampNeg (M 3 a1.toNatClampNeg) := ⟨_, rfl⟩
  rw [← eM_1] at hP
  have he := bnd_at he eM_1
  have hTM_1 : TI M M_1 := by rw [eM_1]; exact TI_a hT0 (by decide)
  have qb_M_1 := hTM_1.1.1
  have qs_M_1 := hTM_1.1.2.1
  have qz_M_1 := hTM_1.1.2.2.1
  refine lv_aload_n hx hb dX7_begin_12 rfl (lv_at hl 0 rfl) ?_
  refine gX7_14 hx hb hG hown hK hP gw_4_19 dX7_begin_13 ?_
  refine lv_iload_n hx hb dX7_begin_16 rfl (lv_at hl 1 rfl) ?_
  refine lv_iconst (v := 0) hx hb dX7_begin_17 (by decide) ?_
  refine as_M7 hx hb hK hP had AW_in hS (vin_I (by omega) (by omega)) dX7_begin_18 (fun H locs hP hS => ?_)
  obtain ⟨M_2, eM_2⟩ : ∃ y : Mem, y = up2 M_1 7 a1.toNatClampNeg 0 := ⟨_, rfl⟩
  rw [← eM_2] at hP
  have he := bnd_at he eM_2
  have hTM_2 : TI M M_2 := by rw [eM_2]; exact TI_a hTM_1 (by decide)
  have qb_M_2 := hTM_2.1.1
  have qs_M_2 := hTM_2.1.2.1
  have qz_M_2 := hTM_2.1.2.2.1
  refine lv_aload_n hx hb dX7_begin_19 rfl (lv_at hl 0 rfl) ?_
  refine gX7_15 hx hb hG hown hK hP gw_4_20 dX7_begin_20 ?_
  refine lv_iload_n hx hb dX7_begin_23 rfl (lv_at hl 1 rfl) ?_
  refine lv_aload_n hx hb dX7_begin_24 rfl (lv_at hl 0 rfl) ?_
  refine gX7_11 hx hb hG hown hK hP gw_4_16 dX7_begin_25 ?_
  refine lv_iload_n hx hb dX7_begin_28 rfl (lv_at hl 1 rfl) ?_
  refine al_M4 hx hb hK hP (vin_I (by omega) (by omega)) dX7_begin_29 ?_
  refine as_M8 hx hb hK hP had AW_in hS (vin_I (by omega) (by omega)) dX7_begin_30 (fun H locs hP hS => ?_)
  obtain ⟨M_3, eM_3⟩ : ∃ y : Mem, y = up2 M_2 8 a1.toNatClampNeg (M_2 4 a1.toNatClampNeg) := ⟨_, rfl⟩
  rw [← eM_3] at hP
  have he := bnd_at he eM_3
  have hTM_3 : TI M M_3 := by rw [eM_3]; exact TI_a hTM_2 (by decide)
  have qb_M_3 := hTM_3.1.1
  have qs_M_3 := hTM_3.1.2.1
  have qz_M_3 := hTM_3.1.2.2.1
  refine lv_aload_n hx hb dX7_begin_31 rfl (lv_at hl 0 rfl) ?_
  refine gX7_16 hx hb hG hown hK hP gw_4_21 dX7_begin_32 ?_
  refine lv_iload_n hx hb dX7_begin_35 rfl (lv_at hl 1 rfl) ?_
  refine lv_iconst (v := 0) hx hb dX7_begin_36 (by decide) ?_
  refine as_M9 hx hb hK hP had AW_in hS (vin_I (by omega) (by omega)) dX7_begin_37 (fun H locs hP hS => ?_)
  obtain ⟨M_4, eM_4⟩ : ∃ y : Mem, y = up2 M_3 9 a1.toNatClampNeg 0 := ⟨_, rfl⟩
  rw [← eM_4] at hP
  have he := bnd_at he eM_4
  have hTM_4 : TI M M_4 := by rw [eM_4]; exact TI_a hTM_3 (by decide)
  have qb_M_4 := hTM_4.1.1
  have qs_M_4 := hTM_4.1.2.1
  have qz_M_4 := hTM_4.1.2.2.1
  refine lv_aload_n hx hb dX7_begin_38 rfl (lv_at hl 0 rfl) ?_
  refine gX7_17 hx hb hG hown hK hP gw_4_22 dX7_begin_39 ?_
  refine lv_iload_n hx hb dX7_begin_42 rfl (lv_at hl 1 rfl) ?_
  refine lv_bipush (v := (-4)) hx hb dX7_begin_43 (by decide) ?_
  refine as_M10 hx hb hK hP had AW_in hS (vin_I (by omega) (by omega)) dX7_begin_45 (fun H locs hP hS => ?_)
  obtain ⟨M_5, eM_5⟩ : ∃ y : Mem, y = up2 M_4 10 a1.toNatClampNeg (-4) := ⟨_, rfl⟩
  rw [← eM_5] at hP
  have he := bnd_at he eM_5
  have hTM_5 : TI M M_5 := by rw [eM_5]; exact TI_a hTM_4 (by decide)
  have qb_M_5 := hTM_5.1.1
  have qs_M_5 := hTM_5.1.2.1
  have qz_M_5 := hTM_5.1.2.2.1
  refine lv_aload_n hx hb dX7_begin_46 rfl (lv_at hl 0 rfl) ?_
  refine gX7_18 hx hb hG hown hK hP gw_4_23 dX7_begin_47 ?_
  refine lv_iload_n hx hb dX7_begin_50 rfl (lv_at hl 1 rfl) ?_
  refine lv_iconst (v := 0) hx hb dX7_begin_51 (by decide) ?_
  refine as_M11 hx hb hK hP had AW_in hS (vin_I (by omega) (by omega)) dX7_begin_52 (fun H locs hP hS => ?_)
  obtain ⟨M_6, eM_6⟩ : ∃ y : Mem, y = up2 M_5 11 a1.toNatClampNeg 0 := ⟨_, rfl⟩
  rw [← eM_6] at hP
  have he := bnd_at he eM_6
  have hTM_6 : TI M M_6 := by rw [eM_6]; exact TI_a hTM_5 (by decide)
  have qb_M_6 := hTM_6.1.1
  have qs_M_6 := hTM_6.1.2.1
  have qz_M_6 := hTM_6.1.2.2.1
  exact hret _ _ _ _ _ ⟨(hV.trans he.symm), hTM_6⟩ hP hS dX7_begin_53
def rm_X7_boat : Room := { frames := 2, cells := 0, slots := 0, locals := 45 }
theorem gm_X7_boat : Cond.instanceMethod yX7_boat ∈ wsL_law ∧ Cond.selects RX7 yX7_boat yX7_boat ∈ wsL_law ∧ Cond.initialized RX7 ∈ wsL_law ∧ Cond.code yX7_boat cX7_boat 5 (some .int) ∈ wsL_law := ⟨gw_15_8, gw_15_9, gw_1_5, gw_15_10⟩
theorem gd_X7_boat : yX7_boat.cls = RX7 ∧ yX7_boat.cls ≠ "java/lang/invoke/MethodHandle" ∧ yX7_boat.cls ≠ "java/lang/invoke/VarHandle" ∧ (parseMethodDescriptor yX7_boat.desc).map (fun d => d.parameters.length) = some 4 := by decide +kernel
set_option maxRecDepth 100000 in
set_option maxHeartbeats 0 in
theorem c_X7_boat {l : Launch} {D : va_G} {k : Nat → ClassId} {ad : Nat → Nat} (had : InjN 31 ad) (M : Mem) (a1 : Int32) (a2 : Int32) (a3 : Int32) (ha3 : a3 = 0 ∨ a3 = 1) (a4 : Int32) (hI : MI M) : Met l yX7_boat (Cond.code yX7_boat cX7_boat 5 (some .int) :: wsL_law) rm_X7_boat (va_Pc [.ref (ad 0), .int a1, .int a2, .int a3, .int a4] (GW 31 ad D k (cM ad k M))) (va_Qi (fun r u => (f_X7_boat M a1 a2 a3 a4 = (r, u) ∧ TI M u)) (fun u t => GW 31 ad D k (cM ad k u) t) (AW 31 ad)) 0 0 (AW 31 ad) := by
  refine met_i (g := cM ad k) (M := M) (plainFor_of_name (by decide)) (Nat.le_of_ble_eq_true rfl) ?_
  intro p e s m args below meth c Q ls hx hb hml hG hown hK hret hP hS hl
  have hl : lv_has ls 5 [(0, .ref (ad 0)), (1, .int a1), (2, .int a2), (3, .int a3), (4, .int a4)] := hl
  obtain ⟨V, hV⟩ : ∃ V, f_X7_boat M a1 a2 a3 a4 = V := ⟨_, rfl⟩
  have he := hV
  unfold f_X7_boat at he
  have hT0 : TI M M := TI_rf hI
  have qb_M := hI.1
  have qs_M := hI.2.1
  have qz_M := hI.2.2.1
  have hs0_8_M : M 0 8 = (M 0 8) := rfl
  refine lv_aload_n hx hb dX7_boat_0 rfl (lv_at hl 0 rfl) ?_
  refine lv_iconst (v := 0) hx hb dX7_boat_1 (by decide) ?_
  refine pX7_19 hx hb hG hown hK hP had AW_in hS gw_5_19 dX7_boat_2 (fun H locs hP hS => ?_)
  obtain ⟨M_1, eM_1⟩ : ∃ y : Mem, y = up2 M 0 19 0 := ⟨_, rfl⟩
  rw [← eM_1] at hP
  have he := bnd_at he eM_1
  have hTM_1 : TI M M_1 := by rw [eM_1]; exact TI_f hT0 (by decide)
  have qb_M_1 := hTM_1.1.1
  have qs_M_1 := hTM_1.1.2.1
  have qz_M_1 := hTM_1.1.2.2.1
  have hs0_8_M_1 : M_1 0 8 = (M 0 8) := by rw [eM_1, up2_n _ _ (by decide)] <;> exact hs0_8_M
  refine lv_iload_n hx hb dX7_boat_5 rfl (lv_at hl 1 rfl) ?_
  refine lv_i2l (v := a1.toInt64) hx hb dX7_boat_6 rfl ?_
  refine lv_lconst (v := 0) hx hb dX7_boat_7 (by decide) ?_
  refine lv_ldc2 (v := 7) hx hb hown (hG _ gw_9_11) dX7_boat_8 ?_
  refine callS_i [.long a1.toInt64, .long 0, .long 7] [] hx hb hml hG hown hK (c_X7_in had (M := M_1)  a1.toInt64 0 7) gw_7_2 gm_X7_in gd_X7_in rfl rfl ⟨Nat.le_of_ble_eq_true rfl, Nat.le_of_ble_eq_true rfl⟩ ⟨Nat.le_refl _, Nat.le_refl _⟩ hP (fun _ h => h) hS rfl hl.1 rfl (Nat.le_of_ble_eq_true rfl) dX7_boat_11 (fun r_2 u_4 H locs hF_3 hP hS => ?_)
  obtain ⟨hz_5, hF_3, hu⟩ := hF_3; rw [hu] at hP; subst hF_3
  refine lv_if_eq (tgt := 37) hx hb dX7_boat_14 (by decide) (fun hc_6 => ?_) (fun hc_6 => ?_)
  · have he := ite_t he hc_6
    refine lv_iconst (v := (-1)) hx hb dX7_boat_37 (by decide) ?_
    exact hret _ _ _ _ _ _ ⟨(hV.trans he.symm), hTM_1⟩ hP hS dX7_boat_38
  · have he := ite_f he hc_6
    refine lv_iload_n hx hb dX7_boat_17 rfl (lv_at hl 2 rfl) ?_
    refine callS_i [.int a2] [] hx hb hml hG hown hK (c_X7_isPlace had (M := M_1)  a2) gw_15_13 gm_X7_isPlace gd_X7_isPlace rfl rfl ⟨Nat.le_of_ble_eq_true rfl, Nat.le_of_ble_eq_true rfl⟩ ⟨Nat.le_refl _, Nat.le_refl _⟩ hP (fun _ h => h) hS rfl hl.1 rfl (Nat.le_of_ble_eq_true rfl) dX7_boat_18 (fun r_7 u_9 H locs hF_8 hP hS => ?_)
    obtain ⟨hz_10, hF_8, hu⟩ := hF_8; rw [hu] at hP; subst hF_8
    refine lv_if_eq (tgt := 37) hx hb dX7_boat_21 (by decide) (fun hc_11 => ?_) (fun hc_11 => ?_)
    · have he := ite_t he hc_11
      refine lv_iconst (v := (-1)) hx hb dX7_boat_37 (by decide) ?_
      exact hret _ _ _ _ _ _ ⟨(hV.trans he.symm), hTM_1⟩ hP hS dX7_boat_38
    · have he := ite_f he hc_11
      refine lv_iload hx hb dX7_boat_24 (lv_at hl 4 rfl) ?_
      refine lv_i2l (v := a4.toInt64) hx hb dX7_boat_26 rfl ?_
      refine lv_lconst (v := 0) hx hb dX7_boat_27 (by decide) ?_
      refine lv_ldc2 (v := 40) hx hb hown (hG _ gw_15_11) dX7_boat_28 ?_
      refine callS_i [.long a4.toInt64, .long 0, .long 40] [] hx hb hml hG hown hK (c_X7_in had (M := M_1)  a4.toInt64 0 40) gw_7_2 gm_X7_in gd_X7_in rfl rfl ⟨Nat.le_of_ble_eq_true rfl, Nat.le_of_ble_eq_true rfl⟩ ⟨Nat.le_refl _, Nat.le_refl _⟩ hP (fun _ h => h) hS rfl hl.1 rfl (Nat.le_of_ble_eq_true rfl) dX7_boat_31 (fun r_12 u_14 H locs hF_13 hP hS => ?_)
      obtain ⟨hz_15, hF_13, hu⟩ := hF_13; rw [hu] at hP; subst hF_13
      refine lv_if_ne (tgt := 39) hx hb dX7_boat_34 (by decide) (fun hc_16 => ?_) (fun hc_16 => ?_)
      · have he := ite_t he hc_16
        refine lv_aload_n hx hb dX7_boat_39 rfl (lv_at hl 0 rfl) ?_
        refine gX7_8 hx hb hG hown hK hP gw_7_15 dX7_boat_40 ?_
        refine lv_iconst (v := 4) hx hb dX7_boat_43 (by decide) ?_
        refine lv_icmp_eq (tgt := 54) hx hb dX7_boat_44 (by decide) (fun hc_17 => ?_) (fun hc_17 => ?_)
        · have he := ite_t he hc_17
          refine lv_aload_n hx hb dX7_boat_54 rfl (lv_at hl 0 rfl) ?_
          refine gX7_8 hx hb hG hown hK hP gw_7_15 dX7_boat_55 ?_
          refine lv_iconst (v := 4) hx hb dX7_boat_58 (by decide) ?_
          obtain ⟨t_20, hr_19, he⟩ := bnd_ex he
          have j69 : ∀ (H : Heap) (locs : List Loc) (ls : Array Slot), va_P D vwCl (wld 31 ad (cM ad k M_1)) H → va_S (AW 31 ad) s.heap H locs → lv_has ls 5 [] → W p l e rm_X7_boat s m args below meth c H locs 0 0 Q (F0 m 69 ls [.int t_20]) := by
            intro H locs ls hP hS hl
            exact hret _ _ _ _ _ _ ⟨(hV.trans he.symm), hTM_1⟩ hP hS dX7_boat_69
          refine lv_icmp_ne (tgt := 67) hx hb dX7_boat_59 (by decide) (fun hc_18 => ?_) (fun hc_18 => ?_)
          · have hr_19 := ite_t hr_19 hc_18
            refine lv_bipush (v := (-3)) hx hb dX7_boat_67 (by decide) ?_
            cases hr_19
            exact j69 _ _ _ hP hS (lv_sub hl [] rfl)
          · have hr_19 := ite_f hr_19 (fun q => q hc_18)
            refine lv_bipush (v := (-2)) hx hb dX7_boat_62 (by decide) ?_
            refine lv_goto (tgt := 69) hx hb dX7_boat_64 (by decide) ?_
            cases hr_19
            exact j69 _ _ _ hP hS (lv_sub hl [] rfl)
        · have he := ite_f he hc_17
          refine lv_aload_n hx hb dX7_boat_47 rfl (lv_at hl 0 rfl) ?_
          refine gX7_7 hx hb hG hown hK hP gw_15_12 dX7_boat_48 ?_
          refine lv_if_le (tgt := 70) hx hb dX7_boat_51 (by decide) (fun hc_21 => ?_) (fun hc_21 => ?_)
          · have he := ite_t he hc_21
            refine lv_aload_n hx hb dX7_boat_70 rfl (lv_at hl 0 rfl) ?_
            refine gX7_9 hx hb hG hown hK hP gw_4_14 dX7_boat_71 ?_
            refine lv_aload_n hx hb dX7_boat_74 rfl (lv_at hl 0 rfl) ?_
            refine gX7_8 hx hb hG hown hK hP gw_7_15 dX7_boat_75 ?_
            refine lv_iload_n hx hb dX7_boat_78 rfl (lv_at hl 1 rfl) ?_
            refine as_M2 hx hb hK hP had AW_in hS (vin_I (by have ll0 : (0 : Int32).toInt = 0 := rfl; have ll8 : (8 : Int32).toInt = 8 := rfl; have qsl0 := congrArg Int32.toInt hs0_8_M_1; have qsmM_1 := congrArg Int32.toInt hs0_8_M_1; have q4 : (M_1 0 8).toInt ≠ 4 := ne_I hc_17; have q5 : (M_1 0 7).toInt ≤ 0 := le_I hc_21; omega) (by have ll0 : (0 : Int32).toInt = 0 := rfl; have ll8 : (8 : Int32).toInt = 8 := rfl; have qsl0 := congrArg Int32.toInt hs0_8_M_1; have qsmM_1 := congrArg Int32.toInt hs0_8_M_1; have q4 : (M_1 0 8).toInt ≠ 4 := ne_I hc_17; have q5 : (M_1 0 7).toInt ≤ 0 := le_I hc_21; omega)) dX7_boat_79 (fun H locs hP hS => ?_)
            obtain ⟨M_22, eM_22⟩ : ∃ y : Mem, y = up2 M_1 2 (M_1 0 8).toNatClampNeg a1 := ⟨_, rfl⟩
            rw [← eM_22] at hP
            have he := bnd_at he eM_22
            have hTM_22 : TI M M_22 := by rw [eM_22]; exact TI_a hTM_1 (by decide)
            have qb_M_22 := hTM_22.1.1
            have qs_M_22 := hTM_22.1.2.1
            have qz_M_22 := hTM_22.1.2.2.1
            have hs0_8_M_22 : M_22 0 8 = (M 0 8) := by rw [eM_22, up2_o _ _ (by decide)] <;> exact hs0_8_M_1
            refine lv_aload_n hx hb dX7_boat_80 rfl (lv_at hl 0 rfl) ?_
            refine gX7_10 hx hb hG hown hK hP gw_4_15 dX7_boat_81 ?_
            refine lv_aload_n hx hb dX7_boat_84 rfl (lv_at hl 0 rfl) ?_
            refine gX7_8 hx hb hG hown hK hP gw_7_15 dX7_boat_85 ?_
            refine lv_iload_n hx hb dX7_boat_88 rfl (lv_at hl 2 rfl) ?_
            refine as_M3 hx hb hK hP had AW_in hS (vin_I (by have ll0 : (0 : Int32).toInt = 0 := rfl; have ll8 : (8 : Int32).toInt = 8 := rfl; have qsl0 := congrArg Int32.toInt hs0_8_M_22; have qsmM_1 := congrArg Int32.toInt hs0_8_M_1; have q4 : (M_1 0 8).toInt ≠ 4 := ne_I hc_17; omega) (by have ll0 : (0 : Int32).toInt = 0 := rfl; have ll8 : (8 : Int32).toInt = 8 := rfl; have qsl0 := congrArg Int32.toInt hs0_8_M_22; have qsmM_1 := congrArg Int32.toInt hs0_8_M_1; have q4 : (M_1 0 8).toInt ≠ 4 := ne_I hc_17; omega)) dX7_boat_89 (fun H locs hP hS => ?_)
            obtain ⟨M_23, eM_23⟩ : ∃ y : Mem, y = up2 M_22 3 (M_22 0 8).toNatClampNeg a2 := ⟨_, rfl⟩
            rw [← eM_23] at hP
            have he := bnd_at he eM_23
            have hTM_23 : TI M M_23 := by rw [eM_23]; exact TI_a hTM_22 (by decide)
            have qb_M_23 := hTM_23.1.1
            have qs_M_23 := hTM_23.1.2.1
            have qz_M_23 := hTM_23.1.2.2.1
            have hs0_8_M_23 : M_23 0 8 = (M 0 8) := by rw [eM_23, up2_o _ _ (by decide)] <;> exact hs0_8_M_22
            refine lv_aload_n hx hb dX7_boat_90 rfl (lv_at hl 0 rfl) ?_
            refine gX7_11 hx hb hG hown hK hP gw_4_16 dX7_boat_91 ?_
            refine lv_aload_n hx hb dX7_boat_94 rfl (lv_at hl 0 rfl) ?_
            refine gX7_8 hx hb hG hown hK hP gw_7_15 dX7_boat_95 ?_
            refine lv_iload_n hx hb dX7_boat_98 rfl (lv_at hl 3 rfl) ?_
            obtain ⟨t_26, hr_25, he⟩ := bnd_ex he
            have j107 : ∀ (H : Heap) (locs : List Loc) (ls : Array Slot), va_P D vwCl (wld 31 ad (cM ad k M_23)) H → va_S (AW 31 ad) s.heap H locs → lv_has ls 5 [(0, .ref (ad 0)), (4, .int a4)] → W p l e rm_X7_boat s m args below meth c H locs 0 0 Q (F0 m 107 ls [.int t_26, .int (M_23 0 8), .ref (ad 4)]) := by
              intro H locs ls hP hS hl
              refine as_M4 hx hb hK hP had AW_in hS (vin_I (by have ll0 : (0 : Int32).toInt = 0 := rfl; have ll8 : (8 : Int32).toInt = 8 := rfl; have qsl0 := congrArg Int32.toInt hs0_8_M_23; have qsmM_1 := congrArg Int32.toInt hs0_8_M_1; have q4 : (M_1 0 8).toInt ≠ 4 := ne_I hc_17; omega) (by have ll0 : (0 : Int32).toInt = 0 := rfl; have ll8 : (8 : Int32).toInt = 8 := rfl; have qsl0 := congrArg Int32.toInt hs0_8_M_23; have qsmM_1 := congrArg Int32.toInt hs0_8_M_1; have q4 : (M_1 0 8).toInt ≠ 4 := ne_I hc_17; omega)) dX7_boat_107 (fun H locs hP hS => ?_)
              obtain ⟨M_27, eM_27⟩ : ∃ y : Mem, y = up2 M_23 4 (M_23 0 8).toNatClampNeg t_26 := ⟨_, rfl⟩
              rw [← eM_27] at hP
              have he := bnd_at he eM_27
              have hTM_27 : TI M M_27 := by rw [eM_27]; exact TI_a hTM_23 (by decide)
              have qb_M_27 := hTM_27.1.1
              have qs_M_27 := hTM_27.1.2.1
              have qz_M_27 := hTM_27.1.2.2.1
              have hs0_8_M_27 : M_27 0 8 = (M 0 8) := by rw [eM_27, up2_o _ _ (by decide)] <;> exact hs0_8_M_23
              refine lv_aload_n hx hb dX7_boat_108 rfl (lv_at hl 0 rfl) ?_
              refine gX7_12 hx hb hG hown hK hP gw_4_17 dX7_boat_109 ?_
              refine lv_aload_n hx hb dX7_boat_112 rfl (lv_at hl 0 rfl) ?_
              refine gX7_8 hx hb hG hown hK hP gw_7_15 dX7_boat_113 ?_
              refine lv_iload hx hb dX7_boat_116 (lv_at hl 1 rfl) ?_
              refine as_M5 hx hb hK hP had AW_in hS (vin_I (by have ll0 : (0 : Int32).toInt = 0 := rfl; have ll8 : (8 : Int32).toInt = 8 := rfl; have qsl0 := congrArg Int32.toInt hs0_8_M_27; have qsmM_1 := congrArg Int32.toInt hs0_8_M_1; have q4 : (M_1 0 8).toInt ≠ 4 := ne_I hc_17; omega) (by have ll0 : (0 : Int32).toInt = 0 := rfl; have ll8 : (8 : Int32).toInt = 8 := rfl; have qsl0 := congrArg Int32.toInt hs0_8_M_27; have qsmM_1 := congrArg Int32.toInt hs0_8_M_1; have q4 : (M_1 0 8).toInt ≠ 4 := ne_I hc_17; omega)) dX7_boat_118 (fun H locs hP hS => ?_)
              obtain ⟨M_28, eM_28⟩ : ∃ y : Mem, y = up2 M_27 5 (M_27 0 8).toNatClampNeg a4 := ⟨_, rfl⟩
              rw [← eM_28] at hP
              have he := bnd_at he eM_28
              have hTM_28 : TI M M_28 := by rw [eM_28]; exact TI_a hTM_27 (by decide)
              have qb_M_28 := hTM_28.1.1
              have qs_M_28 := hTM_28.1.2.1
              have qz_M_28 := hTM_28.1.2.2.1
              have hs0_8_M_28 : M_28 0 8 = (M 0 8) := by rw [eM_28, up2_o _ _ (by decide)] <;> exact hs0_8_M_27
              refine lv_aload_n hx hb dX7_boat_119 rfl (lv_at hl 0 rfl) ?_
              refine lv_aload_n hx hb dX7_boat_120 rfl (lv_at hl 0 rfl) ?_
              refine gX7_8 hx hb hG hown hK hP gw_7_15 dX7_boat_121 ?_
              refine call_v [.int (M_28 0 8)] [] hx hb hml hG hown hK (c_X7_begin had M_28 (M_28 0 8) hTM_28.1 (by have ll0 : (0 : Int32).toInt = 0 := rfl; have ll8 : (8 : Int32).toInt = 8 := rfl; have qsl0 := congrArg Int32.toInt hs0_8_M_28; have qsmM_1 := congrArg Int32.toInt hs0_8_M_1; have q4 : (M_1 0 8).toInt ≠ 4 := ne_I hc_17; omega)) gw_15_18 gm_X7_begin gd_X7_begin rfl rfl ⟨Nat.le_of_ble_eq_true rfl, Nat.le_of_ble_eq_true rfl⟩ ⟨Nat.le_refl _, Nat.le_refl _⟩ (rX7 hK hP) hP (fun _ h => h) hS rfl hl.1 rfl (Nat.le_of_ble_eq_true rfl) dX7_boat_124 (fun M_31 H locs hF_30 hP hS => ?_)
              obtain ⟨hF_30, hti_32⟩ := hF_30
              have he := bnd_at he hF_30.symm
              have hTM_31 : TI M M_31 := TI_tr hTM_28 hti_32
              have qb_M_31 := hTM_31.1.1
              have qs_M_31 := hTM_31.1.2.1
              have qz_M_31 := hTM_31.1.2.2.1
              have hs0_8_M_31 : M_31 0 8 = (M 0 8) := by rw [sl_begin_0_8 hF_30, hs0_8_M_28]
              refine lv_aload_n hx hb dX7_boat_127 rfl (lv_at hl 0 rfl) ?_
              refine lv_dup hx hb dX7_boat_128 rfl ?_
              refine gX7_8 hx hb hG hown hK hP gw_7_15 dX7_boat_129 ?_
              refine lv_iconst (v := 1) hx hb dX7_boat_132 (by decide) ?_
              refine lv_iadd hx hb dX7_boat_133 ?_
              refine pX7_8 hx hb hG hown hK hP had AW_in hS gw_7_15 dX7_boat_134 (fun H locs hP hS => ?_)
              obtain ⟨M_33, eM_33⟩ : ∃ y : Mem, y = up2 M_31 0 8 ((M_31 0 8) + 1) := ⟨_, rfl⟩
              rw [← eM_33] at hP
              have he := bnd_at he eM_33
              have hTM_33 : TI M M_33 := by rw [eM_33]; exact TI_boats hTM_31 (by have ll0 : (0 : Int32).toInt = 0 := rfl; have ll1 : (1 : Int32).toInt = 1 := rfl; have ll8 : (8 : Int32).toInt = 8 := rfl; have qsl0 := congrArg Int32.toInt hs0_8_M_31; have qsmM_1 := congrArg Int32.toInt hs0_8_M_1; have q5 : (M_1 0 8).toInt ≠ 4 := ne_I hc_17; rw [inc_I (N := 4) (by omega) (by decide)]; omega)
              have qb_M_33 := hTM_33.1.1
              have qs_M_33 := hTM_33.1.2.1
              have qz_M_33 := hTM_33.1.2.2.1
              have hs0_8_M_33 : M_33 0 8 = ((M_31 0 8) + 1) := by rw [eM_33]; exact up2_s _ _ _ _
              refine lv_aload_n hx hb dX7_boat_137 rfl (lv_at hl 0 rfl) ?_
              refine gX7_8 hx hb hG hown hK hP gw_7_15 dX7_boat_138 ?_
              refine lv_iconst (v := 1) hx hb dX7_boat_141 (by decide) ?_
              refine lv_isub hx hb dX7_boat_142 ?_
              exact hret _ _ _ _ _ _ ⟨(hV.trans he.symm), hTM_33⟩ hP hS dX7_boat_143
            refine lv_if_eq (tgt := 106) hx hb dX7_boat_99 (by decide) (fun hc_24 => ?_) (fun hc_24 => ?_)
            · have hr_25 := ite_t hr_25 hc_24
              refine lv_iconst (v := (-1)) hx hb dX7_boat_106 (by decide) ?_
              cases hr_25
              exact j107 _ _ _ hP hS (lv_sub hl [0, 4] rfl)
            · have hr_25 := ite_f hr_25 hc_24
              refine lv_iconst (v := 1) hx hb dX7_boat_102 (by decide) ?_
              refine lv_goto (tgt := 107) hx hb dX7_boat_103 (by decide) ?_
              cases hr_25
              exact j107 _ _ _ hP hS (lv_sub hl [0, 4] rfl)
          · have he := ite_f he hc_21
            refine lv_aload_n hx hb dX7_boat_54 rfl (lv_at hl 0 rfl) ?_
            refine gX7_8 hx hb hG hown hK hP gw_7_15 dX7_boat_55 ?_
            refine lv_iconst (v := 4) hx hb dX7_boat_58 (by decide) ?_
            obtain ⟨t_36, hr_35, he⟩ := bnd_ex he
            have j69 : ∀ (H : Heap) (locs : List Loc) (ls : Array Slot), va_P D vwCl (wld 31 ad (cM ad k M_1)) H → va_S (AW 31 ad) s.heap H locs → lv_has ls 5 [] → W p l e rm_X7_boat s m args below meth c H locs 0 0 Q (F0 m 69 ls [.int t_36]) := by
              intro H locs ls hP hS hl
              exact hret _ _ _ _ _ _ ⟨(hV.trans he.symm), hTM_1⟩ hP hS dX7_boat_69
            refine lv_icmp_ne (tgt := 67) hx hb dX7_boat_59 (by decide) (fun hc_34 => ?_) (fun hc_34 => ?_)
            · have hr_35 := ite_t hr_35 hc_34
              refine lv_bipush (v := (-3)) hx hb dX7_boat_67 (by decide) ?_
              cases hr_35
              exact j69 _ _ _ hP hS (lv_sub hl [] rfl)
            · have hr_35 := ite_f hr_35 (fun q => q hc_34)
              refine lv_bipush (v := (-2)) hx hb dX7_boat_62 (by decide) ?_
              refine lv_goto (tgt := 69) hx hb dX7_boat_64 (by decide) ?_
              cases hr_35
              exact j69 _ _ _ hP hS (lv_sub hl [] rfl)
      · have he := ite_f he (fun q => q hc_16)
        refine lv_iconst (v := (-1)) hx hb dX7_boat_37 (by decide) ?_
        exact hret _ _ _ _ _ _ ⟨(hV.trans he.symm), hTM_1⟩ hP hS dX7_boat_38
