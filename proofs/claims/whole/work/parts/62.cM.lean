-- @needs 12_dec 13_dec 14_dec 15_dec 34_hM 60_cM
def rm_X7_openLevel : Room := { frames := 0, cells := 0, slots := 0, locals := 0 }
theorem gm_X7_openLevel : Cond.instanceMethod yX7_openLevel ∈ wsL_law ∧ Cond.selects RX7 yX7_openLevel yX7_openLevel ∈ wsL_law ∧ Cond.initialized RX7 ∈ wsL_law ∧ Cond.code yX7_openLevel cX7_openLevel 1 none ∈ wsL_law := ⟨gw_13_9, gw_13_10, gw_1_5, gw_13_11⟩
theorem gd_X7_openLevel : yX7_openLevel.cls = RX7 ∧ yX7_openLevel.cls ≠ "java/lang/invoke/MethodHandle" ∧ yX7_openLevel.cls ≠ "java/lang/invoke/VarHandle" ∧ (parseMethodDescriptor yX7_openLevel.desc).map (fun d => d.parameters.length) = some 0 := by decide +kernel
set_option maxRecDepth 100000 in
set_option maxHeartbeats 0 in
theorem c_X7_openLevel {l : Launch} {D : va_G} {k : Nat → ClassId} {ad : Nat → Nat} (had : InjN 31 ad) (M : Mem) (hI : MI M) (hlev : 0 ≤ (M 0 27).toInt ∧ (M 0 27).toInt < 8) : Met l yX7_openLevel (Cond.code yX7_openLevel cX7_openLevel 1 none :: wsL_law) rm_X7_openLevel (va_Pc [.ref (ad 0)] (GW 31 ad D k (cM ad k M))) (va_Qv (fun u => (f_X7_openLevel M = u ∧ TI M u)) (fun u t => GW 31 ad D k (cM ad k u) t) (AW 31 ad)) 0 0 (AW 31 ad) := by
  refine met_v (g := cM ad k) (M := M) (plainFor_of_name (by decide)) (Nat.le_of_ble_eq_true rfl) ?_
  intro p e s m args below meth c Q ls hx hb hml hG hown hK hret hP hS hl
  have hl : lv_has ls 1 [(0, .ref (ad 0))] := hl
  obtain ⟨V, hV⟩ : ∃ V, f_X7_openLevel M = V := ⟨_, rfl⟩
  have he := hV
  unfold f_X7_openLevel at he
  have hT0 : TI M M := TI_rf hI
  have qb_M := hI.1
  have qs_M := hI.2.1
  have qz_M := hI.2.2.1
  have hs0_27_M : M 0 27 = (M 0 27) := rfl
  refine lv_aload_n hx hb dX7_openLevel_0 rfl (lv_at hl 0 rfl) ?_
  refine gX7_23 hx hb hG hown hK hP gw_4_23 dX7_openLevel_1 ?_
  refine lv_aload_n hx hb dX7_openLevel_4 rfl (lv_at hl 0 rfl) ?_
  refine gX7_27 hx hb hG hown hK hP gw_13_7 dX7_openLevel_5 ?_
  refine lv_iconst (v := 0) hx hb dX7_openLevel_8 (by decide) ?_
  refine as_M13 hx hb hK hP had AW_in hS (vin_I (by have qsl0 := congrArg Int32.toInt hs0_27_M; omega) (by have qsl0 := congrArg Int32.toInt hs0_27_M; omega)) dX7_openLevel_9 (fun H locs hP hS => ?_)
  obtain ⟨M_1, eM_1⟩ : ∃ y : Mem, y = up2 M 13 (M 0 27).toNatClampNeg 0 := ⟨_, rfl⟩
  rw [← eM_1] at hP
  have he := bnd_at he eM_1
  have hTM_1 : TI M M_1 := by rw [eM_1]; exact TI_a hT0 (by decide)
  have qb_M_1 := hTM_1.1.1
  have qs_M_1 := hTM_1.1.2.1
  have qz_M_1 := hTM_1.1.2.2.1
  have hs0_27_M_1 : M_1 0 27 = (M 0 27) := by rw [eM_1, up2_o _ _ (by decide)] <;> exact hs0_27_M
  refine lv_aload_n hx hb dX7_openLevel_10 rfl (lv_at hl 0 rfl) ?_
  refine gX7_24 hx hb hG hown hK hP gw_5_0 dX7_openLevel_11 ?_
  refine lv_aload_n hx hb dX7_openLevel_14 rfl (lv_at hl 0 rfl) ?_
  refine gX7_27 hx hb hG hown hK hP gw_13_7 dX7_openLevel_15 ?_
  refine lv_iconst (v := 1) hx hb dX7_openLevel_18 (by decide) ?_
  refine as_M14 hx hb hK hP had AW_in hS (vin_I (by have qsl0 := congrArg Int32.toInt hs0_27_M_1; omega) (by have qsl0 := congrArg Int32.toInt hs0_27_M_1; omega)) dX7_openLevel_19 (fun H locs hP hS => ?_)
  obtain ⟨M_2, eM_2⟩ : ∃ y : Mem, y = up2 M_1 14 (M_1 0 27).toNatClampNeg 1 := ⟨_, rfl⟩
  rw [← eM_2] at hP
  have he := bnd_at he eM_2
  have hTM_2 : TI M M_2 := by rw [eM_2]; exact TI_a hTM_1 (by decide)
  have qb_M_2 := hTM_2.1.1
  have qs_M_2 := hTM_2.1.2.1
  have qz_M_2 := hTM_2.1.2.2.1
  have hs0_27_M_2 : M_2 0 27 = (M 0 27) := by rw [eM_2, up2_o _ _ (by decide)] <;> exact hs0_27_M_1
  refine lv_aload_n hx hb dX7_openLevel_20 rfl (lv_at hl 0 rfl) ?_
  refine gX7_26 hx hb hG hown hK hP gw_5_2 dX7_openLevel_21 ?_
  refine lv_aload_n hx hb dX7_openLevel_24 rfl (lv_at hl 0 rfl) ?_
  refine gX7_27 hx hb hG hown hK hP gw_13_7 dX7_openLevel_25 ?_
  refine lv_iconst (v := 0) hx hb dX7_openLevel_28 (by decide) ?_
  refine as_M16 hx hb hK hP had AW_in hS (vin_I (by have qsl0 := congrArg Int32.toInt hs0_27_M_2; omega) (by have qsl0 := congrArg Int32.toInt hs0_27_M_2; omega)) dX7_openLevel_29 (fun H locs hP hS => ?_)
  obtain ⟨M_3, eM_3⟩ : ∃ y : Mem, y = up2 M_2 16 (M_2 0 27).toNatClampNeg 0 := ⟨_, rfl⟩
  rw [← eM_3] at hP
  have he := bnd_at he eM_3
  have hTM_3 : TI M M_3 := by rw [eM_3]; exact TI_a hTM_2 (by decide)
  have qb_M_3 := hTM_3.1.1
  have qs_M_3 := hTM_3.1.2.1
  have qz_M_3 := hTM_3.1.2.2.1
  have hs0_27_M_3 : M_3 0 27 = (M 0 27) := by rw [eM_3, up2_o _ _ (by decide)] <;> exact hs0_27_M_2
  exact hret _ _ _ _ _ ⟨(hV.trans he.symm), hTM_3⟩ hP hS dX7_openLevel_30
def rm_X7_atom : Room := { frames := 0, cells := 0, slots := 0, locals := 0 }
theorem gm_X7_atom : Cond.instanceMethod yX7_atom ∈ wsL_law ∧ Cond.selects RX7 yX7_atom yX7_atom ∈ wsL_law ∧ Cond.initialized RX7 ∈ wsL_law ∧ Cond.code yX7_atom cX7_atom 4 none ∈ wsL_law := ⟨gw_13_17, gw_13_18, gw_1_5, gw_13_19⟩
theorem gd_X7_atom : yX7_atom.cls = RX7 ∧ yX7_atom.cls ≠ "java/lang/invoke/MethodHandle" ∧ yX7_atom.cls ≠ "java/lang/invoke/VarHandle" ∧ (parseMethodDescriptor yX7_atom.desc).map (fun d => d.parameters.length) = some 1 := by decide +kernel
set_option maxRecDepth 100000 in
set_option maxHeartbeats 0 in
theorem c_X7_atom {l : Launch} {D : va_G} {k : Nat → ClassId} {ad : Nat → Nat} (had : InjN 31 ad) (M : Mem) (a1 : Int32) (hI : MI M) (hlev : 0 ≤ (M 0 27).toInt ∧ (M 0 27).toInt < 8) : Met l yX7_atom (Cond.code yX7_atom cX7_atom 4 none :: wsL_law) rm_X7_atom (va_Pc [.ref (ad 0), .int a1] (GW 31 ad D k (cM ad k M))) (va_Qv (fun u => (f_X7_atom M a1 = u ∧ TI M u)) (fun u t => GW 31 ad D k (cM ad k u) t) (AW 31 ad)) 0 0 (AW 31 ad) := by
  refine met_v (g := cM ad k) (M := M) (plainFor_of_name (by decide)) (Nat.le_of_ble_eq_true rfl) ?_
  intro p e s m args below meth c Q ls hx hb hml hG hown hK hret hP hS hl
  have hl : lv_has ls 4 [(0, .ref (ad 0)), (1, .int a1)] := hl
  obtain ⟨V, hV⟩ : ∃ V, f_X7_atom M a1 = V := ⟨_, rfl⟩
  have he := hV
  unfold f_X7_atom at he
  have hT0 : TI M M := TI_rf hI
  have qb_M := hI.1
  have qs_M := hI.2.1
  have qz_M := hI.2.2.1
  have hs0_27_M : M 0 27 = (M 0 27) := rfl
  refine lv_aload_n hx hb dX7_atom_0 rfl (lv_at hl 0 rfl) ?_
  refine gX7_25 hx hb hG hown hK hP gw_5_1 dX7_atom_1 ?_
  refine lv_aload_n hx hb dX7_atom_4 rfl (lv_at hl 0 rfl) ?_
  refine gX7_27 hx hb hG hown hK hP gw_13_7 dX7_atom_5 ?_
  refine al_M15 hx hb hK hP (vin_I (by have qsl0 := congrArg Int32.toInt hs0_27_M; omega) (by have qsl0 := congrArg Int32.toInt hs0_27_M; omega)) dX7_atom_8 ?_
  refine lv_topi (fun y_1 ey_1 => ?_)
  have he := bnd_at he ey_1
  refine lv_istore_n (lv' := [(2, .int y_1), (0, .ref (ad 0)), (1, .int a1)]) hx hb dX7_atom_9 rfl hl (by decide) rfl (fun ls hl => ?_)
  refine lv_aload_n hx hb dX7_atom_10 rfl (lv_at hl 1 rfl) ?_
  refine gX7_26 hx hb hG hown hK hP gw_5_2 dX7_atom_11 ?_
  refine lv_aload_n hx hb dX7_atom_14 rfl (lv_at hl 1 rfl) ?_
  refine gX7_27 hx hb hG hown hK hP gw_13_7 dX7_atom_15 ?_
  refine al_M16 hx hb hK hP (vin_I (by have qsl0 := congrArg Int32.toInt hs0_27_M; have qy_1 := congrArg Int32.toInt ey_1; omega) (by have qsl0 := congrArg Int32.toInt hs0_27_M; have qy_1 := congrArg Int32.toInt ey_1; omega)) dX7_atom_18 ?_
  refine lv_topi (fun y_2 ey_2 => ?_)
  have he := bnd_at he ey_2
  refine lv_istore_n (lv' := [(3, .int y_2), (2, .int y_1), (0, .ref (ad 0)), (1, .int a1)]) hx hb dX7_atom_19 rfl hl (by decide) rfl (fun ls hl => ?_)
  refine lv_aload_n hx hb dX7_atom_20 rfl (lv_at hl 2 rfl) ?_
  refine gX7_25 hx hb hG hown hK hP gw_5_1 dX7_atom_21 ?_
  refine lv_aload_n hx hb dX7_atom_24 rfl (lv_at hl 2 rfl) ?_
  refine gX7_27 hx hb hG hown hK hP gw_13_7 dX7_atom_25 ?_
  refine lv_iload_n hx hb dX7_atom_28 rfl (lv_at hl 0 rfl) ?_
  obtain ⟨t_8, hr_4, he⟩ := bnd_ex he
  have j71 : ∀ (H : Heap) (locs : List Loc) (ls : Array Slot), va_P D vwCl (wld 31 ad (cM ad k M)) H → va_S (AW 31 ad) s.heap H locs → lv_has ls 4 [] → W p l e rm_X7_atom s m args below meth c H locs 0 0 Q (F0 m 71 ls [.int t_8, .int (M 0 27), .ref (ad 15)]) := by
    intro H locs ls hP hS hl
    refine as_M15 hx hb hK hP had AW_in hS (vin_I (by have qsl0 := congrArg Int32.toInt hs0_27_M; have qy_1 := congrArg Int32.toInt ey_1; have qy_2 := congrArg Int32.toInt ey_2; omega) (by have qsl0 := congrArg Int32.toInt hs0_27_M; have qy_1 := congrArg Int32.toInt ey_1; have qy_2 := congrArg Int32.toInt ey_2; omega)) dX7_atom_71 (fun H locs hP hS => ?_)
    obtain ⟨M_9, eM_9⟩ : ∃ y : Mem, y = up2 M 15 (M 0 27).toNatClampNeg t_8 := ⟨_, rfl⟩
    rw [← eM_9] at hP
    have he := bnd_at he eM_9
    have hTM_9 : TI M M_9 := by rw [eM_9]; exact TI_a hT0 (by decide)
    have qb_M_9 := hTM_9.1.1
    have qs_M_9 := hTM_9.1.2.1
    have qz_M_9 := hTM_9.1.2.2.1
    have hs0_27_M_9 : M_9 0 27 = (M 0 27) := by rw [eM_9, up2_o _ _ (by decide)] <;> exact hs0_27_M
    exact hret _ _ _ _ _ ⟨(hV.trans he.symm), hTM_9⟩ hP hS dX7_atom_72
  refine lv_if_ne (tgt := 36) hx hb dX7_atom_29 (by decide) (fun hc_3 => ?_) (fun hc_3 => ?_)
  · have hr_4 := ite_t hr_4 hc_3
    refine lv_iload_n hx hb dX7_atom_36 rfl (lv_at hl 0 rfl) ?_
    refine lv_bipush (v := 42) hx hb dX7_atom_37 (by decide) ?_
    refine lv_icmp_ne (tgt := 48) hx hb dX7_atom_39 (by decide) (fun hc_5 => ?_) (fun hc_5 => ?_)
    · have hr_4 := ite_t hr_4 hc_5
      refine lv_iload_n hx hb dX7_atom_48 rfl (lv_at hl 3 rfl) ?_
      refine lv_if_ne (tgt := 56) hx hb dX7_atom_49 (by decide) (fun hc_6 => ?_) (fun hc_6 => ?_)
      · have hr_4 := ite_t hr_4 hc_6
        refine lv_iload_n hx hb dX7_atom_56 rfl (lv_at hl 0 rfl) ?_
        refine lv_bipush (v := 47) hx hb dX7_atom_57 (by decide) ?_
        refine lv_icmp_ne (tgt := 68) hx hb dX7_atom_59 (by decide) (fun hc_7 => ?_) (fun hc_7 => ?_)
        · have hr_4 := ite_t hr_4 hc_7
          refine lv_iload_n hx hb dX7_atom_68 rfl (lv_at hl 1 rfl) ?_
          refine lv_iload_n hx hb dX7_atom_69 rfl (lv_at hl 3 rfl) ?_
          refine lv_irem hx hb dX7_atom_70 hc_6 ?_
          cases hr_4
          exact j71 _ _ _ hP hS (lv_sub hl [] rfl)
        · have hr_4 := ite_f hr_4 (fun q => q hc_7)
          refine lv_iload_n hx hb dX7_atom_62 rfl (lv_at hl 1 rfl) ?_
          refine lv_iload_n hx hb dX7_atom_63 rfl (lv_at hl 3 rfl) ?_
          refine lv_idiv hx hb dX7_atom_64 hc_6 ?_
          refine lv_goto (tgt := 71) hx hb dX7_atom_65 (by decide) ?_
          cases hr_4
          exact j71 _ _ _ hP hS (lv_sub hl [] rfl)
      · have hr_4 := ite_f hr_4 (fun q => q hc_6)
        refine lv_iconst (v := 0) hx hb dX7_atom_52 (by decide) ?_
        refine lv_goto (tgt := 71) hx hb dX7_atom_53 (by decide) ?_
        cases hr_4
        exact j71 _ _ _ hP hS (lv_sub hl [] rfl)
    · have hr_4 := ite_f hr_4 (fun q => q hc_5)
      refine lv_iload_n hx hb dX7_atom_42 rfl (lv_at hl 1 rfl) ?_
      refine lv_iload_n hx hb dX7_atom_43 rfl (lv_at hl 3 rfl) ?_
      refine lv_imul hx hb dX7_atom_44 ?_
      refine lv_goto (tgt := 71) hx hb dX7_atom_45 (by decide) ?_
      cases hr_4
      exact j71 _ _ _ hP hS (lv_sub hl [] rfl)
  · have hr_4 := ite_f hr_4 (fun q => q hc_3)
    refine lv_iload_n hx hb dX7_atom_32 rfl (lv_at hl 3 rfl) ?_
    refine lv_goto (tgt := 71) hx hb dX7_atom_33 (by decide) ?_
    cases hr_4
    exact j71 _ _ _ hP hS (lv_sub hl [] rfl)
def rm_X7_levelSum : Room := { frames := 0, cells := 0, slots := 0, locals := 0 }
theorem gm_X7_levelSum : Cond.instanceMethod yX7_levelSum ∈ wsL_law ∧ Cond.selects RX7 yX7_levelSum yX7_levelSum ∈ wsL_law ∧ Cond.initialized RX7 ∈ wsL_law ∧ Cond.code yX7_levelSum cX7_levelSum 1 (some .int) ∈ wsL_law := ⟨gw_13_13, gw_13_14, gw_1_5, gw_13_15⟩
theorem gd_X7_levelSum : yX7_levelSum.cls = RX7 ∧ yX7_levelSum.cls ≠ "java/lang/invoke/MethodHandle" ∧ yX7_levelSum.cls ≠ "java/lang/invoke/VarHandle" ∧ (parseMethodDescriptor yX7_levelSum.desc).map (fun d => d.parameters.length) = some 0 := by decide +kernel
set_option maxRecDepth 100000 in
set_option maxHeartbeats 0 in
theorem c_X7_levelSum {l : Launch} {D : va_G} {k : Nat → ClassId} {ad : Nat → Nat} (had : InjN 31 ad) (M : Mem) (hI : MI M) (hlev : 0 ≤ (M 0 27).toInt ∧ (M 0 27).toInt < 8) : Met l yX7_levelSum (Cond.code yX7_levelSum cX7_levelSum 1 (some .int) :: wsL_law) rm_X7_levelSum (va_Pc [.ref (ad 0)] (GW 31 ad D k (cM ad k M))) (va_Qi (fun r u => f_X7_levelSum M = r ∧ u = M) (fun u t => GW 31 ad D k (cM ad k u) t) (AW 31 ad)) 0 0 (AW 31 ad) := by
  refine met_i (g := cM ad k) (M := M) (plainFor_of_name (by decide)) (Nat.le_of_ble_eq_true rfl) ?_
  intro p e s m args below meth c Q ls hx hb hml hG hown hK hret hP hS hl
  have hl : lv_has ls 1 [(0, .ref (ad 0))] := hl
  obtain ⟨V, hV⟩ : ∃ V, f_X7_levelSum M = V := ⟨_, rfl⟩
  have he := hV
  unfold f_X7_levelSum at he
  have hT0 : TI M M := TI_rf hI
  have qb_M := hI.1
  have qs_M := hI.2.1
  have qz_M := hI.2.2.1
  refine lv_aload_n hx hb dX7_levelSum_0 rfl (lv_at hl 0 rfl) ?_
  refine gX7_24 hx hb hG hown hK hP gw_5_0 dX7_levelSum_1 ?_
  refine lv_aload_n hx hb dX7_levelSum_4 rfl (lv_at hl 0 rfl) ?_
  refine gX7_27 hx hb hG hown hK hP gw_13_7 dX7_levelSum_5 ?_
  refine al_M14 hx hb hK hP (vin_I (by omega) (by omega)) dX7_levelSum_8 ?_
  obtain ⟨t_3, hr_2, he⟩ := bnd_ex he
  have j53 : ∀ (H : Heap) (locs : List Loc) (ls : Array Slot), va_P D vwCl (wld 31 ad (cM ad k M)) H → va_S (AW 31 ad) s.heap H locs → lv_has ls 1 [] → W p l e rm_X7_levelSum s m args below meth c H locs 0 0 Q (F0 m 53 ls [.int t_3]) := by
    intro H locs ls hP hS hl
    exact hret _ _ _ _ _ _ ⟨hV.trans he.symm, rfl⟩ hP hS dX7_levelSum_53
  refine lv_if_le (tgt := 34) hx hb dX7_levelSum_9 (by decide) (fun hc_1 => ?_) (fun hc_1 => ?_)
  · have hr_2 := ite_t hr_2 hc_1
    refine lv_aload_n hx hb dX7_levelSum_34 rfl (lv_at hl 0 rfl) ?_
    refine gX7_23 hx hb hG hown hK hP gw_4_23 dX7_levelSum_35 ?_
    refine lv_aload_n hx hb dX7_levelSum_38 rfl (lv_at hl 0 rfl) ?_
    refine gX7_27 hx hb hG hown hK hP gw_13_7 dX7_levelSum_39 ?_
    refine al_M13 hx hb hK hP (vin_I (by have q0 : (M 14 (M 0 27).toNatClampNeg).toInt ≤ 0 := le_I hc_1; omega) (by have q0 : (M 14 (M 0 27).toNatClampNeg).toInt ≤ 0 := le_I hc_1; omega)) dX7_levelSum_42 ?_
    refine lv_aload_n hx hb dX7_levelSum_43 rfl (lv_at hl 0 rfl) ?_
    refine gX7_25 hx hb hG hown hK hP gw_5_1 dX7_levelSum_44 ?_
    refine lv_aload_n hx hb dX7_levelSum_47 rfl (lv_at hl 0 rfl) ?_
    refine gX7_27 hx hb hG hown hK hP gw_13_7 dX7_levelSum_48 ?_
    refine al_M15 hx hb hK hP (vin_I (by have q0 : (M 14 (M 0 27).toNatClampNeg).toInt ≤ 0 := le_I hc_1; omega) (by have q0 : (M 14 (M 0 27).toNatClampNeg).toInt ≤ 0 := le_I hc_1; omega)) dX7_levelSum_51 ?_
    refine lv_isub hx hb dX7_levelSum_52 ?_
    cases hr_2
    exact j53 _ _ _ hP hS (lv_sub hl [] rfl)
  · have hr_2 := ite_f hr_2 hc_1
    refine lv_aload_n hx hb dX7_levelSum_12 rfl (lv_at hl 0 rfl) ?_
    refine gX7_23 hx hb hG hown hK hP gw_4_23 dX7_levelSum_13 ?_
    refine lv_aload_n hx hb dX7_levelSum_16 rfl (lv_at hl 0 rfl) ?_
    refine gX7_27 hx hb hG hown hK hP gw_13_7 dX7_levelSum_17 ?_
    refine al_M13 hx hb hK hP (vin_I (by have q0 : 0 < (M 14 (M 0 27).toNatClampNeg).toInt := nle_I hc_1; omega) (by have q0 : 0 < (M 14 (M 0 27).toNatClampNeg).toInt := nle_I hc_1; omega)) dX7_levelSum_20 ?_
    refine lv_aload_n hx hb dX7_levelSum_21 rfl (lv_at hl 0 rfl) ?_
    refine gX7_25 hx hb hG hown hK hP gw_5_1 dX7_levelSum_22 ?_
    refine lv_aload_n hx hb dX7_levelSum_25 rfl (lv_at hl 0 rfl) ?_
    refine gX7_27 hx hb hG hown hK hP gw_13_7 dX7_levelSum_26 ?_
    refine al_M15 hx hb hK hP (vin_I (by have q0 : 0 < (M 14 (M 0 27).toNatClampNeg).toInt := nle_I hc_1; omega) (by have q0 : 0 < (M 14 (M 0 27).toNatClampNeg).toInt := nle_I hc_1; omega)) dX7_levelSum_29 ?_
    refine lv_iadd hx hb dX7_levelSum_30 ?_
    refine lv_goto (tgt := 53) hx hb dX7_levelSum_31 (by decide) ?_
    cases hr_2
    exact j53 _ _ _ hP hS (lv_sub hl [] rfl)
def rm_X7_work : Room := { frames := 1, cells := 0, slots := 0, locals := 20 }
theorem gm_X7_work : Cond.instanceMethod yX7_work ∈ wsL_law ∧ Cond.selects RX7 yX7_work yX7_work ∈ wsL_law ∧ Cond.initialized RX7 ∈ wsL_law ∧ Cond.code yX7_work cX7_work 2 none ∈ wsL_law := ⟨gw_13_21, gw_13_22, gw_1_5, gw_13_23⟩
theorem gd_X7_work : yX7_work.cls = RX7 ∧ yX7_work.cls ≠ "java/lang/invoke/MethodHandle" ∧ yX7_work.cls ≠ "java/lang/invoke/VarHandle" ∧ (parseMethodDescriptor yX7_work.desc).map (fun d => d.parameters.length) = some 1 := by decide +kernel
set_option maxRecDepth 100000 in
set_option maxHeartbeats 0 in
theorem c_X7_work {l : Launch} {D : va_G} {k : Nat → ClassId} {ad : Nat → Nat} (had : InjN 31 ad) (M : Mem) (a1 : Int32) (hI : MI M) (hlev : 0 ≤ (M 0 27).toInt ∧ (M 0 27).toInt < 8) : Met l yX7_work (Cond.code yX7_work cX7_work 2 none :: wsL_law) rm_X7_work (va_Pc [.ref (ad 0), .int a1] (GW 31 ad D k (cM ad k M))) (va_Qv (fun u => (f_X7_work M a1 = u ∧ TI M u)) (fun u t => GW 31 ad D k (cM ad k u) t) (AW 31 ad)) 0 0 (AW 31 ad) := by
  refine met_v (g := cM ad k) (M := M) (plainFor_of_name (by decide)) (Nat.le_of_ble_eq_true rfl) ?_
  intro p e s m args below meth c Q ls hx hb hml hG hown hK hret hP hS hl
  have hl : lv_has ls 2 [(0, .ref (ad 0)), (1, .int a1)] := hl
  obtain ⟨V, hV⟩ : ∃ V, f_X7_work M a1 = V := ⟨_, rfl⟩
  have he := hV
  unfold f_X7_work at he
  have hT0 : TI M M := TI_rf hI
  have qb_M := hI.1
  have qs_M := hI.2.1
  have qz_M := hI.2.2.1
  have hs0_27_M : M 0 27 = (M 0 27) := rfl
  refine lv_iload_n hx hb dX7_work_0 rfl (lv_at hl 1 rfl) ?_
  refine lv_bipush (v := 43) hx hb dX7_work_1 (by decide) ?_
  obtain ⟨M_23, hr_2, he⟩ := bnd_ex he
  have j68 : ∀ (H : Heap) (locs : List Loc) (ls : Array Slot), TI M M_23 → M_23 0 27 = (M 0 27) → va_P D vwCl (wld 31 ad (cM ad k M_23)) H → va_S (AW 31 ad) s.heap H locs → lv_has ls 2 [] → W p l e rm_X7_work s m args below meth c H locs 0 0 Q (F0 m 68 ls []) := by
    intro H locs ls hTM_23 hs0_27_M_23 hP hS hl
    have qb_M_23 := hTM_23.1.1
    have qs_M_23 := hTM_23.1.2.1
    have qz_M_23 := hTM_23.1.2.2.1
    exact hret _ _ _ _ _ ⟨(hV.trans he.symm), hTM_23⟩ hP hS dX7_work_68
  refine lv_icmp_eq (tgt := 12) hx hb dX7_work_3 (by decide) (fun hc_1 => ?_) (fun hc_1 => ?_)
  · have hr_2 := ite_t hr_2 hc_1
    refine lv_aload_n hx hb dX7_work_12 rfl (lv_at hl 0 rfl) ?_
    refine gX7_23 hx hb hG hown hK hP gw_4_23 dX7_work_13 ?_
    refine lv_aload_n hx hb dX7_work_16 rfl (lv_at hl 0 rfl) ?_
    refine gX7_27 hx hb hG hown hK hP gw_13_7 dX7_work_17 ?_
    refine lv_aload_n hx hb dX7_work_20 rfl (lv_at hl 0 rfl) ?_
    refine call_i [] [.int (M 0 27), .ref (ad 13)] hx hb hml hG hown hK (c_X7_levelSum had M hT0.1 (by have qsl0 := congrArg Int32.toInt hs0_27_M; omega)) gw_13_12 gm_X7_levelSum gd_X7_levelSum rfl rfl ⟨Nat.le_of_ble_eq_true rfl, Nat.le_of_ble_eq_true rfl⟩ ⟨Nat.le_refl _, Nat.le_refl _⟩ (rX7 hK hP) hP (fun _ h => h) hS rfl hl.1 rfl (Nat.le_of_ble_eq_true rfl) dX7_work_21 (fun r_3 u_5 H locs hF_4 hP hS => ?_)
    obtain ⟨hF_4, hu⟩ := hF_4; rw [hu] at hP; subst hF_4
    refine as_M13 hx hb hK hP had AW_in hS (vin_I (by have qsl0 := congrArg Int32.toInt hs0_27_M; omega) (by have qsl0 := congrArg Int32.toInt hs0_27_M; omega)) dX7_work_24 (fun H locs hP hS => ?_)
    obtain ⟨M_6, eM_6⟩ : ∃ y : Mem, y = up2 M 13 (M 0 27).toNatClampNeg (f_X7_levelSum M) := ⟨_, rfl⟩
    rw [← eM_6] at hP
    have hr_2 := bnd_at hr_2 eM_6
    have hTM_6 : TI M M_6 := by rw [eM_6]; exact TI_a hT0 (by decide)
    have qb_M_6 := hTM_6.1.1
    have qs_M_6 := hTM_6.1.2.1
    have qz_M_6 := hTM_6.1.2.2.1
    have hs0_27_M_6 : M_6 0 27 = (M 0 27) := by rw [eM_6, up2_o _ _ (by decide)] <;> exact hs0_27_M
    refine lv_aload_n hx hb dX7_work_25 rfl (lv_at hl 0 rfl) ?_
    refine gX7_24 hx hb hG hown hK hP gw_5_0 dX7_work_26 ?_
    refine lv_aload_n hx hb dX7_work_29 rfl (lv_at hl 0 rfl) ?_
    refine gX7_27 hx hb hG hown hK hP gw_13_7 dX7_work_30 ?_
    refine lv_iload_n hx hb dX7_work_33 rfl (lv_at hl 1 rfl) ?_
    refine lv_bipush (v := 43) hx hb dX7_work_34 (by decide) ?_
    obtain ⟨t_9, hr_8, hr_2⟩ := bnd_ex hr_2
    have j44 : ∀ (H : Heap) (locs : List Loc) (ls : Array Slot), va_P D vwCl (wld 31 ad (cM ad k M_6)) H → va_S (AW 31 ad) s.heap H locs → lv_has ls 2 [(0, .ref (ad 0))] → W p l e rm_X7_work s m args below meth c H locs 0 0 Q (F0 m 44 ls [.int t_9, .int (M_6 0 27), .ref (ad 14)]) := by
      intro H locs ls hP hS hl
      refine as_M14 hx hb hK hP had AW_in hS (vin_I (by have qsl0 := congrArg Int32.toInt hs0_27_M_6; omega) (by have qsl0 := congrArg Int32.toInt hs0_27_M_6; omega)) dX7_work_44 (fun H locs hP hS => ?_)
      obtain ⟨M_10, eM_10⟩ : ∃ y : Mem, y = up2 M_6 14 (M_6 0 27).toNatClampNeg t_9 := ⟨_, rfl⟩
      rw [← eM_10] at hP
      have hr_2 := bnd_at hr_2 eM_10
      have hTM_10 : TI M M_10 := by rw [eM_10]; exact TI_a hTM_6 (by decide)
      have qb_M_10 := hTM_10.1.1
      have qs_M_10 := hTM_10.1.2.1
      have qz_M_10 := hTM_10.1.2.2.1
      have hs0_27_M_10 : M_10 0 27 = (M 0 27) := by rw [eM_10, up2_o _ _ (by decide)] <;> exact hs0_27_M_6
      refine lv_aload_n hx hb dX7_work_45 rfl (lv_at hl 0 rfl) ?_
      refine gX7_26 hx hb hG hown hK hP gw_5_2 dX7_work_46 ?_
      refine lv_aload_n hx hb dX7_work_49 rfl (lv_at hl 0 rfl) ?_
      refine gX7_27 hx hb hG hown hK hP gw_13_7 dX7_work_50 ?_
      refine lv_iconst (v := 0) hx hb dX7_work_53 (by decide) ?_
      refine as_M16 hx hb hK hP had AW_in hS (vin_I (by have qsl0 := congrArg Int32.toInt hs0_27_M_10; omega) (by have qsl0 := congrArg Int32.toInt hs0_27_M_10; omega)) dX7_work_54 (fun H locs hP hS => ?_)
      obtain ⟨M_11, eM_11⟩ : ∃ y : Mem, y = up2 M_10 16 (M_10 0 27).toNatClampNeg 0 := ⟨_, rfl⟩
      rw [← eM_11] at hP
      have hr_2 := bnd_at hr_2 eM_11
      have hTM_11 : TI M M_11 := by rw [eM_11]; exact TI_a hTM_10 (by decide)
      have qb_M_11 := hTM_11.1.1
      have qs_M_11 := hTM_11.1.2.1
      have qz_M_11 := hTM_11.1.2.2.1
      have hs0_27_M_11 : M_11 0 27 = (M 0 27) := by rw [eM_11, up2_o _ _ (by decide)] <;> exact hs0_27_M_10
      refine lv_goto (tgt := 68) hx hb dX7_work_55 (by decide) ?_
      cases hr_2
      exact j68 _ _ _ hTM_11 hs0_27_M_11 hP hS (lv_sub hl [] rfl)
    refine lv_icmp_ne (tgt := 43) hx hb dX7_work_36 (by decide) (fun hc_7 => ?_) (fun hc_7 => ?_)
    · have hr_8 := ite_t hr_8 hc_7
      refine lv_iconst (v := (-1)) hx hb dX7_work_43 (by decide) ?_
      cases hr_8
      exact j44 _ _ _ hP hS (lv_sub hl [0] rfl)
    · have hr_8 := ite_f hr_8 (fun q => q hc_7)
      refine lv_iconst (v := 1) hx hb dX7_work_39 (by decide) ?_
      refine lv_goto (tgt := 44) hx hb dX7_work_40 (by decide) ?_
      cases hr_8
      exact j44 _ _ _ hP hS (lv_sub hl [0] rfl)
  · have hr_2 := ite_f hr_2 hc_1
    refine lv_iload_n hx hb dX7_work_6 rfl (lv_at hl 1 rfl) ?_
    refine lv_bipush (v := 45) hx hb dX7_work_7 (by decide) ?_
    refine lv_icmp_ne (tgt := 58) hx hb dX7_work_9 (by decide) (fun hc_12 => ?_) (fun hc_12 => ?_)
    · have hr_2 := ite_t hr_2 hc_12
      refine lv_aload_n hx hb dX7_work_58 rfl (lv_at hl 0 rfl) ?_
      refine gX7_26 hx hb hG hown hK hP gw_5_2 dX7_work_59 ?_
      refine lv_aload_n hx hb dX7_work_62 rfl (lv_at hl 0 rfl) ?_
      refine gX7_27 hx hb hG hown hK hP gw_13_7 dX7_work_63 ?_
      refine lv_iload_n hx hb dX7_work_66 rfl (lv_at hl 1 rfl) ?_
      refine as_M16 hx hb hK hP had AW_in hS (vin_I (by have qsl0 := congrArg Int32.toInt hs0_27_M; omega) (by have qsl0 := congrArg Int32.toInt hs0_27_M; omega)) dX7_work_67 (fun H locs hP hS => ?_)
      obtain ⟨M_13, eM_13⟩ : ∃ y : Mem, y = up2 M 16 (M 0 27).toNatClampNeg a1 := ⟨_, rfl⟩
      rw [← eM_13] at hP
      have hr_2 := bnd_at hr_2 eM_13
      have hTM_13 : TI M M_13 := by rw [eM_13]; exact TI_a hT0 (by decide)
      have qb_M_13 := hTM_13.1.1
      have qs_M_13 := hTM_13.1.2.1
      have qz_M_13 := hTM_13.1.2.2.1
      have hs0_27_M_13 : M_13 0 27 = (M 0 27) := by rw [eM_13, up2_o _ _ (by decide)] <;> exact hs0_27_M
      cases hr_2
      exact j68 _ _ _ hTM_13 hs0_27_M_13 hP hS (lv_sub hl [] rfl)
    · have hr_2 := ite_f hr_2 (fun q => q hc_12)
      refine lv_aload_n hx hb dX7_work_12 rfl (lv_at hl 0 rfl) ?_
      refine gX7_23 hx hb hG hown hK hP gw_4_23 dX7_work_13 ?_
      refine lv_aload_n hx hb dX7_work_16 rfl (lv_at hl 0 rfl) ?_
      refine gX7_27 hx hb hG hown hK hP gw_13_7 dX7_work_17 ?_
      refine lv_aload_n hx hb dX7_work_20 rfl (lv_at hl 0 rfl) ?_
      refine call_i [] [.int (M 0 27), .ref (ad 13)] hx hb hml hG hown hK (c_X7_levelSum had M hT0.1 (by have qsl0 := congrArg Int32.toInt hs0_27_M; omega)) gw_13_12 gm_X7_levelSum gd_X7_levelSum rfl rfl ⟨Nat.le_of_ble_eq_true rfl, Nat.le_of_ble_eq_true rfl⟩ ⟨Nat.le_refl _, Nat.le_refl _⟩ (rX7 hK hP) hP (fun _ h => h) hS rfl hl.1 rfl (Nat.le_of_ble_eq_true rfl) dX7_work_21 (fun r_14 u_16 H locs hF_15 hP hS => ?_)
      obtain ⟨hF_15, hu⟩ := hF_15; rw [hu] at hP; subst hF_15
      refine as_M13 hx hb hK hP had AW_in hS (vin_I (by have qsl0 := congrArg Int32.toInt hs0_27_M; omega) (by have qsl0 := congrArg Int32.toInt hs0_27_M; omega)) dX7_work_24 (fun H locs hP hS => ?_)
      obtain ⟨M_17, eM_17⟩ : ∃ y : Mem, y = up2 M 13 (M 0 27).toNatClampNeg (f_X7_levelSum M) := ⟨_, rfl⟩
      rw [← eM_17] at hP
      have hr_2 := bnd_at hr_2 eM_17
      have hTM_17 : TI M M_17 := by rw [eM_17]; exact TI_a hT0 (by decide)
      have qb_M_17 := hTM_17.1.1
      have qs_M_17 := hTM_17.1.2.1
      have qz_M_17 := hTM_17.1.2.2.1
      have hs0_27_M_17 : M_17 0 27 = (M 0 27) := by rw [eM_17, up2_o _ _ (by decide)] <;> exact hs0_27_M
      refine lv_aload_n hx hb dX7_work_25 rfl (lv_at hl 0 rfl) ?_
      refine gX7_24 hx hb hG hown hK hP gw_5_0 dX7_work_26 ?_
      refine lv_aload_n hx hb dX7_work_29 rfl (lv_at hl 0 rfl) ?_
      refine gX7_27 hx hb hG hown hK hP gw_13_7 dX7_work_30 ?_
      refine lv_iload_n hx hb dX7_work_33 rfl (lv_at hl 1 rfl) ?_
      refine lv_bipush (v := 43) hx hb dX7_work_34 (by decide) ?_
      obtain ⟨t_20, hr_19, hr_2⟩ := bnd_ex hr_2
      have j44 : ∀ (H : Heap) (locs : List Loc) (ls : Array Slot), va_P D vwCl (wld 31 ad (cM ad k M_17)) H → va_S (AW 31 ad) s.heap H locs → lv_has ls 2 [(0, .ref (ad 0))] → W p l e rm_X7_work s m args below meth c H locs 0 0 Q (F0 m 44 ls [.int t_20, .int (M_17 0 27), .ref (ad 14)]) := by
        intro H locs ls hP hS hl
        refine as_M14 hx hb hK hP had AW_in hS (vin_I (by have qsl0 := congrArg Int32.toInt hs0_27_M_17; omega) (by have qsl0 := congrArg Int32.toInt hs0_27_M_17; omega)) dX7_work_44 (fun H locs hP hS => ?_)
        obtain ⟨M_21, eM_21⟩ : ∃ y : Mem, y = up2 M_17 14 (M_17 0 27).toNatClampNeg t_20 := ⟨_, rfl⟩
        rw [← eM_21] at hP
        have hr_2 := bnd_at hr_2 eM_21
        have hTM_21 : TI M M_21 := by rw [eM_21]; exact TI_a hTM_17 (by decide)
        have qb_M_21 := hTM_21.1.1
        have qs_M_21 := hTM_21.1.2.1
        have qz_M_21 := hTM_21.1.2.2.1
        have hs0_27_M_21 : M_21 0 27 = (M 0 27) := by rw [eM_21, up2_o _ _ (by decide)] <;> exact hs0_27_M_17
        refine lv_aload_n hx hb dX7_work_45 rfl (lv_at hl 0 rfl) ?_
        refine gX7_26 hx hb hG hown hK hP gw_5_2 dX7_work_46 ?_
        refine lv_aload_n hx hb dX7_work_49 rfl (lv_at hl 0 rfl) ?_
        refine gX7_27 hx hb hG hown hK hP gw_13_7 dX7_work_50 ?_
        refine lv_iconst (v := 0) hx hb dX7_work_53 (by decide) ?_
        refine as_M16 hx hb hK hP had AW_in hS (vin_I (by have qsl0 := congrArg Int32.toInt hs0_27_M_21; omega) (by have qsl0 := congrArg Int32.toInt hs0_27_M_21; omega)) dX7_work_54 (fun H locs hP hS => ?_)
        obtain ⟨M_22, eM_22⟩ : ∃ y : Mem, y = up2 M_21 16 (M_21 0 27).toNatClampNeg 0 := ⟨_, rfl⟩
        rw [← eM_22] at hP
        have hr_2 := bnd_at hr_2 eM_22
        have hTM_22 : TI M M_22 := by rw [eM_22]; exact TI_a hTM_21 (by decide)
        have qb_M_22 := hTM_22.1.1
        have qs_M_22 := hTM_22.1.2.1
        have qz_M_22 := hTM_22.1.2.2.1
        have hs0_27_M_22 : M_22 0 27 = (M 0 27) := by rw [eM_22, up2_o _ _ (by decide)] <;> exact hs0_27_M_21
        refine lv_goto (tgt := 68) hx hb dX7_work_55 (by decide) ?_
        cases hr_2
        exact j68 _ _ _ hTM_22 hs0_27_M_22 hP hS (lv_sub hl [] rfl)
      refine lv_icmp_ne (tgt := 43) hx hb dX7_work_36 (by decide) (fun hc_18 => ?_) (fun hc_18 => ?_)
      · have hr_19 := ite_t hr_19 hc_18
        refine lv_iconst (v := (-1)) hx hb dX7_work_43 (by decide) ?_
        cases hr_19
        exact j44 _ _ _ hP hS (lv_sub hl [0] rfl)
      · have hr_19 := ite_f hr_19 (fun q => q hc_18)
        refine lv_iconst (v := 1) hx hb dX7_work_39 (by decide) ?_
        refine lv_goto (tgt := 44) hx hb dX7_work_40 (by decide) ?_
        cases hr_19
        exact j44 _ _ _ hP hS (lv_sub hl [0] rfl)
def rm_X7_windBy : Room := { frames := 2, cells := 0, slots := 0, locals := 41 }
theorem gm_X7_windBy : Cond.instanceMethod yX7_windBy ∈ wsL_law ∧ Cond.selects RX7 yX7_windBy yX7_windBy ∈ wsL_law ∧ Cond.initialized RX7 ∈ wsL_law ∧ Cond.code yX7_windBy cX7_windBy 6 (some .int) ∈ wsL_law := ⟨gw_13_4, gw_13_5, gw_1_5, gw_13_6⟩
theorem gd_X7_windBy : yX7_windBy.cls = RX7 ∧ yX7_windBy.cls ≠ "java/lang/invoke/MethodHandle" ∧ yX7_windBy.cls ≠ "java/lang/invoke/VarHandle" ∧ (parseMethodDescriptor yX7_windBy.desc).map (fun d => d.parameters.length) = some 2 := by decide +kernel
set_option maxRecDepth 100000 in
set_option maxHeartbeats 0 in
theorem c_X7_windBy {l : Launch} {D : va_G} {k : Nat → ClassId} {ad : Nat → Nat} (had : InjN 31 ad) (M : Mem) (a1 : Int32) (a2 : Int32) (hI : MI M) : Met l yX7_windBy (Cond.code yX7_windBy cX7_windBy 6 (some .int) :: wsL_law) rm_X7_windBy (va_Pc [.ref (ad 0), .int a1, .int a2] (GW 31 ad D k (cM ad k M))) (va_Qi (fun r u => (f_X7_windBy M a1 a2 = (r, u) ∧ TI M u)) (fun u t => GW 31 ad D k (cM ad k u) t) (AW 31 ad)) 0 0 (AW 31 ad) := by
  refine met_i (g := cM ad k) (M := M) (plainFor_of_name (by decide)) (Nat.le_of_ble_eq_true rfl) ?_
  intro p e s m args below meth c Q ls hx hb hml hG hown hK hret hP hS hl
  have hl : lv_has ls 6 [(0, .ref (ad 0)), (1, .int a1), (2, .int a2)] := hl
  obtain ⟨V, hV⟩ : ∃ V, f_X7_windBy M a1 a2 = V := ⟨_, rfl⟩
  have he := hV
  unfold f_X7_windBy at he
  have hT0 : TI M M := TI_rf hI
  have qb_M := hI.1
  have qs_M := hI.2.1
  have qz_M := hI.2.2.1
  refine lv_aload_n hx hb dX7_windBy_0 rfl (lv_at hl 0 rfl) ?_
  refine gX7_5 hx hb hG hown hK hP gw_11_2 dX7_windBy_1 ?_
  refine lv_if_ne (tgt := 9) hx hb dX7_windBy_4 (by decide) (fun hc_1 => ?_) (fun hc_1 => ?_)
  · have he := ite_t he hc_1
    refine lv_aload_n hx hb dX7_windBy_9 rfl (lv_at hl 0 rfl) ?_
    refine lv_iconst (v := 0) hx hb dX7_windBy_10 (by decide) ?_
    refine pX7_27 hx hb hG hown hK hP had AW_in hS gw_13_7 dX7_windBy_11 (fun H locs hP hS => ?_)
    obtain ⟨M_2, eM_2⟩ : ∃ y : Mem, y = up2 M 0 27 0 := ⟨_, rfl⟩
    rw [← eM_2] at hP
    have he := bnd_at he eM_2
    have hTM_2 : TI M M_2 := by rw [eM_2]; exact TI_f hT0 (by decide)
    have qb_M_2 := hTM_2.1.1
    have qs_M_2 := hTM_2.1.2.1
    have qz_M_2 := hTM_2.1.2.2.1
    refine lv_aload_n hx hb dX7_windBy_14 rfl (lv_at hl 0 rfl) ?_
    refine call_v [] [] hx hb hml hG hown hK (c_X7_openLevel had M_2 hTM_2.1 (by rw [eM_2, up2_s]; decide)) gw_13_8 gm_X7_openLevel gd_X7_openLevel rfl rfl ⟨Nat.le_of_ble_eq_true rfl, Nat.le_of_ble_eq_true rfl⟩ ⟨Nat.le_refl _, Nat.le_refl _⟩ (rX7 hK hP) hP (fun _ h => h) hS rfl hl.1 rfl (Nat.le_of_ble_eq_true rfl) dX7_windBy_15 (fun M_5 H locs hF_4 hP hS => ?_)
    obtain ⟨hF_4, hti_6⟩ := hF_4
    have he := bnd_at he hF_4.symm
    have hTM_5 : TI M M_5 := TI_tr hTM_2 hti_6
    have qb_M_5 := hTM_5.1.1
    have qs_M_5 := hTM_5.1.2.1
    have qz_M_5 := hTM_5.1.2.2.1
    refine lv_iconst (v := 0) hx hb dX7_windBy_18 (by decide) ?_
    refine lv_istore_n (lv' := [(3, .int 0), (0, .ref (ad 0)), (1, .int a1), (2, .int a2)]) hx hb dX7_windBy_19 rfl hl (by decide) rfl (fun ls hl => ?_)
    obtain ⟨M_143, hr_77, he⟩ := bnd_ex he
    have j218 : ∀ (H : Heap) (locs : List Loc) (ls : Array Slot), TI M M_143 → (0 ≤ (M_143 0 27).toInt ∧ (M_143 0 27).toInt < 8) → va_P D vwCl (wld 31 ad (cM ad k M_143)) H → va_S (AW 31 ad) s.heap H locs → lv_has ls 6 [(0, .ref (ad 0))] → W p l e rm_X7_windBy s m args below meth c H locs 0 0 Q (F0 m 218 ls []) := by
      intro H locs ls hTM_143 hlev0 hP hS hl
      have qb_M_143 := hTM_143.1.1
      have qs_M_143 := hTM_143.1.2.1
      have qz_M_143 := hTM_143.1.2.2.1
      refine lv_aload_n hx hb dX7_windBy_218 rfl (lv_at hl 0 rfl) ?_
      refine call_i [] [] hx hb hml hG hown hK (c_X7_levelSum had M_143 hTM_143.1 hlev0) gw_13_12 gm_X7_levelSum gd_X7_levelSum rfl rfl ⟨Nat.le_of_ble_eq_true rfl, Nat.le_of_ble_eq_true rfl⟩ ⟨Nat.le_refl _, Nat.le_refl _⟩ (rX7 hK hP) hP (fun _ h => h) hS rfl hl.1 rfl (Nat.le_of_ble_eq_true rfl) dX7_windBy_219 (fun r_144 u_146 H locs hF_145 hP hS => ?_)
      obtain ⟨hF_145, hu⟩ := hF_145; rw [hu] at hP; subst hF_145
      refine lv_topi (fun y_147 ey_147 => ?_)
      have he := bnd_at he ey_147
      refine lv_istore (lv' := [(4, .int y_147), (0, .ref (ad 0))]) hx hb dX7_windBy_222 hl (by decide) rfl (fun ls hl => ?_)
      refine lv_iload hx hb dX7_windBy_224 (lv_at hl 0 rfl) ?_
      refine lv_bipush (v := (-40)) hx hb dX7_windBy_226 (by decide) ?_
      obtain ⟨t_151, hr_149, he⟩ := bnd_ex he
      have j250 : ∀ (H : Heap) (locs : List Loc) (ls : Array Slot), va_P D vwCl (wld 31 ad (cM ad k M_143)) H → va_S (AW 31 ad) s.heap H locs → lv_has ls 6 [] → W p l e rm_X7_windBy s m args below meth c H locs 0 0 Q (F0 m 250 ls [.int t_151]) := by
        intro H locs ls hP hS hl
        exact hret _ _ _ _ _ _ ⟨(hV.trans he.symm), hTM_143⟩ hP hS dX7_windBy_250
      refine lv_icmp_ge (tgt := 236) hx hb dX7_windBy_228 (by decide) (fun hc_148 => ?_) (fun hc_148 => ?_)
      · have hr_149 := ite_t hr_149 hc_148
        refine lv_iload hx hb dX7_windBy_236 (lv_at hl 0 rfl) ?_
        refine lv_bipush (v := 40) hx hb dX7_windBy_238 (by decide) ?_
        refine lv_icmp_le (tgt := 248) hx hb dX7_windBy_240 (by decide) (fun hc_150 => ?_) (fun hc_150 => ?_)
        · have hr_149 := ite_t hr_149 hc_150
          refine lv_iload hx hb dX7_windBy_248 (lv_at hl 0 rfl) ?_
          cases hr_149
          exact j250 _ _ _ hP hS (lv_sub hl [] rfl)
        · have hr_149 := ite_f hr_149 hc_150
          refine lv_bipush (v := 40) hx hb dX7_windBy_243 (by decide) ?_
          refine lv_goto (tgt := 250) hx hb dX7_windBy_245 (by decide) ?_
          cases hr_149
          exact j250 _ _ _ hP hS (lv_sub hl [] rfl)
      · have hr_149 := ite_f hr_149 hc_148
        refine lv_bipush (v := (-40)) hx hb dX7_windBy_231 (by decide) ?_
        refine lv_goto (tgt := 250) hx hb dX7_windBy_233 (by decide) ?_
        cases hr_149
        exact j250 _ _ _ hP hS (lv_sub hl [] rfl)
    have lp20 : ∀ (nn : Nat) (H : Heap) (locs : List Loc) (ls : Array Slot) (M_76 : Mem) (v_75 : Int32), (TI M M_76) → (WB M M_76 v_75) → (100 - v_75.toInt).toNat < nn → lp_X7_windBy_20 nn a1 a2 M_76 v_75 = M_143 → va_P D vwCl (wld 31 ad (cM ad k M_76)) H → va_S (AW 31 ad) s.heap H locs → lv_has ls 6 [(0, .ref (ad 0)), (1, .int a1), (2, .int a2), (3, .int v_75)] → W p l e rm_X7_windBy s m args below meth c H locs 0 0 Q (F0 m 20 ls []) := by
      intro nn
      induction nn with
      | zero =>
        intro H locs ls M_76 v_75 hTM_76 hWB hμ
        exact absurd hμ (Nat.not_lt_zero _)
      | succ nn ih =>
        intro H locs ls M_76 v_75 hTM_76 hWB hμ hr_77 hP hS hl
        rw [lp_X7_windBy_20] at hr_77
        have qb_M_76 := hTM_76.1.1
        have qs_M_76 := hTM_76.1.2.1
        have qz_M_76 := hTM_76.1.2.2.1
        refine lv_iload_n hx hb dX7_windBy_20 rfl (lv_at hl 3 rfl) ?_
        refine lv_aload_n hx hb dX7_windBy_21 rfl (lv_at hl 0 rfl) ?_
        refine gX7_5 hx hb hG hown hK hP gw_11_2 dX7_windBy_22 ?_
        refine lv_icmp_ge (tgt := 218) hx hb dX7_windBy_25 (by decide) (fun hc_78 => ?_) (fun hc_78 => ?_)
        · have hr_77 := ite_t hr_77 hc_78
          cases hr_77
          exact j218 _ _ _ hTM_76 (wb_lev hI hWB) hP hS (lv_sub hl [0] rfl)
        · have hr_77 := ite_f hr_77 hc_78
          refine lv_aload_n hx hb dX7_windBy_28 rfl (lv_at hl 0 rfl) ?_
          refine gX7_6 hx hb hG hown hK hP gw_4_11 dX7_windBy_29 ?_
          refine lv_iload_n hx hb dX7_windBy_32 rfl (lv_at hl 3 rfl) ?_
          refine al_M1 hx hb hK hP (wb_in hI hWB hc_78) dX7_windBy_33 ?_
          refine lv_topi (fun y_79 ey_79 => ?_)
          have hr_77 := bnd_at hr_77 ey_79
          refine lv_istore (lv' := [(4, .int y_79), (0, .ref (ad 0)), (1, .int a1), (2, .int a2), (3, .int v_75)]) hx hb dX7_windBy_34 hl (by decide) rfl (fun ls hl => ?_)
          obtain ⟨y_80, ey_80⟩ : ∃ y_80 : Int32, y_80 = v_75 + 1 := ⟨_, rfl⟩
          have hr_77 := bnd_at hr_77 ey_80
          refine lv_iinc (v := y_80) (lv' := [(3, .int y_80), (4, .int y_79), (0, .ref (ad 0)), (1, .int a1), (2, .int a2)]) hx hb dX7_windBy_36 hl (k := 4) rfl (by rw [ey_80]; rfl) (by decide) rfl (fun ls hl => ?_)
          refine lv_iload hx hb dX7_windBy_39 (lv_at hl 1 rfl) ?_
          refine lv_bipush (v := 40) hx hb dX7_windBy_41 (by decide) ?_
          obtain ⟨x_141, M_142, hr_82, hr_77⟩ := bnd2_ex hr_77
          have j215 : ∀ (H : Heap) (locs : List Loc) (ls : Array Slot), TI M M_142 → (WB M M_142 x_141 ∧ v_75.toInt < x_141.toInt) → va_P D vwCl (wld 31 ad (cM ad k M_142)) H → va_S (AW 31 ad) s.heap H locs → lv_has ls 6 [(0, .ref (ad 0)), (1, .int a1), (2, .int a2), (3, .int x_141)] → W p l e rm_X7_windBy s m args below meth c H locs 0 0 Q (F0 m 215 ls []) := by
            intro H locs ls hTM_142 hj215 hP hS hl
            have qb_M_142 := hTM_142.1.1
            have qs_M_142 := hTM_142.1.2.1
            have qz_M_142 := hTM_142.1.2.2.1
            refine lv_goto (tgt := 20) hx hb dX7_windBy_215 (by decide) ?_
            exact ih _ _ _ _ _ hTM_142 hj215.1 (by have qv := hj215.2; have qg := vp_in_iff.mp (wb_in hI hWB hc_78); omega) hr_77 hP hS (lv_sub hl [0, 1, 2, 3] rfl)
          refine lv_icmp_ne (tgt := 63) hx hb dX7_windBy_43 (by decide) (fun hc_81 => ?_) (fun hc_81 => ?_)
          · have hr_82 := ite_t hr_82 hc_81
            refine lv_iload hx hb dX7_windBy_63 (lv_at hl 1 rfl) ?_
            refine lv_bipush (v := 41) hx hb dX7_windBy_65 (by decide) ?_
            refine lv_icmp_ne (tgt := 95) hx hb dX7_windBy_67 (by decide) (fun hc_83 => ?_) (fun hc_83 => ?_)
            · have hr_82 := ite_t hr_82 hc_83
              refine lv_iload hx hb dX7_windBy_95 (lv_at hl 1 rfl) ?_
              refine lv_bipush (v := 116) hx hb dX7_windBy_97 (by decide) ?_
              refine lv_icmp_eq (tgt := 109) hx hb dX7_windBy_99 (by decide) (fun hc_84 => ?_) (fun hc_84 => ?_)
              · have hr_82 := ite_t hr_82 hc_84
                refine lv_aload_n hx hb dX7_windBy_109 rfl (lv_at hl 2 rfl) ?_
                refine lv_iload hx hb dX7_windBy_110 (lv_at hl 1 rfl) ?_
                refine lv_bipush (v := 116) hx hb dX7_windBy_112 (by decide) ?_
                obtain ⟨t_87, hr_86, hr_82⟩ := bnd_ex hr_82
                have j122 : ∀ (H : Heap) (locs : List Loc) (ls : Array Slot), va_P D vwCl (wld 31 ad (cM ad k M_76)) H → va_S (AW 31 ad) s.heap H locs → lv_has ls 6 [(0, .ref (ad 0)), (1, .int a1), (2, .int a2), (3, .int y_80)] → W p l e rm_X7_windBy s m args below meth c H locs 0 0 Q (F0 m 122 ls [.int t_87, .ref (ad 0)]) := by
                  intro H locs ls hP hS hl
                  refine call_v [.int t_87] [] hx hb hml hG hown hK (c_X7_atom had M_76 t_87 hTM_76.1 (wb_lev hI hWB)) gw_13_16 gm_X7_atom gd_X7_atom rfl rfl ⟨Nat.le_of_ble_eq_true rfl, Nat.le_of_ble_eq_true rfl⟩ ⟨Nat.le_refl _, Nat.le_refl _⟩ (rX7 hK hP) hP (fun _ h => h) hS rfl hl.1 rfl (Nat.le_of_ble_eq_true rfl) dX7_windBy_122 (fun M_90 H locs hF_89 hP hS => ?_)
                  obtain ⟨hF_89, hti_91⟩ := hF_89
                  have hr_82 := bnd_at hr_82 hF_89.symm
                  have hTM_90 : TI M M_90 := TI_tr hTM_76 hti_91
                  have qb_M_90 := hTM_90.1.1
                  have qs_M_90 := hTM_90.1.2.1
                  have qz_M_90 := hTM_90.1.2.2.1
                  refine lv_goto (tgt := 215) hx hb dX7_windBy_125 (by decide) ?_
                  cases hr_82
                  exact j215 _ _ _ hTM_90 ⟨by rw [ey_80]; exact wb_atom (wb_same hI hWB hc_78 (by rw [← ey_79]; exact hc_81) (by rw [← ey_79]; exact hc_83)) hF_89, by have qb := vp_in_iff.mp (wb_in hI hWB hc_78); rw [ey_80, inc_I (N := 100) qb.2 (by decide)]; omega⟩ hP hS (lv_sub hl [0, 1, 2, 3] rfl)
                refine lv_icmp_ne (tgt := 121) hx hb dX7_windBy_114 (by decide) (fun hc_85 => ?_) (fun hc_85 => ?_)
                · have hr_86 := ite_t hr_86 hc_85
                  refine lv_iload_n hx hb dX7_windBy_121 rfl (lv_at hl 4 rfl) ?_
                  cases hr_86
                  exact j122 _ _ _ hP hS (lv_sub hl [2, 3, 4, 0] rfl)
                · have hr_86 := ite_f hr_86 (fun q => q hc_85)
                  refine lv_iload_n hx hb dX7_windBy_117 rfl (lv_at hl 3 rfl) ?_
                  refine lv_goto (tgt := 122) hx hb dX7_windBy_118 (by decide) ?_
                  cases hr_86
                  exact j122 _ _ _ hP hS (lv_sub hl [2, 3, 4, 0] rfl)
              · have hr_82 := ite_f hr_82 hc_84
                refine lv_iload hx hb dX7_windBy_102 (lv_at hl 1 rfl) ?_
                refine lv_bipush (v := 115) hx hb dX7_windBy_104 (by decide) ?_
                refine lv_icmp_ne (tgt := 128) hx hb dX7_windBy_106 (by decide) (fun hc_92 => ?_) (fun hc_92 => ?_)
                · have hr_82 := ite_t hr_82 hc_92
                  refine lv_iload hx hb dX7_windBy_128 (lv_at hl 1 rfl) ?_
                  refine lv_i2l (v := y_79.toInt64) hx hb dX7_windBy_130 rfl ?_
                  refine lv_ldc2 (v := 48) hx hb hown (hG _ gw_9_20) dX7_windBy_131 ?_
                  refine lv_ldc2 (v := 57) hx hb hown (hG _ gw_9_21) dX7_windBy_134 ?_
                  refine callS_i [.long y_79.toInt64, .long 48, .long 57] [] hx hb hml hG hown hK (c_X7_in had (M := M_76)  y_79.toInt64 48 57) gw_7_0 gm_X7_in gd_X7_in rfl rfl ⟨Nat.le_of_ble_eq_true rfl, Nat.le_of_ble_eq_true rfl⟩ ⟨Nat.le_refl _, Nat.le_refl _⟩ hP (fun _ h => h) hS rfl hl.1 rfl (Nat.le_of_ble_eq_true rfl) dX7_windBy_137 (fun r_93 u_95 H locs hF_94 hP hS => ?_)
                  obtain ⟨hz_96, hF_94, hu⟩ := hF_94; rw [hu] at hP; subst hF_94
                  refine lv_if_eq (tgt := 209) hx hb dX7_windBy_140 (by decide) (fun hc_97 => ?_) (fun hc_97 => ?_)
                  · have hr_82 := ite_t hr_82 hc_97
                    refine lv_aload_n hx hb dX7_windBy_209 rfl (lv_at hl 2 rfl) ?_
                    refine lv_iload hx hb dX7_windBy_210 (lv_at hl 1 rfl) ?_
                    refine call_v [.int y_79] [] hx hb hml hG hown hK (c_X7_work had M_76 y_79 hTM_76.1 (wb_lev hI hWB)) gw_13_20 gm_X7_work gd_X7_work rfl rfl ⟨Nat.le_of_ble_eq_true rfl, Nat.le_of_ble_eq_true rfl⟩ ⟨Nat.le_refl _, Nat.le_refl _⟩ (rX7 hK hP) hP (fun _ h => h) hS rfl hl.1 rfl (Nat.le_of_ble_eq_true rfl) dX7_windBy_212 (fun M_100 H locs hF_99 hP hS => ?_)
                    obtain ⟨hF_99, hti_101⟩ := hF_99
                    have hr_82 := bnd_at hr_82 hF_99.symm
                    have hTM_100 : TI M M_100 := TI_tr hTM_76 hti_101
                    have qb_M_100 := hTM_100.1.1
                    have qs_M_100 := hTM_100.1.2.1
                    have qz_M_100 := hTM_100.1.2.2.1
                    cases hr_82
                    exact j215 _ _ _ hTM_100 ⟨by rw [ey_80]; exact wb_work (wb_same hI hWB hc_78 (by rw [← ey_79]; exact hc_81) (by rw [← ey_79]; exact hc_83)) hF_99, by have qb := vp_in_iff.mp (wb_in hI hWB hc_78); rw [ey_80, inc_I (N := 100) qb.2 (by decide)]; omega⟩ hP hS (lv_sub hl [2, 3, 4, 0] rfl)
                  · have hr_82 := ite_f hr_82 hc_97
                    refine lv_iload hx hb dX7_windBy_143 (lv_at hl 1 rfl) ?_
                    refine lv_bipush (v := 48) hx hb dX7_windBy_145 (by decide) ?_
                    refine lv_isub hx hb dX7_windBy_147 ?_
                    refine lv_topi (fun y_102 ey_102 => ?_)
                    have hr_82 := bnd_at hr_82 ey_102
                    refine lv_istore (lv' := [(5, .int y_102), (3, .int y_80), (4, .int y_79), (0, .ref (ad 0)), (1, .int a1), (2, .int a2)]) hx hb dX7_windBy_148 hl (by decide) rfl (fun ls hl => ?_)
                    obtain ⟨w_114, w_115, hr_105, hr_82⟩ := bnd2_ex hr_82
                    have j200 : ∀ (H : Heap) (locs : List Loc) (ls : Array Slot), (WB M M_76 w_114 ∧ v_75.toInt < w_114.toInt) → va_P D vwCl (wld 31 ad (cM ad k M_76)) H → va_S (AW 31 ad) s.heap H locs → lv_has ls 6 [(0, .ref (ad 0)), (1, .int a1), (2, .int a2), (3, .int w_114), (5, .int w_115)] → W p l e rm_X7_windBy s m args below meth c H locs 0 0 Q (F0 m 200 ls []) := by
                      intro H locs ls hWB3 hP hS hl
                      refine lv_aload_n hx hb dX7_windBy_200 rfl (lv_at hl 0 rfl) ?_
                      refine lv_iload hx hb dX7_windBy_201 (lv_at hl 4 rfl) ?_
                      refine call_v [.int w_115] [] hx hb hml hG hown hK (c_X7_atom had M_76 w_115 hTM_76.1 (wb_lev hI hWB)) gw_13_16 gm_X7_atom gd_X7_atom rfl rfl ⟨Nat.le_of_ble_eq_true rfl, Nat.le_of_ble_eq_true rfl⟩ ⟨Nat.le_refl _, Nat.le_refl _⟩ (rX7 hK hP) hP (fun _ h => h) hS rfl hl.1 rfl (Nat.le_of_ble_eq_true rfl) dX7_windBy_203 (fun M_118 H locs hF_117 hP hS => ?_)
                      obtain ⟨hF_117, hti_119⟩ := hF_117
                      have hr_82 := bnd_at hr_82 hF_117.symm
                      have hTM_118 : TI M M_118 := TI_tr hTM_76 hti_119
                      have qb_M_118 := hTM_118.1.1
                      have qs_M_118 := hTM_118.1.2.1
                      have qz_M_118 := hTM_118.1.2.2.1
                      refine lv_goto (tgt := 215) hx hb dX7_windBy_206 (by decide) ?_
                      cases hr_82
                      exact j215 _ _ _ hTM_118 ⟨wb_atom hWB3.1 hF_117, hWB3.2⟩ hP hS (lv_sub hl [0, 1, 2, 3] rfl)
                    have lp150 : ∀ (nn : Nat) (H : Heap) (locs : List Loc) (ls : Array Slot) (v_103 : Int32) (v_104 : Int32), (WB M M_76 v_103 ∧ v_75.toInt < v_103.toInt) → (100 - v_103.toInt).toNat < nn → lp_X7_windBy_150' nn M_76 v_103 v_104 = (w_114, w_115) → va_P D vwCl (wld 31 ad (cM ad k M_76)) H → va_S (AW 31 ad) s.heap H locs → lv_has ls 6 [(0, .ref (ad 0)), (1, .int a1), (2, .int a2), (3, .int v_103), (5, .int v_104)] → W p l e rm_X7_windBy s m args below meth c H locs 0 0 Q (F0 m 150 ls []) := by
                      intro nn
                      induction nn with
                      | zero =>
                        intro H locs ls v_103 v_104 hWB2 hμ
                        exact absurd hμ (Nat.not_lt_zero _)
                      | succ nn ih =>
                        intro H locs ls v_103 v_104 hWB2 hμ hr_105 hP hS hl
                        rw [lp_X7_windBy_150'] at hr_105
                        refine lv_iload_n hx hb dX7_windBy_150 rfl (lv_at hl 3 rfl) ?_
                        refine lv_aload_n hx hb dX7_windBy_151 rfl (lv_at hl 0 rfl) ?_
                        refine gX7_5 hx hb hG hown hK hP gw_11_2 dX7_windBy_152 ?_
                        refine lv_icmp_ge (tgt := 200) hx hb dX7_windBy_155 (by decide) (fun hc_106 => ?_) (fun hc_106 => ?_)
                        · have hr_105 := ite_t hr_105 hc_106
                          cases hr_105
                          exact j200 _ _ _ hWB2 hP hS (lv_sub hl [0, 1, 2, 3, 4] rfl)
                        · have hr_105 := ite_f hr_105 hc_106
                          refine lv_aload_n hx hb dX7_windBy_158 rfl (lv_at hl 0 rfl) ?_
                          refine gX7_6 hx hb hG hown hK hP gw_4_11 dX7_windBy_159 ?_
                          refine lv_iload_n hx hb dX7_windBy_162 rfl (lv_at hl 3 rfl) ?_
                          refine al_M1 hx hb hK hP (wb_in hI hWB2.1 hc_106) dX7_windBy_163 ?_
                          refine lv_i2l (v := (M_76 1 v_103.toNatClampNeg).toInt64) hx hb dX7_windBy_164 rfl ?_
                          refine lv_ldc2 (v := 48) hx hb hown (hG _ gw_9_20) dX7_windBy_165 ?_
                          refine lv_ldc2 (v := 57) hx hb hown (hG _ gw_9_21) dX7_windBy_168 ?_
                          refine callS_i [.long ((M_76 1 v_103.toNatClampNeg).toInt64), .long 48, .long 57] [] hx hb hml hG hown hK (c_X7_in had (M := M_76)  ((M_76 1 v_103.toNatClampNeg).toInt64) 48 57) gw_7_0 gm_X7_in gd_X7_in rfl rfl ⟨Nat.le_of_ble_eq_true rfl, Nat.le_of_ble_eq_true rfl⟩ ⟨Nat.le_refl _, Nat.le_refl _⟩ hP (fun _ h => h) hS rfl hl.1 rfl (Nat.le_of_ble_eq_true rfl) dX7_windBy_171 (fun r_107 u_109 H locs hF_108 hP hS => ?_)
                          obtain ⟨hz_110, hF_108, hu⟩ := hF_108; rw [hu] at hP; subst hF_108
                          refine lv_if_eq (tgt := 200) hx hb dX7_windBy_174 (by decide) (fun hc_111 => ?_) (fun hc_111 => ?_)
                          · have hr_105 := ite_t hr_105 hc_111
                            cases hr_105
                            exact j200 _ _ _ hWB2 hP hS (lv_sub hl [0, 1, 2, 3, 4] rfl)
                          · have hr_105 := ite_f hr_105 hc_111
                            refine lv_bipush (v := 10) hx hb dX7_windBy_177 (by decide) ?_
                            refine lv_iload hx hb dX7_windBy_179 (lv_at hl 4 rfl) ?_
                            refine lv_imul hx hb dX7_windBy_181 ?_
                            refine lv_aload_n hx hb dX7_windBy_182 rfl (lv_at hl 0 rfl) ?_
                            refine gX7_6 hx hb hG hown hK hP gw_4_11 dX7_windBy_183 ?_
                            refine lv_iload_n hx hb dX7_windBy_186 rfl (lv_at hl 3 rfl) ?_
                            refine al_M1 hx hb hK hP (wb_in hI hWB2.1 hc_106) dX7_windBy_187 ?_
                            refine lv_iadd hx hb dX7_windBy_188 ?_
                            refine lv_bipush (v := 48) hx hb dX7_windBy_189 (by decide) ?_
                            refine lv_isub hx hb dX7_windBy_191 ?_
                            refine lv_topi (fun y_112 ey_112 => ?_)
                            have hr_105 := bnd_at hr_105 ey_112
                            refine lv_istore (lv' := [(5, .int y_112), (0, .ref (ad 0)), (1, .int a1), (2, .int a2), (3, .int v_103)]) hx hb dX7_windBy_192 hl (by decide) rfl (fun ls hl => ?_)
                            obtain ⟨y_113, ey_113⟩ : ∃ y_113 : Int32, y_113 = v_103 + 1 := ⟨_, rfl⟩
                            have hr_105 := bnd_at hr_105 ey_113
                            refine lv_iinc (v := y_113) (lv' := [(3, .int y_113), (5, .int y_112), (0, .ref (ad 0)), (1, .int a1), (2, .int a2)]) hx hb dX7_windBy_194 hl (k := 4) rfl (by rw [ey_113]; rfl) (by decide) rfl (fun ls hl => ?_)
                            refine lv_goto (tgt := 150) hx hb dX7_windBy_197 (by decide) ?_
                            exact ih _ _ _ _ _ ⟨by rw [ey_113]; exact wb_dig hI hWB2.1 hc_106 hc_111, by have qb := vp_in_iff.mp (wb_in hI hWB2.1 hc_106); rw [ey_113, inc_I (N := 100) qb.2 (by decide)]; have qc := hWB2.2; omega⟩ (by have qa := (wb_in hI hWB2.1 hc_106); have qb := vp_in_iff.mp qa; rw [ey_113, inc_I (N := 100) qb.2 (by decide)]; omega) hr_105 hP hS (lv_sub hl [2, 3, 4, 0, 1] rfl)
                    exact lp150 _ _ _ _ _ _ ⟨by rw [ey_80]; exact wb_same hI hWB hc_78 (by rw [← ey_79]; exact hc_81) (by rw [← ey_79]; exact hc_83), by have qb := vp_in_iff.mp (wb_in hI hWB hc_78); rw [ey_80, inc_I (N := 100) qb.2 (by decide)]; omega⟩ (by have qb := vp_in_iff.mp (wb_in hI hWB hc_78); rw [ey_80, inc_I (N := 100) qb.2 (by decide)]; omega) hr_105 hP hS (lv_sub hl [3, 4, 5, 1, 0] rfl)
                · have hr_82 := ite_f hr_82 (fun q => q hc_92)
                  refine lv_aload_n hx hb dX7_windBy_109 rfl (lv_at hl 2 rfl) ?_
                  refine lv_iload hx hb dX7_windBy_110 (lv_at hl 1 rfl) ?_
                  refine lv_bipush (v := 116) hx hb dX7_windBy_112 (by decide) ?_
                  obtain ⟨t_122, hr_121, hr_82⟩ := bnd_ex hr_82
                  have j122 : ∀ (H : Heap) (locs : List Loc) (ls : Array Slot), va_P D vwCl (wld 31 ad (cM ad k M_76)) H → va_S (AW 31 ad) s.heap H locs → lv_has ls 6 [(0, .ref (ad 0)), (1, .int a1), (2, .int a2), (3, .int y_80)] → W p l e rm_X7_windBy s m args below meth c H locs 0 0 Q (F0 m 122 ls [.int t_122, .ref (ad 0)]) := by
                    intro H locs ls hP hS hl
                    refine call_v [.int t_122] [] hx hb hml hG hown hK (c_X7_atom had M_76 t_122 hTM_76.1 (wb_lev hI hWB)) gw_13_16 gm_X7_atom gd_X7_atom rfl rfl ⟨Nat.le_of_ble_eq_true rfl, Nat.le_of_ble_eq_true rfl⟩ ⟨Nat.le_refl _, Nat.le_refl _⟩ (rX7 hK hP) hP (fun _ h => h) hS rfl hl.1 rfl (Nat.le_of_ble_eq_true rfl) dX7_windBy_122 (fun M_125 H locs hF_124 hP hS => ?_)
                    obtain ⟨hF_124, hti_126⟩ := hF_124
                    have hr_82 := bnd_at hr_82 hF_124.symm
                    have hTM_125 : TI M M_125 := TI_tr hTM_76 hti_126
                    have qb_M_125 := hTM_125.1.1
                    have qs_M_125 := hTM_125.1.2.1
                    have qz_M_125 := hTM_125.1.2.2.1
                    refine lv_goto (tgt := 215) hx hb dX7_windBy_125 (by decide) ?_
                    cases hr_82
                    exact j215 _ _ _ hTM_125 ⟨by rw [ey_80]; exact wb_atom (wb_same hI hWB hc_78 (by rw [← ey_79]; exact hc_81) (by rw [← ey_79]; exact hc_83)) hF_124, by have qb := vp_in_iff.mp (wb_in hI hWB hc_78); rw [ey_80, inc_I (N := 100) qb.2 (by decide)]; omega⟩ hP hS (lv_sub hl [0, 1, 2, 3] rfl)
                  refine lv_icmp_ne (tgt := 121) hx hb dX7_windBy_114 (by decide) (fun hc_120 => ?_) (fun hc_120 => ?_)
                  · have hr_121 := ite_t hr_121 hc_120
                    refine lv_iload_n hx hb dX7_windBy_121 rfl (lv_at hl 4 rfl) ?_
                    cases hr_121
                    exact j122 _ _ _ hP hS (lv_sub hl [2, 3, 4, 0] rfl)
                  · have hr_121 := ite_f hr_121 (fun q => q hc_120)
                    refine lv_iload_n hx hb dX7_windBy_117 rfl (lv_at hl 3 rfl) ?_
                    refine lv_goto (tgt := 122) hx hb dX7_windBy_118 (by decide) ?_
                    cases hr_121
                    exact j122 _ _ _ hP hS (lv_sub hl [2, 3, 4, 0] rfl)
            · have hr_82 := ite_f hr_82 (fun q => q hc_83)
              refine lv_aload_n hx hb dX7_windBy_70 rfl (lv_at hl 2 rfl) ?_
              refine call_i [] [] hx hb hml hG hown hK (c_X7_levelSum had M_76 hTM_76.1 (wb_lev hI hWB)) gw_13_12 gm_X7_levelSum gd_X7_levelSum rfl rfl ⟨Nat.le_of_ble_eq_true rfl, Nat.le_of_ble_eq_true rfl⟩ ⟨Nat.le_refl _, Nat.le_refl _⟩ (rX7 hK hP) hP (fun _ h => h) hS rfl hl.1 rfl (Nat.le_of_ble_eq_true rfl) dX7_windBy_71 (fun r_127 u_129 H locs hF_128 hP hS => ?_)
              obtain ⟨hF_128, hu⟩ := hF_128; rw [hu] at hP; subst hF_128
              refine lv_topi (fun y_130 ey_130 => ?_)
              have hr_82 := bnd_at hr_82 ey_130
              refine lv_istore (lv' := [(5, .int y_130), (3, .int y_80), (4, .int y_79), (0, .ref (ad 0)), (1, .int a1), (2, .int a2)]) hx hb dX7_windBy_74 hl (by decide) rfl (fun ls hl => ?_)
              refine lv_aload_n hx hb dX7_windBy_76 rfl (lv_at hl 3 rfl) ?_
              refine lv_dup hx hb dX7_windBy_77 rfl ?_
              refine gX7_27 hx hb hG hown hK hP gw_13_7 dX7_windBy_78 ?_
              refine lv_iconst (v := 1) hx hb dX7_windBy_81 (by decide) ?_
              refine lv_isub hx hb dX7_windBy_82 ?_
              refine pX7_27 hx hb hG hown hK hP had AW_in hS gw_13_7 dX7_windBy_83 (fun H locs hP hS => ?_)
              obtain ⟨M_131, eM_131⟩ : ∃ y : Mem, y = up2 M_76 0 27 ((M_76 0 27) - 1) := ⟨_, rfl⟩
              rw [← eM_131] at hP
              have hr_82 := bnd_at hr_82 eM_131
              have hTM_131 : TI M M_131 := by rw [eM_131]; exact TI_f hTM_76 (by decide)
              have qb_M_131 := hTM_131.1.1
              have qs_M_131 := hTM_131.1.2.1
              have qz_M_131 := hTM_131.1.2.2.1
              refine lv_aload_n hx hb dX7_windBy_86 rfl (lv_at hl 3 rfl) ?_
              refine lv_iload hx hb dX7_windBy_87 (lv_at hl 0 rfl) ?_
              refine call_v [.int y_130] [] hx hb hml hG hown hK (c_X7_atom had M_131 y_130 hTM_131.1 (wb_close hI hWB hc_78 (ey_79.symm.trans hc_83) eM_131).1) gw_13_16 gm_X7_atom gd_X7_atom rfl rfl ⟨Nat.le_of_ble_eq_true rfl, Nat.le_of_ble_eq_true rfl⟩ ⟨Nat.le_refl _, Nat.le_refl _⟩ (rX7 hK hP) hP (fun _ h => h) hS rfl hl.1 rfl (Nat.le_of_ble_eq_true rfl) dX7_windBy_89 (fun M_134 H locs hF_133 hP hS => ?_)
              obtain ⟨hF_133, hti_135⟩ := hF_133
              have hr_82 := bnd_at hr_82 hF_133.symm
              have hTM_134 : TI M M_134 := TI_tr hTM_131 hti_135
              have qb_M_134 := hTM_134.1.1
              have qs_M_134 := hTM_134.1.2.1
              have qz_M_134 := hTM_134.1.2.2.1
              refine lv_goto (tgt := 215) hx hb dX7_windBy_92 (by decide) ?_
              cases hr_82
              exact j215 _ _ _ hTM_134 ⟨by rw [ey_80]; exact (wb_close hI hWB hc_78 (ey_79.symm.trans hc_83) eM_131).2 hF_133, by have qb := vp_in_iff.mp (wb_in hI hWB hc_78); rw [ey_80, inc_I (N := 100) qb.2 (by decide)]; omega⟩ hP hS (lv_sub hl [3, 4, 5, 1] rfl)
          · have hr_82 := ite_f hr_82 (fun q => q hc_81)
            refine lv_aload_n hx hb dX7_windBy_46 rfl (lv_at hl 2 rfl) ?_
            refine lv_dup hx hb dX7_windBy_47 rfl ?_
            refine gX7_27 hx hb hG hown hK hP gw_13_7 dX7_windBy_48 ?_
            refine lv_iconst (v := 1) hx hb dX7_windBy_51 (by decide) ?_
            refine lv_iadd hx hb dX7_windBy_52 ?_
            refine pX7_27 hx hb hG hown hK hP had AW_in hS gw_13_7 dX7_windBy_53 (fun H locs hP hS => ?_)
            obtain ⟨M_136, eM_136⟩ : ∃ y : Mem, y = up2 M_76 0 27 ((M_76 0 27) + 1) := ⟨_, rfl⟩
            rw [← eM_136] at hP
            have hr_82 := bnd_at hr_82 eM_136
            have hTM_136 : TI M M_136 := by rw [eM_136]; exact TI_f hTM_76 (by decide)
            have qb_M_136 := hTM_136.1.1
            have qs_M_136 := hTM_136.1.2.1
            have qz_M_136 := hTM_136.1.2.2.1
            refine lv_aload_n hx hb dX7_windBy_56 rfl (lv_at hl 2 rfl) ?_
            refine call_v [] [] hx hb hml hG hown hK (c_X7_openLevel had M_136 hTM_136.1 (wb_open hI hWB hc_78 (ey_79.symm.trans hc_81) eM_136).1) gw_13_8 gm_X7_openLevel gd_X7_openLevel rfl rfl ⟨Nat.le_of_ble_eq_true rfl, Nat.le_of_ble_eq_true rfl⟩ ⟨Nat.le_refl _, Nat.le_refl _⟩ (rX7 hK hP) hP (fun _ h => h) hS rfl hl.1 rfl (Nat.le_of_ble_eq_true rfl) dX7_windBy_57 (fun M_139 H locs hF_138 hP hS => ?_)
            obtain ⟨hF_138, hti_140⟩ := hF_138
            have hr_82 := bnd_at hr_82 hF_138.symm
            have hTM_139 : TI M M_139 := TI_tr hTM_136 hti_140
            have qb_M_139 := hTM_139.1.1
            have qs_M_139 := hTM_139.1.2.1
            have qz_M_139 := hTM_139.1.2.2.1
            refine lv_goto (tgt := 215) hx hb dX7_windBy_60 (by decide) ?_
            cases hr_82
            exact j215 _ _ _ hTM_139 ⟨by rw [ey_80]; exact (wb_open hI hWB hc_78 (ey_79.symm.trans hc_81) eM_136).2 hF_138, by have qb := vp_in_iff.mp (wb_in hI hWB hc_78); rw [ey_80, inc_I (N := 100) qb.2 (by decide)]; omega⟩ hP hS (lv_sub hl [2, 3, 4, 0] rfl)
    exact lp20 _ _ _ _ _ _ hTM_5 (wb_0 hI (eM_2 ▸ hF_4)) (by decide) hr_77 hP hS (lv_sub hl [1, 2, 3, 0] rfl)
  · have he := ite_f he (fun q => q hc_1)
    refine lv_iconst (v := 0) hx hb dX7_windBy_7 (by decide) ?_
    exact hret _ _ _ _ _ _ ⟨(hV.trans he.symm), hT0⟩ hP hS dX7_windBy_8
