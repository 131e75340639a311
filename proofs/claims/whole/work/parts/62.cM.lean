-- @needs 12_dec 13_dec 14_dec 15_dec 37_fault
def rm_X7_openLevel : Room := { frames := 0, cells := 0, slots := 0, locals := 0 }
theorem gm_X7_openLevel : Cond.instanceMethod yX7_openLevel ∈ wsL_law ∧ Cond.selects RX7 yX7_openLevel yX7_openLevel ∈ wsL_law ∧ Cond.initialized RX7 ∈ wsL_law ∧ Cond.code yX7_openLevel cX7_openLevel 1 none ∈ wsL_law := ⟨gw_12_23, gw_13_0, gw_1_5, gw_13_1⟩
theorem gd_X7_openLevel : yX7_openLevel.cls = RX7 ∧ yX7_openLevel.cls ≠ "java/lang/invoke/MethodHandle" ∧ yX7_openLevel.cls ≠ "java/lang/invoke/VarHandle" ∧ (parseMethodDescriptor yX7_openLevel.desc).map (fun d => d.parameters.length) = some 0 := by decide +kernel
set_option maxRecDepth 100000 in
set_option maxHeartbeats 0 in
theorem c_X7_openLevel {l : Launch} {D : va_G} {k : Nat → ClassId} {ad : Nat → Nat} (had : InjN 31 ad) (M : Mem) (hI : MI M) (hlev : 0 ≤ (M 0 27).toInt ∧ (M 0 27).toInt < 8) : Met l yX7_openLevel (Cond.code yX7_openLevel cX7_openLevel 1 none :: wsL_law) rm_X7_openLevel (va_Pc [.ref (ad 0)] (GW 31 ad D k (cM ad k M))) (va_Qv (fun u => (f_X7_openLevel M = u ∧ TI M u)) (fun u t => GW 31 ad D k (cM ad k u) t) (AW 31 ad)) 0 0 (AW 31 ad) := by
  refine met_v (g := cM ad k) (M := M) (plainFor_of_name (by decide)) (Nat.le_of_ble_eq_true rfl) ?_
  intro p e s m args below meth c Q ls hx hb hml hG hown hK hret hP hS hl
  have hl : lv_has ls 1 [(0, .ref (ad 0))] := hl
  obtain ⟨V, hV⟩ : ∃ V, f_X7_openLevel M = V := ⟨_, rfl⟩
  have he := hV
  unfold f_X7_openLevel at he
  have hT0 : TI M M := TI_rf hI
  have qb_M := hI.1
  have qs_M := hI.2.1
  have qz_M := hI.2.2.1
  have hs0_27_M : M 0 27 = (M 0 27) := rfl
  refine lv_aload_n hx hb dX7_openLevel_0 rfl (lv_at hl 0 rfl) ?_
  refine gX7_23 hx hb hG hown hK hP gw_5_1 dX7_openLevel_1 ?_
  refine lv_aload_n hx hb dX7_openLevel_4 rfl (lv_at hl 0 rfl) ?_
  refine gX7_27 hx hb hG hown hK hP gw_12_21 dX7_openLevel_5 ?_
  refine lv_iconst (v := 0) hx hb dX7_openLevel_8 (by decide) ?_
  refine as_M13 hx hb hK hP had AW_in hS (vin_I (by have ll0 : (0 : Int32).toInt = 0 := rfl; have ll27 : (27 : Int32).toInt = 27 := rfl; have qsl0 := congrArg Int32.toInt hs0_27_M; omega) (by have ll0 : (0 : Int32).toInt = 0 := rfl; have ll27 : (27 : Int32).toInt = 27 := rfl; have qsl0 := congrArg Int32.toInt hs0_27_M; omega)) dX7_openLevel_9 (fun H locs hP hS => ?_)
  obtain ⟨M_1, eM_1⟩ : ∃ y : Mem, y = up2 M 13 (M 0 27).toNatClampNeg 0 := ⟨_, rfl⟩
  rw [← eM_1] at hP
  have he := bnd_at he eM_1
  have hTM_1 : TI M M_1 := by rw [eM_1]; exact TI_a hT0 (by decide)
  have qb_M_1 := hTM_1.1.1
  have qs_M_1 := hTM_1.1.2.1
  have qz_M_1 := hTM_1.1.2.2.1
  have hs0_27_M_1 : M_1 0 27 = (M 0 27) := by rw [eM_1, up2_o _ _ (by decide)] <;> exact hs0_27_M
  refine lv_aload_n hx hb dX7_openLevel_10 rfl (lv_at hl 0 rfl) ?_
  refine gX7_24 hx hb hG hown hK hP gw_5_2 dX7_openLevel_11 ?_
  refine lv_aload_n hx hb dX7_openLevel_14 rfl (lv_at hl 0 rfl) ?_
  refine gX7_27 hx hb hG hown hK hP gw_12_21 dX7_openLevel_15 ?_
  refine lv_iconst (v := 1) hx hb dX7_openLevel_18 (by decide) ?_
  refine as_M14 hx hb hK hP had AW_in hS (vin_I (by have ll0 : (0 : Int32).toInt = 0 := rfl; have ll27 : (27 : Int32).toInt = 27 := rfl; have qsl0 := congrArg Int32.toInt hs0_27_M_1; omega) (by have ll0 : (0 : Int32).toInt = 0 := rfl; have ll27 : (27 : Int32).toInt = 27 := rfl; have qsl0 := congrArg Int32.toInt hs0_27_M_1; omega)) dX7_openLevel_19 (fun H locs hP hS => ?_)
  obtain ⟨M_2, eM_2⟩ : ∃ y : Mem, y = up2 M_1 14 (M_1 0 27).toNatClampNeg 1 := ⟨_, rfl⟩
  rw [← eM_2] at hP
  have he := bnd_at he eM_2
  have hTM_2 : TI M M_2 := by rw [eM_2]; exact TI_a hTM_1 (by decide)
  have qb_M_2 := hTM_2.1.1
  have qs_M_2 := hTM_2.1.2.1
  have qz_M_2 := hTM_2.1.2.2.1
  have hs0_27_M_2 : M_2 0 27 = (M 0 27) := by rw [eM_2, up2_o _ _ (by decide)] <;> exact hs0_27_M_1
  refine lv_aload_n hx hb dX7_openLevel_20 rfl (lv_at hl 0 rfl) ?_
  refine gX7_26 hx hb hG hown hK hP gw_5_4 dX7_openLevel_21 ?_
  refine lv_aload_n hx hb dX7_openLevel_24 rfl (lv_at hl 0 rfl) ?_
  refine gX7_27 hx hb hG hown hK hP gw_12_21 dX7_openLevel_25 ?_
  refine lv_iconst (v := 0) hx hb dX7_openLevel_28 (by decide) ?_
  refine as_M16 hx hb hK hP had AW_in hS (vin_I (by have ll0 : (0 : Int32).toInt = 0 := rfl; have ll27 : (27 : Int32).toInt = 27 := rfl; have qsl0 := congrArg Int32.toInt hs0_27_M_2; omega) (by have ll0 : (0 : Int32).toInt = 0 := rfl; have ll27 : (27 : Int32).toInt = 27 := rfl; have qsl0 := congrArg Int32.toInt hs0_27_M_2; omega)) dX7_openLevel_29 (fun H locs hP hS => ?_)
  obtain ⟨M_3, eM_3⟩ : ∃ y : Mem, y = up2 M_2 16 (M_2 0 27).toNatClampNeg 0 := ⟨_, rfl⟩
  rw [← eM_3] at hP
  have he := bnd_at he eM_3
  have hTM_3 : TI M M_3 := by rw [eM_3]; exact TI_a hTM_2 (by decide)
  have qb_M_3 := hTM_3.1.1
  have qs_M_3 := hTM_3.1.2.1
  have qz_M_3 := hTM_3.1.2.2.1
  have hs0_27_M_3 : M_3 0 27 = (M 0 27) := by rw [eM_3, up2_o _ _ (by decide)] <;> exact hs0_27_M_2
  exact hret _ _ _ _ _ ⟨(hV.trans he.symm), hTM_3⟩ hP hS dX7_openLevel_30
def rm_X7_atom : Room := { frames := 0, cells := 0, slots := 0, locals := 0 }
theorem gm_X7_atom : Cond.instanceMethod yX7_atom ∈ wsL_law ∧ Cond.selects RX7 yX7_atom yX7_atom ∈ wsL_law ∧ Cond.initialized RX7 ∈ wsL_law ∧ Cond.code yX7_atom cX7_atom 4 none ∈ wsL_law := ⟨gw_13_7, gw_13_8, gw_1_5, gw_13_9⟩
theorem gd_X7_atom : yX7_atom.cls = RX7 ∧ yX7_atom.cls ≠ "java/lang/invoke/MethodHandle" ∧ yX7_atom.cls ≠ "java/lang/invoke/VarHandle" ∧ (parseMethodDescriptor yX7_atom.desc).map (fun d => d.parameters.length) = some 1 := by decide +kernel
set_option maxRecDepth 100000 in
set_option maxHeartbeats 0 in
theorem c_X7_atom {l : Launch} {D : va_G} {k : Nat → ClassId} {ad : Nat → Nat} (had : InjN 31 ad) (M : Mem) (a1 : Int32) (hI : MI M) (hlev : 0 ≤ (M 0 27).toInt ∧ (M 0 27).toInt < 8) : Met l yX7_atom (Cond.code yX7_atom cX7_atom 4 none :: wsL_law) rm_X7_atom (va_Pc [.ref (ad 0), .int a1] (GW 31 ad D k (cM ad k M))) (va_Qv (fun u => (f_X7_atom M a1 = u ∧ TI M u)) (fun u t => GW 31 ad D k (cM ad k u) t) (AW 31 ad)) 0 0 (AW 31 ad) := by
  refine met_v (g := cM ad k) (M := M) (plainFor_of_name (by decide)) (Nat.le_of_ble_eq_true rfl) ?_
  intro p e s m args below meth c Q ls hx hb hml hG hown hK hret hP hS hl
  have hl : lv_has ls 4 [(0, .ref (ad 0)), (1, .int a1)] := hl
  obtain ⟨V, hV⟩ : ∃ V, f_X7_atom M a1 = V := ⟨_, rfl⟩
  have he := hV
  unfold f_X7_atom at he
  have hT0 : TI M M := TI_rf hI
  have qb_M := hI.1
  have qs_M := hI.2.1
  have qz_M := hI.2.2.1
  have hs0_27_M : M 0 27 = (M 0 27) := rfl
  refine lv_aload_n hx hb dX7_atom_0 rfl (lv_at hl 0 rfl) ?_
  refine gX7_25 hx hb hG hown hK hP gw_5_3 dX7_atom_1 ?_
  refine lv_aload_n hx hb dX7_atom_4 rfl (lv_at hl 0 rfl) ?_
  refine gX7_27 hx hb hG hown hK hP gw_12_21 dX7_atom_5 ?_
  refine al_M15 hx hb hK hP (vin_I (by have ll0 : (0 : Int32).toInt = 0 := rfl; have ll27 : (27 : Int32).toInt = 27 := rfl; have qsl0 := congrArg Int32.toInt hs0_27_M; omega) (by have ll0 : (0 : Int32).toInt = 0 := rfl; have ll27 : (27 : Int32).toInt = 27 := rfl; have qsl0 := congrArg Int32.toInt hs0_27_M; omega)) dX7_atom_8 ?_
  refine lv_topi (fun y_1 ey_1 => ?_)
  have he := bnd_at he ey_1
  refine lv_istore_n (lv' := [(2, .int y_1), (0, .ref (ad 0)), (1, .int a1)]) hx hb dX7_atom_9 rfl hl (by decide) rfl (fun ls hl => ?_)
  refine lv_aload_n hx hb dX7_atom_10 rfl (lv_at hl 1 rfl) ?_
  refine gX7_26 hx hb hG hown hK hP gw_5_4 dX7_atom_11 ?_
  refine lv_aload_n hx hb dX7_atom_14 rfl (lv_at hl 1 rfl) ?_
  refine gX7_27 hx hb hG hown hK hP gw_12_21 dX7_atom_15 ?_
  refine al_M16 hx hb hK hP (vin_I (by have ll0 : (0 : Int32).toInt = 0 := rfl; have ll27 : (27 : Int32).toInt = 27 := rfl; have qsl0 := congrArg Int32.toInt hs0_27_M; have qy_1 := congrArg Int32.toInt ey_1; omega) (by have ll0 : (0 : Int32).toInt = 0 := rfl; have ll27 : (27 : Int32).toInt = 27 := rfl; have qsl0 := congrArg Int32.toInt hs0_27_M; have qy_1 := congrArg Int32.toInt ey_1; omega)) dX7_atom_18 ?_
  refine lv_topi (fun y_2 ey_2 => ?_)
  have he := bnd_at he ey_2
  refine lv_istore_n (lv' := [(3, .int y_2), (2, .int y_1), (0, .ref (ad 0)), (1, .int a1)]) hx hb dX7_atom_19 rfl hl (by decide) rfl (fun ls hl => ?_)
  refine lv_aload_n hx hb dX7_atom_20 rfl (lv_at hl 2 rfl) ?_
  refine gX7_25 hx hb hG hown hK hP gw_5_3 dX7_atom_21 ?_
  refine lv_aload_n hx hb dX7_atom_24 rfl (lv_at hl 2 rfl) ?_
  refine gX7_27 hx hb hG hown hK hP gw_12_21 dX7_atom_25 ?_
  refine lv_iload_n hx hb dX7_atom_28 rfl (lv_at hl 0 rfl) ?_
  obtain ⟨t_8, hr_4, he⟩ := bnd_ex he
  have j71 : ∀ (H : Heap) (locs : List Loc) (ls : Array Slot), va_P D vwCl (wld 31 ad (cM ad k M)) H → va_S (AW 31 ad) s.heap H locs → lv_has ls 4 [] → W p l e rm_X7_atom s m args below meth c H locs 0 0 Q (F0 m 71 ls [.int t_8, .int (M 0 27), .ref (ad 15)]) := by
    intro H locs ls hP hS hl
    refine as_M15 hx hb hK hP had AW_in hS (vin_I (by have ll0 : (0 : Int32).toInt = 0 := rfl; have ll27 : (27 : Int32).toInt = 27 := rfl; have qsl0 := congrArg Int32.toInt hs0_27_M; have qy_1 := congrArg Int32.toInt ey_1; have qy_2 := congrArg Int32.toInt ey_2; omega) (by have ll0 : (0 : Int32).toInt = 0 := rfl; have ll27 : (27 : Int32).toInt = 27 := rfl; have qsl0 := congrArg Int32.toInt hs0_27_M; have qy_1 := congrArg Int32.toInt ey_1; have qy_2 := congrArg Int32.toInt ey_2; omega)) dX7_atom_71 (fun H locs hP hS => ?_)
    obtain ⟨M_9, eM_9⟩ : ∃ y : Mem, y = up2 M 15 (M 0 27).toNatClampNeg t_8 := ⟨_, rfl⟩
    rw [← eM_9] at hP
    have he := bnd_at he eM_9
    have hTM_9 : TI M M_9 := by rw [eM_9]; exact TI_a hT0 (by decide)
    have qb_M_9 := hTM_9.1.1
    have qs_M_9 := hTM_9.1.2.1
    have qz_M_9 := hTM_9.1.2.2.1
    have hs0_27_M_9 : M_9 0 27 = (M 0 27) := by rw [eM_9, up2_o _ _ (by decide)] <;> exact hs0_27_M
    exact hret _ _ _ _ _ ⟨(hV.trans he.symm), hTM_9⟩ hP hS dX7_atom_72
  refine lv_if_ne (tgt := 36) hx hb dX7_atom_29 (by decide) (fun hc_3 => ?_) (fun hc_3 => ?_)
  · have hr_4 := ite_t hr_4 hc_3
    refine lv_iload_n hx hb dX7_atom_36 rfl (lv_at hl 0 rfl) ?_
    refine lv_bipush (v := 42) hx hb dX7_atom_37 (by decide) ?_
    refine lv_icmp_ne (tgt := 48) hx hb dX7_atom_39 (by decide) (fun hc_5 => ?_) (fun hc_5 => ?_)
    · have hr_4 := ite_t hr_4 hc_5
      refine lv_iload_n hx hb dX7_atom_48 rfl (lv_at hl 3 rfl) ?_
      refine lv_if_ne (tgt := 56) hx hb dX7_atom_49 (by decide) (fun hc_6 => ?_) (fun hc_6 => ?_)
      · have hr_4 := ite_t hr_4 hc_6
        refine lv_iload_n hx hb dX7_atom_56 rfl (lv_at hl 0 rfl) ?_
        refine lv_bipush (v := 47) hx hb dX7_atom_57 (by decide) ?_
        refine lv_icmp_ne (tgt := 68) hx hb dX7_atom_59 (by decide) (fun hc_7 => ?_) (fun hc_7 => ?_)
        · have hr_4 := ite_t hr_4 hc_7
          refine lv_iload_n hx hb dX7_atom_68 rfl (lv_at hl 1 rfl) ?_
          refine lv_iload_n hx hb dX7_atom_69 rfl (lv_at hl 3 rfl) ?_
          refine lv_irem hx hb dX7_atom_70 hc_6 ?_
          cases hr_4
          exact j71 _ _ _ hP hS (lv_sub hl [] rfl)
        · have hr_4 := ite_f hr_4 (fun q => q hc_7)
          refine lv_iload_n hx hb dX7_atom_62 rfl (lv_at hl 1 rfl) ?_
          refine lv_iload_n hx hb dX7_atom_63 rfl (lv_at hl 3 rfl) ?_
          refine lv_idiv hx hb dX7_atom_64 hc_6 ?_
          refine lv_goto (tgt := 71) hx hb dX7_atom_65 (by decide) ?_
          cases hr_4
          exact j71 _ _ _ hP hS (lv_sub hl [] rfl)
      · have hr_4 := ite_f hr_4 (fun q => q hc_6)
        refine lv_iconst (v := 0) hx hb dX7_atom_52 (by decide) ?_
        refine lv_goto (tgt := 71) hx hb dX7_atom_53 (by decide) ?_
        cases hr_4
        exact j71 _ _ _ hP hS (lv_sub hl [] rfl)
    · have hr_4 := ite_f hr_4 (fun q => q hc_5)
      refine lv_iload_n hx hb dX7_atom_42 rfl (lv_at hl 1 rfl) ?_
      refine lv_iload_n hx hb dX7_atom_43 rfl (lv_at hl 3 rfl) ?_
      refine lv_imul hx hb dX7_atom_44 ?_
      refine lv_goto (tgt := 71) hx hb dX7_atom_45 (by decide) ?_
      cases hr_4
      exact j71 _ _ _ hP hS (lv_sub hl [] rfl)
  · have hr_4 := ite_f hr_4 (fun q => q hc_3)
    refine lv_iload_n hx hb dX7_atom_32 rfl (lv_at hl 3 rfl) ?_
    refine lv_goto (tgt := 71) hx hb dX7_atom_33 (by decide) ?_
    cases hr_4
    exact j71 _ _ _ hP hS (lv_sub hl [] rfl)
def rm_X7_levelSum : Room := { frames := 0, cells := 0, slots := 0, locals := 0 }
theorem gm_X7_levelSum : Cond.instanceMethod yX7_levelSum ∈ wsL_law ∧ Cond.selects RX7 yX7_levelSum yX7_levelSum ∈ wsL_law ∧ Cond.initialized RX7 ∈ wsL_law ∧ Cond.code yX7_levelSum cX7_levelSum 1 (some .int) ∈ wsL_law := ⟨gw_13_3, gw_13_4, gw_1_5, gw_13_5⟩
theorem gd_X7_levelSum : yX7_levelSum.cls = RX7 ∧ yX7_levelSum.cls ≠ "java/lang/invoke/MethodHandle" ∧ yX7_levelSum.cls ≠ "java/lang/invoke/VarHandle" ∧ (parseMethodDescriptor yX7_levelSum.desc).map (fun d => d.parameters.length) = some 0 := by decide +kernel
set_option maxRecDepth 100000 in
set_option maxHeartbeats 0 in
theorem c_X7_levelSum {l : Launch} {D : va_G} {k : Nat → ClassId} {ad : Nat → Nat} (had : InjN 31 ad) (M : Mem) (hI : MI M) (hlev : 0 ≤ (M 0 27).toInt ∧ (M 0 27).toInt < 8) : Met l yX7_levelSum (Cond.code yX7_levelSum cX7_levelSum 1 (some .int) :: wsL_law) rm_X7_levelSum (va_Pc [.ref (ad 0)] (GW 31 ad D k (cM ad k M))) (va_Qi (fun r u => f_X7_levelSum M = r ∧ u = M) (fun u t => GW 31 ad D k (cM ad k u) t) (AW 31 ad)) 0 0 (AW 31 ad) := by
  refine met_i (g := cM ad k) (M := M) (plainFor_of_name (by decide)) (Nat.le_of_ble_eq_true rfl) ?_
  intro p e s m args below meth c Q ls hx hb hml hG hown hK hret hP hS hl
  have hl : lv_has ls 1 [(0, .ref (ad 0))] := hl
  obtain ⟨V, hV⟩ : ∃ V, f_X7_levelSum M = V := ⟨_, rfl⟩
  have he := hV
  unfold f_X7_levelSum at he
  have hT0 : TI M M := TI_rf hI
  have qb_M := hI.1
  have qs_M := hI.2.1
  have qz_M := hI.2.2.1
  refine lv_aload_n hx hb dX7_levelSum_0 rfl (lv_at hl 0 rfl) ?_
  refine gX7_24 hx hb hG hown hK hP gw_5_2 dX7_levelSum_1 ?_
  refine lv_aload_n hx hb dX7_levelSum_4 rfl (lv_at hl 0 rfl) ?_
  refine gX7_27 hx hb hG hown hK hP gw_12_21 dX7_levelSum_5 ?_
  refine al_M14 hx hb hK hP (vin_I (by have ll0 : (0 : Int32).toInt = 0 := rfl; have ll27 : (27 : Int32).toInt = 27 := rfl; omega) (by have ll0 : (0 : Int32).toInt = 0 := rfl; have ll27 : (27 : Int32).toInt = 27 := rfl; omega)) dX7_levelSum_8 ?_
  obtain ⟨t_3, hr_2, he⟩ := bnd_ex he
  have j53 : ∀ (H : Heap) (locs : List Loc) (ls : Array Slot), va_P D vwCl (wld 31 ad (cM ad k M)) H → va_S (AW 31 ad) s.heap H locs → lv_has ls 1 [] → W p l e rm_X7_levelSum s m args below meth c H locs 0 0 Q (F0 m 53 ls [.int t_3]) := by
    intro H locs ls hP hS hl
    exact hret _ _ _ _ _ _ ⟨hV.trans he.symm, rfl⟩ hP hS dX7_levelSum_53
  refine lv_if_le (tgt := 34) hx hb dX7_levelSum_9 (by decide) (fun hc_1 => ?_) (fun hc_1 => ?_)
  · have hr_2 := ite_t hr_2 hc_1
    refine lv_aload_n hx hb dX7_levelSum_34 rfl (lv_at hl 0 rfl) ?_
    refine gX7_23 hx hb hG hown hK hP gw_5_1 dX7_levelSum_35 ?_
    refine lv_aload_n hx hb dX7_levelSum_38 rfl (lv_at hl 0 rfl) ?_
    refine gX7_27 hx hb hG hown hK hP gw_12_21 dX7_levelSum_39 ?_
    refine al_M13 hx hb hK hP (vin_I (by have ll0 : (0 : Int32).toInt = 0 := rfl; have ll27 : (27 : Int32).toInt = 27 := rfl; have q2 : (M 14 (M 0 27).toNatClampNeg).toInt ≤ 0 := le_I hc_1; omega) (by have ll0 : (0 : Int32).toInt = 0 := rfl; have ll27 : (27 : Int32).toInt = 27 := rfl; have q2 : (M 14 (M 0 27).toNatClampNeg).toInt ≤ 0 := le_I hc_1; omega)) dX7_levelSum_42 ?_
    refine lv_aload_n hx hb dX7_levelSum_43 rfl (lv_at hl 0 rfl) ?_
    refine gX7_25 hx hb hG hown hK hP gw_5_3 dX7_levelSum_44 ?_
    refine lv_aload_n hx hb dX7_levelSum_47 rfl (lv_at hl 0 rfl) ?_
    refine gX7_27 hx hb hG hown hK hP gw_12_21 dX7_levelSum_48 ?_
    refine al_M15 hx hb hK hP (vin_I (by have ll0 : (0 : Int32).toInt = 0 := rfl; have ll27 : (27 : Int32).toInt = 27 := rfl; have q2 : (M 14 (M 0 27).toNatClampNeg).toInt ≤ 0 := le_I hc_1; omega) (by have ll0 : (0 : Int32).toInt = 0 := rfl; have ll27 : (27 : Int32).toInt = 27 := rfl; have q2 : (M 14 (M 0 27).toNatClampNeg).toInt ≤ 0 := le_I hc_1; omega)) dX7_levelSum_51 ?_
    refine lv_isub hx hb dX7_levelSum_52 ?_
    cases hr_2
    exact j53 _ _ _ hP hS (lv_sub hl [] rfl)
  · have hr_2 := ite_f hr_2 hc_1
    refine lv_aload_n hx hb dX7_levelSum_12 rfl (lv_at hl 0 rfl) ?_
    refine gX7_23 hx hb hG hown hK hP gw_5_1 dX7_levelSum_13 ?_
    refine lv_aload_n hx hb dX7_levelSum_16 rfl (lv_at hl 0 rfl) ?_
    refine gX7_27 hx hb hG hown hK hP gw_12_21 dX7_levelSum_17 ?_
    refine al_M13 hx hb hK hP (vin_I (by have ll0 : (0 : Int32).toInt = 0 := rfl; have ll27 : (27 : Int32).toInt = 27 := rfl; have q2 : 0 < (M 14 (M 0 27).toNatClampNeg).toInt := nle_I hc_1; omega) (by have ll0 : (0 : Int32).toInt = 0 := rfl; have ll27 : (27 : Int32).toInt = 27 := rfl; have q2 : 0 < (M 14 (M 0 27).toNatClampNeg).toInt := nle_I hc_1; omega)) dX7_levelSum_20 ?_
    refine lv_aload_n hx hb dX7_levelSum_21 rfl (lv_at hl 0 rfl) ?_
    refine gX7_25 hx hb hG hown hK hP gw_5_3 dX7_levelSum_22 ?_
    refine lv_aload_n hx hb dX7_levelSum_25 rfl (lv_at hl 0 rfl) ?_
    refine gX7_27 hx hb hG hown hK hP gw_12_21 dX7_levelSum_26 ?_
    refine al_M15 hx hb hK hP (vin_I (by have ll0 : (0 : Int32).toInt = 0 := rfl; have ll27 : (27 : Int32).toInt = 27 := rfl; have q2 : 0 < (M 14 (M 0 27).toNatClampNeg).toInt := nle_I hc_1; omega) (by have ll0 : (0 : Int32).toInt = 0 := rfl; have ll27 : (27 : Int32).toInt = 27 := rfl; have q2 : 0 < (M 14 (M 0 27).toNatClampNeg).toInt := nle_I hc_1; omega)) dX7_levelSum_29 ?_
    refine lv_iadd hx hb dX7_levelSum_30 ?_
    refine lv_goto (tgt := 53) hx hb dX7_levelSum_31 (by decide) ?_
    cases hr_2
    exact j53 _ _ _ hP hS (lv_sub hl [] rfl)
def rm_X7_work : Room := { frames := 1, cells := 0, slots := 0, locals := 20 }
theorem gm_X7_work : Cond.instanceMethod yX7_work ∈ wsL_law ∧ Cond.selects RX7 yX7_work yX7_work ∈ wsL_law ∧ Cond.initialized RX7 ∈ wsL_law ∧ Cond.code yX7_work cX7_work 2 none ∈ wsL_law := ⟨gw_13_11, gw_13_12, gw_1_5, gw_13_13⟩
theorem gd_X7_work : yX7_work.cls = RX7 ∧ yX7_work.cls ≠ "java/lang/invoke/MethodHandle" ∧ yX7_work.cls ≠ "java/lang/invoke/VarHandle" ∧ (parseMethodDescriptor yX7_work.desc).map (fun d => d.parameters.length) = some 1 := by decide +kernel
set_option maxRecDepth 100000 in
set_option maxHeartbeats 0 in
theorem c_X7_work {l : Launch} {D : va_G} {k : Nat → ClassId} {ad : Nat → Nat} (had : InjN 31 ad) (M : Mem) (a1 : Int32) (hI : MI M) (hlev : 0 ≤ (M 0 27).toInt ∧ (M 0 27).toInt < 8) : Met l yX7_work (Cond.code yX7_work cX7_work 2 none :: wsL_law) rm_X7_work (va_Pc [.ref (ad 0), .int a1] (GW 31 ad D k (cM ad k M))) (va_Qv (fun u => (f_X7_work M a1 = u ∧ TI M u)) (fun u t => GW 31 ad D k (cM ad k u) t) (AW 31 ad)) 0 0 (AW 31 ad) := by
  refine met_v (g := cM ad k) (M := M) (plainFor_of_name (by decide)) (Nat.le_of_ble_eq_true rfl) ?_
  intro p e s m args below meth c Q ls hx hb hml hG hown hK hret hP hS hl
  have hl : lv_has ls 2 [(0, .ref (ad 0)), (1, .int a1)] := hl
  obtain ⟨V, hV⟩ : ∃ V, f_X7_work M a1 = V := ⟨_, rfl⟩
  have he := hV
  unfold f_X7_work at he
  have hT0 : TI M M := TI_rf hI
  have qb_M := hI.1
  have qs_M := hI.2.1
  have qz_M := hI.2.2.1
  have hs0_27_M : M 0 27 = (M 0 27) := rfl
  refine lv_iload_n hx hb dX7_work_0 rfl (lv_at hl 1 rfl) ?_
  refine lv_bipush (v := 43) hx hb dX7_work_1 (by decide) ?_
  obtain ⟨M_23, hr_2, he⟩ := bnd_ex he
  have j68 : ∀ (H : Heap) (locs : List Loc) (ls : Array Slot), TI M M_23 → M_23 0 27 = (M 0 27) → va_P D vwCl (wld 31 ad (cM ad k M_23)) H → va_S (AW 31 ad) s.heap H locs → lv_has ls 2 [] → W p l e rm_X7_work s m args below meth c H locs 0 0 Q (F0 m 68 ls []) := by
    intro H locs ls hTM_23 hs0_27_M_23 hP hS hl
    have qb_M_23 := hTM_23.1.1
    have qs_M_23 := hTM_23.1.2.1
    have qz_M_23 := hTM_23.1.2.2.1
    exact hret _ _ _ _ _ ⟨(hV.trans he.symm), hTM_23⟩ hP hS dX7_work_68
  refine lv_icmp_eq (tgt := 12) hx hb dX7_work_3 (by decide) (fun hc_1 => ?_) (fun hc_1 => ?_)
  · have hr_2 := ite_t hr_2 hc_1
    refine lv_aload_n hx hb dX7_work_12 rfl (lv_at hl 0 rfl) ?_
    refine gX7_23 hx hb hG hown hK hP gw_5_1 dX7_work_13 ?_
    refine lv_aload_n hx hb dX7_work_16 rfl (lv_at hl 0 rfl) ?_
    refine gX7_27 hx hb hG hown hK hP gw_12_21 dX7_work_17 ?_
    refine lv_aload_n hx hb dX7_work_20 rfl (lv_at hl 0 rfl) ?_
    refine call_i [] [.int (M 0 27), .ref (ad 13)] hx hb hml hG hown hK (c_X7_levelSum had M hT0.1 (by have qsl0 := congrArg Int32.toInt hs0_27_M; omega)) gw_13_2 gm_X7_levelSum gd_X7_levelSum rfl rfl ⟨Nat.le_of_ble_eq_true rfl, Nat.le_of_ble_eq_true rfl⟩ ⟨Nat.le_refl _, Nat.le_refl _⟩ (rX7 hK hP) hP (fun _ h => h) hS rfl hl.1 rfl (Nat.le_of_ble_eq_true rfl) dX7_work_21 (fun r_3 u_5 H locs hF_4 hP hS => ?_)
    obtain ⟨hF_4, hu⟩ := hF_4; rw [hu] at hP; subst hF_4
    refine as_M13 hx hb hK hP had AW_in hS (vin_I (by have ll0 : (0 : Int32).toInt = 0 := rfl; have ll27 : (27 : Int32).toInt = 27 := rfl; have qsl0 := congrArg Int32.toInt hs0_27_M; omega) (by have ll0 : (0 : Int32).toInt = 0 := rfl; have ll27 : (27 : Int32).toInt = 27 := rfl; have qsl0 := congrArg Int32.toInt hs0_27_M; omega)) dX7_work_24 (fun H locs hP hS => ?_)
    obtain ⟨M_6, eM_6⟩ : ∃ y : Mem, y = up2 M 13 (M 0 27).toNatClampNeg (f_X7_levelSum M) := ⟨_, rfl⟩
    rw [← eM_6] at hP
    have hr_2 := bnd_at hr_2 eM_6
    have hTM_6 : TI M M_6 := by rw [eM_6]; exact TI_a hT0 (by decide)
    have qb_M_6 := hTM_6.1.1
    have qs_M_6 := hTM_6.1.2.1
    have qz_M_6 := hTM_6.1.2.2.1
    have hs0_27_M_6 : M_6 0 27 = (M 0 27) := by rw [eM_6, up2_o _ _ (by decide)] <;> exact hs0_27_M
    refine lv_aload_n hx hb dX7_work_25 rfl (lv_at hl 0 rfl) ?_
    refine gX7_24 hx hb hG hown hK hP gw_5_2 dX7_work_26 ?_
    refine lv_aload_n hx hb dX7_work_29 rfl (lv_at hl 0 rfl) ?_
    refine gX7_27 hx hb hG hown hK hP gw_12_21 dX7_work_30 ?_
    refine lv_iload_n hx hb dX7_work_33 rfl (lv_at hl 1 rfl) ?_
    refine lv_bipush (v := 43) hx hb dX7_work_34 (by decide) ?_
    obtain ⟨t_9, hr_8, hr_2⟩ := bnd_ex hr_2
    have j44 : ∀ (H : Heap) (locs : List Loc) (ls : Array Slot), va_P D vwCl (wld 31 ad (cM ad k M_6)) H → va_S (AW 31 ad) s.heap H locs → lv_has ls 2 [(0, .ref (ad 0))] → W p l e rm_X7_work s m args below meth c H locs 0 0 Q (F0 m 44 ls [.int t_9, .int (M_6 0 27), .ref (ad 14)]) := by
      intro H locs ls hP hS hl
      refine as_M14 hx hb hK hP had AW_in hS (vin_I (by have ll0 : (0 : Int32).toInt = 0 := rfl; have ll27 : (27 : Int32).toInt = 27 := rfl; have qsl0 := congrArg Int32.toInt hs0_27_M_6; omega) (by have ll0 : (0 : Int32).toInt = 0 := rfl; have ll27 : (27 : Int32).toInt = 27 := rfl; have qsl0 := congrArg Int32.toInt hs0_27_M_6; omega)) dX7_work_44 (fun H locs hP hS => ?_)
      obtain ⟨M_10, eM_10⟩ : ∃ y : Mem, y = up2 M_6 14 (M_6 0 27).toNatClampNeg t_9 := ⟨_, rfl⟩
      rw [← eM_10] at hP
      have hr_2 := bnd_at hr_2 eM_10
      have hTM_10 : TI M M_10 := by rw [eM_10]; exact TI_a hTM_6 (by decide)
      have qb_M_10 := hTM_10.1.1
      have qs_M_10 := hTM_10.1.2.1
      have qz_M_10 := hTM_10.1.2.2.1
      have hs0_27_M_10 : M_10 0 27 = (M 0 27) := by rw [eM_10, up2_o _ _ (by decide)] <;> exact hs0_27_M_6
      refine lv_aload_n hx hb dX7_work_45 rfl (lv_at hl 0 rfl) ?_
      refine gX7_26 hx hb hG hown hK hP gw_5_4 dX7_work_46 ?_
      refine lv_aload_n hx hb dX7_work_49 rfl (lv_at hl 0 rfl) ?_
      refine gX7_27 hx hb hG hown hK hP gw_12_21 dX7_work_50 ?_
      refine lv_iconst (v := 0) hx hb dX7_work_53 (by decide) ?_
      refine as_M16 hx hb hK hP had AW_in hS (vin_I (by have ll0 : (0 : Int32).toInt = 0 := rfl; have ll27 : (27 : Int32).toInt = 27 := rfl; have qsl0 := congrArg Int32.toInt hs0_27_M_10; omega) (by have ll0 : (0 : Int32).toInt = 0 := rfl; have ll27 : (27 : Int32).toInt = 27 := rfl; have qsl0 := congrArg Int32.toInt hs0_27_M_10; omega)) dX7_work_54 (fun H locs hP hS => ?_)
      obtain ⟨M_11, eM_11⟩ : ∃ y : Mem, y = up2 M_10 16 (M_10 0 27).toNatClampNeg 0 := ⟨_, rfl⟩
      rw [← eM_11] at hP
      have hr_2 := bnd_at hr_2 eM_11
      have hTM_11 : TI M M_11 := by rw [eM_11]; exact TI_a hTM_10 (by decide)
      have qb_M_11 := hTM_11.1.1
      have qs_M_11 := hTM_11.1.2.1
      have qz_M_11 := hTM_11.1.2.2.1
      have hs0_27_M_11 : M_11 0 27 = (M 0 27) := by rw [eM_11, up2_o _ _ (by decide)] <;> exact hs0_27_M_10
      refine lv_goto (tgt := 68) hx hb dX7_work_55 (by decide) ?_
      cases hr_2
      exact j68 _ _ _ hTM_11 hs0_27_M_11 hP hS (lv_sub hl [] rfl)
    refine lv_icmp_ne (tgt := 43) hx hb dX7_work_36 (by decide) (fun hc_7 => ?_) (fun hc_7 => ?_)
    · have hr_8 := ite_t hr_8 hc_7
      refine lv_iconst (v := (-1)) hx hb dX7_work_43 (by decide) ?_
      cases hr_8
      exact j44 _ _ _ hP hS (lv_sub hl [0] rfl)
    · have hr_8 := ite_f hr_8 (fun q => q hc_7)
      refine lv_iconst (v := 1) hx hb dX7_work_39 (by decide) ?_
      refine lv_goto (tgt := 44) hx hb dX7_work_40 (by decide) ?_
      cases hr_8
      exact j44 _ _ _ hP hS (lv_sub hl [0] rfl)
  · have hr_2 := ite_f hr_2 hc_1
    refine lv_iload_n hx hb dX7_work_6 rfl (lv_at hl 1 rfl) ?_
    refine lv_bipush (v := 45) hx hb dX7_work_7 (by decide) ?_
    refine lv_icmp_ne (tgt := 58) hx hb dX7_work_9 (by decide) (fun hc_12 => ?_) (fun hc_12 => ?_)
    · have hr_2 := ite_t hr_2 hc_12
      refine lv_aload_n hx hb dX7_work_58 rfl (lv_at hl 0 rfl) ?_
      refine gX7_26 hx hb hG hown hK hP gw_5_4 dX7_work_59 ?_
      refine lv_aload_n hx hb dX7_work_62 rfl (lv_at hl 0 rfl) ?_
      refine gX7_27 hx hb hG hown hK hP gw_12_21 dX7_work_63 ?_
      refine lv_iload_n hx hb dX7_work_66 rfl (lv_at hl 1 rfl) ?_
      refine as_M16 hx hb hK hP had AW_in hS (vin_I (by have ll0 : (0 : Int32).toInt = 0 := rfl; have ll27 : (27 : Int32).toInt = 27 := rfl; have qsl0 := congrArg Int32.toInt hs0_27_M; omega) (by have ll0 : (0 : Int32).toInt = 0 := rfl; have ll27 : (27 : Int32).toInt = 27 := rfl; have qsl0 := congrArg Int32.toInt hs0_27_M; omega)) dX7_work_67 (fun H locs hP hS => ?_)
      obtain ⟨M_13, eM_13⟩ : ∃ y : Mem, y = up2 M 16 (M 0 27).toNatClampNeg a1 := ⟨_, rfl⟩
      rw [← eM_13] at hP
      have hr_2 := bnd_at hr_2 eM_13
      have hTM_13 : TI M M_13 := by rw [eM_13]; exact TI_a hT0 (by decide)
      have qb_M_13 := hTM_13.1.1
      have qs_M_13 := hTM_13.1.2.1
      have qz_M_13 := hTM_13.1.2.2.1
      have hs0_27_M_13 : M_13 0 27 = (M 0 27) := by rw [eM_13, up2_o _ _ (by decide)] <;> exact hs0_27_M
      cases hr_2
      exact j68 _ _ _ hTM_13 hs0_27_M_13 hP hS (lv_sub hl [] rfl)
    · have hr_2 := ite_f hr_2 (fun q => q hc_12)
      refine lv_aload_n hx hb dX7_work_12 rfl (lv_at hl 0 rfl) ?_
      refine gX7_23 hx hb hG hown hK hP gw_5_1 dX7_work_13 ?_
      refine lv_aload_n hx hb dX7_work_16 rfl (lv_at hl 0 rfl) ?_
      refine gX7_27 hx hb hG hown hK hP gw_12_21 dX7_work_17 ?_
      refine lv_aload_n hx hb dX7_work_20 rfl (lv_at hl 0 rfl) ?_
      refine call_i [] [.int (M 0 27), .ref (ad 13)] hx hb hml hG hown hK (c_X7_levelSum had M hT0.1 (by have qsl0 := congrArg Int32.toInt hs0_27_M; omega)) gw_13_2 gm_X7_levelSum gd_X7_levelSum rfl rfl ⟨Nat.le_of_ble_eq_true rfl, Nat.le_of_ble_eq_true rfl⟩ ⟨Nat.le_refl _, Nat.le_refl _⟩ (rX7 hK hP) hP (fun _ h => h) hS rfl hl.1 rfl (Nat.le_of_ble_eq_true rfl) dX7_work_21 (fun r_14 u_16 H locs hF_15 hP hS => ?_)
      obtain ⟨hF_15, hu⟩ := hF_15; rw [hu] at hP; subst hF_15
      refine as_M13 hx hb hK hP had AW_in hS (vin_I (by have ll0 : (0 : Int32).toInt = 0 := rfl; have ll27 : (27 : Int32).toInt = 27 := rfl; have qsl0 := congrArg Int32.toInt hs0_27_M; omega) (by have ll0 : (0 : Int32).toInt = 0 := rfl; have ll27 : (27 : Int32).toInt = 27 := rfl; have qsl0 := congrArg Int32.toInt hs0_27_M; omega)) dX7_work_24 (fun H locs hP hS => ?_)
      obtain ⟨M_17, eM_17⟩ : ∃ y : Mem, y = up2 M 13 (M 0 27).toNatClampNeg (f_X7_levelSum M) := ⟨_, rfl⟩
      rw [← eM_17] at hP
      have hr_2 := bnd_at hr_2 eM_17
      have hTM_17 : TI M M_17 := by rw [eM_17]; exact TI_a hT0 (by decide)
      have qb_M_17 := hTM_17.1.1
      have qs_M_17 := hTM_17.1.2.1
      have qz_M_17 := hTM_17.1.2.2.1
      have hs0_27_M_17 : M_17 0 27 = (M 0 27) := by rw [eM_17, up2_o _ _ (by decide)] <;> exact hs0_27_M
      refine lv_aload_n hx hb dX7_work_25 rfl (lv_at hl 0 rfl) ?_
      refine gX7_24 hx hb hG hown hK hP gw_5_2 dX7_work_26 ?_
      refine lv_aload_n hx hb dX7_work_29 rfl (lv_at hl 0 rfl) ?_
      refine gX7_27 hx hb hG hown hK hP gw_12_21 dX7_work_30 ?_
      refine lv_iload_n hx hb dX7_work_33 rfl (lv_at hl 1 rfl) ?_
      refine lv_bipush (v := 43) hx hb dX7_work_34 (by decide) ?_
      obtain ⟨t_20, hr_19, hr_2⟩ := bnd_ex hr_2
      have j44 : ∀ (H : Heap) (locs : List Loc) (ls : Array Slot), va_P D vwCl (wld 31 ad (cM ad k M_17)) H → va_S (AW 31 ad) s.heap H locs → lv_has ls 2 [(0, .ref (ad 0))] → W p l e rm_X7_work s m args below meth c H locs 0 0 Q (F0 m 44 ls [.int t_20, .int (M_17 0 27), .ref (ad 14)]) := by
        intro H locs ls hP hS hl
        refine as_M14 hx hb hK hP had AW_in hS (vin_I (by have ll0 : (0 : Int32).toInt = 0 := rfl; have ll27 : (27 : Int32).toInt = 27 := rfl; have qsl0 := congrArg Int32.toInt hs0_27_M_17; omega) (by have ll0 : (0 : Int32).toInt = 0 := rfl; have ll27 : (27 : Int32).toInt = 27 := rfl; have qsl0 := congrArg Int32.toInt hs0_27_M_17; omega)) dX7_work_44 (fun H locs hP hS => ?_)
        obtain ⟨M_21, eM_21⟩ : ∃ y : Mem, y = up2 M_17 14 (M_17 0 27).toNatClampNeg t_20 := ⟨_, rfl⟩
        rw [← eM_21] at hP
        have hr_2 := bnd_at hr_2 eM_21
        have hTM_21 : TI M M_21 := by rw [eM_21]; exact TI_a hTM_17 (by decide)
        have qb_M_21 := hTM_21.1.1
        have qs_M_21 := hTM_21.1.2.1
        have qz_M_21 := hTM_21.1.2.2.1
        have hs0_27_M_21 : M_21 0 27 = (M 0 27) := by rw [eM_21, up2_o _ _ (by decide)] <;> exact hs0_27_M_17
        refine lv_aload_n hx hb dX7_work_45 rfl (lv_at hl 0 rfl) ?_
        refine gX7_26 hx hb hG hown hK hP gw_5_4 dX7_work_46 ?_
        refine lv_aload_n hx hb dX7_work_49 rfl (lv_at hl 0 rfl) ?_
        refine gX7_27 hx hb hG hown hK hP gw_12_21 dX7_work_50 ?_
        refine lv_iconst (v := 0) hx hb dX7_work_53 (by decide) ?_
        refine as_M16 hx hb hK hP had AW_in hS (vin_I (by have ll0 : (0 : Int32).toInt = 0 := rfl; have ll27 : (27 : Int32).toInt = 27 := rfl; have qsl0 := congrArg Int32.toInt hs0_27_M_21; omega) (by have ll0 : (0 : Int32).toInt = 0 := rfl; have ll27 : (27 : Int32).toInt = 27 := rfl; have qsl0 := congrArg Int32.toInt hs0_27_M_21; omega)) dX7_work_54 (fun H locs hP hS => ?_)
        obtain ⟨M_22, eM_22⟩ : ∃ y : Mem, y = up2 M_21 16 (M_21 0 27).toNatClampNeg 0 := ⟨_, rfl⟩
        rw [← eM_22] at hP
        have hr_2 := bnd_at hr_2 eM_22
        have hTM_22 : TI M M_22 := by rw [eM_22]; exact TI_a hTM_21 (by decide)
        have qb_M_22 := hTM_22.1.1
        have qs_M_22 := hTM_22.1.2.1
        have qz_M_22 := hTM_22.1.2.2.1
        have hs0_27_M_22 : M_22 0 27 = (M 0 27) := by rw [eM_22, up2_o _ _ (by decide)] <;> exact hs0_27_M_21
        refine lv_goto (tgt := 68) hx hb dX7_work_55 (by decide) ?_
        cases hr_2
        exact j68 _ _ _ hTM_22 hs0_27_M_22 hP hS (lv_sub hl [] rfl)
      refine lv_icmp_ne (tgt := 43) hx hb dX7_work_36 (by decide) (fun hc_18 => ?_) (fun hc_18 => ?_)
      · have hr_19 := ite_t hr_19 hc_18
        refine lv_iconst (v := (-1)) hx hb dX7_work_43 (by decide) ?_
        cases hr_19
        exact j44 _ _ _ hP hS (lv_sub hl [0] rfl)
      · have hr_19 := ite_f hr_19 (fun q => q hc_18)
        refine lv_iconst (v := 1) hx hb dX7_work_39 (by decide) ?_
        refine lv_goto (tgt := 44) hx hb dX7_work_40 (by decide) ?_
        cases hr_19
        exact j44 _ _ _ hP hS (lv_sub hl [0] rfl)
