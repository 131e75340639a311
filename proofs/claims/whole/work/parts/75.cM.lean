-- @needs 12_dec 13_dec 14_dec 15_dec 37_fault 60_cM 69_cM
def rm_X7_keep : Room := { frames := 2, cells := 0, slots := 0, locals := 46 }
theorem gm_X7_keep : Cond.instanceMethod yX7_keep ∈ wsL_law ∧ Cond.selects RX7 yX7_keep yX7_keep ∈ wsL_law ∧ Cond.initialized RX7 ∈ wsL_law ∧ Cond.code yX7_keep cX7_keep 4 (some .int) ∈ wsL_law := ⟨gw_41_7, gw_41_8, gw_1_5, gw_41_9⟩
theorem gd_X7_keep : yX7_keep.cls = RX7 ∧ yX7_keep.cls ≠ "java/lang/invoke/MethodHandle" ∧ yX7_keep.cls ≠ "java/lang/invoke/VarHandle" ∧ (parseMethodDescriptor yX7_keep.desc).map (fun d => d.parameters.length) = some 3 := by decide +kernel
set_option maxRecDepth 100000 in
set_option maxHeartbeats 0 in
theorem c_X7_keep {l : Launch} {D : va_G} {k : Nat → ClassId} {ad : Nat → Nat} (had : InjN 31 ad) (M : Mem) (a1 : Int32) (a2 : Int32) (a3 : Int32) (hI : MI M) : Met l yX7_keep (Cond.code yX7_keep cX7_keep 4 (some .int) :: wsL_law) rm_X7_keep (va_Pc [.ref (ad 0), .int a1, .int a2, .int a3] (GW 31 ad D k (cM ad k M))) (va_Qi (fun r u => (f_X7_keep M a1 a2 a3 = (r, u) ∧ TI M u)) (fun u t => GW 31 ad D k (cM ad k u) t) (AW 31 ad)) 0 0 (AW 31 ad) := by
  refine met_i (g := cM ad k) (M := M) (plainFor_of_name (by decide)) (Nat.le_of_ble_eq_true rfl) ?_
  intro p e s m args below meth c Q ls hx hb hml hG hown hK hret hP hS hl
  have hl : lv_has ls 4 [(0, .ref (ad 0)), (1, .int a1), (2, .int a2), (3, .int a3)] := hl
  obtain ⟨V, hV⟩ : ∃ V, f_X7_keep M a1 a2 a3 = V := ⟨_, rfl⟩
  have he := hV
  unfold f_X7_keep at he
  have hT0 : TI M M := TI_rf hI
  have qb_M := hI.1
  have qs_M := hI.2.1
  have qz_M := hI.2.2.1
  refine lv_aload_n hx hb dX7_keep_0 rfl (lv_at hl 0 rfl) ?_
  refine lv_iconst (v := 0) hx hb dX7_keep_1 (by decide) ?_
  refine pX7_19 hx hb hG hown hK hP had AW_in hS gw_5_19 dX7_keep_2 (fun H locs hP hS => ?_)
  obtain ⟨M_1, eM_1⟩ : ∃ y : Mem, y = up2 M 0 19 0 := ⟨_, rfl⟩
  rw [← eM_1] at hP
  have he := bnd_at he eM_1
  have hTM_1 : TI M M_1 := by rw [eM_1]; exact TI_f hT0 (by decide)
  have qb_M_1 := hTM_1.1.1
  have qs_M_1 := hTM_1.1.2.1
  have qz_M_1 := hTM_1.1.2.2.1
  refine lv_iload_n hx hb dX7_keep_5 rfl (lv_at hl 1 rfl) ?_
  refine lv_i2l (v := a1.toInt64) hx hb dX7_keep_6 rfl ?_
  refine lv_lconst (v := 0) hx hb dX7_keep_7 (by decide) ?_
  refine lv_ldc2 (v := 7) hx hb hown (hG _ gw_9_11) dX7_keep_8 ?_
  refine callS_i [.long a1.toInt64, .long 0, .long 7] [] hx hb hml hG hown hK (c_X7_in had (M := M_1)  a1.toInt64 0 7) gw_7_2 gm_X7_in gd_X7_in rfl rfl ⟨Nat.le_of_ble_eq_true rfl, Nat.le_of_ble_eq_true rfl⟩ ⟨Nat.le_refl _, Nat.le_refl _⟩ hP (fun _ h => h) hS rfl hl.1 rfl (Nat.le_of_ble_eq_true rfl) dX7_keep_11 (fun r_2 u_4 H locs hF_3 hP hS => ?_)
  obtain ⟨hz_5, hF_3, hu⟩ := hF_3; rw [hu] at hP; subst hF_3
  refine lv_if_eq (tgt := 40) hx hb dX7_keep_14 (by decide) (fun hc_6 => ?_) (fun hc_6 => ?_)
  · have he := ite_t he hc_6
    refine lv_iconst (v := (-1)) hx hb dX7_keep_40 (by decide) ?_
    exact hret _ _ _ _ _ _ ⟨(hV.trans he.symm), hTM_1⟩ hP hS dX7_keep_41
  · have he := ite_f he hc_6
    refine lv_iload_n hx hb dX7_keep_17 rfl (lv_at hl 2 rfl) ?_
    refine lv_i2l (v := a2.toInt64) hx hb dX7_keep_18 rfl ?_
    refine lv_lconst (v := 0) hx hb dX7_keep_19 (by decide) ?_
    refine lv_lconst (v := 1) hx hb dX7_keep_20 (by decide) ?_
    refine callS_i [.long a2.toInt64, .long 0, .long 1] [] hx hb hml hG hown hK (c_X7_in had (M := M_1)  a2.toInt64 0 1) gw_7_2 gm_X7_in gd_X7_in rfl rfl ⟨Nat.le_of_ble_eq_true rfl, Nat.le_of_ble_eq_true rfl⟩ ⟨Nat.le_refl _, Nat.le_refl _⟩ hP (fun _ h => h) hS rfl hl.1 rfl (Nat.le_of_ble_eq_true rfl) dX7_keep_21 (fun r_7 u_9 H locs hF_8 hP hS => ?_)
    obtain ⟨hz_10, hF_8, hu⟩ := hF_8; rw [hu] at hP; subst hF_8
    refine lv_if_eq (tgt := 40) hx hb dX7_keep_24 (by decide) (fun hc_11 => ?_) (fun hc_11 => ?_)
    · have he := ite_t he hc_11
      refine lv_iconst (v := (-1)) hx hb dX7_keep_40 (by decide) ?_
      exact hret _ _ _ _ _ _ ⟨(hV.trans he.symm), hTM_1⟩ hP hS dX7_keep_41
    · have he := ite_f he hc_11
      refine lv_iload_n hx hb dX7_keep_27 rfl (lv_at hl 2 rfl) ?_
      refine lv_iconst (v := 1) hx hb dX7_keep_28 (by decide) ?_
      refine lv_icmp_ne (tgt := 42) hx hb dX7_keep_29 (by decide) (fun hc_12 => ?_) (fun hc_12 => ?_)
      · have he := ite_t he hc_12
        refine lv_aload_n hx hb dX7_keep_42 rfl (lv_at hl 0 rfl) ?_
        refine gX7_42 hx hb hG hown hK hP gw_5_11 dX7_keep_43 ?_
        refine lv_iload_n hx hb dX7_keep_46 rfl (lv_at hl 1 rfl) ?_
        refine lv_iload_n hx hb dX7_keep_47 rfl (lv_at hl 2 rfl) ?_
        refine as_M23 hx hb hK hP had AW_in hS (vin_I (by have q0 : (f_X7_in a1.toInt64 0 7).toInt ≠ 0 := ne_I hc_6; have r1 : 0 ≤ a1.toInt ∧ a1.toInt ≤ 7 := in_I hc_6; have q2 : (f_X7_in a2.toInt64 0 1).toInt ≠ 0 := ne_I hc_11; have r3 : 0 ≤ a2.toInt ∧ a2.toInt ≤ 1 := in_I hc_11; have q4 : a2.toInt ≠ 1 := ne_I hc_12; omega) (by have q0 : (f_X7_in a1.toInt64 0 7).toInt ≠ 0 := ne_I hc_6; have r1 : 0 ≤ a1.toInt ∧ a1.toInt ≤ 7 := in_I hc_6; have q2 : (f_X7_in a2.toInt64 0 1).toInt ≠ 0 := ne_I hc_11; have r3 : 0 ≤ a2.toInt ∧ a2.toInt ≤ 1 := in_I hc_11; have q4 : a2.toInt ≠ 1 := ne_I hc_12; omega)) dX7_keep_48 (fun H locs hP hS => ?_)
        obtain ⟨M_13, eM_13⟩ : ∃ y : Mem, y = up2 M_1 23 a1.toNatClampNeg a2 := ⟨_, rfl⟩
        rw [← eM_13] at hP
        have he := bnd_at he eM_13
        have hTM_13 : TI M M_13 := by rw [eM_13]; exact TI_a hTM_1 (by decide)
        have qb_M_13 := hTM_13.1.1
        have qs_M_13 := hTM_13.1.2.1
        have qz_M_13 := hTM_13.1.2.2.1
        refine lv_aload_n hx hb dX7_keep_49 rfl (lv_at hl 0 rfl) ?_
        refine gX7_43 hx hb hG hown hK hP gw_5_12 dX7_keep_50 ?_
        refine lv_iload_n hx hb dX7_keep_53 rfl (lv_at hl 1 rfl) ?_
        refine lv_iload_n hx hb dX7_keep_54 rfl (lv_at hl 2 rfl) ?_
        refine lv_iconst (v := 1) hx hb dX7_keep_55 (by decide) ?_
        obtain ⟨t_16, hr_15, he⟩ := bnd_ex he
        have j69 : ∀ (H : Heap) (locs : List Loc) (ls : Array Slot), va_P D vwCl (wld 31 ad (cM ad k M_13)) H → va_S (AW 31 ad) s.heap H locs → lv_has ls 4 [(0, .ref (ad 0)), (1, .int a1), (2, .int a2), (3, .int a3)] → W p l e rm_X7_keep s m args below meth c H locs 0 0 Q (F0 m 69 ls [.int t_16, .int a1, .ref (ad 24)]) := by
          intro H locs ls hP hS hl
          refine as_M24 hx hb hK hP had AW_in hS (vin_I (by have q0 : (f_X7_in a1.toInt64 0 7).toInt ≠ 0 := ne_I hc_6; have r1 : 0 ≤ a1.toInt ∧ a1.toInt ≤ 7 := in_I hc_6; have q2 : (f_X7_in a2.toInt64 0 1).toInt ≠ 0 := ne_I hc_11; have r3 : 0 ≤ a2.toInt ∧ a2.toInt ≤ 1 := in_I hc_11; have q4 : a2.toInt ≠ 1 := ne_I hc_12; omega) (by have q0 : (f_X7_in a1.toInt64 0 7).toInt ≠ 0 := ne_I hc_6; have r1 : 0 ≤ a1.toInt ∧ a1.toInt ≤ 7 := in_I hc_6; have q2 : (f_X7_in a2.toInt64 0 1).toInt ≠ 0 := ne_I hc_11; have r3 : 0 ≤ a2.toInt ∧ a2.toInt ≤ 1 := in_I hc_11; have q4 : a2.toInt ≠ 1 := ne_I hc_12; omega)) dX7_keep_69 (fun H locs hP hS => ?_)
          obtain ⟨M_17, eM_17⟩ : ∃ y : Mem, y = up2 M_13 24 a1.toNatClampNeg t_16 := ⟨_, rfl⟩
          rw [← eM_17] at hP
          have he := bnd_at he eM_17
          have hTM_17 : TI M M_17 := by rw [eM_17]; exact TI_a hTM_13 (by decide)
          have qb_M_17 := hTM_17.1.1
          have qs_M_17 := hTM_17.1.2.1
          have qz_M_17 := hTM_17.1.2.2.1
          refine lv_aload_n hx hb dX7_keep_70 rfl (lv_at hl 0 rfl) ?_
          refine gX7_44 hx hb hG hown hK hP gw_5_13 dX7_keep_71 ?_
          refine lv_iload_n hx hb dX7_keep_74 rfl (lv_at hl 1 rfl) ?_
          refine lv_iload_n hx hb dX7_keep_75 rfl (lv_at hl 2 rfl) ?_
          refine lv_iconst (v := 1) hx hb dX7_keep_76 (by decide) ?_
          obtain ⟨t_20, hr_19, he⟩ := bnd_ex he
          have j90 : ∀ (H : Heap) (locs : List Loc) (ls : Array Slot), va_P D vwCl (wld 31 ad (cM ad k M_17)) H → va_S (AW 31 ad) s.heap H locs → lv_has ls 4 [(0, .ref (ad 0)), (1, .int a1), (2, .int a2), (3, .int a3)] → W p l e rm_X7_keep s m args below meth c H locs 0 0 Q (F0 m 90 ls [.int t_20, .int a1, .ref (ad 25)]) := by
            intro H locs ls hP hS hl
            refine as_M25 hx hb hK hP had AW_in hS (vin_I (by have q0 : (f_X7_in a1.toInt64 0 7).toInt ≠ 0 := ne_I hc_6; have r1 : 0 ≤ a1.toInt ∧ a1.toInt ≤ 7 := in_I hc_6; have q2 : (f_X7_in a2.toInt64 0 1).toInt ≠ 0 := ne_I hc_11; have r3 : 0 ≤ a2.toInt ∧ a2.toInt ≤ 1 := in_I hc_11; have q4 : a2.toInt ≠ 1 := ne_I hc_12; omega) (by have q0 : (f_X7_in a1.toInt64 0 7).toInt ≠ 0 := ne_I hc_6; have r1 : 0 ≤ a1.toInt ∧ a1.toInt ≤ 7 := in_I hc_6; have q2 : (f_X7_in a2.toInt64 0 1).toInt ≠ 0 := ne_I hc_11; have r3 : 0 ≤ a2.toInt ∧ a2.toInt ≤ 1 := in_I hc_11; have q4 : a2.toInt ≠ 1 := ne_I hc_12; omega)) dX7_keep_90 (fun H locs hP hS => ?_)
            obtain ⟨M_21, eM_21⟩ : ∃ y : Mem, y = up2 M_17 25 a1.toNatClampNeg t_20 := ⟨_, rfl⟩
            rw [← eM_21] at hP
            have he := bnd_at he eM_21
            have hTM_21 : TI M M_21 := by rw [eM_21]; exact TI_a hTM_17 (by decide)
            have qb_M_21 := hTM_21.1.1
            have qs_M_21 := hTM_21.1.2.1
            have qz_M_21 := hTM_21.1.2.2.1
            refine lv_aload_n hx hb dX7_keep_91 rfl (lv_at hl 0 rfl) ?_
            refine gX7_45 hx hb hG hown hK hP gw_5_14 dX7_keep_92 ?_
            refine lv_iload_n hx hb dX7_keep_95 rfl (lv_at hl 1 rfl) ?_
            refine lv_iload_n hx hb dX7_keep_96 rfl (lv_at hl 2 rfl) ?_
            refine lv_iconst (v := 1) hx hb dX7_keep_97 (by decide) ?_
            obtain ⟨t_24, hr_23, he⟩ := bnd_ex he
            have j106 : ∀ (H : Heap) (locs : List Loc) (ls : Array Slot), va_P D vwCl (wld 31 ad (cM ad k M_21)) H → va_S (AW 31 ad) s.heap H locs → lv_has ls 4 [] → W p l e rm_X7_keep s m args below meth c H locs 0 0 Q (F0 m 106 ls [.int t_24, .int a1, .ref (ad 26)]) := by
              intro H locs ls hP hS hl
              refine as_M26 hx hb hK hP had AW_in hS (vin_I (by have q0 : (f_X7_in a1.toInt64 0 7).toInt ≠ 0 := ne_I hc_6; have r1 : 0 ≤ a1.toInt ∧ a1.toInt ≤ 7 := in_I hc_6; have q2 : (f_X7_in a2.toInt64 0 1).toInt ≠ 0 := ne_I hc_11; have r3 : 0 ≤ a2.toInt ∧ a2.toInt ≤ 1 := in_I hc_11; have q4 : a2.toInt ≠ 1 := ne_I hc_12; omega) (by have q0 : (f_X7_in a1.toInt64 0 7).toInt ≠ 0 := ne_I hc_6; have r1 : 0 ≤ a1.toInt ∧ a1.toInt ≤ 7 := in_I hc_6; have q2 : (f_X7_in a2.toInt64 0 1).toInt ≠ 0 := ne_I hc_11; have r3 : 0 ≤ a2.toInt ∧ a2.toInt ≤ 1 := in_I hc_11; have q4 : a2.toInt ≠ 1 := ne_I hc_12; omega)) dX7_keep_106 (fun H locs hP hS => ?_)
              obtain ⟨M_25, eM_25⟩ : ∃ y : Mem, y = up2 M_21 26 a1.toNatClampNeg t_24 := ⟨_, rfl⟩
              rw [← eM_25] at hP
              have he := bnd_at he eM_25
              have hTM_25 : TI M M_25 := by rw [eM_25]; exact TI_a hTM_21 (by decide)
              have qb_M_25 := hTM_25.1.1
              have qs_M_25 := hTM_25.1.2.1
              have qz_M_25 := hTM_25.1.2.2.1
              refine lv_iconst (v := 0) hx hb dX7_keep_107 (by decide) ?_
              exact hret _ _ _ _ _ _ ⟨(hV.trans he.symm), hTM_25⟩ hP hS dX7_keep_108
            refine lv_icmp_ne (tgt := 105) hx hb dX7_keep_98 (by decide) (fun hc_22 => ?_) (fun hc_22 => ?_)
            · have hr_23 := ite_t hr_23 hc_22
              refine lv_iconst (v := 0) hx hb dX7_keep_105 (by decide) ?_
              cases hr_23
              exact j106 _ _ _ hP hS (lv_sub hl [] rfl)
            · have hr_23 := ite_f hr_23 (fun q => q hc_22)
              refine lv_iload_n hx hb dX7_keep_101 rfl (lv_at hl 3 rfl) ?_
              refine lv_goto (tgt := 106) hx hb dX7_keep_102 (by decide) ?_
              cases hr_23
              exact j106 _ _ _ hP hS (lv_sub hl [] rfl)
          refine lv_icmp_ne (tgt := 89) hx hb dX7_keep_77 (by decide) (fun hc_18 => ?_) (fun hc_18 => ?_)
          · have hr_19 := ite_t hr_19 hc_18
            refine lv_iconst (v := 0) hx hb dX7_keep_89 (by decide) ?_
            cases hr_19
            exact j90 _ _ _ hP hS (lv_sub hl [0, 1, 2, 3] rfl)
          · have hr_19 := ite_f hr_19 (fun q => q hc_18)
            refine lv_aload_n hx hb dX7_keep_80 rfl (lv_at hl 0 rfl) ?_
            refine gX7_12 hx hb hG hown hK hP gw_4_17 dX7_keep_81 ?_
            refine lv_iload_n hx hb dX7_keep_84 rfl (lv_at hl 3 rfl) ?_
            refine al_M5 hx hb hK hP (vin_I (by have q0 : (f_X7_in a1.toInt64 0 7).toInt ≠ 0 := ne_I hc_6; have r1 : 0 ≤ a1.toInt ∧ a1.toInt ≤ 7 := in_I hc_6; have q2 : (f_X7_in a2.toInt64 0 1).toInt ≠ 0 := ne_I hc_11; have r3 : 0 ≤ a2.toInt ∧ a2.toInt ≤ 1 := in_I hc_11; have q4 : a2.toInt ≠ 1 := ne_I hc_12; have q5 : a2.toInt = 1 := congrArg Int32.toInt hc_18; omega) (by have q0 : (f_X7_in a1.toInt64 0 7).toInt ≠ 0 := ne_I hc_6; have r1 : 0 ≤ a1.toInt ∧ a1.toInt ≤ 7 := in_I hc_6; have q2 : (f_X7_in a2.toInt64 0 1).toInt ≠ 0 := ne_I hc_11; have r3 : 0 ≤ a2.toInt ∧ a2.toInt ≤ 1 := in_I hc_11; have q4 : a2.toInt ≠ 1 := ne_I hc_12; have q5 : a2.toInt = 1 := congrArg Int32.toInt hc_18; omega)) dX7_keep_85 ?_
            refine lv_goto (tgt := 90) hx hb dX7_keep_86 (by decide) ?_
            cases hr_19
            exact j90 _ _ _ hP hS (lv_sub hl [0, 1, 2, 3] rfl)
        refine lv_icmp_ne (tgt := 68) hx hb dX7_keep_56 (by decide) (fun hc_14 => ?_) (fun hc_14 => ?_)
        · have hr_15 := ite_t hr_15 hc_14
          refine lv_iconst (v := 0) hx hb dX7_keep_68 (by decide) ?_
          cases hr_15
          exact j69 _ _ _ hP hS (lv_sub hl [0, 1, 2, 3] rfl)
        · have hr_15 := ite_f hr_15 (fun q => q hc_14)
          refine lv_aload_n hx hb dX7_keep_59 rfl (lv_at hl 0 rfl) ?_
          refine gX7_9 hx hb hG hown hK hP gw_4_14 dX7_keep_60 ?_
          refine lv_iload_n hx hb dX7_keep_63 rfl (lv_at hl 3 rfl) ?_
          refine al_M2 hx hb hK hP (vin_I (by have q0 : (f_X7_in a1.toInt64 0 7).toInt ≠ 0 := ne_I hc_6; have r1 : 0 ≤ a1.toInt ∧ a1.toInt ≤ 7 := in_I hc_6; have q2 : (f_X7_in a2.toInt64 0 1).toInt ≠ 0 := ne_I hc_11; have r3 : 0 ≤ a2.toInt ∧ a2.toInt ≤ 1 := in_I hc_11; have q4 : a2.toInt ≠ 1 := ne_I hc_12; have q5 : a2.toInt = 1 := congrArg Int32.toInt hc_14; omega) (by have q0 : (f_X7_in a1.toInt64 0 7).toInt ≠ 0 := ne_I hc_6; have r1 : 0 ≤ a1.toInt ∧ a1.toInt ≤ 7 := in_I hc_6; have q2 : (f_X7_in a2.toInt64 0 1).toInt ≠ 0 := ne_I hc_11; have r3 : 0 ≤ a2.toInt ∧ a2.toInt ≤ 1 := in_I hc_11; have q4 : a2.toInt ≠ 1 := ne_I hc_12; have q5 : a2.toInt = 1 := congrArg Int32.toInt hc_14; omega)) dX7_keep_64 ?_
          refine lv_goto (tgt := 69) hx hb dX7_keep_65 (by decide) ?_
          cases hr_15
          exact j69 _ _ _ hP hS (lv_sub hl [0, 1, 2, 3] rfl)
      · have he := ite_f he (fun q => q hc_12)
        refine lv_aload_n hx hb dX7_keep_32 rfl (lv_at hl 0 rfl) ?_
        refine lv_iload_n hx hb dX7_keep_33 rfl (lv_at hl 3 rfl) ?_
        refine call_i [.int a3] [] hx hb hml hG hown hK (c_X7_isBoat had M_1 a3 hTM_1.1) gw_16_16 gm_X7_isBoat gd_X7_isBoat rfl rfl ⟨Nat.le_of_ble_eq_true rfl, Nat.le_of_ble_eq_true rfl⟩ ⟨Nat.le_refl _, Nat.le_refl _⟩ (rX7 hK hP) hP (fun _ h => h) hS rfl hl.1 rfl (Nat.le_of_ble_eq_true rfl) dX7_keep_34 (fun r_26 u_28 H locs hF_27 hP hS => ?_)
        obtain ⟨hz_29, hF_27, hu⟩ := hF_27; rw [hu] at hP; subst hF_27
        refine lv_if_ne (tgt := 42) hx hb dX7_keep_37 (by decide) (fun hc_30 => ?_) (fun hc_30 => ?_)
        · have he := ite_t he hc_30
          refine lv_aload_n hx hb dX7_keep_42 rfl (lv_at hl 0 rfl) ?_
          refine gX7_42 hx hb hG hown hK hP gw_5_11 dX7_keep_43 ?_
          refine lv_iload_n hx hb dX7_keep_46 rfl (lv_at hl 1 rfl) ?_
          refine lv_iload_n hx hb dX7_keep_47 rfl (lv_at hl 2 rfl) ?_
          refine as_M23 hx hb hK hP had AW_in hS (vin_I (by have q0 : (f_X7_in a1.toInt64 0 7).toInt ≠ 0 := ne_I hc_6; have r1 : 0 ≤ a1.toInt ∧ a1.toInt ≤ 7 := in_I hc_6; have q2 : (f_X7_in a2.toInt64 0 1).toInt ≠ 0 := ne_I hc_11; have r3 : 0 ≤ a2.toInt ∧ a2.toInt ≤ 1 := in_I hc_11; have q4 : a2.toInt = 1 := congrArg Int32.toInt hc_12; have q5 : (f_X7_isBoat M_1 a3).toInt ≠ 0 := ne_I hc_30; have r6 : 0 ≤ a3.toInt ∧ a3.toInt < (M_1 0 8).toInt := isBoat_in (by omega) hc_30; omega) (by have q0 : (f_X7_in a1.toInt64 0 7).toInt ≠ 0 := ne_I hc_6; have r1 : 0 ≤ a1.toInt ∧ a1.toInt ≤ 7 := in_I hc_6; have q2 : (f_X7_in a2.toInt64 0 1).toInt ≠ 0 := ne_I hc_11; have r3 : 0 ≤ a2.toInt ∧ a2.toInt ≤ 1 := in_I hc_11; have q4 : a2.toInt = 1 := congrArg Int32.toInt hc_12; have q5 : (f_X7_isBoat M_1 a3).toInt ≠ 0 := ne_I hc_30; have r6 : 0 ≤ a3.toInt ∧ a3.toInt < (M_1 0 8).toInt := isBoat_in (by omega) hc_30; omega)) dX7_keep_48 (fun H locs hP hS => ?_)
          obtain ⟨M_31, eM_31⟩ : ∃ y : Mem, y = up2 M_1 23 a1.toNatClampNeg a2 := ⟨_, rfl⟩
          rw [← eM_31] at hP
          have he := bnd_at he eM_31
          have hTM_31 : TI M M_31 := by rw [eM_31]; exact TI_a hTM_1 (by decide)
          have qb_M_31 := hTM_31.1.1
          have qs_M_31 := hTM_31.1.2.1
          have qz_M_31 := hTM_31.1.2.2.1
          refine lv_aload_n hx hb dX7_keep_49 rfl (lv_at hl 0 rfl) ?_
          refine gX7_43 hx hb hG hown hK hP gw_5_12 dX7_keep_50 ?_
          refine lv_iload_n hx hb dX7_keep_53 rfl (lv_at hl 1 rfl) ?_
          refine lv_iload_n hx hb dX7_keep_54 rfl (lv_at hl 2 rfl) ?_
          refine lv_iconst (v := 1) hx hb dX7_keep_55 (by decide) ?_
          obtain ⟨t_34, hr_33, he⟩ := bnd_ex he
          have j69 : ∀ (H : Heap) (locs : List Loc) (ls : Array Slot), va_P D vwCl (wld 31 ad (cM ad k M_31)) H → va_S (AW 31 ad) s.heap H locs → lv_has ls 4 [(0, .ref (ad 0)), (1, .int a1), (2, .int a2), (3, .int a3)] → W p l e rm_X7_keep s m args below meth c H locs 0 0 Q (F0 m 69 ls [.int t_34, .int a1, .ref (ad 24)]) := by
            intro H locs ls hP hS hl
            refine as_M24 hx hb hK hP had AW_in hS (vin_I (by have q0 : (f_X7_in a1.toInt64 0 7).toInt ≠ 0 := ne_I hc_6; have r1 : 0 ≤ a1.toInt ∧ a1.toInt ≤ 7 := in_I hc_6; have q2 : (f_X7_in a2.toInt64 0 1).toInt ≠ 0 := ne_I hc_11; have r3 : 0 ≤ a2.toInt ∧ a2.toInt ≤ 1 := in_I hc_11; have q4 : a2.toInt = 1 := congrArg Int32.toInt hc_12; have q5 : (f_X7_isBoat M_1 a3).toInt ≠ 0 := ne_I hc_30; have r6 : 0 ≤ a3.toInt ∧ a3.toInt < (M_1 0 8).toInt := isBoat_in (by omega) hc_30; omega) (by have q0 : (f_X7_in a1.toInt64 0 7).toInt ≠ 0 := ne_I hc_6; have r1 : 0 ≤ a1.toInt ∧ a1.toInt ≤ 7 := in_I hc_6; have q2 : (f_X7_in a2.toInt64 0 1).toInt ≠ 0 := ne_I hc_11; have r3 : 0 ≤ a2.toInt ∧ a2.toInt ≤ 1 := in_I hc_11; have q4 : a2.toInt = 1 := congrArg Int32.toInt hc_12; have q5 : (f_X7_isBoat M_1 a3).toInt ≠ 0 := ne_I hc_30; have r6 : 0 ≤ a3.toInt ∧ a3.toInt < (M_1 0 8).toInt := isBoat_in (by omega) hc_30; omega)) dX7_keep_69 (fun H locs hP hS => ?_)
            obtain ⟨M_35, eM_35⟩ : ∃ y : Mem, y = up2 M_31 24 a1.toNatClampNeg t_34 := ⟨_, rfl⟩
            rw [← eM_35] at hP
            have he := bnd_at he eM_35
            have hTM_35 : TI M M_35 := by rw [eM_35]; exact TI_a hTM_31 (by decide)
            have qb_M_35 := hTM_35.1.1
            have qs_M_35 := hTM_35.1.2.1
            have qz_M_35 := hTM_35.1.2.2.1
            refine lv_aload_n hx hb dX7_keep_70 rfl (lv_at hl 0 rfl) ?_
            refine gX7_44 hx hb hG hown hK hP gw_5_13 dX7_keep_71 ?_
            refine lv_iload_n hx hb dX7_keep_74 rfl (lv_at hl 1 rfl) ?_
            refine lv_iload_n hx hb dX7_keep_75 rfl (lv_at hl 2 rfl) ?_
            refine lv_iconst (v := 1) hx hb dX7_keep_76 (by decide) ?_
            obtain ⟨t_38, hr_37, he⟩ := bnd_ex he
            have j90 : ∀ (H : Heap) (locs : List Loc) (ls : Array Slot), va_P D vwCl (wld 31 ad (cM ad k M_35)) H → va_S (AW 31 ad) s.heap H locs → lv_has ls 4 [(0, .ref (ad 0)), (1, .int a1), (2, .int a2), (3, .int a3)] → W p l e rm_X7_keep s m args below meth c H locs 0 0 Q (F0 m 90 ls [.int t_38, .int a1, .ref (ad 25)]) := by
              intro H locs ls hP hS hl
              refine as_M25 hx hb hK hP had AW_in hS (vin_I (by have q0 : (f_X7_in a1.toInt64 0 7).toInt ≠ 0 := ne_I hc_6; have r1 : 0 ≤ a1.toInt ∧ a1.toInt ≤ 7 := in_I hc_6; have q2 : (f_X7_in a2.toInt64 0 1).toInt ≠ 0 := ne_I hc_11; have r3 : 0 ≤ a2.toInt ∧ a2.toInt ≤ 1 := in_I hc_11; have q4 : a2.toInt = 1 := congrArg Int32.toInt hc_12; have q5 : (f_X7_isBoat M_1 a3).toInt ≠ 0 := ne_I hc_30; have r6 : 0 ≤ a3.toInt ∧ a3.toInt < (M_1 0 8).toInt := isBoat_in (by omega) hc_30; omega) (by have q0 : (f_X7_in a1.toInt64 0 7).toInt ≠ 0 := ne_I hc_6; have r1 : 0 ≤ a1.toInt ∧ a1.toInt ≤ 7 := in_I hc_6; have q2 : (f_X7_in a2.toInt64 0 1).toInt ≠ 0 := ne_I hc_11; have r3 : 0 ≤ a2.toInt ∧ a2.toInt ≤ 1 := in_I hc_11; have q4 : a2.toInt = 1 := congrArg Int32.toInt hc_12; have q5 : (f_X7_isBoat M_1 a3).toInt ≠ 0 := ne_I hc_30; have r6 : 0 ≤ a3.toInt ∧ a3.toInt < (M_1 0 8).toInt := isBoat_in (by omega) hc_30; omega)) dX7_keep_90 (fun H locs hP hS => ?_)
              obtain ⟨M_39, eM_39⟩ : ∃ y : Mem, y = up2 M_35 25 a1.toNatClampNeg t_38 := ⟨_, rfl⟩
              rw [← eM_39] at hP
              have he := bnd_at he eM_39
              have hTM_39 : TI M M_39 := by rw [eM_39]; exact TI_a hTM_35 (by decide)
              have qb_M_39 := hTM_39.1.1
              have qs_M_39 := hTM_39.1.2.1
              have qz_M_39 := hTM_39.1.2.2.1
              refine lv_aload_n hx hb dX7_keep_91 rfl (lv_at hl 0 rfl) ?_
              refine gX7_45 hx hb hG hown hK hP gw_5_14 dX7_keep_92 ?_
              refine lv_iload_n hx hb dX7_keep_95 rfl (lv_at hl 1 rfl) ?_
              refine lv_iload_n hx hb dX7_keep_96 rfl (lv_at hl 2 rfl) ?_
              refine lv_iconst (v := 1) hx hb dX7_keep_97 (by decide) ?_
              obtain ⟨t_42, hr_41, he⟩ := bnd_ex he
              have j106 : ∀ (H : Heap) (locs : List Loc) (ls : Array Slot), va_P D vwCl (wld 31 ad (cM ad k M_39)) H → va_S (AW 31 ad) s.heap H locs → lv_has ls 4 [] → W p l e rm_X7_keep s m args below meth c H locs 0 0 Q (F0 m 106 ls [.int t_42, .int a1, .ref (ad 26)]) := by
                intro H locs ls hP hS hl
                refine as_M26 hx hb hK hP had AW_in hS (vin_I (by have q0 : (f_X7_in a1.toInt64 0 7).toInt ≠ 0 := ne_I hc_6; have r1 : 0 ≤ a1.toInt ∧ a1.toInt ≤ 7 := in_I hc_6; have q2 : (f_X7_in a2.toInt64 0 1).toInt ≠ 0 := ne_I hc_11; have r3 : 0 ≤ a2.toInt ∧ a2.toInt ≤ 1 := in_I hc_11; have q4 : a2.toInt = 1 := congrArg Int32.toInt hc_12; have q5 : (f_X7_isBoat M_1 a3).toInt ≠ 0 := ne_I hc_30; have r6 : 0 ≤ a3.toInt ∧ a3.toInt < (M_1 0 8).toInt := isBoat_in (by omega) hc_30; omega) (by have q0 : (f_X7_in a1.toInt64 0 7).toInt ≠ 0 := ne_I hc_6; have r1 : 0 ≤ a1.toInt ∧ a1.toInt ≤ 7 := in_I hc_6; have q2 : (f_X7_in a2.toInt64 0 1).toInt ≠ 0 := ne_I hc_11; have r3 : 0 ≤ a2.toInt ∧ a2.toInt ≤ 1 := in_I hc_11; have q4 : a2.toInt = 1 := congrArg Int32.toInt hc_12; have q5 : (f_X7_isBoat M_1 a3).toInt ≠ 0 := ne_I hc_30; have r6 : 0 ≤ a3.toInt ∧ a3.toInt < (M_1 0 8).toInt := isBoat_in (by omega) hc_30; omega)) dX7_keep_106 (fun H locs hP hS => ?_)
                obtain ⟨M_43, eM_43⟩ : ∃ y : Mem, y = up2 M_39 26 a1.toNatClampNeg t_42 := ⟨_, rfl⟩
                rw [← eM_43] at hP
                have he := bnd_at he eM_43
                have hTM_43 : TI M M_43 := by rw [eM_43]; exact TI_a hTM_39 (by decide)
                have qb_M_43 := hTM_43.1.1
                have qs_M_43 := hTM_43.1.2.1
                have qz_M_43 := hTM_43.1.2.2.1
                refine lv_iconst (v := 0) hx hb dX7_keep_107 (by decide) ?_
                exact hret _ _ _ _ _ _ ⟨(hV.trans he.symm), hTM_43⟩ hP hS dX7_keep_108
              refine lv_icmp_ne (tgt := 105) hx hb dX7_keep_98 (by decide) (fun hc_40 => ?_) (fun hc_40 => ?_)
              · have hr_41 := ite_t hr_41 hc_40
                refine lv_iconst (v := 0) hx hb dX7_keep_105 (by decide) ?_
                cases hr_41
                exact j106 _ _ _ hP hS (lv_sub hl [] rfl)
              · have hr_41 := ite_f hr_41 (fun q => q hc_40)
                refine lv_iload_n hx hb dX7_keep_101 rfl (lv_at hl 3 rfl) ?_
                refine lv_goto (tgt := 106) hx hb dX7_keep_102 (by decide) ?_
                cases hr_41
                exact j106 _ _ _ hP hS (lv_sub hl [] rfl)
            refine lv_icmp_ne (tgt := 89) hx hb dX7_keep_77 (by decide) (fun hc_36 => ?_) (fun hc_36 => ?_)
            · have hr_37 := ite_t hr_37 hc_36
              refine lv_iconst (v := 0) hx hb dX7_keep_89 (by decide) ?_
              cases hr_37
              exact j90 _ _ _ hP hS (lv_sub hl [0, 1, 2, 3] rfl)
            · have hr_37 := ite_f hr_37 (fun q => q hc_36)
              refine lv_aload_n hx hb dX7_keep_80 rfl (lv_at hl 0 rfl) ?_
              refine gX7_12 hx hb hG hown hK hP gw_4_17 dX7_keep_81 ?_
              refine lv_iload_n hx hb dX7_keep_84 rfl (lv_at hl 3 rfl) ?_
              refine al_M5 hx hb hK hP (vin_I (by have q0 : (f_X7_in a1.toInt64 0 7).toInt ≠ 0 := ne_I hc_6; have r1 : 0 ≤ a1.toInt ∧ a1.toInt ≤ 7 := in_I hc_6; have q2 : (f_X7_in a2.toInt64 0 1).toInt ≠ 0 := ne_I hc_11; have r3 : 0 ≤ a2.toInt ∧ a2.toInt ≤ 1 := in_I hc_11; have q4 : a2.toInt = 1 := congrArg Int32.toInt hc_12; have q5 : (f_X7_isBoat M_1 a3).toInt ≠ 0 := ne_I hc_30; have r6 : 0 ≤ a3.toInt ∧ a3.toInt < (M_1 0 8).toInt := isBoat_in (by omega) hc_30; have q7 : a2.toInt = 1 := congrArg Int32.toInt hc_36; omega) (by have q0 : (f_X7_in a1.toInt64 0 7).toInt ≠ 0 := ne_I hc_6; have r1 : 0 ≤ a1.toInt ∧ a1.toInt ≤ 7 := in_I hc_6; have q2 : (f_X7_in a2.toInt64 0 1).toInt ≠ 0 := ne_I hc_11; have r3 : 0 ≤ a2.toInt ∧ a2.toInt ≤ 1 := in_I hc_11; have q4 : a2.toInt = 1 := congrArg Int32.toInt hc_12; have q5 : (f_X7_isBoat M_1 a3).toInt ≠ 0 := ne_I hc_30; have r6 : 0 ≤ a3.toInt ∧ a3.toInt < (M_1 0 8).toInt := isBoat_in (by omega) hc_30; have q7 : a2.toInt = 1 := congrArg Int32.toInt hc_36; omega)) dX7_keep_85 ?_
              refine lv_goto (tgt := 90) hx hb dX7_keep_86 (by decide) ?_
              cases hr_37
              exact j90 _ _ _ hP hS (lv_sub hl [0, 1, 2, 3] rfl)
          refine lv_icmp_ne (tgt := 68) hx hb dX7_keep_56 (by decide) (fun hc_32 => ?_) (fun hc_32 => ?_)
          · have hr_33 := ite_t hr_33 hc_32
            refine lv_iconst (v := 0) hx hb dX7_keep_68 (by decide) ?_
            cases hr_33
            exact j69 _ _ _ hP hS (lv_sub hl [0, 1, 2, 3] rfl)
          · have hr_33 := ite_f hr_33 (fun q => q hc_32)
            refine lv_aload_n hx hb dX7_keep_59 rfl (lv_at hl 0 rfl) ?_
            refine gX7_9 hx hb hG hown hK hP gw_4_14 dX7_keep_60 ?_
            refine lv_iload_n hx hb dX7_keep_63 rfl (lv_at hl 3 rfl) ?_
            refine al_M2 hx hb hK hP (vin_I (by have q0 : (f_X7_in a1.toInt64 0 7).toInt ≠ 0 := ne_I hc_6; have r1 : 0 ≤ a1.toInt ∧ a1.toInt ≤ 7 := in_I hc_6; have q2 : (f_X7_in a2.toInt64 0 1).toInt ≠ 0 := ne_I hc_11; have r3 : 0 ≤ a2.toInt ∧ a2.toInt ≤ 1 := in_I hc_11; have q4 : a2.toInt = 1 := congrArg Int32.toInt hc_12; have q5 : (f_X7_isBoat M_1 a3).toInt ≠ 0 := ne_I hc_30; have r6 : 0 ≤ a3.toInt ∧ a3.toInt < (M_1 0 8).toInt := isBoat_in (by omega) hc_30; have q7 : a2.toInt = 1 := congrArg Int32.toInt hc_32; omega) (by have q0 : (f_X7_in a1.toInt64 0 7).toInt ≠ 0 := ne_I hc_6; have r1 : 0 ≤ a1.toInt ∧ a1.toInt ≤ 7 := in_I hc_6; have q2 : (f_X7_in a2.toInt64 0 1).toInt ≠ 0 := ne_I hc_11; have r3 : 0 ≤ a2.toInt ∧ a2.toInt ≤ 1 := in_I hc_11; have q4 : a2.toInt = 1 := congrArg Int32.toInt hc_12; have q5 : (f_X7_isBoat M_1 a3).toInt ≠ 0 := ne_I hc_30; have r6 : 0 ≤ a3.toInt ∧ a3.toInt < (M_1 0 8).toInt := isBoat_in (by omega) hc_30; have q7 : a2.toInt = 1 := congrArg Int32.toInt hc_32; omega)) dX7_keep_64 ?_
            refine lv_goto (tgt := 69) hx hb dX7_keep_65 (by decide) ?_
            cases hr_33
            exact j69 _ _ _ hP hS (lv_sub hl [0, 1, 2, 3] rfl)
        · have he := ite_f he (fun q => q hc_30)
          refine lv_iconst (v := (-1)) hx hb dX7_keep_40 (by decide) ?_
          exact hret _ _ _ _ _ _ ⟨(hV.trans he.symm), hTM_1⟩ hP hS dX7_keep_41
def rm_X7_narrowed : Room := { frames := 0, cells := 0, slots := 0, locals := 0 }
theorem gm_X7_narrowed : Cond.static yX7_narrowed ∈ wsL_law ∧ Cond.initialized yX7_narrowed.cls ∈ wsL_law ∧ Cond.code yX7_narrowed cX7_narrowed 2 (some .long) ∈ wsL_law := ⟨gw_42_14, gw_1_5, gw_42_15⟩
theorem gd_X7_narrowed : yX7_narrowed.cls ≠ "java/lang/invoke/MethodHandle" ∧ yX7_narrowed.cls ≠ "java/lang/invoke/VarHandle" ∧ (parseMethodDescriptor yX7_narrowed.desc).map (fun d => d.parameters.length) = some 2 := by decide +kernel
set_option maxRecDepth 100000 in
set_option maxHeartbeats 0 in
theorem c_X7_narrowed {l : Launch} {D : va_G} {k : Nat → ClassId} {ad : Nat → Nat} (had : InjN 31 ad) {M : Mem} (a1 : Int32) (a2 : Int32) : Met l yX7_narrowed (Cond.code yX7_narrowed cX7_narrowed 2 (some .long) :: wsL_law) rm_X7_narrowed (va_Pc [.int a1, .int a2] (GW 31 ad D k (cM ad k M))) (va_Ql (fun r u => f_X7_narrowed a1 a2 = r ∧ u = M) (fun u t => GW 31 ad D k (cM ad k u) t) (AW 31 ad)) 0 0 (AW 31 ad) := by
  refine met_l (g := cM ad k) (M := M) (plainFor_of_name (by decide)) (Nat.le_of_ble_eq_true rfl) ?_
  intro p e s m args below meth c Q ls hx hb hml hG hown hK hret hP hS hl
  have hl : lv_has ls 2 [(0, .int a1), (1, .int a2)] := hl
  obtain ⟨V, hV⟩ : ∃ V, f_X7_narrowed a1 a2 = V := ⟨_, rfl⟩
  have he := hV
  unfold f_X7_narrowed at he
  refine lv_iload_n hx hb dX7_narrowed_0 rfl (lv_at hl 1 rfl) ?_
  obtain ⟨t_4, hr_2, he⟩ := bnd_ex he
  have j23 : ∀ (H : Heap) (locs : List Loc) (ls : Array Slot), va_P D vwCl (wld 31 ad (cM ad k M)) H → va_S (AW 31 ad) s.heap H locs → lv_has ls 2 [] → W p l e rm_X7_narrowed s m args below meth c H locs 0 0 Q (F0 m 23 ls [.long t_4]) := by
    intro H locs ls hP hS hl
    exact hret _ _ _ _ _ _ ⟨hV.trans he.symm, rfl⟩ hP hS dX7_narrowed_23
  refine lv_if_ne (tgt := 10) hx hb dX7_narrowed_1 (by decide) (fun hc_1 => ?_) (fun hc_1 => ?_)
  · have hr_2 := ite_t hr_2 hc_1
    refine lv_iload_n hx hb dX7_narrowed_10 rfl (lv_at hl 1 rfl) ?_
    refine lv_iconst (v := 1) hx hb dX7_narrowed_11 (by decide) ?_
    refine lv_icmp_ne (tgt := 21) hx hb dX7_narrowed_12 (by decide) (fun hc_3 => ?_) (fun hc_3 => ?_)
    · have hr_2 := ite_t hr_2 hc_3
      refine lv_iload_n hx hb dX7_narrowed_21 rfl (lv_at hl 0 rfl) ?_
      refine lv_i2l (v := a1.toInt64) hx hb dX7_narrowed_22 rfl ?_
      cases hr_2
      exact j23 _ _ _ hP hS (lv_sub hl [] rfl)
    · have hr_2 := ite_f hr_2 (fun q => q hc_3)
      refine lv_iload_n hx hb dX7_narrowed_15 rfl (lv_at hl 0 rfl) ?_
      refine lv_i2s (v := a1.toInt16.toInt32) hx hb dX7_narrowed_16 rfl ?_
      refine lv_i2l (v := a1.toInt16.toInt32.toInt64) hx hb dX7_narrowed_17 rfl ?_
      refine lv_goto (tgt := 23) hx hb dX7_narrowed_18 (by decide) ?_
      cases hr_2
      exact j23 _ _ _ hP hS (lv_sub hl [] rfl)
  · have hr_2 := ite_f hr_2 (fun q => q hc_1)
    refine lv_iload_n hx hb dX7_narrowed_4 rfl (lv_at hl 0 rfl) ?_
    refine lv_i2b (v := a1.toInt8.toInt32) hx hb dX7_narrowed_5 rfl ?_
    refine lv_i2l (v := a1.toInt8.toInt32.toInt64) hx hb dX7_narrowed_6 rfl ?_
    refine lv_goto (tgt := 23) hx hb dX7_narrowed_7 (by decide) ?_
    cases hr_2
    exact j23 _ _ _ hP hS (lv_sub hl [] rfl)
def rm_X7_row : Room := { frames := 1, cells := 0, slots := 0, locals := 25 }
theorem gm_X7_row : Cond.instanceMethod yX7_row ∈ wsL_law ∧ Cond.selects RX7 yX7_row yX7_row ∈ wsL_law ∧ Cond.initialized RX7 ∈ wsL_law ∧ Cond.code yX7_row cX7_row 5 (some .int) ∈ wsL_law := ⟨gw_41_20, gw_41_21, gw_1_5, gw_41_22⟩
theorem gd_X7_row : yX7_row.cls = RX7 ∧ yX7_row.cls ≠ "java/lang/invoke/MethodHandle" ∧ yX7_row.cls ≠ "java/lang/invoke/VarHandle" ∧ (parseMethodDescriptor yX7_row.desc).map (fun d => d.parameters.length) = some 3 := by decide +kernel
set_option maxRecDepth 100000 in
set_option maxHeartbeats 0 in
theorem c_X7_row {l : Launch} {D : va_G} {k : Nat → ClassId} {ad : Nat → Nat} (had : InjN 31 ad) (M : Mem) (a1 : Int32) (a2 : Int32) (a3 : Int32) (hI : MI M) : Met l yX7_row (Cond.code yX7_row cX7_row 5 (some .int) :: wsL_law) rm_X7_row (va_Pc [.ref (ad 0), .int a1, .int a2, .int a3] (GW 31 ad D k (cM ad k M))) (va_Qi (fun r u => (f_X7_row M a1 a2 a3 = (r, u) ∧ TI M u)) (fun u t => GW 31 ad D k (cM ad k u) t) (AW 31 ad)) 0 0 (AW 31 ad) := by
  refine met_i (g := cM ad k) (M := M) (plainFor_of_name (by decide)) (Nat.le_of_ble_eq_true rfl) ?_
  intro p e s m args below meth c Q ls hx hb hml hG hown hK hret hP hS hl
  have hl : lv_has ls 5 [(0, .ref (ad 0)), (1, .int a1), (2, .int a2), (3, .int a3)] := hl
  obtain ⟨V, hV⟩ : ∃ V, f_X7_row M a1 a2 a3 = V := ⟨_, rfl⟩
  have he := hV
  unfold f_X7_row at he
  have hT0 : TI M M := TI_rf hI
  have qb_M := hI.1
  have qs_M := hI.2.1
  have qz_M := hI.2.2.1
  refine lv_aload_n hx hb dX7_row_0 rfl (lv_at hl 0 rfl) ?_
  refine lv_iconst (v := 0) hx hb dX7_row_1 (by decide) ?_
  refine pX7_19 hx hb hG hown hK hP had AW_in hS gw_5_19 dX7_row_2 (fun H locs hP hS => ?_)
  obtain ⟨M_1, eM_1⟩ : ∃ y : Mem, y = up2 M 0 19 0 := ⟨_, rfl⟩
  rw [← eM_1] at hP
  have he := bnd_at he eM_1
  have hTM_1 : TI M M_1 := by rw [eM_1]; exact TI_f hT0 (by decide)
  have qb_M_1 := hTM_1.1.1
  have qs_M_1 := hTM_1.1.2.1
  have qz_M_1 := hTM_1.1.2.2.1
  refine lv_iload_n hx hb dX7_row_5 rfl (lv_at hl 1 rfl) ?_
  refine lv_i2l (v := a1.toInt64) hx hb dX7_row_6 rfl ?_
  refine lv_lconst (v := 0) hx hb dX7_row_7 (by decide) ?_
  refine lv_ldc2 (v := 7) hx hb hown (hG _ gw_9_11) dX7_row_8 ?_
  refine callS_i [.long a1.toInt64, .long 0, .long 7] [] hx hb hml hG hown hK (c_X7_in had (M := M_1)  a1.toInt64 0 7) gw_7_2 gm_X7_in gd_X7_in rfl rfl ⟨Nat.le_of_ble_eq_true rfl, Nat.le_of_ble_eq_true rfl⟩ ⟨Nat.le_refl _, Nat.le_refl _⟩ hP (fun _ h => h) hS rfl hl.1 rfl (Nat.le_of_ble_eq_true rfl) dX7_row_11 (fun r_2 u_4 H locs hF_3 hP hS => ?_)
  obtain ⟨hz_5, hF_3, hu⟩ := hF_3; rw [hu] at hP; subst hF_3
  refine lv_if_eq (tgt := 35) hx hb dX7_row_14 (by decide) (fun hc_6 => ?_) (fun hc_6 => ?_)
  · have he := ite_t he hc_6
    refine lv_iconst (v := (-1)) hx hb dX7_row_35 (by decide) ?_
    exact hret _ _ _ _ _ _ ⟨(hV.trans he.symm), hTM_1⟩ hP hS dX7_row_36
  · have he := ite_f he hc_6
    refine lv_iload_n hx hb dX7_row_17 rfl (lv_at hl 2 rfl) ?_
    refine lv_i2l (v := a2.toInt64) hx hb dX7_row_18 rfl ?_
    refine lv_lconst (v := 0) hx hb dX7_row_19 (by decide) ?_
    refine lv_ldc2 (v := 2) hx hb hown (hG _ gw_41_23) dX7_row_20 ?_
    refine callS_i [.long a2.toInt64, .long 0, .long 2] [] hx hb hml hG hown hK (c_X7_in had (M := M_1)  a2.toInt64 0 2) gw_7_2 gm_X7_in gd_X7_in rfl rfl ⟨Nat.le_of_ble_eq_true rfl, Nat.le_of_ble_eq_true rfl⟩ ⟨Nat.le_refl _, Nat.le_refl _⟩ hP (fun _ h => h) hS rfl hl.1 rfl (Nat.le_of_ble_eq_true rfl) dX7_row_23 (fun r_7 u_9 H locs hF_8 hP hS => ?_)
    obtain ⟨hz_10, hF_8, hu⟩ := hF_8; rw [hu] at hP; subst hF_8
    refine lv_if_eq (tgt := 35) hx hb dX7_row_26 (by decide) (fun hc_11 => ?_) (fun hc_11 => ?_)
    · have he := ite_t he hc_11
      refine lv_iconst (v := (-1)) hx hb dX7_row_35 (by decide) ?_
      exact hret _ _ _ _ _ _ ⟨(hV.trans he.symm), hTM_1⟩ hP hS dX7_row_36
    · have he := ite_f he hc_11
      refine lv_iload_n hx hb dX7_row_29 rfl (lv_at hl 3 rfl) ?_
      refine lv_bipush (v := 100) hx hb dX7_row_30 (by decide) ?_
      refine lv_icmp_le (tgt := 37) hx hb dX7_row_32 (by decide) (fun hc_12 => ?_) (fun hc_12 => ?_)
      · have he := ite_t he hc_12
        refine lv_iload_n hx hb dX7_row_37 rfl (lv_at hl 3 rfl) ?_
        refine lv_if_ge (tgt := 44) hx hb dX7_row_38 (by decide) (fun hc_13 => ?_) (fun hc_13 => ?_)
        · have he := ite_t he hc_13
          refine lv_aload_n hx hb dX7_row_44 rfl (lv_at hl 0 rfl) ?_
          refine gX7_42 hx hb hG hown hK hP gw_5_11 dX7_row_45 ?_
          refine lv_iload_n hx hb dX7_row_48 rfl (lv_at hl 1 rfl) ?_
          refine lv_iconst (v := 2) hx hb dX7_row_49 (by decide) ?_
          refine as_M23 hx hb hK hP had AW_in hS (vin_I (by have q0 : (f_X7_in a1.toInt64 0 7).toInt ≠ 0 := ne_I hc_6; have r1 : 0 ≤ a1.toInt ∧ a1.toInt ≤ 7 := in_I hc_6; omega) (by have q0 : (f_X7_in a1.toInt64 0 7).toInt ≠ 0 := ne_I hc_6; have r1 : 0 ≤ a1.toInt ∧ a1.toInt ≤ 7 := in_I hc_6; omega)) dX7_row_50 (fun H locs hP hS => ?_)
          obtain ⟨M_14, eM_14⟩ : ∃ y : Mem, y = up2 M_1 23 a1.toNatClampNeg 2 := ⟨_, rfl⟩
          rw [← eM_14] at hP
          have he := bnd_at he eM_14
          have hTM_14 : TI M M_14 := by rw [eM_14]; exact TI_a hTM_1 (by decide)
          have qb_M_14 := hTM_14.1.1
          have qs_M_14 := hTM_14.1.2.1
          have qz_M_14 := hTM_14.1.2.2.1
          refine lv_aload_n hx hb dX7_row_51 rfl (lv_at hl 0 rfl) ?_
          refine gX7_46 hx hb hG hown hK hP gw_5_15 dX7_row_52 ?_
          refine lv_iload_n hx hb dX7_row_55 rfl (lv_at hl 1 rfl) ?_
          refine lv_iload_n hx hb dX7_row_56 rfl (lv_at hl 2 rfl) ?_
          refine as_M27 hx hb hK hP had AW_in hS (vin_I (by have q0 : (f_X7_in a1.toInt64 0 7).toInt ≠ 0 := ne_I hc_6; have r1 : 0 ≤ a1.toInt ∧ a1.toInt ≤ 7 := in_I hc_6; omega) (by have q0 : (f_X7_in a1.toInt64 0 7).toInt ≠ 0 := ne_I hc_6; have r1 : 0 ≤ a1.toInt ∧ a1.toInt ≤ 7 := in_I hc_6; omega)) dX7_row_57 (fun H locs hP hS => ?_)
          obtain ⟨M_15, eM_15⟩ : ∃ y : Mem, y = up2 M_14 27 a1.toNatClampNeg a2 := ⟨_, rfl⟩
          rw [← eM_15] at hP
          have he := bnd_at he eM_15
          have hTM_15 : TI M M_15 := by rw [eM_15]; exact TI_a hTM_14 (by decide)
          have qb_M_15 := hTM_15.1.1
          have qs_M_15 := hTM_15.1.2.1
          have qz_M_15 := hTM_15.1.2.2.1
          refine lv_aload_n hx hb dX7_row_58 rfl (lv_at hl 0 rfl) ?_
          refine gX7_47 hx hb hG hown hK hP gw_5_16 dX7_row_59 ?_
          refine lv_iload_n hx hb dX7_row_62 rfl (lv_at hl 1 rfl) ?_
          refine lv_iload_n hx hb dX7_row_63 rfl (lv_at hl 3 rfl) ?_
          refine as_M28 hx hb hK hP had AW_in hS (vin_I (by have q0 : (f_X7_in a1.toInt64 0 7).toInt ≠ 0 := ne_I hc_6; have r1 : 0 ≤ a1.toInt ∧ a1.toInt ≤ 7 := in_I hc_6; omega) (by have q0 : (f_X7_in a1.toInt64 0 7).toInt ≠ 0 := ne_I hc_6; have r1 : 0 ≤ a1.toInt ∧ a1.toInt ≤ 7 := in_I hc_6; omega)) dX7_row_64 (fun H locs hP hS => ?_)
          obtain ⟨M_16, eM_16⟩ : ∃ y : Mem, y = up2 M_15 28 a1.toNatClampNeg a3 := ⟨_, rfl⟩
          rw [← eM_16] at hP
          have he := bnd_at he eM_16
          have hTM_16 : TI M M_16 := by rw [eM_16]; exact TI_rows hTM_15 (by have q0 : a3.toInt ≤ 100 := le_I hc_12; have q1 : 0 ≤ a3.toInt := le_I hc_13; omega)
          have qb_M_16 := hTM_16.1.1
          have qs_M_16 := hTM_16.1.2.1
          have qz_M_16 := hTM_16.1.2.2.1
          refine lv_iconst (v := 0) hx hb dX7_row_65 (by decide) ?_
          refine lv_istore (lv' := [(4, .int 0), (0, .ref (ad 0)), (1, .int a1), (2, .int a2), (3, .int a3)]) hx hb dX7_row_66 hl (by decide) rfl (fun ls hl => ?_)
          obtain ⟨M_29, hr_25, he⟩ := bnd_ex he
          have j94 : ∀ (H : Heap) (locs : List Loc) (ls : Array Slot), TI M M_29 → va_P D vwCl (wld 31 ad (cM ad k M_29)) H → va_S (AW 31 ad) s.heap H locs → lv_has ls 5 [] → W p l e rm_X7_row s m args below meth c H locs 0 0 Q (F0 m 94 ls []) := by
            intro H locs ls hTM_29 hP hS hl
            have qb_M_29 := hTM_29.1.1
            have qs_M_29 := hTM_29.1.2.1
            have qz_M_29 := hTM_29.1.2.2.1
            refine lv_iconst (v := 0) hx hb dX7_row_94 (by decide) ?_
            exact hret _ _ _ _ _ _ ⟨(hV.trans he.symm), hTM_29⟩ hP hS dX7_row_95
          have lp68 : ∀ (nn : Nat) (H : Heap) (locs : List Loc) (ls : Array Slot) (M_24 : Mem) (v_23 : Int32), (0 ≤ v_23.toInt) → (TI M M_24) → (100 - v_23.toInt).toNat < nn → lp_X7_row_68 nn a1 M_24 v_23 = M_29 → va_P D vwCl (wld 31 ad (cM ad k M_24)) H → va_S (AW 31 ad) s.heap H locs → lv_has ls 5 [(0, .ref (ad 0)), (1, .int a1), (4, .int v_23)] → W p l e rm_X7_row s m args below meth c H locs 0 0 Q (F0 m 68 ls []) := by
            intro nn
            induction nn with
            | zero =>
              intro H locs ls M_24 v_23 h0v_23 hTM_24 hμ
              exact absurd hμ (Nat.not_lt_zero _)
            | succ nn ih =>
              intro H locs ls M_24 v_23 h0v_23 hTM_24 hμ hr_25 hP hS hl
              rw [lp_X7_row_68] at hr_25
              have qb_M_24 := hTM_24.1.1
              have qs_M_24 := hTM_24.1.2.1
              have qz_M_24 := hTM_24.1.2.2.1
              refine lv_iload hx hb dX7_row_68 (lv_at hl 2 rfl) ?_
              refine lv_bipush (v := 100) hx hb dX7_row_70 (by decide) ?_
              refine lv_icmp_ge (tgt := 94) hx hb dX7_row_72 (by decide) (fun hc_26 => ?_) (fun hc_26 => ?_)
              · have hr_25 := ite_t hr_25 hc_26
                cases hr_25
                exact j94 _ _ _ hTM_24 hP hS (lv_sub hl [] rfl)
              · have hr_25 := ite_f hr_25 hc_26
                refine lv_aload_n hx hb dX7_row_75 rfl (lv_at hl 0 rfl) ?_
                refine gX7_48 hx hb hG hown hK hP gw_5_17 dX7_row_76 ?_
                refine lv_bipush (v := 100) hx hb dX7_row_79 (by decide) ?_
                refine lv_iload_n hx hb dX7_row_81 rfl (lv_at hl 1 rfl) ?_
                refine lv_imul hx hb dX7_row_82 ?_
                refine lv_iload hx hb dX7_row_83 (lv_at hl 2 rfl) ?_
                refine lv_iadd hx hb dX7_row_85 ?_
                refine lv_lconst (v := 0) hx hb dX7_row_86 (by decide) ?_
                refine as_M29 hx hb hK hP had AW_in hS (by decide) (vin_row (by have q0 : (f_X7_in a1.toInt64 0 7).toInt ≠ 0 := ne_I hc_6; have r1 : 0 ≤ a1.toInt ∧ a1.toInt ≤ 7 := in_I hc_6; omega) (by have q0 : v_23.toInt < 100 := nle_I hc_26; omega)) dX7_row_87 (fun H locs hP hS => ?_)
                obtain ⟨M_27, eM_27⟩ : ∃ y : Mem, y = up2 M_24 29 ((100 * a1) + v_23).toNatClampNeg ((0 : Int64).toInt32) := ⟨_, rfl⟩
                rw [← eM_27] at hP
                have hr_25 := bnd_at hr_25 eM_27
                have hTM_27 : TI M M_27 := by rw [eM_27]; exact TI_a hTM_24 (by decide)
                have qb_M_27 := hTM_27.1.1
                have qs_M_27 := hTM_27.1.2.1
                have qz_M_27 := hTM_27.1.2.2.1
                obtain ⟨y_28, ey_28⟩ : ∃ y_28 : Int32, y_28 = v_23 + 1 := ⟨_, rfl⟩
                have hr_25 := bnd_at hr_25 ey_28
                refine lv_iinc (v := y_28) (lv' := [(4, .int y_28), (0, .ref (ad 0)), (1, .int a1)]) hx hb dX7_row_88 hl (k := 2) rfl (by rw [ey_28]; rfl) (by decide) rfl (fun ls hl => ?_)
                refine lv_goto (tgt := 68) hx hb dX7_row_91 (by decide) ?_
                exact ih _ _ _ _ _ (by rw [ey_28, inc_I (N := 100) (nle_I hc_26) (by decide)]; omega) hTM_27 (by rw [ey_28]; exact mu_I hμ (nle_I hc_26) (by decide)) hr_25 hP hS (lv_sub hl [1, 2, 0] rfl)
          exact lp68 _ _ _ _ _ _ (by decide) hTM_16 (by decide) hr_25 hP hS (lv_sub hl [1, 2, 0] rfl)
        · have he := ite_f he hc_13
          refine lv_bipush (v := (-14)) hx hb dX7_row_41 (by decide) ?_
          exact hret _ _ _ _ _ _ ⟨(hV.trans he.symm), hTM_1⟩ hP hS dX7_row_43
      · have he := ite_f he hc_12
        refine lv_iconst (v := (-1)) hx hb dX7_row_35 (by decide) ?_
        exact hret _ _ _ _ _ _ ⟨(hV.trans he.symm), hTM_1⟩ hP hS dX7_row_36
def rm_X7_put : Room := { frames := 2, cells := 0, slots := 0, locals := 46 }
theorem gm_X7_put : Cond.instanceMethod yX7_put ∈ wsL_law ∧ Cond.selects RX7 yX7_put yX7_put ∈ wsL_law ∧ Cond.initialized RX7 ∈ wsL_law ∧ Cond.code yX7_put cX7_put 5 (some .int) ∈ wsL_law := ⟨gw_42_10, gw_42_11, gw_1_5, gw_42_12⟩
theorem gd_X7_put : yX7_put.cls = RX7 ∧ yX7_put.cls ≠ "java/lang/invoke/MethodHandle" ∧ yX7_put.cls ≠ "java/lang/invoke/VarHandle" ∧ (parseMethodDescriptor yX7_put.desc).map (fun d => d.parameters.length) = some 3 := by decide +kernel
set_option maxRecDepth 100000 in
set_option maxHeartbeats 0 in
theorem c_X7_put {l : Launch} {D : va_G} {k : Nat → ClassId} {ad : Nat → Nat} (had : InjN 31 ad) (M : Mem) (a1 : Int32) (a2 : Int32) (a3 : Int32) (hI : MI M) : Met l yX7_put (Cond.code yX7_put cX7_put 5 (some .int) :: wsL_law) rm_X7_put (va_Pc [.ref (ad 0), .int a1, .int a2, .int a3] (GW 31 ad D k (cM ad k M))) (va_Qi (fun r u => (f_X7_put M a1 a2 a3 = (r, u) ∧ TI M u)) (fun u t => GW 31 ad D k (cM ad k u) t) (AW 31 ad)) 0 0 (AW 31 ad) := by
  refine met_i (g := cM ad k) (M := M) (plainFor_of_name (by decide)) (Nat.le_of_ble_eq_true rfl) ?_
  intro p e s m args below meth c Q ls hx hb hml hG hown hK hret hP hS hl
  have hl : lv_has ls 5 [(0, .ref (ad 0)), (1, .int a1), (2, .int a2), (3, .int a3)] := hl
  obtain ⟨V, hV⟩ : ∃ V, f_X7_put M a1 a2 a3 = V := ⟨_, rfl⟩
  have he := hV
  unfold f_X7_put at he
  have hT0 : TI M M := TI_rf hI
  have qb_M := hI.1
  have qs_M := hI.2.1
  have qz_M := hI.2.2.1
  refine lv_aload_n hx hb dX7_put_0 rfl (lv_at hl 0 rfl) ?_
  refine lv_iconst (v := 0) hx hb dX7_put_1 (by decide) ?_
  refine pX7_19 hx hb hG hown hK hP had AW_in hS gw_5_19 dX7_put_2 (fun H locs hP hS => ?_)
  obtain ⟨M_1, eM_1⟩ : ∃ y : Mem, y = up2 M 0 19 0 := ⟨_, rfl⟩
  rw [← eM_1] at hP
  have he := bnd_at he eM_1
  have hTM_1 : TI M M_1 := by rw [eM_1]; exact TI_f hT0 (by decide)
  have qb_M_1 := hTM_1.1.1
  have qs_M_1 := hTM_1.1.2.1
  have qz_M_1 := hTM_1.1.2.2.1
  refine lv_aload_n hx hb dX7_put_5 rfl (lv_at hl 0 rfl) ?_
  refine lv_iload_n hx hb dX7_put_6 rfl (lv_at hl 1 rfl) ?_
  refine call_i [.int a1] [] hx hb hml hG hown hK (c_X7_wrongRow had M_1 a1 hTM_1.1) gw_9_7 gm_X7_wrongRow gd_X7_wrongRow rfl rfl ⟨Nat.le_of_ble_eq_true rfl, Nat.le_of_ble_eq_true rfl⟩ ⟨Nat.le_refl _, Nat.le_refl _⟩ (rX7 hK hP) hP (fun _ h => h) hS rfl hl.1 rfl (Nat.le_of_ble_eq_true rfl) dX7_put_7 (fun r_2 u_4 H locs hF_3 hP hS => ?_)
  obtain ⟨hF_3, hu⟩ := hF_3; rw [hu] at hP; subst hF_3
  refine lv_topi (fun y_5 ey_5 => ?_)
  have he := bnd_at he ey_5
  refine lv_istore (lv' := [(4, .int y_5), (0, .ref (ad 0)), (1, .int a1), (2, .int a2), (3, .int a3)]) hx hb dX7_put_10 hl (by decide) rfl (fun ls hl => ?_)
  refine lv_iload hx hb dX7_put_12 (lv_at hl 0 rfl) ?_
  refine lv_if_ge (tgt := 20) hx hb dX7_put_14 (by decide) (fun hc_6 => ?_) (fun hc_6 => ?_)
  · have he := ite_t he hc_6
    refine lv_iload_n hx hb dX7_put_20 rfl (lv_at hl 3 rfl) ?_
    refine lv_i2l (v := a2.toInt64) hx hb dX7_put_21 rfl ?_
    refine lv_lconst (v := 0) hx hb dX7_put_22 (by decide) ?_
    refine lv_aload_n hx hb dX7_put_23 rfl (lv_at hl 1 rfl) ?_
    refine gX7_47 hx hb hG hown hK hP gw_5_16 dX7_put_24 ?_
    refine lv_iload_n hx hb dX7_put_27 rfl (lv_at hl 2 rfl) ?_
    refine al_M28 hx hb hK hP (vin_I (by have qy_5 := congrArg Int32.toInt ey_5; have q1 : 0 ≤ y_5.toInt := le_I hc_6; have r2 : 0 ≤ a1.toInt ∧ a1.toInt < 8 := wrongRow_in (nlt_of_le (by rw [ey_5] at hc_6; exact hc_6)); omega) (by have qy_5 := congrArg Int32.toInt ey_5; have q1 : 0 ≤ y_5.toInt := le_I hc_6; have r2 : 0 ≤ a1.toInt ∧ a1.toInt < 8 := wrongRow_in (nlt_of_le (by rw [ey_5] at hc_6; exact hc_6)); omega)) dX7_put_28 ?_
    have qr_7 := hTM_1.1.2.2.2.1 _ (vin_lt (x := a1) (n := 8) (vin_I (by have qy_5 := congrArg Int32.toInt ey_5; have q1 : 0 ≤ y_5.toInt := le_I hc_6; have r2 : 0 ≤ a1.toInt ∧ a1.toInt < 8 := wrongRow_in (nlt_of_le (by rw [ey_5] at hc_6; exact hc_6)); omega) (by have qy_5 := congrArg Int32.toInt ey_5; have q1 : 0 ≤ y_5.toInt := le_I hc_6; have r2 : 0 ≤ a1.toInt ∧ a1.toInt < 8 := wrongRow_in (nlt_of_le (by rw [ey_5] at hc_6; exact hc_6)); omega)))
    refine lv_iconst (v := 1) hx hb dX7_put_29 (by decide) ?_
    refine lv_isub hx hb dX7_put_30 ?_
    refine lv_i2l (v := ((M_1 28 a1.toNatClampNeg) - 1).toInt64) hx hb dX7_put_31 rfl ?_
    refine callS_i [.long a2.toInt64, .long 0, .long (((M_1 28 a1.toNatClampNeg) - 1).toInt64)] [] hx hb hml hG hown hK (c_X7_in had (M := M_1)  a2.toInt64 0 (((M_1 28 a1.toNatClampNeg) - 1).toInt64)) gw_7_2 gm_X7_in gd_X7_in rfl rfl ⟨Nat.le_of_ble_eq_true rfl, Nat.le_of_ble_eq_true rfl⟩ ⟨Nat.le_refl _, Nat.le_refl _⟩ hP (fun _ h => h) hS rfl hl.1 rfl (Nat.le_of_ble_eq_true rfl) dX7_put_32 (fun r_8 u_10 H locs hF_9 hP hS => ?_)
    obtain ⟨hz_11, hF_9, hu⟩ := hF_9; rw [hu] at hP; subst hF_9
    refine lv_if_ne (tgt := 41) hx hb dX7_put_35 (by decide) (fun hc_12 => ?_) (fun hc_12 => ?_)
    · have he := ite_t he hc_12
      refine lv_aload_n hx hb dX7_put_41 rfl (lv_at hl 1 rfl) ?_
      refine gX7_48 hx hb hG hown hK hP gw_5_17 dX7_put_42 ?_
      refine lv_bipush (v := 100) hx hb dX7_put_45 (by decide) ?_
      refine lv_iload_n hx hb dX7_put_47 rfl (lv_at hl 2 rfl) ?_
      refine lv_imul hx hb dX7_put_48 ?_
      refine lv_iload_n hx hb dX7_put_49 rfl (lv_at hl 3 rfl) ?_
      refine lv_iadd hx hb dX7_put_50 ?_
      refine lv_iload_n hx hb dX7_put_51 rfl (lv_at hl 4 rfl) ?_
      refine lv_aload_n hx hb dX7_put_52 rfl (lv_at hl 1 rfl) ?_
      refine gX7_46 hx hb hG hown hK hP gw_5_15 dX7_put_53 ?_
      refine lv_iload_n hx hb dX7_put_56 rfl (lv_at hl 2 rfl) ?_
      refine al_M27 hx hb hK hP (vin_I (by have qy_5 := congrArg Int32.toInt ey_5; have q1 : 0 ≤ y_5.toInt := le_I hc_6; have r2 : 0 ≤ a1.toInt ∧ a1.toInt < 8 := wrongRow_in (nlt_of_le (by rw [ey_5] at hc_6; exact hc_6)); have q3 : (f_X7_in a2.toInt64 0 (((M_1 28 a1.toNatClampNeg) - 1).toInt64)).toInt ≠ 0 := ne_I hc_12; have r4 : 0 ≤ a2.toInt ∧ a2.toInt < (M_1 28 a1.toNatClampNeg).toInt := in_I1 (by omega) hc_12; omega) (by have qy_5 := congrArg Int32.toInt ey_5; have q1 : 0 ≤ y_5.toInt := le_I hc_6; have r2 : 0 ≤ a1.toInt ∧ a1.toInt < 8 := wrongRow_in (nlt_of_le (by rw [ey_5] at hc_6; exact hc_6)); have q3 : (f_X7_in a2.toInt64 0 (((M_1 28 a1.toNatClampNeg) - 1).toInt64)).toInt ≠ 0 := ne_I hc_12; have r4 : 0 ≤ a2.toInt ∧ a2.toInt < (M_1 28 a1.toNatClampNeg).toInt := in_I1 (by omega) hc_12; omega)) dX7_put_57 ?_
      refine callS_l [.int a3, .int (M_1 27 a1.toNatClampNeg)] [.int ((100 * a1) + a2), .ref (ad 29)] hx hb hml hG hown hK (c_X7_narrowed had (M := M_1)  a3 (M_1 27 a1.toNatClampNeg)) gw_42_13 gm_X7_narrowed gd_X7_narrowed rfl rfl ⟨Nat.le_of_ble_eq_true rfl, Nat.le_of_ble_eq_true rfl⟩ ⟨Nat.le_refl _, Nat.le_refl _⟩ hP (fun _ h => h) hS rfl hl.1 rfl (Nat.le_of_ble_eq_true rfl) dX7_put_58 (fun r_13 u_15 H locs hF_14 hP hS => ?_)
      obtain ⟨hF_14, hu⟩ := hF_14; rw [hu] at hP; subst hF_14
      refine as_M29 hx hb hK hP had AW_in hS (narrowed_ok _ _) (vin_row (by have qy_5 := congrArg Int32.toInt ey_5; have q1 : 0 ≤ y_5.toInt := le_I hc_6; have r2 : 0 ≤ a1.toInt ∧ a1.toInt < 8 := wrongRow_in (nlt_of_le (by rw [ey_5] at hc_6; exact hc_6)); have q3 : (f_X7_in a2.toInt64 0 (((M_1 28 a1.toNatClampNeg) - 1).toInt64)).toInt ≠ 0 := ne_I hc_12; have r4 : 0 ≤ a2.toInt ∧ a2.toInt < (M_1 28 a1.toNatClampNeg).toInt := in_I1 (by omega) hc_12; omega) (by have qy_5 := congrArg Int32.toInt ey_5; have q1 : (f_X7_in a2.toInt64 0 (((M_1 28 a1.toNatClampNeg) - 1).toInt64)).toInt ≠ 0 := ne_I hc_12; have r2 : 0 ≤ a2.toInt ∧ a2.toInt < (M_1 28 a1.toNatClampNeg).toInt := in_I1 (by omega) hc_12; omega)) dX7_put_61 (fun H locs hP hS => ?_)
      obtain ⟨M_16, eM_16⟩ : ∃ y : Mem, y = up2 M_1 29 ((100 * a1) + a2).toNatClampNeg ((f_X7_narrowed a3 (M_1 27 a1.toNatClampNeg)).toInt32) := ⟨_, rfl⟩
      rw [← eM_16] at hP
      have he := bnd_at he eM_16
      have hTM_16 : TI M M_16 := by rw [eM_16]; exact TI_a hTM_1 (by decide)
      have qb_M_16 := hTM_16.1.1
      have qs_M_16 := hTM_16.1.2.1
      have qz_M_16 := hTM_16.1.2.2.1
      refine lv_iconst (v := 0) hx hb dX7_put_62 (by decide) ?_
      exact hret _ _ _ _ _ _ ⟨(hV.trans he.symm), hTM_16⟩ hP hS dX7_put_63
    · have he := ite_f he (fun q => q hc_12)
      refine lv_bipush (v := (-13)) hx hb dX7_put_38 (by decide) ?_
      exact hret _ _ _ _ _ _ ⟨(hV.trans he.symm), hTM_1⟩ hP hS dX7_put_40
  · have he := ite_f he hc_6
    refine lv_iload hx hb dX7_put_17 (lv_at hl 0 rfl) ?_
    exact hret _ _ _ _ _ _ ⟨(hV.trans he.symm), hTM_1⟩ hP hS dX7_put_19
def rm_X7_element : Room := { frames := 2, cells := 0, slots := 0, locals := 46 }
theorem gm_X7_element : Cond.instanceMethod yX7_element ∈ wsL_law ∧ Cond.selects RX7 yX7_element yX7_element ∈ wsL_law ∧ Cond.initialized RX7 ∈ wsL_law ∧ Cond.code yX7_element cX7_element 4 (some .long) ∈ wsL_law := ⟨gw_43_7, gw_43_8, gw_1_5, gw_43_9⟩
theorem gd_X7_element : yX7_element.cls = RX7 ∧ yX7_element.cls ≠ "java/lang/invoke/MethodHandle" ∧ yX7_element.cls ≠ "java/lang/invoke/VarHandle" ∧ (parseMethodDescriptor yX7_element.desc).map (fun d => d.parameters.length) = some 2 := by decide +kernel
set_option maxRecDepth 100000 in
set_option maxHeartbeats 0 in
theorem c_X7_element {l : Launch} {D : va_G} {k : Nat → ClassId} {ad : Nat → Nat} (had : InjN 31 ad) (M : Mem) (a1 : Int32) (a2 : Int32) (hI : MI M) : Met l yX7_element (Cond.code yX7_element cX7_element 4 (some .long) :: wsL_law) rm_X7_element (va_Pc [.ref (ad 0), .int a1, .int a2] (GW 31 ad D k (cM ad k M))) (va_Ql (fun r u => (f_X7_element M a1 a2 = (r, u) ∧ TI M u)) (fun u t => GW 31 ad D k (cM ad k u) t) (AW 31 ad)) 0 0 (AW 31 ad) := by
  refine met_l (g := cM ad k) (M := M) (plainFor_of_name (by decide)) (Nat.le_of_ble_eq_true rfl) ?_
  intro p e s m args below meth c Q ls hx hb hml hG hown hK hret hP hS hl
  have hl : lv_has ls 4 [(0, .ref (ad 0)), (1, .int a1), (2, .int a2)] := hl
  obtain ⟨V, hV⟩ : ∃ V, f_X7_element M a1 a2 = V := ⟨_, rfl⟩
  have he := hV
  unfold f_X7_element at he
  have hT0 : TI M M := TI_rf hI
  have qb_M := hI.1
  have qs_M := hI.2.1
  have qz_M := hI.2.2.1
  refine lv_aload_n hx hb dX7_element_0 rfl (lv_at hl 0 rfl) ?_
  refine lv_iload_n hx hb dX7_element_1 rfl (lv_at hl 1 rfl) ?_
  refine call_i [.int a1] [] hx hb hml hG hown hK (c_X7_wrongRow had M a1 hT0.1) gw_9_7 gm_X7_wrongRow gd_X7_wrongRow rfl rfl ⟨Nat.le_of_ble_eq_true rfl, Nat.le_of_ble_eq_true rfl⟩ ⟨Nat.le_refl _, Nat.le_refl _⟩ (rX7 hK hP) hP (fun _ h => h) hS rfl hl.1 rfl (Nat.le_of_ble_eq_true rfl) dX7_element_2 (fun r_1 u_3 H locs hF_2 hP hS => ?_)
  obtain ⟨hF_2, hu⟩ := hF_2; rw [hu] at hP; subst hF_2
  refine lv_topi (fun y_4 ey_4 => ?_)
  have he := bnd_at he ey_4
  refine lv_istore_n (lv' := [(3, .int y_4), (0, .ref (ad 0)), (1, .int a1), (2, .int a2)]) hx hb dX7_element_5 rfl hl (by decide) rfl (fun ls hl => ?_)
  refine lv_aload_n hx hb dX7_element_6 rfl (lv_at hl 1 rfl) ?_
  refine lv_iload_n hx hb dX7_element_7 rfl (lv_at hl 0 rfl) ?_
  refine lv_iconst (v := (-1)) hx hb dX7_element_8 (by decide) ?_
  obtain ⟨t_14, hr_6, he⟩ := bnd_ex he
  have j43 : ∀ (H : Heap) (locs : List Loc) (ls : Array Slot), va_P D vwCl (wld 31 ad (cM ad k M)) H → va_S (AW 31 ad) s.heap H locs → lv_has ls 4 [(0, .ref (ad 0)), (1, .int a1), (2, .int a2)] → W p l e rm_X7_element s m args below meth c H locs 0 0 Q (F0 m 43 ls [.int t_14, .ref (ad 0)]) := by
    intro H locs ls hP hS hl
    refine pX7_19 hx hb hG hown hK hP had AW_in hS gw_5_19 dX7_element_43 (fun H locs hP hS => ?_)
    obtain ⟨M_15, eM_15⟩ : ∃ y : Mem, y = up2 M 0 19 t_14 := ⟨_, rfl⟩
    rw [← eM_15] at hP
    have he := bnd_at he eM_15
    have hTM_15 : TI M M_15 := by rw [eM_15]; exact TI_f hT0 (by decide)
    have qb_M_15 := hTM_15.1.1
    have qs_M_15 := hTM_15.1.2.1
    have qz_M_15 := hTM_15.1.2.2.1
    refine lv_aload_n hx hb dX7_element_46 rfl (lv_at hl 0 rfl) ?_
    refine gX7_19 hx hb hG hown hK hP gw_5_19 dX7_element_47 ?_
    obtain ⟨t_18, hr_17, he⟩ := bnd_ex he
    have j68 : ∀ (H : Heap) (locs : List Loc) (ls : Array Slot), va_P D vwCl (wld 31 ad (cM ad k M_15)) H → va_S (AW 31 ad) s.heap H locs → lv_has ls 4 [] → W p l e rm_X7_element s m args below meth c H locs 0 0 Q (F0 m 68 ls [.long t_18]) := by
      intro H locs ls hP hS hl
      exact hret _ _ _ _ _ _ ⟨(hV.trans he.symm), hTM_15⟩ hP hS dX7_element_68
    refine lv_if_le (tgt := 57) hx hb dX7_element_50 (by decide) (fun hc_16 => ?_) (fun hc_16 => ?_)
    · have hr_17 := ite_t hr_17 hc_16
      refine lv_aload_n hx hb dX7_element_57 rfl (lv_at hl 0 rfl) ?_
      refine gX7_48 hx hb hG hown hK hP gw_5_17 dX7_element_58 ?_
      refine lv_bipush (v := 100) hx hb dX7_element_61 (by decide) ?_
      refine lv_iload_n hx hb dX7_element_63 rfl (lv_at hl 1 rfl) ?_
      refine lv_imul hx hb dX7_element_64 ?_
      refine lv_iload_n hx hb dX7_element_65 rfl (lv_at hl 2 rfl) ?_
      refine lv_iadd hx hb dX7_element_66 ?_
      refine al_M29 hx hb hK hP (elem_in hI ey_4 hr_6 eM_15 hc_16) dX7_element_67 ?_
      cases hr_17
      exact j68 _ _ _ hP hS (lv_sub hl [] rfl)
    · have hr_17 := ite_f hr_17 hc_16
      refine lv_lconst (v := 0) hx hb dX7_element_53 (by decide) ?_
      refine lv_goto (tgt := 68) hx hb dX7_element_54 (by decide) ?_
      cases hr_17
      exact j68 _ _ _ hP hS (lv_sub hl [] rfl)
  refine lv_icmp_ne (tgt := 16) hx hb dX7_element_9 (by decide) (fun hc_5 => ?_) (fun hc_5 => ?_)
  · have hr_6 := ite_t hr_6 hc_5
    refine lv_iload_n hx hb dX7_element_16 rfl (lv_at hl 0 rfl) ?_
    refine lv_if_lt (tgt := 38) hx hb dX7_element_17 (by decide) (fun hc_7 => ?_) (fun hc_7 => ?_)
    · have hr_6 := ite_t hr_6 hc_7
      refine lv_iconst (v := 2) hx hb dX7_element_38 (by decide) ?_
      refine lv_goto (tgt := 43) hx hb dX7_element_39 (by decide) ?_
      cases hr_6
      exact j43 _ _ _ hP hS (lv_sub hl [1, 2, 3] rfl)
    · have hr_6 := ite_f hr_6 hc_7
      refine lv_iload_n hx hb dX7_element_20 rfl (lv_at hl 3 rfl) ?_
      refine lv_i2l (v := a2.toInt64) hx hb dX7_element_21 rfl ?_
      refine lv_lconst (v := 0) hx hb dX7_element_22 (by decide) ?_
      refine lv_aload_n hx hb dX7_element_23 rfl (lv_at hl 1 rfl) ?_
      refine gX7_47 hx hb hG hown hK hP gw_5_16 dX7_element_24 ?_
      refine lv_iload_n hx hb dX7_element_27 rfl (lv_at hl 2 rfl) ?_
      refine al_M28 hx hb hK hP (vin_I (by have qy_4 := congrArg Int32.toInt ey_4; have q1 : y_4.toInt ≠ (-1) := ne_I hc_5; have q2 : 0 ≤ y_4.toInt := nlt_I hc_7; have r3 : 0 ≤ a1.toInt ∧ a1.toInt < 8 := wrongRow_in (by rw [ey_4] at hc_7; exact hc_7); omega) (by have qy_4 := congrArg Int32.toInt ey_4; have q1 : y_4.toInt ≠ (-1) := ne_I hc_5; have q2 : 0 ≤ y_4.toInt := nlt_I hc_7; have r3 : 0 ≤ a1.toInt ∧ a1.toInt < 8 := wrongRow_in (by rw [ey_4] at hc_7; exact hc_7); omega)) dX7_element_28 ?_
      have qr_8 := hT0.1.2.2.2.1 _ (vin_lt (x := a1) (n := 8) (vin_I (by have qy_4 := congrArg Int32.toInt ey_4; have q1 : y_4.toInt ≠ (-1) := ne_I hc_5; have q2 : 0 ≤ y_4.toInt := nlt_I hc_7; have r3 : 0 ≤ a1.toInt ∧ a1.toInt < 8 := wrongRow_in (by rw [ey_4] at hc_7; exact hc_7); omega) (by have qy_4 := congrArg Int32.toInt ey_4; have q1 : y_4.toInt ≠ (-1) := ne_I hc_5; have q2 : 0 ≤ y_4.toInt := nlt_I hc_7; have r3 : 0 ≤ a1.toInt ∧ a1.toInt < 8 := wrongRow_in (by rw [ey_4] at hc_7; exact hc_7); omega)))
      refine lv_iconst (v := 1) hx hb dX7_element_29 (by decide) ?_
      refine lv_isub hx hb dX7_element_30 ?_
      refine lv_i2l (v := ((M 28 a1.toNatClampNeg) - 1).toInt64) hx hb dX7_element_31 rfl ?_
      refine callS_i [.long a2.toInt64, .long 0, .long (((M 28 a1.toNatClampNeg) - 1).toInt64)] [.ref (ad 0)] hx hb hml hG hown hK (c_X7_in had (M := M)  a2.toInt64 0 (((M 28 a1.toNatClampNeg) - 1).toInt64)) gw_7_2 gm_X7_in gd_X7_in rfl rfl ⟨Nat.le_of_ble_eq_true rfl, Nat.le_of_ble_eq_true rfl⟩ ⟨Nat.le_refl _, Nat.le_refl _⟩ hP (fun _ h => h) hS rfl hl.1 rfl (Nat.le_of_ble_eq_true rfl) dX7_element_32 (fun r_9 u_11 H locs hF_10 hP hS => ?_)
      obtain ⟨hz_12, hF_10, hu⟩ := hF_10; rw [hu] at hP; subst hF_10
      refine lv_if_ne (tgt := 42) hx hb dX7_element_35 (by decide) (fun hc_13 => ?_) (fun hc_13 => ?_)
      · have hr_6 := ite_t hr_6 hc_13
        refine lv_iconst (v := 0) hx hb dX7_element_42 (by decide) ?_
        cases hr_6
        exact j43 _ _ _ hP hS (lv_sub hl [1, 2, 3] rfl)
      · have hr_6 := ite_f hr_6 (fun q => q hc_13)
        refine lv_iconst (v := 2) hx hb dX7_element_38 (by decide) ?_
        refine lv_goto (tgt := 43) hx hb dX7_element_39 (by decide) ?_
        cases hr_6
        exact j43 _ _ _ hP hS (lv_sub hl [1, 2, 3] rfl)
  · have hr_6 := ite_f hr_6 (fun q => q hc_5)
    refine lv_iconst (v := 1) hx hb dX7_element_12 (by decide) ?_
    refine lv_goto (tgt := 43) hx hb dX7_element_13 (by decide) ?_
    cases hr_6
    exact j43 _ _ _ hP hS (lv_sub hl [1, 2, 3] rfl)
