-- @needs 12_dec 13_dec 14_dec 15_dec 37_fault 60_cM 74_cM
def rm_X7_copy : Room := { frames := 1, cells := 0, slots := 0, locals := 25 }
theorem gm_X7_copy : Cond.instanceMethod yX7_copy ∈ wsL_law ∧ Cond.selects RX7 yX7_copy yX7_copy ∈ wsL_law ∧ Cond.initialized RX7 ∈ wsL_law ∧ Cond.code yX7_copy cX7_copy 7 (some .int) ∈ wsL_law := ⟨gw_44_1, gw_44_2, gw_1_5, gw_44_3⟩
theorem gd_X7_copy : yX7_copy.cls = RX7 ∧ yX7_copy.cls ≠ "java/lang/invoke/MethodHandle" ∧ yX7_copy.cls ≠ "java/lang/invoke/VarHandle" ∧ (parseMethodDescriptor yX7_copy.desc).map (fun d => d.parameters.length) = some 5 := by decide +kernel
set_option maxRecDepth 100000 in
set_option maxHeartbeats 0 in
theorem c_X7_copy {l : Launch} {D : va_G} {k : Nat → ClassId} {ad : Nat → Nat} (had : InjN 31 ad) (M : Mem) (a1 : Int32) (a2 : Int32) (a3 : Int32) (a4 : Int32) (a5 : Int32) (hI : MI M) : Met l yX7_copy (Cond.code yX7_copy cX7_copy 7 (some .int) :: wsL_law) rm_X7_copy (va_Pc [.ref (ad 0), .int a1, .int a2, .int a3, .int a4, .int a5] (GW 31 ad D k (cM ad k M))) (va_Qi (fun r u => (f_X7_copy M a1 a2 a3 a4 a5 = (r, u) ∧ TI M u)) (fun u t => GW 31 ad D k (cM ad k u) t) (AW 31 ad)) 0 0 (AW 31 ad) := by
  refine met_i (g := cM ad k) (M := M) (plainFor_of_name (by decide)) (Nat.le_of_ble_eq_true rfl) ?_
  intro p e s m args below meth c Q ls hx hb hml hG hown hK hret hP hS hl
  have hl : lv_has ls 7 [(0, .ref (ad 0)), (1, .int a1), (2, .int a2), (3, .int a3), (4, .int a4), (5, .int a5)] := hl
  obtain ⟨V, hV⟩ : ∃ V, f_X7_copy M a1 a2 a3 a4 a5 = V := ⟨_, rfl⟩
  have he := hV
  unfold f_X7_copy at he
  have hT0 : TI M M := TI_rf hI
  have qb_M := hI.1
  have qs_M := hI.2.1
  have qz_M := hI.2.2.1
  refine lv_aload_n hx hb dX7_copy_0 rfl (lv_at hl 0 rfl) ?_
  refine lv_iconst (v := 0) hx hb dX7_copy_1 (by decide) ?_
  refine pX7_19 hx hb hG hown hK hP had AW_in hS gw_5_19 dX7_copy_2 (fun H locs hP hS => ?_)
  obtain ⟨M_1, eM_1⟩ : ∃ y : Mem, y = up2 M 0 19 0 := ⟨_, rfl⟩
  rw [← eM_1] at hP
  have he := bnd_at he eM_1
  have hTM_1 : TI M M_1 := by rw [eM_1]; exact TI_f hT0 (by decide)
  have qb_M_1 := hTM_1.1.1
  have qs_M_1 := hTM_1.1.2.1
  have qz_M_1 := hTM_1.1.2.2.1
  refine lv_iload_n hx hb dX7_copy_5 rfl (lv_at hl 1 rfl) ?_
  refine lv_i2l (v := a1.toInt64) hx hb dX7_copy_6 rfl ?_
  refine lv_lconst (v := 0) hx hb dX7_copy_7 (by decide) ?_
  refine lv_ldc2 (v := 7) hx hb hown (hG _ gw_9_11) dX7_copy_8 ?_
  refine callS_i [.long a1.toInt64, .long 0, .long 7] [] hx hb hml hG hown hK (c_X7_in had (M := M_1)  a1.toInt64 0 7) gw_7_2 gm_X7_in gd_X7_in rfl rfl ⟨Nat.le_of_ble_eq_true rfl, Nat.le_of_ble_eq_true rfl⟩ ⟨Nat.le_refl _, Nat.le_refl _⟩ hP (fun _ h => h) hS rfl hl.1 rfl (Nat.le_of_ble_eq_true rfl) dX7_copy_11 (fun r_2 u_4 H locs hF_3 hP hS => ?_)
  obtain ⟨hz_5, hF_3, hu⟩ := hF_3; rw [hu] at hP; subst hF_3
  refine lv_if_eq (tgt := 29) hx hb dX7_copy_14 (by decide) (fun hc_6 => ?_) (fun hc_6 => ?_)
  · have he := ite_t he hc_6
    refine lv_iconst (v := (-1)) hx hb dX7_copy_29 (by decide) ?_
    exact hret _ _ _ _ _ _ ⟨(hV.trans he.symm), hTM_1⟩ hP hS dX7_copy_30
  · have he := ite_f he hc_6
    refine lv_iload_n hx hb dX7_copy_17 rfl (lv_at hl 3 rfl) ?_
    refine lv_i2l (v := a3.toInt64) hx hb dX7_copy_18 rfl ?_
    refine lv_lconst (v := 0) hx hb dX7_copy_19 (by decide) ?_
    refine lv_ldc2 (v := 7) hx hb hown (hG _ gw_9_11) dX7_copy_20 ?_
    refine callS_i [.long a3.toInt64, .long 0, .long 7] [] hx hb hml hG hown hK (c_X7_in had (M := M_1)  a3.toInt64 0 7) gw_7_2 gm_X7_in gd_X7_in rfl rfl ⟨Nat.le_of_ble_eq_true rfl, Nat.le_of_ble_eq_true rfl⟩ ⟨Nat.le_refl _, Nat.le_refl _⟩ hP (fun _ h => h) hS rfl hl.1 rfl (Nat.le_of_ble_eq_true rfl) dX7_copy_23 (fun r_7 u_9 H locs hF_8 hP hS => ?_)
    obtain ⟨hz_10, hF_8, hu⟩ := hF_8; rw [hu] at hP; subst hF_8
    refine lv_if_ne (tgt := 31) hx hb dX7_copy_26 (by decide) (fun hc_11 => ?_) (fun hc_11 => ?_)
    · have he := ite_t he hc_11
      refine lv_aload_n hx hb dX7_copy_31 rfl (lv_at hl 0 rfl) ?_
      refine gX7_42 hx hb hG hown hK hP gw_5_11 dX7_copy_32 ?_
      refine lv_iload_n hx hb dX7_copy_35 rfl (lv_at hl 1 rfl) ?_
      refine al_M23 hx hb hK hP (vin_I (by have q0 : (f_X7_in a1.toInt64 0 7).toInt ≠ 0 := ne_I hc_6; have r1 : 0 ≤ a1.toInt ∧ a1.toInt ≤ 7 := in_I hc_6; omega) (by have q0 : (f_X7_in a1.toInt64 0 7).toInt ≠ 0 := ne_I hc_6; have r1 : 0 ≤ a1.toInt ∧ a1.toInt ≤ 7 := in_I hc_6; omega)) dX7_copy_36 ?_
      refine lv_if_eq (tgt := 49) hx hb dX7_copy_37 (by decide) (fun hc_12 => ?_) (fun hc_12 => ?_)
      · have he := ite_t he hc_12
        refine lv_bipush (v := (-11)) hx hb dX7_copy_49 (by decide) ?_
        exact hret _ _ _ _ _ _ ⟨(hV.trans he.symm), hTM_1⟩ hP hS dX7_copy_51
      · have he := ite_f he hc_12
        refine lv_aload_n hx hb dX7_copy_40 rfl (lv_at hl 0 rfl) ?_
        refine gX7_42 hx hb hG hown hK hP gw_5_11 dX7_copy_41 ?_
        refine lv_iload_n hx hb dX7_copy_44 rfl (lv_at hl 3 rfl) ?_
        refine al_M23 hx hb hK hP (vin_I (by have q0 : (f_X7_in a3.toInt64 0 7).toInt ≠ 0 := ne_I hc_11; have r1 : 0 ≤ a3.toInt ∧ a3.toInt ≤ 7 := in_I hc_11; omega) (by have q0 : (f_X7_in a3.toInt64 0 7).toInt ≠ 0 := ne_I hc_11; have r1 : 0 ≤ a3.toInt ∧ a3.toInt ≤ 7 := in_I hc_11; omega)) dX7_copy_45 ?_
        refine lv_if_ne (tgt := 52) hx hb dX7_copy_46 (by decide) (fun hc_13 => ?_) (fun hc_13 => ?_)
        · have he := ite_t he hc_13
          refine lv_aload_n hx hb dX7_copy_52 rfl (lv_at hl 0 rfl) ?_
          refine gX7_42 hx hb hG hown hK hP gw_5_11 dX7_copy_53 ?_
          refine lv_iload_n hx hb dX7_copy_56 rfl (lv_at hl 1 rfl) ?_
          refine al_M23 hx hb hK hP (vin_I (by have q0 : (f_X7_in a1.toInt64 0 7).toInt ≠ 0 := ne_I hc_6; have r1 : 0 ≤ a1.toInt ∧ a1.toInt ≤ 7 := in_I hc_6; have q2 : (M_1 23 a1.toNatClampNeg).toInt ≠ 0 := ne_I hc_12; omega) (by have q0 : (f_X7_in a1.toInt64 0 7).toInt ≠ 0 := ne_I hc_6; have r1 : 0 ≤ a1.toInt ∧ a1.toInt ≤ 7 := in_I hc_6; have q2 : (M_1 23 a1.toNatClampNeg).toInt ≠ 0 := ne_I hc_12; omega)) dX7_copy_57 ?_
          refine lv_iconst (v := 2) hx hb dX7_copy_58 (by decide) ?_
          refine lv_icmp_ne (tgt := 87) hx hb dX7_copy_59 (by decide) (fun hc_14 => ?_) (fun hc_14 => ?_)
          · have he := ite_t he hc_14
            refine lv_bipush (v := (-12)) hx hb dX7_copy_87 (by decide) ?_
            exact hret _ _ _ _ _ _ ⟨(hV.trans he.symm), hTM_1⟩ hP hS dX7_copy_89
          · have he := ite_f he (fun q => q hc_14)
            refine lv_aload_n hx hb dX7_copy_62 rfl (lv_at hl 0 rfl) ?_
            refine gX7_42 hx hb hG hown hK hP gw_5_11 dX7_copy_63 ?_
            refine lv_iload_n hx hb dX7_copy_66 rfl (lv_at hl 3 rfl) ?_
            refine al_M23 hx hb hK hP (vin_I (by have q0 : (f_X7_in a3.toInt64 0 7).toInt ≠ 0 := ne_I hc_11; have r1 : 0 ≤ a3.toInt ∧ a3.toInt ≤ 7 := in_I hc_11; have q2 : (M_1 23 a3.toNatClampNeg).toInt ≠ 0 := ne_I hc_13; omega) (by have q0 : (f_X7_in a3.toInt64 0 7).toInt ≠ 0 := ne_I hc_11; have r1 : 0 ≤ a3.toInt ∧ a3.toInt ≤ 7 := in_I hc_11; have q2 : (M_1 23 a3.toNatClampNeg).toInt ≠ 0 := ne_I hc_13; omega)) dX7_copy_67 ?_
            refine lv_iconst (v := 2) hx hb dX7_copy_68 (by decide) ?_
            refine lv_icmp_ne (tgt := 87) hx hb dX7_copy_69 (by decide) (fun hc_15 => ?_) (fun hc_15 => ?_)
            · have he := ite_t he hc_15
              refine lv_bipush (v := (-12)) hx hb dX7_copy_87 (by decide) ?_
              exact hret _ _ _ _ _ _ ⟨(hV.trans he.symm), hTM_1⟩ hP hS dX7_copy_89
            · have he := ite_f he (fun q => q hc_15)
              refine lv_aload_n hx hb dX7_copy_72 rfl (lv_at hl 0 rfl) ?_
              refine gX7_46 hx hb hG hown hK hP gw_5_15 dX7_copy_73 ?_
              refine lv_iload_n hx hb dX7_copy_76 rfl (lv_at hl 1 rfl) ?_
              refine al_M27 hx hb hK hP (vin_I (by have q0 : (f_X7_in a1.toInt64 0 7).toInt ≠ 0 := ne_I hc_6; have r1 : 0 ≤ a1.toInt ∧ a1.toInt ≤ 7 := in_I hc_6; have q2 : (M_1 23 a1.toNatClampNeg).toInt ≠ 0 := ne_I hc_12; have q3 : (M_1 23 a1.toNatClampNeg).toInt = 2 := congrArg Int32.toInt hc_14; omega) (by have q0 : (f_X7_in a1.toInt64 0 7).toInt ≠ 0 := ne_I hc_6; have r1 : 0 ≤ a1.toInt ∧ a1.toInt ≤ 7 := in_I hc_6; have q2 : (M_1 23 a1.toNatClampNeg).toInt ≠ 0 := ne_I hc_12; have q3 : (M_1 23 a1.toNatClampNeg).toInt = 2 := congrArg Int32.toInt hc_14; omega)) dX7_copy_77 ?_
              refine lv_aload_n hx hb dX7_copy_78 rfl (lv_at hl 0 rfl) ?_
              refine gX7_46 hx hb hG hown hK hP gw_5_15 dX7_copy_79 ?_
              refine lv_iload_n hx hb dX7_copy_82 rfl (lv_at hl 3 rfl) ?_
              refine al_M27 hx hb hK hP (vin_I (by have q0 : (f_X7_in a3.toInt64 0 7).toInt ≠ 0 := ne_I hc_11; have r1 : 0 ≤ a3.toInt ∧ a3.toInt ≤ 7 := in_I hc_11; have q2 : (M_1 23 a3.toNatClampNeg).toInt ≠ 0 := ne_I hc_13; have q3 : (M_1 23 a3.toNatClampNeg).toInt = 2 := congrArg Int32.toInt hc_15; omega) (by have q0 : (f_X7_in a3.toInt64 0 7).toInt ≠ 0 := ne_I hc_11; have r1 : 0 ≤ a3.toInt ∧ a3.toInt ≤ 7 := in_I hc_11; have q2 : (M_1 23 a3.toNatClampNeg).toInt ≠ 0 := ne_I hc_13; have q3 : (M_1 23 a3.toNatClampNeg).toInt = 2 := congrArg Int32.toInt hc_15; omega)) dX7_copy_83 ?_
              refine lv_icmp_eq (tgt := 90) hx hb dX7_copy_84 (by decide) (fun hc_16 => ?_) (fun hc_16 => ?_)
              · have he := ite_t he hc_16
                refine lv_iload hx hb dX7_copy_90 (lv_at hl 5 rfl) ?_
                refine lv_if_lt (tgt := 131) hx hb dX7_copy_92 (by decide) (fun hc_17 => ?_) (fun hc_17 => ?_)
                · have he := ite_t he hc_17
                  refine lv_bipush (v := (-13)) hx hb dX7_copy_131 (by decide) ?_
                  exact hret _ _ _ _ _ _ ⟨(hV.trans he.symm), hTM_1⟩ hP hS dX7_copy_133
                · have he := ite_f he hc_17
                  refine lv_iload_n hx hb dX7_copy_95 rfl (lv_at hl 2 rfl) ?_
                  refine lv_if_lt (tgt := 131) hx hb dX7_copy_96 (by decide) (fun hc_18 => ?_) (fun hc_18 => ?_)
                  · have he := ite_t he hc_18
                    refine lv_bipush (v := (-13)) hx hb dX7_copy_131 (by decide) ?_
                    exact hret _ _ _ _ _ _ ⟨(hV.trans he.symm), hTM_1⟩ hP hS dX7_copy_133
                  · have he := ite_f he hc_18
                    refine lv_iload hx hb dX7_copy_99 (lv_at hl 4 rfl) ?_
                    refine lv_if_lt (tgt := 131) hx hb dX7_copy_101 (by decide) (fun hc_19 => ?_) (fun hc_19 => ?_)
                    · have he := ite_t he hc_19
                      refine lv_bipush (v := (-13)) hx hb dX7_copy_131 (by decide) ?_
                      exact hret _ _ _ _ _ _ ⟨(hV.trans he.symm), hTM_1⟩ hP hS dX7_copy_133
                    · have he := ite_f he hc_19
                      refine lv_iload_n hx hb dX7_copy_104 rfl (lv_at hl 2 rfl) ?_
                      refine lv_aload_n hx hb dX7_copy_105 rfl (lv_at hl 0 rfl) ?_
                      refine gX7_47 hx hb hG hown hK hP gw_5_16 dX7_copy_106 ?_
                      refine lv_iload_n hx hb dX7_copy_109 rfl (lv_at hl 1 rfl) ?_
                      refine al_M28 hx hb hK hP (vin_I (by have q0 : (f_X7_in a1.toInt64 0 7).toInt ≠ 0 := ne_I hc_6; have r1 : 0 ≤ a1.toInt ∧ a1.toInt ≤ 7 := in_I hc_6; have q2 : (f_X7_in a3.toInt64 0 7).toInt ≠ 0 := ne_I hc_11; have r3 : 0 ≤ a3.toInt ∧ a3.toInt ≤ 7 := in_I hc_11; have q4 : (M_1 23 a1.toNatClampNeg).toInt ≠ 0 := ne_I hc_12; have q5 : (M_1 23 a3.toNatClampNeg).toInt ≠ 0 := ne_I hc_13; have q6 : (M_1 23 a1.toNatClampNeg).toInt = 2 := congrArg Int32.toInt hc_14; have q7 : (M_1 23 a3.toNatClampNeg).toInt = 2 := congrArg Int32.toInt hc_15; have q8 : (M_1 27 a1.toNatClampNeg).toInt = (M_1 27 a3.toNatClampNeg).toInt := congrArg Int32.toInt hc_16; omega) (by have q0 : (f_X7_in a1.toInt64 0 7).toInt ≠ 0 := ne_I hc_6; have r1 : 0 ≤ a1.toInt ∧ a1.toInt ≤ 7 := in_I hc_6; have q2 : (f_X7_in a3.toInt64 0 7).toInt ≠ 0 := ne_I hc_11; have r3 : 0 ≤ a3.toInt ∧ a3.toInt ≤ 7 := in_I hc_11; have q4 : (M_1 23 a1.toNatClampNeg).toInt ≠ 0 := ne_I hc_12; have q5 : (M_1 23 a3.toNatClampNeg).toInt ≠ 0 := ne_I hc_13; have q6 : (M_1 23 a1.toNatClampNeg).toInt = 2 := congrArg Int32.toInt hc_14; have q7 : (M_1 23 a3.toNatClampNeg).toInt = 2 := congrArg Int32.toInt hc_15; have q8 : (M_1 27 a1.toNatClampNeg).toInt = (M_1 27 a3.toNatClampNeg).toInt := congrArg Int32.toInt hc_16; omega)) dX7_copy_110 ?_
                      have qr_20 := hTM_1.1.2.2.2.1 _ (vin_lt (x := a1) (n := 8) (vin_I (by have q0 : (f_X7_in a1.toInt64 0 7).toInt ≠ 0 := ne_I hc_6; have r1 : 0 ≤ a1.toInt ∧ a1.toInt ≤ 7 := in_I hc_6; have q2 : (f_X7_in a3.toInt64 0 7).toInt ≠ 0 := ne_I hc_11; have r3 : 0 ≤ a3.toInt ∧ a3.toInt ≤ 7 := in_I hc_11; have q4 : (M_1 23 a1.toNatClampNeg).toInt ≠ 0 := ne_I hc_12; have q5 : (M_1 23 a3.toNatClampNeg).toInt ≠ 0 := ne_I hc_13; have q6 : (M_1 23 a1.toNatClampNeg).toInt = 2 := congrArg Int32.toInt hc_14; have q7 : (M_1 23 a3.toNatClampNeg).toInt = 2 := congrArg Int32.toInt hc_15; have q8 : (M_1 27 a1.toNatClampNeg).toInt = (M_1 27 a3.toNatClampNeg).toInt := congrArg Int32.toInt hc_16; omega) (by have q0 : (f_X7_in a1.toInt64 0 7).toInt ≠ 0 := ne_I hc_6; have r1 : 0 ≤ a1.toInt ∧ a1.toInt ≤ 7 := in_I hc_6; have q2 : (f_X7_in a3.toInt64 0 7).toInt ≠ 0 := ne_I hc_11; have r3 : 0 ≤ a3.toInt ∧ a3.toInt ≤ 7 := in_I hc_11; have q4 : (M_1 23 a1.toNatClampNeg).toInt ≠ 0 := ne_I hc_12; have q5 : (M_1 23 a3.toNatClampNeg).toInt ≠ 0 := ne_I hc_13; have q6 : (M_1 23 a1.toNatClampNeg).toInt = 2 := congrArg Int32.toInt hc_14; have q7 : (M_1 23 a3.toNatClampNeg).toInt = 2 := congrArg Int32.toInt hc_15; have q8 : (M_1 27 a1.toNatClampNeg).toInt = (M_1 27 a3.toNatClampNeg).toInt := congrArg Int32.toInt hc_16; omega)))
                      refine lv_iload hx hb dX7_copy_111 (lv_at hl 5 rfl) ?_
                      refine lv_isub hx hb dX7_copy_113 ?_
                      refine lv_icmp_gt (tgt := 131) hx hb dX7_copy_114 (by decide) (fun hc_21 => ?_) (fun hc_21 => ?_)
                      · have he := ite_t he hc_21
                        refine lv_bipush (v := (-13)) hx hb dX7_copy_131 (by decide) ?_
                        exact hret _ _ _ _ _ _ ⟨(hV.trans he.symm), hTM_1⟩ hP hS dX7_copy_133
                      · have he := ite_f he hc_21
                        refine lv_iload hx hb dX7_copy_117 (lv_at hl 4 rfl) ?_
                        refine lv_aload_n hx hb dX7_copy_119 rfl (lv_at hl 0 rfl) ?_
                        refine gX7_47 hx hb hG hown hK hP gw_5_16 dX7_copy_120 ?_
                        refine lv_iload_n hx hb dX7_copy_123 rfl (lv_at hl 3 rfl) ?_
                        refine al_M28 hx hb hK hP (vin_I (by have q0 : (f_X7_in a1.toInt64 0 7).toInt ≠ 0 := ne_I hc_6; have r1 : 0 ≤ a1.toInt ∧ a1.toInt ≤ 7 := in_I hc_6; have q2 : (f_X7_in a3.toInt64 0 7).toInt ≠ 0 := ne_I hc_11; have r3 : 0 ≤ a3.toInt ∧ a3.toInt ≤ 7 := in_I hc_11; have q4 : (M_1 23 a1.toNatClampNeg).toInt ≠ 0 := ne_I hc_12; have q5 : (M_1 23 a3.toNatClampNeg).toInt ≠ 0 := ne_I hc_13; have q6 : (M_1 23 a1.toNatClampNeg).toInt = 2 := congrArg Int32.toInt hc_14; have q7 : (M_1 23 a3.toNatClampNeg).toInt = 2 := congrArg Int32.toInt hc_15; have q8 : (M_1 27 a1.toNatClampNeg).toInt = (M_1 27 a3.toNatClampNeg).toInt := congrArg Int32.toInt hc_16; have q9 : 0 ≤ a5.toInt := nlt_I hc_17; have q10 : 0 ≤ a2.toInt := nlt_I hc_18; have q11 : a2.toInt ≤ ((M_1 28 a1.toNatClampNeg) - a5).toInt := nlt_I hc_21; have rs12 := sub_I (a := M_1 28 a1.toNatClampNeg) (b := a5) (by omega) (by omega); omega) (by have q0 : (f_X7_in a1.toInt64 0 7).toInt ≠ 0 := ne_I hc_6; have r1 : 0 ≤ a1.toInt ∧ a1.toInt ≤ 7 := in_I hc_6; have q2 : (f_X7_in a3.toInt64 0 7).toInt ≠ 0 := ne_I hc_11; have r3 : 0 ≤ a3.toInt ∧ a3.toInt ≤ 7 := in_I hc_11; have q4 : (M_1 23 a1.toNatClampNeg).toInt ≠ 0 := ne_I hc_12; have q5 : (M_1 23 a3.toNatClampNeg).toInt ≠ 0 := ne_I hc_13; have q6 : (M_1 23 a1.toNatClampNeg).toInt = 2 := congrArg Int32.toInt hc_14; have q7 : (M_1 23 a3.toNatClampNeg).toInt = 2 := congrArg Int32.toInt hc_15; have q8 : (M_1 27 a1.toNatClampNeg).toInt = (M_1 27 a3.toNatClampNeg).toInt := congrArg Int32.toInt hc_16; have q9 : 0 ≤ a5.toInt := nlt_I hc_17; have q10 : 0 ≤ a2.toInt := nlt_I hc_18; have q11 : a2.toInt ≤ ((M_1 28 a1.toNatClampNeg) - a5).toInt := nlt_I hc_21; have rs12 := sub_I (a := M_1 28 a1.toNatClampNeg) (b := a5) (by omega) (by omega); omega)) dX7_copy_124 ?_
                        have qr_22 := hTM_1.1.2.2.2.1 _ (vin_lt (x := a3) (n := 8) (vin_I (by have q0 : (f_X7_in a1.toInt64 0 7).toInt ≠ 0 := ne_I hc_6; have r1 : 0 ≤ a1.toInt ∧ a1.toInt ≤ 7 := in_I hc_6; have q2 : (f_X7_in a3.toInt64 0 7).toInt ≠ 0 := ne_I hc_11; have r3 : 0 ≤ a3.toInt ∧ a3.toInt ≤ 7 := in_I hc_11; have q4 : (M_1 23 a1.toNatClampNeg).toInt ≠ 0 := ne_I hc_12; have q5 : (M_1 23 a3.toNatClampNeg).toInt ≠ 0 := ne_I hc_13; have q6 : (M_1 23 a1.toNatClampNeg).toInt = 2 := congrArg Int32.toInt hc_14; have q7 : (M_1 23 a3.toNatClampNeg).toInt = 2 := congrArg Int32.toInt hc_15; have q8 : (M_1 27 a1.toNatClampNeg).toInt = (M_1 27 a3.toNatClampNeg).toInt := congrArg Int32.toInt hc_16; have q9 : 0 ≤ a5.toInt := nlt_I hc_17; have q10 : 0 ≤ a2.toInt := nlt_I hc_18; have q11 : a2.toInt ≤ ((M_1 28 a1.toNatClampNeg) - a5).toInt := nlt_I hc_21; have rs12 := sub_I (a := M_1 28 a1.toNatClampNeg) (b := a5) (by omega) (by omega); omega) (by have q0 : (f_X7_in a1.toInt64 0 7).toInt ≠ 0 := ne_I hc_6; have r1 : 0 ≤ a1.toInt ∧ a1.toInt ≤ 7 := in_I hc_6; have q2 : (f_X7_in a3.toInt64 0 7).toInt ≠ 0 := ne_I hc_11; have r3 : 0 ≤ a3.toInt ∧ a3.toInt ≤ 7 := in_I hc_11; have q4 : (M_1 23 a1.toNatClampNeg).toInt ≠ 0 := ne_I hc_12; have q5 : (M_1 23 a3.toNatClampNeg).toInt ≠ 0 := ne_I hc_13; have q6 : (M_1 23 a1.toNatClampNeg).toInt = 2 := congrArg Int32.toInt hc_14; have q7 : (M_1 23 a3.toNatClampNeg).toInt = 2 := congrArg Int32.toInt hc_15; have q8 : (M_1 27 a1.toNatClampNeg).toInt = (M_1 27 a3.toNatClampNeg).toInt := congrArg Int32.toInt hc_16; have q9 : 0 ≤ a5.toInt := nlt_I hc_17; have q10 : 0 ≤ a2.toInt := nlt_I hc_18; have q11 : a2.toInt ≤ ((M_1 28 a1.toNatClampNeg) - a5).toInt := nlt_I hc_21; have rs12 := sub_I (a := M_1 28 a1.toNatClampNeg) (b := a5) (by omega) (by omega); omega)))
                        refine lv_iload hx hb dX7_copy_125 (lv_at hl 5 rfl) ?_
                        refine lv_isub hx hb dX7_copy_127 ?_
                        refine lv_icmp_le (tgt := 134) hx hb dX7_copy_128 (by decide) (fun hc_23 => ?_) (fun hc_23 => ?_)
                        · have he := ite_t he hc_23
                          refine lv_iconst (v := 0) hx hb dX7_copy_134 (by decide) ?_
                          refine lv_istore (lv' := [(6, .int 0), (0, .ref (ad 0)), (1, .int a1), (2, .int a2), (3, .int a3), (4, .int a4), (5, .int a5)]) hx hb dX7_copy_135 hl (by decide) rfl (fun ls hl => ?_)
                          obtain ⟨M_36, hr_32, he⟩ := bnd_ex he
                          have j171 : ∀ (H : Heap) (locs : List Loc) (ls : Array Slot), TI M M_36 → va_P D vwCl (wld 31 ad (cM ad k M_36)) H → va_S (AW 31 ad) s.heap H locs → lv_has ls 7 [(0, .ref (ad 0)), (3, .int a3), (4, .int a4), (5, .int a5)] → W p l e rm_X7_copy s m args below meth c H locs 0 0 Q (F0 m 171 ls []) := by
                            intro H locs ls hTM_36 hP hS hl
                            have qb_M_36 := hTM_36.1.1
                            have qs_M_36 := hTM_36.1.2.1
                            have qz_M_36 := hTM_36.1.2.2.1
                            refine lv_iconst (v := 0) hx hb dX7_copy_171 (by decide) ?_
                            refine lv_istore (lv' := [(6, .int 0), (0, .ref (ad 0)), (3, .int a3), (4, .int a4), (5, .int a5)]) hx hb dX7_copy_172 hl (by decide) rfl (fun ls hl => ?_)
                            obtain ⟨M_49, hr_45, he⟩ := bnd_ex he
                            have j209 : ∀ (H : Heap) (locs : List Loc) (ls : Array Slot), TI M M_49 → va_P D vwCl (wld 31 ad (cM ad k M_49)) H → va_S (AW 31 ad) s.heap H locs → lv_has ls 7 [(5, .int a5)] → W p l e rm_X7_copy s m args below meth c H locs 0 0 Q (F0 m 209 ls []) := by
                              intro H locs ls hTM_49 hP hS hl
                              have qb_M_49 := hTM_49.1.1
                              have qs_M_49 := hTM_49.1.2.1
                              have qz_M_49 := hTM_49.1.2.2.1
                              refine lv_iload hx hb dX7_copy_209 (lv_at hl 0 rfl) ?_
                              exact hret _ _ _ _ _ _ ⟨(hV.trans he.symm), hTM_49⟩ hP hS dX7_copy_211
                            have lp174 : ∀ (nn : Nat) (H : Heap) (locs : List Loc) (ls : Array Slot) (M_44 : Mem) (v_43 : Int32), (0 ≤ v_43.toInt) → (TI M M_44) → (a5.toInt - v_43.toInt).toNat < nn → lp_X7_copy_174 nn a3 a4 a5 M_44 v_43 = M_49 → va_P D vwCl (wld 31 ad (cM ad k M_44)) H → va_S (AW 31 ad) s.heap H locs → lv_has ls 7 [(0, .ref (ad 0)), (3, .int a3), (4, .int a4), (5, .int a5), (6, .int v_43)] → W p l e rm_X7_copy s m args below meth c H locs 0 0 Q (F0 m 174 ls []) := by
                              intro nn
                              induction nn with
                              | zero =>
                                intro H locs ls M_44 v_43 h0v_43 hTM_44 hμ
                                exact absurd hμ (Nat.not_lt_zero _)
                              | succ nn ih =>
                                intro H locs ls M_44 v_43 h0v_43 hTM_44 hμ hr_45 hP hS hl
                                rw [lp_X7_copy_174] at hr_45
                                have qb_M_44 := hTM_44.1.1
                                have qs_M_44 := hTM_44.1.2.1
                                have qz_M_44 := hTM_44.1.2.2.1
                                refine lv_iload hx hb dX7_copy_174 (lv_at hl 4 rfl) ?_
                                refine lv_iload hx hb dX7_copy_176 (lv_at hl 3 rfl) ?_
                                refine lv_icmp_ge (tgt := 209) hx hb dX7_copy_178 (by decide) (fun hc_46 => ?_) (fun hc_46 => ?_)
                                · have hr_45 := ite_t hr_45 hc_46
                                  cases hr_45
                                  exact j209 _ _ _ hTM_44 hP hS (lv_sub hl [3] rfl)
                                · have hr_45 := ite_f hr_45 hc_46
                                  refine lv_aload_n hx hb dX7_copy_181 rfl (lv_at hl 0 rfl) ?_
                                  refine gX7_48 hx hb hG hown hK hP gw_5_17 dX7_copy_182 ?_
                                  refine lv_bipush (v := 100) hx hb dX7_copy_185 (by decide) ?_
                                  refine lv_iload_n hx hb dX7_copy_187 rfl (lv_at hl 1 rfl) ?_
                                  refine lv_imul hx hb dX7_copy_188 ?_
                                  refine lv_iload hx hb dX7_copy_189 (lv_at hl 2 rfl) ?_
                                  refine lv_iadd hx hb dX7_copy_191 ?_
                                  refine lv_iload hx hb dX7_copy_192 (lv_at hl 4 rfl) ?_
                                  refine lv_iadd hx hb dX7_copy_194 ?_
                                  refine lv_aload_n hx hb dX7_copy_195 rfl (lv_at hl 0 rfl) ?_
                                  refine gX7_49 hx hb hG hown hK hP gw_5_18 dX7_copy_196 ?_
                                  refine lv_iload hx hb dX7_copy_199 (lv_at hl 4 rfl) ?_
                                  refine al_M30 hx hb hK hP (vin_I (by have q0 : (f_X7_in a1.toInt64 0 7).toInt ≠ 0 := ne_I hc_6; have r1 : 0 ≤ a1.toInt ∧ a1.toInt ≤ 7 := in_I hc_6; have q2 : (f_X7_in a3.toInt64 0 7).toInt ≠ 0 := ne_I hc_11; have r3 : 0 ≤ a3.toInt ∧ a3.toInt ≤ 7 := in_I hc_11; have q4 : (M_1 23 a1.toNatClampNeg).toInt ≠ 0 := ne_I hc_12; have q5 : (M_1 23 a3.toNatClampNeg).toInt ≠ 0 := ne_I hc_13; have q6 : (M_1 23 a1.toNatClampNeg).toInt = 2 := congrArg Int32.toInt hc_14; have q7 : (M_1 23 a3.toNatClampNeg).toInt = 2 := congrArg Int32.toInt hc_15; have q8 : (M_1 27 a1.toNatClampNeg).toInt = (M_1 27 a3.toNatClampNeg).toInt := congrArg Int32.toInt hc_16; have q9 : 0 ≤ a5.toInt := nlt_I hc_17; have q10 : 0 ≤ a2.toInt := nlt_I hc_18; have q11 : 0 ≤ a4.toInt := nlt_I hc_19; have q12 : a2.toInt ≤ ((M_1 28 a1.toNatClampNeg) - a5).toInt := nlt_I hc_21; have q13 : a4.toInt ≤ ((M_1 28 a3.toNatClampNeg) - a5).toInt := le_I hc_23; have q14 : v_43.toInt < a5.toInt := nle_I hc_46; have rs15 := sub_I (a := M_1 28 a1.toNatClampNeg) (b := a5) (by omega) (by omega); have rs16 := sub_I (a := M_1 28 a3.toNatClampNeg) (b := a5) (by omega) (by omega); omega) (by have q0 : (f_X7_in a1.toInt64 0 7).toInt ≠ 0 := ne_I hc_6; have r1 : 0 ≤ a1.toInt ∧ a1.toInt ≤ 7 := in_I hc_6; have q2 : (f_X7_in a3.toInt64 0 7).toInt ≠ 0 := ne_I hc_11; have r3 : 0 ≤ a3.toInt ∧ a3.toInt ≤ 7 := in_I hc_11; have q4 : (M_1 23 a1.toNatClampNeg).toInt ≠ 0 := ne_I hc_12; have q5 : (M_1 23 a3.toNatClampNeg).toInt ≠ 0 := ne_I hc_13; have q6 : (M_1 23 a1.toNatClampNeg).toInt = 2 := congrArg Int32.toInt hc_14; have q7 : (M_1 23 a3.toNatClampNeg).toInt = 2 := congrArg Int32.toInt hc_15; have q8 : (M_1 27 a1.toNatClampNeg).toInt = (M_1 27 a3.toNatClampNeg).toInt := congrArg Int32.toInt hc_16; have q9 : 0 ≤ a5.toInt := nlt_I hc_17; have q10 : 0 ≤ a2.toInt := nlt_I hc_18; have q11 : 0 ≤ a4.toInt := nlt_I hc_19; have q12 : a2.toInt ≤ ((M_1 28 a1.toNatClampNeg) - a5).toInt := nlt_I hc_21; have q13 : a4.toInt ≤ ((M_1 28 a3.toNatClampNeg) - a5).toInt := le_I hc_23; have q14 : v_43.toInt < a5.toInt := nle_I hc_46; have rs15 := sub_I (a := M_1 28 a1.toNatClampNeg) (b := a5) (by omega) (by omega); have rs16 := sub_I (a := M_1 28 a3.toNatClampNeg) (b := a5) (by omega) (by omega); omega)) dX7_copy_201 ?_
                                  refine as_M29 hx hb hK hP had AW_in hS (rt64 _) (vin_row2 (by have q0 : (f_X7_in a1.toInt64 0 7).toInt ≠ 0 := ne_I hc_6; have r1 : 0 ≤ a1.toInt ∧ a1.toInt ≤ 7 := in_I hc_6; have q2 : (f_X7_in a3.toInt64 0 7).toInt ≠ 0 := ne_I hc_11; have r3 : 0 ≤ a3.toInt ∧ a3.toInt ≤ 7 := in_I hc_11; have q4 : (M_1 23 a1.toNatClampNeg).toInt ≠ 0 := ne_I hc_12; have q5 : (M_1 23 a3.toNatClampNeg).toInt ≠ 0 := ne_I hc_13; have q6 : (M_1 23 a1.toNatClampNeg).toInt = 2 := congrArg Int32.toInt hc_14; have q7 : (M_1 23 a3.toNatClampNeg).toInt = 2 := congrArg Int32.toInt hc_15; have q8 : (M_1 27 a1.toNatClampNeg).toInt = (M_1 27 a3.toNatClampNeg).toInt := congrArg Int32.toInt hc_16; have q9 : 0 ≤ a5.toInt := nlt_I hc_17; have q10 : 0 ≤ a2.toInt := nlt_I hc_18; have q11 : 0 ≤ a4.toInt := nlt_I hc_19; have q12 : a2.toInt ≤ ((M_1 28 a1.toNatClampNeg) - a5).toInt := nlt_I hc_21; have q13 : a4.toInt ≤ ((M_1 28 a3.toNatClampNeg) - a5).toInt := le_I hc_23; have q14 : v_43.toInt < a5.toInt := nle_I hc_46; have rs15 := sub_I (a := M_1 28 a1.toNatClampNeg) (b := a5) (by omega) (by omega); have rs16 := sub_I (a := M_1 28 a3.toNatClampNeg) (b := a5) (by omega) (by omega); omega) (by have q0 : (f_X7_in a1.toInt64 0 7).toInt ≠ 0 := ne_I hc_6; have r1 : 0 ≤ a1.toInt ∧ a1.toInt ≤ 7 := in_I hc_6; have q2 : (f_X7_in a3.toInt64 0 7).toInt ≠ 0 := ne_I hc_11; have r3 : 0 ≤ a3.toInt ∧ a3.toInt ≤ 7 := in_I hc_11; have q4 : (M_1 23 a1.toNatClampNeg).toInt ≠ 0 := ne_I hc_12; have q5 : (M_1 23 a3.toNatClampNeg).toInt ≠ 0 := ne_I hc_13; have q6 : (M_1 23 a1.toNatClampNeg).toInt = 2 := congrArg Int32.toInt hc_14; have q7 : (M_1 23 a3.toNatClampNeg).toInt = 2 := congrArg Int32.toInt hc_15; have q8 : (M_1 27 a1.toNatClampNeg).toInt = (M_1 27 a3.toNatClampNeg).toInt := congrArg Int32.toInt hc_16; have q9 : 0 ≤ a5.toInt := nlt_I hc_17; have q10 : 0 ≤ a2.toInt := nlt_I hc_18; have q11 : 0 ≤ a4.toInt := nlt_I hc_19; have q12 : a2.toInt ≤ ((M_1 28 a1.toNatClampNeg) - a5).toInt := nlt_I hc_21; have q13 : a4.toInt ≤ ((M_1 28 a3.toNatClampNeg) - a5).toInt := le_I hc_23; have q14 : v_43.toInt < a5.toInt := nle_I hc_46; have rs15 := sub_I (a := M_1 28 a1.toNatClampNeg) (b := a5) (by omega) (by omega); have rs16 := sub_I (a := M_1 28 a3.toNatClampNeg) (b := a5) (by omega) (by omega); omega)) dX7_copy_202 (fun H locs hP hS => ?_)
                                  obtain ⟨M_47, eM_47⟩ : ∃ y : Mem, y = up2 M_44 29 (((100 * a3) + a4) + v_43).toNatClampNeg (((M_44 30 v_43.toNatClampNeg).toInt64).toInt32) := ⟨_, rfl⟩
                                  rw [← eM_47] at hP
                                  have hr_45 := bnd_at hr_45 eM_47
                                  have hTM_47 : TI M M_47 := by rw [eM_47]; exact TI_a hTM_44 (by decide)
                                  have qb_M_47 := hTM_47.1.1
                                  have qs_M_47 := hTM_47.1.2.1
                                  have qz_M_47 := hTM_47.1.2.2.1
                                  obtain ⟨y_48, ey_48⟩ : ∃ y_48 : Int32, y_48 = v_43 + 1 := ⟨_, rfl⟩
                                  have hr_45 := bnd_at hr_45 ey_48
                                  refine lv_iinc (v := y_48) (lv' := [(6, .int y_48), (0, .ref (ad 0)), (3, .int a3), (4, .int a4), (5, .int a5)]) hx hb dX7_copy_203 hl (k := 4) rfl (by rw [ey_48]; rfl) (by decide) rfl (fun ls hl => ?_)
                                  refine lv_goto (tgt := 174) hx hb dX7_copy_206 (by decide) ?_
                                  exact ih _ _ _ _ _ (by rw [ey_48, inc_I (N := a5.toInt) (nle_I hc_46) (Int32.toInt_le _)]; omega) hTM_47 (by rw [ey_48]; exact mu_I hμ (nle_I hc_46) (Int32.toInt_le _)) hr_45 hP hS (lv_sub hl [1, 2, 3, 4, 0] rfl)
                            exact lp174 _ _ _ _ _ _ (by decide) hTM_36 (Nat.lt_succ_self _) hr_45 hP hS (lv_sub hl [1, 2, 3, 4, 0] rfl)
                          have lp137 : ∀ (nn : Nat) (H : Heap) (locs : List Loc) (ls : Array Slot) (M_31 : Mem) (v_30 : Int32), (0 ≤ v_30.toInt) → (TI M M_31) → (a5.toInt - v_30.toInt).toNat < nn → lp_X7_copy_137 nn a1 a2 a5 M_31 v_30 = M_36 → va_P D vwCl (wld 31 ad (cM ad k M_31)) H → va_S (AW 31 ad) s.heap H locs → lv_has ls 7 [(0, .ref (ad 0)), (1, .int a1), (2, .int a2), (3, .int a3), (4, .int a4), (5, .int a5), (6, .int v_30)] → W p l e rm_X7_copy s m args below meth c H locs 0 0 Q (F0 m 137 ls []) := by
                            intro nn
                            induction nn with
                            | zero =>
                              intro H locs ls M_31 v_30 h0v_30 hTM_31 hμ
                              exact absurd hμ (Nat.not_lt_zero _)
                            | succ nn ih =>
                              intro H locs ls M_31 v_30 h0v_30 hTM_31 hμ hr_32 hP hS hl
                              rw [lp_X7_copy_137] at hr_32
                              have qb_M_31 := hTM_31.1.1
                              have qs_M_31 := hTM_31.1.2.1
                              have qz_M_31 := hTM_31.1.2.2.1
                              refine lv_iload hx hb dX7_copy_137 (lv_at hl 6 rfl) ?_
                              refine lv_iload hx hb dX7_copy_139 (lv_at hl 5 rfl) ?_
                              refine lv_icmp_ge (tgt := 171) hx hb dX7_copy_141 (by decide) (fun hc_33 => ?_) (fun hc_33 => ?_)
                              · have hr_32 := ite_t hr_32 hc_33
                                cases hr_32
                                exact j171 _ _ _ hTM_31 hP hS (lv_sub hl [0, 3, 4, 5] rfl)
                              · have hr_32 := ite_f hr_32 hc_33
                                refine lv_aload_n hx hb dX7_copy_144 rfl (lv_at hl 0 rfl) ?_
                                refine gX7_49 hx hb hG hown hK hP gw_5_18 dX7_copy_145 ?_
                                refine lv_iload hx hb dX7_copy_148 (lv_at hl 6 rfl) ?_
                                refine lv_aload_n hx hb dX7_copy_150 rfl (lv_at hl 0 rfl) ?_
                                refine gX7_48 hx hb hG hown hK hP gw_5_17 dX7_copy_151 ?_
                                refine lv_bipush (v := 100) hx hb dX7_copy_154 (by decide) ?_
                                refine lv_iload_n hx hb dX7_copy_156 rfl (lv_at hl 1 rfl) ?_
                                refine lv_imul hx hb dX7_copy_157 ?_
                                refine lv_iload_n hx hb dX7_copy_158 rfl (lv_at hl 2 rfl) ?_
                                refine lv_iadd hx hb dX7_copy_159 ?_
                                refine lv_iload hx hb dX7_copy_160 (lv_at hl 6 rfl) ?_
                                refine lv_iadd hx hb dX7_copy_162 ?_
                                refine al_M29 hx hb hK hP (vin_row2 (by have q0 : (f_X7_in a1.toInt64 0 7).toInt ≠ 0 := ne_I hc_6; have r1 : 0 ≤ a1.toInt ∧ a1.toInt ≤ 7 := in_I hc_6; have q2 : (f_X7_in a3.toInt64 0 7).toInt ≠ 0 := ne_I hc_11; have r3 : 0 ≤ a3.toInt ∧ a3.toInt ≤ 7 := in_I hc_11; have q4 : (M_1 23 a1.toNatClampNeg).toInt ≠ 0 := ne_I hc_12; have q5 : (M_1 23 a3.toNatClampNeg).toInt ≠ 0 := ne_I hc_13; have q6 : (M_1 23 a1.toNatClampNeg).toInt = 2 := congrArg Int32.toInt hc_14; have q7 : (M_1 23 a3.toNatClampNeg).toInt = 2 := congrArg Int32.toInt hc_15; have q8 : (M_1 27 a1.toNatClampNeg).toInt = (M_1 27 a3.toNatClampNeg).toInt := congrArg Int32.toInt hc_16; have q9 : 0 ≤ a5.toInt := nlt_I hc_17; have q10 : 0 ≤ a2.toInt := nlt_I hc_18; have q11 : 0 ≤ a4.toInt := nlt_I hc_19; have q12 : a2.toInt ≤ ((M_1 28 a1.toNatClampNeg) - a5).toInt := nlt_I hc_21; have q13 : a4.toInt ≤ ((M_1 28 a3.toNatClampNeg) - a5).toInt := le_I hc_23; have q14 : v_30.toInt < a5.toInt := nle_I hc_33; have rs15 := sub_I (a := M_1 28 a1.toNatClampNeg) (b := a5) (by omega) (by omega); have rs16 := sub_I (a := M_1 28 a3.toNatClampNeg) (b := a5) (by omega) (by omega); omega) (by have q0 : (f_X7_in a1.toInt64 0 7).toInt ≠ 0 := ne_I hc_6; have r1 : 0 ≤ a1.toInt ∧ a1.toInt ≤ 7 := in_I hc_6; have q2 : (f_X7_in a3.toInt64 0 7).toInt ≠ 0 := ne_I hc_11; have r3 : 0 ≤ a3.toInt ∧ a3.toInt ≤ 7 := in_I hc_11; have q4 : (M_1 23 a1.toNatClampNeg).toInt ≠ 0 := ne_I hc_12; have q5 : (M_1 23 a3.toNatClampNeg).toInt ≠ 0 := ne_I hc_13; have q6 : (M_1 23 a1.toNatClampNeg).toInt = 2 := congrArg Int32.toInt hc_14; have q7 : (M_1 23 a3.toNatClampNeg).toInt = 2 := congrArg Int32.toInt hc_15; have q8 : (M_1 27 a1.toNatClampNeg).toInt = (M_1 27 a3.toNatClampNeg).toInt := congrArg Int32.toInt hc_16; have q9 : 0 ≤ a5.toInt := nlt_I hc_17; have q10 : 0 ≤ a2.toInt := nlt_I hc_18; have q11 : 0 ≤ a4.toInt := nlt_I hc_19; have q12 : a2.toInt ≤ ((M_1 28 a1.toNatClampNeg) - a5).toInt := nlt_I hc_21; have q13 : a4.toInt ≤ ((M_1 28 a3.toNatClampNeg) - a5).toInt := le_I hc_23; have q14 : v_30.toInt < a5.toInt := nle_I hc_33; have rs15 := sub_I (a := M_1 28 a1.toNatClampNeg) (b := a5) (by omega) (by omega); have rs16 := sub_I (a := M_1 28 a3.toNatClampNeg) (b := a5) (by omega) (by omega); omega)) dX7_copy_163 ?_
                                refine as_M30 hx hb hK hP had AW_in hS (rt64 _) (vin_I (by have q0 : (f_X7_in a1.toInt64 0 7).toInt ≠ 0 := ne_I hc_6; have r1 : 0 ≤ a1.toInt ∧ a1.toInt ≤ 7 := in_I hc_6; have q2 : (f_X7_in a3.toInt64 0 7).toInt ≠ 0 := ne_I hc_11; have r3 : 0 ≤ a3.toInt ∧ a3.toInt ≤ 7 := in_I hc_11; have q4 : (M_1 23 a1.toNatClampNeg).toInt ≠ 0 := ne_I hc_12; have q5 : (M_1 23 a3.toNatClampNeg).toInt ≠ 0 := ne_I hc_13; have q6 : (M_1 23 a1.toNatClampNeg).toInt = 2 := congrArg Int32.toInt hc_14; have q7 : (M_1 23 a3.toNatClampNeg).toInt = 2 := congrArg Int32.toInt hc_15; have q8 : (M_1 27 a1.toNatClampNeg).toInt = (M_1 27 a3.toNatClampNeg).toInt := congrArg Int32.toInt hc_16; have q9 : 0 ≤ a5.toInt := nlt_I hc_17; have q10 : 0 ≤ a2.toInt := nlt_I hc_18; have q11 : 0 ≤ a4.toInt := nlt_I hc_19; have q12 : a2.toInt ≤ ((M_1 28 a1.toNatClampNeg) - a5).toInt := nlt_I hc_21; have q13 : a4.toInt ≤ ((M_1 28 a3.toNatClampNeg) - a5).toInt := le_I hc_23; have q14 : v_30.toInt < a5.toInt := nle_I hc_33; have rs15 := sub_I (a := M_1 28 a1.toNatClampNeg) (b := a5) (by omega) (by omega); have rs16 := sub_I (a := M_1 28 a3.toNatClampNeg) (b := a5) (by omega) (by omega); omega) (by have q0 : (f_X7_in a1.toInt64 0 7).toInt ≠ 0 := ne_I hc_6; have r1 : 0 ≤ a1.toInt ∧ a1.toInt ≤ 7 := in_I hc_6; have q2 : (f_X7_in a3.toInt64 0 7).toInt ≠ 0 := ne_I hc_11; have r3 : 0 ≤ a3.toInt ∧ a3.toInt ≤ 7 := in_I hc_11; have q4 : (M_1 23 a1.toNatClampNeg).toInt ≠ 0 := ne_I hc_12; have q5 : (M_1 23 a3.toNatClampNeg).toInt ≠ 0 := ne_I hc_13; have q6 : (M_1 23 a1.toNatClampNeg).toInt = 2 := congrArg Int32.toInt hc_14; have q7 : (M_1 23 a3.toNatClampNeg).toInt = 2 := congrArg Int32.toInt hc_15; have q8 : (M_1 27 a1.toNatClampNeg).toInt = (M_1 27 a3.toNatClampNeg).toInt := congrArg Int32.toInt hc_16; have q9 : 0 ≤ a5.toInt := nlt_I hc_17; have q10 : 0 ≤ a2.toInt := nlt_I hc_18; have q11 : 0 ≤ a4.toInt := nlt_I hc_19; have q12 : a2.toInt ≤ ((M_1 28 a1.toNatClampNeg) - a5).toInt := nlt_I hc_21; have q13 : a4.toInt ≤ ((M_1 28 a3.toNatClampNeg) - a5).toInt := le_I hc_23; have q14 : v_30.toInt < a5.toInt := nle_I hc_33; have rs15 := sub_I (a := M_1 28 a1.toNatClampNeg) (b := a5) (by omega) (by omega); have rs16 := sub_I (a := M_1 28 a3.toNatClampNeg) (b := a5) (by omega) (by omega); omega)) dX7_copy_164 (fun H locs hP hS => ?_)
                                obtain ⟨M_34, eM_34⟩ : ∃ y : Mem, y = up2 M_31 30 v_30.toNatClampNeg (((M_31 29 (((100 * a1) + a2) + v_30).toNatClampNeg).toInt64).toInt32) := ⟨_, rfl⟩
                                rw [← eM_34] at hP
                                have hr_32 := bnd_at hr_32 eM_34
                                have hTM_34 : TI M M_34 := by rw [eM_34]; exact TI_a hTM_31 (by decide)
                                have qb_M_34 := hTM_34.1.1
                                have qs_M_34 := hTM_34.1.2.1
                                have qz_M_34 := hTM_34.1.2.2.1
                                obtain ⟨y_35, ey_35⟩ : ∃ y_35 : Int32, y_35 = v_30 + 1 := ⟨_, rfl⟩
                                have hr_32 := bnd_at hr_32 ey_35
                                refine lv_iinc (v := y_35) (lv' := [(6, .int y_35), (0, .ref (ad 0)), (1, .int a1), (2, .int a2), (3, .int a3), (4, .int a4), (5, .int a5)]) hx hb dX7_copy_165 hl (k := 6) rfl (by rw [ey_35]; rfl) (by decide) rfl (fun ls hl => ?_)
                                refine lv_goto (tgt := 137) hx hb dX7_copy_168 (by decide) ?_
                                exact ih _ _ _ _ _ (by rw [ey_35, inc_I (N := a5.toInt) (nle_I hc_33) (Int32.toInt_le _)]; omega) hTM_34 (by rw [ey_35]; exact mu_I hμ (nle_I hc_33) (Int32.toInt_le _)) hr_32 hP hS (lv_sub hl [1, 2, 3, 4, 5, 6, 0] rfl)
                          exact lp137 _ _ _ _ _ _ (by decide) hTM_1 (Nat.lt_succ_self _) hr_32 hP hS (lv_sub hl [1, 2, 3, 4, 5, 6, 0] rfl)
                        · have he := ite_f he hc_23
                          refine lv_bipush (v := (-13)) hx hb dX7_copy_131 (by decide) ?_
                          exact hret _ _ _ _ _ _ ⟨(hV.trans he.symm), hTM_1⟩ hP hS dX7_copy_133
              · have he := ite_f he hc_16
                refine lv_bipush (v := (-12)) hx hb dX7_copy_87 (by decide) ?_
                exact hret _ _ _ _ _ _ ⟨(hV.trans he.symm), hTM_1⟩ hP hS dX7_copy_89
        · have he := ite_f he (fun q => q hc_13)
          refine lv_bipush (v := (-11)) hx hb dX7_copy_49 (by decide) ?_
          exact hret _ _ _ _ _ _ ⟨(hV.trans he.symm), hTM_1⟩ hP hS dX7_copy_51
    · have he := ite_f he (fun q => q hc_11)
      refine lv_iconst (v := (-1)) hx hb dX7_copy_29 (by decide) ?_
      exact hret _ _ _ _ _ _ ⟨(hV.trans he.symm), hTM_1⟩ hP hS dX7_copy_30
def rm_X7_skillOf : Room := { frames := 0, cells := 0, slots := 0, locals := 0 }
theorem gm_X7_skillOf : Cond.static yX7_skillOf ∈ wsL_law ∧ Cond.initialized yX7_skillOf.cls ∈ wsL_law ∧ Cond.code yX7_skillOf cX7_skillOf 2 (some .int) ∈ wsL_law := ⟨gw_45_3, gw_1_5, gw_45_4⟩
theorem gd_X7_skillOf : yX7_skillOf.cls ≠ "java/lang/invoke/MethodHandle" ∧ yX7_skillOf.cls ≠ "java/lang/invoke/VarHandle" ∧ (parseMethodDescriptor yX7_skillOf.desc).map (fun d => d.parameters.length) = some 2 := by decide +kernel
set_option maxRecDepth 100000 in
set_option maxHeartbeats 0 in
theorem c_X7_skillOf {l : Launch} {D : va_G} {k : Nat → ClassId} {ad : Nat → Nat} (had : InjN 31 ad) {M : Mem} (a1 : Int32) (a2 : Int32) : Met l yX7_skillOf (Cond.code yX7_skillOf cX7_skillOf 2 (some .int) :: wsL_law) rm_X7_skillOf (va_Pc [.int a1, .int a2] (GW 31 ad D k (cM ad k M))) (va_Qi (fun r u => f_X7_skillOf a1 a2 = r ∧ u = M) (fun u t => GW 31 ad D k (cM ad k u) t) (AW 31 ad)) 0 0 (AW 31 ad) := by
  refine met_i (g := cM ad k) (M := M) (plainFor_of_name (by decide)) (Nat.le_of_ble_eq_true rfl) ?_
  intro p e s m args below meth c Q ls hx hb hml hG hown hK hret hP hS hl
  have hl : lv_has ls 2 [(0, .int a1), (1, .int a2)] := hl
  obtain ⟨V, hV⟩ : ∃ V, f_X7_skillOf a1 a2 = V := ⟨_, rfl⟩
  have he := hV
  unfold f_X7_skillOf at he
  refine lv_iload_n hx hb dX7_skillOf_0 rfl (lv_at hl 0 rfl) ?_
  by_cases hw_1 : a1 = 0
  · have he := ite_t he hw_1
    refine lv_tableIn (tgt := 44) hx hb dX7_skillOf_1 (by rw [hw_1]; decide) (by rw [hw_1]; decide) (by rw [hw_1]; rfl) (by decide) ?_
    refine lv_bipush (v := 10) hx hb dX7_skillOf_44 (by decide) ?_
    exact hret _ _ _ _ _ _ ⟨hV.trans he.symm, rfl⟩ hP hS dX7_skillOf_46
  · have he := ite_f he hw_1
    by_cases hw_2 : a1 = 1
    · have he := ite_t he hw_2
      refine lv_tableIn (tgt := 47) hx hb dX7_skillOf_1 (by rw [hw_2]; decide) (by rw [hw_2]; decide) (by rw [hw_2]; rfl) (by decide) ?_
      refine lv_bipush (v := 10) hx hb dX7_skillOf_47 (by decide) ?_
      refine lv_iload_n hx hb dX7_skillOf_49 rfl (lv_at hl 1 rfl) ?_
      refine lv_iadd hx hb dX7_skillOf_50 ?_
      exact hret _ _ _ _ _ _ ⟨hV.trans he.symm, rfl⟩ hP hS dX7_skillOf_51
    · have he := ite_f he hw_2
      by_cases hw_3 : a1 = 2
      · have he := ite_t he hw_3
        refine lv_tableIn (tgt := 52) hx hb dX7_skillOf_1 (by rw [hw_3]; decide) (by rw [hw_3]; decide) (by rw [hw_3]; rfl) (by decide) ?_
        refine lv_bipush (v := 13) hx hb dX7_skillOf_52 (by decide) ?_
        exact hret _ _ _ _ _ _ ⟨hV.trans he.symm, rfl⟩ hP hS dX7_skillOf_54
      · have he := ite_f he hw_3
        by_cases hw_4 : a1 = 3
        · have he := ite_t he hw_4
          refine lv_tableIn (tgt := 55) hx hb dX7_skillOf_1 (by rw [hw_4]; decide) (by rw [hw_4]; decide) (by rw [hw_4]; rfl) (by decide) ?_
          refine lv_bipush (v := 26) hx hb dX7_skillOf_55 (by decide) ?_
          exact hret _ _ _ _ _ _ ⟨hV.trans he.symm, rfl⟩ hP hS dX7_skillOf_57
        · have he := ite_f he hw_4
          by_cases hw_5 : a1 = 4
          · have he := ite_t he hw_5
            refine lv_tableIn (tgt := 58) hx hb dX7_skillOf_1 (by rw [hw_5]; decide) (by rw [hw_5]; decide) (by rw [hw_5]; rfl) (by decide) ?_
            refine lv_bipush (v := 10) hx hb dX7_skillOf_58 (by decide) ?_
            refine lv_iload_n hx hb dX7_skillOf_60 rfl (lv_at hl 1 rfl) ?_
            refine lv_isub hx hb dX7_skillOf_61 ?_
            exact hret _ _ _ _ _ _ ⟨hV.trans he.symm, rfl⟩ hP hS dX7_skillOf_62
          · have he := ite_f he hw_5
            by_cases hw_6 : a1 = 5
            · have he := ite_t he hw_6
              refine lv_tableIn (tgt := 63) hx hb dX7_skillOf_1 (by rw [hw_6]; decide) (by rw [hw_6]; decide) (by rw [hw_6]; rfl) (by decide) ?_
              refine lv_bipush (v := 15) hx hb dX7_skillOf_63 (by decide) ?_
              exact hret _ _ _ _ _ _ ⟨hV.trans he.symm, rfl⟩ hP hS dX7_skillOf_65
            · have he := ite_f he hw_6
              by_cases hw_7 : a1 = 6
              · have he := ite_t he hw_7
                refine lv_tableIn (tgt := 66) hx hb dX7_skillOf_1 (by rw [hw_7]; decide) (by rw [hw_7]; decide) (by rw [hw_7]; rfl) (by decide) ?_
                refine lv_bipush (v := 15) hx hb dX7_skillOf_66 (by decide) ?_
                refine lv_iload_n hx hb dX7_skillOf_68 rfl (lv_at hl 1 rfl) ?_
                refine lv_iadd hx hb dX7_skillOf_69 ?_
                exact hret _ _ _ _ _ _ ⟨hV.trans he.symm, rfl⟩ hP hS dX7_skillOf_70
              · have he := ite_f he hw_7
                refine lv_tableOut (tgt := 71) hx hb dX7_skillOf_1 (by have q0 : a1.toInt ≠ 0 := ne_I hw_1; have q1 : a1.toInt ≠ 1 := ne_I hw_2; have q2 : a1.toInt ≠ 2 := ne_I hw_3; have q3 : a1.toInt ≠ 3 := ne_I hw_4; have q4 : a1.toInt ≠ 4 := ne_I hw_5; have q5 : a1.toInt ≠ 5 := ne_I hw_6; have q6 : a1.toInt ≠ 6 := ne_I hw_7; omega) (by decide) ?_
                refine lv_bipush (v := 10) hx hb dX7_skillOf_71 (by decide) ?_
                refine lv_iload_n hx hb dX7_skillOf_73 rfl (lv_at hl 1 rfl) ?_
                refine lv_iadd hx hb dX7_skillOf_74 ?_
                refine lv_iconst (v := 2) hx hb dX7_skillOf_75 (by decide) ?_
                refine lv_idiv hx hb dX7_skillOf_76 (by decide) ?_
                exact hret _ _ _ _ _ _ ⟨hV.trans he.symm, rfl⟩ hP hS dX7_skillOf_77
def rm_X7_skill : Room := { frames := 2, cells := 0, slots := 0, locals := 46 }
theorem gm_X7_skill : Cond.instanceMethod yX7_skill ∈ wsL_law ∧ Cond.selects RX7 yX7_skill yX7_skill ∈ wsL_law ∧ Cond.initialized RX7 ∈ wsL_law ∧ Cond.code yX7_skill cX7_skill 2 (some .int) ∈ wsL_law := ⟨gw_44_19, gw_44_20, gw_1_5, gw_44_21⟩
theorem gd_X7_skill : yX7_skill.cls = RX7 ∧ yX7_skill.cls ≠ "java/lang/invoke/MethodHandle" ∧ yX7_skill.cls ≠ "java/lang/invoke/VarHandle" ∧ (parseMethodDescriptor yX7_skill.desc).map (fun d => d.parameters.length) = some 1 := by decide +kernel
set_option maxRecDepth 100000 in
set_option maxHeartbeats 0 in
theorem c_X7_skill {l : Launch} {D : va_G} {k : Nat → ClassId} {ad : Nat → Nat} (had : InjN 31 ad) (M : Mem) (a1 : Int32) (hI : MI M) : Met l yX7_skill (Cond.code yX7_skill cX7_skill 2 (some .int) :: wsL_law) rm_X7_skill (va_Pc [.ref (ad 0), .int a1] (GW 31 ad D k (cM ad k M))) (va_Qi (fun r u => (f_X7_skill M a1 = (r, u) ∧ TI M u)) (fun u t => GW 31 ad D k (cM ad k u) t) (AW 31 ad)) 0 0 (AW 31 ad) := by
  refine met_i (g := cM ad k) (M := M) (plainFor_of_name (by decide)) (Nat.le_of_ble_eq_true rfl) ?_
  intro p e s m args below meth c Q ls hx hb hml hG hown hK hret hP hS hl
  have hl : lv_has ls 2 [(0, .ref (ad 0)), (1, .int a1)] := hl
  obtain ⟨V, hV⟩ : ∃ V, f_X7_skill M a1 = V := ⟨_, rfl⟩
  have he := hV
  unfold f_X7_skill at he
  have hT0 : TI M M := TI_rf hI
  have qb_M := hI.1
  have qs_M := hI.2.1
  have qz_M := hI.2.2.1
  refine lv_aload_n hx hb dX7_skill_0 rfl (lv_at hl 0 rfl) ?_
  refine lv_iconst (v := 0) hx hb dX7_skill_1 (by decide) ?_
  refine pX7_19 hx hb hG hown hK hP had AW_in hS gw_5_19 dX7_skill_2 (fun H locs hP hS => ?_)
  obtain ⟨M_1, eM_1⟩ : ∃ y : Mem, y = up2 M 0 19 0 := ⟨_, rfl⟩
  rw [← eM_1] at hP
  have he := bnd_at he eM_1
  have hTM_1 : TI M M_1 := by rw [eM_1]; exact TI_f hT0 (by decide)
  have qb_M_1 := hTM_1.1.1
  have qs_M_1 := hTM_1.1.2.1
  have qz_M_1 := hTM_1.1.2.2.1
  refine lv_aload_n hx hb dX7_skill_5 rfl (lv_at hl 0 rfl) ?_
  refine lv_iload_n hx hb dX7_skill_6 rfl (lv_at hl 1 rfl) ?_
  refine call_i [.int a1] [] hx hb hml hG hown hK (c_X7_wrongSailor had M_1 a1 hTM_1.1) gw_44_22 gm_X7_wrongSailor gd_X7_wrongSailor rfl rfl ⟨Nat.le_of_ble_eq_true rfl, Nat.le_of_ble_eq_true rfl⟩ ⟨Nat.le_refl _, Nat.le_refl _⟩ (rX7 hK hP) hP (fun _ h => h) hS rfl hl.1 rfl (Nat.le_of_ble_eq_true rfl) dX7_skill_7 (fun r_2 u_4 H locs hF_3 hP hS => ?_)
  obtain ⟨hF_3, hu⟩ := hF_3; rw [hu] at hP; subst hF_3
  obtain ⟨t_13, hr_6, he⟩ := bnd_ex he
  have j40 : ∀ (H : Heap) (locs : List Loc) (ls : Array Slot), va_P D vwCl (wld 31 ad (cM ad k M_1)) H → va_S (AW 31 ad) s.heap H locs → lv_has ls 2 [] → W p l e rm_X7_skill s m args below meth c H locs 0 0 Q (F0 m 40 ls [.int t_13]) := by
    intro H locs ls hP hS hl
    exact hret _ _ _ _ _ _ ⟨(hV.trans he.symm), hTM_1⟩ hP hS dX7_skill_40
  refine lv_if_ge (tgt := 25) hx hb dX7_skill_10 (by decide) (fun hc_5 => ?_) (fun hc_5 => ?_)
  · have hr_6 := ite_t hr_6 hc_5
    refine lv_aload_n hx hb dX7_skill_25 rfl (lv_at hl 0 rfl) ?_
    refine gX7_43 hx hb hG hown hK hP gw_5_12 dX7_skill_26 ?_
    refine lv_iload_n hx hb dX7_skill_29 rfl (lv_at hl 1 rfl) ?_
    refine al_M24 hx hb hK hP (vin_I (by have q0 : 0 ≤ (f_X7_wrongSailor M_1 a1).toInt := le_I hc_5; have r1 : 0 ≤ a1.toInt ∧ a1.toInt < 8 := wrongSailor_in (nlt_of_le hc_5); omega) (by have q0 : 0 ≤ (f_X7_wrongSailor M_1 a1).toInt := le_I hc_5; have r1 : 0 ≤ a1.toInt ∧ a1.toInt < 8 := wrongSailor_in (nlt_of_le hc_5); omega)) dX7_skill_30 ?_
    refine lv_aload_n hx hb dX7_skill_31 rfl (lv_at hl 0 rfl) ?_
    refine gX7_44 hx hb hG hown hK hP gw_5_13 dX7_skill_32 ?_
    refine lv_iload_n hx hb dX7_skill_35 rfl (lv_at hl 1 rfl) ?_
    refine al_M25 hx hb hK hP (vin_I (by have q0 : 0 ≤ (f_X7_wrongSailor M_1 a1).toInt := le_I hc_5; have r1 : 0 ≤ a1.toInt ∧ a1.toInt < 8 := wrongSailor_in (nlt_of_le hc_5); omega) (by have q0 : 0 ≤ (f_X7_wrongSailor M_1 a1).toInt := le_I hc_5; have r1 : 0 ≤ a1.toInt ∧ a1.toInt < 8 := wrongSailor_in (nlt_of_le hc_5); omega)) dX7_skill_36 ?_
    refine callS_i [.int (M_1 24 a1.toNatClampNeg), .int (M_1 25 a1.toNatClampNeg)] [] hx hb hml hG hown hK (c_X7_skillOf had (M := M_1)  (M_1 24 a1.toNatClampNeg) (M_1 25 a1.toNatClampNeg)) gw_45_2 gm_X7_skillOf gd_X7_skillOf rfl rfl ⟨Nat.le_of_ble_eq_true rfl, Nat.le_of_ble_eq_true rfl⟩ ⟨Nat.le_refl _, Nat.le_refl _⟩ hP (fun _ h => h) hS rfl hl.1 rfl (Nat.le_of_ble_eq_true rfl) dX7_skill_37 (fun r_7 u_9 H locs hF_8 hP hS => ?_)
    obtain ⟨hF_8, hu⟩ := hF_8; rw [hu] at hP; subst hF_8
    cases hr_6
    exact j40 _ _ _ hP hS (lv_sub hl [] rfl)
  · have hr_6 := ite_f hr_6 hc_5
    refine lv_aload_n hx hb dX7_skill_13 rfl (lv_at hl 0 rfl) ?_
    refine lv_iload_n hx hb dX7_skill_14 rfl (lv_at hl 1 rfl) ?_
    refine call_i [.int a1] [] hx hb hml hG hown hK (c_X7_wrongSailor had M_1 a1 hTM_1.1) gw_44_22 gm_X7_wrongSailor gd_X7_wrongSailor rfl rfl ⟨Nat.le_of_ble_eq_true rfl, Nat.le_of_ble_eq_true rfl⟩ ⟨Nat.le_refl _, Nat.le_refl _⟩ (rX7 hK hP) hP (fun _ h => h) hS rfl hl.1 rfl (Nat.le_of_ble_eq_true rfl) dX7_skill_15 (fun r_10 u_12 H locs hF_11 hP hS => ?_)
    obtain ⟨hF_11, hu⟩ := hF_11; rw [hu] at hP; subst hF_11
    refine lv_ldcw (v := 1000000000) hx hb hown (hG _ gw_34_18) dX7_skill_18 ?_
    refine lv_isub hx hb dX7_skill_21 ?_
    refine lv_goto (tgt := 40) hx hb dX7_skill_22 (by decide) ?_
    cases hr_6
    exact j40 _ _ _ hP hS (lv_sub hl [] rfl)
def rm_X7_toss : Room := { frames := 2, cells := 0, slots := 0, locals := 46 }
theorem gm_X7_toss : Cond.instanceMethod yX7_toss ∈ wsL_law ∧ Cond.selects RX7 yX7_toss yX7_toss ∈ wsL_law ∧ Cond.initialized RX7 ∈ wsL_law ∧ Cond.code yX7_toss cX7_toss 4 (some .int) ∈ wsL_law := ⟨gw_46_0, gw_46_1, gw_1_5, gw_46_2⟩
theorem gd_X7_toss : yX7_toss.cls = RX7 ∧ yX7_toss.cls ≠ "java/lang/invoke/MethodHandle" ∧ yX7_toss.cls ≠ "java/lang/invoke/VarHandle" ∧ (parseMethodDescriptor yX7_toss.desc).map (fun d => d.parameters.length) = some 1 := by decide +kernel
set_option maxRecDepth 100000 in
set_option maxHeartbeats 0 in
theorem c_X7_toss {l : Launch} {D : va_G} {k : Nat → ClassId} {ad : Nat → Nat} (had : InjN 31 ad) (M : Mem) (a1 : Int32) (hI : MI M) : Met l yX7_toss (Cond.code yX7_toss cX7_toss 4 (some .int) :: wsL_law) rm_X7_toss (va_Pc [.ref (ad 0), .int a1] (GW 31 ad D k (cM ad k M))) (va_Qi (fun r u => (f_X7_toss M a1 = (r, u) ∧ TI M u)) (fun u t => GW 31 ad D k (cM ad k u) t) (AW 31 ad)) 0 0 (AW 31 ad) := by
  refine met_i (g := cM ad k) (M := M) (plainFor_of_name (by decide)) (Nat.le_of_ble_eq_true rfl) ?_
  intro p e s m args below meth c Q ls hx hb hml hG hown hK hret hP hS hl
  have hl : lv_has ls 4 [(0, .ref (ad 0)), (1, .int a1)] := hl
  obtain ⟨V, hV⟩ : ∃ V, f_X7_toss M a1 = V := ⟨_, rfl⟩
  have he := hV
  unfold f_X7_toss at he
  have hT0 : TI M M := TI_rf hI
  have qb_M := hI.1
  have qs_M := hI.2.1
  have qz_M := hI.2.2.1
  refine lv_aload_n hx hb dX7_toss_0 rfl (lv_at hl 0 rfl) ?_
  refine lv_iconst (v := 0) hx hb dX7_toss_1 (by decide) ?_
  refine pX7_19 hx hb hG hown hK hP had AW_in hS gw_5_19 dX7_toss_2 (fun H locs hP hS => ?_)
  obtain ⟨M_1, eM_1⟩ : ∃ y : Mem, y = up2 M 0 19 0 := ⟨_, rfl⟩
  rw [← eM_1] at hP
  have he := bnd_at he eM_1
  have hTM_1 : TI M M_1 := by rw [eM_1]; exact TI_f hT0 (by decide)
  have qb_M_1 := hTM_1.1.1
  have qs_M_1 := hTM_1.1.2.1
  have qz_M_1 := hTM_1.1.2.2.1
  refine lv_aload_n hx hb dX7_toss_5 rfl (lv_at hl 0 rfl) ?_
  refine lv_iload_n hx hb dX7_toss_6 rfl (lv_at hl 1 rfl) ?_
  refine call_i [.int a1] [] hx hb hml hG hown hK (c_X7_wrongSailor had M_1 a1 hTM_1.1) gw_44_22 gm_X7_wrongSailor gd_X7_wrongSailor rfl rfl ⟨Nat.le_of_ble_eq_true rfl, Nat.le_of_ble_eq_true rfl⟩ ⟨Nat.le_refl _, Nat.le_refl _⟩ (rX7 hK hP) hP (fun _ h => h) hS rfl hl.1 rfl (Nat.le_of_ble_eq_true rfl) dX7_toss_7 (fun r_2 u_4 H locs hF_3 hP hS => ?_)
  obtain ⟨hF_3, hu⟩ := hF_3; rw [hu] at hP; subst hF_3
  refine lv_if_ge (tgt := 19) hx hb dX7_toss_10 (by decide) (fun hc_5 => ?_) (fun hc_5 => ?_)
  · have he := ite_t he hc_5
    refine lv_aload_n hx hb dX7_toss_19 rfl (lv_at hl 0 rfl) ?_
    refine gX7_43 hx hb hG hown hK hP gw_5_12 dX7_toss_20 ?_
    refine lv_iload_n hx hb dX7_toss_23 rfl (lv_at hl 1 rfl) ?_
    refine al_M24 hx hb hK hP (vin_I (by have q0 : 0 ≤ (f_X7_wrongSailor M_1 a1).toInt := le_I hc_5; have r1 : 0 ≤ a1.toInt ∧ a1.toInt < 8 := wrongSailor_in (nlt_of_le hc_5); omega) (by have q0 : 0 ≤ (f_X7_wrongSailor M_1 a1).toInt := le_I hc_5; have r1 : 0 ≤ a1.toInt ∧ a1.toInt < 8 := wrongSailor_in (nlt_of_le hc_5); omega)) dX7_toss_24 ?_
    refine lv_topi (fun y_6 ey_6 => ?_)
    have he := bnd_at he ey_6
    refine lv_istore_n (lv' := [(2, .int y_6), (0, .ref (ad 0)), (1, .int a1)]) hx hb dX7_toss_25 rfl hl (by decide) rfl (fun ls hl => ?_)
    refine lv_aload_n hx hb dX7_toss_26 rfl (lv_at hl 1 rfl) ?_
    refine gX7_44 hx hb hG hown hK hP gw_5_13 dX7_toss_27 ?_
    refine lv_iload_n hx hb dX7_toss_30 rfl (lv_at hl 2 rfl) ?_
    refine al_M25 hx hb hK hP (vin_I (by have q0 : 0 ≤ (f_X7_wrongSailor M_1 a1).toInt := le_I hc_5; have r1 : 0 ≤ a1.toInt ∧ a1.toInt < 8 := wrongSailor_in (nlt_of_le hc_5); have qy_6 := congrArg Int32.toInt ey_6; omega) (by have q0 : 0 ≤ (f_X7_wrongSailor M_1 a1).toInt := le_I hc_5; have r1 : 0 ≤ a1.toInt ∧ a1.toInt < 8 := wrongSailor_in (nlt_of_le hc_5); have qy_6 := congrArg Int32.toInt ey_6; omega)) dX7_toss_31 ?_
    refine lv_topi (fun y_7 ey_7 => ?_)
    have he := bnd_at he ey_7
    refine lv_istore_n (lv' := [(3, .int y_7), (2, .int y_6), (0, .ref (ad 0)), (1, .int a1)]) hx hb dX7_toss_32 rfl hl (by decide) rfl (fun ls hl => ?_)
    refine lv_iload_n hx hb dX7_toss_33 rfl (lv_at hl 1 rfl) ?_
    refine lv_iconst (v := 4) hx hb dX7_toss_34 (by decide) ?_
    refine lv_icmp_eq (tgt := 42) hx hb dX7_toss_35 (by decide) (fun hc_8 => ?_) (fun hc_8 => ?_)
    · have he := ite_t he hc_8
      refine lv_bipush (v := (-15)) hx hb dX7_toss_42 (by decide) ?_
      exact hret _ _ _ _ _ _ ⟨(hV.trans he.symm), hTM_1⟩ hP hS dX7_toss_44
    · have he := ite_f he hc_8
      refine lv_iload_n hx hb dX7_toss_38 rfl (lv_at hl 0 rfl) ?_
      refine lv_if_ne (tgt := 45) hx hb dX7_toss_39 (by decide) (fun hc_9 => ?_) (fun hc_9 => ?_)
      · have he := ite_t he hc_9
        refine lv_iload_n hx hb dX7_toss_45 rfl (lv_at hl 1 rfl) ?_
        refine lv_iconst (v := 3) hx hb dX7_toss_46 (by decide) ?_
        obtain ⟨t_16, hr_11, he⟩ := bnd_ex he
        have j86 : ∀ (H : Heap) (locs : List Loc) (ls : Array Slot), va_P D vwCl (wld 31 ad (cM ad k M_1)) H → va_S (AW 31 ad) s.heap H locs → lv_has ls 4 [] → W p l e rm_X7_toss s m args below meth c H locs 0 0 Q (F0 m 86 ls [.int t_16]) := by
          intro H locs ls hP hS hl
          exact hret _ _ _ _ _ _ ⟨(hV.trans he.symm), hTM_1⟩ hP hS dX7_toss_86
        refine lv_icmp_ne (tgt := 62) hx hb dX7_toss_47 (by decide) (fun hc_10 => ?_) (fun hc_10 => ?_)
        · have hr_11 := ite_t hr_11 hc_10
          refine lv_iload_n hx hb dX7_toss_62 rfl (lv_at hl 1 rfl) ?_
          refine lv_bipush (v := 6) hx hb dX7_toss_63 (by decide) ?_
          refine lv_icmp_ne (tgt := 80) hx hb dX7_toss_65 (by decide) (fun hc_12 => ?_) (fun hc_12 => ?_)
          · have hr_11 := ite_t hr_11 hc_12
            refine lv_aload_n hx hb dX7_toss_80 rfl (lv_at hl 2 rfl) ?_
            refine gX7_45 hx hb hG hown hK hP gw_5_14 dX7_toss_81 ?_
            refine lv_iload_n hx hb dX7_toss_84 rfl (lv_at hl 3 rfl) ?_
            refine al_M26 hx hb hK hP (vin_I (by have q0 : 0 ≤ (f_X7_wrongSailor M_1 a1).toInt := le_I hc_5; have r1 : 0 ≤ a1.toInt ∧ a1.toInt < 8 := wrongSailor_in (nlt_of_le hc_5); have qy_6 := congrArg Int32.toInt ey_6; have qy_7 := congrArg Int32.toInt ey_7; have q4 : y_6.toInt ≠ 4 := ne_I hc_8; have q5 : y_7.toInt ≠ 0 := ne_I hc_9; have q6 : y_6.toInt ≠ 3 := ne_I hc_10; have q7 : y_6.toInt ≠ 6 := ne_I hc_12; omega) (by have q0 : 0 ≤ (f_X7_wrongSailor M_1 a1).toInt := le_I hc_5; have r1 : 0 ≤ a1.toInt ∧ a1.toInt < 8 := wrongSailor_in (nlt_of_le hc_5); have qy_6 := congrArg Int32.toInt ey_6; have qy_7 := congrArg Int32.toInt ey_7; have q4 : y_6.toInt ≠ 4 := ne_I hc_8; have q5 : y_7.toInt ≠ 0 := ne_I hc_9; have q6 : y_6.toInt ≠ 3 := ne_I hc_10; have q7 : y_6.toInt ≠ 6 := ne_I hc_12; omega)) dX7_toss_85 ?_
            cases hr_11
            exact j86 _ _ _ hP hS (lv_sub hl [] rfl)
          · have hr_11 := ite_f hr_11 (fun q => q hc_12)
            refine lv_sipush (v := 200) hx hb dX7_toss_68 (by decide) ?_
            refine lv_iload_n hx hb dX7_toss_71 rfl (lv_at hl 1 rfl) ?_
            refine lv_iload_n hx hb dX7_toss_72 rfl (lv_at hl 0 rfl) ?_
            refine callS_i [.int y_6, .int y_7] [.int 200] hx hb hml hG hown hK (c_X7_skillOf had (M := M_1)  y_6 y_7) gw_45_2 gm_X7_skillOf gd_X7_skillOf rfl rfl ⟨Nat.le_of_ble_eq_true rfl, Nat.le_of_ble_eq_true rfl⟩ ⟨Nat.le_refl _, Nat.le_refl _⟩ hP (fun _ h => h) hS rfl hl.1 rfl (Nat.le_of_ble_eq_true rfl) dX7_toss_73 (fun r_13 u_15 H locs hF_14 hP hS => ?_)
            obtain ⟨hF_14, hu⟩ := hF_14; rw [hu] at hP; subst hF_14
            refine lv_iadd hx hb dX7_toss_76 ?_
            refine lv_goto (tgt := 86) hx hb dX7_toss_77 (by decide) ?_
            cases hr_11
            exact j86 _ _ _ hP hS (lv_sub hl [] rfl)
        · have hr_11 := ite_f hr_11 (fun q => q hc_10)
          refine lv_bipush (v := 100) hx hb dX7_toss_50 (by decide) ?_
          refine lv_aload_n hx hb dX7_toss_52 rfl (lv_at hl 2 rfl) ?_
          refine gX7_45 hx hb hG hown hK hP gw_5_14 dX7_toss_53 ?_
          refine lv_iload_n hx hb dX7_toss_56 rfl (lv_at hl 3 rfl) ?_
          refine al_M26 hx hb hK hP (vin_I (by have q0 : 0 ≤ (f_X7_wrongSailor M_1 a1).toInt := le_I hc_5; have r1 : 0 ≤ a1.toInt ∧ a1.toInt < 8 := wrongSailor_in (nlt_of_le hc_5); have qy_6 := congrArg Int32.toInt ey_6; have qy_7 := congrArg Int32.toInt ey_7; have q4 : y_6.toInt ≠ 4 := ne_I hc_8; have q5 : y_7.toInt ≠ 0 := ne_I hc_9; have q6 : y_6.toInt = 3 := congrArg Int32.toInt hc_10; omega) (by have q0 : 0 ≤ (f_X7_wrongSailor M_1 a1).toInt := le_I hc_5; have r1 : 0 ≤ a1.toInt ∧ a1.toInt < 8 := wrongSailor_in (nlt_of_le hc_5); have qy_6 := congrArg Int32.toInt ey_6; have qy_7 := congrArg Int32.toInt ey_7; have q4 : y_6.toInt ≠ 4 := ne_I hc_8; have q5 : y_7.toInt ≠ 0 := ne_I hc_9; have q6 : y_6.toInt = 3 := congrArg Int32.toInt hc_10; omega)) dX7_toss_57 ?_
          refine lv_iadd hx hb dX7_toss_58 ?_
          refine lv_goto (tgt := 86) hx hb dX7_toss_59 (by decide) ?_
          cases hr_11
          exact j86 _ _ _ hP hS (lv_sub hl [] rfl)
      · have he := ite_f he (fun q => q hc_9)
        refine lv_bipush (v := (-15)) hx hb dX7_toss_42 (by decide) ?_
        exact hret _ _ _ _ _ _ ⟨(hV.trans he.symm), hTM_1⟩ hP hS dX7_toss_44
  · have he := ite_f he hc_5
    refine lv_aload_n hx hb dX7_toss_13 rfl (lv_at hl 0 rfl) ?_
    refine lv_iload_n hx hb dX7_toss_14 rfl (lv_at hl 1 rfl) ?_
    refine call_i [.int a1] [] hx hb hml hG hown hK (c_X7_wrongSailor had M_1 a1 hTM_1.1) gw_44_22 gm_X7_wrongSailor gd_X7_wrongSailor rfl rfl ⟨Nat.le_of_ble_eq_true rfl, Nat.le_of_ble_eq_true rfl⟩ ⟨Nat.le_refl _, Nat.le_refl _⟩ (rX7 hK hP) hP (fun _ h => h) hS rfl hl.1 rfl (Nat.le_of_ble_eq_true rfl) dX7_toss_15 (fun r_17 u_19 H locs hF_18 hP hS => ?_)
    obtain ⟨hF_18, hu⟩ := hF_18; rw [hu] at hP; subst hF_18
    exact hret _ _ _ _ _ _ ⟨(hV.trans he.symm), hTM_1⟩ hP hS dX7_toss_18
