-- @needs 12_dec 13_dec 14_dec 15_dec 37_fault 60_cM 63_cM 64_cM 66_cM 67_cM
def rm_X7_worth : Room := { frames := 6, cells := 0, slots := 0, locals := 128 }
theorem gm_X7_worth : Cond.instanceMethod yX7_worth ∈ wsL_law ∧ Cond.selects RX7 yX7_worth yX7_worth ∈ wsL_law ∧ Cond.initialized RX7 ∈ wsL_law ∧ Cond.code yX7_worth cX7_worth 6 (some .int) ∈ wsL_law := ⟨gw_38_17, gw_38_18, gw_1_5, gw_38_19⟩
theorem gd_X7_worth : yX7_worth.cls = RX7 ∧ yX7_worth.cls ≠ "java/lang/invoke/MethodHandle" ∧ yX7_worth.cls ≠ "java/lang/invoke/VarHandle" ∧ (parseMethodDescriptor yX7_worth.desc).map (fun d => d.parameters.length) = some 2 := by decide +kernel
set_option maxRecDepth 100000 in
set_option maxHeartbeats 0 in
theorem c_X7_worth {l : Launch} {D : va_G} {k : Nat → ClassId} {ad : Nat → Nat} (had : InjN 31 ad) (M : Mem) (a1 : Int32) (a2 : Int32) (hI : MI M) : Met l yX7_worth (Cond.code yX7_worth cX7_worth 6 (some .int) :: wsL_law) rm_X7_worth (va_Pc [.ref (ad 0), .int a1, .int a2] (GW 31 ad D k (cM ad k M))) (va_Qi (fun r u => (f_X7_worth M a1 a2 = (r, u) ∧ TI M u)) (fun u t => GW 31 ad D k (cM ad k u) t) (AW 31 ad)) 0 0 (AW 31 ad) := by
  refine met_i (g := cM ad k) (M := M) (plainFor_of_name (by decide)) (Nat.le_of_ble_eq_true rfl) ?_
  intro p e s m args below meth c Q ls hx hb hml hG hown hK hret hP hS hl
  have hl : lv_has ls 6 [(0, .ref (ad 0)), (1, .int a1), (2, .int a2)] := hl
  obtain ⟨V, hV⟩ : ∃ V, f_X7_worth M a1 a2 = V := ⟨_, rfl⟩
  have he := hV
  unfold f_X7_worth at he
  have hT0 : TI M M := TI_rf hI
  have qb_M := hI.1
  have qs_M := hI.2.1
  have qz_M := hI.2.2.1
  refine lv_aload_n hx hb dX7_worth_0 rfl (lv_at hl 0 rfl) ?_
  refine lv_iconst (v := 0) hx hb dX7_worth_1 (by decide) ?_
  refine pX7_19 hx hb hG hown hK hP had AW_in hS gw_5_19 dX7_worth_2 (fun H locs hP hS => ?_)
  obtain ⟨M_1, eM_1⟩ : ∃ y : Mem, y = up2 M 0 19 0 := ⟨_, rfl⟩
  rw [← eM_1] at hP
  have he := bnd_at he eM_1
  have hTM_1 : TI M M_1 := by rw [eM_1]; exact TI_f hT0 (by decide)
  have qb_M_1 := hTM_1.1.1
  have qs_M_1 := hTM_1.1.2.1
  have qz_M_1 := hTM_1.1.2.2.1
  refine lv_iload_n hx hb dX7_worth_5 rfl (lv_at hl 1 rfl) ?_
  refine lv_i2l (v := a1.toInt64) hx hb dX7_worth_6 rfl ?_
  refine lv_lconst (v := 0) hx hb dX7_worth_7 (by decide) ?_
  refine lv_ldc2 (v := 100) hx hb hown (hG _ gw_22_4) dX7_worth_8 ?_
  refine callS_i [.long a1.toInt64, .long 0, .long 100] [] hx hb hml hG hown hK (c_X7_in had (M := M_1)  a1.toInt64 0 100) gw_7_2 gm_X7_in gd_X7_in rfl rfl ⟨Nat.le_of_ble_eq_true rfl, Nat.le_of_ble_eq_true rfl⟩ ⟨Nat.le_refl _, Nat.le_refl _⟩ hP (fun _ h => h) hS rfl hl.1 rfl (Nat.le_of_ble_eq_true rfl) dX7_worth_11 (fun r_2 u_4 H locs hF_3 hP hS => ?_)
  obtain ⟨hz_5, hF_3, hu⟩ := hF_3; rw [hu] at hP; subst hF_3
  refine lv_if_eq (tgt := 29) hx hb dX7_worth_14 (by decide) (fun hc_6 => ?_) (fun hc_6 => ?_)
  · have he := ite_t he hc_6
    refine lv_iconst (v := (-1)) hx hb dX7_worth_29 (by decide) ?_
    exact hret _ _ _ _ _ _ ⟨(hV.trans he.symm), hTM_1⟩ hP hS dX7_worth_30
  · have he := ite_f he hc_6
    refine lv_iload_n hx hb dX7_worth_17 rfl (lv_at hl 2 rfl) ?_
    refine lv_i2l (v := a2.toInt64) hx hb dX7_worth_18 rfl ?_
    refine lv_lconst (v := 1) hx hb dX7_worth_19 (by decide) ?_
    refine lv_ldc2 (v := 20) hx hb hown (hG _ gw_17_21) dX7_worth_20 ?_
    refine callS_i [.long a2.toInt64, .long 1, .long 20] [] hx hb hml hG hown hK (c_X7_in had (M := M_1)  a2.toInt64 1 20) gw_7_2 gm_X7_in gd_X7_in rfl rfl ⟨Nat.le_of_ble_eq_true rfl, Nat.le_of_ble_eq_true rfl⟩ ⟨Nat.le_refl _, Nat.le_refl _⟩ hP (fun _ h => h) hS rfl hl.1 rfl (Nat.le_of_ble_eq_true rfl) dX7_worth_23 (fun r_7 u_9 H locs hF_8 hP hS => ?_)
    obtain ⟨hz_10, hF_8, hu⟩ := hF_8; rw [hu] at hP; subst hF_8
    refine lv_if_ne (tgt := 31) hx hb dX7_worth_26 (by decide) (fun hc_11 => ?_) (fun hc_11 => ?_)
    · have he := ite_t he hc_11
      refine lv_aload_n hx hb dX7_worth_31 rfl (lv_at hl 0 rfl) ?_
      refine gX7_8 hx hb hG hown hK hP gw_7_15 dX7_worth_32 ?_
      refine lv_iconst (v := 2) hx hb dX7_worth_35 (by decide) ?_
      refine lv_icmp_ge (tgt := 42) hx hb dX7_worth_36 (by decide) (fun hc_12 => ?_) (fun hc_12 => ?_)
      · have he := ite_t he hc_12
        refine lv_iconst (v := 0) hx hb dX7_worth_42 (by decide) ?_
        refine lv_istore_n (lv' := [(3, .int 0), (0, .ref (ad 0)), (1, .int a1), (2, .int a2)]) hx hb dX7_worth_43 rfl hl (by decide) rfl (fun ls hl => ?_)
        refine lv_aload_n hx hb dX7_worth_44 rfl (lv_at hl 1 rfl) ?_
        refine call_v [] [] hx hb hml hG hown hK (c_X7_open had M_1 hTM_1.1) gw_28_16 gm_X7_open gd_X7_open rfl rfl ⟨Nat.le_of_ble_eq_true rfl, Nat.le_of_ble_eq_true rfl⟩ ⟨Nat.le_refl _, Nat.le_refl _⟩ (rX7 hK hP) hP (fun _ h => h) hS rfl hl.1 rfl (Nat.le_of_ble_eq_true rfl) dX7_worth_45 (fun M_15 H locs hF_14 hP hS => ?_)
        obtain ⟨hF_14, hti_16⟩ := hF_14
        have he := bnd_at he hF_14.symm
        have hNM_15 := hti_16.2
        have hTM_15 : TI M M_15 := TI_tr hTM_1 hti_16.1
        have qb_M_15 := hTM_15.1.1
        have qs_M_15 := hTM_15.1.2.1
        have qz_M_15 := hTM_15.1.2.2.1
        refine lv_iconst (v := 0) hx hb dX7_worth_48 (by decide) ?_
        refine lv_istore (lv' := [(4, .int 0), (3, .int 0), (0, .ref (ad 0)), (1, .int a1), (2, .int a2)]) hx hb dX7_worth_49 hl (by decide) rfl (fun ls hl => ?_)
        obtain ⟨w_77, M_78, hr_50, he⟩ := bnd2_ex he
        have j154 : ∀ (H : Heap) (locs : List Loc) (ls : Array Slot), TI M M_78 → SN (M_78 20) → va_P D vwCl (wld 31 ad (cM ad k M_78)) H → va_S (AW 31 ad) s.heap H locs → lv_has ls 6 [(0, .ref (ad 0)), (3, .int w_77)] → W p l e rm_X7_worth s m args below meth c H locs 0 0 Q (F0 m 154 ls []) := by
          intro H locs ls hTM_78 hNM_78 hP hS hl
          have qb_M_78 := hTM_78.1.1
          have qs_M_78 := hTM_78.1.2.1
          have qz_M_78 := hTM_78.1.2.2.1
          refine lv_aload_n hx hb dX7_worth_154 rfl (lv_at hl 0 rfl) ?_
          refine call_v [] [] hx hb hml hG hown hK (c_X7_close had M_78 hTM_78.1 hNM_78) gw_29_15 gm_X7_close gd_X7_close rfl rfl ⟨Nat.le_of_ble_eq_true rfl, Nat.le_of_ble_eq_true rfl⟩ ⟨Nat.le_refl _, Nat.le_refl _⟩ (rX7 hK hP) hP (fun _ h => h) hS rfl hl.1 rfl (Nat.le_of_ble_eq_true rfl) dX7_worth_155 (fun M_81 H locs hF_80 hP hS => ?_)
          obtain ⟨hF_80, hti_82⟩ := hF_80
          have he := bnd_at he hF_80.symm
          have hNM_81 : SN (M_81 20) := hti_82.2 hNM_78
          have hTM_81 : TI M M_81 := TI_tr hTM_78 hti_82
          have qb_M_81 := hTM_81.1.1
          have qs_M_81 := hTM_81.1.2.1
          have qz_M_81 := hTM_81.1.2.2.1
          refine lv_iload_n hx hb dX7_worth_158 rfl (lv_at hl 1 rfl) ?_
          exact hret _ _ _ _ _ _ ⟨(hV.trans he.symm), hTM_81⟩ hP hS dX7_worth_159
        have lp51 : ∀ (nn : Nat) (H : Heap) (locs : List Loc) (ls : Array Slot) (M_49 : Mem) (v_47 : Int32) (v_48 : Int32), (0 ≤ v_48.toInt) → (TI M M_49) → (SN (M_49 20)) → (a2.toInt - v_48.toInt).toNat < nn → lp_X7_worth_51 nn a1 a2 M_49 v_47 v_48 = (w_77, M_78) → va_P D vwCl (wld 31 ad (cM ad k M_49)) H → va_S (AW 31 ad) s.heap H locs → lv_has ls 6 [(0, .ref (ad 0)), (1, .int a1), (2, .int a2), (3, .int v_47), (4, .int v_48)] → W p l e rm_X7_worth s m args below meth c H locs 0 0 Q (F0 m 51 ls []) := by
          intro nn
          induction nn with
          | zero =>
            intro H locs ls M_49 v_47 v_48 h0v_48 hTM_49 hNM_49 hμ
            exact absurd hμ (Nat.not_lt_zero _)
          | succ nn ih =>
            intro H locs ls M_49 v_47 v_48 h0v_48 hTM_49 hNM_49 hμ hr_50 hP hS hl
            rw [lp_X7_worth_51] at hr_50
            have qb_M_49 := hTM_49.1.1
            have qs_M_49 := hTM_49.1.2.1
            have qz_M_49 := hTM_49.1.2.2.1
            refine lv_iload hx hb dX7_worth_51 (lv_at hl 4 rfl) ?_
            refine lv_iload_n hx hb dX7_worth_53 rfl (lv_at hl 2 rfl) ?_
            refine lv_icmp_ge (tgt := 154) hx hb dX7_worth_54 (by decide) (fun hc_51 => ?_) (fun hc_51 => ?_)
            · have hr_50 := ite_t hr_50 hc_51
              cases hr_50
              exact j154 _ _ _ hTM_49 hNM_49 hP hS (lv_sub hl [0, 3] rfl)
            · have hr_50 := ite_f hr_50 hc_51
              refine lv_aload_n hx hb dX7_worth_57 rfl (lv_at hl 0 rfl) ?_
              refine call_v [] [] hx hb hml hG hown hK (c_X7_close had M_49 hTM_49.1 hNM_49) gw_29_15 gm_X7_close gd_X7_close rfl rfl ⟨Nat.le_of_ble_eq_true rfl, Nat.le_of_ble_eq_true rfl⟩ ⟨Nat.le_refl _, Nat.le_refl _⟩ (rX7 hK hP) hP (fun _ h => h) hS rfl hl.1 rfl (Nat.le_of_ble_eq_true rfl) dX7_worth_58 (fun M_54 H locs hF_53 hP hS => ?_)
              obtain ⟨hF_53, hti_55⟩ := hF_53
              have hr_50 := bnd_at hr_50 hF_53.symm
              have hNM_54 : SN (M_54 20) := hti_55.2 hNM_49
              have hTM_54 : TI M M_54 := TI_tr hTM_49 hti_55
              have qb_M_54 := hTM_54.1.1
              have qs_M_54 := hTM_54.1.2.1
              have qz_M_54 := hTM_54.1.2.2.1
              refine lv_aload_n hx hb dX7_worth_61 rfl (lv_at hl 0 rfl) ?_
              refine lv_iload hx hb dX7_worth_62 (lv_at hl 4 rfl) ?_
              refine pX7_4 hx hb hG hown hK hP had AW_in hS gw_7_1 dX7_worth_64 (fun H locs hP hS => ?_)
              obtain ⟨M_56, eM_56⟩ : ∃ y : Mem, y = up2 M_54 0 4 v_48 := ⟨_, rfl⟩
              rw [← eM_56] at hP
              have hr_50 := bnd_at hr_50 eM_56
              have hTM_56 : TI M M_56 := by rw [eM_56]; exact TI_f hTM_54 (by decide)
              have qb_M_56 := hTM_56.1.1
              have qs_M_56 := hTM_56.1.2.1
              have qz_M_56 := hTM_56.1.2.2.1
              have hNM_56 : SN (M_56 20) := by rw [eM_56, up2_o _ _ (by decide)]; exact hNM_54
              refine lv_aload_n hx hb dX7_worth_67 rfl (lv_at hl 0 rfl) ?_
              refine gX7_14 hx hb hG hown hK hP gw_4_19 dX7_worth_68 ?_
              refine lv_iconst (v := 0) hx hb dX7_worth_71 (by decide) ?_
              refine al_M7 hx hb hK hP (vin_I (by decide) (by decide)) dX7_worth_72 ?_
              refine lv_iload_n hx hb dX7_worth_73 rfl (lv_at hl 1 rfl) ?_
              refine lv_iadd hx hb dX7_worth_74 ?_
              refine lv_aload_n hx hb dX7_worth_75 rfl (lv_at hl 0 rfl) ?_
              refine gX7_0 hx hb hG hown hK hP gw_4_10 dX7_worth_76 ?_
              obtain ⟨t_59, hr_58, hr_50⟩ := bnd_ex hr_50
              have j97 : ∀ (H : Heap) (locs : List Loc) (ls : Array Slot), va_P D vwCl (wld 31 ad (cM ad k M_56)) H → va_S (AW 31 ad) s.heap H locs → lv_has ls 6 [(0, .ref (ad 0)), (1, .int a1), (2, .int a2), (3, .int v_47), (4, .int v_48)] → W p l e rm_X7_worth s m args below meth c H locs 0 0 Q (F0 m 97 ls [.int t_59]) := by
                intro H locs ls hP hS hl
                refine lv_istore (lv' := [(5, .int t_59), (0, .ref (ad 0)), (1, .int a1), (2, .int a2), (3, .int v_47), (4, .int v_48)]) hx hb dX7_worth_97 hl (by decide) rfl (fun ls hl => ?_)
                refine lv_aload_n hx hb dX7_worth_99 rfl (lv_at hl 1 rfl) ?_
                refine gX7_14 hx hb hG hown hK hP gw_4_19 dX7_worth_100 ?_
                refine lv_iconst (v := 0) hx hb dX7_worth_103 (by decide) ?_
                refine lv_iload hx hb dX7_worth_104 (lv_at hl 0 rfl) ?_
                refine lv_aload_n hx hb dX7_worth_106 rfl (lv_at hl 1 rfl) ?_
                refine gX7_14 hx hb hG hown hK hP gw_4_19 dX7_worth_107 ?_
                refine lv_iconst (v := 0) hx hb dX7_worth_110 (by decide) ?_
                refine al_M7 hx hb hK hP (vin_I (by decide) (by decide)) dX7_worth_111 ?_
                obtain ⟨t_62, hr_61, hr_50⟩ := bnd_ex hr_50
                have j126 : ∀ (H : Heap) (locs : List Loc) (ls : Array Slot), va_P D vwCl (wld 31 ad (cM ad k M_56)) H → va_S (AW 31 ad) s.heap H locs → lv_has ls 6 [(0, .ref (ad 0)), (1, .int a1), (2, .int a2), (3, .int v_47), (4, .int v_48)] → W p l e rm_X7_worth s m args below meth c H locs 0 0 Q (F0 m 126 ls [.int t_62, .int 0, .ref (ad 7)]) := by
                  intro H locs ls hP hS hl
                  refine as_M7 hx hb hK hP had AW_in hS (vin_I (by decide) (by decide)) dX7_worth_126 (fun H locs hP hS => ?_)
                  obtain ⟨M_63, eM_63⟩ : ∃ y : Mem, y = up2 M_56 7 (0 : Int32).toNatClampNeg t_62 := ⟨_, rfl⟩
                  rw [← eM_63] at hP
                  have hr_50 := bnd_at hr_50 eM_63
                  have hTM_63 : TI M M_63 := by rw [eM_63]; exact TI_a hTM_56 (by decide)
                  have qb_M_63 := hTM_63.1.1
                  have qs_M_63 := hTM_63.1.2.1
                  have qz_M_63 := hTM_63.1.2.2.1
                  have hNM_63 : SN (M_63 20) := by rw [eM_63, up2_o _ _ (by decide)]; exact hNM_56
                  refine lv_aload_n hx hb dX7_worth_127 rfl (lv_at hl 0 rfl) ?_
                  refine call_v [] [] hx hb hml hG hown hK (c_X7_raceToEnd had M_63 hTM_63.1) gw_29_11 gm_X7_raceToEnd gd_X7_raceToEnd rfl rfl ⟨Nat.le_of_ble_eq_true rfl, Nat.le_of_ble_eq_true rfl⟩ ⟨Nat.le_refl _, Nat.le_refl _⟩ (rX7 hK hP) hP (fun _ h => h) hS rfl hl.1 rfl (Nat.le_of_ble_eq_true rfl) dX7_worth_128 (fun M_66 H locs hF_65 hP hS => ?_)
                  obtain ⟨hF_65, hti_67⟩ := hF_65
                  have hr_50 := bnd_at hr_50 hF_65.symm
                  have hNM_66 : SN (M_66 20) := hti_67.2 hNM_63
                  have hTM_66 : TI M M_66 := TI_tr hTM_63 hti_67
                  have qb_M_66 := hTM_66.1.1
                  have qs_M_66 := hTM_66.1.2.1
                  have qz_M_66 := hTM_66.1.2.2.1
                  refine lv_iload_n hx hb dX7_worth_131 rfl (lv_at hl 3 rfl) ?_
                  refine lv_aload_n hx hb dX7_worth_132 rfl (lv_at hl 0 rfl) ?_
                  refine lv_iconst (v := 0) hx hb dX7_worth_133 (by decide) ?_
                  refine lv_iconst (v := 1) hx hb dX7_worth_134 (by decide) ?_
                  refine call_i [.int 0, .int 1] [.int v_47] hx hb hml hG hown hK (c_X7_isAhead had M_66 0 1 hTM_66.1 (by have ll0 : (0 : Int32).toInt = 0 := rfl; have ll1 : (1 : Int32).toInt = 1 := rfl; omega) (by have ll0 : (0 : Int32).toInt = 0 := rfl; have ll1 : (1 : Int32).toInt = 1 := rfl; omega)) gw_27_10 gm_X7_isAhead gd_X7_isAhead rfl rfl ⟨Nat.le_of_ble_eq_true rfl, Nat.le_of_ble_eq_true rfl⟩ ⟨Nat.le_refl _, Nat.le_refl _⟩ (rX7 hK hP) hP (fun _ h => h) hS rfl hl.1 rfl (Nat.le_of_ble_eq_true rfl) dX7_worth_135 (fun r_68 u_70 H locs hF_69 hP hS => ?_)
                  obtain ⟨hz_71, hF_69, hu⟩ := hF_69; rw [hu] at hP; subst hF_69
                  obtain ⟨t_74, hr_73, hr_50⟩ := bnd_ex hr_50
                  have j146 : ∀ (H : Heap) (locs : List Loc) (ls : Array Slot), (t_74 = 0 ∨ t_74 = 1) → va_P D vwCl (wld 31 ad (cM ad k M_66)) H → va_S (AW 31 ad) s.heap H locs → lv_has ls 6 [(0, .ref (ad 0)), (1, .int a1), (2, .int a2), (4, .int v_48)] → W p l e rm_X7_worth s m args below meth c H locs 0 0 Q (F0 m 146 ls [.int t_74, .int v_47]) := by
                    intro H locs ls zt_74 hP hS hl
                    refine lv_iadd hx hb dX7_worth_146 ?_
                    refine lv_topi (fun y_75 ey_75 => ?_)
                    have hr_50 := bnd_at hr_50 ey_75
                    refine lv_istore_n (lv' := [(3, .int y_75), (0, .ref (ad 0)), (1, .int a1), (2, .int a2), (4, .int v_48)]) hx hb dX7_worth_147 rfl hl (by decide) rfl (fun ls hl => ?_)
                    obtain ⟨y_76, ey_76⟩ : ∃ y_76 : Int32, y_76 = v_48 + 1 := ⟨_, rfl⟩
                    have hr_50 := bnd_at hr_50 ey_76
                    refine lv_iinc (v := y_76) (lv' := [(4, .int y_76), (3, .int y_75), (0, .ref (ad 0)), (1, .int a1), (2, .int a2)]) hx hb dX7_worth_148 hl (k := 4) rfl (by rw [ey_76]; rfl) (by decide) rfl (fun ls hl => ?_)
                    refine lv_goto (tgt := 51) hx hb dX7_worth_151 (by decide) ?_
                    exact ih _ _ _ _ _ _ (by rw [ey_76, inc_I (N := a2.toInt) (nle_I hc_51) (Int32.toInt_le _)]; omega) hTM_66 hNM_66 (by rw [ey_76]; exact mu_I hμ (nle_I hc_51) (Int32.toInt_le _)) hr_50 hP hS (lv_sub hl [2, 3, 4, 1, 0] rfl)
                  refine lv_if_eq (tgt := 145) hx hb dX7_worth_138 (by decide) (fun hc_72 => ?_) (fun hc_72 => ?_)
                  · have hr_73 := ite_t hr_73 hc_72
                    refine lv_iconst (v := 0) hx hb dX7_worth_145 (by decide) ?_
                    cases hr_73
                    exact j146 _ _ _ (Or.inl rfl) hP hS (lv_sub hl [0, 1, 2, 4] rfl)
                  · have hr_73 := ite_f hr_73 hc_72
                    refine lv_iconst (v := 1) hx hb dX7_worth_141 (by decide) ?_
                    refine lv_goto (tgt := 146) hx hb dX7_worth_142 (by decide) ?_
                    cases hr_73
                    exact j146 _ _ _ (Or.inr rfl) hP hS (lv_sub hl [0, 1, 2, 4] rfl)
                refine lv_icmp_le (tgt := 120) hx hb dX7_worth_112 (by decide) (fun hc_60 => ?_) (fun hc_60 => ?_)
                · have hr_61 := ite_t hr_61 hc_60
                  refine lv_aload_n hx hb dX7_worth_120 rfl (lv_at hl 1 rfl) ?_
                  refine gX7_14 hx hb hG hown hK hP gw_4_19 dX7_worth_121 ?_
                  refine lv_iconst (v := 0) hx hb dX7_worth_124 (by decide) ?_
                  refine al_M7 hx hb hK hP (vin_I (by decide) (by decide)) dX7_worth_125 ?_
                  cases hr_61
                  exact j126 _ _ _ hP hS (lv_sub hl [1, 2, 3, 4, 5] rfl)
                · have hr_61 := ite_f hr_61 hc_60
                  refine lv_iload hx hb dX7_worth_115 (lv_at hl 0 rfl) ?_
                  refine lv_goto (tgt := 126) hx hb dX7_worth_117 (by decide) ?_
                  cases hr_61
                  exact j126 _ _ _ hP hS (lv_sub hl [1, 2, 3, 4, 5] rfl)
              refine lv_icmp_le (tgt := 89) hx hb dX7_worth_79 (by decide) (fun hc_57 => ?_) (fun hc_57 => ?_)
              · have hr_58 := ite_t hr_58 hc_57
                refine lv_aload_n hx hb dX7_worth_89 rfl (lv_at hl 0 rfl) ?_
                refine gX7_14 hx hb hG hown hK hP gw_4_19 dX7_worth_90 ?_
                refine lv_iconst (v := 0) hx hb dX7_worth_93 (by decide) ?_
                refine al_M7 hx hb hK hP (vin_I (by decide) (by decide)) dX7_worth_94 ?_
                refine lv_iload_n hx hb dX7_worth_95 rfl (lv_at hl 1 rfl) ?_
                refine lv_iadd hx hb dX7_worth_96 ?_
                cases hr_58
                exact j97 _ _ _ hP hS (lv_sub hl [0, 1, 2, 3, 4] rfl)
              · have hr_58 := ite_f hr_58 hc_57
                refine lv_aload_n hx hb dX7_worth_82 rfl (lv_at hl 0 rfl) ?_
                refine gX7_0 hx hb hG hown hK hP gw_4_10 dX7_worth_83 ?_
                refine lv_goto (tgt := 97) hx hb dX7_worth_86 (by decide) ?_
                cases hr_58
                exact j97 _ _ _ hP hS (lv_sub hl [0, 1, 2, 3, 4] rfl)
        exact lp51 _ _ _ _ _ _ _ (by decide) hTM_15 hNM_15 (Nat.lt_succ_self _) hr_50 hP hS (lv_sub hl [2, 3, 4, 1, 0] rfl)
      · have he := ite_f he hc_12
        refine lv_bipush (v := (-3)) hx hb dX7_worth_39 (by decide) ?_
        exact hret _ _ _ _ _ _ ⟨(hV.trans he.symm), hTM_1⟩ hP hS dX7_worth_41
    · have he := ite_f he (fun q => q hc_11)
      refine lv_iconst (v := (-1)) hx hb dX7_worth_29 (by decide) ?_
      exact hret _ _ _ _ _ _ ⟨(hV.trans he.symm), hTM_1⟩ hP hS dX7_worth_30
def rm_X7_pairs : Room := { frames := 6, cells := 0, slots := 0, locals := 128 }
theorem gm_X7_pairs : Cond.instanceMethod yX7_pairs ∈ wsL_law ∧ Cond.selects RX7 yX7_pairs yX7_pairs ∈ wsL_law ∧ Cond.initialized RX7 ∈ wsL_law ∧ Cond.code yX7_pairs cX7_pairs 2 (some .int) ∈ wsL_law := ⟨gw_39_1, gw_39_2, gw_1_5, gw_39_3⟩
theorem gd_X7_pairs : yX7_pairs.cls = RX7 ∧ yX7_pairs.cls ≠ "java/lang/invoke/MethodHandle" ∧ yX7_pairs.cls ≠ "java/lang/invoke/VarHandle" ∧ (parseMethodDescriptor yX7_pairs.desc).map (fun d => d.parameters.length) = some 0 := by decide +kernel
set_option maxRecDepth 100000 in
set_option maxHeartbeats 0 in
theorem c_X7_pairs {l : Launch} {D : va_G} {k : Nat → ClassId} {ad : Nat → Nat} (had : InjN 31 ad) (M : Mem) (hI : MI M) : Met l yX7_pairs (Cond.code yX7_pairs cX7_pairs 2 (some .int) :: wsL_law) rm_X7_pairs (va_Pc [.ref (ad 0)] (GW 31 ad D k (cM ad k M))) (va_Qi (fun r u => (f_X7_pairs M = (r, u) ∧ TI M u)) (fun u t => GW 31 ad D k (cM ad k u) t) (AW 31 ad)) 0 0 (AW 31 ad) := by
  refine met_i (g := cM ad k) (M := M) (plainFor_of_name (by decide)) (Nat.le_of_ble_eq_true rfl) ?_
  intro p e s m args below meth c Q ls hx hb hml hG hown hK hret hP hS hl
  have hl : lv_has ls 2 [(0, .ref (ad 0))] := hl
  obtain ⟨V, hV⟩ : ∃ V, f_X7_pairs M = V := ⟨_, rfl⟩
  have he := hV
  unfold f_X7_pairs at he
  have hT0 : TI M M := TI_rf hI
  have qb_M := hI.1
  have qs_M := hI.2.1
  have qz_M := hI.2.2.1
  refine lv_aload_n hx hb dX7_pairs_0 rfl (lv_at hl 0 rfl) ?_
  refine lv_iconst (v := 0) hx hb dX7_pairs_1 (by decide) ?_
  refine pX7_19 hx hb hG hown hK hP had AW_in hS gw_5_19 dX7_pairs_2 (fun H locs hP hS => ?_)
  obtain ⟨M_1, eM_1⟩ : ∃ y : Mem, y = up2 M 0 19 0 := ⟨_, rfl⟩
  rw [← eM_1] at hP
  have he := bnd_at he eM_1
  have hTM_1 : TI M M_1 := by rw [eM_1]; exact TI_f hT0 (by decide)
  have qb_M_1 := hTM_1.1.1
  have qs_M_1 := hTM_1.1.2.1
  have qz_M_1 := hTM_1.1.2.2.1
  refine lv_aload_n hx hb dX7_pairs_5 rfl (lv_at hl 0 rfl) ?_
  refine gX7_8 hx hb hG hown hK hP gw_7_15 dX7_pairs_6 ?_
  refine lv_iconst (v := 4) hx hb dX7_pairs_9 (by decide) ?_
  refine lv_icmp_ge (tgt := 16) hx hb dX7_pairs_10 (by decide) (fun hc_2 => ?_) (fun hc_2 => ?_)
  · have he := ite_t he hc_2
    refine lv_aload_n hx hb dX7_pairs_16 rfl (lv_at hl 0 rfl) ?_
    refine call_v [] [] hx hb hml hG hown hK (c_X7_open had M_1 hTM_1.1) gw_28_16 gm_X7_open gd_X7_open rfl rfl ⟨Nat.le_of_ble_eq_true rfl, Nat.le_of_ble_eq_true rfl⟩ ⟨Nat.le_refl _, Nat.le_refl _⟩ (rX7 hK hP) hP (fun _ h => h) hS rfl hl.1 rfl (Nat.le_of_ble_eq_true rfl) dX7_pairs_17 (fun M_5 H locs hF_4 hP hS => ?_)
    obtain ⟨hF_4, hti_6⟩ := hF_4
    have he := bnd_at he hF_4.symm
    have hNM_5 := hti_6.2
    have hTM_5 : TI M M_5 := TI_tr hTM_1 hti_6.1
    have qb_M_5 := hTM_5.1.1
    have qs_M_5 := hTM_5.1.2.1
    have qz_M_5 := hTM_5.1.2.2.1
    refine lv_aload_n hx hb dX7_pairs_20 rfl (lv_at hl 0 rfl) ?_
    refine call_v [] [] hx hb hml hG hown hK (c_X7_raceToEnd had M_5 hTM_5.1) gw_29_11 gm_X7_raceToEnd gd_X7_raceToEnd rfl rfl ⟨Nat.le_of_ble_eq_true rfl, Nat.le_of_ble_eq_true rfl⟩ ⟨Nat.le_refl _, Nat.le_refl _⟩ (rX7 hK hP) hP (fun _ h => h) hS rfl hl.1 rfl (Nat.le_of_ble_eq_true rfl) dX7_pairs_21 (fun M_9 H locs hF_8 hP hS => ?_)
    obtain ⟨hF_8, hti_10⟩ := hF_8
    have he := bnd_at he hF_8.symm
    have hNM_9 : SN (M_9 20) := hti_10.2 hNM_5
    have hTM_9 : TI M M_9 := TI_tr hTM_5 hti_10
    have qb_M_9 := hTM_9.1.1
    have qs_M_9 := hTM_9.1.2.1
    have qz_M_9 := hTM_9.1.2.2.1
    refine lv_aload_n hx hb dX7_pairs_24 rfl (lv_at hl 0 rfl) ?_
    refine lv_iconst (v := 0) hx hb dX7_pairs_25 (by decide) ?_
    refine call_i [.int 0] [] hx hb hml hG hown hK (c_X7_placeOf had M_9 0 hTM_9.1 (by have ll0 : (0 : Int32).toInt = 0 := rfl; omega)) gw_27_6 gm_X7_placeOf gd_X7_placeOf rfl rfl ⟨Nat.le_of_ble_eq_true rfl, Nat.le_of_ble_eq_true rfl⟩ ⟨Nat.le_refl _, Nat.le_refl _⟩ (rX7 hK hP) hP (fun _ h => h) hS rfl hl.1 rfl (Nat.le_of_ble_eq_true rfl) dX7_pairs_26 (fun r_11 u_13 H locs hF_12 hP hS => ?_)
    obtain ⟨hF_12, hu⟩ := hF_12; rw [hu] at hP; subst hF_12
    refine lv_aload_n hx hb dX7_pairs_29 rfl (lv_at hl 0 rfl) ?_
    refine lv_iconst (v := 1) hx hb dX7_pairs_30 (by decide) ?_
    refine call_i [.int 1] [.int (f_X7_placeOf M_9 0)] hx hb hml hG hown hK (c_X7_placeOf had M_9 1 hTM_9.1 (by have ll1 : (1 : Int32).toInt = 1 := rfl; omega)) gw_27_6 gm_X7_placeOf gd_X7_placeOf rfl rfl ⟨Nat.le_of_ble_eq_true rfl, Nat.le_of_ble_eq_true rfl⟩ ⟨Nat.le_refl _, Nat.le_refl _⟩ (rX7 hK hP) hP (fun _ h => h) hS rfl hl.1 rfl (Nat.le_of_ble_eq_true rfl) dX7_pairs_31 (fun r_14 u_16 H locs hF_15 hP hS => ?_)
    obtain ⟨hF_15, hu⟩ := hF_15; rw [hu] at hP; subst hF_15
    refine lv_iadd hx hb dX7_pairs_34 ?_
    refine lv_topi (fun y_17 ey_17 => ?_)
    have he := bnd_at he ey_17
    refine lv_istore_n (lv' := [(1, .int y_17), (0, .ref (ad 0))]) hx hb dX7_pairs_35 rfl hl (by decide) rfl (fun ls hl => ?_)
    refine lv_aload_n hx hb dX7_pairs_36 rfl (lv_at hl 1 rfl) ?_
    refine call_v [] [] hx hb hml hG hown hK (c_X7_close had M_9 hTM_9.1 hNM_9) gw_29_15 gm_X7_close gd_X7_close rfl rfl ⟨Nat.le_of_ble_eq_true rfl, Nat.le_of_ble_eq_true rfl⟩ ⟨Nat.le_refl _, Nat.le_refl _⟩ (rX7 hK hP) hP (fun _ h => h) hS rfl hl.1 rfl (Nat.le_of_ble_eq_true rfl) dX7_pairs_37 (fun M_20 H locs hF_19 hP hS => ?_)
    obtain ⟨hF_19, hti_21⟩ := hF_19
    have he := bnd_at he hF_19.symm
    have hNM_20 : SN (M_20 20) := hti_21.2 hNM_9
    have hTM_20 : TI M M_20 := TI_tr hTM_9 hti_21
    have qb_M_20 := hTM_20.1.1
    have qs_M_20 := hTM_20.1.2.1
    have qz_M_20 := hTM_20.1.2.2.1
    refine lv_iload_n hx hb dX7_pairs_40 rfl (lv_at hl 0 rfl) ?_
    exact hret _ _ _ _ _ _ ⟨(hV.trans he.symm), hTM_20⟩ hP hS dX7_pairs_41
  · have he := ite_f he hc_2
    refine lv_bipush (v := (-3)) hx hb dX7_pairs_13 (by decide) ?_
    exact hret _ _ _ _ _ _ ⟨(hV.trans he.symm), hTM_1⟩ hP hS dX7_pairs_15
def rm_X7_count : Room := { frames := 2, cells := 0, slots := 0, locals := 49 }
theorem gm_X7_count : Cond.instanceMethod yX7_count ∈ wsL_law ∧ Cond.selects RX7 yX7_count yX7_count ∈ wsL_law ∧ Cond.initialized RX7 ∈ wsL_law ∧ Cond.code yX7_count cX7_count 6 (some .int) ∈ wsL_law := ⟨gw_40_13, gw_40_14, gw_1_5, gw_40_15⟩
theorem gd_X7_count : yX7_count.cls = RX7 ∧ yX7_count.cls ≠ "java/lang/invoke/MethodHandle" ∧ yX7_count.cls ≠ "java/lang/invoke/VarHandle" ∧ (parseMethodDescriptor yX7_count.desc).map (fun d => d.parameters.length) = some 1 := by decide +kernel
set_option maxRecDepth 100000 in
set_option maxHeartbeats 0 in
theorem c_X7_count {l : Launch} {D : va_G} {k : Nat → ClassId} {ad : Nat → Nat} (had : InjN 31 ad) (M : Mem) (a1 : Int32) (hI : MI M) : Met l yX7_count (Cond.code yX7_count cX7_count 6 (some .int) :: wsL_law) rm_X7_count (va_Pc [.ref (ad 0), .int a1] (GW 31 ad D k (cM ad k M))) (va_Qi (fun r u => (f_X7_count M a1 = (r, u) ∧ TI M u)) (fun u t => GW 31 ad D k (cM ad k u) t) (AW 31 ad)) 0 0 (AW 31 ad) := by
  refine met_i (g := cM ad k) (M := M) (plainFor_of_name (by decide)) (Nat.le_of_ble_eq_true rfl) ?_
  intro p e s m args below meth c Q ls hx hb hml hG hown hK hret hP hS hl
  have hl : lv_has ls 6 [(0, .ref (ad 0)), (1, .int a1)] := hl
  obtain ⟨V, hV⟩ : ∃ V, f_X7_count M a1 = V := ⟨_, rfl⟩
  have he := hV
  unfold f_X7_count at he
  have hT0 : TI M M := TI_rf hI
  have qb_M := hI.1
  have qs_M := hI.2.1
  have qz_M := hI.2.2.1
  refine lv_aload_n hx hb dX7_count_0 rfl (lv_at hl 0 rfl) ?_
  refine lv_iconst (v := 0) hx hb dX7_count_1 (by decide) ?_
  refine pX7_19 hx hb hG hown hK hP had AW_in hS gw_5_19 dX7_count_2 (fun H locs hP hS => ?_)
  obtain ⟨M_1, eM_1⟩ : ∃ y : Mem, y = up2 M 0 19 0 := ⟨_, rfl⟩
  rw [← eM_1] at hP
  have he := bnd_at he eM_1
  have hTM_1 : TI M M_1 := by rw [eM_1]; exact TI_f hT0 (by decide)
  have qb_M_1 := hTM_1.1.1
  have qs_M_1 := hTM_1.1.2.1
  have qz_M_1 := hTM_1.1.2.2.1
  refine lv_iconst (v := 0) hx hb dX7_count_5 (by decide) ?_
  refine lv_istore_n (lv' := [(2, .int 0), (0, .ref (ad 0)), (1, .int a1)]) hx hb dX7_count_6 rfl hl (by decide) rfl (fun ls hl => ?_)
  refine lv_iconst (v := 0) hx hb dX7_count_7 (by decide) ?_
  refine lv_istore_n (lv' := [(3, .int 0), (2, .int 0), (0, .ref (ad 0)), (1, .int a1)]) hx hb dX7_count_8 rfl hl (by decide) rfl (fun ls hl => ?_)
  refine lv_iconst (v := 0) hx hb dX7_count_9 (by decide) ?_
  refine lv_istore (lv' := [(4, .int 0), (3, .int 0), (2, .int 0), (0, .ref (ad 0)), (1, .int a1)]) hx hb dX7_count_10 hl (by decide) rfl (fun ls hl => ?_)
  refine lv_iconst (v := 0) hx hb dX7_count_12 (by decide) ?_
  refine lv_istore (lv' := [(5, .int 0), (4, .int 0), (3, .int 0), (2, .int 0), (0, .ref (ad 0)), (1, .int a1)]) hx hb dX7_count_13 hl (by decide) rfl (fun ls hl => ?_)
  obtain ⟨w_50, w_51, w_52, hr_30, he⟩ := bnd3_ex he
  have j76 : ∀ (H : Heap) (locs : List Loc) (ls : Array Slot), va_P D vwCl (wld 31 ad (cM ad k M_1)) H → va_S (AW 31 ad) s.heap H locs → lv_has ls 6 [(0, .ref (ad 0)), (1, .int a1), (2, .int w_50), (3, .int w_51), (4, .int w_52)] → W p l e rm_X7_count s m args below meth c H locs 0 0 Q (F0 m 76 ls []) := by
    intro H locs ls hP hS hl
    refine lv_iload_n hx hb dX7_count_76 rfl (lv_at hl 1 rfl) ?_
    by_cases hw_53 : a1 = 0
    · have he := ite_t he hw_53
      refine lv_tableIn (tgt := 116) hx hb dX7_count_77 (by rw [hw_53]; decide) (by rw [hw_53]; decide) (by rw [hw_53]; rfl) (by decide) ?_
      refine lv_aload_n hx hb dX7_count_116 rfl (lv_at hl 0 rfl) ?_
      refine gX7_8 hx hb hG hown hK hP gw_7_15 dX7_count_117 ?_
      exact hret _ _ _ _ _ _ ⟨(hV.trans he.symm), hTM_1⟩ hP hS dX7_count_120
    · have he := ite_f he hw_53
      by_cases hw_54 : a1 = 1
      · have he := ite_t he hw_54
        refine lv_tableIn (tgt := 121) hx hb dX7_count_77 (by rw [hw_54]; decide) (by rw [hw_54]; decide) (by rw [hw_54]; rfl) (by decide) ?_
        refine lv_aload_n hx hb dX7_count_121 rfl (lv_at hl 0 rfl) ?_
        refine gX7_7 hx hb hG hown hK hP gw_15_12 dX7_count_122 ?_
        exact hret _ _ _ _ _ _ ⟨(hV.trans he.symm), hTM_1⟩ hP hS dX7_count_125
      · have he := ite_f he hw_54
        by_cases hw_55 : a1 = 2
        · have he := ite_t he hw_55
          refine lv_tableIn (tgt := 126) hx hb dX7_count_77 (by rw [hw_55]; decide) (by rw [hw_55]; decide) (by rw [hw_55]; rfl) (by decide) ?_
          refine lv_iload_n hx hb dX7_count_126 rfl (lv_at hl 2 rfl) ?_
          exact hret _ _ _ _ _ _ ⟨(hV.trans he.symm), hTM_1⟩ hP hS dX7_count_127
        · have he := ite_f he hw_55
          by_cases hw_56 : a1 = 3
          · have he := ite_t he hw_56
            refine lv_tableIn (tgt := 128) hx hb dX7_count_77 (by rw [hw_56]; decide) (by rw [hw_56]; decide) (by rw [hw_56]; rfl) (by decide) ?_
            refine lv_iload_n hx hb dX7_count_128 rfl (lv_at hl 3 rfl) ?_
            exact hret _ _ _ _ _ _ ⟨(hV.trans he.symm), hTM_1⟩ hP hS dX7_count_129
          · have he := ite_f he hw_56
            by_cases hw_57 : a1 = 4
            · have he := ite_t he hw_57
              refine lv_tableIn (tgt := 130) hx hb dX7_count_77 (by rw [hw_57]; decide) (by rw [hw_57]; decide) (by rw [hw_57]; rfl) (by decide) ?_
              refine lv_iload hx hb dX7_count_130 (lv_at hl 4 rfl) ?_
              exact hret _ _ _ _ _ _ ⟨(hV.trans he.symm), hTM_1⟩ hP hS dX7_count_132
            · have he := ite_f he hw_57
              by_cases hw_58 : a1 = 5
              · have he := ite_t he hw_58
                refine lv_tableIn (tgt := 133) hx hb dX7_count_77 (by rw [hw_58]; decide) (by rw [hw_58]; decide) (by rw [hw_58]; rfl) (by decide) ?_
                refine lv_aload_n hx hb dX7_count_133 rfl (lv_at hl 0 rfl) ?_
                refine gX7_0 hx hb hG hown hK hP gw_4_10 dX7_count_134 ?_
                exact hret _ _ _ _ _ _ ⟨(hV.trans he.symm), hTM_1⟩ hP hS dX7_count_137
              · have he := ite_f he hw_58
                refine lv_tableOut (tgt := 138) hx hb dX7_count_77 (by have q0 : a1.toInt ≠ 0 := ne_I hw_53; have q1 : a1.toInt ≠ 1 := ne_I hw_54; have q2 : a1.toInt ≠ 2 := ne_I hw_55; have q3 : a1.toInt ≠ 3 := ne_I hw_56; have q4 : a1.toInt ≠ 4 := ne_I hw_57; have q5 : a1.toInt ≠ 5 := ne_I hw_58; omega) (by decide) ?_
                refine lv_iconst (v := (-1)) hx hb dX7_count_138 (by decide) ?_
                exact hret _ _ _ _ _ _ ⟨(hV.trans he.symm), hTM_1⟩ hP hS dX7_count_139
  have lp15 : ∀ (nn : Nat) (H : Heap) (locs : List Loc) (ls : Array Slot) (v_26 : Int32) (v_27 : Int32) (v_28 : Int32) (v_29 : Int32), (0 ≤ v_29.toInt) → (4 - v_29.toInt).toNat < nn → lp_X7_count_15 nn M_1 v_26 v_27 v_28 v_29 = (w_50, w_51, w_52) → va_P D vwCl (wld 31 ad (cM ad k M_1)) H → va_S (AW 31 ad) s.heap H locs → lv_has ls 6 [(0, .ref (ad 0)), (1, .int a1), (2, .int v_26), (3, .int v_27), (4, .int v_28), (5, .int v_29)] → W p l e rm_X7_count s m args below meth c H locs 0 0 Q (F0 m 15 ls []) := by
    intro nn
    induction nn with
    | zero =>
      intro H locs ls v_26 v_27 v_28 v_29 h0v_29 hμ
      exact absurd hμ (Nat.not_lt_zero _)
    | succ nn ih =>
      intro H locs ls v_26 v_27 v_28 v_29 h0v_29 hμ hr_30 hP hS hl
      rw [lp_X7_count_15] at hr_30
      refine lv_iload hx hb dX7_count_15 (lv_at hl 5 rfl) ?_
      refine lv_aload_n hx hb dX7_count_17 rfl (lv_at hl 0 rfl) ?_
      refine gX7_8 hx hb hG hown hK hP gw_7_15 dX7_count_18 ?_
      refine lv_icmp_ge (tgt := 76) hx hb dX7_count_21 (by decide) (fun hc_31 => ?_) (fun hc_31 => ?_)
      · have hr_30 := ite_t hr_30 hc_31
        cases hr_30
        exact j76 _ _ _ hP hS (lv_sub hl [0, 1, 2, 3, 4] rfl)
      · have hr_30 := ite_f hr_30 hc_31
        refine lv_iload_n hx hb dX7_count_24 rfl (lv_at hl 2 rfl) ?_
        refine lv_aload_n hx hb dX7_count_25 rfl (lv_at hl 0 rfl) ?_
        refine lv_iload hx hb dX7_count_26 (lv_at hl 5 rfl) ?_
        refine call_i [.int v_29] [.int v_26] hx hb hml hG hown hK (c_X7_isIn had M_1 v_29 hTM_1.1 (by have q0 : v_29.toInt < (M_1 0 8).toInt := nle_I hc_31; omega)) gw_18_0 gm_X7_isIn gd_X7_isIn rfl rfl ⟨Nat.le_of_ble_eq_true rfl, Nat.le_of_ble_eq_true rfl⟩ ⟨Nat.le_refl _, Nat.le_refl _⟩ (rX7 hK hP) hP (fun _ h => h) hS rfl hl.1 rfl (Nat.le_of_ble_eq_true rfl) dX7_count_28 (fun r_32 u_34 H locs hF_33 hP hS => ?_)
        obtain ⟨hz_35, hF_33, hu⟩ := hF_33; rw [hu] at hP; subst hF_33
        obtain ⟨t_38, hr_37, hr_30⟩ := bnd_ex hr_30
        have j39 : ∀ (H : Heap) (locs : List Loc) (ls : Array Slot), (t_38 = 0 ∨ t_38 = 1) → va_P D vwCl (wld 31 ad (cM ad k M_1)) H → va_S (AW 31 ad) s.heap H locs → lv_has ls 6 [(0, .ref (ad 0)), (1, .int a1), (3, .int v_27), (4, .int v_28), (5, .int v_29)] → W p l e rm_X7_count s m args below meth c H locs 0 0 Q (F0 m 39 ls [.int t_38, .int v_26]) := by
          intro H locs ls zt_38 hP hS hl
          refine lv_iadd hx hb dX7_count_39 ?_
          refine lv_topi (fun y_39 ey_39 => ?_)
          have hr_30 := bnd_at hr_30 ey_39
          refine lv_istore_n (lv' := [(2, .int y_39), (0, .ref (ad 0)), (1, .int a1), (3, .int v_27), (4, .int v_28), (5, .int v_29)]) hx hb dX7_count_40 rfl hl (by decide) rfl (fun ls hl => ?_)
          refine lv_iload_n hx hb dX7_count_41 rfl (lv_at hl 3 rfl) ?_
          refine lv_aload_n hx hb dX7_count_42 rfl (lv_at hl 1 rfl) ?_
          refine gX7_18 hx hb hG hown hK hP gw_4_23 dX7_count_43 ?_
          refine lv_iload hx hb dX7_count_46 (lv_at hl 5 rfl) ?_
          refine al_M11 hx hb hK hP (vin_I (by have q0 : v_29.toInt < (M_1 0 8).toInt := nle_I hc_31; omega) (by have q0 : v_29.toInt < (M_1 0 8).toInt := nle_I hc_31; omega)) dX7_count_48 ?_
          refine lv_iadd hx hb dX7_count_49 ?_
          refine lv_topi (fun y_40 ey_40 => ?_)
          have hr_30 := bnd_at hr_30 ey_40
          refine lv_istore_n (lv' := [(3, .int y_40), (2, .int y_39), (0, .ref (ad 0)), (1, .int a1), (4, .int v_28), (5, .int v_29)]) hx hb dX7_count_50 rfl hl (by decide) rfl (fun ls hl => ?_)
          refine lv_iload hx hb dX7_count_51 (lv_at hl 4 rfl) ?_
          refine lv_aload_n hx hb dX7_count_53 rfl (lv_at hl 2 rfl) ?_
          refine lv_iload hx hb dX7_count_54 (lv_at hl 5 rfl) ?_
          refine call_i [.int v_29] [.int v_28] hx hb hml hG hown hK (c_X7_isBad had M_1 v_29 hTM_1.1 (by have q0 : v_29.toInt < (M_1 0 8).toInt := nle_I hc_31; have qy_40 := congrArg Int32.toInt ey_40; omega)) gw_17_17 gm_X7_isBad gd_X7_isBad rfl rfl ⟨Nat.le_of_ble_eq_true rfl, Nat.le_of_ble_eq_true rfl⟩ ⟨Nat.le_refl _, Nat.le_refl _⟩ (rX7 hK hP) hP (fun _ h => h) hS rfl hl.1 rfl (Nat.le_of_ble_eq_true rfl) dX7_count_56 (fun r_41 u_43 H locs hF_42 hP hS => ?_)
          obtain ⟨hz_44, hF_42, hu⟩ := hF_42; rw [hu] at hP; subst hF_42
          obtain ⟨t_47, hr_46, hr_30⟩ := bnd_ex hr_30
          have j67 : ∀ (H : Heap) (locs : List Loc) (ls : Array Slot), (t_47 = 0 ∨ t_47 = 1) → va_P D vwCl (wld 31 ad (cM ad k M_1)) H → va_S (AW 31 ad) s.heap H locs → lv_has ls 6 [(0, .ref (ad 0)), (1, .int a1), (2, .int y_39), (3, .int y_40), (5, .int v_29)] → W p l e rm_X7_count s m args below meth c H locs 0 0 Q (F0 m 67 ls [.int t_47, .int v_28]) := by
            intro H locs ls zt_47 hP hS hl
            refine lv_iadd hx hb dX7_count_67 ?_
            refine lv_topi (fun y_48 ey_48 => ?_)
            have hr_30 := bnd_at hr_30 ey_48
            refine lv_istore (lv' := [(4, .int y_48), (0, .ref (ad 0)), (1, .int a1), (2, .int y_39), (3, .int y_40), (5, .int v_29)]) hx hb dX7_count_68 hl (by decide) rfl (fun ls hl => ?_)
            obtain ⟨y_49, ey_49⟩ : ∃ y_49 : Int32, y_49 = v_29 + 1 := ⟨_, rfl⟩
            have hr_30 := bnd_at hr_30 ey_49
            refine lv_iinc (v := y_49) (lv' := [(5, .int y_49), (4, .int y_48), (0, .ref (ad 0)), (1, .int a1), (2, .int y_39), (3, .int y_40)]) hx hb dX7_count_70 hl (k := 5) rfl (by rw [ey_49]; rfl) (by decide) rfl (fun ls hl => ?_)
            refine lv_goto (tgt := 15) hx hb dX7_count_73 (by decide) ?_
            exact ih _ _ _ _ _ _ _ (by rw [ey_49, inc_I (N := 4) (bnd_lt (nle_I hc_31) (by omega)) (by decide)]; omega) (by rw [ey_49]; exact mu_I hμ (bnd_lt (nle_I hc_31) (by omega)) (by decide)) hr_30 hP hS (lv_sub hl [2, 3, 4, 5, 1, 0] rfl)
          refine lv_if_eq (tgt := 66) hx hb dX7_count_59 (by decide) (fun hc_45 => ?_) (fun hc_45 => ?_)
          · have hr_46 := ite_t hr_46 hc_45
            refine lv_iconst (v := 0) hx hb dX7_count_66 (by decide) ?_
            cases hr_46
            exact j67 _ _ _ (Or.inl rfl) hP hS (lv_sub hl [2, 3, 1, 0, 5] rfl)
          · have hr_46 := ite_f hr_46 hc_45
            refine lv_iconst (v := 1) hx hb dX7_count_62 (by decide) ?_
            refine lv_goto (tgt := 67) hx hb dX7_count_63 (by decide) ?_
            cases hr_46
            exact j67 _ _ _ (Or.inr rfl) hP hS (lv_sub hl [2, 3, 1, 0, 5] rfl)
        refine lv_if_eq (tgt := 38) hx hb dX7_count_31 (by decide) (fun hc_36 => ?_) (fun hc_36 => ?_)
        · have hr_37 := ite_t hr_37 hc_36
          refine lv_iconst (v := 0) hx hb dX7_count_38 (by decide) ?_
          cases hr_37
          exact j39 _ _ _ (Or.inl rfl) hP hS (lv_sub hl [0, 1, 3, 4, 5] rfl)
        · have hr_37 := ite_f hr_37 hc_36
          refine lv_iconst (v := 1) hx hb dX7_count_34 (by decide) ?_
          refine lv_goto (tgt := 39) hx hb dX7_count_35 (by decide) ?_
          cases hr_37
          exact j39 _ _ _ (Or.inr rfl) hP hS (lv_sub hl [0, 1, 3, 4, 5] rfl)
  exact lp15 _ _ _ _ _ _ _ _ (by decide) (by decide) hr_30 hP hS (lv_sub hl [4, 5, 3, 2, 1, 0] rfl)
def rm_X7_wrongSailor : Room := { frames := 1, cells := 0, slots := 0, locals := 25 }
theorem gm_X7_wrongSailor : Cond.instanceMethod yX7_wrongSailor ∈ wsL_law ∧ Cond.selects RX7 yX7_wrongSailor yX7_wrongSailor ∈ wsL_law ∧ Cond.initialized RX7 ∈ wsL_law ∧ Cond.code yX7_wrongSailor cX7_wrongSailor 2 (some .int) ∈ wsL_law := ⟨gw_44_23, gw_45_0, gw_1_5, gw_45_1⟩
theorem gd_X7_wrongSailor : yX7_wrongSailor.cls = RX7 ∧ yX7_wrongSailor.cls ≠ "java/lang/invoke/MethodHandle" ∧ yX7_wrongSailor.cls ≠ "java/lang/invoke/VarHandle" ∧ (parseMethodDescriptor yX7_wrongSailor.desc).map (fun d => d.parameters.length) = some 1 := by decide +kernel
set_option maxRecDepth 100000 in
set_option maxHeartbeats 0 in
theorem c_X7_wrongSailor {l : Launch} {D : va_G} {k : Nat → ClassId} {ad : Nat → Nat} (had : InjN 31 ad) (M : Mem) (a1 : Int32) (hI : MI M) : Met l yX7_wrongSailor (Cond.code yX7_wrongSailor cX7_wrongSailor 2 (some .int) :: wsL_law) rm_X7_wrongSailor (va_Pc [.ref (ad 0), .int a1] (GW 31 ad D k (cM ad k M))) (va_Qi (fun r u => f_X7_wrongSailor M a1 = r ∧ u = M) (fun u t => GW 31 ad D k (cM ad k u) t) (AW 31 ad)) 0 0 (AW 31 ad) := by
  refine met_i (g := cM ad k) (M := M) (plainFor_of_name (by decide)) (Nat.le_of_ble_eq_true rfl) ?_
  intro p e s m args below meth c Q ls hx hb hml hG hown hK hret hP hS hl
  have hl : lv_has ls 2 [(0, .ref (ad 0)), (1, .int a1)] := hl
  obtain ⟨V, hV⟩ : ∃ V, f_X7_wrongSailor M a1 = V := ⟨_, rfl⟩
  have he := hV
  unfold f_X7_wrongSailor at he
  have hT0 : TI M M := TI_rf hI
  have qb_M := hI.1
  have qs_M := hI.2.1
  have qz_M := hI.2.2.1
  refine lv_iload_n hx hb dX7_wrongSailor_0 rfl (lv_at hl 1 rfl) ?_
  refine lv_i2l (v := a1.toInt64) hx hb dX7_wrongSailor_1 rfl ?_
  refine lv_lconst (v := 0) hx hb dX7_wrongSailor_2 (by decide) ?_
  refine lv_ldc2 (v := 7) hx hb hown (hG _ gw_9_11) dX7_wrongSailor_3 ?_
  refine callS_i [.long a1.toInt64, .long 0, .long 7] [] hx hb hml hG hown hK (c_X7_in had (M := M)  a1.toInt64 0 7) gw_7_2 gm_X7_in gd_X7_in rfl rfl ⟨Nat.le_of_ble_eq_true rfl, Nat.le_of_ble_eq_true rfl⟩ ⟨Nat.le_refl _, Nat.le_refl _⟩ hP (fun _ h => h) hS rfl hl.1 rfl (Nat.le_of_ble_eq_true rfl) dX7_wrongSailor_6 (fun r_1 u_3 H locs hF_2 hP hS => ?_)
  obtain ⟨hz_4, hF_2, hu⟩ := hF_2; rw [hu] at hP; subst hF_2
  obtain ⟨t_9, hr_6, he⟩ := bnd_ex he
  have j46 : ∀ (H : Heap) (locs : List Loc) (ls : Array Slot), va_P D vwCl (wld 31 ad (cM ad k M)) H → va_S (AW 31 ad) s.heap H locs → lv_has ls 2 [] → W p l e rm_X7_wrongSailor s m args below meth c H locs 0 0 Q (F0 m 46 ls [.int t_9]) := by
    intro H locs ls hP hS hl
    exact hret _ _ _ _ _ _ ⟨hV.trans he.symm, rfl⟩ hP hS dX7_wrongSailor_46
  refine lv_if_ne (tgt := 16) hx hb dX7_wrongSailor_9 (by decide) (fun hc_5 => ?_) (fun hc_5 => ?_)
  · have hr_6 := ite_t hr_6 hc_5
    refine lv_aload_n hx hb dX7_wrongSailor_16 rfl (lv_at hl 0 rfl) ?_
    refine gX7_42 hx hb hG hown hK hP gw_5_11 dX7_wrongSailor_17 ?_
    refine lv_iload_n hx hb dX7_wrongSailor_20 rfl (lv_at hl 1 rfl) ?_
    refine al_M23 hx hb hK hP (vin_I (by have q0 : (f_X7_in a1.toInt64 0 7).toInt ≠ 0 := ne_I hc_5; have r1 : 0 ≤ a1.toInt ∧ a1.toInt ≤ 7 := in_I hc_5; omega) (by have q0 : (f_X7_in a1.toInt64 0 7).toInt ≠ 0 := ne_I hc_5; have r1 : 0 ≤ a1.toInt ∧ a1.toInt ≤ 7 := in_I hc_5; omega)) dX7_wrongSailor_21 ?_
    refine lv_if_ne (tgt := 30) hx hb dX7_wrongSailor_22 (by decide) (fun hc_7 => ?_) (fun hc_7 => ?_)
    · have hr_6 := ite_t hr_6 hc_7
      refine lv_aload_n hx hb dX7_wrongSailor_30 rfl (lv_at hl 0 rfl) ?_
      refine gX7_42 hx hb hG hown hK hP gw_5_11 dX7_wrongSailor_31 ?_
      refine lv_iload_n hx hb dX7_wrongSailor_34 rfl (lv_at hl 1 rfl) ?_
      refine al_M23 hx hb hK hP (vin_I (by have q0 : (f_X7_in a1.toInt64 0 7).toInt ≠ 0 := ne_I hc_5; have r1 : 0 ≤ a1.toInt ∧ a1.toInt ≤ 7 := in_I hc_5; have q2 : (M 23 a1.toNatClampNeg).toInt ≠ 0 := ne_I hc_7; omega) (by have q0 : (f_X7_in a1.toInt64 0 7).toInt ≠ 0 := ne_I hc_5; have r1 : 0 ≤ a1.toInt ∧ a1.toInt ≤ 7 := in_I hc_5; have q2 : (M 23 a1.toNatClampNeg).toInt ≠ 0 := ne_I hc_7; omega)) dX7_wrongSailor_35 ?_
      refine lv_iconst (v := 1) hx hb dX7_wrongSailor_36 (by decide) ?_
      refine lv_icmp_eq (tgt := 45) hx hb dX7_wrongSailor_37 (by decide) (fun hc_8 => ?_) (fun hc_8 => ?_)
      · have hr_6 := ite_t hr_6 hc_8
        refine lv_iconst (v := 0) hx hb dX7_wrongSailor_45 (by decide) ?_
        cases hr_6
        exact j46 _ _ _ hP hS (lv_sub hl [] rfl)
      · have hr_6 := ite_f hr_6 hc_8
        refine lv_bipush (v := (-12)) hx hb dX7_wrongSailor_40 (by decide) ?_
        refine lv_goto (tgt := 46) hx hb dX7_wrongSailor_42 (by decide) ?_
        cases hr_6
        exact j46 _ _ _ hP hS (lv_sub hl [] rfl)
    · have hr_6 := ite_f hr_6 (fun q => q hc_7)
      refine lv_bipush (v := (-11)) hx hb dX7_wrongSailor_25 (by decide) ?_
      refine lv_goto (tgt := 46) hx hb dX7_wrongSailor_27 (by decide) ?_
      cases hr_6
      exact j46 _ _ _ hP hS (lv_sub hl [] rfl)
  · have hr_6 := ite_f hr_6 (fun q => q hc_5)
    refine lv_iconst (v := (-1)) hx hb dX7_wrongSailor_12 (by decide) ?_
    refine lv_goto (tgt := 46) hx hb dX7_wrongSailor_13 (by decide) ?_
    cases hr_6
    exact j46 _ _ _ hP hS (lv_sub hl [] rfl)
