-- @needs 12_dec 13_dec 14_dec 15_dec 37_fault 60_cM 63_cM 66_cM 67_cM 69_cM 72_cM
def rm_X7_answer : Room := { frames := 6, cells := 0, slots := 0, locals := 134 }
theorem gm_X7_answer : Cond.instanceMethod yX7_answer ∈ wsL_law ∧ Cond.selects RX7 yX7_answer yX7_answer ∈ wsL_law ∧ Cond.initialized RX7 ∈ wsL_law ∧ Cond.code yX7_answer cX7_answer 9 (some .int) ∈ wsL_law := ⟨gw_35_3, gw_35_4, gw_1_5, gw_35_5⟩
theorem gd_X7_answer : yX7_answer.cls = RX7 ∧ yX7_answer.cls ≠ "java/lang/invoke/MethodHandle" ∧ yX7_answer.cls ≠ "java/lang/invoke/VarHandle" ∧ (parseMethodDescriptor yX7_answer.desc).map (fun d => d.parameters.length) = some 4 := by decide +kernel
set_option maxRecDepth 100000 in
set_option maxHeartbeats 0 in
theorem c_X7_answer {l : Launch} {D : va_G} {k : Nat → ClassId} {ad : Nat → Nat} (had : InjN 31 ad) (M : Mem) (a1 : Int32) (a2 : Int32) (a3 : Int32) (a4 : Int32) (hI : MI M) : Met l yX7_answer (Cond.code yX7_answer cX7_answer 9 (some .int) :: wsL_law) rm_X7_answer (va_Pc [.ref (ad 0), .int a1, .int a2, .int a3, .int a4] (GW 31 ad D k (cM ad k M))) (va_Qi (fun r u => (f_X7_answer M a1 a2 a3 a4 = (r, u) ∧ TI M u)) (fun u t => GW 31 ad D k (cM ad k u) t) (AW 31 ad)) 0 0 (AW 31 ad) := by
  refine met_i (g := cM ad k) (M := M) (plainFor_of_name (by decide)) (Nat.le_of_ble_eq_true rfl) ?_
  intro p e s m args below meth c Q ls hx hb hml hG hown hK hret hP hS hl
  have hl : lv_has ls 9 [(0, .ref (ad 0)), (1, .int a1), (2, .int a2), (3, .int a3), (4, .int a4)] := hl
  obtain ⟨V, hV⟩ : ∃ V, f_X7_answer M a1 a2 a3 a4 = V := ⟨_, rfl⟩
  have he := hV
  unfold f_X7_answer at he
  have hT0 : TI M M := TI_rf hI
  have qb_M := hI.1
  have qs_M := hI.2.1
  have qz_M := hI.2.2.1
  refine lv_aload_n hx hb dX7_answer_0 rfl (lv_at hl 0 rfl) ?_
  refine lv_iconst (v := 0) hx hb dX7_answer_1 (by decide) ?_
  refine pX7_19 hx hb hG hown hK hP had AW_in hS gw_5_19 dX7_answer_2 (fun H locs hP hS => ?_)
  obtain ⟨M_1, eM_1⟩ : ∃ y : Mem, y = up2 M 0 19 0 := ⟨_, rfl⟩
  rw [← eM_1] at hP
  have he := bnd_at he eM_1
  have hTM_1 : TI M M_1 := by rw [eM_1]; exact TI_f hT0 (by decide)
  have qb_M_1 := hTM_1.1.1
  have qs_M_1 := hTM_1.1.2.1
  have qz_M_1 := hTM_1.1.2.2.1
  refine lv_iload_n hx hb dX7_answer_5 rfl (lv_at hl 1 rfl) ?_
  refine lv_iload_n hx hb dX7_answer_6 rfl (lv_at hl 2 rfl) ?_
  refine lv_iload_n hx hb dX7_answer_7 rfl (lv_at hl 3 rfl) ?_
  refine callS_i [.int a1, .int a2, .int a3] [] hx hb hml hG hown hK (c_X7_isGame had (M := M_1)  a1 a2 a3) gw_33_13 gm_X7_isGame gd_X7_isGame rfl rfl ⟨Nat.le_of_ble_eq_true rfl, Nat.le_of_ble_eq_true rfl⟩ ⟨Nat.le_refl _, Nat.le_refl _⟩ hP (fun _ h => h) hS rfl hl.1 rfl (Nat.le_of_ble_eq_true rfl) dX7_answer_8 (fun r_2 u_4 H locs hF_3 hP hS => ?_)
  obtain ⟨hz_5, hF_3, hu⟩ := hF_3; rw [hu] at hP; subst hF_3
  refine lv_if_eq (tgt := 27) hx hb dX7_answer_11 (by decide) (fun hc_6 => ?_) (fun hc_6 => ?_)
  · have he := ite_t he hc_6
    refine lv_iconst (v := (-1)) hx hb dX7_answer_27 (by decide) ?_
    exact hret _ _ _ _ _ _ ⟨(hV.trans he.symm), hTM_1⟩ hP hS dX7_answer_28
  · have he := ite_f he hc_6
    refine lv_iload hx hb dX7_answer_14 (lv_at hl 4 rfl) ?_
    refine lv_i2l (v := a4.toInt64) hx hb dX7_answer_16 rfl ?_
    refine lv_lconst (v := 0) hx hb dX7_answer_17 (by decide) ?_
    refine lv_ldc2 (v := 15) hx hb hown (hG _ gw_33_12) dX7_answer_18 ?_
    refine callS_i [.long a4.toInt64, .long 0, .long 15] [] hx hb hml hG hown hK (c_X7_in had (M := M_1)  a4.toInt64 0 15) gw_7_2 gm_X7_in gd_X7_in rfl rfl ⟨Nat.le_of_ble_eq_true rfl, Nat.le_of_ble_eq_true rfl⟩ ⟨Nat.le_refl _, Nat.le_refl _⟩ hP (fun _ h => h) hS rfl hl.1 rfl (Nat.le_of_ble_eq_true rfl) dX7_answer_21 (fun r_7 u_9 H locs hF_8 hP hS => ?_)
    obtain ⟨hz_10, hF_8, hu⟩ := hF_8; rw [hu] at hP; subst hF_8
    refine lv_if_ne (tgt := 29) hx hb dX7_answer_24 (by decide) (fun hc_11 => ?_) (fun hc_11 => ?_)
    · have he := ite_t he hc_11
      refine lv_aload_n hx hb dX7_answer_29 rfl (lv_at hl 0 rfl) ?_
      refine call_v [] [] hx hb hml hG hown hK (c_X7_open had M_1 hTM_1.1) gw_28_16 gm_X7_open gd_X7_open rfl rfl ⟨Nat.le_of_ble_eq_true rfl, Nat.le_of_ble_eq_true rfl⟩ ⟨Nat.le_refl _, Nat.le_refl _⟩ (rX7 hK hP) hP (fun _ h => h) hS rfl hl.1 rfl (Nat.le_of_ble_eq_true rfl) dX7_answer_30 (fun M_14 H locs hF_13 hP hS => ?_)
      obtain ⟨hF_13, hti_15⟩ := hF_13
      have he := bnd_at he hF_13.symm
      have hNM_14 := hti_15.2
      have hTM_14 : TI M M_14 := TI_tr hTM_1 hti_15.1
      have qb_M_14 := hTM_14.1.1
      have qs_M_14 := hTM_14.1.2.1
      have qz_M_14 := hTM_14.1.2.2.1
      refine lv_aload_n hx hb dX7_answer_33 rfl (lv_at hl 0 rfl) ?_
      refine call_v [] [] hx hb hml hG hown hK (c_X7_layWinds had M_14 hTM_14.1) gw_22_9 gm_X7_layWinds gd_X7_layWinds rfl rfl ⟨Nat.le_of_ble_eq_true rfl, Nat.le_of_ble_eq_true rfl⟩ ⟨Nat.le_refl _, Nat.le_refl _⟩ (rX7 hK hP) hP (fun _ h => h) hS rfl hl.1 rfl (Nat.le_of_ble_eq_true rfl) dX7_answer_34 (fun M_18 H locs hF_17 hP hS => ?_)
      obtain ⟨hF_17, hti_19⟩ := hF_17
      have he := bnd_at he hF_17.symm
      have hNM_18 : SN (M_18 20) := hti_19.2 hNM_14
      have hTM_18 : TI M M_18 := TI_tr hTM_14 hti_19
      have qb_M_18 := hTM_18.1.1
      have qs_M_18 := hTM_18.1.2.1
      have qz_M_18 := hTM_18.1.2.2.1
      refine lv_iconst (v := 0) hx hb dX7_answer_37 (by decide) ?_
      refine lv_istore (lv' := [(5, .int 0), (0, .ref (ad 0)), (1, .int a1), (2, .int a2), (3, .int a3), (4, .int a4)]) hx hb dX7_answer_38 hl (by decide) rfl (fun ls hl => ?_)
      refine lv_ldcw (v := 1000000000) hx hb hown (hG _ gw_34_18) dX7_answer_40 ?_
      refine lv_istore (lv' := [(6, .int 1000000000), (5, .int 0), (0, .ref (ad 0)), (1, .int a1), (2, .int a2), (3, .int a3), (4, .int a4)]) hx hb dX7_answer_43 hl (by decide) rfl (fun ls hl => ?_)
      refine lv_iconst (v := 0) hx hb dX7_answer_45 (by decide) ?_
      refine lv_istore (lv' := [(7, .int 0), (6, .int 1000000000), (5, .int 0), (0, .ref (ad 0)), (1, .int a1), (2, .int a2), (3, .int a3), (4, .int a4)]) hx hb dX7_answer_46 hl (by decide) rfl (fun ls hl => ?_)
      obtain ⟨w_71, M_72, hr_58, he⟩ := bnd2_ex he
      have j106 : ∀ (H : Heap) (locs : List Loc) (ls : Array Slot), TI M M_72 → SN (M_72 20) → va_P D vwCl (wld 31 ad (cM ad k M_72)) H → va_S (AW 31 ad) s.heap H locs → lv_has ls 9 [(0, .ref (ad 0)), (5, .int w_71)] → W p l e rm_X7_answer s m args below meth c H locs 0 0 Q (F0 m 106 ls []) := by
        intro H locs ls hTM_72 hNM_72 hP hS hl
        have qb_M_72 := hTM_72.1.1
        have qs_M_72 := hTM_72.1.2.1
        have qz_M_72 := hTM_72.1.2.2.1
        refine lv_aload_n hx hb dX7_answer_106 rfl (lv_at hl 0 rfl) ?_
        refine call_v [] [] hx hb hml hG hown hK (c_X7_close had M_72 hTM_72.1 hNM_72) gw_29_15 gm_X7_close gd_X7_close rfl rfl ⟨Nat.le_of_ble_eq_true rfl, Nat.le_of_ble_eq_true rfl⟩ ⟨Nat.le_refl _, Nat.le_refl _⟩ (rX7 hK hP) hP (fun _ h => h) hS rfl hl.1 rfl (Nat.le_of_ble_eq_true rfl) dX7_answer_107 (fun M_75 H locs hF_74 hP hS => ?_)
        obtain ⟨hF_74, hti_76⟩ := hF_74
        have he := bnd_at he hF_74.symm
        have hNM_75 : SN (M_75 20) := hti_76.2 hNM_72
        have hTM_75 : TI M M_75 := TI_tr hTM_72 hti_76
        have qb_M_75 := hTM_75.1.1
        have qs_M_75 := hTM_75.1.2.1
        have qz_M_75 := hTM_75.1.2.2.1
        refine lv_iload hx hb dX7_answer_110 (lv_at hl 1 rfl) ?_
        exact hret _ _ _ _ _ _ ⟨(hV.trans he.symm), hTM_75⟩ hP hS dX7_answer_112
      have lp48 : ∀ (nn : Nat) (H : Heap) (locs : List Loc) (ls : Array Slot) (M_57 : Mem) (v_54 : Int32) (v_55 : Int32) (v_56 : Int32), (0 ≤ v_56.toInt) → (TI M M_57) → (SN (M_57 20)) → (16 - v_56.toInt).toNat < nn → lp_X7_answer_48 nn a1 a2 a3 a4 M_57 v_54 v_55 v_56 = (w_71, M_72) → va_P D vwCl (wld 31 ad (cM ad k M_57)) H → va_S (AW 31 ad) s.heap H locs → lv_has ls 9 [(0, .ref (ad 0)), (1, .int a1), (2, .int a2), (3, .int a3), (4, .int a4), (5, .int v_54), (6, .int v_55), (7, .int v_56)] → W p l e rm_X7_answer s m args below meth c H locs 0 0 Q (F0 m 48 ls []) := by
        intro nn
        induction nn with
        | zero =>
          intro H locs ls M_57 v_54 v_55 v_56 h0v_56 hTM_57 hNM_57 hμ
          exact absurd hμ (Nat.not_lt_zero _)
        | succ nn ih =>
          intro H locs ls M_57 v_54 v_55 v_56 h0v_56 hTM_57 hNM_57 hμ hr_58 hP hS hl
          rw [lp_X7_answer_48] at hr_58
          have qb_M_57 := hTM_57.1.1
          have qs_M_57 := hTM_57.1.2.1
          have qz_M_57 := hTM_57.1.2.2.1
          refine lv_iload hx hb dX7_answer_48 (lv_at hl 7 rfl) ?_
          refine lv_bipush (v := 16) hx hb dX7_answer_50 (by decide) ?_
          refine lv_icmp_ge (tgt := 106) hx hb dX7_answer_52 (by decide) (fun hc_59 => ?_) (fun hc_59 => ?_)
          · have hr_58 := ite_t hr_58 hc_59
            cases hr_58
            exact j106 _ _ _ hTM_57 hNM_57 hP hS (lv_sub hl [0, 5] rfl)
          · have hr_58 := ite_f hr_58 hc_59
            refine lv_aload_n hx hb dX7_answer_55 rfl (lv_at hl 0 rfl) ?_
            refine lv_iload_n hx hb dX7_answer_56 rfl (lv_at hl 1 rfl) ?_
            refine lv_iload_n hx hb dX7_answer_57 rfl (lv_at hl 2 rfl) ?_
            refine lv_iload_n hx hb dX7_answer_58 rfl (lv_at hl 3 rfl) ?_
            refine lv_iload hx hb dX7_answer_59 (lv_at hl 4 rfl) ?_
            refine lv_iload hx hb dX7_answer_61 (lv_at hl 7 rfl) ?_
            refine call_i [.int a1, .int a2, .int a3, .int a4, .int v_56] [] hx hb hml hG hown hK (c_X7_leadBy had M_57 a1 a2 a3 a4 v_56 hTM_57.1) gw_33_17 gm_X7_leadBy gd_X7_leadBy rfl rfl ⟨Nat.le_of_ble_eq_true rfl, Nat.le_of_ble_eq_true rfl⟩ ⟨Nat.le_refl _, Nat.le_refl _⟩ (rX7 hK hP) hP (fun _ h => h) hS rfl hl.1 rfl (Nat.le_of_ble_eq_true rfl) dX7_answer_63 (fun r_60 M_62 H locs hF_61 hP hS => ?_)
            obtain ⟨hF_61, hti_63⟩ := hF_61
            have hr_58 := bnd2_at hr_58 hF_61
            have hNM_62 : SN (M_62 20) := hti_63.2 hNM_57
            have hTM_62 : TI M M_62 := TI_tr hTM_57 hti_63
            have qb_M_62 := hTM_62.1.1
            have qs_M_62 := hTM_62.1.2.1
            have qz_M_62 := hTM_62.1.2.2.1
            refine lv_istore (lv' := [(8, .int r_60), (0, .ref (ad 0)), (1, .int a1), (2, .int a2), (3, .int a3), (4, .int a4), (5, .int v_54), (6, .int v_55), (7, .int v_56)]) hx hb dX7_answer_66 hl (by decide) rfl (fun ls hl => ?_)
            refine lv_iload hx hb dX7_answer_68 (lv_at hl 0 rfl) ?_
            refine lv_iload hx hb dX7_answer_70 (lv_at hl 7 rfl) ?_
            obtain ⟨t_66, hr_65, hr_58⟩ := bnd_ex hr_58
            have j82 : ∀ (H : Heap) (locs : List Loc) (ls : Array Slot), va_P D vwCl (wld 31 ad (cM ad k M_62)) H → va_S (AW 31 ad) s.heap H locs → lv_has ls 9 [(0, .ref (ad 0)), (1, .int a1), (2, .int a2), (3, .int a3), (4, .int a4), (6, .int v_55), (7, .int v_56), (8, .int r_60)] → W p l e rm_X7_answer s m args below meth c H locs 0 0 Q (F0 m 82 ls [.int t_66]) := by
              intro H locs ls hP hS hl
              refine lv_istore (lv' := [(5, .int t_66), (0, .ref (ad 0)), (1, .int a1), (2, .int a2), (3, .int a3), (4, .int a4), (6, .int v_55), (7, .int v_56), (8, .int r_60)]) hx hb dX7_answer_82 hl (by decide) rfl (fun ls hl => ?_)
              refine lv_iload hx hb dX7_answer_84 (lv_at hl 8 rfl) ?_
              refine lv_iload hx hb dX7_answer_86 (lv_at hl 6 rfl) ?_
              obtain ⟨t_69, hr_68, hr_58⟩ := bnd_ex hr_58
              have j98 : ∀ (H : Heap) (locs : List Loc) (ls : Array Slot), va_P D vwCl (wld 31 ad (cM ad k M_62)) H → va_S (AW 31 ad) s.heap H locs → lv_has ls 9 [(0, .ref (ad 0)), (1, .int a1), (2, .int a2), (3, .int a3), (4, .int a4), (5, .int t_66), (7, .int v_56)] → W p l e rm_X7_answer s m args below meth c H locs 0 0 Q (F0 m 98 ls [.int t_69]) := by
                intro H locs ls hP hS hl
                refine lv_istore (lv' := [(6, .int t_69), (0, .ref (ad 0)), (1, .int a1), (2, .int a2), (3, .int a3), (4, .int a4), (5, .int t_66), (7, .int v_56)]) hx hb dX7_answer_98 hl (by decide) rfl (fun ls hl => ?_)
                obtain ⟨y_70, ey_70⟩ : ∃ y_70 : Int32, y_70 = v_56 + 1 := ⟨_, rfl⟩
                have hr_58 := bnd_at hr_58 ey_70
                refine lv_iinc (v := y_70) (lv' := [(7, .int y_70), (6, .int t_69), (0, .ref (ad 0)), (1, .int a1), (2, .int a2), (3, .int a3), (4, .int a4), (5, .int t_66)]) hx hb dX7_answer_100 hl (k := 7) rfl (by rw [ey_70]; rfl) (by decide) rfl (fun ls hl => ?_)
                refine lv_goto (tgt := 48) hx hb dX7_answer_103 (by decide) ?_
                exact ih _ _ _ _ _ _ _ (by rw [ey_70, inc_I (N := 16) (nle_I hc_59) (by decide)]; omega) hTM_62 hNM_62 (by rw [ey_70]; exact mu_I hμ (nle_I hc_59) (by decide)) hr_58 hP hS (lv_sub hl [2, 3, 4, 5, 6, 7, 1, 0] rfl)
              refine lv_icmp_ge (tgt := 96) hx hb dX7_answer_88 (by decide) (fun hc_67 => ?_) (fun hc_67 => ?_)
              · have hr_68 := ite_t hr_68 hc_67
                refine lv_iload hx hb dX7_answer_96 (lv_at hl 6 rfl) ?_
                cases hr_68
                exact j98 _ _ _ hP hS (lv_sub hl [1, 2, 3, 4, 5, 0, 7] rfl)
              · have hr_68 := ite_f hr_68 hc_67
                refine lv_iload hx hb dX7_answer_91 (lv_at hl 8 rfl) ?_
                refine lv_goto (tgt := 98) hx hb dX7_answer_93 (by decide) ?_
                cases hr_68
                exact j98 _ _ _ hP hS (lv_sub hl [1, 2, 3, 4, 5, 0, 7] rfl)
            refine lv_icmp_ge (tgt := 80) hx hb dX7_answer_72 (by decide) (fun hc_64 => ?_) (fun hc_64 => ?_)
            · have hr_65 := ite_t hr_65 hc_64
              refine lv_iload hx hb dX7_answer_80 (lv_at hl 6 rfl) ?_
              cases hr_65
              exact j82 _ _ _ hP hS (lv_sub hl [1, 2, 3, 4, 5, 7, 8, 0] rfl)
            · have hr_65 := ite_f hr_65 hc_64
              refine lv_iload hx hb dX7_answer_75 (lv_at hl 8 rfl) ?_
              refine lv_goto (tgt := 82) hx hb dX7_answer_77 (by decide) ?_
              cases hr_65
              exact j82 _ _ _ hP hS (lv_sub hl [1, 2, 3, 4, 5, 7, 8, 0] rfl)
      exact lp48 _ _ _ _ _ _ _ _ (by decide) hTM_18 hNM_18 (by decide) hr_58 hP hS (lv_sub hl [3, 4, 5, 6, 7, 2, 1, 0] rfl)
    · have he := ite_f he (fun q => q hc_11)
      refine lv_iconst (v := (-1)) hx hb dX7_answer_27 (by decide) ?_
      exact hret _ _ _ _ _ _ ⟨(hV.trans he.symm), hTM_1⟩ hP hS dX7_answer_28
def rm_X7_cover : Room := { frames := 7, cells := 0, slots := 0, locals := 160 }
theorem gm_X7_cover : Cond.instanceMethod yX7_cover ∈ wsL_law ∧ Cond.selects RX7 yX7_cover yX7_cover ∈ wsL_law ∧ Cond.initialized RX7 ∈ wsL_law ∧ Cond.code yX7_cover cX7_cover 5 (some .int) ∈ wsL_law := ⟨gw_35_11, gw_35_12, gw_1_5, gw_35_13⟩
theorem gd_X7_cover : yX7_cover.cls = RX7 ∧ yX7_cover.cls ≠ "java/lang/invoke/MethodHandle" ∧ yX7_cover.cls ≠ "java/lang/invoke/VarHandle" ∧ (parseMethodDescriptor yX7_cover.desc).map (fun d => d.parameters.length) = some 4 := by decide +kernel
set_option maxRecDepth 100000 in
set_option maxHeartbeats 0 in
theorem c_X7_cover {l : Launch} {D : va_G} {k : Nat → ClassId} {ad : Nat → Nat} (had : InjN 31 ad) (M : Mem) (a1 : Int32) (a2 : Int32) (a3 : Int32) (a4 : Int32) (hI : MI M) : Met l yX7_cover (Cond.code yX7_cover cX7_cover 5 (some .int) :: wsL_law) rm_X7_cover (va_Pc [.ref (ad 0), .int a1, .int a2, .int a3, .int a4] (GW 31 ad D k (cM ad k M))) (va_Qi (fun r u => (f_X7_cover M a1 a2 a3 a4 = (r, u) ∧ TI M u)) (fun u t => GW 31 ad D k (cM ad k u) t) (AW 31 ad)) 0 0 (AW 31 ad) := by
  refine met_i (g := cM ad k) (M := M) (plainFor_of_name (by decide)) (Nat.le_of_ble_eq_true rfl) ?_
  intro p e s m args below meth c Q ls hx hb hml hG hown hK hret hP hS hl
  have hl : lv_has ls 5 [(0, .ref (ad 0)), (1, .int a1), (2, .int a2), (3, .int a3), (4, .int a4)] := hl
  obtain ⟨V, hV⟩ : ∃ V, f_X7_cover M a1 a2 a3 a4 = V := ⟨_, rfl⟩
  have he := hV
  unfold f_X7_cover at he
  have hT0 : TI M M := TI_rf hI
  have qb_M := hI.1
  have qs_M := hI.2.1
  have qz_M := hI.2.2.1
  refine lv_aload_n hx hb dX7_cover_0 rfl (lv_at hl 0 rfl) ?_
  refine lv_iload_n hx hb dX7_cover_1 rfl (lv_at hl 1 rfl) ?_
  refine lv_iload_n hx hb dX7_cover_2 rfl (lv_at hl 2 rfl) ?_
  refine lv_iload_n hx hb dX7_cover_3 rfl (lv_at hl 3 rfl) ?_
  refine lv_iload hx hb dX7_cover_4 (lv_at hl 4 rfl) ?_
  refine lv_iload hx hb dX7_cover_6 (lv_at hl 4 rfl) ?_
  refine call_i [.int a1, .int a2, .int a3, .int a4, .int a4] [] hx hb hml hG hown hK (c_X7_lead had M a1 a2 a3 a4 a4 hT0.1) gw_35_14 gm_X7_lead gd_X7_lead rfl rfl ⟨Nat.le_of_ble_eq_true rfl, Nat.le_of_ble_eq_true rfl⟩ ⟨Nat.le_refl _, Nat.le_refl _⟩ (rX7 hK hP) hP (fun _ h => h) hS rfl hl.1 rfl (Nat.le_of_ble_eq_true rfl) dX7_cover_8 (fun r_1 M_3 H locs hF_2 hP hS => ?_)
  obtain ⟨hF_2, hti_4⟩ := hF_2
  have he := bnd2_at he hF_2
  have hTM_3 : TI M M_3 := TI_tr hT0 hti_4
  have qb_M_3 := hTM_3.1.1
  have qs_M_3 := hTM_3.1.2.1
  have qz_M_3 := hTM_3.1.2.2.1
  exact hret _ _ _ _ _ _ ⟨(hV.trans he.symm), hTM_3⟩ hP hS dX7_cover_11
def rm_X7_which : Room := { frames := 2, cells := 0, slots := 0, locals := 46 }
theorem gm_X7_which : Cond.instanceMethod yX7_which ∈ wsL_law ∧ Cond.selects RX7 yX7_which yX7_which ∈ wsL_law ∧ Cond.initialized RX7 ∈ wsL_law ∧ Cond.code yX7_which cX7_which 12 (some .int) ∈ wsL_law := ⟨gw_36_6, gw_36_7, gw_1_5, gw_36_8⟩
theorem gd_X7_which : yX7_which.cls = RX7 ∧ yX7_which.cls ≠ "java/lang/invoke/MethodHandle" ∧ yX7_which.cls ≠ "java/lang/invoke/VarHandle" ∧ (parseMethodDescriptor yX7_which.desc).map (fun d => d.parameters.length) = some 1 := by decide +kernel
set_option maxRecDepth 100000 in
set_option maxHeartbeats 0 in
theorem c_X7_which {l : Launch} {D : va_G} {k : Nat → ClassId} {ad : Nat → Nat} (had : InjN 31 ad) (M : Mem) (a1 : Int32) (hI : MI M) : Met l yX7_which (Cond.code yX7_which cX7_which 12 (some .int) :: wsL_law) rm_X7_which (va_Pc [.ref (ad 0), .int a1] (GW 31 ad D k (cM ad k M))) (va_Qi (fun r u => (f_X7_which M a1 = (r, u) ∧ TI M u)) (fun u t => GW 31 ad D k (cM ad k u) t) (AW 31 ad)) 0 0 (AW 31 ad) := by
  refine met_i (g := cM ad k) (M := M) (plainFor_of_name (by decide)) (Nat.le_of_ble_eq_true rfl) ?_
  intro p e s m args below meth c Q ls hx hb hml hG hown hK hret hP hS hl
  have hl : lv_has ls 12 [(0, .ref (ad 0)), (1, .int a1)] := hl
  obtain ⟨V, hV⟩ : ∃ V, f_X7_which M a1 = V := ⟨_, rfl⟩
  have he := hV
  unfold f_X7_which at he
  have hT0 : TI M M := TI_rf hI
  have qb_M := hI.1
  have qs_M := hI.2.1
  have qz_M := hI.2.2.1
  refine lv_aload_n hx hb dX7_which_0 rfl (lv_at hl 0 rfl) ?_
  refine lv_iconst (v := 0) hx hb dX7_which_1 (by decide) ?_
  refine pX7_19 hx hb hG hown hK hP had AW_in hS gw_5_19 dX7_which_2 (fun H locs hP hS => ?_)
  obtain ⟨M_1, eM_1⟩ : ∃ y : Mem, y = up2 M 0 19 0 := ⟨_, rfl⟩
  rw [← eM_1] at hP
  have he := bnd_at he eM_1
  have hTM_1 : TI M M_1 := by rw [eM_1]; exact TI_f hT0 (by decide)
  have qb_M_1 := hTM_1.1.1
  have qs_M_1 := hTM_1.1.2.1
  have qz_M_1 := hTM_1.1.2.2.1
  refine lv_aload_n hx hb dX7_which_5 rfl (lv_at hl 0 rfl) ?_
  refine lv_iload_n hx hb dX7_which_6 rfl (lv_at hl 1 rfl) ?_
  refine call_i [.int a1] [] hx hb hml hG hown hK (c_X7_wrongRow had M_1 a1 hTM_1.1) gw_9_7 gm_X7_wrongRow gd_X7_wrongRow rfl rfl ⟨Nat.le_of_ble_eq_true rfl, Nat.le_of_ble_eq_true rfl⟩ ⟨Nat.le_refl _, Nat.le_refl _⟩ (rX7 hK hP) hP (fun _ h => h) hS rfl hl.1 rfl (Nat.le_of_ble_eq_true rfl) dX7_which_7 (fun r_2 u_4 H locs hF_3 hP hS => ?_)
  obtain ⟨hF_3, hu⟩ := hF_3; rw [hu] at hP; subst hF_3
  refine lv_topi (fun y_5 ey_5 => ?_)
  have he := bnd_at he ey_5
  refine lv_istore_n (lv' := [(2, .int y_5), (0, .ref (ad 0)), (1, .int a1)]) hx hb dX7_which_10 rfl hl (by decide) rfl (fun ls hl => ?_)
  refine lv_iload_n hx hb dX7_which_11 rfl (lv_at hl 0 rfl) ?_
  refine lv_if_ge (tgt := 17) hx hb dX7_which_12 (by decide) (fun hc_6 => ?_) (fun hc_6 => ?_)
  · have he := ite_t he hc_6
    refine lv_iconst (v := 0) hx hb dX7_which_17 (by decide) ?_
    refine lv_istore_n (lv' := [(3, .int 0), (2, .int y_5), (0, .ref (ad 0)), (1, .int a1)]) hx hb dX7_which_18 rfl hl (by decide) rfl (fun ls hl => ?_)
    refine lv_iconst (v := 0) hx hb dX7_which_19 (by decide) ?_
    refine lv_istore (lv' := [(4, .int 0), (3, .int 0), (2, .int y_5), (0, .ref (ad 0)), (1, .int a1)]) hx hb dX7_which_20 hl (by decide) rfl (fun ls hl => ?_)
    refine lv_iconst (v := 0) hx hb dX7_which_22 (by decide) ?_
    refine lv_istore (lv' := [(5, .int 0), (4, .int 0), (3, .int 0), (2, .int y_5), (0, .ref (ad 0)), (1, .int a1)]) hx hb dX7_which_23 hl (by decide) rfl (fun ls hl => ?_)
    refine lv_iconst (v := 1) hx hb dX7_which_25 (by decide) ?_
    refine lv_istore (lv' := [(6, .int 1), (5, .int 0), (4, .int 0), (3, .int 0), (2, .int y_5), (0, .ref (ad 0)), (1, .int a1)]) hx hb dX7_which_26 hl (by decide) rfl (fun ls hl => ?_)
    obtain ⟨w_55, w_56, hr_35, he⟩ := bnd2_ex he
    have j153 : ∀ (H : Heap) (locs : List Loc) (ls : Array Slot), va_P D vwCl (wld 31 ad (cM ad k M_1)) H → va_S (AW 31 ad) s.heap H locs → lv_has ls 12 [(3, .int w_55), (4, .int w_56)] → W p l e rm_X7_which s m args below meth c H locs 0 0 Q (F0 m 153 ls []) := by
      intro H locs ls hP hS hl
      refine lv_iload_n hx hb dX7_which_153 rfl (lv_at hl 0 rfl) ?_
      refine lv_iconst (v := 3) hx hb dX7_which_154 (by decide) ?_
      obtain ⟨t_60, hr_58, he⟩ := bnd_ex he
      have j175 : ∀ (H : Heap) (locs : List Loc) (ls : Array Slot), va_P D vwCl (wld 31 ad (cM ad k M_1)) H → va_S (AW 31 ad) s.heap H locs → lv_has ls 12 [] → W p l e rm_X7_which s m args below meth c H locs 0 0 Q (F0 m 175 ls [.int t_60]) := by
        intro H locs ls hP hS hl
        exact hret _ _ _ _ _ _ ⟨(hV.trans he.symm), hTM_1⟩ hP hS dX7_which_175
      refine lv_icmp_ge (tgt := 162) hx hb dX7_which_155 (by decide) (fun hc_57 => ?_) (fun hc_57 => ?_)
      · have hr_58 := ite_t hr_58 hc_57
        refine lv_iconst (v := 3) hx hb dX7_which_162 (by decide) ?_
        refine lv_iload hx hb dX7_which_163 (lv_at hl 1 rfl) ?_
        refine lv_imul hx hb dX7_which_165 ?_
        refine lv_iload_n hx hb dX7_which_166 rfl (lv_at hl 0 rfl) ?_
        refine lv_icmp_lt (tgt := 174) hx hb dX7_which_167 (by decide) (fun hc_59 => ?_) (fun hc_59 => ?_)
        · have hr_58 := ite_t hr_58 hc_59
          refine lv_iconst (v := 2) hx hb dX7_which_174 (by decide) ?_
          cases hr_58
          exact j175 _ _ _ hP hS (lv_sub hl [] rfl)
        · have hr_58 := ite_f hr_58 hc_59
          refine lv_iconst (v := 1) hx hb dX7_which_170 (by decide) ?_
          refine lv_goto (tgt := 175) hx hb dX7_which_171 (by decide) ?_
          cases hr_58
          exact j175 _ _ _ hP hS (lv_sub hl [] rfl)
      · have hr_58 := ite_f hr_58 hc_57
        refine lv_iconst (v := 0) hx hb dX7_which_158 (by decide) ?_
        refine lv_goto (tgt := 175) hx hb dX7_which_159 (by decide) ?_
        cases hr_58
        exact j175 _ _ _ hP hS (lv_sub hl [] rfl)
    have lp28 : ∀ (nn : Nat) (H : Heap) (locs : List Loc) (ls : Array Slot) (v_31 : Int32) (v_32 : Int32) (v_33 : Int32) (v_34 : Int32), (1 ≤ v_34.toInt) → (100 - v_34.toInt).toNat < nn → lp_X7_which_28 nn a1 M_1 v_31 v_32 v_33 v_34 = (w_55, w_56) → va_P D vwCl (wld 31 ad (cM ad k M_1)) H → va_S (AW 31 ad) s.heap H locs → lv_has ls 12 [(0, .ref (ad 0)), (1, .int a1), (3, .int v_31), (4, .int v_32), (5, .int v_33), (6, .int v_34)] → W p l e rm_X7_which s m args below meth c H locs 0 0 Q (F0 m 28 ls []) := by
      intro nn
      induction nn with
      | zero =>
        intro H locs ls v_31 v_32 v_33 v_34 h0v_34 hμ
        exact absurd hμ (Nat.not_lt_zero _)
      | succ nn ih =>
        intro H locs ls v_31 v_32 v_33 v_34 h0v_34 hμ hr_35 hP hS hl
        rw [lp_X7_which_28] at hr_35
        refine lv_iload hx hb dX7_which_28 (lv_at hl 5 rfl) ?_
        refine lv_aload_n hx hb dX7_which_30 rfl (lv_at hl 0 rfl) ?_
        refine gX7_47 hx hb hG hown hK hP gw_5_16 dX7_which_31 ?_
        refine lv_iload_n hx hb dX7_which_34 rfl (lv_at hl 1 rfl) ?_
        refine al_M28 hx hb hK hP (vin_I (by have qy_5 := congrArg Int32.toInt ey_5; have q1 : 0 ≤ y_5.toInt := le_I hc_6; have r2 : 0 ≤ a1.toInt ∧ a1.toInt < 8 := wrongRow_in (nlt_of_le (by rw [ey_5] at hc_6; exact hc_6)); omega) (by have qy_5 := congrArg Int32.toInt ey_5; have q1 : 0 ≤ y_5.toInt := le_I hc_6; have r2 : 0 ≤ a1.toInt ∧ a1.toInt < 8 := wrongRow_in (nlt_of_le (by rw [ey_5] at hc_6; exact hc_6)); omega)) dX7_which_35 ?_
        have qr_36 := hTM_1.1.2.2.2.1 _ (vin_lt (x := a1) (n := 8) (vin_I (by have qy_5 := congrArg Int32.toInt ey_5; have q1 : 0 ≤ y_5.toInt := le_I hc_6; have r2 : 0 ≤ a1.toInt ∧ a1.toInt < 8 := wrongRow_in (nlt_of_le (by rw [ey_5] at hc_6; exact hc_6)); omega) (by have qy_5 := congrArg Int32.toInt ey_5; have q1 : 0 ≤ y_5.toInt := le_I hc_6; have r2 : 0 ≤ a1.toInt ∧ a1.toInt < 8 := wrongRow_in (nlt_of_le (by rw [ey_5] at hc_6; exact hc_6)); omega)))
        refine lv_icmp_ge (tgt := 153) hx hb dX7_which_36 (by decide) (fun hc_37 => ?_) (fun hc_37 => ?_)
        · have hr_35 := ite_t hr_35 hc_37
          cases hr_35
          exact j153 _ _ _ hP hS (lv_sub hl [2, 3] rfl)
        · have hr_35 := ite_f hr_35 hc_37
          refine lv_aload_n hx hb dX7_which_39 rfl (lv_at hl 0 rfl) ?_
          refine gX7_48 hx hb hG hown hK hP gw_5_17 dX7_which_40 ?_
          refine lv_bipush (v := 100) hx hb dX7_which_43 (by decide) ?_
          refine lv_iload_n hx hb dX7_which_45 rfl (lv_at hl 1 rfl) ?_
          refine lv_imul hx hb dX7_which_46 ?_
          refine lv_iload hx hb dX7_which_47 (lv_at hl 5 rfl) ?_
          refine lv_iadd hx hb dX7_which_49 ?_
          refine lv_iconst (v := 1) hx hb dX7_which_50 (by decide) ?_
          refine lv_isub hx hb dX7_which_51 ?_
          refine al_M29 hx hb hK hP (vin_row1 (by have qy_5 := congrArg Int32.toInt ey_5; have q1 : 0 ≤ y_5.toInt := le_I hc_6; have r2 : 0 ≤ a1.toInt ∧ a1.toInt < 8 := wrongRow_in (nlt_of_le (by rw [ey_5] at hc_6; exact hc_6)); have q3 : v_34.toInt < (M_1 28 a1.toNatClampNeg).toInt := nle_I hc_37; omega) (by have qy_5 := congrArg Int32.toInt ey_5; have q1 : v_34.toInt < (M_1 28 a1.toNatClampNeg).toInt := nle_I hc_37; omega)) dX7_which_52 ?_
          refine lv_topl (fun y_38 ey_38 => ?_)
          have hr_35 := bnd_at hr_35 ey_38
          refine lv_lstore (lv' := [(7, .long y_38), (0, .ref (ad 0)), (1, .int a1), (3, .int v_31), (4, .int v_32), (5, .int v_33), (6, .int v_34)]) hx hb dX7_which_53 hl (by decide) rfl (fun ls hl => ?_)
          refine lv_aload_n hx hb dX7_which_55 rfl (lv_at hl 1 rfl) ?_
          refine gX7_48 hx hb hG hown hK hP gw_5_17 dX7_which_56 ?_
          refine lv_bipush (v := 100) hx hb dX7_which_59 (by decide) ?_
          refine lv_iload_n hx hb dX7_which_61 rfl (lv_at hl 2 rfl) ?_
          refine lv_imul hx hb dX7_which_62 ?_
          refine lv_iload hx hb dX7_which_63 (lv_at hl 6 rfl) ?_
          refine lv_iadd hx hb dX7_which_65 ?_
          refine al_M29 hx hb hK hP (vin_row (by have qy_5 := congrArg Int32.toInt ey_5; have q1 : 0 ≤ y_5.toInt := le_I hc_6; have r2 : 0 ≤ a1.toInt ∧ a1.toInt < 8 := wrongRow_in (nlt_of_le (by rw [ey_5] at hc_6; exact hc_6)); have q3 : v_34.toInt < (M_1 28 a1.toNatClampNeg).toInt := nle_I hc_37; omega) (by have qy_5 := congrArg Int32.toInt ey_5; have q1 : v_34.toInt < (M_1 28 a1.toNatClampNeg).toInt := nle_I hc_37; omega)) dX7_which_66 ?_
          refine lv_topl (fun y_39 ey_39 => ?_)
          have hr_35 := bnd_at hr_35 ey_39
          refine lv_lstore (lv' := [(9, .long y_39), (7, .long y_38), (0, .ref (ad 0)), (1, .int a1), (3, .int v_31), (4, .int v_32), (5, .int v_33), (6, .int v_34)]) hx hb dX7_which_67 hl (by decide) rfl (fun ls hl => ?_)
          refine lv_lload hx hb dX7_which_69 (lv_at hl 0 rfl) ?_
          refine lv_lload hx hb dX7_which_71 (lv_at hl 1 rfl) ?_
          refine W.lcmp hx hb dX7_which_73 ?_
          obtain ⟨t_43, hr_41, hr_35⟩ := bnd_ex hr_35
          have j95 : ∀ (H : Heap) (locs : List Loc) (ls : Array Slot), va_P D vwCl (wld 31 ad (cM ad k M_1)) H → va_S (AW 31 ad) s.heap H locs → lv_has ls 12 [(0, .ref (ad 0)), (1, .int a1), (3, .int v_31), (4, .int v_32), (5, .int v_33), (6, .int v_34), (7, .long y_38), (9, .long y_39)] → W p l e rm_X7_which s m args below meth c H locs 0 0 Q (F0 m 95 ls [.int t_43]) := by
            intro H locs ls hP hS hl
            refine lv_istore (lv' := [(11, .int t_43), (0, .ref (ad 0)), (1, .int a1), (3, .int v_31), (4, .int v_32), (5, .int v_33), (6, .int v_34), (7, .long y_38), (9, .long y_39)]) hx hb dX7_which_95 hl (by decide) rfl (fun ls hl => ?_)
            refine lv_iload_n hx hb dX7_which_97 rfl (lv_at hl 3 rfl) ?_
            refine lv_lload hx hb dX7_which_98 (lv_at hl 7 rfl) ?_
            refine lv_lload hx hb dX7_which_100 (lv_at hl 8 rfl) ?_
            refine W.lcmp hx hb dX7_which_102 ?_
            obtain ⟨t_46, hr_45, hr_35⟩ := bnd_ex hr_35
            have j111 : ∀ (H : Heap) (locs : List Loc) (ls : Array Slot), (t_46 = 0 ∨ t_46 = 1) → va_P D vwCl (wld 31 ad (cM ad k M_1)) H → va_S (AW 31 ad) s.heap H locs → lv_has ls 12 [(0, .ref (ad 0)), (1, .int a1), (4, .int v_32), (5, .int v_33), (6, .int v_34), (7, .long y_38), (9, .long y_39), (11, .int t_43)] → W p l e rm_X7_which s m args below meth c H locs 0 0 Q (F0 m 111 ls [.int t_46, .int v_31]) := by
              intro H locs ls zt_46 hP hS hl
              refine lv_iadd hx hb dX7_which_111 ?_
              refine lv_topi (fun y_47 ey_47 => ?_)
              have hr_35 := bnd_at hr_35 ey_47
              refine lv_istore_n (lv' := [(3, .int y_47), (0, .ref (ad 0)), (1, .int a1), (4, .int v_32), (5, .int v_33), (6, .int v_34), (7, .long y_38), (9, .long y_39), (11, .int t_43)]) hx hb dX7_which_112 rfl hl (by decide) rfl (fun ls hl => ?_)
              refine lv_iload hx hb dX7_which_113 (lv_at hl 3 rfl) ?_
              refine lv_lload hx hb dX7_which_115 (lv_at hl 6 rfl) ?_
              refine lv_lload hx hb dX7_which_117 (lv_at hl 7 rfl) ?_
              refine W.lcmp hx hb dX7_which_119 ?_
              obtain ⟨t_52, hr_49, hr_35⟩ := bnd_ex hr_35
              have j140 : ∀ (H : Heap) (locs : List Loc) (ls : Array Slot), (t_52 = 0 ∨ t_52 = 1) → va_P D vwCl (wld 31 ad (cM ad k M_1)) H → va_S (AW 31 ad) s.heap H locs → lv_has ls 12 [(0, .ref (ad 0)), (1, .int a1), (3, .int y_47), (6, .int v_34), (11, .int t_43)] → W p l e rm_X7_which s m args below meth c H locs 0 0 Q (F0 m 140 ls [.int t_52, .int v_32]) := by
                intro H locs ls zt_52 hP hS hl
                refine lv_iadd hx hb dX7_which_140 ?_
                refine lv_topi (fun y_53 ey_53 => ?_)
                have hr_35 := bnd_at hr_35 ey_53
                refine lv_istore (lv' := [(4, .int y_53), (0, .ref (ad 0)), (1, .int a1), (3, .int y_47), (6, .int v_34), (11, .int t_43)]) hx hb dX7_which_141 hl (by decide) rfl (fun ls hl => ?_)
                refine lv_iload hx hb dX7_which_143 (lv_at hl 5 rfl) ?_
                refine lv_istore (lv' := [(5, .int t_43), (4, .int y_53), (0, .ref (ad 0)), (1, .int a1), (3, .int y_47), (6, .int v_34), (11, .int t_43)]) hx hb dX7_which_145 hl (by decide) rfl (fun ls hl => ?_)
                obtain ⟨y_54, ey_54⟩ : ∃ y_54 : Int32, y_54 = v_34 + 1 := ⟨_, rfl⟩
                have hr_35 := bnd_at hr_35 ey_54
                refine lv_iinc (v := y_54) (lv' := [(6, .int y_54), (5, .int t_43), (4, .int y_53), (0, .ref (ad 0)), (1, .int a1), (3, .int y_47), (11, .int t_43)]) hx hb dX7_which_147 hl (k := 5) rfl (by rw [ey_54]; rfl) (by decide) rfl (fun ls hl => ?_)
                refine lv_goto (tgt := 28) hx hb dX7_which_150 (by decide) ?_
                exact ih _ _ _ _ _ _ _ (by rw [ey_54, inc_I (N := 100) (bnd_lt (nle_I hc_37) (by omega)) (by decide)]; omega) (by rw [ey_54]; exact mu_I hμ (bnd_lt (nle_I hc_37) (by omega)) (by decide)) hr_35 hP hS (lv_sub hl [3, 4, 5, 2, 1, 0] rfl)
              refine lv_if_eq (tgt := 139) hx hb dX7_which_120 (by decide) (fun hc_48 => ?_) (fun hc_48 => ?_)
              · have hr_49 := ite_t hr_49 hc_48
                refine lv_iconst (v := 0) hx hb dX7_which_139 (by decide) ?_
                cases hr_49
                exact j140 _ _ _ (Or.inl rfl) hP hS (lv_sub hl [1, 2, 0, 5, 8] rfl)
              · have hr_49 := ite_f hr_49 hc_48
                refine lv_iload hx hb dX7_which_123 (lv_at hl 4 rfl) ?_
                refine lv_if_eq (tgt := 139) hx hb dX7_which_125 (by decide) (fun hc_50 => ?_) (fun hc_50 => ?_)
                · have hr_49 := ite_t hr_49 hc_50
                  refine lv_iconst (v := 0) hx hb dX7_which_139 (by decide) ?_
                  cases hr_49
                  exact j140 _ _ _ (Or.inl rfl) hP hS (lv_sub hl [1, 2, 0, 5, 8] rfl)
                · have hr_49 := ite_f hr_49 hc_50
                  refine lv_iload hx hb dX7_which_128 (lv_at hl 8 rfl) ?_
                  refine lv_iload hx hb dX7_which_130 (lv_at hl 4 rfl) ?_
                  refine lv_icmp_eq (tgt := 139) hx hb dX7_which_132 (by decide) (fun hc_51 => ?_) (fun hc_51 => ?_)
                  · have hr_49 := ite_t hr_49 hc_51
                    refine lv_iconst (v := 0) hx hb dX7_which_139 (by decide) ?_
                    cases hr_49
                    exact j140 _ _ _ (Or.inl rfl) hP hS (lv_sub hl [1, 2, 0, 5, 8] rfl)
                  · have hr_49 := ite_f hr_49 hc_51
                    refine lv_iconst (v := 1) hx hb dX7_which_135 (by decide) ?_
                    refine lv_goto (tgt := 140) hx hb dX7_which_136 (by decide) ?_
                    cases hr_49
                    exact j140 _ _ _ (Or.inr rfl) hP hS (lv_sub hl [1, 2, 0, 5, 8] rfl)
            refine lv_if_eq (tgt := 110) hx hb dX7_which_103 (by decide) (fun hc_44 => ?_) (fun hc_44 => ?_)
            · have hr_45 := ite_t hr_45 hc_44
              refine lv_iconst (v := 0) hx hb dX7_which_110 (by decide) ?_
              cases hr_45
              exact j111 _ _ _ (Or.inl rfl) hP hS (lv_sub hl [1, 2, 4, 5, 6, 7, 8, 0] rfl)
            · have hr_45 := ite_f hr_45 hc_44
              refine lv_iconst (v := 1) hx hb dX7_which_106 (by decide) ?_
              refine lv_goto (tgt := 111) hx hb dX7_which_107 (by decide) ?_
              cases hr_45
              exact j111 _ _ _ (Or.inr rfl) hP hS (lv_sub hl [1, 2, 4, 5, 6, 7, 8, 0] rfl)
          refine lv_if_le (tgt := 81) hx hb dX7_which_74 (by decide) (fun hc_40 => ?_) (fun hc_40 => ?_)
          · have hr_41 := ite_t hr_41 hc_40
            refine lv_lload hx hb dX7_which_81 (lv_at hl 0 rfl) ?_
            refine lv_lload hx hb dX7_which_83 (lv_at hl 1 rfl) ?_
            refine W.lcmp hx hb dX7_which_85 ?_
            refine lv_if_ge (tgt := 93) hx hb dX7_which_86 (by decide) (fun hc_42 => ?_) (fun hc_42 => ?_)
            · have hr_41 := ite_t hr_41 hc_42
              refine lv_iload hx hb dX7_which_93 (lv_at hl 6 rfl) ?_
              cases hr_41
              exact j95 _ _ _ hP hS (lv_sub hl [2, 3, 4, 5, 6, 7, 1, 0] rfl)
            · have hr_41 := ite_f hr_41 hc_42
              refine lv_iconst (v := (-1)) hx hb dX7_which_89 (by decide) ?_
              refine lv_goto (tgt := 95) hx hb dX7_which_90 (by decide) ?_
              cases hr_41
              exact j95 _ _ _ hP hS (lv_sub hl [2, 3, 4, 5, 6, 7, 1, 0] rfl)
          · have hr_41 := ite_f hr_41 hc_40
            refine lv_iconst (v := 1) hx hb dX7_which_77 (by decide) ?_
            refine lv_goto (tgt := 95) hx hb dX7_which_78 (by decide) ?_
            cases hr_41
            exact j95 _ _ _ hP hS (lv_sub hl [2, 3, 4, 5, 6, 7, 1, 0] rfl)
    exact lp28 _ _ _ _ _ _ _ _ (by decide) (by decide) hr_35 hP hS (lv_sub hl [5, 6, 3, 2, 1, 0] rfl)
  · have he := ite_f he hc_6
    refine lv_iload_n hx hb dX7_which_15 rfl (lv_at hl 0 rfl) ?_
    exact hret _ _ _ _ _ _ ⟨(hV.trans he.symm), hTM_1⟩ hP hS dX7_which_16
def rm_X7_skippedIn : Room := { frames := 0, cells := 0, slots := 0, locals := 0 }
theorem gm_X7_skippedIn : Cond.instanceMethod yX7_skippedIn ∈ wsL_law ∧ Cond.selects RX7 yX7_skippedIn yX7_skippedIn ∈ wsL_law ∧ Cond.initialized RX7 ∈ wsL_law ∧ Cond.code yX7_skippedIn cX7_skippedIn 2 (some .long) ∈ wsL_law := ⟨gw_37_8, gw_37_9, gw_1_5, gw_37_10⟩
theorem gd_X7_skippedIn : yX7_skippedIn.cls = RX7 ∧ yX7_skippedIn.cls ≠ "java/lang/invoke/MethodHandle" ∧ yX7_skippedIn.cls ≠ "java/lang/invoke/VarHandle" ∧ (parseMethodDescriptor yX7_skippedIn.desc).map (fun d => d.parameters.length) = some 1 := by decide +kernel
set_option maxRecDepth 100000 in
set_option maxHeartbeats 0 in
theorem c_X7_skippedIn {l : Launch} {D : va_G} {k : Nat → ClassId} {ad : Nat → Nat} (had : InjN 31 ad) (M : Mem) (a1 : Int32) (hI : MI M) (hd : 0 ≤ a1.toInt ∧ a1.toInt < 8) : Met l yX7_skippedIn (Cond.code yX7_skippedIn cX7_skippedIn 2 (some .long) :: wsL_law) rm_X7_skippedIn (va_Pc [.ref (ad 0), .int a1] (GW 31 ad D k (cM ad k M))) (va_Ql (fun r u => f_X7_skippedIn M a1 = r ∧ u = M) (fun u t => GW 31 ad D k (cM ad k u) t) (AW 31 ad)) 0 0 (AW 31 ad) := by
  refine met_l (g := cM ad k) (M := M) (plainFor_of_name (by decide)) (Nat.le_of_ble_eq_true rfl) ?_
  intro p e s m args below meth c Q ls hx hb hml hG hown hK hret hP hS hl
  have hl : lv_has ls 2 [(0, .ref (ad 0)), (1, .int a1)] := hl
  obtain ⟨V, hV⟩ : ∃ V, f_X7_skippedIn M a1 = V := ⟨_, rfl⟩
  have he := hV
  unfold f_X7_skippedIn at he
  have hT0 : TI M M := TI_rf hI
  have qb_M := hI.1
  have qs_M := hI.2.1
  have qz_M := hI.2.2.1
  refine lv_aload_n hx hb dX7_skippedIn_0 rfl (lv_at hl 0 rfl) ?_
  refine gX7_46 hx hb hG hown hK hP gw_5_15 dX7_skippedIn_1 ?_
  refine lv_iload_n hx hb dX7_skippedIn_4 rfl (lv_at hl 1 rfl) ?_
  refine al_M27 hx hb hK hP (vin_I (by omega) (by omega)) dX7_skippedIn_5 ?_
  obtain ⟨t_4, hr_2, he⟩ := bnd_ex he
  have j34 : ∀ (H : Heap) (locs : List Loc) (ls : Array Slot), va_P D vwCl (wld 31 ad (cM ad k M)) H → va_S (AW 31 ad) s.heap H locs → lv_has ls 2 [] → W p l e rm_X7_skippedIn s m args below meth c H locs 0 0 Q (F0 m 34 ls [.long t_4]) := by
    intro H locs ls hP hS hl
    exact hret _ _ _ _ _ _ ⟨hV.trans he.symm, rfl⟩ hP hS dX7_skippedIn_34
  refine lv_if_ne (tgt := 15) hx hb dX7_skippedIn_6 (by decide) (fun hc_1 => ?_) (fun hc_1 => ?_)
  · have hr_2 := ite_t hr_2 hc_1
    refine lv_aload_n hx hb dX7_skippedIn_15 rfl (lv_at hl 0 rfl) ?_
    refine gX7_46 hx hb hG hown hK hP gw_5_15 dX7_skippedIn_16 ?_
    refine lv_iload_n hx hb dX7_skippedIn_19 rfl (lv_at hl 1 rfl) ?_
    refine al_M27 hx hb hK hP (vin_I (by have q0 : (M 27 a1.toNatClampNeg).toInt ≠ 0 := ne_I hc_1; omega) (by have q0 : (M 27 a1.toNatClampNeg).toInt ≠ 0 := ne_I hc_1; omega)) dX7_skippedIn_20 ?_
    refine lv_iconst (v := 1) hx hb dX7_skippedIn_21 (by decide) ?_
    refine lv_icmp_ne (tgt := 31) hx hb dX7_skippedIn_22 (by decide) (fun hc_3 => ?_) (fun hc_3 => ?_)
    · have hr_2 := ite_t hr_2 hc_3
      refine lv_ldc2 (v := (-2147483648)) hx hb hown (hG _ gw_37_13) dX7_skippedIn_31 ?_
      cases hr_2
      exact j34 _ _ _ hP hS (lv_sub hl [] rfl)
    · have hr_2 := ite_f hr_2 (fun q => q hc_3)
      refine lv_ldc2 (v := (-32768)) hx hb hown (hG _ gw_37_12) dX7_skippedIn_25 ?_
      refine lv_goto (tgt := 34) hx hb dX7_skippedIn_28 (by decide) ?_
      cases hr_2
      exact j34 _ _ _ hP hS (lv_sub hl [] rfl)
  · have hr_2 := ite_f hr_2 (fun q => q hc_1)
    refine lv_ldc2 (v := (-128)) hx hb hown (hG _ gw_37_11) dX7_skippedIn_9 ?_
    refine lv_goto (tgt := 34) hx hb dX7_skippedIn_12 (by decide) ?_
    cases hr_2
    exact j34 _ _ _ hP hS (lv_sub hl [] rfl)
def rm_X7_read : Room := { frames := 5, cells := 0, slots := 0, locals := 108 }
theorem gm_X7_read : Cond.instanceMethod yX7_read ∈ wsL_law ∧ Cond.selects RX7 yX7_read yX7_read ∈ wsL_law ∧ Cond.initialized RX7 ∈ wsL_law ∧ Cond.code yX7_read cX7_read 8 (some .int) ∈ wsL_law := ⟨gw_37_4, gw_37_5, gw_1_5, gw_37_6⟩
theorem gd_X7_read : yX7_read.cls = RX7 ∧ yX7_read.cls ≠ "java/lang/invoke/MethodHandle" ∧ yX7_read.cls ≠ "java/lang/invoke/VarHandle" ∧ (parseMethodDescriptor yX7_read.desc).map (fun d => d.parameters.length) = some 2 := by decide +kernel
set_option maxRecDepth 100000 in
set_option maxHeartbeats 0 in
theorem c_X7_read {l : Launch} {D : va_G} {k : Nat → ClassId} {ad : Nat → Nat} (had : InjN 31 ad) (M : Mem) (a1 : Int32) (a2 : Int32) (hI : MI M) : Met l yX7_read (Cond.code yX7_read cX7_read 8 (some .int) :: wsL_law) rm_X7_read (va_Pc [.ref (ad 0), .int a1, .int a2] (GW 31 ad D k (cM ad k M))) (va_Qi (fun r u => (f_X7_read M a1 a2 = (r, u) ∧ TI M u)) (fun u t => GW 31 ad D k (cM ad k u) t) (AW 31 ad)) 0 0 (AW 31 ad) := by
  refine met_i (g := cM ad k) (M := M) (plainFor_of_name (by decide)) (Nat.le_of_ble_eq_true rfl) ?_
  intro p e s m args below meth c Q ls hx hb hml hG hown hK hret hP hS hl
  have hl : lv_has ls 8 [(0, .ref (ad 0)), (1, .int a1), (2, .int a2)] := hl
  obtain ⟨V, hV⟩ : ∃ V, f_X7_read M a1 a2 = V := ⟨_, rfl⟩
  have he := hV
  unfold f_X7_read at he
  have hT0 : TI M M := TI_rf hI
  have qb_M := hI.1
  have qs_M := hI.2.1
  have qz_M := hI.2.2.1
  refine lv_aload_n hx hb dX7_read_0 rfl (lv_at hl 0 rfl) ?_
  refine lv_iconst (v := 0) hx hb dX7_read_1 (by decide) ?_
  refine pX7_19 hx hb hG hown hK hP had AW_in hS gw_5_19 dX7_read_2 (fun H locs hP hS => ?_)
  obtain ⟨M_1, eM_1⟩ : ∃ y : Mem, y = up2 M 0 19 0 := ⟨_, rfl⟩
  rw [← eM_1] at hP
  have he := bnd_at he eM_1
  have hTM_1 : TI M M_1 := by rw [eM_1]; exact TI_f hT0 (by decide)
  have qb_M_1 := hTM_1.1.1
  have qs_M_1 := hTM_1.1.2.1
  have qz_M_1 := hTM_1.1.2.2.1
  refine lv_aload_n hx hb dX7_read_5 rfl (lv_at hl 0 rfl) ?_
  refine lv_iload_n hx hb dX7_read_6 rfl (lv_at hl 1 rfl) ?_
  refine call_i [.int a1] [] hx hb hml hG hown hK (c_X7_isBoat had M_1 a1 hTM_1.1) gw_16_16 gm_X7_isBoat gd_X7_isBoat rfl rfl ⟨Nat.le_of_ble_eq_true rfl, Nat.le_of_ble_eq_true rfl⟩ ⟨Nat.le_refl _, Nat.le_refl _⟩ (rX7 hK hP) hP (fun _ h => h) hS rfl hl.1 rfl (Nat.le_of_ble_eq_true rfl) dX7_read_7 (fun r_2 u_4 H locs hF_3 hP hS => ?_)
  obtain ⟨hz_5, hF_3, hu⟩ := hF_3; rw [hu] at hP; subst hF_3
  obtain ⟨t_11, hr_7, he⟩ := bnd_ex he
  have j22 : ∀ (H : Heap) (locs : List Loc) (ls : Array Slot), va_P D vwCl (wld 31 ad (cM ad k M_1)) H → va_S (AW 31 ad) s.heap H locs → lv_has ls 8 [(0, .ref (ad 0)), (1, .int a1), (2, .int a2)] → W p l e rm_X7_read s m args below meth c H locs 0 0 Q (F0 m 22 ls [.int t_11]) := by
    intro H locs ls hP hS hl
    refine lv_istore_n (lv' := [(3, .int t_11), (0, .ref (ad 0)), (1, .int a1), (2, .int a2)]) hx hb dX7_read_22 rfl hl (by decide) rfl (fun ls hl => ?_)
    refine lv_iload_n hx hb dX7_read_23 rfl (lv_at hl 0 rfl) ?_
    refine lv_if_ge (tgt := 29) hx hb dX7_read_24 (by decide) (fun hc_12 => ?_) (fun hc_12 => ?_)
    · have he := ite_t he hc_12
      refine lv_aload_n hx hb dX7_read_29 rfl (lv_at hl 1 rfl) ?_
      refine call_v [] [] hx hb hml hG hown hK (c_X7_open had M_1 hTM_1.1) gw_28_16 gm_X7_open gd_X7_open rfl rfl ⟨Nat.le_of_ble_eq_true rfl, Nat.le_of_ble_eq_true rfl⟩ ⟨Nat.le_refl _, Nat.le_refl _⟩ (rX7 hK hP) hP (fun _ h => h) hS rfl hl.1 rfl (Nat.le_of_ble_eq_true rfl) dX7_read_30 (fun M_15 H locs hF_14 hP hS => ?_)
      obtain ⟨hF_14, hti_16⟩ := hF_14
      have he := bnd_at he hF_14.symm
      have hNM_15 := hti_16.2
      have hTM_15 : TI M M_15 := TI_tr hTM_1 hti_16.1
      have qb_M_15 := hTM_15.1.1
      have qs_M_15 := hTM_15.1.2.1
      have qz_M_15 := hTM_15.1.2.2.1
      refine lv_aload_n hx hb dX7_read_33 rfl (lv_at hl 1 rfl) ?_
      refine call_v [] [] hx hb hml hG hown hK (c_X7_layWinds had M_15 hTM_15.1) gw_22_9 gm_X7_layWinds gd_X7_layWinds rfl rfl ⟨Nat.le_of_ble_eq_true rfl, Nat.le_of_ble_eq_true rfl⟩ ⟨Nat.le_refl _, Nat.le_refl _⟩ (rX7 hK hP) hP (fun _ h => h) hS rfl hl.1 rfl (Nat.le_of_ble_eq_true rfl) dX7_read_34 (fun M_19 H locs hF_18 hP hS => ?_)
      obtain ⟨hF_18, hti_20⟩ := hF_18
      have he := bnd_at he hF_18.symm
      have hNM_19 : SN (M_19 20) := hti_20.2 hNM_15
      have hTM_19 : TI M M_19 := TI_tr hTM_15 hti_20
      have qb_M_19 := hTM_19.1.1
      have qs_M_19 := hTM_19.1.2.1
      have qz_M_19 := hTM_19.1.2.2.1
      refine lv_bipush (v := (-4)) hx hb dX7_read_37 (by decide) ?_
      refine lv_istore (lv' := [(4, .int (-4)), (3, .int t_11), (0, .ref (ad 0)), (1, .int a1), (2, .int a2)]) hx hb dX7_read_39 hl (by decide) rfl (fun ls hl => ?_)
      refine lv_iconst (v := 0) hx hb dX7_read_41 (by decide) ?_
      refine lv_istore (lv' := [(5, .int 0), (4, .int (-4)), (3, .int t_11), (0, .ref (ad 0)), (1, .int a1), (2, .int a2)]) hx hb dX7_read_42 hl (by decide) rfl (fun ls hl => ?_)
      obtain ⟨w_75, M_76, hr_51, he⟩ := bnd2_ex he
      have j124 : ∀ (H : Heap) (locs : List Loc) (ls : Array Slot), TI M M_76 → SN (M_76 20) → va_P D vwCl (wld 31 ad (cM ad k M_76)) H → va_S (AW 31 ad) s.heap H locs → lv_has ls 8 [(0, .ref (ad 0)), (4, .int w_75)] → W p l e rm_X7_read s m args below meth c H locs 0 0 Q (F0 m 124 ls []) := by
        intro H locs ls hTM_76 hNM_76 hP hS hl
        have qb_M_76 := hTM_76.1.1
        have qs_M_76 := hTM_76.1.2.1
        have qz_M_76 := hTM_76.1.2.2.1
        refine lv_aload_n hx hb dX7_read_124 rfl (lv_at hl 0 rfl) ?_
        refine call_v [] [] hx hb hml hG hown hK (c_X7_close had M_76 hTM_76.1 hNM_76) gw_29_15 gm_X7_close gd_X7_close rfl rfl ⟨Nat.le_of_ble_eq_true rfl, Nat.le_of_ble_eq_true rfl⟩ ⟨Nat.le_refl _, Nat.le_refl _⟩ (rX7 hK hP) hP (fun _ h => h) hS rfl hl.1 rfl (Nat.le_of_ble_eq_true rfl) dX7_read_125 (fun M_79 H locs hF_78 hP hS => ?_)
        obtain ⟨hF_78, hti_80⟩ := hF_78
        have he := bnd_at he hF_78.symm
        have hNM_79 : SN (M_79 20) := hti_80.2 hNM_76
        have hTM_79 : TI M M_79 := TI_tr hTM_76 hti_80
        have qb_M_79 := hTM_79.1.1
        have qs_M_79 := hTM_79.1.2.1
        have qz_M_79 := hTM_79.1.2.2.1
        refine lv_iload hx hb dX7_read_128 (lv_at hl 1 rfl) ?_
        exact hret _ _ _ _ _ _ ⟨(hV.trans he.symm), hTM_79⟩ hP hS dX7_read_130
      have lp44 : ∀ (nn : Nat) (H : Heap) (locs : List Loc) (ls : Array Slot) (M_50 : Mem) (v_48 : Int32) (v_49 : Int32), (0 ≤ v_49.toInt) → (TI M M_50) → (SN (M_50 20)) → (100 - v_49.toInt).toNat < nn → lp_X7_read_44 nn a1 a2 M_50 v_48 v_49 = (w_75, M_76) → va_P D vwCl (wld 31 ad (cM ad k M_50)) H → va_S (AW 31 ad) s.heap H locs → lv_has ls 8 [(0, .ref (ad 0)), (1, .int a1), (2, .int a2), (4, .int v_48), (5, .int v_49)] → W p l e rm_X7_read s m args below meth c H locs 0 0 Q (F0 m 44 ls []) := by
        intro nn
        induction nn with
        | zero =>
          intro H locs ls M_50 v_48 v_49 h0v_49 hTM_50 hNM_50 hμ
          exact absurd hμ (Nat.not_lt_zero _)
        | succ nn ih =>
          intro H locs ls M_50 v_48 v_49 h0v_49 hTM_50 hNM_50 hμ hr_51 hP hS hl
          rw [lp_X7_read_44] at hr_51
          have qb_M_50 := hTM_50.1.1
          have qs_M_50 := hTM_50.1.2.1
          have qz_M_50 := hTM_50.1.2.2.1
          refine lv_iload hx hb dX7_read_44 (lv_at hl 4 rfl) ?_
          refine lv_aload_n hx hb dX7_read_46 rfl (lv_at hl 0 rfl) ?_
          refine gX7_47 hx hb hG hown hK hP gw_5_16 dX7_read_47 ?_
          refine lv_iload_n hx hb dX7_read_50 rfl (lv_at hl 2 rfl) ?_
          refine al_M28 hx hb hK hP (vin_I (read_in qb_M_1 hr_7 hc_12).2.1 (read_in qb_M_1 hr_7 hc_12).2.2) dX7_read_51 ?_
          have qr_52 := hTM_50.1.2.2.2.1 _ (vin_lt (x := a2) (n := 8) (vin_I (read_in qb_M_1 hr_7 hc_12).2.1 (read_in qb_M_1 hr_7 hc_12).2.2))
          refine lv_icmp_ge (tgt := 124) hx hb dX7_read_52 (by decide) (fun hc_53 => ?_) (fun hc_53 => ?_)
          · have hr_51 := ite_t hr_51 hc_53
            cases hr_51
            exact j124 _ _ _ hTM_50 hNM_50 hP hS (lv_sub hl [0, 3] rfl)
          · have hr_51 := ite_f hr_51 hc_53
            refine lv_iload hx hb dX7_read_55 (lv_at hl 3 rfl) ?_
            refine lv_if_ge (tgt := 124) hx hb dX7_read_57 (by decide) (fun hc_54 => ?_) (fun hc_54 => ?_)
            · have hr_51 := ite_t hr_51 hc_54
              cases hr_51
              exact j124 _ _ _ hTM_50 hNM_50 hP hS (lv_sub hl [0, 3] rfl)
            · have hr_51 := ite_f hr_51 hc_54
              refine lv_aload_n hx hb dX7_read_60 rfl (lv_at hl 0 rfl) ?_
              refine call_i [] [] hx hb hml hG hown hK (c_X7_isEnded had M_50 hTM_50.1) gw_22_5 gm_X7_isEnded gd_X7_isEnded rfl rfl ⟨Nat.le_of_ble_eq_true rfl, Nat.le_of_ble_eq_true rfl⟩ ⟨Nat.le_refl _, Nat.le_refl _⟩ (rX7 hK hP) hP (fun _ h => h) hS rfl hl.1 rfl (Nat.le_of_ble_eq_true rfl) dX7_read_61 (fun r_55 u_57 H locs hF_56 hP hS => ?_)
              obtain ⟨hz_58, hF_56, hu⟩ := hF_56; rw [hu] at hP; subst hF_56
              obtain ⟨M_65, hr_60, hr_51⟩ := bnd_ex hr_51
              have j71 : ∀ (H : Heap) (locs : List Loc) (ls : Array Slot), TI M M_65 → SN (M_65 20) → va_P D vwCl (wld 31 ad (cM ad k M_65)) H → va_S (AW 31 ad) s.heap H locs → lv_has ls 8 [(0, .ref (ad 0)), (1, .int a1), (2, .int a2), (5, .int v_49)] → W p l e rm_X7_read s m args below meth c H locs 0 0 Q (F0 m 71 ls []) := by
                intro H locs ls hTM_65 hNM_65 hP hS hl
                have qb_M_65 := hTM_65.1.1
                have qs_M_65 := hTM_65.1.2.1
                have qz_M_65 := hTM_65.1.2.2.1
                refine lv_aload_n hx hb dX7_read_71 rfl (lv_at hl 0 rfl) ?_
                refine gX7_48 hx hb hG hown hK hP gw_5_17 dX7_read_72 ?_
                refine lv_bipush (v := 100) hx hb dX7_read_75 (by decide) ?_
                refine lv_iload_n hx hb dX7_read_77 rfl (lv_at hl 2 rfl) ?_
                refine lv_imul hx hb dX7_read_78 ?_
                refine lv_iload hx hb dX7_read_79 (lv_at hl 3 rfl) ?_
                refine lv_iadd hx hb dX7_read_81 ?_
                refine al_M29 hx hb hK hP (vin_row (read_in qb_M_1 hr_7 hc_12).2 (by have q0 : v_49.toInt < (M_50 28 a2.toNatClampNeg).toInt := nle_I hc_53; omega)) dX7_read_82 ?_
                refine lv_topl (fun y_66 ey_66 => ?_)
                have hr_51 := bnd_at hr_51 ey_66
                refine lv_lstore (lv' := [(6, .long y_66), (0, .ref (ad 0)), (1, .int a1), (2, .int a2), (5, .int v_49)]) hx hb dX7_read_83 hl (by decide) rfl (fun ls hl => ?_)
                refine lv_lload hx hb dX7_read_85 (lv_at hl 0 rfl) ?_
                refine lv_aload_n hx hb dX7_read_87 rfl (lv_at hl 1 rfl) ?_
                refine lv_iload_n hx hb dX7_read_88 rfl (lv_at hl 3 rfl) ?_
                refine call_l [.int a2] [.long y_66] hx hb hml hG hown hK (c_X7_skippedIn had M_65 a2 hTM_65.1 (read_in qb_M_1 hr_7 hc_12).2) gw_37_7 gm_X7_skippedIn gd_X7_skippedIn rfl rfl ⟨Nat.le_of_ble_eq_true rfl, Nat.le_of_ble_eq_true rfl⟩ ⟨Nat.le_refl _, Nat.le_refl _⟩ (rX7 hK hP) hP (fun _ h => h) hS rfl hl.1 rfl (Nat.le_of_ble_eq_true rfl) dX7_read_89 (fun r_67 u_69 H locs hF_68 hP hS => ?_)
                obtain ⟨hF_68, hu⟩ := hF_68; rw [hu] at hP; subst hF_68
                refine W.lcmp hx hb dX7_read_92 ?_
                obtain ⟨t_73, hr_71, hr_51⟩ := bnd_ex hr_51
                have j116 : ∀ (H : Heap) (locs : List Loc) (ls : Array Slot), va_P D vwCl (wld 31 ad (cM ad k M_65)) H → va_S (AW 31 ad) s.heap H locs → lv_has ls 8 [(0, .ref (ad 0)), (1, .int a1), (2, .int a2), (5, .int v_49)] → W p l e rm_X7_read s m args below meth c H locs 0 0 Q (F0 m 116 ls [.int t_73]) := by
                  intro H locs ls hP hS hl
                  refine lv_istore (lv' := [(4, .int t_73), (0, .ref (ad 0)), (1, .int a1), (2, .int a2), (5, .int v_49)]) hx hb dX7_read_116 hl (by decide) rfl (fun ls hl => ?_)
                  obtain ⟨y_74, ey_74⟩ : ∃ y_74 : Int32, y_74 = v_49 + 1 := ⟨_, rfl⟩
                  have hr_51 := bnd_at hr_51 ey_74
                  refine lv_iinc (v := y_74) (lv' := [(5, .int y_74), (4, .int t_73), (0, .ref (ad 0)), (1, .int a1), (2, .int a2)]) hx hb dX7_read_118 hl (k := 4) rfl (by rw [ey_74]; rfl) (by decide) rfl (fun ls hl => ?_)
                  refine lv_goto (tgt := 44) hx hb dX7_read_121 (by decide) ?_
                  exact ih _ _ _ _ _ _ (by rw [ey_74, inc_I (N := 100) (bnd_lt (nle_I hc_53) (by omega)) (by decide)]; omega) hTM_65 hNM_65 (by rw [ey_74]; exact mu_I hμ (bnd_lt (nle_I hc_53) (by omega)) (by decide)) hr_51 hP hS (lv_sub hl [2, 3, 4, 1, 0] rfl)
                refine lv_if_eq (tgt := 114) hx hb dX7_read_93 (by decide) (fun hc_70 => ?_) (fun hc_70 => ?_)
                · have hr_71 := ite_t hr_71 hc_70
                  refine lv_bipush (v := (-4)) hx hb dX7_read_114 (by decide) ?_
                  cases hr_71
                  exact j116 _ _ _ hP hS (lv_sub hl [1, 2, 3, 4] rfl)
                · have hr_71 := ite_f hr_71 hc_70
                  refine lv_lload hx hb dX7_read_96 (lv_at hl 0 rfl) ?_
                  refine lv_aload_n hx hb dX7_read_98 rfl (lv_at hl 1 rfl) ?_
                  refine gX7_14 hx hb hG hown hK hP gw_4_19 dX7_read_99 ?_
                  refine lv_iload_n hx hb dX7_read_102 rfl (lv_at hl 2 rfl) ?_
                  refine al_M7 hx hb hK hP (vin_I (read_in qb_M_1 hr_7 hc_12).1.1 (read_in qb_M_1 hr_7 hc_12).1.2) dX7_read_103 ?_
                  refine lv_i2l (v := (M_65 7 a1.toNatClampNeg).toInt64) hx hb dX7_read_104 rfl ?_
                  refine W.lcmp hx hb dX7_read_105 ?_
                  refine lv_if_eq (tgt := 114) hx hb dX7_read_106 (by decide) (fun hc_72 => ?_) (fun hc_72 => ?_)
                  · have hr_71 := ite_t hr_71 hc_72
                    refine lv_bipush (v := (-4)) hx hb dX7_read_114 (by decide) ?_
                    cases hr_71
                    exact j116 _ _ _ hP hS (lv_sub hl [1, 2, 3, 4] rfl)
                  · have hr_71 := ite_f hr_71 hc_72
                    refine lv_iload hx hb dX7_read_109 (lv_at hl 4 rfl) ?_
                    refine lv_goto (tgt := 116) hx hb dX7_read_111 (by decide) ?_
                    cases hr_71
                    exact j116 _ _ _ hP hS (lv_sub hl [1, 2, 3, 4] rfl)
              refine lv_if_ne (tgt := 71) hx hb dX7_read_64 (by decide) (fun hc_59 => ?_) (fun hc_59 => ?_)
              · have hr_60 := ite_t hr_60 hc_59
                cases hr_60
                exact j71 _ _ _ hTM_50 hNM_50 hP hS (lv_sub hl [0, 1, 2, 4] rfl)
              · have hr_60 := ite_f hr_60 (fun q => q hc_59)
                refine lv_aload_n hx hb dX7_read_67 rfl (lv_at hl 0 rfl) ?_
                refine call_v [] [] hx hb hml hG hown hK (c_X7_raceOn had M_50 hTM_50.1 (by have q0 : v_49.toInt < (M_50 28 a2.toNatClampNeg).toInt := nle_I hc_53; have q1 : (f_X7_isEnded M_50).toInt = 0 := congrArg Int32.toInt hc_59; have r2 : (M_50 0 7).toInt < 400 := isEnded_lt hc_59; omega)) gw_22_14 gm_X7_raceOn gd_X7_raceOn rfl rfl ⟨Nat.le_of_ble_eq_true rfl, Nat.le_of_ble_eq_true rfl⟩ ⟨Nat.le_refl _, Nat.le_refl _⟩ (rX7 hK hP) hP (fun _ h => h) hS rfl hl.1 rfl (Nat.le_of_ble_eq_true rfl) dX7_read_68 (fun M_63 H locs hF_62 hP hS => ?_)
                obtain ⟨hF_62, hti_64⟩ := hF_62
                have hr_60 := bnd_at hr_60 hF_62.symm
                have hNM_63 : SN (M_63 20) := hti_64.2 hNM_50
                have hTM_63 : TI M M_63 := TI_tr hTM_50 hti_64
                have qb_M_63 := hTM_63.1.1
                have qs_M_63 := hTM_63.1.2.1
                have qz_M_63 := hTM_63.1.2.2.1
                cases hr_60
                exact j71 _ _ _ hTM_63 hNM_63 hP hS (lv_sub hl [0, 1, 2, 4] rfl)
      exact lp44 _ _ _ _ _ _ _ (by decide) hTM_19 hNM_19 (by decide) hr_51 hP hS (lv_sub hl [3, 4, 5, 1, 0] rfl)
    · have he := ite_f he hc_12
      refine lv_iload_n hx hb dX7_read_27 rfl (lv_at hl 0 rfl) ?_
      exact hret _ _ _ _ _ _ ⟨(hV.trans he.symm), hTM_1⟩ hP hS dX7_read_28
  refine lv_if_eq (tgt := 21) hx hb dX7_read_10 (by decide) (fun hc_6 => ?_) (fun hc_6 => ?_)
  · have hr_7 := ite_t hr_7 hc_6
    refine lv_iconst (v := (-1)) hx hb dX7_read_21 (by decide) ?_
    cases hr_7
    exact j22 _ _ _ hP hS (lv_sub hl [0, 1, 2] rfl)
  · have hr_7 := ite_f hr_7 hc_6
    refine lv_aload_n hx hb dX7_read_13 rfl (lv_at hl 0 rfl) ?_
    refine lv_iload_n hx hb dX7_read_14 rfl (lv_at hl 2 rfl) ?_
    refine call_i [.int a2] [] hx hb hml hG hown hK (c_X7_wrongRow had M_1 a2 hTM_1.1) gw_9_7 gm_X7_wrongRow gd_X7_wrongRow rfl rfl ⟨Nat.le_of_ble_eq_true rfl, Nat.le_of_ble_eq_true rfl⟩ ⟨Nat.le_refl _, Nat.le_refl _⟩ (rX7 hK hP) hP (fun _ h => h) hS rfl hl.1 rfl (Nat.le_of_ble_eq_true rfl) dX7_read_15 (fun r_8 u_10 H locs hF_9 hP hS => ?_)
    obtain ⟨hF_9, hu⟩ := hF_9; rw [hu] at hP; subst hF_9
    refine lv_goto (tgt := 22) hx hb dX7_read_18 (by decide) ?_
    cases hr_7
    exact j22 _ _ _ hP hS (lv_sub hl [0, 1, 2] rfl)
