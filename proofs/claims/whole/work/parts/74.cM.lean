-- @needs 12_dec 13_dec 14_dec 15_dec 34_hM 60_cM 63_cM 66_cM 67_cM
def rm_X7_pairs : Room := { frames := 6, cells := 0, slots := 0, locals := 128 }
theorem gm_X7_pairs : Cond.instanceMethod yX7_pairs ∈ wsL_law ∧ Cond.selects RX7 yX7_pairs yX7_pairs ∈ wsL_law ∧ Cond.initialized RX7 ∈ wsL_law ∧ Cond.code yX7_pairs cX7_pairs 2 (some .int) ∈ wsL_law := ⟨gw_39_4, gw_39_5, gw_1_5, gw_39_6⟩
theorem gd_X7_pairs : yX7_pairs.cls = RX7 ∧ yX7_pairs.cls ≠ "java/lang/invoke/MethodHandle" ∧ yX7_pairs.cls ≠ "java/lang/invoke/VarHandle" ∧ (parseMethodDescriptor yX7_pairs.desc).map (fun d => d.parameters.length) = some 0 := by decide +kernel
set_option maxRecDepth 100000 in
set_option maxHeartbeats 0 in
theorem c_X7_pairs {l : Launch} {D : va_G} {k : Nat → ClassId} {ad : Nat → Nat} (had : InjN 31 ad) (M : Mem) (hI : MI M) : Met l yX7_pairs (Cond.code yX7_pairs cX7_pairs 2 (some .int) :: wsL_law) rm_X7_pairs (va_Pc [.ref (ad 0)] (GW 31 ad D k (cM ad k M))) (va_Qi (fun r u => (f_X7_pairs M = (r, u) ∧ TI M u)) (fun u t => GW 31 ad D k (cM ad k u) t) (AW 31 ad)) 0 0 (AW 31 ad) := by
  refine met_i (g := cM ad k) (M := M) (plainFor_of_name (by decide)) (Nat.le_of_ble_eq_true rfl) ?_
  intro p e s m args below meth c Q ls hx hb hml hG hown hK hret hP hS hl
  have hl : lv_has ls 2 [(0, .ref (ad 0))] := hl
  obtain ⟨V, hV⟩ : ∃ V, f_X7_pairs M = V := ⟨_, rfl⟩
  have he := hV
  unfold f_X7_pairs at he
  have hT0 : TI M M := TI_rf hI
  have qb_M := hI.1
  have qs_M := hI.2.1
  have qz_M := hI.2.2.1
  refine lv_aload_n hx hb dX7_pairs_0 rfl (lv_at hl 0 rfl) ?_
  refine lv_iconst (v := 0) hx hb dX7_pairs_1 (by decide) ?_
  refine pX7_19 hx hb hG hown hK hP had AW_in hS gw_5_17 dX7_pairs_2 (fun H locs hP hS => ?_)
  obtain ⟨M_1, eM_1⟩ : ∃ y : Mem, y = up2 M 0 19 0 := ⟨_, rfl⟩
  rw [← eM_1] at hP
  have he := bnd_at he eM_1
  have hTM_1 : TI M M_1 := by rw [eM_1]; exact TI_f hT0 (by decide)
  have qb_M_1 := hTM_1.1.1
  have qs_M_1 := hTM_1.1.2.1
  have qz_M_1 := hTM_1.1.2.2.1
  refine lv_aload_n hx hb dX7_pairs_5 rfl (lv_at hl 0 rfl) ?_
  refine gX7_8 hx hb hG hown hK hP gw_7_13 dX7_pairs_6 ?_
  refine lv_iconst (v := 4) hx hb dX7_pairs_9 (by decide) ?_
  refine lv_icmp_ge (tgt := 16) hx hb dX7_pairs_10 (by decide) (fun hc_2 => ?_) (fun hc_2 => ?_)
  · have he := ite_t he hc_2
    refine lv_aload_n hx hb dX7_pairs_16 rfl (lv_at hl 0 rfl) ?_
    refine call_v [] [] hx hb hml hG hown hK (c_X7_open had M_1 hTM_1.1) gw_29_2 gm_X7_open gd_X7_open rfl rfl ⟨Nat.le_of_ble_eq_true rfl, Nat.le_of_ble_eq_true rfl⟩ ⟨Nat.le_refl _, Nat.le_refl _⟩ (rX7 hK hP) hP (fun _ h => h) hS rfl hl.1 rfl (Nat.le_of_ble_eq_true rfl) dX7_pairs_17 (fun M_5 H locs hF_4 hP hS => ?_)
    obtain ⟨hF_4, hti_6⟩ := hF_4
    have he := bnd_at he hF_4.symm
    have hTM_5 : TI M M_5 := TI_tr hTM_1 hti_6
    have qb_M_5 := hTM_5.1.1
    have qs_M_5 := hTM_5.1.2.1
    have qz_M_5 := hTM_5.1.2.2.1
    refine lv_aload_n hx hb dX7_pairs_20 rfl (lv_at hl 0 rfl) ?_
    refine call_v [] [] hx hb hml hG hown hK (c_X7_raceToEnd had M_5 hTM_5.1) gw_29_21 gm_X7_raceToEnd gd_X7_raceToEnd rfl rfl ⟨Nat.le_of_ble_eq_true rfl, Nat.le_of_ble_eq_true rfl⟩ ⟨Nat.le_refl _, Nat.le_refl _⟩ (rX7 hK hP) hP (fun _ h => h) hS rfl hl.1 rfl (Nat.le_of_ble_eq_true rfl) dX7_pairs_21 (fun M_9 H locs hF_8 hP hS => ?_)
    obtain ⟨hF_8, hti_10⟩ := hF_8
    have he := bnd_at he hF_8.symm
    have hTM_9 : TI M M_9 := TI_tr hTM_5 hti_10
    have qb_M_9 := hTM_9.1.1
    have qs_M_9 := hTM_9.1.2.1
    have qz_M_9 := hTM_9.1.2.2.1
    refine lv_aload_n hx hb dX7_pairs_24 rfl (lv_at hl 0 rfl) ?_
    refine lv_iconst (v := 0) hx hb dX7_pairs_25 (by decide) ?_
    refine call_i [.int 0] [] hx hb hml hG hown hK (c_X7_placeOf had M_9 0 hTM_9.1 (by omega)) gw_27_16 gm_X7_placeOf gd_X7_placeOf rfl rfl ⟨Nat.le_of_ble_eq_true rfl, Nat.le_of_ble_eq_true rfl⟩ ⟨Nat.le_refl _, Nat.le_refl _⟩ (rX7 hK hP) hP (fun _ h => h) hS rfl hl.1 rfl (Nat.le_of_ble_eq_true rfl) dX7_pairs_26 (fun r_11 u_13 H locs hF_12 hP hS => ?_)
    obtain ⟨hF_12, hu⟩ := hF_12; rw [hu] at hP; subst hF_12
    refine lv_aload_n hx hb dX7_pairs_29 rfl (lv_at hl 0 rfl) ?_
    refine lv_iconst (v := 1) hx hb dX7_pairs_30 (by decide) ?_
    refine call_i [.int 1] [.int (f_X7_placeOf M_9 0)] hx hb hml hG hown hK (c_X7_placeOf had M_9 1 hTM_9.1 (by omega)) gw_27_16 gm_X7_placeOf gd_X7_placeOf rfl rfl ⟨Nat.le_of_ble_eq_true rfl, Nat.le_of_ble_eq_true rfl⟩ ⟨Nat.le_refl _, Nat.le_refl _⟩ (rX7 hK hP) hP (fun _ h => h) hS rfl hl.1 rfl (Nat.le_of_ble_eq_true rfl) dX7_pairs_31 (fun r_14 u_16 H locs hF_15 hP hS => ?_)
    obtain ⟨hF_15, hu⟩ := hF_15; rw [hu] at hP; subst hF_15
    refine lv_iadd hx hb dX7_pairs_34 ?_
    refine lv_topi (fun y_17 ey_17 => ?_)
    have he := bnd_at he ey_17
    refine lv_istore_n (lv' := [(1, .int y_17), (0, .ref (ad 0))]) hx hb dX7_pairs_35 rfl hl (by decide) rfl (fun ls hl => ?_)
    refine lv_aload_n hx hb dX7_pairs_36 rfl (lv_at hl 1 rfl) ?_
    refine call_v [] [] hx hb hml hG hown hK (c_X7_close had M_9 hTM_9.1) gw_30_1 gm_X7_close gd_X7_close rfl rfl ⟨Nat.le_of_ble_eq_true rfl, Nat.le_of_ble_eq_true rfl⟩ ⟨Nat.le_refl _, Nat.le_refl _⟩ (rX7 hK hP) hP (fun _ h => h) hS rfl hl.1 rfl (Nat.le_of_ble_eq_true rfl) dX7_pairs_37 (fun M_20 H locs hF_19 hP hS => ?_)
    obtain ⟨hF_19, hti_21⟩ := hF_19
    have he := bnd_at he hF_19.symm
    have hTM_20 : TI M M_20 := TI_tr hTM_9 hti_21
    have qb_M_20 := hTM_20.1.1
    have qs_M_20 := hTM_20.1.2.1
    have qz_M_20 := hTM_20.1.2.2.1
    refine lv_iload_n hx hb dX7_pairs_40 rfl (lv_at hl 0 rfl) ?_
    exact hret _ _ _ _ _ _ ⟨(hV.trans he.symm), hTM_20⟩ hP hS dX7_pairs_41
  · have he := ite_f he hc_2
    refine lv_bipush (v := (-3)) hx hb dX7_pairs_13 (by decide) ?_
    exact hret _ _ _ _ _ _ ⟨(hV.trans he.symm), hTM_1⟩ hP hS dX7_pairs_15
def rm_X7_count : Room := { frames := 2, cells := 0, slots := 0, locals := 49 }
theorem gm_X7_count : Cond.instanceMethod yX7_count ∈ wsL_law ∧ Cond.selects RX7 yX7_count yX7_count ∈ wsL_law ∧ Cond.initialized RX7 ∈ wsL_law ∧ Cond.code yX7_count cX7_count 6 (some .int) ∈ wsL_law := ⟨gw_40_16, gw_40_17, gw_1_5, gw_40_18⟩
theorem gd_X7_count : yX7_count.cls = RX7 ∧ yX7_count.cls ≠ "java/lang/invoke/MethodHandle" ∧ yX7_count.cls ≠ "java/lang/invoke/VarHandle" ∧ (parseMethodDescriptor yX7_count.desc).map (fun d => d.parameters.length) = some 1 := by decide +kernel
set_option maxRecDepth 100000 in
set_option maxHeartbeats 0 in
theorem c_X7_count {l : Launch} {D : va_G} {k : Nat → ClassId} {ad : Nat → Nat} (had : InjN 31 ad) (M : Mem) (a1 : Int32) (hI : MI M) : Met l yX7_count (Cond.code yX7_count cX7_count 6 (some .int) :: wsL_law) rm_X7_count (va_Pc [.ref (ad 0), .int a1] (GW 31 ad D k (cM ad k M))) (va_Qi (fun r u => (f_X7_count M a1 = (r, u) ∧ TI M u)) (fun u t => GW 31 ad D k (cM ad k u) t) (AW 31 ad)) 0 0 (AW 31 ad) := by
  refine met_i (g := cM ad k) (M := M) (plainFor_of_name (by decide)) (Nat.le_of_ble_eq_true rfl) ?_
  intro p e s m args below meth c Q ls hx hb hml hG hown hK hret hP hS hl
  have hl : lv_has ls 6 [(0, .ref (ad 0)), (1, .int a1)] := hl
  obtain ⟨V, hV⟩ : ∃ V, f_X7_count M a1 = V := ⟨_, rfl⟩
  have he := hV
  unfold f_X7_count at he
  have hT0 : TI M M := TI_rf hI
  have qb_M := hI.1
  have qs_M := hI.2.1
  have qz_M := hI.2.2.1
  refine lv_aload_n hx hb dX7_count_0 rfl (lv_at hl 0 rfl) ?_
  refine lv_iconst (v := 0) hx hb dX7_count_1 (by decide) ?_
  refine pX7_19 hx hb hG hown hK hP had AW_in hS gw_5_17 dX7_count_2 (fun H locs hP hS => ?_)
  obtain ⟨M_1, eM_1⟩ : ∃ y : Mem, y = up2 M 0 19 0 := ⟨_, rfl⟩
  rw [← eM_1] at hP
  have he := bnd_at he eM_1
  have hTM_1 : TI M M_1 := by rw [eM_1]; exact TI_f hT0 (by decide)
  have qb_M_1 := hTM_1.1.1
  have qs_M_1 := hTM_1.1.2.1
  have qz_M_1 := hTM_1.1.2.2.1
  refine lv_iconst (v := 0) hx hb dX7_count_5 (by decide) ?_
  refine lv_istore_n (lv' := [(2, .int 0), (0, .ref (ad 0)), (1, .int a1)]) hx hb dX7_count_6 rfl hl (by decide) rfl (fun ls hl => ?_)
  refine lv_iconst (v := 0) hx hb dX7_count_7 (by decide) ?_
  refine lv_istore_n (lv' := [(3, .int 0), (2, .int 0), (0, .ref (ad 0)), (1, .int a1)]) hx hb dX7_count_8 rfl hl (by decide) rfl (fun ls hl => ?_)
  refine lv_iconst (v := 0) hx hb dX7_count_9 (by decide) ?_
  refine lv_istore (lv' := [(4, .int 0), (3, .int 0), (2, .int 0), (0, .ref (ad 0)), (1, .int a1)]) hx hb dX7_count_10 hl (by decide) rfl (fun ls hl => ?_)
  refine lv_iconst (v := 0) hx hb dX7_count_12 (by decide) ?_
  refine lv_istore (lv' := [(5, .int 0), (4, .int 0), (3, .int 0), (2, .int 0), (0, .ref (ad 0)), (1, .int a1)]) hx hb dX7_count_13 hl (by decide) rfl (fun ls hl => ?_)
  obtain ⟨w_50, w_51, w_52, hr_30, he⟩ := bnd3_ex he
  have j76 : ∀ (H : Heap) (locs : List Loc) (ls : Array Slot), va_P D vwCl (wld 31 ad (cM ad k M_1)) H → va_S (AW 31 ad) s.heap H locs → lv_has ls 6 [(0, .ref (ad 0)), (1, .int a1), (2, .int w_50), (3, .int w_51), (4, .int w_52)] → W p l e rm_X7_count s m args below meth c H locs 0 0 Q (F0 m 76 ls []) := by
    intro H locs ls hP hS hl
    refine lv_iload_n hx hb dX7_count_76 rfl (lv_at hl 1 rfl) ?_
    by_cases hw_53 : a1 = 0
    · have he := ite_t he hw_53
      refine lv_tableIn (tgt := 116) hx hb dX7_count_77 (by rw [hw_53]; decide) (by rw [hw_53]; decide) (by rw [hw_53]; rfl) (by decide) ?_
      refine lv_aload_n hx hb dX7_count_116 rfl (lv_at hl 0 rfl) ?_
      refine gX7_8 hx hb hG hown hK hP gw_7_13 dX7_count_117 ?_
      exact hret _ _ _ _ _ _ ⟨(hV.trans he.symm), hTM_1⟩ hP hS dX7_count_120
    · have he := ite_f he hw_53
      by_cases hw_54 : a1 = 1
      · have he := ite_t he hw_54
        refine lv_tableIn (tgt := 121) hx hb dX7_count_77 (by rw [hw_54]; decide) (by rw [hw_54]; decide) (by rw [hw_54]; rfl) (by decide) ?_
        refine lv_aload_n hx hb dX7_count_121 rfl (lv_at hl 0 rfl) ?_
        refine gX7_7 hx hb hG hown hK hP gw_15_22 dX7_count_122 ?_
        exact hret _ _ _ _ _ _ ⟨(hV.trans he.symm), hTM_1⟩ hP hS dX7_count_125
      · have he := ite_f he hw_54
        by_cases hw_55 : a1 = 2
        · have he := ite_t he hw_55
          refine lv_tableIn (tgt := 126) hx hb dX7_count_77 (by rw [hw_55]; decide) (by rw [hw_55]; decide) (by rw [hw_55]; rfl) (by decide) ?_
          refine lv_iload_n hx hb dX7_count_126 rfl (lv_at hl 2 rfl) ?_
          exact hret _ _ _ _ _ _ ⟨(hV.trans he.symm), hTM_1⟩ hP hS dX7_count_127
        · have he := ite_f he hw_55
          by_cases hw_56 : a1 = 3
          · have he := ite_t he hw_56
            refine lv_tableIn (tgt := 128) hx hb dX7_count_77 (by rw [hw_56]; decide) (by rw [hw_56]; decide) (by rw [hw_56]; rfl) (by decide) ?_
            refine lv_iload_n hx hb dX7_count_128 rfl (lv_at hl 3 rfl) ?_
            exact hret _ _ _ _ _ _ ⟨(hV.trans he.symm), hTM_1⟩ hP hS dX7_count_129
          · have he := ite_f he hw_56
            by_cases hw_57 : a1 = 4
            · have he := ite_t he hw_57
              refine lv_tableIn (tgt := 130) hx hb dX7_count_77 (by rw [hw_57]; decide) (by rw [hw_57]; decide) (by rw [hw_57]; rfl) (by decide) ?_
              refine lv_iload hx hb dX7_count_130 (lv_at hl 4 rfl) ?_
              exact hret _ _ _ _ _ _ ⟨(hV.trans he.symm), hTM_1⟩ hP hS dX7_count_132
            · have he := ite_f he hw_57
              by_cases hw_58 : a1 = 5
              · have he := ite_t he hw_58
                refine lv_tableIn (tgt := 133) hx hb dX7_count_77 (by rw [hw_58]; decide) (by rw [hw_58]; decide) (by rw [hw_58]; rfl) (by decide) ?_
                refine lv_aload_n hx hb dX7_count_133 rfl (lv_at hl 0 rfl) ?_
                refine gX7_0 hx hb hG hown hK hP gw_4_8 dX7_count_134 ?_
                exact hret _ _ _ _ _ _ ⟨(hV.trans he.symm), hTM_1⟩ hP hS dX7_count_137
              · have he := ite_f he hw_58
                refine lv_tableOut (tgt := 138) hx hb dX7_count_77 (by have q0 : a1.toInt ≠ 0 := ne_I hw_53; have q1 : a1.toInt ≠ 1 := ne_I hw_54; have q2 : a1.toInt ≠ 2 := ne_I hw_55; have q3 : a1.toInt ≠ 3 := ne_I hw_56; have q4 : a1.toInt ≠ 4 := ne_I hw_57; have q5 : a1.toInt ≠ 5 := ne_I hw_58; omega) (by decide) ?_
                refine lv_iconst (v := (-1)) hx hb dX7_count_138 (by decide) ?_
                exact hret _ _ _ _ _ _ ⟨(hV.trans he.symm), hTM_1⟩ hP hS dX7_count_139
  have lp15 : ∀ (nn : Nat) (H : Heap) (locs : List Loc) (ls : Array Slot) (v_26 : Int32) (v_27 : Int32) (v_28 : Int32) (v_29 : Int32), (0 ≤ v_29.toInt) → (4 - v_29.toInt).toNat < nn → lp_X7_count_15 nn M_1 v_26 v_27 v_28 v_29 = (w_50, w_51, w_52) → va_P D vwCl (wld 31 ad (cM ad k M_1)) H → va_S (AW 31 ad) s.heap H locs → lv_has ls 6 [(0, .ref (ad 0)), (1, .int a1), (2, .int v_26), (3, .int v_27), (4, .int v_28), (5, .int v_29)] → W p l e rm_X7_count s m args below meth c H locs 0 0 Q (F0 m 15 ls []) := by
    intro nn
    induction nn with
    | zero =>
      intro H locs ls v_26 v_27 v_28 v_29 h0v_29 hμ
      exact absurd hμ (Nat.not_lt_zero _)
    | succ nn ih =>
      intro H locs ls v_26 v_27 v_28 v_29 h0v_29 hμ hr_30 hP hS hl
      rw [lp_X7_count_15] at hr_30
      refine lv_iload hx hb dX7_count_15 (lv_at hl 5 rfl) ?_
      refine lv_aload_n hx hb dX7_count_17 rfl (lv_at hl 0 rfl) ?_
      refine gX7_8 hx hb hG hown hK hP gw_7_13 dX7_count_18 ?_
      refine lv_icmp_ge (tgt := 76) hx hb dX7_count_21 (by decide) (fun hc_31 => ?_) (fun hc_31 => ?_)
      · have hr_30 := ite_t hr_30 hc_31
        cases hr_30
        exact j76 _ _ _ hP hS (lv_sub hl [0, 1, 2, 3, 4] rfl)
      · have hr_30 := ite_f hr_30 hc_31
        refine lv_iload_n hx hb dX7_count_24 rfl (lv_at hl 2 rfl) ?_
        refine lv_aload_n hx hb dX7_count_25 rfl (lv_at hl 0 rfl) ?_
        refine lv_iload hx hb dX7_count_26 (lv_at hl 5 rfl) ?_
        refine call_i [.int v_29] [.int v_26] hx hb hml hG hown hK (c_X7_isIn had M_1 v_29 hTM_1.1 (by have q0 : v_29.toInt < (M_1 0 8).toInt := nle_I hc_31; omega)) gw_18_10 gm_X7_isIn gd_X7_isIn rfl rfl ⟨Nat.le_of_ble_eq_true rfl, Nat.le_of_ble_eq_true rfl⟩ ⟨Nat.le_refl _, Nat.le_refl _⟩ (rX7 hK hP) hP (fun _ h => h) hS rfl hl.1 rfl (Nat.le_of_ble_eq_true rfl) dX7_count_28 (fun r_32 u_34 H locs hF_33 hP hS => ?_)
        obtain ⟨hz_35, hF_33, hu⟩ := hF_33; rw [hu] at hP; subst hF_33
        obtain ⟨t_38, hr_37, hr_30⟩ := bnd_ex hr_30
        have j39 : ∀ (H : Heap) (locs : List Loc) (ls : Array Slot), (t_38 = 0 ∨ t_38 = 1) → va_P D vwCl (wld 31 ad (cM ad k M_1)) H → va_S (AW 31 ad) s.heap H locs → lv_has ls 6 [(0, .ref (ad 0)), (1, .int a1), (3, .int v_27), (4, .int v_28), (5, .int v_29)] → W p l e rm_X7_count s m args below meth c H locs 0 0 Q (F0 m 39 ls [.int t_38, .int v_26]) := by
          intro H locs ls zt_38 hP hS hl
          refine lv_iadd hx hb dX7_count_39 ?_
          refine lv_topi (fun y_39 ey_39 => ?_)
          have hr_30 := bnd_at hr_30 ey_39
          refine lv_istore_n (lv' := [(2, .int y_39), (0, .ref (ad 0)), (1, .int a1), (3, .int v_27), (4, .int v_28), (5, .int v_29)]) hx hb dX7_count_40 rfl hl (by decide) rfl (fun ls hl => ?_)
          refine lv_iload_n hx hb dX7_count_41 rfl (lv_at hl 3 rfl) ?_
          refine lv_aload_n hx hb dX7_count_42 rfl (lv_at hl 1 rfl) ?_
          refine gX7_18 hx hb hG hown hK hP gw_4_21 dX7_count_43 ?_
          refine lv_iload hx hb dX7_count_46 (lv_at hl 5 rfl) ?_
          refine al_M11 hx hb hK hP (vin_I (by have q0 : v_29.toInt < (M_1 0 8).toInt := nle_I hc_31; omega) (by have q0 : v_29.toInt < (M_1 0 8).toInt := nle_I hc_31; omega)) dX7_count_48 ?_
          refine lv_iadd hx hb dX7_count_49 ?_
          refine lv_topi (fun y_40 ey_40 => ?_)
          have hr_30 := bnd_at hr_30 ey_40
          refine lv_istore_n (lv' := [(3, .int y_40), (2, .int y_39), (0, .ref (ad 0)), (1, .int a1), (4, .int v_28), (5, .int v_29)]) hx hb dX7_count_50 rfl hl (by decide) rfl (fun ls hl => ?_)
          refine lv_iload hx hb dX7_count_51 (lv_at hl 4 rfl) ?_
          refine lv_aload_n hx hb dX7_count_53 rfl (lv_at hl 2 rfl) ?_
          refine lv_iload hx hb dX7_count_54 (lv_at hl 5 rfl) ?_
          refine call_i [.int v_29] [.int v_28] hx hb hml hG hown hK (c_X7_isBad had M_1 v_29 hTM_1.1 (by have q0 : v_29.toInt < (M_1 0 8).toInt := nle_I hc_31; have qy_40 := congrArg Int32.toInt ey_40; omega)) gw_18_3 gm_X7_isBad gd_X7_isBad rfl rfl ⟨Nat.le_of_ble_eq_true rfl, Nat.le_of_ble_eq_true rfl⟩ ⟨Nat.le_refl _, Nat.le_refl _⟩ (rX7 hK hP) hP (fun _ h => h) hS rfl hl.1 rfl (Nat.le_of_ble_eq_true rfl) dX7_count_56 (fun r_41 u_43 H locs hF_42 hP hS => ?_)
          obtain ⟨hz_44, hF_42, hu⟩ := hF_42; rw [hu] at hP; subst hF_42
          obtain ⟨t_47, hr_46, hr_30⟩ := bnd_ex hr_30
          have j67 : ∀ (H : Heap) (locs : List Loc) (ls : Array Slot), (t_47 = 0 ∨ t_47 = 1) → va_P D vwCl (wld 31 ad (cM ad k M_1)) H → va_S (AW 31 ad) s.heap H locs → lv_has ls 6 [(0, .ref (ad 0)), (1, .int a1), (2, .int y_39), (3, .int y_40), (5, .int v_29)] → W p l e rm_X7_count s m args below meth c H locs 0 0 Q (F0 m 67 ls [.int t_47, .int v_28]) := by
            intro H locs ls zt_47 hP hS hl
            refine lv_iadd hx hb dX7_count_67 ?_
            refine lv_topi (fun y_48 ey_48 => ?_)
            have hr_30 := bnd_at hr_30 ey_48
            refine lv_istore (lv' := [(4, .int y_48), (0, .ref (ad 0)), (1, .int a1), (2, .int y_39), (3, .int y_40), (5, .int v_29)]) hx hb dX7_count_68 hl (by decide) rfl (fun ls hl => ?_)
            obtain ⟨y_49, ey_49⟩ : ∃ y_49 : Int32, y_49 = v_29 + 1 := ⟨_, rfl⟩
            have hr_30 := bnd_at hr_30 ey_49
            refine lv_iinc (v := y_49) (lv' := [(5, .int y_49), (4, .int y_48), (0, .ref (ad 0)), (1, .int a1), (2, .int y_39), (3, .int y_40)]) hx hb dX7_count_70 hl (k := 5) rfl (by rw [ey_49]; rfl) (by decide) rfl (fun ls hl => ?_)
            refine lv_goto (tgt := 15) hx hb dX7_count_73 (by decide) ?_
            exact ih _ _ _ _ _ _ _ (by rw [ey_49, inc_I (N := 4) (bnd_lt (nle_I hc_31) (by omega)) (by decide)]; omega) (by rw [ey_49]; exact mu_I hμ (bnd_lt (nle_I hc_31) (by omega)) (by decide)) hr_30 hP hS (lv_sub hl [2, 3, 4, 5, 1, 0] rfl)
          refine lv_if_eq (tgt := 66) hx hb dX7_count_59 (by decide) (fun hc_45 => ?_) (fun hc_45 => ?_)
          · have hr_46 := ite_t hr_46 hc_45
            refine lv_iconst (v := 0) hx hb dX7_count_66 (by decide) ?_
            cases hr_46
            exact j67 _ _ _ (Or.inl rfl) hP hS (lv_sub hl [2, 3, 1, 0, 5] rfl)
          · have hr_46 := ite_f hr_46 hc_45
            refine lv_iconst (v := 1) hx hb dX7_count_62 (by decide) ?_
            refine lv_goto (tgt := 67) hx hb dX7_count_63 (by decide) ?_
            cases hr_46
            exact j67 _ _ _ (Or.inr rfl) hP hS (lv_sub hl [2, 3, 1, 0, 5] rfl)
        refine lv_if_eq (tgt := 38) hx hb dX7_count_31 (by decide) (fun hc_36 => ?_) (fun hc_36 => ?_)
        · have hr_37 := ite_t hr_37 hc_36
          refine lv_iconst (v := 0) hx hb dX7_count_38 (by decide) ?_
          cases hr_37
          exact j39 _ _ _ (Or.inl rfl) hP hS (lv_sub hl [0, 1, 3, 4, 5] rfl)
        · have hr_37 := ite_f hr_37 hc_36
          refine lv_iconst (v := 1) hx hb dX7_count_34 (by decide) ?_
          refine lv_goto (tgt := 39) hx hb dX7_count_35 (by decide) ?_
          cases hr_37
          exact j39 _ _ _ (Or.inr rfl) hP hS (lv_sub hl [0, 1, 3, 4, 5] rfl)
  exact lp15 _ _ _ _ _ _ _ _ (by decide) (by decide) hr_30 hP hS (lv_sub hl [4, 5, 3, 2, 1, 0] rfl)
def rm_X7_wrongSailor : Room := { frames := 1, cells := 0, slots := 0, locals := 25 }
theorem gm_X7_wrongSailor : Cond.instanceMethod yX7_wrongSailor ∈ wsL_law ∧ Cond.selects RX7 yX7_wrongSailor yX7_wrongSailor ∈ wsL_law ∧ Cond.initialized RX7 ∈ wsL_law ∧ Cond.code yX7_wrongSailor cX7_wrongSailor 2 (some .int) ∈ wsL_law := ⟨gw_45_2, gw_45_3, gw_1_5, gw_45_4⟩
theorem gd_X7_wrongSailor : yX7_wrongSailor.cls = RX7 ∧ yX7_wrongSailor.cls ≠ "java/lang/invoke/MethodHandle" ∧ yX7_wrongSailor.cls ≠ "java/lang/invoke/VarHandle" ∧ (parseMethodDescriptor yX7_wrongSailor.desc).map (fun d => d.parameters.length) = some 1 := by decide +kernel
set_option maxRecDepth 100000 in
set_option maxHeartbeats 0 in
theorem c_X7_wrongSailor {l : Launch} {D : va_G} {k : Nat → ClassId} {ad : Nat → Nat} (had : InjN 31 ad) (M : Mem) (a1 : Int32) (hI : MI M) : Met l yX7_wrongSailor (Cond.code yX7_wrongSailor cX7_wrongSailor 2 (some .int) :: wsL_law) rm_X7_wrongSailor (va_Pc [.ref (ad 0), .int a1] (GW 31 ad D k (cM ad k M))) (va_Qi (fun r u => f_X7_wrongSailor M a1 = r ∧ u = M) (fun u t => GW 31 ad D k (cM ad k u) t) (AW 31 ad)) 0 0 (AW 31 ad) := by
  refine met_i (g := cM ad k) (M := M) (plainFor_of_name (by decide)) (Nat.le_of_ble_eq_true rfl) ?_
  intro p e s m args below meth c Q ls hx hb hml hG hown hK hret hP hS hl
  have hl : lv_has ls 2 [(0, .ref (ad 0)), (1, .int a1)] := hl
  obtain ⟨V, hV⟩ : ∃ V, f_X7_wrongSailor M a1 = V := ⟨_, rfl⟩
  have he := hV
  unfold f_X7_wrongSailor at he
  have hT0 : TI M M := TI_rf hI
  have qb_M := hI.1
  have qs_M := hI.2.1
  have qz_M := hI.2.2.1
  refine lv_iload_n hx hb dX7_wrongSailor_0 rfl (lv_at hl 1 rfl) ?_
  refine lv_i2l (v := a1.toInt64) hx hb dX7_wrongSailor_1 rfl ?_
  refine lv_lconst (v := 0) hx hb dX7_wrongSailor_2 (by decide) ?_
  refine lv_ldc2 (v := 7) hx hb hown (hG _ gw_9_9) dX7_wrongSailor_3 ?_
  refine callS_i [.long a1.toInt64, .long 0, .long 7] [] hx hb hml hG hown hK (c_X7_in had (M := M)  a1.toInt64 0 7) gw_7_0 gm_X7_in gd_X7_in rfl rfl ⟨Nat.le_of_ble_eq_true rfl, Nat.le_of_ble_eq_true rfl⟩ ⟨Nat.le_refl _, Nat.le_refl _⟩ hP (fun _ h => h) hS rfl hl.1 rfl (Nat.le_of_ble_eq_true rfl) dX7_wrongSailor_6 (fun r_1 u_3 H locs hF_2 hP hS => ?_)
  obtain ⟨hz_4, hF_2, hu⟩ := hF_2; rw [hu] at hP; subst hF_2
  obtain ⟨t_9, hr_6, he⟩ := bnd_ex he
  have j46 : ∀ (H : Heap) (locs : List Loc) (ls : Array Slot), va_P D vwCl (wld 31 ad (cM ad k M)) H → va_S (AW 31 ad) s.heap H locs → lv_has ls 2 [] → W p l e rm_X7_wrongSailor s m args below meth c H locs 0 0 Q (F0 m 46 ls [.int t_9]) := by
    intro H locs ls hP hS hl
    exact hret _ _ _ _ _ _ ⟨hV.trans he.symm, rfl⟩ hP hS dX7_wrongSailor_46
  refine lv_if_ne (tgt := 16) hx hb dX7_wrongSailor_9 (by decide) (fun hc_5 => ?_) (fun hc_5 => ?_)
  · have hr_6 := ite_t hr_6 hc_5
    refine lv_aload_n hx hb dX7_wrongSailor_16 rfl (lv_at hl 0 rfl) ?_
    refine gX7_42 hx hb hG hown hK hP gw_5_9 dX7_wrongSailor_17 ?_
    refine lv_iload_n hx hb dX7_wrongSailor_20 rfl (lv_at hl 1 rfl) ?_
    refine al_M23 hx hb hK hP (vin_I (by have q0 : (f_X7_in a1.toInt64 0 7).toInt ≠ 0 := ne_I hc_5; have r1 : 0 ≤ a1.toInt ∧ a1.toInt ≤ 7 := in_I hc_5; omega) (by have q0 : (f_X7_in a1.toInt64 0 7).toInt ≠ 0 := ne_I hc_5; have r1 : 0 ≤ a1.toInt ∧ a1.toInt ≤ 7 := in_I hc_5; omega)) dX7_wrongSailor_21 ?_
    refine lv_if_ne (tgt := 30) hx hb dX7_wrongSailor_22 (by decide) (fun hc_7 => ?_) (fun hc_7 => ?_)
    · have hr_6 := ite_t hr_6 hc_7
      refine lv_aload_n hx hb dX7_wrongSailor_30 rfl (lv_at hl 0 rfl) ?_
      refine gX7_42 hx hb hG hown hK hP gw_5_9 dX7_wrongSailor_31 ?_
      refine lv_iload_n hx hb dX7_wrongSailor_34 rfl (lv_at hl 1 rfl) ?_
      refine al_M23 hx hb hK hP (vin_I (by have q0 : (f_X7_in a1.toInt64 0 7).toInt ≠ 0 := ne_I hc_5; have r1 : 0 ≤ a1.toInt ∧ a1.toInt ≤ 7 := in_I hc_5; have q2 : (M 23 a1.toNatClampNeg).toInt ≠ 0 := ne_I hc_7; omega) (by have q0 : (f_X7_in a1.toInt64 0 7).toInt ≠ 0 := ne_I hc_5; have r1 : 0 ≤ a1.toInt ∧ a1.toInt ≤ 7 := in_I hc_5; have q2 : (M 23 a1.toNatClampNeg).toInt ≠ 0 := ne_I hc_7; omega)) dX7_wrongSailor_35 ?_
      refine lv_iconst (v := 1) hx hb dX7_wrongSailor_36 (by decide) ?_
      refine lv_icmp_eq (tgt := 45) hx hb dX7_wrongSailor_37 (by decide) (fun hc_8 => ?_) (fun hc_8 => ?_)
      · have hr_6 := ite_t hr_6 hc_8
        refine lv_iconst (v := 0) hx hb dX7_wrongSailor_45 (by decide) ?_
        cases hr_6
        exact j46 _ _ _ hP hS (lv_sub hl [] rfl)
      · have hr_6 := ite_f hr_6 hc_8
        refine lv_bipush (v := (-12)) hx hb dX7_wrongSailor_40 (by decide) ?_
        refine lv_goto (tgt := 46) hx hb dX7_wrongSailor_42 (by decide) ?_
        cases hr_6
        exact j46 _ _ _ hP hS (lv_sub hl [] rfl)
    · have hr_6 := ite_f hr_6 (fun q => q hc_7)
      refine lv_bipush (v := (-11)) hx hb dX7_wrongSailor_25 (by decide) ?_
      refine lv_goto (tgt := 46) hx hb dX7_wrongSailor_27 (by decide) ?_
      cases hr_6
      exact j46 _ _ _ hP hS (lv_sub hl [] rfl)
  · have hr_6 := ite_f hr_6 (fun q => q hc_5)
    refine lv_iconst (v := (-1)) hx hb dX7_wrongSailor_12 (by decide) ?_
    refine lv_goto (tgt := 46) hx hb dX7_wrongSailor_13 (by decide) ?_
    cases hr_6
    exact j46 _ _ _ hP hS (lv_sub hl [] rfl)
def rm_X7_keep : Room := { frames := 2, cells := 0, slots := 0, locals := 46 }
theorem gm_X7_keep : Cond.instanceMethod yX7_keep ∈ wsL_law ∧ Cond.selects RX7 yX7_keep yX7_keep ∈ wsL_law ∧ Cond.initialized RX7 ∈ wsL_law ∧ Cond.code yX7_keep cX7_keep 4 (some .int) ∈ wsL_law := ⟨gw_41_10, gw_41_11, gw_1_5, gw_41_12⟩
theorem gd_X7_keep : yX7_keep.cls = RX7 ∧ yX7_keep.cls ≠ "java/lang/invoke/MethodHandle" ∧ yX7_keep.cls ≠ "java/lang/invoke/VarHandle" ∧ (parseMethodDescriptor yX7_keep.desc).map (fun d => d.parameters.length) = some 3 := by decide +kernel
set_option maxRecDepth 100000 in
set_option maxHeartbeats 0 in
theorem c_X7_keep {l : Launch} {D : va_G} {k : Nat → ClassId} {ad : Nat → Nat} (had : InjN 31 ad) (M : Mem) (a1 : Int32) (a2 : Int32) (a3 : Int32) (hI : MI M) : Met l yX7_keep (Cond.code yX7_keep cX7_keep 4 (some .int) :: wsL_law) rm_X7_keep (va_Pc [.ref (ad 0), .int a1, .int a2, .int a3] (GW 31 ad D k (cM ad k M))) (va_Qi (fun r u => (f_X7_keep M a1 a2 a3 = (r, u) ∧ TI M u)) (fun u t => GW 31 ad D k (cM ad k u) t) (AW 31 ad)) 0 0 (AW 31 ad) := by
  refine met_i (g := cM ad k) (M := M) (plainFor_of_name (by decide)) (Nat.le_of_ble_eq_true rfl) ?_
  intro p e s m args below meth c Q ls hx hb hml hG hown hK hret hP hS hl
  have hl : lv_has ls 4 [(0, .ref (ad 0)), (1, .int a1), (2, .int a2), (3, .int a3)] := hl
  obtain ⟨V, hV⟩ : ∃ V, f_X7_keep M a1 a2 a3 = V := ⟨_, rfl⟩
  have he := hV
  unfold f_X7_keep at he
  have hT0 : TI M M := TI_rf hI
  have qb_M := hI.1
  have qs_M := hI.2.1
  have qz_M := hI.2.2.1
  refine lv_aload_n hx hb dX7_keep_0 rfl (lv_at hl 0 rfl) ?_
  refine lv_iconst (v := 0) hx hb dX7_keep_1 (by decide) ?_
  refine pX7_19 hx hb hG hown hK hP had AW_in hS gw_5_17 dX7_keep_2 (fun H locs hP hS => ?_)
  obtain ⟨M_1, eM_1⟩ : ∃ y : Mem, y = up2 M 0 19 0 := ⟨_, rfl⟩
  rw [← eM_1] at hP
  have he := bnd_at he eM_1
  have hTM_1 : TI M M_1 := by rw [eM_1]; exact TI_f hT0 (by decide)
  have qb_M_1 := hTM_1.1.1
  have qs_M_1 := hTM_1.1.2.1
  have qz_M_1 := hTM_1.1.2.2.1
  refine lv_iload_n hx hb dX7_keep_5 rfl (lv_at hl 1 rfl) ?_
  refine lv_i2l (v := a1.toInt64) hx hb dX7_keep_6 rfl ?_
  refine lv_lconst (v := 0) hx hb dX7_keep_7 (by decide) ?_
  refine lv_ldc2 (v := 7) hx hb hown (hG _ gw_9_9) dX7_keep_8 ?_
  refine callS_i [.long a1.toInt64, .long 0, .long 7] [] hx hb hml hG hown hK (c_X7_in had (M := M_1)  a1.toInt64 0 7) gw_7_0 gm_X7_in gd_X7_in rfl rfl ⟨Nat.le_of_ble_eq_true rfl, Nat.le_of_ble_eq_true rfl⟩ ⟨Nat.le_refl _, Nat.le_refl _⟩ hP (fun _ h => h) hS rfl hl.1 rfl (Nat.le_of_ble_eq_true rfl) dX7_keep_11 (fun r_2 u_4 H locs hF_3 hP hS => ?_)
  obtain ⟨hz_5, hF_3, hu⟩ := hF_3; rw [hu] at hP; subst hF_3
  refine lv_if_eq (tgt := 40) hx hb dX7_keep_14 (by decide) (fun hc_6 => ?_) (fun hc_6 => ?_)
  · have he := ite_t he hc_6
    refine lv_iconst (v := (-1)) hx hb dX7_keep_40 (by decide) ?_
    exact hret _ _ _ _ _ _ ⟨(hV.trans he.symm), hTM_1⟩ hP hS dX7_keep_41
  · have he := ite_f he hc_6
    refine lv_iload_n hx hb dX7_keep_17 rfl (lv_at hl 2 rfl) ?_
    refine lv_i2l (v := a2.toInt64) hx hb dX7_keep_18 rfl ?_
    refine lv_lconst (v := 0) hx hb dX7_keep_19 (by decide) ?_
    refine lv_lconst (v := 1) hx hb dX7_keep_20 (by decide) ?_
    refine callS_i [.long a2.toInt64, .long 0, .long 1] [] hx hb hml hG hown hK (c_X7_in had (M := M_1)  a2.toInt64 0 1) gw_7_0 gm_X7_in gd_X7_in rfl rfl ⟨Nat.le_of_ble_eq_true rfl, Nat.le_of_ble_eq_true rfl⟩ ⟨Nat.le_refl _, Nat.le_refl _⟩ hP (fun _ h => h) hS rfl hl.1 rfl (Nat.le_of_ble_eq_true rfl) dX7_keep_21 (fun r_7 u_9 H locs hF_8 hP hS => ?_)
    obtain ⟨hz_10, hF_8, hu⟩ := hF_8; rw [hu] at hP; subst hF_8
    refine lv_if_eq (tgt := 40) hx hb dX7_keep_24 (by decide) (fun hc_11 => ?_) (fun hc_11 => ?_)
    · have he := ite_t he hc_11
      refine lv_iconst (v := (-1)) hx hb dX7_keep_40 (by decide) ?_
      exact hret _ _ _ _ _ _ ⟨(hV.trans he.symm), hTM_1⟩ hP hS dX7_keep_41
    · have he := ite_f he hc_11
      refine lv_iload_n hx hb dX7_keep_27 rfl (lv_at hl 2 rfl) ?_
      refine lv_iconst (v := 1) hx hb dX7_keep_28 (by decide) ?_
      refine lv_icmp_ne (tgt := 42) hx hb dX7_keep_29 (by decide) (fun hc_12 => ?_) (fun hc_12 => ?_)
      · have he := ite_t he hc_12
        refine lv_aload_n hx hb dX7_keep_42 rfl (lv_at hl 0 rfl) ?_
        refine gX7_42 hx hb hG hown hK hP gw_5_9 dX7_keep_43 ?_
        refine lv_iload_n hx hb dX7_keep_46 rfl (lv_at hl 1 rfl) ?_
        refine lv_iload_n hx hb dX7_keep_47 rfl (lv_at hl 2 rfl) ?_
        refine as_M23 hx hb hK hP had AW_in hS (vin_I (by have q0 : (f_X7_in a1.toInt64 0 7).toInt ≠ 0 := ne_I hc_6; have r1 : 0 ≤ a1.toInt ∧ a1.toInt ≤ 7 := in_I hc_6; omega) (by have q0 : (f_X7_in a1.toInt64 0 7).toInt ≠ 0 := ne_I hc_6; have r1 : 0 ≤ a1.toInt ∧ a1.toInt ≤ 7 := in_I hc_6; omega)) dX7_keep_48 (fun H locs hP hS => ?_)
        obtain ⟨M_13, eM_13⟩ : ∃ y : Mem, y = up2 M_1 23 a1.toNatClampNeg a2 := ⟨_, rfl⟩
        rw [← eM_13] at hP
        have he := bnd_at he eM_13
        have hTM_13 : TI M M_13 := by rw [eM_13]; exact TI_a hTM_1 (by decide)
        have qb_M_13 := hTM_13.1.1
        have qs_M_13 := hTM_13.1.2.1
        have qz_M_13 := hTM_13.1.2.2.1
        refine lv_aload_n hx hb dX7_keep_49 rfl (lv_at hl 0 rfl) ?_
        refine gX7_43 hx hb hG hown hK hP gw_5_10 dX7_keep_50 ?_
        refine lv_iload_n hx hb dX7_keep_53 rfl (lv_at hl 1 rfl) ?_
        refine lv_iload_n hx hb dX7_keep_54 rfl (lv_at hl 2 rfl) ?_
        refine lv_iconst (v := 1) hx hb dX7_keep_55 (by decide) ?_
        obtain ⟨t_16, hr_15, he⟩ := bnd_ex he
        have j69 : ∀ (H : Heap) (locs : List Loc) (ls : Array Slot), va_P D vwCl (wld 31 ad (cM ad k M_13)) H → va_S (AW 31 ad) s.heap H locs → lv_has ls 4 [(0, .ref (ad 0)), (1, .int a1), (2, .int a2), (3, .int a3)] → W p l e rm_X7_keep s m args below meth c H locs 0 0 Q (F0 m 69 ls [.int t_16, .int a1, .ref (ad 24)]) := by
          intro H locs ls hP hS hl
          refine as_M24 hx hb hK hP had AW_in hS (vin_I (by have q0 : (f_X7_in a1.toInt64 0 7).toInt ≠ 0 := ne_I hc_6; have r1 : 0 ≤ a1.toInt ∧ a1.toInt ≤ 7 := in_I hc_6; omega) (by have q0 : (f_X7_in a1.toInt64 0 7).toInt ≠ 0 := ne_I hc_6; have r1 : 0 ≤ a1.toInt ∧ a1.toInt ≤ 7 := in_I hc_6; omega)) dX7_keep_69 (fun H locs hP hS => ?_)
          obtain ⟨M_17, eM_17⟩ : ∃ y : Mem, y = up2 M_13 24 a1.toNatClampNeg t_16 := ⟨_, rfl⟩
          rw [← eM_17] at hP
          have he := bnd_at he eM_17
          have hTM_17 : TI M M_17 := by rw [eM_17]; exact TI_a hTM_13 (by decide)
          have qb_M_17 := hTM_17.1.1
          have qs_M_17 := hTM_17.1.2.1
          have qz_M_17 := hTM_17.1.2.2.1
          refine lv_aload_n hx hb dX7_keep_70 rfl (lv_at hl 0 rfl) ?_
          refine gX7_44 hx hb hG hown hK hP gw_5_11 dX7_keep_71 ?_
          refine lv_iload_n hx hb dX7_keep_74 rfl (lv_at hl 1 rfl) ?_
          refine lv_iload_n hx hb dX7_keep_75 rfl (lv_at hl 2 rfl) ?_
          refine lv_iconst (v := 1) hx hb dX7_keep_76 (by decide) ?_
          obtain ⟨t_20, hr_19, he⟩ := bnd_ex he
          have j90 : ∀ (H : Heap) (locs : List Loc) (ls : Array Slot), va_P D vwCl (wld 31 ad (cM ad k M_17)) H → va_S (AW 31 ad) s.heap H locs → lv_has ls 4 [(0, .ref (ad 0)), (1, .int a1), (2, .int a2), (3, .int a3)] → W p l e rm_X7_keep s m args below meth c H locs 0 0 Q (F0 m 90 ls [.int t_20, .int a1, .ref (ad 25)]) := by
            intro H locs ls hP hS hl
            refine as_M25 hx hb hK hP had AW_in hS (vin_I (by have q0 : (f_X7_in a1.toInt64 0 7).toInt ≠ 0 := ne_I hc_6; have r1 : 0 ≤ a1.toInt ∧ a1.toInt ≤ 7 := in_I hc_6; omega) (by have q0 : (f_X7_in a1.toInt64 0 7).toInt ≠ 0 := ne_I hc_6; have r1 : 0 ≤ a1.toInt ∧ a1.toInt ≤ 7 := in_I hc_6; omega)) dX7_keep_90 (fun H locs hP hS => ?_)
            obtain ⟨M_21, eM_21⟩ : ∃ y : Mem, y = up2 M_17 25 a1.toNatClampNeg t_20 := ⟨_, rfl⟩
            rw [← eM_21] at hP
            have he := bnd_at he eM_21
            have hTM_21 : TI M M_21 := by rw [eM_21]; exact TI_a hTM_17 (by decide)
            have qb_M_21 := hTM_21.1.1
            have qs_M_21 := hTM_21.1.2.1
            have qz_M_21 := hTM_21.1.2.2.1
            refine lv_aload_n hx hb dX7_keep_91 rfl (lv_at hl 0 rfl) ?_
            refine gX7_45 hx hb hG hown hK hP gw_5_12 dX7_keep_92 ?_
            refine lv_iload_n hx hb dX7_keep_95 rfl (lv_at hl 1 rfl) ?_
            refine lv_iload_n hx hb dX7_keep_96 rfl (lv_at hl 2 rfl) ?_
            refine lv_iconst (v := 1) hx hb dX7_keep_97 (by decide) ?_
            obtain ⟨t_24, hr_23, he⟩ := bnd_ex he
            have j106 : ∀ (H : Heap) (locs : List Loc) (ls : Array Slot), va_P D vwCl (wld 31 ad (cM ad k M_21)) H → va_S (AW 31 ad) s.heap H locs → lv_has ls 4 [] → W p l e rm_X7_keep s m args below meth c H locs 0 0 Q (F0 m 106 ls [.int t_24, .int a1, .ref (ad 26)]) := by
              intro H locs ls hP hS hl
              refine as_M26 hx hb hK hP had AW_in hS (vin_I (by have q0 : (f_X7_in a1.toInt64 0 7).toInt ≠ 0 := ne_I hc_6; have r1 : 0 ≤ a1.toInt ∧ a1.toInt ≤ 7 := in_I hc_6; omega) (by have q0 : (f_X7_in a1.toInt64 0 7).toInt ≠ 0 := ne_I hc_6; have r1 : 0 ≤ a1.toInt ∧ a1.toInt ≤ 7 := in_I hc_6; omega)) dX7_keep_106 (fun H locs hP hS => ?_)
              obtain ⟨M_25, eM_25⟩ : ∃ y : Mem, y = up2 M_21 26 a1.toNatClampNeg t_24 := ⟨_, rfl⟩
              rw [← eM_25] at hP
              have he := bnd_at he eM_25
              have hTM_25 : TI M M_25 := by rw [eM_25]; exact TI_a hTM_21 (by decide)
              have qb_M_25 := hTM_25.1.1
              have qs_M_25 := hTM_25.1.2.1
              have qz_M_25 := hTM_25.1.2.2.1
              refine lv_iconst (v := 0) hx hb dX7_keep_107 (by decide) ?_
              exact hret _ _ _ _ _ _ ⟨(hV.trans he.symm), hTM_25⟩ hP hS dX7_keep_108
            refine lv_icmp_ne (tgt := 105) hx hb dX7_keep_98 (by decide) (fun hc_22 => ?_) (fun hc_22 => ?_)
            · have hr_23 := ite_t hr_23 hc_22
              refine lv_iconst (v := 0) hx hb dX7_keep_105 (by decide) ?_
              cases hr_23
              exact j106 _ _ _ hP hS (lv_sub hl [] rfl)
            · have hr_23 := ite_f hr_23 (fun q => q hc_22)
              refine lv_iload_n hx hb dX7_keep_101 rfl (lv_at hl 3 rfl) ?_
              refine lv_goto (tgt := 106) hx hb dX7_keep_102 (by decide) ?_
              cases hr_23
              exact j106 _ _ _ hP hS (lv_sub hl [] rfl)
          refine lv_icmp_ne (tgt := 89) hx hb dX7_keep_77 (by decide) (fun hc_18 => ?_) (fun hc_18 => ?_)
          · have hr_19 := ite_t hr_19 hc_18
            refine lv_iconst (v := 0) hx hb dX7_keep_89 (by decide) ?_
            cases hr_19
            exact j90 _ _ _ hP hS (lv_sub hl [0, 1, 2, 3] rfl)
          · have hr_19 := ite_f hr_19 (fun q => q hc_18)
            refine lv_aload_n hx hb dX7_keep_80 rfl (lv_at hl 0 rfl) ?_
            refine gX7_12 hx hb hG hown hK hP gw_4_15 dX7_keep_81 ?_
            refine lv_iload_n hx hb dX7_keep_84 rfl (lv_at hl 3 rfl) ?_
            refine al_M5 hx hb hK hP (vin_I (by omega) (by omega)) dX7_keep_85 ?_
            refine lv_goto (tgt := 90) hx hb dX7_keep_86 (by decide) ?_
            cases hr_19
            exact j90 _ _ _ hP hS (lv_sub hl [0, 1, 2, 3] rfl)
        refine lv_icmp_ne (tgt := 68) hx hb dX7_keep_56 (by decide) (fun hc_14 => ?_) (fun hc_14 => ?_)
        · have hr_15 := ite_t hr_15 hc_14
          refine lv_iconst (v := 0) hx hb dX7_keep_68 (by decide) ?_
          cases hr_15
          exact j69 _ _ _ hP hS (lv_sub hl [0, 1, 2, 3] rfl)
        · have hr_15 := ite_f hr_15 (fun q => q hc_14)
          refine lv_aload_n hx hb dX7_keep_59 rfl (lv_at hl 0 rfl) ?_
          refine gX7_9 hx hb hG hown hK hP gw_4_12 dX7_keep_60 ?_
          refine lv_iload_n hx hb dX7_keep_63 rfl (lv_at hl 3 rfl) ?_
          refine al_M2 hx hb hK hP (vin_I (by omega) (by omega)) dX7_keep_64 ?_
          refine lv_goto (tgt := 69) hx hb dX7_keep_65 (by decide) ?_
          cases hr_15
          exact j69 _ _ _ hP hS (lv_sub hl [0, 1, 2, 3] rfl)
      · have he := ite_f he (fun q => q hc_12)
        refine lv_aload_n hx hb dX7_keep_32 rfl (lv_at hl 0 rfl) ?_
        refine lv_iload_n hx hb dX7_keep_33 rfl (lv_at hl 3 rfl) ?_
        refine call_i [.int a3] [] hx hb hml hG hown hK (c_X7_isBoat had M_1 a3 hTM_1.1) gw_17_2 gm_X7_isBoat gd_X7_isBoat rfl rfl ⟨Nat.le_of_ble_eq_true rfl, Nat.le_of_ble_eq_true rfl⟩ ⟨Nat.le_refl _, Nat.le_refl _⟩ (rX7 hK hP) hP (fun _ h => h) hS rfl hl.1 rfl (Nat.le_of_ble_eq_true rfl) dX7_keep_34 (fun r_26 u_28 H locs hF_27 hP hS => ?_)
        obtain ⟨hz_29, hF_27, hu⟩ := hF_27; rw [hu] at hP; subst hF_27
        refine lv_if_ne (tgt := 42) hx hb dX7_keep_37 (by decide) (fun hc_30 => ?_) (fun hc_30 => ?_)
        · have he := ite_t he hc_30
          refine lv_aload_n hx hb dX7_keep_42 rfl (lv_at hl 0 rfl) ?_
          refine gX7_42 hx hb hG hown hK hP gw_5_9 dX7_keep_43 ?_
          refine lv_iload_n hx hb dX7_keep_46 rfl (lv_at hl 1 rfl) ?_
          refine lv_iload_n hx hb dX7_keep_47 rfl (lv_at hl 2 rfl) ?_
          refine as_M23 hx hb hK hP had AW_in hS (vin_I (by have q0 : (f_X7_in a1.toInt64 0 7).toInt ≠ 0 := ne_I hc_6; have r1 : 0 ≤ a1.toInt ∧ a1.toInt ≤ 7 := in_I hc_6; omega) (by have q0 : (f_X7_in a1.toInt64 0 7).toInt ≠ 0 := ne_I hc_6; have r1 : 0 ≤ a1.toInt ∧ a1.toInt ≤ 7 := in_I hc_6; omega)) dX7_keep_48 (fun H locs hP hS => ?_)
          obtain ⟨M_31, eM_31⟩ : ∃ y : Mem, y = up2 M_1 23 a1.toNatClampNeg a2 := ⟨_, rfl⟩
          rw [← eM_31] at hP
          have he := bnd_at he eM_31
          have hTM_31 : TI M M_31 := by rw [eM_31]; exact TI_a hTM_1 (by decide)
          have qb_M_31 := hTM_31.1.1
          have qs_M_31 := hTM_31.1.2.1
          have qz_M_31 := hTM_31.1.2.2.1
          refine lv_aload_n hx hb dX7_keep_49 rfl (lv_at hl 0 rfl) ?_
          refine gX7_43 hx hb hG hown hK hP gw_5_10 dX7_keep_50 ?_
          refine lv_iload_n hx hb dX7_keep_53 rfl (lv_at hl 1 rfl) ?_
          refine lv_iload_n hx hb dX7_keep_54 rfl (lv_at hl 2 rfl) ?_
          refine lv_iconst (v := 1) hx hb dX7_keep_55 (by decide) ?_
          obtain ⟨t_34, hr_33, he⟩ := bnd_ex he
          have j69 : ∀ (H : Heap) (locs : List Loc) (ls : Array Slot), va_P D vwCl (wld 31 ad (cM ad k M_31)) H → va_S (AW 31 ad) s.heap H locs → lv_has ls 4 [(0, .ref (ad 0)), (1, .int a1), (2, .int a2), (3, .int a3)] → W p l e rm_X7_keep s m args below meth c H locs 0 0 Q (F0 m 69 ls [.int t_34, .int a1, .ref (ad 24)]) := by
            intro H locs ls hP hS hl
            refine as_M24 hx hb hK hP had AW_in hS (vin_I (by have q0 : (f_X7_in a1.toInt64 0 7).toInt ≠ 0 := ne_I hc_6; have r1 : 0 ≤ a1.toInt ∧ a1.toInt ≤ 7 := in_I hc_6; omega) (by have q0 : (f_X7_in a1.toInt64 0 7).toInt ≠ 0 := ne_I hc_6; have r1 : 0 ≤ a1.toInt ∧ a1.toInt ≤ 7 := in_I hc_6; omega)) dX7_keep_69 (fun H locs hP hS => ?_)
            obtain ⟨M_35, eM_35⟩ : ∃ y : Mem, y = up2 M_31 24 a1.toNatClampNeg t_34 := ⟨_, rfl⟩
            rw [← eM_35] at hP
            have he := bnd_at he eM_35
            have hTM_35 : TI M M_35 := by rw [eM_35]; exact TI_a hTM_31 (by decide)
            have qb_M_35 := hTM_35.1.1
            have qs_M_35 := hTM_35.1.2.1
            have qz_M_35 := hTM_35.1.2.2.1
            refine lv_aload_n hx hb dX7_keep_70 rfl (lv_at hl 0 rfl) ?_
            refine gX7_44 hx hb hG hown hK hP gw_5_11 dX7_keep_71 ?_
            refine lv_iload_n hx hb dX7_keep_74 rfl (lv_at hl 1 rfl) ?_
            refine lv_iload_n hx hb dX7_keep_75 rfl (lv_at hl 2 rfl) ?_
            refine lv_iconst (v := 1) hx hb dX7_keep_76 (by decide) ?_
            obtain ⟨t_38, hr_37, he⟩ := bnd_ex he
            have j90 : ∀ (H : Heap) (locs : List Loc) (ls : Array Slot), va_P D vwCl (wld 31 ad (cM ad k M_35)) H → va_S (AW 31 ad) s.heap H locs → lv_has ls 4 [(0, .ref (ad 0)), (1, .int a1), (2, .int a2), (3, .int a3)] → W p l e rm_X7_keep s m args below meth c H locs 0 0 Q (F0 m 90 ls [.int t_38, .int a1, .ref (ad 25)]) := by
              intro H locs ls hP hS hl
              refine as_M25 hx hb hK hP had AW_in hS (vin_I (by have q0 : (f_X7_in a1.toInt64 0 7).toInt ≠ 0 := ne_I hc_6; have r1 : 0 ≤ a1.toInt ∧ a1.toInt ≤ 7 := in_I hc_6; omega) (by have q0 : (f_X7_in a1.toInt64 0 7).toInt ≠ 0 := ne_I hc_6; have r1 : 0 ≤ a1.toInt ∧ a1.toInt ≤ 7 := in_I hc_6; omega)) dX7_keep_90 (fun H locs hP hS => ?_)
              obtain ⟨M_39, eM_39⟩ : ∃ y : Mem, y = up2 M_35 25 a1.toNatClampNeg t_38 := ⟨_, rfl⟩
              rw [← eM_39] at hP
              have he := bnd_at he eM_39
              have hTM_39 : TI M M_39 := by rw [eM_39]; exact TI_a hTM_35 (by decide)
              have qb_M_39 := hTM_39.1.1
              have qs_M_39 := hTM_39.1.2.1
              have qz_M_39 := hTM_39.1.2.2.1
              refine lv_aload_n hx hb dX7_keep_91 rfl (lv_at hl 0 rfl) ?_
              refine gX7_45 hx hb hG hown hK hP gw_5_12 dX7_keep_92 ?_
              refine lv_iload_n hx hb dX7_keep_95 rfl (lv_at hl 1 rfl) ?_
              refine lv_iload_n hx hb dX7_keep_96 rfl (lv_at hl 2 rfl) ?_
              refine lv_iconst (v := 1) hx hb dX7_keep_97 (by decide) ?_
              obtain ⟨t_42, hr_41, he⟩ := bnd_ex he
              have j106 : ∀ (H : Heap) (locs : List Loc) (ls : Array Slot), va_P D vwCl (wld 31 ad (cM ad k M_39)) H → va_S (AW 31 ad) s.heap H locs → lv_has ls 4 [] → W p l e rm_X7_keep s m args below meth c H locs 0 0 Q (F0 m 106 ls [.int t_42, .int a1, .ref (ad 26)]) := by
                intro H locs ls hP hS hl
                refine as_M26 hx hb hK hP had AW_in hS (vin_I (by have q0 : (f_X7_in a1.toInt64 0 7).toInt ≠ 0 := ne_I hc_6; have r1 : 0 ≤ a1.toInt ∧ a1.toInt ≤ 7 := in_I hc_6; omega) (by have q0 : (f_X7_in a1.toInt64 0 7).toInt ≠ 0 := ne_I hc_6; have r1 : 0 ≤ a1.toInt ∧ a1.toInt ≤ 7 := in_I hc_6; omega)) dX7_keep_106 (fun H locs hP hS => ?_)
                obtain ⟨M_43, eM_43⟩ : ∃ y : Mem, y = up2 M_39 26 a1.toNatClampNeg t_42 := ⟨_, rfl⟩
                rw [← eM_43] at hP
                have he := bnd_at he eM_43
                have hTM_43 : TI M M_43 := by rw [eM_43]; exact TI_a hTM_39 (by decide)
                have qb_M_43 := hTM_43.1.1
                have qs_M_43 := hTM_43.1.2.1
                have qz_M_43 := hTM_43.1.2.2.1
                refine lv_iconst (v := 0) hx hb dX7_keep_107 (by decide) ?_
                exact hret _ _ _ _ _ _ ⟨(hV.trans he.symm), hTM_43⟩ hP hS dX7_keep_108
              refine lv_icmp_ne (tgt := 105) hx hb dX7_keep_98 (by decide) (fun hc_40 => ?_) (fun hc_40 => ?_)
              · have hr_41 := ite_t hr_41 hc_40
                refine lv_iconst (v := 0) hx hb dX7_keep_105 (by decide) ?_
                cases hr_41
                exact j106 _ _ _ hP hS (lv_sub hl [] rfl)
              · have hr_41 := ite_f hr_41 (fun q => q hc_40)
                refine lv_iload_n hx hb dX7_keep_101 rfl (lv_at hl 3 rfl) ?_
                refine lv_goto (tgt := 106) hx hb dX7_keep_102 (by decide) ?_
                cases hr_41
                exact j106 _ _ _ hP hS (lv_sub hl [] rfl)
            refine lv_icmp_ne (tgt := 89) hx hb dX7_keep_77 (by decide) (fun hc_36 => ?_) (fun hc_36 => ?_)
            · have hr_37 := ite_t hr_37 hc_36
              refine lv_iconst (v := 0) hx hb dX7_keep_89 (by decide) ?_
              cases hr_37
              exact j90 _ _ _ hP hS (lv_sub hl [0, 1, 2, 3] rfl)
            · have hr_37 := ite_f hr_37 (fun q => q hc_36)
              refine lv_aload_n hx hb dX7_keep_80 rfl (lv_at hl 0 rfl) ?_
              refine gX7_12 hx hb hG hown hK hP gw_4_15 dX7_keep_81 ?_
              refine lv_iload_n hx hb dX7_keep_84 rfl (lv_at hl 3 rfl) ?_
              refine al_M5 hx hb hK hP (vin_I (by have q0 : (f_X7_isBoat M_1 a3).toInt ≠ 0 := ne_I hc_30; have r1 : 0 ≤ a3.toInt ∧ a3.toInt < (M_1 0 8).toInt := isBoat_in (by omega) hc_30; omega) (by have q0 : (f_X7_isBoat M_1 a3).toInt ≠ 0 := ne_I hc_30; have r1 : 0 ≤ a3.toInt ∧ a3.toInt < (M_1 0 8).toInt := isBoat_in (by omega) hc_30; omega)) dX7_keep_85 ?_
              refine lv_goto (tgt := 90) hx hb dX7_keep_86 (by decide) ?_
              cases hr_37
              exact j90 _ _ _ hP hS (lv_sub hl [0, 1, 2, 3] rfl)
          refine lv_icmp_ne (tgt := 68) hx hb dX7_keep_56 (by decide) (fun hc_32 => ?_) (fun hc_32 => ?_)
          · have hr_33 := ite_t hr_33 hc_32
            refine lv_iconst (v := 0) hx hb dX7_keep_68 (by decide) ?_
            cases hr_33
            exact j69 _ _ _ hP hS (lv_sub hl [0, 1, 2, 3] rfl)
          · have hr_33 := ite_f hr_33 (fun q => q hc_32)
            refine lv_aload_n hx hb dX7_keep_59 rfl (lv_at hl 0 rfl) ?_
            refine gX7_9 hx hb hG hown hK hP gw_4_12 dX7_keep_60 ?_
            refine lv_iload_n hx hb dX7_keep_63 rfl (lv_at hl 3 rfl) ?_
            refine al_M2 hx hb hK hP (vin_I (by have q0 : (f_X7_isBoat M_1 a3).toInt ≠ 0 := ne_I hc_30; have r1 : 0 ≤ a3.toInt ∧ a3.toInt < (M_1 0 8).toInt := isBoat_in (by omega) hc_30; omega) (by have q0 : (f_X7_isBoat M_1 a3).toInt ≠ 0 := ne_I hc_30; have r1 : 0 ≤ a3.toInt ∧ a3.toInt < (M_1 0 8).toInt := isBoat_in (by omega) hc_30; omega)) dX7_keep_64 ?_
            refine lv_goto (tgt := 69) hx hb dX7_keep_65 (by decide) ?_
            cases hr_33
            exact j69 _ _ _ hP hS (lv_sub hl [0, 1, 2, 3] rfl)
        · have he := ite_f he (fun q => q hc_30)
          refine lv_iconst (v := (-1)) hx hb dX7_keep_40 (by decide) ?_
          exact hret _ _ _ _ _ _ ⟨(hV.trans he.symm), hTM_1⟩ hP hS dX7_keep_41
def rm_X7_narrowed : Room := { frames := 0, cells := 0, slots := 0, locals := 0 }
theorem gm_X7_narrowed : Cond.static yX7_narrowed ∈ wsL_law ∧ Cond.initialized yX7_narrowed.cls ∈ wsL_law ∧ Cond.code yX7_narrowed cX7_narrowed 2 (some .long) ∈ wsL_law := ⟨gw_42_17, gw_1_5, gw_42_18⟩
theorem gd_X7_narrowed : yX7_narrowed.cls ≠ "java/lang/invoke/MethodHandle" ∧ yX7_narrowed.cls ≠ "java/lang/invoke/VarHandle" ∧ (parseMethodDescriptor yX7_narrowed.desc).map (fun d => d.parameters.length) = some 2 := by decide +kernel
set_option maxRecDepth 100000 in
set_option maxHeartbeats 0 in
theorem c_X7_narrowed {l : Launch} {D : va_G} {k : Nat → ClassId} {ad : Nat → Nat} (had : InjN 31 ad) {M : Mem} (a1 : Int32) (a2 : Int32) : Met l yX7_narrowed (Cond.code yX7_narrowed cX7_narrowed 2 (some .long) :: wsL_law) rm_X7_narrowed (va_Pc [.int a1, .int a2] (GW 31 ad D k (cM ad k M))) (va_Ql (fun r u => f_X7_narrowed a1 a2 = r ∧ u = M) (fun u t => GW 31 ad D k (cM ad k u) t) (AW 31 ad)) 0 0 (AW 31 ad) := by
  refine met_l (g := cM ad k) (M := M) (plainFor_of_name (by decide)) (Nat.le_of_ble_eq_true rfl) ?_
  intro p e s m args below meth c Q ls hx hb hml hG hown hK hret hP hS hl
  have hl : lv_has ls 2 [(0, .int a1), (1, .int a2)] := hl
  obtain ⟨V, hV⟩ : ∃ V, f_X7_narrowed a1 a2 = V := ⟨_, rfl⟩
  have he := hV
  unfold f_X7_narrowed at he
  refine lv_iload_n hx hb dX7_narrowed_0 rfl (lv_at hl 1 rfl) ?_
  obtain ⟨t_4, hr_2, he⟩ := bnd_ex he
  have j23 : ∀ (H : Heap) (locs : List Loc) (ls : Array Slot), va_P D vwCl (wld 31 ad (cM ad k M)) H → va_S (AW 31 ad) s.heap H locs → lv_has ls 2 [] → W p l e rm_X7_narrowed s m args below meth c H locs 0 0 Q (F0 m 23 ls [.long t_4]) := by
    intro H locs ls hP hS hl
    exact hret _ _ _ _ _ _ ⟨hV.trans he.symm, rfl⟩ hP hS dX7_narrowed_23
  refine lv_if_ne (tgt := 10) hx hb dX7_narrowed_1 (by decide) (fun hc_1 => ?_) (fun hc_1 => ?_)
  · have hr_2 := ite_t hr_2 hc_1
    refine lv_iload_n hx hb dX7_narrowed_10 rfl (lv_at hl 1 rfl) ?_
    refine lv_iconst (v := 1) hx hb dX7_narrowed_11 (by decide) ?_
    refine lv_icmp_ne (tgt := 21) hx hb dX7_narrowed_12 (by decide) (fun hc_3 => ?_) (fun hc_3 => ?_)
    · have hr_2 := ite_t hr_2 hc_3
      refine lv_iload_n hx hb dX7_narrowed_21 rfl (lv_at hl 0 rfl) ?_
      refine lv_i2l (v := a1.toInt64) hx hb dX7_narrowed_22 rfl ?_
      cases hr_2
      exact j23 _ _ _ hP hS (lv_sub hl [] rfl)
    · have hr_2 := ite_f hr_2 (fun q => q hc_3)
      refine lv_iload_n hx hb dX7_narrowed_15 rfl (lv_at hl 0 rfl) ?_
      refine lv_i2s (v := a1.toInt16.toInt32) hx hb dX7_narrowed_16 rfl ?_
      refine lv_i2l (v := a1.toInt16.toInt32.toInt64) hx hb dX7_narrowed_17 rfl ?_
      refine lv_goto (tgt := 23) hx hb dX7_narrowed_18 (by decide) ?_
      cases hr_2
      exact j23 _ _ _ hP hS (lv_sub hl [] rfl)
  · have hr_2 := ite_f hr_2 (fun q => q hc_1)
    refine lv_iload_n hx hb dX7_narrowed_4 rfl (lv_at hl 0 rfl) ?_
    refine lv_i2b (v := a1.toInt8.toInt32) hx hb dX7_narrowed_5 rfl ?_
    refine lv_i2l (v := a1.toInt8.toInt32.toInt64) hx hb dX7_narrowed_6 rfl ?_
    refine lv_goto (tgt := 23) hx hb dX7_narrowed_7 (by decide) ?_
    cases hr_2
    exact j23 _ _ _ hP hS (lv_sub hl [] rfl)
