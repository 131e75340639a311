-- @needs 12_dec 13_dec 14_dec 15_dec 31_hC 40_cC 42_cC 43_cC 44_cC 50_cC 51_cC
def rm_X6_count : Room := { frames := 4, cells := 0, slots := 0, locals := 79 }
theorem gm_X6_count : Cond.instanceMethod yX6_count ∈ wsL_law ∧ Cond.selects RX6 yX6_count yX6_count ∈ wsL_law ∧ Cond.initialized RX6 ∈ wsL_law ∧ Cond.code yX6_count cX6_count 2 (some .int) ∈ wsL_law := ⟨gw_39_23, gw_40_0, gw_1_2, gw_40_1⟩
theorem gd_X6_count : yX6_count.cls = RX6 ∧ yX6_count.cls ≠ "java/lang/invoke/MethodHandle" ∧ yX6_count.cls ≠ "java/lang/invoke/VarHandle" ∧ (parseMethodDescriptor yX6_count.desc).map (fun d => d.parameters.length) = some 1 := by decide +kernel
set_option maxRecDepth 100000 in
set_option maxHeartbeats 0 in
theorem c_X6_count {l : Launch} {D : va_G} {k : Nat → ClassId} {ad : Nat → Nat} (had : InjN 74 ad) (M : Mem) (a1 : Int32) : Met l yX6_count (Cond.code yX6_count cX6_count 2 (some .int) :: wsL_law) rm_X6_count (va_Pc [.ref (ad 0), .int a1] (GW 74 ad D k (cC ad k M))) (va_Qi (fun r u => f_X6_count M a1 = (r, u)) (fun u t => GW 74 ad D k (cC ad k u) t) (AW 74 ad)) 0 0 (AW 74 ad) := by
  refine met_i (g := cC ad k) (M := M) (plainFor_of_name (by decide)) (Nat.le_of_ble_eq_true rfl) ?_
  intro p e s m args below meth c Q ls hx hb hml hG hown hK hret hP hS hl
  have hl : lv_has ls 2 [(0, .ref (ad 0)), (1, .int a1)] := hl
  obtain ⟨V, hV⟩ : ∃ V, f_X6_count M a1 = V := ⟨_, rfl⟩
  have he := hV
  unfold f_X6_count at he
  refine lv_iload_n hx hb dX6_count_0 rfl (lv_at hl 1 rfl) ?_
  by_cases hw_1 : a1 = 0
  · have he := ite_t he hw_1
    refine lv_tableIn (tgt := 40) hx hb dX6_count_1 (by rw [hw_1]; decide) (by rw [hw_1]; decide) (by rw [hw_1]; rfl) (by decide) ?_
    refine lv_aload_n hx hb dX6_count_40 rfl (lv_at hl 0 rfl) ?_
    refine gX6_1 hx hb hG hown hK hP rfl gw_1_20 dX6_count_41 ?_
    refine gX3_1 hx hb hG hown hK hP (by decide) gw_18_8 dX6_count_44 ?_
    exact hret _ _ _ _ _ _ (hV.trans he.symm) hP hS dX6_count_47
  · have he := ite_f he hw_1
    by_cases hw_2 : a1 = 1
    · have he := ite_t he hw_2
      refine lv_tableIn (tgt := 48) hx hb dX6_count_1 (by rw [hw_2]; decide) (by rw [hw_2]; decide) (by rw [hw_2]; rfl) (by decide) ?_
      refine lv_aload_n hx hb dX6_count_48 rfl (lv_at hl 0 rfl) ?_
      refine gX6_1 hx hb hG hown hK hP rfl gw_1_20 dX6_count_49 ?_
      refine gX3_2 hx hb hG hown hK hP (by decide) gw_13_18 dX6_count_52 ?_
      exact hret _ _ _ _ _ _ (hV.trans he.symm) hP hS dX6_count_55
    · have he := ite_f he hw_2
      by_cases hw_3 : a1 = 2
      · have he := ite_t he hw_3
        refine lv_tableIn (tgt := 56) hx hb dX6_count_1 (by rw [hw_3]; decide) (by rw [hw_3]; decide) (by rw [hw_3]; rfl) (by decide) ?_
        refine lv_aload_n hx hb dX6_count_56 rfl (lv_at hl 0 rfl) ?_
        refine gX6_1 hx hb hG hown hK hP rfl gw_1_20 dX6_count_57 ?_
        refine call_i [] [] hx hb hml hG hown hK (c_X3_howManyIn had M 13 (by decide)) gw_40_2 gm_X3_howManyIn gd_X3_howManyIn rfl rfl ⟨Nat.le_of_ble_eq_true rfl, Nat.le_of_ble_eq_true rfl⟩ ⟨Nat.le_refl _, Nat.le_refl _⟩ (rX3 hK hP (by decide)) hP (fun _ h => h) hS rfl hl.1 rfl (Nat.le_of_ble_eq_true rfl) dX6_count_60 (fun r_4 u_6 H locs hF_5 hP hS => ?_)
        obtain ⟨hF_5, hu⟩ := hF_5; rw [hu] at hP; subst hF_5
        exact hret _ _ _ _ _ _ (hV.trans he.symm) hP hS dX6_count_63
      · have he := ite_f he hw_3
        by_cases hw_7 : a1 = 3
        · have he := ite_t he hw_7
          refine lv_tableIn (tgt := 64) hx hb dX6_count_1 (by rw [hw_7]; decide) (by rw [hw_7]; decide) (by rw [hw_7]; rfl) (by decide) ?_
          refine lv_aload_n hx hb dX6_count_64 rfl (lv_at hl 0 rfl) ?_
          refine gX6_1 hx hb hG hown hK hP rfl gw_1_20 dX6_count_65 ?_
          refine call_i [] [] hx hb hml hG hown hK (c_X3_allTurns had M 13 (by decide)) gw_40_3 gm_X3_allTurns gd_X3_allTurns rfl rfl ⟨Nat.le_of_ble_eq_true rfl, Nat.le_of_ble_eq_true rfl⟩ ⟨Nat.le_refl _, Nat.le_refl _⟩ (rX3 hK hP (by decide)) hP (fun _ h => h) hS rfl hl.1 rfl (Nat.le_of_ble_eq_true rfl) dX6_count_68 (fun r_8 u_10 H locs hF_9 hP hS => ?_)
          obtain ⟨hF_9, hu⟩ := hF_9; rw [hu] at hP; subst hF_9
          exact hret _ _ _ _ _ _ (hV.trans he.symm) hP hS dX6_count_71
        · have he := ite_f he hw_7
          by_cases hw_11 : a1 = 4
          · have he := ite_t he hw_11
            refine lv_tableIn (tgt := 72) hx hb dX6_count_1 (by rw [hw_11]; decide) (by rw [hw_11]; decide) (by rw [hw_11]; rfl) (by decide) ?_
            refine lv_aload_n hx hb dX6_count_72 rfl (lv_at hl 0 rfl) ?_
            refine gX6_1 hx hb hG hown hK hP rfl gw_1_20 dX6_count_73 ?_
            refine call_i [] [] hx hb hml hG hown hK (c_X3_howManyInBadAir had M 13 (by decide)) gw_40_8 gm_X3_howManyInBadAir gd_X3_howManyInBadAir rfl rfl ⟨Nat.le_of_ble_eq_true rfl, Nat.le_of_ble_eq_true rfl⟩ ⟨Nat.le_refl _, Nat.le_refl _⟩ (rX3 hK hP (by decide)) hP (fun _ h => h) hS rfl hl.1 rfl (Nat.le_of_ble_eq_true rfl) dX6_count_76 (fun r_12 M_14 H locs hF_13 hP hS => ?_)
            have he := bnd2_at he hF_13
            exact hret _ _ _ _ _ _ (hV.trans he.symm) hP hS dX6_count_79
          · have he := ite_f he hw_11
            by_cases hw_15 : a1 = 5
            · have he := ite_t he hw_15
              refine lv_tableIn (tgt := 80) hx hb dX6_count_1 (by rw [hw_15]; decide) (by rw [hw_15]; decide) (by rw [hw_15]; rfl) (by decide) ?_
              refine lv_aload_n hx hb dX6_count_80 rfl (lv_at hl 0 rfl) ?_
              refine gX6_0 hx hb hG hown hK hP rfl gw_1_16 dX6_count_81 ?_
              refine gX0_0 hx hb hG hown hK hP (by decide) gw_33_1 dX6_count_84 ?_
              exact hret _ _ _ _ _ _ (hV.trans he.symm) hP hS dX6_count_87
            · have he := ite_f he hw_15
              refine lv_tableOut (tgt := 88) hx hb dX6_count_1 (by have q0 : a1.toInt ≠ 0 := ne_I hw_1; have q1 : a1.toInt ≠ 1 := ne_I hw_2; have q2 : a1.toInt ≠ 2 := ne_I hw_3; have q3 : a1.toInt ≠ 3 := ne_I hw_7; have q4 : a1.toInt ≠ 4 := ne_I hw_11; have q5 : a1.toInt ≠ 5 := ne_I hw_15; omega) (by decide) ?_
              refine lv_iconst (v := (-1)) hx hb dX6_count_88 (by decide) ?_
              exact hret _ _ _ _ _ _ (hV.trans he.symm) hP hS dX6_count_89
def rm_X5_holdSailor : Room := { frames := 1, cells := 0, slots := 0, locals := 23 }
theorem gm_X5_holdSailor : Cond.instanceMethod yX5_holdSailor ∈ wsL_law ∧ Cond.selects RX5 yX5_holdSailor yX5_holdSailor ∈ wsL_law ∧ Cond.initialized RX5 ∈ wsL_law ∧ Cond.code yX5_holdSailor cX5_holdSailor 2 none ∈ wsL_law := ⟨gw_40_23, gw_41_0, gw_2_4, gw_41_1⟩
theorem gd_X5_holdSailor : yX5_holdSailor.cls = RX5 ∧ yX5_holdSailor.cls ≠ "java/lang/invoke/MethodHandle" ∧ yX5_holdSailor.cls ≠ "java/lang/invoke/VarHandle" ∧ (parseMethodDescriptor yX5_holdSailor.desc).map (fun d => d.parameters.length) = some 1 := by decide +kernel
set_option maxRecDepth 100000 in
set_option maxHeartbeats 0 in
theorem c_X5_holdSailor {l : Launch} {D : va_G} {k : Nat → ClassId} {ad : Nat → Nat} (had : InjN 74 ad) (M : Mem) (o : Nat) (ho : kShf o) (a1 : Nat) (ha1 : kSlr a1) : Met l yX5_holdSailor (Cond.code yX5_holdSailor cX5_holdSailor 2 none :: wsL_law) rm_X5_holdSailor (va_Pc [.ref (ad o), .ref (ad a1)] (GW 74 ad D k (cC ad k M))) (va_Qv (fun u => f_X5_holdSailor M o a1 = u) (fun u t => GW 74 ad D k (cC ad k u) t) (AW 74 ad)) 0 0 (AW 74 ad) := by
  refine met_v (g := cC ad k) (M := M) (plainFor_of_name (by decide)) (Nat.le_of_ble_eq_true rfl) ?_
  intro p e s m args below meth c Q ls hx hb hml hG hown hK hret hP hS hl
  have hl : lv_has ls 2 [(0, .ref (ad o)), (1, .ref (ad a1))] := hl
  obtain ⟨V, hV⟩ : ∃ V, f_X5_holdSailor M o a1 = V := ⟨_, rfl⟩
  have he := hV
  unfold f_X5_holdSailor at he
  refine lv_aload_n hx hb dX5_holdSailor_0 rfl (lv_at hl 0 rfl) ?_
  refine lv_iconst (v := 1) hx hb dX5_holdSailor_1 (by decide) ?_
  refine pX5_0 hx hb hG hown hK hP had AW_in hS ho gw_4_2 dX5_holdSailor_2 (fun H locs hP hS => ?_)
  obtain ⟨M_1, eM_1⟩ : ∃ y : Mem, y = up2 M o 0 1 := ⟨_, rfl⟩
  rw [← eM_1] at hP
  have he := bnd_at he eM_1
  refine lv_aload_n hx hb dX5_holdSailor_5 rfl (lv_at hl 0 rfl) ?_
  refine gX5_1 hx hb hG hown hK hP ho gw_4_4 dX5_holdSailor_6 ?_
  refine lv_aload_n hx hb dX5_holdSailor_9 rfl (lv_at hl 1 rfl) ?_
  refine gX4_0 hx hb hG hown hK hP ha1 gw_41_2 dX5_holdSailor_10 ?_
  refine lv_aload_n hx hb dX5_holdSailor_13 rfl (lv_at hl 1 rfl) ?_
  refine gX4_1 hx hb hG hown hK hP ha1 gw_41_3 dX5_holdSailor_14 ?_
  refine lv_aload_n hx hb dX5_holdSailor_17 rfl (lv_at hl 1 rfl) ?_
  refine gX4_2 hx hb hG hown hK hP ha1 gw_41_4 dX5_holdSailor_18 ?_
  refine call_v [.int (M_1 a1 0), .int (M_1 a1 1), .int (M_1 a1 2)] [] hx hb hml hG hown hK (c_X4_become had M_1 (o + 8) (kR_slr2 ho) (M_1 a1 0) (M_1 a1 1) (M_1 a1 2)) gw_41_5 gm_X4_become gd_X4_become rfl rfl ⟨Nat.le_of_ble_eq_true rfl, Nat.le_of_ble_eq_true rfl⟩ ⟨Nat.le_refl _, Nat.le_refl _⟩ (rX4 hK hP (kR_slr2 ho)) hP (fun _ h => h) hS rfl hl.1 rfl (Nat.le_of_ble_eq_true rfl) dX5_holdSailor_21 (fun M_4 H locs hF_3 hP hS => ?_)
  have he := bnd_at he hF_3.symm
  exact hret _ _ _ _ _ (hV.trans he.symm) hP hS dX5_holdSailor_24
def rm_X6_keep : Room := { frames := 2, cells := 0, slots := 0, locals := 44 }
theorem gm_X6_keep : Cond.instanceMethod yX6_keep ∈ wsL_law ∧ Cond.selects RX6 yX6_keep yX6_keep ∈ wsL_law ∧ Cond.initialized RX6 ∈ wsL_law ∧ Cond.code yX6_keep cX6_keep 6 (some .int) ∈ wsL_law := ⟨gw_40_17, gw_40_18, gw_1_2, gw_40_19⟩
theorem gd_X6_keep : yX6_keep.cls = RX6 ∧ yX6_keep.cls ≠ "java/lang/invoke/MethodHandle" ∧ yX6_keep.cls ≠ "java/lang/invoke/VarHandle" ∧ (parseMethodDescriptor yX6_keep.desc).map (fun d => d.parameters.length) = some 3 := by decide +kernel
set_option maxRecDepth 100000 in
set_option maxHeartbeats 0 in
theorem c_X6_keep {l : Launch} {D : va_G} {k : Nat → ClassId} {ad : Nat → Nat} (had : InjN 74 ad) (M : Mem) (a1 : Int32) (a2 : Int32) (a3 : Int32) : Met l yX6_keep (Cond.code yX6_keep cX6_keep 6 (some .int) :: wsL_law) rm_X6_keep (va_Pc [.ref (ad 0), .int a1, .int a2, .int a3] (GW 74 ad D k (cC ad k M))) (va_Qi (fun r u => f_X6_keep M a1 a2 a3 = (r, u)) (fun u t => GW 74 ad D k (cC ad k u) t) (AW 74 ad)) 0 0 (AW 74 ad) := by
  refine met_i (g := cC ad k) (M := M) (plainFor_of_name (by decide)) (Nat.le_of_ble_eq_true rfl) ?_
  intro p e s m args below meth c Q ls hx hb hml hG hown hK hret hP hS hl
  have hl : lv_has ls 6 [(0, .ref (ad 0)), (1, .int a1), (2, .int a2), (3, .int a3)] := hl
  obtain ⟨V, hV⟩ : ∃ V, f_X6_keep M a1 a2 a3 = V := ⟨_, rfl⟩
  have he := hV
  unfold f_X6_keep at he
  refine lv_aload_n hx hb dX6_keep_0 rfl (lv_at hl 0 rfl) ?_
  refine lv_iload_n hx hb dX6_keep_1 rfl (lv_at hl 1 rfl) ?_
  refine call_e [.int a1] [] hx hb hml hG hown hK (c_X6_shelfAt had M a1) gw_7_22 gm_X6_shelfAt gd_X6_shelfAt rfl rfl ⟨Nat.le_of_ble_eq_true rfl, Nat.le_of_ble_eq_true rfl⟩ ⟨Nat.le_refl _, Nat.le_refl _⟩ (rX6 hK hP rfl) hP (fun _ h => h) hS rfl hl.1 rfl (Nat.le_of_ble_eq_true rfl) dX6_keep_2 (fun r_1 u_3 H locs hF_2 hP hS => ?_)
  obtain ⟨hz_4, hF_2, hu⟩ := hF_2; rw [hu] at hP
  rcases r_1 with _ | b_5
  · have he := oel_n he hF_2
    refine lv_astoreN (lv' := [(4, .null), (0, .ref (ad 0)), (1, .int a1), (2, .int a2), (3, .int a3)]) hx hb dX6_keep_5 hl (by decide) rfl (fun ls hl => ?_)
    refine lv_aloadN hx hb dX6_keep_7 (lv_at hl 0 rfl) ?_
    refine lv_ifnullN (tgt := 21) hx hb dX6_keep_9 (by decide) ?_
    refine lv_iconst (v := (-1)) hx hb dX6_keep_21 (by decide) ?_
    exact hret _ _ _ _ _ _ (hV.trans he.symm) hP hS dX6_keep_22
  · have he := oel_s he hF_2
    refine lv_astore (lv' := [(4, .ref (ad b_5)), (0, .ref (ad 0)), (1, .int a1), (2, .int a2), (3, .int a3)]) hx hb dX6_keep_5 hl (by decide) rfl (fun ls hl => ?_)
    refine lv_aload hx hb dX6_keep_7 (lv_at hl 0 rfl) ?_
    refine lv_ifnull hx hb dX6_keep_9 ?_
    refine lv_iload_n hx hb dX6_keep_12 rfl (lv_at hl 3 rfl) ?_
    refine lv_if_lt (tgt := 21) hx hb dX6_keep_13 (by decide) (fun hc_6 => ?_) (fun hc_6 => ?_)
    · have he := ite_t he hc_6
      refine lv_iconst (v := (-1)) hx hb dX6_keep_21 (by decide) ?_
      exact hret _ _ _ _ _ _ (hV.trans he.symm) hP hS dX6_keep_22
    · have he := ite_f he hc_6
      refine lv_iload_n hx hb dX6_keep_16 rfl (lv_at hl 3 rfl) ?_
      refine lv_iconst (v := 1) hx hb dX6_keep_17 (by decide) ?_
      refine lv_icmp_le (tgt := 23) hx hb dX6_keep_18 (by decide) (fun hc_7 => ?_) (fun hc_7 => ?_)
      · have he := ite_t he hc_7
        refine lv_iload_n hx hb dX6_keep_23 rfl (lv_at hl 3 rfl) ?_
        refine lv_if_ne (tgt := 35) hx hb dX6_keep_24 (by decide) (fun hc_8 => ?_) (fun hc_8 => ?_)
        · have he := ite_t he hc_8
          refine lv_aload_n hx hb dX6_keep_35 rfl (lv_at hl 1 rfl) ?_
          refine gX6_1 hx hb hG hown hK hP rfl gw_1_20 dX6_keep_36 ?_
          refine lv_iload_n hx hb dX6_keep_39 rfl (lv_at hl 4 rfl) ?_
          refine call_e [.int a3] [] hx hb hml hG hown hK (c_X3_boatAt had M 13 (by decide) a3) gw_16_2 gm_X3_boatAt gd_X3_boatAt rfl rfl ⟨Nat.le_of_ble_eq_true rfl, Nat.le_of_ble_eq_true rfl⟩ ⟨Nat.le_refl _, Nat.le_refl _⟩ (rX3 hK hP (by decide)) hP (fun _ h => h) hS rfl hl.1 rfl (Nat.le_of_ble_eq_true rfl) dX6_keep_40 (fun r_9 u_11 H locs hF_10 hP hS => ?_)
          obtain ⟨hz_12, hF_10, hu⟩ := hF_10; rw [hu] at hP
          rcases r_9 with _ | b_13
          · have he := oel_n he hF_10
            refine lv_astoreN (lv' := [(5, .null), (4, .ref (ad b_5)), (0, .ref (ad 0)), (1, .int a1), (2, .int a2), (3, .int a3)]) hx hb dX6_keep_43 hl (by decide) rfl (fun ls hl => ?_)
            refine lv_aloadN hx hb dX6_keep_45 (lv_at hl 0 rfl) ?_
            refine lv_ifnonnullN hx hb dX6_keep_47 ?_
            refine lv_iconst (v := (-1)) hx hb dX6_keep_50 (by decide) ?_
            exact hret _ _ _ _ _ _ (hV.trans he.symm) hP hS dX6_keep_51
          · have he := oel_s he hF_10
            refine lv_astore (lv' := [(5, .ref (ad b_13)), (4, .ref (ad b_5)), (0, .ref (ad 0)), (1, .int a1), (2, .int a2), (3, .int a3)]) hx hb dX6_keep_43 hl (by decide) rfl (fun ls hl => ?_)
            refine lv_aload hx hb dX6_keep_45 (lv_at hl 0 rfl) ?_
            refine lv_ifnonnull (tgt := 52) hx hb dX6_keep_47 (by decide) ?_
            refine lv_aload hx hb dX6_keep_52 (lv_at hl 1 rfl) ?_
            refine lv_aload hx hb dX6_keep_54 (lv_at hl 0 rfl) ?_
            refine gX1_0 hx hb hG hown hK hP (hz_12 _ rfl) gw_40_21 dX6_keep_56 ?_
            refine call_v [.ref (ad (b_13 + 12))] [] hx hb hml hG hown hK (c_X5_holdSailor had M b_5 (hz_4 _ rfl) (b_13 + 12) (kR_slr (hz_12 _ rfl))) gw_40_22 gm_X5_holdSailor gd_X5_holdSailor rfl rfl ⟨Nat.le_of_ble_eq_true rfl, Nat.le_of_ble_eq_true rfl⟩ ⟨Nat.le_refl _, Nat.le_refl _⟩ (rX5 hK hP (hz_4 _ rfl)) hP (fun _ h => h) hS rfl hl.1 rfl (Nat.le_of_ble_eq_true rfl) dX6_keep_59 (fun M_16 H locs hF_15 hP hS => ?_)
            have he := bnd_at he hF_15.symm
            refine lv_iconst (v := 0) hx hb dX6_keep_62 (by decide) ?_
            exact hret _ _ _ _ _ _ (hV.trans he.symm) hP hS dX6_keep_63
        · have he := ite_f he (fun q => q hc_8)
          refine lv_aload hx hb dX6_keep_27 (lv_at hl 0 rfl) ?_
          refine lv_iconst (v := 0) hx hb dX6_keep_29 (by decide) ?_
          refine pX5_0 hx hb hG hown hK hP had AW_in hS (hz_4 _ rfl) gw_40_20 dX6_keep_30 (fun H locs hP hS => ?_)
          obtain ⟨M_17, eM_17⟩ : ∃ y : Mem, y = up2 M b_5 0 0 := ⟨_, rfl⟩
          rw [← eM_17] at hP
          have he := bnd_at he eM_17
          refine lv_iconst (v := 0) hx hb dX6_keep_33 (by decide) ?_
          exact hret _ _ _ _ _ _ (hV.trans he.symm) hP hS dX6_keep_34
      · have he := ite_f he hc_7
        refine lv_iconst (v := (-1)) hx hb dX6_keep_21 (by decide) ?_
        exact hret _ _ _ _ _ _ (hV.trans he.symm) hP hS dX6_keep_22
def rm_X5_holdRow : Room := { frames := 1, cells := 0, slots := 0, locals := 23 }
theorem gm_X5_holdRow : Cond.instanceMethod yX5_holdRow ∈ wsL_law ∧ Cond.selects RX5 yX5_holdRow yX5_holdRow ∈ wsL_law ∧ Cond.initialized RX5 ∈ wsL_law ∧ Cond.code yX5_holdRow cX5_holdRow 3 none ∈ wsL_law := ⟨gw_41_15, gw_41_16, gw_2_4, gw_41_17⟩
theorem gd_X5_holdRow : yX5_holdRow.cls = RX5 ∧ yX5_holdRow.cls ≠ "java/lang/invoke/MethodHandle" ∧ yX5_holdRow.cls ≠ "java/lang/invoke/VarHandle" ∧ (parseMethodDescriptor yX5_holdRow.desc).map (fun d => d.parameters.length) = some 2 := by decide +kernel
set_option maxRecDepth 100000 in
set_option maxHeartbeats 0 in
theorem c_X5_holdRow {l : Launch} {D : va_G} {k : Nat → ClassId} {ad : Nat → Nat} (had : InjN 74 ad) (M : Mem) (o : Nat) (ho : kShf o) (a1 : Int32) (a2 : Int32) : Met l yX5_holdRow (Cond.code yX5_holdRow cX5_holdRow 3 none :: wsL_law) rm_X5_holdRow (va_Pc [.ref (ad o), .int a1, .int a2] (GW 74 ad D k (cC ad k M))) (va_Qv (fun u => f_X5_holdRow M o a1 a2 = u) (fun u t => GW 74 ad D k (cC ad k u) t) (AW 74 ad)) 0 0 (AW 74 ad) := by
  refine met_v (g := cC ad k) (M := M) (plainFor_of_name (by decide)) (Nat.le_of_ble_eq_true rfl) ?_
  intro p e s m args below meth c Q ls hx hb hml hG hown hK hret hP hS hl
  have hl : lv_has ls 3 [(0, .ref (ad o)), (1, .int a1), (2, .int a2)] := hl
  obtain ⟨V, hV⟩ : ∃ V, f_X5_holdRow M o a1 a2 = V := ⟨_, rfl⟩
  have he := hV
  unfold f_X5_holdRow at he
  refine lv_aload_n hx hb dX5_holdRow_0 rfl (lv_at hl 0 rfl) ?_
  refine lv_iconst (v := 2) hx hb dX5_holdRow_1 (by decide) ?_
  refine pX5_0 hx hb hG hown hK hP had AW_in hS ho gw_4_2 dX5_holdRow_2 (fun H locs hP hS => ?_)
  obtain ⟨M_1, eM_1⟩ : ∃ y : Mem, y = up2 M o 0 2 := ⟨_, rfl⟩
  rw [← eM_1] at hP
  have he := bnd_at he eM_1
  refine lv_aload_n hx hb dX5_holdRow_5 rfl (lv_at hl 0 rfl) ?_
  refine lv_iload_n hx hb dX5_holdRow_6 rfl (lv_at hl 1 rfl) ?_
  refine pX5_2 hx hb hG hown hK hP had AW_in hS ho gw_8_6 dX5_holdRow_7 (fun H locs hP hS => ?_)
  obtain ⟨M_2, eM_2⟩ : ∃ y : Mem, y = up2 M_1 o 2 a1 := ⟨_, rfl⟩
  rw [← eM_2] at hP
  have he := bnd_at he eM_2
  refine lv_aload_n hx hb dX5_holdRow_10 rfl (lv_at hl 0 rfl) ?_
  refine lv_iload_n hx hb dX5_holdRow_11 rfl (lv_at hl 2 rfl) ?_
  refine pX5_3 hx hb hG hown hK hP had AW_in hS ho gw_36_0 dX5_holdRow_12 (fun H locs hP hS => ?_)
  obtain ⟨M_3, eM_3⟩ : ∃ y : Mem, y = up2 M_2 o 3 a2 := ⟨_, rfl⟩
  rw [← eM_3] at hP
  have he := bnd_at he eM_3
  refine lv_aload_n hx hb dX5_holdRow_15 rfl (lv_at hl 0 rfl) ?_
  refine gX5_4 hx hb hG hown hK hP ho gw_4_5 dX5_holdRow_16 ?_
  refine lv_iconst (v := 0) hx hb dX5_holdRow_19 (by decide) ?_
  refine callS_v [.ref (ad (o + 16)), .int 0] [] hx hb hml hG hown hK (c_J7_fill_53178 had M_3 (o + 16) (kI_elm (kR_elm ho)) 0) gw_41_18 gm_J7_fill_53178 gd_J7_fill_53178 rfl rfl ⟨Nat.le_of_ble_eq_true rfl, Nat.le_of_ble_eq_true rfl⟩ ⟨Nat.le_refl _, Nat.le_refl _⟩ hP (fun _ h => h) hS rfl hl.1 rfl (Nat.le_of_ble_eq_true rfl) dX5_holdRow_20 (fun M_6 H locs hF_5 hP hS => ?_)
  have he := bnd_at he hF_5.symm
  exact hret _ _ _ _ _ (hV.trans he.symm) hP hS dX5_holdRow_23
def rm_X6_row : Room := { frames := 2, cells := 0, slots := 0, locals := 45 }
theorem gm_X6_row : Cond.instanceMethod yX6_row ∈ wsL_law ∧ Cond.selects RX6 yX6_row yX6_row ∈ wsL_law ∧ Cond.initialized RX6 ∈ wsL_law ∧ Cond.code yX6_row cX6_row 5 (some .int) ∈ wsL_law := ⟨gw_41_11, gw_41_12, gw_1_2, gw_41_13⟩
theorem gd_X6_row : yX6_row.cls = RX6 ∧ yX6_row.cls ≠ "java/lang/invoke/MethodHandle" ∧ yX6_row.cls ≠ "java/lang/invoke/VarHandle" ∧ (parseMethodDescriptor yX6_row.desc).map (fun d => d.parameters.length) = some 3 := by decide +kernel
set_option maxRecDepth 100000 in
set_option maxHeartbeats 0 in
theorem c_X6_row {l : Launch} {D : va_G} {k : Nat → ClassId} {ad : Nat → Nat} (had : InjN 74 ad) (M : Mem) (a1 : Int32) (a2 : Int32) (a3 : Int32) : Met l yX6_row (Cond.code yX6_row cX6_row 5 (some .int) :: wsL_law) rm_X6_row (va_Pc [.ref (ad 0), .int a1, .int a2, .int a3] (GW 74 ad D k (cC ad k M))) (va_Qi (fun r u => f_X6_row M a1 a2 a3 = (r, u)) (fun u t => GW 74 ad D k (cC ad k u) t) (AW 74 ad)) 0 0 (AW 74 ad) := by
  refine met_i (g := cC ad k) (M := M) (plainFor_of_name (by decide)) (Nat.le_of_ble_eq_true rfl) ?_
  intro p e s m args below meth c Q ls hx hb hml hG hown hK hret hP hS hl
  have hl : lv_has ls 5 [(0, .ref (ad 0)), (1, .int a1), (2, .int a2), (3, .int a3)] := hl
  obtain ⟨V, hV⟩ : ∃ V, f_X6_row M a1 a2 a3 = V := ⟨_, rfl⟩
  have he := hV
  unfold f_X6_row at he
  refine lv_aload_n hx hb dX6_row_0 rfl (lv_at hl 0 rfl) ?_
  refine lv_iload_n hx hb dX6_row_1 rfl (lv_at hl 1 rfl) ?_
  refine call_e [.int a1] [] hx hb hml hG hown hK (c_X6_shelfAt had M a1) gw_7_22 gm_X6_shelfAt gd_X6_shelfAt rfl rfl ⟨Nat.le_of_ble_eq_true rfl, Nat.le_of_ble_eq_true rfl⟩ ⟨Nat.le_refl _, Nat.le_refl _⟩ (rX6 hK hP rfl) hP (fun _ h => h) hS rfl hl.1 rfl (Nat.le_of_ble_eq_true rfl) dX6_row_2 (fun r_1 u_3 H locs hF_2 hP hS => ?_)
  obtain ⟨hz_4, hF_2, hu⟩ := hF_2; rw [hu] at hP
  rcases r_1 with _ | b_5
  · have he := oel_n he hF_2
    refine lv_astoreN (lv' := [(4, .null), (0, .ref (ad 0)), (1, .int a1), (2, .int a2), (3, .int a3)]) hx hb dX6_row_5 hl (by decide) rfl (fun ls hl => ?_)
    refine lv_aloadN hx hb dX6_row_7 (lv_at hl 0 rfl) ?_
    refine lv_ifnullN (tgt := 27) hx hb dX6_row_9 (by decide) ?_
    refine lv_iconst (v := (-1)) hx hb dX6_row_27 (by decide) ?_
    exact hret _ _ _ _ _ _ (hV.trans he.symm) hP hS dX6_row_28
  · have he := oel_s he hF_2
    refine lv_astore (lv' := [(4, .ref (ad b_5)), (0, .ref (ad 0)), (1, .int a1), (2, .int a2), (3, .int a3)]) hx hb dX6_row_5 hl (by decide) rfl (fun ls hl => ?_)
    refine lv_aload hx hb dX6_row_7 (lv_at hl 0 rfl) ?_
    refine lv_ifnull hx hb dX6_row_9 ?_
    refine lv_iload_n hx hb dX6_row_12 rfl (lv_at hl 3 rfl) ?_
    refine lv_if_lt (tgt := 27) hx hb dX6_row_13 (by decide) (fun hc_6 => ?_) (fun hc_6 => ?_)
    · have he := ite_t he hc_6
      refine lv_iconst (v := (-1)) hx hb dX6_row_27 (by decide) ?_
      exact hret _ _ _ _ _ _ (hV.trans he.symm) hP hS dX6_row_28
    · have he := ite_f he hc_6
      refine lv_iload_n hx hb dX6_row_16 rfl (lv_at hl 3 rfl) ?_
      refine lv_iconst (v := 2) hx hb dX6_row_17 (by decide) ?_
      refine lv_icmp_gt (tgt := 27) hx hb dX6_row_18 (by decide) (fun hc_7 => ?_) (fun hc_7 => ?_)
      · have he := ite_t he hc_7
        refine lv_iconst (v := (-1)) hx hb dX6_row_27 (by decide) ?_
        exact hret _ _ _ _ _ _ (hV.trans he.symm) hP hS dX6_row_28
      · have he := ite_f he hc_7
        refine lv_iload_n hx hb dX6_row_21 rfl (lv_at hl 4 rfl) ?_
        refine lv_bipush (v := 100) hx hb dX6_row_22 (by decide) ?_
        refine lv_icmp_le (tgt := 29) hx hb dX6_row_24 (by decide) (fun hc_8 => ?_) (fun hc_8 => ?_)
        · have he := ite_t he hc_8
          refine lv_iload_n hx hb dX6_row_29 rfl (lv_at hl 4 rfl) ?_
          refine lv_if_ge (tgt := 36) hx hb dX6_row_30 (by decide) (fun hc_9 => ?_) (fun hc_9 => ?_)
          · have he := ite_t he hc_9
            refine lv_aload hx hb dX6_row_36 (lv_at hl 0 rfl) ?_
            refine lv_iload_n hx hb dX6_row_38 rfl (lv_at hl 3 rfl) ?_
            refine lv_iload_n hx hb dX6_row_39 rfl (lv_at hl 4 rfl) ?_
            refine call_v [.int a2, .int a3] [] hx hb hml hG hown hK (c_X5_holdRow had M b_5 (hz_4 _ rfl) a2 a3) gw_41_14 gm_X5_holdRow gd_X5_holdRow rfl rfl ⟨Nat.le_of_ble_eq_true rfl, Nat.le_of_ble_eq_true rfl⟩ ⟨Nat.le_refl _, Nat.le_refl _⟩ (rX5 hK hP (hz_4 _ rfl)) hP (fun _ h => h) hS rfl hl.1 rfl (Nat.le_of_ble_eq_true rfl) dX6_row_40 (fun M_12 H locs hF_11 hP hS => ?_)
            have he := bnd_at he hF_11.symm
            refine lv_iconst (v := 0) hx hb dX6_row_43 (by decide) ?_
            exact hret _ _ _ _ _ _ (hV.trans he.symm) hP hS dX6_row_44
          · have he := ite_f he hc_9
            refine lv_bipush (v := (-14)) hx hb dX6_row_33 (by decide) ?_
            exact hret _ _ _ _ _ _ (hV.trans he.symm) hP hS dX6_row_35
        · have he := ite_f he hc_8
          refine lv_iconst (v := (-1)) hx hb dX6_row_27 (by decide) ?_
          exact hret _ _ _ _ _ _ (hV.trans he.symm) hP hS dX6_row_28
def rm_X5_narrowed : Room := { frames := 0, cells := 0, slots := 0, locals := 0 }
theorem gm_X5_narrowed : Cond.instanceMethod yX5_narrowed ∈ wsL_law ∧ Cond.selects RX5 yX5_narrowed yX5_narrowed ∈ wsL_law ∧ Cond.initialized RX5 ∈ wsL_law ∧ Cond.code yX5_narrowed cX5_narrowed 2 (some .int) ∈ wsL_law := ⟨gw_42_6, gw_42_7, gw_2_4, gw_42_8⟩
theorem gd_X5_narrowed : yX5_narrowed.cls = RX5 ∧ yX5_narrowed.cls ≠ "java/lang/invoke/MethodHandle" ∧ yX5_narrowed.cls ≠ "java/lang/invoke/VarHandle" ∧ (parseMethodDescriptor yX5_narrowed.desc).map (fun d => d.parameters.length) = some 1 := by decide +kernel
set_option maxRecDepth 100000 in
set_option maxHeartbeats 0 in
theorem c_X5_narrowed {l : Launch} {D : va_G} {k : Nat → ClassId} {ad : Nat → Nat} (had : InjN 74 ad) (M : Mem) (o : Nat) (ho : kShf o) (a1 : Int32) : Met l yX5_narrowed (Cond.code yX5_narrowed cX5_narrowed 2 (some .int) :: wsL_law) rm_X5_narrowed (va_Pc [.ref (ad o), .int a1] (GW 74 ad D k (cC ad k M))) (va_Qi (fun r u => f_X5_narrowed M o a1 = r ∧ u = M) (fun u t => GW 74 ad D k (cC ad k u) t) (AW 74 ad)) 0 0 (AW 74 ad) := by
  refine met_i (g := cC ad k) (M := M) (plainFor_of_name (by decide)) (Nat.le_of_ble_eq_true rfl) ?_
  intro p e s m args below meth c Q ls hx hb hml hG hown hK hret hP hS hl
  have hl : lv_has ls 2 [(0, .ref (ad o)), (1, .int a1)] := hl
  obtain ⟨V, hV⟩ : ∃ V, f_X5_narrowed M o a1 = V := ⟨_, rfl⟩
  have he := hV
  unfold f_X5_narrowed at he
  refine lv_aload_n hx hb dX5_narrowed_0 rfl (lv_at hl 0 rfl) ?_
  refine gX5_2 hx hb hG hown hK hP ho gw_8_6 dX5_narrowed_1 ?_
  by_cases hw_1 : M o 2 = 0
  · have he := ite_t he hw_1
    refine lv_lookup (off := 28) (tgt := 32) hx hb dX5_narrowed_4 (by decide +kernel) (by rw [hw_1]; first | done | rfl) (by decide) ?_
    refine lv_iload_n hx hb dX5_narrowed_32 rfl (lv_at hl 1 rfl) ?_
    refine lv_i2b (v := a1.toInt8.toInt32) hx hb dX5_narrowed_33 rfl ?_
    exact hret _ _ _ _ _ _ ⟨hV.trans he.symm, rfl⟩ hP hS dX5_narrowed_34
  · have he := ite_f he hw_1
    by_cases hw_2 : M o 2 = 1
    · have he := ite_t he hw_2
      refine lv_lookup (off := 31) (tgt := 35) hx hb dX5_narrowed_4 (by decide +kernel) (by rw [hw_2]; first | done | rfl) (by decide) ?_
      refine lv_iload_n hx hb dX5_narrowed_35 rfl (lv_at hl 1 rfl) ?_
      refine lv_i2s (v := a1.toInt16.toInt32) hx hb dX5_narrowed_36 rfl ?_
      exact hret _ _ _ _ _ _ ⟨hV.trans he.symm, rfl⟩ hP hS dX5_narrowed_37
    · have he := ite_f he hw_2
      refine lv_lookup (off := 34) (tgt := 38) hx hb dX5_narrowed_4 (by decide +kernel) (by show Op.lookupswitch.offset [(0, 28), (1, 31)] _ _ = _; rw [lv_osw (a := 0) hw_1 rfl]; rw [lv_osw (a := 1) hw_2 rfl]; first | done | rfl) (by decide) ?_
      refine lv_iload_n hx hb dX5_narrowed_38 rfl (lv_at hl 1 rfl) ?_
      exact hret _ _ _ _ _ _ ⟨hV.trans he.symm, rfl⟩ hP hS dX5_narrowed_39
def rm_X6_put : Room := { frames := 1, cells := 0, slots := 0, locals := 21 }
theorem gm_X6_put : Cond.instanceMethod yX6_put ∈ wsL_law ∧ Cond.selects RX6 yX6_put yX6_put ∈ wsL_law ∧ Cond.initialized RX6 ∈ wsL_law ∧ Cond.code yX6_put cX6_put 6 (some .int) ∈ wsL_law := ⟨gw_42_1, gw_42_2, gw_1_2, gw_42_3⟩
theorem gd_X6_put : yX6_put.cls = RX6 ∧ yX6_put.cls ≠ "java/lang/invoke/MethodHandle" ∧ yX6_put.cls ≠ "java/lang/invoke/VarHandle" ∧ (parseMethodDescriptor yX6_put.desc).map (fun d => d.parameters.length) = some 3 := by decide +kernel
set_option maxRecDepth 100000 in
set_option maxHeartbeats 0 in
theorem c_X6_put {l : Launch} {D : va_G} {k : Nat → ClassId} {ad : Nat → Nat} (had : InjN 74 ad) (M : Mem) (a1 : Int32) (a2 : Int32) (a3 : Int32) : Met l yX6_put (Cond.code yX6_put cX6_put 6 (some .int) :: wsL_law) rm_X6_put (va_Pc [.ref (ad 0), .int a1, .int a2, .int a3] (GW 74 ad D k (cC ad k M))) (va_Qi (fun r u => f_X6_put M a1 a2 a3 = (r, u)) (fun u t => GW 74 ad D k (cC ad k u) t) (AW 74 ad)) 0 0 (AW 74 ad) := by
  refine met_i (g := cC ad k) (M := M) (plainFor_of_name (by decide)) (Nat.le_of_ble_eq_true rfl) ?_
  intro p e s m args below meth c Q ls hx hb hml hG hown hK hret hP hS hl
  have hl : lv_has ls 6 [(0, .ref (ad 0)), (1, .int a1), (2, .int a2), (3, .int a3)] := hl
  obtain ⟨V, hV⟩ : ∃ V, f_X6_put M a1 a2 a3 = V := ⟨_, rfl⟩
  have he := hV
  unfold f_X6_put at he
  refine lv_aload_n hx hb dX6_put_0 rfl (lv_at hl 0 rfl) ?_
  refine lv_iload_n hx hb dX6_put_1 rfl (lv_at hl 1 rfl) ?_
  refine call_e [.int a1] [] hx hb hml hG hown hK (c_X6_shelfAt had M a1) gw_7_22 gm_X6_shelfAt gd_X6_shelfAt rfl rfl ⟨Nat.le_of_ble_eq_true rfl, Nat.le_of_ble_eq_true rfl⟩ ⟨Nat.le_refl _, Nat.le_refl _⟩ (rX6 hK hP rfl) hP (fun _ h => h) hS rfl hl.1 rfl (Nat.le_of_ble_eq_true rfl) dX6_put_2 (fun r_1 u_3 H locs hF_2 hP hS => ?_)
  obtain ⟨hz_4, hF_2, hu⟩ := hF_2; rw [hu] at hP
  rcases r_1 with _ | b_5
  · have he := oel_n he hF_2
    refine lv_astoreN (lv' := [(4, .null), (0, .ref (ad 0)), (1, .int a1), (2, .int a2), (3, .int a3)]) hx hb dX6_put_5 hl (by decide) rfl (fun ls hl => ?_)
    refine lv_aloadN hx hb dX6_put_7 (lv_at hl 0 rfl) ?_
    refine lv_ifnonnullN hx hb dX6_put_9 ?_
    refine lv_iconst (v := (-1)) hx hb dX6_put_12 (by decide) ?_
    exact hret _ _ _ _ _ _ (hV.trans he.symm) hP hS dX6_put_13
  · have he := oel_s he hF_2
    refine lv_astore (lv' := [(4, .ref (ad b_5)), (0, .ref (ad 0)), (1, .int a1), (2, .int a2), (3, .int a3)]) hx hb dX6_put_5 hl (by decide) rfl (fun ls hl => ?_)
    refine lv_aload hx hb dX6_put_7 (lv_at hl 0 rfl) ?_
    refine lv_ifnonnull (tgt := 14) hx hb dX6_put_9 (by decide) ?_
    refine lv_aload hx hb dX6_put_14 (lv_at hl 0 rfl) ?_
    refine call_i [] [] hx hb hml hG hown hK (c_X5_rowRefusal had M b_5 (hz_4 _ rfl)) gw_35_19 gm_X5_rowRefusal gd_X5_rowRefusal rfl rfl ⟨Nat.le_of_ble_eq_true rfl, Nat.le_of_ble_eq_true rfl⟩ ⟨Nat.le_refl _, Nat.le_refl _⟩ (rX5 hK hP (hz_4 _ rfl)) hP (fun _ h => h) hS rfl hl.1 rfl (Nat.le_of_ble_eq_true rfl) dX6_put_16 (fun r_6 u_8 H locs hF_7 hP hS => ?_)
    obtain ⟨hF_7, hu⟩ := hF_7; rw [hu] at hP; subst hF_7
    refine lv_topi (fun y_9 ey_9 => ?_)
    have he := bnd_at he ey_9
    refine lv_istore (lv' := [(5, .int y_9), (4, .ref (ad b_5)), (0, .ref (ad 0)), (1, .int a1), (2, .int a2), (3, .int a3)]) hx hb dX6_put_19 hl (by decide) rfl (fun ls hl => ?_)
    refine lv_iload hx hb dX6_put_21 (lv_at hl 0 rfl) ?_
    refine lv_if_eq (tgt := 29) hx hb dX6_put_23 (by decide) (fun hc_10 => ?_) (fun hc_10 => ?_)
    · have he := ite_t he hc_10
      refine lv_aload hx hb dX6_put_29 (lv_at hl 1 rfl) ?_
      refine lv_iload_n hx hb dX6_put_31 rfl (lv_at hl 4 rfl) ?_
      refine call_i [.int a2] [] hx hb hml hG hown hK (c_X5_hasPlace had M b_5 (hz_4 _ rfl) a2) gw_42_4 gm_X5_hasPlace gd_X5_hasPlace rfl rfl ⟨Nat.le_of_ble_eq_true rfl, Nat.le_of_ble_eq_true rfl⟩ ⟨Nat.le_refl _, Nat.le_refl _⟩ (rX5 hK hP (hz_4 _ rfl)) hP (fun _ h => h) hS rfl hl.1 rfl (Nat.le_of_ble_eq_true rfl) dX6_put_32 (fun r_11 u_13 H locs hF_12 hP hS => ?_)
      obtain ⟨hz_14, hF_12, hu⟩ := hF_12; rw [hu] at hP; subst hF_12
      refine lv_if_ne (tgt := 41) hx hb dX6_put_35 (by decide) (fun hc_15 => ?_) (fun hc_15 => ?_)
      · have he := ite_t he hc_15
        refine lv_aload hx hb dX6_put_41 (lv_at hl 1 rfl) ?_
        refine gX5_4 hx hb hG hown hK hP (hz_4 _ rfl) gw_7_20 dX6_put_43 ?_
        refine lv_iload_n hx hb dX6_put_46 rfl (lv_at hl 4 rfl) ?_
        refine lv_aload hx hb dX6_put_47 (lv_at hl 1 rfl) ?_
        refine lv_iload_n hx hb dX6_put_49 rfl (lv_at hl 5 rfl) ?_
        refine call_i [.int a3] [.int a2, .ref (ad (b_5 + 16))] hx hb hml hG hown hK (c_X5_narrowed had M b_5 (hz_4 _ rfl) a3) gw_42_5 gm_X5_narrowed gd_X5_narrowed rfl rfl ⟨Nat.le_of_ble_eq_true rfl, Nat.le_of_ble_eq_true rfl⟩ ⟨Nat.le_refl _, Nat.le_refl _⟩ (rX5 hK hP (hz_4 _ rfl)) hP (fun _ h => h) hS rfl hl.1 rfl (Nat.le_of_ble_eq_true rfl) dX6_put_50 (fun r_16 u_18 H locs hF_17 hP hS => ?_)
        obtain ⟨hF_17, hu⟩ := hF_17; rw [hu] at hP; subst hF_17
        refine as_kElm hx hb hK hP had AW_in hS (kR_elm (hz_4 _ rfl)) (place_in hc_15) dX6_put_53 (fun H locs hP hS => ?_)
        obtain ⟨M_19, eM_19⟩ : ∃ y : Mem, y = up2 M (b_5 + 16) a2.toNatClampNeg (f_X5_narrowed M b_5 a3) := ⟨_, rfl⟩
        rw [← eM_19] at hP
        have he := bnd_at he eM_19
        refine lv_iconst (v := 0) hx hb dX6_put_54 (by decide) ?_
        exact hret _ _ _ _ _ _ (hV.trans he.symm) hP hS dX6_put_55
      · have he := ite_f he (fun q => q hc_15)
        refine lv_bipush (v := (-13)) hx hb dX6_put_38 (by decide) ?_
        exact hret _ _ _ _ _ _ (hV.trans he.symm) hP hS dX6_put_40
    · have he := ite_f he hc_10
      refine lv_iload hx hb dX6_put_26 (lv_at hl 0 rfl) ?_
      exact hret _ _ _ _ _ _ (hV.trans he.symm) hP hS dX6_put_28
def rm_X5_hasStretch : Room := { frames := 0, cells := 0, slots := 0, locals := 0 }
theorem gm_X5_hasStretch : Cond.instanceMethod yX5_hasStretch ∈ wsL_law ∧ Cond.selects RX5 yX5_hasStretch yX5_hasStretch ∈ wsL_law ∧ Cond.initialized RX5 ∈ wsL_law ∧ Cond.code yX5_hasStretch cX5_hasStretch 3 (some .boolean) ∈ wsL_law := ⟨gw_43_21, gw_43_22, gw_2_4, gw_43_23⟩
theorem gd_X5_hasStretch : yX5_hasStretch.cls = RX5 ∧ yX5_hasStretch.cls ≠ "java/lang/invoke/MethodHandle" ∧ yX5_hasStretch.cls ≠ "java/lang/invoke/VarHandle" ∧ (parseMethodDescriptor yX5_hasStretch.desc).map (fun d => d.parameters.length) = some 2 := by decide +kernel
set_option maxRecDepth 100000 in
set_option maxHeartbeats 0 in
theorem c_X5_hasStretch {l : Launch} {D : va_G} {k : Nat → ClassId} {ad : Nat → Nat} (had : InjN 74 ad) (M : Mem) (o : Nat) (ho : kShf o) (a1 : Int32) (a2 : Int32) : Met l yX5_hasStretch (Cond.code yX5_hasStretch cX5_hasStretch 3 (some .boolean) :: wsL_law) rm_X5_hasStretch (va_Pc [.ref (ad o), .int a1, .int a2] (GW 74 ad D k (cC ad k M))) (va_Qi (fun r u => (r = 0 ∨ r = 1) ∧ f_X5_hasStretch M o a1 a2 = r ∧ u = M) (fun u t => GW 74 ad D k (cC ad k u) t) (AW 74 ad)) 0 0 (AW 74 ad) := by
  refine met_z (g := cC ad k) (M := M) (plainFor_of_name (by decide)) (Nat.le_of_ble_eq_true rfl) ?_
  intro p e s m args below meth c Q ls hx hb hml hG hown hK hret hP hS hl
  have hl : lv_has ls 3 [(0, .ref (ad o)), (1, .int a1), (2, .int a2)] := hl
  obtain ⟨V, hV⟩ : ∃ V, f_X5_hasStretch M o a1 a2 = V := ⟨_, rfl⟩
  have he := hV
  unfold f_X5_hasStretch at he
  refine lv_iload_n hx hb dX5_hasStretch_0 rfl (lv_at hl 1 rfl) ?_
  obtain ⟨t_6, hr_2, he⟩ := bnd_ex he
  have j31 : ∀ (H : Heap) (locs : List Loc) (ls : Array Slot), (t_6 = 0 ∨ t_6 = 1) → va_P D vwCl (wld 74 ad (cC ad k M)) H → va_S (AW 74 ad) s.heap H locs → lv_has ls 3 [] → W p l e rm_X5_hasStretch s m args below meth c H locs 0 0 Q (F0 m 31 ls [.int t_6]) := by
    intro H locs ls zt_6 hP hS hl
    exact hret _ _ _ _ _ _ ⟨zt_6, (hV.trans he.symm), rfl⟩ (nz01 zt_6) hP hS dX5_hasStretch_31
  refine lv_if_lt (tgt := 30) hx hb dX5_hasStretch_1 (by decide) (fun hc_1 => ?_) (fun hc_1 => ?_)
  · have hr_2 := ite_t hr_2 hc_1
    refine lv_iconst (v := 0) hx hb dX5_hasStretch_30 (by decide) ?_
    cases hr_2
    exact j31 _ _ _ (Or.inl rfl) hP hS (lv_sub hl [] rfl)
  · have hr_2 := ite_f hr_2 hc_1
    refine lv_iload_n hx hb dX5_hasStretch_4 rfl (lv_at hl 1 rfl) ?_
    refine lv_aload_n hx hb dX5_hasStretch_5 rfl (lv_at hl 0 rfl) ?_
    refine gX5_3 hx hb hG hown hK hP ho gw_36_0 dX5_hasStretch_6 ?_
    refine lv_icmp_gt (tgt := 30) hx hb dX5_hasStretch_9 (by decide) (fun hc_3 => ?_) (fun hc_3 => ?_)
    · have hr_2 := ite_t hr_2 hc_3
      refine lv_iconst (v := 0) hx hb dX5_hasStretch_30 (by decide) ?_
      cases hr_2
      exact j31 _ _ _ (Or.inl rfl) hP hS (lv_sub hl [] rfl)
    · have hr_2 := ite_f hr_2 hc_3
      refine lv_iload_n hx hb dX5_hasStretch_12 rfl (lv_at hl 2 rfl) ?_
      refine lv_if_lt (tgt := 30) hx hb dX5_hasStretch_13 (by decide) (fun hc_4 => ?_) (fun hc_4 => ?_)
      · have hr_2 := ite_t hr_2 hc_4
        refine lv_iconst (v := 0) hx hb dX5_hasStretch_30 (by decide) ?_
        cases hr_2
        exact j31 _ _ _ (Or.inl rfl) hP hS (lv_sub hl [] rfl)
      · have hr_2 := ite_f hr_2 hc_4
        refine lv_iload_n hx hb dX5_hasStretch_16 rfl (lv_at hl 2 rfl) ?_
        refine lv_aload_n hx hb dX5_hasStretch_17 rfl (lv_at hl 0 rfl) ?_
        refine gX5_3 hx hb hG hown hK hP ho gw_36_0 dX5_hasStretch_18 ?_
        refine lv_iload_n hx hb dX5_hasStretch_21 rfl (lv_at hl 1 rfl) ?_
        refine lv_isub hx hb dX5_hasStretch_22 ?_
        refine lv_icmp_gt (tgt := 30) hx hb dX5_hasStretch_23 (by decide) (fun hc_5 => ?_) (fun hc_5 => ?_)
        · have hr_2 := ite_t hr_2 hc_5
          refine lv_iconst (v := 0) hx hb dX5_hasStretch_30 (by decide) ?_
          cases hr_2
          exact j31 _ _ _ (Or.inl rfl) hP hS (lv_sub hl [] rfl)
        · have hr_2 := ite_f hr_2 hc_5
          refine lv_iconst (v := 1) hx hb dX5_hasStretch_26 (by decide) ?_
          refine lv_goto (tgt := 31) hx hb dX5_hasStretch_27 (by decide) ?_
          cases hr_2
          exact j31 _ _ _ (Or.inr rfl) hP hS (lv_sub hl [] rfl)
def rm_X6_copy : Room := { frames := 1, cells := 0, slots := 0, locals := 40 }
theorem gm_X6_copy : Cond.instanceMethod yX6_copy ∈ wsL_law ∧ Cond.selects RX6 yX6_copy yX6_copy ∈ wsL_law ∧ Cond.initialized RX6 ∈ wsL_law ∧ Cond.code yX6_copy cX6_copy 8 (some .int) ∈ wsL_law := ⟨gw_43_15, gw_43_16, gw_1_2, gw_43_17⟩
theorem gd_X6_copy : yX6_copy.cls = RX6 ∧ yX6_copy.cls ≠ "java/lang/invoke/MethodHandle" ∧ yX6_copy.cls ≠ "java/lang/invoke/VarHandle" ∧ (parseMethodDescriptor yX6_copy.desc).map (fun d => d.parameters.length) = some 5 := by decide +kernel
set_option maxRecDepth 100000 in
set_option maxHeartbeats 0 in
theorem c_X6_copy {l : Launch} {D : va_G} {k : Nat → ClassId} {ad : Nat → Nat} (had : InjN 74 ad) (M : Mem) (a1 : Int32) (a2 : Int32) (a3 : Int32) (a4 : Int32) (a5 : Int32) (hsz : ∀ i : Nat, kShf i → 0 ≤ (M i 3).toInt ∧ (M i 3).toInt ≤ 100) : Met l yX6_copy (Cond.code yX6_copy cX6_copy 8 (some .int) :: wsL_law) rm_X6_copy (va_Pc [.ref (ad 0), .int a1, .int a2, .int a3, .int a4, .int a5] (GW 74 ad D k (cC ad k M))) (va_Qi (fun r u => f_X6_copy M a1 a2 a3 a4 a5 = (r, u)) (fun u t => GW 74 ad D k (cC ad k u) t) (AW 74 ad)) 0 0 (AW 74 ad) := by
  refine met_i (g := cC ad k) (M := M) (plainFor_of_name (by decide)) (Nat.le_of_ble_eq_true rfl) ?_
  intro p e s m args below meth c Q ls hx hb hml hG hown hK hret hP hS hl
  have hl : lv_has ls 8 [(0, .ref (ad 0)), (1, .int a1), (2, .int a2), (3, .int a3), (4, .int a4), (5, .int a5)] := hl
  obtain ⟨V, hV⟩ : ∃ V, f_X6_copy M a1 a2 a3 a4 a5 = V := ⟨_, rfl⟩
  have he := hV
  unfold f_X6_copy at he
  refine lv_aload_n hx hb dX6_copy_0 rfl (lv_at hl 0 rfl) ?_
  refine lv_iload_n hx hb dX6_copy_1 rfl (lv_at hl 1 rfl) ?_
  refine call_e [.int a1] [] hx hb hml hG hown hK (c_X6_shelfAt had M a1) gw_7_22 gm_X6_shelfAt gd_X6_shelfAt rfl rfl ⟨Nat.le_of_ble_eq_true rfl, Nat.le_of_ble_eq_true rfl⟩ ⟨Nat.le_refl _, Nat.le_refl _⟩ (rX6 hK hP rfl) hP (fun _ h => h) hS rfl hl.1 rfl (Nat.le_of_ble_eq_true rfl) dX6_copy_2 (fun r_1 u_3 H locs hF_2 hP hS => ?_)
  obtain ⟨hz_4, hF_2, hu⟩ := hF_2; rw [hu] at hP
  rcases r_1 with _ | b_5
  · have he := oel_n he hF_2
    refine lv_astoreN (lv' := [(6, .null), (0, .ref (ad 0)), (1, .int a1), (2, .int a2), (3, .int a3), (4, .int a4), (5, .int a5)]) hx hb dX6_copy_5 hl (by decide) rfl (fun ls hl => ?_)
    refine lv_aload_n hx hb dX6_copy_7 rfl (lv_at hl 1 rfl) ?_
    refine lv_iload_n hx hb dX6_copy_8 rfl (lv_at hl 4 rfl) ?_
    refine call_e [.int a3] [] hx hb hml hG hown hK (c_X6_shelfAt had M a3) gw_7_22 gm_X6_shelfAt gd_X6_shelfAt rfl rfl ⟨Nat.le_of_ble_eq_true rfl, Nat.le_of_ble_eq_true rfl⟩ ⟨Nat.le_refl _, Nat.le_refl _⟩ (rX6 hK hP rfl) hP (fun _ h => h) hS rfl hl.1 rfl (Nat.le_of_ble_eq_true rfl) dX6_copy_9 (fun r_6 u_8 H locs hF_7 hP hS => ?_)
    obtain ⟨hz_9, hF_7, hu⟩ := hF_7; rw [hu] at hP
    rcases r_6 with _ | b_10
    · have he := oel_n he hF_7
      refine lv_astoreN (lv' := [(7, .null), (6, .null), (0, .ref (ad 0)), (1, .int a1), (2, .int a2), (3, .int a3), (4, .int a4), (5, .int a5)]) hx hb dX6_copy_12 hl (by decide) rfl (fun ls hl => ?_)
      refine lv_aloadN hx hb dX6_copy_14 (lv_at hl 1 rfl) ?_
      refine lv_ifnullN (tgt := 24) hx hb dX6_copy_16 (by decide) ?_
      refine lv_iconst (v := (-1)) hx hb dX6_copy_24 (by decide) ?_
      exact hret _ _ _ _ _ _ (hV.trans he.symm) hP hS dX6_copy_25
    · have he := oel_s he hF_7
      refine lv_astore (lv' := [(7, .ref (ad b_10)), (6, .null), (0, .ref (ad 0)), (1, .int a1), (2, .int a2), (3, .int a3), (4, .int a4), (5, .int a5)]) hx hb dX6_copy_12 hl (by decide) rfl (fun ls hl => ?_)
      refine lv_aloadN hx hb dX6_copy_14 (lv_at hl 1 rfl) ?_
      refine lv_ifnullN (tgt := 24) hx hb dX6_copy_16 (by decide) ?_
      refine lv_iconst (v := (-1)) hx hb dX6_copy_24 (by decide) ?_
      exact hret _ _ _ _ _ _ (hV.trans he.symm) hP hS dX6_copy_25
  · have he := oel_s he hF_2
    refine lv_astore (lv' := [(6, .ref (ad b_5)), (0, .ref (ad 0)), (1, .int a1), (2, .int a2), (3, .int a3), (4, .int a4), (5, .int a5)]) hx hb dX6_copy_5 hl (by decide) rfl (fun ls hl => ?_)
    refine lv_aload_n hx hb dX6_copy_7 rfl (lv_at hl 1 rfl) ?_
    refine lv_iload_n hx hb dX6_copy_8 rfl (lv_at hl 4 rfl) ?_
    refine call_e [.int a3] [] hx hb hml hG hown hK (c_X6_shelfAt had M a3) gw_7_22 gm_X6_shelfAt gd_X6_shelfAt rfl rfl ⟨Nat.le_of_ble_eq_true rfl, Nat.le_of_ble_eq_true rfl⟩ ⟨Nat.le_refl _, Nat.le_refl _⟩ (rX6 hK hP rfl) hP (fun _ h => h) hS rfl hl.1 rfl (Nat.le_of_ble_eq_true rfl) dX6_copy_9 (fun r_11 u_13 H locs hF_12 hP hS => ?_)
    obtain ⟨hz_14, hF_12, hu⟩ := hF_12; rw [hu] at hP
    rcases r_11 with _ | b_15
    · have he := oel_n he hF_12
      refine lv_astoreN (lv' := [(7, .null), (6, .ref (ad b_5)), (0, .ref (ad 0)), (1, .int a1), (2, .int a2), (3, .int a3), (4, .int a4), (5, .int a5)]) hx hb dX6_copy_12 hl (by decide) rfl (fun ls hl => ?_)
      refine lv_aload hx hb dX6_copy_14 (lv_at hl 1 rfl) ?_
      refine lv_ifnull hx hb dX6_copy_16 ?_
      refine lv_aloadN hx hb dX6_copy_19 (lv_at hl 0 rfl) ?_
      refine lv_ifnonnullN hx hb dX6_copy_21 ?_
      refine lv_iconst (v := (-1)) hx hb dX6_copy_24 (by decide) ?_
      exact hret _ _ _ _ _ _ (hV.trans he.symm) hP hS dX6_copy_25
    · have he := oel_s he hF_12
      refine lv_astore (lv' := [(7, .ref (ad b_15)), (6, .ref (ad b_5)), (0, .ref (ad 0)), (1, .int a1), (2, .int a2), (3, .int a3), (4, .int a4), (5, .int a5)]) hx hb dX6_copy_12 hl (by decide) rfl (fun ls hl => ?_)
      refine lv_aload hx hb dX6_copy_14 (lv_at hl 1 rfl) ?_
      refine lv_ifnull hx hb dX6_copy_16 ?_
      refine lv_aload hx hb dX6_copy_19 (lv_at hl 0 rfl) ?_
      refine lv_ifnonnull (tgt := 26) hx hb dX6_copy_21 (by decide) ?_
      refine lv_aload hx hb dX6_copy_26 (lv_at hl 1 rfl) ?_
      refine gX5_0 hx hb hG hown hK hP (hz_4 _ rfl) gw_40_20 dX6_copy_28 ?_
      refine lv_if_eq (tgt := 42) hx hb dX6_copy_31 (by decide) (fun hc_16 => ?_) (fun hc_16 => ?_)
      · have he := ite_t he hc_16
        refine lv_bipush (v := (-11)) hx hb dX6_copy_42 (by decide) ?_
        exact hret _ _ _ _ _ _ (hV.trans he.symm) hP hS dX6_copy_44
      · have he := ite_f he hc_16
        refine lv_aload hx hb dX6_copy_34 (lv_at hl 0 rfl) ?_
        refine gX5_0 hx hb hG hown hK hP (hz_14 _ rfl) gw_40_20 dX6_copy_36 ?_
        refine lv_if_ne (tgt := 45) hx hb dX6_copy_39 (by decide) (fun hc_17 => ?_) (fun hc_17 => ?_)
        · have he := ite_t he hc_17
          refine lv_aload hx hb dX6_copy_45 (lv_at hl 1 rfl) ?_
          refine gX5_0 hx hb hG hown hK hP (hz_4 _ rfl) gw_40_20 dX6_copy_47 ?_
          refine lv_iconst (v := 2) hx hb dX6_copy_50 (by decide) ?_
          refine lv_icmp_ne (tgt := 76) hx hb dX6_copy_51 (by decide) (fun hc_18 => ?_) (fun hc_18 => ?_)
          · have he := ite_t he hc_18
            refine lv_bipush (v := (-12)) hx hb dX6_copy_76 (by decide) ?_
            exact hret _ _ _ _ _ _ (hV.trans he.symm) hP hS dX6_copy_78
          · have he := ite_f he (fun q => q hc_18)
            refine lv_aload hx hb dX6_copy_54 (lv_at hl 0 rfl) ?_
            refine gX5_0 hx hb hG hown hK hP (hz_14 _ rfl) gw_40_20 dX6_copy_56 ?_
            refine lv_iconst (v := 2) hx hb dX6_copy_59 (by decide) ?_
            refine lv_icmp_ne (tgt := 76) hx hb dX6_copy_60 (by decide) (fun hc_19 => ?_) (fun hc_19 => ?_)
            · have he := ite_t he hc_19
              refine lv_bipush (v := (-12)) hx hb dX6_copy_76 (by decide) ?_
              exact hret _ _ _ _ _ _ (hV.trans he.symm) hP hS dX6_copy_78
            · have he := ite_f he (fun q => q hc_19)
              refine lv_aload hx hb dX6_copy_63 (lv_at hl 1 rfl) ?_
              refine gX5_2 hx hb hG hown hK hP (hz_4 _ rfl) gw_43_18 dX6_copy_65 ?_
              refine lv_aload hx hb dX6_copy_68 (lv_at hl 0 rfl) ?_
              refine gX5_2 hx hb hG hown hK hP (hz_14 _ rfl) gw_43_18 dX6_copy_70 ?_
              refine lv_icmp_eq (tgt := 79) hx hb dX6_copy_73 (by decide) (fun hc_20 => ?_) (fun hc_20 => ?_)
              · have he := ite_t he hc_20
                refine lv_aload hx hb dX6_copy_79 (lv_at hl 1 rfl) ?_
                refine lv_iload_n hx hb dX6_copy_81 rfl (lv_at hl 4 rfl) ?_
                refine lv_iload hx hb dX6_copy_82 (lv_at hl 7 rfl) ?_
                refine call_i [.int a2, .int a5] [] hx hb hml hG hown hK (c_X5_hasStretch had M b_5 (hz_4 _ rfl) a2 a5) gw_43_20 gm_X5_hasStretch gd_X5_hasStretch rfl rfl ⟨Nat.le_of_ble_eq_true rfl, Nat.le_of_ble_eq_true rfl⟩ ⟨Nat.le_refl _, Nat.le_refl _⟩ (rX5 hK hP (hz_4 _ rfl)) hP (fun _ h => h) hS rfl hl.1 rfl (Nat.le_of_ble_eq_true rfl) dX6_copy_84 (fun r_21 u_23 H locs hF_22 hP hS => ?_)
                obtain ⟨hz_24, hF_22, hu⟩ := hF_22; rw [hu] at hP; subst hF_22
                refine lv_if_eq (tgt := 102) hx hb dX6_copy_87 (by decide) (fun hc_25 => ?_) (fun hc_25 => ?_)
                · have he := ite_t he hc_25
                  refine lv_bipush (v := (-13)) hx hb dX6_copy_102 (by decide) ?_
                  exact hret _ _ _ _ _ _ (hV.trans he.symm) hP hS dX6_copy_104
                · have he := ite_f he hc_25
                  refine lv_aload hx hb dX6_copy_90 (lv_at hl 0 rfl) ?_
                  refine lv_iload hx hb dX6_copy_92 (lv_at hl 6 rfl) ?_
                  refine lv_iload hx hb dX6_copy_94 (lv_at hl 7 rfl) ?_
                  refine call_i [.int a4, .int a5] [] hx hb hml hG hown hK (c_X5_hasStretch had M b_15 (hz_14 _ rfl) a4 a5) gw_43_20 gm_X5_hasStretch gd_X5_hasStretch rfl rfl ⟨Nat.le_of_ble_eq_true rfl, Nat.le_of_ble_eq_true rfl⟩ ⟨Nat.le_refl _, Nat.le_refl _⟩ (rX5 hK hP (hz_14 _ rfl)) hP (fun _ h => h) hS rfl hl.1 rfl (Nat.le_of_ble_eq_true rfl) dX6_copy_96 (fun r_26 u_28 H locs hF_27 hP hS => ?_)
                  obtain ⟨hz_29, hF_27, hu⟩ := hF_27; rw [hu] at hP; subst hF_27
                  refine lv_if_ne (tgt := 105) hx hb dX6_copy_99 (by decide) (fun hc_30 => ?_) (fun hc_30 => ?_)
                  · have he := ite_t he hc_30
                    refine lv_aload hx hb dX6_copy_105 (lv_at hl 1 rfl) ?_
                    refine gX5_4 hx hb hG hown hK hP (hz_4 _ rfl) gw_7_20 dX6_copy_107 ?_
                    refine lv_iload_n hx hb dX6_copy_110 rfl (lv_at hl 4 rfl) ?_
                    refine lv_aload hx hb dX6_copy_111 (lv_at hl 0 rfl) ?_
                    refine gX5_4 hx hb hG hown hK hP (hz_14 _ rfl) gw_7_20 dX6_copy_113 ?_
                    refine lv_iload hx hb dX6_copy_116 (lv_at hl 6 rfl) ?_
                    refine lv_iload hx hb dX6_copy_118 (lv_at hl 7 rfl) ?_
                    refine w_copy hx hb hml hG hown gw_43_19 hK hP had AW_in hS (kA_elm (kR_elm (hz_4 _ rfl))) (kA_elm (kR_elm (hz_14 _ rfl))) (stretch_ok hc_25 (hsz _ ((hz_4 _ rfl)))).1 (stretch_ok hc_30 (hsz _ ((hz_14 _ rfl)))).1 (stretch_ok hc_25 (hsz _ ((hz_4 _ rfl)))).2.1 (stretch_ok hc_25 (hsz _ ((hz_4 _ rfl)))).2.2 (stretch_ok hc_30 (hsz _ ((hz_14 _ rfl)))).2.2 (Nat.le_of_ble_eq_true rfl) (Nat.le_of_ble_eq_true rfl) hl.1 dX6_copy_120 (fun H locs hP hS => ?_)
                    obtain ⟨M_31, eM_31⟩ : ∃ y : Mem, y = cpM M (b_5 + 16) (b_15 + 16) a2 a4 a5 := ⟨_, rfl⟩
                    rw [← eM_31] at hP
                    have he := bnd_at he eM_31
                    refine lv_iload hx hb dX6_copy_123 (lv_at hl 7 rfl) ?_
                    exact hret _ _ _ _ _ _ (hV.trans he.symm) hP hS dX6_copy_125
                  · have he := ite_f he (fun q => q hc_30)
                    refine lv_bipush (v := (-13)) hx hb dX6_copy_102 (by decide) ?_
                    exact hret _ _ _ _ _ _ (hV.trans he.symm) hP hS dX6_copy_104
              · have he := ite_f he hc_20
                refine lv_bipush (v := (-12)) hx hb dX6_copy_76 (by decide) ?_
                exact hret _ _ _ _ _ _ (hV.trans he.symm) hP hS dX6_copy_78
        · have he := ite_f he (fun q => q hc_17)
          refine lv_bipush (v := (-11)) hx hb dX6_copy_42 (by decide) ?_
          exact hret _ _ _ _ _ _ (hV.trans he.symm) hP hS dX6_copy_44
def rm_X5_sailorRefusal : Room := { frames := 0, cells := 0, slots := 0, locals := 0 }
theorem gm_X5_sailorRefusal : Cond.instanceMethod yX5_sailorRefusal ∈ wsL_law ∧ Cond.selects RX5 yX5_sailorRefusal yX5_sailorRefusal ∈ wsL_law ∧ Cond.initialized RX5 ∈ wsL_law ∧ Cond.code yX5_sailorRefusal cX5_sailorRefusal 1 (some .int) ∈ wsL_law := ⟨gw_44_11, gw_44_12, gw_2_4, gw_44_13⟩
theorem gd_X5_sailorRefusal : yX5_sailorRefusal.cls = RX5 ∧ yX5_sailorRefusal.cls ≠ "java/lang/invoke/MethodHandle" ∧ yX5_sailorRefusal.cls ≠ "java/lang/invoke/VarHandle" ∧ (parseMethodDescriptor yX5_sailorRefusal.desc).map (fun d => d.parameters.length) = some 0 := by decide +kernel
set_option maxRecDepth 100000 in
set_option maxHeartbeats 0 in
theorem c_X5_sailorRefusal {l : Launch} {D : va_G} {k : Nat → ClassId} {ad : Nat → Nat} (had : InjN 74 ad) (M : Mem) (o : Nat) (ho : kShf o) : Met l yX5_sailorRefusal (Cond.code yX5_sailorRefusal cX5_sailorRefusal 1 (some .int) :: wsL_law) rm_X5_sailorRefusal (va_Pc [.ref (ad o)] (GW 74 ad D k (cC ad k M))) (va_Qi (fun r u => f_X5_sailorRefusal M o = r ∧ u = M) (fun u t => GW 74 ad D k (cC ad k u) t) (AW 74 ad)) 0 0 (AW 74 ad) := by
  refine met_i (g := cC ad k) (M := M) (plainFor_of_name (by decide)) (Nat.le_of_ble_eq_true rfl) ?_
  intro p e s m args below meth c Q ls hx hb hml hG hown hK hret hP hS hl
  have hl : lv_has ls 1 [(0, .ref (ad o))] := hl
  obtain ⟨V, hV⟩ : ∃ V, f_X5_sailorRefusal M o = V := ⟨_, rfl⟩
  have he := hV
  unfold f_X5_sailorRefusal at he
  refine lv_aload_n hx hb dX5_sailorRefusal_0 rfl (lv_at hl 0 rfl) ?_
  refine gX5_0 hx hb hG hown hK hP ho gw_4_2 dX5_sailorRefusal_1 ?_
  refine lv_if_ne (tgt := 10) hx hb dX5_sailorRefusal_4 (by decide) (fun hc_1 => ?_) (fun hc_1 => ?_)
  · have he := ite_t he hc_1
    refine lv_aload_n hx hb dX5_sailorRefusal_10 rfl (lv_at hl 0 rfl) ?_
    refine gX5_0 hx hb hG hown hK hP ho gw_4_2 dX5_sailorRefusal_11 ?_
    refine lv_iconst (v := 1) hx hb dX5_sailorRefusal_14 (by decide) ?_
    obtain ⟨t_4, hr_3, he⟩ := bnd_ex he
    have j24 : ∀ (H : Heap) (locs : List Loc) (ls : Array Slot), va_P D vwCl (wld 74 ad (cC ad k M)) H → va_S (AW 74 ad) s.heap H locs → lv_has ls 1 [] → W p l e rm_X5_sailorRefusal s m args below meth c H locs 0 0 Q (F0 m 24 ls [.int t_4]) := by
      intro H locs ls hP hS hl
      exact hret _ _ _ _ _ _ ⟨hV.trans he.symm, rfl⟩ hP hS dX5_sailorRefusal_24
    refine lv_icmp_ne (tgt := 22) hx hb dX5_sailorRefusal_15 (by decide) (fun hc_2 => ?_) (fun hc_2 => ?_)
    · have hr_3 := ite_t hr_3 hc_2
      refine lv_bipush (v := (-12)) hx hb dX5_sailorRefusal_22 (by decide) ?_
      cases hr_3
      exact j24 _ _ _ hP hS (lv_sub hl [] rfl)
    · have hr_3 := ite_f hr_3 (fun q => q hc_2)
      refine lv_iconst (v := 0) hx hb dX5_sailorRefusal_18 (by decide) ?_
      refine lv_goto (tgt := 24) hx hb dX5_sailorRefusal_19 (by decide) ?_
      cases hr_3
      exact j24 _ _ _ hP hS (lv_sub hl [] rfl)
  · have he := ite_f he (fun q => q hc_1)
    refine lv_bipush (v := (-11)) hx hb dX5_sailorRefusal_7 (by decide) ?_
    exact hret _ _ _ _ _ _ ⟨hV.trans he.symm, rfl⟩ hP hS dX5_sailorRefusal_9
def rm_X4_skilled : Room := { frames := 0, cells := 0, slots := 0, locals := 0 }
theorem gm_X4_skilled : Cond.instanceMethod yX4_skilled ∈ wsL_law ∧ Cond.selects RX4 yX4_skilled yX4_skilled ∈ wsL_law ∧ Cond.initialized RX4 ∈ wsL_law ∧ Cond.code yX4_skilled cX4_skilled 1 (some .int) ∈ wsL_law := ⟨gw_44_15, gw_44_16, gw_3_17, gw_44_17⟩
theorem gd_X4_skilled : yX4_skilled.cls = RX4 ∧ yX4_skilled.cls ≠ "java/lang/invoke/MethodHandle" ∧ yX4_skilled.cls ≠ "java/lang/invoke/VarHandle" ∧ (parseMethodDescriptor yX4_skilled.desc).map (fun d => d.parameters.length) = some 0 := by decide +kernel
set_option maxRecDepth 100000 in
set_option maxHeartbeats 0 in
theorem c_X4_skilled {l : Launch} {D : va_G} {k : Nat → ClassId} {ad : Nat → Nat} (had : InjN 74 ad) (M : Mem) (o : Nat) (ho : kSlr o) : Met l yX4_skilled (Cond.code yX4_skilled cX4_skilled 1 (some .int) :: wsL_law) rm_X4_skilled (va_Pc [.ref (ad o)] (GW 74 ad D k (cC ad k M))) (va_Qi (fun r u => f_X4_skilled M o = r ∧ u = M) (fun u t => GW 74 ad D k (cC ad k u) t) (AW 74 ad)) 0 0 (AW 74 ad) := by
  refine met_i (g := cC ad k) (M := M) (plainFor_of_name (by decide)) (Nat.le_of_ble_eq_true rfl) ?_
  intro p e s m args below meth c Q ls hx hb hml hG hown hK hret hP hS hl
  have hl : lv_has ls 1 [(0, .ref (ad o))] := hl
  obtain ⟨V, hV⟩ : ∃ V, f_X4_skilled M o = V := ⟨_, rfl⟩
  have he := hV
  unfold f_X4_skilled at he
  refine lv_aload_n hx hb dX4_skilled_0 rfl (lv_at hl 0 rfl) ?_
  refine gX4_0 hx hb hG hown hK hP ho gw_14_13 dX4_skilled_1 ?_
  by_cases hw_1 : M o 0 = 1
  · have he := ite_t he hw_1
    refine lv_tableIn (tgt := 48) hx hb dX4_skilled_4 (by rw [hw_1]; decide) (by rw [hw_1]; decide) (by rw [hw_1]; rfl) (by decide) ?_
    refine lv_bipush (v := 10) hx hb dX4_skilled_48 (by decide) ?_
    refine lv_aload_n hx hb dX4_skilled_50 rfl (lv_at hl 0 rfl) ?_
    refine gX4_1 hx hb hG hown hK hP ho gw_14_14 dX4_skilled_51 ?_
    refine lv_iadd hx hb dX4_skilled_54 ?_
    exact hret _ _ _ _ _ _ ⟨hV.trans he.symm, rfl⟩ hP hS dX4_skilled_55
  · have he := ite_f he hw_1
    by_cases hw_2 : M o 0 = 2
    · have he := ite_t he hw_2
      refine lv_tableIn (tgt := 56) hx hb dX4_skilled_4 (by rw [hw_2]; decide) (by rw [hw_2]; decide) (by rw [hw_2]; rfl) (by decide) ?_
      refine lv_bipush (v := 13) hx hb dX4_skilled_56 (by decide) ?_
      exact hret _ _ _ _ _ _ ⟨hV.trans he.symm, rfl⟩ hP hS dX4_skilled_58
    · have he := ite_f he hw_2
      by_cases hw_3 : M o 0 = 3
      · have he := ite_t he hw_3
        refine lv_tableIn (tgt := 59) hx hb dX4_skilled_4 (by rw [hw_3]; decide) (by rw [hw_3]; decide) (by rw [hw_3]; rfl) (by decide) ?_
        refine lv_bipush (v := 26) hx hb dX4_skilled_59 (by decide) ?_
        exact hret _ _ _ _ _ _ ⟨hV.trans he.symm, rfl⟩ hP hS dX4_skilled_61
      · have he := ite_f he hw_3
        by_cases hw_4 : M o 0 = 4
        · have he := ite_t he hw_4
          refine lv_tableIn (tgt := 62) hx hb dX4_skilled_4 (by rw [hw_4]; decide) (by rw [hw_4]; decide) (by rw [hw_4]; rfl) (by decide) ?_
          refine lv_bipush (v := 10) hx hb dX4_skilled_62 (by decide) ?_
          refine lv_aload_n hx hb dX4_skilled_64 rfl (lv_at hl 0 rfl) ?_
          refine gX4_1 hx hb hG hown hK hP ho gw_14_14 dX4_skilled_65 ?_
          refine lv_isub hx hb dX4_skilled_68 ?_
          exact hret _ _ _ _ _ _ ⟨hV.trans he.symm, rfl⟩ hP hS dX4_skilled_69
        · have he := ite_f he hw_4
          by_cases hw_5 : M o 0 = 5
          · have he := ite_t he hw_5
            refine lv_tableIn (tgt := 70) hx hb dX4_skilled_4 (by rw [hw_5]; decide) (by rw [hw_5]; decide) (by rw [hw_5]; rfl) (by decide) ?_
            refine lv_bipush (v := 15) hx hb dX4_skilled_70 (by decide) ?_
            exact hret _ _ _ _ _ _ ⟨hV.trans he.symm, rfl⟩ hP hS dX4_skilled_72
          · have he := ite_f he hw_5
            by_cases hw_6 : M o 0 = 6
            · have he := ite_t he hw_6
              refine lv_tableIn (tgt := 73) hx hb dX4_skilled_4 (by rw [hw_6]; decide) (by rw [hw_6]; decide) (by rw [hw_6]; rfl) (by decide) ?_
              refine lv_bipush (v := 15) hx hb dX4_skilled_73 (by decide) ?_
              refine lv_aload_n hx hb dX4_skilled_75 rfl (lv_at hl 0 rfl) ?_
              refine gX4_1 hx hb hG hown hK hP ho gw_14_14 dX4_skilled_76 ?_
              refine lv_iadd hx hb dX4_skilled_79 ?_
              exact hret _ _ _ _ _ _ ⟨hV.trans he.symm, rfl⟩ hP hS dX4_skilled_80
            · have he := ite_f he hw_6
              by_cases hw_7 : M o 0 = 7
              · have he := ite_t he hw_7
                refine lv_tableIn (tgt := 81) hx hb dX4_skilled_4 (by rw [hw_7]; decide) (by rw [hw_7]; decide) (by rw [hw_7]; rfl) (by decide) ?_
                refine lv_bipush (v := 10) hx hb dX4_skilled_81 (by decide) ?_
                refine lv_aload_n hx hb dX4_skilled_83 rfl (lv_at hl 0 rfl) ?_
                refine gX4_1 hx hb hG hown hK hP ho gw_14_14 dX4_skilled_84 ?_
                refine lv_iadd hx hb dX4_skilled_87 ?_
                refine lv_iconst (v := 2) hx hb dX4_skilled_88 (by decide) ?_
                refine lv_idiv hx hb dX4_skilled_89 (by decide) ?_
                exact hret _ _ _ _ _ _ ⟨hV.trans he.symm, rfl⟩ hP hS dX4_skilled_90
              · have he := ite_f he hw_7
                refine lv_tableOut (tgt := 91) hx hb dX4_skilled_4 (by have q0 : (M o 0).toInt ≠ 1 := ne_I hw_1; have q1 : (M o 0).toInt ≠ 2 := ne_I hw_2; have q2 : (M o 0).toInt ≠ 3 := ne_I hw_3; have q3 : (M o 0).toInt ≠ 4 := ne_I hw_4; have q4 : (M o 0).toInt ≠ 5 := ne_I hw_5; have q5 : (M o 0).toInt ≠ 6 := ne_I hw_6; have q6 : (M o 0).toInt ≠ 7 := ne_I hw_7; omega) (by decide) ?_
                refine lv_bipush (v := 10) hx hb dX4_skilled_91 (by decide) ?_
                exact hret _ _ _ _ _ _ ⟨hV.trans he.symm, rfl⟩ hP hS dX4_skilled_93
