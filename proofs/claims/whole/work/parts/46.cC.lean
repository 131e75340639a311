-- @needs 12_dec 13_dec 14_dec 15_dec 31_hC 43_cC 44_cC 45_cC
def rm_X1_turnsByBitsAt : Room := { frames := 0, cells := 0, slots := 0, locals := 0 }
theorem gm_X1_turnsByBitsAt : Cond.instanceMethod yX1_turnsByBitsAt ∈ wsL_law ∧ Cond.selects RX1 yX1_turnsByBitsAt yX1_turnsByBitsAt ∈ wsL_law ∧ Cond.initialized RX1 ∈ wsL_law ∧ Cond.code yX1_turnsByBitsAt cX1_turnsByBitsAt 3 (some .boolean) ∈ wsL_law := ⟨gw_22_3, gw_22_4, gw_3_9, gw_22_5⟩
theorem gd_X1_turnsByBitsAt : yX1_turnsByBitsAt.cls = RX1 ∧ yX1_turnsByBitsAt.cls ≠ "java/lang/invoke/MethodHandle" ∧ yX1_turnsByBitsAt.cls ≠ "java/lang/invoke/VarHandle" ∧ (parseMethodDescriptor yX1_turnsByBitsAt.desc).map (fun d => d.parameters.length) = some 1 := by decide +kernel
set_option maxRecDepth 100000 in
set_option maxHeartbeats 0 in
theorem c_X1_turnsByBitsAt {l : Launch} {D : va_G} {k : Nat → ClassId} {ad : Nat → Nat} (had : InjN 68 ad) (M : Mem) (o : Nat) (ho : kBoat o) (a1 : Int32) : Met l yX1_turnsByBitsAt (Cond.code yX1_turnsByBitsAt cX1_turnsByBitsAt 3 (some .boolean) :: wsL_law) rm_X1_turnsByBitsAt (va_Pc [.ref (ad o), .int a1] (GW 68 ad D k (cC ad k M))) (va_Qi (fun r u => (r = 0 ∨ r = 1) ∧ f_X1_turnsByBitsAt M o a1 = r ∧ u = M) (fun u t => GW 68 ad D k (cC ad k u) t) (AW 68 ad)) 0 0 (AW 68 ad) := by
  refine met_z (g := cC ad k) (M := M) (plainFor_of_name (by decide)) (Nat.le_of_ble_eq_true rfl) ?_
  intro p e s m args below meth c Q ls hx hb hml hG hown hK hret hP hS hl
  have hl : lv_has ls 3 [(0, .ref (ad o)), (1, .int a1)] := hl
  obtain ⟨V, hV⟩ : ∃ V, f_X1_turnsByBitsAt M o a1 = V := ⟨_, rfl⟩
  have he := hV
  unfold f_X1_turnsByBitsAt at he
  refine lv_iload_n hx hb dX1_turnsByBitsAt_0 rfl (lv_at hl 1 rfl) ?_
  refine lv_bipush (v := 10) hx hb dX1_turnsByBitsAt_1 (by decide) ?_
  refine lv_idiv hx hb dX1_turnsByBitsAt_3 (by decide) ?_
  refine lv_iconst (v := 1) hx hb dX1_turnsByBitsAt_4 (by decide) ?_
  refine lv_isub hx hb dX1_turnsByBitsAt_5 ?_
  refine lv_topi (fun y_1 ey_1 => ?_)
  have he := bnd_at he ey_1
  refine lv_istore_n (lv' := [(2, .int y_1), (0, .ref (ad o)), (1, .int a1)]) hx hb dX1_turnsByBitsAt_6 rfl hl (by decide) rfl (fun ls hl => ?_)
  refine lv_iload_n hx hb dX1_turnsByBitsAt_7 rfl (lv_at hl 2 rfl) ?_
  refine lv_bipush (v := 10) hx hb dX1_turnsByBitsAt_8 (by decide) ?_
  refine lv_irem hx hb dX1_turnsByBitsAt_10 (by decide) ?_
  obtain ⟨t_7, hr_3, he⟩ := bnd_ex he
  have j44 : ∀ (H : Heap) (locs : List Loc) (ls : Array Slot), (t_7 = 0 ∨ t_7 = 1) → va_P D vwCl (wld 68 ad (cC ad k M)) H → va_S (AW 68 ad) s.heap H locs → lv_has ls 3 [] → W p l e rm_X1_turnsByBitsAt s m args below meth c H locs 0 0 Q (F0 m 44 ls [.int t_7]) := by
    intro H locs ls zt_7 hP hS hl
    exact hret _ _ _ _ _ _ ⟨zt_7, (hV.trans he.symm), rfl⟩ (nz01 zt_7) hP hS dX1_turnsByBitsAt_44
  refine lv_if_ne (tgt := 43) hx hb dX1_turnsByBitsAt_11 (by decide) (fun hc_2 => ?_) (fun hc_2 => ?_)
  · have hr_3 := ite_t hr_3 hc_2
    refine lv_iconst (v := 0) hx hb dX1_turnsByBitsAt_43 (by decide) ?_
    cases hr_3
    exact j44 _ _ _ (Or.inl rfl) hP hS (lv_sub hl [] rfl)
  · have hr_3 := ite_f hr_3 (fun q => q hc_2)
    refine lv_iload_n hx hb dX1_turnsByBitsAt_14 rfl (lv_at hl 0 rfl) ?_
    refine lv_if_lt (tgt := 43) hx hb dX1_turnsByBitsAt_15 (by decide) (fun hc_4 => ?_) (fun hc_4 => ?_)
    · have hr_3 := ite_t hr_3 hc_4
      refine lv_iconst (v := 0) hx hb dX1_turnsByBitsAt_43 (by decide) ?_
      cases hr_3
      exact j44 _ _ _ (Or.inl rfl) hP hS (lv_sub hl [] rfl)
    · have hr_3 := ite_f hr_3 hc_4
      refine lv_iload_n hx hb dX1_turnsByBitsAt_18 rfl (lv_at hl 0 rfl) ?_
      refine lv_bipush (v := 8) hx hb dX1_turnsByBitsAt_19 (by decide) ?_
      refine lv_icmp_ge (tgt := 43) hx hb dX1_turnsByBitsAt_21 (by decide) (fun hc_5 => ?_) (fun hc_5 => ?_)
      · have hr_3 := ite_t hr_3 hc_5
        refine lv_iconst (v := 0) hx hb dX1_turnsByBitsAt_43 (by decide) ?_
        cases hr_3
        exact j44 _ _ _ (Or.inl rfl) hP hS (lv_sub hl [] rfl)
      · have hr_3 := ite_f hr_3 hc_5
        refine lv_aload_n hx hb dX1_turnsByBitsAt_24 rfl (lv_at hl 1 rfl) ?_
        refine gX1_0 hx hb hG hown hK hP ho gw_3_16 dX1_turnsByBitsAt_25 ?_
        refine gX4_1 hx hb hG hown hK hP (kR_slr ho) gw_16_21 dX1_turnsByBitsAt_28 ?_
        refine lv_iload_n hx hb dX1_turnsByBitsAt_31 rfl (lv_at hl 0 rfl) ?_
        refine lv_ishr hx hb dX1_turnsByBitsAt_32 ?_
        refine lv_iconst (v := 1) hx hb dX1_turnsByBitsAt_33 (by decide) ?_
        refine lv_iand hx hb dX1_turnsByBitsAt_34 ?_
        refine lv_iconst (v := 1) hx hb dX1_turnsByBitsAt_35 (by decide) ?_
        refine lv_icmp_ne (tgt := 43) hx hb dX1_turnsByBitsAt_36 (by decide) (fun hc_6 => ?_) (fun hc_6 => ?_)
        · have hr_3 := ite_t hr_3 hc_6
          refine lv_iconst (v := 0) hx hb dX1_turnsByBitsAt_43 (by decide) ?_
          cases hr_3
          exact j44 _ _ _ (Or.inl rfl) hP hS (lv_sub hl [] rfl)
        · have hr_3 := ite_f hr_3 (fun q => q hc_6)
          refine lv_iconst (v := 1) hx hb dX1_turnsByBitsAt_39 (by decide) ?_
          refine lv_goto (tgt := 44) hx hb dX1_turnsByBitsAt_40 (by decide) ?_
          cases hr_3
          exact j44 _ _ _ (Or.inr rfl) hP hS (lv_sub hl [] rfl)
def rm_X3_wantsToTurn : Room := { frames := 2, cells := 0, slots := 0, locals := 36 }
theorem gm_X3_wantsToTurn : Cond.instanceMethod yX3_wantsToTurn ∈ wsL_law ∧ Cond.selects RX3 yX3_wantsToTurn yX3_wantsToTurn ∈ wsL_law ∧ Cond.initialized RX3 ∈ wsL_law ∧ Cond.code yX3_wantsToTurn cX3_wantsToTurn 4 (some .boolean) ∈ wsL_law := ⟨gw_20_20, gw_20_21, gw_1_19, gw_20_22⟩
theorem gd_X3_wantsToTurn : yX3_wantsToTurn.cls = RX3 ∧ yX3_wantsToTurn.cls ≠ "java/lang/invoke/MethodHandle" ∧ yX3_wantsToTurn.cls ≠ "java/lang/invoke/VarHandle" ∧ (parseMethodDescriptor yX3_wantsToTurn.desc).map (fun d => d.parameters.length) = some 3 := by decide +kernel
set_option maxRecDepth 100000 in
set_option maxHeartbeats 0 in
theorem c_X3_wantsToTurn {l : Launch} {D : va_G} {k : Nat → ClassId} {ad : Nat → Nat} (had : InjN 68 ad) (M : Mem) (o : Nat) (ho : kRace o) (a1 : Nat) (ha1 : kBoat a1) (a2 : Nat) (ha2 : kBay a2) (a3 : Int32) : Met l yX3_wantsToTurn (Cond.code yX3_wantsToTurn cX3_wantsToTurn 4 (some .boolean) :: wsL_law) rm_X3_wantsToTurn (va_Pc [.ref (ad o), .ref (ad a1), .ref (ad a2), .int a3] (GW 68 ad D k (cC ad k M))) (va_Qi (fun r u => (r = 0 ∨ r = 1) ∧ f_X3_wantsToTurn M o a1 a2 a3 = r ∧ u = M) (fun u t => GW 68 ad D k (cC ad k u) t) (AW 68 ad)) 0 0 (AW 68 ad) := by
  refine met_z (g := cC ad k) (M := M) (plainFor_of_name (by decide)) (Nat.le_of_ble_eq_true rfl) ?_
  intro p e s m args below meth c Q ls hx hb hml hG hown hK hret hP hS hl
  have hl : lv_has ls 4 [(0, .ref (ad o)), (1, .ref (ad a1)), (2, .ref (ad a2)), (3, .int a3)] := hl
  obtain ⟨V, hV⟩ : ∃ V, f_X3_wantsToTurn M o a1 a2 a3 = V := ⟨_, rfl⟩
  have he := hV
  unfold f_X3_wantsToTurn at he
  refine lv_aload_n hx hb dX3_wantsToTurn_0 rfl (lv_at hl 1 rfl) ?_
  refine gX1_0 hx hb hG hown hK hP ha1 gw_14_16 dX3_wantsToTurn_1 ?_
  refine gX4_0 hx hb hG hown hK hP (kR_slr ha1) gw_20_23 dX3_wantsToTurn_4 ?_
  by_cases hw_1 : M (a1 + 12) 0 = 0
  · have he := ite_t he hw_1
    refine lv_tableIn (tgt := 52) hx hb dX3_wantsToTurn_7 (by rw [hw_1]; decide) (by rw [hw_1]; decide) (by rw [hw_1]; rfl) (by decide) ?_
    refine lv_aload_n hx hb dX3_wantsToTurn_52 rfl (lv_at hl 1 rfl) ?_
    refine lv_aload_n hx hb dX3_wantsToTurn_53 rfl (lv_at hl 0 rfl) ?_
    refine gX3_2 hx hb hG hown hK hP ho gw_18_23 dX3_wantsToTurn_54 ?_
    refine call_i [.int (M o 2)] [] hx hb hml hG hown hK (c_X1_turnsAt had M a1 ha1 (M o 2)) gw_21_1 gm_X1_turnsAt gd_X1_turnsAt rfl rfl ⟨Nat.le_of_ble_eq_true rfl, Nat.le_of_ble_eq_true rfl⟩ ⟨Nat.le_refl _, Nat.le_refl _⟩ (rX1 hK hP ha1) hP (fun _ h => h) hS rfl hl.1 rfl (Nat.le_of_ble_eq_true rfl) dX3_wantsToTurn_57 (fun r_2 u_4 H locs hF_3 hP hS => ?_)
    obtain ⟨hz_5, hF_3, hu⟩ := hF_3; rw [hu] at hP; subst hF_3
    exact hret _ _ _ _ _ _ ⟨hz_5, (hV.trans he.symm), rfl⟩ (nz01 hz_5) hP hS dX3_wantsToTurn_60
  · have he := ite_f he hw_1
    by_cases hw_6 : M (a1 + 12) 0 = 1
    · have he := ite_t he hw_6
      refine lv_tableIn (tgt := 61) hx hb dX3_wantsToTurn_7 (by rw [hw_6]; decide) (by rw [hw_6]; decide) (by rw [hw_6]; rfl) (by decide) ?_
      refine lv_aload_n hx hb dX3_wantsToTurn_61 rfl (lv_at hl 1 rfl) ?_
      refine lv_iload_n hx hb dX3_wantsToTurn_62 rfl (lv_at hl 3 rfl) ?_
      refine call_i [.int a3] [] hx hb hml hG hown hK (c_X1_isHeadedBy had M a1 ha1 a3) gw_21_5 gm_X1_isHeadedBy gd_X1_isHeadedBy rfl rfl ⟨Nat.le_of_ble_eq_true rfl, Nat.le_of_ble_eq_true rfl⟩ ⟨Nat.le_refl _, Nat.le_refl _⟩ (rX1 hK hP ha1) hP (fun _ h => h) hS rfl hl.1 rfl (Nat.le_of_ble_eq_true rfl) dX3_wantsToTurn_63 (fun r_7 u_9 H locs hF_8 hP hS => ?_)
      obtain ⟨hz_10, hF_8, hu⟩ := hF_8; rw [hu] at hP; subst hF_8
      exact hret _ _ _ _ _ _ ⟨hz_10, (hV.trans he.symm), rfl⟩ (nz01 hz_10) hP hS dX3_wantsToTurn_66
    · have he := ite_f he hw_6
      by_cases hw_11 : M (a1 + 12) 0 = 2
      · have he := ite_t he hw_11
        refine lv_tableIn (tgt := 67) hx hb dX3_wantsToTurn_7 (by rw [hw_11]; decide) (by rw [hw_11]; decide) (by rw [hw_11]; rfl) (by decide) ?_
        refine lv_aload_n hx hb dX3_wantsToTurn_67 rfl (lv_at hl 1 rfl) ?_
        refine gX1_9 hx hb hG hown hK hP ha1 gw_17_15 dX3_wantsToTurn_68 ?_
        exact hret _ _ _ _ _ _ ⟨(b01_or _), (hV.trans he.symm), rfl⟩ (nz01 (b01_or _)) hP hS dX3_wantsToTurn_71
      · have he := ite_f he hw_11
        by_cases hw_12 : M (a1 + 12) 0 = 3
        · have he := ite_t he hw_12
          refine lv_tableIn (tgt := 72) hx hb dX3_wantsToTurn_7 (by rw [hw_12]; decide) (by rw [hw_12]; decide) (by rw [hw_12]; rfl) (by decide) ?_
          refine lv_aload_n hx hb dX3_wantsToTurn_72 rfl (lv_at hl 1 rfl) ?_
          refine gX1_9 hx hb hG hown hK hP ha1 gw_17_15 dX3_wantsToTurn_73 ?_
          obtain ⟨t_20, hr_14, he⟩ := bnd_ex he
          have j92 : ∀ (H : Heap) (locs : List Loc) (ls : Array Slot), (t_20 = 0 ∨ t_20 = 1) → va_P D vwCl (wld 68 ad (cC ad k M)) H → va_S (AW 68 ad) s.heap H locs → lv_has ls 4 [] → W p l e rm_X3_wantsToTurn s m args below meth c H locs 0 0 Q (F0 m 92 ls [.int t_20]) := by
            intro H locs ls zt_20 hP hS hl
            exact hret _ _ _ _ _ _ ⟨zt_20, (hV.trans he.symm), rfl⟩ (nz01 zt_20) hP hS dX3_wantsToTurn_92
          refine lv_if_ne (tgt := 87) hx hb dX3_wantsToTurn_76 (by decide) (fun hc_13 => ?_) (fun hc_13 => ?_)
          · have hr_14 := ite_t hr_14 hc_13
            refine lv_iconst (v := 1) hx hb dX3_wantsToTurn_87 (by decide) ?_
            refine lv_goto (tgt := 92) hx hb dX3_wantsToTurn_88 (by decide) ?_
            cases hr_14
            exact j92 _ _ _ (Or.inr rfl) hP hS (lv_sub hl [] rfl)
          · have hr_14 := ite_f hr_14 (fun q => q hc_13)
            refine lv_aload_n hx hb dX3_wantsToTurn_79 rfl (lv_at hl 0 rfl) ?_
            refine lv_aload_n hx hb dX3_wantsToTurn_80 rfl (lv_at hl 1 rfl) ?_
            refine call_i [.ref (ad a1)] [] hx hb hml hG hown hK (c_X3_hasToCover had M o ho a1 ha1) gw_21_9 gm_X3_hasToCover gd_X3_hasToCover rfl rfl ⟨Nat.le_of_ble_eq_true rfl, Nat.le_of_ble_eq_true rfl⟩ ⟨Nat.le_refl _, Nat.le_refl _⟩ (rX3 hK hP ho) hP (fun _ h => h) hS rfl hl.1 rfl (Nat.le_of_ble_eq_true rfl) dX3_wantsToTurn_81 (fun r_15 u_17 H locs hF_16 hP hS => ?_)
            obtain ⟨hz_18, hF_16, hu⟩ := hF_16; rw [hu] at hP; subst hF_16
            refine lv_if_eq (tgt := 91) hx hb dX3_wantsToTurn_84 (by decide) (fun hc_19 => ?_) (fun hc_19 => ?_)
            · have hr_14 := ite_t hr_14 hc_19
              refine lv_iconst (v := 0) hx hb dX3_wantsToTurn_91 (by decide) ?_
              cases hr_14
              exact j92 _ _ _ (Or.inl rfl) hP hS (lv_sub hl [] rfl)
            · have hr_14 := ite_f hr_14 hc_19
              refine lv_iconst (v := 1) hx hb dX3_wantsToTurn_87 (by decide) ?_
              refine lv_goto (tgt := 92) hx hb dX3_wantsToTurn_88 (by decide) ?_
              cases hr_14
              exact j92 _ _ _ (Or.inr rfl) hP hS (lv_sub hl [] rfl)
        · have he := ite_f he hw_12
          by_cases hw_21 : M (a1 + 12) 0 = 4
          · have he := ite_t he hw_21
            refine lv_tableIn (tgt := 93) hx hb dX3_wantsToTurn_7 (by rw [hw_21]; decide) (by rw [hw_21]; decide) (by rw [hw_21]; rfl) (by decide) ?_
            refine lv_aload_n hx hb dX3_wantsToTurn_93 rfl (lv_at hl 1 rfl) ?_
            refine lv_aload_n hx hb dX3_wantsToTurn_94 rfl (lv_at hl 0 rfl) ?_
            refine gX3_2 hx hb hG hown hK hP ho gw_18_23 dX3_wantsToTurn_95 ?_
            refine call_i [.int (M o 2)] [] hx hb hml hG hown hK (c_X1_turnsOddlyAt had M a1 ha1 (M o 2)) gw_21_14 gm_X1_turnsOddlyAt gd_X1_turnsOddlyAt rfl rfl ⟨Nat.le_of_ble_eq_true rfl, Nat.le_of_ble_eq_true rfl⟩ ⟨Nat.le_refl _, Nat.le_refl _⟩ (rX1 hK hP ha1) hP (fun _ h => h) hS rfl hl.1 rfl (Nat.le_of_ble_eq_true rfl) dX3_wantsToTurn_98 (fun r_22 u_24 H locs hF_23 hP hS => ?_)
            obtain ⟨hz_25, hF_23, hu⟩ := hF_23; rw [hu] at hP; subst hF_23
            exact hret _ _ _ _ _ _ ⟨hz_25, (hV.trans he.symm), rfl⟩ (nz01 hz_25) hP hS dX3_wantsToTurn_101
          · have he := ite_f he hw_21
            by_cases hw_26 : M (a1 + 12) 0 = 5
            · have he := ite_t he hw_26
              refine lv_tableIn (tgt := 102) hx hb dX3_wantsToTurn_7 (by rw [hw_26]; decide) (by rw [hw_26]; decide) (by rw [hw_26]; rfl) (by decide) ?_
              refine lv_aload_n hx hb dX3_wantsToTurn_102 rfl (lv_at hl 1 rfl) ?_
              refine call_i [] [] hx hb hml hG hown hK (c_X1_isFarAside had M a1 ha1) gw_21_18 gm_X1_isFarAside gd_X1_isFarAside rfl rfl ⟨Nat.le_of_ble_eq_true rfl, Nat.le_of_ble_eq_true rfl⟩ ⟨Nat.le_refl _, Nat.le_refl _⟩ (rX1 hK hP ha1) hP (fun _ h => h) hS rfl hl.1 rfl (Nat.le_of_ble_eq_true rfl) dX3_wantsToTurn_103 (fun r_27 u_29 H locs hF_28 hP hS => ?_)
              obtain ⟨hz_30, hF_28, hu⟩ := hF_28; rw [hu] at hP; subst hF_28
              exact hret _ _ _ _ _ _ ⟨hz_30, (hV.trans he.symm), rfl⟩ (nz01 hz_30) hP hS dX3_wantsToTurn_106
            · have he := ite_f he hw_26
              by_cases hw_31 : M (a1 + 12) 0 = 6
              · have he := ite_t he hw_31
                refine lv_tableIn (tgt := 107) hx hb dX3_wantsToTurn_7 (by rw [hw_31]; decide) (by rw [hw_31]; decide) (by rw [hw_31]; rfl) (by decide) ?_
                refine lv_aload_n hx hb dX3_wantsToTurn_107 rfl (lv_at hl 1 rfl) ?_
                refine call_i [] [] hx hb hml hG hown hK (c_X1_isFarAside had M a1 ha1) gw_21_18 gm_X1_isFarAside gd_X1_isFarAside rfl rfl ⟨Nat.le_of_ble_eq_true rfl, Nat.le_of_ble_eq_true rfl⟩ ⟨Nat.le_refl _, Nat.le_refl _⟩ (rX1 hK hP ha1) hP (fun _ h => h) hS rfl hl.1 rfl (Nat.le_of_ble_eq_true rfl) dX3_wantsToTurn_108 (fun r_32 u_34 H locs hF_33 hP hS => ?_)
                obtain ⟨hz_35, hF_33, hu⟩ := hF_33; rw [hu] at hP; subst hF_33
                obtain ⟨t_43, hr_37, he⟩ := bnd_ex he
                have j130 : ∀ (H : Heap) (locs : List Loc) (ls : Array Slot), (t_43 = 0 ∨ t_43 = 1) → va_P D vwCl (wld 68 ad (cC ad k M)) H → va_S (AW 68 ad) s.heap H locs → lv_has ls 4 [] → W p l e rm_X3_wantsToTurn s m args below meth c H locs 0 0 Q (F0 m 130 ls [.int t_43]) := by
                  intro H locs ls zt_43 hP hS hl
                  exact hret _ _ _ _ _ _ ⟨zt_43, (hV.trans he.symm), rfl⟩ (nz01 zt_43) hP hS dX3_wantsToTurn_130
                refine lv_if_ne (tgt := 125) hx hb dX3_wantsToTurn_111 (by decide) (fun hc_36 => ?_) (fun hc_36 => ?_)
                · have hr_37 := ite_t hr_37 hc_36
                  refine lv_iconst (v := 1) hx hb dX3_wantsToTurn_125 (by decide) ?_
                  refine lv_goto (tgt := 130) hx hb dX3_wantsToTurn_126 (by decide) ?_
                  cases hr_37
                  exact j130 _ _ _ (Or.inr rfl) hP hS (lv_sub hl [] rfl)
                · have hr_37 := ite_f hr_37 (fun q => q hc_36)
                  refine lv_aload_n hx hb dX3_wantsToTurn_114 rfl (lv_at hl 1 rfl) ?_
                  refine lv_aload_n hx hb dX3_wantsToTurn_115 rfl (lv_at hl 2 rfl) ?_
                  refine gX0_0 hx hb hG hown hK hP ha2 gw_21_0 dX3_wantsToTurn_116 ?_
                  refine call_i [.int (M a2 0)] [] hx hb hml hG hown hK (c_X1_isOnItsLast had M a1 ha1 (M a2 0)) gw_21_22 gm_X1_isOnItsLast gd_X1_isOnItsLast rfl rfl ⟨Nat.le_of_ble_eq_true rfl, Nat.le_of_ble_eq_true rfl⟩ ⟨Nat.le_refl _, Nat.le_refl _⟩ (rX1 hK hP ha1) hP (fun _ h => h) hS rfl hl.1 rfl (Nat.le_of_ble_eq_true rfl) dX3_wantsToTurn_119 (fun r_38 u_40 H locs hF_39 hP hS => ?_)
                  obtain ⟨hz_41, hF_39, hu⟩ := hF_39; rw [hu] at hP; subst hF_39
                  refine lv_if_eq (tgt := 129) hx hb dX3_wantsToTurn_122 (by decide) (fun hc_42 => ?_) (fun hc_42 => ?_)
                  · have hr_37 := ite_t hr_37 hc_42
                    refine lv_iconst (v := 0) hx hb dX3_wantsToTurn_129 (by decide) ?_
                    cases hr_37
                    exact j130 _ _ _ (Or.inl rfl) hP hS (lv_sub hl [] rfl)
                  · have hr_37 := ite_f hr_37 hc_42
                    refine lv_iconst (v := 1) hx hb dX3_wantsToTurn_125 (by decide) ?_
                    refine lv_goto (tgt := 130) hx hb dX3_wantsToTurn_126 (by decide) ?_
                    cases hr_37
                    exact j130 _ _ _ (Or.inr rfl) hP hS (lv_sub hl [] rfl)
              · have he := ite_f he hw_31
                by_cases hw_44 : M (a1 + 12) 0 = 7
                · have he := ite_t he hw_44
                  refine lv_tableIn (tgt := 131) hx hb dX3_wantsToTurn_7 (by rw [hw_44]; decide) (by rw [hw_44]; decide) (by rw [hw_44]; rfl) (by decide) ?_
                  refine lv_aload_n hx hb dX3_wantsToTurn_131 rfl (lv_at hl 1 rfl) ?_
                  refine lv_iload_n hx hb dX3_wantsToTurn_132 rfl (lv_at hl 3 rfl) ?_
                  refine call_i [.int a3] [] hx hb hml hG hown hK (c_X1_isHeadedBy had M a1 ha1 a3) gw_21_5 gm_X1_isHeadedBy gd_X1_isHeadedBy rfl rfl ⟨Nat.le_of_ble_eq_true rfl, Nat.le_of_ble_eq_true rfl⟩ ⟨Nat.le_refl _, Nat.le_refl _⟩ (rX1 hK hP ha1) hP (fun _ h => h) hS rfl hl.1 rfl (Nat.le_of_ble_eq_true rfl) dX3_wantsToTurn_133 (fun r_45 u_47 H locs hF_46 hP hS => ?_)
                  obtain ⟨hz_48, hF_46, hu⟩ := hF_46; rw [hu] at hP; subst hF_46
                  obtain ⟨t_53, hr_50, he⟩ := bnd_ex he
                  have j162 : ∀ (H : Heap) (locs : List Loc) (ls : Array Slot), (t_53 = 0 ∨ t_53 = 1) → va_P D vwCl (wld 68 ad (cC ad k M)) H → va_S (AW 68 ad) s.heap H locs → lv_has ls 4 [] → W p l e rm_X3_wantsToTurn s m args below meth c H locs 0 0 Q (F0 m 162 ls [.int t_53]) := by
                    intro H locs ls zt_53 hP hS hl
                    exact hret _ _ _ _ _ _ ⟨zt_53, (hV.trans he.symm), rfl⟩ (nz01 zt_53) hP hS dX3_wantsToTurn_162
                  refine lv_if_eq (tgt := 161) hx hb dX3_wantsToTurn_136 (by decide) (fun hc_49 => ?_) (fun hc_49 => ?_)
                  · have hr_50 := ite_t hr_50 hc_49
                    refine lv_iconst (v := 0) hx hb dX3_wantsToTurn_161 (by decide) ?_
                    cases hr_50
                    exact j162 _ _ _ (Or.inl rfl) hP hS (lv_sub hl [] rfl)
                  · have hr_50 := ite_f hr_50 hc_49
                    refine lv_aload_n hx hb dX3_wantsToTurn_139 rfl (lv_at hl 2 rfl) ?_
                    refine gX0_3 hx hb hG hown hK hP ha2 gw_19_18 dX3_wantsToTurn_140 ?_
                    refine lv_iconst (v := 2) hx hb dX3_wantsToTurn_143 (by decide) ?_
                    refine lv_icmp_le (tgt := 157) hx hb dX3_wantsToTurn_144 (by decide) (fun hc_51 => ?_) (fun hc_51 => ?_)
                    · have hr_50 := ite_t hr_50 hc_51
                      refine lv_iconst (v := 1) hx hb dX3_wantsToTurn_157 (by decide) ?_
                      refine lv_goto (tgt := 162) hx hb dX3_wantsToTurn_158 (by decide) ?_
                      cases hr_50
                      exact j162 _ _ _ (Or.inr rfl) hP hS (lv_sub hl [] rfl)
                    · have hr_50 := ite_f hr_50 hc_51
                      refine lv_aload_n hx hb dX3_wantsToTurn_147 rfl (lv_at hl 0 rfl) ?_
                      refine gX3_2 hx hb hG hown hK hP ho gw_18_23 dX3_wantsToTurn_148 ?_
                      refine lv_bipush (v := 10) hx hb dX3_wantsToTurn_151 (by decide) ?_
                      refine lv_irem hx hb dX3_wantsToTurn_153 (by decide) ?_
                      refine lv_if_ne (tgt := 161) hx hb dX3_wantsToTurn_154 (by decide) (fun hc_52 => ?_) (fun hc_52 => ?_)
                      · have hr_50 := ite_t hr_50 hc_52
                        refine lv_iconst (v := 0) hx hb dX3_wantsToTurn_161 (by decide) ?_
                        cases hr_50
                        exact j162 _ _ _ (Or.inl rfl) hP hS (lv_sub hl [] rfl)
                      · have hr_50 := ite_f hr_50 (fun q => q hc_52)
                        refine lv_iconst (v := 1) hx hb dX3_wantsToTurn_157 (by decide) ?_
                        refine lv_goto (tgt := 162) hx hb dX3_wantsToTurn_158 (by decide) ?_
                        cases hr_50
                        exact j162 _ _ _ (Or.inr rfl) hP hS (lv_sub hl [] rfl)
                · have he := ite_f he hw_44
                  refine lv_tableOut (tgt := 163) hx hb dX3_wantsToTurn_7 (by have q0 : (M (a1 + 12) 0).toInt ≠ 0 := ne_I hw_1; have q1 : (M (a1 + 12) 0).toInt ≠ 1 := ne_I hw_6; have q2 : (M (a1 + 12) 0).toInt ≠ 2 := ne_I hw_11; have q3 : (M (a1 + 12) 0).toInt ≠ 3 := ne_I hw_12; have q4 : (M (a1 + 12) 0).toInt ≠ 4 := ne_I hw_21; have q5 : (M (a1 + 12) 0).toInt ≠ 5 := ne_I hw_26; have q6 : (M (a1 + 12) 0).toInt ≠ 6 := ne_I hw_31; have q7 : (M (a1 + 12) 0).toInt ≠ 7 := ne_I hw_44; omega) (by decide) ?_
                  refine lv_aload_n hx hb dX3_wantsToTurn_163 rfl (lv_at hl 1 rfl) ?_
                  refine lv_aload_n hx hb dX3_wantsToTurn_164 rfl (lv_at hl 0 rfl) ?_
                  refine gX3_2 hx hb hG hown hK hP ho gw_18_23 dX3_wantsToTurn_165 ?_
                  refine call_i [.int (M o 2)] [] hx hb hml hG hown hK (c_X1_turnsByBitsAt had M a1 ha1 (M o 2)) gw_22_2 gm_X1_turnsByBitsAt gd_X1_turnsByBitsAt rfl rfl ⟨Nat.le_of_ble_eq_true rfl, Nat.le_of_ble_eq_true rfl⟩ ⟨Nat.le_refl _, Nat.le_refl _⟩ (rX1 hK hP ha1) hP (fun _ h => h) hS rfl hl.1 rfl (Nat.le_of_ble_eq_true rfl) dX3_wantsToTurn_168 (fun r_54 u_56 H locs hF_55 hP hS => ?_)
                  obtain ⟨hz_57, hF_55, hu⟩ := hF_55; rw [hu] at hP; subst hF_55
                  exact hret _ _ _ _ _ _ ⟨hz_57, (hV.trans he.symm), rfl⟩ (nz01 hz_57) hP hS dX3_wantsToTurn_171
def rm_X1_comeAbout : Room := { frames := 0, cells := 0, slots := 0, locals := 0 }
theorem gm_X1_comeAbout : Cond.instanceMethod yX1_comeAbout ∈ wsL_law ∧ Cond.selects RX1 yX1_comeAbout yX1_comeAbout ∈ wsL_law ∧ Cond.initialized RX1 ∈ wsL_law ∧ Cond.code yX1_comeAbout cX1_comeAbout 2 none ∈ wsL_law := ⟨gw_22_7, gw_22_8, gw_3_9, gw_22_9⟩
theorem gd_X1_comeAbout : yX1_comeAbout.cls = RX1 ∧ yX1_comeAbout.cls ≠ "java/lang/invoke/MethodHandle" ∧ yX1_comeAbout.cls ≠ "java/lang/invoke/VarHandle" ∧ (parseMethodDescriptor yX1_comeAbout.desc).map (fun d => d.parameters.length) = some 1 := by decide +kernel
set_option maxRecDepth 100000 in
set_option maxHeartbeats 0 in
theorem c_X1_comeAbout {l : Launch} {D : va_G} {k : Nat → ClassId} {ad : Nat → Nat} (had : InjN 68 ad) (M : Mem) (o : Nat) (ho : kBoat o) (a1 : Int32) : Met l yX1_comeAbout (Cond.code yX1_comeAbout cX1_comeAbout 2 none :: wsL_law) rm_X1_comeAbout (va_Pc [.ref (ad o), .int a1] (GW 68 ad D k (cC ad k M))) (va_Qv (fun u => f_X1_comeAbout M o a1 = u) (fun u t => GW 68 ad D k (cC ad k u) t) (AW 68 ad)) 0 0 (AW 68 ad) := by
  refine met_v (g := cC ad k) (M := M) (plainFor_of_name (by decide)) (Nat.le_of_ble_eq_true rfl) ?_
  intro p e s m args below meth c Q ls hx hb hml hG hown hK hret hP hS hl
  have hl : lv_has ls 2 [(0, .ref (ad o)), (1, .int a1)] := hl
  obtain ⟨V, hV⟩ : ∃ V, f_X1_comeAbout M o a1 = V := ⟨_, rfl⟩
  have he := hV
  unfold f_X1_comeAbout at he
  refine lv_aload_n hx hb dX1_comeAbout_0 rfl (lv_at hl 0 rfl) ?_
  refine lv_aload_n hx hb dX1_comeAbout_1 rfl (lv_at hl 0 rfl) ?_
  refine gX1_5 hx hb hG hown hK hP ho gw_15_14 dX1_comeAbout_2 ?_
  obtain ⟨t_3, hr_2, he⟩ := bnd_ex he
  have j13 : ∀ (H : Heap) (locs : List Loc) (ls : Array Slot), (t_3 = 0 ∨ t_3 = 1) → va_P D vwCl (wld 68 ad (cC ad k M)) H → va_S (AW 68 ad) s.heap H locs → lv_has ls 2 [(0, .ref (ad o)), (1, .int a1)] → W p l e rm_X1_comeAbout s m args below meth c H locs 0 0 Q (F0 m 13 ls [.int t_3, .ref (ad o)]) := by
    intro H locs ls zt_3 hP hS hl
    refine pX1_5 hx hb hG hown hK hP had AW_in hS ho gw_15_14 zt_3  dX1_comeAbout_13 (fun H locs hP hS => ?_)
    obtain ⟨M_4, eM_4⟩ : ∃ y : Mem, y = up2 M o 5 t_3 := ⟨_, rfl⟩
    rw [← eM_4] at hP
    have he := bnd_at he eM_4
    refine lv_aload_n hx hb dX1_comeAbout_16 rfl (lv_at hl 0 rfl) ?_
    refine lv_iload_n hx hb dX1_comeAbout_17 rfl (lv_at hl 1 rfl) ?_
    refine pX1_6 hx hb hG hown hK hP had AW_in hS ho gw_15_15 dX1_comeAbout_18 (fun H locs hP hS => ?_)
    obtain ⟨M_5, eM_5⟩ : ∃ y : Mem, y = up2 M_4 o 6 a1 := ⟨_, rfl⟩
    rw [← eM_5] at hP
    have he := bnd_at he eM_5
    refine lv_aload_n hx hb dX1_comeAbout_21 rfl (lv_at hl 0 rfl) ?_
    refine lv_dup hx hb dX1_comeAbout_22 rfl ?_
    refine gX1_8 hx hb hG hown hK hP ho gw_15_16 dX1_comeAbout_23 ?_
    refine lv_iconst (v := 1) hx hb dX1_comeAbout_26 (by decide) ?_
    refine lv_iadd hx hb dX1_comeAbout_27 ?_
    refine pX1_8 hx hb hG hown hK hP had AW_in hS ho gw_15_16 dX1_comeAbout_28 (fun H locs hP hS => ?_)
    obtain ⟨M_6, eM_6⟩ : ∃ y : Mem, y = up2 M_5 o 8 ((M_5 o 8) + 1) := ⟨_, rfl⟩
    rw [← eM_6] at hP
    have he := bnd_at he eM_6
    exact hret _ _ _ _ _ (hV.trans he.symm) hP hS dX1_comeAbout_31
  refine lv_if_ne (tgt := 12) hx hb dX1_comeAbout_5 (by decide) (fun hc_1 => ?_) (fun hc_1 => ?_)
  · have hr_2 := ite_t hr_2 hc_1
    refine lv_iconst (v := 0) hx hb dX1_comeAbout_12 (by decide) ?_
    cases hr_2
    exact j13 _ _ _ (Or.inl rfl) hP hS (lv_sub hl [0, 1] rfl)
  · have hr_2 := ite_f hr_2 (fun q => q hc_1)
    refine lv_iconst (v := 1) hx hb dX1_comeAbout_8 (by decide) ?_
    refine lv_goto (tgt := 13) hx hb dX1_comeAbout_9 (by decide) ?_
    cases hr_2
    exact j13 _ _ _ (Or.inr rfl) hP hS (lv_sub hl [0, 1] rfl)
def rm_X3_step : Room := { frames := 26, cells := 0, slots := 0, locals := 868 }
theorem gm_X3_step : Cond.instanceMethod yX3_step ∈ wsL_law ∧ Cond.selects RX3 yX3_step yX3_step ∈ wsL_law ∧ Cond.initialized RX3 ∈ wsL_law ∧ Cond.code yX3_step cX3_step 6 none ∈ wsL_law := ⟨gw_19_14, gw_19_15, gw_1_19, gw_19_16⟩
theorem gd_X3_step : yX3_step.cls = RX3 ∧ yX3_step.cls ≠ "java/lang/invoke/MethodHandle" ∧ yX3_step.cls ≠ "java/lang/invoke/VarHandle" ∧ (parseMethodDescriptor yX3_step.desc).map (fun d => d.parameters.length) = some 1 := by decide +kernel
set_option maxRecDepth 100000 in
set_option maxHeartbeats 0 in
theorem c_X3_step {l : Launch} {D : va_G} {k : Nat → ClassId} {ad : Nat → Nat} (had : InjN 68 ad) (M : Mem) (o : Nat) (ho : kRace o) (a1 : Nat) (ha1 : kBay a1) : Met l yX3_step (Cond.code yX3_step cX3_step 6 none :: wsL_law) rm_X3_step (va_Pc [.ref (ad o), .ref (ad a1)] (GW 68 ad D k (cC ad k M))) (va_Qv (fun u => f_X3_step M o a1 = u) (fun u t => GW 68 ad D k (cC ad k u) t) (AW 68 ad)) 0 0 (AW 68 ad) := by
  refine met_v (g := cC ad k) (M := M) (plainFor_of_name (by decide)) (Nat.le_of_ble_eq_true rfl) ?_
  intro p e s m args below meth c Q ls hx hb hml hG hown hK hret hP hS hl
  have hl : lv_has ls 6 [(0, .ref (ad o)), (1, .ref (ad a1))] := hl
  obtain ⟨V, hV⟩ : ∃ V, f_X3_step M o a1 = V := ⟨_, rfl⟩
  have he := hV
  unfold f_X3_step at he
  refine lv_aload_n hx hb dX3_step_0 rfl (lv_at hl 0 rfl) ?_
  refine call_v [] [] hx hb hml hG hown hK (c_X3_tellBadAir had M o ho) gw_19_19 gm_X3_tellBadAir gd_X3_tellBadAir rfl rfl ⟨Nat.le_of_ble_eq_true rfl, Nat.le_of_ble_eq_true rfl⟩ ⟨Nat.le_refl _, Nat.le_refl _⟩ (rX3 hK hP ho) hP (fun _ h => h) hS rfl hl.1 rfl (Nat.le_of_ble_eq_true rfl) dX3_step_1 (fun M_3 H locs hF_2 hP hS => ?_)
  have he := bnd_at he hF_2.symm
  refine lv_aload_n hx hb dX3_step_4 rfl (lv_at hl 1 rfl) ?_
  refine lv_aload_n hx hb dX3_step_5 rfl (lv_at hl 0 rfl) ?_
  refine gX3_2 hx hb hG hown hK hP ho gw_18_23 dX3_step_6 ?_
  refine call_i [.int (M_3 o 2)] [] hx hb hml hG hown hK (c_X0_windAt had M_3 a1 ha1 (M_3 o 2)) gw_19_20 gm_X0_windAt gd_X0_windAt rfl rfl ⟨Nat.le_of_ble_eq_true rfl, Nat.le_of_ble_eq_true rfl⟩ ⟨Nat.le_refl _, Nat.le_refl _⟩ (rX0 hK hP ha1) hP (fun _ h => h) hS rfl hl.1 rfl (Nat.le_of_ble_eq_true rfl) dX3_step_9 (fun r_4 M_6 H locs hF_5 hP hS => ?_)
  have he := bnd2_at he hF_5
  refine lv_istore_n (lv' := [(2, .int r_4), (0, .ref (ad o)), (1, .ref (ad a1))]) hx hb dX3_step_12 rfl hl (by decide) rfl (fun ls hl => ?_)
  refine lv_aload_n hx hb dX3_step_13 rfl (lv_at hl 1 rfl) ?_
  refine lv_dup hx hb dX3_step_14 rfl ?_
  refine gX3_2 hx hb hG hown hK hP ho gw_18_23 dX3_step_15 ?_
  refine lv_iconst (v := 1) hx hb dX3_step_18 (by decide) ?_
  refine lv_iadd hx hb dX3_step_19 ?_
  refine pX3_2 hx hb hG hown hK hP had AW_in hS ho gw_18_23 dX3_step_20 (fun H locs hP hS => ?_)
  obtain ⟨M_7, eM_7⟩ : ∃ y : Mem, y = up2 M_6 o 2 ((M_6 o 2) + 1) := ⟨_, rfl⟩
  rw [← eM_7] at hP
  have he := bnd_at he eM_7
  refine lv_iconst (v := 0) hx hb dX3_step_23 (by decide) ?_
  refine lv_istore_n (lv' := [(3, .int 0), (2, .int r_4), (0, .ref (ad o)), (1, .ref (ad a1))]) hx hb dX3_step_24 rfl hl (by decide) rfl (fun ls hl => ?_)
  obtain ⟨M_28, hr_20, he⟩ := bnd_ex he
  have j63 : ∀ (H : Heap) (locs : List Loc) (ls : Array Slot), va_P D vwCl (wld 68 ad (cC ad k M_28)) H → va_S (AW 68 ad) s.heap H locs → lv_has ls 6 [(0, .ref (ad o)), (1, .ref (ad a1))] → W p l e rm_X3_step s m args below meth c H locs 0 0 Q (F0 m 63 ls []) := by
    intro H locs ls hP hS hl
    refine lv_aload_n hx hb dX3_step_63 rfl (lv_at hl 0 rfl) ?_
    refine call_v [] [] hx hb hml hG hown hK (c_X3_tellBadAir had M_28 o ho) gw_19_19 gm_X3_tellBadAir gd_X3_tellBadAir rfl rfl ⟨Nat.le_of_ble_eq_true rfl, Nat.le_of_ble_eq_true rfl⟩ ⟨Nat.le_refl _, Nat.le_refl _⟩ (rX3 hK hP ho) hP (fun _ h => h) hS rfl hl.1 rfl (Nat.le_of_ble_eq_true rfl) dX3_step_64 (fun M_31 H locs hF_30 hP hS => ?_)
    have he := bnd_at he hF_30.symm
    refine lv_aload_n hx hb dX3_step_67 rfl (lv_at hl 1 rfl) ?_
    refine lv_aload_n hx hb dX3_step_68 rfl (lv_at hl 0 rfl) ?_
    refine gX3_2 hx hb hG hown hK hP ho gw_18_23 dX3_step_69 ?_
    refine call_i [.int (M_31 o 2)] [] hx hb hml hG hown hK (c_X0_windAt had M_31 a1 ha1 (M_31 o 2)) gw_19_20 gm_X0_windAt gd_X0_windAt rfl rfl ⟨Nat.le_of_ble_eq_true rfl, Nat.le_of_ble_eq_true rfl⟩ ⟨Nat.le_refl _, Nat.le_refl _⟩ (rX0 hK hP ha1) hP (fun _ h => h) hS rfl hl.1 rfl (Nat.le_of_ble_eq_true rfl) dX3_step_72 (fun r_32 M_34 H locs hF_33 hP hS => ?_)
    have he := bnd2_at he hF_33
    refine lv_istore_n (lv' := [(3, .int r_32), (0, .ref (ad o)), (1, .ref (ad a1))]) hx hb dX3_step_75 rfl hl (by decide) rfl (fun ls hl => ?_)
    refine lv_iconst (v := 0) hx hb dX3_step_76 (by decide) ?_
    refine lv_istore (lv' := [(4, .int 0), (3, .int r_32), (0, .ref (ad o)), (1, .ref (ad a1))]) hx hb dX3_step_77 hl (by decide) rfl (fun ls hl => ?_)
    obtain ⟨M_85, hr_62, he⟩ := bnd_ex he
    have j151 : ∀ (H : Heap) (locs : List Loc) (ls : Array Slot), va_P D vwCl (wld 68 ad (cC ad k M_85)) H → va_S (AW 68 ad) s.heap H locs → lv_has ls 6 [(0, .ref (ad o)), (1, .ref (ad a1))] → W p l e rm_X3_step s m args below meth c H locs 0 0 Q (F0 m 151 ls []) := by
      intro H locs ls hP hS hl
      refine lv_iconst (v := 0) hx hb dX3_step_151 (by decide) ?_
      refine lv_istore (lv' := [(4, .int 0), (0, .ref (ad o)), (1, .ref (ad a1))]) hx hb dX3_step_152 hl (by decide) rfl (fun ls hl => ?_)
      obtain ⟨M_114, hr_102, he⟩ := bnd_ex he
      have j206 : ∀ (H : Heap) (locs : List Loc) (ls : Array Slot), va_P D vwCl (wld 68 ad (cC ad k M_114)) H → va_S (AW 68 ad) s.heap H locs → lv_has ls 6 [] → W p l e rm_X3_step s m args below meth c H locs 0 0 Q (F0 m 206 ls []) := by
        intro H locs ls hP hS hl
        exact hret _ _ _ _ _ (hV.trans he.symm) hP hS dX3_step_206
      have lp154 : ∀ (nn : Nat) (H : Heap) (locs : List Loc) (ls : Array Slot) (M_101 : Mem) (v_100 : Int32), (0 ≤ v_100.toInt) → (4 - v_100.toInt).toNat < nn → lp_X3_step_154 nn o a1 M_101 v_100 = M_114 → va_P D vwCl (wld 68 ad (cC ad k M_101)) H → va_S (AW 68 ad) s.heap H locs → lv_has ls 6 [(0, .ref (ad o)), (1, .ref (ad a1)), (4, .int v_100)] → W p l e rm_X3_step s m args below meth c H locs 0 0 Q (F0 m 154 ls []) := by
        intro nn
        induction nn with
        | zero =>
          intro H locs ls M_101 v_100 h0v_100 hμ
          exact absurd hμ (Nat.not_lt_zero _)
        | succ nn ih =>
          intro H locs ls M_101 v_100 h0v_100 hμ hr_102 hP hS hl
          rw [lp_X3_step_154] at hr_102
          refine lv_iload hx hb dX3_step_154 (lv_at hl 2 rfl) ?_
          refine lv_aload_n hx hb dX3_step_156 rfl (lv_at hl 0 rfl) ?_
          refine gX3_1 hx hb hG hown hK hP ho gw_6_5 dX3_step_157 ?_
          refine lv_icmp_ge (tgt := 206) hx hb dX3_step_160 (by decide) (fun hc_103 => ?_) (fun hc_103 => ?_)
          · have hr_102 := ite_t hr_102 hc_103
            cases hr_102
            exact j206 _ _ _ hP hS (lv_sub hl [] rfl)
          · have hr_102 := ite_f hr_102 hc_103
            refine lv_iload hx hb dX3_step_163 (lv_at hl 2 rfl) ?_
            refine lv_aload_n hx hb dX3_step_165 rfl (lv_at hl 0 rfl) ?_
            refine gX3_0 hx hb hG hown hK hP ho gw_3_7 dX3_step_166 ?_
            refine an_kBts hx hb hK hP (kR_bts ho) dX3_step_169 ?_
            refine lv_icmp_ge (tgt := 206) hx hb dX3_step_170 (by decide) (fun hc_104 => ?_) (fun hc_104 => ?_)
            · have hr_102 := ite_t hr_102 hc_104
              cases hr_102
              exact j206 _ _ _ hP hS (lv_sub hl [] rfl)
            · have hr_102 := ite_f hr_102 hc_104
              refine lv_aload_n hx hb dX3_step_173 rfl (lv_at hl 0 rfl) ?_
              refine gX3_0 hx hb hG hown hK hP ho gw_3_7 dX3_step_174 ?_
              refine lv_iload hx hb dX3_step_177 (lv_at hl 2 rfl) ?_
              have hn_105 : vp_in v_100 4 := (vin_I (by have q0 : v_100.toInt < (M_101 o 1).toInt := nle_I hc_103; have q1 : v_100.toInt < 4 := nle_I hc_104; omega) (by have q0 : v_100.toInt < (M_101 o 1).toInt := nle_I hc_103; have q1 : v_100.toInt < 4 := nle_I hc_104; omega))
              refine al_kBts hx hb hK hP (kR_bts ho) hn_105 dX3_step_179 ?_
              refine gX1_10 hx hb hG hown hK hP (kR_boat (kR_bts ho) hn_105) gw_19_17 dX3_step_180 ?_
              obtain ⟨M_112, hr_107, hr_102⟩ := bnd_ex hr_102
              have j200 : ∀ (H : Heap) (locs : List Loc) (ls : Array Slot), va_P D vwCl (wld 68 ad (cC ad k M_112)) H → va_S (AW 68 ad) s.heap H locs → lv_has ls 6 [(0, .ref (ad o)), (1, .ref (ad a1)), (4, .int v_100)] → W p l e rm_X3_step s m args below meth c H locs 0 0 Q (F0 m 200 ls []) := by
                intro H locs ls hP hS hl
                obtain ⟨y_113, ey_113⟩ : ∃ y_113 : Int32, y_113 = v_100 + 1 := ⟨_, rfl⟩
                have hr_102 := bnd_at hr_102 ey_113
                refine lv_iinc (v := y_113) (lv' := [(4, .int y_113), (0, .ref (ad o)), (1, .ref (ad a1))]) hx hb dX3_step_200 hl (k := 2) rfl (by rw [ey_113]; rfl) (by decide) rfl (fun ls hl => ?_)
                refine lv_goto (tgt := 154) hx hb dX3_step_203 (by decide) ?_
                exact ih _ _ _ _ _ (by rw [ey_113, inc_I (N := 4) (nle_I hc_104) (by decide)]; omega) (by rw [ey_113]; exact mu_I hμ (nle_I hc_104) (by decide)) hr_102 hP hS (lv_sub hl [1, 2, 0] rfl)
              refine lv_if_eq (tgt := 200) hx hb dX3_step_183 (by decide) (fun hc_106 => ?_) (fun hc_106 => ?_)
              · have hr_107 := ite_t hr_107 hc_106
                cases hr_107
                exact j200 _ _ _ hP hS (lv_sub hl [0, 1, 2] rfl)
              · have hr_107 := ite_f hr_107 hc_106
                refine lv_aload_n hx hb dX3_step_186 rfl (lv_at hl 0 rfl) ?_
                refine gX3_0 hx hb hG hown hK hP ho gw_3_7 dX3_step_187 ?_
                refine lv_iload hx hb dX3_step_190 (lv_at hl 2 rfl) ?_
                have hn_108 : vp_in v_100 4 := (vin_I (by have q0 : v_100.toInt < (M_101 o 1).toInt := nle_I hc_103; have q1 : v_100.toInt < 4 := nle_I hc_104; have q2 : (b01 (M_101 (4 * (o + 3) - 45 + v_100.toNatClampNeg) 10)).toInt ≠ 0 := ne_I hc_106; omega) (by have q0 : v_100.toInt < (M_101 o 1).toInt := nle_I hc_103; have q1 : v_100.toInt < 4 := nle_I hc_104; have q2 : (b01 (M_101 (4 * (o + 3) - 45 + v_100.toNatClampNeg) 10)).toInt ≠ 0 := ne_I hc_106; omega))
                refine al_kBts hx hb hK hP (kR_bts ho) hn_108 dX3_step_192 ?_
                refine lv_aload_n hx hb dX3_step_193 rfl (lv_at hl 1 rfl) ?_
                refine gX0_3 hx hb hG hown hK hP ha1 gw_19_18 dX3_step_194 ?_
                refine call_v [.int (M_101 a1 3)] [] hx hb hml hG hown hK (c_X1_comeAbout had M_101 (4 * (o + 3) - 45 + v_100.toNatClampNeg) (kR_boat (kR_bts ho) hn_108) (M_101 a1 3)) gw_22_6 gm_X1_comeAbout gd_X1_comeAbout rfl rfl ⟨Nat.le_of_ble_eq_true rfl, Nat.le_of_ble_eq_true rfl⟩ ⟨Nat.le_refl _, Nat.le_refl _⟩ (rX1 hK hP (kR_boat (kR_bts ho) hn_108)) hP (fun _ h => h) hS rfl hl.1 rfl (Nat.le_of_ble_eq_true rfl) dX3_step_197 (fun M_111 H locs hF_110 hP hS => ?_)
                have hr_107 := bnd_at hr_107 hF_110.symm
                cases hr_107
                exact j200 _ _ _ hP hS (lv_sub hl [0, 1, 2] rfl)
      exact lp154 _ _ _ _ _ _ (by decide) (by decide) hr_102 hP hS (lv_sub hl [1, 2, 0] rfl)
    have lp79 : ∀ (nn : Nat) (H : Heap) (locs : List Loc) (ls : Array Slot) (M_61 : Mem) (v_60 : Int32), (0 ≤ v_60.toInt) → (4 - v_60.toInt).toNat < nn → lp_X3_step_79 nn o a1 r_32 M_61 v_60 = M_85 → va_P D vwCl (wld 68 ad (cC ad k M_61)) H → va_S (AW 68 ad) s.heap H locs → lv_has ls 6 [(0, .ref (ad o)), (1, .ref (ad a1)), (3, .int r_32), (4, .int v_60)] → W p l e rm_X3_step s m args below meth c H locs 0 0 Q (F0 m 79 ls []) := by
      intro nn
      induction nn with
      | zero =>
        intro H locs ls M_61 v_60 h0v_60 hμ
        exact absurd hμ (Nat.not_lt_zero _)
      | succ nn ih =>
        intro H locs ls M_61 v_60 h0v_60 hμ hr_62 hP hS hl
        rw [lp_X3_step_79] at hr_62
        refine lv_iload hx hb dX3_step_79 (lv_at hl 3 rfl) ?_
        refine lv_aload_n hx hb dX3_step_81 rfl (lv_at hl 0 rfl) ?_
        refine gX3_1 hx hb hG hown hK hP ho gw_6_5 dX3_step_82 ?_
        refine lv_icmp_ge (tgt := 151) hx hb dX3_step_85 (by decide) (fun hc_63 => ?_) (fun hc_63 => ?_)
        · have hr_62 := ite_t hr_62 hc_63
          cases hr_62
          exact j151 _ _ _ hP hS (lv_sub hl [0, 1] rfl)
        · have hr_62 := ite_f hr_62 hc_63
          refine lv_iload hx hb dX3_step_88 (lv_at hl 3 rfl) ?_
          refine lv_aload_n hx hb dX3_step_90 rfl (lv_at hl 0 rfl) ?_
          refine gX3_0 hx hb hG hown hK hP ho gw_3_7 dX3_step_91 ?_
          refine an_kBts hx hb hK hP (kR_bts ho) dX3_step_94 ?_
          refine lv_icmp_ge (tgt := 151) hx hb dX3_step_95 (by decide) (fun hc_64 => ?_) (fun hc_64 => ?_)
          · have hr_62 := ite_t hr_62 hc_64
            cases hr_62
            exact j151 _ _ _ hP hS (lv_sub hl [0, 1] rfl)
          · have hr_62 := ite_f hr_62 hc_64
            refine lv_aload_n hx hb dX3_step_98 rfl (lv_at hl 0 rfl) ?_
            refine gX3_0 hx hb hG hown hK hP ho gw_3_7 dX3_step_99 ?_
            refine lv_iload hx hb dX3_step_102 (lv_at hl 3 rfl) ?_
            have hn_65 : vp_in v_60 4 := (vin_I (by have q0 : v_60.toInt < (M_61 o 1).toInt := nle_I hc_63; have q1 : v_60.toInt < 4 := nle_I hc_64; omega) (by have q0 : v_60.toInt < (M_61 o 1).toInt := nle_I hc_63; have q1 : v_60.toInt < 4 := nle_I hc_64; omega))
            refine al_kBts hx hb hK hP (kR_bts ho) hn_65 dX3_step_104 ?_
            refine lv_astore (lv' := [(5, .ref (ad (4 * (o + 3) - 45 + v_60.toNatClampNeg))), (0, .ref (ad o)), (1, .ref (ad a1)), (3, .int r_32), (4, .int v_60)]) hx hb dX3_step_105 hl (by decide) rfl (fun ls hl => ?_)
            refine lv_aload hx hb dX3_step_107 (lv_at hl 0 rfl) ?_
            refine lv_aload hx hb dX3_step_109 (lv_at hl 0 rfl) ?_
            refine lv_aload_n hx hb dX3_step_111 rfl (lv_at hl 2 rfl) ?_
            refine call_i [.ref (ad a1)] [.ref (ad (4 * (o + 3) - 45 + v_60.toNatClampNeg))] hx hb hml hG hown hK (c_X1_canTurn had M_61 (4 * (o + 3) - 45 + v_60.toNatClampNeg) (kR_boat (kR_bts ho) hn_65) a1 ha1) gw_20_11 gm_X1_canTurn gd_X1_canTurn rfl rfl ⟨Nat.le_of_ble_eq_true rfl, Nat.le_of_ble_eq_true rfl⟩ ⟨Nat.le_refl _, Nat.le_refl _⟩ (rX1 hK hP (kR_boat (kR_bts ho) hn_65)) hP (fun _ h => h) hS rfl hl.1 rfl (Nat.le_of_ble_eq_true rfl) dX3_step_112 (fun r_66 u_68 H locs hF_67 hP hS => ?_)
            obtain ⟨hz_69, hF_67, hu⟩ := hF_67; rw [hu] at hP; subst hF_67
            obtain ⟨t_82, hr_71, hr_62⟩ := bnd_ex hr_62
            have j142 : ∀ (H : Heap) (locs : List Loc) (ls : Array Slot), (t_82 = 0 ∨ t_82 = 1) → va_P D vwCl (wld 68 ad (cC ad k M_61)) H → va_S (AW 68 ad) s.heap H locs → lv_has ls 6 [(0, .ref (ad o)), (1, .ref (ad a1)), (3, .int r_32), (4, .int v_60)] → W p l e rm_X3_step s m args below meth c H locs 0 0 Q (F0 m 142 ls [.int t_82, .ref (ad (4 * (o + 3) - 45 + v_60.toNatClampNeg))]) := by
              intro H locs ls zt_82 hP hS hl
              refine pX1_10 hx hb hG hown hK hP had AW_in hS (kR_boat (kR_bts ho) hn_65) gw_19_17 zt_82  dX3_step_142 (fun H locs hP hS => ?_)
              obtain ⟨M_83, eM_83⟩ : ∃ y : Mem, y = up2 M_61 (4 * (o + 3) - 45 + v_60.toNatClampNeg) 10 t_82 := ⟨_, rfl⟩
              rw [← eM_83] at hP
              have hr_62 := bnd_at hr_62 eM_83
              obtain ⟨y_84, ey_84⟩ : ∃ y_84 : Int32, y_84 = v_60 + 1 := ⟨_, rfl⟩
              have hr_62 := bnd_at hr_62 ey_84
              refine lv_iinc (v := y_84) (lv' := [(4, .int y_84), (0, .ref (ad o)), (1, .ref (ad a1)), (3, .int r_32)]) hx hb dX3_step_145 hl (k := 3) rfl (by rw [ey_84]; rfl) (by decide) rfl (fun ls hl => ?_)
              refine lv_goto (tgt := 79) hx hb dX3_step_148 (by decide) ?_
              exact ih _ _ _ _ _ (by rw [ey_84, inc_I (N := 4) (nle_I hc_64) (by decide)]; omega) (by rw [ey_84]; exact mu_I hμ (nle_I hc_64) (by decide)) hr_62 hP hS (lv_sub hl [1, 2, 3, 0] rfl)
            refine lv_if_eq (tgt := 141) hx hb dX3_step_115 (by decide) (fun hc_70 => ?_) (fun hc_70 => ?_)
            · have hr_71 := ite_t hr_71 hc_70
              refine lv_iconst (v := 0) hx hb dX3_step_141 (by decide) ?_
              cases hr_71
              exact j142 _ _ _ (Or.inl rfl) hP hS (lv_sub hl [1, 2, 3, 4] rfl)
            · have hr_71 := ite_f hr_71 hc_70
              refine lv_aload hx hb dX3_step_118 (lv_at hl 0 rfl) ?_
              refine call_i [] [.ref (ad (4 * (o + 3) - 45 + v_60.toNatClampNeg))] hx hb hml hG hown hK (c_X1_goesOut had M_61 (4 * (o + 3) - 45 + v_60.toNatClampNeg) (kR_boat (kR_bts ho) hn_65)) gw_20_15 gm_X1_goesOut gd_X1_goesOut rfl rfl ⟨Nat.le_of_ble_eq_true rfl, Nat.le_of_ble_eq_true rfl⟩ ⟨Nat.le_refl _, Nat.le_refl _⟩ (rX1 hK hP (kR_boat (kR_bts ho) hn_65)) hP (fun _ h => h) hS rfl hl.1 rfl (Nat.le_of_ble_eq_true rfl) dX3_step_120 (fun r_72 u_74 H locs hF_73 hP hS => ?_)
              obtain ⟨hz_75, hF_73, hu⟩ := hF_73; rw [hu] at hP; subst hF_73
              refine lv_if_ne (tgt := 137) hx hb dX3_step_123 (by decide) (fun hc_76 => ?_) (fun hc_76 => ?_)
              · have hr_71 := ite_t hr_71 hc_76
                refine lv_iconst (v := 1) hx hb dX3_step_137 (by decide) ?_
                refine lv_goto (tgt := 142) hx hb dX3_step_138 (by decide) ?_
                cases hr_71
                exact j142 _ _ _ (Or.inr rfl) hP hS (lv_sub hl [1, 2, 3, 4] rfl)
              · have hr_71 := ite_f hr_71 (fun q => q hc_76)
                refine lv_aload_n hx hb dX3_step_126 rfl (lv_at hl 1 rfl) ?_
                refine lv_aload hx hb dX3_step_127 (lv_at hl 0 rfl) ?_
                refine lv_aload_n hx hb dX3_step_129 rfl (lv_at hl 2 rfl) ?_
                refine lv_iload_n hx hb dX3_step_130 rfl (lv_at hl 3 rfl) ?_
                refine call_i [.ref (ad (4 * (o + 3) - 45 + v_60.toNatClampNeg)), .ref (ad a1), .int r_32] [.ref (ad (4 * (o + 3) - 45 + v_60.toNatClampNeg))] hx hb hml hG hown hK (c_X3_wantsToTurn had M_61 o ho (4 * (o + 3) - 45 + v_60.toNatClampNeg) (kR_boat (kR_bts ho) hn_65) a1 ha1 r_32) gw_20_19 gm_X3_wantsToTurn gd_X3_wantsToTurn rfl rfl ⟨Nat.le_of_ble_eq_true rfl, Nat.le_of_ble_eq_true rfl⟩ ⟨Nat.le_refl _, Nat.le_refl _⟩ (rX3 hK hP ho) hP (fun _ h => h) hS rfl hl.1 rfl (Nat.le_of_ble_eq_true rfl) dX3_step_131 (fun r_77 u_79 H locs hF_78 hP hS => ?_)
                obtain ⟨hz_80, hF_78, hu⟩ := hF_78; rw [hu] at hP; subst hF_78
                refine lv_if_eq (tgt := 141) hx hb dX3_step_134 (by decide) (fun hc_81 => ?_) (fun hc_81 => ?_)
                · have hr_71 := ite_t hr_71 hc_81
                  refine lv_iconst (v := 0) hx hb dX3_step_141 (by decide) ?_
                  cases hr_71
                  exact j142 _ _ _ (Or.inl rfl) hP hS (lv_sub hl [1, 2, 3, 4] rfl)
                · have hr_71 := ite_f hr_71 hc_81
                  refine lv_iconst (v := 1) hx hb dX3_step_137 (by decide) ?_
                  refine lv_goto (tgt := 142) hx hb dX3_step_138 (by decide) ?_
                  cases hr_71
                  exact j142 _ _ _ (Or.inr rfl) hP hS (lv_sub hl [1, 2, 3, 4] rfl)
    exact lp79 _ _ _ _ _ _ (by decide) (by decide) hr_62 hP hS (lv_sub hl [2, 3, 1, 0] rfl)
  have lp25 : ∀ (nn : Nat) (H : Heap) (locs : List Loc) (ls : Array Slot) (M_19 : Mem) (v_18 : Int32), (0 ≤ v_18.toInt) → (4 - v_18.toInt).toNat < nn → lp_X3_step_25 nn o a1 r_4 M_19 v_18 = M_28 → va_P D vwCl (wld 68 ad (cC ad k M_19)) H → va_S (AW 68 ad) s.heap H locs → lv_has ls 6 [(0, .ref (ad o)), (1, .ref (ad a1)), (2, .int r_4), (3, .int v_18)] → W p l e rm_X3_step s m args below meth c H locs 0 0 Q (F0 m 25 ls []) := by
    intro nn
    induction nn with
    | zero =>
      intro H locs ls M_19 v_18 h0v_18 hμ
      exact absurd hμ (Nat.not_lt_zero _)
    | succ nn ih =>
      intro H locs ls M_19 v_18 h0v_18 hμ hr_20 hP hS hl
      rw [lp_X3_step_25] at hr_20
      refine lv_iload_n hx hb dX3_step_25 rfl (lv_at hl 3 rfl) ?_
      refine lv_aload_n hx hb dX3_step_26 rfl (lv_at hl 0 rfl) ?_
      refine gX3_1 hx hb hG hown hK hP ho gw_6_5 dX3_step_27 ?_
      refine lv_icmp_ge (tgt := 63) hx hb dX3_step_30 (by decide) (fun hc_21 => ?_) (fun hc_21 => ?_)
      · have hr_20 := ite_t hr_20 hc_21
        cases hr_20
        exact j63 _ _ _ hP hS (lv_sub hl [0, 1] rfl)
      · have hr_20 := ite_f hr_20 hc_21
        refine lv_iload_n hx hb dX3_step_33 rfl (lv_at hl 3 rfl) ?_
        refine lv_aload_n hx hb dX3_step_34 rfl (lv_at hl 0 rfl) ?_
        refine gX3_0 hx hb hG hown hK hP ho gw_3_7 dX3_step_35 ?_
        refine an_kBts hx hb hK hP (kR_bts ho) dX3_step_38 ?_
        refine lv_icmp_ge (tgt := 63) hx hb dX3_step_39 (by decide) (fun hc_22 => ?_) (fun hc_22 => ?_)
        · have hr_20 := ite_t hr_20 hc_22
          cases hr_20
          exact j63 _ _ _ hP hS (lv_sub hl [0, 1] rfl)
        · have hr_20 := ite_f hr_20 hc_22
          refine lv_aload_n hx hb dX3_step_42 rfl (lv_at hl 0 rfl) ?_
          refine gX3_0 hx hb hG hown hK hP ho gw_3_7 dX3_step_43 ?_
          refine lv_iload_n hx hb dX3_step_46 rfl (lv_at hl 3 rfl) ?_
          have hn_23 : vp_in v_18 4 := (vin_I (by have q0 : v_18.toInt < (M_19 o 1).toInt := nle_I hc_21; have q1 : v_18.toInt < 4 := nle_I hc_22; omega) (by have q0 : v_18.toInt < (M_19 o 1).toInt := nle_I hc_21; have q1 : v_18.toInt < 4 := nle_I hc_22; omega))
          refine al_kBts hx hb hK hP (kR_bts ho) hn_23 dX3_step_47 ?_
          refine lv_aload_n hx hb dX3_step_48 rfl (lv_at hl 1 rfl) ?_
          refine lv_iload_n hx hb dX3_step_49 rfl (lv_at hl 2 rfl) ?_
          refine lv_aload_n hx hb dX3_step_50 rfl (lv_at hl 0 rfl) ?_
          refine gX3_2 hx hb hG hown hK hP ho gw_18_23 dX3_step_51 ?_
          refine call_v [.ref (ad a1), .int r_4, .int (M_19 o 2)] [] hx hb hml hG hown hK (c_X1_sail had M_19 (4 * (o + 3) - 45 + v_18.toNatClampNeg) (kR_boat (kR_bts ho) hn_23) a1 ha1 r_4 (M_19 o 2)) gw_19_21 gm_X1_sail gd_X1_sail rfl rfl ⟨Nat.le_of_ble_eq_true rfl, Nat.le_of_ble_eq_true rfl⟩ ⟨Nat.le_refl _, Nat.le_refl _⟩ (rX1 hK hP (kR_boat (kR_bts ho) hn_23)) hP (fun _ h => h) hS rfl hl.1 rfl (Nat.le_of_ble_eq_true rfl) dX3_step_54 (fun M_26 H locs hF_25 hP hS => ?_)
          have hr_20 := bnd_at hr_20 hF_25.symm
          obtain ⟨y_27, ey_27⟩ : ∃ y_27 : Int32, y_27 = v_18 + 1 := ⟨_, rfl⟩
          have hr_20 := bnd_at hr_20 ey_27
          refine lv_iinc (v := y_27) (lv' := [(3, .int y_27), (0, .ref (ad o)), (1, .ref (ad a1)), (2, .int r_4)]) hx hb dX3_step_57 hl (k := 3) rfl (by rw [ey_27]; rfl) (by decide) rfl (fun ls hl => ?_)
          refine lv_goto (tgt := 25) hx hb dX3_step_60 (by decide) ?_
          exact ih _ _ _ _ _ (by rw [ey_27, inc_I (N := 4) (nle_I hc_22) (by decide)]; omega) (by rw [ey_27]; exact mu_I hμ (nle_I hc_22) (by decide)) hr_20 hP hS (lv_sub hl [1, 2, 3, 0] rfl)
  exact lp25 _ _ _ _ _ _ (by decide) (by decide) hr_20 hP hS (lv_sub hl [2, 3, 1, 0] rfl)
def rm_X3_goOn : Room := { frames := 27, cells := 0, slots := 0, locals := 893 }
theorem gm_X3_goOn : Cond.instanceMethod yX3_goOn ∈ wsL_law ∧ Cond.selects RX3 yX3_goOn yX3_goOn ∈ wsL_law ∧ Cond.initialized RX3 ∈ wsL_law ∧ Cond.code yX3_goOn cX3_goOn 4 none ∈ wsL_law := ⟨gw_19_9, gw_19_10, gw_1_19, gw_19_11⟩
theorem gd_X3_goOn : yX3_goOn.cls = RX3 ∧ yX3_goOn.cls ≠ "java/lang/invoke/MethodHandle" ∧ yX3_goOn.cls ≠ "java/lang/invoke/VarHandle" ∧ (parseMethodDescriptor yX3_goOn.desc).map (fun d => d.parameters.length) = some 2 := by decide +kernel
set_option maxRecDepth 100000 in
set_option maxHeartbeats 0 in
theorem c_X3_goOn {l : Launch} {D : va_G} {k : Nat → ClassId} {ad : Nat → Nat} (had : InjN 68 ad) (M : Mem) (o : Nat) (ho : kRace o) (a1 : Nat) (ha1 : kBay a1) (a2 : Int32) : Met l yX3_goOn (Cond.code yX3_goOn cX3_goOn 4 none :: wsL_law) rm_X3_goOn (va_Pc [.ref (ad o), .ref (ad a1), .int a2] (GW 68 ad D k (cC ad k M))) (va_Qv (fun u => f_X3_goOn M o a1 a2 = u) (fun u t => GW 68 ad D k (cC ad k u) t) (AW 68 ad)) 0 0 (AW 68 ad) := by
  refine met_v (g := cC ad k) (M := M) (plainFor_of_name (by decide)) (Nat.le_of_ble_eq_true rfl) ?_
  intro p e s m args below meth c Q ls hx hb hml hG hown hK hret hP hS hl
  have hl : lv_has ls 4 [(0, .ref (ad o)), (1, .ref (ad a1)), (2, .int a2)] := hl
  obtain ⟨V, hV⟩ : ∃ V, f_X3_goOn M o a1 a2 = V := ⟨_, rfl⟩
  have he := hV
  unfold f_X3_goOn at he
  refine lv_iconst (v := 0) hx hb dX3_goOn_0 (by decide) ?_
  refine lv_istore_n (lv' := [(3, .int 0), (0, .ref (ad o)), (1, .ref (ad a1)), (2, .int a2)]) hx hb dX3_goOn_1 rfl hl (by decide) rfl (fun ls hl => ?_)
  obtain ⟨M_27, hr_16, he⟩ := bnd_ex he
  have j25 : ∀ (H : Heap) (locs : List Loc) (ls : Array Slot), va_P D vwCl (wld 68 ad (cC ad k M_27)) H → va_S (AW 68 ad) s.heap H locs → lv_has ls 4 [] → W p l e rm_X3_goOn s m args below meth c H locs 0 0 Q (F0 m 25 ls []) := by
    intro H locs ls hP hS hl
    exact hret _ _ _ _ _ (hV.trans he.symm) hP hS dX3_goOn_25
  have lp2 : ∀ (nn : Nat) (H : Heap) (locs : List Loc) (ls : Array Slot) (M_15 : Mem) (v_14 : Int32), (0 ≤ v_14.toInt) → (a2.toInt - v_14.toInt).toNat < nn → lp_X3_goOn_2 nn o a1 a2 M_15 v_14 = M_27 → va_P D vwCl (wld 68 ad (cC ad k M_15)) H → va_S (AW 68 ad) s.heap H locs → lv_has ls 4 [(0, .ref (ad o)), (1, .ref (ad a1)), (2, .int a2), (3, .int v_14)] → W p l e rm_X3_goOn s m args below meth c H locs 0 0 Q (F0 m 2 ls []) := by
    intro nn
    induction nn with
    | zero =>
      intro H locs ls M_15 v_14 h0v_14 hμ
      exact absurd hμ (Nat.not_lt_zero _)
    | succ nn ih =>
      intro H locs ls M_15 v_14 h0v_14 hμ hr_16 hP hS hl
      rw [lp_X3_goOn_2] at hr_16
      refine lv_iload_n hx hb dX3_goOn_2 rfl (lv_at hl 3 rfl) ?_
      refine lv_iload_n hx hb dX3_goOn_3 rfl (lv_at hl 2 rfl) ?_
      refine lv_icmp_ge (tgt := 25) hx hb dX3_goOn_4 (by decide) (fun hc_17 => ?_) (fun hc_17 => ?_)
      · have hr_16 := ite_t hr_16 hc_17
        cases hr_16
        exact j25 _ _ _ hP hS (lv_sub hl [] rfl)
      · have hr_16 := ite_f hr_16 hc_17
        refine lv_aload_n hx hb dX3_goOn_7 rfl (lv_at hl 0 rfl) ?_
        refine call_i [] [] hx hb hml hG hown hK (c_X3_hasEnded had M_15 o ho) gw_19_12 gm_X3_hasEnded gd_X3_hasEnded rfl rfl ⟨Nat.le_of_ble_eq_true rfl, Nat.le_of_ble_eq_true rfl⟩ ⟨Nat.le_refl _, Nat.le_refl _⟩ (rX3 hK hP ho) hP (fun _ h => h) hS rfl hl.1 rfl (Nat.le_of_ble_eq_true rfl) dX3_goOn_8 (fun r_18 u_20 H locs hF_19 hP hS => ?_)
        obtain ⟨hz_21, hF_19, hu⟩ := hF_19; rw [hu] at hP; subst hF_19
        refine lv_if_ne (tgt := 25) hx hb dX3_goOn_11 (by decide) (fun hc_22 => ?_) (fun hc_22 => ?_)
        · have hr_16 := ite_t hr_16 hc_22
          cases hr_16
          exact j25 _ _ _ hP hS (lv_sub hl [] rfl)
        · have hr_16 := ite_f hr_16 (fun q => q hc_22)
          refine lv_aload_n hx hb dX3_goOn_14 rfl (lv_at hl 0 rfl) ?_
          refine lv_aload_n hx hb dX3_goOn_15 rfl (lv_at hl 1 rfl) ?_
          refine call_v [.ref (ad a1)] [] hx hb hml hG hown hK (c_X3_step had M_15 o ho a1 ha1) gw_19_13 gm_X3_step gd_X3_step rfl rfl ⟨Nat.le_of_ble_eq_true rfl, Nat.le_of_ble_eq_true rfl⟩ ⟨Nat.le_refl _, Nat.le_refl _⟩ (rX3 hK hP ho) hP (fun _ h => h) hS rfl hl.1 rfl (Nat.le_of_ble_eq_true rfl) dX3_goOn_16 (fun M_25 H locs hF_24 hP hS => ?_)
          have hr_16 := bnd_at hr_16 hF_24.symm
          obtain ⟨y_26, ey_26⟩ : ∃ y_26 : Int32, y_26 = v_14 + 1 := ⟨_, rfl⟩
          have hr_16 := bnd_at hr_16 ey_26
          refine lv_iinc (v := y_26) (lv' := [(3, .int y_26), (0, .ref (ad o)), (1, .ref (ad a1)), (2, .int a2)]) hx hb dX3_goOn_19 hl (k := 3) rfl (by rw [ey_26]; rfl) (by decide) rfl (fun ls hl => ?_)
          refine lv_goto (tgt := 2) hx hb dX3_goOn_22 (by decide) ?_
          exact ih _ _ _ _ _ (by rw [ey_26, inc_I (N := a2.toInt) (nle_I hc_17) (Int32.toInt_le _)]; omega) (by rw [ey_26]; exact mu_I hμ (nle_I hc_17) (Int32.toInt_le _)) hr_16 hP hS (lv_sub hl [1, 2, 3, 0] rfl)
  exact lp2 _ _ _ _ _ _ (by decide) (Nat.lt_succ_self _) hr_16 hP hS (lv_sub hl [1, 2, 3, 0] rfl)
def rm_X6_go : Room := { frames := 28, cells := 0, slots := 0, locals := 916 }
theorem gm_X6_go : Cond.instanceMethod yX6_go ∈ wsL_law ∧ Cond.selects RX6 yX6_go yX6_go ∈ wsL_law ∧ Cond.initialized RX6 ∈ wsL_law ∧ Cond.code yX6_go cX6_go 2 (some .int) ∈ wsL_law := ⟨gw_18_15, gw_18_16, gw_1_2, gw_18_17⟩
theorem gd_X6_go : yX6_go.cls = RX6 ∧ yX6_go.cls ≠ "java/lang/invoke/MethodHandle" ∧ yX6_go.cls ≠ "java/lang/invoke/VarHandle" ∧ (parseMethodDescriptor yX6_go.desc).map (fun d => d.parameters.length) = some 1 := by decide +kernel
set_option maxRecDepth 100000 in
set_option maxHeartbeats 0 in
theorem c_X6_go {l : Launch} {D : va_G} {k : Nat → ClassId} {ad : Nat → Nat} (had : InjN 68 ad) (M : Mem) (a1 : Int32) : Met l yX6_go (Cond.code yX6_go cX6_go 2 (some .int) :: wsL_law) rm_X6_go (va_Pc [.ref (ad 0), .int a1] (GW 68 ad D k (cC ad k M))) (va_Qi (fun r u => f_X6_go M a1 = (r, u)) (fun u t => GW 68 ad D k (cC ad k u) t) (AW 68 ad)) 0 0 (AW 68 ad) := by
  refine met_i (g := cC ad k) (M := M) (plainFor_of_name (by decide)) (Nat.le_of_ble_eq_true rfl) ?_
  intro p e s m args below meth c Q ls hx hb hml hG hown hK hret hP hS hl
  have hl : lv_has ls 2 [(0, .ref (ad 0)), (1, .int a1)] := hl
  obtain ⟨V, hV⟩ : ∃ V, f_X6_go M a1 = V := ⟨_, rfl⟩
  have he := hV
  unfold f_X6_go at he
  refine lv_iload_n hx hb dX6_go_0 rfl (lv_at hl 1 rfl) ?_
  refine lv_iconst (v := 1) hx hb dX6_go_1 (by decide) ?_
  refine lv_icmp_lt (tgt := 11) hx hb dX6_go_2 (by decide) (fun hc_1 => ?_) (fun hc_1 => ?_)
  · have he := ite_t he hc_1
    refine lv_iconst (v := (-1)) hx hb dX6_go_11 (by decide) ?_
    exact hret _ _ _ _ _ _ (hV.trans he.symm) hP hS dX6_go_12
  · have he := ite_f he hc_1
    refine lv_iload_n hx hb dX6_go_5 rfl (lv_at hl 1 rfl) ?_
    refine lv_bipush (v := 100) hx hb dX6_go_6 (by decide) ?_
    refine lv_icmp_le (tgt := 13) hx hb dX6_go_8 (by decide) (fun hc_2 => ?_) (fun hc_2 => ?_)
    · have he := ite_t he hc_2
      refine lv_aload_n hx hb dX6_go_13 rfl (lv_at hl 0 rfl) ?_
      refine gX6_1 hx hb hG hown hK hP rfl gw_1_20 dX6_go_14 ?_
      refine gX3_1 hx hb hG hown hK hP (by decide) gw_18_18 dX6_go_17 ?_
      refine lv_if_eq (tgt := 33) hx hb dX6_go_20 (by decide) (fun hc_3 => ?_) (fun hc_3 => ?_)
      · have he := ite_t he hc_3
        refine lv_bipush (v := (-3)) hx hb dX6_go_33 (by decide) ?_
        exact hret _ _ _ _ _ _ (hV.trans he.symm) hP hS dX6_go_35
      · have he := ite_f he hc_3
        refine lv_aload_n hx hb dX6_go_23 rfl (lv_at hl 0 rfl) ?_
        refine gX6_1 hx hb hG hown hK hP rfl gw_1_20 dX6_go_24 ?_
        refine call_i [] [] hx hb hml hG hown hK (c_X3_hasEnded had M 13 (by decide)) gw_18_19 gm_X3_hasEnded gd_X3_hasEnded rfl rfl ⟨Nat.le_of_ble_eq_true rfl, Nat.le_of_ble_eq_true rfl⟩ ⟨Nat.le_refl _, Nat.le_refl _⟩ (rX3 hK hP (by decide)) hP (fun _ h => h) hS rfl hl.1 rfl (Nat.le_of_ble_eq_true rfl) dX6_go_27 (fun r_4 u_6 H locs hF_5 hP hS => ?_)
        obtain ⟨hz_7, hF_5, hu⟩ := hF_5; rw [hu] at hP; subst hF_5
        refine lv_if_eq (tgt := 36) hx hb dX6_go_30 (by decide) (fun hc_8 => ?_) (fun hc_8 => ?_)
        · have he := ite_t he hc_8
          refine lv_aload_n hx hb dX6_go_36 rfl (lv_at hl 0 rfl) ?_
          refine gX6_1 hx hb hG hown hK hP rfl gw_1_20 dX6_go_37 ?_
          refine lv_aload_n hx hb dX6_go_40 rfl (lv_at hl 0 rfl) ?_
          refine gX6_0 hx hb hG hown hK hP rfl gw_1_16 dX6_go_41 ?_
          refine lv_iload_n hx hb dX6_go_44 rfl (lv_at hl 1 rfl) ?_
          refine call_v [.ref (ad 1), .int a1] [] hx hb hml hG hown hK (c_X3_goOn had M 13 (by decide) 1 (by decide) a1) gw_19_8 gm_X3_goOn gd_X3_goOn rfl rfl ⟨Nat.le_of_ble_eq_true rfl, Nat.le_of_ble_eq_true rfl⟩ ⟨Nat.le_refl _, Nat.le_refl _⟩ (rX3 hK hP (by decide)) hP (fun _ h => h) hS rfl hl.1 rfl (Nat.le_of_ble_eq_true rfl) dX6_go_45 (fun M_11 H locs hF_10 hP hS => ?_)
          have he := bnd_at he hF_10.symm
          refine lv_aload_n hx hb dX6_go_48 rfl (lv_at hl 0 rfl) ?_
          refine gX6_1 hx hb hG hown hK hP rfl gw_1_20 dX6_go_49 ?_
          refine gX3_2 hx hb hG hown hK hP (by decide) gw_14_4 dX6_go_52 ?_
          exact hret _ _ _ _ _ _ (hV.trans he.symm) hP hS dX6_go_55
        · have he := ite_f he hc_8
          refine lv_bipush (v := (-3)) hx hb dX6_go_33 (by decide) ?_
          exact hret _ _ _ _ _ _ (hV.trans he.symm) hP hS dX6_go_35
    · have he := ite_f he hc_2
      refine lv_iconst (v := (-1)) hx hb dX6_go_11 (by decide) ?_
      exact hret _ _ _ _ _ _ (hV.trans he.symm) hP hS dX6_go_12
