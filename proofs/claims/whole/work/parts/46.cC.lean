-- @needs 12_dec 13_dec 14_dec 15_dec 31_hC 43_cC 44_cC 45_cC
def rm_X1_isOnItsLast : Room := { frames := 1, cells := 0, slots := 0, locals := 14 }
theorem gm_X1_isOnItsLast : Cond.instanceMethod yX1_isOnItsLast ∈ wsL_law ∧ Cond.selects RX1 yX1_isOnItsLast yX1_isOnItsLast ∈ wsL_law ∧ Cond.initialized RX1 ∈ wsL_law ∧ Cond.code yX1_isOnItsLast cX1_isOnItsLast 3 (some .boolean) ∈ wsL_law := ⟨gw_21_13, gw_21_14, gw_3_11, gw_21_15⟩
theorem gd_X1_isOnItsLast : yX1_isOnItsLast.cls = RX1 ∧ yX1_isOnItsLast.cls ≠ "java/lang/invoke/MethodHandle" ∧ yX1_isOnItsLast.cls ≠ "java/lang/invoke/VarHandle" ∧ (parseMethodDescriptor yX1_isOnItsLast.desc).map (fun d => d.parameters.length) = some 1 := by decide +kernel
set_option maxRecDepth 100000 in
set_option maxHeartbeats 0 in
theorem c_X1_isOnItsLast {l : Launch} {D : va_G} {k : Nat → ClassId} {ad : Nat → Nat} (had : InjN 74 ad) (M : Mem) (o : Nat) (ho : kBoat o) (a1 : Int32) : Met l yX1_isOnItsLast (Cond.code yX1_isOnItsLast cX1_isOnItsLast 3 (some .boolean) :: wsL_law) rm_X1_isOnItsLast (va_Pc [.ref (ad o), .int a1] (GW 74 ad D k (cC ad k M))) (va_Qi (fun r u => (r = 0 ∨ r = 1) ∧ f_X1_isOnItsLast M o a1 = r ∧ u = M) (fun u t => GW 74 ad D k (cC ad k u) t) (AW 74 ad)) 0 0 (AW 74 ad) := by
  refine met_z (g := cC ad k) (M := M) (plainFor_of_name (by decide)) (Nat.le_of_ble_eq_true rfl) ?_
  intro p e s m args below meth c Q ls hx hb hml hG hown hK hret hP hS hl
  have hl : lv_has ls 3 [(0, .ref (ad o)), (1, .int a1)] := hl
  obtain ⟨V, hV⟩ : ∃ V, f_X1_isOnItsLast M o a1 = V := ⟨_, rfl⟩
  have he := hV
  unfold f_X1_isOnItsLast at he
  refine lv_aload_n hx hb dX1_isOnItsLast_0 rfl (lv_at hl 0 rfl) ?_
  refine gX1_5 hx hb hG hown hK hP ho gw_15_4 dX1_isOnItsLast_1 ?_
  obtain ⟨t_5, hr_2, he⟩ := bnd_ex he
  have j34 : ∀ (H : Heap) (locs : List Loc) (ls : Array Slot), (t_5 = 0 ∨ t_5 = 1) → va_P D vwCl (wld 74 ad (cC ad k M)) H → va_S (AW 74 ad) s.heap H locs → lv_has ls 3 [(0, .ref (ad o)), (1, .int a1)] → W p l e rm_X1_isOnItsLast s m args below meth c H locs 0 0 Q (F0 m 34 ls [.int t_5]) := by
    intro H locs ls zt_5 hP hS hl
    refine lv_istore_n (lv' := [(2, .int t_5), (0, .ref (ad o)), (1, .int a1)]) hx hb dX1_isOnItsLast_34 rfl hl (by decide) rfl (fun ls hl => ?_)
    refine lv_iload_n hx hb dX1_isOnItsLast_35 rfl (lv_at hl 0 rfl) ?_
    obtain ⟨t_9, hr_7, he⟩ := bnd_ex he
    have j66 : ∀ (H : Heap) (locs : List Loc) (ls : Array Slot), (t_9 = 0 ∨ t_9 = 1) → va_P D vwCl (wld 74 ad (cC ad k M)) H → va_S (AW 74 ad) s.heap H locs → lv_has ls 3 [] → W p l e rm_X1_isOnItsLast s m args below meth c H locs 0 0 Q (F0 m 66 ls [.int t_9]) := by
      intro H locs ls zt_9 hP hS hl
      exact hret _ _ _ _ _ _ ⟨zt_9, (hV.trans he.symm), rfl⟩ (nz01 zt_9) hP hS dX1_isOnItsLast_66
    refine lv_if_eq (tgt := 65) hx hb dX1_isOnItsLast_36 (by decide) (fun hc_6 => ?_) (fun hc_6 => ?_)
    · have hr_7 := ite_t hr_7 hc_6
      refine lv_iconst (v := 0) hx hb dX1_isOnItsLast_65 (by decide) ?_
      cases hr_7
      exact j66 _ _ _ (Or.inl rfl) hP hS (lv_sub hl [] rfl)
    · have hr_7 := ite_f hr_7 hc_6
      refine lv_bipush (v := 8) hx hb dX1_isOnItsLast_39 (by decide) ?_
      refine lv_iload_n hx hb dX1_isOnItsLast_41 rfl (lv_at hl 2 rfl) ?_
      refine lv_aload_n hx hb dX1_isOnItsLast_42 rfl (lv_at hl 1 rfl) ?_
      refine gX1_4 hx hb hG hown hK hP ho gw_15_3 dX1_isOnItsLast_43 ?_
      refine lv_isub hx hb dX1_isOnItsLast_46 ?_
      refine lv_imul hx hb dX1_isOnItsLast_47 ?_
      refine lv_bipush (v := 6) hx hb dX1_isOnItsLast_48 (by decide) ?_
      refine lv_idiv hx hb dX1_isOnItsLast_50 (by decide) ?_
      refine lv_aload_n hx hb dX1_isOnItsLast_51 rfl (lv_at hl 1 rfl) ?_
      refine gX1_3 hx hb hG hown hK hP ho gw_15_2 dX1_isOnItsLast_52 ?_
      refine w_abs hx hb hml hG hown gw_17_10 (Nat.le_of_ble_eq_true rfl) (Nat.le_of_ble_eq_true rfl) hl.1 ⟨Nat.le_refl _, Nat.le_refl _⟩ dX1_isOnItsLast_55 ?_
      refine lv_icmp_gt (tgt := 65) hx hb dX1_isOnItsLast_58 (by decide) (fun hc_8 => ?_) (fun hc_8 => ?_)
      · have hr_7 := ite_t hr_7 hc_8
        refine lv_iconst (v := 0) hx hb dX1_isOnItsLast_65 (by decide) ?_
        cases hr_7
        exact j66 _ _ _ (Or.inl rfl) hP hS (lv_sub hl [] rfl)
      · have hr_7 := ite_f hr_7 hc_8
        refine lv_iconst (v := 1) hx hb dX1_isOnItsLast_61 (by decide) ?_
        refine lv_goto (tgt := 66) hx hb dX1_isOnItsLast_62 (by decide) ?_
        cases hr_7
        exact j66 _ _ _ (Or.inr rfl) hP hS (lv_sub hl [] rfl)
  refine lv_if_eq (tgt := 22) hx hb dX1_isOnItsLast_4 (by decide) (fun hc_1 => ?_) (fun hc_1 => ?_)
  · have hr_2 := ite_t hr_2 hc_1
    refine lv_aload_n hx hb dX1_isOnItsLast_22 rfl (lv_at hl 0 rfl) ?_
    refine gX1_3 hx hb hG hown hK hP ho gw_15_2 dX1_isOnItsLast_23 ?_
    refine lv_if_ge (tgt := 33) hx hb dX1_isOnItsLast_26 (by decide) (fun hc_3 => ?_) (fun hc_3 => ?_)
    · have hr_2 := ite_t hr_2 hc_3
      refine lv_iconst (v := 0) hx hb dX1_isOnItsLast_33 (by decide) ?_
      cases hr_2
      exact j34 _ _ _ (Or.inl rfl) hP hS (lv_sub hl [0, 1] rfl)
    · have hr_2 := ite_f hr_2 hc_3
      refine lv_iconst (v := 1) hx hb dX1_isOnItsLast_29 (by decide) ?_
      refine lv_goto (tgt := 34) hx hb dX1_isOnItsLast_30 (by decide) ?_
      cases hr_2
      exact j34 _ _ _ (Or.inr rfl) hP hS (lv_sub hl [0, 1] rfl)
  · have hr_2 := ite_f hr_2 hc_1
    refine lv_aload_n hx hb dX1_isOnItsLast_7 rfl (lv_at hl 0 rfl) ?_
    refine gX1_3 hx hb hG hown hK hP ho gw_15_2 dX1_isOnItsLast_8 ?_
    refine lv_if_le (tgt := 18) hx hb dX1_isOnItsLast_11 (by decide) (fun hc_4 => ?_) (fun hc_4 => ?_)
    · have hr_2 := ite_t hr_2 hc_4
      refine lv_iconst (v := 0) hx hb dX1_isOnItsLast_18 (by decide) ?_
      refine lv_goto (tgt := 34) hx hb dX1_isOnItsLast_19 (by decide) ?_
      cases hr_2
      exact j34 _ _ _ (Or.inl rfl) hP hS (lv_sub hl [0, 1] rfl)
    · have hr_2 := ite_f hr_2 hc_4
      refine lv_iconst (v := 1) hx hb dX1_isOnItsLast_14 (by decide) ?_
      refine lv_goto (tgt := 34) hx hb dX1_isOnItsLast_15 (by decide) ?_
      cases hr_2
      exact j34 _ _ _ (Or.inr rfl) hP hS (lv_sub hl [0, 1] rfl)
def rm_X1_turnsByBitsAt : Room := { frames := 0, cells := 0, slots := 0, locals := 0 }
theorem gm_X1_turnsByBitsAt : Cond.instanceMethod yX1_turnsByBitsAt ∈ wsL_law ∧ Cond.selects RX1 yX1_turnsByBitsAt yX1_turnsByBitsAt ∈ wsL_law ∧ Cond.initialized RX1 ∈ wsL_law ∧ Cond.code yX1_turnsByBitsAt cX1_turnsByBitsAt 3 (some .boolean) ∈ wsL_law := ⟨gw_21_17, gw_21_18, gw_3_11, gw_21_19⟩
theorem gd_X1_turnsByBitsAt : yX1_turnsByBitsAt.cls = RX1 ∧ yX1_turnsByBitsAt.cls ≠ "java/lang/invoke/MethodHandle" ∧ yX1_turnsByBitsAt.cls ≠ "java/lang/invoke/VarHandle" ∧ (parseMethodDescriptor yX1_turnsByBitsAt.desc).map (fun d => d.parameters.length) = some 1 := by decide +kernel
set_option maxRecDepth 100000 in
set_option maxHeartbeats 0 in
theorem c_X1_turnsByBitsAt {l : Launch} {D : va_G} {k : Nat → ClassId} {ad : Nat → Nat} (had : InjN 74 ad) (M : Mem) (o : Nat) (ho : kBoat o) (a1 : Int32) : Met l yX1_turnsByBitsAt (Cond.code yX1_turnsByBitsAt cX1_turnsByBitsAt 3 (some .boolean) :: wsL_law) rm_X1_turnsByBitsAt (va_Pc [.ref (ad o), .int a1] (GW 74 ad D k (cC ad k M))) (va_Qi (fun r u => (r = 0 ∨ r = 1) ∧ f_X1_turnsByBitsAt M o a1 = r ∧ u = M) (fun u t => GW 74 ad D k (cC ad k u) t) (AW 74 ad)) 0 0 (AW 74 ad) := by
  refine met_z (g := cC ad k) (M := M) (plainFor_of_name (by decide)) (Nat.le_of_ble_eq_true rfl) ?_
  intro p e s m args below meth c Q ls hx hb hml hG hown hK hret hP hS hl
  have hl : lv_has ls 3 [(0, .ref (ad o)), (1, .int a1)] := hl
  obtain ⟨V, hV⟩ : ∃ V, f_X1_turnsByBitsAt M o a1 = V := ⟨_, rfl⟩
  have he := hV
  unfold f_X1_turnsByBitsAt at he
  refine lv_iload_n hx hb dX1_turnsByBitsAt_0 rfl (lv_at hl 1 rfl) ?_
  refine lv_bipush (v := 10) hx hb dX1_turnsByBitsAt_1 (by decide) ?_
  refine lv_idiv hx hb dX1_turnsByBitsAt_3 (by decide) ?_
  refine lv_iconst (v := 1) hx hb dX1_turnsByBitsAt_4 (by decide) ?_
  refine lv_isub hx hb dX1_turnsByBitsAt_5 ?_
  refine lv_topi (fun y_1 ey_1 => ?_)
  have he := bnd_at he ey_1
  refine lv_istore_n (lv' := [(2, .int y_1), (0, .ref (ad o)), (1, .int a1)]) hx hb dX1_turnsByBitsAt_6 rfl hl (by decide) rfl (fun ls hl => ?_)
  refine lv_iload_n hx hb dX1_turnsByBitsAt_7 rfl (lv_at hl 2 rfl) ?_
  refine lv_bipush (v := 10) hx hb dX1_turnsByBitsAt_8 (by decide) ?_
  refine lv_irem hx hb dX1_turnsByBitsAt_10 (by decide) ?_
  obtain ⟨t_7, hr_3, he⟩ := bnd_ex he
  have j44 : ∀ (H : Heap) (locs : List Loc) (ls : Array Slot), (t_7 = 0 ∨ t_7 = 1) → va_P D vwCl (wld 74 ad (cC ad k M)) H → va_S (AW 74 ad) s.heap H locs → lv_has ls 3 [] → W p l e rm_X1_turnsByBitsAt s m args below meth c H locs 0 0 Q (F0 m 44 ls [.int t_7]) := by
    intro H locs ls zt_7 hP hS hl
    exact hret _ _ _ _ _ _ ⟨zt_7, (hV.trans he.symm), rfl⟩ (nz01 zt_7) hP hS dX1_turnsByBitsAt_44
  refine lv_if_ne (tgt := 43) hx hb dX1_turnsByBitsAt_11 (by decide) (fun hc_2 => ?_) (fun hc_2 => ?_)
  · have hr_3 := ite_t hr_3 hc_2
    refine lv_iconst (v := 0) hx hb dX1_turnsByBitsAt_43 (by decide) ?_
    cases hr_3
    exact j44 _ _ _ (Or.inl rfl) hP hS (lv_sub hl [] rfl)
  · have hr_3 := ite_f hr_3 (fun q => q hc_2)
    refine lv_iload_n hx hb dX1_turnsByBitsAt_14 rfl (lv_at hl 0 rfl) ?_
    refine lv_if_lt (tgt := 43) hx hb dX1_turnsByBitsAt_15 (by decide) (fun hc_4 => ?_) (fun hc_4 => ?_)
    · have hr_3 := ite_t hr_3 hc_4
      refine lv_iconst (v := 0) hx hb dX1_turnsByBitsAt_43 (by decide) ?_
      cases hr_3
      exact j44 _ _ _ (Or.inl rfl) hP hS (lv_sub hl [] rfl)
    · have hr_3 := ite_f hr_3 hc_4
      refine lv_iload_n hx hb dX1_turnsByBitsAt_18 rfl (lv_at hl 0 rfl) ?_
      refine lv_bipush (v := 8) hx hb dX1_turnsByBitsAt_19 (by decide) ?_
      refine lv_icmp_ge (tgt := 43) hx hb dX1_turnsByBitsAt_21 (by decide) (fun hc_5 => ?_) (fun hc_5 => ?_)
      · have hr_3 := ite_t hr_3 hc_5
        refine lv_iconst (v := 0) hx hb dX1_turnsByBitsAt_43 (by decide) ?_
        cases hr_3
        exact j44 _ _ _ (Or.inl rfl) hP hS (lv_sub hl [] rfl)
      · have hr_3 := ite_f hr_3 hc_5
        refine lv_aload_n hx hb dX1_turnsByBitsAt_24 rfl (lv_at hl 1 rfl) ?_
        refine gX1_0 hx hb hG hown hK hP ho gw_3_18 dX1_turnsByBitsAt_25 ?_
        refine gX4_1 hx hb hG hown hK hP (kR_slr ho) gw_16_11 dX1_turnsByBitsAt_28 ?_
        refine lv_iload_n hx hb dX1_turnsByBitsAt_31 rfl (lv_at hl 0 rfl) ?_
        refine lv_ishr hx hb dX1_turnsByBitsAt_32 ?_
        refine lv_iconst (v := 1) hx hb dX1_turnsByBitsAt_33 (by decide) ?_
        refine lv_iand hx hb dX1_turnsByBitsAt_34 ?_
        refine lv_iconst (v := 1) hx hb dX1_turnsByBitsAt_35 (by decide) ?_
        refine lv_icmp_ne (tgt := 43) hx hb dX1_turnsByBitsAt_36 (by decide) (fun hc_6 => ?_) (fun hc_6 => ?_)
        · have hr_3 := ite_t hr_3 hc_6
          refine lv_iconst (v := 0) hx hb dX1_turnsByBitsAt_43 (by decide) ?_
          cases hr_3
          exact j44 _ _ _ (Or.inl rfl) hP hS (lv_sub hl [] rfl)
        · have hr_3 := ite_f hr_3 (fun q => q hc_6)
          refine lv_iconst (v := 1) hx hb dX1_turnsByBitsAt_39 (by decide) ?_
          refine lv_goto (tgt := 44) hx hb dX1_turnsByBitsAt_40 (by decide) ?_
          cases hr_3
          exact j44 _ _ _ (Or.inr rfl) hP hS (lv_sub hl [] rfl)
def rm_X3_wantsToTurn : Room := { frames := 2, cells := 0, slots := 0, locals := 36 }
theorem gm_X3_wantsToTurn : Cond.instanceMethod yX3_wantsToTurn ∈ wsL_law ∧ Cond.selects RX3 yX3_wantsToTurn yX3_wantsToTurn ∈ wsL_law ∧ Cond.initialized RX3 ∈ wsL_law ∧ Cond.code yX3_wantsToTurn cX3_wantsToTurn 4 (some .boolean) ∈ wsL_law := ⟨gw_20_10, gw_20_11, gw_1_19, gw_20_12⟩
theorem gd_X3_wantsToTurn : yX3_wantsToTurn.cls = RX3 ∧ yX3_wantsToTurn.cls ≠ "java/lang/invoke/MethodHandle" ∧ yX3_wantsToTurn.cls ≠ "java/lang/invoke/VarHandle" ∧ (parseMethodDescriptor yX3_wantsToTurn.desc).map (fun d => d.parameters.length) = some 3 := by decide +kernel
set_option maxRecDepth 100000 in
set_option maxHeartbeats 0 in
theorem c_X3_wantsToTurn {l : Launch} {D : va_G} {k : Nat → ClassId} {ad : Nat → Nat} (had : InjN 74 ad) (M : Mem) (o : Nat) (ho : kRace o) (a1 : Nat) (ha1 : kBoat a1) (a2 : Nat) (ha2 : kBay a2) (a3 : Int32) : Met l yX3_wantsToTurn (Cond.code yX3_wantsToTurn cX3_wantsToTurn 4 (some .boolean) :: wsL_law) rm_X3_wantsToTurn (va_Pc [.ref (ad o), .ref (ad a1), .ref (ad a2), .int a3] (GW 74 ad D k (cC ad k M))) (va_Qi (fun r u => (r = 0 ∨ r = 1) ∧ f_X3_wantsToTurn M o a1 a2 a3 = r ∧ u = M) (fun u t => GW 74 ad D k (cC ad k u) t) (AW 74 ad)) 0 0 (AW 74 ad) := by
  refine met_z (g := cC ad k) (M := M) (plainFor_of_name (by decide)) (Nat.le_of_ble_eq_true rfl) ?_
  intro p e s m args below meth c Q ls hx hb hml hG hown hK hret hP hS hl
  have hl : lv_has ls 4 [(0, .ref (ad o)), (1, .ref (ad a1)), (2, .ref (ad a2)), (3, .int a3)] := hl
  obtain ⟨V, hV⟩ : ∃ V, f_X3_wantsToTurn M o a1 a2 a3 = V := ⟨_, rfl⟩
  have he := hV
  unfold f_X3_wantsToTurn at he
  refine lv_aload_n hx hb dX3_wantsToTurn_0 rfl (lv_at hl 1 rfl) ?_
  refine gX1_0 hx hb hG hown hK hP ha1 gw_14_6 dX3_wantsToTurn_1 ?_
  refine gX4_0 hx hb hG hown hK hP (kR_slr ha1) gw_20_13 dX3_wantsToTurn_4 ?_
  by_cases hw_1 : M (a1 + 12) 0 = 0
  · have he := ite_t he hw_1
    refine lv_tableIn (tgt := 52) hx hb dX3_wantsToTurn_7 (by rw [hw_1]; decide) (by rw [hw_1]; decide) (by rw [hw_1]; rfl) (by decide) ?_
    refine lv_aload_n hx hb dX3_wantsToTurn_52 rfl (lv_at hl 1 rfl) ?_
    refine lv_aload_n hx hb dX3_wantsToTurn_53 rfl (lv_at hl 0 rfl) ?_
    refine gX3_2 hx hb hG hown hK hP ho gw_18_13 dX3_wantsToTurn_54 ?_
    refine call_i [.int (M o 2)] [] hx hb hml hG hown hK (c_X1_turnsAt had M a1 ha1 (M o 2)) gw_20_15 gm_X1_turnsAt gd_X1_turnsAt rfl rfl ⟨Nat.le_of_ble_eq_true rfl, Nat.le_of_ble_eq_true rfl⟩ ⟨Nat.le_refl _, Nat.le_refl _⟩ (rX1 hK hP ha1) hP (fun _ h => h) hS rfl hl.1 rfl (Nat.le_of_ble_eq_true rfl) dX3_wantsToTurn_57 (fun r_2 u_4 H locs hF_3 hP hS => ?_)
    obtain ⟨hz_5, hF_3, hu⟩ := hF_3; rw [hu] at hP; subst hF_3
    exact hret _ _ _ _ _ _ ⟨hz_5, (hV.trans he.symm), rfl⟩ (nz01 hz_5) hP hS dX3_wantsToTurn_60
  · have he := ite_f he hw_1
    by_cases hw_6 : M (a1 + 12) 0 = 1
    · have he := ite_t he hw_6
      refine lv_tableIn (tgt := 61) hx hb dX3_wantsToTurn_7 (by rw [hw_6]; decide) (by rw [hw_6]; decide) (by rw [hw_6]; rfl) (by decide) ?_
      refine lv_aload_n hx hb dX3_wantsToTurn_61 rfl (lv_at hl 1 rfl) ?_
      refine lv_iload_n hx hb dX3_wantsToTurn_62 rfl (lv_at hl 3 rfl) ?_
      refine call_i [.int a3] [] hx hb hml hG hown hK (c_X1_isHeadedBy had M a1 ha1 a3) gw_20_19 gm_X1_isHeadedBy gd_X1_isHeadedBy rfl rfl ⟨Nat.le_of_ble_eq_true rfl, Nat.le_of_ble_eq_true rfl⟩ ⟨Nat.le_refl _, Nat.le_refl _⟩ (rX1 hK hP ha1) hP (fun _ h => h) hS rfl hl.1 rfl (Nat.le_of_ble_eq_true rfl) dX3_wantsToTurn_63 (fun r_7 u_9 H locs hF_8 hP hS => ?_)
      obtain ⟨hz_10, hF_8, hu⟩ := hF_8; rw [hu] at hP; subst hF_8
      exact hret _ _ _ _ _ _ ⟨hz_10, (hV.trans he.symm), rfl⟩ (nz01 hz_10) hP hS dX3_wantsToTurn_66
    · have he := ite_f he hw_6
      by_cases hw_11 : M (a1 + 12) 0 = 2
      · have he := ite_t he hw_11
        refine lv_tableIn (tgt := 67) hx hb dX3_wantsToTurn_7 (by rw [hw_11]; decide) (by rw [hw_11]; decide) (by rw [hw_11]; rfl) (by decide) ?_
        refine lv_aload_n hx hb dX3_wantsToTurn_67 rfl (lv_at hl 1 rfl) ?_
        refine gX1_9 hx hb hG hown hK hP ha1 gw_17_5 dX3_wantsToTurn_68 ?_
        exact hret _ _ _ _ _ _ ⟨(b01_or _), (hV.trans he.symm), rfl⟩ (nz01 (b01_or _)) hP hS dX3_wantsToTurn_71
      · have he := ite_f he hw_11
        by_cases hw_12 : M (a1 + 12) 0 = 3
        · have he := ite_t he hw_12
          refine lv_tableIn (tgt := 72) hx hb dX3_wantsToTurn_7 (by rw [hw_12]; decide) (by rw [hw_12]; decide) (by rw [hw_12]; rfl) (by decide) ?_
          refine lv_aload_n hx hb dX3_wantsToTurn_72 rfl (lv_at hl 1 rfl) ?_
          refine gX1_9 hx hb hG hown hK hP ha1 gw_17_5 dX3_wantsToTurn_73 ?_
          obtain ⟨t_20, hr_14, he⟩ := bnd_ex he
          have j92 : ∀ (H : Heap) (locs : List Loc) (ls : Array Slot), (t_20 = 0 ∨ t_20 = 1) → va_P D vwCl (wld 74 ad (cC ad k M)) H → va_S (AW 74 ad) s.heap H locs → lv_has ls 4 [] → W p l e rm_X3_wantsToTurn s m args below meth c H locs 0 0 Q (F0 m 92 ls [.int t_20]) := by
            intro H locs ls zt_20 hP hS hl
            exact hret _ _ _ _ _ _ ⟨zt_20, (hV.trans he.symm), rfl⟩ (nz01 zt_20) hP hS dX3_wantsToTurn_92
          refine lv_if_ne (tgt := 87) hx hb dX3_wantsToTurn_76 (by decide) (fun hc_13 => ?_) (fun hc_13 => ?_)
          · have hr_14 := ite_t hr_14 hc_13
            refine lv_iconst (v := 1) hx hb dX3_wantsToTurn_87 (by decide) ?_
            refine lv_goto (tgt := 92) hx hb dX3_wantsToTurn_88 (by decide) ?_
            cases hr_14
            exact j92 _ _ _ (Or.inr rfl) hP hS (lv_sub hl [] rfl)
          · have hr_14 := ite_f hr_14 (fun q => q hc_13)
            refine lv_aload_n hx hb dX3_wantsToTurn_79 rfl (lv_at hl 0 rfl) ?_
            refine lv_aload_n hx hb dX3_wantsToTurn_80 rfl (lv_at hl 1 rfl) ?_
            refine call_i [.ref (ad a1)] [] hx hb hml hG hown hK (c_X3_hasToCover had M o ho a1 ha1) gw_20_23 gm_X3_hasToCover gd_X3_hasToCover rfl rfl ⟨Nat.le_of_ble_eq_true rfl, Nat.le_of_ble_eq_true rfl⟩ ⟨Nat.le_refl _, Nat.le_refl _⟩ (rX3 hK hP ho) hP (fun _ h => h) hS rfl hl.1 rfl (Nat.le_of_ble_eq_true rfl) dX3_wantsToTurn_81 (fun r_15 u_17 H locs hF_16 hP hS => ?_)
            obtain ⟨hz_18, hF_16, hu⟩ := hF_16; rw [hu] at hP; subst hF_16
            refine lv_if_eq (tgt := 91) hx hb dX3_wantsToTurn_84 (by decide) (fun hc_19 => ?_) (fun hc_19 => ?_)
            · have hr_14 := ite_t hr_14 hc_19
              refine lv_iconst (v := 0) hx hb dX3_wantsToTurn_91 (by decide) ?_
              cases hr_14
              exact j92 _ _ _ (Or.inl rfl) hP hS (lv_sub hl [] rfl)
            · have hr_14 := ite_f hr_14 hc_19
              refine lv_iconst (v := 1) hx hb dX3_wantsToTurn_87 (by decide) ?_
              refine lv_goto (tgt := 92) hx hb dX3_wantsToTurn_88 (by decide) ?_
              cases hr_14
              exact j92 _ _ _ (Or.inr rfl) hP hS (lv_sub hl [] rfl)
        · have he := ite_f he hw_12
          by_cases hw_21 : M (a1 + 12) 0 = 4
          · have he := ite_t he hw_21
            refine lv_tableIn (tgt := 93) hx hb dX3_wantsToTurn_7 (by rw [hw_21]; decide) (by rw [hw_21]; decide) (by rw [hw_21]; rfl) (by decide) ?_
            refine lv_aload_n hx hb dX3_wantsToTurn_93 rfl (lv_at hl 1 rfl) ?_
            refine lv_aload_n hx hb dX3_wantsToTurn_94 rfl (lv_at hl 0 rfl) ?_
            refine gX3_2 hx hb hG hown hK hP ho gw_18_13 dX3_wantsToTurn_95 ?_
            refine call_i [.int (M o 2)] [] hx hb hml hG hown hK (c_X1_turnsOddlyAt had M a1 ha1 (M o 2)) gw_21_4 gm_X1_turnsOddlyAt gd_X1_turnsOddlyAt rfl rfl ⟨Nat.le_of_ble_eq_true rfl, Nat.le_of_ble_eq_true rfl⟩ ⟨Nat.le_refl _, Nat.le_refl _⟩ (rX1 hK hP ha1) hP (fun _ h => h) hS rfl hl.1 rfl (Nat.le_of_ble_eq_true rfl) dX3_wantsToTurn_98 (fun r_22 u_24 H locs hF_23 hP hS => ?_)
            obtain ⟨hz_25, hF_23, hu⟩ := hF_23; rw [hu] at hP; subst hF_23
            exact hret _ _ _ _ _ _ ⟨hz_25, (hV.trans he.symm), rfl⟩ (nz01 hz_25) hP hS dX3_wantsToTurn_101
          · have he := ite_f he hw_21
            by_cases hw_26 : M (a1 + 12) 0 = 5
            · have he := ite_t he hw_26
              refine lv_tableIn (tgt := 102) hx hb dX3_wantsToTurn_7 (by rw [hw_26]; decide) (by rw [hw_26]; decide) (by rw [hw_26]; rfl) (by decide) ?_
              refine lv_aload_n hx hb dX3_wantsToTurn_102 rfl (lv_at hl 1 rfl) ?_
              refine call_i [] [] hx hb hml hG hown hK (c_X1_isFarAside had M a1 ha1) gw_21_8 gm_X1_isFarAside gd_X1_isFarAside rfl rfl ⟨Nat.le_of_ble_eq_true rfl, Nat.le_of_ble_eq_true rfl⟩ ⟨Nat.le_refl _, Nat.le_refl _⟩ (rX1 hK hP ha1) hP (fun _ h => h) hS rfl hl.1 rfl (Nat.le_of_ble_eq_true rfl) dX3_wantsToTurn_103 (fun r_27 u_29 H locs hF_28 hP hS => ?_)
              obtain ⟨hz_30, hF_28, hu⟩ := hF_28; rw [hu] at hP; subst hF_28
              exact hret _ _ _ _ _ _ ⟨hz_30, (hV.trans he.symm), rfl⟩ (nz01 hz_30) hP hS dX3_wantsToTurn_106
            · have he := ite_f he hw_26
              by_cases hw_31 : M (a1 + 12) 0 = 6
              · have he := ite_t he hw_31
                refine lv_tableIn (tgt := 107) hx hb dX3_wantsToTurn_7 (by rw [hw_31]; decide) (by rw [hw_31]; decide) (by rw [hw_31]; rfl) (by decide) ?_
                refine lv_aload_n hx hb dX3_wantsToTurn_107 rfl (lv_at hl 1 rfl) ?_
                refine call_i [] [] hx hb hml hG hown hK (c_X1_isFarAside had M a1 ha1) gw_21_8 gm_X1_isFarAside gd_X1_isFarAside rfl rfl ⟨Nat.le_of_ble_eq_true rfl, Nat.le_of_ble_eq_true rfl⟩ ⟨Nat.le_refl _, Nat.le_refl _⟩ (rX1 hK hP ha1) hP (fun _ h => h) hS rfl hl.1 rfl (Nat.le_of_ble_eq_true rfl) dX3_wantsToTurn_108 (fun r_32 u_34 H locs hF_33 hP hS => ?_)
                obtain ⟨hz_35, hF_33, hu⟩ := hF_33; rw [hu] at hP; subst hF_33
                obtain ⟨t_43, hr_37, he⟩ := bnd_ex he
                have j130 : ∀ (H : Heap) (locs : List Loc) (ls : Array Slot), (t_43 = 0 ∨ t_43 = 1) → va_P D vwCl (wld 74 ad (cC ad k M)) H → va_S (AW 74 ad) s.heap H locs → lv_has ls 4 [] → W p l e rm_X3_wantsToTurn s m args below meth c H locs 0 0 Q (F0 m 130 ls [.int t_43]) := by
                  intro H locs ls zt_43 hP hS hl
                  exact hret _ _ _ _ _ _ ⟨zt_43, (hV.trans he.symm), rfl⟩ (nz01 zt_43) hP hS dX3_wantsToTurn_130
                refine lv_if_ne (tgt := 125) hx hb dX3_wantsToTurn_111 (by decide) (fun hc_36 => ?_) (fun hc_36 => ?_)
                · have hr_37 := ite_t hr_37 hc_36
                  refine lv_iconst (v := 1) hx hb dX3_wantsToTurn_125 (by decide) ?_
                  refine lv_goto (tgt := 130) hx hb dX3_wantsToTurn_126 (by decide) ?_
                  cases hr_37
                  exact j130 _ _ _ (Or.inr rfl) hP hS (lv_sub hl [] rfl)
                · have hr_37 := ite_f hr_37 (fun q => q hc_36)
                  refine lv_aload_n hx hb dX3_wantsToTurn_114 rfl (lv_at hl 1 rfl) ?_
                  refine lv_aload_n hx hb dX3_wantsToTurn_115 rfl (lv_at hl 2 rfl) ?_
                  refine gX0_0 hx hb hG hown hK hP ha2 gw_20_14 dX3_wantsToTurn_116 ?_
                  refine call_i [.int (M a2 0)] [] hx hb hml hG hown hK (c_X1_isOnItsLast had M a1 ha1 (M a2 0)) gw_21_12 gm_X1_isOnItsLast gd_X1_isOnItsLast rfl rfl ⟨Nat.le_of_ble_eq_true rfl, Nat.le_of_ble_eq_true rfl⟩ ⟨Nat.le_refl _, Nat.le_refl _⟩ (rX1 hK hP ha1) hP (fun _ h => h) hS rfl hl.1 rfl (Nat.le_of_ble_eq_true rfl) dX3_wantsToTurn_119 (fun r_38 u_40 H locs hF_39 hP hS => ?_)
                  obtain ⟨hz_41, hF_39, hu⟩ := hF_39; rw [hu] at hP; subst hF_39
                  refine lv_if_eq (tgt := 129) hx hb dX3_wantsToTurn_122 (by decide) (fun hc_42 => ?_) (fun hc_42 => ?_)
                  · have hr_37 := ite_t hr_37 hc_42
                    refine lv_iconst (v := 0) hx hb dX3_wantsToTurn_129 (by decide) ?_
                    cases hr_37
                    exact j130 _ _ _ (Or.inl rfl) hP hS (lv_sub hl [] rfl)
                  · have hr_37 := ite_f hr_37 hc_42
                    refine lv_iconst (v := 1) hx hb dX3_wantsToTurn_125 (by decide) ?_
                    refine lv_goto (tgt := 130) hx hb dX3_wantsToTurn_126 (by decide) ?_
                    cases hr_37
                    exact j130 _ _ _ (Or.inr rfl) hP hS (lv_sub hl [] rfl)
              · have he := ite_f he hw_31
                by_cases hw_44 : M (a1 + 12) 0 = 7
                · have he := ite_t he hw_44
                  refine lv_tableIn (tgt := 131) hx hb dX3_wantsToTurn_7 (by rw [hw_44]; decide) (by rw [hw_44]; decide) (by rw [hw_44]; rfl) (by decide) ?_
                  refine lv_aload_n hx hb dX3_wantsToTurn_131 rfl (lv_at hl 1 rfl) ?_
                  refine lv_iload_n hx hb dX3_wantsToTurn_132 rfl (lv_at hl 3 rfl) ?_
                  refine call_i [.int a3] [] hx hb hml hG hown hK (c_X1_isHeadedBy had M a1 ha1 a3) gw_20_19 gm_X1_isHeadedBy gd_X1_isHeadedBy rfl rfl ⟨Nat.le_of_ble_eq_true rfl, Nat.le_of_ble_eq_true rfl⟩ ⟨Nat.le_refl _, Nat.le_refl _⟩ (rX1 hK hP ha1) hP (fun _ h => h) hS rfl hl.1 rfl (Nat.le_of_ble_eq_true rfl) dX3_wantsToTurn_133 (fun r_45 u_47 H locs hF_46 hP hS => ?_)
                  obtain ⟨hz_48, hF_46, hu⟩ := hF_46; rw [hu] at hP; subst hF_46
                  obtain ⟨t_53, hr_50, he⟩ := bnd_ex he
                  have j162 : ∀ (H : Heap) (locs : List Loc) (ls : Array Slot), (t_53 = 0 ∨ t_53 = 1) → va_P D vwCl (wld 74 ad (cC ad k M)) H → va_S (AW 74 ad) s.heap H locs → lv_has ls 4 [] → W p l e rm_X3_wantsToTurn s m args below meth c H locs 0 0 Q (F0 m 162 ls [.int t_53]) := by
                    intro H locs ls zt_53 hP hS hl
                    exact hret _ _ _ _ _ _ ⟨zt_53, (hV.trans he.symm), rfl⟩ (nz01 zt_53) hP hS dX3_wantsToTurn_162
                  refine lv_if_eq (tgt := 161) hx hb dX3_wantsToTurn_136 (by decide) (fun hc_49 => ?_) (fun hc_49 => ?_)
                  · have hr_50 := ite_t hr_50 hc_49
                    refine lv_iconst (v := 0) hx hb dX3_wantsToTurn_161 (by decide) ?_
                    cases hr_50
                    exact j162 _ _ _ (Or.inl rfl) hP hS (lv_sub hl [] rfl)
                  · have hr_50 := ite_f hr_50 hc_49
                    refine lv_aload_n hx hb dX3_wantsToTurn_139 rfl (lv_at hl 2 rfl) ?_
                    refine gX0_3 hx hb hG hown hK hP ha2 gw_19_9 dX3_wantsToTurn_140 ?_
                    refine lv_iconst (v := 2) hx hb dX3_wantsToTurn_143 (by decide) ?_
                    refine lv_icmp_le (tgt := 157) hx hb dX3_wantsToTurn_144 (by decide) (fun hc_51 => ?_) (fun hc_51 => ?_)
                    · have hr_50 := ite_t hr_50 hc_51
                      refine lv_iconst (v := 1) hx hb dX3_wantsToTurn_157 (by decide) ?_
                      refine lv_goto (tgt := 162) hx hb dX3_wantsToTurn_158 (by decide) ?_
                      cases hr_50
                      exact j162 _ _ _ (Or.inr rfl) hP hS (lv_sub hl [] rfl)
                    · have hr_50 := ite_f hr_50 hc_51
                      refine lv_aload_n hx hb dX3_wantsToTurn_147 rfl (lv_at hl 0 rfl) ?_
                      refine gX3_2 hx hb hG hown hK hP ho gw_18_13 dX3_wantsToTurn_148 ?_
                      refine lv_bipush (v := 10) hx hb dX3_wantsToTurn_151 (by decide) ?_
                      refine lv_irem hx hb dX3_wantsToTurn_153 (by decide) ?_
                      refine lv_if_ne (tgt := 161) hx hb dX3_wantsToTurn_154 (by decide) (fun hc_52 => ?_) (fun hc_52 => ?_)
                      · have hr_50 := ite_t hr_50 hc_52
                        refine lv_iconst (v := 0) hx hb dX3_wantsToTurn_161 (by decide) ?_
                        cases hr_50
                        exact j162 _ _ _ (Or.inl rfl) hP hS (lv_sub hl [] rfl)
                      · have hr_50 := ite_f hr_50 (fun q => q hc_52)
                        refine lv_iconst (v := 1) hx hb dX3_wantsToTurn_157 (by decide) ?_
                        refine lv_goto (tgt := 162) hx hb dX3_wantsToTurn_158 (by decide) ?_
                        cases hr_50
                        exact j162 _ _ _ (Or.inr rfl) hP hS (lv_sub hl [] rfl)
                · have he := ite_f he hw_44
                  refine lv_tableOut (tgt := 163) hx hb dX3_wantsToTurn_7 (by have q0 : (M (a1 + 12) 0).toInt ≠ 0 := ne_I hw_1; have q1 : (M (a1 + 12) 0).toInt ≠ 1 := ne_I hw_6; have q2 : (M (a1 + 12) 0).toInt ≠ 2 := ne_I hw_11; have q3 : (M (a1 + 12) 0).toInt ≠ 3 := ne_I hw_12; have q4 : (M (a1 + 12) 0).toInt ≠ 4 := ne_I hw_21; have q5 : (M (a1 + 12) 0).toInt ≠ 5 := ne_I hw_26; have q6 : (M (a1 + 12) 0).toInt ≠ 6 := ne_I hw_31; have q7 : (M (a1 + 12) 0).toInt ≠ 7 := ne_I hw_44; omega) (by decide) ?_
                  refine lv_aload_n hx hb dX3_wantsToTurn_163 rfl (lv_at hl 1 rfl) ?_
                  refine lv_aload_n hx hb dX3_wantsToTurn_164 rfl (lv_at hl 0 rfl) ?_
                  refine gX3_2 hx hb hG hown hK hP ho gw_18_13 dX3_wantsToTurn_165 ?_
                  refine call_i [.int (M o 2)] [] hx hb hml hG hown hK (c_X1_turnsByBitsAt had M a1 ha1 (M o 2)) gw_21_16 gm_X1_turnsByBitsAt gd_X1_turnsByBitsAt rfl rfl ⟨Nat.le_of_ble_eq_true rfl, Nat.le_of_ble_eq_true rfl⟩ ⟨Nat.le_refl _, Nat.le_refl _⟩ (rX1 hK hP ha1) hP (fun _ h => h) hS rfl hl.1 rfl (Nat.le_of_ble_eq_true rfl) dX3_wantsToTurn_168 (fun r_54 u_56 H locs hF_55 hP hS => ?_)
                  obtain ⟨hz_57, hF_55, hu⟩ := hF_55; rw [hu] at hP; subst hF_55
                  exact hret _ _ _ _ _ _ ⟨hz_57, (hV.trans he.symm), rfl⟩ (nz01 hz_57) hP hS dX3_wantsToTurn_171
def rm_X1_comeAbout : Room := { frames := 0, cells := 0, slots := 0, locals := 0 }
theorem gm_X1_comeAbout : Cond.instanceMethod yX1_comeAbout ∈ wsL_law ∧ Cond.selects RX1 yX1_comeAbout yX1_comeAbout ∈ wsL_law ∧ Cond.initialized RX1 ∈ wsL_law ∧ Cond.code yX1_comeAbout cX1_comeAbout 2 none ∈ wsL_law := ⟨gw_21_21, gw_21_22, gw_3_11, gw_21_23⟩
theorem gd_X1_comeAbout : yX1_comeAbout.cls = RX1 ∧ yX1_comeAbout.cls ≠ "java/lang/invoke/MethodHandle" ∧ yX1_comeAbout.cls ≠ "java/lang/invoke/VarHandle" ∧ (parseMethodDescriptor yX1_comeAbout.desc).map (fun d => d.parameters.length) = some 1 := by decide +kernel
set_option maxRecDepth 100000 in
set_option maxHeartbeats 0 in
theorem c_X1_comeAbout {l : Launch} {D : va_G} {k : Nat → ClassId} {ad : Nat → Nat} (had : InjN 74 ad) (M : Mem) (o : Nat) (ho : kBoat o) (a1 : Int32) : Met l yX1_comeAbout (Cond.code yX1_comeAbout cX1_comeAbout 2 none :: wsL_law) rm_X1_comeAbout (va_Pc [.ref (ad o), .int a1] (GW 74 ad D k (cC ad k M))) (va_Qv (fun u => f_X1_comeAbout M o a1 = u) (fun u t => GW 74 ad D k (cC ad k u) t) (AW 74 ad)) 0 0 (AW 74 ad) := by
  refine met_v (g := cC ad k) (M := M) (plainFor_of_name (by decide)) (Nat.le_of_ble_eq_true rfl) ?_
  intro p e s m args below meth c Q ls hx hb hml hG hown hK hret hP hS hl
  have hl : lv_has ls 2 [(0, .ref (ad o)), (1, .int a1)] := hl
  obtain ⟨V, hV⟩ : ∃ V, f_X1_comeAbout M o a1 = V := ⟨_, rfl⟩
  have he := hV
  unfold f_X1_comeAbout at he
  refine lv_aload_n hx hb dX1_comeAbout_0 rfl (lv_at hl 0 rfl) ?_
  refine lv_aload_n hx hb dX1_comeAbout_1 rfl (lv_at hl 0 rfl) ?_
  refine gX1_5 hx hb hG hown hK hP ho gw_15_4 dX1_comeAbout_2 ?_
  obtain ⟨t_3, hr_2, he⟩ := bnd_ex he
  have j13 : ∀ (H : Heap) (locs : List Loc) (ls : Array Slot), (t_3 = 0 ∨ t_3 = 1) → va_P D vwCl (wld 74 ad (cC ad k M)) H → va_S (AW 74 ad) s.heap H locs → lv_has ls 2 [(0, .ref (ad o)), (1, .int a1)] → W p l e rm_X1_comeAbout s m args below meth c H locs 0 0 Q (F0 m 13 ls [.int t_3, .ref (ad o)]) := by
    intro H locs ls zt_3 hP hS hl
    refine pX1_5 hx hb hG hown hK hP had AW_in hS ho gw_15_4 zt_3  dX1_comeAbout_13 (fun H locs hP hS => ?_)
    obtain ⟨M_4, eM_4⟩ : ∃ y : Mem, y = up2 M o 5 t_3 := ⟨_, rfl⟩
    rw [← eM_4] at hP
    have he := bnd_at he eM_4
    refine lv_aload_n hx hb dX1_comeAbout_16 rfl (lv_at hl 0 rfl) ?_
    refine lv_iload_n hx hb dX1_comeAbout_17 rfl (lv_at hl 1 rfl) ?_
    refine pX1_6 hx hb hG hown hK hP had AW_in hS ho gw_15_5 dX1_comeAbout_18 (fun H locs hP hS => ?_)
    obtain ⟨M_5, eM_5⟩ : ∃ y : Mem, y = up2 M_4 o 6 a1 := ⟨_, rfl⟩
    rw [← eM_5] at hP
    have he := bnd_at he eM_5
    refine lv_aload_n hx hb dX1_comeAbout_21 rfl (lv_at hl 0 rfl) ?_
    refine lv_dup hx hb dX1_comeAbout_22 rfl ?_
    refine gX1_8 hx hb hG hown hK hP ho gw_15_6 dX1_comeAbout_23 ?_
    refine lv_iconst (v := 1) hx hb dX1_comeAbout_26 (by decide) ?_
    refine lv_iadd hx hb dX1_comeAbout_27 ?_
    refine pX1_8 hx hb hG hown hK hP had AW_in hS ho gw_15_6 dX1_comeAbout_28 (fun H locs hP hS => ?_)
    obtain ⟨M_6, eM_6⟩ : ∃ y : Mem, y = up2 M_5 o 8 ((M_5 o 8) + 1) := ⟨_, rfl⟩
    rw [← eM_6] at hP
    have he := bnd_at he eM_6
    exact hret _ _ _ _ _ (hV.trans he.symm) hP hS dX1_comeAbout_31
  refine lv_if_ne (tgt := 12) hx hb dX1_comeAbout_5 (by decide) (fun hc_1 => ?_) (fun hc_1 => ?_)
  · have hr_2 := ite_t hr_2 hc_1
    refine lv_iconst (v := 0) hx hb dX1_comeAbout_12 (by decide) ?_
    cases hr_2
    exact j13 _ _ _ (Or.inl rfl) hP hS (lv_sub hl [0, 1] rfl)
  · have hr_2 := ite_f hr_2 (fun q => q hc_1)
    refine lv_iconst (v := 1) hx hb dX1_comeAbout_8 (by decide) ?_
    refine lv_goto (tgt := 13) hx hb dX1_comeAbout_9 (by decide) ?_
    cases hr_2
    exact j13 _ _ _ (Or.inr rfl) hP hS (lv_sub hl [0, 1] rfl)
def rm_X3_step : Room := { frames := 3, cells := 0, slots := 0, locals := 59 }
theorem gm_X3_step : Cond.instanceMethod yX3_step ∈ wsL_law ∧ Cond.selects RX3 yX3_step yX3_step ∈ wsL_law ∧ Cond.initialized RX3 ∈ wsL_law ∧ Cond.code yX3_step cX3_step 6 none ∈ wsL_law := ⟨gw_19_5, gw_19_6, gw_1_19, gw_19_7⟩
theorem gd_X3_step : yX3_step.cls = RX3 ∧ yX3_step.cls ≠ "java/lang/invoke/MethodHandle" ∧ yX3_step.cls ≠ "java/lang/invoke/VarHandle" ∧ (parseMethodDescriptor yX3_step.desc).map (fun d => d.parameters.length) = some 3 := by decide +kernel
set_option maxRecDepth 100000 in
set_option maxHeartbeats 0 in
theorem c_X3_step {l : Launch} {D : va_G} {k : Nat → ClassId} {ad : Nat → Nat} (had : InjN 74 ad) (M : Mem) (o : Nat) (ho : kRace o) (a1 : Nat) (ha1 : kBay a1) (a2 : Int32) (a3 : Int32) : Met l yX3_step (Cond.code yX3_step cX3_step 6 none :: wsL_law) rm_X3_step (va_Pc [.ref (ad o), .ref (ad a1), .int a2, .int a3] (GW 74 ad D k (cC ad k M))) (va_Qv (fun u => f_X3_step M o a1 a2 a3 = u) (fun u t => GW 74 ad D k (cC ad k u) t) (AW 74 ad)) 0 0 (AW 74 ad) := by
  refine met_v (g := cC ad k) (M := M) (plainFor_of_name (by decide)) (Nat.le_of_ble_eq_true rfl) ?_
  intro p e s m args below meth c Q ls hx hb hml hG hown hK hret hP hS hl
  have hl : lv_has ls 6 [(0, .ref (ad o)), (1, .ref (ad a1)), (2, .int a2), (3, .int a3)] := hl
  obtain ⟨V, hV⟩ : ∃ V, f_X3_step M o a1 a2 a3 = V := ⟨_, rfl⟩
  have he := hV
  unfold f_X3_step at he
  refine lv_aload_n hx hb dX3_step_0 rfl (lv_at hl 0 rfl) ?_
  refine call_v [] [] hx hb hml hG hown hK (c_X3_tellBadAir had M o ho) gw_19_10 gm_X3_tellBadAir gd_X3_tellBadAir rfl rfl ⟨Nat.le_of_ble_eq_true rfl, Nat.le_of_ble_eq_true rfl⟩ ⟨Nat.le_refl _, Nat.le_refl _⟩ (rX3 hK hP ho) hP (fun _ h => h) hS rfl hl.1 rfl (Nat.le_of_ble_eq_true rfl) dX3_step_1 (fun M_3 H locs hF_2 hP hS => ?_)
  have he := bnd_at he hF_2.symm
  refine lv_aload_n hx hb dX3_step_4 rfl (lv_at hl 0 rfl) ?_
  refine lv_dup hx hb dX3_step_5 rfl ?_
  refine gX3_2 hx hb hG hown hK hP ho gw_18_13 dX3_step_6 ?_
  refine lv_iconst (v := 1) hx hb dX3_step_9 (by decide) ?_
  refine lv_iadd hx hb dX3_step_10 ?_
  refine pX3_2 hx hb hG hown hK hP had AW_in hS ho gw_18_13 dX3_step_11 (fun H locs hP hS => ?_)
  obtain ⟨M_4, eM_4⟩ : ∃ y : Mem, y = up2 M_3 o 2 ((M_3 o 2) + 1) := ⟨_, rfl⟩
  rw [← eM_4] at hP
  have he := bnd_at he eM_4
  refine lv_iconst (v := 0) hx hb dX3_step_14 (by decide) ?_
  refine lv_istore (lv' := [(4, .int 0), (0, .ref (ad o)), (1, .ref (ad a1)), (2, .int a2), (3, .int a3)]) hx hb dX3_step_15 hl (by decide) rfl (fun ls hl => ?_)
  obtain ⟨M_25, hr_17, he⟩ := bnd_ex he
  have j58 : ∀ (H : Heap) (locs : List Loc) (ls : Array Slot), va_P D vwCl (wld 74 ad (cC ad k M_25)) H → va_S (AW 74 ad) s.heap H locs → lv_has ls 6 [(0, .ref (ad o)), (1, .ref (ad a1)), (3, .int a3)] → W p l e rm_X3_step s m args below meth c H locs 0 0 Q (F0 m 58 ls []) := by
    intro H locs ls hP hS hl
    refine lv_aload_n hx hb dX3_step_58 rfl (lv_at hl 0 rfl) ?_
    refine call_v [] [] hx hb hml hG hown hK (c_X3_tellBadAir had M_25 o ho) gw_19_10 gm_X3_tellBadAir gd_X3_tellBadAir rfl rfl ⟨Nat.le_of_ble_eq_true rfl, Nat.le_of_ble_eq_true rfl⟩ ⟨Nat.le_refl _, Nat.le_refl _⟩ (rX3 hK hP ho) hP (fun _ h => h) hS rfl hl.1 rfl (Nat.le_of_ble_eq_true rfl) dX3_step_59 (fun M_28 H locs hF_27 hP hS => ?_)
    have he := bnd_at he hF_27.symm
    refine lv_iconst (v := 0) hx hb dX3_step_62 (by decide) ?_
    refine lv_istore (lv' := [(4, .int 0), (0, .ref (ad o)), (1, .ref (ad a1)), (3, .int a3)]) hx hb dX3_step_63 hl (by decide) rfl (fun ls hl => ?_)
    obtain ⟨M_79, hr_56, he⟩ := bnd_ex he
    have j137 : ∀ (H : Heap) (locs : List Loc) (ls : Array Slot), va_P D vwCl (wld 74 ad (cC ad k M_79)) H → va_S (AW 74 ad) s.heap H locs → lv_has ls 6 [(0, .ref (ad o)), (1, .ref (ad a1))] → W p l e rm_X3_step s m args below meth c H locs 0 0 Q (F0 m 137 ls []) := by
      intro H locs ls hP hS hl
      refine lv_iconst (v := 0) hx hb dX3_step_137 (by decide) ?_
      refine lv_istore (lv' := [(4, .int 0), (0, .ref (ad o)), (1, .ref (ad a1))]) hx hb dX3_step_138 hl (by decide) rfl (fun ls hl => ?_)
      obtain ⟨M_108, hr_96, he⟩ := bnd_ex he
      have j192 : ∀ (H : Heap) (locs : List Loc) (ls : Array Slot), va_P D vwCl (wld 74 ad (cC ad k M_108)) H → va_S (AW 74 ad) s.heap H locs → lv_has ls 6 [] → W p l e rm_X3_step s m args below meth c H locs 0 0 Q (F0 m 192 ls []) := by
        intro H locs ls hP hS hl
        exact hret _ _ _ _ _ (hV.trans he.symm) hP hS dX3_step_192
      have lp140 : ∀ (nn : Nat) (H : Heap) (locs : List Loc) (ls : Array Slot) (M_95 : Mem) (v_94 : Int32), (0 ≤ v_94.toInt) → (4 - v_94.toInt).toNat < nn → lp_X3_step_140 nn o a1 M_95 v_94 = M_108 → va_P D vwCl (wld 74 ad (cC ad k M_95)) H → va_S (AW 74 ad) s.heap H locs → lv_has ls 6 [(0, .ref (ad o)), (1, .ref (ad a1)), (4, .int v_94)] → W p l e rm_X3_step s m args below meth c H locs 0 0 Q (F0 m 140 ls []) := by
        intro nn
        induction nn with
        | zero =>
          intro H locs ls M_95 v_94 h0v_94 hμ
          exact absurd hμ (Nat.not_lt_zero _)
        | succ nn ih =>
          intro H locs ls M_95 v_94 h0v_94 hμ hr_96 hP hS hl
          rw [lp_X3_step_140] at hr_96
          refine lv_iload hx hb dX3_step_140 (lv_at hl 2 rfl) ?_
          refine lv_aload_n hx hb dX3_step_142 rfl (lv_at hl 0 rfl) ?_
          refine gX3_1 hx hb hG hown hK hP ho gw_6_7 dX3_step_143 ?_
          refine lv_icmp_ge (tgt := 192) hx hb dX3_step_146 (by decide) (fun hc_97 => ?_) (fun hc_97 => ?_)
          · have hr_96 := ite_t hr_96 hc_97
            cases hr_96
            exact j192 _ _ _ hP hS (lv_sub hl [] rfl)
          · have hr_96 := ite_f hr_96 hc_97
            refine lv_iload hx hb dX3_step_149 (lv_at hl 2 rfl) ?_
            refine lv_aload_n hx hb dX3_step_151 rfl (lv_at hl 0 rfl) ?_
            refine gX3_0 hx hb hG hown hK hP ho gw_3_9 dX3_step_152 ?_
            refine an_kBts hx hb hK hP (kR_bts ho) dX3_step_155 ?_
            refine lv_icmp_ge (tgt := 192) hx hb dX3_step_156 (by decide) (fun hc_98 => ?_) (fun hc_98 => ?_)
            · have hr_96 := ite_t hr_96 hc_98
              cases hr_96
              exact j192 _ _ _ hP hS (lv_sub hl [] rfl)
            · have hr_96 := ite_f hr_96 hc_98
              refine lv_aload_n hx hb dX3_step_159 rfl (lv_at hl 0 rfl) ?_
              refine gX3_0 hx hb hG hown hK hP ho gw_3_9 dX3_step_160 ?_
              refine lv_iload hx hb dX3_step_163 (lv_at hl 2 rfl) ?_
              have hn_99 : vp_in v_94 4 := (vin_I (by have q0 : v_94.toInt < (M_95 o 1).toInt := nle_I hc_97; have q1 : v_94.toInt < 4 := nle_I hc_98; omega) (by have q0 : v_94.toInt < (M_95 o 1).toInt := nle_I hc_97; have q1 : v_94.toInt < 4 := nle_I hc_98; omega))
              refine al_kBts hx hb hK hP (kR_bts ho) hn_99 dX3_step_165 ?_
              refine gX1_10 hx hb hG hown hK hP (kR_boat (kR_bts ho) hn_99) gw_19_8 dX3_step_166 ?_
              obtain ⟨M_106, hr_101, hr_96⟩ := bnd_ex hr_96
              have j186 : ∀ (H : Heap) (locs : List Loc) (ls : Array Slot), va_P D vwCl (wld 74 ad (cC ad k M_106)) H → va_S (AW 74 ad) s.heap H locs → lv_has ls 6 [(0, .ref (ad o)), (1, .ref (ad a1)), (4, .int v_94)] → W p l e rm_X3_step s m args below meth c H locs 0 0 Q (F0 m 186 ls []) := by
                intro H locs ls hP hS hl
                obtain ⟨y_107, ey_107⟩ : ∃ y_107 : Int32, y_107 = v_94 + 1 := ⟨_, rfl⟩
                have hr_96 := bnd_at hr_96 ey_107
                refine lv_iinc (v := y_107) (lv' := [(4, .int y_107), (0, .ref (ad o)), (1, .ref (ad a1))]) hx hb dX3_step_186 hl (k := 2) rfl (by rw [ey_107]; rfl) (by decide) rfl (fun ls hl => ?_)
                refine lv_goto (tgt := 140) hx hb dX3_step_189 (by decide) ?_
                exact ih _ _ _ _ _ (by rw [ey_107, inc_I (N := 4) (nle_I hc_98) (by decide)]; omega) (by rw [ey_107]; exact mu_I hμ (nle_I hc_98) (by decide)) hr_96 hP hS (lv_sub hl [1, 2, 0] rfl)
              refine lv_if_eq (tgt := 186) hx hb dX3_step_169 (by decide) (fun hc_100 => ?_) (fun hc_100 => ?_)
              · have hr_101 := ite_t hr_101 hc_100
                cases hr_101
                exact j186 _ _ _ hP hS (lv_sub hl [0, 1, 2] rfl)
              · have hr_101 := ite_f hr_101 hc_100
                refine lv_aload_n hx hb dX3_step_172 rfl (lv_at hl 0 rfl) ?_
                refine gX3_0 hx hb hG hown hK hP ho gw_3_9 dX3_step_173 ?_
                refine lv_iload hx hb dX3_step_176 (lv_at hl 2 rfl) ?_
                have hn_102 : vp_in v_94 4 := (vin_I (by have q0 : v_94.toInt < (M_95 o 1).toInt := nle_I hc_97; have q1 : v_94.toInt < 4 := nle_I hc_98; have q2 : (b01 (M_95 (4 * (o + 3) - 45 + v_94.toNatClampNeg) 10)).toInt ≠ 0 := ne_I hc_100; omega) (by have q0 : v_94.toInt < (M_95 o 1).toInt := nle_I hc_97; have q1 : v_94.toInt < 4 := nle_I hc_98; have q2 : (b01 (M_95 (4 * (o + 3) - 45 + v_94.toNatClampNeg) 10)).toInt ≠ 0 := ne_I hc_100; omega))
                refine al_kBts hx hb hK hP (kR_bts ho) hn_102 dX3_step_178 ?_
                refine lv_aload_n hx hb dX3_step_179 rfl (lv_at hl 1 rfl) ?_
                refine gX0_3 hx hb hG hown hK hP ha1 gw_19_9 dX3_step_180 ?_
                refine call_v [.int (M_95 a1 3)] [] hx hb hml hG hown hK (c_X1_comeAbout had M_95 (4 * (o + 3) - 45 + v_94.toNatClampNeg) (kR_boat (kR_bts ho) hn_102) (M_95 a1 3)) gw_21_20 gm_X1_comeAbout gd_X1_comeAbout rfl rfl ⟨Nat.le_of_ble_eq_true rfl, Nat.le_of_ble_eq_true rfl⟩ ⟨Nat.le_refl _, Nat.le_refl _⟩ (rX1 hK hP (kR_boat (kR_bts ho) hn_102)) hP (fun _ h => h) hS rfl hl.1 rfl (Nat.le_of_ble_eq_true rfl) dX3_step_183 (fun M_105 H locs hF_104 hP hS => ?_)
                have hr_101 := bnd_at hr_101 hF_104.symm
                cases hr_101
                exact j186 _ _ _ hP hS (lv_sub hl [0, 1, 2] rfl)
      exact lp140 _ _ _ _ _ _ (by decide) (by decide) hr_96 hP hS (lv_sub hl [1, 2, 0] rfl)
    have lp65 : ∀ (nn : Nat) (H : Heap) (locs : List Loc) (ls : Array Slot) (M_55 : Mem) (v_54 : Int32), (0 ≤ v_54.toInt) → (4 - v_54.toInt).toNat < nn → lp_X3_step_65 nn o a1 a3 M_55 v_54 = M_79 → va_P D vwCl (wld 74 ad (cC ad k M_55)) H → va_S (AW 74 ad) s.heap H locs → lv_has ls 6 [(0, .ref (ad o)), (1, .ref (ad a1)), (3, .int a3), (4, .int v_54)] → W p l e rm_X3_step s m args below meth c H locs 0 0 Q (F0 m 65 ls []) := by
      intro nn
      induction nn with
      | zero =>
        intro H locs ls M_55 v_54 h0v_54 hμ
        exact absurd hμ (Nat.not_lt_zero _)
      | succ nn ih =>
        intro H locs ls M_55 v_54 h0v_54 hμ hr_56 hP hS hl
        rw [lp_X3_step_65] at hr_56
        refine lv_iload hx hb dX3_step_65 (lv_at hl 3 rfl) ?_
        refine lv_aload_n hx hb dX3_step_67 rfl (lv_at hl 0 rfl) ?_
        refine gX3_1 hx hb hG hown hK hP ho gw_6_7 dX3_step_68 ?_
        refine lv_icmp_ge (tgt := 137) hx hb dX3_step_71 (by decide) (fun hc_57 => ?_) (fun hc_57 => ?_)
        · have hr_56 := ite_t hr_56 hc_57
          cases hr_56
          exact j137 _ _ _ hP hS (lv_sub hl [0, 1] rfl)
        · have hr_56 := ite_f hr_56 hc_57
          refine lv_iload hx hb dX3_step_74 (lv_at hl 3 rfl) ?_
          refine lv_aload_n hx hb dX3_step_76 rfl (lv_at hl 0 rfl) ?_
          refine gX3_0 hx hb hG hown hK hP ho gw_3_9 dX3_step_77 ?_
          refine an_kBts hx hb hK hP (kR_bts ho) dX3_step_80 ?_
          refine lv_icmp_ge (tgt := 137) hx hb dX3_step_81 (by decide) (fun hc_58 => ?_) (fun hc_58 => ?_)
          · have hr_56 := ite_t hr_56 hc_58
            cases hr_56
            exact j137 _ _ _ hP hS (lv_sub hl [0, 1] rfl)
          · have hr_56 := ite_f hr_56 hc_58
            refine lv_aload_n hx hb dX3_step_84 rfl (lv_at hl 0 rfl) ?_
            refine gX3_0 hx hb hG hown hK hP ho gw_3_9 dX3_step_85 ?_
            refine lv_iload hx hb dX3_step_88 (lv_at hl 3 rfl) ?_
            have hn_59 : vp_in v_54 4 := (vin_I (by have q0 : v_54.toInt < (M_55 o 1).toInt := nle_I hc_57; have q1 : v_54.toInt < 4 := nle_I hc_58; omega) (by have q0 : v_54.toInt < (M_55 o 1).toInt := nle_I hc_57; have q1 : v_54.toInt < 4 := nle_I hc_58; omega))
            refine al_kBts hx hb hK hP (kR_bts ho) hn_59 dX3_step_90 ?_
            refine lv_astore (lv' := [(5, .ref (ad (4 * (o + 3) - 45 + v_54.toNatClampNeg))), (0, .ref (ad o)), (1, .ref (ad a1)), (3, .int a3), (4, .int v_54)]) hx hb dX3_step_91 hl (by decide) rfl (fun ls hl => ?_)
            refine lv_aload hx hb dX3_step_93 (lv_at hl 0 rfl) ?_
            refine lv_aload hx hb dX3_step_95 (lv_at hl 0 rfl) ?_
            refine lv_aload_n hx hb dX3_step_97 rfl (lv_at hl 2 rfl) ?_
            refine call_i [.ref (ad a1)] [.ref (ad (4 * (o + 3) - 45 + v_54.toNatClampNeg))] hx hb hml hG hown hK (c_X1_canTurn had M_55 (4 * (o + 3) - 45 + v_54.toNatClampNeg) (kR_boat (kR_bts ho) hn_59) a1 ha1) gw_20_1 gm_X1_canTurn gd_X1_canTurn rfl rfl ⟨Nat.le_of_ble_eq_true rfl, Nat.le_of_ble_eq_true rfl⟩ ⟨Nat.le_refl _, Nat.le_refl _⟩ (rX1 hK hP (kR_boat (kR_bts ho) hn_59)) hP (fun _ h => h) hS rfl hl.1 rfl (Nat.le_of_ble_eq_true rfl) dX3_step_98 (fun r_60 u_62 H locs hF_61 hP hS => ?_)
            obtain ⟨hz_63, hF_61, hu⟩ := hF_61; rw [hu] at hP; subst hF_61
            obtain ⟨t_76, hr_65, hr_56⟩ := bnd_ex hr_56
            have j128 : ∀ (H : Heap) (locs : List Loc) (ls : Array Slot), (t_76 = 0 ∨ t_76 = 1) → va_P D vwCl (wld 74 ad (cC ad k M_55)) H → va_S (AW 74 ad) s.heap H locs → lv_has ls 6 [(0, .ref (ad o)), (1, .ref (ad a1)), (3, .int a3), (4, .int v_54)] → W p l e rm_X3_step s m args below meth c H locs 0 0 Q (F0 m 128 ls [.int t_76, .ref (ad (4 * (o + 3) - 45 + v_54.toNatClampNeg))]) := by
              intro H locs ls zt_76 hP hS hl
              refine pX1_10 hx hb hG hown hK hP had AW_in hS (kR_boat (kR_bts ho) hn_59) gw_19_8 zt_76  dX3_step_128 (fun H locs hP hS => ?_)
              obtain ⟨M_77, eM_77⟩ : ∃ y : Mem, y = up2 M_55 (4 * (o + 3) - 45 + v_54.toNatClampNeg) 10 t_76 := ⟨_, rfl⟩
              rw [← eM_77] at hP
              have hr_56 := bnd_at hr_56 eM_77
              obtain ⟨y_78, ey_78⟩ : ∃ y_78 : Int32, y_78 = v_54 + 1 := ⟨_, rfl⟩
              have hr_56 := bnd_at hr_56 ey_78
              refine lv_iinc (v := y_78) (lv' := [(4, .int y_78), (0, .ref (ad o)), (1, .ref (ad a1)), (3, .int a3)]) hx hb dX3_step_131 hl (k := 3) rfl (by rw [ey_78]; rfl) (by decide) rfl (fun ls hl => ?_)
              refine lv_goto (tgt := 65) hx hb dX3_step_134 (by decide) ?_
              exact ih _ _ _ _ _ (by rw [ey_78, inc_I (N := 4) (nle_I hc_58) (by decide)]; omega) (by rw [ey_78]; exact mu_I hμ (nle_I hc_58) (by decide)) hr_56 hP hS (lv_sub hl [1, 2, 3, 0] rfl)
            refine lv_if_eq (tgt := 127) hx hb dX3_step_101 (by decide) (fun hc_64 => ?_) (fun hc_64 => ?_)
            · have hr_65 := ite_t hr_65 hc_64
              refine lv_iconst (v := 0) hx hb dX3_step_127 (by decide) ?_
              cases hr_65
              exact j128 _ _ _ (Or.inl rfl) hP hS (lv_sub hl [1, 2, 3, 4] rfl)
            · have hr_65 := ite_f hr_65 hc_64
              refine lv_aload hx hb dX3_step_104 (lv_at hl 0 rfl) ?_
              refine call_i [] [.ref (ad (4 * (o + 3) - 45 + v_54.toNatClampNeg))] hx hb hml hG hown hK (c_X1_goesOut had M_55 (4 * (o + 3) - 45 + v_54.toNatClampNeg) (kR_boat (kR_bts ho) hn_59)) gw_20_5 gm_X1_goesOut gd_X1_goesOut rfl rfl ⟨Nat.le_of_ble_eq_true rfl, Nat.le_of_ble_eq_true rfl⟩ ⟨Nat.le_refl _, Nat.le_refl _⟩ (rX1 hK hP (kR_boat (kR_bts ho) hn_59)) hP (fun _ h => h) hS rfl hl.1 rfl (Nat.le_of_ble_eq_true rfl) dX3_step_106 (fun r_66 u_68 H locs hF_67 hP hS => ?_)
              obtain ⟨hz_69, hF_67, hu⟩ := hF_67; rw [hu] at hP; subst hF_67
              refine lv_if_ne (tgt := 123) hx hb dX3_step_109 (by decide) (fun hc_70 => ?_) (fun hc_70 => ?_)
              · have hr_65 := ite_t hr_65 hc_70
                refine lv_iconst (v := 1) hx hb dX3_step_123 (by decide) ?_
                refine lv_goto (tgt := 128) hx hb dX3_step_124 (by decide) ?_
                cases hr_65
                exact j128 _ _ _ (Or.inr rfl) hP hS (lv_sub hl [1, 2, 3, 4] rfl)
              · have hr_65 := ite_f hr_65 (fun q => q hc_70)
                refine lv_aload_n hx hb dX3_step_112 rfl (lv_at hl 1 rfl) ?_
                refine lv_aload hx hb dX3_step_113 (lv_at hl 0 rfl) ?_
                refine lv_aload_n hx hb dX3_step_115 rfl (lv_at hl 2 rfl) ?_
                refine lv_iload_n hx hb dX3_step_116 rfl (lv_at hl 3 rfl) ?_
                refine call_i [.ref (ad (4 * (o + 3) - 45 + v_54.toNatClampNeg)), .ref (ad a1), .int a3] [.ref (ad (4 * (o + 3) - 45 + v_54.toNatClampNeg))] hx hb hml hG hown hK (c_X3_wantsToTurn had M_55 o ho (4 * (o + 3) - 45 + v_54.toNatClampNeg) (kR_boat (kR_bts ho) hn_59) a1 ha1 a3) gw_20_9 gm_X3_wantsToTurn gd_X3_wantsToTurn rfl rfl ⟨Nat.le_of_ble_eq_true rfl, Nat.le_of_ble_eq_true rfl⟩ ⟨Nat.le_refl _, Nat.le_refl _⟩ (rX3 hK hP ho) hP (fun _ h => h) hS rfl hl.1 rfl (Nat.le_of_ble_eq_true rfl) dX3_step_117 (fun r_71 u_73 H locs hF_72 hP hS => ?_)
                obtain ⟨hz_74, hF_72, hu⟩ := hF_72; rw [hu] at hP; subst hF_72
                refine lv_if_eq (tgt := 127) hx hb dX3_step_120 (by decide) (fun hc_75 => ?_) (fun hc_75 => ?_)
                · have hr_65 := ite_t hr_65 hc_75
                  refine lv_iconst (v := 0) hx hb dX3_step_127 (by decide) ?_
                  cases hr_65
                  exact j128 _ _ _ (Or.inl rfl) hP hS (lv_sub hl [1, 2, 3, 4] rfl)
                · have hr_65 := ite_f hr_65 hc_75
                  refine lv_iconst (v := 1) hx hb dX3_step_123 (by decide) ?_
                  refine lv_goto (tgt := 128) hx hb dX3_step_124 (by decide) ?_
                  cases hr_65
                  exact j128 _ _ _ (Or.inr rfl) hP hS (lv_sub hl [1, 2, 3, 4] rfl)
    exact lp65 _ _ _ _ _ _ (by decide) (by decide) hr_56 hP hS (lv_sub hl [1, 2, 3, 0] rfl)
  have lp17 : ∀ (nn : Nat) (H : Heap) (locs : List Loc) (ls : Array Slot) (M_16 : Mem) (v_15 : Int32), (0 ≤ v_15.toInt) → (4 - v_15.toInt).toNat < nn → lp_X3_step_17 nn o a1 a2 M_16 v_15 = M_25 → va_P D vwCl (wld 74 ad (cC ad k M_16)) H → va_S (AW 74 ad) s.heap H locs → lv_has ls 6 [(0, .ref (ad o)), (1, .ref (ad a1)), (2, .int a2), (3, .int a3), (4, .int v_15)] → W p l e rm_X3_step s m args below meth c H locs 0 0 Q (F0 m 17 ls []) := by
    intro nn
    induction nn with
    | zero =>
      intro H locs ls M_16 v_15 h0v_15 hμ
      exact absurd hμ (Nat.not_lt_zero _)
    | succ nn ih =>
      intro H locs ls M_16 v_15 h0v_15 hμ hr_17 hP hS hl
      rw [lp_X3_step_17] at hr_17
      refine lv_iload hx hb dX3_step_17 (lv_at hl 4 rfl) ?_
      refine lv_aload_n hx hb dX3_step_19 rfl (lv_at hl 0 rfl) ?_
      refine gX3_1 hx hb hG hown hK hP ho gw_6_7 dX3_step_20 ?_
      refine lv_icmp_ge (tgt := 58) hx hb dX3_step_23 (by decide) (fun hc_18 => ?_) (fun hc_18 => ?_)
      · have hr_17 := ite_t hr_17 hc_18
        cases hr_17
        exact j58 _ _ _ hP hS (lv_sub hl [0, 1, 3] rfl)
      · have hr_17 := ite_f hr_17 hc_18
        refine lv_iload hx hb dX3_step_26 (lv_at hl 4 rfl) ?_
        refine lv_aload_n hx hb dX3_step_28 rfl (lv_at hl 0 rfl) ?_
        refine gX3_0 hx hb hG hown hK hP ho gw_3_9 dX3_step_29 ?_
        refine an_kBts hx hb hK hP (kR_bts ho) dX3_step_32 ?_
        refine lv_icmp_ge (tgt := 58) hx hb dX3_step_33 (by decide) (fun hc_19 => ?_) (fun hc_19 => ?_)
        · have hr_17 := ite_t hr_17 hc_19
          cases hr_17
          exact j58 _ _ _ hP hS (lv_sub hl [0, 1, 3] rfl)
        · have hr_17 := ite_f hr_17 hc_19
          refine lv_aload_n hx hb dX3_step_36 rfl (lv_at hl 0 rfl) ?_
          refine gX3_0 hx hb hG hown hK hP ho gw_3_9 dX3_step_37 ?_
          refine lv_iload hx hb dX3_step_40 (lv_at hl 4 rfl) ?_
          have hn_20 : vp_in v_15 4 := (vin_I (by have q0 : v_15.toInt < (M_16 o 1).toInt := nle_I hc_18; have q1 : v_15.toInt < 4 := nle_I hc_19; omega) (by have q0 : v_15.toInt < (M_16 o 1).toInt := nle_I hc_18; have q1 : v_15.toInt < 4 := nle_I hc_19; omega))
          refine al_kBts hx hb hK hP (kR_bts ho) hn_20 dX3_step_42 ?_
          refine lv_aload_n hx hb dX3_step_43 rfl (lv_at hl 1 rfl) ?_
          refine lv_iload_n hx hb dX3_step_44 rfl (lv_at hl 2 rfl) ?_
          refine lv_aload_n hx hb dX3_step_45 rfl (lv_at hl 0 rfl) ?_
          refine gX3_2 hx hb hG hown hK hP ho gw_18_13 dX3_step_46 ?_
          refine call_v [.ref (ad a1), .int a2, .int (M_16 o 2)] [] hx hb hml hG hown hK (c_X1_sail had M_16 (4 * (o + 3) - 45 + v_15.toNatClampNeg) (kR_boat (kR_bts ho) hn_20) a1 ha1 a2 (M_16 o 2)) gw_19_11 gm_X1_sail gd_X1_sail rfl rfl ⟨Nat.le_of_ble_eq_true rfl, Nat.le_of_ble_eq_true rfl⟩ ⟨Nat.le_refl _, Nat.le_refl _⟩ (rX1 hK hP (kR_boat (kR_bts ho) hn_20)) hP (fun _ h => h) hS rfl hl.1 rfl (Nat.le_of_ble_eq_true rfl) dX3_step_49 (fun M_23 H locs hF_22 hP hS => ?_)
          have hr_17 := bnd_at hr_17 hF_22.symm
          obtain ⟨y_24, ey_24⟩ : ∃ y_24 : Int32, y_24 = v_15 + 1 := ⟨_, rfl⟩
          have hr_17 := bnd_at hr_17 ey_24
          refine lv_iinc (v := y_24) (lv' := [(4, .int y_24), (0, .ref (ad o)), (1, .ref (ad a1)), (2, .int a2), (3, .int a3)]) hx hb dX3_step_52 hl (k := 4) rfl (by rw [ey_24]; rfl) (by decide) rfl (fun ls hl => ?_)
          refine lv_goto (tgt := 17) hx hb dX3_step_55 (by decide) ?_
          exact ih _ _ _ _ _ (by rw [ey_24, inc_I (N := 4) (nle_I hc_19) (by decide)]; omega) (by rw [ey_24]; exact mu_I hμ (nle_I hc_19) (by decide)) hr_17 hP hS (lv_sub hl [1, 2, 3, 4, 0] rfl)
  exact lp17 _ _ _ _ _ _ (by decide) (by decide) hr_17 hP hS (lv_sub hl [1, 2, 3, 4, 0] rfl)
def rm_X3_goOn : Room := { frames := 4, cells := 0, slots := 0, locals := 84 }
theorem gm_X3_goOn : Cond.instanceMethod yX3_goOn ∈ wsL_law ∧ Cond.selects RX3 yX3_goOn yX3_goOn ∈ wsL_law ∧ Cond.initialized RX3 ∈ wsL_law ∧ Cond.code yX3_goOn cX3_goOn 4 none ∈ wsL_law := ⟨gw_18_23, gw_19_0, gw_1_19, gw_19_1⟩
theorem gd_X3_goOn : yX3_goOn.cls = RX3 ∧ yX3_goOn.cls ≠ "java/lang/invoke/MethodHandle" ∧ yX3_goOn.cls ≠ "java/lang/invoke/VarHandle" ∧ (parseMethodDescriptor yX3_goOn.desc).map (fun d => d.parameters.length) = some 2 := by decide +kernel
set_option maxRecDepth 100000 in
set_option maxHeartbeats 0 in
theorem c_X3_goOn {l : Launch} {D : va_G} {k : Nat → ClassId} {ad : Nat → Nat} (had : InjN 74 ad) (M : Mem) (o : Nat) (ho : kRace o) (a1 : Nat) (ha1 : kBay a1) (a2 : Int32) : Met l yX3_goOn (Cond.code yX3_goOn cX3_goOn 4 none :: wsL_law) rm_X3_goOn (va_Pc [.ref (ad o), .ref (ad a1), .int a2] (GW 74 ad D k (cC ad k M))) (va_Qv (fun u => f_X3_goOn M o a1 a2 = u) (fun u t => GW 74 ad D k (cC ad k u) t) (AW 74 ad)) 0 0 (AW 74 ad) := by
  refine met_v (g := cC ad k) (M := M) (plainFor_of_name (by decide)) (Nat.le_of_ble_eq_true rfl) ?_
  intro p e s m args below meth c Q ls hx hb hml hG hown hK hret hP hS hl
  have hl : lv_has ls 4 [(0, .ref (ad o)), (1, .ref (ad a1)), (2, .int a2)] := hl
  obtain ⟨V, hV⟩ : ∃ V, f_X3_goOn M o a1 a2 = V := ⟨_, rfl⟩
  have he := hV
  unfold f_X3_goOn at he
  refine lv_iconst (v := 0) hx hb dX3_goOn_0 (by decide) ?_
  refine lv_istore_n (lv' := [(3, .int 0), (0, .ref (ad o)), (1, .ref (ad a1)), (2, .int a2)]) hx hb dX3_goOn_1 rfl hl (by decide) rfl (fun ls hl => ?_)
  obtain ⟨M_39, hr_22, he⟩ := bnd_ex he
  have j43 : ∀ (H : Heap) (locs : List Loc) (ls : Array Slot), va_P D vwCl (wld 74 ad (cC ad k M_39)) H → va_S (AW 74 ad) s.heap H locs → lv_has ls 4 [] → W p l e rm_X3_goOn s m args below meth c H locs 0 0 Q (F0 m 43 ls []) := by
    intro H locs ls hP hS hl
    exact hret _ _ _ _ _ (hV.trans he.symm) hP hS dX3_goOn_43
  have lp2 : ∀ (nn : Nat) (H : Heap) (locs : List Loc) (ls : Array Slot) (M_21 : Mem) (v_20 : Int32), (0 ≤ v_20.toInt) → (a2.toInt - v_20.toInt).toNat < nn → lp_X3_goOn_2 nn o a1 a2 M_21 v_20 = M_39 → va_P D vwCl (wld 74 ad (cC ad k M_21)) H → va_S (AW 74 ad) s.heap H locs → lv_has ls 4 [(0, .ref (ad o)), (1, .ref (ad a1)), (2, .int a2), (3, .int v_20)] → W p l e rm_X3_goOn s m args below meth c H locs 0 0 Q (F0 m 2 ls []) := by
    intro nn
    induction nn with
    | zero =>
      intro H locs ls M_21 v_20 h0v_20 hμ
      exact absurd hμ (Nat.not_lt_zero _)
    | succ nn ih =>
      intro H locs ls M_21 v_20 h0v_20 hμ hr_22 hP hS hl
      rw [lp_X3_goOn_2] at hr_22
      refine lv_iload_n hx hb dX3_goOn_2 rfl (lv_at hl 3 rfl) ?_
      refine lv_iload_n hx hb dX3_goOn_3 rfl (lv_at hl 2 rfl) ?_
      refine lv_icmp_ge (tgt := 43) hx hb dX3_goOn_4 (by decide) (fun hc_23 => ?_) (fun hc_23 => ?_)
      · have hr_22 := ite_t hr_22 hc_23
        cases hr_22
        exact j43 _ _ _ hP hS (lv_sub hl [] rfl)
      · have hr_22 := ite_f hr_22 hc_23
        refine lv_aload_n hx hb dX3_goOn_7 rfl (lv_at hl 0 rfl) ?_
        refine call_i [] [] hx hb hml hG hown hK (c_X3_hasEnded had M_21 o ho) gw_19_2 gm_X3_hasEnded gd_X3_hasEnded rfl rfl ⟨Nat.le_of_ble_eq_true rfl, Nat.le_of_ble_eq_true rfl⟩ ⟨Nat.le_refl _, Nat.le_refl _⟩ (rX3 hK hP ho) hP (fun _ h => h) hS rfl hl.1 rfl (Nat.le_of_ble_eq_true rfl) dX3_goOn_8 (fun r_24 u_26 H locs hF_25 hP hS => ?_)
        obtain ⟨hz_27, hF_25, hu⟩ := hF_25; rw [hu] at hP; subst hF_25
        refine lv_if_ne (tgt := 43) hx hb dX3_goOn_11 (by decide) (fun hc_28 => ?_) (fun hc_28 => ?_)
        · have hr_22 := ite_t hr_22 hc_28
          cases hr_22
          exact j43 _ _ _ hP hS (lv_sub hl [] rfl)
        · have hr_22 := ite_f hr_22 (fun q => q hc_28)
          refine lv_aload_n hx hb dX3_goOn_14 rfl (lv_at hl 0 rfl) ?_
          refine lv_aload_n hx hb dX3_goOn_15 rfl (lv_at hl 1 rfl) ?_
          refine lv_aload_n hx hb dX3_goOn_16 rfl (lv_at hl 1 rfl) ?_
          refine lv_aload_n hx hb dX3_goOn_17 rfl (lv_at hl 0 rfl) ?_
          refine gX3_2 hx hb hG hown hK hP ho gw_18_13 dX3_goOn_18 ?_
          refine call_i [.int (M_21 o 2)] [.ref (ad a1), .ref (ad o)] hx hb hml hG hown hK (c_X0_windAt had M_21 a1 ha1 (M_21 o 2)) gw_19_3 gm_X0_windAt gd_X0_windAt rfl rfl ⟨Nat.le_of_ble_eq_true rfl, Nat.le_of_ble_eq_true rfl⟩ ⟨Nat.le_refl _, Nat.le_refl _⟩ (rX0 hK hP ha1) hP (fun _ h => h) hS rfl hl.1 rfl (Nat.le_of_ble_eq_true rfl) dX3_goOn_21 (fun r_29 M_31 H locs hF_30 hP hS => ?_)
          have hr_22 := bnd2_at hr_22 hF_30
          refine lv_aload_n hx hb dX3_goOn_24 rfl (lv_at hl 1 rfl) ?_
          refine lv_aload_n hx hb dX3_goOn_25 rfl (lv_at hl 0 rfl) ?_
          refine gX3_2 hx hb hG hown hK hP ho gw_18_13 dX3_goOn_26 ?_
          refine lv_iconst (v := 1) hx hb dX3_goOn_29 (by decide) ?_
          refine lv_iadd hx hb dX3_goOn_30 ?_
          refine call_i [.int ((M_31 o 2) + 1)] [.int r_29, .ref (ad a1), .ref (ad o)] hx hb hml hG hown hK (c_X0_windAt had M_31 a1 ha1 ((M_31 o 2) + 1)) gw_19_3 gm_X0_windAt gd_X0_windAt rfl rfl ⟨Nat.le_of_ble_eq_true rfl, Nat.le_of_ble_eq_true rfl⟩ ⟨Nat.le_refl _, Nat.le_refl _⟩ (rX0 hK hP ha1) hP (fun _ h => h) hS rfl hl.1 rfl (Nat.le_of_ble_eq_true rfl) dX3_goOn_31 (fun r_32 M_34 H locs hF_33 hP hS => ?_)
          have hr_22 := bnd2_at hr_22 hF_33
          refine call_v [.ref (ad a1), .int r_29, .int r_32] [] hx hb hml hG hown hK (c_X3_step had M_34 o ho a1 ha1 r_29 r_32) gw_19_4 gm_X3_step gd_X3_step rfl rfl ⟨Nat.le_of_ble_eq_true rfl, Nat.le_of_ble_eq_true rfl⟩ ⟨Nat.le_refl _, Nat.le_refl _⟩ (rX3 hK hP ho) hP (fun _ h => h) hS rfl hl.1 rfl (Nat.le_of_ble_eq_true rfl) dX3_goOn_34 (fun M_37 H locs hF_36 hP hS => ?_)
          have hr_22 := bnd_at hr_22 hF_36.symm
          obtain ⟨y_38, ey_38⟩ : ∃ y_38 : Int32, y_38 = v_20 + 1 := ⟨_, rfl⟩
          have hr_22 := bnd_at hr_22 ey_38
          refine lv_iinc (v := y_38) (lv' := [(3, .int y_38), (0, .ref (ad o)), (1, .ref (ad a1)), (2, .int a2)]) hx hb dX3_goOn_37 hl (k := 3) rfl (by rw [ey_38]; rfl) (by decide) rfl (fun ls hl => ?_)
          refine lv_goto (tgt := 2) hx hb dX3_goOn_40 (by decide) ?_
          exact ih _ _ _ _ _ (by rw [ey_38, inc_I (N := a2.toInt) (nle_I hc_23) (Int32.toInt_le _)]; omega) (by rw [ey_38]; exact mu_I hμ (nle_I hc_23) (Int32.toInt_le _)) hr_22 hP hS (lv_sub hl [1, 2, 3, 0] rfl)
  exact lp2 _ _ _ _ _ _ (by decide) (Nat.lt_succ_self _) hr_22 hP hS (lv_sub hl [1, 2, 3, 0] rfl)
