-- @needs 12_dec 13_dec 14_dec 15_dec 31_hC 42_cC 44_cC 46_cC 47_cC 48_cC 50_cC
def rm_X0_change : Room := { frames := 1, cells := 0, slots := 0, locals := 23 }
theorem gm_X0_change : Cond.instanceMethod yX0_change ∈ wsL_law ∧ Cond.selects RX0 yX0_change yX0_change ∈ wsL_law ∧ Cond.initialized RX0 ∈ wsL_law ∧ Cond.code yX0_change cX0_change 4 (some .int) ∈ wsL_law := ⟨gw_6_10, gw_6_11, gw_1_15, gw_6_12⟩
theorem gd_X0_change : yX0_change.cls = RX0 ∧ yX0_change.cls ≠ "java/lang/invoke/MethodHandle" ∧ yX0_change.cls ≠ "java/lang/invoke/VarHandle" ∧ (parseMethodDescriptor yX0_change.desc).map (fun d => d.parameters.length) = some 2 := by decide +kernel
set_option maxRecDepth 100000 in
set_option maxHeartbeats 0 in
theorem c_X0_change {l : Launch} {D : va_G} {k : Nat → ClassId} {ad : Nat → Nat} (had : InjN 74 ad) (M : Mem) (o : Nat) (ho : kBay o) (a1 : Int32) (a2 : Int32) : Met l yX0_change (Cond.code yX0_change cX0_change 4 (some .int) :: wsL_law) rm_X0_change (va_Pc [.ref (ad o), .int a1, .int a2] (GW 74 ad D k (cC ad k M))) (va_Qi (fun r u => f_X0_change M o a1 a2 = (r, u)) (fun u t => GW 74 ad D k (cC ad k u) t) (AW 74 ad)) 0 0 (AW 74 ad) := by
  refine met_i (g := cC ad k) (M := M) (plainFor_of_name (by decide)) (Nat.le_of_ble_eq_true rfl) ?_
  intro p e s m args below meth c Q ls hx hb hml hG hown hK hret hP hS hl
  have hl : lv_has ls 4 [(0, .ref (ad o)), (1, .int a1), (2, .int a2)] := hl
  obtain ⟨V, hV⟩ : ∃ V, f_X0_change M o a1 a2 = V := ⟨_, rfl⟩
  have he := hV
  unfold f_X0_change at he
  refine lv_aload_n hx hb dX0_change_0 rfl (lv_at hl 0 rfl) ?_
  refine lv_iload_n hx hb dX0_change_1 rfl (lv_at hl 1 rfl) ?_
  refine call_i [.int a1] [] hx hb hml hG hown hK (c_X0_setting had M o ho a1) gw_6_15 gm_X0_setting gd_X0_setting rfl rfl ⟨Nat.le_of_ble_eq_true rfl, Nat.le_of_ble_eq_true rfl⟩ ⟨Nat.le_refl _, Nat.le_refl _⟩ (rX0 hK hP ho) hP (fun _ h => h) hS rfl hl.1 rfl (Nat.le_of_ble_eq_true rfl) dX0_change_2 (fun r_1 u_3 H locs hF_2 hP hS => ?_)
  obtain ⟨hF_2, hu⟩ := hF_2; rw [hu] at hP; subst hF_2
  refine lv_topi (fun y_4 ey_4 => ?_)
  have he := bnd_at he ey_4
  refine lv_istore_n (lv' := [(3, .int y_4), (0, .ref (ad o)), (1, .int a1), (2, .int a2)]) hx hb dX0_change_5 rfl hl (by decide) rfl (fun ls hl => ?_)
  refine lv_iload_n hx hb dX0_change_6 rfl (lv_at hl 2 rfl) ?_
  obtain ⟨M_18, hr_5, he⟩ := bnd_ex he
  have j82 : ∀ (H : Heap) (locs : List Loc) (ls : Array Slot), va_P D vwCl (wld 74 ad (cC ad k M_18)) H → va_S (AW 74 ad) s.heap H locs → lv_has ls 4 [(3, .int y_4)] → W p l e rm_X0_change s m args below meth c H locs 0 0 Q (F0 m 82 ls []) := by
    intro H locs ls hP hS hl
    refine lv_iload_n hx hb dX0_change_82 rfl (lv_at hl 0 rfl) ?_
    exact hret _ _ _ _ _ _ (hV.trans he.symm) hP hS dX0_change_83
  by_cases hw_6 : a1 = 0
  · have hr_5 := ite_t hr_5 hw_6
    refine lv_tableIn (tgt := 36) hx hb dX0_change_7 (by rw [hw_6]; decide) (by rw [hw_6]; decide) (by rw [hw_6]; rfl) (by decide) ?_
    refine lv_aload_n hx hb dX0_change_36 rfl (lv_at hl 1 rfl) ?_
    refine lv_iload_n hx hb dX0_change_37 rfl (lv_at hl 3 rfl) ?_
    refine pX0_0 hx hb hG hown hK hP had AW_in hS ho gw_2_9 dX0_change_38 (fun H locs hP hS => ?_)
    obtain ⟨M_7, eM_7⟩ : ∃ y : Mem, y = up2 M o 0 a2 := ⟨_, rfl⟩
    rw [← eM_7] at hP
    have hr_5 := bnd_at hr_5 eM_7
    refine lv_goto (tgt := 82) hx hb dX0_change_41 (by decide) ?_
    cases hr_5
    exact j82 _ _ _ hP hS (lv_sub hl [0] rfl)
  · have hr_5 := ite_f hr_5 hw_6
    by_cases hw_8 : a1 = 1
    · have hr_5 := ite_t hr_5 hw_8
      refine lv_tableIn (tgt := 44) hx hb dX0_change_7 (by rw [hw_8]; decide) (by rw [hw_8]; decide) (by rw [hw_8]; rfl) (by decide) ?_
      refine lv_aload_n hx hb dX0_change_44 rfl (lv_at hl 1 rfl) ?_
      refine lv_iload_n hx hb dX0_change_45 rfl (lv_at hl 3 rfl) ?_
      refine pX0_1 hx hb hG hown hK hP had AW_in hS ho gw_6_13 dX0_change_46 (fun H locs hP hS => ?_)
      obtain ⟨M_9, eM_9⟩ : ∃ y : Mem, y = up2 M o 1 a2 := ⟨_, rfl⟩
      rw [← eM_9] at hP
      have hr_5 := bnd_at hr_5 eM_9
      refine lv_goto (tgt := 82) hx hb dX0_change_49 (by decide) ?_
      cases hr_5
      exact j82 _ _ _ hP hS (lv_sub hl [0] rfl)
    · have hr_5 := ite_f hr_5 hw_8
      by_cases hw_10 : a1 = 2
      · have hr_5 := ite_t hr_5 hw_10
        refine lv_tableIn (tgt := 52) hx hb dX0_change_7 (by rw [hw_10]; decide) (by rw [hw_10]; decide) (by rw [hw_10]; rfl) (by decide) ?_
        refine lv_aload_n hx hb dX0_change_52 rfl (lv_at hl 1 rfl) ?_
        refine lv_iload_n hx hb dX0_change_53 rfl (lv_at hl 3 rfl) ?_
        refine pX0_2 hx hb hG hown hK hP had AW_in hS ho gw_2_10 dX0_change_54 (fun H locs hP hS => ?_)
        obtain ⟨M_11, eM_11⟩ : ∃ y : Mem, y = up2 M o 2 a2 := ⟨_, rfl⟩
        rw [← eM_11] at hP
        have hr_5 := bnd_at hr_5 eM_11
        refine lv_goto (tgt := 82) hx hb dX0_change_57 (by decide) ?_
        cases hr_5
        exact j82 _ _ _ hP hS (lv_sub hl [0] rfl)
      · have hr_5 := ite_f hr_5 hw_10
        by_cases hw_12 : a1 = 3
        · have hr_5 := ite_t hr_5 hw_12
          refine lv_tableIn (tgt := 60) hx hb dX0_change_7 (by rw [hw_12]; decide) (by rw [hw_12]; decide) (by rw [hw_12]; rfl) (by decide) ?_
          refine lv_aload_n hx hb dX0_change_60 rfl (lv_at hl 1 rfl) ?_
          refine lv_iload_n hx hb dX0_change_61 rfl (lv_at hl 3 rfl) ?_
          refine pX0_3 hx hb hG hown hK hP had AW_in hS ho gw_2_11 dX0_change_62 (fun H locs hP hS => ?_)
          obtain ⟨M_13, eM_13⟩ : ∃ y : Mem, y = up2 M o 3 a2 := ⟨_, rfl⟩
          rw [← eM_13] at hP
          have hr_5 := bnd_at hr_5 eM_13
          refine lv_goto (tgt := 82) hx hb dX0_change_65 (by decide) ?_
          cases hr_5
          exact j82 _ _ _ hP hS (lv_sub hl [0] rfl)
        · have hr_5 := ite_f hr_5 hw_12
          refine lv_tableOut (tgt := 68) hx hb dX0_change_7 (by have q0 : a1.toInt ≠ 0 := ne_I hw_6; have q1 : a1.toInt ≠ 1 := ne_I hw_8; have q2 : a1.toInt ≠ 2 := ne_I hw_10; have q3 : a1.toInt ≠ 3 := ne_I hw_12; omega) (by decide) ?_
          refine lv_aload_n hx hb dX0_change_68 rfl (lv_at hl 1 rfl) ?_
          refine lv_iload_n hx hb dX0_change_69 rfl (lv_at hl 3 rfl) ?_
          refine pX0_4 hx hb hG hown hK hP had AW_in hS ho gw_6_14 dX0_change_70 (fun H locs hP hS => ?_)
          obtain ⟨M_14, eM_14⟩ : ∃ y : Mem, y = up2 M o 4 a2 := ⟨_, rfl⟩
          rw [← eM_14] at hP
          have hr_5 := bnd_at hr_5 eM_14
          refine lv_aload_n hx hb dX0_change_73 rfl (lv_at hl 1 rfl) ?_
          refine gX0_6 hx hb hG hown hK hP ho gw_2_17 dX0_change_74 ?_
          refine lv_bipush (v := 100) hx hb dX0_change_77 (by decide) ?_
          refine callS_v [.ref (ad (o + 6)), .int 100] [] hx hb hml hG hown hK (c_J7_fill_53178 had M_14 (o + 6) (kI_win (kR_win ho)) 100) gw_3_0 gm_J7_fill_53178 gd_J7_fill_53178 rfl rfl ⟨Nat.le_of_ble_eq_true rfl, Nat.le_of_ble_eq_true rfl⟩ ⟨Nat.le_refl _, Nat.le_refl _⟩ hP (fun _ h => h) hS rfl hl.1 rfl (Nat.le_of_ble_eq_true rfl) dX0_change_79 (fun M_17 H locs hF_16 hP hS => ?_)
          have hr_5 := bnd_at hr_5 hF_16.symm
          cases hr_5
          exact j82 _ _ _ hP hS (lv_sub hl [0] rfl)
def rm_X1_gain : Room := { frames := 1, cells := 0, slots := 0, locals := 15 }
theorem gm_X1_gain : Cond.instanceMethod yX1_gain ∈ wsL_law ∧ Cond.selects RX1 yX1_gain yX1_gain ∈ wsL_law ∧ Cond.initialized RX1 ∈ wsL_law ∧ Cond.code yX1_gain cX1_gain 3 none ∈ wsL_law := ⟨gw_38_12, gw_38_13, gw_3_11, gw_38_14⟩
theorem gd_X1_gain : yX1_gain.cls = RX1 ∧ yX1_gain.cls ≠ "java/lang/invoke/MethodHandle" ∧ yX1_gain.cls ≠ "java/lang/invoke/VarHandle" ∧ (parseMethodDescriptor yX1_gain.desc).map (fun d => d.parameters.length) = some 2 := by decide +kernel
set_option maxRecDepth 100000 in
set_option maxHeartbeats 0 in
theorem c_X1_gain {l : Launch} {D : va_G} {k : Nat → ClassId} {ad : Nat → Nat} (had : InjN 74 ad) (M : Mem) (o : Nat) (ho : kBoat o) (a1 : Int32) (a2 : Int32) : Met l yX1_gain (Cond.code yX1_gain cX1_gain 3 none :: wsL_law) rm_X1_gain (va_Pc [.ref (ad o), .int a1, .int a2] (GW 74 ad D k (cC ad k M))) (va_Qv (fun u => f_X1_gain M o a1 a2 = u) (fun u t => GW 74 ad D k (cC ad k u) t) (AW 74 ad)) 0 0 (AW 74 ad) := by
  refine met_v (g := cC ad k) (M := M) (plainFor_of_name (by decide)) (Nat.le_of_ble_eq_true rfl) ?_
  intro p e s m args below meth c Q ls hx hb hml hG hown hK hret hP hS hl
  have hl : lv_has ls 3 [(0, .ref (ad o)), (1, .int a1), (2, .int a2)] := hl
  obtain ⟨V, hV⟩ : ∃ V, f_X1_gain M o a1 a2 = V := ⟨_, rfl⟩
  have he := hV
  unfold f_X1_gain at he
  refine lv_aload_n hx hb dX1_gain_0 rfl (lv_at hl 0 rfl) ?_
  refine lv_aload_n hx hb dX1_gain_1 rfl (lv_at hl 0 rfl) ?_
  refine gX1_4 hx hb hG hown hK hP ho gw_15_3 dX1_gain_2 ?_
  refine lv_iload_n hx hb dX1_gain_5 rfl (lv_at hl 2 rfl) ?_
  refine lv_aload_n hx hb dX1_gain_6 rfl (lv_at hl 0 rfl) ?_
  refine gX1_4 hx hb hG hown hK hP ho gw_15_3 dX1_gain_7 ?_
  refine lv_iload_n hx hb dX1_gain_10 rfl (lv_at hl 1 rfl) ?_
  refine lv_iadd hx hb dX1_gain_11 ?_
  refine w_min hx hb hml hG hown gw_19_17 (Nat.le_of_ble_eq_true rfl) (Nat.le_of_ble_eq_true rfl) hl.1 ⟨Nat.le_refl _, Nat.le_refl _⟩ dX1_gain_12 ?_
  refine w_max hx hb hml hG hown gw_19_16 (Nat.le_of_ble_eq_true rfl) (Nat.le_of_ble_eq_true rfl) hl.1 ⟨Nat.le_refl _, Nat.le_refl _⟩ dX1_gain_15 ?_
  refine pX1_4 hx hb hG hown hK hP had AW_in hS ho gw_15_3 dX1_gain_18 (fun H locs hP hS => ?_)
  obtain ⟨M_1, eM_1⟩ : ∃ y : Mem, y = up2 M o 4 (mx (M o 4) (mn a2 ((M o 4) + a1))) := ⟨_, rfl⟩
  rw [← eM_1] at hP
  have he := bnd_at he eM_1
  exact hret _ _ _ _ _ (hV.trans he.symm) hP hS dX1_gain_21
def rm_X6_firstWinsWith : Room := { frames := 5, cells := 0, slots := 0, locals := 107 }
theorem gm_X6_firstWinsWith : Cond.instanceMethod yX6_firstWinsWith ∈ wsL_law ∧ Cond.selects RX6 yX6_firstWinsWith yX6_firstWinsWith ∈ wsL_law ∧ Cond.initialized RX6 ∈ wsL_law ∧ Cond.code yX6_firstWinsWith cX6_firstWinsWith 4 (some .boolean) ∈ wsL_law := ⟨gw_38_8, gw_38_9, gw_1_2, gw_38_10⟩
theorem gd_X6_firstWinsWith : yX6_firstWinsWith.cls = RX6 ∧ yX6_firstWinsWith.cls ≠ "java/lang/invoke/MethodHandle" ∧ yX6_firstWinsWith.cls ≠ "java/lang/invoke/VarHandle" ∧ (parseMethodDescriptor yX6_firstWinsWith.desc).map (fun d => d.parameters.length) = some 1 := by decide +kernel
set_option maxRecDepth 100000 in
set_option maxHeartbeats 0 in
theorem c_X6_firstWinsWith {l : Launch} {D : va_G} {k : Nat → ClassId} {ad : Nat → Nat} (had : InjN 74 ad) (M : Mem) (a1 : Int32) : Met l yX6_firstWinsWith (Cond.code yX6_firstWinsWith cX6_firstWinsWith 4 (some .boolean) :: wsL_law) rm_X6_firstWinsWith (va_Pc [.ref (ad 0), .int a1] (GW 74 ad D k (cC ad k M))) (va_Qi (fun r u => (r = 0 ∨ r = 1) ∧ f_X6_firstWinsWith M a1 = (r, u)) (fun u t => GW 74 ad D k (cC ad k u) t) (AW 74 ad)) 0 0 (AW 74 ad) := by
  refine met_z (g := cC ad k) (M := M) (plainFor_of_name (by decide)) (Nat.le_of_ble_eq_true rfl) ?_
  intro p e s m args below meth c Q ls hx hb hml hG hown hK hret hP hS hl
  have hl : lv_has ls 4 [(0, .ref (ad 0)), (1, .int a1)] := hl
  obtain ⟨V, hV⟩ : ∃ V, f_X6_firstWinsWith M a1 = V := ⟨_, rfl⟩
  have he := hV
  unfold f_X6_firstWinsWith at he
  refine lv_aload_n hx hb dX6_firstWinsWith_0 rfl (lv_at hl 0 rfl) ?_
  refine gX6_6 hx hb hG hown hK hP rfl gw_2_0 dX6_firstWinsWith_1 ?_
  refine lv_aload_n hx hb dX6_firstWinsWith_4 rfl (lv_at hl 0 rfl) ?_
  refine gX6_1 hx hb hG hown hK hP rfl gw_1_20 dX6_firstWinsWith_5 ?_
  refine call_v [.ref (ad 13)] [] hx hb hml hG hown hK (c_X3_take had M 15 (by decide) 13 (by decide)) gw_28_2 gm_X3_take gd_X3_take rfl rfl ⟨Nat.le_of_ble_eq_true rfl, Nat.le_of_ble_eq_true rfl⟩ ⟨Nat.le_refl _, Nat.le_refl _⟩ (rX3 hK hP (by decide)) hP (fun _ h => h) hS rfl hl.1 rfl (Nat.le_of_ble_eq_true rfl) dX6_firstWinsWith_8 (fun M_3 H locs hF_2 hP hS => ?_)
  have he := bnd_at he hF_2.symm
  refine lv_aload_n hx hb dX6_firstWinsWith_11 rfl (lv_at hl 0 rfl) ?_
  refine gX6_6 hx hb hG hown hK hP rfl gw_2_0 dX6_firstWinsWith_12 ?_
  refine lv_iconst (v := 0) hx hb dX6_firstWinsWith_15 (by decide) ?_
  refine call_e [.int 0] [] hx hb hml hG hown hK (c_X3_boatAt had M_3 15 (by decide) 0) gw_16_2 gm_X3_boatAt gd_X3_boatAt rfl rfl ⟨Nat.le_of_ble_eq_true rfl, Nat.le_of_ble_eq_true rfl⟩ ⟨Nat.le_refl _, Nat.le_refl _⟩ (rX3 hK hP (by decide)) hP (fun _ h => h) hS rfl hl.1 rfl (Nat.le_of_ble_eq_true rfl) dX6_firstWinsWith_16 (fun r_4 u_6 H locs hF_5 hP hS => ?_)
  obtain ⟨hz_7, hF_5, hu⟩ := hF_5; rw [hu] at hP
  rcases r_4 with _ | b_8
  · have he := oel_n he hF_5
    refine lv_astore_nN (lv' := [(2, .null), (0, .ref (ad 0)), (1, .int a1)]) hx hb dX6_firstWinsWith_19 rfl hl (by decide) rfl (fun ls hl => ?_)
    refine lv_aload_n hx hb dX6_firstWinsWith_20 rfl (lv_at hl 1 rfl) ?_
    refine gX6_6 hx hb hG hown hK hP rfl gw_2_0 dX6_firstWinsWith_21 ?_
    refine lv_iconst (v := 1) hx hb dX6_firstWinsWith_24 (by decide) ?_
    refine call_e [.int 1] [] hx hb hml hG hown hK (c_X3_boatAt had M_3 15 (by decide) 1) gw_16_2 gm_X3_boatAt gd_X3_boatAt rfl rfl ⟨Nat.le_of_ble_eq_true rfl, Nat.le_of_ble_eq_true rfl⟩ ⟨Nat.le_refl _, Nat.le_refl _⟩ (rX3 hK hP (by decide)) hP (fun _ h => h) hS rfl hl.1 rfl (Nat.le_of_ble_eq_true rfl) dX6_firstWinsWith_25 (fun r_9 u_11 H locs hF_10 hP hS => ?_)
    obtain ⟨hz_12, hF_10, hu⟩ := hF_10; rw [hu] at hP
    rcases r_9 with _ | b_13
    · have he := oel_n he hF_10
      refine lv_astore_nN (lv' := [(3, .null), (2, .null), (0, .ref (ad 0)), (1, .int a1)]) hx hb dX6_firstWinsWith_28 rfl hl (by decide) rfl (fun ls hl => ?_)
      refine lv_aload_nN hx hb dX6_firstWinsWith_29 rfl (lv_at hl 1 rfl) ?_
      refine lv_ifnullN (tgt := 37) hx hb dX6_firstWinsWith_30 (by decide) ?_
      refine lv_iconst (v := 0) hx hb dX6_firstWinsWith_37 (by decide) ?_
      exact hret _ _ _ _ _ _ ⟨(Or.inl rfl), (hV.trans he.symm)⟩ (nz01 (Or.inl rfl)) hP hS dX6_firstWinsWith_38
    · have he := oel_s he hF_10
      refine lv_astore_n (lv' := [(3, .ref (ad b_13)), (2, .null), (0, .ref (ad 0)), (1, .int a1)]) hx hb dX6_firstWinsWith_28 rfl hl (by decide) rfl (fun ls hl => ?_)
      refine lv_aload_nN hx hb dX6_firstWinsWith_29 rfl (lv_at hl 1 rfl) ?_
      refine lv_ifnullN (tgt := 37) hx hb dX6_firstWinsWith_30 (by decide) ?_
      refine lv_iconst (v := 0) hx hb dX6_firstWinsWith_37 (by decide) ?_
      exact hret _ _ _ _ _ _ ⟨(Or.inl rfl), (hV.trans he.symm)⟩ (nz01 (Or.inl rfl)) hP hS dX6_firstWinsWith_38
  · have he := oel_s he hF_5
    refine lv_astore_n (lv' := [(2, .ref (ad b_8)), (0, .ref (ad 0)), (1, .int a1)]) hx hb dX6_firstWinsWith_19 rfl hl (by decide) rfl (fun ls hl => ?_)
    refine lv_aload_n hx hb dX6_firstWinsWith_20 rfl (lv_at hl 1 rfl) ?_
    refine gX6_6 hx hb hG hown hK hP rfl gw_2_0 dX6_firstWinsWith_21 ?_
    refine lv_iconst (v := 1) hx hb dX6_firstWinsWith_24 (by decide) ?_
    refine call_e [.int 1] [] hx hb hml hG hown hK (c_X3_boatAt had M_3 15 (by decide) 1) gw_16_2 gm_X3_boatAt gd_X3_boatAt rfl rfl ⟨Nat.le_of_ble_eq_true rfl, Nat.le_of_ble_eq_true rfl⟩ ⟨Nat.le_refl _, Nat.le_refl _⟩ (rX3 hK hP (by decide)) hP (fun _ h => h) hS rfl hl.1 rfl (Nat.le_of_ble_eq_true rfl) dX6_firstWinsWith_25 (fun r_14 u_16 H locs hF_15 hP hS => ?_)
    obtain ⟨hz_17, hF_15, hu⟩ := hF_15; rw [hu] at hP
    rcases r_14 with _ | b_18
    · have he := oel_n he hF_15
      refine lv_astore_nN (lv' := [(3, .null), (2, .ref (ad b_8)), (0, .ref (ad 0)), (1, .int a1)]) hx hb dX6_firstWinsWith_28 rfl hl (by decide) rfl (fun ls hl => ?_)
      refine lv_aload_n hx hb dX6_firstWinsWith_29 rfl (lv_at hl 1 rfl) ?_
      refine lv_ifnull hx hb dX6_firstWinsWith_30 ?_
      refine lv_aload_nN hx hb dX6_firstWinsWith_33 rfl (lv_at hl 0 rfl) ?_
      refine lv_ifnonnullN hx hb dX6_firstWinsWith_34 ?_
      refine lv_iconst (v := 0) hx hb dX6_firstWinsWith_37 (by decide) ?_
      exact hret _ _ _ _ _ _ ⟨(Or.inl rfl), (hV.trans he.symm)⟩ (nz01 (Or.inl rfl)) hP hS dX6_firstWinsWith_38
    · have he := oel_s he hF_15
      refine lv_astore_n (lv' := [(3, .ref (ad b_18)), (2, .ref (ad b_8)), (0, .ref (ad 0)), (1, .int a1)]) hx hb dX6_firstWinsWith_28 rfl hl (by decide) rfl (fun ls hl => ?_)
      refine lv_aload_n hx hb dX6_firstWinsWith_29 rfl (lv_at hl 1 rfl) ?_
      refine lv_ifnull hx hb dX6_firstWinsWith_30 ?_
      refine lv_aload_n hx hb dX6_firstWinsWith_33 rfl (lv_at hl 0 rfl) ?_
      refine lv_ifnonnull (tgt := 39) hx hb dX6_firstWinsWith_34 (by decide) ?_
      refine lv_aload_n hx hb dX6_firstWinsWith_39 rfl (lv_at hl 1 rfl) ?_
      refine lv_iload_n hx hb dX6_firstWinsWith_40 rfl (lv_at hl 3 rfl) ?_
      refine lv_aload_n hx hb dX6_firstWinsWith_41 rfl (lv_at hl 2 rfl) ?_
      refine gX6_5 hx hb hG hown hK hP rfl gw_1_23 dX6_firstWinsWith_42 ?_
      refine gX0_0 hx hb hG hown hK hP (by decide) gw_33_1 dX6_firstWinsWith_45 ?_
      refine call_v [.int a1, .int (M_3 3 0)] [] hx hb hml hG hown hK (c_X1_gain had M_3 b_8 (hz_7 _ rfl) a1 (M_3 3 0)) gw_38_11 gm_X1_gain gd_X1_gain rfl rfl ⟨Nat.le_of_ble_eq_true rfl, Nat.le_of_ble_eq_true rfl⟩ ⟨Nat.le_refl _, Nat.le_refl _⟩ (rX1 hK hP (hz_7 _ rfl)) hP (fun _ h => h) hS rfl hl.1 rfl (Nat.le_of_ble_eq_true rfl) dX6_firstWinsWith_48 (fun M_21 H locs hF_20 hP hS => ?_)
      have he := bnd_at he hF_20.symm
      refine lv_aload_n hx hb dX6_firstWinsWith_51 rfl (lv_at hl 2 rfl) ?_
      refine gX6_6 hx hb hG hown hK hP rfl gw_2_0 dX6_firstWinsWith_52 ?_
      refine lv_aload_n hx hb dX6_firstWinsWith_55 rfl (lv_at hl 2 rfl) ?_
      refine gX6_5 hx hb hG hown hK hP rfl gw_1_23 dX6_firstWinsWith_56 ?_
      refine lv_sipush (v := 400) hx hb dX6_firstWinsWith_59 (by decide) ?_
      refine call_v [.ref (ad 3), .int 400] [] hx hb hml hG hown hK (c_X3_goOn had M_21 15 (by decide) 3 (by decide) 400) gw_18_22 gm_X3_goOn gd_X3_goOn rfl rfl ⟨Nat.le_of_ble_eq_true rfl, Nat.le_of_ble_eq_true rfl⟩ ⟨Nat.le_refl _, Nat.le_refl _⟩ (rX3 hK hP (by decide)) hP (fun _ h => h) hS rfl hl.1 rfl (Nat.le_of_ble_eq_true rfl) dX6_firstWinsWith_62 (fun M_24 H locs hF_23 hP hS => ?_)
      have he := bnd_at he hF_23.symm
      refine lv_aload_n hx hb dX6_firstWinsWith_65 rfl (lv_at hl 1 rfl) ?_
      refine lv_aload_n hx hb dX6_firstWinsWith_66 rfl (lv_at hl 0 rfl) ?_
      refine call_i [.ref (ad b_18)] [] hx hb hml hG hown hK (c_X1_isAheadOf had M_24 b_8 (hz_7 _ rfl) b_18 (hz_17 _ rfl)) gw_38_15 gm_X1_isAheadOf gd_X1_isAheadOf rfl rfl ⟨Nat.le_of_ble_eq_true rfl, Nat.le_of_ble_eq_true rfl⟩ ⟨Nat.le_refl _, Nat.le_refl _⟩ (rX1 hK hP (hz_7 _ rfl)) hP (fun _ h => h) hS rfl hl.1 rfl (Nat.le_of_ble_eq_true rfl) dX6_firstWinsWith_67 (fun r_25 u_27 H locs hF_26 hP hS => ?_)
      obtain ⟨hz_28, hF_26, hu⟩ := hF_26; rw [hu] at hP; subst hF_26
      exact hret _ _ _ _ _ _ ⟨hz_28, (hV.trans he.symm)⟩ (nz01 hz_28) hP hS dX6_firstWinsWith_70
def rm_X6_worth : Room := { frames := 6, cells := 0, slots := 0, locals := 130 }
theorem gm_X6_worth : Cond.instanceMethod yX6_worth ∈ wsL_law ∧ Cond.selects RX6 yX6_worth yX6_worth ∈ wsL_law ∧ Cond.initialized RX6 ∈ wsL_law ∧ Cond.code yX6_worth cX6_worth 5 (some .int) ∈ wsL_law := ⟨gw_37_15, gw_37_16, gw_1_2, gw_37_17⟩
theorem gd_X6_worth : yX6_worth.cls = RX6 ∧ yX6_worth.cls ≠ "java/lang/invoke/MethodHandle" ∧ yX6_worth.cls ≠ "java/lang/invoke/VarHandle" ∧ (parseMethodDescriptor yX6_worth.desc).map (fun d => d.parameters.length) = some 2 := by decide +kernel
set_option maxRecDepth 100000 in
set_option maxHeartbeats 0 in
theorem c_X6_worth {l : Launch} {D : va_G} {k : Nat → ClassId} {ad : Nat → Nat} (had : InjN 74 ad) (M : Mem) (a1 : Int32) (a2 : Int32) : Met l yX6_worth (Cond.code yX6_worth cX6_worth 5 (some .int) :: wsL_law) rm_X6_worth (va_Pc [.ref (ad 0), .int a1, .int a2] (GW 74 ad D k (cC ad k M))) (va_Qi (fun r u => f_X6_worth M a1 a2 = (r, u)) (fun u t => GW 74 ad D k (cC ad k u) t) (AW 74 ad)) 0 0 (AW 74 ad) := by
  refine met_i (g := cC ad k) (M := M) (plainFor_of_name (by decide)) (Nat.le_of_ble_eq_true rfl) ?_
  intro p e s m args below meth c Q ls hx hb hml hG hown hK hret hP hS hl
  have hl : lv_has ls 5 [(0, .ref (ad 0)), (1, .int a1), (2, .int a2)] := hl
  obtain ⟨V, hV⟩ : ∃ V, f_X6_worth M a1 a2 = V := ⟨_, rfl⟩
  have he := hV
  unfold f_X6_worth at he
  refine lv_iload_n hx hb dX6_worth_0 rfl (lv_at hl 1 rfl) ?_
  refine lv_if_lt (tgt := 21) hx hb dX6_worth_1 (by decide) (fun hc_1 => ?_) (fun hc_1 => ?_)
  · have he := ite_t he hc_1
    refine lv_iconst (v := (-1)) hx hb dX6_worth_21 (by decide) ?_
    exact hret _ _ _ _ _ _ (hV.trans he.symm) hP hS dX6_worth_22
  · have he := ite_f he hc_1
    refine lv_iload_n hx hb dX6_worth_4 rfl (lv_at hl 1 rfl) ?_
    refine lv_bipush (v := 100) hx hb dX6_worth_5 (by decide) ?_
    refine lv_icmp_gt (tgt := 21) hx hb dX6_worth_7 (by decide) (fun hc_2 => ?_) (fun hc_2 => ?_)
    · have he := ite_t he hc_2
      refine lv_iconst (v := (-1)) hx hb dX6_worth_21 (by decide) ?_
      exact hret _ _ _ _ _ _ (hV.trans he.symm) hP hS dX6_worth_22
    · have he := ite_f he hc_2
      refine lv_iload_n hx hb dX6_worth_10 rfl (lv_at hl 2 rfl) ?_
      refine lv_iconst (v := 1) hx hb dX6_worth_11 (by decide) ?_
      refine lv_icmp_lt (tgt := 21) hx hb dX6_worth_12 (by decide) (fun hc_3 => ?_) (fun hc_3 => ?_)
      · have he := ite_t he hc_3
        refine lv_iconst (v := (-1)) hx hb dX6_worth_21 (by decide) ?_
        exact hret _ _ _ _ _ _ (hV.trans he.symm) hP hS dX6_worth_22
      · have he := ite_f he hc_3
        refine lv_iload_n hx hb dX6_worth_15 rfl (lv_at hl 2 rfl) ?_
        refine lv_bipush (v := 20) hx hb dX6_worth_16 (by decide) ?_
        refine lv_icmp_le (tgt := 23) hx hb dX6_worth_18 (by decide) (fun hc_4 => ?_) (fun hc_4 => ?_)
        · have he := ite_t he hc_4
          refine lv_aload_n hx hb dX6_worth_23 rfl (lv_at hl 0 rfl) ?_
          refine gX6_1 hx hb hG hown hK hP rfl gw_1_20 dX6_worth_24 ?_
          refine gX3_1 hx hb hG hown hK hP (by decide) gw_18_8 dX6_worth_27 ?_
          refine lv_iconst (v := 2) hx hb dX6_worth_30 (by decide) ?_
          refine lv_icmp_ge (tgt := 37) hx hb dX6_worth_31 (by decide) (fun hc_5 => ?_) (fun hc_5 => ?_)
          · have he := ite_t he hc_5
            refine lv_aload_n hx hb dX6_worth_37 rfl (lv_at hl 0 rfl) ?_
            refine gX6_5 hx hb hG hown hK hP rfl gw_1_23 dX6_worth_38 ?_
            refine lv_aload_n hx hb dX6_worth_41 rfl (lv_at hl 0 rfl) ?_
            refine gX6_0 hx hb hG hown hK hP rfl gw_1_16 dX6_worth_42 ?_
            refine call_v [.ref (ad 1)] [] hx hb hml hG hown hK (c_X0_take had M 3 (by decide) 1 (by decide)) gw_37_18 gm_X0_take gd_X0_take rfl rfl ⟨Nat.le_of_ble_eq_true rfl, Nat.le_of_ble_eq_true rfl⟩ ⟨Nat.le_refl _, Nat.le_refl _⟩ (rX0 hK hP (by decide)) hP (fun _ h => h) hS rfl hl.1 rfl (Nat.le_of_ble_eq_true rfl) dX6_worth_45 (fun M_8 H locs hF_7 hP hS => ?_)
            have he := bnd_at he hF_7.symm
            refine lv_iconst (v := 0) hx hb dX6_worth_48 (by decide) ?_
            refine lv_istore_n (lv' := [(3, .int 0), (0, .ref (ad 0)), (1, .int a1), (2, .int a2)]) hx hb dX6_worth_49 rfl hl (by decide) rfl (fun ls hl => ?_)
            refine lv_iconst (v := 0) hx hb dX6_worth_50 (by decide) ?_
            refine lv_istore (lv' := [(4, .int 0), (3, .int 0), (0, .ref (ad 0)), (1, .int a1), (2, .int a2)]) hx hb dX6_worth_51 hl (by decide) rfl (fun ls hl => ?_)
            obtain ⟨w_41, M_42, hr_28, he⟩ := bnd2_ex he
            have j87 : ∀ (H : Heap) (locs : List Loc) (ls : Array Slot), va_P D vwCl (wld 74 ad (cC ad k M_42)) H → va_S (AW 74 ad) s.heap H locs → lv_has ls 5 [(3, .int w_41)] → W p l e rm_X6_worth s m args below meth c H locs 0 0 Q (F0 m 87 ls []) := by
              intro H locs ls hP hS hl
              refine lv_iload_n hx hb dX6_worth_87 rfl (lv_at hl 0 rfl) ?_
              exact hret _ _ _ _ _ _ (hV.trans he.symm) hP hS dX6_worth_88
            have lp53 : ∀ (nn : Nat) (H : Heap) (locs : List Loc) (ls : Array Slot) (M_27 : Mem) (v_25 : Int32) (v_26 : Int32), (0 ≤ v_26.toInt) → (a2.toInt - v_26.toInt).toNat < nn → lp_X6_worth_53 nn a1 a2 M_27 v_25 v_26 = (w_41, M_42) → va_P D vwCl (wld 74 ad (cC ad k M_27)) H → va_S (AW 74 ad) s.heap H locs → lv_has ls 5 [(0, .ref (ad 0)), (1, .int a1), (2, .int a2), (3, .int v_25), (4, .int v_26)] → W p l e rm_X6_worth s m args below meth c H locs 0 0 Q (F0 m 53 ls []) := by
              intro nn
              induction nn with
              | zero =>
                intro H locs ls M_27 v_25 v_26 h0v_26 hμ
                exact absurd hμ (Nat.not_lt_zero _)
              | succ nn ih =>
                intro H locs ls M_27 v_25 v_26 h0v_26 hμ hr_28 hP hS hl
                rw [lp_X6_worth_53] at hr_28
                refine lv_iload hx hb dX6_worth_53 (lv_at hl 4 rfl) ?_
                refine lv_iload_n hx hb dX6_worth_55 rfl (lv_at hl 2 rfl) ?_
                refine lv_icmp_ge (tgt := 87) hx hb dX6_worth_56 (by decide) (fun hc_29 => ?_) (fun hc_29 => ?_)
                · have hr_28 := ite_t hr_28 hc_29
                  cases hr_28
                  exact j87 _ _ _ hP hS (lv_sub hl [3] rfl)
                · have hr_28 := ite_f hr_28 hc_29
                  refine lv_aload_n hx hb dX6_worth_59 rfl (lv_at hl 0 rfl) ?_
                  refine gX6_5 hx hb hG hown hK hP rfl gw_1_23 dX6_worth_60 ?_
                  refine lv_iconst (v := 4) hx hb dX6_worth_63 (by decide) ?_
                  refine lv_iload hx hb dX6_worth_64 (lv_at hl 4 rfl) ?_
                  refine call_i [.int 4, .int v_26] [] hx hb hml hG hown hK (c_X0_change had M_27 3 (by decide) 4 v_26) gw_6_9 gm_X0_change gd_X0_change rfl rfl ⟨Nat.le_of_ble_eq_true rfl, Nat.le_of_ble_eq_true rfl⟩ ⟨Nat.le_refl _, Nat.le_refl _⟩ (rX0 hK hP (by decide)) hP (fun _ h => h) hS rfl hl.1 rfl (Nat.le_of_ble_eq_true rfl) dX6_worth_66 (fun r_30 M_32 H locs hF_31 hP hS => ?_)
                  have hr_28 := bnd2_at hr_28 hF_31
                  refine lv_pop hx hb dX6_worth_69 rfl ?_
                  refine lv_aload_n hx hb dX6_worth_70 rfl (lv_at hl 0 rfl) ?_
                  refine lv_iload_n hx hb dX6_worth_71 rfl (lv_at hl 1 rfl) ?_
                  refine call_i [.int a1] [] hx hb hml hG hown hK (c_X6_firstWinsWith had M_32 a1) gw_38_7 gm_X6_firstWinsWith gd_X6_firstWinsWith rfl rfl ⟨Nat.le_of_ble_eq_true rfl, Nat.le_of_ble_eq_true rfl⟩ ⟨Nat.le_refl _, Nat.le_refl _⟩ (rX6 hK hP rfl) hP (fun _ h => h) hS rfl hl.1 rfl (Nat.le_of_ble_eq_true rfl) dX6_worth_72 (fun r_33 M_35 H locs hF_34 hP hS => ?_)
                  obtain ⟨zr_33, hF_34⟩ := hF_34
                  have hr_28 := bnd2_at hr_28 hF_34
                  obtain ⟨x_39, hr_37, hr_28⟩ := bnd_ex hr_28
                  have j81 : ∀ (H : Heap) (locs : List Loc) (ls : Array Slot), va_P D vwCl (wld 74 ad (cC ad k M_35)) H → va_S (AW 74 ad) s.heap H locs → lv_has ls 5 [(0, .ref (ad 0)), (1, .int a1), (2, .int a2), (3, .int x_39), (4, .int v_26)] → W p l e rm_X6_worth s m args below meth c H locs 0 0 Q (F0 m 81 ls []) := by
                    intro H locs ls hP hS hl
                    obtain ⟨y_40, ey_40⟩ : ∃ y_40 : Int32, y_40 = v_26 + 1 := ⟨_, rfl⟩
                    have hr_28 := bnd_at hr_28 ey_40
                    refine lv_iinc (v := y_40) (lv' := [(4, .int y_40), (0, .ref (ad 0)), (1, .int a1), (2, .int a2), (3, .int x_39)]) hx hb dX6_worth_81 hl (k := 4) rfl (by rw [ey_40]; rfl) (by decide) rfl (fun ls hl => ?_)
                    refine lv_goto (tgt := 53) hx hb dX6_worth_84 (by decide) ?_
                    exact ih _ _ _ _ _ _ (by rw [ey_40, inc_I (N := a2.toInt) (nle_I hc_29) (Int32.toInt_le _)]; omega) (by rw [ey_40]; exact mu_I hμ (nle_I hc_29) (Int32.toInt_le _)) hr_28 hP hS (lv_sub hl [1, 2, 3, 4, 0] rfl)
                  refine lv_if_eq (tgt := 81) hx hb dX6_worth_75 (by decide) (fun hc_36 => ?_) (fun hc_36 => ?_)
                  · have hr_37 := ite_t hr_37 hc_36
                    cases hr_37
                    exact j81 _ _ _ hP hS (lv_sub hl [0, 1, 2, 3, 4] rfl)
                  · have hr_37 := ite_f hr_37 hc_36
                    obtain ⟨y_38, ey_38⟩ : ∃ y_38 : Int32, y_38 = v_25 + 1 := ⟨_, rfl⟩
                    have hr_37 := bnd_at hr_37 ey_38
                    refine lv_iinc (v := y_38) (lv' := [(3, .int y_38), (0, .ref (ad 0)), (1, .int a1), (2, .int a2), (4, .int v_26)]) hx hb dX6_worth_78 hl (k := 3) rfl (by rw [ey_38]; rfl) (by decide) rfl (fun ls hl => ?_)
                    cases hr_37
                    exact j81 _ _ _ hP hS (lv_sub hl [1, 2, 3, 0, 4] rfl)
            exact lp53 _ _ _ _ _ _ _ (by decide) (Nat.lt_succ_self _) hr_28 hP hS (lv_sub hl [2, 3, 4, 1, 0] rfl)
          · have he := ite_f he hc_5
            refine lv_bipush (v := (-3)) hx hb dX6_worth_34 (by decide) ?_
            exact hret _ _ _ _ _ _ (hV.trans he.symm) hP hS dX6_worth_36
        · have he := ite_f he hc_4
          refine lv_iconst (v := (-1)) hx hb dX6_worth_21 (by decide) ?_
          exact hret _ _ _ _ _ _ (hV.trans he.symm) hP hS dX6_worth_22
def rm_X6_pairs : Room := { frames := 6, cells := 0, slots := 0, locals := 127 }
theorem gm_X6_pairs : Cond.instanceMethod yX6_pairs ∈ wsL_law ∧ Cond.selects RX6 yX6_pairs yX6_pairs ∈ wsL_law ∧ Cond.initialized RX6 ∈ wsL_law ∧ Cond.code yX6_pairs cX6_pairs 1 (some .int) ∈ wsL_law := ⟨gw_38_21, gw_38_22, gw_1_2, gw_38_23⟩
theorem gd_X6_pairs : yX6_pairs.cls = RX6 ∧ yX6_pairs.cls ≠ "java/lang/invoke/MethodHandle" ∧ yX6_pairs.cls ≠ "java/lang/invoke/VarHandle" ∧ (parseMethodDescriptor yX6_pairs.desc).map (fun d => d.parameters.length) = some 0 := by decide +kernel
set_option maxRecDepth 100000 in
set_option maxHeartbeats 0 in
theorem c_X6_pairs {l : Launch} {D : va_G} {k : Nat → ClassId} {ad : Nat → Nat} (had : InjN 74 ad) (M : Mem)  : Met l yX6_pairs (Cond.code yX6_pairs cX6_pairs 1 (some .int) :: wsL_law) rm_X6_pairs (va_Pc [.ref (ad 0)] (GW 74 ad D k (cC ad k M))) (va_Qi (fun r u => f_X6_pairs M = (r, u)) (fun u t => GW 74 ad D k (cC ad k u) t) (AW 74 ad)) 0 0 (AW 74 ad) := by
  refine met_i (g := cC ad k) (M := M) (plainFor_of_name (by decide)) (Nat.le_of_ble_eq_true rfl) ?_
  intro p e s m args below meth c Q ls hx hb hml hG hown hK hret hP hS hl
  have hl : lv_has ls 1 [(0, .ref (ad 0))] := hl
  obtain ⟨V, hV⟩ : ∃ V, f_X6_pairs M = V := ⟨_, rfl⟩
  have he := hV
  unfold f_X6_pairs at he
  refine lv_aload_n hx hb dX6_pairs_0 rfl (lv_at hl 0 rfl) ?_
  refine gX6_1 hx hb hG hown hK hP rfl gw_1_20 dX6_pairs_1 ?_
  refine gX3_1 hx hb hG hown hK hP (by decide) gw_18_8 dX6_pairs_4 ?_
  refine lv_iconst (v := 4) hx hb dX6_pairs_7 (by decide) ?_
  refine lv_icmp_eq (tgt := 14) hx hb dX6_pairs_8 (by decide) (fun hc_1 => ?_) (fun hc_1 => ?_)
  · have he := ite_t he hc_1
    refine lv_aload_n hx hb dX6_pairs_14 rfl (lv_at hl 0 rfl) ?_
    refine call_v [] [] hx hb hml hG hown hK (c_X6_endInMind had M) gw_27_22 gm_X6_endInMind gd_X6_endInMind rfl rfl ⟨Nat.le_of_ble_eq_true rfl, Nat.le_of_ble_eq_true rfl⟩ ⟨Nat.le_refl _, Nat.le_refl _⟩ (rX6 hK hP rfl) hP (fun _ h => h) hS rfl hl.1 rfl (Nat.le_of_ble_eq_true rfl) dX6_pairs_15 (fun M_4 H locs hF_3 hP hS => ?_)
    have he := bnd_at he hF_3.symm
    refine lv_aload_n hx hb dX6_pairs_18 rfl (lv_at hl 0 rfl) ?_
    refine gX6_6 hx hb hG hown hK hP rfl gw_2_0 dX6_pairs_19 ?_
    refine lv_aload_n hx hb dX6_pairs_22 rfl (lv_at hl 0 rfl) ?_
    refine gX6_6 hx hb hG hown hK hP rfl gw_2_0 dX6_pairs_23 ?_
    refine lv_iconst (v := 0) hx hb dX6_pairs_26 (by decide) ?_
    refine call_e [.int 0] [.ref (ad 15)] hx hb hml hG hown hK (c_X3_boatAt had M_4 15 (by decide) 0) gw_16_2 gm_X3_boatAt gd_X3_boatAt rfl rfl ⟨Nat.le_of_ble_eq_true rfl, Nat.le_of_ble_eq_true rfl⟩ ⟨Nat.le_refl _, Nat.le_refl _⟩ (rX3 hK hP (by decide)) hP (fun _ h => h) hS rfl hl.1 rfl (Nat.le_of_ble_eq_true rfl) dX6_pairs_27 (fun r_5 u_7 H locs hF_6 hP hS => ?_)
    obtain ⟨hz_8, hF_6, hu⟩ := hF_6; rw [hu] at hP
    rcases r_5 with _ | b_9
    · have he := oel_n he hF_6
      refine call_i [.null] [] hx hb hml hG hown hK (c_X3_placeOf had M_4 15 (by decide) none (fun _ h => nomatch h)) gw_28_11 gm_X3_placeOf gd_X3_placeOf rfl rfl ⟨Nat.le_of_ble_eq_true rfl, Nat.le_of_ble_eq_true rfl⟩ ⟨Nat.le_refl _, Nat.le_refl _⟩ (rX3 hK hP (by decide)) hP (fun _ h => h) hS rfl hl.1 rfl (Nat.le_of_ble_eq_true rfl) dX6_pairs_30 (fun r_10 u_12 H locs hF_11 hP hS => ?_)
      obtain ⟨hF_11, hu⟩ := hF_11; rw [hu] at hP; subst hF_11
      refine lv_aload_n hx hb dX6_pairs_33 rfl (lv_at hl 0 rfl) ?_
      refine gX6_6 hx hb hG hown hK hP rfl gw_2_0 dX6_pairs_34 ?_
      refine lv_aload_n hx hb dX6_pairs_37 rfl (lv_at hl 0 rfl) ?_
      refine gX6_6 hx hb hG hown hK hP rfl gw_2_0 dX6_pairs_38 ?_
      refine lv_iconst (v := 1) hx hb dX6_pairs_41 (by decide) ?_
      refine call_e [.int 1] [.ref (ad 15), .int (f_X3_placeOf M_4 15 none)] hx hb hml hG hown hK (c_X3_boatAt had M_4 15 (by decide) 1) gw_16_2 gm_X3_boatAt gd_X3_boatAt rfl rfl ⟨Nat.le_of_ble_eq_true rfl, Nat.le_of_ble_eq_true rfl⟩ ⟨Nat.le_refl _, Nat.le_refl _⟩ (rX3 hK hP (by decide)) hP (fun _ h => h) hS rfl hl.1 rfl (Nat.le_of_ble_eq_true rfl) dX6_pairs_42 (fun r_13 u_15 H locs hF_14 hP hS => ?_)
      obtain ⟨hz_16, hF_14, hu⟩ := hF_14; rw [hu] at hP
      rcases r_13 with _ | b_17
      · have he := oel_n he hF_14
        refine call_i [.null] [.int (f_X3_placeOf M_4 15 none)] hx hb hml hG hown hK (c_X3_placeOf had M_4 15 (by decide) none (fun _ h => nomatch h)) gw_28_11 gm_X3_placeOf gd_X3_placeOf rfl rfl ⟨Nat.le_of_ble_eq_true rfl, Nat.le_of_ble_eq_true rfl⟩ ⟨Nat.le_refl _, Nat.le_refl _⟩ (rX3 hK hP (by decide)) hP (fun _ h => h) hS rfl hl.1 rfl (Nat.le_of_ble_eq_true rfl) dX6_pairs_45 (fun r_18 u_20 H locs hF_19 hP hS => ?_)
        obtain ⟨hF_19, hu⟩ := hF_19; rw [hu] at hP; subst hF_19
        refine lv_iadd hx hb dX6_pairs_48 ?_
        exact hret _ _ _ _ _ _ (hV.trans he.symm) hP hS dX6_pairs_49
      · have he := oel_s he hF_14
        refine call_i [.ref (ad b_17)] [.int (f_X3_placeOf M_4 15 none)] hx hb hml hG hown hK (c_X3_placeOf had M_4 15 (by decide) (some b_17) (fun _ h => by cases h; exact (hz_16 _ rfl))) gw_28_11 gm_X3_placeOf gd_X3_placeOf rfl rfl ⟨Nat.le_of_ble_eq_true rfl, Nat.le_of_ble_eq_true rfl⟩ ⟨Nat.le_refl _, Nat.le_refl _⟩ (rX3 hK hP (by decide)) hP (fun _ h => h) hS rfl hl.1 rfl (Nat.le_of_ble_eq_true rfl) dX6_pairs_45 (fun r_21 u_23 H locs hF_22 hP hS => ?_)
        obtain ⟨hF_22, hu⟩ := hF_22; rw [hu] at hP; subst hF_22
        refine lv_iadd hx hb dX6_pairs_48 ?_
        exact hret _ _ _ _ _ _ (hV.trans he.symm) hP hS dX6_pairs_49
    · have he := oel_s he hF_6
      refine call_i [.ref (ad b_9)] [] hx hb hml hG hown hK (c_X3_placeOf had M_4 15 (by decide) (some b_9) (fun _ h => by cases h; exact (hz_8 _ rfl))) gw_28_11 gm_X3_placeOf gd_X3_placeOf rfl rfl ⟨Nat.le_of_ble_eq_true rfl, Nat.le_of_ble_eq_true rfl⟩ ⟨Nat.le_refl _, Nat.le_refl _⟩ (rX3 hK hP (by decide)) hP (fun _ h => h) hS rfl hl.1 rfl (Nat.le_of_ble_eq_true rfl) dX6_pairs_30 (fun r_24 u_26 H locs hF_25 hP hS => ?_)
      obtain ⟨hF_25, hu⟩ := hF_25; rw [hu] at hP; subst hF_25
      refine lv_aload_n hx hb dX6_pairs_33 rfl (lv_at hl 0 rfl) ?_
      refine gX6_6 hx hb hG hown hK hP rfl gw_2_0 dX6_pairs_34 ?_
      refine lv_aload_n hx hb dX6_pairs_37 rfl (lv_at hl 0 rfl) ?_
      refine gX6_6 hx hb hG hown hK hP rfl gw_2_0 dX6_pairs_38 ?_
      refine lv_iconst (v := 1) hx hb dX6_pairs_41 (by decide) ?_
      refine call_e [.int 1] [.ref (ad 15), .int (f_X3_placeOf M_4 15 (some b_9))] hx hb hml hG hown hK (c_X3_boatAt had M_4 15 (by decide) 1) gw_16_2 gm_X3_boatAt gd_X3_boatAt rfl rfl ⟨Nat.le_of_ble_eq_true rfl, Nat.le_of_ble_eq_true rfl⟩ ⟨Nat.le_refl _, Nat.le_refl _⟩ (rX3 hK hP (by decide)) hP (fun _ h => h) hS rfl hl.1 rfl (Nat.le_of_ble_eq_true rfl) dX6_pairs_42 (fun r_27 u_29 H locs hF_28 hP hS => ?_)
      obtain ⟨hz_30, hF_28, hu⟩ := hF_28; rw [hu] at hP
      rcases r_27 with _ | b_31
      · have he := oel_n he hF_28
        refine call_i [.null] [.int (f_X3_placeOf M_4 15 (some b_9))] hx hb hml hG hown hK (c_X3_placeOf had M_4 15 (by decide) none (fun _ h => nomatch h)) gw_28_11 gm_X3_placeOf gd_X3_placeOf rfl rfl ⟨Nat.le_of_ble_eq_true rfl, Nat.le_of_ble_eq_true rfl⟩ ⟨Nat.le_refl _, Nat.le_refl _⟩ (rX3 hK hP (by decide)) hP (fun _ h => h) hS rfl hl.1 rfl (Nat.le_of_ble_eq_true rfl) dX6_pairs_45 (fun r_32 u_34 H locs hF_33 hP hS => ?_)
        obtain ⟨hF_33, hu⟩ := hF_33; rw [hu] at hP; subst hF_33
        refine lv_iadd hx hb dX6_pairs_48 ?_
        exact hret _ _ _ _ _ _ (hV.trans he.symm) hP hS dX6_pairs_49
      · have he := oel_s he hF_28
        refine call_i [.ref (ad b_31)] [.int (f_X3_placeOf M_4 15 (some b_9))] hx hb hml hG hown hK (c_X3_placeOf had M_4 15 (by decide) (some b_31) (fun _ h => by cases h; exact (hz_30 _ rfl))) gw_28_11 gm_X3_placeOf gd_X3_placeOf rfl rfl ⟨Nat.le_of_ble_eq_true rfl, Nat.le_of_ble_eq_true rfl⟩ ⟨Nat.le_refl _, Nat.le_refl _⟩ (rX3 hK hP (by decide)) hP (fun _ h => h) hS rfl hl.1 rfl (Nat.le_of_ble_eq_true rfl) dX6_pairs_45 (fun r_35 u_37 H locs hF_36 hP hS => ?_)
        obtain ⟨hF_36, hu⟩ := hF_36; rw [hu] at hP; subst hF_36
        refine lv_iadd hx hb dX6_pairs_48 ?_
        exact hret _ _ _ _ _ _ (hV.trans he.symm) hP hS dX6_pairs_49
  · have he := ite_f he hc_1
    refine lv_bipush (v := (-3)) hx hb dX6_pairs_11 (by decide) ?_
    exact hret _ _ _ _ _ _ (hV.trans he.symm) hP hS dX6_pairs_13
def rm_X6_image : Room := { frames := 3, cells := 0, slots := 0, locals := 82 }
theorem gm_X6_image : Cond.instanceMethod yX6_image ∈ wsL_law ∧ Cond.selects RX6 yX6_image yX6_image ∈ wsL_law ∧ Cond.initialized RX6 ∈ wsL_law ∧ Cond.code yX6_image cX6_image 1 (some .int) ∈ wsL_law := ⟨gw_39_5, gw_39_6, gw_1_2, gw_39_7⟩
theorem gd_X6_image : yX6_image.cls = RX6 ∧ yX6_image.cls ≠ "java/lang/invoke/MethodHandle" ∧ yX6_image.cls ≠ "java/lang/invoke/VarHandle" ∧ (parseMethodDescriptor yX6_image.desc).map (fun d => d.parameters.length) = some 0 := by decide +kernel
set_option maxRecDepth 100000 in
set_option maxHeartbeats 0 in
theorem c_X6_image {l : Launch} {D : va_G} {k : Nat → ClassId} {ad : Nat → Nat} (had : InjN 74 ad) (M : Mem)  : Met l yX6_image (Cond.code yX6_image cX6_image 1 (some .int) :: wsL_law) rm_X6_image (va_Pc [.ref (ad 0)] (GW 74 ad D k (cC ad k M))) (va_Qi (fun r u => f_X6_image M = (r, u)) (fun u t => GW 74 ad D k (cC ad k u) t) (AW 74 ad)) 0 0 (AW 74 ad) := by
  refine met_i (g := cC ad k) (M := M) (plainFor_of_name (by decide)) (Nat.le_of_ble_eq_true rfl) ?_
  intro p e s m args below meth c Q ls hx hb hml hG hown hK hret hP hS hl
  have hl : lv_has ls 1 [(0, .ref (ad 0))] := hl
  obtain ⟨V, hV⟩ : ∃ V, f_X6_image M = V := ⟨_, rfl⟩
  have he := hV
  unfold f_X6_image at he
  refine lv_aload_n hx hb dX6_image_0 rfl (lv_at hl 0 rfl) ?_
  refine gX6_2 hx hb hG hown hK hP rfl gw_1_21 dX6_image_1 ?_
  refine lv_aload_n hx hb dX6_image_4 rfl (lv_at hl 0 rfl) ?_
  refine gX6_0 hx hb hG hown hK hP rfl gw_1_16 dX6_image_5 ?_
  refine call_v [.ref (ad 1)] [] hx hb hml hG hown hK (c_X0_take had M 2 (by decide) 1 (by decide)) gw_37_18 gm_X0_take gd_X0_take rfl rfl ⟨Nat.le_of_ble_eq_true rfl, Nat.le_of_ble_eq_true rfl⟩ ⟨Nat.le_refl _, Nat.le_refl _⟩ (rX0 hK hP (by decide)) hP (fun _ h => h) hS rfl hl.1 rfl (Nat.le_of_ble_eq_true rfl) dX6_image_8 (fun M_3 H locs hF_2 hP hS => ?_)
  have he := bnd_at he hF_2.symm
  refine lv_aload_n hx hb dX6_image_11 rfl (lv_at hl 0 rfl) ?_
  refine gX6_3 hx hb hG hown hK hP rfl gw_1_22 dX6_image_12 ?_
  refine lv_aload_n hx hb dX6_image_15 rfl (lv_at hl 0 rfl) ?_
  refine gX6_1 hx hb hG hown hK hP rfl gw_1_20 dX6_image_16 ?_
  refine call_v [.ref (ad 13)] [] hx hb hml hG hown hK (c_X3_take had M_3 14 (by decide) 13 (by decide)) gw_28_2 gm_X3_take gd_X3_take rfl rfl ⟨Nat.le_of_ble_eq_true rfl, Nat.le_of_ble_eq_true rfl⟩ ⟨Nat.le_refl _, Nat.le_refl _⟩ (rX3 hK hP (by decide)) hP (fun _ h => h) hS rfl hl.1 rfl (Nat.le_of_ble_eq_true rfl) dX6_image_19 (fun M_6 H locs hF_5 hP hS => ?_)
  have he := bnd_at he hF_5.symm
  refine lv_aload_n hx hb dX6_image_22 rfl (lv_at hl 0 rfl) ?_
  refine lv_iconst (v := 1) hx hb dX6_image_23 (by decide) ?_
  refine pX6_4 hx hb hG hown hK hP had AW_in hS rfl gw_39_8 (Or.inr rfl)  dX6_image_24 (fun H locs hP hS => ?_)
  obtain ⟨M_7, eM_7⟩ : ∃ y : Mem, y = up2 M_6 0 4 1 := ⟨_, rfl⟩
  rw [← eM_7] at hP
  have he := bnd_at he eM_7
  refine lv_aload_n hx hb dX6_image_27 rfl (lv_at hl 0 rfl) ?_
  refine gX6_1 hx hb hG hown hK hP rfl gw_1_20 dX6_image_28 ?_
  refine gX3_2 hx hb hG hown hK hP (by decide) gw_13_18 dX6_image_31 ?_
  exact hret _ _ _ _ _ _ (hV.trans he.symm) hP hS dX6_image_34
def rm_X6_restore : Room := { frames := 3, cells := 0, slots := 0, locals := 82 }
theorem gm_X6_restore : Cond.instanceMethod yX6_restore ∈ wsL_law ∧ Cond.selects RX6 yX6_restore yX6_restore ∈ wsL_law ∧ Cond.initialized RX6 ∈ wsL_law ∧ Cond.code yX6_restore cX6_restore 1 (some .int) ∈ wsL_law := ⟨gw_39_15, gw_39_16, gw_1_2, gw_39_17⟩
theorem gd_X6_restore : yX6_restore.cls = RX6 ∧ yX6_restore.cls ≠ "java/lang/invoke/MethodHandle" ∧ yX6_restore.cls ≠ "java/lang/invoke/VarHandle" ∧ (parseMethodDescriptor yX6_restore.desc).map (fun d => d.parameters.length) = some 0 := by decide +kernel
set_option maxRecDepth 100000 in
set_option maxHeartbeats 0 in
theorem c_X6_restore {l : Launch} {D : va_G} {k : Nat → ClassId} {ad : Nat → Nat} (had : InjN 74 ad) (M : Mem)  : Met l yX6_restore (Cond.code yX6_restore cX6_restore 1 (some .int) :: wsL_law) rm_X6_restore (va_Pc [.ref (ad 0)] (GW 74 ad D k (cC ad k M))) (va_Qi (fun r u => f_X6_restore M = (r, u)) (fun u t => GW 74 ad D k (cC ad k u) t) (AW 74 ad)) 0 0 (AW 74 ad) := by
  refine met_i (g := cC ad k) (M := M) (plainFor_of_name (by decide)) (Nat.le_of_ble_eq_true rfl) ?_
  intro p e s m args below meth c Q ls hx hb hml hG hown hK hret hP hS hl
  have hl : lv_has ls 1 [(0, .ref (ad 0))] := hl
  obtain ⟨V, hV⟩ : ∃ V, f_X6_restore M = V := ⟨_, rfl⟩
  have he := hV
  unfold f_X6_restore at he
  refine lv_aload_n hx hb dX6_restore_0 rfl (lv_at hl 0 rfl) ?_
  refine gX6_4 hx hb hG hown hK hP rfl gw_39_8 dX6_restore_1 ?_
  refine lv_if_ne (tgt := 10) hx hb dX6_restore_4 (by decide) (fun hc_1 => ?_) (fun hc_1 => ?_)
  · have he := ite_t he hc_1
    refine lv_aload_n hx hb dX6_restore_10 rfl (lv_at hl 0 rfl) ?_
    refine gX6_0 hx hb hG hown hK hP rfl gw_1_16 dX6_restore_11 ?_
    refine lv_aload_n hx hb dX6_restore_14 rfl (lv_at hl 0 rfl) ?_
    refine gX6_2 hx hb hG hown hK hP rfl gw_1_21 dX6_restore_15 ?_
    refine call_v [.ref (ad 2)] [] hx hb hml hG hown hK (c_X0_take had M 1 (by decide) 2 (by decide)) gw_37_18 gm_X0_take gd_X0_take rfl rfl ⟨Nat.le_of_ble_eq_true rfl, Nat.le_of_ble_eq_true rfl⟩ ⟨Nat.le_refl _, Nat.le_refl _⟩ (rX0 hK hP (by decide)) hP (fun _ h => h) hS rfl hl.1 rfl (Nat.le_of_ble_eq_true rfl) dX6_restore_18 (fun M_4 H locs hF_3 hP hS => ?_)
    have he := bnd_at he hF_3.symm
    refine lv_aload_n hx hb dX6_restore_21 rfl (lv_at hl 0 rfl) ?_
    refine gX6_1 hx hb hG hown hK hP rfl gw_1_20 dX6_restore_22 ?_
    refine lv_aload_n hx hb dX6_restore_25 rfl (lv_at hl 0 rfl) ?_
    refine gX6_3 hx hb hG hown hK hP rfl gw_1_22 dX6_restore_26 ?_
    refine call_v [.ref (ad 14)] [] hx hb hml hG hown hK (c_X3_take had M_4 13 (by decide) 14 (by decide)) gw_28_2 gm_X3_take gd_X3_take rfl rfl ⟨Nat.le_of_ble_eq_true rfl, Nat.le_of_ble_eq_true rfl⟩ ⟨Nat.le_refl _, Nat.le_refl _⟩ (rX3 hK hP (by decide)) hP (fun _ h => h) hS rfl hl.1 rfl (Nat.le_of_ble_eq_true rfl) dX6_restore_29 (fun M_7 H locs hF_6 hP hS => ?_)
    have he := bnd_at he hF_6.symm
    refine lv_aload_n hx hb dX6_restore_32 rfl (lv_at hl 0 rfl) ?_
    refine gX6_1 hx hb hG hown hK hP rfl gw_1_20 dX6_restore_33 ?_
    refine gX3_2 hx hb hG hown hK hP (by decide) gw_13_18 dX6_restore_36 ?_
    exact hret _ _ _ _ _ _ (hV.trans he.symm) hP hS dX6_restore_39
  · have he := ite_f he (fun q => q hc_1)
    refine lv_bipush (v := (-3)) hx hb dX6_restore_7 (by decide) ?_
    exact hret _ _ _ _ _ _ (hV.trans he.symm) hP hS dX6_restore_9
def rm_X3_allTurns : Room := { frames := 0, cells := 0, slots := 0, locals := 0 }
theorem gm_X3_allTurns : Cond.instanceMethod yX3_allTurns ∈ wsL_law ∧ Cond.selects RX3 yX3_allTurns yX3_allTurns ∈ wsL_law ∧ Cond.initialized RX3 ∈ wsL_law ∧ Cond.code yX3_allTurns cX3_allTurns 3 (some .int) ∈ wsL_law := ⟨gw_40_4, gw_40_5, gw_1_19, gw_40_6⟩
theorem gd_X3_allTurns : yX3_allTurns.cls = RX3 ∧ yX3_allTurns.cls ≠ "java/lang/invoke/MethodHandle" ∧ yX3_allTurns.cls ≠ "java/lang/invoke/VarHandle" ∧ (parseMethodDescriptor yX3_allTurns.desc).map (fun d => d.parameters.length) = some 0 := by decide +kernel
set_option maxRecDepth 100000 in
set_option maxHeartbeats 0 in
theorem c_X3_allTurns {l : Launch} {D : va_G} {k : Nat → ClassId} {ad : Nat → Nat} (had : InjN 74 ad) (M : Mem) (o : Nat) (ho : kRace o) : Met l yX3_allTurns (Cond.code yX3_allTurns cX3_allTurns 3 (some .int) :: wsL_law) rm_X3_allTurns (va_Pc [.ref (ad o)] (GW 74 ad D k (cC ad k M))) (va_Qi (fun r u => f_X3_allTurns M o = r ∧ u = M) (fun u t => GW 74 ad D k (cC ad k u) t) (AW 74 ad)) 0 0 (AW 74 ad) := by
  refine met_i (g := cC ad k) (M := M) (plainFor_of_name (by decide)) (Nat.le_of_ble_eq_true rfl) ?_
  intro p e s m args below meth c Q ls hx hb hml hG hown hK hret hP hS hl
  have hl : lv_has ls 3 [(0, .ref (ad o))] := hl
  obtain ⟨V, hV⟩ : ∃ V, f_X3_allTurns M o = V := ⟨_, rfl⟩
  have he := hV
  unfold f_X3_allTurns at he
  refine lv_iconst (v := 0) hx hb dX3_allTurns_0 (by decide) ?_
  refine lv_istore_n (lv' := [(1, .int 0), (0, .ref (ad o))]) hx hb dX3_allTurns_1 rfl hl (by decide) rfl (fun ls hl => ?_)
  refine lv_iconst (v := 0) hx hb dX3_allTurns_2 (by decide) ?_
  refine lv_istore_n (lv' := [(2, .int 0), (1, .int 0), (0, .ref (ad o))]) hx hb dX3_allTurns_3 rfl hl (by decide) rfl (fun ls hl => ?_)
  obtain ⟨w_17, hr_11, he⟩ := bnd_ex he
  have j39 : ∀ (H : Heap) (locs : List Loc) (ls : Array Slot), va_P D vwCl (wld 74 ad (cC ad k M)) H → va_S (AW 74 ad) s.heap H locs → lv_has ls 3 [(1, .int w_17)] → W p l e rm_X3_allTurns s m args below meth c H locs 0 0 Q (F0 m 39 ls []) := by
    intro H locs ls hP hS hl
    refine lv_iload_n hx hb dX3_allTurns_39 rfl (lv_at hl 0 rfl) ?_
    exact hret _ _ _ _ _ _ ⟨hV.trans he.symm, rfl⟩ hP hS dX3_allTurns_40
  have lp4 : ∀ (nn : Nat) (H : Heap) (locs : List Loc) (ls : Array Slot) (v_9 : Int32) (v_10 : Int32), (0 ≤ v_10.toInt) → (4 - v_10.toInt).toNat < nn → lp_X3_allTurns_4 nn M o v_9 v_10 = w_17 → va_P D vwCl (wld 74 ad (cC ad k M)) H → va_S (AW 74 ad) s.heap H locs → lv_has ls 3 [(0, .ref (ad o)), (1, .int v_9), (2, .int v_10)] → W p l e rm_X3_allTurns s m args below meth c H locs 0 0 Q (F0 m 4 ls []) := by
    intro nn
    induction nn with
    | zero =>
      intro H locs ls v_9 v_10 h0v_10 hμ
      exact absurd hμ (Nat.not_lt_zero _)
    | succ nn ih =>
      intro H locs ls v_9 v_10 h0v_10 hμ hr_11 hP hS hl
      rw [lp_X3_allTurns_4] at hr_11
      refine lv_iload_n hx hb dX3_allTurns_4 rfl (lv_at hl 2 rfl) ?_
      refine lv_aload_n hx hb dX3_allTurns_5 rfl (lv_at hl 0 rfl) ?_
      refine gX3_1 hx hb hG hown hK hP ho gw_6_7 dX3_allTurns_6 ?_
      refine lv_icmp_ge (tgt := 39) hx hb dX3_allTurns_9 (by decide) (fun hc_12 => ?_) (fun hc_12 => ?_)
      · have hr_11 := ite_t hr_11 hc_12
        cases hr_11
        exact j39 _ _ _ hP hS (lv_sub hl [1] rfl)
      · have hr_11 := ite_f hr_11 hc_12
        refine lv_iload_n hx hb dX3_allTurns_12 rfl (lv_at hl 2 rfl) ?_
        refine lv_aload_n hx hb dX3_allTurns_13 rfl (lv_at hl 0 rfl) ?_
        refine gX3_0 hx hb hG hown hK hP ho gw_3_9 dX3_allTurns_14 ?_
        refine an_kBts hx hb hK hP (kR_bts ho) dX3_allTurns_17 ?_
        refine lv_icmp_ge (tgt := 39) hx hb dX3_allTurns_18 (by decide) (fun hc_13 => ?_) (fun hc_13 => ?_)
        · have hr_11 := ite_t hr_11 hc_13
          cases hr_11
          exact j39 _ _ _ hP hS (lv_sub hl [1] rfl)
        · have hr_11 := ite_f hr_11 hc_13
          refine lv_iload_n hx hb dX3_allTurns_21 rfl (lv_at hl 1 rfl) ?_
          refine lv_aload_n hx hb dX3_allTurns_22 rfl (lv_at hl 0 rfl) ?_
          refine gX3_0 hx hb hG hown hK hP ho gw_3_9 dX3_allTurns_23 ?_
          refine lv_iload_n hx hb dX3_allTurns_26 rfl (lv_at hl 2 rfl) ?_
          have hn_14 : vp_in v_10 4 := (vin_I (by have q0 : v_10.toInt < (M o 1).toInt := nle_I hc_12; have q1 : v_10.toInt < 4 := nle_I hc_13; omega) (by have q0 : v_10.toInt < (M o 1).toInt := nle_I hc_12; have q1 : v_10.toInt < 4 := nle_I hc_13; omega))
          refine al_kBts hx hb hK hP (kR_bts ho) hn_14 dX3_allTurns_27 ?_
          refine gX1_8 hx hb hG hown hK hP (kR_boat (kR_bts ho) hn_14) gw_40_7 dX3_allTurns_28 ?_
          refine lv_iadd hx hb dX3_allTurns_31 ?_
          refine lv_topi (fun y_15 ey_15 => ?_)
          have hr_11 := bnd_at hr_11 ey_15
          refine lv_istore_n (lv' := [(1, .int y_15), (0, .ref (ad o)), (2, .int v_10)]) hx hb dX3_allTurns_32 rfl hl (by decide) rfl (fun ls hl => ?_)
          obtain ⟨y_16, ey_16⟩ : ∃ y_16 : Int32, y_16 = v_10 + 1 := ⟨_, rfl⟩
          have hr_11 := bnd_at hr_11 ey_16
          refine lv_iinc (v := y_16) (lv' := [(2, .int y_16), (1, .int y_15), (0, .ref (ad o))]) hx hb dX3_allTurns_33 hl (k := 2) rfl (by rw [ey_16]; rfl) (by decide) rfl (fun ls hl => ?_)
          refine lv_goto (tgt := 4) hx hb dX3_allTurns_36 (by decide) ?_
          exact ih _ _ _ _ _ (by rw [ey_16, inc_I (N := 4) (nle_I hc_13) (by decide)]; omega) (by rw [ey_16]; exact mu_I hμ (nle_I hc_13) (by decide)) hr_11 hP hS (lv_sub hl [2, 1, 0] rfl)
  exact lp4 _ _ _ _ _ _ (by decide) (by decide) hr_11 hP hS (lv_sub hl [2, 1, 0] rfl)
def rm_X3_howManyInBadAir : Room := { frames := 3, cells := 0, slots := 0, locals := 57 }
theorem gm_X3_howManyInBadAir : Cond.instanceMethod yX3_howManyInBadAir ∈ wsL_law ∧ Cond.selects RX3 yX3_howManyInBadAir yX3_howManyInBadAir ∈ wsL_law ∧ Cond.initialized RX3 ∈ wsL_law ∧ Cond.code yX3_howManyInBadAir cX3_howManyInBadAir 3 (some .int) ∈ wsL_law := ⟨gw_40_9, gw_40_10, gw_1_19, gw_40_11⟩
theorem gd_X3_howManyInBadAir : yX3_howManyInBadAir.cls = RX3 ∧ yX3_howManyInBadAir.cls ≠ "java/lang/invoke/MethodHandle" ∧ yX3_howManyInBadAir.cls ≠ "java/lang/invoke/VarHandle" ∧ (parseMethodDescriptor yX3_howManyInBadAir.desc).map (fun d => d.parameters.length) = some 0 := by decide +kernel
set_option maxRecDepth 100000 in
set_option maxHeartbeats 0 in
theorem c_X3_howManyInBadAir {l : Launch} {D : va_G} {k : Nat → ClassId} {ad : Nat → Nat} (had : InjN 74 ad) (M : Mem) (o : Nat) (ho : kRace o) : Met l yX3_howManyInBadAir (Cond.code yX3_howManyInBadAir cX3_howManyInBadAir 3 (some .int) :: wsL_law) rm_X3_howManyInBadAir (va_Pc [.ref (ad o)] (GW 74 ad D k (cC ad k M))) (va_Qi (fun r u => f_X3_howManyInBadAir M o = (r, u)) (fun u t => GW 74 ad D k (cC ad k u) t) (AW 74 ad)) 0 0 (AW 74 ad) := by
  refine met_i (g := cC ad k) (M := M) (plainFor_of_name (by decide)) (Nat.le_of_ble_eq_true rfl) ?_
  intro p e s m args below meth c Q ls hx hb hml hG hown hK hret hP hS hl
  have hl : lv_has ls 3 [(0, .ref (ad o))] := hl
  obtain ⟨V, hV⟩ : ∃ V, f_X3_howManyInBadAir M o = V := ⟨_, rfl⟩
  have he := hV
  unfold f_X3_howManyInBadAir at he
  refine lv_aload_n hx hb dX3_howManyInBadAir_0 rfl (lv_at hl 0 rfl) ?_
  refine call_v [] [] hx hb hml hG hown hK (c_X3_tellBadAir had M o ho) gw_19_10 gm_X3_tellBadAir gd_X3_tellBadAir rfl rfl ⟨Nat.le_of_ble_eq_true rfl, Nat.le_of_ble_eq_true rfl⟩ ⟨Nat.le_refl _, Nat.le_refl _⟩ (rX3 hK hP ho) hP (fun _ h => h) hS rfl hl.1 rfl (Nat.le_of_ble_eq_true rfl) dX3_howManyInBadAir_1 (fun M_3 H locs hF_2 hP hS => ?_)
  have he := bnd_at he hF_2.symm
  refine lv_iconst (v := 0) hx hb dX3_howManyInBadAir_4 (by decide) ?_
  refine lv_istore_n (lv' := [(1, .int 0), (0, .ref (ad o))]) hx hb dX3_howManyInBadAir_5 rfl hl (by decide) rfl (fun ls hl => ?_)
  refine lv_iconst (v := 0) hx hb dX3_howManyInBadAir_6 (by decide) ?_
  refine lv_istore_n (lv' := [(2, .int 0), (1, .int 0), (0, .ref (ad o))]) hx hb dX3_howManyInBadAir_7 rfl hl (by decide) rfl (fun ls hl => ?_)
  obtain ⟨w_26, hr_17, he⟩ := bnd_ex he
  have j51 : ∀ (H : Heap) (locs : List Loc) (ls : Array Slot), va_P D vwCl (wld 74 ad (cC ad k M_3)) H → va_S (AW 74 ad) s.heap H locs → lv_has ls 3 [(1, .int w_26)] → W p l e rm_X3_howManyInBadAir s m args below meth c H locs 0 0 Q (F0 m 51 ls []) := by
    intro H locs ls hP hS hl
    refine lv_iload_n hx hb dX3_howManyInBadAir_51 rfl (lv_at hl 0 rfl) ?_
    exact hret _ _ _ _ _ _ (hV.trans he.symm) hP hS dX3_howManyInBadAir_52
  have lp8 : ∀ (nn : Nat) (H : Heap) (locs : List Loc) (ls : Array Slot) (v_15 : Int32) (v_16 : Int32), (0 ≤ v_16.toInt) → (4 - v_16.toInt).toNat < nn → lp_X3_howManyInBadAir_8 nn o M_3 v_15 v_16 = w_26 → va_P D vwCl (wld 74 ad (cC ad k M_3)) H → va_S (AW 74 ad) s.heap H locs → lv_has ls 3 [(0, .ref (ad o)), (1, .int v_15), (2, .int v_16)] → W p l e rm_X3_howManyInBadAir s m args below meth c H locs 0 0 Q (F0 m 8 ls []) := by
    intro nn
    induction nn with
    | zero =>
      intro H locs ls v_15 v_16 h0v_16 hμ
      exact absurd hμ (Nat.not_lt_zero _)
    | succ nn ih =>
      intro H locs ls v_15 v_16 h0v_16 hμ hr_17 hP hS hl
      rw [lp_X3_howManyInBadAir_8] at hr_17
      refine lv_iload_n hx hb dX3_howManyInBadAir_8 rfl (lv_at hl 2 rfl) ?_
      refine lv_aload_n hx hb dX3_howManyInBadAir_9 rfl (lv_at hl 0 rfl) ?_
      refine gX3_1 hx hb hG hown hK hP ho gw_6_7 dX3_howManyInBadAir_10 ?_
      refine lv_icmp_ge (tgt := 51) hx hb dX3_howManyInBadAir_13 (by decide) (fun hc_18 => ?_) (fun hc_18 => ?_)
      · have hr_17 := ite_t hr_17 hc_18
        cases hr_17
        exact j51 _ _ _ hP hS (lv_sub hl [1] rfl)
      · have hr_17 := ite_f hr_17 hc_18
        refine lv_iload_n hx hb dX3_howManyInBadAir_16 rfl (lv_at hl 2 rfl) ?_
        refine lv_aload_n hx hb dX3_howManyInBadAir_17 rfl (lv_at hl 0 rfl) ?_
        refine gX3_0 hx hb hG hown hK hP ho gw_3_9 dX3_howManyInBadAir_18 ?_
        refine an_kBts hx hb hK hP (kR_bts ho) dX3_howManyInBadAir_21 ?_
        refine lv_icmp_ge (tgt := 51) hx hb dX3_howManyInBadAir_22 (by decide) (fun hc_19 => ?_) (fun hc_19 => ?_)
        · have hr_17 := ite_t hr_17 hc_19
          cases hr_17
          exact j51 _ _ _ hP hS (lv_sub hl [1] rfl)
        · have hr_17 := ite_f hr_17 hc_19
          refine lv_iload_n hx hb dX3_howManyInBadAir_25 rfl (lv_at hl 1 rfl) ?_
          refine lv_aload_n hx hb dX3_howManyInBadAir_26 rfl (lv_at hl 0 rfl) ?_
          refine gX3_0 hx hb hG hown hK hP ho gw_3_9 dX3_howManyInBadAir_27 ?_
          refine lv_iload_n hx hb dX3_howManyInBadAir_30 rfl (lv_at hl 2 rfl) ?_
          have hn_20 : vp_in v_16 4 := (vin_I (by have q0 : v_16.toInt < (M_3 o 1).toInt := nle_I hc_18; have q1 : v_16.toInt < 4 := nle_I hc_19; omega) (by have q0 : v_16.toInt < (M_3 o 1).toInt := nle_I hc_18; have q1 : v_16.toInt < 4 := nle_I hc_19; omega))
          refine al_kBts hx hb hK hP (kR_bts ho) hn_20 dX3_howManyInBadAir_31 ?_
          refine gX1_9 hx hb hG hown hK hP (kR_boat (kR_bts ho) hn_20) gw_17_5 dX3_howManyInBadAir_32 ?_
          obtain ⟨t_23, hr_22, hr_17⟩ := bnd_ex hr_17
          have j43 : ∀ (H : Heap) (locs : List Loc) (ls : Array Slot), (t_23 = 0 ∨ t_23 = 1) → va_P D vwCl (wld 74 ad (cC ad k M_3)) H → va_S (AW 74 ad) s.heap H locs → lv_has ls 3 [(0, .ref (ad o)), (2, .int v_16)] → W p l e rm_X3_howManyInBadAir s m args below meth c H locs 0 0 Q (F0 m 43 ls [.int t_23, .int v_15]) := by
            intro H locs ls zt_23 hP hS hl
            refine lv_iadd hx hb dX3_howManyInBadAir_43 ?_
            refine lv_topi (fun y_24 ey_24 => ?_)
            have hr_17 := bnd_at hr_17 ey_24
            refine lv_istore_n (lv' := [(1, .int y_24), (0, .ref (ad o)), (2, .int v_16)]) hx hb dX3_howManyInBadAir_44 rfl hl (by decide) rfl (fun ls hl => ?_)
            obtain ⟨y_25, ey_25⟩ : ∃ y_25 : Int32, y_25 = v_16 + 1 := ⟨_, rfl⟩
            have hr_17 := bnd_at hr_17 ey_25
            refine lv_iinc (v := y_25) (lv' := [(2, .int y_25), (1, .int y_24), (0, .ref (ad o))]) hx hb dX3_howManyInBadAir_45 hl (k := 2) rfl (by rw [ey_25]; rfl) (by decide) rfl (fun ls hl => ?_)
            refine lv_goto (tgt := 8) hx hb dX3_howManyInBadAir_48 (by decide) ?_
            exact ih _ _ _ _ _ (by rw [ey_25, inc_I (N := 4) (nle_I hc_19) (by decide)]; omega) (by rw [ey_25]; exact mu_I hμ (nle_I hc_19) (by decide)) hr_17 hP hS (lv_sub hl [2, 1, 0] rfl)
          refine lv_if_eq (tgt := 42) hx hb dX3_howManyInBadAir_35 (by decide) (fun hc_21 => ?_) (fun hc_21 => ?_)
          · have hr_22 := ite_t hr_22 hc_21
            refine lv_iconst (v := 0) hx hb dX3_howManyInBadAir_42 (by decide) ?_
            cases hr_22
            exact j43 _ _ _ (Or.inl rfl) hP hS (lv_sub hl [0, 2] rfl)
          · have hr_22 := ite_f hr_22 hc_21
            refine lv_iconst (v := 1) hx hb dX3_howManyInBadAir_38 (by decide) ?_
            refine lv_goto (tgt := 43) hx hb dX3_howManyInBadAir_39 (by decide) ?_
            cases hr_22
            exact j43 _ _ _ (Or.inr rfl) hP hS (lv_sub hl [0, 2] rfl)
  exact lp8 _ _ _ _ _ _ (by decide) (by decide) hr_17 hP hS (lv_sub hl [2, 1, 0] rfl)
