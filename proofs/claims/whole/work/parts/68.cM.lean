-- @needs 12_dec 13_dec 14_dec 15_dec 37_fault 60_cM 67_cM
def rm_X7_image : Room := { frames := 3, cells := 0, slots := 0, locals := 65 }
theorem gm_X7_image : Cond.instanceMethod yX7_image ∈ wsL_law ∧ Cond.selects RX7 yX7_image yX7_image ∈ wsL_law ∧ Cond.initialized RX7 ∈ wsL_law ∧ Cond.code yX7_image cX7_image 1 (some .int) ∈ wsL_law := ⟨gw_39_10, gw_39_11, gw_1_5, gw_39_12⟩
theorem gd_X7_image : yX7_image.cls = RX7 ∧ yX7_image.cls ≠ "java/lang/invoke/MethodHandle" ∧ yX7_image.cls ≠ "java/lang/invoke/VarHandle" ∧ (parseMethodDescriptor yX7_image.desc).map (fun d => d.parameters.length) = some 0 := by decide +kernel
set_option maxRecDepth 100000 in
set_option maxHeartbeats 0 in
theorem c_X7_image {l : Launch} {D : va_G} {k : Nat → ClassId} {ad : Nat → Nat} (had : InjN 31 ad) (M : Mem) (hI : MI M) : Met l yX7_image (Cond.code yX7_image cX7_image 1 (some .int) :: wsL_law) rm_X7_image (va_Pc [.ref (ad 0)] (GW 31 ad D k (cM ad k M))) (va_Qi (fun r u => (f_X7_image M = (r, u) ∧ TI M u)) (fun u t => GW 31 ad D k (cM ad k u) t) (AW 31 ad)) 0 0 (AW 31 ad) := by
  refine met_i (g := cM ad k) (M := M) (plainFor_of_name (by decide)) (Nat.le_of_ble_eq_true rfl) ?_
  intro p e s m args below meth c Q ls hx hb hml hG hown hK hret hP hS hl
  have hl : lv_has ls 1 [(0, .ref (ad 0))] := hl
  obtain ⟨V, hV⟩ : ∃ V, f_X7_image M = V := ⟨_, rfl⟩
  have he := hV
  unfold f_X7_image at he
  have hT0 : TI M M := TI_rf hI
  have qb_M := hI.1
  have qs_M := hI.2.1
  have qz_M := hI.2.2.1
  refine lv_aload_n hx hb dX7_image_0 rfl (lv_at hl 0 rfl) ?_
  refine lv_iconst (v := 0) hx hb dX7_image_1 (by decide) ?_
  refine pX7_19 hx hb hG hown hK hP had AW_in hS gw_5_19 dX7_image_2 (fun H locs hP hS => ?_)
  obtain ⟨M_1, eM_1⟩ : ∃ y : Mem, y = up2 M 0 19 0 := ⟨_, rfl⟩
  rw [← eM_1] at hP
  have he := bnd_at he eM_1
  have hTM_1 : TI M M_1 := by rw [eM_1]; exact TI_f hT0 (by decide)
  have qb_M_1 := hTM_1.1.1
  have qs_M_1 := hTM_1.1.2.1
  have qz_M_1 := hTM_1.1.2.2.1
  refine lv_aload_n hx hb dX7_image_5 rfl (lv_at hl 0 rfl) ?_
  refine lv_iconst (v := 1) hx hb dX7_image_6 (by decide) ?_
  refine pX7_35 hx hb hG hown hK hP had AW_in hS gw_39_13 (Or.inr rfl)  dX7_image_7 (fun H locs hP hS => ?_)
  obtain ⟨M_2, eM_2⟩ : ∃ y : Mem, y = up2 M_1 0 35 1 := ⟨_, rfl⟩
  rw [← eM_2] at hP
  have he := bnd_at he eM_2
  refine lv_aload_n hx hb dX7_image_10 rfl (lv_at hl 0 rfl) ?_
  refine lv_aload_n hx hb dX7_image_11 rfl (lv_at hl 0 rfl) ?_
  refine gX7_34 hx hb hG hown hK hP gw_5_9 dX7_image_12 ?_
  refine lv_iconst (v := 1) hx hb dX7_image_15 (by decide) ?_
  refine call_v [.ref (ad 21), .int 1] [] hx hb hml hG hown hK (c_X7_carryAll had M_2 2 (by decide) 1 (Or.inr rfl)) gw_28_20 gm_X7_carryAll gd_X7_carryAll rfl rfl ⟨Nat.le_of_ble_eq_true rfl, Nat.le_of_ble_eq_true rfl⟩ ⟨Nat.le_refl _, Nat.le_refl _⟩ (rX7 hK hP) hP (fun _ h => h) hS rfl hl.1 rfl (Nat.le_of_ble_eq_true rfl) dX7_image_16 (fun M_5 H locs hF_4 hP hS => ?_)
  have he := bnd_at he hF_4.symm
  refine lv_aload_n hx hb dX7_image_19 rfl (lv_at hl 0 rfl) ?_
  refine gX7_7 hx hb hG hown hK hP gw_15_12 dX7_image_20 ?_
  exact hret _ _ _ _ _ _ ⟨(hV.trans he.symm), ti_image hI (hV.trans he.symm)⟩ hP hS dX7_image_23
def rm_X7_restore : Room := { frames := 3, cells := 0, slots := 0, locals := 65 }
theorem gm_X7_restore : Cond.instanceMethod yX7_restore ∈ wsL_law ∧ Cond.selects RX7 yX7_restore yX7_restore ∈ wsL_law ∧ Cond.initialized RX7 ∈ wsL_law ∧ Cond.code yX7_restore cX7_restore 1 (some .int) ∈ wsL_law := ⟨gw_39_19, gw_39_20, gw_1_5, gw_39_21⟩
theorem gd_X7_restore : yX7_restore.cls = RX7 ∧ yX7_restore.cls ≠ "java/lang/invoke/MethodHandle" ∧ yX7_restore.cls ≠ "java/lang/invoke/VarHandle" ∧ (parseMethodDescriptor yX7_restore.desc).map (fun d => d.parameters.length) = some 0 := by decide +kernel
set_option maxRecDepth 100000 in
set_option maxHeartbeats 0 in
theorem c_X7_restore {l : Launch} {D : va_G} {k : Nat → ClassId} {ad : Nat → Nat} (had : InjN 31 ad) (M : Mem) (hI : MI M) : Met l yX7_restore (Cond.code yX7_restore cX7_restore 1 (some .int) :: wsL_law) rm_X7_restore (va_Pc [.ref (ad 0)] (GW 31 ad D k (cM ad k M))) (va_Qi (fun r u => (f_X7_restore M = (r, u) ∧ TI M u)) (fun u t => GW 31 ad D k (cM ad k u) t) (AW 31 ad)) 0 0 (AW 31 ad) := by
  refine met_i (g := cM ad k) (M := M) (plainFor_of_name (by decide)) (Nat.le_of_ble_eq_true rfl) ?_
  intro p e s m args below meth c Q ls hx hb hml hG hown hK hret hP hS hl
  have hl : lv_has ls 1 [(0, .ref (ad 0))] := hl
  obtain ⟨V, hV⟩ : ∃ V, f_X7_restore M = V := ⟨_, rfl⟩
  have he := hV
  unfold f_X7_restore at he
  have hT0 : TI M M := TI_rf hI
  have qb_M := hI.1
  have qs_M := hI.2.1
  have qz_M := hI.2.2.1
  refine lv_aload_n hx hb dX7_restore_0 rfl (lv_at hl 0 rfl) ?_
  refine lv_iconst (v := 0) hx hb dX7_restore_1 (by decide) ?_
  refine pX7_19 hx hb hG hown hK hP had AW_in hS gw_5_19 dX7_restore_2 (fun H locs hP hS => ?_)
  obtain ⟨M_1, eM_1⟩ : ∃ y : Mem, y = up2 M 0 19 0 := ⟨_, rfl⟩
  rw [← eM_1] at hP
  have he := bnd_at he eM_1
  have hTM_1 : TI M M_1 := by rw [eM_1]; exact TI_f hT0 (by decide)
  have qb_M_1 := hTM_1.1.1
  have qs_M_1 := hTM_1.1.2.1
  have qz_M_1 := hTM_1.1.2.2.1
  refine lv_aload_n hx hb dX7_restore_5 rfl (lv_at hl 0 rfl) ?_
  refine gX7_35 hx hb hG hown hK hP gw_39_13 dX7_restore_6 ?_
  refine lv_if_ne (tgt := 15) hx hb dX7_restore_9 (by decide) (fun hc_2 => ?_) (fun hc_2 => ?_)
  · have he := ite_t he hc_2
    refine lv_aload_n hx hb dX7_restore_15 rfl (lv_at hl 0 rfl) ?_
    refine lv_aload_n hx hb dX7_restore_16 rfl (lv_at hl 0 rfl) ?_
    refine gX7_34 hx hb hG hown hK hP gw_5_9 dX7_restore_17 ?_
    refine lv_iconst (v := 0) hx hb dX7_restore_20 (by decide) ?_
    refine call_v [.ref (ad 21), .int 0] [] hx hb hml hG hown hK (c_X7_carryAll had M_1 2 (by decide) 0 (Or.inl rfl)) gw_28_20 gm_X7_carryAll gd_X7_carryAll rfl rfl ⟨Nat.le_of_ble_eq_true rfl, Nat.le_of_ble_eq_true rfl⟩ ⟨Nat.le_refl _, Nat.le_refl _⟩ (rX7 hK hP) hP (fun _ h => h) hS rfl hl.1 rfl (Nat.le_of_ble_eq_true rfl) dX7_restore_21 (fun M_5 H locs hF_4 hP hS => ?_)
    have he := bnd_at he hF_4.symm
    refine lv_aload_n hx hb dX7_restore_24 rfl (lv_at hl 0 rfl) ?_
    refine lv_iconst (v := 0) hx hb dX7_restore_25 (by decide) ?_
    refine pX7_29 hx hb hG hown hK hP had AW_in hS gw_11_14 (Or.inl rfl)  dX7_restore_26 (fun H locs hP hS => ?_)
    obtain ⟨M_6, eM_6⟩ : ∃ y : Mem, y = up2 M_5 0 29 0 := ⟨_, rfl⟩
    rw [← eM_6] at hP
    have he := bnd_at he eM_6
    refine lv_aload_n hx hb dX7_restore_29 rfl (lv_at hl 0 rfl) ?_
    refine gX7_7 hx hb hG hown hK hP gw_15_12 dX7_restore_30 ?_
    exact hret _ _ _ _ _ _ ⟨(hV.trans he.symm), ti_restore hI (hV.trans he.symm)⟩ hP hS dX7_restore_33
  · have he := ite_f he (fun q => q hc_2)
    refine lv_bipush (v := (-3)) hx hb dX7_restore_12 (by decide) ?_
    exact hret _ _ _ _ _ _ ⟨(hV.trans he.symm), hTM_1⟩ hP hS dX7_restore_14
def rm_X7_leastOf : Room := { frames := 0, cells := 0, slots := 0, locals := 0 }
theorem gm_X7_leastOf : Cond.static yX7_leastOf ∈ wsL_law ∧ Cond.initialized yX7_leastOf.cls ∈ wsL_law ∧ Cond.code yX7_leastOf cX7_leastOf 1 (some .int) ∈ wsL_law := ⟨gw_7_6, gw_1_5, gw_7_7⟩
theorem gd_X7_leastOf : yX7_leastOf.cls ≠ "java/lang/invoke/MethodHandle" ∧ yX7_leastOf.cls ≠ "java/lang/invoke/VarHandle" ∧ (parseMethodDescriptor yX7_leastOf.desc).map (fun d => d.parameters.length) = some 1 := by decide +kernel
set_option maxRecDepth 100000 in
set_option maxHeartbeats 0 in
theorem c_X7_leastOf {l : Launch} {D : va_G} {k : Nat → ClassId} {ad : Nat → Nat} (had : InjN 31 ad) {M : Mem} (a1 : Int32) : Met l yX7_leastOf (Cond.code yX7_leastOf cX7_leastOf 1 (some .int) :: wsL_law) rm_X7_leastOf (va_Pc [.int a1] (GW 31 ad D k (cM ad k M))) (va_Qi (fun r u => f_X7_leastOf a1 = r ∧ u = M) (fun u t => GW 31 ad D k (cM ad k u) t) (AW 31 ad)) 0 0 (AW 31 ad) := by
  refine met_i (g := cM ad k) (M := M) (plainFor_of_name (by decide)) (Nat.le_of_ble_eq_true rfl) ?_
  intro p e s m args below meth c Q ls hx hb hml hG hown hK hret hP hS hl
  have hl : lv_has ls 1 [(0, .int a1)] := hl
  obtain ⟨V, hV⟩ : ∃ V, f_X7_leastOf a1 = V := ⟨_, rfl⟩
  have he := hV
  unfold f_X7_leastOf at he
  refine lv_iload_n hx hb dX7_leastOf_0 rfl (lv_at hl 0 rfl) ?_
  obtain ⟨t_3, hr_2, he⟩ := bnd_ex he
  have j10 : ∀ (H : Heap) (locs : List Loc) (ls : Array Slot), va_P D vwCl (wld 31 ad (cM ad k M)) H → va_S (AW 31 ad) s.heap H locs → lv_has ls 1 [] → W p l e rm_X7_leastOf s m args below meth c H locs 0 0 Q (F0 m 10 ls [.int t_3]) := by
    intro H locs ls hP hS hl
    exact hret _ _ _ _ _ _ ⟨hV.trans he.symm, rfl⟩ hP hS dX7_leastOf_10
  refine lv_if_ne (tgt := 9) hx hb dX7_leastOf_1 (by decide) (fun hc_1 => ?_) (fun hc_1 => ?_)
  · have hr_2 := ite_t hr_2 hc_1
    refine lv_iconst (v := 0) hx hb dX7_leastOf_9 (by decide) ?_
    cases hr_2
    exact j10 _ _ _ hP hS (lv_sub hl [] rfl)
  · have hr_2 := ite_f hr_2 (fun q => q hc_1)
    refine lv_bipush (v := 40) hx hb dX7_leastOf_4 (by decide) ?_
    refine lv_goto (tgt := 10) hx hb dX7_leastOf_6 (by decide) ?_
    cases hr_2
    exact j10 _ _ _ hP hS (lv_sub hl [] rfl)
def rm_X7_mostOf : Room := { frames := 0, cells := 0, slots := 0, locals := 0 }
theorem gm_X7_mostOf : Cond.static yX7_mostOf ∈ wsL_law ∧ Cond.initialized yX7_mostOf.cls ∈ wsL_law ∧ Cond.code yX7_mostOf cX7_mostOf 1 (some .int) ∈ wsL_law := ⟨gw_7_9, gw_1_5, gw_7_10⟩
theorem gd_X7_mostOf : yX7_mostOf.cls ≠ "java/lang/invoke/MethodHandle" ∧ yX7_mostOf.cls ≠ "java/lang/invoke/VarHandle" ∧ (parseMethodDescriptor yX7_mostOf.desc).map (fun d => d.parameters.length) = some 1 := by decide +kernel
set_option maxRecDepth 100000 in
set_option maxHeartbeats 0 in
theorem c_X7_mostOf {l : Launch} {D : va_G} {k : Nat → ClassId} {ad : Nat → Nat} (had : InjN 31 ad) {M : Mem} (a1 : Int32) : Met l yX7_mostOf (Cond.code yX7_mostOf cX7_mostOf 1 (some .int) :: wsL_law) rm_X7_mostOf (va_Pc [.int a1] (GW 31 ad D k (cM ad k M))) (va_Qi (fun r u => f_X7_mostOf a1 = r ∧ u = M) (fun u t => GW 31 ad D k (cM ad k u) t) (AW 31 ad)) 0 0 (AW 31 ad) := by
  refine met_i (g := cM ad k) (M := M) (plainFor_of_name (by decide)) (Nat.le_of_ble_eq_true rfl) ?_
  intro p e s m args below meth c Q ls hx hb hml hG hown hK hret hP hS hl
  have hl : lv_has ls 1 [(0, .int a1)] := hl
  obtain ⟨V, hV⟩ : ∃ V, f_X7_mostOf a1 = V := ⟨_, rfl⟩
  have he := hV
  unfold f_X7_mostOf at he
  refine lv_iload_n hx hb dX7_mostOf_0 rfl (lv_at hl 0 rfl) ?_
  obtain ⟨t_6, hr_2, he⟩ := bnd_ex he
  have j43 : ∀ (H : Heap) (locs : List Loc) (ls : Array Slot), va_P D vwCl (wld 31 ad (cM ad k M)) H → va_S (AW 31 ad) s.heap H locs → lv_has ls 1 [] → W p l e rm_X7_mostOf s m args below meth c H locs 0 0 Q (F0 m 43 ls [.int t_6]) := by
    intro H locs ls hP hS hl
    exact hret _ _ _ _ _ _ ⟨hV.trans he.symm, rfl⟩ hP hS dX7_mostOf_43
  refine lv_if_ne (tgt := 10) hx hb dX7_mostOf_1 (by decide) (fun hc_1 => ?_) (fun hc_1 => ?_)
  · have hr_2 := ite_t hr_2 hc_1
    refine lv_iload_n hx hb dX7_mostOf_10 rfl (lv_at hl 0 rfl) ?_
    refine lv_iconst (v := 1) hx hb dX7_mostOf_11 (by decide) ?_
    refine lv_icmp_ne (tgt := 19) hx hb dX7_mostOf_12 (by decide) (fun hc_3 => ?_) (fun hc_3 => ?_)
    · have hr_2 := ite_t hr_2 hc_3
      refine lv_iload_n hx hb dX7_mostOf_19 rfl (lv_at hl 0 rfl) ?_
      refine lv_iconst (v := 2) hx hb dX7_mostOf_20 (by decide) ?_
      refine lv_icmp_ne (tgt := 30) hx hb dX7_mostOf_21 (by decide) (fun hc_4 => ?_) (fun hc_4 => ?_)
      · have hr_2 := ite_t hr_2 hc_4
        refine lv_iload_n hx hb dX7_mostOf_30 rfl (lv_at hl 0 rfl) ?_
        refine lv_iconst (v := 3) hx hb dX7_mostOf_31 (by decide) ?_
        refine lv_icmp_ne (tgt := 40) hx hb dX7_mostOf_32 (by decide) (fun hc_5 => ?_) (fun hc_5 => ?_)
        · have hr_2 := ite_t hr_2 hc_5
          refine lv_sipush (v := 999) hx hb dX7_mostOf_40 (by decide) ?_
          cases hr_2
          exact j43 _ _ _ hP hS (lv_sub hl [] rfl)
        · have hr_2 := ite_f hr_2 (fun q => q hc_5)
          refine lv_bipush (v := 9) hx hb dX7_mostOf_35 (by decide) ?_
          refine lv_goto (tgt := 43) hx hb dX7_mostOf_37 (by decide) ?_
          cases hr_2
          exact j43 _ _ _ hP hS (lv_sub hl [] rfl)
      · have hr_2 := ite_f hr_2 (fun q => q hc_4)
        refine lv_sipush (v := 200) hx hb dX7_mostOf_24 (by decide) ?_
        refine lv_goto (tgt := 43) hx hb dX7_mostOf_27 (by decide) ?_
        cases hr_2
        exact j43 _ _ _ hP hS (lv_sub hl [] rfl)
    · have hr_2 := ite_f hr_2 (fun q => q hc_3)
      refine lv_iconst (v := 3) hx hb dX7_mostOf_15 (by decide) ?_
      refine lv_goto (tgt := 43) hx hb dX7_mostOf_16 (by decide) ?_
      cases hr_2
      exact j43 _ _ _ hP hS (lv_sub hl [] rfl)
  · have hr_2 := ite_f hr_2 (fun q => q hc_1)
    refine lv_sipush (v := 400) hx hb dX7_mostOf_4 (by decide) ?_
    refine lv_goto (tgt := 43) hx hb dX7_mostOf_7 (by decide) ?_
    cases hr_2
    exact j43 _ _ _ hP hS (lv_sub hl [] rfl)
def rm_X7_isSomeBeyond : Room := { frames := 0, cells := 0, slots := 0, locals := 0 }
theorem gm_X7_isSomeBeyond : Cond.instanceMethod yX7_isSomeBeyond ∈ wsL_law ∧ Cond.selects RX7 yX7_isSomeBeyond yX7_isSomeBeyond ∈ wsL_law ∧ Cond.initialized RX7 ∈ wsL_law ∧ Cond.code yX7_isSomeBeyond cX7_isSomeBeyond 4 (some .boolean) ∈ wsL_law := ⟨gw_7_12, gw_7_13, gw_1_5, gw_7_14⟩
theorem gd_X7_isSomeBeyond : yX7_isSomeBeyond.cls = RX7 ∧ yX7_isSomeBeyond.cls ≠ "java/lang/invoke/MethodHandle" ∧ yX7_isSomeBeyond.cls ≠ "java/lang/invoke/VarHandle" ∧ (parseMethodDescriptor yX7_isSomeBeyond.desc).map (fun d => d.parameters.length) = some 1 := by decide +kernel
set_option maxRecDepth 100000 in
set_option maxHeartbeats 0 in
theorem c_X7_isSomeBeyond {l : Launch} {D : va_G} {k : Nat → ClassId} {ad : Nat → Nat} (had : InjN 31 ad) (M : Mem) (a1 : Int32) (hI : MI M) : Met l yX7_isSomeBeyond (Cond.code yX7_isSomeBeyond cX7_isSomeBeyond 4 (some .boolean) :: wsL_law) rm_X7_isSomeBeyond (va_Pc [.ref (ad 0), .int a1] (GW 31 ad D k (cM ad k M))) (va_Qi (fun r u => (r = 0 ∨ r = 1) ∧ f_X7_isSomeBeyond M a1 = r ∧ u = M) (fun u t => GW 31 ad D k (cM ad k u) t) (AW 31 ad)) 0 0 (AW 31 ad) := by
  refine met_z (g := cM ad k) (M := M) (plainFor_of_name (by decide)) (Nat.le_of_ble_eq_true rfl) ?_
  intro p e s m args below meth c Q ls hx hb hml hG hown hK hret hP hS hl
  have hl : lv_has ls 4 [(0, .ref (ad 0)), (1, .int a1)] := hl
  obtain ⟨V, hV⟩ : ∃ V, f_X7_isSomeBeyond M a1 = V := ⟨_, rfl⟩
  have he := hV
  unfold f_X7_isSomeBeyond at he
  have hT0 : TI M M := TI_rf hI
  have qb_M := hI.1
  have qs_M := hI.2.1
  have qz_M := hI.2.2.1
  refine lv_iconst (v := 0) hx hb dX7_isSomeBeyond_0 (by decide) ?_
  refine lv_istore_n (lv' := [(2, .int 0), (0, .ref (ad 0)), (1, .int a1)]) hx hb dX7_isSomeBeyond_1 rfl hl (by decide) rfl (fun ls hl => ?_)
  refine lv_iconst (v := 0) hx hb dX7_isSomeBeyond_2 (by decide) ?_
  refine lv_istore_n (lv' := [(3, .int 0), (2, .int 0), (0, .ref (ad 0)), (1, .int a1)]) hx hb dX7_isSomeBeyond_3 rfl hl (by decide) rfl (fun ls hl => ?_)
  obtain ⟨w_19, hr_12, he⟩ := bnd_ex he
  have j38 : ∀ (H : Heap) (locs : List Loc) (ls : Array Slot), (w_19 = 0 ∨ w_19 = 1) → va_P D vwCl (wld 31 ad (cM ad k M)) H → va_S (AW 31 ad) s.heap H locs → lv_has ls 4 [(2, .int w_19)] → W p l e rm_X7_isSomeBeyond s m args below meth c H locs 0 0 Q (F0 m 38 ls []) := by
    intro H locs ls zw_19 hP hS hl
    refine lv_iload_n hx hb dX7_isSomeBeyond_38 rfl (lv_at hl 0 rfl) ?_
    exact hret _ _ _ _ _ _ ⟨zw_19, (hV.trans he.symm), rfl⟩ (nz01 zw_19) hP hS dX7_isSomeBeyond_39
  have lp4 : ∀ (nn : Nat) (H : Heap) (locs : List Loc) (ls : Array Slot) (v_10 : Int32) (v_11 : Int32), (v_10 = 0 ∨ v_10 = 1) → (0 ≤ v_11.toInt) → (4 - v_11.toInt).toNat < nn → lp_X7_isSomeBeyond_4 nn M a1 v_10 v_11 = w_19 → va_P D vwCl (wld 31 ad (cM ad k M)) H → va_S (AW 31 ad) s.heap H locs → lv_has ls 4 [(0, .ref (ad 0)), (1, .int a1), (2, .int v_10), (3, .int v_11)] → W p l e rm_X7_isSomeBeyond s m args below meth c H locs 0 0 Q (F0 m 4 ls []) := by
    intro nn
    induction nn with
    | zero =>
      intro H locs ls v_10 v_11 zv_10 h0v_11 hμ
      exact absurd hμ (Nat.not_lt_zero _)
    | succ nn ih =>
      intro H locs ls v_10 v_11 zv_10 h0v_11 hμ hr_12 hP hS hl
      rw [lp_X7_isSomeBeyond_4] at hr_12
      refine lv_iload_n hx hb dX7_isSomeBeyond_4 rfl (lv_at hl 3 rfl) ?_
      refine lv_aload_n hx hb dX7_isSomeBeyond_5 rfl (lv_at hl 0 rfl) ?_
      refine gX7_8 hx hb hG hown hK hP gw_7_15 dX7_isSomeBeyond_6 ?_
      refine lv_icmp_ge (tgt := 38) hx hb dX7_isSomeBeyond_9 (by decide) (fun hc_13 => ?_) (fun hc_13 => ?_)
      · have hr_12 := ite_t hr_12 hc_13
        cases hr_12
        exact j38 _ _ _ zv_10 hP hS (lv_sub hl [2] rfl)
      · have hr_12 := ite_f hr_12 hc_13
        refine lv_iload_n hx hb dX7_isSomeBeyond_12 rfl (lv_at hl 2 rfl) ?_
        obtain ⟨t_17, hr_15, hr_12⟩ := bnd_ex hr_12
        have j31 : ∀ (H : Heap) (locs : List Loc) (ls : Array Slot), (t_17 = 0 ∨ t_17 = 1) → va_P D vwCl (wld 31 ad (cM ad k M)) H → va_S (AW 31 ad) s.heap H locs → lv_has ls 4 [(0, .ref (ad 0)), (1, .int a1), (3, .int v_11)] → W p l e rm_X7_isSomeBeyond s m args below meth c H locs 0 0 Q (F0 m 31 ls [.int t_17]) := by
          intro H locs ls zt_17 hP hS hl
          refine lv_istore_n (lv' := [(2, .int t_17), (0, .ref (ad 0)), (1, .int a1), (3, .int v_11)]) hx hb dX7_isSomeBeyond_31 rfl hl (by decide) rfl (fun ls hl => ?_)
          obtain ⟨y_18, ey_18⟩ : ∃ y_18 : Int32, y_18 = v_11 + 1 := ⟨_, rfl⟩
          have hr_12 := bnd_at hr_12 ey_18
          refine lv_iinc (v := y_18) (lv' := [(3, .int y_18), (2, .int t_17), (0, .ref (ad 0)), (1, .int a1)]) hx hb dX7_isSomeBeyond_32 hl (k := 3) rfl (by rw [ey_18]; rfl) (by decide) rfl (fun ls hl => ?_)
          refine lv_goto (tgt := 4) hx hb dX7_isSomeBeyond_35 (by decide) ?_
          exact ih _ _ _ _ _ zt_17 (by rw [ey_18, inc_I (N := 4) (bnd_lt (nle_I hc_13) (by omega)) (by decide)]; omega) (by rw [ey_18]; exact mu_I hμ (bnd_lt (nle_I hc_13) (by omega)) (by decide)) hr_12 hP hS (lv_sub hl [2, 3, 1, 0] rfl)
        refine lv_if_ne (tgt := 26) hx hb dX7_isSomeBeyond_13 (by decide) (fun hc_14 => ?_) (fun hc_14 => ?_)
        · have hr_15 := ite_t hr_15 hc_14
          refine lv_iconst (v := 1) hx hb dX7_isSomeBeyond_26 (by decide) ?_
          refine lv_goto (tgt := 31) hx hb dX7_isSomeBeyond_27 (by decide) ?_
          cases hr_15
          exact j31 _ _ _ (Or.inr rfl) hP hS (lv_sub hl [0, 1, 3] rfl)
        · have hr_15 := ite_f hr_15 (fun q => q hc_14)
          refine lv_aload_n hx hb dX7_isSomeBeyond_16 rfl (lv_at hl 0 rfl) ?_
          refine gX7_14 hx hb hG hown hK hP gw_4_19 dX7_isSomeBeyond_17 ?_
          refine lv_iload_n hx hb dX7_isSomeBeyond_20 rfl (lv_at hl 3 rfl) ?_
          refine al_M7 hx hb hK hP (vin_I (by have q0 : v_11.toInt < (M 0 8).toInt := nle_I hc_13; omega) (by have q0 : v_11.toInt < (M 0 8).toInt := nle_I hc_13; omega)) dX7_isSomeBeyond_21 ?_
          refine lv_iload_n hx hb dX7_isSomeBeyond_22 rfl (lv_at hl 1 rfl) ?_
          refine lv_icmp_lt (tgt := 30) hx hb dX7_isSomeBeyond_23 (by decide) (fun hc_16 => ?_) (fun hc_16 => ?_)
          · have hr_15 := ite_t hr_15 hc_16
            refine lv_iconst (v := 0) hx hb dX7_isSomeBeyond_30 (by decide) ?_
            cases hr_15
            exact j31 _ _ _ (Or.inl rfl) hP hS (lv_sub hl [0, 1, 3] rfl)
          · have hr_15 := ite_f hr_15 hc_16
            refine lv_iconst (v := 1) hx hb dX7_isSomeBeyond_26 (by decide) ?_
            refine lv_goto (tgt := 31) hx hb dX7_isSomeBeyond_27 (by decide) ?_
            cases hr_15
            exact j31 _ _ _ (Or.inr rfl) hP hS (lv_sub hl [0, 1, 3] rfl)
  exact lp4 _ _ _ _ _ _ (Or.inl rfl) (by decide) (by decide) hr_12 hP hS (lv_sub hl [2, 3, 1, 0] rfl)
def rm_X7_set : Room := { frames := 1, cells := 0, slots := 0, locals := 25 }
theorem gm_X7_set : Cond.instanceMethod yX7_set ∈ wsL_law ∧ Cond.selects RX7 yX7_set yX7_set ∈ wsL_law ∧ Cond.initialized RX7 ∈ wsL_law ∧ Cond.code yX7_set cX7_set 4 (some .int) ∈ wsL_law := ⟨gw_6_20, gw_6_21, gw_1_5, gw_6_22⟩
theorem gd_X7_set : yX7_set.cls = RX7 ∧ yX7_set.cls ≠ "java/lang/invoke/MethodHandle" ∧ yX7_set.cls ≠ "java/lang/invoke/VarHandle" ∧ (parseMethodDescriptor yX7_set.desc).map (fun d => d.parameters.length) = some 2 := by decide +kernel
set_option maxRecDepth 100000 in
set_option maxHeartbeats 0 in
theorem c_X7_set {l : Launch} {D : va_G} {k : Nat → ClassId} {ad : Nat → Nat} (had : InjN 31 ad) (M : Mem) (a1 : Int32) (a2 : Int32) (hI : MI M) : Met l yX7_set (Cond.code yX7_set cX7_set 4 (some .int) :: wsL_law) rm_X7_set (va_Pc [.ref (ad 0), .int a1, .int a2] (GW 31 ad D k (cM ad k M))) (va_Qi (fun r u => (f_X7_set M a1 a2 = (r, u) ∧ TI M u)) (fun u t => GW 31 ad D k (cM ad k u) t) (AW 31 ad)) 0 0 (AW 31 ad) := by
  refine met_i (g := cM ad k) (M := M) (plainFor_of_name (by decide)) (Nat.le_of_ble_eq_true rfl) ?_
  intro p e s m args below meth c Q ls hx hb hml hG hown hK hret hP hS hl
  have hl : lv_has ls 4 [(0, .ref (ad 0)), (1, .int a1), (2, .int a2)] := hl
  obtain ⟨V, hV⟩ : ∃ V, f_X7_set M a1 a2 = V := ⟨_, rfl⟩
  have he := hV
  unfold f_X7_set at he
  have hT0 : TI M M := TI_rf hI
  have qb_M := hI.1
  have qs_M := hI.2.1
  have qz_M := hI.2.2.1
  refine lv_aload_n hx hb dX7_set_0 rfl (lv_at hl 0 rfl) ?_
  refine lv_iconst (v := 0) hx hb dX7_set_1 (by decide) ?_
  refine pX7_19 hx hb hG hown hK hP had AW_in hS gw_5_19 dX7_set_2 (fun H locs hP hS => ?_)
  obtain ⟨M_1, eM_1⟩ : ∃ y : Mem, y = up2 M 0 19 0 := ⟨_, rfl⟩
  rw [← eM_1] at hP
  have he := bnd_at he eM_1
  have hTM_1 : TI M M_1 := by rw [eM_1]; exact TI_f hT0 (by decide)
  have qb_M_1 := hTM_1.1.1
  have qs_M_1 := hTM_1.1.2.1
  have qz_M_1 := hTM_1.1.2.2.1
  refine lv_iload_n hx hb dX7_set_5 rfl (lv_at hl 1 rfl) ?_
  refine lv_i2l (v := a1.toInt64) hx hb dX7_set_6 rfl ?_
  refine lv_lconst (v := 0) hx hb dX7_set_7 (by decide) ?_
  refine lv_ldc2 (v := 4) hx hb hown (hG _ gw_6_23) dX7_set_8 ?_
  refine callS_i [.long a1.toInt64, .long 0, .long 4] [] hx hb hml hG hown hK (c_X7_in had (M := M_1)  a1.toInt64 0 4) gw_7_2 gm_X7_in gd_X7_in rfl rfl ⟨Nat.le_of_ble_eq_true rfl, Nat.le_of_ble_eq_true rfl⟩ ⟨Nat.le_refl _, Nat.le_refl _⟩ hP (fun _ h => h) hS rfl hl.1 rfl (Nat.le_of_ble_eq_true rfl) dX7_set_11 (fun r_2 u_4 H locs hF_3 hP hS => ?_)
  obtain ⟨hz_5, hF_3, hu⟩ := hF_3; rw [hu] at hP; subst hF_3
  refine lv_if_eq (tgt := 35) hx hb dX7_set_14 (by decide) (fun hc_6 => ?_) (fun hc_6 => ?_)
  · have he := ite_t he hc_6
    refine lv_iconst (v := (-1)) hx hb dX7_set_35 (by decide) ?_
    exact hret _ _ _ _ _ _ ⟨(hV.trans he.symm), hTM_1⟩ hP hS dX7_set_36
  · have he := ite_f he hc_6
    refine lv_iload_n hx hb dX7_set_17 rfl (lv_at hl 2 rfl) ?_
    refine lv_i2l (v := a2.toInt64) hx hb dX7_set_18 rfl ?_
    refine lv_iload_n hx hb dX7_set_19 rfl (lv_at hl 1 rfl) ?_
    refine callS_i [.int a1] [.long a2.toInt64] hx hb hml hG hown hK (c_X7_leastOf had (M := M_1)  a1) gw_7_5 gm_X7_leastOf gd_X7_leastOf rfl rfl ⟨Nat.le_of_ble_eq_true rfl, Nat.le_of_ble_eq_true rfl⟩ ⟨Nat.le_refl _, Nat.le_refl _⟩ hP (fun _ h => h) hS rfl hl.1 rfl (Nat.le_of_ble_eq_true rfl) dX7_set_20 (fun r_7 u_9 H locs hF_8 hP hS => ?_)
    obtain ⟨hF_8, hu⟩ := hF_8; rw [hu] at hP; subst hF_8
    refine lv_i2l (v := (f_X7_leastOf a1).toInt64) hx hb dX7_set_23 rfl ?_
    refine lv_iload_n hx hb dX7_set_24 rfl (lv_at hl 1 rfl) ?_
    refine callS_i [.int a1] [.long ((f_X7_leastOf a1).toInt64), .long a2.toInt64] hx hb hml hG hown hK (c_X7_mostOf had (M := M_1)  a1) gw_7_8 gm_X7_mostOf gd_X7_mostOf rfl rfl ⟨Nat.le_of_ble_eq_true rfl, Nat.le_of_ble_eq_true rfl⟩ ⟨Nat.le_refl _, Nat.le_refl _⟩ hP (fun _ h => h) hS rfl hl.1 rfl (Nat.le_of_ble_eq_true rfl) dX7_set_25 (fun r_10 u_12 H locs hF_11 hP hS => ?_)
    obtain ⟨hF_11, hu⟩ := hF_11; rw [hu] at hP; subst hF_11
    refine lv_i2l (v := (f_X7_mostOf a1).toInt64) hx hb dX7_set_28 rfl ?_
    refine callS_i [.long a2.toInt64, .long ((f_X7_leastOf a1).toInt64), .long ((f_X7_mostOf a1).toInt64)] [] hx hb hml hG hown hK (c_X7_in had (M := M_1)  a2.toInt64 ((f_X7_leastOf a1).toInt64) ((f_X7_mostOf a1).toInt64)) gw_7_2 gm_X7_in gd_X7_in rfl rfl ⟨Nat.le_of_ble_eq_true rfl, Nat.le_of_ble_eq_true rfl⟩ ⟨Nat.le_refl _, Nat.le_refl _⟩ hP (fun _ h => h) hS rfl hl.1 rfl (Nat.le_of_ble_eq_true rfl) dX7_set_29 (fun r_13 u_15 H locs hF_14 hP hS => ?_)
    obtain ⟨hz_16, hF_14, hu⟩ := hF_14; rw [hu] at hP; subst hF_14
    refine lv_if_ne (tgt := 37) hx hb dX7_set_32 (by decide) (fun hc_17 => ?_) (fun hc_17 => ?_)
    · have he := ite_t he hc_17
      refine lv_iload_n hx hb dX7_set_37 rfl (lv_at hl 1 rfl) ?_
      refine lv_if_ne (tgt := 52) hx hb dX7_set_38 (by decide) (fun hc_18 => ?_) (fun hc_18 => ?_)
      · have he := ite_t he hc_18
        refine lv_iload_n hx hb dX7_set_52 rfl (lv_at hl 1 rfl) ?_
        obtain ⟨t_24, hr_20, he⟩ := bnd_ex he
        have j103 : ∀ (H : Heap) (locs : List Loc) (ls : Array Slot), va_P D vwCl (wld 31 ad (cM ad k M_1)) H → va_S (AW 31 ad) s.heap H locs → lv_has ls 4 [(0, .ref (ad 0)), (1, .int a1), (2, .int a2)] → W p l e rm_X7_set s m args below meth c H locs 0 0 Q (F0 m 103 ls [.int t_24]) := by
          intro H locs ls hP hS hl
          refine lv_istore_n (lv' := [(3, .int t_24), (0, .ref (ad 0)), (1, .int a1), (2, .int a2)]) hx hb dX7_set_103 rfl hl (by decide) rfl (fun ls hl => ?_)
          refine lv_aload_n hx hb dX7_set_104 rfl (lv_at hl 1 rfl) ?_
          refine lv_iload_n hx hb dX7_set_105 rfl (lv_at hl 2 rfl) ?_
          obtain ⟨t_27, hr_26, he⟩ := bnd_ex he
          have j117 : ∀ (H : Heap) (locs : List Loc) (ls : Array Slot), va_P D vwCl (wld 31 ad (cM ad k M_1)) H → va_S (AW 31 ad) s.heap H locs → lv_has ls 4 [(0, .ref (ad 0)), (1, .int a1), (2, .int a2), (3, .int t_24)] → W p l e rm_X7_set s m args below meth c H locs 0 0 Q (F0 m 117 ls [.int t_27, .ref (ad 0)]) := by
            intro H locs ls hP hS hl
            refine pX7_0 hx hb hG hown hK hP had AW_in hS gw_4_10 dX7_set_117 (fun H locs hP hS => ?_)
            obtain ⟨M_28, eM_28⟩ : ∃ y : Mem, y = up2 M_1 0 0 t_27 := ⟨_, rfl⟩
            rw [← eM_28] at hP
            have he := bnd_at he eM_28
            have hTM_28 : TI M M_28 := by rw [eM_28]; exact TI_f hTM_1 (by decide)
            have qb_M_28 := hTM_28.1.1
            have qs_M_28 := hTM_28.1.2.1
            have qz_M_28 := hTM_28.1.2.2.1
            refine lv_aload_n hx hb dX7_set_120 rfl (lv_at hl 0 rfl) ?_
            refine lv_iload_n hx hb dX7_set_121 rfl (lv_at hl 1 rfl) ?_
            refine lv_iconst (v := 1) hx hb dX7_set_122 (by decide) ?_
            obtain ⟨t_31, hr_30, he⟩ := bnd_ex he
            have j134 : ∀ (H : Heap) (locs : List Loc) (ls : Array Slot), va_P D vwCl (wld 31 ad (cM ad k M_28)) H → va_S (AW 31 ad) s.heap H locs → lv_has ls 4 [(0, .ref (ad 0)), (1, .int a1), (2, .int a2), (3, .int t_24)] → W p l e rm_X7_set s m args below meth c H locs 0 0 Q (F0 m 134 ls [.int t_31, .ref (ad 0)]) := by
              intro H locs ls hP hS hl
              refine pX7_1 hx hb hG hown hK hP had AW_in hS gw_7_0 dX7_set_134 (fun H locs hP hS => ?_)
              obtain ⟨M_32, eM_32⟩ : ∃ y : Mem, y = up2 M_28 0 1 t_31 := ⟨_, rfl⟩
              rw [← eM_32] at hP
              have he := bnd_at he eM_32
              have hTM_32 : TI M M_32 := by rw [eM_32]; exact TI_f hTM_28 (by decide)
              have qb_M_32 := hTM_32.1.1
              have qs_M_32 := hTM_32.1.2.1
              have qz_M_32 := hTM_32.1.2.2.1
              refine lv_aload_n hx hb dX7_set_137 rfl (lv_at hl 0 rfl) ?_
              refine lv_iload_n hx hb dX7_set_138 rfl (lv_at hl 1 rfl) ?_
              refine lv_iconst (v := 2) hx hb dX7_set_139 (by decide) ?_
              obtain ⟨t_35, hr_34, he⟩ := bnd_ex he
              have j151 : ∀ (H : Heap) (locs : List Loc) (ls : Array Slot), va_P D vwCl (wld 31 ad (cM ad k M_32)) H → va_S (AW 31 ad) s.heap H locs → lv_has ls 4 [(0, .ref (ad 0)), (1, .int a1), (2, .int a2), (3, .int t_24)] → W p l e rm_X7_set s m args below meth c H locs 0 0 Q (F0 m 151 ls [.int t_35, .ref (ad 0)]) := by
                intro H locs ls hP hS hl
                refine pX7_2 hx hb hG hown hK hP had AW_in hS gw_4_11 dX7_set_151 (fun H locs hP hS => ?_)
                obtain ⟨M_36, eM_36⟩ : ∃ y : Mem, y = up2 M_32 0 2 t_35 := ⟨_, rfl⟩
                rw [← eM_36] at hP
                have he := bnd_at he eM_36
                have hTM_36 : TI M M_36 := by rw [eM_36]; exact TI_f hTM_32 (by decide)
                have qb_M_36 := hTM_36.1.1
                have qs_M_36 := hTM_36.1.2.1
                have qz_M_36 := hTM_36.1.2.2.1
                refine lv_aload_n hx hb dX7_set_154 rfl (lv_at hl 0 rfl) ?_
                refine lv_iload_n hx hb dX7_set_155 rfl (lv_at hl 1 rfl) ?_
                refine lv_iconst (v := 3) hx hb dX7_set_156 (by decide) ?_
                obtain ⟨t_39, hr_38, he⟩ := bnd_ex he
                have j168 : ∀ (H : Heap) (locs : List Loc) (ls : Array Slot), va_P D vwCl (wld 31 ad (cM ad k M_36)) H → va_S (AW 31 ad) s.heap H locs → lv_has ls 4 [(0, .ref (ad 0)), (1, .int a1), (2, .int a2), (3, .int t_24)] → W p l e rm_X7_set s m args below meth c H locs 0 0 Q (F0 m 168 ls [.int t_39, .ref (ad 0)]) := by
                  intro H locs ls hP hS hl
                  refine pX7_3 hx hb hG hown hK hP had AW_in hS gw_4_12 dX7_set_168 (fun H locs hP hS => ?_)
                  obtain ⟨M_40, eM_40⟩ : ∃ y : Mem, y = up2 M_36 0 3 t_39 := ⟨_, rfl⟩
                  rw [← eM_40] at hP
                  have he := bnd_at he eM_40
                  have hTM_40 : TI M M_40 := by rw [eM_40]; exact TI_f hTM_36 (by decide)
                  have qb_M_40 := hTM_40.1.1
                  have qs_M_40 := hTM_40.1.2.1
                  have qz_M_40 := hTM_40.1.2.2.1
                  refine lv_aload_n hx hb dX7_set_171 rfl (lv_at hl 0 rfl) ?_
                  refine lv_iload_n hx hb dX7_set_172 rfl (lv_at hl 1 rfl) ?_
                  refine lv_iconst (v := 4) hx hb dX7_set_173 (by decide) ?_
                  obtain ⟨t_43, hr_42, he⟩ := bnd_ex he
                  have j185 : ∀ (H : Heap) (locs : List Loc) (ls : Array Slot), va_P D vwCl (wld 31 ad (cM ad k M_40)) H → va_S (AW 31 ad) s.heap H locs → lv_has ls 4 [(3, .int t_24)] → W p l e rm_X7_set s m args below meth c H locs 0 0 Q (F0 m 185 ls [.int t_43, .ref (ad 0)]) := by
                    intro H locs ls hP hS hl
                    refine pX7_4 hx hb hG hown hK hP had AW_in hS gw_7_1 dX7_set_185 (fun H locs hP hS => ?_)
                    obtain ⟨M_44, eM_44⟩ : ∃ y : Mem, y = up2 M_40 0 4 t_43 := ⟨_, rfl⟩
                    rw [← eM_44] at hP
                    have he := bnd_at he eM_44
                    have hTM_44 : TI M M_44 := by rw [eM_44]; exact TI_f hTM_40 (by decide)
                    have qb_M_44 := hTM_44.1.1
                    have qs_M_44 := hTM_44.1.2.1
                    have qz_M_44 := hTM_44.1.2.2.1
                    refine lv_iload_n hx hb dX7_set_188 rfl (lv_at hl 0 rfl) ?_
                    exact hret _ _ _ _ _ _ ⟨(hV.trans he.symm), hTM_44⟩ hP hS dX7_set_189
                  refine lv_icmp_ne (tgt := 181) hx hb dX7_set_174 (by decide) (fun hc_41 => ?_) (fun hc_41 => ?_)
                  · have hr_42 := ite_t hr_42 hc_41
                    refine lv_aload_n hx hb dX7_set_181 rfl (lv_at hl 0 rfl) ?_
                    refine gX7_4 hx hb hG hown hK hP gw_7_1 dX7_set_182 ?_
                    cases hr_42
                    exact j185 _ _ _ hP hS (lv_sub hl [3] rfl)
                  · have hr_42 := ite_f hr_42 (fun q => q hc_41)
                    refine lv_iload_n hx hb dX7_set_177 rfl (lv_at hl 2 rfl) ?_
                    refine lv_goto (tgt := 185) hx hb dX7_set_178 (by decide) ?_
                    cases hr_42
                    exact j185 _ _ _ hP hS (lv_sub hl [3] rfl)
                refine lv_icmp_ne (tgt := 164) hx hb dX7_set_157 (by decide) (fun hc_37 => ?_) (fun hc_37 => ?_)
                · have hr_38 := ite_t hr_38 hc_37
                  refine lv_aload_n hx hb dX7_set_164 rfl (lv_at hl 0 rfl) ?_
                  refine gX7_3 hx hb hG hown hK hP gw_4_12 dX7_set_165 ?_
                  cases hr_38
                  exact j168 _ _ _ hP hS (lv_sub hl [0, 1, 2, 3] rfl)
                · have hr_38 := ite_f hr_38 (fun q => q hc_37)
                  refine lv_iload_n hx hb dX7_set_160 rfl (lv_at hl 2 rfl) ?_
                  refine lv_goto (tgt := 168) hx hb dX7_set_161 (by decide) ?_
                  cases hr_38
                  exact j168 _ _ _ hP hS (lv_sub hl [0, 1, 2, 3] rfl)
              refine lv_icmp_ne (tgt := 147) hx hb dX7_set_140 (by decide) (fun hc_33 => ?_) (fun hc_33 => ?_)
              · have hr_34 := ite_t hr_34 hc_33
                refine lv_aload_n hx hb dX7_set_147 rfl (lv_at hl 0 rfl) ?_
                refine gX7_2 hx hb hG hown hK hP gw_4_11 dX7_set_148 ?_
                cases hr_34
                exact j151 _ _ _ hP hS (lv_sub hl [0, 1, 2, 3] rfl)
              · have hr_34 := ite_f hr_34 (fun q => q hc_33)
                refine lv_iload_n hx hb dX7_set_143 rfl (lv_at hl 2 rfl) ?_
                refine lv_goto (tgt := 151) hx hb dX7_set_144 (by decide) ?_
                cases hr_34
                exact j151 _ _ _ hP hS (lv_sub hl [0, 1, 2, 3] rfl)
            refine lv_icmp_ne (tgt := 130) hx hb dX7_set_123 (by decide) (fun hc_29 => ?_) (fun hc_29 => ?_)
            · have hr_30 := ite_t hr_30 hc_29
              refine lv_aload_n hx hb dX7_set_130 rfl (lv_at hl 0 rfl) ?_
              refine gX7_1 hx hb hG hown hK hP gw_7_0 dX7_set_131 ?_
              cases hr_30
              exact j134 _ _ _ hP hS (lv_sub hl [0, 1, 2, 3] rfl)
            · have hr_30 := ite_f hr_30 (fun q => q hc_29)
              refine lv_iload_n hx hb dX7_set_126 rfl (lv_at hl 2 rfl) ?_
              refine lv_goto (tgt := 134) hx hb dX7_set_127 (by decide) ?_
              cases hr_30
              exact j134 _ _ _ hP hS (lv_sub hl [0, 1, 2, 3] rfl)
          refine lv_if_ne (tgt := 113) hx hb dX7_set_106 (by decide) (fun hc_25 => ?_) (fun hc_25 => ?_)
          · have hr_26 := ite_t hr_26 hc_25
            refine lv_aload_n hx hb dX7_set_113 rfl (lv_at hl 1 rfl) ?_
            refine gX7_0 hx hb hG hown hK hP gw_4_10 dX7_set_114 ?_
            cases hr_26
            exact j117 _ _ _ hP hS (lv_sub hl [1, 2, 3, 0] rfl)
          · have hr_26 := ite_f hr_26 (fun q => q hc_25)
            refine lv_iload_n hx hb dX7_set_109 rfl (lv_at hl 3 rfl) ?_
            refine lv_goto (tgt := 117) hx hb dX7_set_110 (by decide) ?_
            cases hr_26
            exact j117 _ _ _ hP hS (lv_sub hl [1, 2, 3, 0] rfl)
        refine lv_if_ne (tgt := 63) hx hb dX7_set_53 (by decide) (fun hc_19 => ?_) (fun hc_19 => ?_)
        · have hr_20 := ite_t hr_20 hc_19
          refine lv_iload_n hx hb dX7_set_63 rfl (lv_at hl 1 rfl) ?_
          refine lv_iconst (v := 1) hx hb dX7_set_64 (by decide) ?_
          refine lv_icmp_ne (tgt := 75) hx hb dX7_set_65 (by decide) (fun hc_21 => ?_) (fun hc_21 => ?_)
          · have hr_20 := ite_t hr_20 hc_21
            refine lv_iload_n hx hb dX7_set_75 rfl (lv_at hl 1 rfl) ?_
            refine lv_iconst (v := 2) hx hb dX7_set_76 (by decide) ?_
            refine lv_icmp_ne (tgt := 87) hx hb dX7_set_77 (by decide) (fun hc_22 => ?_) (fun hc_22 => ?_)
            · have hr_20 := ite_t hr_20 hc_22
              refine lv_iload_n hx hb dX7_set_87 rfl (lv_at hl 1 rfl) ?_
              refine lv_iconst (v := 3) hx hb dX7_set_88 (by decide) ?_
              refine lv_icmp_ne (tgt := 99) hx hb dX7_set_89 (by decide) (fun hc_23 => ?_) (fun hc_23 => ?_)
              · have hr_20 := ite_t hr_20 hc_23
                refine lv_aload_n hx hb dX7_set_99 rfl (lv_at hl 0 rfl) ?_
                refine gX7_4 hx hb hG hown hK hP gw_7_1 dX7_set_100 ?_
                cases hr_20
                exact j103 _ _ _ hP hS (lv_sub hl [0, 1, 2] rfl)
              · have hr_20 := ite_f hr_20 (fun q => q hc_23)
                refine lv_aload_n hx hb dX7_set_92 rfl (lv_at hl 0 rfl) ?_
                refine gX7_3 hx hb hG hown hK hP gw_4_12 dX7_set_93 ?_
                refine lv_goto (tgt := 103) hx hb dX7_set_96 (by decide) ?_
                cases hr_20
                exact j103 _ _ _ hP hS (lv_sub hl [0, 1, 2] rfl)
            · have hr_20 := ite_f hr_20 (fun q => q hc_22)
              refine lv_aload_n hx hb dX7_set_80 rfl (lv_at hl 0 rfl) ?_
              refine gX7_2 hx hb hG hown hK hP gw_4_11 dX7_set_81 ?_
              refine lv_goto (tgt := 103) hx hb dX7_set_84 (by decide) ?_
              cases hr_20
              exact j103 _ _ _ hP hS (lv_sub hl [0, 1, 2] rfl)
          · have hr_20 := ite_f hr_20 (fun q => q hc_21)
            refine lv_aload_n hx hb dX7_set_68 rfl (lv_at hl 0 rfl) ?_
            refine gX7_1 hx hb hG hown hK hP gw_7_0 dX7_set_69 ?_
            refine lv_goto (tgt := 103) hx hb dX7_set_72 (by decide) ?_
            cases hr_20
            exact j103 _ _ _ hP hS (lv_sub hl [0, 1, 2] rfl)
        · have hr_20 := ite_f hr_20 (fun q => q hc_19)
          refine lv_aload_n hx hb dX7_set_56 rfl (lv_at hl 0 rfl) ?_
          refine gX7_0 hx hb hG hown hK hP gw_4_10 dX7_set_57 ?_
          refine lv_goto (tgt := 103) hx hb dX7_set_60 (by decide) ?_
          cases hr_20
          exact j103 _ _ _ hP hS (lv_sub hl [0, 1, 2] rfl)
      · have he := ite_f he (fun q => q hc_18)
        refine lv_aload_n hx hb dX7_set_41 rfl (lv_at hl 0 rfl) ?_
        refine lv_iload_n hx hb dX7_set_42 rfl (lv_at hl 2 rfl) ?_
        refine call_i [.int a2] [] hx hb hml hG hown hK (c_X7_isSomeBeyond had M_1 a2 hTM_1.1) gw_7_11 gm_X7_isSomeBeyond gd_X7_isSomeBeyond rfl rfl ⟨Nat.le_of_ble_eq_true rfl, Nat.le_of_ble_eq_true rfl⟩ ⟨Nat.le_refl _, Nat.le_refl _⟩ (rX7 hK hP) hP (fun _ h => h) hS rfl hl.1 rfl (Nat.le_of_ble_eq_true rfl) dX7_set_43 (fun r_45 u_47 H locs hF_46 hP hS => ?_)
        obtain ⟨hz_48, hF_46, hu⟩ := hF_46; rw [hu] at hP; subst hF_46
        refine lv_if_eq (tgt := 52) hx hb dX7_set_46 (by decide) (fun hc_49 => ?_) (fun hc_49 => ?_)
        · have he := ite_t he hc_49
          refine lv_iload_n hx hb dX7_set_52 rfl (lv_at hl 1 rfl) ?_
          obtain ⟨t_55, hr_51, he⟩ := bnd_ex he
          have j103 : ∀ (H : Heap) (locs : List Loc) (ls : Array Slot), va_P D vwCl (wld 31 ad (cM ad k M_1)) H → va_S (AW 31 ad) s.heap H locs → lv_has ls 4 [(0, .ref (ad 0)), (1, .int a1), (2, .int a2)] → W p l e rm_X7_set s m args below meth c H locs 0 0 Q (F0 m 103 ls [.int t_55]) := by
            intro H locs ls hP hS hl
            refine lv_istore_n (lv' := [(3, .int t_55), (0, .ref (ad 0)), (1, .int a1), (2, .int a2)]) hx hb dX7_set_103 rfl hl (by decide) rfl (fun ls hl => ?_)
            refine lv_aload_n hx hb dX7_set_104 rfl (lv_at hl 1 rfl) ?_
            refine lv_iload_n hx hb dX7_set_105 rfl (lv_at hl 2 rfl) ?_
            obtain ⟨t_58, hr_57, he⟩ := bnd_ex he
            have j117 : ∀ (H : Heap) (locs : List Loc) (ls : Array Slot), va_P D vwCl (wld 31 ad (cM ad k M_1)) H → va_S (AW 31 ad) s.heap H locs → lv_has ls 4 [(0, .ref (ad 0)), (1, .int a1), (2, .int a2), (3, .int t_55)] → W p l e rm_X7_set s m args below meth c H locs 0 0 Q (F0 m 117 ls [.int t_58, .ref (ad 0)]) := by
              intro H locs ls hP hS hl
              refine pX7_0 hx hb hG hown hK hP had AW_in hS gw_4_10 dX7_set_117 (fun H locs hP hS => ?_)
              obtain ⟨M_59, eM_59⟩ : ∃ y : Mem, y = up2 M_1 0 0 t_58 := ⟨_, rfl⟩
              rw [← eM_59] at hP
              have he := bnd_at he eM_59
              have hTM_59 : TI M M_59 := by rw [eM_59]; exact TI_f hTM_1 (by decide)
              have qb_M_59 := hTM_59.1.1
              have qs_M_59 := hTM_59.1.2.1
              have qz_M_59 := hTM_59.1.2.2.1
              refine lv_aload_n hx hb dX7_set_120 rfl (lv_at hl 0 rfl) ?_
              refine lv_iload_n hx hb dX7_set_121 rfl (lv_at hl 1 rfl) ?_
              refine lv_iconst (v := 1) hx hb dX7_set_122 (by decide) ?_
              obtain ⟨t_62, hr_61, he⟩ := bnd_ex he
              have j134 : ∀ (H : Heap) (locs : List Loc) (ls : Array Slot), va_P D vwCl (wld 31 ad (cM ad k M_59)) H → va_S (AW 31 ad) s.heap H locs → lv_has ls 4 [(0, .ref (ad 0)), (1, .int a1), (2, .int a2), (3, .int t_55)] → W p l e rm_X7_set s m args below meth c H locs 0 0 Q (F0 m 134 ls [.int t_62, .ref (ad 0)]) := by
                intro H locs ls hP hS hl
                refine pX7_1 hx hb hG hown hK hP had AW_in hS gw_7_0 dX7_set_134 (fun H locs hP hS => ?_)
                obtain ⟨M_63, eM_63⟩ : ∃ y : Mem, y = up2 M_59 0 1 t_62 := ⟨_, rfl⟩
                rw [← eM_63] at hP
                have he := bnd_at he eM_63
                have hTM_63 : TI M M_63 := by rw [eM_63]; exact TI_f hTM_59 (by decide)
                have qb_M_63 := hTM_63.1.1
                have qs_M_63 := hTM_63.1.2.1
                have qz_M_63 := hTM_63.1.2.2.1
                refine lv_aload_n hx hb dX7_set_137 rfl (lv_at hl 0 rfl) ?_
                refine lv_iload_n hx hb dX7_set_138 rfl (lv_at hl 1 rfl) ?_
                refine lv_iconst (v := 2) hx hb dX7_set_139 (by decide) ?_
                obtain ⟨t_66, hr_65, he⟩ := bnd_ex he
                have j151 : ∀ (H : Heap) (locs : List Loc) (ls : Array Slot), va_P D vwCl (wld 31 ad (cM ad k M_63)) H → va_S (AW 31 ad) s.heap H locs → lv_has ls 4 [(0, .ref (ad 0)), (1, .int a1), (2, .int a2), (3, .int t_55)] → W p l e rm_X7_set s m args below meth c H locs 0 0 Q (F0 m 151 ls [.int t_66, .ref (ad 0)]) := by
                  intro H locs ls hP hS hl
                  refine pX7_2 hx hb hG hown hK hP had AW_in hS gw_4_11 dX7_set_151 (fun H locs hP hS => ?_)
                  obtain ⟨M_67, eM_67⟩ : ∃ y : Mem, y = up2 M_63 0 2 t_66 := ⟨_, rfl⟩
                  rw [← eM_67] at hP
                  have he := bnd_at he eM_67
                  have hTM_67 : TI M M_67 := by rw [eM_67]; exact TI_f hTM_63 (by decide)
                  have qb_M_67 := hTM_67.1.1
                  have qs_M_67 := hTM_67.1.2.1
                  have qz_M_67 := hTM_67.1.2.2.1
                  refine lv_aload_n hx hb dX7_set_154 rfl (lv_at hl 0 rfl) ?_
                  refine lv_iload_n hx hb dX7_set_155 rfl (lv_at hl 1 rfl) ?_
                  refine lv_iconst (v := 3) hx hb dX7_set_156 (by decide) ?_
                  obtain ⟨t_70, hr_69, he⟩ := bnd_ex he
                  have j168 : ∀ (H : Heap) (locs : List Loc) (ls : Array Slot), va_P D vwCl (wld 31 ad (cM ad k M_67)) H → va_S (AW 31 ad) s.heap H locs → lv_has ls 4 [(0, .ref (ad 0)), (1, .int a1), (2, .int a2), (3, .int t_55)] → W p l e rm_X7_set s m args below meth c H locs 0 0 Q (F0 m 168 ls [.int t_70, .ref (ad 0)]) := by
                    intro H locs ls hP hS hl
                    refine pX7_3 hx hb hG hown hK hP had AW_in hS gw_4_12 dX7_set_168 (fun H locs hP hS => ?_)
                    obtain ⟨M_71, eM_71⟩ : ∃ y : Mem, y = up2 M_67 0 3 t_70 := ⟨_, rfl⟩
                    rw [← eM_71] at hP
                    have he := bnd_at he eM_71
                    have hTM_71 : TI M M_71 := by rw [eM_71]; exact TI_f hTM_67 (by decide)
                    have qb_M_71 := hTM_71.1.1
                    have qs_M_71 := hTM_71.1.2.1
                    have qz_M_71 := hTM_71.1.2.2.1
                    refine lv_aload_n hx hb dX7_set_171 rfl (lv_at hl 0 rfl) ?_
                    refine lv_iload_n hx hb dX7_set_172 rfl (lv_at hl 1 rfl) ?_
                    refine lv_iconst (v := 4) hx hb dX7_set_173 (by decide) ?_
                    obtain ⟨t_74, hr_73, he⟩ := bnd_ex he
                    have j185 : ∀ (H : Heap) (locs : List Loc) (ls : Array Slot), va_P D vwCl (wld 31 ad (cM ad k M_71)) H → va_S (AW 31 ad) s.heap H locs → lv_has ls 4 [(3, .int t_55)] → W p l e rm_X7_set s m args below meth c H locs 0 0 Q (F0 m 185 ls [.int t_74, .ref (ad 0)]) := by
                      intro H locs ls hP hS hl
                      refine pX7_4 hx hb hG hown hK hP had AW_in hS gw_7_1 dX7_set_185 (fun H locs hP hS => ?_)
                      obtain ⟨M_75, eM_75⟩ : ∃ y : Mem, y = up2 M_71 0 4 t_74 := ⟨_, rfl⟩
                      rw [← eM_75] at hP
                      have he := bnd_at he eM_75
                      have hTM_75 : TI M M_75 := by rw [eM_75]; exact TI_f hTM_71 (by decide)
                      have qb_M_75 := hTM_75.1.1
                      have qs_M_75 := hTM_75.1.2.1
                      have qz_M_75 := hTM_75.1.2.2.1
                      refine lv_iload_n hx hb dX7_set_188 rfl (lv_at hl 0 rfl) ?_
                      exact hret _ _ _ _ _ _ ⟨(hV.trans he.symm), hTM_75⟩ hP hS dX7_set_189
                    refine lv_icmp_ne (tgt := 181) hx hb dX7_set_174 (by decide) (fun hc_72 => ?_) (fun hc_72 => ?_)
                    · have hr_73 := ite_t hr_73 hc_72
                      refine lv_aload_n hx hb dX7_set_181 rfl (lv_at hl 0 rfl) ?_
                      refine gX7_4 hx hb hG hown hK hP gw_7_1 dX7_set_182 ?_
                      cases hr_73
                      exact j185 _ _ _ hP hS (lv_sub hl [3] rfl)
                    · have hr_73 := ite_f hr_73 (fun q => q hc_72)
                      refine lv_iload_n hx hb dX7_set_177 rfl (lv_at hl 2 rfl) ?_
                      refine lv_goto (tgt := 185) hx hb dX7_set_178 (by decide) ?_
                      cases hr_73
                      exact j185 _ _ _ hP hS (lv_sub hl [3] rfl)
                  refine lv_icmp_ne (tgt := 164) hx hb dX7_set_157 (by decide) (fun hc_68 => ?_) (fun hc_68 => ?_)
                  · have hr_69 := ite_t hr_69 hc_68
                    refine lv_aload_n hx hb dX7_set_164 rfl (lv_at hl 0 rfl) ?_
                    refine gX7_3 hx hb hG hown hK hP gw_4_12 dX7_set_165 ?_
                    cases hr_69
                    exact j168 _ _ _ hP hS (lv_sub hl [0, 1, 2, 3] rfl)
                  · have hr_69 := ite_f hr_69 (fun q => q hc_68)
                    refine lv_iload_n hx hb dX7_set_160 rfl (lv_at hl 2 rfl) ?_
                    refine lv_goto (tgt := 168) hx hb dX7_set_161 (by decide) ?_
                    cases hr_69
                    exact j168 _ _ _ hP hS (lv_sub hl [0, 1, 2, 3] rfl)
                refine lv_icmp_ne (tgt := 147) hx hb dX7_set_140 (by decide) (fun hc_64 => ?_) (fun hc_64 => ?_)
                · have hr_65 := ite_t hr_65 hc_64
                  refine lv_aload_n hx hb dX7_set_147 rfl (lv_at hl 0 rfl) ?_
                  refine gX7_2 hx hb hG hown hK hP gw_4_11 dX7_set_148 ?_
                  cases hr_65
                  exact j151 _ _ _ hP hS (lv_sub hl [0, 1, 2, 3] rfl)
                · have hr_65 := ite_f hr_65 (fun q => q hc_64)
                  refine lv_iload_n hx hb dX7_set_143 rfl (lv_at hl 2 rfl) ?_
                  refine lv_goto (tgt := 151) hx hb dX7_set_144 (by decide) ?_
                  cases hr_65
                  exact j151 _ _ _ hP hS (lv_sub hl [0, 1, 2, 3] rfl)
              refine lv_icmp_ne (tgt := 130) hx hb dX7_set_123 (by decide) (fun hc_60 => ?_) (fun hc_60 => ?_)
              · have hr_61 := ite_t hr_61 hc_60
                refine lv_aload_n hx hb dX7_set_130 rfl (lv_at hl 0 rfl) ?_
                refine gX7_1 hx hb hG hown hK hP gw_7_0 dX7_set_131 ?_
                cases hr_61
                exact j134 _ _ _ hP hS (lv_sub hl [0, 1, 2, 3] rfl)
              · have hr_61 := ite_f hr_61 (fun q => q hc_60)
                refine lv_iload_n hx hb dX7_set_126 rfl (lv_at hl 2 rfl) ?_
                refine lv_goto (tgt := 134) hx hb dX7_set_127 (by decide) ?_
                cases hr_61
                exact j134 _ _ _ hP hS (lv_sub hl [0, 1, 2, 3] rfl)
            refine lv_if_ne (tgt := 113) hx hb dX7_set_106 (by decide) (fun hc_56 => ?_) (fun hc_56 => ?_)
            · have hr_57 := ite_t hr_57 hc_56
              refine lv_aload_n hx hb dX7_set_113 rfl (lv_at hl 1 rfl) ?_
              refine gX7_0 hx hb hG hown hK hP gw_4_10 dX7_set_114 ?_
              cases hr_57
              exact j117 _ _ _ hP hS (lv_sub hl [1, 2, 3, 0] rfl)
            · have hr_57 := ite_f hr_57 (fun q => q hc_56)
              refine lv_iload_n hx hb dX7_set_109 rfl (lv_at hl 3 rfl) ?_
              refine lv_goto (tgt := 117) hx hb dX7_set_110 (by decide) ?_
              cases hr_57
              exact j117 _ _ _ hP hS (lv_sub hl [1, 2, 3, 0] rfl)
          refine lv_if_ne (tgt := 63) hx hb dX7_set_53 (by decide) (fun hc_50 => ?_) (fun hc_50 => ?_)
          · have hr_51 := ite_t hr_51 hc_50
            refine lv_iload_n hx hb dX7_set_63 rfl (lv_at hl 1 rfl) ?_
            refine lv_iconst (v := 1) hx hb dX7_set_64 (by decide) ?_
            refine lv_icmp_ne (tgt := 75) hx hb dX7_set_65 (by decide) (fun hc_52 => ?_) (fun hc_52 => ?_)
            · have hr_51 := ite_t hr_51 hc_52
              refine lv_iload_n hx hb dX7_set_75 rfl (lv_at hl 1 rfl) ?_
              refine lv_iconst (v := 2) hx hb dX7_set_76 (by decide) ?_
              refine lv_icmp_ne (tgt := 87) hx hb dX7_set_77 (by decide) (fun hc_53 => ?_) (fun hc_53 => ?_)
              · have hr_51 := ite_t hr_51 hc_53
                refine lv_iload_n hx hb dX7_set_87 rfl (lv_at hl 1 rfl) ?_
                refine lv_iconst (v := 3) hx hb dX7_set_88 (by decide) ?_
                refine lv_icmp_ne (tgt := 99) hx hb dX7_set_89 (by decide) (fun hc_54 => ?_) (fun hc_54 => ?_)
                · have hr_51 := ite_t hr_51 hc_54
                  refine lv_aload_n hx hb dX7_set_99 rfl (lv_at hl 0 rfl) ?_
                  refine gX7_4 hx hb hG hown hK hP gw_7_1 dX7_set_100 ?_
                  cases hr_51
                  exact j103 _ _ _ hP hS (lv_sub hl [0, 1, 2] rfl)
                · have hr_51 := ite_f hr_51 (fun q => q hc_54)
                  refine lv_aload_n hx hb dX7_set_92 rfl (lv_at hl 0 rfl) ?_
                  refine gX7_3 hx hb hG hown hK hP gw_4_12 dX7_set_93 ?_
                  refine lv_goto (tgt := 103) hx hb dX7_set_96 (by decide) ?_
                  cases hr_51
                  exact j103 _ _ _ hP hS (lv_sub hl [0, 1, 2] rfl)
              · have hr_51 := ite_f hr_51 (fun q => q hc_53)
                refine lv_aload_n hx hb dX7_set_80 rfl (lv_at hl 0 rfl) ?_
                refine gX7_2 hx hb hG hown hK hP gw_4_11 dX7_set_81 ?_
                refine lv_goto (tgt := 103) hx hb dX7_set_84 (by decide) ?_
                cases hr_51
                exact j103 _ _ _ hP hS (lv_sub hl [0, 1, 2] rfl)
            · have hr_51 := ite_f hr_51 (fun q => q hc_52)
              refine lv_aload_n hx hb dX7_set_68 rfl (lv_at hl 0 rfl) ?_
              refine gX7_1 hx hb hG hown hK hP gw_7_0 dX7_set_69 ?_
              refine lv_goto (tgt := 103) hx hb dX7_set_72 (by decide) ?_
              cases hr_51
              exact j103 _ _ _ hP hS (lv_sub hl [0, 1, 2] rfl)
          · have hr_51 := ite_f hr_51 (fun q => q hc_50)
            refine lv_aload_n hx hb dX7_set_56 rfl (lv_at hl 0 rfl) ?_
            refine gX7_0 hx hb hG hown hK hP gw_4_10 dX7_set_57 ?_
            refine lv_goto (tgt := 103) hx hb dX7_set_60 (by decide) ?_
            cases hr_51
            exact j103 _ _ _ hP hS (lv_sub hl [0, 1, 2] rfl)
        · have he := ite_f he hc_49
          refine lv_bipush (v := (-3)) hx hb dX7_set_49 (by decide) ?_
          exact hret _ _ _ _ _ _ ⟨(hV.trans he.symm), hTM_1⟩ hP hS dX7_set_51
    · have he := ite_f he (fun q => q hc_17)
      refine lv_iconst (v := (-1)) hx hb dX7_set_35 (by decide) ?_
      exact hret _ _ _ _ _ _ ⟨(hV.trans he.symm), hTM_1⟩ hP hS dX7_set_36
def rm_X7_readText : Room := { frames := 0, cells := 0, slots := 0, locals := 0 }
theorem gm_X7_readText : Cond.instanceMethod yX7_readText ∈ wsL_law ∧ Cond.selects RX7 yX7_readText yX7_readText ∈ wsL_law ∧ Cond.initialized RX7 ∈ wsL_law ∧ Cond.code yX7_readText cX7_readText 3 none ∈ wsL_law := ⟨gw_9_13, gw_9_14, gw_1_5, gw_9_15⟩
theorem gd_X7_readText : yX7_readText.cls = RX7 ∧ yX7_readText.cls ≠ "java/lang/invoke/MethodHandle" ∧ yX7_readText.cls ≠ "java/lang/invoke/VarHandle" ∧ (parseMethodDescriptor yX7_readText.desc).map (fun d => d.parameters.length) = some 1 := by decide +kernel
set_option maxRecDepth 100000 in
set_option maxHeartbeats 0 in
theorem c_X7_readText {l : Launch} {D : va_G} {k : Nat → ClassId} {ad : Nat → Nat} (had : InjN 31 ad) (M : Mem) (a1 : Int32) (hI : MI M) (hd : 0 ≤ a1.toInt ∧ a1.toInt < 8) : Met l yX7_readText (Cond.code yX7_readText cX7_readText 3 none :: wsL_law) rm_X7_readText (va_Pc [.ref (ad 0), .int a1] (GW 31 ad D k (cM ad k M))) (va_Qv (fun u => (f_X7_readText M a1 = u ∧ TI M u)) (fun u t => GW 31 ad D k (cM ad k u) t) (AW 31 ad)) 0 0 (AW 31 ad) := by
  refine met_v (g := cM ad k) (M := M) (plainFor_of_name (by decide)) (Nat.le_of_ble_eq_true rfl) ?_
  intro p e s m args below meth c Q ls hx hb hml hG hown hK hret hP hS hl
  have hl : lv_has ls 3 [(0, .ref (ad 0)), (1, .int a1)] := hl
  obtain ⟨V, hV⟩ : ∃ V, f_X7_readText M a1 = V := ⟨_, rfl⟩
  have he := hV
  unfold f_X7_readText at he
  have hT0 : TI M M := TI_rf hI
  have qb_M := hI.1
  have qs_M := hI.2.1
  have qz_M := hI.2.2.1
  refine lv_aload_n hx hb dX7_readText_0 rfl (lv_at hl 0 rfl) ?_
  refine lv_aload_n hx hb dX7_readText_1 rfl (lv_at hl 0 rfl) ?_
  refine gX7_47 hx hb hG hown hK hP gw_5_16 dX7_readText_2 ?_
  refine lv_iload_n hx hb dX7_readText_5 rfl (lv_at hl 1 rfl) ?_
  refine al_M28 hx hb hK hP (vin_I (by omega) (by omega)) dX7_readText_6 ?_
  have qr_1 := hT0.1.2.2.2.1 _ (vin_lt (x := a1) (n := 8) (vin_I (by omega) (by omega)))
  refine pX7_21 hx hb hG hown hK hP had AW_in hS gw_9_16 dX7_readText_7 (fun H locs hP hS => ?_)
  obtain ⟨M_2, eM_2⟩ : ∃ y : Mem, y = up2 M 0 21 (M 28 a1.toNatClampNeg) := ⟨_, rfl⟩
  rw [← eM_2] at hP
  have he := bnd_at he eM_2
  have hTM_2 : TI M M_2 := by rw [eM_2]; exact TI_size hT0 (by have ll28 : (28 : Int32).toInt = 28 := rfl; omega)
  have qb_M_2 := hTM_2.1.1
  have qs_M_2 := hTM_2.1.2.1
  have qz_M_2 := hTM_2.1.2.2.1
  refine lv_iconst (v := 0) hx hb dX7_readText_10 (by decide) ?_
  refine lv_istore_n (lv' := [(2, .int 0), (0, .ref (ad 0)), (1, .int a1)]) hx hb dX7_readText_11 rfl hl (by decide) rfl (fun ls hl => ?_)
  obtain ⟨M_15, hr_11, he⟩ := bnd_ex he
  have j48 : ∀ (H : Heap) (locs : List Loc) (ls : Array Slot), TI M M_15 → va_P D vwCl (wld 31 ad (cM ad k M_15)) H → va_S (AW 31 ad) s.heap H locs → lv_has ls 3 [] → W p l e rm_X7_readText s m args below meth c H locs 0 0 Q (F0 m 48 ls []) := by
    intro H locs ls hTM_15 hP hS hl
    have qb_M_15 := hTM_15.1.1
    have qs_M_15 := hTM_15.1.2.1
    have qz_M_15 := hTM_15.1.2.2.1
    exact hret _ _ _ _ _ ⟨(hV.trans he.symm), hTM_15⟩ hP hS dX7_readText_48
  have lp12 : ∀ (nn : Nat) (H : Heap) (locs : List Loc) (ls : Array Slot) (M_10 : Mem) (v_9 : Int32), (0 ≤ v_9.toInt) → (TI M M_10) → (100 - v_9.toInt).toNat < nn → lp_X7_readText_12 nn a1 M_10 v_9 = M_15 → va_P D vwCl (wld 31 ad (cM ad k M_10)) H → va_S (AW 31 ad) s.heap H locs → lv_has ls 3 [(0, .ref (ad 0)), (1, .int a1), (2, .int v_9)] → W p l e rm_X7_readText s m args below meth c H locs 0 0 Q (F0 m 12 ls []) := by
    intro nn
    induction nn with
    | zero =>
      intro H locs ls M_10 v_9 h0v_9 hTM_10 hμ
      exact absurd hμ (Nat.not_lt_zero _)
    | succ nn ih =>
      intro H locs ls M_10 v_9 h0v_9 hTM_10 hμ hr_11 hP hS hl
      rw [lp_X7_readText_12] at hr_11
      have qb_M_10 := hTM_10.1.1
      have qs_M_10 := hTM_10.1.2.1
      have qz_M_10 := hTM_10.1.2.2.1
      refine lv_iload_n hx hb dX7_readText_12 rfl (lv_at hl 2 rfl) ?_
      refine lv_aload_n hx hb dX7_readText_13 rfl (lv_at hl 0 rfl) ?_
      refine gX7_21 hx hb hG hown hK hP gw_9_16 dX7_readText_14 ?_
      refine lv_icmp_ge (tgt := 48) hx hb dX7_readText_17 (by decide) (fun hc_12 => ?_) (fun hc_12 => ?_)
      · have hr_11 := ite_t hr_11 hc_12
        cases hr_11
        exact j48 _ _ _ hTM_10 hP hS (lv_sub hl [] rfl)
      · have hr_11 := ite_f hr_11 hc_12
        refine lv_aload_n hx hb dX7_readText_20 rfl (lv_at hl 0 rfl) ?_
        refine gX7_20 hx hb hG hown hK hP gw_5_0 dX7_readText_21 ?_
        refine lv_iload_n hx hb dX7_readText_24 rfl (lv_at hl 2 rfl) ?_
        refine lv_aload_n hx hb dX7_readText_25 rfl (lv_at hl 0 rfl) ?_
        refine gX7_48 hx hb hG hown hK hP gw_5_17 dX7_readText_26 ?_
        refine lv_bipush (v := 100) hx hb dX7_readText_29 (by decide) ?_
        refine lv_iload_n hx hb dX7_readText_31 rfl (lv_at hl 1 rfl) ?_
        refine lv_imul hx hb dX7_readText_32 ?_
        refine lv_iload_n hx hb dX7_readText_33 rfl (lv_at hl 2 rfl) ?_
        refine lv_iadd hx hb dX7_readText_34 ?_
        refine al_M29 hx hb hK hP (vin_row (by omega) (by have q0 : v_9.toInt < (M_10 0 21).toInt := nle_I hc_12; omega)) dX7_readText_35 ?_
        refine lv_l2i (v := ((M_10 29 ((100 * a1) + v_9).toNatClampNeg).toInt64).toInt32) hx hb dX7_readText_36 rfl ?_
        refine lv_sipush (v := 255) hx hb dX7_readText_37 (by decide) ?_
        refine lv_iand hx hb dX7_readText_40 ?_
        refine as_M12 hx hb hK hP had AW_in hS (vin_I (by have q0 : v_9.toInt < (M_10 0 21).toInt := nle_I hc_12; omega) (by have q0 : v_9.toInt < (M_10 0 21).toInt := nle_I hc_12; omega)) dX7_readText_41 (fun H locs hP hS => ?_)
        obtain ⟨M_13, eM_13⟩ : ∃ y : Mem, y = up2 M_10 12 v_9.toNatClampNeg ((((M_10 29 ((100 * a1) + v_9).toNatClampNeg).toInt64).toInt32) &&& 255) := ⟨_, rfl⟩
        rw [← eM_13] at hP
        have hr_11 := bnd_at hr_11 eM_13
        have hTM_13 : TI M M_13 := by rw [eM_13]; exact TI_a hTM_10 (by decide)
        have qb_M_13 := hTM_13.1.1
        have qs_M_13 := hTM_13.1.2.1
        have qz_M_13 := hTM_13.1.2.2.1
        obtain ⟨y_14, ey_14⟩ : ∃ y_14 : Int32, y_14 = v_9 + 1 := ⟨_, rfl⟩
        have hr_11 := bnd_at hr_11 ey_14
        refine lv_iinc (v := y_14) (lv' := [(2, .int y_14), (0, .ref (ad 0)), (1, .int a1)]) hx hb dX7_readText_42 hl (k := 2) rfl (by rw [ey_14]; rfl) (by decide) rfl (fun ls hl => ?_)
        refine lv_goto (tgt := 12) hx hb dX7_readText_45 (by decide) ?_
        exact ih _ _ _ _ _ (by rw [ey_14, inc_I (N := 100) (bnd_lt (nle_I hc_12) (by omega)) (by decide)]; omega) hTM_13 (by rw [ey_14]; exact mu_I hμ (bnd_lt (nle_I hc_12) (by omega)) (by decide)) hr_11 hP hS (lv_sub hl [1, 2, 0] rfl)
  exact lp12 _ _ _ _ _ _ (by decide) hTM_2 (by decide) hr_11 hP hS (lv_sub hl [1, 2, 0] rfl)
