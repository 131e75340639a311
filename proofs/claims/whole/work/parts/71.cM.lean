-- @needs 12_dec 13_dec 14_dec 15_dec 34_hM 60_cM 63_cM 66_cM 67_cM 69_cM 70_cM
def rm_X7_secondsBy : Room := { frames := 5, cells := 0, slots := 0, locals := 108 }
theorem gm_X7_secondsBy : Cond.instanceMethod yX7_secondsBy ∈ wsL_law ∧ Cond.selects RX7 yX7_secondsBy yX7_secondsBy ∈ wsL_law ∧ Cond.initialized RX7 ∈ wsL_law ∧ Cond.code yX7_secondsBy cX7_secondsBy 4 (some .int) ∈ wsL_law := ⟨gw_30_23, gw_31_0, gw_1_5, gw_31_1⟩
theorem gd_X7_secondsBy : yX7_secondsBy.cls = RX7 ∧ yX7_secondsBy.cls ≠ "java/lang/invoke/MethodHandle" ∧ yX7_secondsBy.cls ≠ "java/lang/invoke/VarHandle" ∧ (parseMethodDescriptor yX7_secondsBy.desc).map (fun d => d.parameters.length) = some 3 := by decide +kernel
set_option maxRecDepth 100000 in
set_option maxHeartbeats 0 in
theorem c_X7_secondsBy {l : Launch} {D : va_G} {k : Nat → ClassId} {ad : Nat → Nat} (had : InjN 31 ad) (M : Mem) (a1 : Int32) (a2 : Int32) (ha2 : a2 = 0 ∨ a2 = 1) (a3 : Int32) (hI : MI M) : Met l yX7_secondsBy (Cond.code yX7_secondsBy cX7_secondsBy 4 (some .int) :: wsL_law) rm_X7_secondsBy (va_Pc [.ref (ad 0), .int a1, .int a2, .int a3] (GW 31 ad D k (cM ad k M))) (va_Qi (fun r u => (f_X7_secondsBy M a1 a2 a3 = (r, u) ∧ TI M u)) (fun u t => GW 31 ad D k (cM ad k u) t) (AW 31 ad)) 0 0 (AW 31 ad) := by
  refine met_i (g := cM ad k) (M := M) (plainFor_of_name (by decide)) (Nat.le_of_ble_eq_true rfl) ?_
  intro p e s m args below meth c Q ls hx hb hml hG hown hK hret hP hS hl
  have hl : lv_has ls 4 [(0, .ref (ad 0)), (1, .int a1), (2, .int a2), (3, .int a3)] := hl
  obtain ⟨V, hV⟩ : ∃ V, f_X7_secondsBy M a1 a2 a3 = V := ⟨_, rfl⟩
  have he := hV
  unfold f_X7_secondsBy at he
  have hT0 : TI M M := TI_rf hI
  have qb_M := hI.1
  have qs_M := hI.2.1
  have qz_M := hI.2.2.1
  refine lv_aload_n hx hb dX7_secondsBy_0 rfl (lv_at hl 0 rfl) ?_
  refine lv_iconst (v := 1) hx hb dX7_secondsBy_1 (by decide) ?_
  refine pX7_8 hx hb hG hown hK hP had AW_in hS gw_7_13 dX7_secondsBy_2 (fun H locs hP hS => ?_)
  obtain ⟨M_1, eM_1⟩ : ∃ y : Mem, y = up2 M 0 8 1 := ⟨_, rfl⟩
  rw [← eM_1] at hP
  have he := bnd_at he eM_1
  have hTM_1 : TI M M_1 := by rw [eM_1]; exact TI_boats hT0 (by decide)
  have qb_M_1 := hTM_1.1.1
  have qs_M_1 := hTM_1.1.2.1
  have qz_M_1 := hTM_1.1.2.2.1
  refine lv_aload_n hx hb dX7_secondsBy_5 rfl (lv_at hl 0 rfl) ?_
  refine lv_iconst (v := 0) hx hb dX7_secondsBy_6 (by decide) ?_
  refine pX7_7 hx hb hG hown hK hP had AW_in hS gw_15_22 dX7_secondsBy_7 (fun H locs hP hS => ?_)
  obtain ⟨M_2, eM_2⟩ : ∃ y : Mem, y = up2 M_1 0 7 0 := ⟨_, rfl⟩
  rw [← eM_2] at hP
  have he := bnd_at he eM_2
  have hTM_2 : TI M M_2 := by rw [eM_2]; exact TI_second hTM_1 (by decide)
  have qb_M_2 := hTM_2.1.1
  have qs_M_2 := hTM_2.1.2.1
  have qz_M_2 := hTM_2.1.2.2.1
  refine lv_aload_n hx hb dX7_secondsBy_10 rfl (lv_at hl 0 rfl) ?_
  refine lv_bipush (v := 8) hx hb dX7_secondsBy_11 (by decide) ?_
  refine pX7_40 hx hb hG hown hK hP had AW_in hS gw_31_2 dX7_secondsBy_13 (fun H locs hP hS => ?_)
  obtain ⟨M_3, eM_3⟩ : ∃ y : Mem, y = up2 M_2 0 40 8 := ⟨_, rfl⟩
  rw [← eM_3] at hP
  have he := bnd_at he eM_3
  have hTM_3 : TI M M_3 := by rw [eM_3]; exact TI_f hTM_2 (by decide)
  have qb_M_3 := hTM_3.1.1
  have qs_M_3 := hTM_3.1.2.1
  have qz_M_3 := hTM_3.1.2.2.1
  refine lv_aload_n hx hb dX7_secondsBy_16 rfl (lv_at hl 0 rfl) ?_
  refine lv_iconst (v := 0) hx hb dX7_secondsBy_17 (by decide) ?_
  refine lv_iload_n hx hb dX7_secondsBy_18 rfl (lv_at hl 1 rfl) ?_
  refine lv_iload_n hx hb dX7_secondsBy_19 rfl (lv_at hl 2 rfl) ?_
  refine lv_iload_n hx hb dX7_secondsBy_20 rfl (lv_at hl 3 rfl) ?_
  refine call_v [.int 0, .int a1, .int a2, .int a3] [] hx hb hml hG hown hK (c_X7_lay had M_3 0 a1 a2 ha2 a3 hTM_3.1 (by omega)) gw_31_3 gm_X7_lay gd_X7_lay rfl rfl ⟨Nat.le_of_ble_eq_true rfl, Nat.le_of_ble_eq_true rfl⟩ ⟨Nat.le_refl _, Nat.le_refl _⟩ (rX7 hK hP) hP (fun _ h => h) hS rfl hl.1 rfl (Nat.le_of_ble_eq_true rfl) dX7_secondsBy_21 (fun M_6 H locs hF_5 hP hS => ?_)
  obtain ⟨hF_5, hti_7⟩ := hF_5
  have he := bnd_at he hF_5.symm
  have hTM_6 : TI M M_6 := TI_tr hTM_3 hti_7
  have qb_M_6 := hTM_6.1.1
  have qs_M_6 := hTM_6.1.2.1
  have qz_M_6 := hTM_6.1.2.2.1
  obtain ⟨M_19, hr_9, he⟩ := bnd_ex he
  have j38 : ∀ (H : Heap) (locs : List Loc) (ls : Array Slot), TI M M_19 → va_P D vwCl (wld 31 ad (cM ad k M_19)) H → va_S (AW 31 ad) s.heap H locs → lv_has ls 4 [(0, .ref (ad 0))] → W p l e rm_X7_secondsBy s m args below meth c H locs 0 0 Q (F0 m 38 ls []) := by
    intro H locs ls hTM_19 hP hS hl
    have qb_M_19 := hTM_19.1.1
    have qs_M_19 := hTM_19.1.2.1
    have qz_M_19 := hTM_19.1.2.2.1
    refine lv_aload_n hx hb dX7_secondsBy_38 rfl (lv_at hl 0 rfl) ?_
    refine lv_iconst (v := 0) hx hb dX7_secondsBy_39 (by decide) ?_
    refine call_i [.int 0] [] hx hb hml hG hown hK (c_X7_isIn had M_19 0 hTM_19.1 (by omega)) gw_18_10 gm_X7_isIn gd_X7_isIn rfl rfl ⟨Nat.le_of_ble_eq_true rfl, Nat.le_of_ble_eq_true rfl⟩ ⟨Nat.le_refl _, Nat.le_refl _⟩ (rX7 hK hP) hP (fun _ h => h) hS rfl hl.1 rfl (Nat.le_of_ble_eq_true rfl) dX7_secondsBy_40 (fun r_20 u_22 H locs hF_21 hP hS => ?_)
    obtain ⟨hz_23, hF_21, hu⟩ := hF_21; rw [hu] at hP; subst hF_21
    obtain ⟨t_26, hr_25, he⟩ := bnd_ex he
    have j58 : ∀ (H : Heap) (locs : List Loc) (ls : Array Slot), va_P D vwCl (wld 31 ad (cM ad k M_19)) H → va_S (AW 31 ad) s.heap H locs → lv_has ls 4 [] → W p l e rm_X7_secondsBy s m args below meth c H locs 0 0 Q (F0 m 58 ls [.int t_26]) := by
      intro H locs ls hP hS hl
      exact hret _ _ _ _ _ _ ⟨(hV.trans he.symm), hTM_19⟩ hP hS dX7_secondsBy_58
    refine lv_if_eq (tgt := 55) hx hb dX7_secondsBy_43 (by decide) (fun hc_24 => ?_) (fun hc_24 => ?_)
    · have hr_25 := ite_t hr_25 hc_24
      refine lv_sipush (v := 400) hx hb dX7_secondsBy_55 (by decide) ?_
      cases hr_25
      exact j58 _ _ _ hP hS (lv_sub hl [] rfl)
    · have hr_25 := ite_f hr_25 hc_24
      refine lv_aload_n hx hb dX7_secondsBy_46 rfl (lv_at hl 0 rfl) ?_
      refine gX7_17 hx hb hG hown hK hP gw_4_20 dX7_secondsBy_47 ?_
      refine lv_iconst (v := 0) hx hb dX7_secondsBy_50 (by decide) ?_
      refine al_M10 hx hb hK hP (vin_I (by decide) (by decide)) dX7_secondsBy_51 ?_
      refine lv_goto (tgt := 58) hx hb dX7_secondsBy_52 (by decide) ?_
      cases hr_25
      exact j58 _ _ _ hP hS (lv_sub hl [] rfl)
  have lp24 : ∀ (nn : Nat) (H : Heap) (locs : List Loc) (ls : Array Slot) (M_8 : Mem), (TI M M_8) → (400 - (M_8 0 7).toInt).toNat < nn → lp_X7_secondsBy_24 nn M_8 = M_19 → va_P D vwCl (wld 31 ad (cM ad k M_8)) H → va_S (AW 31 ad) s.heap H locs → lv_has ls 4 [(0, .ref (ad 0))] → W p l e rm_X7_secondsBy s m args below meth c H locs 0 0 Q (F0 m 24 ls []) := by
    intro nn
    induction nn with
    | zero =>
      intro H locs ls M_8 hTM_8 hμ
      exact absurd hμ (Nat.not_lt_zero _)
    | succ nn ih =>
      intro H locs ls M_8 hTM_8 hμ hr_9 hP hS hl
      rw [lp_X7_secondsBy_24] at hr_9
      have qb_M_8 := hTM_8.1.1
      have qs_M_8 := hTM_8.1.2.1
      have qz_M_8 := hTM_8.1.2.2.1
      refine lv_aload_n hx hb dX7_secondsBy_24 rfl (lv_at hl 0 rfl) ?_
      refine call_i [] [] hx hb hml hG hown hK (c_X7_isEnded had M_8 hTM_8.1) gw_22_15 gm_X7_isEnded gd_X7_isEnded rfl rfl ⟨Nat.le_of_ble_eq_true rfl, Nat.le_of_ble_eq_true rfl⟩ ⟨Nat.le_refl _, Nat.le_refl _⟩ (rX7 hK hP) hP (fun _ h => h) hS rfl hl.1 rfl (Nat.le_of_ble_eq_true rfl) dX7_secondsBy_25 (fun r_10 u_12 H locs hF_11 hP hS => ?_)
      obtain ⟨hz_13, hF_11, hu⟩ := hF_11; rw [hu] at hP; subst hF_11
      refine lv_if_ne (tgt := 38) hx hb dX7_secondsBy_28 (by decide) (fun hc_14 => ?_) (fun hc_14 => ?_)
      · have hr_9 := ite_t hr_9 hc_14
        cases hr_9
        exact j38 _ _ _ hTM_8 hP hS (lv_sub hl [0] rfl)
      · have hr_9 := ite_f hr_9 (fun q => q hc_14)
        refine lv_aload_n hx hb dX7_secondsBy_31 rfl (lv_at hl 0 rfl) ?_
        refine call_v [] [] hx hb hml hG hown hK (c_X7_bitsOn had M_8 hTM_8.1 (by have q0 : (f_X7_isEnded M_8).toInt = 0 := congrArg Int32.toInt hc_14; have r1 : (M_8 0 7).toInt < 400 := isEnded_lt hc_14; omega)) gw_31_7 gm_X7_bitsOn gd_X7_bitsOn rfl rfl ⟨Nat.le_of_ble_eq_true rfl, Nat.le_of_ble_eq_true rfl⟩ ⟨Nat.le_refl _, Nat.le_refl _⟩ (rX7 hK hP) hP (fun _ h => h) hS rfl hl.1 rfl (Nat.le_of_ble_eq_true rfl) dX7_secondsBy_32 (fun M_17 H locs hF_16 hP hS => ?_)
        obtain ⟨hF_16, hti_18⟩ := hF_16
        have hr_9 := bnd_at hr_9 hF_16.symm
        have hTM_17 : TI M M_17 := TI_tr hTM_8 hti_18
        have qb_M_17 := hTM_17.1.1
        have qs_M_17 := hTM_17.1.2.1
        have qz_M_17 := hTM_17.1.2.2.1
        refine lv_goto (tgt := 24) hx hb dX7_secondsBy_35 (by decide) ?_
        exact ih _ _ _ _ hTM_17 (by have qe := isEnded_lt hc_14; have qn := bitsOn_sec hF_16; rw [qn, inc_I (N := 400) qe (by decide)]; omega) hr_9 hP hS (lv_sub hl [0] rfl)
  exact lp24 _ _ _ _ _ hTM_6 (by omega) hr_9 hP hS (lv_sub hl [0] rfl)
def rm_X7_tacks : Room := { frames := 6, cells := 0, slots := 0, locals := 131 }
theorem gm_X7_tacks : Cond.instanceMethod yX7_tacks ∈ wsL_law ∧ Cond.selects RX7 yX7_tacks yX7_tacks ∈ wsL_law ∧ Cond.initialized RX7 ∈ wsL_law ∧ Cond.code yX7_tacks cX7_tacks 5 (some .int) ∈ wsL_law := ⟨gw_30_18, gw_30_19, gw_1_5, gw_30_20⟩
theorem gd_X7_tacks : yX7_tacks.cls = RX7 ∧ yX7_tacks.cls ≠ "java/lang/invoke/MethodHandle" ∧ yX7_tacks.cls ≠ "java/lang/invoke/VarHandle" ∧ (parseMethodDescriptor yX7_tacks.desc).map (fun d => d.parameters.length) = some 3 := by decide +kernel
set_option maxRecDepth 100000 in
set_option maxHeartbeats 0 in
theorem c_X7_tacks {l : Launch} {D : va_G} {k : Nat → ClassId} {ad : Nat → Nat} (had : InjN 31 ad) (M : Mem) (a1 : Int32) (a2 : Int32) (ha2 : a2 = 0 ∨ a2 = 1) (a3 : Int32) (hI : MI M) : Met l yX7_tacks (Cond.code yX7_tacks cX7_tacks 5 (some .int) :: wsL_law) rm_X7_tacks (va_Pc [.ref (ad 0), .int a1, .int a2, .int a3] (GW 31 ad D k (cM ad k M))) (va_Qi (fun r u => (f_X7_tacks M a1 a2 a3 = (r, u) ∧ TI M u)) (fun u t => GW 31 ad D k (cM ad k u) t) (AW 31 ad)) 0 0 (AW 31 ad) := by
  refine met_i (g := cM ad k) (M := M) (plainFor_of_name (by decide)) (Nat.le_of_ble_eq_true rfl) ?_
  intro p e s m args below meth c Q ls hx hb hml hG hown hK hret hP hS hl
  have hl : lv_has ls 5 [(0, .ref (ad 0)), (1, .int a1), (2, .int a2), (3, .int a3)] := hl
  obtain ⟨V, hV⟩ : ∃ V, f_X7_tacks M a1 a2 a3 = V := ⟨_, rfl⟩
  have he := hV
  unfold f_X7_tacks at he
  have hT0 : TI M M := TI_rf hI
  have qb_M := hI.1
  have qs_M := hI.2.1
  have qz_M := hI.2.2.1
  refine lv_aload_n hx hb dX7_tacks_0 rfl (lv_at hl 0 rfl) ?_
  refine lv_iconst (v := 0) hx hb dX7_tacks_1 (by decide) ?_
  refine pX7_19 hx hb hG hown hK hP had AW_in hS gw_5_17 dX7_tacks_2 (fun H locs hP hS => ?_)
  obtain ⟨M_1, eM_1⟩ : ∃ y : Mem, y = up2 M 0 19 0 := ⟨_, rfl⟩
  rw [← eM_1] at hP
  have he := bnd_at he eM_1
  have hTM_1 : TI M M_1 := by rw [eM_1]; exact TI_f hT0 (by decide)
  have qb_M_1 := hTM_1.1.1
  have qs_M_1 := hTM_1.1.2.1
  have qz_M_1 := hTM_1.1.2.2.1
  refine lv_iload_n hx hb dX7_tacks_5 rfl (lv_at hl 1 rfl) ?_
  refine callS_i [.int a1] [] hx hb hml hG hown hK (c_X7_isPlace had (M := M_1)  a1) gw_15_23 gm_X7_isPlace gd_X7_isPlace rfl rfl ⟨Nat.le_of_ble_eq_true rfl, Nat.le_of_ble_eq_true rfl⟩ ⟨Nat.le_refl _, Nat.le_refl _⟩ hP (fun _ h => h) hS rfl hl.1 rfl (Nat.le_of_ble_eq_true rfl) dX7_tacks_6 (fun r_2 u_4 H locs hF_3 hP hS => ?_)
  obtain ⟨hz_5, hF_3, hu⟩ := hF_3; rw [hu] at hP; subst hF_3
  refine lv_if_eq (tgt := 24) hx hb dX7_tacks_9 (by decide) (fun hc_6 => ?_) (fun hc_6 => ?_)
  · have he := ite_t he hc_6
    refine lv_iconst (v := (-1)) hx hb dX7_tacks_24 (by decide) ?_
    exact hret _ _ _ _ _ _ ⟨(hV.trans he.symm), hTM_1⟩ hP hS dX7_tacks_25
  · have he := ite_f he hc_6
    refine lv_iload_n hx hb dX7_tacks_12 rfl (lv_at hl 3 rfl) ?_
    refine lv_i2l (v := a3.toInt64) hx hb dX7_tacks_13 rfl ?_
    refine lv_lconst (v := 0) hx hb dX7_tacks_14 (by decide) ?_
    refine lv_ldc2 (v := 255) hx hb hown (hG _ gw_30_21) dX7_tacks_15 ?_
    refine callS_i [.long a3.toInt64, .long 0, .long 255] [] hx hb hml hG hown hK (c_X7_in had (M := M_1)  a3.toInt64 0 255) gw_7_0 gm_X7_in gd_X7_in rfl rfl ⟨Nat.le_of_ble_eq_true rfl, Nat.le_of_ble_eq_true rfl⟩ ⟨Nat.le_refl _, Nat.le_refl _⟩ hP (fun _ h => h) hS rfl hl.1 rfl (Nat.le_of_ble_eq_true rfl) dX7_tacks_18 (fun r_7 u_9 H locs hF_8 hP hS => ?_)
    obtain ⟨hz_10, hF_8, hu⟩ := hF_8; rw [hu] at hP; subst hF_8
    refine lv_if_ne (tgt := 26) hx hb dX7_tacks_21 (by decide) (fun hc_11 => ?_) (fun hc_11 => ?_)
    · have he := ite_t he hc_11
      refine lv_aload_n hx hb dX7_tacks_26 rfl (lv_at hl 0 rfl) ?_
      refine call_v [] [] hx hb hml hG hown hK (c_X7_open had M_1 hTM_1.1) gw_29_2 gm_X7_open gd_X7_open rfl rfl ⟨Nat.le_of_ble_eq_true rfl, Nat.le_of_ble_eq_true rfl⟩ ⟨Nat.le_refl _, Nat.le_refl _⟩ (rX7 hK hP) hP (fun _ h => h) hS rfl hl.1 rfl (Nat.le_of_ble_eq_true rfl) dX7_tacks_27 (fun M_14 H locs hF_13 hP hS => ?_)
      obtain ⟨hF_13, hti_15⟩ := hF_13
      have he := bnd_at he hF_13.symm
      have hTM_14 : TI M M_14 := TI_tr hTM_1 hti_15
      have qb_M_14 := hTM_14.1.1
      have qs_M_14 := hTM_14.1.2.1
      have qz_M_14 := hTM_14.1.2.2.1
      refine lv_aload_n hx hb dX7_tacks_30 rfl (lv_at hl 0 rfl) ?_
      refine call_v [] [] hx hb hml hG hown hK (c_X7_layWinds had M_14 hTM_14.1) gw_22_19 gm_X7_layWinds gd_X7_layWinds rfl rfl ⟨Nat.le_of_ble_eq_true rfl, Nat.le_of_ble_eq_true rfl⟩ ⟨Nat.le_refl _, Nat.le_refl _⟩ (rX7 hK hP) hP (fun _ h => h) hS rfl hl.1 rfl (Nat.le_of_ble_eq_true rfl) dX7_tacks_31 (fun M_18 H locs hF_17 hP hS => ?_)
      obtain ⟨hF_17, hti_19⟩ := hF_17
      have he := bnd_at he hF_17.symm
      have hTM_18 : TI M M_18 := TI_tr hTM_14 hti_19
      have qb_M_18 := hTM_18.1.1
      have qs_M_18 := hTM_18.1.2.1
      have qz_M_18 := hTM_18.1.2.2.1
      refine lv_aload_n hx hb dX7_tacks_34 rfl (lv_at hl 0 rfl) ?_
      refine lv_iload_n hx hb dX7_tacks_35 rfl (lv_at hl 1 rfl) ?_
      refine lv_iload_n hx hb dX7_tacks_36 rfl (lv_at hl 2 rfl) ?_
      refine lv_iload_n hx hb dX7_tacks_37 rfl (lv_at hl 3 rfl) ?_
      refine call_i [.int a1, .int a2, .int a3] [] hx hb hml hG hown hK (c_X7_secondsBy had M_18 a1 a2 ha2 a3 hTM_18.1) gw_30_22 gm_X7_secondsBy gd_X7_secondsBy rfl rfl ⟨Nat.le_of_ble_eq_true rfl, Nat.le_of_ble_eq_true rfl⟩ ⟨Nat.le_refl _, Nat.le_refl _⟩ (rX7 hK hP) hP (fun _ h => h) hS rfl hl.1 rfl (Nat.le_of_ble_eq_true rfl) dX7_tacks_38 (fun r_20 M_22 H locs hF_21 hP hS => ?_)
      obtain ⟨hF_21, hti_23⟩ := hF_21
      have he := bnd2_at he hF_21
      have hTM_22 : TI M M_22 := TI_tr hTM_18 hti_23
      have qb_M_22 := hTM_22.1.1
      have qs_M_22 := hTM_22.1.2.1
      have qz_M_22 := hTM_22.1.2.2.1
      refine lv_istore (lv' := [(4, .int r_20), (0, .ref (ad 0)), (1, .int a1), (2, .int a2), (3, .int a3)]) hx hb dX7_tacks_41 hl (by decide) rfl (fun ls hl => ?_)
      refine lv_aload_n hx hb dX7_tacks_43 rfl (lv_at hl 1 rfl) ?_
      refine call_v [] [] hx hb hml hG hown hK (c_X7_close had M_22 hTM_22.1) gw_30_1 gm_X7_close gd_X7_close rfl rfl ⟨Nat.le_of_ble_eq_true rfl, Nat.le_of_ble_eq_true rfl⟩ ⟨Nat.le_refl _, Nat.le_refl _⟩ (rX7 hK hP) hP (fun _ h => h) hS rfl hl.1 rfl (Nat.le_of_ble_eq_true rfl) dX7_tacks_44 (fun M_26 H locs hF_25 hP hS => ?_)
      obtain ⟨hF_25, hti_27⟩ := hF_25
      have he := bnd_at he hF_25.symm
      have hTM_26 : TI M M_26 := TI_tr hTM_22 hti_27
      have qb_M_26 := hTM_26.1.1
      have qs_M_26 := hTM_26.1.2.1
      have qz_M_26 := hTM_26.1.2.2.1
      refine lv_iload hx hb dX7_tacks_47 (lv_at hl 0 rfl) ?_
      exact hret _ _ _ _ _ _ ⟨(hV.trans he.symm), hTM_26⟩ hP hS dX7_tacks_49
    · have he := ite_f he (fun q => q hc_11)
      refine lv_iconst (v := (-1)) hx hb dX7_tacks_24 (by decide) ?_
      exact hret _ _ _ _ _ _ ⟨(hV.trans he.symm), hTM_1⟩ hP hS dX7_tacks_25
def rm_X7_bestSeconds : Room := { frames := 6, cells := 0, slots := 0, locals := 131 }
theorem gm_X7_bestSeconds : Cond.instanceMethod yX7_bestSeconds ∈ wsL_law ∧ Cond.selects RX7 yX7_bestSeconds yX7_bestSeconds ∈ wsL_law ∧ Cond.initialized RX7 ∈ wsL_law ∧ Cond.code yX7_bestSeconds cX7_bestSeconds 6 (some .int) ∈ wsL_law := ⟨gw_32_6, gw_32_7, gw_1_5, gw_32_8⟩
theorem gd_X7_bestSeconds : yX7_bestSeconds.cls = RX7 ∧ yX7_bestSeconds.cls ≠ "java/lang/invoke/MethodHandle" ∧ yX7_bestSeconds.cls ≠ "java/lang/invoke/VarHandle" ∧ (parseMethodDescriptor yX7_bestSeconds.desc).map (fun d => d.parameters.length) = some 2 := by decide +kernel
set_option maxRecDepth 100000 in
set_option maxHeartbeats 0 in
theorem c_X7_bestSeconds {l : Launch} {D : va_G} {k : Nat → ClassId} {ad : Nat → Nat} (had : InjN 31 ad) (M : Mem) (a1 : Int32) (a2 : Int32) (ha2 : a2 = 0 ∨ a2 = 1) (hI : MI M) : Met l yX7_bestSeconds (Cond.code yX7_bestSeconds cX7_bestSeconds 6 (some .int) :: wsL_law) rm_X7_bestSeconds (va_Pc [.ref (ad 0), .int a1, .int a2] (GW 31 ad D k (cM ad k M))) (va_Qi (fun r u => (f_X7_bestSeconds M a1 a2 = (r, u) ∧ TI M u)) (fun u t => GW 31 ad D k (cM ad k u) t) (AW 31 ad)) 0 0 (AW 31 ad) := by
  refine met_i (g := cM ad k) (M := M) (plainFor_of_name (by decide)) (Nat.le_of_ble_eq_true rfl) ?_
  intro p e s m args below meth c Q ls hx hb hml hG hown hK hret hP hS hl
  have hl : lv_has ls 6 [(0, .ref (ad 0)), (1, .int a1), (2, .int a2)] := hl
  obtain ⟨V, hV⟩ : ∃ V, f_X7_bestSeconds M a1 a2 = V := ⟨_, rfl⟩
  have he := hV
  unfold f_X7_bestSeconds at he
  have hT0 : TI M M := TI_rf hI
  have qb_M := hI.1
  have qs_M := hI.2.1
  have qz_M := hI.2.2.1
  refine lv_sipush (v := 999) hx hb dX7_bestSeconds_0 (by decide) ?_
  refine lv_istore_n (lv' := [(3, .int 999), (0, .ref (ad 0)), (1, .int a1), (2, .int a2)]) hx hb dX7_bestSeconds_3 rfl hl (by decide) rfl (fun ls hl => ?_)
  refine lv_iconst (v := 0) hx hb dX7_bestSeconds_4 (by decide) ?_
  refine lv_istore (lv' := [(4, .int 0), (3, .int 999), (0, .ref (ad 0)), (1, .int a1), (2, .int a2)]) hx hb dX7_bestSeconds_5 hl (by decide) rfl (fun ls hl => ?_)
  obtain ⟨w_35, M_36, hr_21, he⟩ := bnd2_ex he
  have j63 : ∀ (H : Heap) (locs : List Loc) (ls : Array Slot), TI M M_36 → va_P D vwCl (wld 31 ad (cM ad k M_36)) H → va_S (AW 31 ad) s.heap H locs → lv_has ls 6 [(3, .int w_35)] → W p l e rm_X7_bestSeconds s m args below meth c H locs 0 0 Q (F0 m 63 ls []) := by
    intro H locs ls hTM_36 hP hS hl
    have qb_M_36 := hTM_36.1.1
    have qs_M_36 := hTM_36.1.2.1
    have qz_M_36 := hTM_36.1.2.2.1
    refine lv_iload_n hx hb dX7_bestSeconds_63 rfl (lv_at hl 0 rfl) ?_
    exact hret _ _ _ _ _ _ ⟨(hV.trans he.symm), hTM_36⟩ hP hS dX7_bestSeconds_64
  have lp7 : ∀ (nn : Nat) (H : Heap) (locs : List Loc) (ls : Array Slot) (M_20 : Mem) (v_18 : Int32) (v_19 : Int32), (0 ≤ v_19.toInt) → (TI M M_20) → (256 - v_19.toInt).toNat < nn → lp_X7_bestSeconds_7 nn a1 a2 M_20 v_18 v_19 = (w_35, M_36) → va_P D vwCl (wld 31 ad (cM ad k M_20)) H → va_S (AW 31 ad) s.heap H locs → lv_has ls 6 [(0, .ref (ad 0)), (1, .int a1), (2, .int a2), (3, .int v_18), (4, .int v_19)] → W p l e rm_X7_bestSeconds s m args below meth c H locs 0 0 Q (F0 m 7 ls []) := by
    intro nn
    induction nn with
    | zero =>
      intro H locs ls M_20 v_18 v_19 h0v_19 hTM_20 hμ
      exact absurd hμ (Nat.not_lt_zero _)
    | succ nn ih =>
      intro H locs ls M_20 v_18 v_19 h0v_19 hTM_20 hμ hr_21 hP hS hl
      rw [lp_X7_bestSeconds_7] at hr_21
      have qb_M_20 := hTM_20.1.1
      have qs_M_20 := hTM_20.1.2.1
      have qz_M_20 := hTM_20.1.2.2.1
      refine lv_iload hx hb dX7_bestSeconds_7 (lv_at hl 4 rfl) ?_
      refine lv_sipush (v := 256) hx hb dX7_bestSeconds_9 (by decide) ?_
      refine lv_icmp_ge (tgt := 63) hx hb dX7_bestSeconds_12 (by decide) (fun hc_22 => ?_) (fun hc_22 => ?_)
      · have hr_21 := ite_t hr_21 hc_22
        cases hr_21
        exact j63 _ _ _ hTM_20 hP hS (lv_sub hl [3] rfl)
      · have hr_21 := ite_f hr_21 hc_22
        refine lv_aload_n hx hb dX7_bestSeconds_15 rfl (lv_at hl 0 rfl) ?_
        refine lv_iload_n hx hb dX7_bestSeconds_16 rfl (lv_at hl 1 rfl) ?_
        refine lv_iload_n hx hb dX7_bestSeconds_17 rfl (lv_at hl 2 rfl) ?_
        refine lv_iload hx hb dX7_bestSeconds_18 (lv_at hl 4 rfl) ?_
        refine call_i [.int a1, .int a2, .int v_19] [] hx hb hml hG hown hK (c_X7_secondsBy had M_20 a1 a2 ha2 v_19 hTM_20.1) gw_30_22 gm_X7_secondsBy gd_X7_secondsBy rfl rfl ⟨Nat.le_of_ble_eq_true rfl, Nat.le_of_ble_eq_true rfl⟩ ⟨Nat.le_refl _, Nat.le_refl _⟩ (rX7 hK hP) hP (fun _ h => h) hS rfl hl.1 rfl (Nat.le_of_ble_eq_true rfl) dX7_bestSeconds_20 (fun r_23 M_25 H locs hF_24 hP hS => ?_)
        obtain ⟨hF_24, hti_26⟩ := hF_24
        have hr_21 := bnd2_at hr_21 hF_24
        have hTM_25 : TI M M_25 := TI_tr hTM_20 hti_26
        have qb_M_25 := hTM_25.1.1
        have qs_M_25 := hTM_25.1.2.1
        have qz_M_25 := hTM_25.1.2.2.1
        refine lv_istore (lv' := [(5, .int r_23), (0, .ref (ad 0)), (1, .int a1), (2, .int a2), (3, .int v_18), (4, .int v_19)]) hx hb dX7_bestSeconds_23 hl (by decide) rfl (fun ls hl => ?_)
        refine lv_aload_n hx hb dX7_bestSeconds_25 rfl (lv_at hl 1 rfl) ?_
        refine lv_iload hx hb dX7_bestSeconds_26 (lv_at hl 0 rfl) ?_
        refine lv_iload_n hx hb dX7_bestSeconds_28 rfl (lv_at hl 4 rfl) ?_
        obtain ⟨t_29, hr_28, hr_21⟩ := bnd_ex hr_21
        have j41 : ∀ (H : Heap) (locs : List Loc) (ls : Array Slot), va_P D vwCl (wld 31 ad (cM ad k M_25)) H → va_S (AW 31 ad) s.heap H locs → lv_has ls 6 [(0, .ref (ad 0)), (1, .int a1), (2, .int a2), (3, .int v_18), (4, .int v_19), (5, .int r_23)] → W p l e rm_X7_bestSeconds s m args below meth c H locs 0 0 Q (F0 m 41 ls [.int t_29, .ref (ad 0)]) := by
          intro H locs ls hP hS hl
          refine pX7_41 hx hb hG hown hK hP had AW_in hS gw_32_4 dX7_bestSeconds_41 (fun H locs hP hS => ?_)
          obtain ⟨M_30, eM_30⟩ : ∃ y : Mem, y = up2 M_25 0 41 t_29 := ⟨_, rfl⟩
          rw [← eM_30] at hP
          have hr_21 := bnd_at hr_21 eM_30
          have hTM_30 : TI M M_30 := by rw [eM_30]; exact TI_f hTM_25 (by decide)
          have qb_M_30 := hTM_30.1.1
          have qs_M_30 := hTM_30.1.2.1
          have qz_M_30 := hTM_30.1.2.2.1
          refine lv_iload hx hb dX7_bestSeconds_44 (lv_at hl 5 rfl) ?_
          refine lv_iload_n hx hb dX7_bestSeconds_46 rfl (lv_at hl 3 rfl) ?_
          obtain ⟨t_33, hr_32, hr_21⟩ := bnd_ex hr_21
          have j56 : ∀ (H : Heap) (locs : List Loc) (ls : Array Slot), va_P D vwCl (wld 31 ad (cM ad k M_30)) H → va_S (AW 31 ad) s.heap H locs → lv_has ls 6 [(0, .ref (ad 0)), (1, .int a1), (2, .int a2), (4, .int v_19)] → W p l e rm_X7_bestSeconds s m args below meth c H locs 0 0 Q (F0 m 56 ls [.int t_33]) := by
            intro H locs ls hP hS hl
            refine lv_istore_n (lv' := [(3, .int t_33), (0, .ref (ad 0)), (1, .int a1), (2, .int a2), (4, .int v_19)]) hx hb dX7_bestSeconds_56 rfl hl (by decide) rfl (fun ls hl => ?_)
            obtain ⟨y_34, ey_34⟩ : ∃ y_34 : Int32, y_34 = v_19 + 1 := ⟨_, rfl⟩
            have hr_21 := bnd_at hr_21 ey_34
            refine lv_iinc (v := y_34) (lv' := [(4, .int y_34), (3, .int t_33), (0, .ref (ad 0)), (1, .int a1), (2, .int a2)]) hx hb dX7_bestSeconds_57 hl (k := 4) rfl (by rw [ey_34]; rfl) (by decide) rfl (fun ls hl => ?_)
            refine lv_goto (tgt := 7) hx hb dX7_bestSeconds_60 (by decide) ?_
            exact ih _ _ _ _ _ _ (by rw [ey_34, inc_I (N := 256) (nle_I hc_22) (by decide)]; omega) hTM_30 (by rw [ey_34]; exact mu_I hμ (nle_I hc_22) (by decide)) hr_21 hP hS (lv_sub hl [2, 3, 4, 1, 0] rfl)
          refine lv_icmp_ge (tgt := 55) hx hb dX7_bestSeconds_47 (by decide) (fun hc_31 => ?_) (fun hc_31 => ?_)
          · have hr_32 := ite_t hr_32 hc_31
            refine lv_iload_n hx hb dX7_bestSeconds_55 rfl (lv_at hl 3 rfl) ?_
            cases hr_32
            exact j56 _ _ _ hP hS (lv_sub hl [0, 1, 2, 4] rfl)
          · have hr_32 := ite_f hr_32 hc_31
            refine lv_iload hx hb dX7_bestSeconds_50 (lv_at hl 5 rfl) ?_
            refine lv_goto (tgt := 56) hx hb dX7_bestSeconds_52 (by decide) ?_
            cases hr_32
            exact j56 _ _ _ hP hS (lv_sub hl [0, 1, 2, 4] rfl)
        refine lv_icmp_ge (tgt := 37) hx hb dX7_bestSeconds_29 (by decide) (fun hc_27 => ?_) (fun hc_27 => ?_)
        · have hr_28 := ite_t hr_28 hc_27
          refine lv_aload_n hx hb dX7_bestSeconds_37 rfl (lv_at hl 1 rfl) ?_
          refine gX7_41 hx hb hG hown hK hP gw_32_4 dX7_bestSeconds_38 ?_
          cases hr_28
          exact j41 _ _ _ hP hS (lv_sub hl [1, 2, 3, 4, 5, 0] rfl)
        · have hr_28 := ite_f hr_28 hc_27
          refine lv_iload hx hb dX7_bestSeconds_32 (lv_at hl 5 rfl) ?_
          refine lv_goto (tgt := 41) hx hb dX7_bestSeconds_34 (by decide) ?_
          cases hr_28
          exact j41 _ _ _ hP hS (lv_sub hl [1, 2, 3, 4, 5, 0] rfl)
  exact lp7 _ _ _ _ _ _ _ (by decide) hT0 (by decide) hr_21 hP hS (lv_sub hl [2, 3, 4, 1, 0] rfl)
def rm_X7_best : Room := { frames := 7, cells := 0, slots := 0, locals := 156 }
theorem gm_X7_best : Cond.instanceMethod yX7_best ∈ wsL_law ∧ Cond.selects RX7 yX7_best yX7_best ∈ wsL_law ∧ Cond.initialized RX7 ∈ wsL_law ∧ Cond.code yX7_best cX7_best 5 (some .int) ∈ wsL_law := ⟨gw_32_1, gw_32_2, gw_1_5, gw_32_3⟩
theorem gd_X7_best : yX7_best.cls = RX7 ∧ yX7_best.cls ≠ "java/lang/invoke/MethodHandle" ∧ yX7_best.cls ≠ "java/lang/invoke/VarHandle" ∧ (parseMethodDescriptor yX7_best.desc).map (fun d => d.parameters.length) = some 3 := by decide +kernel
set_option maxRecDepth 100000 in
set_option maxHeartbeats 0 in
theorem c_X7_best {l : Launch} {D : va_G} {k : Nat → ClassId} {ad : Nat → Nat} (had : InjN 31 ad) (M : Mem) (a1 : Int32) (a2 : Int32) (ha2 : a2 = 0 ∨ a2 = 1) (a3 : Int32) (hI : MI M) : Met l yX7_best (Cond.code yX7_best cX7_best 5 (some .int) :: wsL_law) rm_X7_best (va_Pc [.ref (ad 0), .int a1, .int a2, .int a3] (GW 31 ad D k (cM ad k M))) (va_Qi (fun r u => (f_X7_best M a1 a2 a3 = (r, u) ∧ TI M u)) (fun u t => GW 31 ad D k (cM ad k u) t) (AW 31 ad)) 0 0 (AW 31 ad) := by
  refine met_i (g := cM ad k) (M := M) (plainFor_of_name (by decide)) (Nat.le_of_ble_eq_true rfl) ?_
  intro p e s m args below meth c Q ls hx hb hml hG hown hK hret hP hS hl
  have hl : lv_has ls 5 [(0, .ref (ad 0)), (1, .int a1), (2, .int a2), (3, .int a3)] := hl
  obtain ⟨V, hV⟩ : ∃ V, f_X7_best M a1 a2 a3 = V := ⟨_, rfl⟩
  have he := hV
  unfold f_X7_best at he
  have hT0 : TI M M := TI_rf hI
  have qb_M := hI.1
  have qs_M := hI.2.1
  have qz_M := hI.2.2.1
  refine lv_aload_n hx hb dX7_best_0 rfl (lv_at hl 0 rfl) ?_
  refine lv_iconst (v := 0) hx hb dX7_best_1 (by decide) ?_
  refine pX7_19 hx hb hG hown hK hP had AW_in hS gw_5_17 dX7_best_2 (fun H locs hP hS => ?_)
  obtain ⟨M_1, eM_1⟩ : ∃ y : Mem, y = up2 M 0 19 0 := ⟨_, rfl⟩
  rw [← eM_1] at hP
  have he := bnd_at he eM_1
  have hTM_1 : TI M M_1 := by rw [eM_1]; exact TI_f hT0 (by decide)
  have qb_M_1 := hTM_1.1.1
  have qs_M_1 := hTM_1.1.2.1
  have qz_M_1 := hTM_1.1.2.2.1
  refine lv_iload_n hx hb dX7_best_5 rfl (lv_at hl 1 rfl) ?_
  refine callS_i [.int a1] [] hx hb hml hG hown hK (c_X7_isPlace had (M := M_1)  a1) gw_15_23 gm_X7_isPlace gd_X7_isPlace rfl rfl ⟨Nat.le_of_ble_eq_true rfl, Nat.le_of_ble_eq_true rfl⟩ ⟨Nat.le_refl _, Nat.le_refl _⟩ hP (fun _ h => h) hS rfl hl.1 rfl (Nat.le_of_ble_eq_true rfl) dX7_best_6 (fun r_2 u_4 H locs hF_3 hP hS => ?_)
  obtain ⟨hz_5, hF_3, hu⟩ := hF_3; rw [hu] at hP; subst hF_3
  refine lv_if_eq (tgt := 22) hx hb dX7_best_9 (by decide) (fun hc_6 => ?_) (fun hc_6 => ?_)
  · have he := ite_t he hc_6
    refine lv_iconst (v := (-1)) hx hb dX7_best_22 (by decide) ?_
    exact hret _ _ _ _ _ _ ⟨(hV.trans he.symm), hTM_1⟩ hP hS dX7_best_23
  · have he := ite_f he hc_6
    refine lv_iload_n hx hb dX7_best_12 rfl (lv_at hl 3 rfl) ?_
    refine lv_i2l (v := a3.toInt64) hx hb dX7_best_13 rfl ?_
    refine lv_lconst (v := 0) hx hb dX7_best_14 (by decide) ?_
    refine lv_lconst (v := 1) hx hb dX7_best_15 (by decide) ?_
    refine callS_i [.long a3.toInt64, .long 0, .long 1] [] hx hb hml hG hown hK (c_X7_in had (M := M_1)  a3.toInt64 0 1) gw_7_0 gm_X7_in gd_X7_in rfl rfl ⟨Nat.le_of_ble_eq_true rfl, Nat.le_of_ble_eq_true rfl⟩ ⟨Nat.le_refl _, Nat.le_refl _⟩ hP (fun _ h => h) hS rfl hl.1 rfl (Nat.le_of_ble_eq_true rfl) dX7_best_16 (fun r_7 u_9 H locs hF_8 hP hS => ?_)
    obtain ⟨hz_10, hF_8, hu⟩ := hF_8; rw [hu] at hP; subst hF_8
    refine lv_if_ne (tgt := 24) hx hb dX7_best_19 (by decide) (fun hc_11 => ?_) (fun hc_11 => ?_)
    · have he := ite_t he hc_11
      refine lv_aload_n hx hb dX7_best_24 rfl (lv_at hl 0 rfl) ?_
      refine call_v [] [] hx hb hml hG hown hK (c_X7_open had M_1 hTM_1.1) gw_29_2 gm_X7_open gd_X7_open rfl rfl ⟨Nat.le_of_ble_eq_true rfl, Nat.le_of_ble_eq_true rfl⟩ ⟨Nat.le_refl _, Nat.le_refl _⟩ (rX7 hK hP) hP (fun _ h => h) hS rfl hl.1 rfl (Nat.le_of_ble_eq_true rfl) dX7_best_25 (fun M_14 H locs hF_13 hP hS => ?_)
      obtain ⟨hF_13, hti_15⟩ := hF_13
      have he := bnd_at he hF_13.symm
      have hTM_14 : TI M M_14 := TI_tr hTM_1 hti_15
      have qb_M_14 := hTM_14.1.1
      have qs_M_14 := hTM_14.1.2.1
      have qz_M_14 := hTM_14.1.2.2.1
      refine lv_aload_n hx hb dX7_best_28 rfl (lv_at hl 0 rfl) ?_
      refine call_v [] [] hx hb hml hG hown hK (c_X7_layWinds had M_14 hTM_14.1) gw_22_19 gm_X7_layWinds gd_X7_layWinds rfl rfl ⟨Nat.le_of_ble_eq_true rfl, Nat.le_of_ble_eq_true rfl⟩ ⟨Nat.le_refl _, Nat.le_refl _⟩ (rX7 hK hP) hP (fun _ h => h) hS rfl hl.1 rfl (Nat.le_of_ble_eq_true rfl) dX7_best_29 (fun M_18 H locs hF_17 hP hS => ?_)
      obtain ⟨hF_17, hti_19⟩ := hF_17
      have he := bnd_at he hF_17.symm
      have hTM_18 : TI M M_18 := TI_tr hTM_14 hti_19
      have qb_M_18 := hTM_18.1.1
      have qs_M_18 := hTM_18.1.2.1
      have qz_M_18 := hTM_18.1.2.2.1
      refine lv_aload_n hx hb dX7_best_32 rfl (lv_at hl 0 rfl) ?_
      refine lv_iload_n hx hb dX7_best_33 rfl (lv_at hl 1 rfl) ?_
      refine lv_iload_n hx hb dX7_best_34 rfl (lv_at hl 2 rfl) ?_
      refine call_i [.int a1, .int a2] [] hx hb hml hG hown hK (c_X7_bestSeconds had M_18 a1 a2 ha2 hTM_18.1) gw_32_5 gm_X7_bestSeconds gd_X7_bestSeconds rfl rfl ⟨Nat.le_of_ble_eq_true rfl, Nat.le_of_ble_eq_true rfl⟩ ⟨Nat.le_refl _, Nat.le_refl _⟩ (rX7 hK hP) hP (fun _ h => h) hS rfl hl.1 rfl (Nat.le_of_ble_eq_true rfl) dX7_best_35 (fun r_20 M_22 H locs hF_21 hP hS => ?_)
      obtain ⟨hF_21, hti_23⟩ := hF_21
      have he := bnd2_at he hF_21
      have hTM_22 : TI M M_22 := TI_tr hTM_18 hti_23
      have qb_M_22 := hTM_22.1.1
      have qs_M_22 := hTM_22.1.2.1
      have qz_M_22 := hTM_22.1.2.2.1
      refine lv_istore (lv' := [(4, .int r_20), (0, .ref (ad 0)), (1, .int a1), (2, .int a2), (3, .int a3)]) hx hb dX7_best_38 hl (by decide) rfl (fun ls hl => ?_)
      refine lv_aload_n hx hb dX7_best_40 rfl (lv_at hl 1 rfl) ?_
      refine call_v [] [] hx hb hml hG hown hK (c_X7_close had M_22 hTM_22.1) gw_30_1 gm_X7_close gd_X7_close rfl rfl ⟨Nat.le_of_ble_eq_true rfl, Nat.le_of_ble_eq_true rfl⟩ ⟨Nat.le_refl _, Nat.le_refl _⟩ (rX7 hK hP) hP (fun _ h => h) hS rfl hl.1 rfl (Nat.le_of_ble_eq_true rfl) dX7_best_41 (fun M_26 H locs hF_25 hP hS => ?_)
      obtain ⟨hF_25, hti_27⟩ := hF_25
      have he := bnd_at he hF_25.symm
      have hTM_26 : TI M M_26 := TI_tr hTM_22 hti_27
      have qb_M_26 := hTM_26.1.1
      have qs_M_26 := hTM_26.1.2.1
      have qz_M_26 := hTM_26.1.2.2.1
      refine lv_iload_n hx hb dX7_best_44 rfl (lv_at hl 4 rfl) ?_
      obtain ⟨t_30, hr_29, he⟩ := bnd_ex he
      have j57 : ∀ (H : Heap) (locs : List Loc) (ls : Array Slot), va_P D vwCl (wld 31 ad (cM ad k M_26)) H → va_S (AW 31 ad) s.heap H locs → lv_has ls 5 [] → W p l e rm_X7_best s m args below meth c H locs 0 0 Q (F0 m 57 ls [.int t_30]) := by
        intro H locs ls hP hS hl
        exact hret _ _ _ _ _ _ ⟨(hV.trans he.symm), hTM_26⟩ hP hS dX7_best_57
      refine lv_if_ne (tgt := 55) hx hb dX7_best_45 (by decide) (fun hc_28 => ?_) (fun hc_28 => ?_)
      · have hr_29 := ite_t hr_29 hc_28
        refine lv_iload hx hb dX7_best_55 (lv_at hl 0 rfl) ?_
        cases hr_29
        exact j57 _ _ _ hP hS (lv_sub hl [] rfl)
      · have hr_29 := ite_f hr_29 (fun q => q hc_28)
        refine lv_aload_n hx hb dX7_best_48 rfl (lv_at hl 1 rfl) ?_
        refine gX7_41 hx hb hG hown hK hP gw_32_4 dX7_best_49 ?_
        refine lv_goto (tgt := 57) hx hb dX7_best_52 (by decide) ?_
        cases hr_29
        exact j57 _ _ _ hP hS (lv_sub hl [] rfl)
    · have he := ite_f he (fun q => q hc_11)
      refine lv_iconst (v := (-1)) hx hb dX7_best_22 (by decide) ?_
      exact hret _ _ _ _ _ _ ⟨(hV.trans he.symm), hTM_1⟩ hP hS dX7_best_23
def rm_X7_bestFrom : Room := { frames := 7, cells := 0, slots := 0, locals := 156 }
theorem gm_X7_bestFrom : Cond.instanceMethod yX7_bestFrom ∈ wsL_law ∧ Cond.selects RX7 yX7_bestFrom yX7_bestFrom ∈ wsL_law ∧ Cond.initialized RX7 ∈ wsL_law ∧ Cond.code yX7_bestFrom cX7_bestFrom 4 (some .int) ∈ wsL_law := ⟨gw_32_18, gw_32_19, gw_1_5, gw_32_20⟩
theorem gd_X7_bestFrom : yX7_bestFrom.cls = RX7 ∧ yX7_bestFrom.cls ≠ "java/lang/invoke/MethodHandle" ∧ yX7_bestFrom.cls ≠ "java/lang/invoke/VarHandle" ∧ (parseMethodDescriptor yX7_bestFrom.desc).map (fun d => d.parameters.length) = some 1 := by decide +kernel
set_option maxRecDepth 100000 in
set_option maxHeartbeats 0 in
theorem c_X7_bestFrom {l : Launch} {D : va_G} {k : Nat → ClassId} {ad : Nat → Nat} (had : InjN 31 ad) (M : Mem) (a1 : Int32) (hI : MI M) : Met l yX7_bestFrom (Cond.code yX7_bestFrom cX7_bestFrom 4 (some .int) :: wsL_law) rm_X7_bestFrom (va_Pc [.ref (ad 0), .int a1] (GW 31 ad D k (cM ad k M))) (va_Qi (fun r u => (f_X7_bestFrom M a1 = (r, u) ∧ TI M u)) (fun u t => GW 31 ad D k (cM ad k u) t) (AW 31 ad)) 0 0 (AW 31 ad) := by
  refine met_i (g := cM ad k) (M := M) (plainFor_of_name (by decide)) (Nat.le_of_ble_eq_true rfl) ?_
  intro p e s m args below meth c Q ls hx hb hml hG hown hK hret hP hS hl
  have hl : lv_has ls 4 [(0, .ref (ad 0)), (1, .int a1)] := hl
  obtain ⟨V, hV⟩ : ∃ V, f_X7_bestFrom M a1 = V := ⟨_, rfl⟩
  have he := hV
  unfold f_X7_bestFrom at he
  have hT0 : TI M M := TI_rf hI
  have qb_M := hI.1
  have qs_M := hI.2.1
  have qz_M := hI.2.2.1
  refine lv_aload_n hx hb dX7_bestFrom_0 rfl (lv_at hl 0 rfl) ?_
  refine lv_iload_n hx hb dX7_bestFrom_1 rfl (lv_at hl 1 rfl) ?_
  refine lv_iconst (v := 1) hx hb dX7_bestFrom_2 (by decide) ?_
  refine call_i [.int a1, .int 1] [] hx hb hml hG hown hK (c_X7_bestSeconds had M a1 1 (Or.inr rfl) hT0.1) gw_32_5 gm_X7_bestSeconds gd_X7_bestSeconds rfl rfl ⟨Nat.le_of_ble_eq_true rfl, Nat.le_of_ble_eq_true rfl⟩ ⟨Nat.le_refl _, Nat.le_refl _⟩ (rX7 hK hP) hP (fun _ h => h) hS rfl hl.1 rfl (Nat.le_of_ble_eq_true rfl) dX7_bestFrom_3 (fun r_1 M_3 H locs hF_2 hP hS => ?_)
  obtain ⟨hF_2, hti_4⟩ := hF_2
  have he := bnd2_at he hF_2
  have hTM_3 : TI M M_3 := TI_tr hT0 hti_4
  have qb_M_3 := hTM_3.1.1
  have qs_M_3 := hTM_3.1.2.1
  have qz_M_3 := hTM_3.1.2.2.1
  refine lv_istore_n (lv' := [(2, .int r_1), (0, .ref (ad 0)), (1, .int a1)]) hx hb dX7_bestFrom_6 rfl hl (by decide) rfl (fun ls hl => ?_)
  refine lv_aload_n hx hb dX7_bestFrom_7 rfl (lv_at hl 1 rfl) ?_
  refine lv_iload_n hx hb dX7_bestFrom_8 rfl (lv_at hl 2 rfl) ?_
  refine lv_iconst (v := 0) hx hb dX7_bestFrom_9 (by decide) ?_
  refine call_i [.int a1, .int 0] [] hx hb hml hG hown hK (c_X7_bestSeconds had M_3 a1 0 (Or.inl rfl) hTM_3.1) gw_32_5 gm_X7_bestSeconds gd_X7_bestSeconds rfl rfl ⟨Nat.le_of_ble_eq_true rfl, Nat.le_of_ble_eq_true rfl⟩ ⟨Nat.le_refl _, Nat.le_refl _⟩ (rX7 hK hP) hP (fun _ h => h) hS rfl hl.1 rfl (Nat.le_of_ble_eq_true rfl) dX7_bestFrom_10 (fun r_5 M_7 H locs hF_6 hP hS => ?_)
  obtain ⟨hF_6, hti_8⟩ := hF_6
  have he := bnd2_at he hF_6
  have hTM_7 : TI M M_7 := TI_tr hTM_3 hti_8
  have qb_M_7 := hTM_7.1.1
  have qs_M_7 := hTM_7.1.2.1
  have qz_M_7 := hTM_7.1.2.2.1
  refine lv_istore_n (lv' := [(3, .int r_5), (2, .int r_1), (0, .ref (ad 0)), (1, .int a1)]) hx hb dX7_bestFrom_13 rfl hl (by decide) rfl (fun ls hl => ?_)
  refine lv_iload_n hx hb dX7_bestFrom_14 rfl (lv_at hl 1 rfl) ?_
  refine lv_iload_n hx hb dX7_bestFrom_15 rfl (lv_at hl 0 rfl) ?_
  obtain ⟨t_11, hr_10, he⟩ := bnd_ex he
  have j24 : ∀ (H : Heap) (locs : List Loc) (ls : Array Slot), va_P D vwCl (wld 31 ad (cM ad k M_7)) H → va_S (AW 31 ad) s.heap H locs → lv_has ls 4 [] → W p l e rm_X7_bestFrom s m args below meth c H locs 0 0 Q (F0 m 24 ls [.int t_11]) := by
    intro H locs ls hP hS hl
    exact hret _ _ _ _ _ _ ⟨(hV.trans he.symm), hTM_7⟩ hP hS dX7_bestFrom_24
  refine lv_icmp_ge (tgt := 23) hx hb dX7_bestFrom_16 (by decide) (fun hc_9 => ?_) (fun hc_9 => ?_)
  · have hr_10 := ite_t hr_10 hc_9
    refine lv_iload_n hx hb dX7_bestFrom_23 rfl (lv_at hl 0 rfl) ?_
    cases hr_10
    exact j24 _ _ _ hP hS (lv_sub hl [] rfl)
  · have hr_10 := ite_f hr_10 hc_9
    refine lv_iload_n hx hb dX7_bestFrom_19 rfl (lv_at hl 1 rfl) ?_
    refine lv_goto (tgt := 24) hx hb dX7_bestFrom_20 (by decide) ?_
    cases hr_10
    exact j24 _ _ _ hP hS (lv_sub hl [] rfl)
def rm_X7_sides : Room := { frames := 8, cells := 0, slots := 0, locals := 179 }
theorem gm_X7_sides : Cond.instanceMethod yX7_sides ∈ wsL_law ∧ Cond.selects RX7 yX7_sides yX7_sides ∈ wsL_law ∧ Cond.initialized RX7 ∈ wsL_law ∧ Cond.code yX7_sides cX7_sides 2 (some .int) ∈ wsL_law := ⟨gw_32_14, gw_32_15, gw_1_5, gw_32_16⟩
theorem gd_X7_sides : yX7_sides.cls = RX7 ∧ yX7_sides.cls ≠ "java/lang/invoke/MethodHandle" ∧ yX7_sides.cls ≠ "java/lang/invoke/VarHandle" ∧ (parseMethodDescriptor yX7_sides.desc).map (fun d => d.parameters.length) = some 0 := by decide +kernel
set_option maxRecDepth 100000 in
set_option maxHeartbeats 0 in
theorem c_X7_sides {l : Launch} {D : va_G} {k : Nat → ClassId} {ad : Nat → Nat} (had : InjN 31 ad) (M : Mem) (hI : MI M) : Met l yX7_sides (Cond.code yX7_sides cX7_sides 2 (some .int) :: wsL_law) rm_X7_sides (va_Pc [.ref (ad 0)] (GW 31 ad D k (cM ad k M))) (va_Qi (fun r u => (f_X7_sides M = (r, u) ∧ TI M u)) (fun u t => GW 31 ad D k (cM ad k u) t) (AW 31 ad)) 0 0 (AW 31 ad) := by
  refine met_i (g := cM ad k) (M := M) (plainFor_of_name (by decide)) (Nat.le_of_ble_eq_true rfl) ?_
  intro p e s m args below meth c Q ls hx hb hml hG hown hK hret hP hS hl
  have hl : lv_has ls 2 [(0, .ref (ad 0))] := hl
  obtain ⟨V, hV⟩ : ∃ V, f_X7_sides M = V := ⟨_, rfl⟩
  have he := hV
  unfold f_X7_sides at he
  have hT0 : TI M M := TI_rf hI
  have qb_M := hI.1
  have qs_M := hI.2.1
  have qz_M := hI.2.2.1
  refine lv_aload_n hx hb dX7_sides_0 rfl (lv_at hl 0 rfl) ?_
  refine lv_iconst (v := 0) hx hb dX7_sides_1 (by decide) ?_
  refine pX7_19 hx hb hG hown hK hP had AW_in hS gw_5_17 dX7_sides_2 (fun H locs hP hS => ?_)
  obtain ⟨M_1, eM_1⟩ : ∃ y : Mem, y = up2 M 0 19 0 := ⟨_, rfl⟩
  rw [← eM_1] at hP
  have he := bnd_at he eM_1
  have hTM_1 : TI M M_1 := by rw [eM_1]; exact TI_f hT0 (by decide)
  have qb_M_1 := hTM_1.1.1
  have qs_M_1 := hTM_1.1.2.1
  have qz_M_1 := hTM_1.1.2.2.1
  refine lv_aload_n hx hb dX7_sides_5 rfl (lv_at hl 0 rfl) ?_
  refine call_v [] [] hx hb hml hG hown hK (c_X7_open had M_1 hTM_1.1) gw_29_2 gm_X7_open gd_X7_open rfl rfl ⟨Nat.le_of_ble_eq_true rfl, Nat.le_of_ble_eq_true rfl⟩ ⟨Nat.le_refl _, Nat.le_refl _⟩ (rX7 hK hP) hP (fun _ h => h) hS rfl hl.1 rfl (Nat.le_of_ble_eq_true rfl) dX7_sides_6 (fun M_4 H locs hF_3 hP hS => ?_)
  obtain ⟨hF_3, hti_5⟩ := hF_3
  have he := bnd_at he hF_3.symm
  have hTM_4 : TI M M_4 := TI_tr hTM_1 hti_5
  have qb_M_4 := hTM_4.1.1
  have qs_M_4 := hTM_4.1.2.1
  have qz_M_4 := hTM_4.1.2.2.1
  refine lv_aload_n hx hb dX7_sides_9 rfl (lv_at hl 0 rfl) ?_
  refine call_v [] [] hx hb hml hG hown hK (c_X7_layWinds had M_4 hTM_4.1) gw_22_19 gm_X7_layWinds gd_X7_layWinds rfl rfl ⟨Nat.le_of_ble_eq_true rfl, Nat.le_of_ble_eq_true rfl⟩ ⟨Nat.le_refl _, Nat.le_refl _⟩ (rX7 hK hP) hP (fun _ h => h) hS rfl hl.1 rfl (Nat.le_of_ble_eq_true rfl) dX7_sides_10 (fun M_8 H locs hF_7 hP hS => ?_)
  obtain ⟨hF_7, hti_9⟩ := hF_7
  have he := bnd_at he hF_7.symm
  have hTM_8 : TI M M_8 := TI_tr hTM_4 hti_9
  have qb_M_8 := hTM_8.1.1
  have qs_M_8 := hTM_8.1.2.1
  have qz_M_8 := hTM_8.1.2.2.1
  refine lv_aload_n hx hb dX7_sides_13 rfl (lv_at hl 0 rfl) ?_
  refine lv_bipush (v := 100) hx hb dX7_sides_14 (by decide) ?_
  refine call_i [.int 100] [] hx hb hml hG hown hK (c_X7_bestFrom had M_8 100 hTM_8.1) gw_32_17 gm_X7_bestFrom gd_X7_bestFrom rfl rfl ⟨Nat.le_of_ble_eq_true rfl, Nat.le_of_ble_eq_true rfl⟩ ⟨Nat.le_refl _, Nat.le_refl _⟩ (rX7 hK hP) hP (fun _ h => h) hS rfl hl.1 rfl (Nat.le_of_ble_eq_true rfl) dX7_sides_16 (fun r_10 M_12 H locs hF_11 hP hS => ?_)
  obtain ⟨hF_11, hti_13⟩ := hF_11
  have he := bnd2_at he hF_11
  have hTM_12 : TI M M_12 := TI_tr hTM_8 hti_13
  have qb_M_12 := hTM_12.1.1
  have qs_M_12 := hTM_12.1.2.1
  have qz_M_12 := hTM_12.1.2.2.1
  refine lv_aload_n hx hb dX7_sides_19 rfl (lv_at hl 0 rfl) ?_
  refine lv_bipush (v := (-100)) hx hb dX7_sides_20 (by decide) ?_
  refine call_i [.int (-100)] [.int r_10] hx hb hml hG hown hK (c_X7_bestFrom had M_12 (-100) hTM_12.1) gw_32_17 gm_X7_bestFrom gd_X7_bestFrom rfl rfl ⟨Nat.le_of_ble_eq_true rfl, Nat.le_of_ble_eq_true rfl⟩ ⟨Nat.le_refl _, Nat.le_refl _⟩ (rX7 hK hP) hP (fun _ h => h) hS rfl hl.1 rfl (Nat.le_of_ble_eq_true rfl) dX7_sides_22 (fun r_14 M_16 H locs hF_15 hP hS => ?_)
  obtain ⟨hF_15, hti_17⟩ := hF_15
  have he := bnd2_at he hF_15
  have hTM_16 : TI M M_16 := TI_tr hTM_12 hti_17
  have qb_M_16 := hTM_16.1.1
  have qs_M_16 := hTM_16.1.2.1
  have qz_M_16 := hTM_16.1.2.2.1
  refine lv_isub hx hb dX7_sides_25 ?_
  refine lv_topi (fun y_18 ey_18 => ?_)
  have he := bnd_at he ey_18
  refine lv_istore_n (lv' := [(1, .int y_18), (0, .ref (ad 0))]) hx hb dX7_sides_26 rfl hl (by decide) rfl (fun ls hl => ?_)
  refine lv_aload_n hx hb dX7_sides_27 rfl (lv_at hl 1 rfl) ?_
  refine call_v [] [] hx hb hml hG hown hK (c_X7_close had M_16 hTM_16.1) gw_30_1 gm_X7_close gd_X7_close rfl rfl ⟨Nat.le_of_ble_eq_true rfl, Nat.le_of_ble_eq_true rfl⟩ ⟨Nat.le_refl _, Nat.le_refl _⟩ (rX7 hK hP) hP (fun _ h => h) hS rfl hl.1 rfl (Nat.le_of_ble_eq_true rfl) dX7_sides_28 (fun M_21 H locs hF_20 hP hS => ?_)
  obtain ⟨hF_20, hti_22⟩ := hF_20
  have he := bnd_at he hF_20.symm
  have hTM_21 : TI M M_21 := TI_tr hTM_16 hti_22
  have qb_M_21 := hTM_21.1.1
  have qs_M_21 := hTM_21.1.2.1
  have qz_M_21 := hTM_21.1.2.2.1
  refine lv_iload_n hx hb dX7_sides_31 rfl (lv_at hl 0 rfl) ?_
  exact hret _ _ _ _ _ _ ⟨(hV.trans he.symm), hTM_21⟩ hP hS dX7_sides_32
def rm_X7_countsAs : Room := { frames := 2, cells := 0, slots := 0, locals := 41 }
theorem gm_X7_countsAs : Cond.instanceMethod yX7_countsAs ∈ wsL_law ∧ Cond.selects RX7 yX7_countsAs yX7_countsAs ∈ wsL_law ∧ Cond.initialized RX7 ∈ wsL_law ∧ Cond.code yX7_countsAs cX7_countsAs 2 (some .int) ∈ wsL_law := ⟨gw_34_7, gw_34_8, gw_1_5, gw_34_9⟩
theorem gd_X7_countsAs : yX7_countsAs.cls = RX7 ∧ yX7_countsAs.cls ≠ "java/lang/invoke/MethodHandle" ∧ yX7_countsAs.cls ≠ "java/lang/invoke/VarHandle" ∧ (parseMethodDescriptor yX7_countsAs.desc).map (fun d => d.parameters.length) = some 1 := by decide +kernel
set_option maxRecDepth 100000 in
set_option maxHeartbeats 0 in
theorem c_X7_countsAs {l : Launch} {D : va_G} {k : Nat → ClassId} {ad : Nat → Nat} (had : InjN 31 ad) (M : Mem) (a1 : Int32) (hI : MI M) (hbx : 0 ≤ a1.toInt ∧ a1.toInt < 4) : Met l yX7_countsAs (Cond.code yX7_countsAs cX7_countsAs 2 (some .int) :: wsL_law) rm_X7_countsAs (va_Pc [.ref (ad 0), .int a1] (GW 31 ad D k (cM ad k M))) (va_Qi (fun r u => f_X7_countsAs M a1 = r ∧ u = M) (fun u t => GW 31 ad D k (cM ad k u) t) (AW 31 ad)) 0 0 (AW 31 ad) := by
  refine met_i (g := cM ad k) (M := M) (plainFor_of_name (by decide)) (Nat.le_of_ble_eq_true rfl) ?_
  intro p e s m args below meth c Q ls hx hb hml hG hown hK hret hP hS hl
  have hl : lv_has ls 2 [(0, .ref (ad 0)), (1, .int a1)] := hl
  obtain ⟨V, hV⟩ : ∃ V, f_X7_countsAs M a1 = V := ⟨_, rfl⟩
  have he := hV
  unfold f_X7_countsAs at he
  have hT0 : TI M M := TI_rf hI
  have qb_M := hI.1
  have qs_M := hI.2.1
  have qz_M := hI.2.2.1
  refine lv_aload_n hx hb dX7_countsAs_0 rfl (lv_at hl 0 rfl) ?_
  refine lv_iload_n hx hb dX7_countsAs_1 rfl (lv_at hl 1 rfl) ?_
  refine call_i [.int a1] [] hx hb hml hG hown hK (c_X7_isIn had M a1 hT0.1 (by omega)) gw_18_10 gm_X7_isIn gd_X7_isIn rfl rfl ⟨Nat.le_of_ble_eq_true rfl, Nat.le_of_ble_eq_true rfl⟩ ⟨Nat.le_refl _, Nat.le_refl _⟩ (rX7 hK hP) hP (fun _ h => h) hS rfl hl.1 rfl (Nat.le_of_ble_eq_true rfl) dX7_countsAs_2 (fun r_1 u_3 H locs hF_2 hP hS => ?_)
  obtain ⟨hz_4, hF_2, hu⟩ := hF_2; rw [hu] at hP; subst hF_2
  obtain ⟨t_10, hr_6, he⟩ := bnd_ex he
  have j20 : ∀ (H : Heap) (locs : List Loc) (ls : Array Slot), va_P D vwCl (wld 31 ad (cM ad k M)) H → va_S (AW 31 ad) s.heap H locs → lv_has ls 2 [] → W p l e rm_X7_countsAs s m args below meth c H locs 0 0 Q (F0 m 20 ls [.int t_10]) := by
    intro H locs ls hP hS hl
    exact hret _ _ _ _ _ _ ⟨hV.trans he.symm, rfl⟩ hP hS dX7_countsAs_20
  refine lv_if_eq (tgt := 15) hx hb dX7_countsAs_5 (by decide) (fun hc_5 => ?_) (fun hc_5 => ?_)
  · have hr_6 := ite_t hr_6 hc_5
    refine lv_aload_n hx hb dX7_countsAs_15 rfl (lv_at hl 0 rfl) ?_
    refine lv_iload_n hx hb dX7_countsAs_16 rfl (lv_at hl 1 rfl) ?_
    refine call_i [.int a1] [] hx hb hml hG hown hK (c_X7_worthOf had M a1 hT0.1 (by have q0 : (f_X7_isIn M a1).toInt = 0 := congrArg Int32.toInt hc_5; omega)) gw_28_0 gm_X7_worthOf gd_X7_worthOf rfl rfl ⟨Nat.le_of_ble_eq_true rfl, Nat.le_of_ble_eq_true rfl⟩ ⟨Nat.le_refl _, Nat.le_refl _⟩ (rX7 hK hP) hP (fun _ h => h) hS rfl hl.1 rfl (Nat.le_of_ble_eq_true rfl) dX7_countsAs_17 (fun r_7 u_9 H locs hF_8 hP hS => ?_)
    obtain ⟨hF_8, hu⟩ := hF_8; rw [hu] at hP; subst hF_8
    cases hr_6
    exact j20 _ _ _ hP hS (lv_sub hl [] rfl)
  · have hr_6 := ite_f hr_6 hc_5
    refine lv_aload_n hx hb dX7_countsAs_8 rfl (lv_at hl 0 rfl) ?_
    refine gX7_0 hx hb hG hown hK hP gw_4_8 dX7_countsAs_9 ?_
    refine lv_goto (tgt := 20) hx hb dX7_countsAs_12 (by decide) ?_
    cases hr_6
    exact j20 _ _ _ hP hS (lv_sub hl [] rfl)
def rm_X7_leadBy : Room := { frames := 5, cells := 0, slots := 0, locals := 108 }
theorem gm_X7_leadBy : Cond.instanceMethod yX7_leadBy ∈ wsL_law ∧ Cond.selects RX7 yX7_leadBy yX7_leadBy ∈ wsL_law ∧ Cond.initialized RX7 ∈ wsL_law ∧ Cond.code yX7_leadBy cX7_leadBy 7 (some .int) ∈ wsL_law := ⟨gw_34_3, gw_34_4, gw_1_5, gw_34_5⟩
theorem gd_X7_leadBy : yX7_leadBy.cls = RX7 ∧ yX7_leadBy.cls ≠ "java/lang/invoke/MethodHandle" ∧ yX7_leadBy.cls ≠ "java/lang/invoke/VarHandle" ∧ (parseMethodDescriptor yX7_leadBy.desc).map (fun d => d.parameters.length) = some 5 := by decide +kernel
set_option maxRecDepth 100000 in
set_option maxHeartbeats 0 in
theorem c_X7_leadBy {l : Launch} {D : va_G} {k : Nat → ClassId} {ad : Nat → Nat} (had : InjN 31 ad) (M : Mem) (a1 : Int32) (a2 : Int32) (a3 : Int32) (a4 : Int32) (a5 : Int32) (hI : MI M) : Met l yX7_leadBy (Cond.code yX7_leadBy cX7_leadBy 7 (some .int) :: wsL_law) rm_X7_leadBy (va_Pc [.ref (ad 0), .int a1, .int a2, .int a3, .int a4, .int a5] (GW 31 ad D k (cM ad k M))) (va_Qi (fun r u => (f_X7_leadBy M a1 a2 a3 a4 a5 = (r, u) ∧ TI M u)) (fun u t => GW 31 ad D k (cM ad k u) t) (AW 31 ad)) 0 0 (AW 31 ad) := by
  refine met_i (g := cM ad k) (M := M) (plainFor_of_name (by decide)) (Nat.le_of_ble_eq_true rfl) ?_
  intro p e s m args below meth c Q ls hx hb hml hG hown hK hret hP hS hl
  have hl : lv_has ls 7 [(0, .ref (ad 0)), (1, .int a1), (2, .int a2), (3, .int a3), (4, .int a4), (5, .int a5)] := hl
  obtain ⟨V, hV⟩ : ∃ V, f_X7_leadBy M a1 a2 a3 a4 a5 = V := ⟨_, rfl⟩
  have he := hV
  unfold f_X7_leadBy at he
  have hT0 : TI M M := TI_rf hI
  have qb_M := hI.1
  have qs_M := hI.2.1
  have qz_M := hI.2.2.1
  refine lv_aload_n hx hb dX7_leadBy_0 rfl (lv_at hl 0 rfl) ?_
  refine lv_iconst (v := 2) hx hb dX7_leadBy_1 (by decide) ?_
  refine pX7_8 hx hb hG hown hK hP had AW_in hS gw_7_13 dX7_leadBy_2 (fun H locs hP hS => ?_)
  obtain ⟨M_1, eM_1⟩ : ∃ y : Mem, y = up2 M 0 8 2 := ⟨_, rfl⟩
  rw [← eM_1] at hP
  have he := bnd_at he eM_1
  have hTM_1 : TI M M_1 := by rw [eM_1]; exact TI_boats hT0 (by decide)
  have qb_M_1 := hTM_1.1.1
  have qs_M_1 := hTM_1.1.2.1
  have qz_M_1 := hTM_1.1.2.2.1
  refine lv_aload_n hx hb dX7_leadBy_5 rfl (lv_at hl 0 rfl) ?_
  refine lv_iconst (v := 0) hx hb dX7_leadBy_6 (by decide) ?_
  refine pX7_7 hx hb hG hown hK hP had AW_in hS gw_15_22 dX7_leadBy_7 (fun H locs hP hS => ?_)
  obtain ⟨M_2, eM_2⟩ : ∃ y : Mem, y = up2 M_1 0 7 0 := ⟨_, rfl⟩
  rw [← eM_2] at hP
  have he := bnd_at he eM_2
  have hTM_2 : TI M M_2 := by rw [eM_2]; exact TI_second hTM_1 (by decide)
  have qb_M_2 := hTM_2.1.1
  have qs_M_2 := hTM_2.1.2.1
  have qz_M_2 := hTM_2.1.2.2.1
  refine lv_aload_n hx hb dX7_leadBy_10 rfl (lv_at hl 0 rfl) ?_
  refine lv_iconst (v := 4) hx hb dX7_leadBy_11 (by decide) ?_
  refine pX7_40 hx hb hG hown hK hP had AW_in hS gw_31_2 dX7_leadBy_12 (fun H locs hP hS => ?_)
  obtain ⟨M_3, eM_3⟩ : ∃ y : Mem, y = up2 M_2 0 40 4 := ⟨_, rfl⟩
  rw [← eM_3] at hP
  have he := bnd_at he eM_3
  have hTM_3 : TI M M_3 := by rw [eM_3]; exact TI_f hTM_2 (by decide)
  have qb_M_3 := hTM_3.1.1
  have qs_M_3 := hTM_3.1.2.1
  have qz_M_3 := hTM_3.1.2.2.1
  refine lv_aload_n hx hb dX7_leadBy_15 rfl (lv_at hl 0 rfl) ?_
  refine lv_iconst (v := 0) hx hb dX7_leadBy_16 (by decide) ?_
  refine lv_iload_n hx hb dX7_leadBy_17 rfl (lv_at hl 1 rfl) ?_
  refine lv_iload_n hx hb dX7_leadBy_18 rfl (lv_at hl 3 rfl) ?_
  refine lv_iconst (v := 1) hx hb dX7_leadBy_19 (by decide) ?_
  refine lv_iand hx hb dX7_leadBy_20 ?_
  refine lv_iconst (v := 1) hx hb dX7_leadBy_21 (by decide) ?_
  obtain ⟨t_6, hr_5, he⟩ := bnd_ex he
  have j30 : ∀ (H : Heap) (locs : List Loc) (ls : Array Slot), (t_6 = 0 ∨ t_6 = 1) → va_P D vwCl (wld 31 ad (cM ad k M_3)) H → va_S (AW 31 ad) s.heap H locs → lv_has ls 7 [(0, .ref (ad 0)), (2, .int a2), (3, .int a3), (4, .int a4), (5, .int a5)] → W p l e rm_X7_leadBy s m args below meth c H locs 0 0 Q (F0 m 30 ls [.int t_6, .int a1, .int 0, .ref (ad 0)]) := by
    intro H locs ls zt_6 hP hS hl
    refine lv_iload hx hb dX7_leadBy_30 (lv_at hl 3 rfl) ?_
    refine call_v [.int 0, .int a1, .int t_6, .int a4] [] hx hb hml hG hown hK (c_X7_lay had M_3 0 a1 t_6 zt_6 a4 hTM_3.1 (by omega)) gw_31_3 gm_X7_lay gd_X7_lay rfl rfl ⟨Nat.le_of_ble_eq_true rfl, Nat.le_of_ble_eq_true rfl⟩ ⟨Nat.le_refl _, Nat.le_refl _⟩ (rX7 hK hP) hP (fun _ h => h) hS rfl hl.1 rfl (Nat.le_of_ble_eq_true rfl) dX7_leadBy_32 (fun M_9 H locs hF_8 hP hS => ?_)
    obtain ⟨hF_8, hti_10⟩ := hF_8
    have he := bnd_at he hF_8.symm
    have hTM_9 : TI M M_9 := TI_tr hTM_3 hti_10
    have qb_M_9 := hTM_9.1.1
    have qs_M_9 := hTM_9.1.2.1
    have qz_M_9 := hTM_9.1.2.2.1
    refine lv_aload_n hx hb dX7_leadBy_35 rfl (lv_at hl 0 rfl) ?_
    refine lv_iconst (v := 1) hx hb dX7_leadBy_36 (by decide) ?_
    refine lv_iload_n hx hb dX7_leadBy_37 rfl (lv_at hl 1 rfl) ?_
    refine lv_iload_n hx hb dX7_leadBy_38 rfl (lv_at hl 2 rfl) ?_
    refine lv_iconst (v := 2) hx hb dX7_leadBy_39 (by decide) ?_
    refine lv_iand hx hb dX7_leadBy_40 ?_
    refine lv_iconst (v := 2) hx hb dX7_leadBy_41 (by decide) ?_
    obtain ⟨t_13, hr_12, he⟩ := bnd_ex he
    have j50 : ∀ (H : Heap) (locs : List Loc) (ls : Array Slot), (t_13 = 0 ∨ t_13 = 1) → va_P D vwCl (wld 31 ad (cM ad k M_9)) H → va_S (AW 31 ad) s.heap H locs → lv_has ls 7 [(0, .ref (ad 0)), (5, .int a5)] → W p l e rm_X7_leadBy s m args below meth c H locs 0 0 Q (F0 m 50 ls [.int t_13, .int a2, .int 1, .ref (ad 0)]) := by
      intro H locs ls zt_13 hP hS hl
      refine lv_iload hx hb dX7_leadBy_50 (lv_at hl 1 rfl) ?_
      refine call_v [.int 1, .int a2, .int t_13, .int a5] [] hx hb hml hG hown hK (c_X7_lay had M_9 1 a2 t_13 zt_13 a5 hTM_9.1 (by omega)) gw_31_3 gm_X7_lay gd_X7_lay rfl rfl ⟨Nat.le_of_ble_eq_true rfl, Nat.le_of_ble_eq_true rfl⟩ ⟨Nat.le_refl _, Nat.le_refl _⟩ (rX7 hK hP) hP (fun _ h => h) hS rfl hl.1 rfl (Nat.le_of_ble_eq_true rfl) dX7_leadBy_52 (fun M_16 H locs hF_15 hP hS => ?_)
      obtain ⟨hF_15, hti_17⟩ := hF_15
      have he := bnd_at he hF_15.symm
      have hTM_16 : TI M M_16 := TI_tr hTM_9 hti_17
      have qb_M_16 := hTM_16.1.1
      have qs_M_16 := hTM_16.1.2.1
      have qz_M_16 := hTM_16.1.2.2.1
      refine lv_iconst (v := 0) hx hb dX7_leadBy_55 (by decide) ?_
      refine lv_istore (lv' := [(6, .int 0), (0, .ref (ad 0)), (5, .int a5)]) hx hb dX7_leadBy_56 hl (by decide) rfl (fun ls hl => ?_)
      obtain ⟨M_36, hr_29, he⟩ := bnd_ex he
      have j75 : ∀ (H : Heap) (locs : List Loc) (ls : Array Slot), TI M M_36 → va_P D vwCl (wld 31 ad (cM ad k M_36)) H → va_S (AW 31 ad) s.heap H locs → lv_has ls 7 [(0, .ref (ad 0))] → W p l e rm_X7_leadBy s m args below meth c H locs 0 0 Q (F0 m 75 ls []) := by
        intro H locs ls hTM_36 hP hS hl
        have qb_M_36 := hTM_36.1.1
        have qs_M_36 := hTM_36.1.2.1
        have qz_M_36 := hTM_36.1.2.2.1
        refine lv_aload_n hx hb dX7_leadBy_75 rfl (lv_at hl 0 rfl) ?_
        refine lv_iconst (v := 0) hx hb dX7_leadBy_76 (by decide) ?_
        refine call_i [.int 0] [] hx hb hml hG hown hK (c_X7_countsAs had M_36 0 hTM_36.1 (by omega)) gw_34_6 gm_X7_countsAs gd_X7_countsAs rfl rfl ⟨Nat.le_of_ble_eq_true rfl, Nat.le_of_ble_eq_true rfl⟩ ⟨Nat.le_refl _, Nat.le_refl _⟩ (rX7 hK hP) hP (fun _ h => h) hS rfl hl.1 rfl (Nat.le_of_ble_eq_true rfl) dX7_leadBy_77 (fun r_37 u_39 H locs hF_38 hP hS => ?_)
        obtain ⟨hF_38, hu⟩ := hF_38; rw [hu] at hP; subst hF_38
        refine lv_aload_n hx hb dX7_leadBy_80 rfl (lv_at hl 0 rfl) ?_
        refine lv_iconst (v := 1) hx hb dX7_leadBy_81 (by decide) ?_
        refine call_i [.int 1] [.int (f_X7_countsAs M_36 0)] hx hb hml hG hown hK (c_X7_countsAs had M_36 1 hTM_36.1 (by omega)) gw_34_6 gm_X7_countsAs gd_X7_countsAs rfl rfl ⟨Nat.le_of_ble_eq_true rfl, Nat.le_of_ble_eq_true rfl⟩ ⟨Nat.le_refl _, Nat.le_refl _⟩ (rX7 hK hP) hP (fun _ h => h) hS rfl hl.1 rfl (Nat.le_of_ble_eq_true rfl) dX7_leadBy_82 (fun r_40 u_42 H locs hF_41 hP hS => ?_)
        obtain ⟨hF_41, hu⟩ := hF_41; rw [hu] at hP; subst hF_41
        refine lv_isub hx hb dX7_leadBy_85 ?_
        exact hret _ _ _ _ _ _ ⟨(hV.trans he.symm), hTM_36⟩ hP hS dX7_leadBy_86
      have lp58 : ∀ (nn : Nat) (H : Heap) (locs : List Loc) (ls : Array Slot) (M_28 : Mem) (v_27 : Int32), (0 ≤ v_27.toInt) → (TI M M_28) → (60 - v_27.toInt).toNat < nn → lp_X7_leadBy_58 nn M_28 v_27 = M_36 → va_P D vwCl (wld 31 ad (cM ad k M_28)) H → va_S (AW 31 ad) s.heap H locs → lv_has ls 7 [(0, .ref (ad 0)), (6, .int v_27)] → W p l e rm_X7_leadBy s m args below meth c H locs 0 0 Q (F0 m 58 ls []) := by
        intro nn
        induction nn with
        | zero =>
          intro H locs ls M_28 v_27 h0v_27 hTM_28 hμ
          exact absurd hμ (Nat.not_lt_zero _)
        | succ nn ih =>
          intro H locs ls M_28 v_27 h0v_27 hTM_28 hμ hr_29 hP hS hl
          rw [lp_X7_leadBy_58] at hr_29
          have qb_M_28 := hTM_28.1.1
          have qs_M_28 := hTM_28.1.2.1
          have qz_M_28 := hTM_28.1.2.2.1
          refine lv_iload hx hb dX7_leadBy_58 (lv_at hl 1 rfl) ?_
          refine lv_bipush (v := 60) hx hb dX7_leadBy_60 (by decide) ?_
          refine lv_icmp_ge (tgt := 75) hx hb dX7_leadBy_62 (by decide) (fun hc_30 => ?_) (fun hc_30 => ?_)
          · have hr_29 := ite_t hr_29 hc_30
            cases hr_29
            exact j75 _ _ _ hTM_28 hP hS (lv_sub hl [0] rfl)
          · have hr_29 := ite_f hr_29 hc_30
            refine lv_aload_n hx hb dX7_leadBy_65 rfl (lv_at hl 0 rfl) ?_
            refine call_v [] [] hx hb hml hG hown hK (c_X7_bitsOn had M_28 hTM_28.1 (by omega)) gw_31_7 gm_X7_bitsOn gd_X7_bitsOn rfl rfl ⟨Nat.le_of_ble_eq_true rfl, Nat.le_of_ble_eq_true rfl⟩ ⟨Nat.le_refl _, Nat.le_refl _⟩ (rX7 hK hP) hP (fun _ h => h) hS rfl hl.1 rfl (Nat.le_of_ble_eq_true rfl) dX7_leadBy_66 (fun M_33 H locs hF_32 hP hS => ?_)
            obtain ⟨hF_32, hti_34⟩ := hF_32
            have hr_29 := bnd_at hr_29 hF_32.symm
            have hTM_33 : TI M M_33 := TI_tr hTM_28 hti_34
            have qb_M_33 := hTM_33.1.1
            have qs_M_33 := hTM_33.1.2.1
            have qz_M_33 := hTM_33.1.2.2.1
            obtain ⟨y_35, ey_35⟩ : ∃ y_35 : Int32, y_35 = v_27 + 1 := ⟨_, rfl⟩
            have hr_29 := bnd_at hr_29 ey_35
            refine lv_iinc (v := y_35) (lv' := [(6, .int y_35), (0, .ref (ad 0))]) hx hb dX7_leadBy_69 hl (k := 1) rfl (by rw [ey_35]; rfl) (by decide) rfl (fun ls hl => ?_)
            refine lv_goto (tgt := 58) hx hb dX7_leadBy_72 (by decide) ?_
            exact ih _ _ _ _ _ (by rw [ey_35, inc_I (N := 60) (nle_I hc_30) (by decide)]; omega) hTM_33 (by rw [ey_35]; exact mu_I hμ (nle_I hc_30) (by decide)) hr_29 hP hS (lv_sub hl [1, 0] rfl)
      exact lp58 _ _ _ _ _ _ (by decide) hTM_16 (by decide) hr_29 hP hS (lv_sub hl [1, 0] rfl)
    refine lv_icmp_ne (tgt := 49) hx hb dX7_leadBy_42 (by decide) (fun hc_11 => ?_) (fun hc_11 => ?_)
    · have hr_12 := ite_t hr_12 hc_11
      refine lv_iconst (v := 0) hx hb dX7_leadBy_49 (by decide) ?_
      cases hr_12
      exact j50 _ _ _ (Or.inl rfl) hP hS (lv_sub hl [0, 4] rfl)
    · have hr_12 := ite_f hr_12 (fun q => q hc_11)
      refine lv_iconst (v := 1) hx hb dX7_leadBy_45 (by decide) ?_
      refine lv_goto (tgt := 50) hx hb dX7_leadBy_46 (by decide) ?_
      cases hr_12
      exact j50 _ _ _ (Or.inr rfl) hP hS (lv_sub hl [0, 4] rfl)
  refine lv_icmp_ne (tgt := 29) hx hb dX7_leadBy_22 (by decide) (fun hc_4 => ?_) (fun hc_4 => ?_)
  · have hr_5 := ite_t hr_5 hc_4
    refine lv_iconst (v := 0) hx hb dX7_leadBy_29 (by decide) ?_
    cases hr_5
    exact j30 _ _ _ (Or.inl rfl) hP hS (lv_sub hl [0, 2, 3, 4, 5] rfl)
  · have hr_5 := ite_f hr_5 (fun q => q hc_4)
    refine lv_iconst (v := 1) hx hb dX7_leadBy_25 (by decide) ?_
    refine lv_goto (tgt := 30) hx hb dX7_leadBy_26 (by decide) ?_
    cases hr_5
    exact j30 _ _ _ (Or.inr rfl) hP hS (lv_sub hl [0, 2, 3, 4, 5] rfl)
