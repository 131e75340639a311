-- @needs 12_dec 13_dec 14_dec 15_dec 31_hC 43_cC 44_cC 46_cC 47_cC
def rm_X6_endInMind : Room := { frames := 5, cells := 0, slots := 0, locals := 107 }
theorem gm_X6_endInMind : Cond.instanceMethod yX6_endInMind ∈ wsL_law ∧ Cond.selects RX6 yX6_endInMind yX6_endInMind ∈ wsL_law ∧ Cond.initialized RX6 ∈ wsL_law ∧ Cond.code yX6_endInMind cX6_endInMind 1 none ∈ wsL_law := ⟨gw_27_23, gw_28_0, gw_1_2, gw_28_1⟩
theorem gd_X6_endInMind : yX6_endInMind.cls = RX6 ∧ yX6_endInMind.cls ≠ "java/lang/invoke/MethodHandle" ∧ yX6_endInMind.cls ≠ "java/lang/invoke/VarHandle" ∧ (parseMethodDescriptor yX6_endInMind.desc).map (fun d => d.parameters.length) = some 0 := by decide +kernel
set_option maxRecDepth 100000 in
set_option maxHeartbeats 0 in
theorem c_X6_endInMind {l : Launch} {D : va_G} {k : Nat → ClassId} {ad : Nat → Nat} (had : InjN 74 ad) (M : Mem)  : Met l yX6_endInMind (Cond.code yX6_endInMind cX6_endInMind 1 none :: wsL_law) rm_X6_endInMind (va_Pc [.ref (ad 0)] (GW 74 ad D k (cC ad k M))) (va_Qv (fun u => f_X6_endInMind M = u) (fun u t => GW 74 ad D k (cC ad k u) t) (AW 74 ad)) 0 0 (AW 74 ad) := by
  refine met_v (g := cC ad k) (M := M) (plainFor_of_name (by decide)) (Nat.le_of_ble_eq_true rfl) ?_
  intro p e s m args below meth c Q ls hx hb hml hG hown hK hret hP hS hl
  have hl : lv_has ls 1 [(0, .ref (ad 0))] := hl
  obtain ⟨V, hV⟩ : ∃ V, f_X6_endInMind M = V := ⟨_, rfl⟩
  have he := hV
  unfold f_X6_endInMind at he
  refine lv_aload_n hx hb dX6_endInMind_0 rfl (lv_at hl 0 rfl) ?_
  refine gX6_6 hx hb hG hown hK hP rfl gw_2_0 dX6_endInMind_1 ?_
  refine lv_aload_n hx hb dX6_endInMind_4 rfl (lv_at hl 0 rfl) ?_
  refine gX6_1 hx hb hG hown hK hP rfl gw_1_20 dX6_endInMind_5 ?_
  refine call_v [.ref (ad 13)] [] hx hb hml hG hown hK (c_X3_take had M 15 (by decide) 13 (by decide)) gw_28_2 gm_X3_take gd_X3_take rfl rfl ⟨Nat.le_of_ble_eq_true rfl, Nat.le_of_ble_eq_true rfl⟩ ⟨Nat.le_refl _, Nat.le_refl _⟩ (rX3 hK hP (by decide)) hP (fun _ h => h) hS rfl hl.1 rfl (Nat.le_of_ble_eq_true rfl) dX6_endInMind_8 (fun M_3 H locs hF_2 hP hS => ?_)
  have he := bnd_at he hF_2.symm
  refine lv_aload_n hx hb dX6_endInMind_11 rfl (lv_at hl 0 rfl) ?_
  refine gX6_6 hx hb hG hown hK hP rfl gw_2_0 dX6_endInMind_12 ?_
  refine lv_aload_n hx hb dX6_endInMind_15 rfl (lv_at hl 0 rfl) ?_
  refine gX6_0 hx hb hG hown hK hP rfl gw_1_16 dX6_endInMind_16 ?_
  refine lv_sipush (v := 400) hx hb dX6_endInMind_19 (by decide) ?_
  refine call_v [.ref (ad 1), .int 400] [] hx hb hml hG hown hK (c_X3_goOn had M_3 15 (by decide) 1 (by decide) 400) gw_18_22 gm_X3_goOn gd_X3_goOn rfl rfl ⟨Nat.le_of_ble_eq_true rfl, Nat.le_of_ble_eq_true rfl⟩ ⟨Nat.le_refl _, Nat.le_refl _⟩ (rX3 hK hP (by decide)) hP (fun _ h => h) hS rfl hl.1 rfl (Nat.le_of_ble_eq_true rfl) dX6_endInMind_22 (fun M_6 H locs hF_5 hP hS => ?_)
  have he := bnd_at he hF_5.symm
  exact hret _ _ _ _ _ (hV.trans he.symm) hP hS dX6_endInMind_25
def rm_X6_ends : Room := { frames := 6, cells := 0, slots := 0, locals := 127 }
theorem gm_X6_ends : Cond.instanceMethod yX6_ends ∈ wsL_law ∧ Cond.selects RX6 yX6_ends yX6_ends ∈ wsL_law ∧ Cond.initialized RX6 ∈ wsL_law ∧ Cond.code yX6_ends cX6_ends 2 (some .int) ∈ wsL_law := ⟨gw_27_19, gw_27_20, gw_1_2, gw_27_21⟩
theorem gd_X6_ends : yX6_ends.cls = RX6 ∧ yX6_ends.cls ≠ "java/lang/invoke/MethodHandle" ∧ yX6_ends.cls ≠ "java/lang/invoke/VarHandle" ∧ (parseMethodDescriptor yX6_ends.desc).map (fun d => d.parameters.length) = some 1 := by decide +kernel
set_option maxRecDepth 100000 in
set_option maxHeartbeats 0 in
theorem c_X6_ends {l : Launch} {D : va_G} {k : Nat → ClassId} {ad : Nat → Nat} (had : InjN 74 ad) (M : Mem) (a1 : Int32) : Met l yX6_ends (Cond.code yX6_ends cX6_ends 2 (some .int) :: wsL_law) rm_X6_ends (va_Pc [.ref (ad 0), .int a1] (GW 74 ad D k (cC ad k M))) (va_Qi (fun r u => f_X6_ends M a1 = (r, u)) (fun u t => GW 74 ad D k (cC ad k u) t) (AW 74 ad)) 0 0 (AW 74 ad) := by
  refine met_i (g := cC ad k) (M := M) (plainFor_of_name (by decide)) (Nat.le_of_ble_eq_true rfl) ?_
  intro p e s m args below meth c Q ls hx hb hml hG hown hK hret hP hS hl
  have hl : lv_has ls 2 [(0, .ref (ad 0)), (1, .int a1)] := hl
  obtain ⟨V, hV⟩ : ∃ V, f_X6_ends M a1 = V := ⟨_, rfl⟩
  have he := hV
  unfold f_X6_ends at he
  refine lv_aload_n hx hb dX6_ends_0 rfl (lv_at hl 0 rfl) ?_
  refine gX6_1 hx hb hG hown hK hP rfl gw_1_20 dX6_ends_1 ?_
  refine lv_iload_n hx hb dX6_ends_4 rfl (lv_at hl 1 rfl) ?_
  refine call_e [.int a1] [] hx hb hml hG hown hK (c_X3_boatAt had M 13 (by decide) a1) gw_16_2 gm_X3_boatAt gd_X3_boatAt rfl rfl ⟨Nat.le_of_ble_eq_true rfl, Nat.le_of_ble_eq_true rfl⟩ ⟨Nat.le_refl _, Nat.le_refl _⟩ (rX3 hK hP (by decide)) hP (fun _ h => h) hS rfl hl.1 rfl (Nat.le_of_ble_eq_true rfl) dX6_ends_5 (fun r_1 u_3 H locs hF_2 hP hS => ?_)
  obtain ⟨hz_4, hF_2, hu⟩ := hF_2; rw [hu] at hP
  rcases r_1 with _ | b_5
  · have he := oel_n he hF_2
    refine lv_ifnonnullN hx hb dX6_ends_8 ?_
    refine lv_iconst (v := (-1)) hx hb dX6_ends_11 (by decide) ?_
    exact hret _ _ _ _ _ _ (hV.trans he.symm) hP hS dX6_ends_12
  · have he := oel_s he hF_2
    refine lv_ifnonnull (tgt := 13) hx hb dX6_ends_8 (by decide) ?_
    refine lv_aload_n hx hb dX6_ends_13 rfl (lv_at hl 0 rfl) ?_
    refine call_v [] [] hx hb hml hG hown hK (c_X6_endInMind had M) gw_27_22 gm_X6_endInMind gd_X6_endInMind rfl rfl ⟨Nat.le_of_ble_eq_true rfl, Nat.le_of_ble_eq_true rfl⟩ ⟨Nat.le_refl _, Nat.le_refl _⟩ (rX6 hK hP rfl) hP (fun _ h => h) hS rfl hl.1 rfl (Nat.le_of_ble_eq_true rfl) dX6_ends_14 (fun M_8 H locs hF_7 hP hS => ?_)
    have he := bnd_at he hF_7.symm
    refine lv_aload_n hx hb dX6_ends_17 rfl (lv_at hl 0 rfl) ?_
    refine gX6_6 hx hb hG hown hK hP rfl gw_2_0 dX6_ends_18 ?_
    refine lv_aload_n hx hb dX6_ends_21 rfl (lv_at hl 0 rfl) ?_
    refine gX6_6 hx hb hG hown hK hP rfl gw_2_0 dX6_ends_22 ?_
    refine lv_iload_n hx hb dX6_ends_25 rfl (lv_at hl 1 rfl) ?_
    refine call_e [.int a1] [.ref (ad 15)] hx hb hml hG hown hK (c_X3_boatAt had M_8 15 (by decide) a1) gw_16_2 gm_X3_boatAt gd_X3_boatAt rfl rfl ⟨Nat.le_of_ble_eq_true rfl, Nat.le_of_ble_eq_true rfl⟩ ⟨Nat.le_refl _, Nat.le_refl _⟩ (rX3 hK hP (by decide)) hP (fun _ h => h) hS rfl hl.1 rfl (Nat.le_of_ble_eq_true rfl) dX6_ends_26 (fun r_9 u_11 H locs hF_10 hP hS => ?_)
    obtain ⟨hz_12, hF_10, hu⟩ := hF_10; rw [hu] at hP
    rcases r_9 with _ | b_13
    · have he := oel_n he hF_10
      refine call_i [.null] [] hx hb hml hG hown hK (c_X3_placeOf had M_8 15 (by decide) none (fun _ h => nomatch h)) gw_28_11 gm_X3_placeOf gd_X3_placeOf rfl rfl ⟨Nat.le_of_ble_eq_true rfl, Nat.le_of_ble_eq_true rfl⟩ ⟨Nat.le_refl _, Nat.le_refl _⟩ (rX3 hK hP (by decide)) hP (fun _ h => h) hS rfl hl.1 rfl (Nat.le_of_ble_eq_true rfl) dX6_ends_29 (fun r_14 u_16 H locs hF_15 hP hS => ?_)
      obtain ⟨hF_15, hu⟩ := hF_15; rw [hu] at hP; subst hF_15
      exact hret _ _ _ _ _ _ (hV.trans he.symm) hP hS dX6_ends_32
    · have he := oel_s he hF_10
      refine call_i [.ref (ad b_13)] [] hx hb hml hG hown hK (c_X3_placeOf had M_8 15 (by decide) (some b_13) (fun _ h => by cases h; exact (hz_12 _ rfl))) gw_28_11 gm_X3_placeOf gd_X3_placeOf rfl rfl ⟨Nat.le_of_ble_eq_true rfl, Nat.le_of_ble_eq_true rfl⟩ ⟨Nat.le_refl _, Nat.le_refl _⟩ (rX3 hK hP (by decide)) hP (fun _ h => h) hS rfl hl.1 rfl (Nat.le_of_ble_eq_true rfl) dX6_ends_29 (fun r_17 u_19 H locs hF_18 hP hS => ?_)
      obtain ⟨hF_18, hu⟩ := hF_18; rw [hu] at hP; subst hF_18
      exact hret _ _ _ _ _ _ (hV.trans he.symm) hP hS dX6_ends_32
def rm_X3_clear : Room := { frames := 0, cells := 0, slots := 0, locals := 0 }
theorem gm_X3_clear : Cond.instanceMethod yX3_clear ∈ wsL_law ∧ Cond.selects RX3 yX3_clear yX3_clear ∈ wsL_law ∧ Cond.initialized RX3 ∈ wsL_law ∧ Cond.code yX3_clear cX3_clear 1 none ∈ wsL_law := ⟨gw_30_4, gw_30_5, gw_1_19, gw_30_6⟩
theorem gd_X3_clear : yX3_clear.cls = RX3 ∧ yX3_clear.cls ≠ "java/lang/invoke/MethodHandle" ∧ yX3_clear.cls ≠ "java/lang/invoke/VarHandle" ∧ (parseMethodDescriptor yX3_clear.desc).map (fun d => d.parameters.length) = some 0 := by decide +kernel
set_option maxRecDepth 100000 in
set_option maxHeartbeats 0 in
theorem c_X3_clear {l : Launch} {D : va_G} {k : Nat → ClassId} {ad : Nat → Nat} (had : InjN 74 ad) (M : Mem) (o : Nat) (ho : kRace o) : Met l yX3_clear (Cond.code yX3_clear cX3_clear 1 none :: wsL_law) rm_X3_clear (va_Pc [.ref (ad o)] (GW 74 ad D k (cC ad k M))) (va_Qv (fun u => f_X3_clear M o = u) (fun u t => GW 74 ad D k (cC ad k u) t) (AW 74 ad)) 0 0 (AW 74 ad) := by
  refine met_v (g := cC ad k) (M := M) (plainFor_of_name (by decide)) (Nat.le_of_ble_eq_true rfl) ?_
  intro p e s m args below meth c Q ls hx hb hml hG hown hK hret hP hS hl
  have hl : lv_has ls 1 [(0, .ref (ad o))] := hl
  obtain ⟨V, hV⟩ : ∃ V, f_X3_clear M o = V := ⟨_, rfl⟩
  have he := hV
  unfold f_X3_clear at he
  refine lv_aload_n hx hb dX3_clear_0 rfl (lv_at hl 0 rfl) ?_
  refine lv_iconst (v := 0) hx hb dX3_clear_1 (by decide) ?_
  refine pX3_1 hx hb hG hown hK hP had AW_in hS ho gw_6_7 dX3_clear_2 (fun H locs hP hS => ?_)
  obtain ⟨M_1, eM_1⟩ : ∃ y : Mem, y = up2 M o 1 0 := ⟨_, rfl⟩
  rw [← eM_1] at hP
  have he := bnd_at he eM_1
  refine lv_aload_n hx hb dX3_clear_5 rfl (lv_at hl 0 rfl) ?_
  refine lv_iconst (v := 0) hx hb dX3_clear_6 (by decide) ?_
  refine pX3_2 hx hb hG hown hK hP had AW_in hS ho gw_18_13 dX3_clear_7 (fun H locs hP hS => ?_)
  obtain ⟨M_2, eM_2⟩ : ∃ y : Mem, y = up2 M_1 o 2 0 := ⟨_, rfl⟩
  rw [← eM_2] at hP
  have he := bnd_at he eM_2
  exact hret _ _ _ _ _ (hV.trans he.symm) hP hS dX3_clear_10
def rm_X6_secondsAlone : Room := { frames := 5, cells := 0, slots := 0, locals := 107 }
theorem gm_X6_secondsAlone : Cond.instanceMethod yX6_secondsAlone ∈ wsL_law ∧ Cond.selects RX6 yX6_secondsAlone yX6_secondsAlone ∈ wsL_law ∧ Cond.initialized RX6 ∈ wsL_law ∧ Cond.code yX6_secondsAlone cX6_secondsAlone 4 (some .int) ∈ wsL_law := ⟨gw_30_0, gw_30_1, gw_1_2, gw_30_2⟩
theorem gd_X6_secondsAlone : yX6_secondsAlone.cls = RX6 ∧ yX6_secondsAlone.cls ≠ "java/lang/invoke/MethodHandle" ∧ yX6_secondsAlone.cls ≠ "java/lang/invoke/VarHandle" ∧ (parseMethodDescriptor yX6_secondsAlone.desc).map (fun d => d.parameters.length) = some 3 := by decide +kernel
set_option maxRecDepth 100000 in
set_option maxHeartbeats 0 in
theorem c_X6_secondsAlone {l : Launch} {D : va_G} {k : Nat → ClassId} {ad : Nat → Nat} (had : InjN 74 ad) (M : Mem) (a1 : Int32) (a2 : Int32) (ha2 : a2 = 0 ∨ a2 = 1) (a3 : Int32) : Met l yX6_secondsAlone (Cond.code yX6_secondsAlone cX6_secondsAlone 4 (some .int) :: wsL_law) rm_X6_secondsAlone (va_Pc [.ref (ad 0), .int a1, .int a2, .int a3] (GW 74 ad D k (cC ad k M))) (va_Qi (fun r u => f_X6_secondsAlone M a1 a2 a3 = (r, u)) (fun u t => GW 74 ad D k (cC ad k u) t) (AW 74 ad)) 0 0 (AW 74 ad) := by
  refine met_i (g := cC ad k) (M := M) (plainFor_of_name (by decide)) (Nat.le_of_ble_eq_true rfl) ?_
  intro p e s m args below meth c Q ls hx hb hml hG hown hK hret hP hS hl
  have hl : lv_has ls 4 [(0, .ref (ad 0)), (1, .int a1), (2, .int a2), (3, .int a3)] := hl
  obtain ⟨V, hV⟩ : ∃ V, f_X6_secondsAlone M a1 a2 a3 = V := ⟨_, rfl⟩
  have he := hV
  unfold f_X6_secondsAlone at he
  refine lv_aload_n hx hb dX6_secondsAlone_0 rfl (lv_at hl 0 rfl) ?_
  refine gX6_6 hx hb hG hown hK hP rfl gw_2_0 dX6_secondsAlone_1 ?_
  refine call_v [] [] hx hb hml hG hown hK (c_X3_clear had M 15 (by decide)) gw_30_3 gm_X3_clear gd_X3_clear rfl rfl ⟨Nat.le_of_ble_eq_true rfl, Nat.le_of_ble_eq_true rfl⟩ ⟨Nat.le_refl _, Nat.le_refl _⟩ (rX3 hK hP (by decide)) hP (fun _ h => h) hS rfl hl.1 rfl (Nat.le_of_ble_eq_true rfl) dX6_secondsAlone_4 (fun M_3 H locs hF_2 hP hS => ?_)
  have he := bnd_at he hF_2.symm
  refine lv_aload_n hx hb dX6_secondsAlone_7 rfl (lv_at hl 0 rfl) ?_
  refine gX6_6 hx hb hG hown hK hP rfl gw_2_0 dX6_secondsAlone_8 ?_
  refine lv_bipush (v := 8) hx hb dX6_secondsAlone_11 (by decide) ?_
  refine lv_iload_n hx hb dX6_secondsAlone_13 rfl (lv_at hl 1 rfl) ?_
  refine lv_iload_n hx hb dX6_secondsAlone_14 rfl (lv_at hl 2 rfl) ?_
  refine lv_iload_n hx hb dX6_secondsAlone_15 rfl (lv_at hl 3 rfl) ?_
  refine call_i [.int 8, .int a1, .int a2, .int a3] [] hx hb hml hG hown hK (c_X3_enter had M_3 15 (by decide) 8 a1 a2 ha2 a3) gw_14_2 gm_X3_enter gd_X3_enter rfl rfl ⟨Nat.le_of_ble_eq_true rfl, Nat.le_of_ble_eq_true rfl⟩ ⟨Nat.le_refl _, Nat.le_refl _⟩ (rX3 hK hP (by decide)) hP (fun _ h => h) hS rfl hl.1 rfl (Nat.le_of_ble_eq_true rfl) dX6_secondsAlone_16 (fun r_4 M_6 H locs hF_5 hP hS => ?_)
  have he := bnd2_at he hF_5
  refine lv_pop hx hb dX6_secondsAlone_19 rfl ?_
  refine lv_aload_n hx hb dX6_secondsAlone_20 rfl (lv_at hl 0 rfl) ?_
  refine gX6_6 hx hb hG hown hK hP rfl gw_2_0 dX6_secondsAlone_21 ?_
  refine lv_aload_n hx hb dX6_secondsAlone_24 rfl (lv_at hl 0 rfl) ?_
  refine gX6_0 hx hb hG hown hK hP rfl gw_1_16 dX6_secondsAlone_25 ?_
  refine lv_sipush (v := 400) hx hb dX6_secondsAlone_28 (by decide) ?_
  refine call_v [.ref (ad 1), .int 400] [] hx hb hml hG hown hK (c_X3_goOn had M_6 15 (by decide) 1 (by decide) 400) gw_18_22 gm_X3_goOn gd_X3_goOn rfl rfl ⟨Nat.le_of_ble_eq_true rfl, Nat.le_of_ble_eq_true rfl⟩ ⟨Nat.le_refl _, Nat.le_refl _⟩ (rX3 hK hP (by decide)) hP (fun _ h => h) hS rfl hl.1 rfl (Nat.le_of_ble_eq_true rfl) dX6_secondsAlone_31 (fun M_9 H locs hF_8 hP hS => ?_)
  have he := bnd_at he hF_8.symm
  refine lv_aload_n hx hb dX6_secondsAlone_34 rfl (lv_at hl 0 rfl) ?_
  refine gX6_6 hx hb hG hown hK hP rfl gw_2_0 dX6_secondsAlone_35 ?_
  refine gX3_2 hx hb hG hown hK hP (by decide) gw_13_18 dX6_secondsAlone_38 ?_
  exact hret _ _ _ _ _ _ (hV.trans he.symm) hP hS dX6_secondsAlone_41
def rm_X6_tacks : Room := { frames := 6, cells := 0, slots := 0, locals := 130 }
theorem gm_X6_tacks : Cond.instanceMethod yX6_tacks ∈ wsL_law ∧ Cond.selects RX6 yX6_tacks yX6_tacks ∈ wsL_law ∧ Cond.initialized RX6 ∈ wsL_law ∧ Cond.code yX6_tacks cX6_tacks 4 (some .int) ∈ wsL_law := ⟨gw_29_20, gw_29_21, gw_1_2, gw_29_22⟩
theorem gd_X6_tacks : yX6_tacks.cls = RX6 ∧ yX6_tacks.cls ≠ "java/lang/invoke/MethodHandle" ∧ yX6_tacks.cls ≠ "java/lang/invoke/VarHandle" ∧ (parseMethodDescriptor yX6_tacks.desc).map (fun d => d.parameters.length) = some 3 := by decide +kernel
set_option maxRecDepth 100000 in
set_option maxHeartbeats 0 in
theorem c_X6_tacks {l : Launch} {D : va_G} {k : Nat → ClassId} {ad : Nat → Nat} (had : InjN 74 ad) (M : Mem) (a1 : Int32) (a2 : Int32) (ha2 : a2 = 0 ∨ a2 = 1) (a3 : Int32) : Met l yX6_tacks (Cond.code yX6_tacks cX6_tacks 4 (some .int) :: wsL_law) rm_X6_tacks (va_Pc [.ref (ad 0), .int a1, .int a2, .int a3] (GW 74 ad D k (cC ad k M))) (va_Qi (fun r u => f_X6_tacks M a1 a2 a3 = (r, u)) (fun u t => GW 74 ad D k (cC ad k u) t) (AW 74 ad)) 0 0 (AW 74 ad) := by
  refine met_i (g := cC ad k) (M := M) (plainFor_of_name (by decide)) (Nat.le_of_ble_eq_true rfl) ?_
  intro p e s m args below meth c Q ls hx hb hml hG hown hK hret hP hS hl
  have hl : lv_has ls 4 [(0, .ref (ad 0)), (1, .int a1), (2, .int a2), (3, .int a3)] := hl
  obtain ⟨V, hV⟩ : ∃ V, f_X6_tacks M a1 a2 a3 = V := ⟨_, rfl⟩
  have he := hV
  unfold f_X6_tacks at he
  refine lv_iload_n hx hb dX6_tacks_0 rfl (lv_at hl 1 rfl) ?_
  refine callS_i [.int a1] [] hx hb hml hG hown hK (c_X6_isInBay had (M := M)  a1) gw_13_19 gm_X6_isInBay gd_X6_isInBay rfl rfl ⟨Nat.le_of_ble_eq_true rfl, Nat.le_of_ble_eq_true rfl⟩ ⟨Nat.le_refl _, Nat.le_refl _⟩ hP (fun _ h => h) hS rfl hl.1 rfl (Nat.le_of_ble_eq_true rfl) dX6_tacks_1 (fun r_1 u_3 H locs hF_2 hP hS => ?_)
  obtain ⟨hz_4, hF_2, hu⟩ := hF_2; rw [hu] at hP; subst hF_2
  refine lv_if_eq (tgt := 18) hx hb dX6_tacks_4 (by decide) (fun hc_5 => ?_) (fun hc_5 => ?_)
  · have he := ite_t he hc_5
    refine lv_iconst (v := (-1)) hx hb dX6_tacks_18 (by decide) ?_
    exact hret _ _ _ _ _ _ (hV.trans he.symm) hP hS dX6_tacks_19
  · have he := ite_f he hc_5
    refine lv_iload_n hx hb dX6_tacks_7 rfl (lv_at hl 3 rfl) ?_
    refine lv_if_lt (tgt := 18) hx hb dX6_tacks_8 (by decide) (fun hc_6 => ?_) (fun hc_6 => ?_)
    · have he := ite_t he hc_6
      refine lv_iconst (v := (-1)) hx hb dX6_tacks_18 (by decide) ?_
      exact hret _ _ _ _ _ _ (hV.trans he.symm) hP hS dX6_tacks_19
    · have he := ite_f he hc_6
      refine lv_iload_n hx hb dX6_tacks_11 rfl (lv_at hl 3 rfl) ?_
      refine lv_sipush (v := 256) hx hb dX6_tacks_12 (by decide) ?_
      refine lv_icmp_lt (tgt := 20) hx hb dX6_tacks_15 (by decide) (fun hc_7 => ?_) (fun hc_7 => ?_)
      · have he := ite_t he hc_7
        refine lv_aload_n hx hb dX6_tacks_20 rfl (lv_at hl 0 rfl) ?_
        refine lv_iload_n hx hb dX6_tacks_21 rfl (lv_at hl 1 rfl) ?_
        refine lv_iload_n hx hb dX6_tacks_22 rfl (lv_at hl 2 rfl) ?_
        refine lv_iload_n hx hb dX6_tacks_23 rfl (lv_at hl 3 rfl) ?_
        refine call_i [.int a1, .int a2, .int a3] [] hx hb hml hG hown hK (c_X6_secondsAlone had M a1 a2 ha2 a3) gw_29_23 gm_X6_secondsAlone gd_X6_secondsAlone rfl rfl ⟨Nat.le_of_ble_eq_true rfl, Nat.le_of_ble_eq_true rfl⟩ ⟨Nat.le_refl _, Nat.le_refl _⟩ (rX6 hK hP rfl) hP (fun _ h => h) hS rfl hl.1 rfl (Nat.le_of_ble_eq_true rfl) dX6_tacks_24 (fun r_8 M_10 H locs hF_9 hP hS => ?_)
        have he := bnd2_at he hF_9
        exact hret _ _ _ _ _ _ (hV.trans he.symm) hP hS dX6_tacks_27
      · have he := ite_f he hc_7
        refine lv_iconst (v := (-1)) hx hb dX6_tacks_18 (by decide) ?_
        exact hret _ _ _ _ _ _ (hV.trans he.symm) hP hS dX6_tacks_19
def rm_X6_bestAlone : Room := { frames := 6, cells := 0, slots := 0, locals := 130 }
theorem gm_X6_bestAlone : Cond.instanceMethod yX6_bestAlone ∈ wsL_law ∧ Cond.selects RX6 yX6_bestAlone yX6_bestAlone ∈ wsL_law ∧ Cond.initialized RX6 ∈ wsL_law ∧ Cond.code yX6_bestAlone cX6_bestAlone 6 (some .int) ∈ wsL_law := ⟨gw_31_10, gw_31_11, gw_1_2, gw_31_12⟩
theorem gd_X6_bestAlone : yX6_bestAlone.cls = RX6 ∧ yX6_bestAlone.cls ≠ "java/lang/invoke/MethodHandle" ∧ yX6_bestAlone.cls ≠ "java/lang/invoke/VarHandle" ∧ (parseMethodDescriptor yX6_bestAlone.desc).map (fun d => d.parameters.length) = some 2 := by decide +kernel
set_option maxRecDepth 100000 in
set_option maxHeartbeats 0 in
theorem c_X6_bestAlone {l : Launch} {D : va_G} {k : Nat → ClassId} {ad : Nat → Nat} (had : InjN 74 ad) (M : Mem) (a1 : Int32) (a2 : Int32) (ha2 : a2 = 0 ∨ a2 = 1) : Met l yX6_bestAlone (Cond.code yX6_bestAlone cX6_bestAlone 6 (some .int) :: wsL_law) rm_X6_bestAlone (va_Pc [.ref (ad 0), .int a1, .int a2] (GW 74 ad D k (cC ad k M))) (va_Qi (fun r u => f_X6_bestAlone M a1 a2 = (r, u)) (fun u t => GW 74 ad D k (cC ad k u) t) (AW 74 ad)) 0 0 (AW 74 ad) := by
  refine met_i (g := cC ad k) (M := M) (plainFor_of_name (by decide)) (Nat.le_of_ble_eq_true rfl) ?_
  intro p e s m args below meth c Q ls hx hb hml hG hown hK hret hP hS hl
  have hl : lv_has ls 6 [(0, .ref (ad 0)), (1, .int a1), (2, .int a2)] := hl
  obtain ⟨V, hV⟩ : ∃ V, f_X6_bestAlone M a1 a2 = V := ⟨_, rfl⟩
  have he := hV
  unfold f_X6_bestAlone at he
  refine lv_aload_n hx hb dX6_bestAlone_0 rfl (lv_at hl 0 rfl) ?_
  refine lv_iload_n hx hb dX6_bestAlone_1 rfl (lv_at hl 1 rfl) ?_
  refine lv_iload_n hx hb dX6_bestAlone_2 rfl (lv_at hl 2 rfl) ?_
  refine lv_iconst (v := 0) hx hb dX6_bestAlone_3 (by decide) ?_
  refine call_i [.int a1, .int a2, .int 0] [] hx hb hml hG hown hK (c_X6_secondsAlone had M a1 a2 ha2 0) gw_29_23 gm_X6_secondsAlone gd_X6_secondsAlone rfl rfl ⟨Nat.le_of_ble_eq_true rfl, Nat.le_of_ble_eq_true rfl⟩ ⟨Nat.le_refl _, Nat.le_refl _⟩ (rX6 hK hP rfl) hP (fun _ h => h) hS rfl hl.1 rfl (Nat.le_of_ble_eq_true rfl) dX6_bestAlone_4 (fun r_1 M_3 H locs hF_2 hP hS => ?_)
  have he := bnd2_at he hF_2
  refine lv_sipush (v := 256) hx hb dX6_bestAlone_7 (by decide) ?_
  refine lv_imul hx hb dX6_bestAlone_10 ?_
  refine lv_topi (fun y_4 ey_4 => ?_)
  have he := bnd_at he ey_4
  refine lv_istore_n (lv' := [(3, .int y_4), (0, .ref (ad 0)), (1, .int a1), (2, .int a2)]) hx hb dX6_bestAlone_11 rfl hl (by decide) rfl (fun ls hl => ?_)
  refine lv_iconst (v := 0) hx hb dX6_bestAlone_12 (by decide) ?_
  refine lv_istore (lv' := [(4, .int 0), (3, .int y_4), (0, .ref (ad 0)), (1, .int a1), (2, .int a2)]) hx hb dX6_bestAlone_13 hl (by decide) rfl (fun ls hl => ?_)
  have lp15 : ∀ (nn : Nat) (H : Heap) (locs : List Loc) (ls : Array Slot) (M_26 : Mem) (v_24 : Int32) (v_25 : Int32), (0 ≤ v_25.toInt) → (8 - v_25.toInt).toNat < nn → lp_X6_bestAlone_15 nn a1 a2 M_26 v_24 v_25 = V → va_P D vwCl (wld 74 ad (cC ad k M_26)) H → va_S (AW 74 ad) s.heap H locs → lv_has ls 6 [(0, .ref (ad 0)), (1, .int a1), (2, .int a2), (3, .int v_24), (4, .int v_25)] → W p l e rm_X6_bestAlone s m args below meth c H locs 0 0 Q (F0 m 15 ls []) := by
    intro nn
    induction nn with
    | zero =>
      intro H locs ls M_26 v_24 v_25 h0v_25 hμ
      exact absurd hμ (Nat.not_lt_zero _)
    | succ nn ih =>
      intro H locs ls M_26 v_24 v_25 h0v_25 hμ he hP hS hl
      rw [lp_X6_bestAlone_15] at he
      refine lv_iload hx hb dX6_bestAlone_15 (lv_at hl 4 rfl) ?_
      refine lv_bipush (v := 8) hx hb dX6_bestAlone_17 (by decide) ?_
      refine lv_icmp_ge (tgt := 87) hx hb dX6_bestAlone_19 (by decide) (fun hc_27 => ?_) (fun hc_27 => ?_)
      · have he := ite_t he hc_27
        refine lv_iload_n hx hb dX6_bestAlone_87 rfl (lv_at hl 3 rfl) ?_
        exact hret _ _ _ _ _ _ (hV.trans he.symm) hP hS dX6_bestAlone_88
      · have he := ite_f he hc_27
        refine lv_iload hx hb dX6_bestAlone_22 (lv_at hl 4 rfl) ?_
        refine lv_iconst (v := 1) hx hb dX6_bestAlone_24 (by decide) ?_
        refine lv_iadd hx hb dX6_bestAlone_25 ?_
        refine lv_bipush (v := 10) hx hb dX6_bestAlone_26 (by decide) ?_
        refine lv_imul hx hb dX6_bestAlone_28 ?_
        refine lv_iload_n hx hb dX6_bestAlone_29 rfl (lv_at hl 3 rfl) ?_
        refine lv_sipush (v := 256) hx hb dX6_bestAlone_30 (by decide) ?_
        refine lv_idiv hx hb dX6_bestAlone_33 (by decide) ?_
        refine lv_icmp_lt (tgt := 40) hx hb dX6_bestAlone_34 (by decide) (fun hc_28 => ?_) (fun hc_28 => ?_)
        · have he := ite_t he hc_28
          refine lv_iconst (v := 1) hx hb dX6_bestAlone_40 (by decide) ?_
          refine lv_iload hx hb dX6_bestAlone_41 (lv_at hl 4 rfl) ?_
          refine lv_ishl hx hb dX6_bestAlone_43 ?_
          refine lv_topi (fun y_29 ey_29 => ?_)
          have he := bnd_at he ey_29
          refine lv_istore (lv' := [(5, .int y_29), (0, .ref (ad 0)), (1, .int a1), (2, .int a2), (3, .int v_24), (4, .int v_25)]) hx hb dX6_bestAlone_44 hl (by decide) rfl (fun ls hl => ?_)
          obtain ⟨w_40, M_41, hr_33, he⟩ := bnd2_ex he
          have j81 : ∀ (H : Heap) (locs : List Loc) (ls : Array Slot), va_P D vwCl (wld 74 ad (cC ad k M_41)) H → va_S (AW 74 ad) s.heap H locs → lv_has ls 6 [(0, .ref (ad 0)), (1, .int a1), (2, .int a2), (3, .int w_40), (4, .int v_25)] → W p l e rm_X6_bestAlone s m args below meth c H locs 0 0 Q (F0 m 81 ls []) := by
            intro H locs ls hP hS hl
            obtain ⟨y_42, ey_42⟩ : ∃ y_42 : Int32, y_42 = v_25 + 1 := ⟨_, rfl⟩
            have he := bnd_at he ey_42
            refine lv_iinc (v := y_42) (lv' := [(4, .int y_42), (0, .ref (ad 0)), (1, .int a1), (2, .int a2), (3, .int w_40)]) hx hb dX6_bestAlone_81 hl (k := 4) rfl (by rw [ey_42]; rfl) (by decide) rfl (fun ls hl => ?_)
            refine lv_goto (tgt := 15) hx hb dX6_bestAlone_84 (by decide) ?_
            exact ih _ _ _ _ _ _ (by rw [ey_42, inc_I (N := 8) (nle_I hc_27) (by decide)]; omega) (by rw [ey_42]; exact mu_I hμ (nle_I hc_27) (by decide)) he hP hS (lv_sub hl [1, 2, 3, 4, 0] rfl)
          have lp46 : ∀ (nn : Nat) (H : Heap) (locs : List Loc) (ls : Array Slot) (M_32 : Mem) (v_30 : Int32) (v_31 : Int32), ((2 <<< (v_25 &&& 31)).toInt - v_31.toInt).toNat < nn → lp_X6_bestAlone_46' nn a1 a2 v_25 M_32 v_30 v_31 = (w_40, M_41) → va_P D vwCl (wld 74 ad (cC ad k M_32)) H → va_S (AW 74 ad) s.heap H locs → lv_has ls 6 [(0, .ref (ad 0)), (1, .int a1), (2, .int a2), (3, .int v_30), (4, .int v_25), (5, .int v_31)] → W p l e rm_X6_bestAlone s m args below meth c H locs 0 0 Q (F0 m 46 ls []) := by
            intro nn
            induction nn with
            | zero =>
              intro H locs ls M_32 v_30 v_31 hμ
              exact absurd hμ (Nat.not_lt_zero _)
            | succ nn ih =>
              intro H locs ls M_32 v_30 v_31 hμ hr_33 hP hS hl
              rw [lp_X6_bestAlone_46'] at hr_33
              refine lv_iload hx hb dX6_bestAlone_46 (lv_at hl 5 rfl) ?_
              refine lv_iconst (v := 2) hx hb dX6_bestAlone_48 (by decide) ?_
              refine lv_iload hx hb dX6_bestAlone_49 (lv_at hl 4 rfl) ?_
              refine lv_ishl hx hb dX6_bestAlone_51 ?_
              refine lv_icmp_ge (tgt := 81) hx hb dX6_bestAlone_52 (by decide) (fun hc_34 => ?_) (fun hc_34 => ?_)
              · have hr_33 := ite_t hr_33 hc_34
                cases hr_33
                exact j81 _ _ _ hP hS (lv_sub hl [0, 1, 2, 3, 4] rfl)
              · have hr_33 := ite_f hr_33 hc_34
                refine lv_iload_n hx hb dX6_bestAlone_55 rfl (lv_at hl 3 rfl) ?_
                refine lv_aload_n hx hb dX6_bestAlone_56 rfl (lv_at hl 0 rfl) ?_
                refine lv_iload_n hx hb dX6_bestAlone_57 rfl (lv_at hl 1 rfl) ?_
                refine lv_iload_n hx hb dX6_bestAlone_58 rfl (lv_at hl 2 rfl) ?_
                refine lv_iload hx hb dX6_bestAlone_59 (lv_at hl 5 rfl) ?_
                refine call_i [.int a1, .int a2, .int v_31] [.int v_30] hx hb hml hG hown hK (c_X6_secondsAlone had M_32 a1 a2 ha2 v_31) gw_29_23 gm_X6_secondsAlone gd_X6_secondsAlone rfl rfl ⟨Nat.le_of_ble_eq_true rfl, Nat.le_of_ble_eq_true rfl⟩ ⟨Nat.le_refl _, Nat.le_refl _⟩ (rX6 hK hP rfl) hP (fun _ h => h) hS rfl hl.1 rfl (Nat.le_of_ble_eq_true rfl) dX6_bestAlone_61 (fun r_35 M_37 H locs hF_36 hP hS => ?_)
                have hr_33 := bnd2_at hr_33 hF_36
                refine lv_sipush (v := 256) hx hb dX6_bestAlone_64 (by decide) ?_
                refine lv_imul hx hb dX6_bestAlone_67 ?_
                refine lv_iload hx hb dX6_bestAlone_68 (lv_at hl 5 rfl) ?_
                refine lv_iadd hx hb dX6_bestAlone_70 ?_
                refine w_min hx hb hml hG hown gw_31_13 (Nat.le_of_ble_eq_true rfl) (Nat.le_of_ble_eq_true rfl) hl.1 ⟨Nat.le_refl _, Nat.le_refl _⟩ dX6_bestAlone_71 ?_
                refine lv_topi (fun y_38 ey_38 => ?_)
                have hr_33 := bnd_at hr_33 ey_38
                refine lv_istore_n (lv' := [(3, .int y_38), (0, .ref (ad 0)), (1, .int a1), (2, .int a2), (4, .int v_25), (5, .int v_31)]) hx hb dX6_bestAlone_74 rfl hl (by decide) rfl (fun ls hl => ?_)
                obtain ⟨y_39, ey_39⟩ : ∃ y_39 : Int32, y_39 = v_31 + 1 := ⟨_, rfl⟩
                have hr_33 := bnd_at hr_33 ey_39
                refine lv_iinc (v := y_39) (lv' := [(5, .int y_39), (3, .int y_38), (0, .ref (ad 0)), (1, .int a1), (2, .int a2), (4, .int v_25)]) hx hb dX6_bestAlone_75 hl (k := 5) rfl (by rw [ey_39]; rfl) (by decide) rfl (fun ls hl => ?_)
                refine lv_goto (tgt := 46) hx hb dX6_bestAlone_78 (by decide) ?_
                exact ih _ _ _ _ _ _ (by rw [ey_39]; exact mu_I hμ (nle_I hc_34) (Int32.toInt_le _)) hr_33 hP hS (lv_sub hl [2, 3, 4, 1, 5, 0] rfl)
          exact lp46 _ _ _ _ _ _ _ (Nat.lt_succ_self _) hr_33 hP hS (lv_sub hl [1, 2, 3, 4, 5, 0] rfl)
        · have he := ite_f he hc_28
          refine lv_goto (tgt := 87) hx hb dX6_bestAlone_37 (by decide) ?_
          refine lv_iload_n hx hb dX6_bestAlone_87 rfl (lv_at hl 3 rfl) ?_
          exact hret _ _ _ _ _ _ (hV.trans he.symm) hP hS dX6_bestAlone_88
  exact lp15 _ _ _ _ _ _ _ (by decide) (by decide) he hP hS (lv_sub hl [2, 3, 4, 1, 0] rfl)
def rm_X6_best : Room := { frames := 7, cells := 0, slots := 0, locals := 155 }
theorem gm_X6_best : Cond.instanceMethod yX6_best ∈ wsL_law ∧ Cond.selects RX6 yX6_best yX6_best ∈ wsL_law ∧ Cond.initialized RX6 ∈ wsL_law ∧ Cond.code yX6_best cX6_best 5 (some .int) ∈ wsL_law := ⟨gw_31_6, gw_31_7, gw_1_2, gw_31_8⟩
theorem gd_X6_best : yX6_best.cls = RX6 ∧ yX6_best.cls ≠ "java/lang/invoke/MethodHandle" ∧ yX6_best.cls ≠ "java/lang/invoke/VarHandle" ∧ (parseMethodDescriptor yX6_best.desc).map (fun d => d.parameters.length) = some 3 := by decide +kernel
set_option maxRecDepth 100000 in
set_option maxHeartbeats 0 in
theorem c_X6_best {l : Launch} {D : va_G} {k : Nat → ClassId} {ad : Nat → Nat} (had : InjN 74 ad) (M : Mem) (a1 : Int32) (a2 : Int32) (ha2 : a2 = 0 ∨ a2 = 1) (a3 : Int32) : Met l yX6_best (Cond.code yX6_best cX6_best 5 (some .int) :: wsL_law) rm_X6_best (va_Pc [.ref (ad 0), .int a1, .int a2, .int a3] (GW 74 ad D k (cC ad k M))) (va_Qi (fun r u => f_X6_best M a1 a2 a3 = (r, u)) (fun u t => GW 74 ad D k (cC ad k u) t) (AW 74 ad)) 0 0 (AW 74 ad) := by
  refine met_i (g := cC ad k) (M := M) (plainFor_of_name (by decide)) (Nat.le_of_ble_eq_true rfl) ?_
  intro p e s m args below meth c Q ls hx hb hml hG hown hK hret hP hS hl
  have hl : lv_has ls 5 [(0, .ref (ad 0)), (1, .int a1), (2, .int a2), (3, .int a3)] := hl
  obtain ⟨V, hV⟩ : ∃ V, f_X6_best M a1 a2 a3 = V := ⟨_, rfl⟩
  have he := hV
  unfold f_X6_best at he
  refine lv_iload_n hx hb dX6_best_0 rfl (lv_at hl 1 rfl) ?_
  refine callS_i [.int a1] [] hx hb hml hG hown hK (c_X6_isInBay had (M := M)  a1) gw_13_19 gm_X6_isInBay gd_X6_isInBay rfl rfl ⟨Nat.le_of_ble_eq_true rfl, Nat.le_of_ble_eq_true rfl⟩ ⟨Nat.le_refl _, Nat.le_refl _⟩ hP (fun _ h => h) hS rfl hl.1 rfl (Nat.le_of_ble_eq_true rfl) dX6_best_1 (fun r_1 u_3 H locs hF_2 hP hS => ?_)
  obtain ⟨hz_4, hF_2, hu⟩ := hF_2; rw [hu] at hP; subst hF_2
  refine lv_if_eq (tgt := 16) hx hb dX6_best_4 (by decide) (fun hc_5 => ?_) (fun hc_5 => ?_)
  · have he := ite_t he hc_5
    refine lv_iconst (v := (-1)) hx hb dX6_best_16 (by decide) ?_
    exact hret _ _ _ _ _ _ (hV.trans he.symm) hP hS dX6_best_17
  · have he := ite_f he hc_5
    refine lv_iload_n hx hb dX6_best_7 rfl (lv_at hl 3 rfl) ?_
    refine lv_if_lt (tgt := 16) hx hb dX6_best_8 (by decide) (fun hc_6 => ?_) (fun hc_6 => ?_)
    · have he := ite_t he hc_6
      refine lv_iconst (v := (-1)) hx hb dX6_best_16 (by decide) ?_
      exact hret _ _ _ _ _ _ (hV.trans he.symm) hP hS dX6_best_17
    · have he := ite_f he hc_6
      refine lv_iload_n hx hb dX6_best_11 rfl (lv_at hl 3 rfl) ?_
      refine lv_iconst (v := 1) hx hb dX6_best_12 (by decide) ?_
      refine lv_icmp_le (tgt := 18) hx hb dX6_best_13 (by decide) (fun hc_7 => ?_) (fun hc_7 => ?_)
      · have he := ite_t he hc_7
        refine lv_aload_n hx hb dX6_best_18 rfl (lv_at hl 0 rfl) ?_
        refine lv_iload_n hx hb dX6_best_19 rfl (lv_at hl 1 rfl) ?_
        refine lv_iload_n hx hb dX6_best_20 rfl (lv_at hl 2 rfl) ?_
        refine call_i [.int a1, .int a2] [] hx hb hml hG hown hK (c_X6_bestAlone had M a1 a2 ha2) gw_31_9 gm_X6_bestAlone gd_X6_bestAlone rfl rfl ⟨Nat.le_of_ble_eq_true rfl, Nat.le_of_ble_eq_true rfl⟩ ⟨Nat.le_refl _, Nat.le_refl _⟩ (rX6 hK hP rfl) hP (fun _ h => h) hS rfl hl.1 rfl (Nat.le_of_ble_eq_true rfl) dX6_best_21 (fun r_8 M_10 H locs hF_9 hP hS => ?_)
        have he := bnd2_at he hF_9
        refine lv_istore (lv' := [(4, .int r_8), (0, .ref (ad 0)), (1, .int a1), (2, .int a2), (3, .int a3)]) hx hb dX6_best_24 hl (by decide) rfl (fun ls hl => ?_)
        refine lv_iload_n hx hb dX6_best_26 rfl (lv_at hl 4 rfl) ?_
        obtain ⟨t_13, hr_12, he⟩ := bnd_ex he
        have j45 : ∀ (H : Heap) (locs : List Loc) (ls : Array Slot), va_P D vwCl (wld 74 ad (cC ad k M_10)) H → va_S (AW 74 ad) s.heap H locs → lv_has ls 5 [] → W p l e rm_X6_best s m args below meth c H locs 0 0 Q (F0 m 45 ls [.int t_13]) := by
          intro H locs ls hP hS hl
          exact hret _ _ _ _ _ _ (hV.trans he.symm) hP hS dX6_best_45
        refine lv_if_ne (tgt := 39) hx hb dX6_best_27 (by decide) (fun hc_11 => ?_) (fun hc_11 => ?_)
        · have hr_12 := ite_t hr_12 hc_11
          refine lv_iload hx hb dX6_best_39 (lv_at hl 0 rfl) ?_
          refine lv_sipush (v := 256) hx hb dX6_best_41 (by decide) ?_
          refine lv_idiv hx hb dX6_best_44 (by decide) ?_
          cases hr_12
          exact j45 _ _ _ hP hS (lv_sub hl [] rfl)
        · have hr_12 := ite_f hr_12 (fun q => q hc_11)
          refine lv_iload hx hb dX6_best_30 (lv_at hl 0 rfl) ?_
          refine lv_sipush (v := 256) hx hb dX6_best_32 (by decide) ?_
          refine lv_irem hx hb dX6_best_35 (by decide) ?_
          refine lv_goto (tgt := 45) hx hb dX6_best_36 (by decide) ?_
          cases hr_12
          exact j45 _ _ _ hP hS (lv_sub hl [] rfl)
      · have he := ite_f he hc_7
        refine lv_iconst (v := (-1)) hx hb dX6_best_16 (by decide) ?_
        exact hret _ _ _ _ _ _ (hV.trans he.symm) hP hS dX6_best_17
def rm_X6_sides : Room := { frames := 7, cells := 0, slots := 0, locals := 155 }
theorem gm_X6_sides : Cond.instanceMethod yX6_sides ∈ wsL_law ∧ Cond.selects RX6 yX6_sides yX6_sides ∈ wsL_law ∧ Cond.initialized RX6 ∈ wsL_law ∧ Cond.code yX6_sides cX6_sides 3 (some .int) ∈ wsL_law := ⟨gw_32_0, gw_32_1, gw_1_2, gw_32_2⟩
theorem gd_X6_sides : yX6_sides.cls = RX6 ∧ yX6_sides.cls ≠ "java/lang/invoke/MethodHandle" ∧ yX6_sides.cls ≠ "java/lang/invoke/VarHandle" ∧ (parseMethodDescriptor yX6_sides.desc).map (fun d => d.parameters.length) = some 0 := by decide +kernel
set_option maxRecDepth 100000 in
set_option maxHeartbeats 0 in
theorem c_X6_sides {l : Launch} {D : va_G} {k : Nat → ClassId} {ad : Nat → Nat} (had : InjN 74 ad) (M : Mem)  : Met l yX6_sides (Cond.code yX6_sides cX6_sides 3 (some .int) :: wsL_law) rm_X6_sides (va_Pc [.ref (ad 0)] (GW 74 ad D k (cC ad k M))) (va_Qi (fun r u => f_X6_sides M = (r, u)) (fun u t => GW 74 ad D k (cC ad k u) t) (AW 74 ad)) 0 0 (AW 74 ad) := by
  refine met_i (g := cC ad k) (M := M) (plainFor_of_name (by decide)) (Nat.le_of_ble_eq_true rfl) ?_
  intro p e s m args below meth c Q ls hx hb hml hG hown hK hret hP hS hl
  have hl : lv_has ls 3 [(0, .ref (ad 0))] := hl
  obtain ⟨V, hV⟩ : ∃ V, f_X6_sides M = V := ⟨_, rfl⟩
  have he := hV
  unfold f_X6_sides at he
  refine lv_aload_n hx hb dX6_sides_0 rfl (lv_at hl 0 rfl) ?_
  refine lv_bipush (v := 100) hx hb dX6_sides_1 (by decide) ?_
  refine lv_iconst (v := 0) hx hb dX6_sides_3 (by decide) ?_
  refine call_i [.int 100, .int 0] [] hx hb hml hG hown hK (c_X6_bestAlone had M 100 0 (Or.inl rfl)) gw_31_9 gm_X6_bestAlone gd_X6_bestAlone rfl rfl ⟨Nat.le_of_ble_eq_true rfl, Nat.le_of_ble_eq_true rfl⟩ ⟨Nat.le_refl _, Nat.le_refl _⟩ (rX6 hK hP rfl) hP (fun _ h => h) hS rfl hl.1 rfl (Nat.le_of_ble_eq_true rfl) dX6_sides_4 (fun r_1 M_3 H locs hF_2 hP hS => ?_)
  have he := bnd2_at he hF_2
  refine lv_aload_n hx hb dX6_sides_7 rfl (lv_at hl 0 rfl) ?_
  refine lv_bipush (v := 100) hx hb dX6_sides_8 (by decide) ?_
  refine lv_iconst (v := 1) hx hb dX6_sides_10 (by decide) ?_
  refine call_i [.int 100, .int 1] [.int r_1] hx hb hml hG hown hK (c_X6_bestAlone had M_3 100 1 (Or.inr rfl)) gw_31_9 gm_X6_bestAlone gd_X6_bestAlone rfl rfl ⟨Nat.le_of_ble_eq_true rfl, Nat.le_of_ble_eq_true rfl⟩ ⟨Nat.le_refl _, Nat.le_refl _⟩ (rX6 hK hP rfl) hP (fun _ h => h) hS rfl hl.1 rfl (Nat.le_of_ble_eq_true rfl) dX6_sides_11 (fun r_4 M_6 H locs hF_5 hP hS => ?_)
  have he := bnd2_at he hF_5
  refine w_min hx hb hml hG hown gw_31_13 (Nat.le_of_ble_eq_true rfl) (Nat.le_of_ble_eq_true rfl) hl.1 ⟨Nat.le_refl _, Nat.le_refl _⟩ dX6_sides_14 ?_
  refine lv_sipush (v := 256) hx hb dX6_sides_17 (by decide) ?_
  refine lv_idiv hx hb dX6_sides_20 (by decide) ?_
  refine lv_topi (fun y_7 ey_7 => ?_)
  have he := bnd_at he ey_7
  refine lv_istore_n (lv' := [(1, .int y_7), (0, .ref (ad 0))]) hx hb dX6_sides_21 rfl hl (by decide) rfl (fun ls hl => ?_)
  refine lv_aload_n hx hb dX6_sides_22 rfl (lv_at hl 1 rfl) ?_
  refine lv_bipush (v := (-100)) hx hb dX6_sides_23 (by decide) ?_
  refine lv_iconst (v := 0) hx hb dX6_sides_25 (by decide) ?_
  refine call_i [.int (-100), .int 0] [] hx hb hml hG hown hK (c_X6_bestAlone had M_6 (-100) 0 (Or.inl rfl)) gw_31_9 gm_X6_bestAlone gd_X6_bestAlone rfl rfl ⟨Nat.le_of_ble_eq_true rfl, Nat.le_of_ble_eq_true rfl⟩ ⟨Nat.le_refl _, Nat.le_refl _⟩ (rX6 hK hP rfl) hP (fun _ h => h) hS rfl hl.1 rfl (Nat.le_of_ble_eq_true rfl) dX6_sides_26 (fun r_8 M_10 H locs hF_9 hP hS => ?_)
  have he := bnd2_at he hF_9
  refine lv_aload_n hx hb dX6_sides_29 rfl (lv_at hl 1 rfl) ?_
  refine lv_bipush (v := (-100)) hx hb dX6_sides_30 (by decide) ?_
  refine lv_iconst (v := 1) hx hb dX6_sides_32 (by decide) ?_
  refine call_i [.int (-100), .int 1] [.int r_8] hx hb hml hG hown hK (c_X6_bestAlone had M_10 (-100) 1 (Or.inr rfl)) gw_31_9 gm_X6_bestAlone gd_X6_bestAlone rfl rfl ⟨Nat.le_of_ble_eq_true rfl, Nat.le_of_ble_eq_true rfl⟩ ⟨Nat.le_refl _, Nat.le_refl _⟩ (rX6 hK hP rfl) hP (fun _ h => h) hS rfl hl.1 rfl (Nat.le_of_ble_eq_true rfl) dX6_sides_33 (fun r_11 M_13 H locs hF_12 hP hS => ?_)
  have he := bnd2_at he hF_12
  refine w_min hx hb hml hG hown gw_31_13 (Nat.le_of_ble_eq_true rfl) (Nat.le_of_ble_eq_true rfl) hl.1 ⟨Nat.le_refl _, Nat.le_refl _⟩ dX6_sides_36 ?_
  refine lv_sipush (v := 256) hx hb dX6_sides_39 (by decide) ?_
  refine lv_idiv hx hb dX6_sides_42 (by decide) ?_
  refine lv_topi (fun y_14 ey_14 => ?_)
  have he := bnd_at he ey_14
  refine lv_istore_n (lv' := [(2, .int y_14), (1, .int y_7), (0, .ref (ad 0))]) hx hb dX6_sides_43 rfl hl (by decide) rfl (fun ls hl => ?_)
  refine lv_iload_n hx hb dX6_sides_44 rfl (lv_at hl 1 rfl) ?_
  refine lv_iload_n hx hb dX6_sides_45 rfl (lv_at hl 0 rfl) ?_
  refine lv_isub hx hb dX6_sides_46 ?_
  exact hret _ _ _ _ _ _ (hV.trans he.symm) hP hS dX6_sides_47
def rm_X6_isGame : Room := { frames := 1, cells := 0, slots := 0, locals := 20 }
theorem gm_X6_isGame : Cond.static yX6_isGame ∈ wsL_law ∧ Cond.initialized yX6_isGame.cls ∈ wsL_law ∧ Cond.code yX6_isGame cX6_isGame 3 (some .boolean) ∈ wsL_law := ⟨gw_32_16, gw_1_2, gw_32_17⟩
theorem gd_X6_isGame : yX6_isGame.cls ≠ "java/lang/invoke/MethodHandle" ∧ yX6_isGame.cls ≠ "java/lang/invoke/VarHandle" ∧ (parseMethodDescriptor yX6_isGame.desc).map (fun d => d.parameters.length) = some 3 := by decide +kernel
set_option maxRecDepth 100000 in
set_option maxHeartbeats 0 in
theorem c_X6_isGame {l : Launch} {D : va_G} {k : Nat → ClassId} {ad : Nat → Nat} (had : InjN 74 ad) {M : Mem} (a1 : Int32) (a2 : Int32) (a3 : Int32) : Met l yX6_isGame (Cond.code yX6_isGame cX6_isGame 3 (some .boolean) :: wsL_law) rm_X6_isGame (va_Pc [.int a1, .int a2, .int a3] (GW 74 ad D k (cC ad k M))) (va_Qi (fun r u => (r = 0 ∨ r = 1) ∧ f_X6_isGame a1 a2 a3 = r ∧ u = M) (fun u t => GW 74 ad D k (cC ad k u) t) (AW 74 ad)) 0 0 (AW 74 ad) := by
  refine met_z (g := cC ad k) (M := M) (plainFor_of_name (by decide)) (Nat.le_of_ble_eq_true rfl) ?_
  intro p e s m args below meth c Q ls hx hb hml hG hown hK hret hP hS hl
  have hl : lv_has ls 3 [(0, .int a1), (1, .int a2), (2, .int a3)] := hl
  obtain ⟨V, hV⟩ : ∃ V, f_X6_isGame a1 a2 a3 = V := ⟨_, rfl⟩
  have he := hV
  unfold f_X6_isGame at he
  refine lv_iload_n hx hb dX6_isGame_0 rfl (lv_at hl 0 rfl) ?_
  refine callS_i [.int a1] [] hx hb hml hG hown hK (c_X6_isInBay had (M := M)  a1) gw_13_19 gm_X6_isInBay gd_X6_isInBay rfl rfl ⟨Nat.le_of_ble_eq_true rfl, Nat.le_of_ble_eq_true rfl⟩ ⟨Nat.le_refl _, Nat.le_refl _⟩ hP (fun _ h => h) hS rfl hl.1 rfl (Nat.le_of_ble_eq_true rfl) dX6_isGame_1 (fun r_1 u_3 H locs hF_2 hP hS => ?_)
  obtain ⟨hz_4, hF_2, hu⟩ := hF_2; rw [hu] at hP; subst hF_2
  obtain ⟨t_14, hr_6, he⟩ := bnd_ex he
  have j28 : ∀ (H : Heap) (locs : List Loc) (ls : Array Slot), (t_14 = 0 ∨ t_14 = 1) → va_P D vwCl (wld 74 ad (cC ad k M)) H → va_S (AW 74 ad) s.heap H locs → lv_has ls 3 [] → W p l e rm_X6_isGame s m args below meth c H locs 0 0 Q (F0 m 28 ls [.int t_14]) := by
    intro H locs ls zt_14 hP hS hl
    exact hret _ _ _ _ _ _ ⟨zt_14, (hV.trans he.symm), rfl⟩ (nz01 zt_14) hP hS dX6_isGame_28
  refine lv_if_eq (tgt := 27) hx hb dX6_isGame_4 (by decide) (fun hc_5 => ?_) (fun hc_5 => ?_)
  · have hr_6 := ite_t hr_6 hc_5
    refine lv_iconst (v := 0) hx hb dX6_isGame_27 (by decide) ?_
    cases hr_6
    exact j28 _ _ _ (Or.inl rfl) hP hS (lv_sub hl [] rfl)
  · have hr_6 := ite_f hr_6 hc_5
    refine lv_iload_n hx hb dX6_isGame_7 rfl (lv_at hl 1 rfl) ?_
    refine callS_i [.int a2] [] hx hb hml hG hown hK (c_X6_isInBay had (M := M)  a2) gw_13_19 gm_X6_isInBay gd_X6_isInBay rfl rfl ⟨Nat.le_of_ble_eq_true rfl, Nat.le_of_ble_eq_true rfl⟩ ⟨Nat.le_refl _, Nat.le_refl _⟩ hP (fun _ h => h) hS rfl hl.1 rfl (Nat.le_of_ble_eq_true rfl) dX6_isGame_8 (fun r_7 u_9 H locs hF_8 hP hS => ?_)
    obtain ⟨hz_10, hF_8, hu⟩ := hF_8; rw [hu] at hP; subst hF_8
    refine lv_if_eq (tgt := 27) hx hb dX6_isGame_11 (by decide) (fun hc_11 => ?_) (fun hc_11 => ?_)
    · have hr_6 := ite_t hr_6 hc_11
      refine lv_iconst (v := 0) hx hb dX6_isGame_27 (by decide) ?_
      cases hr_6
      exact j28 _ _ _ (Or.inl rfl) hP hS (lv_sub hl [] rfl)
    · have hr_6 := ite_f hr_6 hc_11
      refine lv_iload_n hx hb dX6_isGame_14 rfl (lv_at hl 2 rfl) ?_
      refine lv_if_lt (tgt := 27) hx hb dX6_isGame_15 (by decide) (fun hc_12 => ?_) (fun hc_12 => ?_)
      · have hr_6 := ite_t hr_6 hc_12
        refine lv_iconst (v := 0) hx hb dX6_isGame_27 (by decide) ?_
        cases hr_6
        exact j28 _ _ _ (Or.inl rfl) hP hS (lv_sub hl [] rfl)
      · have hr_6 := ite_f hr_6 hc_12
        refine lv_iload_n hx hb dX6_isGame_18 rfl (lv_at hl 2 rfl) ?_
        refine lv_iconst (v := 3) hx hb dX6_isGame_19 (by decide) ?_
        refine lv_icmp_gt (tgt := 27) hx hb dX6_isGame_20 (by decide) (fun hc_13 => ?_) (fun hc_13 => ?_)
        · have hr_6 := ite_t hr_6 hc_13
          refine lv_iconst (v := 0) hx hb dX6_isGame_27 (by decide) ?_
          cases hr_6
          exact j28 _ _ _ (Or.inl rfl) hP hS (lv_sub hl [] rfl)
        · have hr_6 := ite_f hr_6 hc_13
          refine lv_iconst (v := 1) hx hb dX6_isGame_23 (by decide) ?_
          refine lv_goto (tgt := 28) hx hb dX6_isGame_24 (by decide) ?_
          cases hr_6
          exact j28 _ _ _ (Or.inr rfl) hP hS (lv_sub hl [] rfl)
def rm_X6_isGameBits : Room := { frames := 0, cells := 0, slots := 0, locals := 0 }
theorem gm_X6_isGameBits : Cond.static yX6_isGameBits ∈ wsL_law ∧ Cond.initialized yX6_isGameBits.cls ∈ wsL_law ∧ Cond.code yX6_isGameBits cX6_isGameBits 1 (some .boolean) ∈ wsL_law := ⟨gw_32_19, gw_1_2, gw_32_20⟩
theorem gd_X6_isGameBits : yX6_isGameBits.cls ≠ "java/lang/invoke/MethodHandle" ∧ yX6_isGameBits.cls ≠ "java/lang/invoke/VarHandle" ∧ (parseMethodDescriptor yX6_isGameBits.desc).map (fun d => d.parameters.length) = some 1 := by decide +kernel
set_option maxRecDepth 100000 in
set_option maxHeartbeats 0 in
theorem c_X6_isGameBits {l : Launch} {D : va_G} {k : Nat → ClassId} {ad : Nat → Nat} (had : InjN 74 ad) {M : Mem} (a1 : Int32) : Met l yX6_isGameBits (Cond.code yX6_isGameBits cX6_isGameBits 1 (some .boolean) :: wsL_law) rm_X6_isGameBits (va_Pc [.int a1] (GW 74 ad D k (cC ad k M))) (va_Qi (fun r u => (r = 0 ∨ r = 1) ∧ f_X6_isGameBits a1 = r ∧ u = M) (fun u t => GW 74 ad D k (cC ad k u) t) (AW 74 ad)) 0 0 (AW 74 ad) := by
  refine met_z (g := cC ad k) (M := M) (plainFor_of_name (by decide)) (Nat.le_of_ble_eq_true rfl) ?_
  intro p e s m args below meth c Q ls hx hb hml hG hown hK hret hP hS hl
  have hl : lv_has ls 1 [(0, .int a1)] := hl
  obtain ⟨V, hV⟩ : ∃ V, f_X6_isGameBits a1 = V := ⟨_, rfl⟩
  have he := hV
  unfold f_X6_isGameBits at he
  refine lv_iload_n hx hb dX6_isGameBits_0 rfl (lv_at hl 0 rfl) ?_
  obtain ⟨t_4, hr_2, he⟩ := bnd_ex he
  have j15 : ∀ (H : Heap) (locs : List Loc) (ls : Array Slot), (t_4 = 0 ∨ t_4 = 1) → va_P D vwCl (wld 74 ad (cC ad k M)) H → va_S (AW 74 ad) s.heap H locs → lv_has ls 1 [] → W p l e rm_X6_isGameBits s m args below meth c H locs 0 0 Q (F0 m 15 ls [.int t_4]) := by
    intro H locs ls zt_4 hP hS hl
    exact hret _ _ _ _ _ _ ⟨zt_4, (hV.trans he.symm), rfl⟩ (nz01 zt_4) hP hS dX6_isGameBits_15
  refine lv_if_lt (tgt := 14) hx hb dX6_isGameBits_1 (by decide) (fun hc_1 => ?_) (fun hc_1 => ?_)
  · have hr_2 := ite_t hr_2 hc_1
    refine lv_iconst (v := 0) hx hb dX6_isGameBits_14 (by decide) ?_
    cases hr_2
    exact j15 _ _ _ (Or.inl rfl) hP hS (lv_sub hl [] rfl)
  · have hr_2 := ite_f hr_2 hc_1
    refine lv_iload_n hx hb dX6_isGameBits_4 rfl (lv_at hl 0 rfl) ?_
    refine lv_bipush (v := 16) hx hb dX6_isGameBits_5 (by decide) ?_
    refine lv_icmp_ge (tgt := 14) hx hb dX6_isGameBits_7 (by decide) (fun hc_3 => ?_) (fun hc_3 => ?_)
    · have hr_2 := ite_t hr_2 hc_3
      refine lv_iconst (v := 0) hx hb dX6_isGameBits_14 (by decide) ?_
      cases hr_2
      exact j15 _ _ _ (Or.inl rfl) hP hS (lv_sub hl [] rfl)
    · have hr_2 := ite_f hr_2 hc_3
      refine lv_iconst (v := 1) hx hb dX6_isGameBits_10 (by decide) ?_
      refine lv_goto (tgt := 15) hx hb dX6_isGameBits_11 (by decide) ?_
      cases hr_2
      exact j15 _ _ _ (Or.inr rfl) hP hS (lv_sub hl [] rfl)
def rm_X3_leadOfFirst : Room := { frames := 2, cells := 0, slots := 0, locals := 34 }
theorem gm_X3_leadOfFirst : Cond.instanceMethod yX3_leadOfFirst ∈ wsL_law ∧ Cond.selects RX3 yX3_leadOfFirst yX3_leadOfFirst ∈ wsL_law ∧ Cond.initialized RX3 ∈ wsL_law ∧ Cond.code yX3_leadOfFirst cX3_leadOfFirst 4 (some .int) ∈ wsL_law := ⟨gw_33_3, gw_33_4, gw_1_19, gw_33_5⟩
theorem gd_X3_leadOfFirst : yX3_leadOfFirst.cls = RX3 ∧ yX3_leadOfFirst.cls ≠ "java/lang/invoke/MethodHandle" ∧ yX3_leadOfFirst.cls ≠ "java/lang/invoke/VarHandle" ∧ (parseMethodDescriptor yX3_leadOfFirst.desc).map (fun d => d.parameters.length) = some 1 := by decide +kernel
set_option maxRecDepth 100000 in
set_option maxHeartbeats 0 in
theorem c_X3_leadOfFirst {l : Launch} {D : va_G} {k : Nat → ClassId} {ad : Nat → Nat} (had : InjN 74 ad) (M : Mem) (o : Nat) (ho : kRace o) (a1 : Int32) : Met l yX3_leadOfFirst (Cond.code yX3_leadOfFirst cX3_leadOfFirst 4 (some .int) :: wsL_law) rm_X3_leadOfFirst (va_Pc [.ref (ad o), .int a1] (GW 74 ad D k (cC ad k M))) (va_Qi (fun r u => f_X3_leadOfFirst M o a1 = r ∧ u = M) (fun u t => GW 74 ad D k (cC ad k u) t) (AW 74 ad)) 0 0 (AW 74 ad) := by
  refine met_i (g := cC ad k) (M := M) (plainFor_of_name (by decide)) (Nat.le_of_ble_eq_true rfl) ?_
  intro p e s m args below meth c Q ls hx hb hml hG hown hK hret hP hS hl
  have hl : lv_has ls 4 [(0, .ref (ad o)), (1, .int a1)] := hl
  obtain ⟨V, hV⟩ : ∃ V, f_X3_leadOfFirst M o a1 = V := ⟨_, rfl⟩
  have he := hV
  unfold f_X3_leadOfFirst at he
  refine lv_aload_n hx hb dX3_leadOfFirst_0 rfl (lv_at hl 0 rfl) ?_
  refine lv_iconst (v := 0) hx hb dX3_leadOfFirst_1 (by decide) ?_
  refine call_e [.int 0] [] hx hb hml hG hown hK (c_X3_boatAt had M o ho 0) gw_33_6 gm_X3_boatAt gd_X3_boatAt rfl rfl ⟨Nat.le_of_ble_eq_true rfl, Nat.le_of_ble_eq_true rfl⟩ ⟨Nat.le_refl _, Nat.le_refl _⟩ (rX3 hK hP ho) hP (fun _ h => h) hS rfl hl.1 rfl (Nat.le_of_ble_eq_true rfl) dX3_leadOfFirst_2 (fun r_1 u_3 H locs hF_2 hP hS => ?_)
  obtain ⟨hz_4, hF_2, hu⟩ := hF_2; rw [hu] at hP
  rcases r_1 with _ | b_5
  · have he := oel_n he hF_2
    refine lv_astore_nN (lv' := [(2, .null), (0, .ref (ad o)), (1, .int a1)]) hx hb dX3_leadOfFirst_5 rfl hl (by decide) rfl (fun ls hl => ?_)
    refine lv_aload_n hx hb dX3_leadOfFirst_6 rfl (lv_at hl 1 rfl) ?_
    refine lv_iconst (v := 1) hx hb dX3_leadOfFirst_7 (by decide) ?_
    refine call_e [.int 1] [] hx hb hml hG hown hK (c_X3_boatAt had M o ho 1) gw_33_6 gm_X3_boatAt gd_X3_boatAt rfl rfl ⟨Nat.le_of_ble_eq_true rfl, Nat.le_of_ble_eq_true rfl⟩ ⟨Nat.le_refl _, Nat.le_refl _⟩ (rX3 hK hP ho) hP (fun _ h => h) hS rfl hl.1 rfl (Nat.le_of_ble_eq_true rfl) dX3_leadOfFirst_8 (fun r_6 u_8 H locs hF_7 hP hS => ?_)
    obtain ⟨hz_9, hF_7, hu⟩ := hF_7; rw [hu] at hP
    rcases r_6 with _ | b_10
    · have he := oel_n he hF_7
      refine lv_astore_nN (lv' := [(3, .null), (2, .null), (0, .ref (ad o)), (1, .int a1)]) hx hb dX3_leadOfFirst_11 rfl hl (by decide) rfl (fun ls hl => ?_)
      refine lv_aload_nN hx hb dX3_leadOfFirst_12 rfl (lv_at hl 1 rfl) ?_
      refine lv_ifnullN (tgt := 20) hx hb dX3_leadOfFirst_13 (by decide) ?_
      refine lv_iconst (v := 0) hx hb dX3_leadOfFirst_20 (by decide) ?_
      exact hret _ _ _ _ _ _ ⟨hV.trans he.symm, rfl⟩ hP hS dX3_leadOfFirst_21
    · have he := oel_s he hF_7
      refine lv_astore_n (lv' := [(3, .ref (ad b_10)), (2, .null), (0, .ref (ad o)), (1, .int a1)]) hx hb dX3_leadOfFirst_11 rfl hl (by decide) rfl (fun ls hl => ?_)
      refine lv_aload_nN hx hb dX3_leadOfFirst_12 rfl (lv_at hl 1 rfl) ?_
      refine lv_ifnullN (tgt := 20) hx hb dX3_leadOfFirst_13 (by decide) ?_
      refine lv_iconst (v := 0) hx hb dX3_leadOfFirst_20 (by decide) ?_
      exact hret _ _ _ _ _ _ ⟨hV.trans he.symm, rfl⟩ hP hS dX3_leadOfFirst_21
  · have he := oel_s he hF_2
    refine lv_astore_n (lv' := [(2, .ref (ad b_5)), (0, .ref (ad o)), (1, .int a1)]) hx hb dX3_leadOfFirst_5 rfl hl (by decide) rfl (fun ls hl => ?_)
    refine lv_aload_n hx hb dX3_leadOfFirst_6 rfl (lv_at hl 1 rfl) ?_
    refine lv_iconst (v := 1) hx hb dX3_leadOfFirst_7 (by decide) ?_
    refine call_e [.int 1] [] hx hb hml hG hown hK (c_X3_boatAt had M o ho 1) gw_33_6 gm_X3_boatAt gd_X3_boatAt rfl rfl ⟨Nat.le_of_ble_eq_true rfl, Nat.le_of_ble_eq_true rfl⟩ ⟨Nat.le_refl _, Nat.le_refl _⟩ (rX3 hK hP ho) hP (fun _ h => h) hS rfl hl.1 rfl (Nat.le_of_ble_eq_true rfl) dX3_leadOfFirst_8 (fun r_11 u_13 H locs hF_12 hP hS => ?_)
    obtain ⟨hz_14, hF_12, hu⟩ := hF_12; rw [hu] at hP
    rcases r_11 with _ | b_15
    · have he := oel_n he hF_12
      refine lv_astore_nN (lv' := [(3, .null), (2, .ref (ad b_5)), (0, .ref (ad o)), (1, .int a1)]) hx hb dX3_leadOfFirst_11 rfl hl (by decide) rfl (fun ls hl => ?_)
      refine lv_aload_n hx hb dX3_leadOfFirst_12 rfl (lv_at hl 1 rfl) ?_
      refine lv_ifnull hx hb dX3_leadOfFirst_13 ?_
      refine lv_aload_nN hx hb dX3_leadOfFirst_16 rfl (lv_at hl 0 rfl) ?_
      refine lv_ifnonnullN hx hb dX3_leadOfFirst_17 ?_
      refine lv_iconst (v := 0) hx hb dX3_leadOfFirst_20 (by decide) ?_
      exact hret _ _ _ _ _ _ ⟨hV.trans he.symm, rfl⟩ hP hS dX3_leadOfFirst_21
    · have he := oel_s he hF_12
      refine lv_astore_n (lv' := [(3, .ref (ad b_15)), (2, .ref (ad b_5)), (0, .ref (ad o)), (1, .int a1)]) hx hb dX3_leadOfFirst_11 rfl hl (by decide) rfl (fun ls hl => ?_)
      refine lv_aload_n hx hb dX3_leadOfFirst_12 rfl (lv_at hl 1 rfl) ?_
      refine lv_ifnull hx hb dX3_leadOfFirst_13 ?_
      refine lv_aload_n hx hb dX3_leadOfFirst_16 rfl (lv_at hl 0 rfl) ?_
      refine lv_ifnonnull (tgt := 22) hx hb dX3_leadOfFirst_17 (by decide) ?_
      refine lv_aload_n hx hb dX3_leadOfFirst_22 rfl (lv_at hl 1 rfl) ?_
      refine call_i [] [] hx hb hml hG hown hK (c_X1_isIn had M b_5 (hz_4 _ rfl)) gw_18_18 gm_X1_isIn gd_X1_isIn rfl rfl ⟨Nat.le_of_ble_eq_true rfl, Nat.le_of_ble_eq_true rfl⟩ ⟨Nat.le_refl _, Nat.le_refl _⟩ (rX1 hK hP (hz_4 _ rfl)) hP (fun _ h => h) hS rfl hl.1 rfl (Nat.le_of_ble_eq_true rfl) dX3_leadOfFirst_23 (fun r_16 u_18 H locs hF_17 hP hS => ?_)
      obtain ⟨hz_19, hF_17, hu⟩ := hF_17; rw [hu] at hP; subst hF_17
      obtain ⟨t_25, hr_21, he⟩ := bnd_ex he
      have j37 : ∀ (H : Heap) (locs : List Loc) (ls : Array Slot), va_P D vwCl (wld 74 ad (cC ad k M)) H → va_S (AW 74 ad) s.heap H locs → lv_has ls 4 [(1, .int a1), (3, .ref (ad b_15))] → W p l e rm_X3_leadOfFirst s m args below meth c H locs 0 0 Q (F0 m 37 ls [.int t_25]) := by
        intro H locs ls hP hS hl
        refine lv_aload_n hx hb dX3_leadOfFirst_37 rfl (lv_at hl 1 rfl) ?_
        refine call_i [] [.int t_25] hx hb hml hG hown hK (c_X1_isIn had M b_15 (hz_14 _ rfl)) gw_18_18 gm_X1_isIn gd_X1_isIn rfl rfl ⟨Nat.le_of_ble_eq_true rfl, Nat.le_of_ble_eq_true rfl⟩ ⟨Nat.le_refl _, Nat.le_refl _⟩ (rX1 hK hP (hz_14 _ rfl)) hP (fun _ h => h) hS rfl hl.1 rfl (Nat.le_of_ble_eq_true rfl) dX3_leadOfFirst_38 (fun r_26 u_28 H locs hF_27 hP hS => ?_)
        obtain ⟨hz_29, hF_27, hu⟩ := hF_27; rw [hu] at hP; subst hF_27
        obtain ⟨t_35, hr_31, he⟩ := bnd_ex he
        have j52 : ∀ (H : Heap) (locs : List Loc) (ls : Array Slot), va_P D vwCl (wld 74 ad (cC ad k M)) H → va_S (AW 74 ad) s.heap H locs → lv_has ls 4 [] → W p l e rm_X3_leadOfFirst s m args below meth c H locs 0 0 Q (F0 m 52 ls [.int t_35, .int t_25]) := by
          intro H locs ls hP hS hl
          refine lv_isub hx hb dX3_leadOfFirst_52 ?_
          exact hret _ _ _ _ _ _ ⟨hV.trans he.symm, rfl⟩ hP hS dX3_leadOfFirst_53
        refine lv_if_eq (tgt := 48) hx hb dX3_leadOfFirst_41 (by decide) (fun hc_30 => ?_) (fun hc_30 => ?_)
        · have hr_31 := ite_t hr_31 hc_30
          refine lv_aload_n hx hb dX3_leadOfFirst_48 rfl (lv_at hl 1 rfl) ?_
          refine call_i [] [.int t_25] hx hb hml hG hown hK (c_X1_height had M b_15 (hz_14 _ rfl)) gw_33_7 gm_X1_height gd_X1_height rfl rfl ⟨Nat.le_of_ble_eq_true rfl, Nat.le_of_ble_eq_true rfl⟩ ⟨Nat.le_refl _, Nat.le_refl _⟩ (rX1 hK hP (hz_14 _ rfl)) hP (fun _ h => h) hS rfl hl.1 rfl (Nat.le_of_ble_eq_true rfl) dX3_leadOfFirst_49 (fun r_32 u_34 H locs hF_33 hP hS => ?_)
          obtain ⟨hF_33, hu⟩ := hF_33; rw [hu] at hP; subst hF_33
          cases hr_31
          exact j52 _ _ _ hP hS (lv_sub hl [] rfl)
        · have hr_31 := ite_f hr_31 hc_30
          refine lv_iload_n hx hb dX3_leadOfFirst_44 rfl (lv_at hl 0 rfl) ?_
          refine lv_goto (tgt := 52) hx hb dX3_leadOfFirst_45 (by decide) ?_
          cases hr_31
          exact j52 _ _ _ hP hS (lv_sub hl [] rfl)
      refine lv_if_eq (tgt := 33) hx hb dX3_leadOfFirst_26 (by decide) (fun hc_20 => ?_) (fun hc_20 => ?_)
      · have hr_21 := ite_t hr_21 hc_20
        refine lv_aload_n hx hb dX3_leadOfFirst_33 rfl (lv_at hl 1 rfl) ?_
        refine call_i [] [] hx hb hml hG hown hK (c_X1_height had M b_5 (hz_4 _ rfl)) gw_33_7 gm_X1_height gd_X1_height rfl rfl ⟨Nat.le_of_ble_eq_true rfl, Nat.le_of_ble_eq_true rfl⟩ ⟨Nat.le_refl _, Nat.le_refl _⟩ (rX1 hK hP (hz_4 _ rfl)) hP (fun _ h => h) hS rfl hl.1 rfl (Nat.le_of_ble_eq_true rfl) dX3_leadOfFirst_34 (fun r_22 u_24 H locs hF_23 hP hS => ?_)
        obtain ⟨hF_23, hu⟩ := hF_23; rw [hu] at hP; subst hF_23
        cases hr_21
        exact j37 _ _ _ hP hS (lv_sub hl [3, 0] rfl)
      · have hr_21 := ite_f hr_21 hc_20
        refine lv_iload_n hx hb dX3_leadOfFirst_29 rfl (lv_at hl 3 rfl) ?_
        refine lv_goto (tgt := 37) hx hb dX3_leadOfFirst_30 (by decide) ?_
        cases hr_21
        exact j37 _ _ _ hP hS (lv_sub hl [3, 0] rfl)
