-- @needs 12_dec 13_dec 14_dec 15_dec 34_hM 74_cM
def rm_X7_skillOf : Room := { frames := 0, cells := 0, slots := 0, locals := 0 }
theorem gm_X7_skillOf : Cond.static yX7_skillOf ∈ wsL_law ∧ Cond.initialized yX7_skillOf.cls ∈ wsL_law ∧ Cond.code yX7_skillOf cX7_skillOf 2 (some .int) ∈ wsL_law := ⟨gw_45_6, gw_1_5, gw_45_7⟩
theorem gd_X7_skillOf : yX7_skillOf.cls ≠ "java/lang/invoke/MethodHandle" ∧ yX7_skillOf.cls ≠ "java/lang/invoke/VarHandle" ∧ (parseMethodDescriptor yX7_skillOf.desc).map (fun d => d.parameters.length) = some 2 := by decide +kernel
set_option maxRecDepth 100000 in
set_option maxHeartbeats 0 in
theorem c_X7_skillOf {l : Launch} {D : va_G} {k : Nat → ClassId} {ad : Nat → Nat} (had : InjN 31 ad) {M : Mem} (a1 : Int32) (a2 : Int32) : Met l yX7_skillOf (Cond.code yX7_skillOf cX7_skillOf 2 (some .int) :: wsL_law) rm_X7_skillOf (va_Pc [.int a1, .int a2] (GW 31 ad D k (cM ad k M))) (va_Qi (fun r u => f_X7_skillOf a1 a2 = r ∧ u = M) (fun u t => GW 31 ad D k (cM ad k u) t) (AW 31 ad)) 0 0 (AW 31 ad) := by
  refine met_i (g := cM ad k) (M := M) (plainFor_of_name (by decide)) (Nat.le_of_ble_eq_true rfl) ?_
  intro p e s m args below meth c Q ls hx hb hml hG hown hK hret hP hS hl
  have hl : lv_has ls 2 [(0, .int a1), (1, .int a2)] := hl
  obtain ⟨V, hV⟩ : ∃ V, f_X7_skillOf a1 a2 = V := ⟨_, rfl⟩
  have he := hV
  unfold f_X7_skillOf at he
  refine lv_iload_n hx hb dX7_skillOf_0 rfl (lv_at hl 0 rfl) ?_
  by_cases hw_1 : a1 = 0
  · have he := ite_t he hw_1
    refine lv_tableIn (tgt := 44) hx hb dX7_skillOf_1 (by rw [hw_1]; decide) (by rw [hw_1]; decide) (by rw [hw_1]; rfl) (by decide) ?_
    refine lv_bipush (v := 10) hx hb dX7_skillOf_44 (by decide) ?_
    exact hret _ _ _ _ _ _ ⟨hV.trans he.symm, rfl⟩ hP hS dX7_skillOf_46
  · have he := ite_f he hw_1
    by_cases hw_2 : a1 = 1
    · have he := ite_t he hw_2
      refine lv_tableIn (tgt := 47) hx hb dX7_skillOf_1 (by rw [hw_2]; decide) (by rw [hw_2]; decide) (by rw [hw_2]; rfl) (by decide) ?_
      refine lv_bipush (v := 10) hx hb dX7_skillOf_47 (by decide) ?_
      refine lv_iload_n hx hb dX7_skillOf_49 rfl (lv_at hl 1 rfl) ?_
      refine lv_iadd hx hb dX7_skillOf_50 ?_
      exact hret _ _ _ _ _ _ ⟨hV.trans he.symm, rfl⟩ hP hS dX7_skillOf_51
    · have he := ite_f he hw_2
      by_cases hw_3 : a1 = 2
      · have he := ite_t he hw_3
        refine lv_tableIn (tgt := 52) hx hb dX7_skillOf_1 (by rw [hw_3]; decide) (by rw [hw_3]; decide) (by rw [hw_3]; rfl) (by decide) ?_
        refine lv_bipush (v := 13) hx hb dX7_skillOf_52 (by decide) ?_
        exact hret _ _ _ _ _ _ ⟨hV.trans he.symm, rfl⟩ hP hS dX7_skillOf_54
      · have he := ite_f he hw_3
        by_cases hw_4 : a1 = 3
        · have he := ite_t he hw_4
          refine lv_tableIn (tgt := 55) hx hb dX7_skillOf_1 (by rw [hw_4]; decide) (by rw [hw_4]; decide) (by rw [hw_4]; rfl) (by decide) ?_
          refine lv_bipush (v := 26) hx hb dX7_skillOf_55 (by decide) ?_
          exact hret _ _ _ _ _ _ ⟨hV.trans he.symm, rfl⟩ hP hS dX7_skillOf_57
        · have he := ite_f he hw_4
          by_cases hw_5 : a1 = 4
          · have he := ite_t he hw_5
            refine lv_tableIn (tgt := 58) hx hb dX7_skillOf_1 (by rw [hw_5]; decide) (by rw [hw_5]; decide) (by rw [hw_5]; rfl) (by decide) ?_
            refine lv_bipush (v := 10) hx hb dX7_skillOf_58 (by decide) ?_
            refine lv_iload_n hx hb dX7_skillOf_60 rfl (lv_at hl 1 rfl) ?_
            refine lv_isub hx hb dX7_skillOf_61 ?_
            exact hret _ _ _ _ _ _ ⟨hV.trans he.symm, rfl⟩ hP hS dX7_skillOf_62
          · have he := ite_f he hw_5
            by_cases hw_6 : a1 = 5
            · have he := ite_t he hw_6
              refine lv_tableIn (tgt := 63) hx hb dX7_skillOf_1 (by rw [hw_6]; decide) (by rw [hw_6]; decide) (by rw [hw_6]; rfl) (by decide) ?_
              refine lv_bipush (v := 15) hx hb dX7_skillOf_63 (by decide) ?_
              exact hret _ _ _ _ _ _ ⟨hV.trans he.symm, rfl⟩ hP hS dX7_skillOf_65
            · have he := ite_f he hw_6
              by_cases hw_7 : a1 = 6
              · have he := ite_t he hw_7
                refine lv_tableIn (tgt := 66) hx hb dX7_skillOf_1 (by rw [hw_7]; decide) (by rw [hw_7]; decide) (by rw [hw_7]; rfl) (by decide) ?_
                refine lv_bipush (v := 15) hx hb dX7_skillOf_66 (by decide) ?_
                refine lv_iload_n hx hb dX7_skillOf_68 rfl (lv_at hl 1 rfl) ?_
                refine lv_iadd hx hb dX7_skillOf_69 ?_
                exact hret _ _ _ _ _ _ ⟨hV.trans he.symm, rfl⟩ hP hS dX7_skillOf_70
              · have he := ite_f he hw_7
                refine lv_tableOut (tgt := 71) hx hb dX7_skillOf_1 (by have q0 : a1.toInt ≠ 0 := ne_I hw_1; have q1 : a1.toInt ≠ 1 := ne_I hw_2; have q2 : a1.toInt ≠ 2 := ne_I hw_3; have q3 : a1.toInt ≠ 3 := ne_I hw_4; have q4 : a1.toInt ≠ 4 := ne_I hw_5; have q5 : a1.toInt ≠ 5 := ne_I hw_6; have q6 : a1.toInt ≠ 6 := ne_I hw_7; omega) (by decide) ?_
                refine lv_bipush (v := 10) hx hb dX7_skillOf_71 (by decide) ?_
                refine lv_iload_n hx hb dX7_skillOf_73 rfl (lv_at hl 1 rfl) ?_
                refine lv_iadd hx hb dX7_skillOf_74 ?_
                refine lv_iconst (v := 2) hx hb dX7_skillOf_75 (by decide) ?_
                refine lv_idiv hx hb dX7_skillOf_76 (by decide) ?_
                exact hret _ _ _ _ _ _ ⟨hV.trans he.symm, rfl⟩ hP hS dX7_skillOf_77
def rm_X7_skill : Room := { frames := 2, cells := 0, slots := 0, locals := 46 }
theorem gm_X7_skill : Cond.instanceMethod yX7_skill ∈ wsL_law ∧ Cond.selects RX7 yX7_skill yX7_skill ∈ wsL_law ∧ Cond.initialized RX7 ∈ wsL_law ∧ Cond.code yX7_skill cX7_skill 2 (some .int) ∈ wsL_law := ⟨gw_44_22, gw_44_23, gw_1_5, gw_45_0⟩
theorem gd_X7_skill : yX7_skill.cls = RX7 ∧ yX7_skill.cls ≠ "java/lang/invoke/MethodHandle" ∧ yX7_skill.cls ≠ "java/lang/invoke/VarHandle" ∧ (parseMethodDescriptor yX7_skill.desc).map (fun d => d.parameters.length) = some 1 := by decide +kernel
set_option maxRecDepth 100000 in
set_option maxHeartbeats 0 in
theorem c_X7_skill {l : Launch} {D : va_G} {k : Nat → ClassId} {ad : Nat → Nat} (had : InjN 31 ad) (M : Mem) (a1 : Int32) (hI : MI M) : Met l yX7_skill (Cond.code yX7_skill cX7_skill 2 (some .int) :: wsL_law) rm_X7_skill (va_Pc [.ref (ad 0), .int a1] (GW 31 ad D k (cM ad k M))) (va_Qi (fun r u => (f_X7_skill M a1 = (r, u) ∧ TI M u)) (fun u t => GW 31 ad D k (cM ad k u) t) (AW 31 ad)) 0 0 (AW 31 ad) := by
  refine met_i (g := cM ad k) (M := M) (plainFor_of_name (by decide)) (Nat.le_of_ble_eq_true rfl) ?_
  intro p e s m args below meth c Q ls hx hb hml hG hown hK hret hP hS hl
  have hl : lv_has ls 2 [(0, .ref (ad 0)), (1, .int a1)] := hl
  obtain ⟨V, hV⟩ : ∃ V, f_X7_skill M a1 = V := ⟨_, rfl⟩
  have he := hV
  unfold f_X7_skill at he
  have hT0 : TI M M := TI_rf hI
  have qb_M := hI.1
  have qs_M := hI.2.1
  have qz_M := hI.2.2.1
  refine lv_aload_n hx hb dX7_skill_0 rfl (lv_at hl 0 rfl) ?_
  refine lv_iconst (v := 0) hx hb dX7_skill_1 (by decide) ?_
  refine pX7_19 hx hb hG hown hK hP had AW_in hS gw_5_17 dX7_skill_2 (fun H locs hP hS => ?_)
  obtain ⟨M_1, eM_1⟩ : ∃ y : Mem, y = up2 M 0 19 0 := ⟨_, rfl⟩
  rw [← eM_1] at hP
  have he := bnd_at he eM_1
  have hTM_1 : TI M M_1 := by rw [eM_1]; exact TI_f hT0 (by decide)
  have qb_M_1 := hTM_1.1.1
  have qs_M_1 := hTM_1.1.2.1
  have qz_M_1 := hTM_1.1.2.2.1
  refine lv_aload_n hx hb dX7_skill_5 rfl (lv_at hl 0 rfl) ?_
  refine lv_iload_n hx hb dX7_skill_6 rfl (lv_at hl 1 rfl) ?_
  refine call_i [.int a1] [] hx hb hml hG hown hK (c_X7_wrongSailor had M_1 a1 hTM_1.1) gw_45_1 gm_X7_wrongSailor gd_X7_wrongSailor rfl rfl ⟨Nat.le_of_ble_eq_true rfl, Nat.le_of_ble_eq_true rfl⟩ ⟨Nat.le_refl _, Nat.le_refl _⟩ (rX7 hK hP) hP (fun _ h => h) hS rfl hl.1 rfl (Nat.le_of_ble_eq_true rfl) dX7_skill_7 (fun r_2 u_4 H locs hF_3 hP hS => ?_)
  obtain ⟨hF_3, hu⟩ := hF_3; rw [hu] at hP; subst hF_3
  obtain ⟨t_13, hr_6, he⟩ := bnd_ex he
  have j40 : ∀ (H : Heap) (locs : List Loc) (ls : Array Slot), va_P D vwCl (wld 31 ad (cM ad k M_1)) H → va_S (AW 31 ad) s.heap H locs → lv_has ls 2 [] → W p l e rm_X7_skill s m args below meth c H locs 0 0 Q (F0 m 40 ls [.int t_13]) := by
    intro H locs ls hP hS hl
    exact hret _ _ _ _ _ _ ⟨(hV.trans he.symm), hTM_1⟩ hP hS dX7_skill_40
  refine lv_if_ge (tgt := 25) hx hb dX7_skill_10 (by decide) (fun hc_5 => ?_) (fun hc_5 => ?_)
  · have hr_6 := ite_t hr_6 hc_5
    refine lv_aload_n hx hb dX7_skill_25 rfl (lv_at hl 0 rfl) ?_
    refine gX7_43 hx hb hG hown hK hP gw_5_10 dX7_skill_26 ?_
    refine lv_iload_n hx hb dX7_skill_29 rfl (lv_at hl 1 rfl) ?_
    refine al_M24 hx hb hK hP (vin_I (by have q0 : 0 ≤ (f_X7_wrongSailor M_1 a1).toInt := le_I hc_5; have r1 : 0 ≤ a1.toInt ∧ a1.toInt < 8 := wrongSailor_in (nlt_of_le hc_5); omega) (by have q0 : 0 ≤ (f_X7_wrongSailor M_1 a1).toInt := le_I hc_5; have r1 : 0 ≤ a1.toInt ∧ a1.toInt < 8 := wrongSailor_in (nlt_of_le hc_5); omega)) dX7_skill_30 ?_
    refine lv_aload_n hx hb dX7_skill_31 rfl (lv_at hl 0 rfl) ?_
    refine gX7_44 hx hb hG hown hK hP gw_5_11 dX7_skill_32 ?_
    refine lv_iload_n hx hb dX7_skill_35 rfl (lv_at hl 1 rfl) ?_
    refine al_M25 hx hb hK hP (vin_I (by have q0 : 0 ≤ (f_X7_wrongSailor M_1 a1).toInt := le_I hc_5; have r1 : 0 ≤ a1.toInt ∧ a1.toInt < 8 := wrongSailor_in (nlt_of_le hc_5); omega) (by have q0 : 0 ≤ (f_X7_wrongSailor M_1 a1).toInt := le_I hc_5; have r1 : 0 ≤ a1.toInt ∧ a1.toInt < 8 := wrongSailor_in (nlt_of_le hc_5); omega)) dX7_skill_36 ?_
    refine callS_i [.int (M_1 24 a1.toNatClampNeg), .int (M_1 25 a1.toNatClampNeg)] [] hx hb hml hG hown hK (c_X7_skillOf had (M := M_1)  (M_1 24 a1.toNatClampNeg) (M_1 25 a1.toNatClampNeg)) gw_45_5 gm_X7_skillOf gd_X7_skillOf rfl rfl ⟨Nat.le_of_ble_eq_true rfl, Nat.le_of_ble_eq_true rfl⟩ ⟨Nat.le_refl _, Nat.le_refl _⟩ hP (fun _ h => h) hS rfl hl.1 rfl (Nat.le_of_ble_eq_true rfl) dX7_skill_37 (fun r_7 u_9 H locs hF_8 hP hS => ?_)
    obtain ⟨hF_8, hu⟩ := hF_8; rw [hu] at hP; subst hF_8
    cases hr_6
    exact j40 _ _ _ hP hS (lv_sub hl [] rfl)
  · have hr_6 := ite_f hr_6 hc_5
    refine lv_aload_n hx hb dX7_skill_13 rfl (lv_at hl 0 rfl) ?_
    refine lv_iload_n hx hb dX7_skill_14 rfl (lv_at hl 1 rfl) ?_
    refine call_i [.int a1] [] hx hb hml hG hown hK (c_X7_wrongSailor had M_1 a1 hTM_1.1) gw_45_1 gm_X7_wrongSailor gd_X7_wrongSailor rfl rfl ⟨Nat.le_of_ble_eq_true rfl, Nat.le_of_ble_eq_true rfl⟩ ⟨Nat.le_refl _, Nat.le_refl _⟩ (rX7 hK hP) hP (fun _ h => h) hS rfl hl.1 rfl (Nat.le_of_ble_eq_true rfl) dX7_skill_15 (fun r_10 u_12 H locs hF_11 hP hS => ?_)
    obtain ⟨hF_11, hu⟩ := hF_11; rw [hu] at hP; subst hF_11
    refine lv_ldcw (v := 1000000000) hx hb hown (hG _ gw_35_3) dX7_skill_18 ?_
    refine lv_isub hx hb dX7_skill_21 ?_
    refine lv_goto (tgt := 40) hx hb dX7_skill_22 (by decide) ?_
    cases hr_6
    exact j40 _ _ _ hP hS (lv_sub hl [] rfl)
def rm_X7_toss : Room := { frames := 2, cells := 0, slots := 0, locals := 46 }
theorem gm_X7_toss : Cond.instanceMethod yX7_toss ∈ wsL_law ∧ Cond.selects RX7 yX7_toss yX7_toss ∈ wsL_law ∧ Cond.initialized RX7 ∈ wsL_law ∧ Cond.code yX7_toss cX7_toss 4 (some .int) ∈ wsL_law := ⟨gw_46_3, gw_46_4, gw_1_5, gw_46_5⟩
theorem gd_X7_toss : yX7_toss.cls = RX7 ∧ yX7_toss.cls ≠ "java/lang/invoke/MethodHandle" ∧ yX7_toss.cls ≠ "java/lang/invoke/VarHandle" ∧ (parseMethodDescriptor yX7_toss.desc).map (fun d => d.parameters.length) = some 1 := by decide +kernel
set_option maxRecDepth 100000 in
set_option maxHeartbeats 0 in
theorem c_X7_toss {l : Launch} {D : va_G} {k : Nat → ClassId} {ad : Nat → Nat} (had : InjN 31 ad) (M : Mem) (a1 : Int32) (hI : MI M) : Met l yX7_toss (Cond.code yX7_toss cX7_toss 4 (some .int) :: wsL_law) rm_X7_toss (va_Pc [.ref (ad 0), .int a1] (GW 31 ad D k (cM ad k M))) (va_Qi (fun r u => (f_X7_toss M a1 = (r, u) ∧ TI M u)) (fun u t => GW 31 ad D k (cM ad k u) t) (AW 31 ad)) 0 0 (AW 31 ad) := by
  refine met_i (g := cM ad k) (M := M) (plainFor_of_name (by decide)) (Nat.le_of_ble_eq_true rfl) ?_
  intro p e s m args below meth c Q ls hx hb hml hG hown hK hret hP hS hl
  have hl : lv_has ls 4 [(0, .ref (ad 0)), (1, .int a1)] := hl
  obtain ⟨V, hV⟩ : ∃ V, f_X7_toss M a1 = V := ⟨_, rfl⟩
  have he := hV
  unfold f_X7_toss at he
  have hT0 : TI M M := TI_rf hI
  have qb_M := hI.1
  have qs_M := hI.2.1
  have qz_M := hI.2.2.1
  refine lv_aload_n hx hb dX7_toss_0 rfl (lv_at hl 0 rfl) ?_
  refine lv_iconst (v := 0) hx hb dX7_toss_1 (by decide) ?_
  refine pX7_19 hx hb hG hown hK hP had AW_in hS gw_5_17 dX7_toss_2 (fun H locs hP hS => ?_)
  obtain ⟨M_1, eM_1⟩ : ∃ y : Mem, y = up2 M 0 19 0 := ⟨_, rfl⟩
  rw [← eM_1] at hP
  have he := bnd_at he eM_1
  have hTM_1 : TI M M_1 := by rw [eM_1]; exact TI_f hT0 (by decide)
  have qb_M_1 := hTM_1.1.1
  have qs_M_1 := hTM_1.1.2.1
  have qz_M_1 := hTM_1.1.2.2.1
  refine lv_aload_n hx hb dX7_toss_5 rfl (lv_at hl 0 rfl) ?_
  refine lv_iload_n hx hb dX7_toss_6 rfl (lv_at hl 1 rfl) ?_
  refine call_i [.int a1] [] hx hb hml hG hown hK (c_X7_wrongSailor had M_1 a1 hTM_1.1) gw_45_1 gm_X7_wrongSailor gd_X7_wrongSailor rfl rfl ⟨Nat.le_of_ble_eq_true rfl, Nat.le_of_ble_eq_true rfl⟩ ⟨Nat.le_refl _, Nat.le_refl _⟩ (rX7 hK hP) hP (fun _ h => h) hS rfl hl.1 rfl (Nat.le_of_ble_eq_true rfl) dX7_toss_7 (fun r_2 u_4 H locs hF_3 hP hS => ?_)
  obtain ⟨hF_3, hu⟩ := hF_3; rw [hu] at hP; subst hF_3
  refine lv_if_ge (tgt := 19) hx hb dX7_toss_10 (by decide) (fun hc_5 => ?_) (fun hc_5 => ?_)
  · have he := ite_t he hc_5
    refine lv_aload_n hx hb dX7_toss_19 rfl (lv_at hl 0 rfl) ?_
    refine gX7_43 hx hb hG hown hK hP gw_5_10 dX7_toss_20 ?_
    refine lv_iload_n hx hb dX7_toss_23 rfl (lv_at hl 1 rfl) ?_
    refine al_M24 hx hb hK hP (vin_I (by have q0 : 0 ≤ (f_X7_wrongSailor M_1 a1).toInt := le_I hc_5; have r1 : 0 ≤ a1.toInt ∧ a1.toInt < 8 := wrongSailor_in (nlt_of_le hc_5); omega) (by have q0 : 0 ≤ (f_X7_wrongSailor M_1 a1).toInt := le_I hc_5; have r1 : 0 ≤ a1.toInt ∧ a1.toInt < 8 := wrongSailor_in (nlt_of_le hc_5); omega)) dX7_toss_24 ?_
    refine lv_topi (fun y_6 ey_6 => ?_)
    have he := bnd_at he ey_6
    refine lv_istore_n (lv' := [(2, .int y_6), (0, .ref (ad 0)), (1, .int a1)]) hx hb dX7_toss_25 rfl hl (by decide) rfl (fun ls hl => ?_)
    refine lv_aload_n hx hb dX7_toss_26 rfl (lv_at hl 1 rfl) ?_
    refine gX7_44 hx hb hG hown hK hP gw_5_11 dX7_toss_27 ?_
    refine lv_iload_n hx hb dX7_toss_30 rfl (lv_at hl 2 rfl) ?_
    refine al_M25 hx hb hK hP (vin_I (by have q0 : 0 ≤ (f_X7_wrongSailor M_1 a1).toInt := le_I hc_5; have r1 : 0 ≤ a1.toInt ∧ a1.toInt < 8 := wrongSailor_in (nlt_of_le hc_5); have qy_6 := congrArg Int32.toInt ey_6; omega) (by have q0 : 0 ≤ (f_X7_wrongSailor M_1 a1).toInt := le_I hc_5; have r1 : 0 ≤ a1.toInt ∧ a1.toInt < 8 := wrongSailor_in (nlt_of_le hc_5); have qy_6 := congrArg Int32.toInt ey_6; omega)) dX7_toss_31 ?_
    refine lv_topi (fun y_7 ey_7 => ?_)
    have he := bnd_at he ey_7
    refine lv_istore_n (lv' := [(3, .int y_7), (2, .int y_6), (0, .ref (ad 0)), (1, .int a1)]) hx hb dX7_toss_32 rfl hl (by decide) rfl (fun ls hl => ?_)
    refine lv_iload_n hx hb dX7_toss_33 rfl (lv_at hl 1 rfl) ?_
    refine lv_iconst (v := 4) hx hb dX7_toss_34 (by decide) ?_
    refine lv_icmp_eq (tgt := 42) hx hb dX7_toss_35 (by decide) (fun hc_8 => ?_) (fun hc_8 => ?_)
    · have he := ite_t he hc_8
      refine lv_bipush (v := (-15)) hx hb dX7_toss_42 (by decide) ?_
      exact hret _ _ _ _ _ _ ⟨(hV.trans he.symm), hTM_1⟩ hP hS dX7_toss_44
    · have he := ite_f he hc_8
      refine lv_iload_n hx hb dX7_toss_38 rfl (lv_at hl 0 rfl) ?_
      refine lv_if_ne (tgt := 45) hx hb dX7_toss_39 (by decide) (fun hc_9 => ?_) (fun hc_9 => ?_)
      · have he := ite_t he hc_9
        refine lv_iload_n hx hb dX7_toss_45 rfl (lv_at hl 1 rfl) ?_
        refine lv_iconst (v := 3) hx hb dX7_toss_46 (by decide) ?_
        obtain ⟨t_16, hr_11, he⟩ := bnd_ex he
        have j86 : ∀ (H : Heap) (locs : List Loc) (ls : Array Slot), va_P D vwCl (wld 31 ad (cM ad k M_1)) H → va_S (AW 31 ad) s.heap H locs → lv_has ls 4 [] → W p l e rm_X7_toss s m args below meth c H locs 0 0 Q (F0 m 86 ls [.int t_16]) := by
          intro H locs ls hP hS hl
          exact hret _ _ _ _ _ _ ⟨(hV.trans he.symm), hTM_1⟩ hP hS dX7_toss_86
        refine lv_icmp_ne (tgt := 62) hx hb dX7_toss_47 (by decide) (fun hc_10 => ?_) (fun hc_10 => ?_)
        · have hr_11 := ite_t hr_11 hc_10
          refine lv_iload_n hx hb dX7_toss_62 rfl (lv_at hl 1 rfl) ?_
          refine lv_bipush (v := 6) hx hb dX7_toss_63 (by decide) ?_
          refine lv_icmp_ne (tgt := 80) hx hb dX7_toss_65 (by decide) (fun hc_12 => ?_) (fun hc_12 => ?_)
          · have hr_11 := ite_t hr_11 hc_12
            refine lv_aload_n hx hb dX7_toss_80 rfl (lv_at hl 2 rfl) ?_
            refine gX7_45 hx hb hG hown hK hP gw_5_12 dX7_toss_81 ?_
            refine lv_iload_n hx hb dX7_toss_84 rfl (lv_at hl 3 rfl) ?_
            refine al_M26 hx hb hK hP (vin_I (by have q0 : 0 ≤ (f_X7_wrongSailor M_1 a1).toInt := le_I hc_5; have r1 : 0 ≤ a1.toInt ∧ a1.toInt < 8 := wrongSailor_in (nlt_of_le hc_5); have qy_6 := congrArg Int32.toInt ey_6; have qy_7 := congrArg Int32.toInt ey_7; omega) (by have q0 : 0 ≤ (f_X7_wrongSailor M_1 a1).toInt := le_I hc_5; have r1 : 0 ≤ a1.toInt ∧ a1.toInt < 8 := wrongSailor_in (nlt_of_le hc_5); have qy_6 := congrArg Int32.toInt ey_6; have qy_7 := congrArg Int32.toInt ey_7; omega)) dX7_toss_85 ?_
            cases hr_11
            exact j86 _ _ _ hP hS (lv_sub hl [] rfl)
          · have hr_11 := ite_f hr_11 (fun q => q hc_12)
            refine lv_sipush (v := 200) hx hb dX7_toss_68 (by decide) ?_
            refine lv_iload_n hx hb dX7_toss_71 rfl (lv_at hl 1 rfl) ?_
            refine lv_iload_n hx hb dX7_toss_72 rfl (lv_at hl 0 rfl) ?_
            refine callS_i [.int y_6, .int y_7] [.int 200] hx hb hml hG hown hK (c_X7_skillOf had (M := M_1)  y_6 y_7) gw_45_5 gm_X7_skillOf gd_X7_skillOf rfl rfl ⟨Nat.le_of_ble_eq_true rfl, Nat.le_of_ble_eq_true rfl⟩ ⟨Nat.le_refl _, Nat.le_refl _⟩ hP (fun _ h => h) hS rfl hl.1 rfl (Nat.le_of_ble_eq_true rfl) dX7_toss_73 (fun r_13 u_15 H locs hF_14 hP hS => ?_)
            obtain ⟨hF_14, hu⟩ := hF_14; rw [hu] at hP; subst hF_14
            refine lv_iadd hx hb dX7_toss_76 ?_
            refine lv_goto (tgt := 86) hx hb dX7_toss_77 (by decide) ?_
            cases hr_11
            exact j86 _ _ _ hP hS (lv_sub hl [] rfl)
        · have hr_11 := ite_f hr_11 (fun q => q hc_10)
          refine lv_bipush (v := 100) hx hb dX7_toss_50 (by decide) ?_
          refine lv_aload_n hx hb dX7_toss_52 rfl (lv_at hl 2 rfl) ?_
          refine gX7_45 hx hb hG hown hK hP gw_5_12 dX7_toss_53 ?_
          refine lv_iload_n hx hb dX7_toss_56 rfl (lv_at hl 3 rfl) ?_
          refine al_M26 hx hb hK hP (vin_I (by have q0 : 0 ≤ (f_X7_wrongSailor M_1 a1).toInt := le_I hc_5; have r1 : 0 ≤ a1.toInt ∧ a1.toInt < 8 := wrongSailor_in (nlt_of_le hc_5); have qy_6 := congrArg Int32.toInt ey_6; have qy_7 := congrArg Int32.toInt ey_7; omega) (by have q0 : 0 ≤ (f_X7_wrongSailor M_1 a1).toInt := le_I hc_5; have r1 : 0 ≤ a1.toInt ∧ a1.toInt < 8 := wrongSailor_in (nlt_of_le hc_5); have qy_6 := congrArg Int32.toInt ey_6; have qy_7 := congrArg Int32.toInt ey_7; omega)) dX7_toss_57 ?_
          refine lv_iadd hx hb dX7_toss_58 ?_
          refine lv_goto (tgt := 86) hx hb dX7_toss_59 (by decide) ?_
          cases hr_11
          exact j86 _ _ _ hP hS (lv_sub hl [] rfl)
      · have he := ite_f he (fun q => q hc_9)
        refine lv_bipush (v := (-15)) hx hb dX7_toss_42 (by decide) ?_
        exact hret _ _ _ _ _ _ ⟨(hV.trans he.symm), hTM_1⟩ hP hS dX7_toss_44
  · have he := ite_f he hc_5
    refine lv_aload_n hx hb dX7_toss_13 rfl (lv_at hl 0 rfl) ?_
    refine lv_iload_n hx hb dX7_toss_14 rfl (lv_at hl 1 rfl) ?_
    refine call_i [.int a1] [] hx hb hml hG hown hK (c_X7_wrongSailor had M_1 a1 hTM_1.1) gw_45_1 gm_X7_wrongSailor gd_X7_wrongSailor rfl rfl ⟨Nat.le_of_ble_eq_true rfl, Nat.le_of_ble_eq_true rfl⟩ ⟨Nat.le_refl _, Nat.le_refl _⟩ (rX7 hK hP) hP (fun _ h => h) hS rfl hl.1 rfl (Nat.le_of_ble_eq_true rfl) dX7_toss_15 (fun r_17 u_19 H locs hF_18 hP hS => ?_)
    obtain ⟨hF_18, hu⟩ := hF_18; rw [hu] at hP; subst hF_18
    exact hret _ _ _ _ _ _ ⟨(hV.trans he.symm), hTM_1⟩ hP hS dX7_toss_18
