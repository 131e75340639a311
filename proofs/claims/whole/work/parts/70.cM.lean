-- @needs 12_dec 13_dec 14_dec 15_dec 37_fault 60_cM 63_cM 64_cM 65_cM 66_cM 67_cM 69_cM
def rm_X7_of : Room := { frames := 2, cells := 0, slots := 0, locals := 46 }
theorem gm_X7_of : Cond.instanceMethod yX7_of ∈ wsL_law ∧ Cond.selects RX7 yX7_of yX7_of ∈ wsL_law ∧ Cond.initialized RX7 ∈ wsL_law ∧ Cond.code yX7_of cX7_of 3 (some .int) ∈ wsL_law := ⟨gw_16_13, gw_16_14, gw_1_5, gw_16_15⟩
theorem gd_X7_of : yX7_of.cls = RX7 ∧ yX7_of.cls ≠ "java/lang/invoke/MethodHandle" ∧ yX7_of.cls ≠ "java/lang/invoke/VarHandle" ∧ (parseMethodDescriptor yX7_of.desc).map (fun d => d.parameters.length) = some 2 := by decide +kernel
set_option maxRecDepth 100000 in
set_option maxHeartbeats 0 in
theorem c_X7_of {l : Launch} {D : va_G} {k : Nat → ClassId} {ad : Nat → Nat} (had : InjN 31 ad) (M : Mem) (a1 : Int32) (a2 : Int32) (hI : MI M) : Met l yX7_of (Cond.code yX7_of cX7_of 3 (some .int) :: wsL_law) rm_X7_of (va_Pc [.ref (ad 0), .int a1, .int a2] (GW 31 ad D k (cM ad k M))) (va_Qi (fun r u => (f_X7_of M a1 a2 = (r, u) ∧ TI M u)) (fun u t => GW 31 ad D k (cM ad k u) t) (AW 31 ad)) 0 0 (AW 31 ad) := by
  refine met_i (g := cM ad k) (M := M) (plainFor_of_name (by decide)) (Nat.le_of_ble_eq_true rfl) ?_
  intro p e s m args below meth c Q ls hx hb hml hG hown hK hret hP hS hl
  have hl : lv_has ls 3 [(0, .ref (ad 0)), (1, .int a1), (2, .int a2)] := hl
  obtain ⟨V, hV⟩ : ∃ V, f_X7_of M a1 a2 = V := ⟨_, rfl⟩
  have he := hV
  unfold f_X7_of at he
  have hT0 : TI M M := TI_rf hI
  have qb_M := hI.1
  have qs_M := hI.2.1
  have qz_M := hI.2.2.1
  refine lv_aload_n hx hb dX7_of_0 rfl (lv_at hl 0 rfl) ?_
  refine lv_iconst (v := 0) hx hb dX7_of_1 (by decide) ?_
  refine pX7_19 hx hb hG hown hK hP had AW_in hS gw_5_19 dX7_of_2 (fun H locs hP hS => ?_)
  obtain ⟨M_1, eM_1⟩ : ∃ y : Mem, y = up2 M 0 19 0 := ⟨_, rfl⟩
  rw [← eM_1] at hP
  have he := bnd_at he eM_1
  have hTM_1 : TI M M_1 := by rw [eM_1]; exact TI_f hT0 (by decide)
  have qb_M_1 := hTM_1.1.1
  have qs_M_1 := hTM_1.1.2.1
  have qz_M_1 := hTM_1.1.2.2.1
  refine lv_aload_n hx hb dX7_of_5 rfl (lv_at hl 0 rfl) ?_
  refine lv_iload_n hx hb dX7_of_6 rfl (lv_at hl 1 rfl) ?_
  refine call_i [.int a1] [] hx hb hml hG hown hK (c_X7_isBoat had M_1 a1 hTM_1.1) gw_16_16 gm_X7_isBoat gd_X7_isBoat rfl rfl ⟨Nat.le_of_ble_eq_true rfl, Nat.le_of_ble_eq_true rfl⟩ ⟨Nat.le_refl _, Nat.le_refl _⟩ (rX7 hK hP) hP (fun _ h => h) hS rfl hl.1 rfl (Nat.le_of_ble_eq_true rfl) dX7_of_7 (fun r_2 u_4 H locs hF_3 hP hS => ?_)
  obtain ⟨hz_5, hF_3, hu⟩ := hF_3; rw [hu] at hP; subst hF_3
  refine lv_if_eq (tgt := 25) hx hb dX7_of_10 (by decide) (fun hc_6 => ?_) (fun hc_6 => ?_)
  · have he := ite_t he hc_6
    refine lv_ldcw (v := (-1000000001)) hx hb hown (hG _ gw_12_16) dX7_of_25 ?_
    exact hret _ _ _ _ _ _ ⟨(hV.trans he.symm), hTM_1⟩ hP hS dX7_of_28
  · have he := ite_f he hc_6
    refine lv_iload_n hx hb dX7_of_13 rfl (lv_at hl 2 rfl) ?_
    refine lv_i2l (v := a2.toInt64) hx hb dX7_of_14 rfl ?_
    refine lv_lconst (v := 0) hx hb dX7_of_15 (by decide) ?_
    refine lv_ldc2 (v := 7) hx hb hown (hG _ gw_9_11) dX7_of_16 ?_
    refine callS_i [.long a2.toInt64, .long 0, .long 7] [] hx hb hml hG hown hK (c_X7_in had (M := M_1)  a2.toInt64 0 7) gw_7_2 gm_X7_in gd_X7_in rfl rfl ⟨Nat.le_of_ble_eq_true rfl, Nat.le_of_ble_eq_true rfl⟩ ⟨Nat.le_refl _, Nat.le_refl _⟩ hP (fun _ h => h) hS rfl hl.1 rfl (Nat.le_of_ble_eq_true rfl) dX7_of_19 (fun r_7 u_9 H locs hF_8 hP hS => ?_)
    obtain ⟨hz_10, hF_8, hu⟩ := hF_8; rw [hu] at hP; subst hF_8
    refine lv_if_ne (tgt := 29) hx hb dX7_of_22 (by decide) (fun hc_11 => ?_) (fun hc_11 => ?_)
    · have he := ite_t he hc_11
      refine lv_iload_n hx hb dX7_of_29 rfl (lv_at hl 2 rfl) ?_
      by_cases hw_12 : a2 = 0
      · have he := ite_t he hw_12
        refine lv_tableIn (tgt := 72) hx hb dX7_of_30 (by rw [hw_12]; decide) (by rw [hw_12]; decide) (by rw [hw_12]; rfl) (by decide) ?_
        refine lv_aload_n hx hb dX7_of_72 rfl (lv_at hl 0 rfl) ?_
        refine gX7_9 hx hb hG hown hK hP gw_4_14 dX7_of_73 ?_
        refine lv_iload_n hx hb dX7_of_76 rfl (lv_at hl 1 rfl) ?_
        refine al_M2 hx hb hK hP (vin_I (by have q0 : (f_X7_isBoat M_1 a1).toInt ≠ 0 := ne_I hc_6; have r1 : 0 ≤ a1.toInt ∧ a1.toInt < (M_1 0 8).toInt := isBoat_in (by omega) hc_6; omega) (by have q0 : (f_X7_isBoat M_1 a1).toInt ≠ 0 := ne_I hc_6; have r1 : 0 ≤ a1.toInt ∧ a1.toInt < (M_1 0 8).toInt := isBoat_in (by omega) hc_6; omega)) dX7_of_77 ?_
        exact hret _ _ _ _ _ _ ⟨(hV.trans he.symm), hTM_1⟩ hP hS dX7_of_78
      · have he := ite_f he hw_12
        by_cases hw_13 : a2 = 1
        · have he := ite_t he hw_13
          refine lv_tableIn (tgt := 79) hx hb dX7_of_30 (by rw [hw_13]; decide) (by rw [hw_13]; decide) (by rw [hw_13]; rfl) (by decide) ?_
          refine lv_aload_n hx hb dX7_of_79 rfl (lv_at hl 0 rfl) ?_
          refine gX7_13 hx hb hG hown hK hP gw_4_18 dX7_of_80 ?_
          refine lv_iload_n hx hb dX7_of_83 rfl (lv_at hl 1 rfl) ?_
          refine al_M6 hx hb hK hP (vin_I (by have q0 : (f_X7_isBoat M_1 a1).toInt ≠ 0 := ne_I hc_6; have r1 : 0 ≤ a1.toInt ∧ a1.toInt < (M_1 0 8).toInt := isBoat_in (by omega) hc_6; omega) (by have q0 : (f_X7_isBoat M_1 a1).toInt ≠ 0 := ne_I hc_6; have r1 : 0 ≤ a1.toInt ∧ a1.toInt < (M_1 0 8).toInt := isBoat_in (by omega) hc_6; omega)) dX7_of_84 ?_
          exact hret _ _ _ _ _ _ ⟨(hV.trans he.symm), hTM_1⟩ hP hS dX7_of_85
        · have he := ite_f he hw_13
          by_cases hw_14 : a2 = 2
          · have he := ite_t he hw_14
            refine lv_tableIn (tgt := 86) hx hb dX7_of_30 (by rw [hw_14]; decide) (by rw [hw_14]; decide) (by rw [hw_14]; rfl) (by decide) ?_
            refine lv_aload_n hx hb dX7_of_86 rfl (lv_at hl 0 rfl) ?_
            refine gX7_14 hx hb hG hown hK hP gw_4_19 dX7_of_87 ?_
            refine lv_iload_n hx hb dX7_of_90 rfl (lv_at hl 1 rfl) ?_
            refine al_M7 hx hb hK hP (vin_I (by have q0 : (f_X7_isBoat M_1 a1).toInt ≠ 0 := ne_I hc_6; have r1 : 0 ≤ a1.toInt ∧ a1.toInt < (M_1 0 8).toInt := isBoat_in (by omega) hc_6; omega) (by have q0 : (f_X7_isBoat M_1 a1).toInt ≠ 0 := ne_I hc_6; have r1 : 0 ≤ a1.toInt ∧ a1.toInt < (M_1 0 8).toInt := isBoat_in (by omega) hc_6; omega)) dX7_of_91 ?_
            exact hret _ _ _ _ _ _ ⟨(hV.trans he.symm), hTM_1⟩ hP hS dX7_of_92
          · have he := ite_f he hw_14
            by_cases hw_15 : a2 = 3
            · have he := ite_t he hw_15
              refine lv_tableIn (tgt := 93) hx hb dX7_of_30 (by rw [hw_15]; decide) (by rw [hw_15]; decide) (by rw [hw_15]; rfl) (by decide) ?_
              refine lv_aload_n hx hb dX7_of_93 rfl (lv_at hl 0 rfl) ?_
              refine gX7_15 hx hb hG hown hK hP gw_4_20 dX7_of_94 ?_
              refine lv_iload_n hx hb dX7_of_97 rfl (lv_at hl 1 rfl) ?_
              refine al_M8 hx hb hK hP (vin_I (by have q0 : (f_X7_isBoat M_1 a1).toInt ≠ 0 := ne_I hc_6; have r1 : 0 ≤ a1.toInt ∧ a1.toInt < (M_1 0 8).toInt := isBoat_in (by omega) hc_6; omega) (by have q0 : (f_X7_isBoat M_1 a1).toInt ≠ 0 := ne_I hc_6; have r1 : 0 ≤ a1.toInt ∧ a1.toInt < (M_1 0 8).toInt := isBoat_in (by omega) hc_6; omega)) dX7_of_98 ?_
              obtain ⟨t_18, hr_17, he⟩ := bnd_ex he
              have j107 : ∀ (H : Heap) (locs : List Loc) (ls : Array Slot), (t_18 = 0 ∨ t_18 = 1) → va_P D vwCl (wld 31 ad (cM ad k M_1)) H → va_S (AW 31 ad) s.heap H locs → lv_has ls 3 [] → W p l e rm_X7_of s m args below meth c H locs 0 0 Q (F0 m 107 ls [.int t_18]) := by
                intro H locs ls zt_18 hP hS hl
                exact hret _ _ _ _ _ _ ⟨(hV.trans he.symm), hTM_1⟩ hP hS dX7_of_107
              refine lv_if_le (tgt := 106) hx hb dX7_of_99 (by decide) (fun hc_16 => ?_) (fun hc_16 => ?_)
              · have hr_17 := ite_t hr_17 hc_16
                refine lv_iconst (v := 0) hx hb dX7_of_106 (by decide) ?_
                cases hr_17
                exact j107 _ _ _ (Or.inl rfl) hP hS (lv_sub hl [] rfl)
              · have hr_17 := ite_f hr_17 hc_16
                refine lv_iconst (v := 1) hx hb dX7_of_102 (by decide) ?_
                refine lv_goto (tgt := 107) hx hb dX7_of_103 (by decide) ?_
                cases hr_17
                exact j107 _ _ _ (Or.inr rfl) hP hS (lv_sub hl [] rfl)
            · have he := ite_f he hw_15
              by_cases hw_19 : a2 = 4
              · have he := ite_t he hw_19
                refine lv_tableIn (tgt := 108) hx hb dX7_of_30 (by rw [hw_19]; decide) (by rw [hw_19]; decide) (by rw [hw_19]; rfl) (by decide) ?_
                refine lv_aload_n hx hb dX7_of_108 rfl (lv_at hl 0 rfl) ?_
                refine gX7_16 hx hb hG hown hK hP gw_4_21 dX7_of_109 ?_
                refine lv_iload_n hx hb dX7_of_112 rfl (lv_at hl 1 rfl) ?_
                refine al_M9 hx hb hK hP (vin_I (by have q0 : (f_X7_isBoat M_1 a1).toInt ≠ 0 := ne_I hc_6; have r1 : 0 ≤ a1.toInt ∧ a1.toInt < (M_1 0 8).toInt := isBoat_in (by omega) hc_6; omega) (by have q0 : (f_X7_isBoat M_1 a1).toInt ≠ 0 := ne_I hc_6; have r1 : 0 ≤ a1.toInt ∧ a1.toInt < (M_1 0 8).toInt := isBoat_in (by omega) hc_6; omega)) dX7_of_113 ?_
                exact hret _ _ _ _ _ _ ⟨(hV.trans he.symm), hTM_1⟩ hP hS dX7_of_114
              · have he := ite_f he hw_19
                by_cases hw_20 : a2 = 5
                · have he := ite_t he hw_20
                  refine lv_tableIn (tgt := 115) hx hb dX7_of_30 (by rw [hw_20]; decide) (by rw [hw_20]; decide) (by rw [hw_20]; rfl) (by decide) ?_
                  refine lv_aload_n hx hb dX7_of_115 rfl (lv_at hl 0 rfl) ?_
                  refine gX7_17 hx hb hG hown hK hP gw_4_22 dX7_of_116 ?_
                  refine lv_iload_n hx hb dX7_of_119 rfl (lv_at hl 1 rfl) ?_
                  refine al_M10 hx hb hK hP (vin_I (by have q0 : (f_X7_isBoat M_1 a1).toInt ≠ 0 := ne_I hc_6; have r1 : 0 ≤ a1.toInt ∧ a1.toInt < (M_1 0 8).toInt := isBoat_in (by omega) hc_6; omega) (by have q0 : (f_X7_isBoat M_1 a1).toInt ≠ 0 := ne_I hc_6; have r1 : 0 ≤ a1.toInt ∧ a1.toInt < (M_1 0 8).toInt := isBoat_in (by omega) hc_6; omega)) dX7_of_120 ?_
                  exact hret _ _ _ _ _ _ ⟨(hV.trans he.symm), hTM_1⟩ hP hS dX7_of_121
                · have he := ite_f he hw_20
                  by_cases hw_21 : a2 = 6
                  · have he := ite_t he hw_21
                    refine lv_tableIn (tgt := 122) hx hb dX7_of_30 (by rw [hw_21]; decide) (by rw [hw_21]; decide) (by rw [hw_21]; rfl) (by decide) ?_
                    refine lv_aload_n hx hb dX7_of_122 rfl (lv_at hl 0 rfl) ?_
                    refine gX7_12 hx hb hG hown hK hP gw_4_17 dX7_of_123 ?_
                    refine lv_iload_n hx hb dX7_of_126 rfl (lv_at hl 1 rfl) ?_
                    refine al_M5 hx hb hK hP (vin_I (by have q0 : (f_X7_isBoat M_1 a1).toInt ≠ 0 := ne_I hc_6; have r1 : 0 ≤ a1.toInt ∧ a1.toInt < (M_1 0 8).toInt := isBoat_in (by omega) hc_6; omega) (by have q0 : (f_X7_isBoat M_1 a1).toInt ≠ 0 := ne_I hc_6; have r1 : 0 ≤ a1.toInt ∧ a1.toInt < (M_1 0 8).toInt := isBoat_in (by omega) hc_6; omega)) dX7_of_127 ?_
                    exact hret _ _ _ _ _ _ ⟨(hV.trans he.symm), hTM_1⟩ hP hS dX7_of_128
                  · have he := ite_f he hw_21
                    refine lv_tableOut (tgt := 129) hx hb dX7_of_30 (by have q0 : a2.toInt ≠ 0 := ne_I hw_12; have q1 : a2.toInt ≠ 1 := ne_I hw_13; have q2 : a2.toInt ≠ 2 := ne_I hw_14; have q3 : a2.toInt ≠ 3 := ne_I hw_15; have q4 : a2.toInt ≠ 4 := ne_I hw_19; have q5 : a2.toInt ≠ 5 := ne_I hw_20; have q6 : a2.toInt ≠ 6 := ne_I hw_21; omega) (by decide) ?_
                    refine lv_aload_n hx hb dX7_of_129 rfl (lv_at hl 0 rfl) ?_
                    refine gX7_18 hx hb hG hown hK hP gw_4_23 dX7_of_130 ?_
                    refine lv_iload_n hx hb dX7_of_133 rfl (lv_at hl 1 rfl) ?_
                    refine al_M11 hx hb hK hP (vin_I (by have q0 : (f_X7_isBoat M_1 a1).toInt ≠ 0 := ne_I hc_6; have r1 : 0 ≤ a1.toInt ∧ a1.toInt < (M_1 0 8).toInt := isBoat_in (by omega) hc_6; omega) (by have q0 : (f_X7_isBoat M_1 a1).toInt ≠ 0 := ne_I hc_6; have r1 : 0 ≤ a1.toInt ∧ a1.toInt < (M_1 0 8).toInt := isBoat_in (by omega) hc_6; omega)) dX7_of_134 ?_
                    exact hret _ _ _ _ _ _ ⟨(hV.trans he.symm), hTM_1⟩ hP hS dX7_of_135
    · have he := ite_f he (fun q => q hc_11)
      refine lv_ldcw (v := (-1000000001)) hx hb hown (hG _ gw_12_16) dX7_of_25 ?_
      exact hret _ _ _ _ _ _ ⟨(hV.trans he.symm), hTM_1⟩ hP hS dX7_of_28
def rm_X7_badAir : Room := { frames := 2, cells := 0, slots := 0, locals := 49 }
theorem gm_X7_badAir : Cond.instanceMethod yX7_badAir ∈ wsL_law ∧ Cond.selects RX7 yX7_badAir yX7_badAir ∈ wsL_law ∧ Cond.initialized RX7 ∈ wsL_law ∧ Cond.code yX7_badAir cX7_badAir 2 (some .int) ∈ wsL_law := ⟨gw_17_14, gw_17_15, gw_1_5, gw_17_16⟩
theorem gd_X7_badAir : yX7_badAir.cls = RX7 ∧ yX7_badAir.cls ≠ "java/lang/invoke/MethodHandle" ∧ yX7_badAir.cls ≠ "java/lang/invoke/VarHandle" ∧ (parseMethodDescriptor yX7_badAir.desc).map (fun d => d.parameters.length) = some 1 := by decide +kernel
set_option maxRecDepth 100000 in
set_option maxHeartbeats 0 in
theorem c_X7_badAir {l : Launch} {D : va_G} {k : Nat → ClassId} {ad : Nat → Nat} (had : InjN 31 ad) (M : Mem) (a1 : Int32) (hI : MI M) : Met l yX7_badAir (Cond.code yX7_badAir cX7_badAir 2 (some .int) :: wsL_law) rm_X7_badAir (va_Pc [.ref (ad 0), .int a1] (GW 31 ad D k (cM ad k M))) (va_Qi (fun r u => (f_X7_badAir M a1 = (r, u) ∧ TI M u)) (fun u t => GW 31 ad D k (cM ad k u) t) (AW 31 ad)) 0 0 (AW 31 ad) := by
  refine met_i (g := cM ad k) (M := M) (plainFor_of_name (by decide)) (Nat.le_of_ble_eq_true rfl) ?_
  intro p e s m args below meth c Q ls hx hb hml hG hown hK hret hP hS hl
  have hl : lv_has ls 2 [(0, .ref (ad 0)), (1, .int a1)] := hl
  obtain ⟨V, hV⟩ : ∃ V, f_X7_badAir M a1 = V := ⟨_, rfl⟩
  have he := hV
  unfold f_X7_badAir at he
  have hT0 : TI M M := TI_rf hI
  have qb_M := hI.1
  have qs_M := hI.2.1
  have qz_M := hI.2.2.1
  refine lv_aload_n hx hb dX7_badAir_0 rfl (lv_at hl 0 rfl) ?_
  refine lv_iconst (v := 0) hx hb dX7_badAir_1 (by decide) ?_
  refine pX7_19 hx hb hG hown hK hP had AW_in hS gw_5_19 dX7_badAir_2 (fun H locs hP hS => ?_)
  obtain ⟨M_1, eM_1⟩ : ∃ y : Mem, y = up2 M 0 19 0 := ⟨_, rfl⟩
  rw [← eM_1] at hP
  have he := bnd_at he eM_1
  have hTM_1 : TI M M_1 := by rw [eM_1]; exact TI_f hT0 (by decide)
  have qb_M_1 := hTM_1.1.1
  have qs_M_1 := hTM_1.1.2.1
  have qz_M_1 := hTM_1.1.2.2.1
  refine lv_aload_n hx hb dX7_badAir_5 rfl (lv_at hl 0 rfl) ?_
  refine lv_iload_n hx hb dX7_badAir_6 rfl (lv_at hl 1 rfl) ?_
  refine call_i [.int a1] [] hx hb hml hG hown hK (c_X7_isBoat had M_1 a1 hTM_1.1) gw_16_16 gm_X7_isBoat gd_X7_isBoat rfl rfl ⟨Nat.le_of_ble_eq_true rfl, Nat.le_of_ble_eq_true rfl⟩ ⟨Nat.le_refl _, Nat.le_refl _⟩ (rX7 hK hP) hP (fun _ h => h) hS rfl hl.1 rfl (Nat.le_of_ble_eq_true rfl) dX7_badAir_7 (fun r_2 u_4 H locs hF_3 hP hS => ?_)
  obtain ⟨hz_5, hF_3, hu⟩ := hF_3; rw [hu] at hP; subst hF_3
  obtain ⟨t_13, hr_7, he⟩ := bnd_ex he
  have j30 : ∀ (H : Heap) (locs : List Loc) (ls : Array Slot), va_P D vwCl (wld 31 ad (cM ad k M_1)) H → va_S (AW 31 ad) s.heap H locs → lv_has ls 2 [] → W p l e rm_X7_badAir s m args below meth c H locs 0 0 Q (F0 m 30 ls [.int t_13]) := by
    intro H locs ls hP hS hl
    exact hret _ _ _ _ _ _ ⟨(hV.trans he.symm), hTM_1⟩ hP hS dX7_badAir_30
  refine lv_if_ne (tgt := 17) hx hb dX7_badAir_10 (by decide) (fun hc_6 => ?_) (fun hc_6 => ?_)
  · have hr_7 := ite_t hr_7 hc_6
    refine lv_aload_n hx hb dX7_badAir_17 rfl (lv_at hl 0 rfl) ?_
    refine lv_iload_n hx hb dX7_badAir_18 rfl (lv_at hl 1 rfl) ?_
    refine call_i [.int a1] [] hx hb hml hG hown hK (c_X7_isBad had M_1 a1 hTM_1.1 (by have q0 : (f_X7_isBoat M_1 a1).toInt ≠ 0 := ne_I hc_6; have r1 : 0 ≤ a1.toInt ∧ a1.toInt < (M_1 0 8).toInt := isBoat_in (by omega) hc_6; omega)) gw_17_17 gm_X7_isBad gd_X7_isBad rfl rfl ⟨Nat.le_of_ble_eq_true rfl, Nat.le_of_ble_eq_true rfl⟩ ⟨Nat.le_refl _, Nat.le_refl _⟩ (rX7 hK hP) hP (fun _ h => h) hS rfl hl.1 rfl (Nat.le_of_ble_eq_true rfl) dX7_badAir_19 (fun r_8 u_10 H locs hF_9 hP hS => ?_)
    obtain ⟨hz_11, hF_9, hu⟩ := hF_9; rw [hu] at hP; subst hF_9
    refine lv_if_eq (tgt := 29) hx hb dX7_badAir_22 (by decide) (fun hc_12 => ?_) (fun hc_12 => ?_)
    · have hr_7 := ite_t hr_7 hc_12
      refine lv_iconst (v := 0) hx hb dX7_badAir_29 (by decide) ?_
      cases hr_7
      exact j30 _ _ _ hP hS (lv_sub hl [] rfl)
    · have hr_7 := ite_f hr_7 hc_12
      refine lv_iconst (v := 1) hx hb dX7_badAir_25 (by decide) ?_
      refine lv_goto (tgt := 30) hx hb dX7_badAir_26 (by decide) ?_
      cases hr_7
      exact j30 _ _ _ hP hS (lv_sub hl [] rfl)
  · have hr_7 := ite_f hr_7 (fun q => q hc_6)
    refine lv_iconst (v := (-1)) hx hb dX7_badAir_13 (by decide) ?_
    refine lv_goto (tgt := 30) hx hb dX7_badAir_14 (by decide) ?_
    cases hr_7
    exact j30 _ _ _ hP hS (lv_sub hl [] rfl)
def rm_X7_go : Room := { frames := 5, cells := 0, slots := 0, locals := 108 }
theorem gm_X7_go : Cond.instanceMethod yX7_go ∈ wsL_law ∧ Cond.selects RX7 yX7_go yX7_go ∈ wsL_law ∧ Cond.initialized RX7 ∈ wsL_law ∧ Cond.code yX7_go cX7_go 3 (some .int) ∈ wsL_law := ⟨gw_22_1, gw_22_2, gw_1_5, gw_22_3⟩
theorem gd_X7_go : yX7_go.cls = RX7 ∧ yX7_go.cls ≠ "java/lang/invoke/MethodHandle" ∧ yX7_go.cls ≠ "java/lang/invoke/VarHandle" ∧ (parseMethodDescriptor yX7_go.desc).map (fun d => d.parameters.length) = some 1 := by decide +kernel
set_option maxRecDepth 100000 in
set_option maxHeartbeats 0 in
theorem c_X7_go {l : Launch} {D : va_G} {k : Nat → ClassId} {ad : Nat → Nat} (had : InjN 31 ad) (M : Mem) (a1 : Int32) (hI : MI M) : Met l yX7_go (Cond.code yX7_go cX7_go 3 (some .int) :: wsL_law) rm_X7_go (va_Pc [.ref (ad 0), .int a1] (GW 31 ad D k (cM ad k M))) (va_Qi (fun r u => (f_X7_go M a1 = (r, u) ∧ TI M u)) (fun u t => GW 31 ad D k (cM ad k u) t) (AW 31 ad)) 0 0 (AW 31 ad) := by
  refine met_i (g := cM ad k) (M := M) (plainFor_of_name (by decide)) (Nat.le_of_ble_eq_true rfl) ?_
  intro p e s m args below meth c Q ls hx hb hml hG hown hK hret hP hS hl
  have hl : lv_has ls 3 [(0, .ref (ad 0)), (1, .int a1)] := hl
  obtain ⟨V, hV⟩ : ∃ V, f_X7_go M a1 = V := ⟨_, rfl⟩
  have he := hV
  unfold f_X7_go at he
  have hT0 : TI M M := TI_rf hI
  have qb_M := hI.1
  have qs_M := hI.2.1
  have qz_M := hI.2.2.1
  refine lv_aload_n hx hb dX7_go_0 rfl (lv_at hl 0 rfl) ?_
  refine lv_iconst (v := 0) hx hb dX7_go_1 (by decide) ?_
  refine pX7_19 hx hb hG hown hK hP had AW_in hS gw_5_19 dX7_go_2 (fun H locs hP hS => ?_)
  obtain ⟨M_1, eM_1⟩ : ∃ y : Mem, y = up2 M 0 19 0 := ⟨_, rfl⟩
  rw [← eM_1] at hP
  have he := bnd_at he eM_1
  have hTM_1 : TI M M_1 := by rw [eM_1]; exact TI_f hT0 (by decide)
  have qb_M_1 := hTM_1.1.1
  have qs_M_1 := hTM_1.1.2.1
  have qz_M_1 := hTM_1.1.2.2.1
  refine lv_iload_n hx hb dX7_go_5 rfl (lv_at hl 1 rfl) ?_
  refine lv_i2l (v := a1.toInt64) hx hb dX7_go_6 rfl ?_
  refine lv_lconst (v := 1) hx hb dX7_go_7 (by decide) ?_
  refine lv_ldc2 (v := 100) hx hb hown (hG _ gw_22_4) dX7_go_8 ?_
  refine callS_i [.long a1.toInt64, .long 1, .long 100] [] hx hb hml hG hown hK (c_X7_in had (M := M_1)  a1.toInt64 1 100) gw_7_2 gm_X7_in gd_X7_in rfl rfl ⟨Nat.le_of_ble_eq_true rfl, Nat.le_of_ble_eq_true rfl⟩ ⟨Nat.le_refl _, Nat.le_refl _⟩ hP (fun _ h => h) hS rfl hl.1 rfl (Nat.le_of_ble_eq_true rfl) dX7_go_11 (fun r_2 u_4 H locs hF_3 hP hS => ?_)
  obtain ⟨hz_5, hF_3, hu⟩ := hF_3; rw [hu] at hP; subst hF_3
  refine lv_if_ne (tgt := 19) hx hb dX7_go_14 (by decide) (fun hc_6 => ?_) (fun hc_6 => ?_)
  · have he := ite_t he hc_6
    refine lv_aload_n hx hb dX7_go_19 rfl (lv_at hl 0 rfl) ?_
    refine gX7_8 hx hb hG hown hK hP gw_7_15 dX7_go_20 ?_
    refine lv_if_eq (tgt := 33) hx hb dX7_go_23 (by decide) (fun hc_7 => ?_) (fun hc_7 => ?_)
    · have he := ite_t he hc_7
      refine lv_bipush (v := (-3)) hx hb dX7_go_33 (by decide) ?_
      exact hret _ _ _ _ _ _ ⟨(hV.trans he.symm), hTM_1⟩ hP hS dX7_go_35
    · have he := ite_f he hc_7
      refine lv_aload_n hx hb dX7_go_26 rfl (lv_at hl 0 rfl) ?_
      refine call_i [] [] hx hb hml hG hown hK (c_X7_isEnded had M_1 hTM_1.1) gw_22_5 gm_X7_isEnded gd_X7_isEnded rfl rfl ⟨Nat.le_of_ble_eq_true rfl, Nat.le_of_ble_eq_true rfl⟩ ⟨Nat.le_refl _, Nat.le_refl _⟩ (rX7 hK hP) hP (fun _ h => h) hS rfl hl.1 rfl (Nat.le_of_ble_eq_true rfl) dX7_go_27 (fun r_8 u_10 H locs hF_9 hP hS => ?_)
      obtain ⟨hz_11, hF_9, hu⟩ := hF_9; rw [hu] at hP; subst hF_9
      refine lv_if_eq (tgt := 36) hx hb dX7_go_30 (by decide) (fun hc_12 => ?_) (fun hc_12 => ?_)
      · have he := ite_t he hc_12
        refine lv_aload_n hx hb dX7_go_36 rfl (lv_at hl 0 rfl) ?_
        refine call_v [] [] hx hb hml hG hown hK (c_X7_layWinds had M_1 hTM_1.1) gw_22_9 gm_X7_layWinds gd_X7_layWinds rfl rfl ⟨Nat.le_of_ble_eq_true rfl, Nat.le_of_ble_eq_true rfl⟩ ⟨Nat.le_refl _, Nat.le_refl _⟩ (rX7 hK hP) hP (fun _ h => h) hS rfl hl.1 rfl (Nat.le_of_ble_eq_true rfl) dX7_go_37 (fun M_15 H locs hF_14 hP hS => ?_)
        obtain ⟨hF_14, hti_16⟩ := hF_14
        have he := bnd_at he hF_14.symm
        have hTM_15 : TI M M_15 := TI_tr hTM_1 hti_16
        have qb_M_15 := hTM_15.1.1
        have qs_M_15 := hTM_15.1.2.1
        have qz_M_15 := hTM_15.1.2.2.1
        refine lv_iconst (v := 0) hx hb dX7_go_40 (by decide) ?_
        refine lv_istore_n (lv' := [(2, .int 0), (0, .ref (ad 0)), (1, .int a1)]) hx hb dX7_go_41 rfl hl (by decide) rfl (fun ls hl => ?_)
        obtain ⟨M_45, hr_33, he⟩ := bnd_ex he
        have j64 : ∀ (H : Heap) (locs : List Loc) (ls : Array Slot), TI M M_45 → va_P D vwCl (wld 31 ad (cM ad k M_45)) H → va_S (AW 31 ad) s.heap H locs → lv_has ls 3 [(0, .ref (ad 0))] → W p l e rm_X7_go s m args below meth c H locs 0 0 Q (F0 m 64 ls []) := by
          intro H locs ls hTM_45 hP hS hl
          have qb_M_45 := hTM_45.1.1
          have qs_M_45 := hTM_45.1.2.1
          have qz_M_45 := hTM_45.1.2.2.1
          refine lv_aload_n hx hb dX7_go_64 rfl (lv_at hl 0 rfl) ?_
          refine gX7_7 hx hb hG hown hK hP gw_15_12 dX7_go_65 ?_
          exact hret _ _ _ _ _ _ ⟨(hV.trans he.symm), hTM_45⟩ hP hS dX7_go_68
        have lp42 : ∀ (nn : Nat) (H : Heap) (locs : List Loc) (ls : Array Slot) (M_32 : Mem) (v_31 : Int32), (0 ≤ v_31.toInt) → (TI M M_32) → (a1.toInt - v_31.toInt).toNat < nn → lp_X7_go_42 nn a1 M_32 v_31 = M_45 → va_P D vwCl (wld 31 ad (cM ad k M_32)) H → va_S (AW 31 ad) s.heap H locs → lv_has ls 3 [(0, .ref (ad 0)), (1, .int a1), (2, .int v_31)] → W p l e rm_X7_go s m args below meth c H locs 0 0 Q (F0 m 42 ls []) := by
          intro nn
          induction nn with
          | zero =>
            intro H locs ls M_32 v_31 h0v_31 hTM_32 hμ
            exact absurd hμ (Nat.not_lt_zero _)
          | succ nn ih =>
            intro H locs ls M_32 v_31 h0v_31 hTM_32 hμ hr_33 hP hS hl
            rw [lp_X7_go_42] at hr_33
            have qb_M_32 := hTM_32.1.1
            have qs_M_32 := hTM_32.1.2.1
            have qz_M_32 := hTM_32.1.2.2.1
            refine lv_iload_n hx hb dX7_go_42 rfl (lv_at hl 2 rfl) ?_
            refine lv_iload_n hx hb dX7_go_43 rfl (lv_at hl 1 rfl) ?_
            refine lv_icmp_ge (tgt := 64) hx hb dX7_go_44 (by decide) (fun hc_34 => ?_) (fun hc_34 => ?_)
            · have hr_33 := ite_t hr_33 hc_34
              cases hr_33
              exact j64 _ _ _ hTM_32 hP hS (lv_sub hl [0] rfl)
            · have hr_33 := ite_f hr_33 hc_34
              refine lv_aload_n hx hb dX7_go_47 rfl (lv_at hl 0 rfl) ?_
              refine call_i [] [] hx hb hml hG hown hK (c_X7_isEnded had M_32 hTM_32.1) gw_22_5 gm_X7_isEnded gd_X7_isEnded rfl rfl ⟨Nat.le_of_ble_eq_true rfl, Nat.le_of_ble_eq_true rfl⟩ ⟨Nat.le_refl _, Nat.le_refl _⟩ (rX7 hK hP) hP (fun _ h => h) hS rfl hl.1 rfl (Nat.le_of_ble_eq_true rfl) dX7_go_48 (fun r_35 u_37 H locs hF_36 hP hS => ?_)
              obtain ⟨hz_38, hF_36, hu⟩ := hF_36; rw [hu] at hP; subst hF_36
              refine lv_if_ne (tgt := 64) hx hb dX7_go_51 (by decide) (fun hc_39 => ?_) (fun hc_39 => ?_)
              · have hr_33 := ite_t hr_33 hc_39
                cases hr_33
                exact j64 _ _ _ hTM_32 hP hS (lv_sub hl [0] rfl)
              · have hr_33 := ite_f hr_33 (fun q => q hc_39)
                refine lv_aload_n hx hb dX7_go_54 rfl (lv_at hl 0 rfl) ?_
                refine call_v [] [] hx hb hml hG hown hK (c_X7_raceOn had M_32 hTM_32.1 (by have q0 : (f_X7_isEnded M_32).toInt = 0 := congrArg Int32.toInt hc_39; have r1 : (M_32 0 7).toInt < 400 := isEnded_lt hc_39; omega)) gw_22_14 gm_X7_raceOn gd_X7_raceOn rfl rfl ⟨Nat.le_of_ble_eq_true rfl, Nat.le_of_ble_eq_true rfl⟩ ⟨Nat.le_refl _, Nat.le_refl _⟩ (rX7 hK hP) hP (fun _ h => h) hS rfl hl.1 rfl (Nat.le_of_ble_eq_true rfl) dX7_go_55 (fun M_42 H locs hF_41 hP hS => ?_)
                obtain ⟨hF_41, hti_43⟩ := hF_41
                have hr_33 := bnd_at hr_33 hF_41.symm
                have hTM_42 : TI M M_42 := TI_tr hTM_32 hti_43
                have qb_M_42 := hTM_42.1.1
                have qs_M_42 := hTM_42.1.2.1
                have qz_M_42 := hTM_42.1.2.2.1
                obtain ⟨y_44, ey_44⟩ : ∃ y_44 : Int32, y_44 = v_31 + 1 := ⟨_, rfl⟩
                have hr_33 := bnd_at hr_33 ey_44
                refine lv_iinc (v := y_44) (lv' := [(2, .int y_44), (0, .ref (ad 0)), (1, .int a1)]) hx hb dX7_go_58 hl (k := 2) rfl (by rw [ey_44]; rfl) (by decide) rfl (fun ls hl => ?_)
                refine lv_goto (tgt := 42) hx hb dX7_go_61 (by decide) ?_
                exact ih _ _ _ _ _ (by rw [ey_44, inc_I (N := a1.toInt) (nle_I hc_34) (Int32.toInt_le _)]; omega) hTM_42 (by rw [ey_44]; exact mu_I hμ (nle_I hc_34) (Int32.toInt_le _)) hr_33 hP hS (lv_sub hl [1, 2, 0] rfl)
        exact lp42 _ _ _ _ _ _ (by decide) hTM_15 (Nat.lt_succ_self _) hr_33 hP hS (lv_sub hl [1, 2, 0] rfl)
      · have he := ite_f he hc_12
        refine lv_bipush (v := (-3)) hx hb dX7_go_33 (by decide) ?_
        exact hret _ _ _ _ _ _ ⟨(hV.trans he.symm), hTM_1⟩ hP hS dX7_go_35
  · have he := ite_f he (fun q => q hc_6)
    refine lv_iconst (v := (-1)) hx hb dX7_go_17 (by decide) ?_
    exact hret _ _ _ _ _ _ ⟨(hV.trans he.symm), hTM_1⟩ hP hS dX7_go_18
def rm_X7_turn : Room := { frames := 2, cells := 0, slots := 0, locals := 46 }
theorem gm_X7_turn : Cond.instanceMethod yX7_turn ∈ wsL_law ∧ Cond.selects RX7 yX7_turn yX7_turn ∈ wsL_law ∧ Cond.initialized RX7 ∈ wsL_law ∧ Cond.code yX7_turn cX7_turn 2 (some .int) ∈ wsL_law := ⟨gw_25_13, gw_25_14, gw_1_5, gw_25_15⟩
theorem gd_X7_turn : yX7_turn.cls = RX7 ∧ yX7_turn.cls ≠ "java/lang/invoke/MethodHandle" ∧ yX7_turn.cls ≠ "java/lang/invoke/VarHandle" ∧ (parseMethodDescriptor yX7_turn.desc).map (fun d => d.parameters.length) = some 1 := by decide +kernel
set_option maxRecDepth 100000 in
set_option maxHeartbeats 0 in
theorem c_X7_turn {l : Launch} {D : va_G} {k : Nat → ClassId} {ad : Nat → Nat} (had : InjN 31 ad) (M : Mem) (a1 : Int32) (hI : MI M) : Met l yX7_turn (Cond.code yX7_turn cX7_turn 2 (some .int) :: wsL_law) rm_X7_turn (va_Pc [.ref (ad 0), .int a1] (GW 31 ad D k (cM ad k M))) (va_Qi (fun r u => (f_X7_turn M a1 = (r, u) ∧ TI M u)) (fun u t => GW 31 ad D k (cM ad k u) t) (AW 31 ad)) 0 0 (AW 31 ad) := by
  refine met_i (g := cM ad k) (M := M) (plainFor_of_name (by decide)) (Nat.le_of_ble_eq_true rfl) ?_
  intro p e s m args below meth c Q ls hx hb hml hG hown hK hret hP hS hl
  have hl : lv_has ls 2 [(0, .ref (ad 0)), (1, .int a1)] := hl
  obtain ⟨V, hV⟩ : ∃ V, f_X7_turn M a1 = V := ⟨_, rfl⟩
  have he := hV
  unfold f_X7_turn at he
  have hT0 : TI M M := TI_rf hI
  have qb_M := hI.1
  have qs_M := hI.2.1
  have qz_M := hI.2.2.1
  refine lv_aload_n hx hb dX7_turn_0 rfl (lv_at hl 0 rfl) ?_
  refine lv_iconst (v := 0) hx hb dX7_turn_1 (by decide) ?_
  refine pX7_19 hx hb hG hown hK hP had AW_in hS gw_5_19 dX7_turn_2 (fun H locs hP hS => ?_)
  obtain ⟨M_1, eM_1⟩ : ∃ y : Mem, y = up2 M 0 19 0 := ⟨_, rfl⟩
  rw [← eM_1] at hP
  have he := bnd_at he eM_1
  have hTM_1 : TI M M_1 := by rw [eM_1]; exact TI_f hT0 (by decide)
  have qb_M_1 := hTM_1.1.1
  have qs_M_1 := hTM_1.1.2.1
  have qz_M_1 := hTM_1.1.2.2.1
  refine lv_aload_n hx hb dX7_turn_5 rfl (lv_at hl 0 rfl) ?_
  refine lv_iload_n hx hb dX7_turn_6 rfl (lv_at hl 1 rfl) ?_
  refine call_i [.int a1] [] hx hb hml hG hown hK (c_X7_isBoat had M_1 a1 hTM_1.1) gw_16_16 gm_X7_isBoat gd_X7_isBoat rfl rfl ⟨Nat.le_of_ble_eq_true rfl, Nat.le_of_ble_eq_true rfl⟩ ⟨Nat.le_refl _, Nat.le_refl _⟩ (rX7 hK hP) hP (fun _ h => h) hS rfl hl.1 rfl (Nat.le_of_ble_eq_true rfl) dX7_turn_7 (fun r_2 u_4 H locs hF_3 hP hS => ?_)
  obtain ⟨hz_5, hF_3, hu⟩ := hF_3; rw [hu] at hP; subst hF_3
  refine lv_if_ne (tgt := 15) hx hb dX7_turn_10 (by decide) (fun hc_6 => ?_) (fun hc_6 => ?_)
  · have he := ite_t he hc_6
    refine lv_aload_n hx hb dX7_turn_15 rfl (lv_at hl 0 rfl) ?_
    refine lv_iload_n hx hb dX7_turn_16 rfl (lv_at hl 1 rfl) ?_
    refine call_i [.int a1] [] hx hb hml hG hown hK (c_X7_mayTurn had M_1 a1 hTM_1.1 (by have q0 : (f_X7_isBoat M_1 a1).toInt ≠ 0 := ne_I hc_6; have r1 : 0 ≤ a1.toInt ∧ a1.toInt < (M_1 0 8).toInt := isBoat_in (by omega) hc_6; omega)) gw_23_13 gm_X7_mayTurn gd_X7_mayTurn rfl rfl ⟨Nat.le_of_ble_eq_true rfl, Nat.le_of_ble_eq_true rfl⟩ ⟨Nat.le_refl _, Nat.le_refl _⟩ (rX7 hK hP) hP (fun _ h => h) hS rfl hl.1 rfl (Nat.le_of_ble_eq_true rfl) dX7_turn_17 (fun r_7 u_9 H locs hF_8 hP hS => ?_)
    obtain ⟨hz_10, hF_8, hu⟩ := hF_8; rw [hu] at hP; subst hF_8
    refine lv_if_ne (tgt := 26) hx hb dX7_turn_20 (by decide) (fun hc_11 => ?_) (fun hc_11 => ?_)
    · have he := ite_t he hc_11
      refine lv_aload_n hx hb dX7_turn_26 rfl (lv_at hl 0 rfl) ?_
      refine lv_iload_n hx hb dX7_turn_27 rfl (lv_at hl 1 rfl) ?_
      refine call_v [.int a1] [] hx hb hml hG hown hK (c_X7_turnOne had M_1 a1 hTM_1.1 (by have q0 : (f_X7_isBoat M_1 a1).toInt ≠ 0 := ne_I hc_6; have r1 : 0 ≤ a1.toInt ∧ a1.toInt < (M_1 0 8).toInt := isBoat_in (by omega) hc_6; have q2 : (f_X7_mayTurn M_1 a1).toInt ≠ 0 := ne_I hc_11; omega)) gw_25_1 gm_X7_turnOne gd_X7_turnOne rfl rfl ⟨Nat.le_of_ble_eq_true rfl, Nat.le_of_ble_eq_true rfl⟩ ⟨Nat.le_refl _, Nat.le_refl _⟩ (rX7 hK hP) hP (fun _ h => h) hS rfl hl.1 rfl (Nat.le_of_ble_eq_true rfl) dX7_turn_28 (fun M_14 H locs hF_13 hP hS => ?_)
      obtain ⟨hF_13, hti_15⟩ := hF_13
      have he := bnd_at he hF_13.symm
      have hTM_14 : TI M M_14 := TI_tr hTM_1 hti_15
      have qb_M_14 := hTM_14.1.1
      have qs_M_14 := hTM_14.1.2.1
      have qz_M_14 := hTM_14.1.2.2.1
      refine lv_aload_n hx hb dX7_turn_31 rfl (lv_at hl 0 rfl) ?_
      refine gX7_16 hx hb hG hown hK hP gw_4_21 dX7_turn_32 ?_
      refine lv_iload_n hx hb dX7_turn_35 rfl (lv_at hl 1 rfl) ?_
      refine al_M9 hx hb hK hP (vin_I (by have q0 : (f_X7_isBoat M_1 a1).toInt ≠ 0 := ne_I hc_6; have r1 : 0 ≤ a1.toInt ∧ a1.toInt < (M_1 0 8).toInt := isBoat_in (by omega) hc_6; have q2 : (f_X7_mayTurn M_1 a1).toInt ≠ 0 := ne_I hc_11; omega) (by have q0 : (f_X7_isBoat M_1 a1).toInt ≠ 0 := ne_I hc_6; have r1 : 0 ≤ a1.toInt ∧ a1.toInt < (M_1 0 8).toInt := isBoat_in (by omega) hc_6; have q2 : (f_X7_mayTurn M_1 a1).toInt ≠ 0 := ne_I hc_11; omega)) dX7_turn_36 ?_
      exact hret _ _ _ _ _ _ ⟨(hV.trans he.symm), hTM_14⟩ hP hS dX7_turn_37
    · have he := ite_f he (fun q => q hc_11)
      refine lv_bipush (v := (-3)) hx hb dX7_turn_23 (by decide) ?_
      exact hret _ _ _ _ _ _ ⟨(hV.trans he.symm), hTM_1⟩ hP hS dX7_turn_25
  · have he := ite_f he (fun q => q hc_6)
    refine lv_iconst (v := (-1)) hx hb dX7_turn_13 (by decide) ?_
    exact hret _ _ _ _ _ _ ⟨(hV.trans he.symm), hTM_1⟩ hP hS dX7_turn_14
def rm_X7_anew : Room := { frames := 1, cells := 0, slots := 0, locals := 21 }
theorem gm_X7_anew : Cond.instanceMethod yX7_anew ∈ wsL_law ∧ Cond.selects RX7 yX7_anew yX7_anew ∈ wsL_law ∧ Cond.initialized RX7 ∈ wsL_law ∧ Cond.code yX7_anew cX7_anew 2 (some .int) ∈ wsL_law := ⟨gw_26_2, gw_26_3, gw_1_5, gw_26_4⟩
theorem gd_X7_anew : yX7_anew.cls = RX7 ∧ yX7_anew.cls ≠ "java/lang/invoke/MethodHandle" ∧ yX7_anew.cls ≠ "java/lang/invoke/VarHandle" ∧ (parseMethodDescriptor yX7_anew.desc).map (fun d => d.parameters.length) = some 0 := by decide +kernel
set_option maxRecDepth 100000 in
set_option maxHeartbeats 0 in
theorem c_X7_anew {l : Launch} {D : va_G} {k : Nat → ClassId} {ad : Nat → Nat} (had : InjN 31 ad) (M : Mem) (hI : MI M) : Met l yX7_anew (Cond.code yX7_anew cX7_anew 2 (some .int) :: wsL_law) rm_X7_anew (va_Pc [.ref (ad 0)] (GW 31 ad D k (cM ad k M))) (va_Qi (fun r u => (f_X7_anew M = (r, u) ∧ TI M u)) (fun u t => GW 31 ad D k (cM ad k u) t) (AW 31 ad)) 0 0 (AW 31 ad) := by
  refine met_i (g := cM ad k) (M := M) (plainFor_of_name (by decide)) (Nat.le_of_ble_eq_true rfl) ?_
  intro p e s m args below meth c Q ls hx hb hml hG hown hK hret hP hS hl
  have hl : lv_has ls 2 [(0, .ref (ad 0))] := hl
  obtain ⟨V, hV⟩ : ∃ V, f_X7_anew M = V := ⟨_, rfl⟩
  have he := hV
  unfold f_X7_anew at he
  have hT0 : TI M M := TI_rf hI
  have qb_M := hI.1
  have qs_M := hI.2.1
  have qz_M := hI.2.2.1
  refine lv_aload_n hx hb dX7_anew_0 rfl (lv_at hl 0 rfl) ?_
  refine lv_iconst (v := 0) hx hb dX7_anew_1 (by decide) ?_
  refine pX7_19 hx hb hG hown hK hP had AW_in hS gw_5_19 dX7_anew_2 (fun H locs hP hS => ?_)
  obtain ⟨M_1, eM_1⟩ : ∃ y : Mem, y = up2 M 0 19 0 := ⟨_, rfl⟩
  rw [← eM_1] at hP
  have he := bnd_at he eM_1
  have hTM_1 : TI M M_1 := by rw [eM_1]; exact TI_f hT0 (by decide)
  have qb_M_1 := hTM_1.1.1
  have qs_M_1 := hTM_1.1.2.1
  have qz_M_1 := hTM_1.1.2.2.1
  refine lv_aload_n hx hb dX7_anew_5 rfl (lv_at hl 0 rfl) ?_
  refine lv_iconst (v := 0) hx hb dX7_anew_6 (by decide) ?_
  refine pX7_7 hx hb hG hown hK hP had AW_in hS gw_15_12 dX7_anew_7 (fun H locs hP hS => ?_)
  obtain ⟨M_2, eM_2⟩ : ∃ y : Mem, y = up2 M_1 0 7 0 := ⟨_, rfl⟩
  rw [← eM_2] at hP
  have he := bnd_at he eM_2
  have hTM_2 : TI M M_2 := by rw [eM_2]; exact TI_second hTM_1 (by decide)
  have qb_M_2 := hTM_2.1.1
  have qs_M_2 := hTM_2.1.2.1
  have qz_M_2 := hTM_2.1.2.2.1
  refine lv_iconst (v := 0) hx hb dX7_anew_10 (by decide) ?_
  refine lv_istore_n (lv' := [(1, .int 0), (0, .ref (ad 0))]) hx hb dX7_anew_11 rfl hl (by decide) rfl (fun ls hl => ?_)
  obtain ⟨M_21, hr_14, he⟩ := bnd_ex he
  have j31 : ∀ (H : Heap) (locs : List Loc) (ls : Array Slot), TI M M_21 → va_P D vwCl (wld 31 ad (cM ad k M_21)) H → va_S (AW 31 ad) s.heap H locs → lv_has ls 2 [(0, .ref (ad 0))] → W p l e rm_X7_anew s m args below meth c H locs 0 0 Q (F0 m 31 ls []) := by
    intro H locs ls hTM_21 hP hS hl
    have qb_M_21 := hTM_21.1.1
    have qs_M_21 := hTM_21.1.2.1
    have qz_M_21 := hTM_21.1.2.2.1
    refine lv_aload_n hx hb dX7_anew_31 rfl (lv_at hl 0 rfl) ?_
    refine gX7_8 hx hb hG hown hK hP gw_7_15 dX7_anew_32 ?_
    exact hret _ _ _ _ _ _ ⟨(hV.trans he.symm), hTM_21⟩ hP hS dX7_anew_35
  have lp12 : ∀ (nn : Nat) (H : Heap) (locs : List Loc) (ls : Array Slot) (M_13 : Mem) (v_12 : Int32), (0 ≤ v_12.toInt) → (TI M M_13) → (4 - v_12.toInt).toNat < nn → lp_X7_anew_12 nn M_13 v_12 = M_21 → va_P D vwCl (wld 31 ad (cM ad k M_13)) H → va_S (AW 31 ad) s.heap H locs → lv_has ls 2 [(0, .ref (ad 0)), (1, .int v_12)] → W p l e rm_X7_anew s m args below meth c H locs 0 0 Q (F0 m 12 ls []) := by
    intro nn
    induction nn with
    | zero =>
      intro H locs ls M_13 v_12 h0v_12 hTM_13 hμ
      exact absurd hμ (Nat.not_lt_zero _)
    | succ nn ih =>
      intro H locs ls M_13 v_12 h0v_12 hTM_13 hμ hr_14 hP hS hl
      rw [lp_X7_anew_12] at hr_14
      have qb_M_13 := hTM_13.1.1
      have qs_M_13 := hTM_13.1.2.1
      have qz_M_13 := hTM_13.1.2.2.1
      refine lv_iload_n hx hb dX7_anew_12 rfl (lv_at hl 1 rfl) ?_
      refine lv_aload_n hx hb dX7_anew_13 rfl (lv_at hl 0 rfl) ?_
      refine gX7_8 hx hb hG hown hK hP gw_7_15 dX7_anew_14 ?_
      refine lv_icmp_ge (tgt := 31) hx hb dX7_anew_17 (by decide) (fun hc_15 => ?_) (fun hc_15 => ?_)
      · have hr_14 := ite_t hr_14 hc_15
        cases hr_14
        exact j31 _ _ _ hTM_13 hP hS (lv_sub hl [0] rfl)
      · have hr_14 := ite_f hr_14 hc_15
        refine lv_aload_n hx hb dX7_anew_20 rfl (lv_at hl 0 rfl) ?_
        refine lv_iload_n hx hb dX7_anew_21 rfl (lv_at hl 1 rfl) ?_
        refine call_v [.int v_12] [] hx hb hml hG hown hK (c_X7_begin had M_13 v_12 hTM_13.1 (by have q0 : v_12.toInt < (M_13 0 8).toInt := nle_I hc_15; omega)) gw_15_18 gm_X7_begin gd_X7_begin rfl rfl ⟨Nat.le_of_ble_eq_true rfl, Nat.le_of_ble_eq_true rfl⟩ ⟨Nat.le_refl _, Nat.le_refl _⟩ (rX7 hK hP) hP (fun _ h => h) hS rfl hl.1 rfl (Nat.le_of_ble_eq_true rfl) dX7_anew_22 (fun M_18 H locs hF_17 hP hS => ?_)
        obtain ⟨hF_17, hti_19⟩ := hF_17
        have hr_14 := bnd_at hr_14 hF_17.symm
        have hTM_18 : TI M M_18 := TI_tr hTM_13 hti_19
        have qb_M_18 := hTM_18.1.1
        have qs_M_18 := hTM_18.1.2.1
        have qz_M_18 := hTM_18.1.2.2.1
        obtain ⟨y_20, ey_20⟩ : ∃ y_20 : Int32, y_20 = v_12 + 1 := ⟨_, rfl⟩
        have hr_14 := bnd_at hr_14 ey_20
        refine lv_iinc (v := y_20) (lv' := [(1, .int y_20), (0, .ref (ad 0))]) hx hb dX7_anew_25 hl (k := 1) rfl (by rw [ey_20]; rfl) (by decide) rfl (fun ls hl => ?_)
        refine lv_goto (tgt := 12) hx hb dX7_anew_28 (by decide) ?_
        exact ih _ _ _ _ _ (by rw [ey_20, inc_I (N := 4) (bnd_lt (nle_I hc_15) (by omega)) (by decide)]; omega) hTM_18 (by rw [ey_20]; exact mu_I hμ (bnd_lt (nle_I hc_15) (by omega)) (by decide)) hr_14 hP hS (lv_sub hl [1, 0] rfl)
  exact lp12 _ _ _ _ _ _ (by decide) hTM_2 (by decide) hr_14 hP hS (lv_sub hl [1, 0] rfl)
def rm_X7_place : Room := { frames := 4, cells := 0, slots := 0, locals := 86 }
theorem gm_X7_place : Cond.instanceMethod yX7_place ∈ wsL_law ∧ Cond.selects RX7 yX7_place yX7_place ∈ wsL_law ∧ Cond.initialized RX7 ∈ wsL_law ∧ Cond.code yX7_place cX7_place 3 (some .int) ∈ wsL_law := ⟨gw_27_3, gw_27_4, gw_1_5, gw_27_5⟩
theorem gd_X7_place : yX7_place.cls = RX7 ∧ yX7_place.cls ≠ "java/lang/invoke/MethodHandle" ∧ yX7_place.cls ≠ "java/lang/invoke/VarHandle" ∧ (parseMethodDescriptor yX7_place.desc).map (fun d => d.parameters.length) = some 1 := by decide +kernel
set_option maxRecDepth 100000 in
set_option maxHeartbeats 0 in
theorem c_X7_place {l : Launch} {D : va_G} {k : Nat → ClassId} {ad : Nat → Nat} (had : InjN 31 ad) (M : Mem) (a1 : Int32) (hI : MI M) : Met l yX7_place (Cond.code yX7_place cX7_place 3 (some .int) :: wsL_law) rm_X7_place (va_Pc [.ref (ad 0), .int a1] (GW 31 ad D k (cM ad k M))) (va_Qi (fun r u => (f_X7_place M a1 = (r, u) ∧ TI M u)) (fun u t => GW 31 ad D k (cM ad k u) t) (AW 31 ad)) 0 0 (AW 31 ad) := by
  refine met_i (g := cM ad k) (M := M) (plainFor_of_name (by decide)) (Nat.le_of_ble_eq_true rfl) ?_
  intro p e s m args below meth c Q ls hx hb hml hG hown hK hret hP hS hl
  have hl : lv_has ls 3 [(0, .ref (ad 0)), (1, .int a1)] := hl
  obtain ⟨V, hV⟩ : ∃ V, f_X7_place M a1 = V := ⟨_, rfl⟩
  have he := hV
  unfold f_X7_place at he
  have hT0 : TI M M := TI_rf hI
  have qb_M := hI.1
  have qs_M := hI.2.1
  have qz_M := hI.2.2.1
  refine lv_aload_n hx hb dX7_place_0 rfl (lv_at hl 0 rfl) ?_
  refine lv_iconst (v := 0) hx hb dX7_place_1 (by decide) ?_
  refine pX7_19 hx hb hG hown hK hP had AW_in hS gw_5_19 dX7_place_2 (fun H locs hP hS => ?_)
  obtain ⟨M_1, eM_1⟩ : ∃ y : Mem, y = up2 M 0 19 0 := ⟨_, rfl⟩
  rw [← eM_1] at hP
  have he := bnd_at he eM_1
  have hTM_1 : TI M M_1 := by rw [eM_1]; exact TI_f hT0 (by decide)
  have qb_M_1 := hTM_1.1.1
  have qs_M_1 := hTM_1.1.2.1
  have qz_M_1 := hTM_1.1.2.2.1
  refine lv_iload_n hx hb dX7_place_5 rfl (lv_at hl 1 rfl) ?_
  refine lv_iconst (v := 1) hx hb dX7_place_6 (by decide) ?_
  refine lv_icmp_ge (tgt := 12) hx hb dX7_place_7 (by decide) (fun hc_2 => ?_) (fun hc_2 => ?_)
  · have he := ite_t he hc_2
    refine lv_iconst (v := 0) hx hb dX7_place_12 (by decide) ?_
    refine lv_istore_n (lv' := [(2, .int 0), (0, .ref (ad 0)), (1, .int a1)]) hx hb dX7_place_13 rfl hl (by decide) rfl (fun ls hl => ?_)
    have lp14 : ∀ (nn : Nat) (H : Heap) (locs : List Loc) (ls : Array Slot) (v_10 : Int32), (0 ≤ v_10.toInt) → (4 - v_10.toInt).toNat < nn → lp_X7_place_14 nn a1 M_1 v_10 = V → va_P D vwCl (wld 31 ad (cM ad k M_1)) H → va_S (AW 31 ad) s.heap H locs → lv_has ls 3 [(0, .ref (ad 0)), (1, .int a1), (2, .int v_10)] → W p l e rm_X7_place s m args below meth c H locs 0 0 Q (F0 m 14 ls []) := by
      intro nn
      induction nn with
      | zero =>
        intro H locs ls v_10 h0v_10 hμ
        exact absurd hμ (Nat.not_lt_zero _)
      | succ nn ih =>
        intro H locs ls v_10 h0v_10 hμ he hP hS hl
        rw [lp_X7_place_14] at he
        refine lv_iload_n hx hb dX7_place_14 rfl (lv_at hl 2 rfl) ?_
        refine lv_aload_n hx hb dX7_place_15 rfl (lv_at hl 0 rfl) ?_
        refine gX7_8 hx hb hG hown hK hP gw_7_15 dX7_place_16 ?_
        refine lv_icmp_ge (tgt := 39) hx hb dX7_place_19 (by decide) (fun hc_11 => ?_) (fun hc_11 => ?_)
        · have he := ite_t he hc_11
          refine lv_bipush (v := (-4)) hx hb dX7_place_39 (by decide) ?_
          exact hret _ _ _ _ _ _ ⟨(hV.trans he.symm), hTM_1⟩ hP hS dX7_place_41
        · have he := ite_f he hc_11
          refine lv_aload_n hx hb dX7_place_22 rfl (lv_at hl 0 rfl) ?_
          refine lv_iload_n hx hb dX7_place_23 rfl (lv_at hl 2 rfl) ?_
          refine call_i [.int v_10] [] hx hb hml hG hown hK (c_X7_placeOf had M_1 v_10 hTM_1.1 (by have q0 : v_10.toInt < (M_1 0 8).toInt := nle_I hc_11; omega)) gw_27_6 gm_X7_placeOf gd_X7_placeOf rfl rfl ⟨Nat.le_of_ble_eq_true rfl, Nat.le_of_ble_eq_true rfl⟩ ⟨Nat.le_refl _, Nat.le_refl _⟩ (rX7 hK hP) hP (fun _ h => h) hS rfl hl.1 rfl (Nat.le_of_ble_eq_true rfl) dX7_place_24 (fun r_12 u_14 H locs hF_13 hP hS => ?_)
          obtain ⟨hF_13, hu⟩ := hF_13; rw [hu] at hP; subst hF_13
          refine lv_iload_n hx hb dX7_place_27 rfl (lv_at hl 1 rfl) ?_
          refine lv_icmp_ne (tgt := 33) hx hb dX7_place_28 (by decide) (fun hc_15 => ?_) (fun hc_15 => ?_)
          · have he := ite_t he hc_15
            obtain ⟨y_16, ey_16⟩ : ∃ y_16 : Int32, y_16 = v_10 + 1 := ⟨_, rfl⟩
            have he := bnd_at he ey_16
            refine lv_iinc (v := y_16) (lv' := [(2, .int y_16), (0, .ref (ad 0)), (1, .int a1)]) hx hb dX7_place_33 hl (k := 2) rfl (by rw [ey_16]; rfl) (by decide) rfl (fun ls hl => ?_)
            refine lv_goto (tgt := 14) hx hb dX7_place_36 (by decide) ?_
            exact ih _ _ _ _ (by rw [ey_16, inc_I (N := 4) (bnd_lt (nle_I hc_11) (by omega)) (by decide)]; omega) (by rw [ey_16]; exact mu_I hμ (bnd_lt (nle_I hc_11) (by omega)) (by decide)) he hP hS (lv_sub hl [1, 2, 0] rfl)
          · have he := ite_f he (fun q => q hc_15)
            refine lv_iload_n hx hb dX7_place_31 rfl (lv_at hl 2 rfl) ?_
            exact hret _ _ _ _ _ _ ⟨(hV.trans he.symm), hTM_1⟩ hP hS dX7_place_32
    exact lp14 _ _ _ _ _ (by decide) (by decide) he hP hS (lv_sub hl [1, 2, 0] rfl)
  · have he := ite_f he hc_2
    refine lv_iconst (v := (-1)) hx hb dX7_place_10 (by decide) ?_
    exact hret _ _ _ _ _ _ ⟨(hV.trans he.symm), hTM_1⟩ hP hS dX7_place_11
def rm_X7_ends : Room := { frames := 6, cells := 0, slots := 0, locals := 128 }
theorem gm_X7_ends : Cond.instanceMethod yX7_ends ∈ wsL_law ∧ Cond.selects RX7 yX7_ends yX7_ends ∈ wsL_law ∧ Cond.initialized RX7 ∈ wsL_law ∧ Cond.code yX7_ends cX7_ends 3 (some .int) ∈ wsL_law := ⟨gw_28_13, gw_28_14, gw_1_5, gw_28_15⟩
theorem gd_X7_ends : yX7_ends.cls = RX7 ∧ yX7_ends.cls ≠ "java/lang/invoke/MethodHandle" ∧ yX7_ends.cls ≠ "java/lang/invoke/VarHandle" ∧ (parseMethodDescriptor yX7_ends.desc).map (fun d => d.parameters.length) = some 1 := by decide +kernel
set_option maxRecDepth 100000 in
set_option maxHeartbeats 0 in
theorem c_X7_ends {l : Launch} {D : va_G} {k : Nat → ClassId} {ad : Nat → Nat} (had : InjN 31 ad) (M : Mem) (a1 : Int32) (hI : MI M) : Met l yX7_ends (Cond.code yX7_ends cX7_ends 3 (some .int) :: wsL_law) rm_X7_ends (va_Pc [.ref (ad 0), .int a1] (GW 31 ad D k (cM ad k M))) (va_Qi (fun r u => (f_X7_ends M a1 = (r, u) ∧ TI M u)) (fun u t => GW 31 ad D k (cM ad k u) t) (AW 31 ad)) 0 0 (AW 31 ad) := by
  refine met_i (g := cM ad k) (M := M) (plainFor_of_name (by decide)) (Nat.le_of_ble_eq_true rfl) ?_
  intro p e s m args below meth c Q ls hx hb hml hG hown hK hret hP hS hl
  have hl : lv_has ls 3 [(0, .ref (ad 0)), (1, .int a1)] := hl
  obtain ⟨V, hV⟩ : ∃ V, f_X7_ends M a1 = V := ⟨_, rfl⟩
  have he := hV
  unfold f_X7_ends at he
  have hT0 : TI M M := TI_rf hI
  have qb_M := hI.1
  have qs_M := hI.2.1
  have qz_M := hI.2.2.1
  refine lv_aload_n hx hb dX7_ends_0 rfl (lv_at hl 0 rfl) ?_
  refine lv_iconst (v := 0) hx hb dX7_ends_1 (by decide) ?_
  refine pX7_19 hx hb hG hown hK hP had AW_in hS gw_5_19 dX7_ends_2 (fun H locs hP hS => ?_)
  obtain ⟨M_1, eM_1⟩ : ∃ y : Mem, y = up2 M 0 19 0 := ⟨_, rfl⟩
  rw [← eM_1] at hP
  have he := bnd_at he eM_1
  have hTM_1 : TI M M_1 := by rw [eM_1]; exact TI_f hT0 (by decide)
  have qb_M_1 := hTM_1.1.1
  have qs_M_1 := hTM_1.1.2.1
  have qz_M_1 := hTM_1.1.2.2.1
  refine lv_aload_n hx hb dX7_ends_5 rfl (lv_at hl 0 rfl) ?_
  refine lv_iload_n hx hb dX7_ends_6 rfl (lv_at hl 1 rfl) ?_
  refine call_i [.int a1] [] hx hb hml hG hown hK (c_X7_isBoat had M_1 a1 hTM_1.1) gw_16_16 gm_X7_isBoat gd_X7_isBoat rfl rfl ⟨Nat.le_of_ble_eq_true rfl, Nat.le_of_ble_eq_true rfl⟩ ⟨Nat.le_refl _, Nat.le_refl _⟩ (rX7 hK hP) hP (fun _ h => h) hS rfl hl.1 rfl (Nat.le_of_ble_eq_true rfl) dX7_ends_7 (fun r_2 u_4 H locs hF_3 hP hS => ?_)
  obtain ⟨hz_5, hF_3, hu⟩ := hF_3; rw [hu] at hP; subst hF_3
  refine lv_if_ne (tgt := 15) hx hb dX7_ends_10 (by decide) (fun hc_6 => ?_) (fun hc_6 => ?_)
  · have he := ite_t he hc_6
    refine lv_aload_n hx hb dX7_ends_15 rfl (lv_at hl 0 rfl) ?_
    refine call_v [] [] hx hb hml hG hown hK (c_X7_open had M_1 hTM_1.1) gw_28_16 gm_X7_open gd_X7_open rfl rfl ⟨Nat.le_of_ble_eq_true rfl, Nat.le_of_ble_eq_true rfl⟩ ⟨Nat.le_refl _, Nat.le_refl _⟩ (rX7 hK hP) hP (fun _ h => h) hS rfl hl.1 rfl (Nat.le_of_ble_eq_true rfl) dX7_ends_16 (fun M_9 H locs hF_8 hP hS => ?_)
    obtain ⟨hF_8, hti_10⟩ := hF_8
    have he := bnd_at he hF_8.symm
    have hNM_9 := hti_10.2
    have hTM_9 : TI M M_9 := TI_tr hTM_1 hti_10.1
    have qb_M_9 := hTM_9.1.1
    have qs_M_9 := hTM_9.1.2.1
    have qz_M_9 := hTM_9.1.2.2.1
    refine lv_aload_n hx hb dX7_ends_19 rfl (lv_at hl 0 rfl) ?_
    refine call_v [] [] hx hb hml hG hown hK (c_X7_raceToEnd had M_9 hTM_9.1) gw_29_11 gm_X7_raceToEnd gd_X7_raceToEnd rfl rfl ⟨Nat.le_of_ble_eq_true rfl, Nat.le_of_ble_eq_true rfl⟩ ⟨Nat.le_refl _, Nat.le_refl _⟩ (rX7 hK hP) hP (fun _ h => h) hS rfl hl.1 rfl (Nat.le_of_ble_eq_true rfl) dX7_ends_20 (fun M_13 H locs hF_12 hP hS => ?_)
    obtain ⟨hF_12, hti_14⟩ := hF_12
    have he := bnd_at he hF_12.symm
    have hNM_13 : SN (M_13 20) := hti_14.2 hNM_9
    have hTM_13 : TI M M_13 := TI_tr hTM_9 hti_14
    have qb_M_13 := hTM_13.1.1
    have qs_M_13 := hTM_13.1.2.1
    have qz_M_13 := hTM_13.1.2.2.1
    refine lv_aload_n hx hb dX7_ends_23 rfl (lv_at hl 0 rfl) ?_
    refine lv_iload_n hx hb dX7_ends_24 rfl (lv_at hl 1 rfl) ?_
    refine call_i [.int a1] [] hx hb hml hG hown hK (c_X7_placeOf had M_13 a1 hTM_13.1 (by have q0 : (f_X7_isBoat M_1 a1).toInt ≠ 0 := ne_I hc_6; have r1 : 0 ≤ a1.toInt ∧ a1.toInt < (M_1 0 8).toInt := isBoat_in (by omega) hc_6; omega)) gw_27_6 gm_X7_placeOf gd_X7_placeOf rfl rfl ⟨Nat.le_of_ble_eq_true rfl, Nat.le_of_ble_eq_true rfl⟩ ⟨Nat.le_refl _, Nat.le_refl _⟩ (rX7 hK hP) hP (fun _ h => h) hS rfl hl.1 rfl (Nat.le_of_ble_eq_true rfl) dX7_ends_25 (fun r_15 u_17 H locs hF_16 hP hS => ?_)
    obtain ⟨hF_16, hu⟩ := hF_16; rw [hu] at hP; subst hF_16
    refine lv_topi (fun y_18 ey_18 => ?_)
    have he := bnd_at he ey_18
    refine lv_istore_n (lv' := [(2, .int y_18), (0, .ref (ad 0)), (1, .int a1)]) hx hb dX7_ends_28 rfl hl (by decide) rfl (fun ls hl => ?_)
    refine lv_aload_n hx hb dX7_ends_29 rfl (lv_at hl 1 rfl) ?_
    refine call_v [] [] hx hb hml hG hown hK (c_X7_close had M_13 hTM_13.1 hNM_13) gw_29_15 gm_X7_close gd_X7_close rfl rfl ⟨Nat.le_of_ble_eq_true rfl, Nat.le_of_ble_eq_true rfl⟩ ⟨Nat.le_refl _, Nat.le_refl _⟩ (rX7 hK hP) hP (fun _ h => h) hS rfl hl.1 rfl (Nat.le_of_ble_eq_true rfl) dX7_ends_30 (fun M_21 H locs hF_20 hP hS => ?_)
    obtain ⟨hF_20, hti_22⟩ := hF_20
    have he := bnd_at he hF_20.symm
    have hNM_21 : SN (M_21 20) := hti_22.2 hNM_13
    have hTM_21 : TI M M_21 := TI_tr hTM_13 hti_22
    have qb_M_21 := hTM_21.1.1
    have qs_M_21 := hTM_21.1.2.1
    have qz_M_21 := hTM_21.1.2.2.1
    refine lv_iload_n hx hb dX7_ends_33 rfl (lv_at hl 0 rfl) ?_
    exact hret _ _ _ _ _ _ ⟨(hV.trans he.symm), hTM_21⟩ hP hS dX7_ends_34
  · have he := ite_f he (fun q => q hc_6)
    refine lv_iconst (v := (-1)) hx hb dX7_ends_13 (by decide) ?_
    exact hret _ _ _ _ _ _ ⟨(hV.trans he.symm), hTM_1⟩ hP hS dX7_ends_14
def rm_X7_isBitTime : Room := { frames := 1, cells := 0, slots := 0, locals := 25 }
theorem gm_X7_isBitTime : Cond.instanceMethod yX7_isBitTime ∈ wsL_law ∧ Cond.selects RX7 yX7_isBitTime yX7_isBitTime ∈ wsL_law ∧ Cond.initialized RX7 ∈ wsL_law ∧ Cond.code yX7_isBitTime cX7_isBitTime 3 (some .boolean) ∈ wsL_law := ⟨gw_31_2, gw_31_3, gw_1_5, gw_31_4⟩
theorem gd_X7_isBitTime : yX7_isBitTime.cls = RX7 ∧ yX7_isBitTime.cls ≠ "java/lang/invoke/MethodHandle" ∧ yX7_isBitTime.cls ≠ "java/lang/invoke/VarHandle" ∧ (parseMethodDescriptor yX7_isBitTime.desc).map (fun d => d.parameters.length) = some 1 := by decide +kernel
set_option maxRecDepth 100000 in
set_option maxHeartbeats 0 in
theorem c_X7_isBitTime {l : Launch} {D : va_G} {k : Nat → ClassId} {ad : Nat → Nat} (had : InjN 31 ad) (M : Mem) (a1 : Int32) (hI : MI M) (hbx : 0 ≤ a1.toInt ∧ a1.toInt < 4) : Met l yX7_isBitTime (Cond.code yX7_isBitTime cX7_isBitTime 3 (some .boolean) :: wsL_law) rm_X7_isBitTime (va_Pc [.ref (ad 0), .int a1] (GW 31 ad D k (cM ad k M))) (va_Qi (fun r u => (r = 0 ∨ r = 1) ∧ f_X7_isBitTime M a1 = r ∧ u = M) (fun u t => GW 31 ad D k (cM ad k u) t) (AW 31 ad)) 0 0 (AW 31 ad) := by
  refine met_z (g := cM ad k) (M := M) (plainFor_of_name (by decide)) (Nat.le_of_ble_eq_true rfl) ?_
  intro p e s m args below meth c Q ls hx hb hml hG hown hK hret hP hS hl
  have hl : lv_has ls 3 [(0, .ref (ad 0)), (1, .int a1)] := hl
  obtain ⟨V, hV⟩ : ∃ V, f_X7_isBitTime M a1 = V := ⟨_, rfl⟩
  have he := hV
  unfold f_X7_isBitTime at he
  have hT0 : TI M M := TI_rf hI
  have qb_M := hI.1
  have qs_M := hI.2.1
  have qz_M := hI.2.2.1
  refine lv_aload_n hx hb dX7_isBitTime_0 rfl (lv_at hl 0 rfl) ?_
  refine gX7_7 hx hb hG hown hK hP gw_15_12 dX7_isBitTime_1 ?_
  refine lv_bipush (v := 10) hx hb dX7_isBitTime_4 (by decide) ?_
  refine lv_idiv hx hb dX7_isBitTime_6 (by decide) ?_
  refine lv_iconst (v := 1) hx hb dX7_isBitTime_7 (by decide) ?_
  refine lv_isub hx hb dX7_isBitTime_8 ?_
  refine lv_topi (fun y_1 ey_1 => ?_)
  have he := bnd_at he ey_1
  refine lv_istore_n (lv' := [(2, .int y_1), (0, .ref (ad 0)), (1, .int a1)]) hx hb dX7_isBitTime_9 rfl hl (by decide) rfl (fun ls hl => ?_)
  refine lv_aload_n hx hb dX7_isBitTime_10 rfl (lv_at hl 1 rfl) ?_
  refine gX7_7 hx hb hG hown hK hP gw_15_12 dX7_isBitTime_11 ?_
  refine lv_bipush (v := 10) hx hb dX7_isBitTime_14 (by decide) ?_
  refine lv_irem hx hb dX7_isBitTime_16 (by decide) ?_
  obtain ⟨t_10, hr_3, he⟩ := bnd_ex he
  have j55 : ∀ (H : Heap) (locs : List Loc) (ls : Array Slot), (t_10 = 0 ∨ t_10 = 1) → va_P D vwCl (wld 31 ad (cM ad k M)) H → va_S (AW 31 ad) s.heap H locs → lv_has ls 3 [] → W p l e rm_X7_isBitTime s m args below meth c H locs 0 0 Q (F0 m 55 ls [.int t_10]) := by
    intro H locs ls zt_10 hP hS hl
    exact hret _ _ _ _ _ _ ⟨zt_10, (hV.trans he.symm), rfl⟩ (nz01 zt_10) hP hS dX7_isBitTime_55
  refine lv_if_ne (tgt := 54) hx hb dX7_isBitTime_17 (by decide) (fun hc_2 => ?_) (fun hc_2 => ?_)
  · have hr_3 := ite_t hr_3 hc_2
    refine lv_iconst (v := 0) hx hb dX7_isBitTime_54 (by decide) ?_
    cases hr_3
    exact j55 _ _ _ (Or.inl rfl) hP hS (lv_sub hl [] rfl)
  · have hr_3 := ite_f hr_3 (fun q => q hc_2)
    refine lv_iload_n hx hb dX7_isBitTime_20 rfl (lv_at hl 0 rfl) ?_
    refine lv_i2l (v := y_1.toInt64) hx hb dX7_isBitTime_21 rfl ?_
    refine lv_lconst (v := 0) hx hb dX7_isBitTime_22 (by decide) ?_
    refine lv_aload_n hx hb dX7_isBitTime_23 rfl (lv_at hl 1 rfl) ?_
    refine gX7_40 hx hb hG hown hK hP gw_30_16 dX7_isBitTime_24 ?_
    refine lv_iconst (v := 1) hx hb dX7_isBitTime_27 (by decide) ?_
    refine lv_isub hx hb dX7_isBitTime_28 ?_
    refine lv_i2l (v := ((M 0 40) - 1).toInt64) hx hb dX7_isBitTime_29 rfl ?_
    refine callS_i [.long y_1.toInt64, .long 0, .long (((M 0 40) - 1).toInt64)] [] hx hb hml hG hown hK (c_X7_in had (M := M)  y_1.toInt64 0 (((M 0 40) - 1).toInt64)) gw_7_2 gm_X7_in gd_X7_in rfl rfl ⟨Nat.le_of_ble_eq_true rfl, Nat.le_of_ble_eq_true rfl⟩ ⟨Nat.le_refl _, Nat.le_refl _⟩ hP (fun _ h => h) hS rfl hl.1 rfl (Nat.le_of_ble_eq_true rfl) dX7_isBitTime_30 (fun r_4 u_6 H locs hF_5 hP hS => ?_)
    obtain ⟨hz_7, hF_5, hu⟩ := hF_5; rw [hu] at hP; subst hF_5
    refine lv_if_eq (tgt := 54) hx hb dX7_isBitTime_33 (by decide) (fun hc_8 => ?_) (fun hc_8 => ?_)
    · have hr_3 := ite_t hr_3 hc_8
      refine lv_iconst (v := 0) hx hb dX7_isBitTime_54 (by decide) ?_
      cases hr_3
      exact j55 _ _ _ (Or.inl rfl) hP hS (lv_sub hl [] rfl)
    · have hr_3 := ite_f hr_3 hc_8
      refine lv_aload_n hx hb dX7_isBitTime_36 rfl (lv_at hl 1 rfl) ?_
      refine gX7_39 hx hb hG hown hK hP gw_5_10 dX7_isBitTime_37 ?_
      refine lv_iload_n hx hb dX7_isBitTime_40 rfl (lv_at hl 2 rfl) ?_
      refine al_M22 hx hb hK hP (vin_I (by omega) (by omega)) dX7_isBitTime_41 ?_
      refine lv_iload_n hx hb dX7_isBitTime_42 rfl (lv_at hl 0 rfl) ?_
      refine lv_ishr hx hb dX7_isBitTime_43 ?_
      refine lv_iconst (v := 1) hx hb dX7_isBitTime_44 (by decide) ?_
      refine lv_iand hx hb dX7_isBitTime_45 ?_
      refine lv_iconst (v := 1) hx hb dX7_isBitTime_46 (by decide) ?_
      refine lv_icmp_ne (tgt := 54) hx hb dX7_isBitTime_47 (by decide) (fun hc_9 => ?_) (fun hc_9 => ?_)
      · have hr_3 := ite_t hr_3 hc_9
        refine lv_iconst (v := 0) hx hb dX7_isBitTime_54 (by decide) ?_
        cases hr_3
        exact j55 _ _ _ (Or.inl rfl) hP hS (lv_sub hl [] rfl)
      · have hr_3 := ite_f hr_3 (fun q => q hc_9)
        refine lv_iconst (v := 1) hx hb dX7_isBitTime_50 (by decide) ?_
        refine lv_goto (tgt := 55) hx hb dX7_isBitTime_51 (by decide) ?_
        cases hr_3
        exact j55 _ _ _ (Or.inr rfl) hP hS (lv_sub hl [] rfl)
