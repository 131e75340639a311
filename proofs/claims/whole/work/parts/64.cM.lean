-- @needs 12_dec 13_dec 14_dec 15_dec 37_fault 60_cM 63_cM
def rm_X7_isBad : Room := { frames := 1, cells := 0, slots := 0, locals := 25 }
theorem gm_X7_isBad : Cond.instanceMethod yX7_isBad ∈ wsL_law ∧ Cond.selects RX7 yX7_isBad yX7_isBad ∈ wsL_law ∧ Cond.initialized RX7 ∈ wsL_law ∧ Cond.code yX7_isBad cX7_isBad 5 (some .boolean) ∈ wsL_law := ⟨gw_17_18, gw_17_19, gw_1_5, gw_17_20⟩
theorem gd_X7_isBad : yX7_isBad.cls = RX7 ∧ yX7_isBad.cls ≠ "java/lang/invoke/MethodHandle" ∧ yX7_isBad.cls ≠ "java/lang/invoke/VarHandle" ∧ (parseMethodDescriptor yX7_isBad.desc).map (fun d => d.parameters.length) = some 1 := by decide +kernel
set_option maxRecDepth 100000 in
set_option maxHeartbeats 0 in
theorem c_X7_isBad {l : Launch} {D : va_G} {k : Nat → ClassId} {ad : Nat → Nat} (had : InjN 31 ad) (M : Mem) (a1 : Int32) (hI : MI M) (hbx : 0 ≤ a1.toInt ∧ a1.toInt < 4) : Met l yX7_isBad (Cond.code yX7_isBad cX7_isBad 5 (some .boolean) :: wsL_law) rm_X7_isBad (va_Pc [.ref (ad 0), .int a1] (GW 31 ad D k (cM ad k M))) (va_Qi (fun r u => (r = 0 ∨ r = 1) ∧ f_X7_isBad M a1 = r ∧ u = M) (fun u t => GW 31 ad D k (cM ad k u) t) (AW 31 ad)) 0 0 (AW 31 ad) := by
  refine met_z (g := cM ad k) (M := M) (plainFor_of_name (by decide)) (Nat.le_of_ble_eq_true rfl) ?_
  intro p e s m args below meth c Q ls hx hb hml hG hown hK hret hP hS hl
  have hl : lv_has ls 5 [(0, .ref (ad 0)), (1, .int a1)] := hl
  obtain ⟨V, hV⟩ : ∃ V, f_X7_isBad M a1 = V := ⟨_, rfl⟩
  have he := hV
  unfold f_X7_isBad at he
  have hT0 : TI M M := TI_rf hI
  have qb_M := hI.1
  have qs_M := hI.2.1
  have qz_M := hI.2.2.1
  refine lv_iconst (v := 0) hx hb dX7_isBad_0 (by decide) ?_
  refine lv_istore_n (lv' := [(2, .int 0), (0, .ref (ad 0)), (1, .int a1)]) hx hb dX7_isBad_1 rfl hl (by decide) rfl (fun ls hl => ?_)
  refine lv_iconst (v := 0) hx hb dX7_isBad_2 (by decide) ?_
  refine lv_istore_n (lv' := [(3, .int 0), (2, .int 0), (0, .ref (ad 0)), (1, .int a1)]) hx hb dX7_isBad_3 rfl hl (by decide) rfl (fun ls hl => ?_)
  obtain ⟨w_55, hr_30, he⟩ := bnd_ex he
  have j103 : ∀ (H : Heap) (locs : List Loc) (ls : Array Slot), (w_55 = 0 ∨ w_55 = 1) → va_P D vwCl (wld 31 ad (cM ad k M)) H → va_S (AW 31 ad) s.heap H locs → lv_has ls 5 [(0, .ref (ad 0)), (1, .int a1), (2, .int w_55)] → W p l e rm_X7_isBad s m args below meth c H locs 0 0 Q (F0 m 103 ls []) := by
    intro H locs ls zw_55 hP hS hl
    refine lv_iload_n hx hb dX7_isBad_103 rfl (lv_at hl 2 rfl) ?_
    obtain ⟨t_63, hr_57, he⟩ := bnd_ex he
    have j120 : ∀ (H : Heap) (locs : List Loc) (ls : Array Slot), (t_63 = 0 ∨ t_63 = 1) → va_P D vwCl (wld 31 ad (cM ad k M)) H → va_S (AW 31 ad) s.heap H locs → lv_has ls 5 [] → W p l e rm_X7_isBad s m args below meth c H locs 0 0 Q (F0 m 120 ls [.int t_63]) := by
      intro H locs ls zt_63 hP hS hl
      exact hret _ _ _ _ _ _ ⟨zt_63, (hV.trans he.symm), rfl⟩ (nz01 zt_63) hP hS dX7_isBad_120
    refine lv_if_eq (tgt := 119) hx hb dX7_isBad_104 (by decide) (fun hc_56 => ?_) (fun hc_56 => ?_)
    · have hr_57 := ite_t hr_57 hc_56
      refine lv_iconst (v := 0) hx hb dX7_isBad_119 (by decide) ?_
      cases hr_57
      exact j120 _ _ _ (Or.inl rfl) hP hS (lv_sub hl [] rfl)
    · have hr_57 := ite_f hr_57 hc_56
      refine lv_aload_n hx hb dX7_isBad_107 rfl (lv_at hl 0 rfl) ?_
      refine lv_iload_n hx hb dX7_isBad_108 rfl (lv_at hl 1 rfl) ?_
      refine call_i [.int a1] [] hx hb hml hG hown hK (c_X7_isIn had M a1 hT0.1 (by omega)) gw_18_0 gm_X7_isIn gd_X7_isIn rfl rfl ⟨Nat.le_of_ble_eq_true rfl, Nat.le_of_ble_eq_true rfl⟩ ⟨Nat.le_refl _, Nat.le_refl _⟩ (rX7 hK hP) hP (fun _ h => h) hS rfl hl.1 rfl (Nat.le_of_ble_eq_true rfl) dX7_isBad_109 (fun r_58 u_60 H locs hF_59 hP hS => ?_)
      obtain ⟨hz_61, hF_59, hu⟩ := hF_59; rw [hu] at hP; subst hF_59
      refine lv_if_ne (tgt := 119) hx hb dX7_isBad_112 (by decide) (fun hc_62 => ?_) (fun hc_62 => ?_)
      · have hr_57 := ite_t hr_57 hc_62
        refine lv_iconst (v := 0) hx hb dX7_isBad_119 (by decide) ?_
        cases hr_57
        exact j120 _ _ _ (Or.inl rfl) hP hS (lv_sub hl [] rfl)
      · have hr_57 := ite_f hr_57 (fun q => q hc_62)
        refine lv_iconst (v := 1) hx hb dX7_isBad_115 (by decide) ?_
        refine lv_goto (tgt := 120) hx hb dX7_isBad_116 (by decide) ?_
        cases hr_57
        exact j120 _ _ _ (Or.inr rfl) hP hS (lv_sub hl [] rfl)
  have lp4 : ∀ (nn : Nat) (H : Heap) (locs : List Loc) (ls : Array Slot) (v_28 : Int32) (v_29 : Int32), (v_28 = 0 ∨ v_28 = 1) → (0 ≤ v_29.toInt) → (4 - v_29.toInt).toNat < nn → lp_X7_isBad_4 nn M a1 v_28 v_29 = w_55 → va_P D vwCl (wld 31 ad (cM ad k M)) H → va_S (AW 31 ad) s.heap H locs → lv_has ls 5 [(0, .ref (ad 0)), (1, .int a1), (2, .int v_28), (3, .int v_29)] → W p l e rm_X7_isBad s m args below meth c H locs 0 0 Q (F0 m 4 ls []) := by
    intro nn
    induction nn with
    | zero =>
      intro H locs ls v_28 v_29 zv_28 h0v_29 hμ
      exact absurd hμ (Nat.not_lt_zero _)
    | succ nn ih =>
      intro H locs ls v_28 v_29 zv_28 h0v_29 hμ hr_30 hP hS hl
      rw [lp_X7_isBad_4] at hr_30
      refine lv_iload_n hx hb dX7_isBad_4 rfl (lv_at hl 3 rfl) ?_
      refine lv_aload_n hx hb dX7_isBad_5 rfl (lv_at hl 0 rfl) ?_
      refine gX7_8 hx hb hG hown hK hP gw_7_15 dX7_isBad_6 ?_
      refine lv_icmp_ge (tgt := 103) hx hb dX7_isBad_9 (by decide) (fun hc_31 => ?_) (fun hc_31 => ?_)
      · have hr_30 := ite_t hr_30 hc_31
        cases hr_30
        exact j103 _ _ _ zv_28 hP hS (lv_sub hl [0, 1, 2] rfl)
      · have hr_30 := ite_f hr_30 hc_31
        refine lv_aload_n hx hb dX7_isBad_12 rfl (lv_at hl 0 rfl) ?_
        refine gX7_14 hx hb hG hown hK hP gw_4_19 dX7_isBad_13 ?_
        refine lv_iload_n hx hb dX7_isBad_16 rfl (lv_at hl 3 rfl) ?_
        refine al_M7 hx hb hK hP (vin_I (by have q0 : v_29.toInt < (M 0 8).toInt := nle_I hc_31; omega) (by have q0 : v_29.toInt < (M 0 8).toInt := nle_I hc_31; omega)) dX7_isBad_17 ?_
        refine lv_aload_n hx hb dX7_isBad_18 rfl (lv_at hl 0 rfl) ?_
        refine gX7_14 hx hb hG hown hK hP gw_4_19 dX7_isBad_19 ?_
        refine lv_iload_n hx hb dX7_isBad_22 rfl (lv_at hl 1 rfl) ?_
        refine al_M7 hx hb hK hP (vin_I (by omega) (by omega)) dX7_isBad_23 ?_
        refine lv_isub hx hb dX7_isBad_24 ?_
        refine lv_i2l (v := ((M 7 v_29.toNatClampNeg) - (M 7 a1.toNatClampNeg)).toInt64) hx hb dX7_isBad_25 rfl ?_
        refine lv_lconst (v := 1) hx hb dX7_isBad_26 (by decide) ?_
        refine lv_ldc2 (v := 20) hx hb hown (hG _ gw_17_21) dX7_isBad_27 ?_
        refine callS_i [.long (((M 7 v_29.toNatClampNeg) - (M 7 a1.toNatClampNeg)).toInt64), .long 1, .long 20] [] hx hb hml hG hown hK (c_X7_in had (M := M)  (((M 7 v_29.toNatClampNeg) - (M 7 a1.toNatClampNeg)).toInt64) 1 20) gw_7_2 gm_X7_in gd_X7_in rfl rfl ⟨Nat.le_of_ble_eq_true rfl, Nat.le_of_ble_eq_true rfl⟩ ⟨Nat.le_refl _, Nat.le_refl _⟩ hP (fun _ h => h) hS rfl hl.1 rfl (Nat.le_of_ble_eq_true rfl) dX7_isBad_30 (fun r_32 u_34 H locs hF_33 hP hS => ?_)
        obtain ⟨hz_35, hF_33, hu⟩ := hF_33; rw [hu] at hP; subst hF_33
        obtain ⟨t_43, hr_37, hr_30⟩ := bnd_ex hr_30
        have j67 : ∀ (H : Heap) (locs : List Loc) (ls : Array Slot), (t_43 = 0 ∨ t_43 = 1) → va_P D vwCl (wld 31 ad (cM ad k M)) H → va_S (AW 31 ad) s.heap H locs → lv_has ls 5 [(0, .ref (ad 0)), (1, .int a1), (2, .int v_28), (3, .int v_29)] → W p l e rm_X7_isBad s m args below meth c H locs 0 0 Q (F0 m 67 ls [.int t_43]) := by
          intro H locs ls zt_43 hP hS hl
          refine lv_istore (lv' := [(4, .int t_43), (0, .ref (ad 0)), (1, .int a1), (2, .int v_28), (3, .int v_29)]) hx hb dX7_isBad_67 hl (by decide) rfl (fun ls hl => ?_)
          refine lv_iload_n hx hb dX7_isBad_69 rfl (lv_at hl 3 rfl) ?_
          obtain ⟨t_53, hr_45, hr_30⟩ := bnd_ex hr_30
          have j96 : ∀ (H : Heap) (locs : List Loc) (ls : Array Slot), (t_53 = 0 ∨ t_53 = 1) → va_P D vwCl (wld 31 ad (cM ad k M)) H → va_S (AW 31 ad) s.heap H locs → lv_has ls 5 [(0, .ref (ad 0)), (1, .int a1), (3, .int v_29)] → W p l e rm_X7_isBad s m args below meth c H locs 0 0 Q (F0 m 96 ls [.int t_53]) := by
            intro H locs ls zt_53 hP hS hl
            refine lv_istore_n (lv' := [(2, .int t_53), (0, .ref (ad 0)), (1, .int a1), (3, .int v_29)]) hx hb dX7_isBad_96 rfl hl (by decide) rfl (fun ls hl => ?_)
            obtain ⟨y_54, ey_54⟩ : ∃ y_54 : Int32, y_54 = v_29 + 1 := ⟨_, rfl⟩
            have hr_30 := bnd_at hr_30 ey_54
            refine lv_iinc (v := y_54) (lv' := [(3, .int y_54), (2, .int t_53), (0, .ref (ad 0)), (1, .int a1)]) hx hb dX7_isBad_97 hl (k := 3) rfl (by rw [ey_54]; rfl) (by decide) rfl (fun ls hl => ?_)
            refine lv_goto (tgt := 4) hx hb dX7_isBad_100 (by decide) ?_
            exact ih _ _ _ _ _ zt_53 (by rw [ey_54, inc_I (N := 4) (bnd_lt (nle_I hc_31) (by omega)) (by decide)]; omega) (by rw [ey_54]; exact mu_I hμ (bnd_lt (nle_I hc_31) (by omega)) (by decide)) hr_30 hP hS (lv_sub hl [2, 3, 1, 0] rfl)
          refine lv_if_ne (tgt := 91) hx hb dX7_isBad_70 (by decide) (fun hc_44 => ?_) (fun hc_44 => ?_)
          · have hr_45 := ite_t hr_45 hc_44
            refine lv_iconst (v := 1) hx hb dX7_isBad_91 (by decide) ?_
            refine lv_goto (tgt := 96) hx hb dX7_isBad_92 (by decide) ?_
            cases hr_45
            exact j96 _ _ _ (Or.inr rfl) hP hS (lv_sub hl [1, 2, 4] rfl)
          · have hr_45 := ite_f hr_45 (fun q => q hc_44)
            refine lv_iload_n hx hb dX7_isBad_73 rfl (lv_at hl 4 rfl) ?_
            refine lv_iload_n hx hb dX7_isBad_74 rfl (lv_at hl 2 rfl) ?_
            refine lv_icmp_eq (tgt := 95) hx hb dX7_isBad_75 (by decide) (fun hc_46 => ?_) (fun hc_46 => ?_)
            · have hr_45 := ite_t hr_45 hc_46
              refine lv_iconst (v := 0) hx hb dX7_isBad_95 (by decide) ?_
              cases hr_45
              exact j96 _ _ _ (Or.inl rfl) hP hS (lv_sub hl [1, 2, 4] rfl)
            · have hr_45 := ite_f hr_45 hc_46
              refine lv_aload_n hx hb dX7_isBad_78 rfl (lv_at hl 1 rfl) ?_
              refine lv_iload_n hx hb dX7_isBad_79 rfl (lv_at hl 4 rfl) ?_
              refine call_i [.int v_29] [] hx hb hml hG hown hK (c_X7_isIn had M v_29 hT0.1 (by have q0 : v_29.toInt < (M 0 8).toInt := nle_I hc_31; have q1 : v_29.toInt ≠ a1.toInt := ne_I hc_46; omega)) gw_18_0 gm_X7_isIn gd_X7_isIn rfl rfl ⟨Nat.le_of_ble_eq_true rfl, Nat.le_of_ble_eq_true rfl⟩ ⟨Nat.le_refl _, Nat.le_refl _⟩ (rX7 hK hP) hP (fun _ h => h) hS rfl hl.1 rfl (Nat.le_of_ble_eq_true rfl) dX7_isBad_80 (fun r_47 u_49 H locs hF_48 hP hS => ?_)
              obtain ⟨hz_50, hF_48, hu⟩ := hF_48; rw [hu] at hP; subst hF_48
              refine lv_if_ne (tgt := 95) hx hb dX7_isBad_83 (by decide) (fun hc_51 => ?_) (fun hc_51 => ?_)
              · have hr_45 := ite_t hr_45 hc_51
                refine lv_iconst (v := 0) hx hb dX7_isBad_95 (by decide) ?_
                cases hr_45
                exact j96 _ _ _ (Or.inl rfl) hP hS (lv_sub hl [1, 2, 4] rfl)
              · have hr_45 := ite_f hr_45 (fun q => q hc_51)
                refine lv_iload hx hb dX7_isBad_86 (lv_at hl 0 rfl) ?_
                refine lv_if_eq (tgt := 95) hx hb dX7_isBad_88 (by decide) (fun hc_52 => ?_) (fun hc_52 => ?_)
                · have hr_45 := ite_t hr_45 hc_52
                  refine lv_iconst (v := 0) hx hb dX7_isBad_95 (by decide) ?_
                  cases hr_45
                  exact j96 _ _ _ (Or.inl rfl) hP hS (lv_sub hl [1, 2, 4] rfl)
                · have hr_45 := ite_f hr_45 hc_52
                  refine lv_iconst (v := 1) hx hb dX7_isBad_91 (by decide) ?_
                  refine lv_goto (tgt := 96) hx hb dX7_isBad_92 (by decide) ?_
                  cases hr_45
                  exact j96 _ _ _ (Or.inr rfl) hP hS (lv_sub hl [1, 2, 4] rfl)
        refine lv_if_eq (tgt := 66) hx hb dX7_isBad_33 (by decide) (fun hc_36 => ?_) (fun hc_36 => ?_)
        · have hr_37 := ite_t hr_37 hc_36
          refine lv_iconst (v := 0) hx hb dX7_isBad_66 (by decide) ?_
          cases hr_37
          exact j67 _ _ _ (Or.inl rfl) hP hS (lv_sub hl [0, 1, 2, 3] rfl)
        · have hr_37 := ite_f hr_37 hc_36
          refine lv_aload_n hx hb dX7_isBad_36 rfl (lv_at hl 0 rfl) ?_
          refine gX7_13 hx hb hG hown hK hP gw_4_18 dX7_isBad_37 ?_
          refine lv_iload_n hx hb dX7_isBad_40 rfl (lv_at hl 3 rfl) ?_
          refine al_M6 hx hb hK hP (vin_I (by have q0 : v_29.toInt < (M 0 8).toInt := nle_I hc_31; have q1 : (f_X7_in (((M 7 v_29.toNatClampNeg) - (M 7 a1.toNatClampNeg)).toInt64) 1 20).toInt ≠ 0 := ne_I hc_36; omega) (by have q0 : v_29.toInt < (M 0 8).toInt := nle_I hc_31; have q1 : (f_X7_in (((M 7 v_29.toNatClampNeg) - (M 7 a1.toNatClampNeg)).toInt64) 1 20).toInt ≠ 0 := ne_I hc_36; omega)) dX7_isBad_41 ?_
          refine lv_aload_n hx hb dX7_isBad_42 rfl (lv_at hl 0 rfl) ?_
          refine gX7_13 hx hb hG hown hK hP gw_4_18 dX7_isBad_43 ?_
          refine lv_iload_n hx hb dX7_isBad_46 rfl (lv_at hl 1 rfl) ?_
          refine al_M6 hx hb hK hP (vin_I (by have q0 : v_29.toInt < (M 0 8).toInt := nle_I hc_31; have q1 : (f_X7_in (((M 7 v_29.toNatClampNeg) - (M 7 a1.toNatClampNeg)).toInt64) 1 20).toInt ≠ 0 := ne_I hc_36; omega) (by have q0 : v_29.toInt < (M 0 8).toInt := nle_I hc_31; have q1 : (f_X7_in (((M 7 v_29.toNatClampNeg) - (M 7 a1.toNatClampNeg)).toInt64) 1 20).toInt ≠ 0 := ne_I hc_36; omega)) dX7_isBad_47 ?_
          refine lv_isub hx hb dX7_isBad_48 ?_
          refine lv_i2l (v := ((M 6 v_29.toNatClampNeg) - (M 6 a1.toNatClampNeg)).toInt64) hx hb dX7_isBad_49 rfl ?_
          refine lv_ldc2 (v := (-6)) hx hb hown (hG _ gw_17_22) dX7_isBad_50 ?_
          refine lv_ldc2 (v := 6) hx hb hown (hG _ gw_17_23) dX7_isBad_53 ?_
          refine callS_i [.long (((M 6 v_29.toNatClampNeg) - (M 6 a1.toNatClampNeg)).toInt64), .long (-6), .long 6] [] hx hb hml hG hown hK (c_X7_in had (M := M)  (((M 6 v_29.toNatClampNeg) - (M 6 a1.toNatClampNeg)).toInt64) (-6) 6) gw_7_2 gm_X7_in gd_X7_in rfl rfl ⟨Nat.le_of_ble_eq_true rfl, Nat.le_of_ble_eq_true rfl⟩ ⟨Nat.le_refl _, Nat.le_refl _⟩ hP (fun _ h => h) hS rfl hl.1 rfl (Nat.le_of_ble_eq_true rfl) dX7_isBad_56 (fun r_38 u_40 H locs hF_39 hP hS => ?_)
          obtain ⟨hz_41, hF_39, hu⟩ := hF_39; rw [hu] at hP; subst hF_39
          refine lv_if_eq (tgt := 66) hx hb dX7_isBad_59 (by decide) (fun hc_42 => ?_) (fun hc_42 => ?_)
          · have hr_37 := ite_t hr_37 hc_42
            refine lv_iconst (v := 0) hx hb dX7_isBad_66 (by decide) ?_
            cases hr_37
            exact j67 _ _ _ (Or.inl rfl) hP hS (lv_sub hl [0, 1, 2, 3] rfl)
          · have hr_37 := ite_f hr_37 hc_42
            refine lv_iconst (v := 1) hx hb dX7_isBad_62 (by decide) ?_
            refine lv_goto (tgt := 67) hx hb dX7_isBad_63 (by decide) ?_
            cases hr_37
            exact j67 _ _ _ (Or.inr rfl) hP hS (lv_sub hl [0, 1, 2, 3] rfl)
  exact lp4 _ _ _ _ _ _ (Or.inl rfl) (by decide) (by decide) hr_30 hP hS (lv_sub hl [2, 3, 1, 0] rfl)
def rm_X7_tideAt : Room := { frames := 1, cells := 0, slots := 0, locals := 20 }
theorem gm_X7_tideAt : Cond.instanceMethod yX7_tideAt ∈ wsL_law ∧ Cond.selects RX7 yX7_tideAt yX7_tideAt ∈ wsL_law ∧ Cond.initialized RX7 ∈ wsL_law ∧ Cond.code yX7_tideAt cX7_tideAt 2 (some .int) ∈ wsL_law := ⟨gw_23_7, gw_23_8, gw_1_5, gw_23_9⟩
theorem gd_X7_tideAt : yX7_tideAt.cls = RX7 ∧ yX7_tideAt.cls ≠ "java/lang/invoke/MethodHandle" ∧ yX7_tideAt.cls ≠ "java/lang/invoke/VarHandle" ∧ (parseMethodDescriptor yX7_tideAt.desc).map (fun d => d.parameters.length) = some 1 := by decide +kernel
set_option maxRecDepth 100000 in
set_option maxHeartbeats 0 in
theorem c_X7_tideAt {l : Launch} {D : va_G} {k : Nat → ClassId} {ad : Nat → Nat} (had : InjN 31 ad) (M : Mem) (a1 : Int32) (hI : MI M) : Met l yX7_tideAt (Cond.code yX7_tideAt cX7_tideAt 2 (some .int) :: wsL_law) rm_X7_tideAt (va_Pc [.ref (ad 0), .int a1] (GW 31 ad D k (cM ad k M))) (va_Qi (fun r u => f_X7_tideAt M a1 = r ∧ u = M) (fun u t => GW 31 ad D k (cM ad k u) t) (AW 31 ad)) 0 0 (AW 31 ad) := by
  refine met_i (g := cM ad k) (M := M) (plainFor_of_name (by decide)) (Nat.le_of_ble_eq_true rfl) ?_
  intro p e s m args below meth c Q ls hx hb hml hG hown hK hret hP hS hl
  have hl : lv_has ls 2 [(0, .ref (ad 0)), (1, .int a1)] := hl
  obtain ⟨V, hV⟩ : ∃ V, f_X7_tideAt M a1 = V := ⟨_, rfl⟩
  have he := hV
  unfold f_X7_tideAt at he
  have hT0 : TI M M := TI_rf hI
  have qb_M := hI.1
  have qs_M := hI.2.1
  have qz_M := hI.2.2.1
  refine lv_iload_n hx hb dX7_tideAt_0 rfl (lv_at hl 1 rfl) ?_
  refine callS_i [.int a1] [] hx hb hml hG hown hK (c_X7_plainly had (M := M)  a1) gw_23_10 gm_X7_plainly gd_X7_plainly rfl rfl ⟨Nat.le_of_ble_eq_true rfl, Nat.le_of_ble_eq_true rfl⟩ ⟨Nat.le_refl _, Nat.le_refl _⟩ hP (fun _ h => h) hS rfl hl.1 rfl (Nat.le_of_ble_eq_true rfl) dX7_tideAt_1 (fun r_1 u_3 H locs hF_2 hP hS => ?_)
  obtain ⟨hF_2, hu⟩ := hF_2; rw [hu] at hP; subst hF_2
  refine lv_aload_n hx hb dX7_tideAt_4 rfl (lv_at hl 0 rfl) ?_
  refine gX7_2 hx hb hG hown hK hP gw_4_11 dX7_tideAt_5 ?_
  obtain ⟨t_6, hr_5, he⟩ := bnd_ex he
  have j24 : ∀ (H : Heap) (locs : List Loc) (ls : Array Slot), va_P D vwCl (wld 31 ad (cM ad k M)) H → va_S (AW 31 ad) s.heap H locs → lv_has ls 2 [] → W p l e rm_X7_tideAt s m args below meth c H locs 0 0 Q (F0 m 24 ls [.int t_6]) := by
    intro H locs ls hP hS hl
    exact hret _ _ _ _ _ _ ⟨hV.trans he.symm, rfl⟩ hP hS dX7_tideAt_24
  refine lv_icmp_gt (tgt := 18) hx hb dX7_tideAt_8 (by decide) (fun hc_4 => ?_) (fun hc_4 => ?_)
  · have hr_5 := ite_t hr_5 hc_4
    refine lv_aload_n hx hb dX7_tideAt_18 rfl (lv_at hl 0 rfl) ?_
    refine gX7_1 hx hb hG hown hK hP gw_7_0 dX7_tideAt_19 ?_
    refine lv_iconst (v := 2) hx hb dX7_tideAt_22 (by decide) ?_
    refine lv_idiv hx hb dX7_tideAt_23 (by decide) ?_
    cases hr_5
    exact j24 _ _ _ hP hS (lv_sub hl [] rfl)
  · have hr_5 := ite_f hr_5 hc_4
    refine lv_aload_n hx hb dX7_tideAt_11 rfl (lv_at hl 0 rfl) ?_
    refine gX7_1 hx hb hG hown hK hP gw_7_0 dX7_tideAt_12 ?_
    refine lv_goto (tgt := 24) hx hb dX7_tideAt_15 (by decide) ?_
    cases hr_5
    exact j24 _ _ _ hP hS (lv_sub hl [] rfl)
def rm_X7_moveOne : Room := { frames := 2, cells := 0, slots := 0, locals := 41 }
theorem gm_X7_moveOne : Cond.instanceMethod yX7_moveOne ∈ wsL_law ∧ Cond.selects RX7 yX7_moveOne yX7_moveOne ∈ wsL_law ∧ Cond.initialized RX7 ∈ wsL_law ∧ Cond.code yX7_moveOne cX7_moveOne 6 none ∈ wsL_law := ⟨gw_22_23, gw_23_0, gw_1_5, gw_23_1⟩
theorem gd_X7_moveOne : yX7_moveOne.cls = RX7 ∧ yX7_moveOne.cls ≠ "java/lang/invoke/MethodHandle" ∧ yX7_moveOne.cls ≠ "java/lang/invoke/VarHandle" ∧ (parseMethodDescriptor yX7_moveOne.desc).map (fun d => d.parameters.length) = some 2 := by decide +kernel
set_option maxRecDepth 100000 in
set_option maxHeartbeats 0 in
theorem c_X7_moveOne {l : Launch} {D : va_G} {k : Nat → ClassId} {ad : Nat → Nat} (had : InjN 31 ad) (M : Mem) (a1 : Int32) (a2 : Int32) (hI : MI M) (hbx : 0 ≤ a1.toInt ∧ a1.toInt < 4) : Met l yX7_moveOne (Cond.code yX7_moveOne cX7_moveOne 6 none :: wsL_law) rm_X7_moveOne (va_Pc [.ref (ad 0), .int a1, .int a2] (GW 31 ad D k (cM ad k M))) (va_Qv (fun u => (f_X7_moveOne M a1 a2 = u ∧ TI M u)) (fun u t => GW 31 ad D k (cM ad k u) t) (AW 31 ad)) 0 0 (AW 31 ad) := by
  refine met_v (g := cM ad k) (M := M) (plainFor_of_name (by decide)) (Nat.le_of_ble_eq_true rfl) ?_
  intro p e s m args below meth c Q ls hx hb hml hG hown hK hret hP hS hl
  have hl : lv_has ls 6 [(0, .ref (ad 0)), (1, .int a1), (2, .int a2)] := hl
  obtain ⟨V, hV⟩ : ∃ V, f_X7_moveOne M a1 a2 = V := ⟨_, rfl⟩
  have he := hV
  unfold f_X7_moveOne at he
  have hT0 : TI M M := TI_rf hI
  have qb_M := hI.1
  have qs_M := hI.2.1
  have qz_M := hI.2.2.1
  refine lv_aload_n hx hb dX7_moveOne_0 rfl (lv_at hl 0 rfl) ?_
  refine gX7_13 hx hb hG hown hK hP gw_4_18 dX7_moveOne_1 ?_
  refine lv_iload_n hx hb dX7_moveOne_4 rfl (lv_at hl 1 rfl) ?_
  refine al_M6 hx hb hK hP (vin_I (by omega) (by omega)) dX7_moveOne_5 ?_
  refine lv_topi (fun y_1 ey_1 => ?_)
  have he := bnd_at he ey_1
  refine lv_istore_n (lv' := [(3, .int y_1), (0, .ref (ad 0)), (1, .int a1), (2, .int a2)]) hx hb dX7_moveOne_6 rfl hl (by decide) rfl (fun ls hl => ?_)
  refine lv_aload_n hx hb dX7_moveOne_7 rfl (lv_at hl 1 rfl) ?_
  refine lv_iload_n hx hb dX7_moveOne_8 rfl (lv_at hl 2 rfl) ?_
  refine call_i [.int a1] [] hx hb hml hG hown hK (c_X7_isAtDist had M a1 hT0.1 (by have qy_1 := congrArg Int32.toInt ey_1; omega)) gw_23_2 gm_X7_isAtDist gd_X7_isAtDist rfl rfl ⟨Nat.le_of_ble_eq_true rfl, Nat.le_of_ble_eq_true rfl⟩ ⟨Nat.le_refl _, Nat.le_refl _⟩ (rX7 hK hP) hP (fun _ h => h) hS rfl hl.1 rfl (Nat.le_of_ble_eq_true rfl) dX7_moveOne_9 (fun r_2 u_4 H locs hF_3 hP hS => ?_)
  obtain ⟨hz_5, hF_3, hu⟩ := hF_3; rw [hu] at hP; subst hF_3
  obtain ⟨M_40, hr_7, he⟩ := bnd_ex he
  have j210 : ∀ (H : Heap) (locs : List Loc) (ls : Array Slot), TI M M_40 → va_P D vwCl (wld 31 ad (cM ad k M_40)) H → va_S (AW 31 ad) s.heap H locs → lv_has ls 6 [(0, .ref (ad 0)), (1, .int a1)] → W p l e rm_X7_moveOne s m args below meth c H locs 0 0 Q (F0 m 210 ls []) := by
    intro H locs ls hTM_40 hP hS hl
    have qb_M_40 := hTM_40.1.1
    have qs_M_40 := hTM_40.1.2.1
    have qz_M_40 := hTM_40.1.2.2.1
    refine lv_aload_n hx hb dX7_moveOne_210 rfl (lv_at hl 0 rfl) ?_
    refine gX7_13 hx hb hG hown hK hP gw_4_18 dX7_moveOne_211 ?_
    refine lv_iload_n hx hb dX7_moveOne_214 rfl (lv_at hl 1 rfl) ?_
    refine al_M6 hx hb hK hP (vin_I (by have qy_1 := congrArg Int32.toInt ey_1; omega) (by have qy_1 := congrArg Int32.toInt ey_1; omega)) dX7_moveOne_215 ?_
    obtain ⟨M_49, hr_42, he⟩ := bnd_ex he
    have j239 : ∀ (H : Heap) (locs : List Loc) (ls : Array Slot), TI M M_49 → va_P D vwCl (wld 31 ad (cM ad k M_49)) H → va_S (AW 31 ad) s.heap H locs → lv_has ls 6 [] → W p l e rm_X7_moveOne s m args below meth c H locs 0 0 Q (F0 m 239 ls []) := by
      intro H locs ls hTM_49 hP hS hl
      have qb_M_49 := hTM_49.1.1
      have qs_M_49 := hTM_49.1.2.1
      have qz_M_49 := hTM_49.1.2.2.1
      exact hret _ _ _ _ _ ⟨(hV.trans he.symm), hTM_49⟩ hP hS dX7_moveOne_239
    refine lv_if_ne (tgt := 239) hx hb dX7_moveOne_216 (by decide) (fun hc_41 => ?_) (fun hc_41 => ?_)
    · have hr_42 := ite_t hr_42 hc_41
      cases hr_42
      exact j239 _ _ _ hTM_40 hP hS (lv_sub hl [] rfl)
    · have hr_42 := ite_f hr_42 (fun q => q hc_41)
      refine lv_aload_n hx hb dX7_moveOne_219 rfl (lv_at hl 0 rfl) ?_
      refine lv_iload_n hx hb dX7_moveOne_220 rfl (lv_at hl 1 rfl) ?_
      refine call_i [.int a1] [] hx hb hml hG hown hK (c_X7_isAtDist had M_40 a1 hTM_40.1 (by have qy_1 := congrArg Int32.toInt ey_1; have q1 : (M_40 6 a1.toNatClampNeg).toInt = 0 := congrArg Int32.toInt hc_41; omega)) gw_23_2 gm_X7_isAtDist gd_X7_isAtDist rfl rfl ⟨Nat.le_of_ble_eq_true rfl, Nat.le_of_ble_eq_true rfl⟩ ⟨Nat.le_refl _, Nat.le_refl _⟩ (rX7 hK hP) hP (fun _ h => h) hS rfl hl.1 rfl (Nat.le_of_ble_eq_true rfl) dX7_moveOne_221 (fun r_43 u_45 H locs hF_44 hP hS => ?_)
      obtain ⟨hz_46, hF_44, hu⟩ := hF_44; rw [hu] at hP; subst hF_44
      refine lv_if_eq (tgt := 239) hx hb dX7_moveOne_224 (by decide) (fun hc_47 => ?_) (fun hc_47 => ?_)
      · have hr_42 := ite_t hr_42 hc_47
        cases hr_42
        exact j239 _ _ _ hTM_40 hP hS (lv_sub hl [] rfl)
      · have hr_42 := ite_f hr_42 hc_47
        refine lv_aload_n hx hb dX7_moveOne_227 rfl (lv_at hl 0 rfl) ?_
        refine gX7_17 hx hb hG hown hK hP gw_4_22 dX7_moveOne_228 ?_
        refine lv_iload_n hx hb dX7_moveOne_231 rfl (lv_at hl 1 rfl) ?_
        refine lv_aload_n hx hb dX7_moveOne_232 rfl (lv_at hl 0 rfl) ?_
        refine gX7_7 hx hb hG hown hK hP gw_15_12 dX7_moveOne_233 ?_
        refine lv_iconst (v := 1) hx hb dX7_moveOne_236 (by decide) ?_
        refine lv_iadd hx hb dX7_moveOne_237 ?_
        refine as_M10 hx hb hK hP had AW_in hS (vin_I (by have qy_1 := congrArg Int32.toInt ey_1; have q1 : (M_40 6 a1.toNatClampNeg).toInt = 0 := congrArg Int32.toInt hc_41; have q2 : (f_X7_isAtDist M_40 a1).toInt ≠ 0 := ne_I hc_47; omega) (by have qy_1 := congrArg Int32.toInt ey_1; have q1 : (M_40 6 a1.toNatClampNeg).toInt = 0 := congrArg Int32.toInt hc_41; have q2 : (f_X7_isAtDist M_40 a1).toInt ≠ 0 := ne_I hc_47; omega)) dX7_moveOne_238 (fun H locs hP hS => ?_)
        obtain ⟨M_48, eM_48⟩ : ∃ y : Mem, y = up2 M_40 10 a1.toNatClampNeg ((M_40 0 7) + 1) := ⟨_, rfl⟩
        rw [← eM_48] at hP
        have hr_42 := bnd_at hr_42 eM_48
        have hTM_48 : TI M M_48 := by rw [eM_48]; exact TI_a hTM_40 (by decide)
        have qb_M_48 := hTM_48.1.1
        have qs_M_48 := hTM_48.1.2.1
        have qz_M_48 := hTM_48.1.2.2.1
        cases hr_42
        exact j239 _ _ _ hTM_48 hP hS (lv_sub hl [] rfl)
  refine lv_if_eq (tgt := 51) hx hb dX7_moveOne_12 (by decide) (fun hc_6 => ?_) (fun hc_6 => ?_)
  · have hr_7 := ite_t hr_7 hc_6
    refine lv_aload_n hx hb dX7_moveOne_51 rfl (lv_at hl 1 rfl) ?_
    refine gX7_16 hx hb hG hown hK hP gw_4_21 dX7_moveOne_52 ?_
    refine lv_iload_n hx hb dX7_moveOne_55 rfl (lv_at hl 2 rfl) ?_
    refine al_M9 hx hb hK hP (vin_I (by have qy_1 := congrArg Int32.toInt ey_1; have q1 : (f_X7_isAtDist M a1).toInt = 0 := congrArg Int32.toInt hc_6; omega) (by have qy_1 := congrArg Int32.toInt ey_1; have q1 : (f_X7_isAtDist M a1).toInt = 0 := congrArg Int32.toInt hc_6; omega)) dX7_moveOne_56 ?_
    refine lv_if_le (tgt := 104) hx hb dX7_moveOne_57 (by decide) (fun hc_8 => ?_) (fun hc_8 => ?_)
    · have hr_7 := ite_t hr_7 hc_8
      refine lv_bipush (v := 6) hx hb dX7_moveOne_104 (by decide) ?_
      refine lv_aload_n hx hb dX7_moveOne_106 rfl (lv_at hl 1 rfl) ?_
      refine gX7_15 hx hb hG hown hK hP gw_4_20 dX7_moveOne_107 ?_
      refine lv_iload_n hx hb dX7_moveOne_110 rfl (lv_at hl 2 rfl) ?_
      refine al_M8 hx hb hK hP (vin_I (by have qy_1 := congrArg Int32.toInt ey_1; have q1 : (f_X7_isAtDist M a1).toInt = 0 := congrArg Int32.toInt hc_6; have q2 : (M 9 a1.toNatClampNeg).toInt ≤ 0 := le_I hc_8; omega) (by have qy_1 := congrArg Int32.toInt ey_1; have q1 : (f_X7_isAtDist M a1).toInt = 0 := congrArg Int32.toInt hc_6; have q2 : (M 9 a1.toNatClampNeg).toInt ≤ 0 := le_I hc_8; omega)) dX7_moveOne_111 ?_
      refine lv_iload_n hx hb dX7_moveOne_112 rfl (lv_at hl 3 rfl) ?_
      refine lv_iconst (v := 5) hx hb dX7_moveOne_113 (by decide) ?_
      refine lv_idiv hx hb dX7_moveOne_114 (by decide) ?_
      refine lv_imul hx hb dX7_moveOne_115 ?_
      refine lv_isub hx hb dX7_moveOne_116 ?_
      refine lv_aload_n hx hb dX7_moveOne_117 rfl (lv_at hl 1 rfl) ?_
      refine gX7_31 hx hb hG hown hK hP gw_5_6 dX7_moveOne_118 ?_
      refine lv_iload_n hx hb dX7_moveOne_121 rfl (lv_at hl 2 rfl) ?_
      refine al_M18 hx hb hK hP (vin_I (by have qy_1 := congrArg Int32.toInt ey_1; have q1 : (f_X7_isAtDist M a1).toInt = 0 := congrArg Int32.toInt hc_6; have q2 : (M 9 a1.toNatClampNeg).toInt ≤ 0 := le_I hc_8; omega) (by have qy_1 := congrArg Int32.toInt ey_1; have q1 : (f_X7_isAtDist M a1).toInt = 0 := congrArg Int32.toInt hc_6; have q2 : (M 9 a1.toNatClampNeg).toInt ≤ 0 := le_I hc_8; omega)) dX7_moveOne_122 ?_
      refine lv_iconst (v := 1) hx hb dX7_moveOne_123 (by decide) ?_
      obtain ⟨t_11, hr_10, hr_7⟩ := bnd_ex hr_7
      have j132 : ∀ (H : Heap) (locs : List Loc) (ls : Array Slot), va_P D vwCl (wld 31 ad (cM ad k M)) H → va_S (AW 31 ad) s.heap H locs → lv_has ls 6 [(0, .ref (ad 0)), (1, .int a1), (3, .int y_1)] → W p l e rm_X7_moveOne s m args below meth c H locs 0 0 Q (F0 m 132 ls [.int t_11, .int (6 - ((M 8 a1.toNatClampNeg) * (a2 / 5)))]) := by
        intro H locs ls hP hS hl
        refine lv_isub hx hb dX7_moveOne_132 ?_
        refine lv_aload_n hx hb dX7_moveOne_133 rfl (lv_at hl 0 rfl) ?_
        refine lv_iload_n hx hb dX7_moveOne_134 rfl (lv_at hl 2 rfl) ?_
        refine call_i [.int y_1] [.int ((6 - ((M 8 a1.toNatClampNeg) * (a2 / 5))) - t_11)] hx hb hml hG hown hK (c_X7_tideAt had M y_1 hT0.1) gw_23_6 gm_X7_tideAt gd_X7_tideAt rfl rfl ⟨Nat.le_of_ble_eq_true rfl, Nat.le_of_ble_eq_true rfl⟩ ⟨Nat.le_refl _, Nat.le_refl _⟩ (rX7 hK hP) hP (fun _ h => h) hS rfl hl.1 rfl (Nat.le_of_ble_eq_true rfl) dX7_moveOne_135 (fun r_12 u_14 H locs hF_13 hP hS => ?_)
        obtain ⟨hF_13, hu⟩ := hF_13; rw [hu] at hP; subst hF_13
        refine lv_isub hx hb dX7_moveOne_138 ?_
        refine lv_topi (fun y_15 ey_15 => ?_)
        have hr_7 := bnd_at hr_7 ey_15
        refine lv_istore (lv' := [(4, .int y_15), (0, .ref (ad 0)), (1, .int a1), (3, .int y_1)]) hx hb dX7_moveOne_139 hl (by decide) rfl (fun ls hl => ?_)
        refine lv_iload_n hx hb dX7_moveOne_141 rfl (lv_at hl 3 rfl) ?_
        refine lv_bipush (v := 8) hx hb dX7_moveOne_142 (by decide) ?_
        refine lv_aload_n hx hb dX7_moveOne_144 rfl (lv_at hl 1 rfl) ?_
        refine gX7_15 hx hb hG hown hK hP gw_4_20 dX7_moveOne_145 ?_
        refine lv_iload_n hx hb dX7_moveOne_148 rfl (lv_at hl 2 rfl) ?_
        refine al_M8 hx hb hK hP (vin_I (by have qy_1 := congrArg Int32.toInt ey_1; have q1 : (f_X7_isAtDist M a1).toInt = 0 := congrArg Int32.toInt hc_6; have q2 : (M 9 a1.toNatClampNeg).toInt ≤ 0 := le_I hc_8; have qy_15 := congrArg Int32.toInt ey_15; omega) (by have qy_1 := congrArg Int32.toInt ey_1; have q1 : (f_X7_isAtDist M a1).toInt = 0 := congrArg Int32.toInt hc_6; have q2 : (M 9 a1.toNatClampNeg).toInt ≤ 0 := le_I hc_8; have qy_15 := congrArg Int32.toInt ey_15; omega)) dX7_moveOne_149 ?_
        refine lv_imul hx hb dX7_moveOne_150 ?_
        refine lv_iadd hx hb dX7_moveOne_151 ?_
        refine lv_topi (fun y_16 ey_16 => ?_)
        have hr_7 := bnd_at hr_7 ey_16
        refine lv_istore (lv' := [(5, .int y_16), (4, .int y_15), (0, .ref (ad 0)), (1, .int a1), (3, .int y_1)]) hx hb dX7_moveOne_152 hl (by decide) rfl (fun ls hl => ?_)
        refine lv_aload_n hx hb dX7_moveOne_154 rfl (lv_at hl 2 rfl) ?_
        refine gX7_14 hx hb hG hown hK hP gw_4_19 dX7_moveOne_155 ?_
        refine lv_iload_n hx hb dX7_moveOne_158 rfl (lv_at hl 3 rfl) ?_
        refine lv_dup2_11 hx hb dX7_moveOne_159 rfl rfl ?_
        refine al_M7 hx hb hK hP (vin_I (by have qy_1 := congrArg Int32.toInt ey_1; have q1 : (f_X7_isAtDist M a1).toInt = 0 := congrArg Int32.toInt hc_6; have q2 : (M 9 a1.toNatClampNeg).toInt ≤ 0 := le_I hc_8; have qy_15 := congrArg Int32.toInt ey_15; have qy_16 := congrArg Int32.toInt ey_16; omega) (by have qy_1 := congrArg Int32.toInt ey_1; have q1 : (f_X7_isAtDist M a1).toInt = 0 := congrArg Int32.toInt hc_6; have q2 : (M 9 a1.toNatClampNeg).toInt ≤ 0 := le_I hc_8; have qy_15 := congrArg Int32.toInt ey_15; have qy_16 := congrArg Int32.toInt ey_16; omega)) dX7_moveOne_160 ?_
        refine lv_iload hx hb dX7_moveOne_161 (lv_at hl 1 rfl) ?_
        obtain ⟨t_19, hr_18, hr_7⟩ := bnd_ex hr_7
        have j172 : ∀ (H : Heap) (locs : List Loc) (ls : Array Slot), va_P D vwCl (wld 31 ad (cM ad k M)) H → va_S (AW 31 ad) s.heap H locs → lv_has ls 6 [(0, .ref (ad 0)), (1, .int a1), (5, .int y_16)] → W p l e rm_X7_moveOne s m args below meth c H locs 0 0 Q (F0 m 172 ls [.int t_19, .int (M 7 a1.toNatClampNeg), .int a1, .ref (ad 7)]) := by
          intro H locs ls hP hS hl
          refine lv_iadd hx hb dX7_moveOne_172 ?_
          refine as_M7 hx hb hK hP had AW_in hS (vin_I (by have qy_1 := congrArg Int32.toInt ey_1; have q1 : (f_X7_isAtDist M a1).toInt = 0 := congrArg Int32.toInt hc_6; have q2 : (M 9 a1.toNatClampNeg).toInt ≤ 0 := le_I hc_8; have qy_15 := congrArg Int32.toInt ey_15; have qy_16 := congrArg Int32.toInt ey_16; omega) (by have qy_1 := congrArg Int32.toInt ey_1; have q1 : (f_X7_isAtDist M a1).toInt = 0 := congrArg Int32.toInt hc_6; have q2 : (M 9 a1.toNatClampNeg).toInt ≤ 0 := le_I hc_8; have qy_15 := congrArg Int32.toInt ey_15; have qy_16 := congrArg Int32.toInt ey_16; omega)) dX7_moveOne_173 (fun H locs hP hS => ?_)
          obtain ⟨M_20, eM_20⟩ : ∃ y : Mem, y = up2 M 7 a1.toNatClampNeg ((M 7 a1.toNatClampNeg) + t_19) := ⟨_, rfl⟩
          rw [← eM_20] at hP
          have hr_7 := bnd_at hr_7 eM_20
          have hTM_20 : TI M M_20 := by rw [eM_20]; exact TI_a hT0 (by decide)
          have qb_M_20 := hTM_20.1.1
          have qs_M_20 := hTM_20.1.2.1
          have qz_M_20 := hTM_20.1.2.2.1
          refine lv_aload_n hx hb dX7_moveOne_174 rfl (lv_at hl 0 rfl) ?_
          refine gX7_13 hx hb hG hown hK hP gw_4_18 dX7_moveOne_175 ?_
          refine lv_iload_n hx hb dX7_moveOne_178 rfl (lv_at hl 1 rfl) ?_
          refine lv_iload hx hb dX7_moveOne_179 (lv_at hl 2 rfl) ?_
          refine lv_sipush (v := 200) hx hb dX7_moveOne_181 (by decide) ?_
          obtain ⟨t_24, hr_22, hr_7⟩ := bnd_ex hr_7
          have j209 : ∀ (H : Heap) (locs : List Loc) (ls : Array Slot), va_P D vwCl (wld 31 ad (cM ad k M_20)) H → va_S (AW 31 ad) s.heap H locs → lv_has ls 6 [(0, .ref (ad 0)), (1, .int a1)] → W p l e rm_X7_moveOne s m args below meth c H locs 0 0 Q (F0 m 209 ls [.int t_24, .int a1, .ref (ad 6)]) := by
            intro H locs ls hP hS hl
            refine as_M6 hx hb hK hP had AW_in hS (vin_I (by have qy_1 := congrArg Int32.toInt ey_1; have q1 : (f_X7_isAtDist M a1).toInt = 0 := congrArg Int32.toInt hc_6; have q2 : (M 9 a1.toNatClampNeg).toInt ≤ 0 := le_I hc_8; have qy_15 := congrArg Int32.toInt ey_15; have qy_16 := congrArg Int32.toInt ey_16; omega) (by have qy_1 := congrArg Int32.toInt ey_1; have q1 : (f_X7_isAtDist M a1).toInt = 0 := congrArg Int32.toInt hc_6; have q2 : (M 9 a1.toNatClampNeg).toInt ≤ 0 := le_I hc_8; have qy_15 := congrArg Int32.toInt ey_15; have qy_16 := congrArg Int32.toInt ey_16; omega)) dX7_moveOne_209 (fun H locs hP hS => ?_)
            obtain ⟨M_25, eM_25⟩ : ∃ y : Mem, y = up2 M_20 6 a1.toNatClampNeg t_24 := ⟨_, rfl⟩
            rw [← eM_25] at hP
            have hr_7 := bnd_at hr_7 eM_25
            have hTM_25 : TI M M_25 := by rw [eM_25]; exact TI_a hTM_20 (by decide)
            have qb_M_25 := hTM_25.1.1
            have qs_M_25 := hTM_25.1.2.1
            have qz_M_25 := hTM_25.1.2.2.1
            cases hr_7
            exact j210 _ _ _ hTM_25 hP hS (lv_sub hl [0, 1] rfl)
          refine lv_icmp_le (tgt := 193) hx hb dX7_moveOne_184 (by decide) (fun hc_21 => ?_) (fun hc_21 => ?_)
          · have hr_22 := ite_t hr_22 hc_21
            refine lv_iload hx hb dX7_moveOne_193 (lv_at hl 2 rfl) ?_
            refine lv_sipush (v := (-200)) hx hb dX7_moveOne_195 (by decide) ?_
            refine lv_icmp_ge (tgt := 207) hx hb dX7_moveOne_198 (by decide) (fun hc_23 => ?_) (fun hc_23 => ?_)
            · have hr_22 := ite_t hr_22 hc_23
              refine lv_iload hx hb dX7_moveOne_207 (lv_at hl 2 rfl) ?_
              cases hr_22
              exact j209 _ _ _ hP hS (lv_sub hl [0, 1] rfl)
            · have hr_22 := ite_f hr_22 hc_23
              refine lv_sipush (v := (-200)) hx hb dX7_moveOne_201 (by decide) ?_
              refine lv_goto (tgt := 209) hx hb dX7_moveOne_204 (by decide) ?_
              cases hr_22
              exact j209 _ _ _ hP hS (lv_sub hl [0, 1] rfl)
          · have hr_22 := ite_f hr_22 hc_21
            refine lv_sipush (v := 200) hx hb dX7_moveOne_187 (by decide) ?_
            refine lv_goto (tgt := 209) hx hb dX7_moveOne_190 (by decide) ?_
            cases hr_22
            exact j209 _ _ _ hP hS (lv_sub hl [0, 1] rfl)
        refine lv_if_ge (tgt := 170) hx hb dX7_moveOne_163 (by decide) (fun hc_17 => ?_) (fun hc_17 => ?_)
        · have hr_18 := ite_t hr_18 hc_17
          refine lv_iload hx hb dX7_moveOne_170 (lv_at hl 1 rfl) ?_
          cases hr_18
          exact j172 _ _ _ hP hS (lv_sub hl [2, 3, 0] rfl)
        · have hr_18 := ite_f hr_18 hc_17
          refine lv_iconst (v := 0) hx hb dX7_moveOne_166 (by decide) ?_
          refine lv_goto (tgt := 172) hx hb dX7_moveOne_167 (by decide) ?_
          cases hr_18
          exact j172 _ _ _ hP hS (lv_sub hl [2, 3, 0] rfl)
      refine lv_icmp_ne (tgt := 131) hx hb dX7_moveOne_124 (by decide) (fun hc_9 => ?_) (fun hc_9 => ?_)
      · have hr_10 := ite_t hr_10 hc_9
        refine lv_iconst (v := 0) hx hb dX7_moveOne_131 (by decide) ?_
        cases hr_10
        exact j132 _ _ _ hP hS (lv_sub hl [1, 2, 0] rfl)
      · have hr_10 := ite_f hr_10 (fun q => q hc_9)
        refine lv_iconst (v := 2) hx hb dX7_moveOne_127 (by decide) ?_
        refine lv_goto (tgt := 132) hx hb dX7_moveOne_128 (by decide) ?_
        cases hr_10
        exact j132 _ _ _ hP hS (lv_sub hl [1, 2, 0] rfl)
    · have hr_7 := ite_f hr_7 hc_8
      refine lv_aload_n hx hb dX7_moveOne_60 rfl (lv_at hl 1 rfl) ?_
      refine gX7_14 hx hb hG hown hK hP gw_4_19 dX7_moveOne_61 ?_
      refine lv_iload_n hx hb dX7_moveOne_64 rfl (lv_at hl 2 rfl) ?_
      refine al_M7 hx hb hK hP (vin_I (by have qy_1 := congrArg Int32.toInt ey_1; have q1 : (f_X7_isAtDist M a1).toInt = 0 := congrArg Int32.toInt hc_6; have q2 : 0 < (M 9 a1.toNatClampNeg).toInt := nle_I hc_8; omega) (by have qy_1 := congrArg Int32.toInt ey_1; have q1 : (f_X7_isAtDist M a1).toInt = 0 := congrArg Int32.toInt hc_6; have q2 : 0 < (M 9 a1.toNatClampNeg).toInt := nle_I hc_8; omega)) dX7_moveOne_65 ?_
      refine lv_aload_n hx hb dX7_moveOne_66 rfl (lv_at hl 1 rfl) ?_
      refine lv_iload_n hx hb dX7_moveOne_67 rfl (lv_at hl 0 rfl) ?_
      refine call_i [.int y_1] [.int (M 7 a1.toNatClampNeg)] hx hb hml hG hown hK (c_X7_tideAt had M y_1 hT0.1) gw_23_6 gm_X7_tideAt gd_X7_tideAt rfl rfl ⟨Nat.le_of_ble_eq_true rfl, Nat.le_of_ble_eq_true rfl⟩ ⟨Nat.le_refl _, Nat.le_refl _⟩ (rX7 hK hP) hP (fun _ h => h) hS rfl hl.1 rfl (Nat.le_of_ble_eq_true rfl) dX7_moveOne_68 (fun r_26 u_28 H locs hF_27 hP hS => ?_)
      obtain ⟨hF_27, hu⟩ := hF_27; rw [hu] at hP; subst hF_27
      refine lv_isub hx hb dX7_moveOne_71 ?_
      refine lv_topi (fun y_29 ey_29 => ?_)
      have hr_7 := bnd_at hr_7 ey_29
      refine lv_istore (lv' := [(4, .int y_29), (3, .int y_1), (0, .ref (ad 0)), (1, .int a1), (2, .int a2)]) hx hb dX7_moveOne_72 hl (by decide) rfl (fun ls hl => ?_)
      refine lv_aload_n hx hb dX7_moveOne_74 rfl (lv_at hl 2 rfl) ?_
      refine gX7_14 hx hb hG hown hK hP gw_4_19 dX7_moveOne_75 ?_
      refine lv_iload_n hx hb dX7_moveOne_78 rfl (lv_at hl 3 rfl) ?_
      refine lv_iload hx hb dX7_moveOne_79 (lv_at hl 0 rfl) ?_
      obtain ⟨t_32, hr_31, hr_7⟩ := bnd_ex hr_7
      have j90 : ∀ (H : Heap) (locs : List Loc) (ls : Array Slot), va_P D vwCl (wld 31 ad (cM ad k M)) H → va_S (AW 31 ad) s.heap H locs → lv_has ls 6 [(0, .ref (ad 0)), (1, .int a1)] → W p l e rm_X7_moveOne s m args below meth c H locs 0 0 Q (F0 m 90 ls [.int t_32, .int a1, .ref (ad 7)]) := by
        intro H locs ls hP hS hl
        refine as_M7 hx hb hK hP had AW_in hS (vin_I (by have qy_1 := congrArg Int32.toInt ey_1; have q1 : (f_X7_isAtDist M a1).toInt = 0 := congrArg Int32.toInt hc_6; have q2 : 0 < (M 9 a1.toNatClampNeg).toInt := nle_I hc_8; have qy_29 := congrArg Int32.toInt ey_29; omega) (by have qy_1 := congrArg Int32.toInt ey_1; have q1 : (f_X7_isAtDist M a1).toInt = 0 := congrArg Int32.toInt hc_6; have q2 : 0 < (M 9 a1.toNatClampNeg).toInt := nle_I hc_8; have qy_29 := congrArg Int32.toInt ey_29; omega)) dX7_moveOne_90 (fun H locs hP hS => ?_)
        obtain ⟨M_33, eM_33⟩ : ∃ y : Mem, y = up2 M 7 a1.toNatClampNeg t_32 := ⟨_, rfl⟩
        rw [← eM_33] at hP
        have hr_7 := bnd_at hr_7 eM_33
        have hTM_33 : TI M M_33 := by rw [eM_33]; exact TI_a hT0 (by decide)
        have qb_M_33 := hTM_33.1.1
        have qs_M_33 := hTM_33.1.2.1
        have qz_M_33 := hTM_33.1.2.2.1
        refine lv_aload_n hx hb dX7_moveOne_91 rfl (lv_at hl 0 rfl) ?_
        refine gX7_16 hx hb hG hown hK hP gw_4_21 dX7_moveOne_92 ?_
        refine lv_iload_n hx hb dX7_moveOne_95 rfl (lv_at hl 1 rfl) ?_
        refine lv_dup2_11 hx hb dX7_moveOne_96 rfl rfl ?_
        refine al_M9 hx hb hK hP (vin_I (by have qy_1 := congrArg Int32.toInt ey_1; have q1 : (f_X7_isAtDist M a1).toInt = 0 := congrArg Int32.toInt hc_6; have q2 : 0 < (M 9 a1.toNatClampNeg).toInt := nle_I hc_8; have qy_29 := congrArg Int32.toInt ey_29; omega) (by have qy_1 := congrArg Int32.toInt ey_1; have q1 : (f_X7_isAtDist M a1).toInt = 0 := congrArg Int32.toInt hc_6; have q2 : 0 < (M 9 a1.toNatClampNeg).toInt := nle_I hc_8; have qy_29 := congrArg Int32.toInt ey_29; omega)) dX7_moveOne_97 ?_
        refine lv_iconst (v := 1) hx hb dX7_moveOne_98 (by decide) ?_
        refine lv_isub hx hb dX7_moveOne_99 ?_
        refine as_M9 hx hb hK hP had AW_in hS (vin_I (by have qy_1 := congrArg Int32.toInt ey_1; have q1 : (f_X7_isAtDist M a1).toInt = 0 := congrArg Int32.toInt hc_6; have q2 : 0 < (M 9 a1.toNatClampNeg).toInt := nle_I hc_8; have qy_29 := congrArg Int32.toInt ey_29; omega) (by have qy_1 := congrArg Int32.toInt ey_1; have q1 : (f_X7_isAtDist M a1).toInt = 0 := congrArg Int32.toInt hc_6; have q2 : 0 < (M 9 a1.toNatClampNeg).toInt := nle_I hc_8; have qy_29 := congrArg Int32.toInt ey_29; omega)) dX7_moveOne_100 (fun H locs hP hS => ?_)
        obtain ⟨M_34, eM_34⟩ : ∃ y : Mem, y = up2 M_33 9 a1.toNatClampNeg ((M_33 9 a1.toNatClampNeg) - 1) := ⟨_, rfl⟩
        rw [← eM_34] at hP
        have hr_7 := bnd_at hr_7 eM_34
        have hTM_34 : TI M M_34 := by rw [eM_34]; exact TI_a hTM_33 (by decide)
        have qb_M_34 := hTM_34.1.1
        have qs_M_34 := hTM_34.1.2.1
        have qz_M_34 := hTM_34.1.2.2.1
        refine lv_goto (tgt := 210) hx hb dX7_moveOne_101 (by decide) ?_
        cases hr_7
        exact j210 _ _ _ hTM_34 hP hS (lv_sub hl [0, 1] rfl)
      refine lv_if_ge (tgt := 88) hx hb dX7_moveOne_81 (by decide) (fun hc_30 => ?_) (fun hc_30 => ?_)
      · have hr_31 := ite_t hr_31 hc_30
        refine lv_iload hx hb dX7_moveOne_88 (lv_at hl 0 rfl) ?_
        cases hr_31
        exact j90 _ _ _ hP hS (lv_sub hl [2, 3] rfl)
      · have hr_31 := ite_f hr_31 hc_30
        refine lv_iconst (v := 0) hx hb dX7_moveOne_84 (by decide) ?_
        refine lv_goto (tgt := 90) hx hb dX7_moveOne_85 (by decide) ?_
        cases hr_31
        exact j90 _ _ _ hP hS (lv_sub hl [2, 3] rfl)
  · have hr_7 := ite_f hr_7 hc_6
    refine lv_aload_n hx hb dX7_moveOne_15 rfl (lv_at hl 1 rfl) ?_
    refine gX7_13 hx hb hG hown hK hP gw_4_18 dX7_moveOne_16 ?_
    refine lv_iload_n hx hb dX7_moveOne_19 rfl (lv_at hl 2 rfl) ?_
    refine lv_iload_n hx hb dX7_moveOne_20 rfl (lv_at hl 0 rfl) ?_
    refine lv_bipush (v := 8) hx hb dX7_moveOne_21 (by decide) ?_
    obtain ⟨t_38, hr_36, hr_7⟩ := bnd_ex hr_7
    have j47 : ∀ (H : Heap) (locs : List Loc) (ls : Array Slot), va_P D vwCl (wld 31 ad (cM ad k M)) H → va_S (AW 31 ad) s.heap H locs → lv_has ls 6 [(0, .ref (ad 0)), (1, .int a1)] → W p l e rm_X7_moveOne s m args below meth c H locs 0 0 Q (F0 m 47 ls [.int t_38, .int a1, .ref (ad 6)]) := by
      intro H locs ls hP hS hl
      refine as_M6 hx hb hK hP had AW_in hS (vin_I (by have qy_1 := congrArg Int32.toInt ey_1; have q1 : (f_X7_isAtDist M a1).toInt ≠ 0 := ne_I hc_6; omega) (by have qy_1 := congrArg Int32.toInt ey_1; have q1 : (f_X7_isAtDist M a1).toInt ≠ 0 := ne_I hc_6; omega)) dX7_moveOne_47 (fun H locs hP hS => ?_)
      obtain ⟨M_39, eM_39⟩ : ∃ y : Mem, y = up2 M 6 a1.toNatClampNeg t_38 := ⟨_, rfl⟩
      rw [← eM_39] at hP
      have hr_7 := bnd_at hr_7 eM_39
      have hTM_39 : TI M M_39 := by rw [eM_39]; exact TI_a hT0 (by decide)
      have qb_M_39 := hTM_39.1.1
      have qs_M_39 := hTM_39.1.2.1
      have qz_M_39 := hTM_39.1.2.2.1
      refine lv_goto (tgt := 210) hx hb dX7_moveOne_48 (by decide) ?_
      cases hr_7
      exact j210 _ _ _ hTM_39 hP hS (lv_sub hl [0, 1] rfl)
    refine lv_icmp_le (tgt := 33) hx hb dX7_moveOne_23 (by decide) (fun hc_35 => ?_) (fun hc_35 => ?_)
    · have hr_36 := ite_t hr_36 hc_35
      refine lv_iload_n hx hb dX7_moveOne_33 rfl (lv_at hl 0 rfl) ?_
      refine lv_bipush (v := (-8)) hx hb dX7_moveOne_34 (by decide) ?_
      refine lv_icmp_ge (tgt := 46) hx hb dX7_moveOne_36 (by decide) (fun hc_37 => ?_) (fun hc_37 => ?_)
      · have hr_36 := ite_t hr_36 hc_37
        refine lv_iconst (v := 0) hx hb dX7_moveOne_46 (by decide) ?_
        cases hr_36
        exact j47 _ _ _ hP hS (lv_sub hl [1, 2] rfl)
      · have hr_36 := ite_f hr_36 hc_37
        refine lv_iload_n hx hb dX7_moveOne_39 rfl (lv_at hl 0 rfl) ?_
        refine lv_bipush (v := 8) hx hb dX7_moveOne_40 (by decide) ?_
        refine lv_iadd hx hb dX7_moveOne_42 ?_
        refine lv_goto (tgt := 47) hx hb dX7_moveOne_43 (by decide) ?_
        cases hr_36
        exact j47 _ _ _ hP hS (lv_sub hl [1, 2] rfl)
    · have hr_36 := ite_f hr_36 hc_35
      refine lv_iload_n hx hb dX7_moveOne_26 rfl (lv_at hl 0 rfl) ?_
      refine lv_bipush (v := 8) hx hb dX7_moveOne_27 (by decide) ?_
      refine lv_isub hx hb dX7_moveOne_29 ?_
      refine lv_goto (tgt := 47) hx hb dX7_moveOne_30 (by decide) ?_
      cases hr_36
      exact j47 _ _ _ hP hS (lv_sub hl [1, 2] rfl)
def rm_X7_moveAll : Room := { frames := 3, cells := 0, slots := 0, locals := 66 }
theorem gm_X7_moveAll : Cond.instanceMethod yX7_moveAll ∈ wsL_law ∧ Cond.selects RX7 yX7_moveAll yX7_moveAll ∈ wsL_law ∧ Cond.initialized RX7 ∈ wsL_law ∧ Cond.code yX7_moveAll cX7_moveAll 2 none ∈ wsL_law := ⟨gw_22_19, gw_22_20, gw_1_5, gw_22_21⟩
theorem gd_X7_moveAll : yX7_moveAll.cls = RX7 ∧ yX7_moveAll.cls ≠ "java/lang/invoke/MethodHandle" ∧ yX7_moveAll.cls ≠ "java/lang/invoke/VarHandle" ∧ (parseMethodDescriptor yX7_moveAll.desc).map (fun d => d.parameters.length) = some 0 := by decide +kernel
set_option maxRecDepth 100000 in
set_option maxHeartbeats 0 in
theorem c_X7_moveAll {l : Launch} {D : va_G} {k : Nat → ClassId} {ad : Nat → Nat} (had : InjN 31 ad) (M : Mem) (hI : MI M) (hsec : (M 0 7).toInt < 400) : Met l yX7_moveAll (Cond.code yX7_moveAll cX7_moveAll 2 none :: wsL_law) rm_X7_moveAll (va_Pc [.ref (ad 0)] (GW 31 ad D k (cM ad k M))) (va_Qv (fun u => (f_X7_moveAll M = u ∧ TI M u)) (fun u t => GW 31 ad D k (cM ad k u) t) (AW 31 ad)) 0 0 (AW 31 ad) := by
  refine met_v (g := cM ad k) (M := M) (plainFor_of_name (by decide)) (Nat.le_of_ble_eq_true rfl) ?_
  intro p e s m args below meth c Q ls hx hb hml hG hown hK hret hP hS hl
  have hl : lv_has ls 2 [(0, .ref (ad 0))] := hl
  obtain ⟨V, hV⟩ : ∃ V, f_X7_moveAll M = V := ⟨_, rfl⟩
  have he := hV
  unfold f_X7_moveAll at he
  have hT0 : TI M M := TI_rf hI
  have qb_M := hI.1
  have qs_M := hI.2.1
  have qz_M := hI.2.2.1
  have hs0_7_M : M 0 7 = (M 0 7) := rfl
  refine lv_iconst (v := 0) hx hb dX7_moveAll_0 (by decide) ?_
  refine lv_istore_n (lv' := [(1, .int 0), (0, .ref (ad 0))]) hx hb dX7_moveAll_1 rfl hl (by decide) rfl (fun ls hl => ?_)
  obtain ⟨M_27, hr_16, he⟩ := bnd_ex he
  have j35 : ∀ (H : Heap) (locs : List Loc) (ls : Array Slot), TI M M_27 → M_27 0 7 = (M 0 7) → va_P D vwCl (wld 31 ad (cM ad k M_27)) H → va_S (AW 31 ad) s.heap H locs → lv_has ls 2 [(0, .ref (ad 0))] → W p l e rm_X7_moveAll s m args below meth c H locs 0 0 Q (F0 m 35 ls []) := by
    intro H locs ls hTM_27 hs0_7_M_27 hP hS hl
    have qb_M_27 := hTM_27.1.1
    have qs_M_27 := hTM_27.1.2.1
    have qz_M_27 := hTM_27.1.2.2.1
    refine lv_iconst (v := 0) hx hb dX7_moveAll_35 (by decide) ?_
    refine lv_istore_n (lv' := [(1, .int 0), (0, .ref (ad 0))]) hx hb dX7_moveAll_36 rfl hl (by decide) rfl (fun ls hl => ?_)
    obtain ⟨M_60, hr_46, he⟩ := bnd_ex he
    have j73 : ∀ (H : Heap) (locs : List Loc) (ls : Array Slot), TI M M_60 → M_60 0 7 = (M 0 7) → va_P D vwCl (wld 31 ad (cM ad k M_60)) H → va_S (AW 31 ad) s.heap H locs → lv_has ls 2 [(0, .ref (ad 0))] → W p l e rm_X7_moveAll s m args below meth c H locs 0 0 Q (F0 m 73 ls []) := by
      intro H locs ls hTM_60 hs0_7_M_60 hP hS hl
      have qb_M_60 := hTM_60.1.1
      have qs_M_60 := hTM_60.1.2.1
      have qz_M_60 := hTM_60.1.2.2.1
      refine lv_aload_n hx hb dX7_moveAll_73 rfl (lv_at hl 0 rfl) ?_
      refine lv_dup hx hb dX7_moveAll_74 rfl ?_
      refine gX7_7 hx hb hG hown hK hP gw_15_12 dX7_moveAll_75 ?_
      refine lv_iconst (v := 1) hx hb dX7_moveAll_78 (by decide) ?_
      refine lv_iadd hx hb dX7_moveAll_79 ?_
      refine pX7_7 hx hb hG hown hK hP had AW_in hS gw_15_12 dX7_moveAll_80 (fun H locs hP hS => ?_)
      obtain ⟨M_61, eM_61⟩ : ∃ y : Mem, y = up2 M_60 0 7 ((M_60 0 7) + 1) := ⟨_, rfl⟩
      rw [← eM_61] at hP
      have he := bnd_at he eM_61
      have hTM_61 : TI M M_61 := by rw [eM_61]; exact TI_second hTM_60 (by have qe := congrArg Int32.toInt hs0_7_M_60; rw [inc_I (N := 400) (by omega) (by decide)]; omega)
      have qb_M_61 := hTM_61.1.1
      have qs_M_61 := hTM_61.1.2.1
      have qz_M_61 := hTM_61.1.2.2.1
      have hs0_7_M_61 : M_61 0 7 = ((M_60 0 7) + 1) := by rw [eM_61]; exact up2_s _ _ _ _
      exact hret _ _ _ _ _ ⟨(hV.trans he.symm), hTM_61⟩ hP hS dX7_moveAll_83
    have lp37 : ∀ (nn : Nat) (H : Heap) (locs : List Loc) (ls : Array Slot) (M_45 : Mem) (v_44 : Int32), (0 ≤ v_44.toInt) → (TI M M_45) → (M_45 0 7 = (M 0 7)) → (4 - v_44.toInt).toNat < nn → lp_X7_moveAll_37 nn M_45 v_44 = M_60 → va_P D vwCl (wld 31 ad (cM ad k M_45)) H → va_S (AW 31 ad) s.heap H locs → lv_has ls 2 [(0, .ref (ad 0)), (1, .int v_44)] → W p l e rm_X7_moveAll s m args below meth c H locs 0 0 Q (F0 m 37 ls []) := by
      intro nn
      induction nn with
      | zero =>
        intro H locs ls M_45 v_44 h0v_44 hTM_45 hs0_7_M_45 hμ
        exact absurd hμ (Nat.not_lt_zero _)
      | succ nn ih =>
        intro H locs ls M_45 v_44 h0v_44 hTM_45 hs0_7_M_45 hμ hr_46 hP hS hl
        rw [lp_X7_moveAll_37] at hr_46
        have qb_M_45 := hTM_45.1.1
        have qs_M_45 := hTM_45.1.2.1
        have qz_M_45 := hTM_45.1.2.2.1
        refine lv_iload_n hx hb dX7_moveAll_37 rfl (lv_at hl 1 rfl) ?_
        refine lv_aload_n hx hb dX7_moveAll_38 rfl (lv_at hl 0 rfl) ?_
        refine gX7_8 hx hb hG hown hK hP gw_7_15 dX7_moveAll_39 ?_
        refine lv_icmp_ge (tgt := 73) hx hb dX7_moveAll_42 (by decide) (fun hc_47 => ?_) (fun hc_47 => ?_)
        · have hr_46 := ite_t hr_46 hc_47
          cases hr_46
          exact j73 _ _ _ hTM_45 hs0_7_M_45 hP hS (lv_sub hl [0] rfl)
        · have hr_46 := ite_f hr_46 hc_47
          refine lv_aload_n hx hb dX7_moveAll_45 rfl (lv_at hl 0 rfl) ?_
          refine lv_iload_n hx hb dX7_moveAll_46 rfl (lv_at hl 1 rfl) ?_
          refine call_i [.int v_44] [] hx hb hml hG hown hK (c_X7_isIn had M_45 v_44 hTM_45.1 (by have qsl0 := congrArg Int32.toInt hs0_7_M_45; have q1 : v_44.toInt < (M_45 0 8).toInt := nle_I hc_47; omega)) gw_18_0 gm_X7_isIn gd_X7_isIn rfl rfl ⟨Nat.le_of_ble_eq_true rfl, Nat.le_of_ble_eq_true rfl⟩ ⟨Nat.le_refl _, Nat.le_refl _⟩ (rX7 hK hP) hP (fun _ h => h) hS rfl hl.1 rfl (Nat.le_of_ble_eq_true rfl) dX7_moveAll_47 (fun r_48 u_50 H locs hF_49 hP hS => ?_)
          obtain ⟨hz_51, hF_49, hu⟩ := hF_49; rw [hu] at hP; subst hF_49
          obtain ⟨M_58, hr_53, hr_46⟩ := bnd_ex hr_46
          have j67 : ∀ (H : Heap) (locs : List Loc) (ls : Array Slot), TI M M_58 → M_58 0 7 = (M 0 7) → va_P D vwCl (wld 31 ad (cM ad k M_58)) H → va_S (AW 31 ad) s.heap H locs → lv_has ls 2 [(0, .ref (ad 0)), (1, .int v_44)] → W p l e rm_X7_moveAll s m args below meth c H locs 0 0 Q (F0 m 67 ls []) := by
            intro H locs ls hTM_58 hs0_7_M_58 hP hS hl
            have qb_M_58 := hTM_58.1.1
            have qs_M_58 := hTM_58.1.2.1
            have qz_M_58 := hTM_58.1.2.2.1
            obtain ⟨y_59, ey_59⟩ : ∃ y_59 : Int32, y_59 = v_44 + 1 := ⟨_, rfl⟩
            have hr_46 := bnd_at hr_46 ey_59
            refine lv_iinc (v := y_59) (lv' := [(1, .int y_59), (0, .ref (ad 0))]) hx hb dX7_moveAll_67 hl (k := 1) rfl (by rw [ey_59]; rfl) (by decide) rfl (fun ls hl => ?_)
            refine lv_goto (tgt := 37) hx hb dX7_moveAll_70 (by decide) ?_
            exact ih _ _ _ _ _ (by rw [ey_59, inc_I (N := 4) (bnd_lt (nle_I hc_47) (by omega)) (by decide)]; omega) hTM_58 hs0_7_M_58 (by rw [ey_59]; exact mu_I hμ (bnd_lt (nle_I hc_47) (by omega)) (by decide)) hr_46 hP hS (lv_sub hl [1, 0] rfl)
          refine lv_if_ne (tgt := 67) hx hb dX7_moveAll_50 (by decide) (fun hc_52 => ?_) (fun hc_52 => ?_)
          · have hr_53 := ite_t hr_53 hc_52
            cases hr_53
            exact j67 _ _ _ hTM_45 hs0_7_M_45 hP hS (lv_sub hl [0, 1] rfl)
          · have hr_53 := ite_f hr_53 (fun q => q hc_52)
            refine lv_aload_n hx hb dX7_moveAll_53 rfl (lv_at hl 0 rfl) ?_
            refine lv_iload_n hx hb dX7_moveAll_54 rfl (lv_at hl 1 rfl) ?_
            refine lv_aload_n hx hb dX7_moveAll_55 rfl (lv_at hl 0 rfl) ?_
            refine gX7_28 hx hb hG hown hK hP gw_5_5 dX7_moveAll_56 ?_
            refine lv_aload_n hx hb dX7_moveAll_59 rfl (lv_at hl 0 rfl) ?_
            refine gX7_7 hx hb hG hown hK hP gw_15_12 dX7_moveAll_60 ?_
            refine al_M17 hx hb hK hP (vin_I (by have ll0 : (0 : Int32).toInt = 0 := rfl; have ll7 : (7 : Int32).toInt = 7 := rfl; have qsl0 := congrArg Int32.toInt hs0_7_M_45; have q3 : v_44.toInt < (M_45 0 8).toInt := nle_I hc_47; have q4 : (f_X7_isIn M_45 v_44).toInt = 0 := congrArg Int32.toInt hc_52; omega) (by have ll0 : (0 : Int32).toInt = 0 := rfl; have ll7 : (7 : Int32).toInt = 7 := rfl; have qsl0 := congrArg Int32.toInt hs0_7_M_45; have q3 : v_44.toInt < (M_45 0 8).toInt := nle_I hc_47; have q4 : (f_X7_isIn M_45 v_44).toInt = 0 := congrArg Int32.toInt hc_52; omega)) dX7_moveAll_63 ?_
            refine call_v [.int v_44, .int (M_45 17 (M_45 0 7).toNatClampNeg)] [] hx hb hml hG hown hK (c_X7_moveOne had M_45 v_44 (M_45 17 (M_45 0 7).toNatClampNeg) hTM_45.1 (by have ll0 : (0 : Int32).toInt = 0 := rfl; have ll17 : (17 : Int32).toInt = 17 := rfl; have ll7 : (7 : Int32).toInt = 7 := rfl; have qsl0 := congrArg Int32.toInt hs0_7_M_45; have q4 : v_44.toInt < (M_45 0 8).toInt := nle_I hc_47; have q5 : (f_X7_isIn M_45 v_44).toInt = 0 := congrArg Int32.toInt hc_52; omega)) gw_22_22 gm_X7_moveOne gd_X7_moveOne rfl rfl ⟨Nat.le_of_ble_eq_true rfl, Nat.le_of_ble_eq_true rfl⟩ ⟨Nat.le_refl _, Nat.le_refl _⟩ (rX7 hK hP) hP (fun _ h => h) hS rfl hl.1 rfl (Nat.le_of_ble_eq_true rfl) dX7_moveAll_64 (fun M_56 H locs hF_55 hP hS => ?_)
            obtain ⟨hF_55, hti_57⟩ := hF_55
            have hr_53 := bnd_at hr_53 hF_55.symm
            have hTM_56 : TI M M_56 := TI_tr hTM_45 hti_57
            have qb_M_56 := hTM_56.1.1
            have qs_M_56 := hTM_56.1.2.1
            have qz_M_56 := hTM_56.1.2.2.1
            have hs0_7_M_56 : M_56 0 7 = (M 0 7) := by rw [sl_moveOne_0_7 hF_55, hs0_7_M_45]
            cases hr_53
            exact j67 _ _ _ hTM_56 hs0_7_M_56 hP hS (lv_sub hl [0, 1] rfl)
    exact lp37 _ _ _ _ _ _ (by decide) hTM_27 hs0_7_M_27 (by decide) hr_46 hP hS (lv_sub hl [1, 0] rfl)
  have lp2 : ∀ (nn : Nat) (H : Heap) (locs : List Loc) (ls : Array Slot) (M_15 : Mem) (v_14 : Int32), (0 ≤ v_14.toInt) → (TI M M_15) → (M_15 0 7 = (M 0 7)) → (4 - v_14.toInt).toNat < nn → lp_X7_moveAll_2 nn M_15 v_14 = M_27 → va_P D vwCl (wld 31 ad (cM ad k M_15)) H → va_S (AW 31 ad) s.heap H locs → lv_has ls 2 [(0, .ref (ad 0)), (1, .int v_14)] → W p l e rm_X7_moveAll s m args below meth c H locs 0 0 Q (F0 m 2 ls []) := by
    intro nn
    induction nn with
    | zero =>
      intro H locs ls M_15 v_14 h0v_14 hTM_15 hs0_7_M_15 hμ
      exact absurd hμ (Nat.not_lt_zero _)
    | succ nn ih =>
      intro H locs ls M_15 v_14 h0v_14 hTM_15 hs0_7_M_15 hμ hr_16 hP hS hl
      rw [lp_X7_moveAll_2] at hr_16
      have qb_M_15 := hTM_15.1.1
      have qs_M_15 := hTM_15.1.2.1
      have qz_M_15 := hTM_15.1.2.2.1
      refine lv_iload_n hx hb dX7_moveAll_2 rfl (lv_at hl 1 rfl) ?_
      refine lv_aload_n hx hb dX7_moveAll_3 rfl (lv_at hl 0 rfl) ?_
      refine gX7_8 hx hb hG hown hK hP gw_7_15 dX7_moveAll_4 ?_
      refine lv_icmp_ge (tgt := 35) hx hb dX7_moveAll_7 (by decide) (fun hc_17 => ?_) (fun hc_17 => ?_)
      · have hr_16 := ite_t hr_16 hc_17
        cases hr_16
        exact j35 _ _ _ hTM_15 hs0_7_M_15 hP hS (lv_sub hl [0] rfl)
      · have hr_16 := ite_f hr_16 hc_17
        refine lv_aload_n hx hb dX7_moveAll_10 rfl (lv_at hl 0 rfl) ?_
        refine gX7_31 hx hb hG hown hK hP gw_5_6 dX7_moveAll_11 ?_
        refine lv_iload_n hx hb dX7_moveAll_14 rfl (lv_at hl 1 rfl) ?_
        refine lv_aload_n hx hb dX7_moveAll_15 rfl (lv_at hl 0 rfl) ?_
        refine lv_iload_n hx hb dX7_moveAll_16 rfl (lv_at hl 1 rfl) ?_
        refine call_i [.int v_14] [.int v_14, .ref (ad 18)] hx hb hml hG hown hK (c_X7_isBad had M_15 v_14 hTM_15.1 (by have qsl0 := congrArg Int32.toInt hs0_7_M_15; have q1 : v_14.toInt < (M_15 0 8).toInt := nle_I hc_17; omega)) gw_17_17 gm_X7_isBad gd_X7_isBad rfl rfl ⟨Nat.le_of_ble_eq_true rfl, Nat.le_of_ble_eq_true rfl⟩ ⟨Nat.le_refl _, Nat.le_refl _⟩ (rX7 hK hP) hP (fun _ h => h) hS rfl hl.1 rfl (Nat.le_of_ble_eq_true rfl) dX7_moveAll_17 (fun r_18 u_20 H locs hF_19 hP hS => ?_)
        obtain ⟨hz_21, hF_19, hu⟩ := hF_19; rw [hu] at hP; subst hF_19
        obtain ⟨t_24, hr_23, hr_16⟩ := bnd_ex hr_16
        have j28 : ∀ (H : Heap) (locs : List Loc) (ls : Array Slot), (t_24 = 0 ∨ t_24 = 1) → va_P D vwCl (wld 31 ad (cM ad k M_15)) H → va_S (AW 31 ad) s.heap H locs → lv_has ls 2 [(0, .ref (ad 0)), (1, .int v_14)] → W p l e rm_X7_moveAll s m args below meth c H locs 0 0 Q (F0 m 28 ls [.int t_24, .int v_14, .ref (ad 18)]) := by
          intro H locs ls zt_24 hP hS hl
          refine as_M18 hx hb hK hP had AW_in hS (vin_I (by have qsl0 := congrArg Int32.toInt hs0_7_M_15; have q1 : v_14.toInt < (M_15 0 8).toInt := nle_I hc_17; omega) (by have qsl0 := congrArg Int32.toInt hs0_7_M_15; have q1 : v_14.toInt < (M_15 0 8).toInt := nle_I hc_17; omega)) dX7_moveAll_28 (fun H locs hP hS => ?_)
          obtain ⟨M_25, eM_25⟩ : ∃ y : Mem, y = up2 M_15 18 v_14.toNatClampNeg t_24 := ⟨_, rfl⟩
          rw [← eM_25] at hP
          have hr_16 := bnd_at hr_16 eM_25
          have hTM_25 : TI M M_25 := by rw [eM_25]; exact TI_a hTM_15 (by decide)
          have qb_M_25 := hTM_25.1.1
          have qs_M_25 := hTM_25.1.2.1
          have qz_M_25 := hTM_25.1.2.2.1
          have hs0_7_M_25 : M_25 0 7 = (M 0 7) := by rw [eM_25, up2_o _ _ (by decide)] <;> exact hs0_7_M_15
          obtain ⟨y_26, ey_26⟩ : ∃ y_26 : Int32, y_26 = v_14 + 1 := ⟨_, rfl⟩
          have hr_16 := bnd_at hr_16 ey_26
          refine lv_iinc (v := y_26) (lv' := [(1, .int y_26), (0, .ref (ad 0))]) hx hb dX7_moveAll_29 hl (k := 1) rfl (by rw [ey_26]; rfl) (by decide) rfl (fun ls hl => ?_)
          refine lv_goto (tgt := 2) hx hb dX7_moveAll_32 (by decide) ?_
          exact ih _ _ _ _ _ (by rw [ey_26, inc_I (N := 4) (bnd_lt (nle_I hc_17) (by omega)) (by decide)]; omega) hTM_25 hs0_7_M_25 (by rw [ey_26]; exact mu_I hμ (bnd_lt (nle_I hc_17) (by omega)) (by decide)) hr_16 hP hS (lv_sub hl [1, 0] rfl)
        refine lv_if_eq (tgt := 27) hx hb dX7_moveAll_20 (by decide) (fun hc_22 => ?_) (fun hc_22 => ?_)
        · have hr_23 := ite_t hr_23 hc_22
          refine lv_iconst (v := 0) hx hb dX7_moveAll_27 (by decide) ?_
          cases hr_23
          exact j28 _ _ _ (Or.inl rfl) hP hS (lv_sub hl [0, 1] rfl)
        · have hr_23 := ite_f hr_23 hc_22
          refine lv_iconst (v := 1) hx hb dX7_moveAll_23 (by decide) ?_
          refine lv_goto (tgt := 28) hx hb dX7_moveAll_24 (by decide) ?_
          cases hr_23
          exact j28 _ _ _ (Or.inr rfl) hP hS (lv_sub hl [0, 1] rfl)
  exact lp2 _ _ _ _ _ _ (by decide) hT0 hs0_7_M (by decide) hr_16 hP hS (lv_sub hl [1, 0] rfl)
