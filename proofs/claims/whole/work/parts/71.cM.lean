-- @needs 12_dec 13_dec 14_dec 15_dec 37_fault 60_cM 63_cM 64_cM 65_cM 66_cM 67_cM 69_cM 70_cM
def rm_X7_bitsOn : Room := { frames := 4, cells := 0, slots := 0, locals := 87 }
theorem gm_X7_bitsOn : Cond.instanceMethod yX7_bitsOn ∈ wsL_law ∧ Cond.selects RX7 yX7_bitsOn yX7_bitsOn ∈ wsL_law ∧ Cond.initialized RX7 ∈ wsL_law ∧ Cond.code yX7_bitsOn cX7_bitsOn 2 none ∈ wsL_law := ⟨gw_30_22, gw_30_23, gw_1_5, gw_31_0⟩
theorem gd_X7_bitsOn : yX7_bitsOn.cls = RX7 ∧ yX7_bitsOn.cls ≠ "java/lang/invoke/MethodHandle" ∧ yX7_bitsOn.cls ≠ "java/lang/invoke/VarHandle" ∧ (parseMethodDescriptor yX7_bitsOn.desc).map (fun d => d.parameters.length) = some 0 := by decide +kernel
set_option maxRecDepth 100000 in
set_option maxHeartbeats 0 in
theorem c_X7_bitsOn {l : Launch} {D : va_G} {k : Nat → ClassId} {ad : Nat → Nat} (had : InjN 31 ad) (M : Mem) (hI : MI M) (hsec : (M 0 7).toInt < 400) : Met l yX7_bitsOn (Cond.code yX7_bitsOn cX7_bitsOn 2 none :: wsL_law) rm_X7_bitsOn (va_Pc [.ref (ad 0)] (GW 31 ad D k (cM ad k M))) (va_Qv (fun u => (f_X7_bitsOn M = u ∧ TI M u)) (fun u t => GW 31 ad D k (cM ad k u) t) (AW 31 ad)) 0 0 (AW 31 ad) := by
  refine met_v (g := cM ad k) (M := M) (plainFor_of_name (by decide)) (Nat.le_of_ble_eq_true rfl) ?_
  intro p e s m args below meth c Q ls hx hb hml hG hown hK hret hP hS hl
  have hl : lv_has ls 2 [(0, .ref (ad 0))] := hl
  obtain ⟨V, hV⟩ : ∃ V, f_X7_bitsOn M = V := ⟨_, rfl⟩
  have he := hV
  unfold f_X7_bitsOn at he
  have hT0 : TI M M := TI_rf hI
  have qb_M := hI.1
  have qs_M := hI.2.1
  have qz_M := hI.2.2.1
  refine lv_aload_n hx hb dX7_bitsOn_0 rfl (lv_at hl 0 rfl) ?_
  refine call_v [] [] hx hb hml hG hown hK (c_X7_moveAll had M hT0.1 (by omega)) gw_22_18 gm_X7_moveAll gd_X7_moveAll rfl rfl ⟨Nat.le_of_ble_eq_true rfl, Nat.le_of_ble_eq_true rfl⟩ ⟨Nat.le_refl _, Nat.le_refl _⟩ (rX7 hK hP) hP (fun _ h => h) hS rfl hl.1 rfl (Nat.le_of_ble_eq_true rfl) dX7_bitsOn_1 (fun M_3 H locs hF_2 hP hS => ?_)
  obtain ⟨hF_2, hti_4⟩ := hF_2
  have he := bnd_at he hF_2.symm
  have hTM_3 : TI M M_3 := TI_tr hT0 hti_4
  have qb_M_3 := hTM_3.1.1
  have qs_M_3 := hTM_3.1.2.1
  have qz_M_3 := hTM_3.1.2.2.1
  refine lv_iconst (v := 0) hx hb dX7_bitsOn_4 (by decide) ?_
  refine lv_istore_n (lv' := [(1, .int 0), (0, .ref (ad 0))]) hx hb dX7_bitsOn_5 rfl hl (by decide) rfl (fun ls hl => ?_)
  obtain ⟨M_51, hr_30, he⟩ := bnd_ex he
  have j55 : ∀ (H : Heap) (locs : List Loc) (ls : Array Slot), TI M M_51 → va_P D vwCl (wld 31 ad (cM ad k M_51)) H → va_S (AW 31 ad) s.heap H locs → lv_has ls 2 [(0, .ref (ad 0))] → W p l e rm_X7_bitsOn s m args below meth c H locs 0 0 Q (F0 m 55 ls []) := by
    intro H locs ls hTM_51 hP hS hl
    have qb_M_51 := hTM_51.1.1
    have qs_M_51 := hTM_51.1.2.1
    have qz_M_51 := hTM_51.1.2.2.1
    refine lv_aload_n hx hb dX7_bitsOn_55 rfl (lv_at hl 0 rfl) ?_
    refine call_v [] [] hx hb hml hG hown hK (c_X7_turnAll had M_51 hTM_51.1) gw_24_21 gm_X7_turnAll gd_X7_turnAll rfl rfl ⟨Nat.le_of_ble_eq_true rfl, Nat.le_of_ble_eq_true rfl⟩ ⟨Nat.le_refl _, Nat.le_refl _⟩ (rX7 hK hP) hP (fun _ h => h) hS rfl hl.1 rfl (Nat.le_of_ble_eq_true rfl) dX7_bitsOn_56 (fun M_54 H locs hF_53 hP hS => ?_)
    obtain ⟨hF_53, hti_55⟩ := hF_53
    have he := bnd_at he hF_53.symm
    have hTM_54 : TI M M_54 := TI_tr hTM_51 hti_55
    have qb_M_54 := hTM_54.1.1
    have qs_M_54 := hTM_54.1.2.1
    have qz_M_54 := hTM_54.1.2.2.1
    exact hret _ _ _ _ _ ⟨(hV.trans he.symm), hTM_54⟩ hP hS dX7_bitsOn_59
  have lp6 : ∀ (nn : Nat) (H : Heap) (locs : List Loc) (ls : Array Slot) (M_29 : Mem) (v_28 : Int32), (0 ≤ v_28.toInt) → (TI M M_29) → (4 - v_28.toInt).toNat < nn → lp_X7_bitsOn_6 nn M_29 v_28 = M_51 → va_P D vwCl (wld 31 ad (cM ad k M_29)) H → va_S (AW 31 ad) s.heap H locs → lv_has ls 2 [(0, .ref (ad 0)), (1, .int v_28)] → W p l e rm_X7_bitsOn s m args below meth c H locs 0 0 Q (F0 m 6 ls []) := by
    intro nn
    induction nn with
    | zero =>
      intro H locs ls M_29 v_28 h0v_28 hTM_29 hμ
      exact absurd hμ (Nat.not_lt_zero _)
    | succ nn ih =>
      intro H locs ls M_29 v_28 h0v_28 hTM_29 hμ hr_30 hP hS hl
      rw [lp_X7_bitsOn_6] at hr_30
      have qb_M_29 := hTM_29.1.1
      have qs_M_29 := hTM_29.1.2.1
      have qz_M_29 := hTM_29.1.2.2.1
      refine lv_iload_n hx hb dX7_bitsOn_6 rfl (lv_at hl 1 rfl) ?_
      refine lv_aload_n hx hb dX7_bitsOn_7 rfl (lv_at hl 0 rfl) ?_
      refine gX7_8 hx hb hG hown hK hP gw_7_15 dX7_bitsOn_8 ?_
      refine lv_icmp_ge (tgt := 55) hx hb dX7_bitsOn_11 (by decide) (fun hc_31 => ?_) (fun hc_31 => ?_)
      · have hr_30 := ite_t hr_30 hc_31
        cases hr_30
        exact j55 _ _ _ hTM_29 hP hS (lv_sub hl [0] rfl)
      · have hr_30 := ite_f hr_30 hc_31
        refine lv_aload_n hx hb dX7_bitsOn_14 rfl (lv_at hl 0 rfl) ?_
        refine gX7_32 hx hb hG hown hK hP gw_5_7 dX7_bitsOn_15 ?_
        refine lv_iload_n hx hb dX7_bitsOn_18 rfl (lv_at hl 1 rfl) ?_
        refine lv_aload_n hx hb dX7_bitsOn_19 rfl (lv_at hl 0 rfl) ?_
        refine lv_iload_n hx hb dX7_bitsOn_20 rfl (lv_at hl 1 rfl) ?_
        refine call_i [.int v_28] [.int v_28, .ref (ad 19)] hx hb hml hG hown hK (c_X7_mayTurn had M_29 v_28 hTM_29.1 (by have q0 : v_28.toInt < (M_29 0 8).toInt := nle_I hc_31; omega)) gw_23_13 gm_X7_mayTurn gd_X7_mayTurn rfl rfl ⟨Nat.le_of_ble_eq_true rfl, Nat.le_of_ble_eq_true rfl⟩ ⟨Nat.le_refl _, Nat.le_refl _⟩ (rX7 hK hP) hP (fun _ h => h) hS rfl hl.1 rfl (Nat.le_of_ble_eq_true rfl) dX7_bitsOn_21 (fun r_32 u_34 H locs hF_33 hP hS => ?_)
        obtain ⟨hz_35, hF_33, hu⟩ := hF_33; rw [hu] at hP; subst hF_33
        obtain ⟨t_48, hr_37, hr_30⟩ := bnd_ex hr_30
        have j48 : ∀ (H : Heap) (locs : List Loc) (ls : Array Slot), (t_48 = 0 ∨ t_48 = 1) → va_P D vwCl (wld 31 ad (cM ad k M_29)) H → va_S (AW 31 ad) s.heap H locs → lv_has ls 2 [(0, .ref (ad 0)), (1, .int v_28)] → W p l e rm_X7_bitsOn s m args below meth c H locs 0 0 Q (F0 m 48 ls [.int t_48, .int v_28, .ref (ad 19)]) := by
          intro H locs ls zt_48 hP hS hl
          refine as_M19 hx hb hK hP had AW_in hS (vin_I (by have q0 : v_28.toInt < (M_29 0 8).toInt := nle_I hc_31; omega) (by have q0 : v_28.toInt < (M_29 0 8).toInt := nle_I hc_31; omega)) dX7_bitsOn_48 (fun H locs hP hS => ?_)
          obtain ⟨M_49, eM_49⟩ : ∃ y : Mem, y = up2 M_29 19 v_28.toNatClampNeg t_48 := ⟨_, rfl⟩
          rw [← eM_49] at hP
          have hr_30 := bnd_at hr_30 eM_49
          have hTM_49 : TI M M_49 := by rw [eM_49]; exact TI_a hTM_29 (by decide)
          have qb_M_49 := hTM_49.1.1
          have qs_M_49 := hTM_49.1.2.1
          have qz_M_49 := hTM_49.1.2.2.1
          obtain ⟨y_50, ey_50⟩ : ∃ y_50 : Int32, y_50 = v_28 + 1 := ⟨_, rfl⟩
          have hr_30 := bnd_at hr_30 ey_50
          refine lv_iinc (v := y_50) (lv' := [(1, .int y_50), (0, .ref (ad 0))]) hx hb dX7_bitsOn_49 hl (k := 1) rfl (by rw [ey_50]; rfl) (by decide) rfl (fun ls hl => ?_)
          refine lv_goto (tgt := 6) hx hb dX7_bitsOn_52 (by decide) ?_
          exact ih _ _ _ _ _ (by rw [ey_50, inc_I (N := 4) (bnd_lt (nle_I hc_31) (by omega)) (by decide)]; omega) hTM_49 (by rw [ey_50]; exact mu_I hμ (bnd_lt (nle_I hc_31) (by omega)) (by decide)) hr_30 hP hS (lv_sub hl [1, 0] rfl)
        refine lv_if_eq (tgt := 47) hx hb dX7_bitsOn_24 (by decide) (fun hc_36 => ?_) (fun hc_36 => ?_)
        · have hr_37 := ite_t hr_37 hc_36
          refine lv_iconst (v := 0) hx hb dX7_bitsOn_47 (by decide) ?_
          cases hr_37
          exact j48 _ _ _ (Or.inl rfl) hP hS (lv_sub hl [0, 1] rfl)
        · have hr_37 := ite_f hr_37 hc_36
          refine lv_aload_n hx hb dX7_bitsOn_27 rfl (lv_at hl 0 rfl) ?_
          refine lv_iload_n hx hb dX7_bitsOn_28 rfl (lv_at hl 1 rfl) ?_
          refine call_i [.int v_28] [.int v_28, .ref (ad 19)] hx hb hml hG hown hK (c_X7_isOut had M_29 v_28 hTM_29.1 (by have q0 : v_28.toInt < (M_29 0 8).toInt := nle_I hc_31; have q1 : (f_X7_mayTurn M_29 v_28).toInt ≠ 0 := ne_I hc_36; omega)) gw_23_17 gm_X7_isOut gd_X7_isOut rfl rfl ⟨Nat.le_of_ble_eq_true rfl, Nat.le_of_ble_eq_true rfl⟩ ⟨Nat.le_refl _, Nat.le_refl _⟩ (rX7 hK hP) hP (fun _ h => h) hS rfl hl.1 rfl (Nat.le_of_ble_eq_true rfl) dX7_bitsOn_29 (fun r_38 u_40 H locs hF_39 hP hS => ?_)
          obtain ⟨hz_41, hF_39, hu⟩ := hF_39; rw [hu] at hP; subst hF_39
          refine lv_if_ne (tgt := 43) hx hb dX7_bitsOn_32 (by decide) (fun hc_42 => ?_) (fun hc_42 => ?_)
          · have hr_37 := ite_t hr_37 hc_42
            refine lv_iconst (v := 1) hx hb dX7_bitsOn_43 (by decide) ?_
            refine lv_goto (tgt := 48) hx hb dX7_bitsOn_44 (by decide) ?_
            cases hr_37
            exact j48 _ _ _ (Or.inr rfl) hP hS (lv_sub hl [0, 1] rfl)
          · have hr_37 := ite_f hr_37 (fun q => q hc_42)
            refine lv_aload_n hx hb dX7_bitsOn_35 rfl (lv_at hl 0 rfl) ?_
            refine lv_iload_n hx hb dX7_bitsOn_36 rfl (lv_at hl 1 rfl) ?_
            refine call_i [.int v_28] [.int v_28, .ref (ad 19)] hx hb hml hG hown hK (c_X7_isBitTime had M_29 v_28 hTM_29.1 (by have q0 : v_28.toInt < (M_29 0 8).toInt := nle_I hc_31; have q1 : (f_X7_mayTurn M_29 v_28).toInt ≠ 0 := ne_I hc_36; have q2 : (f_X7_isOut M_29 v_28).toInt = 0 := congrArg Int32.toInt hc_42; omega)) gw_31_1 gm_X7_isBitTime gd_X7_isBitTime rfl rfl ⟨Nat.le_of_ble_eq_true rfl, Nat.le_of_ble_eq_true rfl⟩ ⟨Nat.le_refl _, Nat.le_refl _⟩ (rX7 hK hP) hP (fun _ h => h) hS rfl hl.1 rfl (Nat.le_of_ble_eq_true rfl) dX7_bitsOn_37 (fun r_43 u_45 H locs hF_44 hP hS => ?_)
            obtain ⟨hz_46, hF_44, hu⟩ := hF_44; rw [hu] at hP; subst hF_44
            refine lv_if_eq (tgt := 47) hx hb dX7_bitsOn_40 (by decide) (fun hc_47 => ?_) (fun hc_47 => ?_)
            · have hr_37 := ite_t hr_37 hc_47
              refine lv_iconst (v := 0) hx hb dX7_bitsOn_47 (by decide) ?_
              cases hr_37
              exact j48 _ _ _ (Or.inl rfl) hP hS (lv_sub hl [0, 1] rfl)
            · have hr_37 := ite_f hr_37 hc_47
              refine lv_iconst (v := 1) hx hb dX7_bitsOn_43 (by decide) ?_
              refine lv_goto (tgt := 48) hx hb dX7_bitsOn_44 (by decide) ?_
              cases hr_37
              exact j48 _ _ _ (Or.inr rfl) hP hS (lv_sub hl [0, 1] rfl)
  exact lp6 _ _ _ _ _ _ (by decide) hTM_3 (by decide) hr_30 hP hS (lv_sub hl [1, 0] rfl)
def rm_X7_lay : Room := { frames := 1, cells := 0, slots := 0, locals := 21 }
theorem gm_X7_lay : Cond.instanceMethod yX7_lay ∈ wsL_law ∧ Cond.selects RX7 yX7_lay yX7_lay ∈ wsL_law ∧ Cond.initialized RX7 ∈ wsL_law ∧ Cond.code yX7_lay cX7_lay 5 none ∈ wsL_law := ⟨gw_30_18, gw_30_19, gw_1_5, gw_30_20⟩
theorem gd_X7_lay : yX7_lay.cls = RX7 ∧ yX7_lay.cls ≠ "java/lang/invoke/MethodHandle" ∧ yX7_lay.cls ≠ "java/lang/invoke/VarHandle" ∧ (parseMethodDescriptor yX7_lay.desc).map (fun d => d.parameters.length) = some 4 := by decide +kernel
set_option maxRecDepth 100000 in
set_option maxHeartbeats 0 in
theorem c_X7_lay {l : Launch} {D : va_G} {k : Nat → ClassId} {ad : Nat → Nat} (had : InjN 31 ad) (M : Mem) (a1 : Int32) (a2 : Int32) (a3 : Int32) (ha3 : a3 = 0 ∨ a3 = 1) (a4 : Int32) (hI : MI M) (hbx : 0 ≤ a1.toInt ∧ a1.toInt < 4) : Met l yX7_lay (Cond.code yX7_lay cX7_lay 5 none :: wsL_law) rm_X7_lay (va_Pc [.ref (ad 0), .int a1, .int a2, .int a3, .int a4] (GW 31 ad D k (cM ad k M))) (va_Qv (fun u => (f_X7_lay M a1 a2 a3 a4 = u ∧ TI M u)) (fun u t => GW 31 ad D k (cM ad k u) t) (AW 31 ad)) 0 0 (AW 31 ad) := by
  refine met_v (g := cM ad k) (M := M) (plainFor_of_name (by decide)) (Nat.le_of_ble_eq_true rfl) ?_
  intro p e s m args below meth c Q ls hx hb hml hG hown hK hret hP hS hl
  have hl : lv_has ls 5 [(0, .ref (ad 0)), (1, .int a1), (2, .int a2), (3, .int a3), (4, .int a4)] := hl
  obtain ⟨V, hV⟩ : ∃ V, f_X7_lay M a1 a2 a3 a4 = V := ⟨_, rfl⟩
  have he := hV
  unfold f_X7_lay at he
  have hT0 : TI M M := TI_rf hI
  have qb_M := hI.1
  have qs_M := hI.2.1
  have qz_M := hI.2.2.1
  refine lv_aload_n hx hb dX7_lay_0 rfl (lv_at hl 0 rfl) ?_
  refine gX7_10 hx hb hG hown hK hP gw_4_15 dX7_lay_1 ?_
  refine lv_iload_n hx hb dX7_lay_4 rfl (lv_at hl 1 rfl) ?_
  refine lv_iload_n hx hb dX7_lay_5 rfl (lv_at hl 2 rfl) ?_
  refine as_M3 hx hb hK hP had AW_in hS (vin_I (by omega) (by omega)) dX7_lay_6 (fun H locs hP hS => ?_)
  obtain ⟨M_1, eM_1⟩ : ∃ y : Mem, y = up2 M 3 a1.toNatClampNeg a2 := ⟨_, rfl⟩
  rw [← eM_1] at hP
  have he := bnd_at he eM_1
  have hTM_1 : TI M M_1 := by rw [eM_1]; exact TI_a hT0 (by decide)
  have qb_M_1 := hTM_1.1.1
  have qs_M_1 := hTM_1.1.2.1
  have qz_M_1 := hTM_1.1.2.2.1
  refine lv_aload_n hx hb dX7_lay_7 rfl (lv_at hl 0 rfl) ?_
  refine gX7_11 hx hb hG hown hK hP gw_4_16 dX7_lay_8 ?_
  refine lv_iload_n hx hb dX7_lay_11 rfl (lv_at hl 1 rfl) ?_
  refine lv_iload_n hx hb dX7_lay_12 rfl (lv_at hl 3 rfl) ?_
  obtain ⟨t_4, hr_3, he⟩ := bnd_ex he
  have j21 : ∀ (H : Heap) (locs : List Loc) (ls : Array Slot), va_P D vwCl (wld 31 ad (cM ad k M_1)) H → va_S (AW 31 ad) s.heap H locs → lv_has ls 5 [(0, .ref (ad 0)), (1, .int a1), (4, .int a4)] → W p l e rm_X7_lay s m args below meth c H locs 0 0 Q (F0 m 21 ls [.int t_4, .int a1, .ref (ad 4)]) := by
    intro H locs ls hP hS hl
    refine as_M4 hx hb hK hP had AW_in hS (vin_I (by omega) (by omega)) dX7_lay_21 (fun H locs hP hS => ?_)
    obtain ⟨M_5, eM_5⟩ : ∃ y : Mem, y = up2 M_1 4 a1.toNatClampNeg t_4 := ⟨_, rfl⟩
    rw [← eM_5] at hP
    have he := bnd_at he eM_5
    have hTM_5 : TI M M_5 := by rw [eM_5]; exact TI_a hTM_1 (by decide)
    have qb_M_5 := hTM_5.1.1
    have qs_M_5 := hTM_5.1.2.1
    have qz_M_5 := hTM_5.1.2.2.1
    refine lv_aload_n hx hb dX7_lay_22 rfl (lv_at hl 0 rfl) ?_
    refine gX7_39 hx hb hG hown hK hP gw_5_10 dX7_lay_23 ?_
    refine lv_iload_n hx hb dX7_lay_26 rfl (lv_at hl 1 rfl) ?_
    refine lv_iload hx hb dX7_lay_27 (lv_at hl 2 rfl) ?_
    refine as_M22 hx hb hK hP had AW_in hS (vin_I (by omega) (by omega)) dX7_lay_29 (fun H locs hP hS => ?_)
    obtain ⟨M_6, eM_6⟩ : ∃ y : Mem, y = up2 M_5 22 a1.toNatClampNeg a4 := ⟨_, rfl⟩
    rw [← eM_6] at hP
    have he := bnd_at he eM_6
    have hTM_6 : TI M M_6 := by rw [eM_6]; exact TI_a hTM_5 (by decide)
    have qb_M_6 := hTM_6.1.1
    have qs_M_6 := hTM_6.1.2.1
    have qz_M_6 := hTM_6.1.2.2.1
    refine lv_aload_n hx hb dX7_lay_30 rfl (lv_at hl 0 rfl) ?_
    refine lv_iload_n hx hb dX7_lay_31 rfl (lv_at hl 1 rfl) ?_
    refine call_v [.int a1] [] hx hb hml hG hown hK (c_X7_begin had M_6 a1 hTM_6.1 (by omega)) gw_15_18 gm_X7_begin gd_X7_begin rfl rfl ⟨Nat.le_of_ble_eq_true rfl, Nat.le_of_ble_eq_true rfl⟩ ⟨Nat.le_refl _, Nat.le_refl _⟩ (rX7 hK hP) hP (fun _ h => h) hS rfl hl.1 rfl (Nat.le_of_ble_eq_true rfl) dX7_lay_32 (fun M_9 H locs hF_8 hP hS => ?_)
    obtain ⟨hF_8, hti_10⟩ := hF_8
    have he := bnd_at he hF_8.symm
    have hTM_9 : TI M M_9 := TI_tr hTM_6 hti_10
    have qb_M_9 := hTM_9.1.1
    have qs_M_9 := hTM_9.1.2.1
    have qz_M_9 := hTM_9.1.2.2.1
    exact hret _ _ _ _ _ ⟨(hV.trans he.symm), hTM_9⟩ hP hS dX7_lay_35
  refine lv_if_eq (tgt := 20) hx hb dX7_lay_13 (by decide) (fun hc_2 => ?_) (fun hc_2 => ?_)
  · have hr_3 := ite_t hr_3 hc_2
    refine lv_iconst (v := (-1)) hx hb dX7_lay_20 (by decide) ?_
    cases hr_3
    exact j21 _ _ _ hP hS (lv_sub hl [0, 1, 4] rfl)
  · have hr_3 := ite_f hr_3 hc_2
    refine lv_iconst (v := 1) hx hb dX7_lay_16 (by decide) ?_
    refine lv_goto (tgt := 21) hx hb dX7_lay_17 (by decide) ?_
    cases hr_3
    exact j21 _ _ _ hP hS (lv_sub hl [0, 1, 4] rfl)
def rm_X7_secondsBy : Room := { frames := 5, cells := 0, slots := 0, locals := 108 }
theorem gm_X7_secondsBy : Cond.instanceMethod yX7_secondsBy ∈ wsL_law ∧ Cond.selects RX7 yX7_secondsBy yX7_secondsBy ∈ wsL_law ∧ Cond.initialized RX7 ∈ wsL_law ∧ Cond.code yX7_secondsBy cX7_secondsBy 4 (some .int) ∈ wsL_law := ⟨gw_30_13, gw_30_14, gw_1_5, gw_30_15⟩
theorem gd_X7_secondsBy : yX7_secondsBy.cls = RX7 ∧ yX7_secondsBy.cls ≠ "java/lang/invoke/MethodHandle" ∧ yX7_secondsBy.cls ≠ "java/lang/invoke/VarHandle" ∧ (parseMethodDescriptor yX7_secondsBy.desc).map (fun d => d.parameters.length) = some 3 := by decide +kernel
set_option maxRecDepth 100000 in
set_option maxHeartbeats 0 in
theorem c_X7_secondsBy {l : Launch} {D : va_G} {k : Nat → ClassId} {ad : Nat → Nat} (had : InjN 31 ad) (M : Mem) (a1 : Int32) (a2 : Int32) (ha2 : a2 = 0 ∨ a2 = 1) (a3 : Int32) (hI : MI M) : Met l yX7_secondsBy (Cond.code yX7_secondsBy cX7_secondsBy 4 (some .int) :: wsL_law) rm_X7_secondsBy (va_Pc [.ref (ad 0), .int a1, .int a2, .int a3] (GW 31 ad D k (cM ad k M))) (va_Qi (fun r u => (f_X7_secondsBy M a1 a2 a3 = (r, u) ∧ TI M u)) (fun u t => GW 31 ad D k (cM ad k u) t) (AW 31 ad)) 0 0 (AW 31 ad) := by
  refine met_i (g := cM ad k) (M := M) (plainFor_of_name (by decide)) (Nat.le_of_ble_eq_true rfl) ?_
  intro p e s m args below meth c Q ls hx hb hml hG hown hK hret hP hS hl
  have hl : lv_has ls 4 [(0, .ref (ad 0)), (1, .int a1), (2, .int a2), (3, .int a3)] := hl
  obtain ⟨V, hV⟩ : ∃ V, f_X7_secondsBy M a1 a2 a3 = V := ⟨_, rfl⟩
  have he := hV
  unfold f_X7_secondsBy at he
  have hT0 : TI M M := TI_rf hI
  have qb_M := hI.1
  have qs_M := hI.2.1
  have qz_M := hI.2.2.1
  refine lv_aload_n hx hb dX7_secondsBy_0 rfl (lv_at hl 0 rfl) ?_
  refine lv_iconst (v := 1) hx hb dX7_secondsBy_1 (by decide) ?_
  refine pX7_8 hx hb hG hown hK hP had AW_in hS gw_7_15 dX7_secondsBy_2 (fun H locs hP hS => ?_)
  obtain ⟨M_1, eM_1⟩ : ∃ y : Mem, y = up2 M 0 8 1 := ⟨_, rfl⟩
  rw [← eM_1] at hP
  have he := bnd_at he eM_1
  have hTM_1 : TI M M_1 := by rw [eM_1]; exact TI_boats hT0 (by decide)
  have qb_M_1 := hTM_1.1.1
  have qs_M_1 := hTM_1.1.2.1
  have qz_M_1 := hTM_1.1.2.2.1
  refine lv_aload_n hx hb dX7_secondsBy_5 rfl (lv_at hl 0 rfl) ?_
  refine lv_iconst (v := 0) hx hb dX7_secondsBy_6 (by decide) ?_
  refine pX7_7 hx hb hG hown hK hP had AW_in hS gw_15_12 dX7_secondsBy_7 (fun H locs hP hS => ?_)
  obtain ⟨M_2, eM_2⟩ : ∃ y : Mem, y = up2 M_1 0 7 0 := ⟨_, rfl⟩
  rw [← eM_2] at hP
  have he := bnd_at he eM_2
  have hTM_2 : TI M M_2 := by rw [eM_2]; exact TI_second hTM_1 (by decide)
  have qb_M_2 := hTM_2.1.1
  have qs_M_2 := hTM_2.1.2.1
  have qz_M_2 := hTM_2.1.2.2.1
  refine lv_aload_n hx hb dX7_secondsBy_10 rfl (lv_at hl 0 rfl) ?_
  refine lv_bipush (v := 8) hx hb dX7_secondsBy_11 (by decide) ?_
  refine pX7_40 hx hb hG hown hK hP had AW_in hS gw_30_16 dX7_secondsBy_13 (fun H locs hP hS => ?_)
  obtain ⟨M_3, eM_3⟩ : ∃ y : Mem, y = up2 M_2 0 40 8 := ⟨_, rfl⟩
  rw [← eM_3] at hP
  have he := bnd_at he eM_3
  have hTM_3 : TI M M_3 := by rw [eM_3]; exact TI_f hTM_2 (by decide)
  have qb_M_3 := hTM_3.1.1
  have qs_M_3 := hTM_3.1.2.1
  have qz_M_3 := hTM_3.1.2.2.1
  refine lv_aload_n hx hb dX7_secondsBy_16 rfl (lv_at hl 0 rfl) ?_
  refine lv_iconst (v := 0) hx hb dX7_secondsBy_17 (by decide) ?_
  refine lv_iload_n hx hb dX7_secondsBy_18 rfl (lv_at hl 1 rfl) ?_
  refine lv_iload_n hx hb dX7_secondsBy_19 rfl (lv_at hl 2 rfl) ?_
  refine lv_iload_n hx hb dX7_secondsBy_20 rfl (lv_at hl 3 rfl) ?_
  refine call_v [.int 0, .int a1, .int a2, .int a3] [] hx hb hml hG hown hK (c_X7_lay had M_3 0 a1 a2 ha2 a3 hTM_3.1 (by have ll0 : (0 : Int32).toInt = 0 := rfl; omega)) gw_30_17 gm_X7_lay gd_X7_lay rfl rfl ⟨Nat.le_of_ble_eq_true rfl, Nat.le_of_ble_eq_true rfl⟩ ⟨Nat.le_refl _, Nat.le_refl _⟩ (rX7 hK hP) hP (fun _ h => h) hS rfl hl.1 rfl (Nat.le_of_ble_eq_true rfl) dX7_secondsBy_21 (fun M_6 H locs hF_5 hP hS => ?_)
  obtain ⟨hF_5, hti_7⟩ := hF_5
  have he := bnd_at he hF_5.symm
  have hTM_6 : TI M M_6 := TI_tr hTM_3 hti_7
  have qb_M_6 := hTM_6.1.1
  have qs_M_6 := hTM_6.1.2.1
  have qz_M_6 := hTM_6.1.2.2.1
  obtain ⟨M_19, hr_9, he⟩ := bnd_ex he
  have j38 : ∀ (H : Heap) (locs : List Loc) (ls : Array Slot), TI M M_19 → va_P D vwCl (wld 31 ad (cM ad k M_19)) H → va_S (AW 31 ad) s.heap H locs → lv_has ls 4 [(0, .ref (ad 0))] → W p l e rm_X7_secondsBy s m args below meth c H locs 0 0 Q (F0 m 38 ls []) := by
    intro H locs ls hTM_19 hP hS hl
    have qb_M_19 := hTM_19.1.1
    have qs_M_19 := hTM_19.1.2.1
    have qz_M_19 := hTM_19.1.2.2.1
    refine lv_aload_n hx hb dX7_secondsBy_38 rfl (lv_at hl 0 rfl) ?_
    refine lv_iconst (v := 0) hx hb dX7_secondsBy_39 (by decide) ?_
    refine call_i [.int 0] [] hx hb hml hG hown hK (c_X7_isIn had M_19 0 hTM_19.1 (by have ll0 : (0 : Int32).toInt = 0 := rfl; omega)) gw_18_0 gm_X7_isIn gd_X7_isIn rfl rfl ⟨Nat.le_of_ble_eq_true rfl, Nat.le_of_ble_eq_true rfl⟩ ⟨Nat.le_refl _, Nat.le_refl _⟩ (rX7 hK hP) hP (fun _ h => h) hS rfl hl.1 rfl (Nat.le_of_ble_eq_true rfl) dX7_secondsBy_40 (fun r_20 u_22 H locs hF_21 hP hS => ?_)
    obtain ⟨hz_23, hF_21, hu⟩ := hF_21; rw [hu] at hP; subst hF_21
    obtain ⟨t_26, hr_25, he⟩ := bnd_ex he
    have j58 : ∀ (H : Heap) (locs : List Loc) (ls : Array Slot), va_P D vwCl (wld 31 ad (cM ad k M_19)) H → va_S (AW 31 ad) s.heap H locs → lv_has ls 4 [] → W p l e rm_X7_secondsBy s m args below meth c H locs 0 0 Q (F0 m 58 ls [.int t_26]) := by
      intro H locs ls hP hS hl
      exact hret _ _ _ _ _ _ ⟨(hV.trans he.symm), hTM_19⟩ hP hS dX7_secondsBy_58
    refine lv_if_eq (tgt := 55) hx hb dX7_secondsBy_43 (by decide) (fun hc_24 => ?_) (fun hc_24 => ?_)
    · have hr_25 := ite_t hr_25 hc_24
      refine lv_sipush (v := 400) hx hb dX7_secondsBy_55 (by decide) ?_
      cases hr_25
      exact j58 _ _ _ hP hS (lv_sub hl [] rfl)
    · have hr_25 := ite_f hr_25 hc_24
      refine lv_aload_n hx hb dX7_secondsBy_46 rfl (lv_at hl 0 rfl) ?_
      refine gX7_17 hx hb hG hown hK hP gw_4_22 dX7_secondsBy_47 ?_
      refine lv_iconst (v := 0) hx hb dX7_secondsBy_50 (by decide) ?_
      refine al_M10 hx hb hK hP (vin_I (by decide) (by decide)) dX7_secondsBy_51 ?_
      refine lv_goto (tgt := 58) hx hb dX7_secondsBy_52 (by decide) ?_
      cases hr_25
      exact j58 _ _ _ hP hS (lv_sub hl [] rfl)
  have lp24 : ∀ (nn : Nat) (H : Heap) (locs : List Loc) (ls : Array Slot) (M_8 : Mem), (TI M M_8) → (400 - (M_8 0 7).toInt).toNat < nn → lp_X7_secondsBy_24 nn M_8 = M_19 → va_P D vwCl (wld 31 ad (cM ad k M_8)) H → va_S (AW 31 ad) s.heap H locs → lv_has ls 4 [(0, .ref (ad 0))] → W p l e rm_X7_secondsBy s m args below meth c H locs 0 0 Q (F0 m 24 ls []) := by
    intro nn
    induction nn with
    | zero =>
      intro H locs ls M_8 hTM_8 hμ
      exact absurd hμ (Nat.not_lt_zero _)
    | succ nn ih =>
      intro H locs ls M_8 hTM_8 hμ hr_9 hP hS hl
      rw [lp_X7_secondsBy_24] at hr_9
      have qb_M_8 := hTM_8.1.1
      have qs_M_8 := hTM_8.1.2.1
      have qz_M_8 := hTM_8.1.2.2.1
      refine lv_aload_n hx hb dX7_secondsBy_24 rfl (lv_at hl 0 rfl) ?_
      refine call_i [] [] hx hb hml hG hown hK (c_X7_isEnded had M_8 hTM_8.1) gw_22_5 gm_X7_isEnded gd_X7_isEnded rfl rfl ⟨Nat.le_of_ble_eq_true rfl, Nat.le_of_ble_eq_true rfl⟩ ⟨Nat.le_refl _, Nat.le_refl _⟩ (rX7 hK hP) hP (fun _ h => h) hS rfl hl.1 rfl (Nat.le_of_ble_eq_true rfl) dX7_secondsBy_25 (fun r_10 u_12 H locs hF_11 hP hS => ?_)
      obtain ⟨hz_13, hF_11, hu⟩ := hF_11; rw [hu] at hP; subst hF_11
      refine lv_if_ne (tgt := 38) hx hb dX7_secondsBy_28 (by decide) (fun hc_14 => ?_) (fun hc_14 => ?_)
      · have hr_9 := ite_t hr_9 hc_14
        cases hr_9
        exact j38 _ _ _ hTM_8 hP hS (lv_sub hl [0] rfl)
      · have hr_9 := ite_f hr_9 (fun q => q hc_14)
        refine lv_aload_n hx hb dX7_secondsBy_31 rfl (lv_at hl 0 rfl) ?_
        refine call_v [] [] hx hb hml hG hown hK (c_X7_bitsOn had M_8 hTM_8.1 (by have q0 : (f_X7_isEnded M_8).toInt = 0 := congrArg Int32.toInt hc_14; have r1 : (M_8 0 7).toInt < 400 := isEnded_lt hc_14; omega)) gw_30_21 gm_X7_bitsOn gd_X7_bitsOn rfl rfl ⟨Nat.le_of_ble_eq_true rfl, Nat.le_of_ble_eq_true rfl⟩ ⟨Nat.le_refl _, Nat.le_refl _⟩ (rX7 hK hP) hP (fun _ h => h) hS rfl hl.1 rfl (Nat.le_of_ble_eq_true rfl) dX7_secondsBy_32 (fun M_17 H locs hF_16 hP hS => ?_)
        obtain ⟨hF_16, hti_18⟩ := hF_16
        have hr_9 := bnd_at hr_9 hF_16.symm
        have hTM_17 : TI M M_17 := TI_tr hTM_8 hti_18
        have qb_M_17 := hTM_17.1.1
        have qs_M_17 := hTM_17.1.2.1
        have qz_M_17 := hTM_17.1.2.2.1
        refine lv_goto (tgt := 24) hx hb dX7_secondsBy_35 (by decide) ?_
        exact ih _ _ _ _ hTM_17 (by have qe := isEnded_lt hc_14; have qn := bitsOn_sec hF_16; rw [qn, inc_I (N := 400) qe (by decide)]; omega) hr_9 hP hS (lv_sub hl [0] rfl)
  exact lp24 _ _ _ _ _ hTM_6 (by omega) hr_9 hP hS (lv_sub hl [0] rfl)
def rm_X7_tacks : Room := { frames := 6, cells := 0, slots := 0, locals := 131 }
theorem gm_X7_tacks : Cond.instanceMethod yX7_tacks ∈ wsL_law ∧ Cond.selects RX7 yX7_tacks yX7_tacks ∈ wsL_law ∧ Cond.initialized RX7 ∈ wsL_law ∧ Cond.code yX7_tacks cX7_tacks 5 (some .int) ∈ wsL_law := ⟨gw_30_8, gw_30_9, gw_1_5, gw_30_10⟩
theorem gd_X7_tacks : yX7_tacks.cls = RX7 ∧ yX7_tacks.cls ≠ "java/lang/invoke/MethodHandle" ∧ yX7_tacks.cls ≠ "java/lang/invoke/VarHandle" ∧ (parseMethodDescriptor yX7_tacks.desc).map (fun d => d.parameters.length) = some 3 := by decide +kernel
set_option maxRecDepth 100000 in
set_option maxHeartbeats 0 in
theorem c_X7_tacks {l : Launch} {D : va_G} {k : Nat → ClassId} {ad : Nat → Nat} (had : InjN 31 ad) (M : Mem) (a1 : Int32) (a2 : Int32) (ha2 : a2 = 0 ∨ a2 = 1) (a3 : Int32) (hI : MI M) : Met l yX7_tacks (Cond.code yX7_tacks cX7_tacks 5 (some .int) :: wsL_law) rm_X7_tacks (va_Pc [.ref (ad 0), .int a1, .int a2, .int a3] (GW 31 ad D k (cM ad k M))) (va_Qi (fun r u => (f_X7_tacks M a1 a2 a3 = (r, u) ∧ TI M u)) (fun u t => GW 31 ad D k (cM ad k u) t) (AW 31 ad)) 0 0 (AW 31 ad) := by
  refine met_i (g := cM ad k) (M := M) (plainFor_of_name (by decide)) (Nat.le_of_ble_eq_true rfl) ?_
  intro p e s m args below meth c Q ls hx hb hml hG hown hK hret hP hS hl
  have hl : lv_has ls 5 [(0, .ref (ad 0)), (1, .int a1), (2, .int a2), (3, .int a3)] := hl
  obtain ⟨V, hV⟩ : ∃ V, f_X7_tacks M a1 a2 a3 = V := ⟨_, rfl⟩
  have he := hV
  unfold f_X7_tacks at he
  have hT0 : TI M M := TI_rf hI
  have qb_M := hI.1
  have qs_M := hI.2.1
  have qz_M := hI.2.2.1
  refine lv_aload_n hx hb dX7_tacks_0 rfl (lv_at hl 0 rfl) ?_
  refine lv_iconst (v := 0) hx hb dX7_tacks_1 (by decide) ?_
  refine pX7_19 hx hb hG hown hK hP had AW_in hS gw_5_19 dX7_tacks_2 (fun H locs hP hS => ?_)
  obtain ⟨M_1, eM_1⟩ : ∃ y : Mem, y = up2 M 0 19 0 := ⟨_, rfl⟩
  rw [← eM_1] at hP
  have he := bnd_at he eM_1
  have hTM_1 : TI M M_1 := by rw [eM_1]; exact TI_f hT0 (by decide)
  have qb_M_1 := hTM_1.1.1
  have qs_M_1 := hTM_1.1.2.1
  have qz_M_1 := hTM_1.1.2.2.1
  refine lv_iload_n hx hb dX7_tacks_5 rfl (lv_at hl 1 rfl) ?_
  refine callS_i [.int a1] [] hx hb hml hG hown hK (c_X7_isPlace had (M := M_1)  a1) gw_15_13 gm_X7_isPlace gd_X7_isPlace rfl rfl ⟨Nat.le_of_ble_eq_true rfl, Nat.le_of_ble_eq_true rfl⟩ ⟨Nat.le_refl _, Nat.le_refl _⟩ hP (fun _ h => h) hS rfl hl.1 rfl (Nat.le_of_ble_eq_true rfl) dX7_tacks_6 (fun r_2 u_4 H locs hF_3 hP hS => ?_)
  obtain ⟨hz_5, hF_3, hu⟩ := hF_3; rw [hu] at hP; subst hF_3
  refine lv_if_eq (tgt := 24) hx hb dX7_tacks_9 (by decide) (fun hc_6 => ?_) (fun hc_6 => ?_)
  · have he := ite_t he hc_6
    refine lv_iconst (v := (-1)) hx hb dX7_tacks_24 (by decide) ?_
    exact hret _ _ _ _ _ _ ⟨(hV.trans he.symm), hTM_1⟩ hP hS dX7_tacks_25
  · have he := ite_f he hc_6
    refine lv_iload_n hx hb dX7_tacks_12 rfl (lv_at hl 3 rfl) ?_
    refine lv_i2l (v := a3.toInt64) hx hb dX7_tacks_13 rfl ?_
    refine lv_lconst (v := 0) hx hb dX7_tacks_14 (by decide) ?_
    refine lv_ldc2 (v := 255) hx hb hown (hG _ gw_30_11) dX7_tacks_15 ?_
    refine callS_i [.long a3.toInt64, .long 0, .long 255] [] hx hb hml hG hown hK (c_X7_in had (M := M_1)  a3.toInt64 0 255) gw_7_2 gm_X7_in gd_X7_in rfl rfl ⟨Nat.le_of_ble_eq_true rfl, Nat.le_of_ble_eq_true rfl⟩ ⟨Nat.le_refl _, Nat.le_refl _⟩ hP (fun _ h => h) hS rfl hl.1 rfl (Nat.le_of_ble_eq_true rfl) dX7_tacks_18 (fun r_7 u_9 H locs hF_8 hP hS => ?_)
    obtain ⟨hz_10, hF_8, hu⟩ := hF_8; rw [hu] at hP; subst hF_8
    refine lv_if_ne (tgt := 26) hx hb dX7_tacks_21 (by decide) (fun hc_11 => ?_) (fun hc_11 => ?_)
    · have he := ite_t he hc_11
      refine lv_aload_n hx hb dX7_tacks_26 rfl (lv_at hl 0 rfl) ?_
      refine call_v [] [] hx hb hml hG hown hK (c_X7_open had M_1 hTM_1.1) gw_28_16 gm_X7_open gd_X7_open rfl rfl ⟨Nat.le_of_ble_eq_true rfl, Nat.le_of_ble_eq_true rfl⟩ ⟨Nat.le_refl _, Nat.le_refl _⟩ (rX7 hK hP) hP (fun _ h => h) hS rfl hl.1 rfl (Nat.le_of_ble_eq_true rfl) dX7_tacks_27 (fun M_14 H locs hF_13 hP hS => ?_)
      obtain ⟨hF_13, hti_15⟩ := hF_13
      have he := bnd_at he hF_13.symm
      have hNM_14 := hti_15.2
      have hTM_14 : TI M M_14 := TI_tr hTM_1 hti_15.1
      have qb_M_14 := hTM_14.1.1
      have qs_M_14 := hTM_14.1.2.1
      have qz_M_14 := hTM_14.1.2.2.1
      refine lv_aload_n hx hb dX7_tacks_30 rfl (lv_at hl 0 rfl) ?_
      refine call_v [] [] hx hb hml hG hown hK (c_X7_layWinds had M_14 hTM_14.1) gw_22_9 gm_X7_layWinds gd_X7_layWinds rfl rfl ⟨Nat.le_of_ble_eq_true rfl, Nat.le_of_ble_eq_true rfl⟩ ⟨Nat.le_refl _, Nat.le_refl _⟩ (rX7 hK hP) hP (fun _ h => h) hS rfl hl.1 rfl (Nat.le_of_ble_eq_true rfl) dX7_tacks_31 (fun M_18 H locs hF_17 hP hS => ?_)
      obtain ⟨hF_17, hti_19⟩ := hF_17
      have he := bnd_at he hF_17.symm
      have hNM_18 : SN (M_18 20) := hti_19.2 hNM_14
      have hTM_18 : TI M M_18 := TI_tr hTM_14 hti_19
      have qb_M_18 := hTM_18.1.1
      have qs_M_18 := hTM_18.1.2.1
      have qz_M_18 := hTM_18.1.2.2.1
      refine lv_aload_n hx hb dX7_tacks_34 rfl (lv_at hl 0 rfl) ?_
      refine lv_iload_n hx hb dX7_tacks_35 rfl (lv_at hl 1 rfl) ?_
      refine lv_iload_n hx hb dX7_tacks_36 rfl (lv_at hl 2 rfl) ?_
      refine lv_iload_n hx hb dX7_tacks_37 rfl (lv_at hl 3 rfl) ?_
      refine call_i [.int a1, .int a2, .int a3] [] hx hb hml hG hown hK (c_X7_secondsBy had M_18 a1 a2 ha2 a3 hTM_18.1) gw_30_12 gm_X7_secondsBy gd_X7_secondsBy rfl rfl ⟨Nat.le_of_ble_eq_true rfl, Nat.le_of_ble_eq_true rfl⟩ ⟨Nat.le_refl _, Nat.le_refl _⟩ (rX7 hK hP) hP (fun _ h => h) hS rfl hl.1 rfl (Nat.le_of_ble_eq_true rfl) dX7_tacks_38 (fun r_20 M_22 H locs hF_21 hP hS => ?_)
      obtain ⟨hF_21, hti_23⟩ := hF_21
      have he := bnd2_at he hF_21
      have hNM_22 : SN (M_22 20) := hti_23.2 hNM_18
      have hTM_22 : TI M M_22 := TI_tr hTM_18 hti_23
      have qb_M_22 := hTM_22.1.1
      have qs_M_22 := hTM_22.1.2.1
      have qz_M_22 := hTM_22.1.2.2.1
      refine lv_istore (lv' := [(4, .int r_20), (0, .ref (ad 0)), (1, .int a1), (2, .int a2), (3, .int a3)]) hx hb dX7_tacks_41 hl (by decide) rfl (fun ls hl => ?_)
      refine lv_aload_n hx hb dX7_tacks_43 rfl (lv_at hl 1 rfl) ?_
      refine call_v [] [] hx hb hml hG hown hK (c_X7_close had M_22 hTM_22.1 hNM_22) gw_29_15 gm_X7_close gd_X7_close rfl rfl ⟨Nat.le_of_ble_eq_true rfl, Nat.le_of_ble_eq_true rfl⟩ ⟨Nat.le_refl _, Nat.le_refl _⟩ (rX7 hK hP) hP (fun _ h => h) hS rfl hl.1 rfl (Nat.le_of_ble_eq_true rfl) dX7_tacks_44 (fun M_26 H locs hF_25 hP hS => ?_)
      obtain ⟨hF_25, hti_27⟩ := hF_25
      have he := bnd_at he hF_25.symm
      have hNM_26 : SN (M_26 20) := hti_27.2 hNM_22
      have hTM_26 : TI M M_26 := TI_tr hTM_22 hti_27
      have qb_M_26 := hTM_26.1.1
      have qs_M_26 := hTM_26.1.2.1
      have qz_M_26 := hTM_26.1.2.2.1
      refine lv_iload hx hb dX7_tacks_47 (lv_at hl 0 rfl) ?_
      exact hret _ _ _ _ _ _ ⟨(hV.trans he.symm), hTM_26⟩ hP hS dX7_tacks_49
    · have he := ite_f he (fun q => q hc_11)
      refine lv_iconst (v := (-1)) hx hb dX7_tacks_24 (by decide) ?_
      exact hret _ _ _ _ _ _ ⟨(hV.trans he.symm), hTM_1⟩ hP hS dX7_tacks_25
def rm_X7_bestSeconds : Room := { frames := 6, cells := 0, slots := 0, locals := 131 }
theorem gm_X7_bestSeconds : Cond.instanceMethod yX7_bestSeconds ∈ wsL_law ∧ Cond.selects RX7 yX7_bestSeconds yX7_bestSeconds ∈ wsL_law ∧ Cond.initialized RX7 ∈ wsL_law ∧ Cond.code yX7_bestSeconds cX7_bestSeconds 6 (some .int) ∈ wsL_law := ⟨gw_31_20, gw_31_21, gw_1_5, gw_31_22⟩
theorem gd_X7_bestSeconds : yX7_bestSeconds.cls = RX7 ∧ yX7_bestSeconds.cls ≠ "java/lang/invoke/MethodHandle" ∧ yX7_bestSeconds.cls ≠ "java/lang/invoke/VarHandle" ∧ (parseMethodDescriptor yX7_bestSeconds.desc).map (fun d => d.parameters.length) = some 2 := by decide +kernel
set_option maxRecDepth 100000 in
set_option maxHeartbeats 0 in
theorem c_X7_bestSeconds {l : Launch} {D : va_G} {k : Nat → ClassId} {ad : Nat → Nat} (had : InjN 31 ad) (M : Mem) (a1 : Int32) (a2 : Int32) (ha2 : a2 = 0 ∨ a2 = 1) (hI : MI M) : Met l yX7_bestSeconds (Cond.code yX7_bestSeconds cX7_bestSeconds 6 (some .int) :: wsL_law) rm_X7_bestSeconds (va_Pc [.ref (ad 0), .int a1, .int a2] (GW 31 ad D k (cM ad k M))) (va_Qi (fun r u => (f_X7_bestSeconds M a1 a2 = (r, u) ∧ TI M u)) (fun u t => GW 31 ad D k (cM ad k u) t) (AW 31 ad)) 0 0 (AW 31 ad) := by
  refine met_i (g := cM ad k) (M := M) (plainFor_of_name (by decide)) (Nat.le_of_ble_eq_true rfl) ?_
  intro p e s m args below meth c Q ls hx hb hml hG hown hK hret hP hS hl
  have hl : lv_has ls 6 [(0, .ref (ad 0)), (1, .int a1), (2, .int a2)] := hl
  obtain ⟨V, hV⟩ : ∃ V, f_X7_bestSeconds M a1 a2 = V := ⟨_, rfl⟩
  have he := hV
  unfold f_X7_bestSeconds at he
  have hT0 : TI M M := TI_rf hI
  have qb_M := hI.1
  have qs_M := hI.2.1
  have qz_M := hI.2.2.1
  refine lv_sipush (v := 999) hx hb dX7_bestSeconds_0 (by decide) ?_
  refine lv_istore_n (lv' := [(3, .int 999), (0, .ref (ad 0)), (1, .int a1), (2, .int a2)]) hx hb dX7_bestSeconds_3 rfl hl (by decide) rfl (fun ls hl => ?_)
  refine lv_iconst (v := 0) hx hb dX7_bestSeconds_4 (by decide) ?_
  refine lv_istore (lv' := [(4, .int 0), (3, .int 999), (0, .ref (ad 0)), (1, .int a1), (2, .int a2)]) hx hb dX7_bestSeconds_5 hl (by decide) rfl (fun ls hl => ?_)
  obtain ⟨w_35, M_36, hr_21, he⟩ := bnd2_ex he
  have j63 : ∀ (H : Heap) (locs : List Loc) (ls : Array Slot), TI M M_36 → va_P D vwCl (wld 31 ad (cM ad k M_36)) H → va_S (AW 31 ad) s.heap H locs → lv_has ls 6 [(3, .int w_35)] → W p l e rm_X7_bestSeconds s m args below meth c H locs 0 0 Q (F0 m 63 ls []) := by
    intro H locs ls hTM_36 hP hS hl
    have qb_M_36 := hTM_36.1.1
    have qs_M_36 := hTM_36.1.2.1
    have qz_M_36 := hTM_36.1.2.2.1
    refine lv_iload_n hx hb dX7_bestSeconds_63 rfl (lv_at hl 0 rfl) ?_
    exact hret _ _ _ _ _ _ ⟨(hV.trans he.symm), hTM_36⟩ hP hS dX7_bestSeconds_64
  have lp7 : ∀ (nn : Nat) (H : Heap) (locs : List Loc) (ls : Array Slot) (M_20 : Mem) (v_18 : Int32) (v_19 : Int32), (0 ≤ v_19.toInt) → (TI M M_20) → (256 - v_19.toInt).toNat < nn → lp_X7_bestSeconds_7 nn a1 a2 M_20 v_18 v_19 = (w_35, M_36) → va_P D vwCl (wld 31 ad (cM ad k M_20)) H → va_S (AW 31 ad) s.heap H locs → lv_has ls 6 [(0, .ref (ad 0)), (1, .int a1), (2, .int a2), (3, .int v_18), (4, .int v_19)] → W p l e rm_X7_bestSeconds s m args below meth c H locs 0 0 Q (F0 m 7 ls []) := by
    intro nn
    induction nn with
    | zero =>
      intro H locs ls M_20 v_18 v_19 h0v_19 hTM_20 hμ
      exact absurd hμ (Nat.not_lt_zero _)
    | succ nn ih =>
      intro H locs ls M_20 v_18 v_19 h0v_19 hTM_20 hμ hr_21 hP hS hl
      rw [lp_X7_bestSeconds_7] at hr_21
      have qb_M_20 := hTM_20.1.1
      have qs_M_20 := hTM_20.1.2.1
      have qz_M_20 := hTM_20.1.2.2.1
      refine lv_iload hx hb dX7_bestSeconds_7 (lv_at hl 4 rfl) ?_
      refine lv_sipush (v := 256) hx hb dX7_bestSeconds_9 (by decide) ?_
      refine lv_icmp_ge (tgt := 63) hx hb dX7_bestSeconds_12 (by decide) (fun hc_22 => ?_) (fun hc_22 => ?_)
      · have hr_21 := ite_t hr_21 hc_22
        cases hr_21
        exact j63 _ _ _ hTM_20 hP hS (lv_sub hl [3] rfl)
      · have hr_21 := ite_f hr_21 hc_22
        refine lv_aload_n hx hb dX7_bestSeconds_15 rfl (lv_at hl 0 rfl) ?_
        refine lv_iload_n hx hb dX7_bestSeconds_16 rfl (lv_at hl 1 rfl) ?_
        refine lv_iload_n hx hb dX7_bestSeconds_17 rfl (lv_at hl 2 rfl) ?_
        refine lv_iload hx hb dX7_bestSeconds_18 (lv_at hl 4 rfl) ?_
        refine call_i [.int a1, .int a2, .int v_19] [] hx hb hml hG hown hK (c_X7_secondsBy had M_20 a1 a2 ha2 v_19 hTM_20.1) gw_30_12 gm_X7_secondsBy gd_X7_secondsBy rfl rfl ⟨Nat.le_of_ble_eq_true rfl, Nat.le_of_ble_eq_true rfl⟩ ⟨Nat.le_refl _, Nat.le_refl _⟩ (rX7 hK hP) hP (fun _ h => h) hS rfl hl.1 rfl (Nat.le_of_ble_eq_true rfl) dX7_bestSeconds_20 (fun r_23 M_25 H locs hF_24 hP hS => ?_)
        obtain ⟨hF_24, hti_26⟩ := hF_24
        have hr_21 := bnd2_at hr_21 hF_24
        have hTM_25 : TI M M_25 := TI_tr hTM_20 hti_26
        have qb_M_25 := hTM_25.1.1
        have qs_M_25 := hTM_25.1.2.1
        have qz_M_25 := hTM_25.1.2.2.1
        refine lv_istore (lv' := [(5, .int r_23), (0, .ref (ad 0)), (1, .int a1), (2, .int a2), (3, .int v_18), (4, .int v_19)]) hx hb dX7_bestSeconds_23 hl (by decide) rfl (fun ls hl => ?_)
        refine lv_aload_n hx hb dX7_bestSeconds_25 rfl (lv_at hl 1 rfl) ?_
        refine lv_iload hx hb dX7_bestSeconds_26 (lv_at hl 0 rfl) ?_
        refine lv_iload_n hx hb dX7_bestSeconds_28 rfl (lv_at hl 4 rfl) ?_
        obtain ⟨t_29, hr_28, hr_21⟩ := bnd_ex hr_21
        have j41 : ∀ (H : Heap) (locs : List Loc) (ls : Array Slot), va_P D vwCl (wld 31 ad (cM ad k M_25)) H → va_S (AW 31 ad) s.heap H locs → lv_has ls 6 [(0, .ref (ad 0)), (1, .int a1), (2, .int a2), (3, .int v_18), (4, .int v_19), (5, .int r_23)] → W p l e rm_X7_bestSeconds s m args below meth c H locs 0 0 Q (F0 m 41 ls [.int t_29, .ref (ad 0)]) := by
          intro H locs ls hP hS hl
          refine pX7_41 hx hb hG hown hK hP had AW_in hS gw_31_18 dX7_bestSeconds_41 (fun H locs hP hS => ?_)
          obtain ⟨M_30, eM_30⟩ : ∃ y : Mem, y = up2 M_25 0 41 t_29 := ⟨_, rfl⟩
          rw [← eM_30] at hP
          have hr_21 := bnd_at hr_21 eM_30
          have hTM_30 : TI M M_30 := by rw [eM_30]; exact TI_f hTM_25 (by decide)
          have qb_M_30 := hTM_30.1.1
          have qs_M_30 := hTM_30.1.2.1
          have qz_M_30 := hTM_30.1.2.2.1
          refine lv_iload hx hb dX7_bestSeconds_44 (lv_at hl 5 rfl) ?_
          refine lv_iload_n hx hb dX7_bestSeconds_46 rfl (lv_at hl 3 rfl) ?_
          obtain ⟨t_33, hr_32, hr_21⟩ := bnd_ex hr_21
          have j56 : ∀ (H : Heap) (locs : List Loc) (ls : Array Slot), va_P D vwCl (wld 31 ad (cM ad k M_30)) H → va_S (AW 31 ad) s.heap H locs → lv_has ls 6 [(0, .ref (ad 0)), (1, .int a1), (2, .int a2), (4, .int v_19)] → W p l e rm_X7_bestSeconds s m args below meth c H locs 0 0 Q (F0 m 56 ls [.int t_33]) := by
            intro H locs ls hP hS hl
            refine lv_istore_n (lv' := [(3, .int t_33), (0, .ref (ad 0)), (1, .int a1), (2, .int a2), (4, .int v_19)]) hx hb dX7_bestSeconds_56 rfl hl (by decide) rfl (fun ls hl => ?_)
            obtain ⟨y_34, ey_34⟩ : ∃ y_34 : Int32, y_34 = v_19 + 1 := ⟨_, rfl⟩
            have hr_21 := bnd_at hr_21 ey_34
            refine lv_iinc (v := y_34) (lv' := [(4, .int y_34), (3, .int t_33), (0, .ref (ad 0)), (1, .int a1), (2, .int a2)]) hx hb dX7_bestSeconds_57 hl (k := 4) rfl (by rw [ey_34]; rfl) (by decide) rfl (fun ls hl => ?_)
            refine lv_goto (tgt := 7) hx hb dX7_bestSeconds_60 (by decide) ?_
            exact ih _ _ _ _ _ _ (by rw [ey_34, inc_I (N := 256) (nle_I hc_22) (by decide)]; omega) hTM_30 (by rw [ey_34]; exact mu_I hμ (nle_I hc_22) (by decide)) hr_21 hP hS (lv_sub hl [2, 3, 4, 1, 0] rfl)
          refine lv_icmp_ge (tgt := 55) hx hb dX7_bestSeconds_47 (by decide) (fun hc_31 => ?_) (fun hc_31 => ?_)
          · have hr_32 := ite_t hr_32 hc_31
            refine lv_iload_n hx hb dX7_bestSeconds_55 rfl (lv_at hl 3 rfl) ?_
            cases hr_32
            exact j56 _ _ _ hP hS (lv_sub hl [0, 1, 2, 4] rfl)
          · have hr_32 := ite_f hr_32 hc_31
            refine lv_iload hx hb dX7_bestSeconds_50 (lv_at hl 5 rfl) ?_
            refine lv_goto (tgt := 56) hx hb dX7_bestSeconds_52 (by decide) ?_
            cases hr_32
            exact j56 _ _ _ hP hS (lv_sub hl [0, 1, 2, 4] rfl)
        refine lv_icmp_ge (tgt := 37) hx hb dX7_bestSeconds_29 (by decide) (fun hc_27 => ?_) (fun hc_27 => ?_)
        · have hr_28 := ite_t hr_28 hc_27
          refine lv_aload_n hx hb dX7_bestSeconds_37 rfl (lv_at hl 1 rfl) ?_
          refine gX7_41 hx hb hG hown hK hP gw_31_18 dX7_bestSeconds_38 ?_
          cases hr_28
          exact j41 _ _ _ hP hS (lv_sub hl [1, 2, 3, 4, 5, 0] rfl)
        · have hr_28 := ite_f hr_28 hc_27
          refine lv_iload hx hb dX7_bestSeconds_32 (lv_at hl 5 rfl) ?_
          refine lv_goto (tgt := 41) hx hb dX7_bestSeconds_34 (by decide) ?_
          cases hr_28
          exact j41 _ _ _ hP hS (lv_sub hl [1, 2, 3, 4, 5, 0] rfl)
  exact lp7 _ _ _ _ _ _ _ (by decide) hT0 (by decide) hr_21 hP hS (lv_sub hl [2, 3, 4, 1, 0] rfl)
def rm_X7_best : Room := { frames := 7, cells := 0, slots := 0, locals := 156 }
theorem gm_X7_best : Cond.instanceMethod yX7_best ∈ wsL_law ∧ Cond.selects RX7 yX7_best yX7_best ∈ wsL_law ∧ Cond.initialized RX7 ∈ wsL_law ∧ Cond.code yX7_best cX7_best 5 (some .int) ∈ wsL_law := ⟨gw_31_15, gw_31_16, gw_1_5, gw_31_17⟩
theorem gd_X7_best : yX7_best.cls = RX7 ∧ yX7_best.cls ≠ "java/lang/invoke/MethodHandle" ∧ yX7_best.cls ≠ "java/lang/invoke/VarHandle" ∧ (parseMethodDescriptor yX7_best.desc).map (fun d => d.parameters.length) = some 3 := by decide +kernel
set_option maxRecDepth 100000 in
set_option maxHeartbeats 0 in
theorem c_X7_best {l : Launch} {D : va_G} {k : Nat → ClassId} {ad : Nat → Nat} (had : InjN 31 ad) (M : Mem) (a1 : Int32) (a2 : Int32) (ha2 : a2 = 0 ∨ a2 = 1) (a3 : Int32) (hI : MI M) : Met l yX7_best (Cond.code yX7_best cX7_best 5 (some .int) :: wsL_law) rm_X7_best (va_Pc [.ref (ad 0), .int a1, .int a2, .int a3] (GW 31 ad D k (cM ad k M))) (va_Qi (fun r u => (f_X7_best M a1 a2 a3 = (r, u) ∧ TI M u)) (fun u t => GW 31 ad D k (cM ad k u) t) (AW 31 ad)) 0 0 (AW 31 ad) := by
  refine met_i (g := cM ad k) (M := M) (plainFor_of_name (by decide)) (Nat.le_of_ble_eq_true rfl) ?_
  intro p e s m args below meth c Q ls hx hb hml hG hown hK hret hP hS hl
  have hl : lv_has ls 5 [(0, .ref (ad 0)), (1, .int a1), (2, .int a2), (3, .int a3)] := hl
  obtain ⟨V, hV⟩ : ∃ V, f_X7_best M a1 a2 a3 = V := ⟨_, rfl⟩
  have he := hV
  unfold f_X7_best at he
  have hT0 : TI M M := TI_rf hI
  have qb_M := hI.1
  have qs_M := hI.2.1
  have qz_M := hI.2.2.1
  refine lv_aload_n hx hb dX7_best_0 rfl (lv_at hl 0 rfl) ?_
  refine lv_iconst (v := 0) hx hb dX7_best_1 (by decide) ?_
  refine pX7_19 hx hb hG hown hK hP had AW_in hS gw_5_19 dX7_best_2 (fun H locs hP hS => ?_)
  obtain ⟨M_1, eM_1⟩ : ∃ y : Mem, y = up2 M 0 19 0 := ⟨_, rfl⟩
  rw [← eM_1] at hP
  have he := bnd_at he eM_1
  have hTM_1 : TI M M_1 := by rw [eM_1]; exact TI_f hT0 (by decide)
  have qb_M_1 := hTM_1.1.1
  have qs_M_1 := hTM_1.1.2.1
  have qz_M_1 := hTM_1.1.2.2.1
  refine lv_iload_n hx hb dX7_best_5 rfl (lv_at hl 1 rfl) ?_
  refine callS_i [.int a1] [] hx hb hml hG hown hK (c_X7_isPlace had (M := M_1)  a1) gw_15_13 gm_X7_isPlace gd_X7_isPlace rfl rfl ⟨Nat.le_of_ble_eq_true rfl, Nat.le_of_ble_eq_true rfl⟩ ⟨Nat.le_refl _, Nat.le_refl _⟩ hP (fun _ h => h) hS rfl hl.1 rfl (Nat.le_of_ble_eq_true rfl) dX7_best_6 (fun r_2 u_4 H locs hF_3 hP hS => ?_)
  obtain ⟨hz_5, hF_3, hu⟩ := hF_3; rw [hu] at hP; subst hF_3
  refine lv_if_eq (tgt := 22) hx hb dX7_best_9 (by decide) (fun hc_6 => ?_) (fun hc_6 => ?_)
  · have he := ite_t he hc_6
    refine lv_iconst (v := (-1)) hx hb dX7_best_22 (by decide) ?_
    exact hret _ _ _ _ _ _ ⟨(hV.trans he.symm), hTM_1⟩ hP hS dX7_best_23
  · have he := ite_f he hc_6
    refine lv_iload_n hx hb dX7_best_12 rfl (lv_at hl 3 rfl) ?_
    refine lv_i2l (v := a3.toInt64) hx hb dX7_best_13 rfl ?_
    refine lv_lconst (v := 0) hx hb dX7_best_14 (by decide) ?_
    refine lv_lconst (v := 1) hx hb dX7_best_15 (by decide) ?_
    refine callS_i [.long a3.toInt64, .long 0, .long 1] [] hx hb hml hG hown hK (c_X7_in had (M := M_1)  a3.toInt64 0 1) gw_7_2 gm_X7_in gd_X7_in rfl rfl ⟨Nat.le_of_ble_eq_true rfl, Nat.le_of_ble_eq_true rfl⟩ ⟨Nat.le_refl _, Nat.le_refl _⟩ hP (fun _ h => h) hS rfl hl.1 rfl (Nat.le_of_ble_eq_true rfl) dX7_best_16 (fun r_7 u_9 H locs hF_8 hP hS => ?_)
    obtain ⟨hz_10, hF_8, hu⟩ := hF_8; rw [hu] at hP; subst hF_8
    refine lv_if_ne (tgt := 24) hx hb dX7_best_19 (by decide) (fun hc_11 => ?_) (fun hc_11 => ?_)
    · have he := ite_t he hc_11
      refine lv_aload_n hx hb dX7_best_24 rfl (lv_at hl 0 rfl) ?_
      refine call_v [] [] hx hb hml hG hown hK (c_X7_open had M_1 hTM_1.1) gw_28_16 gm_X7_open gd_X7_open rfl rfl ⟨Nat.le_of_ble_eq_true rfl, Nat.le_of_ble_eq_true rfl⟩ ⟨Nat.le_refl _, Nat.le_refl _⟩ (rX7 hK hP) hP (fun _ h => h) hS rfl hl.1 rfl (Nat.le_of_ble_eq_true rfl) dX7_best_25 (fun M_14 H locs hF_13 hP hS => ?_)
      obtain ⟨hF_13, hti_15⟩ := hF_13
      have he := bnd_at he hF_13.symm
      have hNM_14 := hti_15.2
      have hTM_14 : TI M M_14 := TI_tr hTM_1 hti_15.1
      have qb_M_14 := hTM_14.1.1
      have qs_M_14 := hTM_14.1.2.1
      have qz_M_14 := hTM_14.1.2.2.1
      refine lv_aload_n hx hb dX7_best_28 rfl (lv_at hl 0 rfl) ?_
      refine call_v [] [] hx hb hml hG hown hK (c_X7_layWinds had M_14 hTM_14.1) gw_22_9 gm_X7_layWinds gd_X7_layWinds rfl rfl ⟨Nat.le_of_ble_eq_true rfl, Nat.le_of_ble_eq_true rfl⟩ ⟨Nat.le_refl _, Nat.le_refl _⟩ (rX7 hK hP) hP (fun _ h => h) hS rfl hl.1 rfl (Nat.le_of_ble_eq_true rfl) dX7_best_29 (fun M_18 H locs hF_17 hP hS => ?_)
      obtain ⟨hF_17, hti_19⟩ := hF_17
      have he := bnd_at he hF_17.symm
      have hNM_18 : SN (M_18 20) := hti_19.2 hNM_14
      have hTM_18 : TI M M_18 := TI_tr hTM_14 hti_19
      have qb_M_18 := hTM_18.1.1
      have qs_M_18 := hTM_18.1.2.1
      have qz_M_18 := hTM_18.1.2.2.1
      refine lv_aload_n hx hb dX7_best_32 rfl (lv_at hl 0 rfl) ?_
      refine lv_iload_n hx hb dX7_best_33 rfl (lv_at hl 1 rfl) ?_
      refine lv_iload_n hx hb dX7_best_34 rfl (lv_at hl 2 rfl) ?_
      refine call_i [.int a1, .int a2] [] hx hb hml hG hown hK (c_X7_bestSeconds had M_18 a1 a2 ha2 hTM_18.1) gw_31_19 gm_X7_bestSeconds gd_X7_bestSeconds rfl rfl ⟨Nat.le_of_ble_eq_true rfl, Nat.le_of_ble_eq_true rfl⟩ ⟨Nat.le_refl _, Nat.le_refl _⟩ (rX7 hK hP) hP (fun _ h => h) hS rfl hl.1 rfl (Nat.le_of_ble_eq_true rfl) dX7_best_35 (fun r_20 M_22 H locs hF_21 hP hS => ?_)
      obtain ⟨hF_21, hti_23⟩ := hF_21
      have he := bnd2_at he hF_21
      have hNM_22 : SN (M_22 20) := hti_23.2 hNM_18
      have hTM_22 : TI M M_22 := TI_tr hTM_18 hti_23
      have qb_M_22 := hTM_22.1.1
      have qs_M_22 := hTM_22.1.2.1
      have qz_M_22 := hTM_22.1.2.2.1
      refine lv_istore (lv' := [(4, .int r_20), (0, .ref (ad 0)), (1, .int a1), (2, .int a2), (3, .int a3)]) hx hb dX7_best_38 hl (by decide) rfl (fun ls hl => ?_)
      refine lv_aload_n hx hb dX7_best_40 rfl (lv_at hl 1 rfl) ?_
      refine call_v [] [] hx hb hml hG hown hK (c_X7_close had M_22 hTM_22.1 hNM_22) gw_29_15 gm_X7_close gd_X7_close rfl rfl ⟨Nat.le_of_ble_eq_true rfl, Nat.le_of_ble_eq_true rfl⟩ ⟨Nat.le_refl _, Nat.le_refl _⟩ (rX7 hK hP) hP (fun _ h => h) hS rfl hl.1 rfl (Nat.le_of_ble_eq_true rfl) dX7_best_41 (fun M_26 H locs hF_25 hP hS => ?_)
      obtain ⟨hF_25, hti_27⟩ := hF_25
      have he := bnd_at he hF_25.symm
      have hNM_26 : SN (M_26 20) := hti_27.2 hNM_22
      have hTM_26 : TI M M_26 := TI_tr hTM_22 hti_27
      have qb_M_26 := hTM_26.1.1
      have qs_M_26 := hTM_26.1.2.1
      have qz_M_26 := hTM_26.1.2.2.1
      refine lv_iload_n hx hb dX7_best_44 rfl (lv_at hl 4 rfl) ?_
      obtain ⟨t_30, hr_29, he⟩ := bnd_ex he
      have j57 : ∀ (H : Heap) (locs : List Loc) (ls : Array Slot), va_P D vwCl (wld 31 ad (cM ad k M_26)) H → va_S (AW 31 ad) s.heap H locs → lv_has ls 5 [] → W p l e rm_X7_best s m args below meth c H locs 0 0 Q (F0 m 57 ls [.int t_30]) := by
        intro H locs ls hP hS hl
        exact hret _ _ _ _ _ _ ⟨(hV.trans he.symm), hTM_26⟩ hP hS dX7_best_57
      refine lv_if_ne (tgt := 55) hx hb dX7_best_45 (by decide) (fun hc_28 => ?_) (fun hc_28 => ?_)
      · have hr_29 := ite_t hr_29 hc_28
        refine lv_iload hx hb dX7_best_55 (lv_at hl 0 rfl) ?_
        cases hr_29
        exact j57 _ _ _ hP hS (lv_sub hl [] rfl)
      · have hr_29 := ite_f hr_29 (fun q => q hc_28)
        refine lv_aload_n hx hb dX7_best_48 rfl (lv_at hl 1 rfl) ?_
        refine gX7_41 hx hb hG hown hK hP gw_31_18 dX7_best_49 ?_
        refine lv_goto (tgt := 57) hx hb dX7_best_52 (by decide) ?_
        cases hr_29
        exact j57 _ _ _ hP hS (lv_sub hl [] rfl)
    · have he := ite_f he (fun q => q hc_11)
      refine lv_iconst (v := (-1)) hx hb dX7_best_22 (by decide) ?_
      exact hret _ _ _ _ _ _ ⟨(hV.trans he.symm), hTM_1⟩ hP hS dX7_best_23
def rm_X7_bestFrom : Room := { frames := 7, cells := 0, slots := 0, locals := 156 }
theorem gm_X7_bestFrom : Cond.instanceMethod yX7_bestFrom ∈ wsL_law ∧ Cond.selects RX7 yX7_bestFrom yX7_bestFrom ∈ wsL_law ∧ Cond.initialized RX7 ∈ wsL_law ∧ Cond.code yX7_bestFrom cX7_bestFrom 4 (some .int) ∈ wsL_law := ⟨gw_32_8, gw_32_9, gw_1_5, gw_32_10⟩
theorem gd_X7_bestFrom : yX7_bestFrom.cls = RX7 ∧ yX7_bestFrom.cls ≠ "java/lang/invoke/MethodHandle" ∧ yX7_bestFrom.cls ≠ "java/lang/invoke/VarHandle" ∧ (parseMethodDescriptor yX7_bestFrom.desc).map (fun d => d.parameters.length) = some 1 := by decide +kernel
set_option maxRecDepth 100000 in
set_option maxHeartbeats 0 in
theorem c_X7_bestFrom {l : Launch} {D : va_G} {k : Nat → ClassId} {ad : Nat → Nat} (had : InjN 31 ad) (M : Mem) (a1 : Int32) (hI : MI M) : Met l yX7_bestFrom (Cond.code yX7_bestFrom cX7_bestFrom 4 (some .int) :: wsL_law) rm_X7_bestFrom (va_Pc [.ref (ad 0), .int a1] (GW 31 ad D k (cM ad k M))) (va_Qi (fun r u => (f_X7_bestFrom M a1 = (r, u) ∧ TI M u)) (fun u t => GW 31 ad D k (cM ad k u) t) (AW 31 ad)) 0 0 (AW 31 ad) := by
  refine met_i (g := cM ad k) (M := M) (plainFor_of_name (by decide)) (Nat.le_of_ble_eq_true rfl) ?_
  intro p e s m args below meth c Q ls hx hb hml hG hown hK hret hP hS hl
  have hl : lv_has ls 4 [(0, .ref (ad 0)), (1, .int a1)] := hl
  obtain ⟨V, hV⟩ : ∃ V, f_X7_bestFrom M a1 = V := ⟨_, rfl⟩
  have he := hV
  unfold f_X7_bestFrom at he
  have hT0 : TI M M := TI_rf hI
  have qb_M := hI.1
  have qs_M := hI.2.1
  have qz_M := hI.2.2.1
  refine lv_aload_n hx hb dX7_bestFrom_0 rfl (lv_at hl 0 rfl) ?_
  refine lv_iload_n hx hb dX7_bestFrom_1 rfl (lv_at hl 1 rfl) ?_
  refine lv_iconst (v := 1) hx hb dX7_bestFrom_2 (by decide) ?_
  refine call_i [.int a1, .int 1] [] hx hb hml hG hown hK (c_X7_bestSeconds had M a1 1 (Or.inr rfl) hT0.1) gw_31_19 gm_X7_bestSeconds gd_X7_bestSeconds rfl rfl ⟨Nat.le_of_ble_eq_true rfl, Nat.le_of_ble_eq_true rfl⟩ ⟨Nat.le_refl _, Nat.le_refl _⟩ (rX7 hK hP) hP (fun _ h => h) hS rfl hl.1 rfl (Nat.le_of_ble_eq_true rfl) dX7_bestFrom_3 (fun r_1 M_3 H locs hF_2 hP hS => ?_)
  obtain ⟨hF_2, hti_4⟩ := hF_2
  have he := bnd2_at he hF_2
  have hTM_3 : TI M M_3 := TI_tr hT0 hti_4
  have qb_M_3 := hTM_3.1.1
  have qs_M_3 := hTM_3.1.2.1
  have qz_M_3 := hTM_3.1.2.2.1
  refine lv_istore_n (lv' := [(2, .int r_1), (0, .ref (ad 0)), (1, .int a1)]) hx hb dX7_bestFrom_6 rfl hl (by decide) rfl (fun ls hl => ?_)
  refine lv_aload_n hx hb dX7_bestFrom_7 rfl (lv_at hl 1 rfl) ?_
  refine lv_iload_n hx hb dX7_bestFrom_8 rfl (lv_at hl 2 rfl) ?_
  refine lv_iconst (v := 0) hx hb dX7_bestFrom_9 (by decide) ?_
  refine call_i [.int a1, .int 0] [] hx hb hml hG hown hK (c_X7_bestSeconds had M_3 a1 0 (Or.inl rfl) hTM_3.1) gw_31_19 gm_X7_bestSeconds gd_X7_bestSeconds rfl rfl ⟨Nat.le_of_ble_eq_true rfl, Nat.le_of_ble_eq_true rfl⟩ ⟨Nat.le_refl _, Nat.le_refl _⟩ (rX7 hK hP) hP (fun _ h => h) hS rfl hl.1 rfl (Nat.le_of_ble_eq_true rfl) dX7_bestFrom_10 (fun r_5 M_7 H locs hF_6 hP hS => ?_)
  obtain ⟨hF_6, hti_8⟩ := hF_6
  have he := bnd2_at he hF_6
  have hTM_7 : TI M M_7 := TI_tr hTM_3 hti_8
  have qb_M_7 := hTM_7.1.1
  have qs_M_7 := hTM_7.1.2.1
  have qz_M_7 := hTM_7.1.2.2.1
  refine lv_istore_n (lv' := [(3, .int r_5), (2, .int r_1), (0, .ref (ad 0)), (1, .int a1)]) hx hb dX7_bestFrom_13 rfl hl (by decide) rfl (fun ls hl => ?_)
  refine lv_iload_n hx hb dX7_bestFrom_14 rfl (lv_at hl 1 rfl) ?_
  refine lv_iload_n hx hb dX7_bestFrom_15 rfl (lv_at hl 0 rfl) ?_
  obtain ⟨t_11, hr_10, he⟩ := bnd_ex he
  have j24 : ∀ (H : Heap) (locs : List Loc) (ls : Array Slot), va_P D vwCl (wld 31 ad (cM ad k M_7)) H → va_S (AW 31 ad) s.heap H locs → lv_has ls 4 [] → W p l e rm_X7_bestFrom s m args below meth c H locs 0 0 Q (F0 m 24 ls [.int t_11]) := by
    intro H locs ls hP hS hl
    exact hret _ _ _ _ _ _ ⟨(hV.trans he.symm), hTM_7⟩ hP hS dX7_bestFrom_24
  refine lv_icmp_ge (tgt := 23) hx hb dX7_bestFrom_16 (by decide) (fun hc_9 => ?_) (fun hc_9 => ?_)
  · have hr_10 := ite_t hr_10 hc_9
    refine lv_iload_n hx hb dX7_bestFrom_23 rfl (lv_at hl 0 rfl) ?_
    cases hr_10
    exact j24 _ _ _ hP hS (lv_sub hl [] rfl)
  · have hr_10 := ite_f hr_10 hc_9
    refine lv_iload_n hx hb dX7_bestFrom_19 rfl (lv_at hl 1 rfl) ?_
    refine lv_goto (tgt := 24) hx hb dX7_bestFrom_20 (by decide) ?_
    cases hr_10
    exact j24 _ _ _ hP hS (lv_sub hl [] rfl)
def rm_X7_sides : Room := { frames := 8, cells := 0, slots := 0, locals := 179 }
theorem gm_X7_sides : Cond.instanceMethod yX7_sides ∈ wsL_law ∧ Cond.selects RX7 yX7_sides yX7_sides ∈ wsL_law ∧ Cond.initialized RX7 ∈ wsL_law ∧ Cond.code yX7_sides cX7_sides 2 (some .int) ∈ wsL_law := ⟨gw_32_4, gw_32_5, gw_1_5, gw_32_6⟩
theorem gd_X7_sides : yX7_sides.cls = RX7 ∧ yX7_sides.cls ≠ "java/lang/invoke/MethodHandle" ∧ yX7_sides.cls ≠ "java/lang/invoke/VarHandle" ∧ (parseMethodDescriptor yX7_sides.desc).map (fun d => d.parameters.length) = some 0 := by decide +kernel
set_option maxRecDepth 100000 in
set_option maxHeartbeats 0 in
theorem c_X7_sides {l : Launch} {D : va_G} {k : Nat → ClassId} {ad : Nat → Nat} (had : InjN 31 ad) (M : Mem) (hI : MI M) : Met l yX7_sides (Cond.code yX7_sides cX7_sides 2 (some .int) :: wsL_law) rm_X7_sides (va_Pc [.ref (ad 0)] (GW 31 ad D k (cM ad k M))) (va_Qi (fun r u => (f_X7_sides M = (r, u) ∧ TI M u)) (fun u t => GW 31 ad D k (cM ad k u) t) (AW 31 ad)) 0 0 (AW 31 ad) := by
  refine met_i (g := cM ad k) (M := M) (plainFor_of_name (by decide)) (Nat.le_of_ble_eq_true rfl) ?_
  intro p e s m args below meth c Q ls hx hb hml hG hown hK hret hP hS hl
  have hl : lv_has ls 2 [(0, .ref (ad 0))] := hl
  obtain ⟨V, hV⟩ : ∃ V, f_X7_sides M = V := ⟨_, rfl⟩
  have he := hV
  unfold f_X7_sides at he
  have hT0 : TI M M := TI_rf hI
  have qb_M := hI.1
  have qs_M := hI.2.1
  have qz_M := hI.2.2.1
  refine lv_aload_n hx hb dX7_sides_0 rfl (lv_at hl 0 rfl) ?_
  refine lv_iconst (v := 0) hx hb dX7_sides_1 (by decide) ?_
  refine pX7_19 hx hb hG hown hK hP had AW_in hS gw_5_19 dX7_sides_2 (fun H locs hP hS => ?_)
  obtain ⟨M_1, eM_1⟩ : ∃ y : Mem, y = up2 M 0 19 0 := ⟨_, rfl⟩
  rw [← eM_1] at hP
  have he := bnd_at he eM_1
  have hTM_1 : TI M M_1 := by rw [eM_1]; exact TI_f hT0 (by decide)
  have qb_M_1 := hTM_1.1.1
  have qs_M_1 := hTM_1.1.2.1
  have qz_M_1 := hTM_1.1.2.2.1
  refine lv_aload_n hx hb dX7_sides_5 rfl (lv_at hl 0 rfl) ?_
  refine call_v [] [] hx hb hml hG hown hK (c_X7_open had M_1 hTM_1.1) gw_28_16 gm_X7_open gd_X7_open rfl rfl ⟨Nat.le_of_ble_eq_true rfl, Nat.le_of_ble_eq_true rfl⟩ ⟨Nat.le_refl _, Nat.le_refl _⟩ (rX7 hK hP) hP (fun _ h => h) hS rfl hl.1 rfl (Nat.le_of_ble_eq_true rfl) dX7_sides_6 (fun M_4 H locs hF_3 hP hS => ?_)
  obtain ⟨hF_3, hti_5⟩ := hF_3
  have he := bnd_at he hF_3.symm
  have hNM_4 := hti_5.2
  have hTM_4 : TI M M_4 := TI_tr hTM_1 hti_5.1
  have qb_M_4 := hTM_4.1.1
  have qs_M_4 := hTM_4.1.2.1
  have qz_M_4 := hTM_4.1.2.2.1
  refine lv_aload_n hx hb dX7_sides_9 rfl (lv_at hl 0 rfl) ?_
  refine call_v [] [] hx hb hml hG hown hK (c_X7_layWinds had M_4 hTM_4.1) gw_22_9 gm_X7_layWinds gd_X7_layWinds rfl rfl ⟨Nat.le_of_ble_eq_true rfl, Nat.le_of_ble_eq_true rfl⟩ ⟨Nat.le_refl _, Nat.le_refl _⟩ (rX7 hK hP) hP (fun _ h => h) hS rfl hl.1 rfl (Nat.le_of_ble_eq_true rfl) dX7_sides_10 (fun M_8 H locs hF_7 hP hS => ?_)
  obtain ⟨hF_7, hti_9⟩ := hF_7
  have he := bnd_at he hF_7.symm
  have hNM_8 : SN (M_8 20) := hti_9.2 hNM_4
  have hTM_8 : TI M M_8 := TI_tr hTM_4 hti_9
  have qb_M_8 := hTM_8.1.1
  have qs_M_8 := hTM_8.1.2.1
  have qz_M_8 := hTM_8.1.2.2.1
  refine lv_aload_n hx hb dX7_sides_13 rfl (lv_at hl 0 rfl) ?_
  refine lv_bipush (v := 100) hx hb dX7_sides_14 (by decide) ?_
  refine call_i [.int 100] [] hx hb hml hG hown hK (c_X7_bestFrom had M_8 100 hTM_8.1) gw_32_7 gm_X7_bestFrom gd_X7_bestFrom rfl rfl ⟨Nat.le_of_ble_eq_true rfl, Nat.le_of_ble_eq_true rfl⟩ ⟨Nat.le_refl _, Nat.le_refl _⟩ (rX7 hK hP) hP (fun _ h => h) hS rfl hl.1 rfl (Nat.le_of_ble_eq_true rfl) dX7_sides_16 (fun r_10 M_12 H locs hF_11 hP hS => ?_)
  obtain ⟨hF_11, hti_13⟩ := hF_11
  have he := bnd2_at he hF_11
  have hNM_12 : SN (M_12 20) := hti_13.2 hNM_8
  have hTM_12 : TI M M_12 := TI_tr hTM_8 hti_13
  have qb_M_12 := hTM_12.1.1
  have qs_M_12 := hTM_12.1.2.1
  have qz_M_12 := hTM_12.1.2.2.1
  refine lv_aload_n hx hb dX7_sides_19 rfl (lv_at hl 0 rfl) ?_
  refine lv_bipush (v := (-100)) hx hb dX7_sides_20 (by decide) ?_
  refine call_i [.int (-100)] [.int r_10] hx hb hml hG hown hK (c_X7_bestFrom had M_12 (-100) hTM_12.1) gw_32_7 gm_X7_bestFrom gd_X7_bestFrom rfl rfl ⟨Nat.le_of_ble_eq_true rfl, Nat.le_of_ble_eq_true rfl⟩ ⟨Nat.le_refl _, Nat.le_refl _⟩ (rX7 hK hP) hP (fun _ h => h) hS rfl hl.1 rfl (Nat.le_of_ble_eq_true rfl) dX7_sides_22 (fun r_14 M_16 H locs hF_15 hP hS => ?_)
  obtain ⟨hF_15, hti_17⟩ := hF_15
  have he := bnd2_at he hF_15
  have hNM_16 : SN (M_16 20) := hti_17.2 hNM_12
  have hTM_16 : TI M M_16 := TI_tr hTM_12 hti_17
  have qb_M_16 := hTM_16.1.1
  have qs_M_16 := hTM_16.1.2.1
  have qz_M_16 := hTM_16.1.2.2.1
  refine lv_isub hx hb dX7_sides_25 ?_
  refine lv_topi (fun y_18 ey_18 => ?_)
  have he := bnd_at he ey_18
  refine lv_istore_n (lv' := [(1, .int y_18), (0, .ref (ad 0))]) hx hb dX7_sides_26 rfl hl (by decide) rfl (fun ls hl => ?_)
  refine lv_aload_n hx hb dX7_sides_27 rfl (lv_at hl 1 rfl) ?_
  refine call_v [] [] hx hb hml hG hown hK (c_X7_close had M_16 hTM_16.1 hNM_16) gw_29_15 gm_X7_close gd_X7_close rfl rfl ⟨Nat.le_of_ble_eq_true rfl, Nat.le_of_ble_eq_true rfl⟩ ⟨Nat.le_refl _, Nat.le_refl _⟩ (rX7 hK hP) hP (fun _ h => h) hS rfl hl.1 rfl (Nat.le_of_ble_eq_true rfl) dX7_sides_28 (fun M_21 H locs hF_20 hP hS => ?_)
  obtain ⟨hF_20, hti_22⟩ := hF_20
  have he := bnd_at he hF_20.symm
  have hNM_21 : SN (M_21 20) := hti_22.2 hNM_16
  have hTM_21 : TI M M_21 := TI_tr hTM_16 hti_22
  have qb_M_21 := hTM_21.1.1
  have qs_M_21 := hTM_21.1.2.1
  have qz_M_21 := hTM_21.1.2.2.1
  refine lv_iload_n hx hb dX7_sides_31 rfl (lv_at hl 0 rfl) ?_
  exact hret _ _ _ _ _ _ ⟨(hV.trans he.symm), hTM_21⟩ hP hS dX7_sides_32
