-- @needs 12_dec 13_dec 14_dec 15_dec 37_fault 60_cM 63_cM 64_cM 65_cM
def rm_X7_turnAll : Room := { frames := 1, cells := 0, slots := 0, locals := 21 }
theorem gm_X7_turnAll : Cond.instanceMethod yX7_turnAll ∈ wsL_law ∧ Cond.selects RX7 yX7_turnAll yX7_turnAll ∈ wsL_law ∧ Cond.initialized RX7 ∈ wsL_law ∧ Cond.code yX7_turnAll cX7_turnAll 2 none ∈ wsL_law := ⟨gw_24_22, gw_24_23, gw_1_5, gw_25_0⟩
theorem gd_X7_turnAll : yX7_turnAll.cls = RX7 ∧ yX7_turnAll.cls ≠ "java/lang/invoke/MethodHandle" ∧ yX7_turnAll.cls ≠ "java/lang/invoke/VarHandle" ∧ (parseMethodDescriptor yX7_turnAll.desc).map (fun d => d.parameters.length) = some 0 := by decide +kernel
set_option maxRecDepth 100000 in
set_option maxHeartbeats 0 in
theorem c_X7_turnAll {l : Launch} {D : va_G} {k : Nat → ClassId} {ad : Nat → Nat} (had : InjN 31 ad) (M : Mem) (hI : MI M) : Met l yX7_turnAll (Cond.code yX7_turnAll cX7_turnAll 2 none :: wsL_law) rm_X7_turnAll (va_Pc [.ref (ad 0)] (GW 31 ad D k (cM ad k M))) (va_Qv (fun u => (f_X7_turnAll M = u ∧ TI M u)) (fun u t => GW 31 ad D k (cM ad k u) t) (AW 31 ad)) 0 0 (AW 31 ad) := by
  refine met_v (g := cM ad k) (M := M) (plainFor_of_name (by decide)) (Nat.le_of_ble_eq_true rfl) ?_
  intro p e s m args below meth c Q ls hx hb hml hG hown hK hret hP hS hl
  have hl : lv_has ls 2 [(0, .ref (ad 0))] := hl
  obtain ⟨V, hV⟩ : ∃ V, f_X7_turnAll M = V := ⟨_, rfl⟩
  have he := hV
  unfold f_X7_turnAll at he
  have hT0 : TI M M := TI_rf hI
  have qb_M := hI.1
  have qs_M := hI.2.1
  have qz_M := hI.2.2.1
  refine lv_iconst (v := 0) hx hb dX7_turnAll_0 (by decide) ?_
  refine lv_istore_n (lv' := [(1, .int 0), (0, .ref (ad 0))]) hx hb dX7_turnAll_1 rfl hl (by decide) rfl (fun ls hl => ?_)
  obtain ⟨M_25, hr_15, he⟩ := bnd_ex he
  have j31 : ∀ (H : Heap) (locs : List Loc) (ls : Array Slot), TI M M_25 → va_P D vwCl (wld 31 ad (cM ad k M_25)) H → va_S (AW 31 ad) s.heap H locs → lv_has ls 2 [] → W p l e rm_X7_turnAll s m args below meth c H locs 0 0 Q (F0 m 31 ls []) := by
    intro H locs ls hTM_25 hP hS hl
    have qb_M_25 := hTM_25.1.1
    have qs_M_25 := hTM_25.1.2.1
    have qz_M_25 := hTM_25.1.2.2.1
    exact hret _ _ _ _ _ ⟨(hV.trans he.symm), hTM_25⟩ hP hS dX7_turnAll_31
  have lp2 : ∀ (nn : Nat) (H : Heap) (locs : List Loc) (ls : Array Slot) (M_14 : Mem) (v_13 : Int32), (0 ≤ v_13.toInt) → (TI M M_14) → (4 - v_13.toInt).toNat < nn → lp_X7_turnAll_2 nn M_14 v_13 = M_25 → va_P D vwCl (wld 31 ad (cM ad k M_14)) H → va_S (AW 31 ad) s.heap H locs → lv_has ls 2 [(0, .ref (ad 0)), (1, .int v_13)] → W p l e rm_X7_turnAll s m args below meth c H locs 0 0 Q (F0 m 2 ls []) := by
    intro nn
    induction nn with
    | zero =>
      intro H locs ls M_14 v_13 h0v_13 hTM_14 hμ
      exact absurd hμ (Nat.not_lt_zero _)
    | succ nn ih =>
      intro H locs ls M_14 v_13 h0v_13 hTM_14 hμ hr_15 hP hS hl
      rw [lp_X7_turnAll_2] at hr_15
      have qb_M_14 := hTM_14.1.1
      have qs_M_14 := hTM_14.1.2.1
      have qz_M_14 := hTM_14.1.2.2.1
      refine lv_iload_n hx hb dX7_turnAll_2 rfl (lv_at hl 1 rfl) ?_
      refine lv_aload_n hx hb dX7_turnAll_3 rfl (lv_at hl 0 rfl) ?_
      refine gX7_8 hx hb hG hown hK hP gw_7_15 dX7_turnAll_4 ?_
      refine lv_icmp_ge (tgt := 31) hx hb dX7_turnAll_7 (by decide) (fun hc_16 => ?_) (fun hc_16 => ?_)
      · have hr_15 := ite_t hr_15 hc_16
        cases hr_15
        exact j31 _ _ _ hTM_14 hP hS (lv_sub hl [] rfl)
      · have hr_15 := ite_f hr_15 hc_16
        refine lv_aload_n hx hb dX7_turnAll_10 rfl (lv_at hl 0 rfl) ?_
        refine gX7_32 hx hb hG hown hK hP gw_5_7 dX7_turnAll_11 ?_
        refine lv_iload_n hx hb dX7_turnAll_14 rfl (lv_at hl 1 rfl) ?_
        refine al_M19 hx hb hK hP (vin_I (by have q0 : v_13.toInt < (M_14 0 8).toInt := nle_I hc_16; omega) (by have q0 : v_13.toInt < (M_14 0 8).toInt := nle_I hc_16; omega)) dX7_turnAll_15 ?_
        refine lv_iconst (v := 1) hx hb dX7_turnAll_16 (by decide) ?_
        obtain ⟨M_23, hr_18, hr_15⟩ := bnd_ex hr_15
        have j25 : ∀ (H : Heap) (locs : List Loc) (ls : Array Slot), TI M M_23 → va_P D vwCl (wld 31 ad (cM ad k M_23)) H → va_S (AW 31 ad) s.heap H locs → lv_has ls 2 [(0, .ref (ad 0)), (1, .int v_13)] → W p l e rm_X7_turnAll s m args below meth c H locs 0 0 Q (F0 m 25 ls []) := by
          intro H locs ls hTM_23 hP hS hl
          have qb_M_23 := hTM_23.1.1
          have qs_M_23 := hTM_23.1.2.1
          have qz_M_23 := hTM_23.1.2.2.1
          obtain ⟨y_24, ey_24⟩ : ∃ y_24 : Int32, y_24 = v_13 + 1 := ⟨_, rfl⟩
          have hr_15 := bnd_at hr_15 ey_24
          refine lv_iinc (v := y_24) (lv' := [(1, .int y_24), (0, .ref (ad 0))]) hx hb dX7_turnAll_25 hl (k := 1) rfl (by rw [ey_24]; rfl) (by decide) rfl (fun ls hl => ?_)
          refine lv_goto (tgt := 2) hx hb dX7_turnAll_28 (by decide) ?_
          exact ih _ _ _ _ _ (by rw [ey_24, inc_I (N := 4) (bnd_lt (nle_I hc_16) (by omega)) (by decide)]; omega) hTM_23 (by rw [ey_24]; exact mu_I hμ (bnd_lt (nle_I hc_16) (by omega)) (by decide)) hr_15 hP hS (lv_sub hl [1, 0] rfl)
        refine lv_icmp_ne (tgt := 25) hx hb dX7_turnAll_17 (by decide) (fun hc_17 => ?_) (fun hc_17 => ?_)
        · have hr_18 := ite_t hr_18 hc_17
          cases hr_18
          exact j25 _ _ _ hTM_14 hP hS (lv_sub hl [0, 1] rfl)
        · have hr_18 := ite_f hr_18 (fun q => q hc_17)
          refine lv_aload_n hx hb dX7_turnAll_20 rfl (lv_at hl 0 rfl) ?_
          refine lv_iload_n hx hb dX7_turnAll_21 rfl (lv_at hl 1 rfl) ?_
          refine call_v [.int v_13] [] hx hb hml hG hown hK (c_X7_turnOne had M_14 v_13 hTM_14.1 (by have q0 : v_13.toInt < (M_14 0 8).toInt := nle_I hc_16; have q1 : (M_14 19 v_13.toNatClampNeg).toInt = 1 := congrArg Int32.toInt hc_17; omega)) gw_25_1 gm_X7_turnOne gd_X7_turnOne rfl rfl ⟨Nat.le_of_ble_eq_true rfl, Nat.le_of_ble_eq_true rfl⟩ ⟨Nat.le_refl _, Nat.le_refl _⟩ (rX7 hK hP) hP (fun _ h => h) hS rfl hl.1 rfl (Nat.le_of_ble_eq_true rfl) dX7_turnAll_22 (fun M_21 H locs hF_20 hP hS => ?_)
          obtain ⟨hF_20, hti_22⟩ := hF_20
          have hr_18 := bnd_at hr_18 hF_20.symm
          have hTM_21 : TI M M_21 := TI_tr hTM_14 hti_22
          have qb_M_21 := hTM_21.1.1
          have qs_M_21 := hTM_21.1.2.1
          have qz_M_21 := hTM_21.1.2.2.1
          cases hr_18
          exact j25 _ _ _ hTM_21 hP hS (lv_sub hl [0, 1] rfl)
  exact lp2 _ _ _ _ _ _ (by decide) hT0 (by decide) hr_15 hP hS (lv_sub hl [1, 0] rfl)
def rm_X7_raceOn : Room := { frames := 4, cells := 0, slots := 0, locals := 87 }
theorem gm_X7_raceOn : Cond.instanceMethod yX7_raceOn ∈ wsL_law ∧ Cond.selects RX7 yX7_raceOn yX7_raceOn ∈ wsL_law ∧ Cond.initialized RX7 ∈ wsL_law ∧ Cond.code yX7_raceOn cX7_raceOn 2 none ∈ wsL_law := ⟨gw_22_15, gw_22_16, gw_1_5, gw_22_17⟩
theorem gd_X7_raceOn : yX7_raceOn.cls = RX7 ∧ yX7_raceOn.cls ≠ "java/lang/invoke/MethodHandle" ∧ yX7_raceOn.cls ≠ "java/lang/invoke/VarHandle" ∧ (parseMethodDescriptor yX7_raceOn.desc).map (fun d => d.parameters.length) = some 0 := by decide +kernel
set_option maxRecDepth 100000 in
set_option maxHeartbeats 0 in
theorem c_X7_raceOn {l : Launch} {D : va_G} {k : Nat → ClassId} {ad : Nat → Nat} (had : InjN 31 ad) (M : Mem) (hI : MI M) (hsec : (M 0 7).toInt < 400) : Met l yX7_raceOn (Cond.code yX7_raceOn cX7_raceOn 2 none :: wsL_law) rm_X7_raceOn (va_Pc [.ref (ad 0)] (GW 31 ad D k (cM ad k M))) (va_Qv (fun u => (f_X7_raceOn M = u ∧ TI M u)) (fun u t => GW 31 ad D k (cM ad k u) t) (AW 31 ad)) 0 0 (AW 31 ad) := by
  refine met_v (g := cM ad k) (M := M) (plainFor_of_name (by decide)) (Nat.le_of_ble_eq_true rfl) ?_
  intro p e s m args below meth c Q ls hx hb hml hG hown hK hret hP hS hl
  have hl : lv_has ls 2 [(0, .ref (ad 0))] := hl
  obtain ⟨V, hV⟩ : ∃ V, f_X7_raceOn M = V := ⟨_, rfl⟩
  have he := hV
  unfold f_X7_raceOn at he
  have hT0 : TI M M := TI_rf hI
  have qb_M := hI.1
  have qs_M := hI.2.1
  have qz_M := hI.2.2.1
  refine lv_aload_n hx hb dX7_raceOn_0 rfl (lv_at hl 0 rfl) ?_
  refine call_v [] [] hx hb hml hG hown hK (c_X7_moveAll had M hT0.1 (by omega)) gw_22_18 gm_X7_moveAll gd_X7_moveAll rfl rfl ⟨Nat.le_of_ble_eq_true rfl, Nat.le_of_ble_eq_true rfl⟩ ⟨Nat.le_refl _, Nat.le_refl _⟩ (rX7 hK hP) hP (fun _ h => h) hS rfl hl.1 rfl (Nat.le_of_ble_eq_true rfl) dX7_raceOn_1 (fun M_3 H locs hF_2 hP hS => ?_)
  obtain ⟨hF_2, hti_4⟩ := hF_2
  have he := bnd_at he hF_2.symm
  have hTM_3 : TI M M_3 := TI_tr hT0 hti_4
  have qb_M_3 := hTM_3.1.1
  have qs_M_3 := hTM_3.1.2.1
  have qz_M_3 := hTM_3.1.2.2.1
  refine lv_iconst (v := 0) hx hb dX7_raceOn_4 (by decide) ?_
  refine lv_istore_n (lv' := [(1, .int 0), (0, .ref (ad 0))]) hx hb dX7_raceOn_5 rfl hl (by decide) rfl (fun ls hl => ?_)
  obtain ⟨M_51, hr_30, he⟩ := bnd_ex he
  have j55 : ∀ (H : Heap) (locs : List Loc) (ls : Array Slot), TI M M_51 → va_P D vwCl (wld 31 ad (cM ad k M_51)) H → va_S (AW 31 ad) s.heap H locs → lv_has ls 2 [(0, .ref (ad 0))] → W p l e rm_X7_raceOn s m args below meth c H locs 0 0 Q (F0 m 55 ls []) := by
    intro H locs ls hTM_51 hP hS hl
    have qb_M_51 := hTM_51.1.1
    have qs_M_51 := hTM_51.1.2.1
    have qz_M_51 := hTM_51.1.2.2.1
    refine lv_aload_n hx hb dX7_raceOn_55 rfl (lv_at hl 0 rfl) ?_
    refine call_v [] [] hx hb hml hG hown hK (c_X7_turnAll had M_51 hTM_51.1) gw_24_21 gm_X7_turnAll gd_X7_turnAll rfl rfl ⟨Nat.le_of_ble_eq_true rfl, Nat.le_of_ble_eq_true rfl⟩ ⟨Nat.le_refl _, Nat.le_refl _⟩ (rX7 hK hP) hP (fun _ h => h) hS rfl hl.1 rfl (Nat.le_of_ble_eq_true rfl) dX7_raceOn_56 (fun M_54 H locs hF_53 hP hS => ?_)
    obtain ⟨hF_53, hti_55⟩ := hF_53
    have he := bnd_at he hF_53.symm
    have hTM_54 : TI M M_54 := TI_tr hTM_51 hti_55
    have qb_M_54 := hTM_54.1.1
    have qs_M_54 := hTM_54.1.2.1
    have qz_M_54 := hTM_54.1.2.2.1
    exact hret _ _ _ _ _ ⟨(hV.trans he.symm), hTM_54⟩ hP hS dX7_raceOn_59
  have lp6 : ∀ (nn : Nat) (H : Heap) (locs : List Loc) (ls : Array Slot) (M_29 : Mem) (v_28 : Int32), (0 ≤ v_28.toInt) → (TI M M_29) → (4 - v_28.toInt).toNat < nn → lp_X7_raceOn_6 nn M_29 v_28 = M_51 → va_P D vwCl (wld 31 ad (cM ad k M_29)) H → va_S (AW 31 ad) s.heap H locs → lv_has ls 2 [(0, .ref (ad 0)), (1, .int v_28)] → W p l e rm_X7_raceOn s m args below meth c H locs 0 0 Q (F0 m 6 ls []) := by
    intro nn
    induction nn with
    | zero =>
      intro H locs ls M_29 v_28 h0v_28 hTM_29 hμ
      exact absurd hμ (Nat.not_lt_zero _)
    | succ nn ih =>
      intro H locs ls M_29 v_28 h0v_28 hTM_29 hμ hr_30 hP hS hl
      rw [lp_X7_raceOn_6] at hr_30
      have qb_M_29 := hTM_29.1.1
      have qs_M_29 := hTM_29.1.2.1
      have qz_M_29 := hTM_29.1.2.2.1
      refine lv_iload_n hx hb dX7_raceOn_6 rfl (lv_at hl 1 rfl) ?_
      refine lv_aload_n hx hb dX7_raceOn_7 rfl (lv_at hl 0 rfl) ?_
      refine gX7_8 hx hb hG hown hK hP gw_7_15 dX7_raceOn_8 ?_
      refine lv_icmp_ge (tgt := 55) hx hb dX7_raceOn_11 (by decide) (fun hc_31 => ?_) (fun hc_31 => ?_)
      · have hr_30 := ite_t hr_30 hc_31
        cases hr_30
        exact j55 _ _ _ hTM_29 hP hS (lv_sub hl [0] rfl)
      · have hr_30 := ite_f hr_30 hc_31
        refine lv_aload_n hx hb dX7_raceOn_14 rfl (lv_at hl 0 rfl) ?_
        refine gX7_32 hx hb hG hown hK hP gw_5_7 dX7_raceOn_15 ?_
        refine lv_iload_n hx hb dX7_raceOn_18 rfl (lv_at hl 1 rfl) ?_
        refine lv_aload_n hx hb dX7_raceOn_19 rfl (lv_at hl 0 rfl) ?_
        refine lv_iload_n hx hb dX7_raceOn_20 rfl (lv_at hl 1 rfl) ?_
        refine call_i [.int v_28] [.int v_28, .ref (ad 19)] hx hb hml hG hown hK (c_X7_mayTurn had M_29 v_28 hTM_29.1 (by have q0 : v_28.toInt < (M_29 0 8).toInt := nle_I hc_31; omega)) gw_23_13 gm_X7_mayTurn gd_X7_mayTurn rfl rfl ⟨Nat.le_of_ble_eq_true rfl, Nat.le_of_ble_eq_true rfl⟩ ⟨Nat.le_refl _, Nat.le_refl _⟩ (rX7 hK hP) hP (fun _ h => h) hS rfl hl.1 rfl (Nat.le_of_ble_eq_true rfl) dX7_raceOn_21 (fun r_32 u_34 H locs hF_33 hP hS => ?_)
        obtain ⟨hz_35, hF_33, hu⟩ := hF_33; rw [hu] at hP; subst hF_33
        obtain ⟨t_48, hr_37, hr_30⟩ := bnd_ex hr_30
        have j48 : ∀ (H : Heap) (locs : List Loc) (ls : Array Slot), (t_48 = 0 ∨ t_48 = 1) → va_P D vwCl (wld 31 ad (cM ad k M_29)) H → va_S (AW 31 ad) s.heap H locs → lv_has ls 2 [(0, .ref (ad 0)), (1, .int v_28)] → W p l e rm_X7_raceOn s m args below meth c H locs 0 0 Q (F0 m 48 ls [.int t_48, .int v_28, .ref (ad 19)]) := by
          intro H locs ls zt_48 hP hS hl
          refine as_M19 hx hb hK hP had AW_in hS (vin_I (by have q0 : v_28.toInt < (M_29 0 8).toInt := nle_I hc_31; omega) (by have q0 : v_28.toInt < (M_29 0 8).toInt := nle_I hc_31; omega)) dX7_raceOn_48 (fun H locs hP hS => ?_)
          obtain ⟨M_49, eM_49⟩ : ∃ y : Mem, y = up2 M_29 19 v_28.toNatClampNeg t_48 := ⟨_, rfl⟩
          rw [← eM_49] at hP
          have hr_30 := bnd_at hr_30 eM_49
          have hTM_49 : TI M M_49 := by rw [eM_49]; exact TI_a hTM_29 (by decide)
          have qb_M_49 := hTM_49.1.1
          have qs_M_49 := hTM_49.1.2.1
          have qz_M_49 := hTM_49.1.2.2.1
          obtain ⟨y_50, ey_50⟩ : ∃ y_50 : Int32, y_50 = v_28 + 1 := ⟨_, rfl⟩
          have hr_30 := bnd_at hr_30 ey_50
          refine lv_iinc (v := y_50) (lv' := [(1, .int y_50), (0, .ref (ad 0))]) hx hb dX7_raceOn_49 hl (k := 1) rfl (by rw [ey_50]; rfl) (by decide) rfl (fun ls hl => ?_)
          refine lv_goto (tgt := 6) hx hb dX7_raceOn_52 (by decide) ?_
          exact ih _ _ _ _ _ (by rw [ey_50, inc_I (N := 4) (bnd_lt (nle_I hc_31) (by omega)) (by decide)]; omega) hTM_49 (by rw [ey_50]; exact mu_I hμ (bnd_lt (nle_I hc_31) (by omega)) (by decide)) hr_30 hP hS (lv_sub hl [1, 0] rfl)
        refine lv_if_eq (tgt := 47) hx hb dX7_raceOn_24 (by decide) (fun hc_36 => ?_) (fun hc_36 => ?_)
        · have hr_37 := ite_t hr_37 hc_36
          refine lv_iconst (v := 0) hx hb dX7_raceOn_47 (by decide) ?_
          cases hr_37
          exact j48 _ _ _ (Or.inl rfl) hP hS (lv_sub hl [0, 1] rfl)
        · have hr_37 := ite_f hr_37 hc_36
          refine lv_aload_n hx hb dX7_raceOn_27 rfl (lv_at hl 0 rfl) ?_
          refine lv_iload_n hx hb dX7_raceOn_28 rfl (lv_at hl 1 rfl) ?_
          refine call_i [.int v_28] [.int v_28, .ref (ad 19)] hx hb hml hG hown hK (c_X7_isOut had M_29 v_28 hTM_29.1 (by have q0 : v_28.toInt < (M_29 0 8).toInt := nle_I hc_31; have q1 : (f_X7_mayTurn M_29 v_28).toInt ≠ 0 := ne_I hc_36; omega)) gw_23_17 gm_X7_isOut gd_X7_isOut rfl rfl ⟨Nat.le_of_ble_eq_true rfl, Nat.le_of_ble_eq_true rfl⟩ ⟨Nat.le_refl _, Nat.le_refl _⟩ (rX7 hK hP) hP (fun _ h => h) hS rfl hl.1 rfl (Nat.le_of_ble_eq_true rfl) dX7_raceOn_29 (fun r_38 u_40 H locs hF_39 hP hS => ?_)
          obtain ⟨hz_41, hF_39, hu⟩ := hF_39; rw [hu] at hP; subst hF_39
          refine lv_if_ne (tgt := 43) hx hb dX7_raceOn_32 (by decide) (fun hc_42 => ?_) (fun hc_42 => ?_)
          · have hr_37 := ite_t hr_37 hc_42
            refine lv_iconst (v := 1) hx hb dX7_raceOn_43 (by decide) ?_
            refine lv_goto (tgt := 48) hx hb dX7_raceOn_44 (by decide) ?_
            cases hr_37
            exact j48 _ _ _ (Or.inr rfl) hP hS (lv_sub hl [0, 1] rfl)
          · have hr_37 := ite_f hr_37 (fun q => q hc_42)
            refine lv_aload_n hx hb dX7_raceOn_35 rfl (lv_at hl 0 rfl) ?_
            refine lv_iload_n hx hb dX7_raceOn_36 rfl (lv_at hl 1 rfl) ?_
            refine call_i [.int v_28] [.int v_28, .ref (ad 19)] hx hb hml hG hown hK (c_X7_turnsByKind had M_29 v_28 hTM_29.1 (by have q0 : v_28.toInt < (M_29 0 8).toInt := nle_I hc_31; have q1 : (f_X7_mayTurn M_29 v_28).toInt ≠ 0 := ne_I hc_36; have q2 : (f_X7_isOut M_29 v_28).toInt = 0 := congrArg Int32.toInt hc_42; omega) (by have q0 : v_28.toInt < (M_29 0 8).toInt := nle_I hc_31; have q1 : (f_X7_mayTurn M_29 v_28).toInt ≠ 0 := ne_I hc_36; have q2 : (f_X7_isOut M_29 v_28).toInt = 0 := congrArg Int32.toInt hc_42; omega)) gw_23_21 gm_X7_turnsByKind gd_X7_turnsByKind rfl rfl ⟨Nat.le_of_ble_eq_true rfl, Nat.le_of_ble_eq_true rfl⟩ ⟨Nat.le_refl _, Nat.le_refl _⟩ (rX7 hK hP) hP (fun _ h => h) hS rfl hl.1 rfl (Nat.le_of_ble_eq_true rfl) dX7_raceOn_37 (fun r_43 u_45 H locs hF_44 hP hS => ?_)
            obtain ⟨hz_46, hF_44, hu⟩ := hF_44; rw [hu] at hP; subst hF_44
            refine lv_if_eq (tgt := 47) hx hb dX7_raceOn_40 (by decide) (fun hc_47 => ?_) (fun hc_47 => ?_)
            · have hr_37 := ite_t hr_37 hc_47
              refine lv_iconst (v := 0) hx hb dX7_raceOn_47 (by decide) ?_
              cases hr_37
              exact j48 _ _ _ (Or.inl rfl) hP hS (lv_sub hl [0, 1] rfl)
            · have hr_37 := ite_f hr_37 hc_47
              refine lv_iconst (v := 1) hx hb dX7_raceOn_43 (by decide) ?_
              refine lv_goto (tgt := 48) hx hb dX7_raceOn_44 (by decide) ?_
              cases hr_37
              exact j48 _ _ _ (Or.inr rfl) hP hS (lv_sub hl [0, 1] rfl)
  exact lp6 _ _ _ _ _ _ (by decide) hTM_3 (by decide) hr_30 hP hS (lv_sub hl [1, 0] rfl)
def rm_X7_isEnded : Room := { frames := 1, cells := 0, slots := 0, locals := 21 }
theorem gm_X7_isEnded : Cond.instanceMethod yX7_isEnded ∈ wsL_law ∧ Cond.selects RX7 yX7_isEnded yX7_isEnded ∈ wsL_law ∧ Cond.initialized RX7 ∈ wsL_law ∧ Cond.code yX7_isEnded cX7_isEnded 3 (some .boolean) ∈ wsL_law := ⟨gw_22_6, gw_22_7, gw_1_5, gw_22_8⟩
theorem gd_X7_isEnded : yX7_isEnded.cls = RX7 ∧ yX7_isEnded.cls ≠ "java/lang/invoke/MethodHandle" ∧ yX7_isEnded.cls ≠ "java/lang/invoke/VarHandle" ∧ (parseMethodDescriptor yX7_isEnded.desc).map (fun d => d.parameters.length) = some 0 := by decide +kernel
set_option maxRecDepth 100000 in
set_option maxHeartbeats 0 in
theorem c_X7_isEnded {l : Launch} {D : va_G} {k : Nat → ClassId} {ad : Nat → Nat} (had : InjN 31 ad) (M : Mem) (hI : MI M) : Met l yX7_isEnded (Cond.code yX7_isEnded cX7_isEnded 3 (some .boolean) :: wsL_law) rm_X7_isEnded (va_Pc [.ref (ad 0)] (GW 31 ad D k (cM ad k M))) (va_Qi (fun r u => (r = 0 ∨ r = 1) ∧ f_X7_isEnded M = r ∧ u = M) (fun u t => GW 31 ad D k (cM ad k u) t) (AW 31 ad)) 0 0 (AW 31 ad) := by
  refine met_z (g := cM ad k) (M := M) (plainFor_of_name (by decide)) (Nat.le_of_ble_eq_true rfl) ?_
  intro p e s m args below meth c Q ls hx hb hml hG hown hK hret hP hS hl
  have hl : lv_has ls 3 [(0, .ref (ad 0))] := hl
  obtain ⟨V, hV⟩ : ∃ V, f_X7_isEnded M = V := ⟨_, rfl⟩
  have he := hV
  unfold f_X7_isEnded at he
  have hT0 : TI M M := TI_rf hI
  have qb_M := hI.1
  have qs_M := hI.2.1
  have qz_M := hI.2.2.1
  refine lv_iconst (v := 1) hx hb dX7_isEnded_0 (by decide) ?_
  refine lv_istore_n (lv' := [(1, .int 1), (0, .ref (ad 0))]) hx hb dX7_isEnded_1 rfl hl (by decide) rfl (fun ls hl => ?_)
  refine lv_iconst (v := 0) hx hb dX7_isEnded_2 (by decide) ?_
  refine lv_istore_n (lv' := [(2, .int 0), (1, .int 1), (0, .ref (ad 0))]) hx hb dX7_isEnded_3 rfl hl (by decide) rfl (fun ls hl => ?_)
  obtain ⟨w_27, hr_16, he⟩ := bnd_ex he
  have j36 : ∀ (H : Heap) (locs : List Loc) (ls : Array Slot), (w_27 = 0 ∨ w_27 = 1) → va_P D vwCl (wld 31 ad (cM ad k M)) H → va_S (AW 31 ad) s.heap H locs → lv_has ls 3 [(0, .ref (ad 0)), (1, .int w_27)] → W p l e rm_X7_isEnded s m args below meth c H locs 0 0 Q (F0 m 36 ls []) := by
    intro H locs ls zw_27 hP hS hl
    refine lv_iload_n hx hb dX7_isEnded_36 rfl (lv_at hl 1 rfl) ?_
    obtain ⟨t_31, hr_29, he⟩ := bnd_ex he
    have j55 : ∀ (H : Heap) (locs : List Loc) (ls : Array Slot), (t_31 = 0 ∨ t_31 = 1) → va_P D vwCl (wld 31 ad (cM ad k M)) H → va_S (AW 31 ad) s.heap H locs → lv_has ls 3 [] → W p l e rm_X7_isEnded s m args below meth c H locs 0 0 Q (F0 m 55 ls [.int t_31]) := by
      intro H locs ls zt_31 hP hS hl
      exact hret _ _ _ _ _ _ ⟨zt_31, (hV.trans he.symm), rfl⟩ (nz01 zt_31) hP hS dX7_isEnded_55
    refine lv_if_ne (tgt := 50) hx hb dX7_isEnded_37 (by decide) (fun hc_28 => ?_) (fun hc_28 => ?_)
    · have hr_29 := ite_t hr_29 hc_28
      refine lv_iconst (v := 1) hx hb dX7_isEnded_50 (by decide) ?_
      refine lv_goto (tgt := 55) hx hb dX7_isEnded_51 (by decide) ?_
      cases hr_29
      exact j55 _ _ _ (Or.inr rfl) hP hS (lv_sub hl [] rfl)
    · have hr_29 := ite_f hr_29 (fun q => q hc_28)
      refine lv_aload_n hx hb dX7_isEnded_40 rfl (lv_at hl 0 rfl) ?_
      refine gX7_7 hx hb hG hown hK hP gw_15_12 dX7_isEnded_41 ?_
      refine lv_sipush (v := 400) hx hb dX7_isEnded_44 (by decide) ?_
      refine lv_icmp_lt (tgt := 54) hx hb dX7_isEnded_47 (by decide) (fun hc_30 => ?_) (fun hc_30 => ?_)
      · have hr_29 := ite_t hr_29 hc_30
        refine lv_iconst (v := 0) hx hb dX7_isEnded_54 (by decide) ?_
        cases hr_29
        exact j55 _ _ _ (Or.inl rfl) hP hS (lv_sub hl [] rfl)
      · have hr_29 := ite_f hr_29 hc_30
        refine lv_iconst (v := 1) hx hb dX7_isEnded_50 (by decide) ?_
        refine lv_goto (tgt := 55) hx hb dX7_isEnded_51 (by decide) ?_
        cases hr_29
        exact j55 _ _ _ (Or.inr rfl) hP hS (lv_sub hl [] rfl)
  have lp4 : ∀ (nn : Nat) (H : Heap) (locs : List Loc) (ls : Array Slot) (v_14 : Int32) (v_15 : Int32), (v_14 = 0 ∨ v_14 = 1) → (0 ≤ v_15.toInt) → (4 - v_15.toInt).toNat < nn → lp_X7_isEnded_4 nn M v_14 v_15 = w_27 → va_P D vwCl (wld 31 ad (cM ad k M)) H → va_S (AW 31 ad) s.heap H locs → lv_has ls 3 [(0, .ref (ad 0)), (1, .int v_14), (2, .int v_15)] → W p l e rm_X7_isEnded s m args below meth c H locs 0 0 Q (F0 m 4 ls []) := by
    intro nn
    induction nn with
    | zero =>
      intro H locs ls v_14 v_15 zv_14 h0v_15 hμ
      exact absurd hμ (Nat.not_lt_zero _)
    | succ nn ih =>
      intro H locs ls v_14 v_15 zv_14 h0v_15 hμ hr_16 hP hS hl
      rw [lp_X7_isEnded_4] at hr_16
      refine lv_iload_n hx hb dX7_isEnded_4 rfl (lv_at hl 2 rfl) ?_
      refine lv_aload_n hx hb dX7_isEnded_5 rfl (lv_at hl 0 rfl) ?_
      refine gX7_8 hx hb hG hown hK hP gw_7_15 dX7_isEnded_6 ?_
      refine lv_icmp_ge (tgt := 36) hx hb dX7_isEnded_9 (by decide) (fun hc_17 => ?_) (fun hc_17 => ?_)
      · have hr_16 := ite_t hr_16 hc_17
        cases hr_16
        exact j36 _ _ _ zv_14 hP hS (lv_sub hl [0, 1] rfl)
      · have hr_16 := ite_f hr_16 hc_17
        refine lv_iload_n hx hb dX7_isEnded_12 rfl (lv_at hl 1 rfl) ?_
        obtain ⟨t_25, hr_19, hr_16⟩ := bnd_ex hr_16
        have j29 : ∀ (H : Heap) (locs : List Loc) (ls : Array Slot), (t_25 = 0 ∨ t_25 = 1) → va_P D vwCl (wld 31 ad (cM ad k M)) H → va_S (AW 31 ad) s.heap H locs → lv_has ls 3 [(0, .ref (ad 0)), (2, .int v_15)] → W p l e rm_X7_isEnded s m args below meth c H locs 0 0 Q (F0 m 29 ls [.int t_25]) := by
          intro H locs ls zt_25 hP hS hl
          refine lv_istore_n (lv' := [(1, .int t_25), (0, .ref (ad 0)), (2, .int v_15)]) hx hb dX7_isEnded_29 rfl hl (by decide) rfl (fun ls hl => ?_)
          obtain ⟨y_26, ey_26⟩ : ∃ y_26 : Int32, y_26 = v_15 + 1 := ⟨_, rfl⟩
          have hr_16 := bnd_at hr_16 ey_26
          refine lv_iinc (v := y_26) (lv' := [(2, .int y_26), (1, .int t_25), (0, .ref (ad 0))]) hx hb dX7_isEnded_30 hl (k := 2) rfl (by rw [ey_26]; rfl) (by decide) rfl (fun ls hl => ?_)
          refine lv_goto (tgt := 4) hx hb dX7_isEnded_33 (by decide) ?_
          exact ih _ _ _ _ _ zt_25 (by rw [ey_26, inc_I (N := 4) (bnd_lt (nle_I hc_17) (by omega)) (by decide)]; omega) (by rw [ey_26]; exact mu_I hμ (bnd_lt (nle_I hc_17) (by omega)) (by decide)) hr_16 hP hS (lv_sub hl [2, 1, 0] rfl)
        refine lv_if_eq (tgt := 28) hx hb dX7_isEnded_13 (by decide) (fun hc_18 => ?_) (fun hc_18 => ?_)
        · have hr_19 := ite_t hr_19 hc_18
          refine lv_iconst (v := 0) hx hb dX7_isEnded_28 (by decide) ?_
          cases hr_19
          exact j29 _ _ _ (Or.inl rfl) hP hS (lv_sub hl [0, 2] rfl)
        · have hr_19 := ite_f hr_19 hc_18
          refine lv_aload_n hx hb dX7_isEnded_16 rfl (lv_at hl 0 rfl) ?_
          refine lv_iload_n hx hb dX7_isEnded_17 rfl (lv_at hl 2 rfl) ?_
          refine call_i [.int v_15] [] hx hb hml hG hown hK (c_X7_isIn had M v_15 hT0.1 (by have q0 : v_15.toInt < (M 0 8).toInt := nle_I hc_17; omega)) gw_18_0 gm_X7_isIn gd_X7_isIn rfl rfl ⟨Nat.le_of_ble_eq_true rfl, Nat.le_of_ble_eq_true rfl⟩ ⟨Nat.le_refl _, Nat.le_refl _⟩ (rX7 hK hP) hP (fun _ h => h) hS rfl hl.1 rfl (Nat.le_of_ble_eq_true rfl) dX7_isEnded_18 (fun r_20 u_22 H locs hF_21 hP hS => ?_)
          obtain ⟨hz_23, hF_21, hu⟩ := hF_21; rw [hu] at hP; subst hF_21
          refine lv_if_eq (tgt := 28) hx hb dX7_isEnded_21 (by decide) (fun hc_24 => ?_) (fun hc_24 => ?_)
          · have hr_19 := ite_t hr_19 hc_24
            refine lv_iconst (v := 0) hx hb dX7_isEnded_28 (by decide) ?_
            cases hr_19
            exact j29 _ _ _ (Or.inl rfl) hP hS (lv_sub hl [0, 2] rfl)
          · have hr_19 := ite_f hr_19 hc_24
            refine lv_iconst (v := 1) hx hb dX7_isEnded_24 (by decide) ?_
            refine lv_goto (tgt := 29) hx hb dX7_isEnded_25 (by decide) ?_
            cases hr_19
            exact j29 _ _ _ (Or.inr rfl) hP hS (lv_sub hl [0, 2] rfl)
  exact lp4 _ _ _ _ _ _ (Or.inr rfl) (by decide) (by decide) hr_16 hP hS (lv_sub hl [2, 1, 0] rfl)
def rm_X7_raceToEnd : Room := { frames := 5, cells := 0, slots := 0, locals := 108 }
theorem gm_X7_raceToEnd : Cond.instanceMethod yX7_raceToEnd ∈ wsL_law ∧ Cond.selects RX7 yX7_raceToEnd yX7_raceToEnd ∈ wsL_law ∧ Cond.initialized RX7 ∈ wsL_law ∧ Cond.code yX7_raceToEnd cX7_raceToEnd 1 none ∈ wsL_law := ⟨gw_29_12, gw_29_13, gw_1_5, gw_29_14⟩
theorem gd_X7_raceToEnd : yX7_raceToEnd.cls = RX7 ∧ yX7_raceToEnd.cls ≠ "java/lang/invoke/MethodHandle" ∧ yX7_raceToEnd.cls ≠ "java/lang/invoke/VarHandle" ∧ (parseMethodDescriptor yX7_raceToEnd.desc).map (fun d => d.parameters.length) = some 0 := by decide +kernel
set_option maxRecDepth 100000 in
set_option maxHeartbeats 0 in
theorem c_X7_raceToEnd {l : Launch} {D : va_G} {k : Nat → ClassId} {ad : Nat → Nat} (had : InjN 31 ad) (M : Mem) (hI : MI M) : Met l yX7_raceToEnd (Cond.code yX7_raceToEnd cX7_raceToEnd 1 none :: wsL_law) rm_X7_raceToEnd (va_Pc [.ref (ad 0)] (GW 31 ad D k (cM ad k M))) (va_Qv (fun u => (f_X7_raceToEnd M = u ∧ TI M u)) (fun u t => GW 31 ad D k (cM ad k u) t) (AW 31 ad)) 0 0 (AW 31 ad) := by
  refine met_v (g := cM ad k) (M := M) (plainFor_of_name (by decide)) (Nat.le_of_ble_eq_true rfl) ?_
  intro p e s m args below meth c Q ls hx hb hml hG hown hK hret hP hS hl
  have hl : lv_has ls 1 [(0, .ref (ad 0))] := hl
  obtain ⟨V, hV⟩ : ∃ V, f_X7_raceToEnd M = V := ⟨_, rfl⟩
  have he := hV
  unfold f_X7_raceToEnd at he
  have hT0 : TI M M := TI_rf hI
  have qb_M := hI.1
  have qs_M := hI.2.1
  have qz_M := hI.2.2.1
  refine lv_aload_n hx hb dX7_raceToEnd_0 rfl (lv_at hl 0 rfl) ?_
  refine call_v [] [] hx hb hml hG hown hK (c_X7_layWinds had M hT0.1) gw_22_9 gm_X7_layWinds gd_X7_layWinds rfl rfl ⟨Nat.le_of_ble_eq_true rfl, Nat.le_of_ble_eq_true rfl⟩ ⟨Nat.le_refl _, Nat.le_refl _⟩ (rX7 hK hP) hP (fun _ h => h) hS rfl hl.1 rfl (Nat.le_of_ble_eq_true rfl) dX7_raceToEnd_1 (fun M_3 H locs hF_2 hP hS => ?_)
  obtain ⟨hF_2, hti_4⟩ := hF_2
  have he := bnd_at he hF_2.symm
  have hTM_3 : TI M M_3 := TI_tr hT0 hti_4
  have qb_M_3 := hTM_3.1.1
  have qs_M_3 := hTM_3.1.2.1
  have qz_M_3 := hTM_3.1.2.2.1
  obtain ⟨M_16, hr_6, he⟩ := bnd_ex he
  have j18 : ∀ (H : Heap) (locs : List Loc) (ls : Array Slot), TI M M_16 → va_P D vwCl (wld 31 ad (cM ad k M_16)) H → va_S (AW 31 ad) s.heap H locs → lv_has ls 1 [] → W p l e rm_X7_raceToEnd s m args below meth c H locs 0 0 Q (F0 m 18 ls []) := by
    intro H locs ls hTM_16 hP hS hl
    have qb_M_16 := hTM_16.1.1
    have qs_M_16 := hTM_16.1.2.1
    have qz_M_16 := hTM_16.1.2.2.1
    exact hret _ _ _ _ _ ⟨(hV.trans he.symm), hTM_16⟩ hP hS dX7_raceToEnd_18
  have lp4 : ∀ (nn : Nat) (H : Heap) (locs : List Loc) (ls : Array Slot) (M_5 : Mem), (TI M M_5) → (400 - (M_5 0 7).toInt).toNat < nn → lp_X7_raceToEnd_4 nn M_5 = M_16 → va_P D vwCl (wld 31 ad (cM ad k M_5)) H → va_S (AW 31 ad) s.heap H locs → lv_has ls 1 [(0, .ref (ad 0))] → W p l e rm_X7_raceToEnd s m args below meth c H locs 0 0 Q (F0 m 4 ls []) := by
    intro nn
    induction nn with
    | zero =>
      intro H locs ls M_5 hTM_5 hμ
      exact absurd hμ (Nat.not_lt_zero _)
    | succ nn ih =>
      intro H locs ls M_5 hTM_5 hμ hr_6 hP hS hl
      rw [lp_X7_raceToEnd_4] at hr_6
      have qb_M_5 := hTM_5.1.1
      have qs_M_5 := hTM_5.1.2.1
      have qz_M_5 := hTM_5.1.2.2.1
      refine lv_aload_n hx hb dX7_raceToEnd_4 rfl (lv_at hl 0 rfl) ?_
      refine call_i [] [] hx hb hml hG hown hK (c_X7_isEnded had M_5 hTM_5.1) gw_22_5 gm_X7_isEnded gd_X7_isEnded rfl rfl ⟨Nat.le_of_ble_eq_true rfl, Nat.le_of_ble_eq_true rfl⟩ ⟨Nat.le_refl _, Nat.le_refl _⟩ (rX7 hK hP) hP (fun _ h => h) hS rfl hl.1 rfl (Nat.le_of_ble_eq_true rfl) dX7_raceToEnd_5 (fun r_7 u_9 H locs hF_8 hP hS => ?_)
      obtain ⟨hz_10, hF_8, hu⟩ := hF_8; rw [hu] at hP; subst hF_8
      refine lv_if_ne (tgt := 18) hx hb dX7_raceToEnd_8 (by decide) (fun hc_11 => ?_) (fun hc_11 => ?_)
      · have hr_6 := ite_t hr_6 hc_11
        cases hr_6
        exact j18 _ _ _ hTM_5 hP hS (lv_sub hl [] rfl)
      · have hr_6 := ite_f hr_6 (fun q => q hc_11)
        refine lv_aload_n hx hb dX7_raceToEnd_11 rfl (lv_at hl 0 rfl) ?_
        refine call_v [] [] hx hb hml hG hown hK (c_X7_raceOn had M_5 hTM_5.1 (by have q0 : (f_X7_isEnded M_5).toInt = 0 := congrArg Int32.toInt hc_11; have r1 : (M_5 0 7).toInt < 400 := isEnded_lt hc_11; omega)) gw_22_14 gm_X7_raceOn gd_X7_raceOn rfl rfl ⟨Nat.le_of_ble_eq_true rfl, Nat.le_of_ble_eq_true rfl⟩ ⟨Nat.le_refl _, Nat.le_refl _⟩ (rX7 hK hP) hP (fun _ h => h) hS rfl hl.1 rfl (Nat.le_of_ble_eq_true rfl) dX7_raceToEnd_12 (fun M_14 H locs hF_13 hP hS => ?_)
        obtain ⟨hF_13, hti_15⟩ := hF_13
        have hr_6 := bnd_at hr_6 hF_13.symm
        have hTM_14 : TI M M_14 := TI_tr hTM_5 hti_15
        have qb_M_14 := hTM_14.1.1
        have qs_M_14 := hTM_14.1.2.1
        have qz_M_14 := hTM_14.1.2.2.1
        refine lv_goto (tgt := 4) hx hb dX7_raceToEnd_15 (by decide) ?_
        exact ih _ _ _ _ hTM_14 (by have qe := isEnded_lt hc_11; have qn := raceOn_sec hF_13; rw [qn, inc_I (N := 400) qe (by decide)]; omega) hr_6 hP hS (lv_sub hl [0] rfl)
  exact lp4 _ _ _ _ _ hTM_3 (by omega) hr_6 hP hS (lv_sub hl [0] rfl)
def rm_X7_worthOf : Room := { frames := 1, cells := 0, slots := 0, locals := 20 }
theorem gm_X7_worthOf : Cond.instanceMethod yX7_worthOf ∈ wsL_law ∧ Cond.selects RX7 yX7_worthOf yX7_worthOf ∈ wsL_law ∧ Cond.initialized RX7 ∈ wsL_law ∧ Cond.code yX7_worthOf cX7_worthOf 2 (some .int) ∈ wsL_law := ⟨gw_27_15, gw_27_16, gw_1_5, gw_27_17⟩
theorem gd_X7_worthOf : yX7_worthOf.cls = RX7 ∧ yX7_worthOf.cls ≠ "java/lang/invoke/MethodHandle" ∧ yX7_worthOf.cls ≠ "java/lang/invoke/VarHandle" ∧ (parseMethodDescriptor yX7_worthOf.desc).map (fun d => d.parameters.length) = some 1 := by decide +kernel
set_option maxRecDepth 100000 in
set_option maxHeartbeats 0 in
theorem c_X7_worthOf {l : Launch} {D : va_G} {k : Nat → ClassId} {ad : Nat → Nat} (had : InjN 31 ad) (M : Mem) (a1 : Int32) (hI : MI M) (hbx : 0 ≤ a1.toInt ∧ a1.toInt < 4) : Met l yX7_worthOf (Cond.code yX7_worthOf cX7_worthOf 2 (some .int) :: wsL_law) rm_X7_worthOf (va_Pc [.ref (ad 0), .int a1] (GW 31 ad D k (cM ad k M))) (va_Qi (fun r u => f_X7_worthOf M a1 = r ∧ u = M) (fun u t => GW 31 ad D k (cM ad k u) t) (AW 31 ad)) 0 0 (AW 31 ad) := by
  refine met_i (g := cM ad k) (M := M) (plainFor_of_name (by decide)) (Nat.le_of_ble_eq_true rfl) ?_
  intro p e s m args below meth c Q ls hx hb hml hG hown hK hret hP hS hl
  have hl : lv_has ls 2 [(0, .ref (ad 0)), (1, .int a1)] := hl
  obtain ⟨V, hV⟩ : ∃ V, f_X7_worthOf M a1 = V := ⟨_, rfl⟩
  have he := hV
  unfold f_X7_worthOf at he
  have hT0 : TI M M := TI_rf hI
  have qb_M := hI.1
  have qs_M := hI.2.1
  have qz_M := hI.2.2.1
  refine lv_aload_n hx hb dX7_worthOf_0 rfl (lv_at hl 0 rfl) ?_
  refine gX7_14 hx hb hG hown hK hP gw_4_19 dX7_worthOf_1 ?_
  refine lv_iload_n hx hb dX7_worthOf_4 rfl (lv_at hl 1 rfl) ?_
  refine al_M7 hx hb hK hP (vin_I (by omega) (by omega)) dX7_worthOf_5 ?_
  refine lv_aload_n hx hb dX7_worthOf_6 rfl (lv_at hl 0 rfl) ?_
  refine gX7_13 hx hb hG hown hK hP gw_4_18 dX7_worthOf_7 ?_
  refine lv_iload_n hx hb dX7_worthOf_10 rfl (lv_at hl 1 rfl) ?_
  refine al_M6 hx hb hK hP (vin_I (by omega) (by omega)) dX7_worthOf_11 ?_
  refine callS_i [.int (M 6 a1.toNatClampNeg)] [.int (M 7 a1.toNatClampNeg)] hx hb hml hG hown hK (c_X7_plainly had (M := M)  (M 6 a1.toNatClampNeg)) gw_23_10 gm_X7_plainly gd_X7_plainly rfl rfl ⟨Nat.le_of_ble_eq_true rfl, Nat.le_of_ble_eq_true rfl⟩ ⟨Nat.le_refl _, Nat.le_refl _⟩ hP (fun _ h => h) hS rfl hl.1 rfl (Nat.le_of_ble_eq_true rfl) dX7_worthOf_12 (fun r_1 u_3 H locs hF_2 hP hS => ?_)
  obtain ⟨hF_2, hu⟩ := hF_2; rw [hu] at hP; subst hF_2
  refine lv_iconst (v := 2) hx hb dX7_worthOf_15 (by decide) ?_
  refine lv_idiv hx hb dX7_worthOf_16 (by decide) ?_
  refine lv_isub hx hb dX7_worthOf_17 ?_
  exact hret _ _ _ _ _ _ ⟨hV.trans he.symm, rfl⟩ hP hS dX7_worthOf_18
def rm_X7_isAhead : Room := { frames := 2, cells := 0, slots := 0, locals := 41 }
theorem gm_X7_isAhead : Cond.instanceMethod yX7_isAhead ∈ wsL_law ∧ Cond.selects RX7 yX7_isAhead yX7_isAhead ∈ wsL_law ∧ Cond.initialized RX7 ∈ wsL_law ∧ Cond.code yX7_isAhead cX7_isAhead 3 (some .boolean) ∈ wsL_law := ⟨gw_27_11, gw_27_12, gw_1_5, gw_27_13⟩
theorem gd_X7_isAhead : yX7_isAhead.cls = RX7 ∧ yX7_isAhead.cls ≠ "java/lang/invoke/MethodHandle" ∧ yX7_isAhead.cls ≠ "java/lang/invoke/VarHandle" ∧ (parseMethodDescriptor yX7_isAhead.desc).map (fun d => d.parameters.length) = some 2 := by decide +kernel
set_option maxRecDepth 100000 in
set_option maxHeartbeats 0 in
theorem c_X7_isAhead {l : Launch} {D : va_G} {k : Nat → ClassId} {ad : Nat → Nat} (had : InjN 31 ad) (M : Mem) (a1 : Int32) (a2 : Int32) (hI : MI M) (hbx : 0 ≤ a1.toInt ∧ a1.toInt < 4) (hb2 : 0 ≤ a2.toInt ∧ a2.toInt < 4) : Met l yX7_isAhead (Cond.code yX7_isAhead cX7_isAhead 3 (some .boolean) :: wsL_law) rm_X7_isAhead (va_Pc [.ref (ad 0), .int a1, .int a2] (GW 31 ad D k (cM ad k M))) (va_Qi (fun r u => (r = 0 ∨ r = 1) ∧ f_X7_isAhead M a1 a2 = r ∧ u = M) (fun u t => GW 31 ad D k (cM ad k u) t) (AW 31 ad)) 0 0 (AW 31 ad) := by
  refine met_z (g := cM ad k) (M := M) (plainFor_of_name (by decide)) (Nat.le_of_ble_eq_true rfl) ?_
  intro p e s m args below meth c Q ls hx hb hml hG hown hK hret hP hS hl
  have hl : lv_has ls 3 [(0, .ref (ad 0)), (1, .int a1), (2, .int a2)] := hl
  obtain ⟨V, hV⟩ : ∃ V, f_X7_isAhead M a1 a2 = V := ⟨_, rfl⟩
  have he := hV
  unfold f_X7_isAhead at he
  have hT0 : TI M M := TI_rf hI
  have qb_M := hI.1
  have qs_M := hI.2.1
  have qz_M := hI.2.2.1
  refine lv_aload_n hx hb dX7_isAhead_0 rfl (lv_at hl 0 rfl) ?_
  refine lv_iload_n hx hb dX7_isAhead_1 rfl (lv_at hl 1 rfl) ?_
  refine call_i [.int a1] [] hx hb hml hG hown hK (c_X7_isIn had M a1 hT0.1 (by omega)) gw_18_0 gm_X7_isIn gd_X7_isIn rfl rfl ⟨Nat.le_of_ble_eq_true rfl, Nat.le_of_ble_eq_true rfl⟩ ⟨Nat.le_refl _, Nat.le_refl _⟩ (rX7 hK hP) hP (fun _ h => h) hS rfl hl.1 rfl (Nat.le_of_ble_eq_true rfl) dX7_isAhead_2 (fun r_1 u_3 H locs hF_2 hP hS => ?_)
  obtain ⟨hz_4, hF_2, hu⟩ := hF_2; rw [hu] at hP; subst hF_2
  refine lv_aload_n hx hb dX7_isAhead_5 rfl (lv_at hl 0 rfl) ?_
  refine lv_iload_n hx hb dX7_isAhead_6 rfl (lv_at hl 2 rfl) ?_
  refine call_i [.int a2] [.int (f_X7_isIn M a1)] hx hb hml hG hown hK (c_X7_isIn had M a2 hT0.1 (by omega)) gw_18_0 gm_X7_isIn gd_X7_isIn rfl rfl ⟨Nat.le_of_ble_eq_true rfl, Nat.le_of_ble_eq_true rfl⟩ ⟨Nat.le_refl _, Nat.le_refl _⟩ (rX7 hK hP) hP (fun _ h => h) hS rfl hl.1 rfl (Nat.le_of_ble_eq_true rfl) dX7_isAhead_7 (fun r_5 u_7 H locs hF_6 hP hS => ?_)
  obtain ⟨hz_8, hF_6, hu⟩ := hF_6; rw [hu] at hP; subst hF_6
  refine lv_icmp_ne (tgt := 36) hx hb dX7_isAhead_10 (by decide) (fun hc_9 => ?_) (fun hc_9 => ?_)
  · have he := ite_t he hc_9
    refine lv_aload_n hx hb dX7_isAhead_36 rfl (lv_at hl 0 rfl) ?_
    refine lv_iload_n hx hb dX7_isAhead_37 rfl (lv_at hl 1 rfl) ?_
    refine call_i [.int a1] [] hx hb hml hG hown hK (c_X7_isIn had M a1 hT0.1 (by have q0 : (f_X7_isIn M a1).toInt ≠ (f_X7_isIn M a2).toInt := ne_I hc_9; omega)) gw_18_0 gm_X7_isIn gd_X7_isIn rfl rfl ⟨Nat.le_of_ble_eq_true rfl, Nat.le_of_ble_eq_true rfl⟩ ⟨Nat.le_refl _, Nat.le_refl _⟩ (rX7 hK hP) hP (fun _ h => h) hS rfl hl.1 rfl (Nat.le_of_ble_eq_true rfl) dX7_isAhead_38 (fun r_10 u_12 H locs hF_11 hP hS => ?_)
    obtain ⟨hz_13, hF_11, hu⟩ := hF_11; rw [hu] at hP; subst hF_11
    obtain ⟨t_22, hr_15, he⟩ := bnd_ex he
    have j72 : ∀ (H : Heap) (locs : List Loc) (ls : Array Slot), (t_22 = 0 ∨ t_22 = 1) → va_P D vwCl (wld 31 ad (cM ad k M)) H → va_S (AW 31 ad) s.heap H locs → lv_has ls 3 [] → W p l e rm_X7_isAhead s m args below meth c H locs 0 0 Q (F0 m 72 ls [.int t_22]) := by
      intro H locs ls zt_22 hP hS hl
      exact hret _ _ _ _ _ _ ⟨zt_22, (hV.trans he.symm), rfl⟩ (nz01 zt_22) hP hS dX7_isAhead_72
    refine lv_if_eq (tgt := 71) hx hb dX7_isAhead_41 (by decide) (fun hc_14 => ?_) (fun hc_14 => ?_)
    · have hr_15 := ite_t hr_15 hc_14
      refine lv_iconst (v := 0) hx hb dX7_isAhead_71 (by decide) ?_
      cases hr_15
      exact j72 _ _ _ (Or.inl rfl) hP hS (lv_sub hl [] rfl)
    · have hr_15 := ite_f hr_15 hc_14
      refine lv_aload_n hx hb dX7_isAhead_44 rfl (lv_at hl 0 rfl) ?_
      refine lv_iload_n hx hb dX7_isAhead_45 rfl (lv_at hl 2 rfl) ?_
      refine call_i [.int a2] [] hx hb hml hG hown hK (c_X7_isIn had M a2 hT0.1 (by have q0 : (f_X7_isIn M a1).toInt ≠ (f_X7_isIn M a2).toInt := ne_I hc_9; have q1 : (f_X7_isIn M a1).toInt ≠ 0 := ne_I hc_14; omega)) gw_18_0 gm_X7_isIn gd_X7_isIn rfl rfl ⟨Nat.le_of_ble_eq_true rfl, Nat.le_of_ble_eq_true rfl⟩ ⟨Nat.le_refl _, Nat.le_refl _⟩ (rX7 hK hP) hP (fun _ h => h) hS rfl hl.1 rfl (Nat.le_of_ble_eq_true rfl) dX7_isAhead_46 (fun r_16 u_18 H locs hF_17 hP hS => ?_)
      obtain ⟨hz_19, hF_17, hu⟩ := hF_17; rw [hu] at hP; subst hF_17
      refine lv_if_eq (tgt := 67) hx hb dX7_isAhead_49 (by decide) (fun hc_20 => ?_) (fun hc_20 => ?_)
      · have hr_15 := ite_t hr_15 hc_20
        refine lv_iconst (v := 1) hx hb dX7_isAhead_67 (by decide) ?_
        refine lv_goto (tgt := 72) hx hb dX7_isAhead_68 (by decide) ?_
        cases hr_15
        exact j72 _ _ _ (Or.inr rfl) hP hS (lv_sub hl [] rfl)
      · have hr_15 := ite_f hr_15 hc_20
        refine lv_aload_n hx hb dX7_isAhead_52 rfl (lv_at hl 0 rfl) ?_
        refine gX7_17 hx hb hG hown hK hP gw_4_22 dX7_isAhead_53 ?_
        refine lv_iload_n hx hb dX7_isAhead_56 rfl (lv_at hl 1 rfl) ?_
        refine al_M10 hx hb hK hP (vin_I (by have q0 : (f_X7_isIn M a1).toInt ≠ (f_X7_isIn M a2).toInt := ne_I hc_9; have q1 : (f_X7_isIn M a1).toInt ≠ 0 := ne_I hc_14; have q2 : (f_X7_isIn M a2).toInt ≠ 0 := ne_I hc_20; omega) (by have q0 : (f_X7_isIn M a1).toInt ≠ (f_X7_isIn M a2).toInt := ne_I hc_9; have q1 : (f_X7_isIn M a1).toInt ≠ 0 := ne_I hc_14; have q2 : (f_X7_isIn M a2).toInt ≠ 0 := ne_I hc_20; omega)) dX7_isAhead_57 ?_
        refine lv_aload_n hx hb dX7_isAhead_58 rfl (lv_at hl 0 rfl) ?_
        refine gX7_17 hx hb hG hown hK hP gw_4_22 dX7_isAhead_59 ?_
        refine lv_iload_n hx hb dX7_isAhead_62 rfl (lv_at hl 2 rfl) ?_
        refine al_M10 hx hb hK hP (vin_I (by have q0 : (f_X7_isIn M a1).toInt ≠ (f_X7_isIn M a2).toInt := ne_I hc_9; have q1 : (f_X7_isIn M a1).toInt ≠ 0 := ne_I hc_14; have q2 : (f_X7_isIn M a2).toInt ≠ 0 := ne_I hc_20; omega) (by have q0 : (f_X7_isIn M a1).toInt ≠ (f_X7_isIn M a2).toInt := ne_I hc_9; have q1 : (f_X7_isIn M a1).toInt ≠ 0 := ne_I hc_14; have q2 : (f_X7_isIn M a2).toInt ≠ 0 := ne_I hc_20; omega)) dX7_isAhead_63 ?_
        refine lv_icmp_ge (tgt := 71) hx hb dX7_isAhead_64 (by decide) (fun hc_21 => ?_) (fun hc_21 => ?_)
        · have hr_15 := ite_t hr_15 hc_21
          refine lv_iconst (v := 0) hx hb dX7_isAhead_71 (by decide) ?_
          cases hr_15
          exact j72 _ _ _ (Or.inl rfl) hP hS (lv_sub hl [] rfl)
        · have hr_15 := ite_f hr_15 hc_21
          refine lv_iconst (v := 1) hx hb dX7_isAhead_67 (by decide) ?_
          refine lv_goto (tgt := 72) hx hb dX7_isAhead_68 (by decide) ?_
          cases hr_15
          exact j72 _ _ _ (Or.inr rfl) hP hS (lv_sub hl [] rfl)
  · have he := ite_f he (fun q => q hc_9)
    refine lv_aload_n hx hb dX7_isAhead_13 rfl (lv_at hl 0 rfl) ?_
    refine lv_iload_n hx hb dX7_isAhead_14 rfl (lv_at hl 1 rfl) ?_
    refine call_i [.int a1] [] hx hb hml hG hown hK (c_X7_isIn had M a1 hT0.1 (by have q0 : (f_X7_isIn M a1).toInt = (f_X7_isIn M a2).toInt := congrArg Int32.toInt hc_9; omega)) gw_18_0 gm_X7_isIn gd_X7_isIn rfl rfl ⟨Nat.le_of_ble_eq_true rfl, Nat.le_of_ble_eq_true rfl⟩ ⟨Nat.le_refl _, Nat.le_refl _⟩ (rX7 hK hP) hP (fun _ h => h) hS rfl hl.1 rfl (Nat.le_of_ble_eq_true rfl) dX7_isAhead_15 (fun r_23 u_25 H locs hF_24 hP hS => ?_)
    obtain ⟨hz_26, hF_24, hu⟩ := hF_24; rw [hu] at hP; subst hF_24
    refine lv_if_eq (tgt := 73) hx hb dX7_isAhead_18 (by decide) (fun hc_27 => ?_) (fun hc_27 => ?_)
    · have he := ite_t he hc_27
      refine lv_aload_n hx hb dX7_isAhead_73 rfl (lv_at hl 0 rfl) ?_
      refine lv_iload_n hx hb dX7_isAhead_74 rfl (lv_at hl 1 rfl) ?_
      refine call_i [.int a1] [] hx hb hml hG hown hK (c_X7_worthOf had M a1 hT0.1 (by have q0 : (f_X7_isIn M a1).toInt = (f_X7_isIn M a2).toInt := congrArg Int32.toInt hc_9; have q1 : (f_X7_isIn M a1).toInt = 0 := congrArg Int32.toInt hc_27; omega)) gw_27_14 gm_X7_worthOf gd_X7_worthOf rfl rfl ⟨Nat.le_of_ble_eq_true rfl, Nat.le_of_ble_eq_true rfl⟩ ⟨Nat.le_refl _, Nat.le_refl _⟩ (rX7 hK hP) hP (fun _ h => h) hS rfl hl.1 rfl (Nat.le_of_ble_eq_true rfl) dX7_isAhead_75 (fun r_28 u_30 H locs hF_29 hP hS => ?_)
      obtain ⟨hF_29, hu⟩ := hF_29; rw [hu] at hP; subst hF_29
      refine lv_aload_n hx hb dX7_isAhead_78 rfl (lv_at hl 0 rfl) ?_
      refine lv_iload_n hx hb dX7_isAhead_79 rfl (lv_at hl 2 rfl) ?_
      refine call_i [.int a2] [.int (f_X7_worthOf M a1)] hx hb hml hG hown hK (c_X7_worthOf had M a2 hT0.1 (by have q0 : (f_X7_isIn M a1).toInt = (f_X7_isIn M a2).toInt := congrArg Int32.toInt hc_9; have q1 : (f_X7_isIn M a1).toInt = 0 := congrArg Int32.toInt hc_27; omega)) gw_27_14 gm_X7_worthOf gd_X7_worthOf rfl rfl ⟨Nat.le_of_ble_eq_true rfl, Nat.le_of_ble_eq_true rfl⟩ ⟨Nat.le_refl _, Nat.le_refl _⟩ (rX7 hK hP) hP (fun _ h => h) hS rfl hl.1 rfl (Nat.le_of_ble_eq_true rfl) dX7_isAhead_80 (fun r_31 u_33 H locs hF_32 hP hS => ?_)
      obtain ⟨hF_32, hu⟩ := hF_32; rw [hu] at hP; subst hF_32
      obtain ⟨t_44, hr_35, he⟩ := bnd_ex he
      have j117 : ∀ (H : Heap) (locs : List Loc) (ls : Array Slot), (t_44 = 0 ∨ t_44 = 1) → va_P D vwCl (wld 31 ad (cM ad k M)) H → va_S (AW 31 ad) s.heap H locs → lv_has ls 3 [] → W p l e rm_X7_isAhead s m args below meth c H locs 0 0 Q (F0 m 117 ls [.int t_44]) := by
        intro H locs ls zt_44 hP hS hl
        exact hret _ _ _ _ _ _ ⟨zt_44, (hV.trans he.symm), rfl⟩ (nz01 zt_44) hP hS dX7_isAhead_117
      refine lv_icmp_eq (tgt := 107) hx hb dX7_isAhead_83 (by decide) (fun hc_34 => ?_) (fun hc_34 => ?_)
      · have hr_35 := ite_t hr_35 hc_34
        refine lv_iload_n hx hb dX7_isAhead_107 rfl (lv_at hl 1 rfl) ?_
        refine lv_iload_n hx hb dX7_isAhead_108 rfl (lv_at hl 2 rfl) ?_
        refine lv_icmp_ge (tgt := 116) hx hb dX7_isAhead_109 (by decide) (fun hc_36 => ?_) (fun hc_36 => ?_)
        · have hr_35 := ite_t hr_35 hc_36
          refine lv_iconst (v := 0) hx hb dX7_isAhead_116 (by decide) ?_
          cases hr_35
          exact j117 _ _ _ (Or.inl rfl) hP hS (lv_sub hl [] rfl)
        · have hr_35 := ite_f hr_35 hc_36
          refine lv_iconst (v := 1) hx hb dX7_isAhead_112 (by decide) ?_
          refine lv_goto (tgt := 117) hx hb dX7_isAhead_113 (by decide) ?_
          cases hr_35
          exact j117 _ _ _ (Or.inr rfl) hP hS (lv_sub hl [] rfl)
      · have hr_35 := ite_f hr_35 hc_34
        refine lv_aload_n hx hb dX7_isAhead_86 rfl (lv_at hl 0 rfl) ?_
        refine lv_iload_n hx hb dX7_isAhead_87 rfl (lv_at hl 1 rfl) ?_
        refine call_i [.int a1] [] hx hb hml hG hown hK (c_X7_worthOf had M a1 hT0.1 (by have q0 : (f_X7_isIn M a1).toInt = (f_X7_isIn M a2).toInt := congrArg Int32.toInt hc_9; have q1 : (f_X7_isIn M a1).toInt = 0 := congrArg Int32.toInt hc_27; have q2 : (f_X7_worthOf M a1).toInt ≠ (f_X7_worthOf M a2).toInt := ne_I hc_34; omega)) gw_27_14 gm_X7_worthOf gd_X7_worthOf rfl rfl ⟨Nat.le_of_ble_eq_true rfl, Nat.le_of_ble_eq_true rfl⟩ ⟨Nat.le_refl _, Nat.le_refl _⟩ (rX7 hK hP) hP (fun _ h => h) hS rfl hl.1 rfl (Nat.le_of_ble_eq_true rfl) dX7_isAhead_88 (fun r_37 u_39 H locs hF_38 hP hS => ?_)
        obtain ⟨hF_38, hu⟩ := hF_38; rw [hu] at hP; subst hF_38
        refine lv_aload_n hx hb dX7_isAhead_91 rfl (lv_at hl 0 rfl) ?_
        refine lv_iload_n hx hb dX7_isAhead_92 rfl (lv_at hl 2 rfl) ?_
        refine call_i [.int a2] [.int (f_X7_worthOf M a1)] hx hb hml hG hown hK (c_X7_worthOf had M a2 hT0.1 (by have q0 : (f_X7_isIn M a1).toInt = (f_X7_isIn M a2).toInt := congrArg Int32.toInt hc_9; have q1 : (f_X7_isIn M a1).toInt = 0 := congrArg Int32.toInt hc_27; have q2 : (f_X7_worthOf M a1).toInt ≠ (f_X7_worthOf M a2).toInt := ne_I hc_34; omega)) gw_27_14 gm_X7_worthOf gd_X7_worthOf rfl rfl ⟨Nat.le_of_ble_eq_true rfl, Nat.le_of_ble_eq_true rfl⟩ ⟨Nat.le_refl _, Nat.le_refl _⟩ (rX7 hK hP) hP (fun _ h => h) hS rfl hl.1 rfl (Nat.le_of_ble_eq_true rfl) dX7_isAhead_93 (fun r_40 u_42 H locs hF_41 hP hS => ?_)
        obtain ⟨hF_41, hu⟩ := hF_41; rw [hu] at hP; subst hF_41
        refine lv_icmp_le (tgt := 103) hx hb dX7_isAhead_96 (by decide) (fun hc_43 => ?_) (fun hc_43 => ?_)
        · have hr_35 := ite_t hr_35 hc_43
          refine lv_iconst (v := 0) hx hb dX7_isAhead_103 (by decide) ?_
          refine lv_goto (tgt := 117) hx hb dX7_isAhead_104 (by decide) ?_
          cases hr_35
          exact j117 _ _ _ (Or.inl rfl) hP hS (lv_sub hl [] rfl)
        · have hr_35 := ite_f hr_35 hc_43
          refine lv_iconst (v := 1) hx hb dX7_isAhead_99 (by decide) ?_
          refine lv_goto (tgt := 117) hx hb dX7_isAhead_100 (by decide) ?_
          cases hr_35
          exact j117 _ _ _ (Or.inr rfl) hP hS (lv_sub hl [] rfl)
    · have he := ite_f he hc_27
      refine lv_aload_n hx hb dX7_isAhead_21 rfl (lv_at hl 0 rfl) ?_
      refine gX7_17 hx hb hG hown hK hP gw_4_22 dX7_isAhead_22 ?_
      refine lv_iload_n hx hb dX7_isAhead_25 rfl (lv_at hl 1 rfl) ?_
      refine al_M10 hx hb hK hP (vin_I (by have q0 : (f_X7_isIn M a1).toInt = (f_X7_isIn M a2).toInt := congrArg Int32.toInt hc_9; have q1 : (f_X7_isIn M a1).toInt ≠ 0 := ne_I hc_27; omega) (by have q0 : (f_X7_isIn M a1).toInt = (f_X7_isIn M a2).toInt := congrArg Int32.toInt hc_9; have q1 : (f_X7_isIn M a1).toInt ≠ 0 := ne_I hc_27; omega)) dX7_isAhead_26 ?_
      refine lv_aload_n hx hb dX7_isAhead_27 rfl (lv_at hl 0 rfl) ?_
      refine gX7_17 hx hb hG hown hK hP gw_4_22 dX7_isAhead_28 ?_
      refine lv_iload_n hx hb dX7_isAhead_31 rfl (lv_at hl 2 rfl) ?_
      refine al_M10 hx hb hK hP (vin_I (by have q0 : (f_X7_isIn M a1).toInt = (f_X7_isIn M a2).toInt := congrArg Int32.toInt hc_9; have q1 : (f_X7_isIn M a1).toInt ≠ 0 := ne_I hc_27; omega) (by have q0 : (f_X7_isIn M a1).toInt = (f_X7_isIn M a2).toInt := congrArg Int32.toInt hc_9; have q1 : (f_X7_isIn M a1).toInt ≠ 0 := ne_I hc_27; omega)) dX7_isAhead_32 ?_
      refine lv_icmp_eq (tgt := 73) hx hb dX7_isAhead_33 (by decide) (fun hc_45 => ?_) (fun hc_45 => ?_)
      · have he := ite_t he hc_45
        refine lv_aload_n hx hb dX7_isAhead_73 rfl (lv_at hl 0 rfl) ?_
        refine lv_iload_n hx hb dX7_isAhead_74 rfl (lv_at hl 1 rfl) ?_
        refine call_i [.int a1] [] hx hb hml hG hown hK (c_X7_worthOf had M a1 hT0.1 (by have q0 : (f_X7_isIn M a1).toInt = (f_X7_isIn M a2).toInt := congrArg Int32.toInt hc_9; have q1 : (f_X7_isIn M a1).toInt ≠ 0 := ne_I hc_27; have q2 : (M 10 a1.toNatClampNeg).toInt = (M 10 a2.toNatClampNeg).toInt := congrArg Int32.toInt hc_45; omega)) gw_27_14 gm_X7_worthOf gd_X7_worthOf rfl rfl ⟨Nat.le_of_ble_eq_true rfl, Nat.le_of_ble_eq_true rfl⟩ ⟨Nat.le_refl _, Nat.le_refl _⟩ (rX7 hK hP) hP (fun _ h => h) hS rfl hl.1 rfl (Nat.le_of_ble_eq_true rfl) dX7_isAhead_75 (fun r_46 u_48 H locs hF_47 hP hS => ?_)
        obtain ⟨hF_47, hu⟩ := hF_47; rw [hu] at hP; subst hF_47
        refine lv_aload_n hx hb dX7_isAhead_78 rfl (lv_at hl 0 rfl) ?_
        refine lv_iload_n hx hb dX7_isAhead_79 rfl (lv_at hl 2 rfl) ?_
        refine call_i [.int a2] [.int (f_X7_worthOf M a1)] hx hb hml hG hown hK (c_X7_worthOf had M a2 hT0.1 (by have q0 : (f_X7_isIn M a1).toInt = (f_X7_isIn M a2).toInt := congrArg Int32.toInt hc_9; have q1 : (f_X7_isIn M a1).toInt ≠ 0 := ne_I hc_27; have q2 : (M 10 a1.toNatClampNeg).toInt = (M 10 a2.toNatClampNeg).toInt := congrArg Int32.toInt hc_45; omega)) gw_27_14 gm_X7_worthOf gd_X7_worthOf rfl rfl ⟨Nat.le_of_ble_eq_true rfl, Nat.le_of_ble_eq_true rfl⟩ ⟨Nat.le_refl _, Nat.le_refl _⟩ (rX7 hK hP) hP (fun _ h => h) hS rfl hl.1 rfl (Nat.le_of_ble_eq_true rfl) dX7_isAhead_80 (fun r_49 u_51 H locs hF_50 hP hS => ?_)
        obtain ⟨hF_50, hu⟩ := hF_50; rw [hu] at hP; subst hF_50
        obtain ⟨t_62, hr_53, he⟩ := bnd_ex he
        have j117 : ∀ (H : Heap) (locs : List Loc) (ls : Array Slot), (t_62 = 0 ∨ t_62 = 1) → va_P D vwCl (wld 31 ad (cM ad k M)) H → va_S (AW 31 ad) s.heap H locs → lv_has ls 3 [] → W p l e rm_X7_isAhead s m args below meth c H locs 0 0 Q (F0 m 117 ls [.int t_62]) := by
          intro H locs ls zt_62 hP hS hl
          exact hret _ _ _ _ _ _ ⟨zt_62, (hV.trans he.symm), rfl⟩ (nz01 zt_62) hP hS dX7_isAhead_117
        refine lv_icmp_eq (tgt := 107) hx hb dX7_isAhead_83 (by decide) (fun hc_52 => ?_) (fun hc_52 => ?_)
        · have hr_53 := ite_t hr_53 hc_52
          refine lv_iload_n hx hb dX7_isAhead_107 rfl (lv_at hl 1 rfl) ?_
          refine lv_iload_n hx hb dX7_isAhead_108 rfl (lv_at hl 2 rfl) ?_
          refine lv_icmp_ge (tgt := 116) hx hb dX7_isAhead_109 (by decide) (fun hc_54 => ?_) (fun hc_54 => ?_)
          · have hr_53 := ite_t hr_53 hc_54
            refine lv_iconst (v := 0) hx hb dX7_isAhead_116 (by decide) ?_
            cases hr_53
            exact j117 _ _ _ (Or.inl rfl) hP hS (lv_sub hl [] rfl)
          · have hr_53 := ite_f hr_53 hc_54
            refine lv_iconst (v := 1) hx hb dX7_isAhead_112 (by decide) ?_
            refine lv_goto (tgt := 117) hx hb dX7_isAhead_113 (by decide) ?_
            cases hr_53
            exact j117 _ _ _ (Or.inr rfl) hP hS (lv_sub hl [] rfl)
        · have hr_53 := ite_f hr_53 hc_52
          refine lv_aload_n hx hb dX7_isAhead_86 rfl (lv_at hl 0 rfl) ?_
          refine lv_iload_n hx hb dX7_isAhead_87 rfl (lv_at hl 1 rfl) ?_
          refine call_i [.int a1] [] hx hb hml hG hown hK (c_X7_worthOf had M a1 hT0.1 (by have q0 : (f_X7_isIn M a1).toInt = (f_X7_isIn M a2).toInt := congrArg Int32.toInt hc_9; have q1 : (f_X7_isIn M a1).toInt ≠ 0 := ne_I hc_27; have q2 : (M 10 a1.toNatClampNeg).toInt = (M 10 a2.toNatClampNeg).toInt := congrArg Int32.toInt hc_45; have q3 : (f_X7_worthOf M a1).toInt ≠ (f_X7_worthOf M a2).toInt := ne_I hc_52; omega)) gw_27_14 gm_X7_worthOf gd_X7_worthOf rfl rfl ⟨Nat.le_of_ble_eq_true rfl, Nat.le_of_ble_eq_true rfl⟩ ⟨Nat.le_refl _, Nat.le_refl _⟩ (rX7 hK hP) hP (fun _ h => h) hS rfl hl.1 rfl (Nat.le_of_ble_eq_true rfl) dX7_isAhead_88 (fun r_55 u_57 H locs hF_56 hP hS => ?_)
          obtain ⟨hF_56, hu⟩ := hF_56; rw [hu] at hP; subst hF_56
          refine lv_aload_n hx hb dX7_isAhead_91 rfl (lv_at hl 0 rfl) ?_
          refine lv_iload_n hx hb dX7_isAhead_92 rfl (lv_at hl 2 rfl) ?_
          refine call_i [.int a2] [.int (f_X7_worthOf M a1)] hx hb hml hG hown hK (c_X7_worthOf had M a2 hT0.1 (by have q0 : (f_X7_isIn M a1).toInt = (f_X7_isIn M a2).toInt := congrArg Int32.toInt hc_9; have q1 : (f_X7_isIn M a1).toInt ≠ 0 := ne_I hc_27; have q2 : (M 10 a1.toNatClampNeg).toInt = (M 10 a2.toNatClampNeg).toInt := congrArg Int32.toInt hc_45; have q3 : (f_X7_worthOf M a1).toInt ≠ (f_X7_worthOf M a2).toInt := ne_I hc_52; omega)) gw_27_14 gm_X7_worthOf gd_X7_worthOf rfl rfl ⟨Nat.le_of_ble_eq_true rfl, Nat.le_of_ble_eq_true rfl⟩ ⟨Nat.le_refl _, Nat.le_refl _⟩ (rX7 hK hP) hP (fun _ h => h) hS rfl hl.1 rfl (Nat.le_of_ble_eq_true rfl) dX7_isAhead_93 (fun r_58 u_60 H locs hF_59 hP hS => ?_)
          obtain ⟨hF_59, hu⟩ := hF_59; rw [hu] at hP; subst hF_59
          refine lv_icmp_le (tgt := 103) hx hb dX7_isAhead_96 (by decide) (fun hc_61 => ?_) (fun hc_61 => ?_)
          · have hr_53 := ite_t hr_53 hc_61
            refine lv_iconst (v := 0) hx hb dX7_isAhead_103 (by decide) ?_
            refine lv_goto (tgt := 117) hx hb dX7_isAhead_104 (by decide) ?_
            cases hr_53
            exact j117 _ _ _ (Or.inl rfl) hP hS (lv_sub hl [] rfl)
          · have hr_53 := ite_f hr_53 hc_61
            refine lv_iconst (v := 1) hx hb dX7_isAhead_99 (by decide) ?_
            refine lv_goto (tgt := 117) hx hb dX7_isAhead_100 (by decide) ?_
            cases hr_53
            exact j117 _ _ _ (Or.inr rfl) hP hS (lv_sub hl [] rfl)
      · have he := ite_f he hc_45
        refine lv_aload_n hx hb dX7_isAhead_36 rfl (lv_at hl 0 rfl) ?_
        refine lv_iload_n hx hb dX7_isAhead_37 rfl (lv_at hl 1 rfl) ?_
        refine call_i [.int a1] [] hx hb hml hG hown hK (c_X7_isIn had M a1 hT0.1 (by have q0 : (f_X7_isIn M a1).toInt = (f_X7_isIn M a2).toInt := congrArg Int32.toInt hc_9; have q1 : (f_X7_isIn M a1).toInt ≠ 0 := ne_I hc_27; have q2 : (M 10 a1.toNatClampNeg).toInt ≠ (M 10 a2.toNatClampNeg).toInt := ne_I hc_45; omega)) gw_18_0 gm_X7_isIn gd_X7_isIn rfl rfl ⟨Nat.le_of_ble_eq_true rfl, Nat.le_of_ble_eq_true rfl⟩ ⟨Nat.le_refl _, Nat.le_refl _⟩ (rX7 hK hP) hP (fun _ h => h) hS rfl hl.1 rfl (Nat.le_of_ble_eq_true rfl) dX7_isAhead_38 (fun r_63 u_65 H locs hF_64 hP hS => ?_)
        obtain ⟨hz_66, hF_64, hu⟩ := hF_64; rw [hu] at hP; subst hF_64
        obtain ⟨t_75, hr_68, he⟩ := bnd_ex he
        have j72 : ∀ (H : Heap) (locs : List Loc) (ls : Array Slot), (t_75 = 0 ∨ t_75 = 1) → va_P D vwCl (wld 31 ad (cM ad k M)) H → va_S (AW 31 ad) s.heap H locs → lv_has ls 3 [] → W p l e rm_X7_isAhead s m args below meth c H locs 0 0 Q (F0 m 72 ls [.int t_75]) := by
          intro H locs ls zt_75 hP hS hl
          exact hret _ _ _ _ _ _ ⟨zt_75, (hV.trans he.symm), rfl⟩ (nz01 zt_75) hP hS dX7_isAhead_72
        refine lv_if_eq (tgt := 71) hx hb dX7_isAhead_41 (by decide) (fun hc_67 => ?_) (fun hc_67 => ?_)
        · have hr_68 := ite_t hr_68 hc_67
          refine lv_iconst (v := 0) hx hb dX7_isAhead_71 (by decide) ?_
          cases hr_68
          exact j72 _ _ _ (Or.inl rfl) hP hS (lv_sub hl [] rfl)
        · have hr_68 := ite_f hr_68 hc_67
          refine lv_aload_n hx hb dX7_isAhead_44 rfl (lv_at hl 0 rfl) ?_
          refine lv_iload_n hx hb dX7_isAhead_45 rfl (lv_at hl 2 rfl) ?_
          refine call_i [.int a2] [] hx hb hml hG hown hK (c_X7_isIn had M a2 hT0.1 (by have q0 : (f_X7_isIn M a1).toInt = (f_X7_isIn M a2).toInt := congrArg Int32.toInt hc_9; have q1 : (f_X7_isIn M a1).toInt ≠ 0 := ne_I hc_27; have q2 : (M 10 a1.toNatClampNeg).toInt ≠ (M 10 a2.toNatClampNeg).toInt := ne_I hc_45; have q3 : (f_X7_isIn M a1).toInt ≠ 0 := ne_I hc_67; omega)) gw_18_0 gm_X7_isIn gd_X7_isIn rfl rfl ⟨Nat.le_of_ble_eq_true rfl, Nat.le_of_ble_eq_true rfl⟩ ⟨Nat.le_refl _, Nat.le_refl _⟩ (rX7 hK hP) hP (fun _ h => h) hS rfl hl.1 rfl (Nat.le_of_ble_eq_true rfl) dX7_isAhead_46 (fun r_69 u_71 H locs hF_70 hP hS => ?_)
          obtain ⟨hz_72, hF_70, hu⟩ := hF_70; rw [hu] at hP; subst hF_70
          refine lv_if_eq (tgt := 67) hx hb dX7_isAhead_49 (by decide) (fun hc_73 => ?_) (fun hc_73 => ?_)
          · have hr_68 := ite_t hr_68 hc_73
            refine lv_iconst (v := 1) hx hb dX7_isAhead_67 (by decide) ?_
            refine lv_goto (tgt := 72) hx hb dX7_isAhead_68 (by decide) ?_
            cases hr_68
            exact j72 _ _ _ (Or.inr rfl) hP hS (lv_sub hl [] rfl)
          · have hr_68 := ite_f hr_68 hc_73
            refine lv_aload_n hx hb dX7_isAhead_52 rfl (lv_at hl 0 rfl) ?_
            refine gX7_17 hx hb hG hown hK hP gw_4_22 dX7_isAhead_53 ?_
            refine lv_iload_n hx hb dX7_isAhead_56 rfl (lv_at hl 1 rfl) ?_
            refine al_M10 hx hb hK hP (vin_I (by have q0 : (f_X7_isIn M a1).toInt = (f_X7_isIn M a2).toInt := congrArg Int32.toInt hc_9; have q1 : (f_X7_isIn M a1).toInt ≠ 0 := ne_I hc_27; have q2 : (M 10 a1.toNatClampNeg).toInt ≠ (M 10 a2.toNatClampNeg).toInt := ne_I hc_45; have q3 : (f_X7_isIn M a1).toInt ≠ 0 := ne_I hc_67; have q4 : (f_X7_isIn M a2).toInt ≠ 0 := ne_I hc_73; omega) (by have q0 : (f_X7_isIn M a1).toInt = (f_X7_isIn M a2).toInt := congrArg Int32.toInt hc_9; have q1 : (f_X7_isIn M a1).toInt ≠ 0 := ne_I hc_27; have q2 : (M 10 a1.toNatClampNeg).toInt ≠ (M 10 a2.toNatClampNeg).toInt := ne_I hc_45; have q3 : (f_X7_isIn M a1).toInt ≠ 0 := ne_I hc_67; have q4 : (f_X7_isIn M a2).toInt ≠ 0 := ne_I hc_73; omega)) dX7_isAhead_57 ?_
            refine lv_aload_n hx hb dX7_isAhead_58 rfl (lv_at hl 0 rfl) ?_
            refine gX7_17 hx hb hG hown hK hP gw_4_22 dX7_isAhead_59 ?_
            refine lv_iload_n hx hb dX7_isAhead_62 rfl (lv_at hl 2 rfl) ?_
            refine al_M10 hx hb hK hP (vin_I (by have q0 : (f_X7_isIn M a1).toInt = (f_X7_isIn M a2).toInt := congrArg Int32.toInt hc_9; have q1 : (f_X7_isIn M a1).toInt ≠ 0 := ne_I hc_27; have q2 : (M 10 a1.toNatClampNeg).toInt ≠ (M 10 a2.toNatClampNeg).toInt := ne_I hc_45; have q3 : (f_X7_isIn M a1).toInt ≠ 0 := ne_I hc_67; have q4 : (f_X7_isIn M a2).toInt ≠ 0 := ne_I hc_73; omega) (by have q0 : (f_X7_isIn M a1).toInt = (f_X7_isIn M a2).toInt := congrArg Int32.toInt hc_9; have q1 : (f_X7_isIn M a1).toInt ≠ 0 := ne_I hc_27; have q2 : (M 10 a1.toNatClampNeg).toInt ≠ (M 10 a2.toNatClampNeg).toInt := ne_I hc_45; have q3 : (f_X7_isIn M a1).toInt ≠ 0 := ne_I hc_67; have q4 : (f_X7_isIn M a2).toInt ≠ 0 := ne_I hc_73; omega)) dX7_isAhead_63 ?_
            refine lv_icmp_ge (tgt := 71) hx hb dX7_isAhead_64 (by decide) (fun hc_74 => ?_) (fun hc_74 => ?_)
            · have hr_68 := ite_t hr_68 hc_74
              refine lv_iconst (v := 0) hx hb dX7_isAhead_71 (by decide) ?_
              cases hr_68
              exact j72 _ _ _ (Or.inl rfl) hP hS (lv_sub hl [] rfl)
            · have hr_68 := ite_f hr_68 hc_74
              refine lv_iconst (v := 1) hx hb dX7_isAhead_67 (by decide) ?_
              refine lv_goto (tgt := 72) hx hb dX7_isAhead_68 (by decide) ?_
              cases hr_68
              exact j72 _ _ _ (Or.inr rfl) hP hS (lv_sub hl [] rfl)
