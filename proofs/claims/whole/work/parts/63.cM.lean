-- @needs 12_dec 13_dec 14_dec 15_dec 34_hM 60_cM 62_cM
def rm_X7_layWinds : Room := { frames := 3, cells := 0, slots := 0, locals := 66 }
theorem gm_X7_layWinds : Cond.instanceMethod yX7_layWinds ∈ wsL_law ∧ Cond.selects RX7 yX7_layWinds yX7_layWinds ∈ wsL_law ∧ Cond.initialized RX7 ∈ wsL_law ∧ Cond.code yX7_layWinds cX7_layWinds 2 none ∈ wsL_law := ⟨gw_22_20, gw_22_21, gw_1_5, gw_22_22⟩
theorem gd_X7_layWinds : yX7_layWinds.cls = RX7 ∧ yX7_layWinds.cls ≠ "java/lang/invoke/MethodHandle" ∧ yX7_layWinds.cls ≠ "java/lang/invoke/VarHandle" ∧ (parseMethodDescriptor yX7_layWinds.desc).map (fun d => d.parameters.length) = some 0 := by decide +kernel
set_option maxRecDepth 100000 in
set_option maxHeartbeats 0 in
theorem c_X7_layWinds {l : Launch} {D : va_G} {k : Nat → ClassId} {ad : Nat → Nat} (had : InjN 31 ad) (M : Mem) (hI : MI M) : Met l yX7_layWinds (Cond.code yX7_layWinds cX7_layWinds 2 none :: wsL_law) rm_X7_layWinds (va_Pc [.ref (ad 0)] (GW 31 ad D k (cM ad k M))) (va_Qv (fun u => (f_X7_layWinds M = u ∧ TI M u)) (fun u t => GW 31 ad D k (cM ad k u) t) (AW 31 ad)) 0 0 (AW 31 ad) := by
  refine met_v (g := cM ad k) (M := M) (plainFor_of_name (by decide)) (Nat.le_of_ble_eq_true rfl) ?_
  intro p e s m args below meth c Q ls hx hb hml hG hown hK hret hP hS hl
  have hl : lv_has ls 2 [(0, .ref (ad 0))] := hl
  obtain ⟨V, hV⟩ : ∃ V, f_X7_layWinds M = V := ⟨_, rfl⟩
  have he := hV
  unfold f_X7_layWinds at he
  have hT0 : TI M M := TI_rf hI
  have qb_M := hI.1
  have qs_M := hI.2.1
  have qz_M := hI.2.2.1
  refine lv_aload_n hx hb dX7_layWinds_0 rfl (lv_at hl 0 rfl) ?_
  refine gX7_29 hx hb hG hown hK hP gw_11_3 dX7_layWinds_1 ?_
  obtain ⟨M_50, hr_2, he⟩ := bnd_ex he
  have j61 : ∀ (H : Heap) (locs : List Loc) (ls : Array Slot), TI M M_50 → va_P D vwCl (wld 31 ad (cM ad k M_50)) H → va_S (AW 31 ad) s.heap H locs → lv_has ls 2 [] → W p l e rm_X7_layWinds s m args below meth c H locs 0 0 Q (F0 m 61 ls []) := by
    intro H locs ls hTM_50 hP hS hl
    have qb_M_50 := hTM_50.1.1
    have qs_M_50 := hTM_50.1.2.1
    have qz_M_50 := hTM_50.1.2.2.1
    exact hret _ _ _ _ _ ⟨(hV.trans he.symm), hTM_50⟩ hP hS dX7_layWinds_61
  refine lv_if_eq (tgt := 18) hx hb dX7_layWinds_4 (by decide) (fun hc_1 => ?_) (fun hc_1 => ?_)
  · have hr_2 := ite_t hr_2 hc_1
    refine lv_iconst (v := 0) hx hb dX7_layWinds_18 (by decide) ?_
    refine lv_istore_n (lv' := [(1, .int 0), (0, .ref (ad 0))]) hx hb dX7_layWinds_19 rfl hl (by decide) rfl (fun ls hl => ?_)
    obtain ⟨M_23, hr_15, hr_2⟩ := bnd_ex hr_2
    have j48 : ∀ (H : Heap) (locs : List Loc) (ls : Array Slot), TI M M_23 → va_P D vwCl (wld 31 ad (cM ad k M_23)) H → va_S (AW 31 ad) s.heap H locs → lv_has ls 2 [(0, .ref (ad 0))] → W p l e rm_X7_layWinds s m args below meth c H locs 0 0 Q (F0 m 48 ls []) := by
      intro H locs ls hTM_23 hP hS hl
      have qb_M_23 := hTM_23.1.1
      have qs_M_23 := hTM_23.1.2.1
      have qz_M_23 := hTM_23.1.2.2.1
      refine lv_aload_n hx hb dX7_layWinds_48 rfl (lv_at hl 0 rfl) ?_
      refine lv_iconst (v := 1) hx hb dX7_layWinds_49 (by decide) ?_
      refine pX7_29 hx hb hG hown hK hP had AW_in hS gw_11_3 (Or.inr rfl)  dX7_layWinds_50 (fun H locs hP hS => ?_)
      obtain ⟨M_24, eM_24⟩ : ∃ y : Mem, y = up2 M_23 0 29 1 := ⟨_, rfl⟩
      rw [← eM_24] at hP
      have hr_2 := bnd_at hr_2 eM_24
      have hTM_24 : TI M M_24 := by rw [eM_24]; exact TI_f hTM_23 (by decide)
      have qb_M_24 := hTM_24.1.1
      have qs_M_24 := hTM_24.1.2.1
      have qz_M_24 := hTM_24.1.2.2.1
      refine lv_aload_n hx hb dX7_layWinds_53 rfl (lv_at hl 0 rfl) ?_
      refine lv_aload_n hx hb dX7_layWinds_54 rfl (lv_at hl 0 rfl) ?_
      refine gX7_4 hx hb hG hown hK hP gw_6_23 dX7_layWinds_55 ?_
      refine pX7_30 hx hb hG hown hK hP had AW_in hS gw_22_23 dX7_layWinds_58 (fun H locs hP hS => ?_)
      obtain ⟨M_25, eM_25⟩ : ∃ y : Mem, y = up2 M_24 0 30 (M_24 0 4) := ⟨_, rfl⟩
      rw [← eM_25] at hP
      have hr_2 := bnd_at hr_2 eM_25
      have hTM_25 : TI M M_25 := by rw [eM_25]; exact TI_f hTM_24 (by decide)
      have qb_M_25 := hTM_25.1.1
      have qs_M_25 := hTM_25.1.2.1
      have qz_M_25 := hTM_25.1.2.2.1
      cases hr_2
      exact j61 _ _ _ hTM_25 hP hS (lv_sub hl [] rfl)
    have lp20 : ∀ (nn : Nat) (H : Heap) (locs : List Loc) (ls : Array Slot) (M_14 : Mem) (v_13 : Int32), (0 ≤ v_13.toInt) → (TI M M_14) → (401 - v_13.toInt).toNat < nn → lp_X7_layWinds_20 nn M_14 v_13 = M_23 → va_P D vwCl (wld 31 ad (cM ad k M_14)) H → va_S (AW 31 ad) s.heap H locs → lv_has ls 2 [(0, .ref (ad 0)), (1, .int v_13)] → W p l e rm_X7_layWinds s m args below meth c H locs 0 0 Q (F0 m 20 ls []) := by
      intro nn
      induction nn with
      | zero =>
        intro H locs ls M_14 v_13 h0v_13 hTM_14 hμ
        exact absurd hμ (Nat.not_lt_zero _)
      | succ nn ih =>
        intro H locs ls M_14 v_13 h0v_13 hTM_14 hμ hr_15 hP hS hl
        rw [lp_X7_layWinds_20] at hr_15
        have qb_M_14 := hTM_14.1.1
        have qs_M_14 := hTM_14.1.2.1
        have qz_M_14 := hTM_14.1.2.2.1
        refine lv_iload_n hx hb dX7_layWinds_20 rfl (lv_at hl 1 rfl) ?_
        refine lv_sipush (v := 400) hx hb dX7_layWinds_21 (by decide) ?_
        refine lv_icmp_gt (tgt := 48) hx hb dX7_layWinds_24 (by decide) (fun hc_16 => ?_) (fun hc_16 => ?_)
        · have hr_15 := ite_t hr_15 hc_16
          cases hr_15
          exact j48 _ _ _ hTM_14 hP hS (lv_sub hl [0] rfl)
        · have hr_15 := ite_f hr_15 hc_16
          refine lv_aload_n hx hb dX7_layWinds_27 rfl (lv_at hl 0 rfl) ?_
          refine gX7_28 hx hb hG hown hK hP gw_5_3 dX7_layWinds_28 ?_
          refine lv_iload_n hx hb dX7_layWinds_31 rfl (lv_at hl 1 rfl) ?_
          refine lv_aload_n hx hb dX7_layWinds_32 rfl (lv_at hl 0 rfl) ?_
          refine lv_iload_n hx hb dX7_layWinds_33 rfl (lv_at hl 1 rfl) ?_
          refine lv_aload_n hx hb dX7_layWinds_34 rfl (lv_at hl 0 rfl) ?_
          refine gX7_4 hx hb hG hown hK hP gw_6_23 dX7_layWinds_35 ?_
          refine call_i [.int v_13, .int (M_14 0 4)] [.int v_13, .ref (ad 17)] hx hb hml hG hown hK (c_X7_windBy had M_14 v_13 (M_14 0 4) hTM_14.1) gw_13_3 gm_X7_windBy gd_X7_windBy rfl rfl ⟨Nat.le_of_ble_eq_true rfl, Nat.le_of_ble_eq_true rfl⟩ ⟨Nat.le_refl _, Nat.le_refl _⟩ (rX7 hK hP) hP (fun _ h => h) hS rfl hl.1 rfl (Nat.le_of_ble_eq_true rfl) dX7_layWinds_38 (fun r_17 M_19 H locs hF_18 hP hS => ?_)
          obtain ⟨hF_18, hti_20⟩ := hF_18
          have hr_15 := bnd2_at hr_15 hF_18
          have hTM_19 : TI M M_19 := TI_tr hTM_14 hti_20
          have qb_M_19 := hTM_19.1.1
          have qs_M_19 := hTM_19.1.2.1
          have qz_M_19 := hTM_19.1.2.2.1
          refine as_M17 hx hb hK hP had AW_in hS (vin_I (by have q0 : v_13.toInt ≤ 400 := nlt_I hc_16; omega) (by have q0 : v_13.toInt ≤ 400 := nlt_I hc_16; omega)) dX7_layWinds_41 (fun H locs hP hS => ?_)
          obtain ⟨M_21, eM_21⟩ : ∃ y : Mem, y = up2 M_19 17 v_13.toNatClampNeg r_17 := ⟨_, rfl⟩
          rw [← eM_21] at hP
          have hr_15 := bnd_at hr_15 eM_21
          have hTM_21 : TI M M_21 := by rw [eM_21]; exact TI_a hTM_19 (by decide)
          have qb_M_21 := hTM_21.1.1
          have qs_M_21 := hTM_21.1.2.1
          have qz_M_21 := hTM_21.1.2.2.1
          obtain ⟨y_22, ey_22⟩ : ∃ y_22 : Int32, y_22 = v_13 + 1 := ⟨_, rfl⟩
          have hr_15 := bnd_at hr_15 ey_22
          refine lv_iinc (v := y_22) (lv' := [(1, .int y_22), (0, .ref (ad 0))]) hx hb dX7_layWinds_42 hl (k := 1) rfl (by rw [ey_22]; rfl) (by decide) rfl (fun ls hl => ?_)
          refine lv_goto (tgt := 20) hx hb dX7_layWinds_45 (by decide) ?_
          exact ih _ _ _ _ _ (by rw [ey_22, inc_I (N := 401) (Int.lt_add_one_of_le (nlt_I hc_16)) (by decide)]; omega) hTM_21 (by rw [ey_22]; exact mu_I hμ (Int.lt_add_one_of_le (nlt_I hc_16)) (by decide)) hr_15 hP hS (lv_sub hl [1, 0] rfl)
    exact lp20 _ _ _ _ _ _ (by decide) hT0 (by decide) hr_15 hP hS (lv_sub hl [1, 0] rfl)
  · have hr_2 := ite_f hr_2 hc_1
    refine lv_aload_n hx hb dX7_layWinds_7 rfl (lv_at hl 0 rfl) ?_
    refine gX7_30 hx hb hG hown hK hP gw_22_23 dX7_layWinds_8 ?_
    refine lv_aload_n hx hb dX7_layWinds_11 rfl (lv_at hl 0 rfl) ?_
    refine gX7_4 hx hb hG hown hK hP gw_6_23 dX7_layWinds_12 ?_
    refine lv_icmp_eq (tgt := 61) hx hb dX7_layWinds_15 (by decide) (fun hc_26 => ?_) (fun hc_26 => ?_)
    · have hr_2 := ite_t hr_2 hc_26
      cases hr_2
      exact j61 _ _ _ hT0 hP hS (lv_sub hl [] rfl)
    · have hr_2 := ite_f hr_2 hc_26
      refine lv_iconst (v := 0) hx hb dX7_layWinds_18 (by decide) ?_
      refine lv_istore_n (lv' := [(1, .int 0), (0, .ref (ad 0))]) hx hb dX7_layWinds_19 rfl hl (by decide) rfl (fun ls hl => ?_)
      obtain ⟨M_47, hr_39, hr_2⟩ := bnd_ex hr_2
      have j48 : ∀ (H : Heap) (locs : List Loc) (ls : Array Slot), TI M M_47 → va_P D vwCl (wld 31 ad (cM ad k M_47)) H → va_S (AW 31 ad) s.heap H locs → lv_has ls 2 [(0, .ref (ad 0))] → W p l e rm_X7_layWinds s m args below meth c H locs 0 0 Q (F0 m 48 ls []) := by
        intro H locs ls hTM_47 hP hS hl
        have qb_M_47 := hTM_47.1.1
        have qs_M_47 := hTM_47.1.2.1
        have qz_M_47 := hTM_47.1.2.2.1
        refine lv_aload_n hx hb dX7_layWinds_48 rfl (lv_at hl 0 rfl) ?_
        refine lv_iconst (v := 1) hx hb dX7_layWinds_49 (by decide) ?_
        refine pX7_29 hx hb hG hown hK hP had AW_in hS gw_11_3 (Or.inr rfl)  dX7_layWinds_50 (fun H locs hP hS => ?_)
        obtain ⟨M_48, eM_48⟩ : ∃ y : Mem, y = up2 M_47 0 29 1 := ⟨_, rfl⟩
        rw [← eM_48] at hP
        have hr_2 := bnd_at hr_2 eM_48
        have hTM_48 : TI M M_48 := by rw [eM_48]; exact TI_f hTM_47 (by decide)
        have qb_M_48 := hTM_48.1.1
        have qs_M_48 := hTM_48.1.2.1
        have qz_M_48 := hTM_48.1.2.2.1
        refine lv_aload_n hx hb dX7_layWinds_53 rfl (lv_at hl 0 rfl) ?_
        refine lv_aload_n hx hb dX7_layWinds_54 rfl (lv_at hl 0 rfl) ?_
        refine gX7_4 hx hb hG hown hK hP gw_6_23 dX7_layWinds_55 ?_
        refine pX7_30 hx hb hG hown hK hP had AW_in hS gw_22_23 dX7_layWinds_58 (fun H locs hP hS => ?_)
        obtain ⟨M_49, eM_49⟩ : ∃ y : Mem, y = up2 M_48 0 30 (M_48 0 4) := ⟨_, rfl⟩
        rw [← eM_49] at hP
        have hr_2 := bnd_at hr_2 eM_49
        have hTM_49 : TI M M_49 := by rw [eM_49]; exact TI_f hTM_48 (by decide)
        have qb_M_49 := hTM_49.1.1
        have qs_M_49 := hTM_49.1.2.1
        have qz_M_49 := hTM_49.1.2.2.1
        cases hr_2
        exact j61 _ _ _ hTM_49 hP hS (lv_sub hl [] rfl)
      have lp20 : ∀ (nn : Nat) (H : Heap) (locs : List Loc) (ls : Array Slot) (M_38 : Mem) (v_37 : Int32), (0 ≤ v_37.toInt) → (TI M M_38) → (401 - v_37.toInt).toNat < nn → lp_X7_layWinds_20' nn M_38 v_37 = M_47 → va_P D vwCl (wld 31 ad (cM ad k M_38)) H → va_S (AW 31 ad) s.heap H locs → lv_has ls 2 [(0, .ref (ad 0)), (1, .int v_37)] → W p l e rm_X7_layWinds s m args below meth c H locs 0 0 Q (F0 m 20 ls []) := by
        intro nn
        induction nn with
        | zero =>
          intro H locs ls M_38 v_37 h0v_37 hTM_38 hμ
          exact absurd hμ (Nat.not_lt_zero _)
        | succ nn ih =>
          intro H locs ls M_38 v_37 h0v_37 hTM_38 hμ hr_39 hP hS hl
          rw [lp_X7_layWinds_20'] at hr_39
          have qb_M_38 := hTM_38.1.1
          have qs_M_38 := hTM_38.1.2.1
          have qz_M_38 := hTM_38.1.2.2.1
          refine lv_iload_n hx hb dX7_layWinds_20 rfl (lv_at hl 1 rfl) ?_
          refine lv_sipush (v := 400) hx hb dX7_layWinds_21 (by decide) ?_
          refine lv_icmp_gt (tgt := 48) hx hb dX7_layWinds_24 (by decide) (fun hc_40 => ?_) (fun hc_40 => ?_)
          · have hr_39 := ite_t hr_39 hc_40
            cases hr_39
            exact j48 _ _ _ hTM_38 hP hS (lv_sub hl [0] rfl)
          · have hr_39 := ite_f hr_39 hc_40
            refine lv_aload_n hx hb dX7_layWinds_27 rfl (lv_at hl 0 rfl) ?_
            refine gX7_28 hx hb hG hown hK hP gw_5_3 dX7_layWinds_28 ?_
            refine lv_iload_n hx hb dX7_layWinds_31 rfl (lv_at hl 1 rfl) ?_
            refine lv_aload_n hx hb dX7_layWinds_32 rfl (lv_at hl 0 rfl) ?_
            refine lv_iload_n hx hb dX7_layWinds_33 rfl (lv_at hl 1 rfl) ?_
            refine lv_aload_n hx hb dX7_layWinds_34 rfl (lv_at hl 0 rfl) ?_
            refine gX7_4 hx hb hG hown hK hP gw_6_23 dX7_layWinds_35 ?_
            refine call_i [.int v_37, .int (M_38 0 4)] [.int v_37, .ref (ad 17)] hx hb hml hG hown hK (c_X7_windBy had M_38 v_37 (M_38 0 4) hTM_38.1) gw_13_3 gm_X7_windBy gd_X7_windBy rfl rfl ⟨Nat.le_of_ble_eq_true rfl, Nat.le_of_ble_eq_true rfl⟩ ⟨Nat.le_refl _, Nat.le_refl _⟩ (rX7 hK hP) hP (fun _ h => h) hS rfl hl.1 rfl (Nat.le_of_ble_eq_true rfl) dX7_layWinds_38 (fun r_41 M_43 H locs hF_42 hP hS => ?_)
            obtain ⟨hF_42, hti_44⟩ := hF_42
            have hr_39 := bnd2_at hr_39 hF_42
            have hTM_43 : TI M M_43 := TI_tr hTM_38 hti_44
            have qb_M_43 := hTM_43.1.1
            have qs_M_43 := hTM_43.1.2.1
            have qz_M_43 := hTM_43.1.2.2.1
            refine as_M17 hx hb hK hP had AW_in hS (vin_I (by have q0 : v_37.toInt ≤ 400 := nlt_I hc_40; omega) (by have q0 : v_37.toInt ≤ 400 := nlt_I hc_40; omega)) dX7_layWinds_41 (fun H locs hP hS => ?_)
            obtain ⟨M_45, eM_45⟩ : ∃ y : Mem, y = up2 M_43 17 v_37.toNatClampNeg r_41 := ⟨_, rfl⟩
            rw [← eM_45] at hP
            have hr_39 := bnd_at hr_39 eM_45
            have hTM_45 : TI M M_45 := by rw [eM_45]; exact TI_a hTM_43 (by decide)
            have qb_M_45 := hTM_45.1.1
            have qs_M_45 := hTM_45.1.2.1
            have qz_M_45 := hTM_45.1.2.2.1
            obtain ⟨y_46, ey_46⟩ : ∃ y_46 : Int32, y_46 = v_37 + 1 := ⟨_, rfl⟩
            have hr_39 := bnd_at hr_39 ey_46
            refine lv_iinc (v := y_46) (lv' := [(1, .int y_46), (0, .ref (ad 0))]) hx hb dX7_layWinds_42 hl (k := 1) rfl (by rw [ey_46]; rfl) (by decide) rfl (fun ls hl => ?_)
            refine lv_goto (tgt := 20) hx hb dX7_layWinds_45 (by decide) ?_
            exact ih _ _ _ _ _ (by rw [ey_46, inc_I (N := 401) (Int.lt_add_one_of_le (nlt_I hc_40)) (by decide)]; omega) hTM_45 (by rw [ey_46]; exact mu_I hμ (Int.lt_add_one_of_le (nlt_I hc_40)) (by decide)) hr_39 hP hS (lv_sub hl [1, 0] rfl)
      exact lp20 _ _ _ _ _ _ (by decide) hT0 (by decide) hr_39 hP hS (lv_sub hl [1, 0] rfl)
def rm_X7_isIn : Room := { frames := 0, cells := 0, slots := 0, locals := 0 }
theorem gm_X7_isIn : Cond.instanceMethod yX7_isIn ∈ wsL_law ∧ Cond.selects RX7 yX7_isIn yX7_isIn ∈ wsL_law ∧ Cond.initialized RX7 ∈ wsL_law ∧ Cond.code yX7_isIn cX7_isIn 2 (some .boolean) ∈ wsL_law := ⟨gw_18_11, gw_18_12, gw_1_5, gw_18_13⟩
theorem gd_X7_isIn : yX7_isIn.cls = RX7 ∧ yX7_isIn.cls ≠ "java/lang/invoke/MethodHandle" ∧ yX7_isIn.cls ≠ "java/lang/invoke/VarHandle" ∧ (parseMethodDescriptor yX7_isIn.desc).map (fun d => d.parameters.length) = some 1 := by decide +kernel
set_option maxRecDepth 100000 in
set_option maxHeartbeats 0 in
theorem c_X7_isIn {l : Launch} {D : va_G} {k : Nat → ClassId} {ad : Nat → Nat} (had : InjN 31 ad) (M : Mem) (a1 : Int32) (hI : MI M) (hbx : 0 ≤ a1.toInt ∧ a1.toInt < 4) : Met l yX7_isIn (Cond.code yX7_isIn cX7_isIn 2 (some .boolean) :: wsL_law) rm_X7_isIn (va_Pc [.ref (ad 0), .int a1] (GW 31 ad D k (cM ad k M))) (va_Qi (fun r u => (r = 0 ∨ r = 1) ∧ f_X7_isIn M a1 = r ∧ u = M) (fun u t => GW 31 ad D k (cM ad k u) t) (AW 31 ad)) 0 0 (AW 31 ad) := by
  refine met_z (g := cM ad k) (M := M) (plainFor_of_name (by decide)) (Nat.le_of_ble_eq_true rfl) ?_
  intro p e s m args below meth c Q ls hx hb hml hG hown hK hret hP hS hl
  have hl : lv_has ls 2 [(0, .ref (ad 0)), (1, .int a1)] := hl
  obtain ⟨V, hV⟩ : ∃ V, f_X7_isIn M a1 = V := ⟨_, rfl⟩
  have he := hV
  unfold f_X7_isIn at he
  have hT0 : TI M M := TI_rf hI
  have qb_M := hI.1
  have qs_M := hI.2.1
  have qz_M := hI.2.2.1
  refine lv_aload_n hx hb dX7_isIn_0 rfl (lv_at hl 0 rfl) ?_
  refine gX7_17 hx hb hG hown hK hP gw_4_20 dX7_isIn_1 ?_
  refine lv_iload_n hx hb dX7_isIn_4 rfl (lv_at hl 1 rfl) ?_
  refine al_M10 hx hb hK hP (vin_I (by omega) (by omega)) dX7_isIn_5 ?_
  obtain ⟨t_3, hr_2, he⟩ := bnd_ex he
  have j14 : ∀ (H : Heap) (locs : List Loc) (ls : Array Slot), (t_3 = 0 ∨ t_3 = 1) → va_P D vwCl (wld 31 ad (cM ad k M)) H → va_S (AW 31 ad) s.heap H locs → lv_has ls 2 [] → W p l e rm_X7_isIn s m args below meth c H locs 0 0 Q (F0 m 14 ls [.int t_3]) := by
    intro H locs ls zt_3 hP hS hl
    exact hret _ _ _ _ _ _ ⟨zt_3, (hV.trans he.symm), rfl⟩ (nz01 zt_3) hP hS dX7_isIn_14
  refine lv_if_lt (tgt := 13) hx hb dX7_isIn_6 (by decide) (fun hc_1 => ?_) (fun hc_1 => ?_)
  · have hr_2 := ite_t hr_2 hc_1
    refine lv_iconst (v := 0) hx hb dX7_isIn_13 (by decide) ?_
    cases hr_2
    exact j14 _ _ _ (Or.inl rfl) hP hS (lv_sub hl [] rfl)
  · have hr_2 := ite_f hr_2 hc_1
    refine lv_iconst (v := 1) hx hb dX7_isIn_9 (by decide) ?_
    refine lv_goto (tgt := 14) hx hb dX7_isIn_10 (by decide) ?_
    cases hr_2
    exact j14 _ _ _ (Or.inr rfl) hP hS (lv_sub hl [] rfl)
def rm_X7_isAtDist : Room := { frames := 0, cells := 0, slots := 0, locals := 0 }
theorem gm_X7_isAtDist : Cond.instanceMethod yX7_isAtDist ∈ wsL_law ∧ Cond.selects RX7 yX7_isAtDist yX7_isAtDist ∈ wsL_law ∧ Cond.initialized RX7 ∈ wsL_law ∧ Cond.code yX7_isAtDist cX7_isAtDist 2 (some .boolean) ∈ wsL_law := ⟨gw_23_13, gw_23_14, gw_1_5, gw_23_15⟩
theorem gd_X7_isAtDist : yX7_isAtDist.cls = RX7 ∧ yX7_isAtDist.cls ≠ "java/lang/invoke/MethodHandle" ∧ yX7_isAtDist.cls ≠ "java/lang/invoke/VarHandle" ∧ (parseMethodDescriptor yX7_isAtDist.desc).map (fun d => d.parameters.length) = some 1 := by decide +kernel
set_option maxRecDepth 100000 in
set_option maxHeartbeats 0 in
theorem c_X7_isAtDist {l : Launch} {D : va_G} {k : Nat → ClassId} {ad : Nat → Nat} (had : InjN 31 ad) (M : Mem) (a1 : Int32) (hI : MI M) (hbx : 0 ≤ a1.toInt ∧ a1.toInt < 4) : Met l yX7_isAtDist (Cond.code yX7_isAtDist cX7_isAtDist 2 (some .boolean) :: wsL_law) rm_X7_isAtDist (va_Pc [.ref (ad 0), .int a1] (GW 31 ad D k (cM ad k M))) (va_Qi (fun r u => (r = 0 ∨ r = 1) ∧ f_X7_isAtDist M a1 = r ∧ u = M) (fun u t => GW 31 ad D k (cM ad k u) t) (AW 31 ad)) 0 0 (AW 31 ad) := by
  refine met_z (g := cM ad k) (M := M) (plainFor_of_name (by decide)) (Nat.le_of_ble_eq_true rfl) ?_
  intro p e s m args below meth c Q ls hx hb hml hG hown hK hret hP hS hl
  have hl : lv_has ls 2 [(0, .ref (ad 0)), (1, .int a1)] := hl
  obtain ⟨V, hV⟩ : ∃ V, f_X7_isAtDist M a1 = V := ⟨_, rfl⟩
  have he := hV
  unfold f_X7_isAtDist at he
  have hT0 : TI M M := TI_rf hI
  have qb_M := hI.1
  have qs_M := hI.2.1
  have qz_M := hI.2.2.1
  refine lv_aload_n hx hb dX7_isAtDist_0 rfl (lv_at hl 0 rfl) ?_
  refine gX7_14 hx hb hG hown hK hP gw_4_17 dX7_isAtDist_1 ?_
  refine lv_iload_n hx hb dX7_isAtDist_4 rfl (lv_at hl 1 rfl) ?_
  refine al_M7 hx hb hK hP (vin_I (by omega) (by omega)) dX7_isAtDist_5 ?_
  refine lv_aload_n hx hb dX7_isAtDist_6 rfl (lv_at hl 0 rfl) ?_
  refine gX7_0 hx hb hG hown hK hP gw_4_8 dX7_isAtDist_7 ?_
  obtain ⟨t_3, hr_2, he⟩ := bnd_ex he
  have j18 : ∀ (H : Heap) (locs : List Loc) (ls : Array Slot), (t_3 = 0 ∨ t_3 = 1) → va_P D vwCl (wld 31 ad (cM ad k M)) H → va_S (AW 31 ad) s.heap H locs → lv_has ls 2 [] → W p l e rm_X7_isAtDist s m args below meth c H locs 0 0 Q (F0 m 18 ls [.int t_3]) := by
    intro H locs ls zt_3 hP hS hl
    exact hret _ _ _ _ _ _ ⟨zt_3, (hV.trans he.symm), rfl⟩ (nz01 zt_3) hP hS dX7_isAtDist_18
  refine lv_icmp_lt (tgt := 17) hx hb dX7_isAtDist_10 (by decide) (fun hc_1 => ?_) (fun hc_1 => ?_)
  · have hr_2 := ite_t hr_2 hc_1
    refine lv_iconst (v := 0) hx hb dX7_isAtDist_17 (by decide) ?_
    cases hr_2
    exact j18 _ _ _ (Or.inl rfl) hP hS (lv_sub hl [] rfl)
  · have hr_2 := ite_f hr_2 hc_1
    refine lv_iconst (v := 1) hx hb dX7_isAtDist_13 (by decide) ?_
    refine lv_goto (tgt := 18) hx hb dX7_isAtDist_14 (by decide) ?_
    cases hr_2
    exact j18 _ _ _ (Or.inr rfl) hP hS (lv_sub hl [] rfl)
def rm_X7_isBad : Room := { frames := 1, cells := 0, slots := 0, locals := 25 }
theorem gm_X7_isBad : Cond.instanceMethod yX7_isBad ∈ wsL_law ∧ Cond.selects RX7 yX7_isBad yX7_isBad ∈ wsL_law ∧ Cond.initialized RX7 ∈ wsL_law ∧ Cond.code yX7_isBad cX7_isBad 5 (some .boolean) ∈ wsL_law := ⟨gw_18_4, gw_18_5, gw_1_5, gw_18_6⟩
theorem gd_X7_isBad : yX7_isBad.cls = RX7 ∧ yX7_isBad.cls ≠ "java/lang/invoke/MethodHandle" ∧ yX7_isBad.cls ≠ "java/lang/invoke/VarHandle" ∧ (parseMethodDescriptor yX7_isBad.desc).map (fun d => d.parameters.length) = some 1 := by decide +kernel
set_option maxRecDepth 100000 in
set_option maxHeartbeats 0 in
theorem c_X7_isBad {l : Launch} {D : va_G} {k : Nat → ClassId} {ad : Nat → Nat} (had : InjN 31 ad) (M : Mem) (a1 : Int32) (hI : MI M) (hbx : 0 ≤ a1.toInt ∧ a1.toInt < 4) : Met l yX7_isBad (Cond.code yX7_isBad cX7_isBad 5 (some .boolean) :: wsL_law) rm_X7_isBad (va_Pc [.ref (ad 0), .int a1] (GW 31 ad D k (cM ad k M))) (va_Qi (fun r u => (r = 0 ∨ r = 1) ∧ f_X7_isBad M a1 = r ∧ u = M) (fun u t => GW 31 ad D k (cM ad k u) t) (AW 31 ad)) 0 0 (AW 31 ad) := by
  refine met_z (g := cM ad k) (M := M) (plainFor_of_name (by decide)) (Nat.le_of_ble_eq_true rfl) ?_
  intro p e s m args below meth c Q ls hx hb hml hG hown hK hret hP hS hl
  have hl : lv_has ls 5 [(0, .ref (ad 0)), (1, .int a1)] := hl
  obtain ⟨V, hV⟩ : ∃ V, f_X7_isBad M a1 = V := ⟨_, rfl⟩
  have he := hV
  unfold f_X7_isBad at he
  have hT0 : TI M M := TI_rf hI
  have qb_M := hI.1
  have qs_M := hI.2.1
  have qz_M := hI.2.2.1
  refine lv_iconst (v := 0) hx hb dX7_isBad_0 (by decide) ?_
  refine lv_istore_n (lv' := [(2, .int 0), (0, .ref (ad 0)), (1, .int a1)]) hx hb dX7_isBad_1 rfl hl (by decide) rfl (fun ls hl => ?_)
  refine lv_iconst (v := 0) hx hb dX7_isBad_2 (by decide) ?_
  refine lv_istore_n (lv' := [(3, .int 0), (2, .int 0), (0, .ref (ad 0)), (1, .int a1)]) hx hb dX7_isBad_3 rfl hl (by decide) rfl (fun ls hl => ?_)
  obtain ⟨w_55, hr_30, he⟩ := bnd_ex he
  have j103 : ∀ (H : Heap) (locs : List Loc) (ls : Array Slot), (w_55 = 0 ∨ w_55 = 1) → va_P D vwCl (wld 31 ad (cM ad k M)) H → va_S (AW 31 ad) s.heap H locs → lv_has ls 5 [(0, .ref (ad 0)), (1, .int a1), (2, .int w_55)] → W p l e rm_X7_isBad s m args below meth c H locs 0 0 Q (F0 m 103 ls []) := by
    intro H locs ls zw_55 hP hS hl
    refine lv_iload_n hx hb dX7_isBad_103 rfl (lv_at hl 2 rfl) ?_
    obtain ⟨t_63, hr_57, he⟩ := bnd_ex he
    have j120 : ∀ (H : Heap) (locs : List Loc) (ls : Array Slot), (t_63 = 0 ∨ t_63 = 1) → va_P D vwCl (wld 31 ad (cM ad k M)) H → va_S (AW 31 ad) s.heap H locs → lv_has ls 5 [] → W p l e rm_X7_isBad s m args below meth c H locs 0 0 Q (F0 m 120 ls [.int t_63]) := by
      intro H locs ls zt_63 hP hS hl
      exact hret _ _ _ _ _ _ ⟨zt_63, (hV.trans he.symm), rfl⟩ (nz01 zt_63) hP hS dX7_isBad_120
    refine lv_if_eq (tgt := 119) hx hb dX7_isBad_104 (by decide) (fun hc_56 => ?_) (fun hc_56 => ?_)
    · have hr_57 := ite_t hr_57 hc_56
      refine lv_iconst (v := 0) hx hb dX7_isBad_119 (by decide) ?_
      cases hr_57
      exact j120 _ _ _ (Or.inl rfl) hP hS (lv_sub hl [] rfl)
    · have hr_57 := ite_f hr_57 hc_56
      refine lv_aload_n hx hb dX7_isBad_107 rfl (lv_at hl 0 rfl) ?_
      refine lv_iload_n hx hb dX7_isBad_108 rfl (lv_at hl 1 rfl) ?_
      refine call_i [.int a1] [] hx hb hml hG hown hK (c_X7_isIn had M a1 hT0.1 (by omega)) gw_18_10 gm_X7_isIn gd_X7_isIn rfl rfl ⟨Nat.le_of_ble_eq_true rfl, Nat.le_of_ble_eq_true rfl⟩ ⟨Nat.le_refl _, Nat.le_refl _⟩ (rX7 hK hP) hP (fun _ h => h) hS rfl hl.1 rfl (Nat.le_of_ble_eq_true rfl) dX7_isBad_109 (fun r_58 u_60 H locs hF_59 hP hS => ?_)
      obtain ⟨hz_61, hF_59, hu⟩ := hF_59; rw [hu] at hP; subst hF_59
      refine lv_if_ne (tgt := 119) hx hb dX7_isBad_112 (by decide) (fun hc_62 => ?_) (fun hc_62 => ?_)
      · have hr_57 := ite_t hr_57 hc_62
        refine lv_iconst (v := 0) hx hb dX7_isBad_119 (by decide) ?_
        cases hr_57
        exact j120 _ _ _ (Or.inl rfl) hP hS (lv_sub hl [] rfl)
      · have hr_57 := ite_f hr_57 (fun q => q hc_62)
        refine lv_iconst (v := 1) hx hb dX7_isBad_115 (by decide) ?_
        refine lv_goto (tgt := 120) hx hb dX7_isBad_116 (by decide) ?_
        cases hr_57
        exact j120 _ _ _ (Or.inr rfl) hP hS (lv_sub hl [] rfl)
  have lp4 : ∀ (nn : Nat) (H : Heap) (locs : List Loc) (ls : Array Slot) (v_28 : Int32) (v_29 : Int32), (v_28 = 0 ∨ v_28 = 1) → (0 ≤ v_29.toInt) → (4 - v_29.toInt).toNat < nn → lp_X7_isBad_4 nn M a1 v_28 v_29 = w_55 → va_P D vwCl (wld 31 ad (cM ad k M)) H → va_S (AW 31 ad) s.heap H locs → lv_has ls 5 [(0, .ref (ad 0)), (1, .int a1), (2, .int v_28), (3, .int v_29)] → W p l e rm_X7_isBad s m args below meth c H locs 0 0 Q (F0 m 4 ls []) := by
    intro nn
    induction nn with
    | zero =>
      intro H locs ls v_28 v_29 zv_28 h0v_29 hμ
      exact absurd hμ (Nat.not_lt_zero _)
    | succ nn ih =>
      intro H locs ls v_28 v_29 zv_28 h0v_29 hμ hr_30 hP hS hl
      rw [lp_X7_isBad_4] at hr_30
      refine lv_iload_n hx hb dX7_isBad_4 rfl (lv_at hl 3 rfl) ?_
      refine lv_aload_n hx hb dX7_isBad_5 rfl (lv_at hl 0 rfl) ?_
      refine gX7_8 hx hb hG hown hK hP gw_7_13 dX7_isBad_6 ?_
      refine lv_icmp_ge (tgt := 103) hx hb dX7_isBad_9 (by decide) (fun hc_31 => ?_) (fun hc_31 => ?_)
      · have hr_30 := ite_t hr_30 hc_31
        cases hr_30
        exact j103 _ _ _ zv_28 hP hS (lv_sub hl [0, 1, 2] rfl)
      · have hr_30 := ite_f hr_30 hc_31
        refine lv_aload_n hx hb dX7_isBad_12 rfl (lv_at hl 0 rfl) ?_
        refine gX7_14 hx hb hG hown hK hP gw_4_17 dX7_isBad_13 ?_
        refine lv_iload_n hx hb dX7_isBad_16 rfl (lv_at hl 3 rfl) ?_
        refine al_M7 hx hb hK hP (vin_I (by have q0 : v_29.toInt < (M 0 8).toInt := nle_I hc_31; omega) (by have q0 : v_29.toInt < (M 0 8).toInt := nle_I hc_31; omega)) dX7_isBad_17 ?_
        refine lv_aload_n hx hb dX7_isBad_18 rfl (lv_at hl 0 rfl) ?_
        refine gX7_14 hx hb hG hown hK hP gw_4_17 dX7_isBad_19 ?_
        refine lv_iload_n hx hb dX7_isBad_22 rfl (lv_at hl 1 rfl) ?_
        refine al_M7 hx hb hK hP (vin_I (by omega) (by omega)) dX7_isBad_23 ?_
        refine lv_isub hx hb dX7_isBad_24 ?_
        refine lv_i2l (v := ((M 7 v_29.toNatClampNeg) - (M 7 a1.toNatClampNeg)).toInt64) hx hb dX7_isBad_25 rfl ?_
        refine lv_lconst (v := 1) hx hb dX7_isBad_26 (by decide) ?_
        refine lv_ldc2 (v := 20) hx hb hown (hG _ gw_18_7) dX7_isBad_27 ?_
        refine callS_i [.long (((M 7 v_29.toNatClampNeg) - (M 7 a1.toNatClampNeg)).toInt64), .long 1, .long 20] [] hx hb hml hG hown hK (c_X7_in had (M := M)  (((M 7 v_29.toNatClampNeg) - (M 7 a1.toNatClampNeg)).toInt64) 1 20) gw_7_0 gm_X7_in gd_X7_in rfl rfl ⟨Nat.le_of_ble_eq_true rfl, Nat.le_of_ble_eq_true rfl⟩ ⟨Nat.le_refl _, Nat.le_refl _⟩ hP (fun _ h => h) hS rfl hl.1 rfl (Nat.le_of_ble_eq_true rfl) dX7_isBad_30 (fun r_32 u_34 H locs hF_33 hP hS => ?_)
        obtain ⟨hz_35, hF_33, hu⟩ := hF_33; rw [hu] at hP; subst hF_33
        obtain ⟨t_43, hr_37, hr_30⟩ := bnd_ex hr_30
        have j67 : ∀ (H : Heap) (locs : List Loc) (ls : Array Slot), (t_43 = 0 ∨ t_43 = 1) → va_P D vwCl (wld 31 ad (cM ad k M)) H → va_S (AW 31 ad) s.heap H locs → lv_has ls 5 [(0, .ref (ad 0)), (1, .int a1), (2, .int v_28), (3, .int v_29)] → W p l e rm_X7_isBad s m args below meth c H locs 0 0 Q (F0 m 67 ls [.int t_43]) := by
          intro H locs ls zt_43 hP hS hl
          refine lv_istore (lv' := [(4, .int t_43), (0, .ref (ad 0)), (1, .int a1), (2, .int v_28), (3, .int v_29)]) hx hb dX7_isBad_67 hl (by decide) rfl (fun ls hl => ?_)
          refine lv_iload_n hx hb dX7_isBad_69 rfl (lv_at hl 3 rfl) ?_
          obtain ⟨t_53, hr_45, hr_30⟩ := bnd_ex hr_30
          have j96 : ∀ (H : Heap) (locs : List Loc) (ls : Array Slot), (t_53 = 0 ∨ t_53 = 1) → va_P D vwCl (wld 31 ad (cM ad k M)) H → va_S (AW 31 ad) s.heap H locs → lv_has ls 5 [(0, .ref (ad 0)), (1, .int a1), (3, .int v_29)] → W p l e rm_X7_isBad s m args below meth c H locs 0 0 Q (F0 m 96 ls [.int t_53]) := by
            intro H locs ls zt_53 hP hS hl
            refine lv_istore_n (lv' := [(2, .int t_53), (0, .ref (ad 0)), (1, .int a1), (3, .int v_29)]) hx hb dX7_isBad_96 rfl hl (by decide) rfl (fun ls hl => ?_)
            obtain ⟨y_54, ey_54⟩ : ∃ y_54 : Int32, y_54 = v_29 + 1 := ⟨_, rfl⟩
            have hr_30 := bnd_at hr_30 ey_54
            refine lv_iinc (v := y_54) (lv' := [(3, .int y_54), (2, .int t_53), (0, .ref (ad 0)), (1, .int a1)]) hx hb dX7_isBad_97 hl (k := 3) rfl (by rw [ey_54]; rfl) (by decide) rfl (fun ls hl => ?_)
            refine lv_goto (tgt := 4) hx hb dX7_isBad_100 (by decide) ?_
            exact ih _ _ _ _ _ zt_53 (by rw [ey_54, inc_I (N := 4) (bnd_lt (nle_I hc_31) (by omega)) (by decide)]; omega) (by rw [ey_54]; exact mu_I hμ (bnd_lt (nle_I hc_31) (by omega)) (by decide)) hr_30 hP hS (lv_sub hl [2, 3, 1, 0] rfl)
          refine lv_if_ne (tgt := 91) hx hb dX7_isBad_70 (by decide) (fun hc_44 => ?_) (fun hc_44 => ?_)
          · have hr_45 := ite_t hr_45 hc_44
            refine lv_iconst (v := 1) hx hb dX7_isBad_91 (by decide) ?_
            refine lv_goto (tgt := 96) hx hb dX7_isBad_92 (by decide) ?_
            cases hr_45
            exact j96 _ _ _ (Or.inr rfl) hP hS (lv_sub hl [1, 2, 4] rfl)
          · have hr_45 := ite_f hr_45 (fun q => q hc_44)
            refine lv_iload_n hx hb dX7_isBad_73 rfl (lv_at hl 4 rfl) ?_
            refine lv_iload_n hx hb dX7_isBad_74 rfl (lv_at hl 2 rfl) ?_
            refine lv_icmp_eq (tgt := 95) hx hb dX7_isBad_75 (by decide) (fun hc_46 => ?_) (fun hc_46 => ?_)
            · have hr_45 := ite_t hr_45 hc_46
              refine lv_iconst (v := 0) hx hb dX7_isBad_95 (by decide) ?_
              cases hr_45
              exact j96 _ _ _ (Or.inl rfl) hP hS (lv_sub hl [1, 2, 4] rfl)
            · have hr_45 := ite_f hr_45 hc_46
              refine lv_aload_n hx hb dX7_isBad_78 rfl (lv_at hl 1 rfl) ?_
              refine lv_iload_n hx hb dX7_isBad_79 rfl (lv_at hl 4 rfl) ?_
              refine call_i [.int v_29] [] hx hb hml hG hown hK (c_X7_isIn had M v_29 hT0.1 (by have q0 : v_29.toInt < (M 0 8).toInt := nle_I hc_31; have q1 : v_29.toInt ≠ a1.toInt := ne_I hc_46; omega)) gw_18_10 gm_X7_isIn gd_X7_isIn rfl rfl ⟨Nat.le_of_ble_eq_true rfl, Nat.le_of_ble_eq_true rfl⟩ ⟨Nat.le_refl _, Nat.le_refl _⟩ (rX7 hK hP) hP (fun _ h => h) hS rfl hl.1 rfl (Nat.le_of_ble_eq_true rfl) dX7_isBad_80 (fun r_47 u_49 H locs hF_48 hP hS => ?_)
              obtain ⟨hz_50, hF_48, hu⟩ := hF_48; rw [hu] at hP; subst hF_48
              refine lv_if_ne (tgt := 95) hx hb dX7_isBad_83 (by decide) (fun hc_51 => ?_) (fun hc_51 => ?_)
              · have hr_45 := ite_t hr_45 hc_51
                refine lv_iconst (v := 0) hx hb dX7_isBad_95 (by decide) ?_
                cases hr_45
                exact j96 _ _ _ (Or.inl rfl) hP hS (lv_sub hl [1, 2, 4] rfl)
              · have hr_45 := ite_f hr_45 (fun q => q hc_51)
                refine lv_iload hx hb dX7_isBad_86 (lv_at hl 0 rfl) ?_
                refine lv_if_eq (tgt := 95) hx hb dX7_isBad_88 (by decide) (fun hc_52 => ?_) (fun hc_52 => ?_)
                · have hr_45 := ite_t hr_45 hc_52
                  refine lv_iconst (v := 0) hx hb dX7_isBad_95 (by decide) ?_
                  cases hr_45
                  exact j96 _ _ _ (Or.inl rfl) hP hS (lv_sub hl [1, 2, 4] rfl)
                · have hr_45 := ite_f hr_45 hc_52
                  refine lv_iconst (v := 1) hx hb dX7_isBad_91 (by decide) ?_
                  refine lv_goto (tgt := 96) hx hb dX7_isBad_92 (by decide) ?_
                  cases hr_45
                  exact j96 _ _ _ (Or.inr rfl) hP hS (lv_sub hl [1, 2, 4] rfl)
        refine lv_if_eq (tgt := 66) hx hb dX7_isBad_33 (by decide) (fun hc_36 => ?_) (fun hc_36 => ?_)
        · have hr_37 := ite_t hr_37 hc_36
          refine lv_iconst (v := 0) hx hb dX7_isBad_66 (by decide) ?_
          cases hr_37
          exact j67 _ _ _ (Or.inl rfl) hP hS (lv_sub hl [0, 1, 2, 3] rfl)
        · have hr_37 := ite_f hr_37 hc_36
          refine lv_aload_n hx hb dX7_isBad_36 rfl (lv_at hl 0 rfl) ?_
          refine gX7_13 hx hb hG hown hK hP gw_4_16 dX7_isBad_37 ?_
          refine lv_iload_n hx hb dX7_isBad_40 rfl (lv_at hl 3 rfl) ?_
          refine al_M6 hx hb hK hP (vin_I (by have q0 : v_29.toInt < (M 0 8).toInt := nle_I hc_31; have q1 : (f_X7_in (((M 7 v_29.toNatClampNeg) - (M 7 a1.toNatClampNeg)).toInt64) 1 20).toInt ≠ 0 := ne_I hc_36; omega) (by have q0 : v_29.toInt < (M 0 8).toInt := nle_I hc_31; have q1 : (f_X7_in (((M 7 v_29.toNatClampNeg) - (M 7 a1.toNatClampNeg)).toInt64) 1 20).toInt ≠ 0 := ne_I hc_36; omega)) dX7_isBad_41 ?_
          refine lv_aload_n hx hb dX7_isBad_42 rfl (lv_at hl 0 rfl) ?_
          refine gX7_13 hx hb hG hown hK hP gw_4_16 dX7_isBad_43 ?_
          refine lv_iload_n hx hb dX7_isBad_46 rfl (lv_at hl 1 rfl) ?_
          refine al_M6 hx hb hK hP (vin_I (by have q0 : (f_X7_in (((M 7 v_29.toNatClampNeg) - (M 7 a1.toNatClampNeg)).toInt64) 1 20).toInt ≠ 0 := ne_I hc_36; omega) (by have q0 : (f_X7_in (((M 7 v_29.toNatClampNeg) - (M 7 a1.toNatClampNeg)).toInt64) 1 20).toInt ≠ 0 := ne_I hc_36; omega)) dX7_isBad_47 ?_
          refine lv_isub hx hb dX7_isBad_48 ?_
          refine lv_i2l (v := ((M 6 v_29.toNatClampNeg) - (M 6 a1.toNatClampNeg)).toInt64) hx hb dX7_isBad_49 rfl ?_
          refine lv_ldc2 (v := (-6)) hx hb hown (hG _ gw_18_8) dX7_isBad_50 ?_
          refine lv_ldc2 (v := 6) hx hb hown (hG _ gw_18_9) dX7_isBad_53 ?_
          refine callS_i [.long (((M 6 v_29.toNatClampNeg) - (M 6 a1.toNatClampNeg)).toInt64), .long (-6), .long 6] [] hx hb hml hG hown hK (c_X7_in had (M := M)  (((M 6 v_29.toNatClampNeg) - (M 6 a1.toNatClampNeg)).toInt64) (-6) 6) gw_7_0 gm_X7_in gd_X7_in rfl rfl ⟨Nat.le_of_ble_eq_true rfl, Nat.le_of_ble_eq_true rfl⟩ ⟨Nat.le_refl _, Nat.le_refl _⟩ hP (fun _ h => h) hS rfl hl.1 rfl (Nat.le_of_ble_eq_true rfl) dX7_isBad_56 (fun r_38 u_40 H locs hF_39 hP hS => ?_)
          obtain ⟨hz_41, hF_39, hu⟩ := hF_39; rw [hu] at hP; subst hF_39
          refine lv_if_eq (tgt := 66) hx hb dX7_isBad_59 (by decide) (fun hc_42 => ?_) (fun hc_42 => ?_)
          · have hr_37 := ite_t hr_37 hc_42
            refine lv_iconst (v := 0) hx hb dX7_isBad_66 (by decide) ?_
            cases hr_37
            exact j67 _ _ _ (Or.inl rfl) hP hS (lv_sub hl [0, 1, 2, 3] rfl)
          · have hr_37 := ite_f hr_37 hc_42
            refine lv_iconst (v := 1) hx hb dX7_isBad_62 (by decide) ?_
            refine lv_goto (tgt := 67) hx hb dX7_isBad_63 (by decide) ?_
            cases hr_37
            exact j67 _ _ _ (Or.inr rfl) hP hS (lv_sub hl [0, 1, 2, 3] rfl)
  exact lp4 _ _ _ _ _ _ (Or.inl rfl) (by decide) (by decide) hr_30 hP hS (lv_sub hl [2, 3, 1, 0] rfl)
def rm_X7_tideAt : Room := { frames := 1, cells := 0, slots := 0, locals := 20 }
theorem gm_X7_tideAt : Cond.instanceMethod yX7_tideAt ∈ wsL_law ∧ Cond.selects RX7 yX7_tideAt yX7_tideAt ∈ wsL_law ∧ Cond.initialized RX7 ∈ wsL_law ∧ Cond.code yX7_tideAt cX7_tideAt 2 (some .int) ∈ wsL_law := ⟨gw_23_17, gw_23_18, gw_1_5, gw_23_19⟩
theorem gd_X7_tideAt : yX7_tideAt.cls = RX7 ∧ yX7_tideAt.cls ≠ "java/lang/invoke/MethodHandle" ∧ yX7_tideAt.cls ≠ "java/lang/invoke/VarHandle" ∧ (parseMethodDescriptor yX7_tideAt.desc).map (fun d => d.parameters.length) = some 1 := by decide +kernel
set_option maxRecDepth 100000 in
set_option maxHeartbeats 0 in
theorem c_X7_tideAt {l : Launch} {D : va_G} {k : Nat → ClassId} {ad : Nat → Nat} (had : InjN 31 ad) (M : Mem) (a1 : Int32) (hI : MI M) : Met l yX7_tideAt (Cond.code yX7_tideAt cX7_tideAt 2 (some .int) :: wsL_law) rm_X7_tideAt (va_Pc [.ref (ad 0), .int a1] (GW 31 ad D k (cM ad k M))) (va_Qi (fun r u => f_X7_tideAt M a1 = r ∧ u = M) (fun u t => GW 31 ad D k (cM ad k u) t) (AW 31 ad)) 0 0 (AW 31 ad) := by
  refine met_i (g := cM ad k) (M := M) (plainFor_of_name (by decide)) (Nat.le_of_ble_eq_true rfl) ?_
  intro p e s m args below meth c Q ls hx hb hml hG hown hK hret hP hS hl
  have hl : lv_has ls 2 [(0, .ref (ad 0)), (1, .int a1)] := hl
  obtain ⟨V, hV⟩ : ∃ V, f_X7_tideAt M a1 = V := ⟨_, rfl⟩
  have he := hV
  unfold f_X7_tideAt at he
  have hT0 : TI M M := TI_rf hI
  have qb_M := hI.1
  have qs_M := hI.2.1
  have qz_M := hI.2.2.1
  refine lv_iload_n hx hb dX7_tideAt_0 rfl (lv_at hl 1 rfl) ?_
  refine callS_i [.int a1] [] hx hb hml hG hown hK (c_X7_plainly had (M := M)  a1) gw_23_20 gm_X7_plainly gd_X7_plainly rfl rfl ⟨Nat.le_of_ble_eq_true rfl, Nat.le_of_ble_eq_true rfl⟩ ⟨Nat.le_refl _, Nat.le_refl _⟩ hP (fun _ h => h) hS rfl hl.1 rfl (Nat.le_of_ble_eq_true rfl) dX7_tideAt_1 (fun r_1 u_3 H locs hF_2 hP hS => ?_)
  obtain ⟨hF_2, hu⟩ := hF_2; rw [hu] at hP; subst hF_2
  refine lv_aload_n hx hb dX7_tideAt_4 rfl (lv_at hl 0 rfl) ?_
  refine gX7_2 hx hb hG hown hK hP gw_4_9 dX7_tideAt_5 ?_
  obtain ⟨t_6, hr_5, he⟩ := bnd_ex he
  have j24 : ∀ (H : Heap) (locs : List Loc) (ls : Array Slot), va_P D vwCl (wld 31 ad (cM ad k M)) H → va_S (AW 31 ad) s.heap H locs → lv_has ls 2 [] → W p l e rm_X7_tideAt s m args below meth c H locs 0 0 Q (F0 m 24 ls [.int t_6]) := by
    intro H locs ls hP hS hl
    exact hret _ _ _ _ _ _ ⟨hV.trans he.symm, rfl⟩ hP hS dX7_tideAt_24
  refine lv_icmp_gt (tgt := 18) hx hb dX7_tideAt_8 (by decide) (fun hc_4 => ?_) (fun hc_4 => ?_)
  · have hr_5 := ite_t hr_5 hc_4
    refine lv_aload_n hx hb dX7_tideAt_18 rfl (lv_at hl 0 rfl) ?_
    refine gX7_1 hx hb hG hown hK hP gw_6_22 dX7_tideAt_19 ?_
    refine lv_iconst (v := 2) hx hb dX7_tideAt_22 (by decide) ?_
    refine lv_idiv hx hb dX7_tideAt_23 (by decide) ?_
    cases hr_5
    exact j24 _ _ _ hP hS (lv_sub hl [] rfl)
  · have hr_5 := ite_f hr_5 hc_4
    refine lv_aload_n hx hb dX7_tideAt_11 rfl (lv_at hl 0 rfl) ?_
    refine gX7_1 hx hb hG hown hK hP gw_6_22 dX7_tideAt_12 ?_
    refine lv_goto (tgt := 24) hx hb dX7_tideAt_15 (by decide) ?_
    cases hr_5
    exact j24 _ _ _ hP hS (lv_sub hl [] rfl)
