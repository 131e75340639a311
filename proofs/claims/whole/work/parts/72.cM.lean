-- @needs 12_dec 13_dec 14_dec 15_dec 37_fault 60_cM 63_cM 66_cM 67_cM 69_cM 71_cM
def rm_X7_countsAs : Room := { frames := 2, cells := 0, slots := 0, locals := 41 }
theorem gm_X7_countsAs : Cond.instanceMethod yX7_countsAs ∈ wsL_law ∧ Cond.selects RX7 yX7_countsAs yX7_countsAs ∈ wsL_law ∧ Cond.initialized RX7 ∈ wsL_law ∧ Cond.code yX7_countsAs cX7_countsAs 2 (some .int) ∈ wsL_law := ⟨gw_33_22, gw_33_23, gw_1_5, gw_34_0⟩
theorem gd_X7_countsAs : yX7_countsAs.cls = RX7 ∧ yX7_countsAs.cls ≠ "java/lang/invoke/MethodHandle" ∧ yX7_countsAs.cls ≠ "java/lang/invoke/VarHandle" ∧ (parseMethodDescriptor yX7_countsAs.desc).map (fun d => d.parameters.length) = some 1 := by decide +kernel
set_option maxRecDepth 100000 in
set_option maxHeartbeats 0 in
theorem c_X7_countsAs {l : Launch} {D : va_G} {k : Nat → ClassId} {ad : Nat → Nat} (had : InjN 31 ad) (M : Mem) (a1 : Int32) (hI : MI M) (hbx : 0 ≤ a1.toInt ∧ a1.toInt < 4) : Met l yX7_countsAs (Cond.code yX7_countsAs cX7_countsAs 2 (some .int) :: wsL_law) rm_X7_countsAs (va_Pc [.ref (ad 0), .int a1] (GW 31 ad D k (cM ad k M))) (va_Qi (fun r u => f_X7_countsAs M a1 = r ∧ u = M) (fun u t => GW 31 ad D k (cM ad k u) t) (AW 31 ad)) 0 0 (AW 31 ad) := by
  refine met_i (g := cM ad k) (M := M) (plainFor_of_name (by decide)) (Nat.le_of_ble_eq_true rfl) ?_
  intro p e s m args below meth c Q ls hx hb hml hG hown hK hret hP hS hl
  have hl : lv_has ls 2 [(0, .ref (ad 0)), (1, .int a1)] := hl
  obtain ⟨V, hV⟩ : ∃ V, f_X7_countsAs M a1 = V := ⟨_, rfl⟩
  have he := hV
  unfold f_X7_countsAs at he
  have hT0 : TI M M := TI_rf hI
  have qb_M := hI.1
  have qs_M := hI.2.1
  have qz_M := hI.2.2.1
  refine lv_aload_n hx hb dX7_countsAs_0 rfl (lv_at hl 0 rfl) ?_
  refine lv_iload_n hx hb dX7_countsAs_1 rfl (lv_at hl 1 rfl) ?_
  refine call_i [.int a1] [] hx hb hml hG hown hK (c_X7_isIn had M a1 hT0.1 (by omega)) gw_18_0 gm_X7_isIn gd_X7_isIn rfl rfl ⟨Nat.le_of_ble_eq_true rfl, Nat.le_of_ble_eq_true rfl⟩ ⟨Nat.le_refl _, Nat.le_refl _⟩ (rX7 hK hP) hP (fun _ h => h) hS rfl hl.1 rfl (Nat.le_of_ble_eq_true rfl) dX7_countsAs_2 (fun r_1 u_3 H locs hF_2 hP hS => ?_)
  obtain ⟨hz_4, hF_2, hu⟩ := hF_2; rw [hu] at hP; subst hF_2
  obtain ⟨t_10, hr_6, he⟩ := bnd_ex he
  have j20 : ∀ (H : Heap) (locs : List Loc) (ls : Array Slot), va_P D vwCl (wld 31 ad (cM ad k M)) H → va_S (AW 31 ad) s.heap H locs → lv_has ls 2 [] → W p l e rm_X7_countsAs s m args below meth c H locs 0 0 Q (F0 m 20 ls [.int t_10]) := by
    intro H locs ls hP hS hl
    exact hret _ _ _ _ _ _ ⟨hV.trans he.symm, rfl⟩ hP hS dX7_countsAs_20
  refine lv_if_eq (tgt := 15) hx hb dX7_countsAs_5 (by decide) (fun hc_5 => ?_) (fun hc_5 => ?_)
  · have hr_6 := ite_t hr_6 hc_5
    refine lv_aload_n hx hb dX7_countsAs_15 rfl (lv_at hl 0 rfl) ?_
    refine lv_iload_n hx hb dX7_countsAs_16 rfl (lv_at hl 1 rfl) ?_
    refine call_i [.int a1] [] hx hb hml hG hown hK (c_X7_worthOf had M a1 hT0.1 (by have q0 : (f_X7_isIn M a1).toInt = 0 := congrArg Int32.toInt hc_5; omega)) gw_27_14 gm_X7_worthOf gd_X7_worthOf rfl rfl ⟨Nat.le_of_ble_eq_true rfl, Nat.le_of_ble_eq_true rfl⟩ ⟨Nat.le_refl _, Nat.le_refl _⟩ (rX7 hK hP) hP (fun _ h => h) hS rfl hl.1 rfl (Nat.le_of_ble_eq_true rfl) dX7_countsAs_17 (fun r_7 u_9 H locs hF_8 hP hS => ?_)
    obtain ⟨hF_8, hu⟩ := hF_8; rw [hu] at hP; subst hF_8
    cases hr_6
    exact j20 _ _ _ hP hS (lv_sub hl [] rfl)
  · have hr_6 := ite_f hr_6 hc_5
    refine lv_aload_n hx hb dX7_countsAs_8 rfl (lv_at hl 0 rfl) ?_
    refine gX7_0 hx hb hG hown hK hP gw_4_10 dX7_countsAs_9 ?_
    refine lv_goto (tgt := 20) hx hb dX7_countsAs_12 (by decide) ?_
    cases hr_6
    exact j20 _ _ _ hP hS (lv_sub hl [] rfl)
def rm_X7_leadBy : Room := { frames := 5, cells := 0, slots := 0, locals := 108 }
theorem gm_X7_leadBy : Cond.instanceMethod yX7_leadBy ∈ wsL_law ∧ Cond.selects RX7 yX7_leadBy yX7_leadBy ∈ wsL_law ∧ Cond.initialized RX7 ∈ wsL_law ∧ Cond.code yX7_leadBy cX7_leadBy 7 (some .int) ∈ wsL_law := ⟨gw_33_18, gw_33_19, gw_1_5, gw_33_20⟩
theorem gd_X7_leadBy : yX7_leadBy.cls = RX7 ∧ yX7_leadBy.cls ≠ "java/lang/invoke/MethodHandle" ∧ yX7_leadBy.cls ≠ "java/lang/invoke/VarHandle" ∧ (parseMethodDescriptor yX7_leadBy.desc).map (fun d => d.parameters.length) = some 5 := by decide +kernel
set_option maxRecDepth 100000 in
set_option maxHeartbeats 0 in
theorem c_X7_leadBy {l : Launch} {D : va_G} {k : Nat → ClassId} {ad : Nat → Nat} (had : InjN 31 ad) (M : Mem) (a1 : Int32) (a2 : Int32) (a3 : Int32) (a4 : Int32) (a5 : Int32) (hI : MI M) : Met l yX7_leadBy (Cond.code yX7_leadBy cX7_leadBy 7 (some .int) :: wsL_law) rm_X7_leadBy (va_Pc [.ref (ad 0), .int a1, .int a2, .int a3, .int a4, .int a5] (GW 31 ad D k (cM ad k M))) (va_Qi (fun r u => (f_X7_leadBy M a1 a2 a3 a4 a5 = (r, u) ∧ TI M u)) (fun u t => GW 31 ad D k (cM ad k u) t) (AW 31 ad)) 0 0 (AW 31 ad) := by
  refine met_i (g := cM ad k) (M := M) (plainFor_of_name (by decide)) (Nat.le_of_ble_eq_true rfl) ?_
  intro p e s m args below meth c Q ls hx hb hml hG hown hK hret hP hS hl
  have hl : lv_has ls 7 [(0, .ref (ad 0)), (1, .int a1), (2, .int a2), (3, .int a3), (4, .int a4), (5, .int a5)] := hl
  obtain ⟨V, hV⟩ : ∃ V, f_X7_leadBy M a1 a2 a3 a4 a5 = V := ⟨_, rfl⟩
  have he := hV
  unfold f_X7_leadBy at he
  have hT0 : TI M M := TI_rf hI
  have qb_M := hI.1
  have qs_M := hI.2.1
  have qz_M := hI.2.2.1
  have hs0_7_M : M 0 7 = (M 0 7) := rfl
  refine lv_aload_n hx hb dX7_leadBy_0 rfl (lv_at hl 0 rfl) ?_
  refine lv_iconst (v := 2) hx hb dX7_leadBy_1 (by decide) ?_
  refine pX7_8 hx hb hG hown hK hP had AW_in hS gw_7_15 dX7_leadBy_2 (fun H locs hP hS => ?_)
  obtain ⟨M_1, eM_1⟩ : ∃ y : Mem, y = up2 M 0 8 2 := ⟨_, rfl⟩
  rw [← eM_1] at hP
  have he := bnd_at he eM_1
  have hTM_1 : TI M M_1 := by rw [eM_1]; exact TI_boats hT0 (by decide)
  have qb_M_1 := hTM_1.1.1
  have qs_M_1 := hTM_1.1.2.1
  have qz_M_1 := hTM_1.1.2.2.1
  have hs0_7_M_1 : M_1 0 7 = (M 0 7) := by rw [eM_1, up2_n _ _ (by decide)] <;> exact hs0_7_M
  refine lv_aload_n hx hb dX7_leadBy_5 rfl (lv_at hl 0 rfl) ?_
  refine lv_iconst (v := 0) hx hb dX7_leadBy_6 (by decide) ?_
  refine pX7_7 hx hb hG hown hK hP had AW_in hS gw_15_12 dX7_leadBy_7 (fun H locs hP hS => ?_)
  obtain ⟨M_2, eM_2⟩ : ∃ y : Mem, y = up2 M_1 0 7 0 := ⟨_, rfl⟩
  rw [← eM_2] at hP
  have he := bnd_at he eM_2
  have hTM_2 : TI M M_2 := by rw [eM_2]; exact TI_second hTM_1 (by decide)
  have qb_M_2 := hTM_2.1.1
  have qs_M_2 := hTM_2.1.2.1
  have qz_M_2 := hTM_2.1.2.2.1
  have hs0_7_M_2 : M_2 0 7 = 0 := by rw [eM_2]; exact up2_s _ _ _ _
  refine lv_aload_n hx hb dX7_leadBy_10 rfl (lv_at hl 0 rfl) ?_
  refine lv_iconst (v := 4) hx hb dX7_leadBy_11 (by decide) ?_
  refine pX7_40 hx hb hG hown hK hP had AW_in hS gw_30_16 dX7_leadBy_12 (fun H locs hP hS => ?_)
  obtain ⟨M_3, eM_3⟩ : ∃ y : Mem, y = up2 M_2 0 40 4 := ⟨_, rfl⟩
  rw [← eM_3] at hP
  have he := bnd_at he eM_3
  have hTM_3 : TI M M_3 := by rw [eM_3]; exact TI_f hTM_2 (by decide)
  have qb_M_3 := hTM_3.1.1
  have qs_M_3 := hTM_3.1.2.1
  have qz_M_3 := hTM_3.1.2.2.1
  have hs0_7_M_3 : M_3 0 7 = 0 := by rw [eM_3, up2_n _ _ (by decide)] <;> exact hs0_7_M_2
  refine lv_aload_n hx hb dX7_leadBy_15 rfl (lv_at hl 0 rfl) ?_
  refine lv_iconst (v := 0) hx hb dX7_leadBy_16 (by decide) ?_
  refine lv_iload_n hx hb dX7_leadBy_17 rfl (lv_at hl 1 rfl) ?_
  refine lv_iload_n hx hb dX7_leadBy_18 rfl (lv_at hl 3 rfl) ?_
  refine lv_iconst (v := 1) hx hb dX7_leadBy_19 (by decide) ?_
  refine lv_iand hx hb dX7_leadBy_20 ?_
  refine lv_iconst (v := 1) hx hb dX7_leadBy_21 (by decide) ?_
  obtain ⟨t_6, hr_5, he⟩ := bnd_ex he
  have j30 : ∀ (H : Heap) (locs : List Loc) (ls : Array Slot), (t_6 = 0 ∨ t_6 = 1) → va_P D vwCl (wld 31 ad (cM ad k M_3)) H → va_S (AW 31 ad) s.heap H locs → lv_has ls 7 [(0, .ref (ad 0)), (2, .int a2), (3, .int a3), (4, .int a4), (5, .int a5)] → W p l e rm_X7_leadBy s m args below meth c H locs 0 0 Q (F0 m 30 ls [.int t_6, .int a1, .int 0, .ref (ad 0)]) := by
    intro H locs ls zt_6 hP hS hl
    refine lv_iload hx hb dX7_leadBy_30 (lv_at hl 3 rfl) ?_
    refine call_v [.int 0, .int a1, .int t_6, .int a4] [] hx hb hml hG hown hK (c_X7_lay had M_3 0 a1 t_6 zt_6 a4 hTM_3.1 (by have ll0 : (0 : Int32).toInt = 0 := rfl; have qsl0 := congrArg Int32.toInt hs0_7_M_3; omega)) gw_30_17 gm_X7_lay gd_X7_lay rfl rfl ⟨Nat.le_of_ble_eq_true rfl, Nat.le_of_ble_eq_true rfl⟩ ⟨Nat.le_refl _, Nat.le_refl _⟩ (rX7 hK hP) hP (fun _ h => h) hS rfl hl.1 rfl (Nat.le_of_ble_eq_true rfl) dX7_leadBy_32 (fun M_9 H locs hF_8 hP hS => ?_)
    obtain ⟨hF_8, hti_10⟩ := hF_8
    have he := bnd_at he hF_8.symm
    have hTM_9 : TI M M_9 := TI_tr hTM_3 hti_10
    have qb_M_9 := hTM_9.1.1
    have qs_M_9 := hTM_9.1.2.1
    have qz_M_9 := hTM_9.1.2.2.1
    have hs0_7_M_9 : M_9 0 7 = 0 := by rw [sl_lay_0_7 hF_8, hs0_7_M_3]
    refine lv_aload_n hx hb dX7_leadBy_35 rfl (lv_at hl 0 rfl) ?_
    refine lv_iconst (v := 1) hx hb dX7_leadBy_36 (by decide) ?_
    refine lv_iload_n hx hb dX7_leadBy_37 rfl (lv_at hl 1 rfl) ?_
    refine lv_iload_n hx hb dX7_leadBy_38 rfl (lv_at hl 2 rfl) ?_
    refine lv_iconst (v := 2) hx hb dX7_leadBy_39 (by decide) ?_
    refine lv_iand hx hb dX7_leadBy_40 ?_
    refine lv_iconst (v := 2) hx hb dX7_leadBy_41 (by decide) ?_
    obtain ⟨t_13, hr_12, he⟩ := bnd_ex he
    have j50 : ∀ (H : Heap) (locs : List Loc) (ls : Array Slot), (t_13 = 0 ∨ t_13 = 1) → va_P D vwCl (wld 31 ad (cM ad k M_9)) H → va_S (AW 31 ad) s.heap H locs → lv_has ls 7 [(0, .ref (ad 0)), (5, .int a5)] → W p l e rm_X7_leadBy s m args below meth c H locs 0 0 Q (F0 m 50 ls [.int t_13, .int a2, .int 1, .ref (ad 0)]) := by
      intro H locs ls zt_13 hP hS hl
      refine lv_iload hx hb dX7_leadBy_50 (lv_at hl 1 rfl) ?_
      refine call_v [.int 1, .int a2, .int t_13, .int a5] [] hx hb hml hG hown hK (c_X7_lay had M_9 1 a2 t_13 zt_13 a5 hTM_9.1 (by have ll1 : (1 : Int32).toInt = 1 := rfl; have qsl0 := congrArg Int32.toInt hs0_7_M_9; omega)) gw_30_17 gm_X7_lay gd_X7_lay rfl rfl ⟨Nat.le_of_ble_eq_true rfl, Nat.le_of_ble_eq_true rfl⟩ ⟨Nat.le_refl _, Nat.le_refl _⟩ (rX7 hK hP) hP (fun _ h => h) hS rfl hl.1 rfl (Nat.le_of_ble_eq_true rfl) dX7_leadBy_52 (fun M_16 H locs hF_15 hP hS => ?_)
      obtain ⟨hF_15, hti_17⟩ := hF_15
      have he := bnd_at he hF_15.symm
      have hTM_16 : TI M M_16 := TI_tr hTM_9 hti_17
      have qb_M_16 := hTM_16.1.1
      have qs_M_16 := hTM_16.1.2.1
      have qz_M_16 := hTM_16.1.2.2.1
      have hs0_7_M_16 : M_16 0 7 = 0 := by rw [sl_lay_0_7 hF_15, hs0_7_M_9]
      refine lv_iconst (v := 0) hx hb dX7_leadBy_55 (by decide) ?_
      refine lv_istore (lv' := [(6, .int 0), (0, .ref (ad 0)), (5, .int a5)]) hx hb dX7_leadBy_56 hl (by decide) rfl (fun ls hl => ?_)
      obtain ⟨M_36, hr_29, he⟩ := bnd_ex he
      have j75 : ∀ (H : Heap) (locs : List Loc) (ls : Array Slot), TI M M_36 → va_P D vwCl (wld 31 ad (cM ad k M_36)) H → va_S (AW 31 ad) s.heap H locs → lv_has ls 7 [(0, .ref (ad 0))] → W p l e rm_X7_leadBy s m args below meth c H locs 0 0 Q (F0 m 75 ls []) := by
        intro H locs ls hTM_36 hP hS hl
        have qb_M_36 := hTM_36.1.1
        have qs_M_36 := hTM_36.1.2.1
        have qz_M_36 := hTM_36.1.2.2.1
        refine lv_aload_n hx hb dX7_leadBy_75 rfl (lv_at hl 0 rfl) ?_
        refine lv_iconst (v := 0) hx hb dX7_leadBy_76 (by decide) ?_
        refine call_i [.int 0] [] hx hb hml hG hown hK (c_X7_countsAs had M_36 0 hTM_36.1 (by have ll0 : (0 : Int32).toInt = 0 := rfl; omega)) gw_33_21 gm_X7_countsAs gd_X7_countsAs rfl rfl ⟨Nat.le_of_ble_eq_true rfl, Nat.le_of_ble_eq_true rfl⟩ ⟨Nat.le_refl _, Nat.le_refl _⟩ (rX7 hK hP) hP (fun _ h => h) hS rfl hl.1 rfl (Nat.le_of_ble_eq_true rfl) dX7_leadBy_77 (fun r_37 u_39 H locs hF_38 hP hS => ?_)
        obtain ⟨hF_38, hu⟩ := hF_38; rw [hu] at hP; subst hF_38
        refine lv_aload_n hx hb dX7_leadBy_80 rfl (lv_at hl 0 rfl) ?_
        refine lv_iconst (v := 1) hx hb dX7_leadBy_81 (by decide) ?_
        refine call_i [.int 1] [.int (f_X7_countsAs M_36 0)] hx hb hml hG hown hK (c_X7_countsAs had M_36 1 hTM_36.1 (by have ll1 : (1 : Int32).toInt = 1 := rfl; omega)) gw_33_21 gm_X7_countsAs gd_X7_countsAs rfl rfl ⟨Nat.le_of_ble_eq_true rfl, Nat.le_of_ble_eq_true rfl⟩ ⟨Nat.le_refl _, Nat.le_refl _⟩ (rX7 hK hP) hP (fun _ h => h) hS rfl hl.1 rfl (Nat.le_of_ble_eq_true rfl) dX7_leadBy_82 (fun r_40 u_42 H locs hF_41 hP hS => ?_)
        obtain ⟨hF_41, hu⟩ := hF_41; rw [hu] at hP; subst hF_41
        refine lv_isub hx hb dX7_leadBy_85 ?_
        exact hret _ _ _ _ _ _ ⟨(hV.trans he.symm), hTM_36⟩ hP hS dX7_leadBy_86
      have lp58 : ∀ (nn : Nat) (H : Heap) (locs : List Loc) (ls : Array Slot) (M_28 : Mem) (v_27 : Int32), (0 ≤ v_27.toInt) → (TI M M_28) → ((M_28 0 7).toInt = v_27.toInt) → (60 - v_27.toInt).toNat < nn → lp_X7_leadBy_58 nn M_28 v_27 = M_36 → va_P D vwCl (wld 31 ad (cM ad k M_28)) H → va_S (AW 31 ad) s.heap H locs → lv_has ls 7 [(0, .ref (ad 0)), (6, .int v_27)] → W p l e rm_X7_leadBy s m args below meth c H locs 0 0 Q (F0 m 58 ls []) := by
        intro nn
        induction nn with
        | zero =>
          intro H locs ls M_28 v_27 h0v_27 hTM_28 hsk hμ
          exact absurd hμ (Nat.not_lt_zero _)
        | succ nn ih =>
          intro H locs ls M_28 v_27 h0v_27 hTM_28 hsk hμ hr_29 hP hS hl
          rw [lp_X7_leadBy_58] at hr_29
          have qb_M_28 := hTM_28.1.1
          have qs_M_28 := hTM_28.1.2.1
          have qz_M_28 := hTM_28.1.2.2.1
          have hs0_7_M_28 : M_28 0 7 = M_28 0 7 := rfl
          refine lv_iload hx hb dX7_leadBy_58 (lv_at hl 1 rfl) ?_
          refine lv_bipush (v := 60) hx hb dX7_leadBy_60 (by decide) ?_
          refine lv_icmp_ge (tgt := 75) hx hb dX7_leadBy_62 (by decide) (fun hc_30 => ?_) (fun hc_30 => ?_)
          · have hr_29 := ite_t hr_29 hc_30
            cases hr_29
            exact j75 _ _ _ hTM_28 hP hS (lv_sub hl [0] rfl)
          · have hr_29 := ite_f hr_29 hc_30
            refine lv_aload_n hx hb dX7_leadBy_65 rfl (lv_at hl 0 rfl) ?_
            refine call_v [] [] hx hb hml hG hown hK (c_X7_bitsOn had M_28 hTM_28.1 (by have qv := nle_I hc_30; have qw : (60 : Int32).toInt = 60 := rfl; omega)) gw_30_21 gm_X7_bitsOn gd_X7_bitsOn rfl rfl ⟨Nat.le_of_ble_eq_true rfl, Nat.le_of_ble_eq_true rfl⟩ ⟨Nat.le_refl _, Nat.le_refl _⟩ (rX7 hK hP) hP (fun _ h => h) hS rfl hl.1 rfl (Nat.le_of_ble_eq_true rfl) dX7_leadBy_66 (fun M_33 H locs hF_32 hP hS => ?_)
            obtain ⟨hF_32, hti_34⟩ := hF_32
            have hr_29 := bnd_at hr_29 hF_32.symm
            have hTM_33 : TI M M_33 := TI_tr hTM_28 hti_34
            have qb_M_33 := hTM_33.1.1
            have qs_M_33 := hTM_33.1.2.1
            have qz_M_33 := hTM_33.1.2.2.1
            have hs0_7_M_33 : M_33 0 7 = ((M_28 0 7) + 1) := by rw [sl_bitsOn_0_7 hF_32, hs0_7_M_28]
            obtain ⟨y_35, ey_35⟩ : ∃ y_35 : Int32, y_35 = v_27 + 1 := ⟨_, rfl⟩
            have hr_29 := bnd_at hr_29 ey_35
            refine lv_iinc (v := y_35) (lv' := [(6, .int y_35), (0, .ref (ad 0))]) hx hb dX7_leadBy_69 hl (k := 1) rfl (by rw [ey_35]; rfl) (by decide) rfl (fun ls hl => ?_)
            refine lv_goto (tgt := 58) hx hb dX7_leadBy_72 (by decide) ?_
            exact ih _ _ _ _ _ (by rw [ey_35, inc_I (N := 60) (nle_I hc_30) (by decide)]; omega) hTM_33 (by have qv : v_27.toInt < 60 := nle_I hc_30; rw [hs0_7_M_33, ey_35, inc_I (N := 60) (by omega) (by decide), inc_I (N := 60) (by omega) (by decide)]; omega) (by rw [ey_35]; exact mu_I hμ (nle_I hc_30) (by decide)) hr_29 hP hS (lv_sub hl [1, 0] rfl)
      exact lp58 _ _ _ _ _ _ (by decide) hTM_16 (by rw [hs0_7_M_16]) (by decide) hr_29 hP hS (lv_sub hl [1, 0] rfl)
    refine lv_icmp_ne (tgt := 49) hx hb dX7_leadBy_42 (by decide) (fun hc_11 => ?_) (fun hc_11 => ?_)
    · have hr_12 := ite_t hr_12 hc_11
      refine lv_iconst (v := 0) hx hb dX7_leadBy_49 (by decide) ?_
      cases hr_12
      exact j50 _ _ _ (Or.inl rfl) hP hS (lv_sub hl [0, 4] rfl)
    · have hr_12 := ite_f hr_12 (fun q => q hc_11)
      refine lv_iconst (v := 1) hx hb dX7_leadBy_45 (by decide) ?_
      refine lv_goto (tgt := 50) hx hb dX7_leadBy_46 (by decide) ?_
      cases hr_12
      exact j50 _ _ _ (Or.inr rfl) hP hS (lv_sub hl [0, 4] rfl)
  refine lv_icmp_ne (tgt := 29) hx hb dX7_leadBy_22 (by decide) (fun hc_4 => ?_) (fun hc_4 => ?_)
  · have hr_5 := ite_t hr_5 hc_4
    refine lv_iconst (v := 0) hx hb dX7_leadBy_29 (by decide) ?_
    cases hr_5
    exact j30 _ _ _ (Or.inl rfl) hP hS (lv_sub hl [0, 2, 3, 4, 5] rfl)
  · have hr_5 := ite_f hr_5 (fun q => q hc_4)
    refine lv_iconst (v := 1) hx hb dX7_leadBy_25 (by decide) ?_
    refine lv_goto (tgt := 30) hx hb dX7_leadBy_26 (by decide) ?_
    cases hr_5
    exact j30 _ _ _ (Or.inr rfl) hP hS (lv_sub hl [0, 2, 3, 4, 5] rfl)
def rm_X7_isGame : Room := { frames := 2, cells := 0, slots := 0, locals := 45 }
theorem gm_X7_isGame : Cond.static yX7_isGame ∈ wsL_law ∧ Cond.initialized yX7_isGame.cls ∈ wsL_law ∧ Cond.code yX7_isGame cX7_isGame 3 (some .boolean) ∈ wsL_law := ⟨gw_33_14, gw_1_5, gw_33_15⟩
theorem gd_X7_isGame : yX7_isGame.cls ≠ "java/lang/invoke/MethodHandle" ∧ yX7_isGame.cls ≠ "java/lang/invoke/VarHandle" ∧ (parseMethodDescriptor yX7_isGame.desc).map (fun d => d.parameters.length) = some 3 := by decide +kernel
set_option maxRecDepth 100000 in
set_option maxHeartbeats 0 in
theorem c_X7_isGame {l : Launch} {D : va_G} {k : Nat → ClassId} {ad : Nat → Nat} (had : InjN 31 ad) {M : Mem} (a1 : Int32) (a2 : Int32) (a3 : Int32) : Met l yX7_isGame (Cond.code yX7_isGame cX7_isGame 3 (some .boolean) :: wsL_law) rm_X7_isGame (va_Pc [.int a1, .int a2, .int a3] (GW 31 ad D k (cM ad k M))) (va_Qi (fun r u => (r = 0 ∨ r = 1) ∧ f_X7_isGame a1 a2 a3 = r ∧ u = M) (fun u t => GW 31 ad D k (cM ad k u) t) (AW 31 ad)) 0 0 (AW 31 ad) := by
  refine met_z (g := cM ad k) (M := M) (plainFor_of_name (by decide)) (Nat.le_of_ble_eq_true rfl) ?_
  intro p e s m args below meth c Q ls hx hb hml hG hown hK hret hP hS hl
  have hl : lv_has ls 3 [(0, .int a1), (1, .int a2), (2, .int a3)] := hl
  obtain ⟨V, hV⟩ : ∃ V, f_X7_isGame a1 a2 a3 = V := ⟨_, rfl⟩
  have he := hV
  unfold f_X7_isGame at he
  refine lv_iload_n hx hb dX7_isGame_0 rfl (lv_at hl 0 rfl) ?_
  refine callS_i [.int a1] [] hx hb hml hG hown hK (c_X7_isPlace had (M := M)  a1) gw_15_13 gm_X7_isPlace gd_X7_isPlace rfl rfl ⟨Nat.le_of_ble_eq_true rfl, Nat.le_of_ble_eq_true rfl⟩ ⟨Nat.le_refl _, Nat.le_refl _⟩ hP (fun _ h => h) hS rfl hl.1 rfl (Nat.le_of_ble_eq_true rfl) dX7_isGame_1 (fun r_1 u_3 H locs hF_2 hP hS => ?_)
  obtain ⟨hz_4, hF_2, hu⟩ := hF_2; rw [hu] at hP; subst hF_2
  obtain ⟨t_17, hr_6, he⟩ := bnd_ex he
  have j31 : ∀ (H : Heap) (locs : List Loc) (ls : Array Slot), (t_17 = 0 ∨ t_17 = 1) → va_P D vwCl (wld 31 ad (cM ad k M)) H → va_S (AW 31 ad) s.heap H locs → lv_has ls 3 [] → W p l e rm_X7_isGame s m args below meth c H locs 0 0 Q (F0 m 31 ls [.int t_17]) := by
    intro H locs ls zt_17 hP hS hl
    exact hret _ _ _ _ _ _ ⟨zt_17, (hV.trans he.symm), rfl⟩ (nz01 zt_17) hP hS dX7_isGame_31
  refine lv_if_eq (tgt := 30) hx hb dX7_isGame_4 (by decide) (fun hc_5 => ?_) (fun hc_5 => ?_)
  · have hr_6 := ite_t hr_6 hc_5
    refine lv_iconst (v := 0) hx hb dX7_isGame_30 (by decide) ?_
    cases hr_6
    exact j31 _ _ _ (Or.inl rfl) hP hS (lv_sub hl [] rfl)
  · have hr_6 := ite_f hr_6 hc_5
    refine lv_iload_n hx hb dX7_isGame_7 rfl (lv_at hl 1 rfl) ?_
    refine callS_i [.int a2] [] hx hb hml hG hown hK (c_X7_isPlace had (M := M)  a2) gw_15_13 gm_X7_isPlace gd_X7_isPlace rfl rfl ⟨Nat.le_of_ble_eq_true rfl, Nat.le_of_ble_eq_true rfl⟩ ⟨Nat.le_refl _, Nat.le_refl _⟩ hP (fun _ h => h) hS rfl hl.1 rfl (Nat.le_of_ble_eq_true rfl) dX7_isGame_8 (fun r_7 u_9 H locs hF_8 hP hS => ?_)
    obtain ⟨hz_10, hF_8, hu⟩ := hF_8; rw [hu] at hP; subst hF_8
    refine lv_if_eq (tgt := 30) hx hb dX7_isGame_11 (by decide) (fun hc_11 => ?_) (fun hc_11 => ?_)
    · have hr_6 := ite_t hr_6 hc_11
      refine lv_iconst (v := 0) hx hb dX7_isGame_30 (by decide) ?_
      cases hr_6
      exact j31 _ _ _ (Or.inl rfl) hP hS (lv_sub hl [] rfl)
    · have hr_6 := ite_f hr_6 hc_11
      refine lv_iload_n hx hb dX7_isGame_14 rfl (lv_at hl 2 rfl) ?_
      refine lv_i2l (v := a3.toInt64) hx hb dX7_isGame_15 rfl ?_
      refine lv_lconst (v := 0) hx hb dX7_isGame_16 (by decide) ?_
      refine lv_ldc2 (v := 3) hx hb hown (hG _ gw_33_16) dX7_isGame_17 ?_
      refine callS_i [.long a3.toInt64, .long 0, .long 3] [] hx hb hml hG hown hK (c_X7_in had (M := M)  a3.toInt64 0 3) gw_7_2 gm_X7_in gd_X7_in rfl rfl ⟨Nat.le_of_ble_eq_true rfl, Nat.le_of_ble_eq_true rfl⟩ ⟨Nat.le_refl _, Nat.le_refl _⟩ hP (fun _ h => h) hS rfl hl.1 rfl (Nat.le_of_ble_eq_true rfl) dX7_isGame_20 (fun r_12 u_14 H locs hF_13 hP hS => ?_)
      obtain ⟨hz_15, hF_13, hu⟩ := hF_13; rw [hu] at hP; subst hF_13
      refine lv_if_eq (tgt := 30) hx hb dX7_isGame_23 (by decide) (fun hc_16 => ?_) (fun hc_16 => ?_)
      · have hr_6 := ite_t hr_6 hc_16
        refine lv_iconst (v := 0) hx hb dX7_isGame_30 (by decide) ?_
        cases hr_6
        exact j31 _ _ _ (Or.inl rfl) hP hS (lv_sub hl [] rfl)
      · have hr_6 := ite_f hr_6 hc_16
        refine lv_iconst (v := 1) hx hb dX7_isGame_26 (by decide) ?_
        refine lv_goto (tgt := 31) hx hb dX7_isGame_27 (by decide) ?_
        cases hr_6
        exact j31 _ _ _ (Or.inr rfl) hP hS (lv_sub hl [] rfl)
def rm_X7_lead : Room := { frames := 6, cells := 0, slots := 0, locals := 134 }
theorem gm_X7_lead : Cond.instanceMethod yX7_lead ∈ wsL_law ∧ Cond.selects RX7 yX7_lead yX7_lead ∈ wsL_law ∧ Cond.initialized RX7 ∈ wsL_law ∧ Cond.code yX7_lead cX7_lead 7 (some .int) ∈ wsL_law := ⟨gw_33_9, gw_33_10, gw_1_5, gw_33_11⟩
theorem gd_X7_lead : yX7_lead.cls = RX7 ∧ yX7_lead.cls ≠ "java/lang/invoke/MethodHandle" ∧ yX7_lead.cls ≠ "java/lang/invoke/VarHandle" ∧ (parseMethodDescriptor yX7_lead.desc).map (fun d => d.parameters.length) = some 5 := by decide +kernel
set_option maxRecDepth 100000 in
set_option maxHeartbeats 0 in
theorem c_X7_lead {l : Launch} {D : va_G} {k : Nat → ClassId} {ad : Nat → Nat} (had : InjN 31 ad) (M : Mem) (a1 : Int32) (a2 : Int32) (a3 : Int32) (a4 : Int32) (a5 : Int32) (hI : MI M) : Met l yX7_lead (Cond.code yX7_lead cX7_lead 7 (some .int) :: wsL_law) rm_X7_lead (va_Pc [.ref (ad 0), .int a1, .int a2, .int a3, .int a4, .int a5] (GW 31 ad D k (cM ad k M))) (va_Qi (fun r u => (f_X7_lead M a1 a2 a3 a4 a5 = (r, u) ∧ TI M u)) (fun u t => GW 31 ad D k (cM ad k u) t) (AW 31 ad)) 0 0 (AW 31 ad) := by
  refine met_i (g := cM ad k) (M := M) (plainFor_of_name (by decide)) (Nat.le_of_ble_eq_true rfl) ?_
  intro p e s m args below meth c Q ls hx hb hml hG hown hK hret hP hS hl
  have hl : lv_has ls 7 [(0, .ref (ad 0)), (1, .int a1), (2, .int a2), (3, .int a3), (4, .int a4), (5, .int a5)] := hl
  obtain ⟨V, hV⟩ : ∃ V, f_X7_lead M a1 a2 a3 a4 a5 = V := ⟨_, rfl⟩
  have he := hV
  unfold f_X7_lead at he
  have hT0 : TI M M := TI_rf hI
  have qb_M := hI.1
  have qs_M := hI.2.1
  have qz_M := hI.2.2.1
  refine lv_aload_n hx hb dX7_lead_0 rfl (lv_at hl 0 rfl) ?_
  refine lv_iconst (v := 0) hx hb dX7_lead_1 (by decide) ?_
  refine pX7_19 hx hb hG hown hK hP had AW_in hS gw_5_19 dX7_lead_2 (fun H locs hP hS => ?_)
  obtain ⟨M_1, eM_1⟩ : ∃ y : Mem, y = up2 M 0 19 0 := ⟨_, rfl⟩
  rw [← eM_1] at hP
  have he := bnd_at he eM_1
  have hTM_1 : TI M M_1 := by rw [eM_1]; exact TI_f hT0 (by decide)
  have qb_M_1 := hTM_1.1.1
  have qs_M_1 := hTM_1.1.2.1
  have qz_M_1 := hTM_1.1.2.2.1
  refine lv_iload_n hx hb dX7_lead_5 rfl (lv_at hl 1 rfl) ?_
  refine lv_iload_n hx hb dX7_lead_6 rfl (lv_at hl 2 rfl) ?_
  refine lv_iload_n hx hb dX7_lead_7 rfl (lv_at hl 3 rfl) ?_
  refine callS_i [.int a1, .int a2, .int a3] [] hx hb hml hG hown hK (c_X7_isGame had (M := M_1)  a1 a2 a3) gw_33_13 gm_X7_isGame gd_X7_isGame rfl rfl ⟨Nat.le_of_ble_eq_true rfl, Nat.le_of_ble_eq_true rfl⟩ ⟨Nat.le_refl _, Nat.le_refl _⟩ hP (fun _ h => h) hS rfl hl.1 rfl (Nat.le_of_ble_eq_true rfl) dX7_lead_8 (fun r_2 u_4 H locs hF_3 hP hS => ?_)
  obtain ⟨hz_5, hF_3, hu⟩ := hF_3; rw [hu] at hP; subst hF_3
  refine lv_if_eq (tgt := 40) hx hb dX7_lead_11 (by decide) (fun hc_6 => ?_) (fun hc_6 => ?_)
  · have he := ite_t he hc_6
    refine lv_ldcw (v := (-1000000001)) hx hb hown (hG _ gw_12_16) dX7_lead_40 ?_
    exact hret _ _ _ _ _ _ ⟨(hV.trans he.symm), hTM_1⟩ hP hS dX7_lead_43
  · have he := ite_f he hc_6
    refine lv_iload hx hb dX7_lead_14 (lv_at hl 4 rfl) ?_
    refine lv_i2l (v := a4.toInt64) hx hb dX7_lead_16 rfl ?_
    refine lv_lconst (v := 0) hx hb dX7_lead_17 (by decide) ?_
    refine lv_ldc2 (v := 15) hx hb hown (hG _ gw_33_12) dX7_lead_18 ?_
    refine callS_i [.long a4.toInt64, .long 0, .long 15] [] hx hb hml hG hown hK (c_X7_in had (M := M_1)  a4.toInt64 0 15) gw_7_2 gm_X7_in gd_X7_in rfl rfl ⟨Nat.le_of_ble_eq_true rfl, Nat.le_of_ble_eq_true rfl⟩ ⟨Nat.le_refl _, Nat.le_refl _⟩ hP (fun _ h => h) hS rfl hl.1 rfl (Nat.le_of_ble_eq_true rfl) dX7_lead_21 (fun r_7 u_9 H locs hF_8 hP hS => ?_)
    obtain ⟨hz_10, hF_8, hu⟩ := hF_8; rw [hu] at hP; subst hF_8
    refine lv_if_eq (tgt := 40) hx hb dX7_lead_24 (by decide) (fun hc_11 => ?_) (fun hc_11 => ?_)
    · have he := ite_t he hc_11
      refine lv_ldcw (v := (-1000000001)) hx hb hown (hG _ gw_12_16) dX7_lead_40 ?_
      exact hret _ _ _ _ _ _ ⟨(hV.trans he.symm), hTM_1⟩ hP hS dX7_lead_43
    · have he := ite_f he hc_11
      refine lv_iload hx hb dX7_lead_27 (lv_at hl 5 rfl) ?_
      refine lv_i2l (v := a5.toInt64) hx hb dX7_lead_29 rfl ?_
      refine lv_lconst (v := 0) hx hb dX7_lead_30 (by decide) ?_
      refine lv_ldc2 (v := 15) hx hb hown (hG _ gw_33_12) dX7_lead_31 ?_
      refine callS_i [.long a5.toInt64, .long 0, .long 15] [] hx hb hml hG hown hK (c_X7_in had (M := M_1)  a5.toInt64 0 15) gw_7_2 gm_X7_in gd_X7_in rfl rfl ⟨Nat.le_of_ble_eq_true rfl, Nat.le_of_ble_eq_true rfl⟩ ⟨Nat.le_refl _, Nat.le_refl _⟩ hP (fun _ h => h) hS rfl hl.1 rfl (Nat.le_of_ble_eq_true rfl) dX7_lead_34 (fun r_12 u_14 H locs hF_13 hP hS => ?_)
      obtain ⟨hz_15, hF_13, hu⟩ := hF_13; rw [hu] at hP; subst hF_13
      refine lv_if_ne (tgt := 44) hx hb dX7_lead_37 (by decide) (fun hc_16 => ?_) (fun hc_16 => ?_)
      · have he := ite_t he hc_16
        refine lv_aload_n hx hb dX7_lead_44 rfl (lv_at hl 0 rfl) ?_
        refine call_v [] [] hx hb hml hG hown hK (c_X7_open had M_1 hTM_1.1) gw_28_16 gm_X7_open gd_X7_open rfl rfl ⟨Nat.le_of_ble_eq_true rfl, Nat.le_of_ble_eq_true rfl⟩ ⟨Nat.le_refl _, Nat.le_refl _⟩ (rX7 hK hP) hP (fun _ h => h) hS rfl hl.1 rfl (Nat.le_of_ble_eq_true rfl) dX7_lead_45 (fun M_19 H locs hF_18 hP hS => ?_)
        obtain ⟨hF_18, hti_20⟩ := hF_18
        have he := bnd_at he hF_18.symm
        have hNM_19 := hti_20.2
        have hTM_19 : TI M M_19 := TI_tr hTM_1 hti_20.1
        have qb_M_19 := hTM_19.1.1
        have qs_M_19 := hTM_19.1.2.1
        have qz_M_19 := hTM_19.1.2.2.1
        refine lv_aload_n hx hb dX7_lead_48 rfl (lv_at hl 0 rfl) ?_
        refine call_v [] [] hx hb hml hG hown hK (c_X7_layWinds had M_19 hTM_19.1) gw_22_9 gm_X7_layWinds gd_X7_layWinds rfl rfl ⟨Nat.le_of_ble_eq_true rfl, Nat.le_of_ble_eq_true rfl⟩ ⟨Nat.le_refl _, Nat.le_refl _⟩ (rX7 hK hP) hP (fun _ h => h) hS rfl hl.1 rfl (Nat.le_of_ble_eq_true rfl) dX7_lead_49 (fun M_23 H locs hF_22 hP hS => ?_)
        obtain ⟨hF_22, hti_24⟩ := hF_22
        have he := bnd_at he hF_22.symm
        have hNM_23 : SN (M_23 20) := hti_24.2 hNM_19
        have hTM_23 : TI M M_23 := TI_tr hTM_19 hti_24
        have qb_M_23 := hTM_23.1.1
        have qs_M_23 := hTM_23.1.2.1
        have qz_M_23 := hTM_23.1.2.2.1
        refine lv_aload_n hx hb dX7_lead_52 rfl (lv_at hl 0 rfl) ?_
        refine lv_iload_n hx hb dX7_lead_53 rfl (lv_at hl 1 rfl) ?_
        refine lv_iload_n hx hb dX7_lead_54 rfl (lv_at hl 2 rfl) ?_
        refine lv_iload_n hx hb dX7_lead_55 rfl (lv_at hl 3 rfl) ?_
        refine lv_iload hx hb dX7_lead_56 (lv_at hl 4 rfl) ?_
        refine lv_iload hx hb dX7_lead_58 (lv_at hl 5 rfl) ?_
        refine call_i [.int a1, .int a2, .int a3, .int a4, .int a5] [] hx hb hml hG hown hK (c_X7_leadBy had M_23 a1 a2 a3 a4 a5 hTM_23.1) gw_33_17 gm_X7_leadBy gd_X7_leadBy rfl rfl ⟨Nat.le_of_ble_eq_true rfl, Nat.le_of_ble_eq_true rfl⟩ ⟨Nat.le_refl _, Nat.le_refl _⟩ (rX7 hK hP) hP (fun _ h => h) hS rfl hl.1 rfl (Nat.le_of_ble_eq_true rfl) dX7_lead_60 (fun r_25 M_27 H locs hF_26 hP hS => ?_)
        obtain ⟨hF_26, hti_28⟩ := hF_26
        have he := bnd2_at he hF_26
        have hNM_27 : SN (M_27 20) := hti_28.2 hNM_23
        have hTM_27 : TI M M_27 := TI_tr hTM_23 hti_28
        have qb_M_27 := hTM_27.1.1
        have qs_M_27 := hTM_27.1.2.1
        have qz_M_27 := hTM_27.1.2.2.1
        refine lv_istore (lv' := [(6, .int r_25), (0, .ref (ad 0)), (1, .int a1), (2, .int a2), (3, .int a3), (4, .int a4), (5, .int a5)]) hx hb dX7_lead_63 hl (by decide) rfl (fun ls hl => ?_)
        refine lv_aload_n hx hb dX7_lead_65 rfl (lv_at hl 1 rfl) ?_
        refine call_v [] [] hx hb hml hG hown hK (c_X7_close had M_27 hTM_27.1 hNM_27) gw_29_15 gm_X7_close gd_X7_close rfl rfl ⟨Nat.le_of_ble_eq_true rfl, Nat.le_of_ble_eq_true rfl⟩ ⟨Nat.le_refl _, Nat.le_refl _⟩ (rX7 hK hP) hP (fun _ h => h) hS rfl hl.1 rfl (Nat.le_of_ble_eq_true rfl) dX7_lead_66 (fun M_31 H locs hF_30 hP hS => ?_)
        obtain ⟨hF_30, hti_32⟩ := hF_30
        have he := bnd_at he hF_30.symm
        have hNM_31 : SN (M_31 20) := hti_32.2 hNM_27
        have hTM_31 : TI M M_31 := TI_tr hTM_27 hti_32
        have qb_M_31 := hTM_31.1.1
        have qs_M_31 := hTM_31.1.2.1
        have qz_M_31 := hTM_31.1.2.2.1
        refine lv_iload hx hb dX7_lead_69 (lv_at hl 0 rfl) ?_
        exact hret _ _ _ _ _ _ ⟨(hV.trans he.symm), hTM_31⟩ hP hS dX7_lead_71
      · have he := ite_f he (fun q => q hc_16)
        refine lv_ldcw (v := (-1000000001)) hx hb hown (hG _ gw_12_16) dX7_lead_40 ?_
        exact hret _ _ _ _ _ _ ⟨(hV.trans he.symm), hTM_1⟩ hP hS dX7_lead_43
def rm_X7_safe : Room := { frames := 6, cells := 0, slots := 0, locals := 134 }
theorem gm_X7_safe : Cond.instanceMethod yX7_safe ∈ wsL_law ∧ Cond.selects RX7 yX7_safe yX7_safe ∈ wsL_law ∧ Cond.initialized RX7 ∈ wsL_law ∧ Cond.code yX7_safe cX7_safe 11 (some .int) ∈ wsL_law := ⟨gw_34_14, gw_34_15, gw_1_5, gw_34_16⟩
theorem gd_X7_safe : yX7_safe.cls = RX7 ∧ yX7_safe.cls ≠ "java/lang/invoke/MethodHandle" ∧ yX7_safe.cls ≠ "java/lang/invoke/VarHandle" ∧ (parseMethodDescriptor yX7_safe.desc).map (fun d => d.parameters.length) = some 4 := by decide +kernel
set_option maxRecDepth 100000 in
set_option maxHeartbeats 0 in
theorem c_X7_safe {l : Launch} {D : va_G} {k : Nat → ClassId} {ad : Nat → Nat} (had : InjN 31 ad) (M : Mem) (a1 : Int32) (a2 : Int32) (a3 : Int32) (a4 : Int32) (hI : MI M) : Met l yX7_safe (Cond.code yX7_safe cX7_safe 11 (some .int) :: wsL_law) rm_X7_safe (va_Pc [.ref (ad 0), .int a1, .int a2, .int a3, .int a4] (GW 31 ad D k (cM ad k M))) (va_Qi (fun r u => (f_X7_safe M a1 a2 a3 a4 = (r, u) ∧ TI M u)) (fun u t => GW 31 ad D k (cM ad k u) t) (AW 31 ad)) 0 0 (AW 31 ad) := by
  refine met_i (g := cM ad k) (M := M) (plainFor_of_name (by decide)) (Nat.le_of_ble_eq_true rfl) ?_
  intro p e s m args below meth c Q ls hx hb hml hG hown hK hret hP hS hl
  have hl : lv_has ls 11 [(0, .ref (ad 0)), (1, .int a1), (2, .int a2), (3, .int a3), (4, .int a4)] := hl
  obtain ⟨V, hV⟩ : ∃ V, f_X7_safe M a1 a2 a3 a4 = V := ⟨_, rfl⟩
  have he := hV
  unfold f_X7_safe at he
  have hT0 : TI M M := TI_rf hI
  have qb_M := hI.1
  have qs_M := hI.2.1
  have qz_M := hI.2.2.1
  refine lv_aload_n hx hb dX7_safe_0 rfl (lv_at hl 0 rfl) ?_
  refine lv_iconst (v := 0) hx hb dX7_safe_1 (by decide) ?_
  refine pX7_19 hx hb hG hown hK hP had AW_in hS gw_5_19 dX7_safe_2 (fun H locs hP hS => ?_)
  obtain ⟨M_1, eM_1⟩ : ∃ y : Mem, y = up2 M 0 19 0 := ⟨_, rfl⟩
  rw [← eM_1] at hP
  have he := bnd_at he eM_1
  have hTM_1 : TI M M_1 := by rw [eM_1]; exact TI_f hT0 (by decide)
  have qb_M_1 := hTM_1.1.1
  have qs_M_1 := hTM_1.1.2.1
  have qz_M_1 := hTM_1.1.2.2.1
  refine lv_iload_n hx hb dX7_safe_5 rfl (lv_at hl 1 rfl) ?_
  refine lv_iload_n hx hb dX7_safe_6 rfl (lv_at hl 2 rfl) ?_
  refine lv_iload_n hx hb dX7_safe_7 rfl (lv_at hl 3 rfl) ?_
  refine callS_i [.int a1, .int a2, .int a3] [] hx hb hml hG hown hK (c_X7_isGame had (M := M_1)  a1 a2 a3) gw_33_13 gm_X7_isGame gd_X7_isGame rfl rfl ⟨Nat.le_of_ble_eq_true rfl, Nat.le_of_ble_eq_true rfl⟩ ⟨Nat.le_refl _, Nat.le_refl _⟩ hP (fun _ h => h) hS rfl hl.1 rfl (Nat.le_of_ble_eq_true rfl) dX7_safe_8 (fun r_2 u_4 H locs hF_3 hP hS => ?_)
  obtain ⟨hz_5, hF_3, hu⟩ := hF_3; rw [hu] at hP; subst hF_3
  refine lv_if_eq (tgt := 25) hx hb dX7_safe_11 (by decide) (fun hc_6 => ?_) (fun hc_6 => ?_)
  · have he := ite_t he hc_6
    refine lv_ldcw (v := (-1000000001)) hx hb hown (hG _ gw_12_16) dX7_safe_25 ?_
    exact hret _ _ _ _ _ _ ⟨(hV.trans he.symm), hTM_1⟩ hP hS dX7_safe_28
  · have he := ite_f he hc_6
    refine lv_iload hx hb dX7_safe_14 (lv_at hl 4 rfl) ?_
    refine lv_i2l (v := a4.toInt64) hx hb dX7_safe_16 rfl ?_
    refine lv_lconst (v := 0) hx hb dX7_safe_17 (by decide) ?_
    refine lv_lconst (v := 1) hx hb dX7_safe_18 (by decide) ?_
    refine callS_i [.long a4.toInt64, .long 0, .long 1] [] hx hb hml hG hown hK (c_X7_in had (M := M_1)  a4.toInt64 0 1) gw_7_2 gm_X7_in gd_X7_in rfl rfl ⟨Nat.le_of_ble_eq_true rfl, Nat.le_of_ble_eq_true rfl⟩ ⟨Nat.le_refl _, Nat.le_refl _⟩ hP (fun _ h => h) hS rfl hl.1 rfl (Nat.le_of_ble_eq_true rfl) dX7_safe_19 (fun r_7 u_9 H locs hF_8 hP hS => ?_)
    obtain ⟨hz_10, hF_8, hu⟩ := hF_8; rw [hu] at hP; subst hF_8
    refine lv_if_ne (tgt := 29) hx hb dX7_safe_22 (by decide) (fun hc_11 => ?_) (fun hc_11 => ?_)
    · have he := ite_t he hc_11
      refine lv_aload_n hx hb dX7_safe_29 rfl (lv_at hl 0 rfl) ?_
      refine call_v [] [] hx hb hml hG hown hK (c_X7_open had M_1 hTM_1.1) gw_28_16 gm_X7_open gd_X7_open rfl rfl ⟨Nat.le_of_ble_eq_true rfl, Nat.le_of_ble_eq_true rfl⟩ ⟨Nat.le_refl _, Nat.le_refl _⟩ (rX7 hK hP) hP (fun _ h => h) hS rfl hl.1 rfl (Nat.le_of_ble_eq_true rfl) dX7_safe_30 (fun M_14 H locs hF_13 hP hS => ?_)
      obtain ⟨hF_13, hti_15⟩ := hF_13
      have he := bnd_at he hF_13.symm
      have hNM_14 := hti_15.2
      have hTM_14 : TI M M_14 := TI_tr hTM_1 hti_15.1
      have qb_M_14 := hTM_14.1.1
      have qs_M_14 := hTM_14.1.2.1
      have qz_M_14 := hTM_14.1.2.2.1
      refine lv_aload_n hx hb dX7_safe_33 rfl (lv_at hl 0 rfl) ?_
      refine call_v [] [] hx hb hml hG hown hK (c_X7_layWinds had M_14 hTM_14.1) gw_22_9 gm_X7_layWinds gd_X7_layWinds rfl rfl ⟨Nat.le_of_ble_eq_true rfl, Nat.le_of_ble_eq_true rfl⟩ ⟨Nat.le_refl _, Nat.le_refl _⟩ (rX7 hK hP) hP (fun _ h => h) hS rfl hl.1 rfl (Nat.le_of_ble_eq_true rfl) dX7_safe_34 (fun M_18 H locs hF_17 hP hS => ?_)
      obtain ⟨hF_17, hti_19⟩ := hF_17
      have he := bnd_at he hF_17.symm
      have hNM_18 : SN (M_18 20) := hti_19.2 hNM_14
      have hTM_18 : TI M M_18 := TI_tr hTM_14 hti_19
      have qb_M_18 := hTM_18.1.1
      have qs_M_18 := hTM_18.1.2.1
      have qz_M_18 := hTM_18.1.2.2.1
      refine lv_iconst (v := 0) hx hb dX7_safe_37 (by decide) ?_
      refine lv_istore (lv' := [(5, .int 0), (0, .ref (ad 0)), (1, .int a1), (2, .int a2), (3, .int a3), (4, .int a4)]) hx hb dX7_safe_38 hl (by decide) rfl (fun ls hl => ?_)
      refine lv_ldcw (v := (-1000000000)) hx hb hown (hG _ gw_34_17) dX7_safe_40 ?_
      refine lv_istore (lv' := [(6, .int (-1000000000)), (5, .int 0), (0, .ref (ad 0)), (1, .int a1), (2, .int a2), (3, .int a3), (4, .int a4)]) hx hb dX7_safe_43 hl (by decide) rfl (fun ls hl => ?_)
      refine lv_iconst (v := 0) hx hb dX7_safe_45 (by decide) ?_
      refine lv_istore (lv' := [(7, .int 0), (6, .int (-1000000000)), (5, .int 0), (0, .ref (ad 0)), (1, .int a1), (2, .int a2), (3, .int a3), (4, .int a4)]) hx hb dX7_safe_46 hl (by decide) rfl (fun ls hl => ?_)
      obtain ⟨w_143, w_144, M_145, hr_106, he⟩ := bnd3_ex he
      have j143 : ∀ (H : Heap) (locs : List Loc) (ls : Array Slot), TI M M_145 → SN (M_145 20) → va_P D vwCl (wld 31 ad (cM ad k M_145)) H → va_S (AW 31 ad) s.heap H locs → lv_has ls 11 [(0, .ref (ad 0)), (4, .int a4), (5, .int w_143), (6, .int w_144)] → W p l e rm_X7_safe s m args below meth c H locs 0 0 Q (F0 m 143 ls []) := by
        intro H locs ls hTM_145 hNM_145 hP hS hl
        have qb_M_145 := hTM_145.1.1
        have qs_M_145 := hTM_145.1.2.1
        have qz_M_145 := hTM_145.1.2.2.1
        refine lv_aload_n hx hb dX7_safe_143 rfl (lv_at hl 0 rfl) ?_
        refine call_v [] [] hx hb hml hG hown hK (c_X7_close had M_145 hTM_145.1 hNM_145) gw_29_15 gm_X7_close gd_X7_close rfl rfl ⟨Nat.le_of_ble_eq_true rfl, Nat.le_of_ble_eq_true rfl⟩ ⟨Nat.le_refl _, Nat.le_refl _⟩ (rX7 hK hP) hP (fun _ h => h) hS rfl hl.1 rfl (Nat.le_of_ble_eq_true rfl) dX7_safe_144 (fun M_148 H locs hF_147 hP hS => ?_)
        obtain ⟨hF_147, hti_149⟩ := hF_147
        have he := bnd_at he hF_147.symm
        have hNM_148 : SN (M_148 20) := hti_149.2 hNM_145
        have hTM_148 : TI M M_148 := TI_tr hTM_145 hti_149
        have qb_M_148 := hTM_148.1.1
        have qs_M_148 := hTM_148.1.2.1
        have qz_M_148 := hTM_148.1.2.2.1
        refine lv_iload hx hb dX7_safe_147 (lv_at hl 1 rfl) ?_
        obtain ⟨t_152, hr_151, he⟩ := bnd_ex he
        have j159 : ∀ (H : Heap) (locs : List Loc) (ls : Array Slot), va_P D vwCl (wld 31 ad (cM ad k M_148)) H → va_S (AW 31 ad) s.heap H locs → lv_has ls 11 [] → W p l e rm_X7_safe s m args below meth c H locs 0 0 Q (F0 m 159 ls [.int t_152]) := by
          intro H locs ls hP hS hl
          exact hret _ _ _ _ _ _ ⟨(hV.trans he.symm), hTM_148⟩ hP hS dX7_safe_159
        refine lv_if_ne (tgt := 157) hx hb dX7_safe_149 (by decide) (fun hc_150 => ?_) (fun hc_150 => ?_)
        · have hr_151 := ite_t hr_151 hc_150
          refine lv_iload hx hb dX7_safe_157 (lv_at hl 2 rfl) ?_
          cases hr_151
          exact j159 _ _ _ hP hS (lv_sub hl [] rfl)
        · have hr_151 := ite_f hr_151 (fun q => q hc_150)
          refine lv_iload hx hb dX7_safe_152 (lv_at hl 3 rfl) ?_
          refine lv_goto (tgt := 159) hx hb dX7_safe_154 (by decide) ?_
          cases hr_151
          exact j159 _ _ _ hP hS (lv_sub hl [] rfl)
      have lp48 : ∀ (nn : Nat) (H : Heap) (locs : List Loc) (ls : Array Slot) (M_105 : Mem) (v_102 : Int32) (v_103 : Int32) (v_104 : Int32), (0 ≤ v_104.toInt) → (TI M M_105) → (SN (M_105 20)) → (16 - v_104.toInt).toNat < nn → lp_X7_safe_48 nn a1 a2 a3 M_105 v_102 v_103 v_104 = (w_143, w_144, M_145) → va_P D vwCl (wld 31 ad (cM ad k M_105)) H → va_S (AW 31 ad) s.heap H locs → lv_has ls 11 [(0, .ref (ad 0)), (1, .int a1), (2, .int a2), (3, .int a3), (4, .int a4), (5, .int v_102), (6, .int v_103), (7, .int v_104)] → W p l e rm_X7_safe s m args below meth c H locs 0 0 Q (F0 m 48 ls []) := by
        intro nn
        induction nn with
        | zero =>
          intro H locs ls M_105 v_102 v_103 v_104 h0v_104 hTM_105 hNM_105 hμ
          exact absurd hμ (Nat.not_lt_zero _)
        | succ nn ih =>
          intro H locs ls M_105 v_102 v_103 v_104 h0v_104 hTM_105 hNM_105 hμ hr_106 hP hS hl
          rw [lp_X7_safe_48] at hr_106
          have qb_M_105 := hTM_105.1.1
          have qs_M_105 := hTM_105.1.2.1
          have qz_M_105 := hTM_105.1.2.2.1
          refine lv_iload hx hb dX7_safe_48 (lv_at hl 7 rfl) ?_
          refine lv_bipush (v := 16) hx hb dX7_safe_50 (by decide) ?_
          refine lv_icmp_ge (tgt := 143) hx hb dX7_safe_52 (by decide) (fun hc_107 => ?_) (fun hc_107 => ?_)
          · have hr_106 := ite_t hr_106 hc_107
            cases hr_106
            exact j143 _ _ _ hTM_105 hNM_105 hP hS (lv_sub hl [0, 4, 5, 6] rfl)
          · have hr_106 := ite_f hr_106 hc_107
            refine lv_ldcw (v := 1000000000) hx hb hown (hG _ gw_34_18) dX7_safe_55 ?_
            refine lv_istore (lv' := [(8, .int 1000000000), (0, .ref (ad 0)), (1, .int a1), (2, .int a2), (3, .int a3), (4, .int a4), (5, .int v_102), (6, .int v_103), (7, .int v_104)]) hx hb dX7_safe_58 hl (by decide) rfl (fun ls hl => ?_)
            refine lv_iconst (v := 0) hx hb dX7_safe_60 (by decide) ?_
            refine lv_istore (lv' := [(9, .int 0), (8, .int 1000000000), (0, .ref (ad 0)), (1, .int a1), (2, .int a2), (3, .int a3), (4, .int a4), (5, .int v_102), (6, .int v_103), (7, .int v_104)]) hx hb dX7_safe_61 hl (by decide) rfl (fun ls hl => ?_)
            obtain ⟨w_134, M_135, hr_124, hr_106⟩ := bnd2_ex hr_106
            have j105 : ∀ (H : Heap) (locs : List Loc) (ls : Array Slot), TI M M_135 → SN (M_135 20) → va_P D vwCl (wld 31 ad (cM ad k M_135)) H → va_S (AW 31 ad) s.heap H locs → lv_has ls 11 [(0, .ref (ad 0)), (1, .int a1), (2, .int a2), (3, .int a3), (4, .int a4), (5, .int v_102), (6, .int v_103), (7, .int v_104), (8, .int w_134)] → W p l e rm_X7_safe s m args below meth c H locs 0 0 Q (F0 m 105 ls []) := by
              intro H locs ls hTM_135 hNM_135 hP hS hl
              have qb_M_135 := hTM_135.1.1
              have qs_M_135 := hTM_135.1.2.1
              have qz_M_135 := hTM_135.1.2.2.1
              refine lv_iload hx hb dX7_safe_105 (lv_at hl 8 rfl) ?_
              refine lv_iload hx hb dX7_safe_107 (lv_at hl 6 rfl) ?_
              obtain ⟨t_138, hr_137, hr_106⟩ := bnd_ex hr_106
              have j119 : ∀ (H : Heap) (locs : List Loc) (ls : Array Slot), va_P D vwCl (wld 31 ad (cM ad k M_135)) H → va_S (AW 31 ad) s.heap H locs → lv_has ls 11 [(0, .ref (ad 0)), (1, .int a1), (2, .int a2), (3, .int a3), (4, .int a4), (6, .int v_103), (7, .int v_104), (8, .int w_134)] → W p l e rm_X7_safe s m args below meth c H locs 0 0 Q (F0 m 119 ls [.int t_138]) := by
                intro H locs ls hP hS hl
                refine lv_istore (lv' := [(5, .int t_138), (0, .ref (ad 0)), (1, .int a1), (2, .int a2), (3, .int a3), (4, .int a4), (6, .int v_103), (7, .int v_104), (8, .int w_134)]) hx hb dX7_safe_119 hl (by decide) rfl (fun ls hl => ?_)
                refine lv_iload hx hb dX7_safe_121 (lv_at hl 8 rfl) ?_
                refine lv_iload hx hb dX7_safe_123 (lv_at hl 6 rfl) ?_
                obtain ⟨t_141, hr_140, hr_106⟩ := bnd_ex hr_106
                have j135 : ∀ (H : Heap) (locs : List Loc) (ls : Array Slot), va_P D vwCl (wld 31 ad (cM ad k M_135)) H → va_S (AW 31 ad) s.heap H locs → lv_has ls 11 [(0, .ref (ad 0)), (1, .int a1), (2, .int a2), (3, .int a3), (4, .int a4), (5, .int t_138), (7, .int v_104)] → W p l e rm_X7_safe s m args below meth c H locs 0 0 Q (F0 m 135 ls [.int t_141]) := by
                  intro H locs ls hP hS hl
                  refine lv_istore (lv' := [(6, .int t_141), (0, .ref (ad 0)), (1, .int a1), (2, .int a2), (3, .int a3), (4, .int a4), (5, .int t_138), (7, .int v_104)]) hx hb dX7_safe_135 hl (by decide) rfl (fun ls hl => ?_)
                  obtain ⟨y_142, ey_142⟩ : ∃ y_142 : Int32, y_142 = v_104 + 1 := ⟨_, rfl⟩
                  have hr_106 := bnd_at hr_106 ey_142
                  refine lv_iinc (v := y_142) (lv' := [(7, .int y_142), (6, .int t_141), (0, .ref (ad 0)), (1, .int a1), (2, .int a2), (3, .int a3), (4, .int a4), (5, .int t_138)]) hx hb dX7_safe_137 hl (k := 7) rfl (by rw [ey_142]; rfl) (by decide) rfl (fun ls hl => ?_)
                  refine lv_goto (tgt := 48) hx hb dX7_safe_140 (by decide) ?_
                  exact ih _ _ _ _ _ _ _ (by rw [ey_142, inc_I (N := 16) (nle_I hc_107) (by decide)]; omega) hTM_135 hNM_135 (by rw [ey_142]; exact mu_I hμ (nle_I hc_107) (by decide)) hr_106 hP hS (lv_sub hl [2, 3, 4, 5, 6, 7, 1, 0] rfl)
                refine lv_icmp_le (tgt := 133) hx hb dX7_safe_125 (by decide) (fun hc_139 => ?_) (fun hc_139 => ?_)
                · have hr_140 := ite_t hr_140 hc_139
                  refine lv_iload hx hb dX7_safe_133 (lv_at hl 6 rfl) ?_
                  cases hr_140
                  exact j135 _ _ _ hP hS (lv_sub hl [1, 2, 3, 4, 5, 0, 7] rfl)
                · have hr_140 := ite_f hr_140 hc_139
                  refine lv_iload hx hb dX7_safe_128 (lv_at hl 8 rfl) ?_
                  refine lv_goto (tgt := 135) hx hb dX7_safe_130 (by decide) ?_
                  cases hr_140
                  exact j135 _ _ _ hP hS (lv_sub hl [1, 2, 3, 4, 5, 0, 7] rfl)
              refine lv_icmp_le (tgt := 117) hx hb dX7_safe_109 (by decide) (fun hc_136 => ?_) (fun hc_136 => ?_)
              · have hr_137 := ite_t hr_137 hc_136
                refine lv_iload hx hb dX7_safe_117 (lv_at hl 5 rfl) ?_
                cases hr_137
                exact j119 _ _ _ hP hS (lv_sub hl [0, 1, 2, 3, 4, 6, 7, 8] rfl)
              · have hr_137 := ite_f hr_137 hc_136
                refine lv_iload hx hb dX7_safe_112 (lv_at hl 7 rfl) ?_
                refine lv_goto (tgt := 119) hx hb dX7_safe_114 (by decide) ?_
                cases hr_137
                exact j119 _ _ _ hP hS (lv_sub hl [0, 1, 2, 3, 4, 6, 7, 8] rfl)
            have lp63 : ∀ (nn : Nat) (H : Heap) (locs : List Loc) (ls : Array Slot) (M_123 : Mem) (v_121 : Int32) (v_122 : Int32), (0 ≤ v_122.toInt) → (TI M M_123) → (SN (M_123 20)) → (16 - v_122.toInt).toNat < nn → lp_X7_safe_63'' nn a1 a2 a3 v_104 M_123 v_121 v_122 = (w_134, M_135) → va_P D vwCl (wld 31 ad (cM ad k M_123)) H → va_S (AW 31 ad) s.heap H locs → lv_has ls 11 [(0, .ref (ad 0)), (1, .int a1), (2, .int a2), (3, .int a3), (4, .int a4), (5, .int v_102), (6, .int v_103), (7, .int v_104), (8, .int v_121), (9, .int v_122)] → W p l e rm_X7_safe s m args below meth c H locs 0 0 Q (F0 m 63 ls []) := by
              intro nn
              induction nn with
              | zero =>
                intro H locs ls M_123 v_121 v_122 h0v_122 hTM_123 hNM_123 hμ
                exact absurd hμ (Nat.not_lt_zero _)
              | succ nn ih =>
                intro H locs ls M_123 v_121 v_122 h0v_122 hTM_123 hNM_123 hμ hr_124 hP hS hl
                rw [lp_X7_safe_63''] at hr_124
                have qb_M_123 := hTM_123.1.1
                have qs_M_123 := hTM_123.1.2.1
                have qz_M_123 := hTM_123.1.2.2.1
                refine lv_iload hx hb dX7_safe_63 (lv_at hl 9 rfl) ?_
                refine lv_bipush (v := 16) hx hb dX7_safe_65 (by decide) ?_
                refine lv_icmp_ge (tgt := 105) hx hb dX7_safe_67 (by decide) (fun hc_125 => ?_) (fun hc_125 => ?_)
                · have hr_124 := ite_t hr_124 hc_125
                  cases hr_124
                  exact j105 _ _ _ hTM_123 hNM_123 hP hS (lv_sub hl [0, 1, 2, 3, 4, 5, 6, 7, 8] rfl)
                · have hr_124 := ite_f hr_124 hc_125
                  refine lv_aload_n hx hb dX7_safe_70 rfl (lv_at hl 0 rfl) ?_
                  refine lv_iload_n hx hb dX7_safe_71 rfl (lv_at hl 1 rfl) ?_
                  refine lv_iload_n hx hb dX7_safe_72 rfl (lv_at hl 2 rfl) ?_
                  refine lv_iload_n hx hb dX7_safe_73 rfl (lv_at hl 3 rfl) ?_
                  refine lv_iload hx hb dX7_safe_74 (lv_at hl 7 rfl) ?_
                  refine lv_iload hx hb dX7_safe_76 (lv_at hl 9 rfl) ?_
                  refine call_i [.int a1, .int a2, .int a3, .int v_104, .int v_122] [] hx hb hml hG hown hK (c_X7_leadBy had M_123 a1 a2 a3 v_104 v_122 hTM_123.1) gw_33_17 gm_X7_leadBy gd_X7_leadBy rfl rfl ⟨Nat.le_of_ble_eq_true rfl, Nat.le_of_ble_eq_true rfl⟩ ⟨Nat.le_refl _, Nat.le_refl _⟩ (rX7 hK hP) hP (fun _ h => h) hS rfl hl.1 rfl (Nat.le_of_ble_eq_true rfl) dX7_safe_78 (fun r_126 M_128 H locs hF_127 hP hS => ?_)
                  obtain ⟨hF_127, hti_129⟩ := hF_127
                  have hr_124 := bnd2_at hr_124 hF_127
                  have hNM_128 : SN (M_128 20) := hti_129.2 hNM_123
                  have hTM_128 : TI M M_128 := TI_tr hTM_123 hti_129
                  have qb_M_128 := hTM_128.1.1
                  have qs_M_128 := hTM_128.1.2.1
                  have qz_M_128 := hTM_128.1.2.2.1
                  refine lv_istore (lv' := [(10, .int r_126), (0, .ref (ad 0)), (1, .int a1), (2, .int a2), (3, .int a3), (4, .int a4), (5, .int v_102), (6, .int v_103), (7, .int v_104), (8, .int v_121), (9, .int v_122)]) hx hb dX7_safe_81 hl (by decide) rfl (fun ls hl => ?_)
                  refine lv_iload hx hb dX7_safe_83 (lv_at hl 0 rfl) ?_
                  refine lv_iload hx hb dX7_safe_85 (lv_at hl 9 rfl) ?_
                  obtain ⟨t_132, hr_131, hr_124⟩ := bnd_ex hr_124
                  have j97 : ∀ (H : Heap) (locs : List Loc) (ls : Array Slot), va_P D vwCl (wld 31 ad (cM ad k M_128)) H → va_S (AW 31 ad) s.heap H locs → lv_has ls 11 [(0, .ref (ad 0)), (1, .int a1), (2, .int a2), (3, .int a3), (4, .int a4), (5, .int v_102), (6, .int v_103), (7, .int v_104), (9, .int v_122)] → W p l e rm_X7_safe s m args below meth c H locs 0 0 Q (F0 m 97 ls [.int t_132]) := by
                    intro H locs ls hP hS hl
                    refine lv_istore (lv' := [(8, .int t_132), (0, .ref (ad 0)), (1, .int a1), (2, .int a2), (3, .int a3), (4, .int a4), (5, .int v_102), (6, .int v_103), (7, .int v_104), (9, .int v_122)]) hx hb dX7_safe_97 hl (by decide) rfl (fun ls hl => ?_)
                    obtain ⟨y_133, ey_133⟩ : ∃ y_133 : Int32, y_133 = v_122 + 1 := ⟨_, rfl⟩
                    have hr_124 := bnd_at hr_124 ey_133
                    refine lv_iinc (v := y_133) (lv' := [(9, .int y_133), (8, .int t_132), (0, .ref (ad 0)), (1, .int a1), (2, .int a2), (3, .int a3), (4, .int a4), (5, .int v_102), (6, .int v_103), (7, .int v_104)]) hx hb dX7_safe_99 hl (k := 9) rfl (by rw [ey_133]; rfl) (by decide) rfl (fun ls hl => ?_)
                    refine lv_goto (tgt := 63) hx hb dX7_safe_102 (by decide) ?_
                    exact ih _ _ _ _ _ _ (by rw [ey_133, inc_I (N := 16) (nle_I hc_125) (by decide)]; omega) hTM_128 hNM_128 (by rw [ey_133]; exact mu_I hμ (nle_I hc_125) (by decide)) hr_124 hP hS (lv_sub hl [2, 3, 4, 5, 6, 7, 8, 9, 1, 0] rfl)
                  refine lv_icmp_ge (tgt := 95) hx hb dX7_safe_87 (by decide) (fun hc_130 => ?_) (fun hc_130 => ?_)
                  · have hr_131 := ite_t hr_131 hc_130
                    refine lv_iload hx hb dX7_safe_95 (lv_at hl 9 rfl) ?_
                    cases hr_131
                    exact j97 _ _ _ hP hS (lv_sub hl [1, 2, 3, 4, 5, 6, 7, 8, 10] rfl)
                  · have hr_131 := ite_f hr_131 hc_130
                    refine lv_iload hx hb dX7_safe_90 (lv_at hl 0 rfl) ?_
                    refine lv_goto (tgt := 97) hx hb dX7_safe_92 (by decide) ?_
                    cases hr_131
                    exact j97 _ _ _ hP hS (lv_sub hl [1, 2, 3, 4, 5, 6, 7, 8, 10] rfl)
            exact lp63 _ _ _ _ _ _ _ (by decide) hTM_105 hNM_105 (by decide) hr_124 hP hS (lv_sub hl [2, 3, 4, 5, 6, 7, 8, 9, 1, 0] rfl)
      exact lp48 _ _ _ _ _ _ _ _ (by decide) hTM_18 hNM_18 (by decide) hr_106 hP hS (lv_sub hl [3, 4, 5, 6, 7, 2, 1, 0] rfl)
    · have he := ite_f he (fun q => q hc_11)
      refine lv_ldcw (v := (-1000000001)) hx hb hown (hG _ gw_12_16) dX7_safe_25 ?_
      exact hret _ _ _ _ _ _ ⟨(hV.trans he.symm), hTM_1⟩ hP hS dX7_safe_28
