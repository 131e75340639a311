-- @needs 12_dec 13_dec 14_dec 15_dec 31_hC 40_cC 42_cC 44_cC 46_cC 47_cC 49_cC
def rm_X5_swing : Room := { frames := 1, cells := 0, slots := 0, locals := 21 }
theorem gm_X5_swing : Cond.instanceMethod yX5_swing ∈ wsL_law ∧ Cond.selects RX5 yX5_swing yX5_swing ∈ wsL_law ∧ Cond.initialized RX5 ∈ wsL_law ∧ Cond.code yX5_swing cX5_swing 6 (some .int) ∈ wsL_law := ⟨gw_35_21, gw_35_22, gw_2_4, gw_35_23⟩
theorem gd_X5_swing : yX5_swing.cls = RX5 ∧ yX5_swing.cls ≠ "java/lang/invoke/MethodHandle" ∧ yX5_swing.cls ≠ "java/lang/invoke/VarHandle" ∧ (parseMethodDescriptor yX5_swing.desc).map (fun d => d.parameters.length) = some 0 := by decide +kernel
set_option maxRecDepth 100000 in
set_option maxHeartbeats 0 in
theorem c_X5_swing {l : Launch} {D : va_G} {k : Nat → ClassId} {ad : Nat → Nat} (had : InjN 74 ad) (M : Mem) (o : Nat) (ho : kShf o) : Met l yX5_swing (Cond.code yX5_swing cX5_swing 6 (some .int) :: wsL_law) rm_X5_swing (va_Pc [.ref (ad o)] (GW 74 ad D k (cC ad k M))) (va_Qi (fun r u => f_X5_swing M o = r ∧ u = M) (fun u t => GW 74 ad D k (cC ad k u) t) (AW 74 ad)) 0 0 (AW 74 ad) := by
  refine met_i (g := cC ad k) (M := M) (plainFor_of_name (by decide)) (Nat.le_of_ble_eq_true rfl) ?_
  intro p e s m args below meth c Q ls hx hb hml hG hown hK hret hP hS hl
  have hl : lv_has ls 6 [(0, .ref (ad o))] := hl
  obtain ⟨V, hV⟩ : ∃ V, f_X5_swing M o = V := ⟨_, rfl⟩
  have he := hV
  unfold f_X5_swing at he
  refine lv_iconst (v := 0) hx hb dX5_swing_0 (by decide) ?_
  refine lv_istore_n (lv' := [(1, .int 0), (0, .ref (ad o))]) hx hb dX5_swing_1 rfl hl (by decide) rfl (fun ls hl => ?_)
  refine lv_iconst (v := 0) hx hb dX5_swing_2 (by decide) ?_
  refine lv_istore_n (lv' := [(2, .int 0), (1, .int 0), (0, .ref (ad o))]) hx hb dX5_swing_3 rfl hl (by decide) rfl (fun ls hl => ?_)
  refine lv_iconst (v := 0) hx hb dX5_swing_4 (by decide) ?_
  refine lv_istore_n (lv' := [(3, .int 0), (2, .int 0), (1, .int 0), (0, .ref (ad o))]) hx hb dX5_swing_5 rfl hl (by decide) rfl (fun ls hl => ?_)
  refine lv_iconst (v := 1) hx hb dX5_swing_6 (by decide) ?_
  refine lv_istore (lv' := [(4, .int 1), (3, .int 0), (2, .int 0), (1, .int 0), (0, .ref (ad o))]) hx hb dX5_swing_7 hl (by decide) rfl (fun ls hl => ?_)
  obtain ⟨w_45, w_46, hr_27, he⟩ := bnd2_ex he
  have j81 : ∀ (H : Heap) (locs : List Loc) (ls : Array Slot), va_P D vwCl (wld 74 ad (cC ad k M)) H → va_S (AW 74 ad) s.heap H locs → lv_has ls 6 [(1, .int w_45), (2, .int w_46)] → W p l e rm_X5_swing s m args below meth c H locs 0 0 Q (F0 m 81 ls []) := by
    intro H locs ls hP hS hl
    refine lv_iload_n hx hb dX5_swing_81 rfl (lv_at hl 0 rfl) ?_
    refine lv_iconst (v := 3) hx hb dX5_swing_82 (by decide) ?_
    refine lv_icmp_ge (tgt := 88) hx hb dX5_swing_83 (by decide) (fun hc_47 => ?_) (fun hc_47 => ?_)
    · have he := ite_t he hc_47
      refine lv_iconst (v := 3) hx hb dX5_swing_88 (by decide) ?_
      refine lv_iload_n hx hb dX5_swing_89 rfl (lv_at hl 1 rfl) ?_
      refine lv_imul hx hb dX5_swing_90 ?_
      refine lv_iload_n hx hb dX5_swing_91 rfl (lv_at hl 0 rfl) ?_
      obtain ⟨t_50, hr_49, he⟩ := bnd_ex he
      have j100 : ∀ (H : Heap) (locs : List Loc) (ls : Array Slot), va_P D vwCl (wld 74 ad (cC ad k M)) H → va_S (AW 74 ad) s.heap H locs → lv_has ls 6 [] → W p l e rm_X5_swing s m args below meth c H locs 0 0 Q (F0 m 100 ls [.int t_50]) := by
        intro H locs ls hP hS hl
        exact hret _ _ _ _ _ _ ⟨hV.trans he.symm, rfl⟩ hP hS dX5_swing_100
      refine lv_icmp_lt (tgt := 99) hx hb dX5_swing_92 (by decide) (fun hc_48 => ?_) (fun hc_48 => ?_)
      · have hr_49 := ite_t hr_49 hc_48
        refine lv_iconst (v := 2) hx hb dX5_swing_99 (by decide) ?_
        cases hr_49
        exact j100 _ _ _ hP hS (lv_sub hl [] rfl)
      · have hr_49 := ite_f hr_49 hc_48
        refine lv_iconst (v := 1) hx hb dX5_swing_95 (by decide) ?_
        refine lv_goto (tgt := 100) hx hb dX5_swing_96 (by decide) ?_
        cases hr_49
        exact j100 _ _ _ hP hS (lv_sub hl [] rfl)
    · have he := ite_f he hc_47
      refine lv_iconst (v := 0) hx hb dX5_swing_86 (by decide) ?_
      exact hret _ _ _ _ _ _ ⟨hV.trans he.symm, rfl⟩ hP hS dX5_swing_87
  have lp9 : ∀ (nn : Nat) (H : Heap) (locs : List Loc) (ls : Array Slot) (v_23 : Int32) (v_24 : Int32) (v_25 : Int32) (v_26 : Int32), (1 ≤ v_26.toInt) → (100 - v_26.toInt).toNat < nn → lp_X5_swing_9 nn M o v_23 v_24 v_25 v_26 = (w_45, w_46) → va_P D vwCl (wld 74 ad (cC ad k M)) H → va_S (AW 74 ad) s.heap H locs → lv_has ls 6 [(0, .ref (ad o)), (1, .int v_23), (2, .int v_24), (3, .int v_25), (4, .int v_26)] → W p l e rm_X5_swing s m args below meth c H locs 0 0 Q (F0 m 9 ls []) := by
    intro nn
    induction nn with
    | zero =>
      intro H locs ls v_23 v_24 v_25 v_26 h0v_26 hμ
      exact absurd hμ (Nat.not_lt_zero _)
    | succ nn ih =>
      intro H locs ls v_23 v_24 v_25 v_26 h0v_26 hμ hr_27 hP hS hl
      rw [lp_X5_swing_9] at hr_27
      refine lv_iload hx hb dX5_swing_9 (lv_at hl 4 rfl) ?_
      refine lv_aload_n hx hb dX5_swing_11 rfl (lv_at hl 0 rfl) ?_
      refine gX5_3 hx hb hG hown hK hP ho gw_36_0 dX5_swing_12 ?_
      refine lv_icmp_ge (tgt := 81) hx hb dX5_swing_15 (by decide) (fun hc_28 => ?_) (fun hc_28 => ?_)
      · have hr_27 := ite_t hr_27 hc_28
        cases hr_27
        exact j81 _ _ _ hP hS (lv_sub hl [1, 2] rfl)
      · have hr_27 := ite_f hr_27 hc_28
        refine lv_iload hx hb dX5_swing_18 (lv_at hl 4 rfl) ?_
        refine lv_aload_n hx hb dX5_swing_20 rfl (lv_at hl 0 rfl) ?_
        refine gX5_4 hx hb hG hown hK hP ho gw_4_5 dX5_swing_21 ?_
        refine an_kElm hx hb hK hP (kR_elm ho) dX5_swing_24 ?_
        refine lv_icmp_ge (tgt := 81) hx hb dX5_swing_25 (by decide) (fun hc_29 => ?_) (fun hc_29 => ?_)
        · have hr_27 := ite_t hr_27 hc_29
          cases hr_27
          exact j81 _ _ _ hP hS (lv_sub hl [1, 2] rfl)
        · have hr_27 := ite_f hr_27 hc_29
          refine lv_aload_n hx hb dX5_swing_28 rfl (lv_at hl 0 rfl) ?_
          refine gX5_4 hx hb hG hown hK hP ho gw_4_5 dX5_swing_29 ?_
          refine lv_iload hx hb dX5_swing_32 (lv_at hl 4 rfl) ?_
          refine al_kElm hx hb hK hP (kR_elm ho) (vin_I (by have q0 : v_26.toInt < (M o 3).toInt := nle_I hc_28; have q1 : v_26.toInt < 100 := nle_I hc_29; omega) (by have q0 : v_26.toInt < (M o 3).toInt := nle_I hc_28; have q1 : v_26.toInt < 100 := nle_I hc_29; omega)) dX5_swing_34 ?_
          refine lv_aload_n hx hb dX5_swing_35 rfl (lv_at hl 0 rfl) ?_
          refine gX5_4 hx hb hG hown hK hP ho gw_4_5 dX5_swing_36 ?_
          refine lv_iload hx hb dX5_swing_39 (lv_at hl 4 rfl) ?_
          refine lv_iconst (v := 1) hx hb dX5_swing_41 (by decide) ?_
          refine lv_isub hx hb dX5_swing_42 ?_
          refine al_kElm hx hb hK hP (kR_elm ho) (vin_I (by have q0 : v_26.toInt < (M o 3).toInt := nle_I hc_28; have q1 : v_26.toInt < 100 := nle_I hc_29; rw [dec_I (by omega)]; omega) (by have q0 : v_26.toInt < (M o 3).toInt := nle_I hc_28; have q1 : v_26.toInt < 100 := nle_I hc_29; rw [dec_I (by omega)]; omega)) dX5_swing_43 ?_
          refine callS_i [.int (M (o + 16) v_26.toNatClampNeg), .int (M (o + 16) (v_26 - 1).toNatClampNeg)] [] hx hb hml hG hown hK (c_J6_compare_7cf53 had (M := M)  (M (o + 16) v_26.toNatClampNeg) (M (o + 16) (v_26 - 1).toNatClampNeg)) gw_36_1 gm_J6_compare_7cf53 gd_J6_compare_7cf53 rfl rfl ⟨Nat.le_of_ble_eq_true rfl, Nat.le_of_ble_eq_true rfl⟩ ⟨Nat.le_refl _, Nat.le_refl _⟩ hP (fun _ h => h) hS rfl hl.1 rfl (Nat.le_of_ble_eq_true rfl) dX5_swing_44 (fun r_30 u_32 H locs hF_31 hP hS => ?_)
          obtain ⟨hF_31, hu⟩ := hF_31; rw [hu] at hP; subst hF_31
          refine lv_topi (fun y_33 ey_33 => ?_)
          have hr_27 := bnd_at hr_27 ey_33
          refine lv_istore (lv' := [(5, .int y_33), (0, .ref (ad o)), (1, .int v_23), (2, .int v_24), (3, .int v_25), (4, .int v_26)]) hx hb dX5_swing_47 hl (by decide) rfl (fun ls hl => ?_)
          refine lv_iload hx hb dX5_swing_49 (lv_at hl 0 rfl) ?_
          obtain ⟨x_41, x_42, x_43, hr_35, hr_27⟩ := bnd3_ex hr_27
          have j75 : ∀ (H : Heap) (locs : List Loc) (ls : Array Slot), va_P D vwCl (wld 74 ad (cC ad k M)) H → va_S (AW 74 ad) s.heap H locs → lv_has ls 6 [(0, .ref (ad o)), (1, .int x_41), (2, .int x_42), (3, .int x_43), (4, .int v_26)] → W p l e rm_X5_swing s m args below meth c H locs 0 0 Q (F0 m 75 ls []) := by
            intro H locs ls hP hS hl
            obtain ⟨y_44, ey_44⟩ : ∃ y_44 : Int32, y_44 = v_26 + 1 := ⟨_, rfl⟩
            have hr_27 := bnd_at hr_27 ey_44
            refine lv_iinc (v := y_44) (lv' := [(4, .int y_44), (0, .ref (ad o)), (1, .int x_41), (2, .int x_42), (3, .int x_43)]) hx hb dX5_swing_75 hl (k := 4) rfl (by rw [ey_44]; rfl) (by decide) rfl (fun ls hl => ?_)
            refine lv_goto (tgt := 9) hx hb dX5_swing_78 (by decide) ?_
            exact ih _ _ _ _ _ _ _ (by rw [ey_44, inc_I (N := 100) (nle_I hc_29) (by decide)]; omega) (by rw [ey_44]; exact mu_I hμ (nle_I hc_29) (by decide)) hr_27 hP hS (lv_sub hl [1, 2, 3, 4, 0] rfl)
          refine lv_if_eq (tgt := 75) hx hb dX5_swing_51 (by decide) (fun hc_34 => ?_) (fun hc_34 => ?_)
          · have hr_35 := ite_t hr_35 hc_34
            cases hr_35
            exact j75 _ _ _ hP hS (lv_sub hl [1, 2, 3, 4, 5] rfl)
          · have hr_35 := ite_f hr_35 hc_34
            obtain ⟨y_36, ey_36⟩ : ∃ y_36 : Int32, y_36 = v_23 + 1 := ⟨_, rfl⟩
            have hr_35 := bnd_at hr_35 ey_36
            refine lv_iinc (v := y_36) (lv' := [(1, .int y_36), (5, .int y_33), (0, .ref (ad o)), (2, .int v_24), (3, .int v_25), (4, .int v_26)]) hx hb dX5_swing_54 hl (k := 2) rfl (by rw [ey_36]; rfl) (by decide) rfl (fun ls hl => ?_)
            refine lv_iload_n hx hb dX5_swing_57 rfl (lv_at hl 3 rfl) ?_
            refine lv_iload hx hb dX5_swing_58 (lv_at hl 1 rfl) ?_
            refine lv_iload_n hx hb dX5_swing_60 rfl (lv_at hl 4 rfl) ?_
            refine lv_iadd hx hb dX5_swing_61 ?_
            obtain ⟨t_39, hr_38, hr_35⟩ := bnd_ex hr_35
            have j70 : ∀ (H : Heap) (locs : List Loc) (ls : Array Slot), (t_39 = 0 ∨ t_39 = 1) → va_P D vwCl (wld 74 ad (cC ad k M)) H → va_S (AW 74 ad) s.heap H locs → lv_has ls 6 [(0, .ref (ad o)), (1, .int y_36), (4, .int v_26), (5, .int y_33)] → W p l e rm_X5_swing s m args below meth c H locs 0 0 Q (F0 m 70 ls [.int t_39, .int v_24]) := by
              intro H locs ls zt_39 hP hS hl
              refine lv_iadd hx hb dX5_swing_70 ?_
              refine lv_topi (fun y_40 ey_40 => ?_)
              have hr_35 := bnd_at hr_35 ey_40
              refine lv_istore_n (lv' := [(2, .int y_40), (0, .ref (ad o)), (1, .int y_36), (4, .int v_26), (5, .int y_33)]) hx hb dX5_swing_71 rfl hl (by decide) rfl (fun ls hl => ?_)
              refine lv_iload hx hb dX5_swing_72 (lv_at hl 4 rfl) ?_
              refine lv_istore_n (lv' := [(3, .int y_33), (2, .int y_40), (0, .ref (ad o)), (1, .int y_36), (4, .int v_26), (5, .int y_33)]) hx hb dX5_swing_74 rfl hl (by decide) rfl (fun ls hl => ?_)
              cases hr_35
              exact j75 _ _ _ hP hS (lv_sub hl [2, 3, 1, 0, 4] rfl)
            refine lv_if_ne (tgt := 69) hx hb dX5_swing_62 (by decide) (fun hc_37 => ?_) (fun hc_37 => ?_)
            · have hr_38 := ite_t hr_38 hc_37
              refine lv_iconst (v := 0) hx hb dX5_swing_69 (by decide) ?_
              cases hr_38
              exact j70 _ _ _ (Or.inl rfl) hP hS (lv_sub hl [2, 0, 5, 1] rfl)
            · have hr_38 := ite_f hr_38 (fun q => q hc_37)
              refine lv_iconst (v := 1) hx hb dX5_swing_65 (by decide) ?_
              refine lv_goto (tgt := 70) hx hb dX5_swing_66 (by decide) ?_
              cases hr_38
              exact j70 _ _ _ (Or.inr rfl) hP hS (lv_sub hl [2, 0, 5, 1] rfl)
  exact lp9 _ _ _ _ _ _ _ _ (by decide) (by decide) hr_27 hP hS (lv_sub hl [4, 3, 2, 1, 0] rfl)
def rm_X6_which : Room := { frames := 2, cells := 0, slots := 0, locals := 46 }
theorem gm_X6_which : Cond.instanceMethod yX6_which ∈ wsL_law ∧ Cond.selects RX6 yX6_which yX6_which ∈ wsL_law ∧ Cond.initialized RX6 ∈ wsL_law ∧ Cond.code yX6_which cX6_which 4 (some .int) ∈ wsL_law := ⟨gw_35_16, gw_35_17, gw_1_2, gw_35_18⟩
theorem gd_X6_which : yX6_which.cls = RX6 ∧ yX6_which.cls ≠ "java/lang/invoke/MethodHandle" ∧ yX6_which.cls ≠ "java/lang/invoke/VarHandle" ∧ (parseMethodDescriptor yX6_which.desc).map (fun d => d.parameters.length) = some 1 := by decide +kernel
set_option maxRecDepth 100000 in
set_option maxHeartbeats 0 in
theorem c_X6_which {l : Launch} {D : va_G} {k : Nat → ClassId} {ad : Nat → Nat} (had : InjN 74 ad) (M : Mem) (a1 : Int32) : Met l yX6_which (Cond.code yX6_which cX6_which 4 (some .int) :: wsL_law) rm_X6_which (va_Pc [.ref (ad 0), .int a1] (GW 74 ad D k (cC ad k M))) (va_Qi (fun r u => f_X6_which M a1 = r ∧ u = M) (fun u t => GW 74 ad D k (cC ad k u) t) (AW 74 ad)) 0 0 (AW 74 ad) := by
  refine met_i (g := cC ad k) (M := M) (plainFor_of_name (by decide)) (Nat.le_of_ble_eq_true rfl) ?_
  intro p e s m args below meth c Q ls hx hb hml hG hown hK hret hP hS hl
  have hl : lv_has ls 4 [(0, .ref (ad 0)), (1, .int a1)] := hl
  obtain ⟨V, hV⟩ : ∃ V, f_X6_which M a1 = V := ⟨_, rfl⟩
  have he := hV
  unfold f_X6_which at he
  refine lv_aload_n hx hb dX6_which_0 rfl (lv_at hl 0 rfl) ?_
  refine lv_iload_n hx hb dX6_which_1 rfl (lv_at hl 1 rfl) ?_
  refine call_e [.int a1] [] hx hb hml hG hown hK (c_X6_shelfAt had M a1) gw_7_22 gm_X6_shelfAt gd_X6_shelfAt rfl rfl ⟨Nat.le_of_ble_eq_true rfl, Nat.le_of_ble_eq_true rfl⟩ ⟨Nat.le_refl _, Nat.le_refl _⟩ (rX6 hK hP rfl) hP (fun _ h => h) hS rfl hl.1 rfl (Nat.le_of_ble_eq_true rfl) dX6_which_2 (fun r_1 u_3 H locs hF_2 hP hS => ?_)
  obtain ⟨hz_4, hF_2, hu⟩ := hF_2; rw [hu] at hP
  rcases r_1 with _ | b_5
  · have he := oel_n he hF_2
    refine lv_astore_nN (lv' := [(2, .null), (0, .ref (ad 0)), (1, .int a1)]) hx hb dX6_which_5 rfl hl (by decide) rfl (fun ls hl => ?_)
    refine lv_aload_nN hx hb dX6_which_6 rfl (lv_at hl 0 rfl) ?_
    refine lv_ifnonnullN hx hb dX6_which_7 ?_
    refine lv_iconst (v := (-1)) hx hb dX6_which_10 (by decide) ?_
    exact hret _ _ _ _ _ _ ⟨hV.trans he.symm, rfl⟩ hP hS dX6_which_11
  · have he := oel_s he hF_2
    refine lv_astore_n (lv' := [(2, .ref (ad b_5)), (0, .ref (ad 0)), (1, .int a1)]) hx hb dX6_which_5 rfl hl (by decide) rfl (fun ls hl => ?_)
    refine lv_aload_n hx hb dX6_which_6 rfl (lv_at hl 0 rfl) ?_
    refine lv_ifnonnull (tgt := 12) hx hb dX6_which_7 (by decide) ?_
    refine lv_aload_n hx hb dX6_which_12 rfl (lv_at hl 0 rfl) ?_
    refine call_i [] [] hx hb hml hG hown hK (c_X5_rowRefusal had M b_5 (hz_4 _ rfl)) gw_35_19 gm_X5_rowRefusal gd_X5_rowRefusal rfl rfl ⟨Nat.le_of_ble_eq_true rfl, Nat.le_of_ble_eq_true rfl⟩ ⟨Nat.le_refl _, Nat.le_refl _⟩ (rX5 hK hP (hz_4 _ rfl)) hP (fun _ h => h) hS rfl hl.1 rfl (Nat.le_of_ble_eq_true rfl) dX6_which_13 (fun r_6 u_8 H locs hF_7 hP hS => ?_)
    obtain ⟨hF_7, hu⟩ := hF_7; rw [hu] at hP; subst hF_7
    refine lv_topi (fun y_9 ey_9 => ?_)
    have he := bnd_at he ey_9
    refine lv_istore_n (lv' := [(3, .int y_9), (2, .ref (ad b_5)), (0, .ref (ad 0)), (1, .int a1)]) hx hb dX6_which_16 rfl hl (by decide) rfl (fun ls hl => ?_)
    refine lv_iload_n hx hb dX6_which_17 rfl (lv_at hl 0 rfl) ?_
    obtain ⟨t_15, hr_11, he⟩ := bnd_ex he
    have j29 : ∀ (H : Heap) (locs : List Loc) (ls : Array Slot), va_P D vwCl (wld 74 ad (cC ad k M)) H → va_S (AW 74 ad) s.heap H locs → lv_has ls 4 [] → W p l e rm_X6_which s m args below meth c H locs 0 0 Q (F0 m 29 ls [.int t_15]) := by
      intro H locs ls hP hS hl
      exact hret _ _ _ _ _ _ ⟨hV.trans he.symm, rfl⟩ hP hS dX6_which_29
    refine lv_if_eq (tgt := 25) hx hb dX6_which_18 (by decide) (fun hc_10 => ?_) (fun hc_10 => ?_)
    · have hr_11 := ite_t hr_11 hc_10
      refine lv_aload_n hx hb dX6_which_25 rfl (lv_at hl 1 rfl) ?_
      refine call_i [] [] hx hb hml hG hown hK (c_X5_swing had M b_5 (hz_4 _ rfl)) gw_35_20 gm_X5_swing gd_X5_swing rfl rfl ⟨Nat.le_of_ble_eq_true rfl, Nat.le_of_ble_eq_true rfl⟩ ⟨Nat.le_refl _, Nat.le_refl _⟩ (rX5 hK hP (hz_4 _ rfl)) hP (fun _ h => h) hS rfl hl.1 rfl (Nat.le_of_ble_eq_true rfl) dX6_which_26 (fun r_12 u_14 H locs hF_13 hP hS => ?_)
      obtain ⟨hF_13, hu⟩ := hF_13; rw [hu] at hP; subst hF_13
      cases hr_11
      exact j29 _ _ _ hP hS (lv_sub hl [] rfl)
    · have hr_11 := ite_f hr_11 hc_10
      refine lv_iload_n hx hb dX6_which_21 rfl (lv_at hl 0 rfl) ?_
      refine lv_goto (tgt := 29) hx hb dX6_which_22 (by decide) ?_
      cases hr_11
      exact j29 _ _ _ hP hS (lv_sub hl [] rfl)
def rm_X5_hasPlace : Room := { frames := 0, cells := 0, slots := 0, locals := 0 }
theorem gm_X5_hasPlace : Cond.instanceMethod yX5_hasPlace ∈ wsL_law ∧ Cond.selects RX5 yX5_hasPlace yX5_hasPlace ∈ wsL_law ∧ Cond.initialized RX5 ∈ wsL_law ∧ Cond.code yX5_hasPlace cX5_hasPlace 2 (some .boolean) ∈ wsL_law := ⟨gw_37_0, gw_37_1, gw_2_4, gw_37_2⟩
theorem gd_X5_hasPlace : yX5_hasPlace.cls = RX5 ∧ yX5_hasPlace.cls ≠ "java/lang/invoke/MethodHandle" ∧ yX5_hasPlace.cls ≠ "java/lang/invoke/VarHandle" ∧ (parseMethodDescriptor yX5_hasPlace.desc).map (fun d => d.parameters.length) = some 1 := by decide +kernel
set_option maxRecDepth 100000 in
set_option maxHeartbeats 0 in
theorem c_X5_hasPlace {l : Launch} {D : va_G} {k : Nat → ClassId} {ad : Nat → Nat} (had : InjN 74 ad) (M : Mem) (o : Nat) (ho : kShf o) (a1 : Int32) : Met l yX5_hasPlace (Cond.code yX5_hasPlace cX5_hasPlace 2 (some .boolean) :: wsL_law) rm_X5_hasPlace (va_Pc [.ref (ad o), .int a1] (GW 74 ad D k (cC ad k M))) (va_Qi (fun r u => (r = 0 ∨ r = 1) ∧ f_X5_hasPlace M o a1 = r ∧ u = M) (fun u t => GW 74 ad D k (cC ad k u) t) (AW 74 ad)) 0 0 (AW 74 ad) := by
  refine met_z (g := cC ad k) (M := M) (plainFor_of_name (by decide)) (Nat.le_of_ble_eq_true rfl) ?_
  intro p e s m args below meth c Q ls hx hb hml hG hown hK hret hP hS hl
  have hl : lv_has ls 2 [(0, .ref (ad o)), (1, .int a1)] := hl
  obtain ⟨V, hV⟩ : ∃ V, f_X5_hasPlace M o a1 = V := ⟨_, rfl⟩
  have he := hV
  unfold f_X5_hasPlace at he
  refine lv_iload_n hx hb dX5_hasPlace_0 rfl (lv_at hl 1 rfl) ?_
  obtain ⟨t_5, hr_2, he⟩ := bnd_ex he
  have j26 : ∀ (H : Heap) (locs : List Loc) (ls : Array Slot), (t_5 = 0 ∨ t_5 = 1) → va_P D vwCl (wld 74 ad (cC ad k M)) H → va_S (AW 74 ad) s.heap H locs → lv_has ls 2 [] → W p l e rm_X5_hasPlace s m args below meth c H locs 0 0 Q (F0 m 26 ls [.int t_5]) := by
    intro H locs ls zt_5 hP hS hl
    exact hret _ _ _ _ _ _ ⟨zt_5, (hV.trans he.symm), rfl⟩ (nz01 zt_5) hP hS dX5_hasPlace_26
  refine lv_if_lt (tgt := 25) hx hb dX5_hasPlace_1 (by decide) (fun hc_1 => ?_) (fun hc_1 => ?_)
  · have hr_2 := ite_t hr_2 hc_1
    refine lv_iconst (v := 0) hx hb dX5_hasPlace_25 (by decide) ?_
    cases hr_2
    exact j26 _ _ _ (Or.inl rfl) hP hS (lv_sub hl [] rfl)
  · have hr_2 := ite_f hr_2 hc_1
    refine lv_iload_n hx hb dX5_hasPlace_4 rfl (lv_at hl 1 rfl) ?_
    refine lv_aload_n hx hb dX5_hasPlace_5 rfl (lv_at hl 0 rfl) ?_
    refine gX5_3 hx hb hG hown hK hP ho gw_36_0 dX5_hasPlace_6 ?_
    refine lv_icmp_ge (tgt := 25) hx hb dX5_hasPlace_9 (by decide) (fun hc_3 => ?_) (fun hc_3 => ?_)
    · have hr_2 := ite_t hr_2 hc_3
      refine lv_iconst (v := 0) hx hb dX5_hasPlace_25 (by decide) ?_
      cases hr_2
      exact j26 _ _ _ (Or.inl rfl) hP hS (lv_sub hl [] rfl)
    · have hr_2 := ite_f hr_2 hc_3
      refine lv_iload_n hx hb dX5_hasPlace_12 rfl (lv_at hl 1 rfl) ?_
      refine lv_aload_n hx hb dX5_hasPlace_13 rfl (lv_at hl 0 rfl) ?_
      refine gX5_4 hx hb hG hown hK hP ho gw_4_5 dX5_hasPlace_14 ?_
      refine an_kElm hx hb hK hP (kR_elm ho) dX5_hasPlace_17 ?_
      refine lv_icmp_ge (tgt := 25) hx hb dX5_hasPlace_18 (by decide) (fun hc_4 => ?_) (fun hc_4 => ?_)
      · have hr_2 := ite_t hr_2 hc_4
        refine lv_iconst (v := 0) hx hb dX5_hasPlace_25 (by decide) ?_
        cases hr_2
        exact j26 _ _ _ (Or.inl rfl) hP hS (lv_sub hl [] rfl)
      · have hr_2 := ite_f hr_2 hc_4
        refine lv_iconst (v := 1) hx hb dX5_hasPlace_21 (by decide) ?_
        refine lv_goto (tgt := 26) hx hb dX5_hasPlace_22 (by decide) ?_
        cases hr_2
        exact j26 _ _ _ (Or.inr rfl) hP hS (lv_sub hl [] rfl)
def rm_X5_tellsAt : Room := { frames := 1, cells := 0, slots := 0, locals := 21 }
theorem gm_X5_tellsAt : Cond.instanceMethod yX5_tellsAt ∈ wsL_law ∧ Cond.selects RX5 yX5_tellsAt yX5_tellsAt ∈ wsL_law ∧ Cond.initialized RX5 ∈ wsL_law ∧ Cond.code yX5_tellsAt cX5_tellsAt 2 (some .boolean) ∈ wsL_law := ⟨gw_36_19, gw_36_20, gw_2_4, gw_36_21⟩
theorem gd_X5_tellsAt : yX5_tellsAt.cls = RX5 ∧ yX5_tellsAt.cls ≠ "java/lang/invoke/MethodHandle" ∧ yX5_tellsAt.cls ≠ "java/lang/invoke/VarHandle" ∧ (parseMethodDescriptor yX5_tellsAt.desc).map (fun d => d.parameters.length) = some 1 := by decide +kernel
set_option maxRecDepth 100000 in
set_option maxHeartbeats 0 in
theorem c_X5_tellsAt {l : Launch} {D : va_G} {k : Nat → ClassId} {ad : Nat → Nat} (had : InjN 74 ad) (M : Mem) (o : Nat) (ho : kShf o) (a1 : Int32) : Met l yX5_tellsAt (Cond.code yX5_tellsAt cX5_tellsAt 2 (some .boolean) :: wsL_law) rm_X5_tellsAt (va_Pc [.ref (ad o), .int a1] (GW 74 ad D k (cC ad k M))) (va_Qi (fun r u => (r = 0 ∨ r = 1) ∧ f_X5_tellsAt M o a1 = r ∧ u = M) (fun u t => GW 74 ad D k (cC ad k u) t) (AW 74 ad)) 0 0 (AW 74 ad) := by
  refine met_z (g := cC ad k) (M := M) (plainFor_of_name (by decide)) (Nat.le_of_ble_eq_true rfl) ?_
  intro p e s m args below meth c Q ls hx hb hml hG hown hK hret hP hS hl
  have hl : lv_has ls 2 [(0, .ref (ad o)), (1, .int a1)] := hl
  obtain ⟨V, hV⟩ : ∃ V, f_X5_tellsAt M o a1 = V := ⟨_, rfl⟩
  have he := hV
  unfold f_X5_tellsAt at he
  refine lv_aload_n hx hb dX5_tellsAt_0 rfl (lv_at hl 0 rfl) ?_
  refine gX5_2 hx hb hG hown hK hP ho gw_8_6 dX5_tellsAt_1 ?_
  by_cases hw_1 : M o 2 = 0
  · have he := ite_t he hw_1
    refine lv_lookup (off := 28) (tgt := 32) hx hb dX5_tellsAt_4 (by decide +kernel) (by rw [hw_1]; first | done | rfl) (by decide) ?_
    refine lv_aload_n hx hb dX5_tellsAt_32 rfl (lv_at hl 0 rfl) ?_
    refine lv_iload_n hx hb dX5_tellsAt_33 rfl (lv_at hl 1 rfl) ?_
    refine call_i [.int a1] [] hx hb hml hG hown hK (c_X5_hasPlace had M o ho a1) gw_36_23 gm_X5_hasPlace gd_X5_hasPlace rfl rfl ⟨Nat.le_of_ble_eq_true rfl, Nat.le_of_ble_eq_true rfl⟩ ⟨Nat.le_refl _, Nat.le_refl _⟩ (rX5 hK hP ho) hP (fun _ h => h) hS rfl hl.1 rfl (Nat.le_of_ble_eq_true rfl) dX5_tellsAt_34 (fun r_2 u_4 H locs hF_3 hP hS => ?_)
    obtain ⟨hz_5, hF_3, hu⟩ := hF_3; rw [hu] at hP; subst hF_3
    obtain ⟨t_9, hr_7, he⟩ := bnd_ex he
    have j56 : ∀ (H : Heap) (locs : List Loc) (ls : Array Slot), (t_9 = 0 ∨ t_9 = 1) → va_P D vwCl (wld 74 ad (cC ad k M)) H → va_S (AW 74 ad) s.heap H locs → lv_has ls 2 [] → W p l e rm_X5_tellsAt s m args below meth c H locs 0 0 Q (F0 m 56 ls [.int t_9]) := by
      intro H locs ls zt_9 hP hS hl
      exact hret _ _ _ _ _ _ ⟨zt_9, (hV.trans he.symm), rfl⟩ (nz01 zt_9) hP hS dX5_tellsAt_56
    refine lv_if_eq (tgt := 55) hx hb dX5_tellsAt_37 (by decide) (fun hc_6 => ?_) (fun hc_6 => ?_)
    · have hr_7 := ite_t hr_7 hc_6
      refine lv_iconst (v := 0) hx hb dX5_tellsAt_55 (by decide) ?_
      cases hr_7
      exact j56 _ _ _ (Or.inl rfl) hP hS (lv_sub hl [] rfl)
    · have hr_7 := ite_f hr_7 hc_6
      refine lv_aload_n hx hb dX5_tellsAt_40 rfl (lv_at hl 0 rfl) ?_
      refine gX5_4 hx hb hG hown hK hP ho gw_4_5 dX5_tellsAt_41 ?_
      refine lv_iload_n hx hb dX5_tellsAt_44 rfl (lv_at hl 1 rfl) ?_
      refine al_kElm hx hb hK hP (kR_elm ho) (place_in hc_6) dX5_tellsAt_45 ?_
      refine lv_bipush (v := (-128)) hx hb dX5_tellsAt_46 (by decide) ?_
      refine lv_icmp_eq (tgt := 55) hx hb dX5_tellsAt_48 (by decide) (fun hc_8 => ?_) (fun hc_8 => ?_)
      · have hr_7 := ite_t hr_7 hc_8
        refine lv_iconst (v := 0) hx hb dX5_tellsAt_55 (by decide) ?_
        cases hr_7
        exact j56 _ _ _ (Or.inl rfl) hP hS (lv_sub hl [] rfl)
      · have hr_7 := ite_f hr_7 hc_8
        refine lv_iconst (v := 1) hx hb dX5_tellsAt_51 (by decide) ?_
        refine lv_goto (tgt := 56) hx hb dX5_tellsAt_52 (by decide) ?_
        cases hr_7
        exact j56 _ _ _ (Or.inr rfl) hP hS (lv_sub hl [] rfl)
  · have he := ite_f he hw_1
    by_cases hw_10 : M o 2 = 1
    · have he := ite_t he hw_10
      refine lv_lookup (off := 53) (tgt := 57) hx hb dX5_tellsAt_4 (by decide +kernel) (by rw [hw_10]; first | done | rfl) (by decide) ?_
      refine lv_aload_n hx hb dX5_tellsAt_57 rfl (lv_at hl 0 rfl) ?_
      refine lv_iload_n hx hb dX5_tellsAt_58 rfl (lv_at hl 1 rfl) ?_
      refine call_i [.int a1] [] hx hb hml hG hown hK (c_X5_hasPlace had M o ho a1) gw_36_23 gm_X5_hasPlace gd_X5_hasPlace rfl rfl ⟨Nat.le_of_ble_eq_true rfl, Nat.le_of_ble_eq_true rfl⟩ ⟨Nat.le_refl _, Nat.le_refl _⟩ (rX5 hK hP ho) hP (fun _ h => h) hS rfl hl.1 rfl (Nat.le_of_ble_eq_true rfl) dX5_tellsAt_59 (fun r_11 u_13 H locs hF_12 hP hS => ?_)
      obtain ⟨hz_14, hF_12, hu⟩ := hF_12; rw [hu] at hP; subst hF_12
      obtain ⟨t_18, hr_16, he⟩ := bnd_ex he
      have j82 : ∀ (H : Heap) (locs : List Loc) (ls : Array Slot), (t_18 = 0 ∨ t_18 = 1) → va_P D vwCl (wld 74 ad (cC ad k M)) H → va_S (AW 74 ad) s.heap H locs → lv_has ls 2 [] → W p l e rm_X5_tellsAt s m args below meth c H locs 0 0 Q (F0 m 82 ls [.int t_18]) := by
        intro H locs ls zt_18 hP hS hl
        exact hret _ _ _ _ _ _ ⟨zt_18, (hV.trans he.symm), rfl⟩ (nz01 zt_18) hP hS dX5_tellsAt_82
      refine lv_if_eq (tgt := 81) hx hb dX5_tellsAt_62 (by decide) (fun hc_15 => ?_) (fun hc_15 => ?_)
      · have hr_16 := ite_t hr_16 hc_15
        refine lv_iconst (v := 0) hx hb dX5_tellsAt_81 (by decide) ?_
        cases hr_16
        exact j82 _ _ _ (Or.inl rfl) hP hS (lv_sub hl [] rfl)
      · have hr_16 := ite_f hr_16 hc_15
        refine lv_aload_n hx hb dX5_tellsAt_65 rfl (lv_at hl 0 rfl) ?_
        refine gX5_4 hx hb hG hown hK hP ho gw_4_5 dX5_tellsAt_66 ?_
        refine lv_iload_n hx hb dX5_tellsAt_69 rfl (lv_at hl 1 rfl) ?_
        refine al_kElm hx hb hK hP (kR_elm ho) (place_in hc_15) dX5_tellsAt_70 ?_
        refine lv_sipush (v := (-32768)) hx hb dX5_tellsAt_71 (by decide) ?_
        refine lv_icmp_eq (tgt := 81) hx hb dX5_tellsAt_74 (by decide) (fun hc_17 => ?_) (fun hc_17 => ?_)
        · have hr_16 := ite_t hr_16 hc_17
          refine lv_iconst (v := 0) hx hb dX5_tellsAt_81 (by decide) ?_
          cases hr_16
          exact j82 _ _ _ (Or.inl rfl) hP hS (lv_sub hl [] rfl)
        · have hr_16 := ite_f hr_16 hc_17
          refine lv_iconst (v := 1) hx hb dX5_tellsAt_77 (by decide) ?_
          refine lv_goto (tgt := 82) hx hb dX5_tellsAt_78 (by decide) ?_
          cases hr_16
          exact j82 _ _ _ (Or.inr rfl) hP hS (lv_sub hl [] rfl)
    · have he := ite_f he hw_10
      refine lv_lookup (off := 79) (tgt := 83) hx hb dX5_tellsAt_4 (by decide +kernel) (by show Op.lookupswitch.offset [(0, 28), (1, 53)] _ _ = _; rw [lv_osw (a := 0) hw_1 rfl]; rw [lv_osw (a := 1) hw_10 rfl]; first | done | rfl) (by decide) ?_
      refine lv_aload_n hx hb dX5_tellsAt_83 rfl (lv_at hl 0 rfl) ?_
      refine lv_iload_n hx hb dX5_tellsAt_84 rfl (lv_at hl 1 rfl) ?_
      refine call_i [.int a1] [] hx hb hml hG hown hK (c_X5_hasPlace had M o ho a1) gw_36_23 gm_X5_hasPlace gd_X5_hasPlace rfl rfl ⟨Nat.le_of_ble_eq_true rfl, Nat.le_of_ble_eq_true rfl⟩ ⟨Nat.le_refl _, Nat.le_refl _⟩ (rX5 hK hP ho) hP (fun _ h => h) hS rfl hl.1 rfl (Nat.le_of_ble_eq_true rfl) dX5_tellsAt_85 (fun r_19 u_21 H locs hF_20 hP hS => ?_)
      obtain ⟨hz_22, hF_20, hu⟩ := hF_20; rw [hu] at hP; subst hF_20
      obtain ⟨t_26, hr_24, he⟩ := bnd_ex he
      have j107 : ∀ (H : Heap) (locs : List Loc) (ls : Array Slot), (t_26 = 0 ∨ t_26 = 1) → va_P D vwCl (wld 74 ad (cC ad k M)) H → va_S (AW 74 ad) s.heap H locs → lv_has ls 2 [] → W p l e rm_X5_tellsAt s m args below meth c H locs 0 0 Q (F0 m 107 ls [.int t_26]) := by
        intro H locs ls zt_26 hP hS hl
        exact hret _ _ _ _ _ _ ⟨zt_26, (hV.trans he.symm), rfl⟩ (nz01 zt_26) hP hS dX5_tellsAt_107
      refine lv_if_eq (tgt := 106) hx hb dX5_tellsAt_88 (by decide) (fun hc_23 => ?_) (fun hc_23 => ?_)
      · have hr_24 := ite_t hr_24 hc_23
        refine lv_iconst (v := 0) hx hb dX5_tellsAt_106 (by decide) ?_
        cases hr_24
        exact j107 _ _ _ (Or.inl rfl) hP hS (lv_sub hl [] rfl)
      · have hr_24 := ite_f hr_24 hc_23
        refine lv_aload_n hx hb dX5_tellsAt_91 rfl (lv_at hl 0 rfl) ?_
        refine gX5_4 hx hb hG hown hK hP ho gw_4_5 dX5_tellsAt_92 ?_
        refine lv_iload_n hx hb dX5_tellsAt_95 rfl (lv_at hl 1 rfl) ?_
        refine al_kElm hx hb hK hP (kR_elm ho) (place_in hc_23) dX5_tellsAt_96 ?_
        refine lv_ldc (v := (-2147483648)) hx hb hown (hG _ gw_36_22) dX5_tellsAt_97 ?_
        refine lv_icmp_eq (tgt := 106) hx hb dX5_tellsAt_99 (by decide) (fun hc_25 => ?_) (fun hc_25 => ?_)
        · have hr_24 := ite_t hr_24 hc_25
          refine lv_iconst (v := 0) hx hb dX5_tellsAt_106 (by decide) ?_
          cases hr_24
          exact j107 _ _ _ (Or.inl rfl) hP hS (lv_sub hl [] rfl)
        · have hr_24 := ite_f hr_24 hc_25
          refine lv_iconst (v := 1) hx hb dX5_tellsAt_102 (by decide) ?_
          refine lv_goto (tgt := 107) hx hb dX5_tellsAt_103 (by decide) ?_
          cases hr_24
          exact j107 _ _ _ (Or.inr rfl) hP hS (lv_sub hl [] rfl)
def rm_X6_firstNotSo : Room := { frames := 5, cells := 0, slots := 0, locals := 107 }
theorem gm_X6_firstNotSo : Cond.instanceMethod yX6_firstNotSo ∈ wsL_law ∧ Cond.selects RX6 yX6_firstNotSo yX6_firstNotSo ∈ wsL_law ∧ Cond.initialized RX6 ∈ wsL_law ∧ Cond.code yX6_firstNotSo cX6_firstNotSo 5 (some .int) ∈ wsL_law := ⟨gw_36_14, gw_36_15, gw_1_2, gw_36_16⟩
theorem gd_X6_firstNotSo : yX6_firstNotSo.cls = RX6 ∧ yX6_firstNotSo.cls ≠ "java/lang/invoke/MethodHandle" ∧ yX6_firstNotSo.cls ≠ "java/lang/invoke/VarHandle" ∧ (parseMethodDescriptor yX6_firstNotSo.desc).map (fun d => d.parameters.length) = some 2 := by decide +kernel
set_option maxRecDepth 100000 in
set_option maxHeartbeats 0 in
theorem c_X6_firstNotSo {l : Launch} {D : va_G} {k : Nat → ClassId} {ad : Nat → Nat} (had : InjN 74 ad) (M : Mem) (a1 : Int32) (a2 : Nat) (ha2 : kShf a2) : Met l yX6_firstNotSo (Cond.code yX6_firstNotSo cX6_firstNotSo 5 (some .int) :: wsL_law) rm_X6_firstNotSo (va_Pc [.ref (ad 0), .int a1, .ref (ad a2)] (GW 74 ad D k (cC ad k M))) (va_Qi (fun r u => f_X6_firstNotSo M a1 a2 = (r, u)) (fun u t => GW 74 ad D k (cC ad k u) t) (AW 74 ad)) 0 0 (AW 74 ad) := by
  refine met_i (g := cC ad k) (M := M) (plainFor_of_name (by decide)) (Nat.le_of_ble_eq_true rfl) ?_
  intro p e s m args below meth c Q ls hx hb hml hG hown hK hret hP hS hl
  have hl : lv_has ls 5 [(0, .ref (ad 0)), (1, .int a1), (2, .ref (ad a2))] := hl
  obtain ⟨V, hV⟩ : ∃ V, f_X6_firstNotSo M a1 a2 = V := ⟨_, rfl⟩
  have he := hV
  unfold f_X6_firstNotSo at he
  refine lv_aload_n hx hb dX6_firstNotSo_0 rfl (lv_at hl 0 rfl) ?_
  refine gX6_6 hx hb hG hown hK hP rfl gw_2_0 dX6_firstNotSo_1 ?_
  refine lv_aload_n hx hb dX6_firstNotSo_4 rfl (lv_at hl 0 rfl) ?_
  refine gX6_1 hx hb hG hown hK hP rfl gw_1_20 dX6_firstNotSo_5 ?_
  refine call_v [.ref (ad 13)] [] hx hb hml hG hown hK (c_X3_take had M 15 (by decide) 13 (by decide)) gw_28_2 gm_X3_take gd_X3_take rfl rfl ⟨Nat.le_of_ble_eq_true rfl, Nat.le_of_ble_eq_true rfl⟩ ⟨Nat.le_refl _, Nat.le_refl _⟩ (rX3 hK hP (by decide)) hP (fun _ h => h) hS rfl hl.1 rfl (Nat.le_of_ble_eq_true rfl) dX6_firstNotSo_8 (fun M_3 H locs hF_2 hP hS => ?_)
  have he := bnd_at he hF_2.symm
  refine lv_aload_n hx hb dX6_firstNotSo_11 rfl (lv_at hl 0 rfl) ?_
  refine gX6_6 hx hb hG hown hK hP rfl gw_2_0 dX6_firstNotSo_12 ?_
  refine lv_iload_n hx hb dX6_firstNotSo_15 rfl (lv_at hl 1 rfl) ?_
  refine call_e [.int a1] [] hx hb hml hG hown hK (c_X3_boatAt had M_3 15 (by decide) a1) gw_16_2 gm_X3_boatAt gd_X3_boatAt rfl rfl ⟨Nat.le_of_ble_eq_true rfl, Nat.le_of_ble_eq_true rfl⟩ ⟨Nat.le_refl _, Nat.le_refl _⟩ (rX3 hK hP (by decide)) hP (fun _ h => h) hS rfl hl.1 rfl (Nat.le_of_ble_eq_true rfl) dX6_firstNotSo_16 (fun r_4 u_6 H locs hF_5 hP hS => ?_)
  obtain ⟨hz_7, hF_5, hu⟩ := hF_5; rw [hu] at hP
  rcases r_4 with _ | b_8
  · have he := oel_n he hF_5
    refine lv_astore_nN (lv' := [(3, .null), (0, .ref (ad 0)), (1, .int a1), (2, .ref (ad a2))]) hx hb dX6_firstNotSo_19 rfl hl (by decide) rfl (fun ls hl => ?_)
    refine lv_iconst (v := 0) hx hb dX6_firstNotSo_20 (by decide) ?_
    refine lv_istore (lv' := [(4, .int 0), (3, .null), (0, .ref (ad 0)), (1, .int a1), (2, .ref (ad a2))]) hx hb dX6_firstNotSo_21 hl (by decide) rfl (fun ls hl => ?_)
    have lp23 : ∀ (nn : Nat) (H : Heap) (locs : List Loc) (ls : Array Slot) (M_10 : Mem) (v_9 : Int32), (v_9 = 0 ∨ v_9 = 1) → 0 < nn → lp_X6_firstNotSo_23 nn M_10 v_9 = V → va_P D vwCl (wld 74 ad (cC ad k M_10)) H → va_S (AW 74 ad) s.heap H locs → lv_has ls 5 [(0, .ref (ad 0)), (2, .ref (ad a2)), (3, .null), (4, .int v_9)] → W p l e rm_X6_firstNotSo s m args below meth c H locs 0 0 Q (F0 m 23 ls []) := by
      intro nn
      induction nn with
      | zero =>
        intro H locs ls M_10 v_9 zv_9 hμ
        exact absurd hμ (Nat.not_lt_zero _)
      | succ nn ih =>
        intro H locs ls M_10 v_9 zv_9 hμ he hP hS hl
        rw [lp_X6_firstNotSo_23] at he
        refine lv_aload_nN hx hb dX6_firstNotSo_23 rfl (lv_at hl 2 rfl) ?_
        refine lv_ifnullN (tgt := 80) hx hb dX6_firstNotSo_24 (by decide) ?_
        refine lv_bipush (v := (-4)) hx hb dX6_firstNotSo_80 (by decide) ?_
        exact hret _ _ _ _ _ _ (hV.trans he.symm) hP hS dX6_firstNotSo_82
    exact lp23 _ _ _ _ _ _ (Or.inl rfl) (by decide) he hP hS (lv_sub hl [2, 4, 1, 0] rfl)
  · have he := oel_s he hF_5
    refine lv_astore_n (lv' := [(3, .ref (ad b_8)), (0, .ref (ad 0)), (1, .int a1), (2, .ref (ad a2))]) hx hb dX6_firstNotSo_19 rfl hl (by decide) rfl (fun ls hl => ?_)
    refine lv_iconst (v := 0) hx hb dX6_firstNotSo_20 (by decide) ?_
    refine lv_istore (lv' := [(4, .int 0), (3, .ref (ad b_8)), (0, .ref (ad 0)), (1, .int a1), (2, .ref (ad a2))]) hx hb dX6_firstNotSo_21 hl (by decide) rfl (fun ls hl => ?_)
    have lp23 : ∀ (nn : Nat) (H : Heap) (locs : List Loc) (ls : Array Slot) (M_26 : Mem) (v_25 : Int32), (0 ≤ v_25.toInt) → (M_26 a2 3 = M_3 a2 3) → ((M_3 a2 3).toInt - v_25.toInt).toNat < nn → lp_X6_firstNotSo_23' nn a2 b_8 M_26 v_25 = V → va_P D vwCl (wld 74 ad (cC ad k M_26)) H → va_S (AW 74 ad) s.heap H locs → lv_has ls 5 [(0, .ref (ad 0)), (2, .ref (ad a2)), (3, .ref (ad b_8)), (4, .int v_25)] → W p l e rm_X6_firstNotSo s m args below meth c H locs 0 0 Q (F0 m 23 ls []) := by
      intro nn
      induction nn with
      | zero =>
        intro H locs ls M_26 v_25 hi0 hiM hμ
        exact absurd hμ (Nat.not_lt_zero _)
      | succ nn ih =>
        intro H locs ls M_26 v_25 hi0 hiM hμ he hP hS hl
        rw [lp_X6_firstNotSo_23'] at he
        refine lv_aload_n hx hb dX6_firstNotSo_23 rfl (lv_at hl 2 rfl) ?_
        refine lv_ifnull hx hb dX6_firstNotSo_24 ?_
        refine lv_iload hx hb dX6_firstNotSo_27 (lv_at hl 3 rfl) ?_
        refine lv_aload_n hx hb dX6_firstNotSo_29 rfl (lv_at hl 1 rfl) ?_
        refine gX5_3 hx hb hG hown hK hP ha2 gw_7_21 dX6_firstNotSo_30 ?_
        refine lv_icmp_ge (tgt := 80) hx hb dX6_firstNotSo_33 (by decide) (fun hc_27 => ?_) (fun hc_27 => ?_)
        · have he := ite_t he hc_27
          refine lv_bipush (v := (-4)) hx hb dX6_firstNotSo_80 (by decide) ?_
          exact hret _ _ _ _ _ _ (hV.trans he.symm) hP hS dX6_firstNotSo_82
        · have he := ite_f he hc_27
          refine lv_aload_n hx hb dX6_firstNotSo_36 rfl (lv_at hl 0 rfl) ?_
          refine gX6_6 hx hb hG hown hK hP rfl gw_2_0 dX6_firstNotSo_37 ?_
          refine lv_aload_n hx hb dX6_firstNotSo_40 rfl (lv_at hl 0 rfl) ?_
          refine gX6_0 hx hb hG hown hK hP rfl gw_1_16 dX6_firstNotSo_41 ?_
          refine lv_iconst (v := 1) hx hb dX6_firstNotSo_44 (by decide) ?_
          refine call_v [.ref (ad 1), .int 1] [] hx hb hml hG hown hK (c_X3_goOn had M_26 15 (by decide) 1 (by decide) 1) gw_18_22 gm_X3_goOn gd_X3_goOn rfl rfl ⟨Nat.le_of_ble_eq_true rfl, Nat.le_of_ble_eq_true rfl⟩ ⟨Nat.le_refl _, Nat.le_refl _⟩ (rX3 hK hP (by decide)) hP (fun _ h => h) hS rfl hl.1 rfl (Nat.le_of_ble_eq_true rfl) dX6_firstNotSo_45 (fun M_30 H locs hF_29 hP hS => ?_)
          have he := bnd_at he hF_29.symm
          refine lv_aload_n hx hb dX6_firstNotSo_48 rfl (lv_at hl 1 rfl) ?_
          refine lv_iload hx hb dX6_firstNotSo_49 (lv_at hl 3 rfl) ?_
          refine call_i [.int v_25] [] hx hb hml hG hown hK (c_X5_tellsAt had M_30 a2 ha2 v_25) gw_36_18 gm_X5_tellsAt gd_X5_tellsAt rfl rfl ⟨Nat.le_of_ble_eq_true rfl, Nat.le_of_ble_eq_true rfl⟩ ⟨Nat.le_refl _, Nat.le_refl _⟩ (rX5 hK hP ha2) hP (fun _ h => h) hS rfl hl.1 rfl (Nat.le_of_ble_eq_true rfl) dX6_firstNotSo_51 (fun r_31 u_33 H locs hF_32 hP hS => ?_)
          obtain ⟨hz_34, hF_32, hu⟩ := hF_32; rw [hu] at hP; subst hF_32
          refine lv_if_eq (tgt := 74) hx hb dX6_firstNotSo_54 (by decide) (fun hc_35 => ?_) (fun hc_35 => ?_)
          · have he := ite_t he hc_35
            obtain ⟨y_36, ey_36⟩ : ∃ y_36 : Int32, y_36 = v_25 + 1 := ⟨_, rfl⟩
            have he := bnd_at he ey_36
            refine lv_iinc (v := y_36) (lv' := [(4, .int y_36), (0, .ref (ad 0)), (2, .ref (ad a2)), (3, .ref (ad b_8))]) hx hb dX6_firstNotSo_74 hl (k := 3) rfl (by rw [ey_36]; rfl) (by decide) rfl (fun ls hl => ?_)
            refine lv_goto (tgt := 23) hx hb dX6_firstNotSo_77 (by decide) ?_
            exact ih _ _ _ _ _ (by rw [ey_36, inc_I (N := ((M_3 a2 3).toInt)) (by have q0 := nle_I hc_27; rw [hiM] at q0; exact q0) (Int32.toInt_le _)]; omega) (by rw [← hF_29, goOn_shf (by omega)]; exact hiM) (by rw [ey_36]; exact mu_I hμ (by have q0 := nle_I hc_27; rw [hiM] at q0; exact q0) (Int32.toInt_le _)) he hP hS (lv_sub hl [1, 2, 3, 0] rfl)
          · have he := ite_f he hc_35
            refine lv_aload_n hx hb dX6_firstNotSo_57 rfl (lv_at hl 1 rfl) ?_
            refine gX5_4 hx hb hG hown hK hP ha2 gw_7_20 dX6_firstNotSo_58 ?_
            refine lv_iload hx hb dX6_firstNotSo_61 (lv_at hl 3 rfl) ?_
            refine al_kElm hx hb hK hP (kR_elm ha2) (tells_in hc_35) dX6_firstNotSo_63 ?_
            refine lv_aload_n hx hb dX6_firstNotSo_64 rfl (lv_at hl 2 rfl) ?_
            refine gX1_4 hx hb hG hown hK hP (hz_7 _ rfl) gw_36_17 dX6_firstNotSo_65 ?_
            refine lv_icmp_eq (tgt := 74) hx hb dX6_firstNotSo_68 (by decide) (fun hc_37 => ?_) (fun hc_37 => ?_)
            · have he := ite_t he hc_37
              obtain ⟨y_38, ey_38⟩ : ∃ y_38 : Int32, y_38 = v_25 + 1 := ⟨_, rfl⟩
              have he := bnd_at he ey_38
              refine lv_iinc (v := y_38) (lv' := [(4, .int y_38), (0, .ref (ad 0)), (2, .ref (ad a2)), (3, .ref (ad b_8))]) hx hb dX6_firstNotSo_74 hl (k := 3) rfl (by rw [ey_38]; rfl) (by decide) rfl (fun ls hl => ?_)
              refine lv_goto (tgt := 23) hx hb dX6_firstNotSo_77 (by decide) ?_
              exact ih _ _ _ _ _ (by rw [ey_38, inc_I (N := ((M_3 a2 3).toInt)) (by have q0 := nle_I hc_27; rw [hiM] at q0; exact q0) (Int32.toInt_le _)]; omega) (by rw [← hF_29, goOn_shf (by omega)]; exact hiM) (by rw [ey_38]; exact mu_I hμ (by have q0 := nle_I hc_27; rw [hiM] at q0; exact q0) (Int32.toInt_le _)) he hP hS (lv_sub hl [1, 2, 3, 0] rfl)
            · have he := ite_f he hc_37
              refine lv_iload hx hb dX6_firstNotSo_71 (lv_at hl 3 rfl) ?_
              exact hret _ _ _ _ _ _ (hV.trans he.symm) hP hS dX6_firstNotSo_73
    exact lp23 _ _ _ _ _ _ (by decide) rfl (by rw [Int32.toInt_zero]; omega) he hP hS (lv_sub hl [2, 4, 1, 0] rfl)
def rm_X6_read : Room := { frames := 6, cells := 0, slots := 0, locals := 131 }
theorem gm_X6_read : Cond.instanceMethod yX6_read ∈ wsL_law ∧ Cond.selects RX6 yX6_read yX6_read ∈ wsL_law ∧ Cond.initialized RX6 ∈ wsL_law ∧ Cond.code yX6_read cX6_read 5 (some .int) ∈ wsL_law := ⟨gw_36_10, gw_36_11, gw_1_2, gw_36_12⟩
theorem gd_X6_read : yX6_read.cls = RX6 ∧ yX6_read.cls ≠ "java/lang/invoke/MethodHandle" ∧ yX6_read.cls ≠ "java/lang/invoke/VarHandle" ∧ (parseMethodDescriptor yX6_read.desc).map (fun d => d.parameters.length) = some 2 := by decide +kernel
set_option maxRecDepth 100000 in
set_option maxHeartbeats 0 in
theorem c_X6_read {l : Launch} {D : va_G} {k : Nat → ClassId} {ad : Nat → Nat} (had : InjN 74 ad) (M : Mem) (a1 : Int32) (a2 : Int32) : Met l yX6_read (Cond.code yX6_read cX6_read 5 (some .int) :: wsL_law) rm_X6_read (va_Pc [.ref (ad 0), .int a1, .int a2] (GW 74 ad D k (cC ad k M))) (va_Qi (fun r u => f_X6_read M a1 a2 = (r, u)) (fun u t => GW 74 ad D k (cC ad k u) t) (AW 74 ad)) 0 0 (AW 74 ad) := by
  refine met_i (g := cC ad k) (M := M) (plainFor_of_name (by decide)) (Nat.le_of_ble_eq_true rfl) ?_
  intro p e s m args below meth c Q ls hx hb hml hG hown hK hret hP hS hl
  have hl : lv_has ls 5 [(0, .ref (ad 0)), (1, .int a1), (2, .int a2)] := hl
  obtain ⟨V, hV⟩ : ∃ V, f_X6_read M a1 a2 = V := ⟨_, rfl⟩
  have he := hV
  unfold f_X6_read at he
  refine lv_aload_n hx hb dX6_read_0 rfl (lv_at hl 0 rfl) ?_
  refine lv_iload_n hx hb dX6_read_1 rfl (lv_at hl 2 rfl) ?_
  refine call_e [.int a2] [] hx hb hml hG hown hK (c_X6_shelfAt had M a2) gw_7_22 gm_X6_shelfAt gd_X6_shelfAt rfl rfl ⟨Nat.le_of_ble_eq_true rfl, Nat.le_of_ble_eq_true rfl⟩ ⟨Nat.le_refl _, Nat.le_refl _⟩ (rX6 hK hP rfl) hP (fun _ h => h) hS rfl hl.1 rfl (Nat.le_of_ble_eq_true rfl) dX6_read_2 (fun r_1 u_3 H locs hF_2 hP hS => ?_)
  obtain ⟨hz_4, hF_2, hu⟩ := hF_2; rw [hu] at hP
  rcases r_1 with _ | b_5
  · have he := oel_n he hF_2
    refine lv_astore_nN (lv' := [(3, .null), (0, .ref (ad 0)), (1, .int a1), (2, .int a2)]) hx hb dX6_read_5 rfl hl (by decide) rfl (fun ls hl => ?_)
    refine lv_aload_nN hx hb dX6_read_6 rfl (lv_at hl 0 rfl) ?_
    refine lv_ifnullN (tgt := 21) hx hb dX6_read_7 (by decide) ?_
    refine lv_iconst (v := (-1)) hx hb dX6_read_21 (by decide) ?_
    exact hret _ _ _ _ _ _ (hV.trans he.symm) hP hS dX6_read_22
  · have he := oel_s he hF_2
    refine lv_astore_n (lv' := [(3, .ref (ad b_5)), (0, .ref (ad 0)), (1, .int a1), (2, .int a2)]) hx hb dX6_read_5 rfl hl (by decide) rfl (fun ls hl => ?_)
    refine lv_aload_n hx hb dX6_read_6 rfl (lv_at hl 0 rfl) ?_
    refine lv_ifnull hx hb dX6_read_7 ?_
    refine lv_aload_n hx hb dX6_read_10 rfl (lv_at hl 1 rfl) ?_
    refine gX6_1 hx hb hG hown hK hP rfl gw_1_20 dX6_read_11 ?_
    refine lv_iload_n hx hb dX6_read_14 rfl (lv_at hl 2 rfl) ?_
    refine call_e [.int a1] [] hx hb hml hG hown hK (c_X3_boatAt had M 13 (by decide) a1) gw_16_2 gm_X3_boatAt gd_X3_boatAt rfl rfl ⟨Nat.le_of_ble_eq_true rfl, Nat.le_of_ble_eq_true rfl⟩ ⟨Nat.le_refl _, Nat.le_refl _⟩ (rX3 hK hP (by decide)) hP (fun _ h => h) hS rfl hl.1 rfl (Nat.le_of_ble_eq_true rfl) dX6_read_15 (fun r_6 u_8 H locs hF_7 hP hS => ?_)
    obtain ⟨hz_9, hF_7, hu⟩ := hF_7; rw [hu] at hP
    rcases r_6 with _ | b_10
    · have he := oel_n he hF_7
      refine lv_ifnonnullN hx hb dX6_read_18 ?_
      refine lv_iconst (v := (-1)) hx hb dX6_read_21 (by decide) ?_
      exact hret _ _ _ _ _ _ (hV.trans he.symm) hP hS dX6_read_22
    · have he := oel_s he hF_7
      refine lv_ifnonnull (tgt := 23) hx hb dX6_read_18 (by decide) ?_
      refine lv_aload_n hx hb dX6_read_23 rfl (lv_at hl 0 rfl) ?_
      refine call_i [] [] hx hb hml hG hown hK (c_X5_rowRefusal had M b_5 (hz_4 _ rfl)) gw_35_19 gm_X5_rowRefusal gd_X5_rowRefusal rfl rfl ⟨Nat.le_of_ble_eq_true rfl, Nat.le_of_ble_eq_true rfl⟩ ⟨Nat.le_refl _, Nat.le_refl _⟩ (rX5 hK hP (hz_4 _ rfl)) hP (fun _ h => h) hS rfl hl.1 rfl (Nat.le_of_ble_eq_true rfl) dX6_read_24 (fun r_11 u_13 H locs hF_12 hP hS => ?_)
      obtain ⟨hF_12, hu⟩ := hF_12; rw [hu] at hP; subst hF_12
      refine lv_topi (fun y_14 ey_14 => ?_)
      have he := bnd_at he ey_14
      refine lv_istore (lv' := [(4, .int y_14), (3, .ref (ad b_5)), (0, .ref (ad 0)), (1, .int a1), (2, .int a2)]) hx hb dX6_read_27 hl (by decide) rfl (fun ls hl => ?_)
      refine lv_iload hx hb dX6_read_29 (lv_at hl 0 rfl) ?_
      obtain ⟨t_20, M_21, hr_16, he⟩ := bnd2_ex he
      have j45 : ∀ (H : Heap) (locs : List Loc) (ls : Array Slot), va_P D vwCl (wld 74 ad (cC ad k M_21)) H → va_S (AW 74 ad) s.heap H locs → lv_has ls 5 [] → W p l e rm_X6_read s m args below meth c H locs 0 0 Q (F0 m 45 ls [.int t_20]) := by
        intro H locs ls hP hS hl
        exact hret _ _ _ _ _ _ (hV.trans he.symm) hP hS dX6_read_45
      refine lv_if_eq (tgt := 39) hx hb dX6_read_31 (by decide) (fun hc_15 => ?_) (fun hc_15 => ?_)
      · have hr_16 := ite_t hr_16 hc_15
        refine lv_aload_n hx hb dX6_read_39 rfl (lv_at hl 2 rfl) ?_
        refine lv_iload_n hx hb dX6_read_40 rfl (lv_at hl 3 rfl) ?_
        refine lv_aload_n hx hb dX6_read_41 rfl (lv_at hl 1 rfl) ?_
        refine call_i [.int a1, .ref (ad b_5)] [] hx hb hml hG hown hK (c_X6_firstNotSo had M a1 b_5 (hz_4 _ rfl)) gw_36_13 gm_X6_firstNotSo gd_X6_firstNotSo rfl rfl ⟨Nat.le_of_ble_eq_true rfl, Nat.le_of_ble_eq_true rfl⟩ ⟨Nat.le_refl _, Nat.le_refl _⟩ (rX6 hK hP rfl) hP (fun _ h => h) hS rfl hl.1 rfl (Nat.le_of_ble_eq_true rfl) dX6_read_42 (fun r_17 M_19 H locs hF_18 hP hS => ?_)
        have hr_16 := bnd2_at hr_16 hF_18
        cases hr_16
        exact j45 _ _ _ hP hS (lv_sub hl [] rfl)
      · have hr_16 := ite_f hr_16 hc_15
        refine lv_iload hx hb dX6_read_34 (lv_at hl 0 rfl) ?_
        refine lv_goto (tgt := 45) hx hb dX6_read_36 (by decide) ?_
        cases hr_16
        exact j45 _ _ _ hP hS (lv_sub hl [] rfl)
def rm_X2_take : Room := { frames := 1, cells := 0, slots := 0, locals := 40 }
theorem gm_X2_take : Cond.instanceMethod yX2_take ∈ wsL_law ∧ Cond.selects RX2 yX2_take yX2_take ∈ wsL_law ∧ Cond.initialized RX2 ∈ wsL_law ∧ Cond.code yX2_take cX2_take 2 none ∈ wsL_law := ⟨gw_37_23, gw_38_0, gw_2_14, gw_38_1⟩
theorem gd_X2_take : yX2_take.cls = RX2 ∧ yX2_take.cls ≠ "java/lang/invoke/MethodHandle" ∧ yX2_take.cls ≠ "java/lang/invoke/VarHandle" ∧ (parseMethodDescriptor yX2_take.desc).map (fun d => d.parameters.length) = some 1 := by decide +kernel
set_option maxRecDepth 100000 in
set_option maxHeartbeats 0 in
theorem c_X2_take {l : Launch} {D : va_G} {k : Nat → ClassId} {ad : Nat → Nat} (had : InjN 74 ad) (M : Mem) (o : Nat) (ho : kLaw o) (a1 : Nat) (ha1 : kLaw a1) : Met l yX2_take (Cond.code yX2_take cX2_take 2 none :: wsL_law) rm_X2_take (va_Pc [.ref (ad o), .ref (ad a1)] (GW 74 ad D k (cC ad k M))) (va_Qv (fun u => f_X2_take M o a1 = u) (fun u t => GW 74 ad D k (cC ad k u) t) (AW 74 ad)) 0 0 (AW 74 ad) := by
  refine met_v (g := cC ad k) (M := M) (plainFor_of_name (by decide)) (Nat.le_of_ble_eq_true rfl) ?_
  intro p e s m args below meth c Q ls hx hb hml hG hown hK hret hP hS hl
  have hl : lv_has ls 2 [(0, .ref (ad o)), (1, .ref (ad a1))] := hl
  obtain ⟨V, hV⟩ : ∃ V, f_X2_take M o a1 = V := ⟨_, rfl⟩
  have he := hV
  unfold f_X2_take at he
  refine lv_aload_n hx hb dX2_take_0 rfl (lv_at hl 0 rfl) ?_
  refine lv_iconst (v := 0) hx hb dX2_take_1 (by decide) ?_
  refine lv_aload_n hx hb dX2_take_2 rfl (lv_at hl 1 rfl) ?_
  refine gX2_1 hx hb hG hown hK hP ha1 gw_10_12 dX2_take_3 ?_
  refine lv_aload_n hx hb dX2_take_6 rfl (lv_at hl 0 rfl) ?_
  refine gX2_0 hx hb hG hown hK hP ho gw_2_21 dX2_take_7 ?_
  refine an_kTxt hx hb hK hP (kR_txt ho) dX2_take_10 ?_
  refine w_min hx hb hml hG hown gw_38_2 (Nat.le_of_ble_eq_true rfl) (Nat.le_of_ble_eq_true rfl) hl.1 ⟨Nat.le_refl _, Nat.le_refl _⟩ dX2_take_11 ?_
  refine w_max hx hb hml hG hown gw_10_22 (Nat.le_of_ble_eq_true rfl) (Nat.le_of_ble_eq_true rfl) hl.1 ⟨Nat.le_refl _, Nat.le_refl _⟩ dX2_take_14 ?_
  refine pX2_1 hx hb hG hown hK hP had AW_in hS ho gw_10_12 dX2_take_17 (fun H locs hP hS => ?_)
  obtain ⟨M_1, eM_1⟩ : ∃ y : Mem, y = up2 M o 1 (mx 0 (mn (M a1 1) 100)) := ⟨_, rfl⟩
  rw [← eM_1] at hP
  have he := bnd_at he eM_1
  refine lv_aload_n hx hb dX2_take_20 rfl (lv_at hl 1 rfl) ?_
  refine gX2_0 hx hb hG hown hK hP ha1 gw_2_21 dX2_take_21 ?_
  refine lv_iconst (v := 0) hx hb dX2_take_24 (by decide) ?_
  refine lv_aload_n hx hb dX2_take_25 rfl (lv_at hl 0 rfl) ?_
  refine gX2_0 hx hb hG hown hK hP ho gw_2_21 dX2_take_26 ?_
  refine lv_iconst (v := 0) hx hb dX2_take_29 (by decide) ?_
  refine lv_aload_n hx hb dX2_take_30 rfl (lv_at hl 0 rfl) ?_
  refine gX2_1 hx hb hG hown hK hP ho gw_10_12 dX2_take_31 ?_
  refine w_copy hx hb hml hG hown gw_38_3 hK hP had AW_in hS (kA_txt (kR_txt ha1)) (kA_txt (kR_txt ho)) (by decide) (by decide) (by rw [eM_1, up2_s]; exact (take_ok _).1) (by rw [eM_1, up2_s]; have := (take_ok (M a1 1)).2; show 0 + _ ≤ _; omega) (by rw [eM_1, up2_s]; have := (take_ok (M a1 1)).2; show 0 + _ ≤ _; omega) (Nat.le_of_ble_eq_true rfl) (Nat.le_of_ble_eq_true rfl) hl.1 dX2_take_34 (fun H locs hP hS => ?_)
  obtain ⟨M_2, eM_2⟩ : ∃ y : Mem, y = cpM M_1 (a1 + 6) (o + 6) 0 0 (M_1 o 1) := ⟨_, rfl⟩
  rw [← eM_2] at hP
  have he := bnd_at he eM_2
  exact hret _ _ _ _ _ (hV.trans he.symm) hP hS dX2_take_37
def rm_X0_take : Room := { frames := 2, cells := 0, slots := 0, locals := 61 }
theorem gm_X0_take : Cond.instanceMethod yX0_take ∈ wsL_law ∧ Cond.selects RX0 yX0_take yX0_take ∈ wsL_law ∧ Cond.initialized RX0 ∈ wsL_law ∧ Cond.code yX0_take cX0_take 2 none ∈ wsL_law := ⟨gw_37_19, gw_37_20, gw_1_15, gw_37_21⟩
theorem gd_X0_take : yX0_take.cls = RX0 ∧ yX0_take.cls ≠ "java/lang/invoke/MethodHandle" ∧ yX0_take.cls ≠ "java/lang/invoke/VarHandle" ∧ (parseMethodDescriptor yX0_take.desc).map (fun d => d.parameters.length) = some 1 := by decide +kernel
set_option maxRecDepth 100000 in
set_option maxHeartbeats 0 in
theorem c_X0_take {l : Launch} {D : va_G} {k : Nat → ClassId} {ad : Nat → Nat} (had : InjN 74 ad) (M : Mem) (o : Nat) (ho : kBay o) (a1 : Nat) (ha1 : kBay a1) : Met l yX0_take (Cond.code yX0_take cX0_take 2 none :: wsL_law) rm_X0_take (va_Pc [.ref (ad o), .ref (ad a1)] (GW 74 ad D k (cC ad k M))) (va_Qv (fun u => f_X0_take M o a1 = u) (fun u t => GW 74 ad D k (cC ad k u) t) (AW 74 ad)) 0 0 (AW 74 ad) := by
  refine met_v (g := cC ad k) (M := M) (plainFor_of_name (by decide)) (Nat.le_of_ble_eq_true rfl) ?_
  intro p e s m args below meth c Q ls hx hb hml hG hown hK hret hP hS hl
  have hl : lv_has ls 2 [(0, .ref (ad o)), (1, .ref (ad a1))] := hl
  obtain ⟨V, hV⟩ : ∃ V, f_X0_take M o a1 = V := ⟨_, rfl⟩
  have he := hV
  unfold f_X0_take at he
  refine lv_aload_n hx hb dX0_take_0 rfl (lv_at hl 0 rfl) ?_
  refine lv_aload_n hx hb dX0_take_1 rfl (lv_at hl 1 rfl) ?_
  refine gX0_0 hx hb hG hown hK hP ha1 gw_2_9 dX0_take_2 ?_
  refine pX0_0 hx hb hG hown hK hP had AW_in hS ho gw_2_9 dX0_take_5 (fun H locs hP hS => ?_)
  obtain ⟨M_1, eM_1⟩ : ∃ y : Mem, y = up2 M o 0 (M a1 0) := ⟨_, rfl⟩
  rw [← eM_1] at hP
  have he := bnd_at he eM_1
  refine lv_aload_n hx hb dX0_take_8 rfl (lv_at hl 0 rfl) ?_
  refine lv_aload_n hx hb dX0_take_9 rfl (lv_at hl 1 rfl) ?_
  refine gX0_1 hx hb hG hown hK hP ha1 gw_6_13 dX0_take_10 ?_
  refine pX0_1 hx hb hG hown hK hP had AW_in hS ho gw_6_13 dX0_take_13 (fun H locs hP hS => ?_)
  obtain ⟨M_2, eM_2⟩ : ∃ y : Mem, y = up2 M_1 o 1 (M_1 a1 1) := ⟨_, rfl⟩
  rw [← eM_2] at hP
  have he := bnd_at he eM_2
  refine lv_aload_n hx hb dX0_take_16 rfl (lv_at hl 0 rfl) ?_
  refine lv_aload_n hx hb dX0_take_17 rfl (lv_at hl 1 rfl) ?_
  refine gX0_2 hx hb hG hown hK hP ha1 gw_2_10 dX0_take_18 ?_
  refine pX0_2 hx hb hG hown hK hP had AW_in hS ho gw_2_10 dX0_take_21 (fun H locs hP hS => ?_)
  obtain ⟨M_3, eM_3⟩ : ∃ y : Mem, y = up2 M_2 o 2 (M_2 a1 2) := ⟨_, rfl⟩
  rw [← eM_3] at hP
  have he := bnd_at he eM_3
  refine lv_aload_n hx hb dX0_take_24 rfl (lv_at hl 0 rfl) ?_
  refine lv_aload_n hx hb dX0_take_25 rfl (lv_at hl 1 rfl) ?_
  refine gX0_3 hx hb hG hown hK hP ha1 gw_2_11 dX0_take_26 ?_
  refine pX0_3 hx hb hG hown hK hP had AW_in hS ho gw_2_11 dX0_take_29 (fun H locs hP hS => ?_)
  obtain ⟨M_4, eM_4⟩ : ∃ y : Mem, y = up2 M_3 o 3 (M_3 a1 3) := ⟨_, rfl⟩
  rw [← eM_4] at hP
  have he := bnd_at he eM_4
  refine lv_aload_n hx hb dX0_take_32 rfl (lv_at hl 0 rfl) ?_
  refine lv_aload_n hx hb dX0_take_33 rfl (lv_at hl 1 rfl) ?_
  refine gX0_4 hx hb hG hown hK hP ha1 gw_6_14 dX0_take_34 ?_
  refine pX0_4 hx hb hG hown hK hP had AW_in hS ho gw_6_14 dX0_take_37 (fun H locs hP hS => ?_)
  obtain ⟨M_5, eM_5⟩ : ∃ y : Mem, y = up2 M_4 o 4 (M_4 a1 4) := ⟨_, rfl⟩
  rw [← eM_5] at hP
  have he := bnd_at he eM_5
  refine lv_aload_n hx hb dX0_take_40 rfl (lv_at hl 0 rfl) ?_
  refine gX0_5 hx hb hG hown hK hP ho gw_2_15 dX0_take_41 ?_
  refine lv_aload_n hx hb dX0_take_44 rfl (lv_at hl 1 rfl) ?_
  refine gX0_5 hx hb hG hown hK hP ha1 gw_2_15 dX0_take_45 ?_
  refine call_v [.ref (ad (a1 + 3))] [] hx hb hml hG hown hK (c_X2_take had M_5 (o + 3) (kR_law ho) (a1 + 3) (kR_law ha1)) gw_37_22 gm_X2_take gd_X2_take rfl rfl ⟨Nat.le_of_ble_eq_true rfl, Nat.le_of_ble_eq_true rfl⟩ ⟨Nat.le_refl _, Nat.le_refl _⟩ (rX2 hK hP (kR_law ho)) hP (fun _ h => h) hS rfl hl.1 rfl (Nat.le_of_ble_eq_true rfl) dX0_take_48 (fun M_8 H locs hF_7 hP hS => ?_)
  have he := bnd_at he hF_7.symm
  refine lv_aload_n hx hb dX0_take_51 rfl (lv_at hl 0 rfl) ?_
  refine gX0_6 hx hb hG hown hK hP ho gw_2_17 dX0_take_52 ?_
  refine lv_bipush (v := 100) hx hb dX0_take_55 (by decide) ?_
  refine callS_v [.ref (ad (o + 6)), .int 100] [] hx hb hml hG hown hK (c_J7_fill_53178 had M_8 (o + 6) (kI_win (kR_win ho)) 100) gw_3_0 gm_J7_fill_53178 gd_J7_fill_53178 rfl rfl ⟨Nat.le_of_ble_eq_true rfl, Nat.le_of_ble_eq_true rfl⟩ ⟨Nat.le_refl _, Nat.le_refl _⟩ hP (fun _ h => h) hS rfl hl.1 rfl (Nat.le_of_ble_eq_true rfl) dX0_take_57 (fun M_11 H locs hF_10 hP hS => ?_)
  have he := bnd_at he hF_10.symm
  exact hret _ _ _ _ _ (hV.trans he.symm) hP hS dX0_take_60
def rm_X0_setting : Room := { frames := 0, cells := 0, slots := 0, locals := 0 }
theorem gm_X0_setting : Cond.instanceMethod yX0_setting ∈ wsL_law ∧ Cond.selects RX0 yX0_setting yX0_setting ∈ wsL_law ∧ Cond.initialized RX0 ∈ wsL_law ∧ Cond.code yX0_setting cX0_setting 2 (some .int) ∈ wsL_law := ⟨gw_6_16, gw_6_17, gw_1_15, gw_6_18⟩
theorem gd_X0_setting : yX0_setting.cls = RX0 ∧ yX0_setting.cls ≠ "java/lang/invoke/MethodHandle" ∧ yX0_setting.cls ≠ "java/lang/invoke/VarHandle" ∧ (parseMethodDescriptor yX0_setting.desc).map (fun d => d.parameters.length) = some 1 := by decide +kernel
set_option maxRecDepth 100000 in
set_option maxHeartbeats 0 in
theorem c_X0_setting {l : Launch} {D : va_G} {k : Nat → ClassId} {ad : Nat → Nat} (had : InjN 74 ad) (M : Mem) (o : Nat) (ho : kBay o) (a1 : Int32) : Met l yX0_setting (Cond.code yX0_setting cX0_setting 2 (some .int) :: wsL_law) rm_X0_setting (va_Pc [.ref (ad o), .int a1] (GW 74 ad D k (cC ad k M))) (va_Qi (fun r u => f_X0_setting M o a1 = r ∧ u = M) (fun u t => GW 74 ad D k (cC ad k u) t) (AW 74 ad)) 0 0 (AW 74 ad) := by
  refine met_i (g := cC ad k) (M := M) (plainFor_of_name (by decide)) (Nat.le_of_ble_eq_true rfl) ?_
  intro p e s m args below meth c Q ls hx hb hml hG hown hK hret hP hS hl
  have hl : lv_has ls 2 [(0, .ref (ad o)), (1, .int a1)] := hl
  obtain ⟨V, hV⟩ : ∃ V, f_X0_setting M o a1 = V := ⟨_, rfl⟩
  have he := hV
  unfold f_X0_setting at he
  refine lv_iload_n hx hb dX0_setting_0 rfl (lv_at hl 1 rfl) ?_
  by_cases hw_1 : a1 = 0
  · have he := ite_t he hw_1
    refine lv_tableIn (tgt := 32) hx hb dX0_setting_1 (by rw [hw_1]; decide) (by rw [hw_1]; decide) (by rw [hw_1]; rfl) (by decide) ?_
    refine lv_aload_n hx hb dX0_setting_32 rfl (lv_at hl 0 rfl) ?_
    refine gX0_0 hx hb hG hown hK hP ho gw_2_9 dX0_setting_33 ?_
    exact hret _ _ _ _ _ _ ⟨hV.trans he.symm, rfl⟩ hP hS dX0_setting_36
  · have he := ite_f he hw_1
    by_cases hw_2 : a1 = 1
    · have he := ite_t he hw_2
      refine lv_tableIn (tgt := 37) hx hb dX0_setting_1 (by rw [hw_2]; decide) (by rw [hw_2]; decide) (by rw [hw_2]; rfl) (by decide) ?_
      refine lv_aload_n hx hb dX0_setting_37 rfl (lv_at hl 0 rfl) ?_
      refine gX0_1 hx hb hG hown hK hP ho gw_6_13 dX0_setting_38 ?_
      exact hret _ _ _ _ _ _ ⟨hV.trans he.symm, rfl⟩ hP hS dX0_setting_41
    · have he := ite_f he hw_2
      by_cases hw_3 : a1 = 2
      · have he := ite_t he hw_3
        refine lv_tableIn (tgt := 42) hx hb dX0_setting_1 (by rw [hw_3]; decide) (by rw [hw_3]; decide) (by rw [hw_3]; rfl) (by decide) ?_
        refine lv_aload_n hx hb dX0_setting_42 rfl (lv_at hl 0 rfl) ?_
        refine gX0_2 hx hb hG hown hK hP ho gw_2_10 dX0_setting_43 ?_
        exact hret _ _ _ _ _ _ ⟨hV.trans he.symm, rfl⟩ hP hS dX0_setting_46
      · have he := ite_f he hw_3
        by_cases hw_4 : a1 = 3
        · have he := ite_t he hw_4
          refine lv_tableIn (tgt := 47) hx hb dX0_setting_1 (by rw [hw_4]; decide) (by rw [hw_4]; decide) (by rw [hw_4]; rfl) (by decide) ?_
          refine lv_aload_n hx hb dX0_setting_47 rfl (lv_at hl 0 rfl) ?_
          refine gX0_3 hx hb hG hown hK hP ho gw_2_11 dX0_setting_48 ?_
          exact hret _ _ _ _ _ _ ⟨hV.trans he.symm, rfl⟩ hP hS dX0_setting_51
        · have he := ite_f he hw_4
          refine lv_tableOut (tgt := 52) hx hb dX0_setting_1 (by have q0 : a1.toInt ≠ 0 := ne_I hw_1; have q1 : a1.toInt ≠ 1 := ne_I hw_2; have q2 : a1.toInt ≠ 2 := ne_I hw_3; have q3 : a1.toInt ≠ 3 := ne_I hw_4; omega) (by decide) ?_
          refine lv_aload_n hx hb dX0_setting_52 rfl (lv_at hl 0 rfl) ?_
          refine gX0_4 hx hb hG hown hK hP ho gw_6_14 dX0_setting_53 ?_
          exact hret _ _ _ _ _ _ ⟨hV.trans he.symm, rfl⟩ hP hS dX0_setting_56
