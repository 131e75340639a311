-- @needs 12_dec 13_dec 14_dec 15_dec 34_hM 60_cM 63_cM 65_cM
def rm_X7_isEnded : Room := { frames := 1, cells := 0, slots := 0, locals := 21 }
theorem gm_X7_isEnded : Cond.instanceMethod yX7_isEnded ∈ wsL_law ∧ Cond.selects RX7 yX7_isEnded yX7_isEnded ∈ wsL_law ∧ Cond.initialized RX7 ∈ wsL_law ∧ Cond.code yX7_isEnded cX7_isEnded 3 (some .boolean) ∈ wsL_law := ⟨gw_22_16, gw_22_17, gw_1_5, gw_22_18⟩
theorem gd_X7_isEnded : yX7_isEnded.cls = RX7 ∧ yX7_isEnded.cls ≠ "java/lang/invoke/MethodHandle" ∧ yX7_isEnded.cls ≠ "java/lang/invoke/VarHandle" ∧ (parseMethodDescriptor yX7_isEnded.desc).map (fun d => d.parameters.length) = some 0 := by decide +kernel
set_option maxRecDepth 100000 in
set_option maxHeartbeats 0 in
theorem c_X7_isEnded {l : Launch} {D : va_G} {k : Nat → ClassId} {ad : Nat → Nat} (had : InjN 31 ad) (M : Mem) (hI : MI M) : Met l yX7_isEnded (Cond.code yX7_isEnded cX7_isEnded 3 (some .boolean) :: wsL_law) rm_X7_isEnded (va_Pc [.ref (ad 0)] (GW 31 ad D k (cM ad k M))) (va_Qi (fun r u => (r = 0 ∨ r = 1) ∧ f_X7_isEnded M = r ∧ u = M) (fun u t => GW 31 ad D k (cM ad k u) t) (AW 31 ad)) 0 0 (AW 31 ad) := by
  refine met_z (g := cM ad k) (M := M) (plainFor_of_name (by decide)) (Nat.le_of_ble_eq_true rfl) ?_
  intro p e s m args below meth c Q ls hx hb hml hG hown hK hret hP hS hl
  have hl : lv_has ls 3 [(0, .ref (ad 0))] := hl
  obtain ⟨V, hV⟩ : ∃ V, f_X7_isEnded M = V := ⟨_, rfl⟩
  have he := hV
  unfold f_X7_isEnded at he
  have hT0 : TI M M := TI_rf hI
  have qb_M := hI.1
  have qs_M := hI.2.1
  have qz_M := hI.2.2.1
  refine lv_iconst (v := 1) hx hb dX7_isEnded_0 (by decide) ?_
  refine lv_istore_n (lv' := [(1, .int 1), (0, .ref (ad 0))]) hx hb dX7_isEnded_1 rfl hl (by decide) rfl (fun ls hl => ?_)
  refine lv_iconst (v := 0) hx hb dX7_isEnded_2 (by decide) ?_
  refine lv_istore_n (lv' := [(2, .int 0), (1, .int 1), (0, .ref (ad 0))]) hx hb dX7_isEnded_3 rfl hl (by decide) rfl (fun ls hl => ?_)
  obtain ⟨w_27, hr_16, he⟩ := bnd_ex he
  have j36 : ∀ (H : Heap) (locs : List Loc) (ls : Array Slot), (w_27 = 0 ∨ w_27 = 1) → va_P D vwCl (wld 31 ad (cM ad k M)) H → va_S (AW 31 ad) s.heap H locs → lv_has ls 3 [(0, .ref (ad 0)), (1, .int w_27)] → W p l e rm_X7_isEnded s m args below meth c H locs 0 0 Q (F0 m 36 ls []) := by
    intro H locs ls zw_27 hP hS hl
    refine lv_iload_n hx hb dX7_isEnded_36 rfl (lv_at hl 1 rfl) ?_
    obtain ⟨t_31, hr_29, he⟩ := bnd_ex he
    have j55 : ∀ (H : Heap) (locs : List Loc) (ls : Array Slot), (t_31 = 0 ∨ t_31 = 1) → va_P D vwCl (wld 31 ad (cM ad k M)) H → va_S (AW 31 ad) s.heap H locs → lv_has ls 3 [] → W p l e rm_X7_isEnded s m args below meth c H locs 0 0 Q (F0 m 55 ls [.int t_31]) := by
      intro H locs ls zt_31 hP hS hl
      exact hret _ _ _ _ _ _ ⟨zt_31, (hV.trans he.symm), rfl⟩ (nz01 zt_31) hP hS dX7_isEnded_55
    refine lv_if_ne (tgt := 50) hx hb dX7_isEnded_37 (by decide) (fun hc_28 => ?_) (fun hc_28 => ?_)
    · have hr_29 := ite_t hr_29 hc_28
      refine lv_iconst (v := 1) hx hb dX7_isEnded_50 (by decide) ?_
      refine lv_goto (tgt := 55) hx hb dX7_isEnded_51 (by decide) ?_
      cases hr_29
      exact j55 _ _ _ (Or.inr rfl) hP hS (lv_sub hl [] rfl)
    · have hr_29 := ite_f hr_29 (fun q => q hc_28)
      refine lv_aload_n hx hb dX7_isEnded_40 rfl (lv_at hl 0 rfl) ?_
      refine gX7_7 hx hb hG hown hK hP gw_15_22 dX7_isEnded_41 ?_
      refine lv_sipush (v := 400) hx hb dX7_isEnded_44 (by decide) ?_
      refine lv_icmp_lt (tgt := 54) hx hb dX7_isEnded_47 (by decide) (fun hc_30 => ?_) (fun hc_30 => ?_)
      · have hr_29 := ite_t hr_29 hc_30
        refine lv_iconst (v := 0) hx hb dX7_isEnded_54 (by decide) ?_
        cases hr_29
        exact j55 _ _ _ (Or.inl rfl) hP hS (lv_sub hl [] rfl)
      · have hr_29 := ite_f hr_29 hc_30
        refine lv_iconst (v := 1) hx hb dX7_isEnded_50 (by decide) ?_
        refine lv_goto (tgt := 55) hx hb dX7_isEnded_51 (by decide) ?_
        cases hr_29
        exact j55 _ _ _ (Or.inr rfl) hP hS (lv_sub hl [] rfl)
  have lp4 : ∀ (nn : Nat) (H : Heap) (locs : List Loc) (ls : Array Slot) (v_14 : Int32) (v_15 : Int32), (v_14 = 0 ∨ v_14 = 1) → (0 ≤ v_15.toInt) → (4 - v_15.toInt).toNat < nn → lp_X7_isEnded_4 nn M v_14 v_15 = w_27 → va_P D vwCl (wld 31 ad (cM ad k M)) H → va_S (AW 31 ad) s.heap H locs → lv_has ls 3 [(0, .ref (ad 0)), (1, .int v_14), (2, .int v_15)] → W p l e rm_X7_isEnded s m args below meth c H locs 0 0 Q (F0 m 4 ls []) := by
    intro nn
    induction nn with
    | zero =>
      intro H locs ls v_14 v_15 zv_14 h0v_15 hμ
      exact absurd hμ (Nat.not_lt_zero _)
    | succ nn ih =>
      intro H locs ls v_14 v_15 zv_14 h0v_15 hμ hr_16 hP hS hl
      rw [lp_X7_isEnded_4] at hr_16
      refine lv_iload_n hx hb dX7_isEnded_4 rfl (lv_at hl 2 rfl) ?_
      refine lv_aload_n hx hb dX7_isEnded_5 rfl (lv_at hl 0 rfl) ?_
      refine gX7_8 hx hb hG hown hK hP gw_7_13 dX7_isEnded_6 ?_
      refine lv_icmp_ge (tgt := 36) hx hb dX7_isEnded_9 (by decide) (fun hc_17 => ?_) (fun hc_17 => ?_)
      · have hr_16 := ite_t hr_16 hc_17
        cases hr_16
        exact j36 _ _ _ zv_14 hP hS (lv_sub hl [0, 1] rfl)
      · have hr_16 := ite_f hr_16 hc_17
        refine lv_iload_n hx hb dX7_isEnded_12 rfl (lv_at hl 1 rfl) ?_
        obtain ⟨t_25, hr_19, hr_16⟩ := bnd_ex hr_16
        have j29 : ∀ (H : Heap) (locs : List Loc) (ls : Array Slot), (t_25 = 0 ∨ t_25 = 1) → va_P D vwCl (wld 31 ad (cM ad k M)) H → va_S (AW 31 ad) s.heap H locs → lv_has ls 3 [(0, .ref (ad 0)), (2, .int v_15)] → W p l e rm_X7_isEnded s m args below meth c H locs 0 0 Q (F0 m 29 ls [.int t_25]) := by
          intro H locs ls zt_25 hP hS hl
          refine lv_istore_n (lv' := [(1, .int t_25), (0, .ref (ad 0)), (2, .int v_15)]) hx hb dX7_isEnded_29 rfl hl (by decide) rfl (fun ls hl => ?_)
          obtain ⟨y_26, ey_26⟩ : ∃ y_26 : Int32, y_26 = v_15 + 1 := ⟨_, rfl⟩
          have hr_16 := bnd_at hr_16 ey_26
          refine lv_iinc (v := y_26) (lv' := [(2, .int y_26), (1, .int t_25), (0, .ref (ad 0))]) hx hb dX7_isEnded_30 hl (k := 2) rfl (by rw [ey_26]; rfl) (by decide) rfl (fun ls hl => ?_)
          refine lv_goto (tgt := 4) hx hb dX7_isEnded_33 (by decide) ?_
          exact ih _ _ _ _ _ zt_25 (by rw [ey_26, inc_I (N := 4) (bnd_lt (nle_I hc_17) (by omega)) (by decide)]; omega) (by rw [ey_26]; exact mu_I hμ (bnd_lt (nle_I hc_17) (by omega)) (by decide)) hr_16 hP hS (lv_sub hl [2, 1, 0] rfl)
        refine lv_if_eq (tgt := 28) hx hb dX7_isEnded_13 (by decide) (fun hc_18 => ?_) (fun hc_18 => ?_)
        · have hr_19 := ite_t hr_19 hc_18
          refine lv_iconst (v := 0) hx hb dX7_isEnded_28 (by decide) ?_
          cases hr_19
          exact j29 _ _ _ (Or.inl rfl) hP hS (lv_sub hl [0, 2] rfl)
        · have hr_19 := ite_f hr_19 hc_18
          refine lv_aload_n hx hb dX7_isEnded_16 rfl (lv_at hl 0 rfl) ?_
          refine lv_iload_n hx hb dX7_isEnded_17 rfl (lv_at hl 2 rfl) ?_
          refine call_i [.int v_15] [] hx hb hml hG hown hK (c_X7_isIn had M v_15 hT0.1 (by have q0 : v_15.toInt < (M 0 8).toInt := nle_I hc_17; omega)) gw_18_10 gm_X7_isIn gd_X7_isIn rfl rfl ⟨Nat.le_of_ble_eq_true rfl, Nat.le_of_ble_eq_true rfl⟩ ⟨Nat.le_refl _, Nat.le_refl _⟩ (rX7 hK hP) hP (fun _ h => h) hS rfl hl.1 rfl (Nat.le_of_ble_eq_true rfl) dX7_isEnded_18 (fun r_20 u_22 H locs hF_21 hP hS => ?_)
          obtain ⟨hz_23, hF_21, hu⟩ := hF_21; rw [hu] at hP; subst hF_21
          refine lv_if_eq (tgt := 28) hx hb dX7_isEnded_21 (by decide) (fun hc_24 => ?_) (fun hc_24 => ?_)
          · have hr_19 := ite_t hr_19 hc_24
            refine lv_iconst (v := 0) hx hb dX7_isEnded_28 (by decide) ?_
            cases hr_19
            exact j29 _ _ _ (Or.inl rfl) hP hS (lv_sub hl [0, 2] rfl)
          · have hr_19 := ite_f hr_19 hc_24
            refine lv_iconst (v := 1) hx hb dX7_isEnded_24 (by decide) ?_
            refine lv_goto (tgt := 29) hx hb dX7_isEnded_25 (by decide) ?_
            cases hr_19
            exact j29 _ _ _ (Or.inr rfl) hP hS (lv_sub hl [0, 2] rfl)
  exact lp4 _ _ _ _ _ _ (Or.inr rfl) (by decide) (by decide) hr_16 hP hS (lv_sub hl [2, 1, 0] rfl)
def rm_X7_raceToEnd : Room := { frames := 5, cells := 0, slots := 0, locals := 108 }
theorem gm_X7_raceToEnd : Cond.instanceMethod yX7_raceToEnd ∈ wsL_law ∧ Cond.selects RX7 yX7_raceToEnd yX7_raceToEnd ∈ wsL_law ∧ Cond.initialized RX7 ∈ wsL_law ∧ Cond.code yX7_raceToEnd cX7_raceToEnd 1 none ∈ wsL_law := ⟨gw_29_22, gw_29_23, gw_1_5, gw_30_0⟩
theorem gd_X7_raceToEnd : yX7_raceToEnd.cls = RX7 ∧ yX7_raceToEnd.cls ≠ "java/lang/invoke/MethodHandle" ∧ yX7_raceToEnd.cls ≠ "java/lang/invoke/VarHandle" ∧ (parseMethodDescriptor yX7_raceToEnd.desc).map (fun d => d.parameters.length) = some 0 := by decide +kernel
set_option maxRecDepth 100000 in
set_option maxHeartbeats 0 in
theorem c_X7_raceToEnd {l : Launch} {D : va_G} {k : Nat → ClassId} {ad : Nat → Nat} (had : InjN 31 ad) (M : Mem) (hI : MI M) : Met l yX7_raceToEnd (Cond.code yX7_raceToEnd cX7_raceToEnd 1 none :: wsL_law) rm_X7_raceToEnd (va_Pc [.ref (ad 0)] (GW 31 ad D k (cM ad k M))) (va_Qv (fun u => (f_X7_raceToEnd M = u ∧ TI M u)) (fun u t => GW 31 ad D k (cM ad k u) t) (AW 31 ad)) 0 0 (AW 31 ad) := by
  refine met_v (g := cM ad k) (M := M) (plainFor_of_name (by decide)) (Nat.le_of_ble_eq_true rfl) ?_
  intro p e s m args below meth c Q ls hx hb hml hG hown hK hret hP hS hl
  have hl : lv_has ls 1 [(0, .ref (ad 0))] := hl
  obtain ⟨V, hV⟩ : ∃ V, f_X7_raceToEnd M = V := ⟨_, rfl⟩
  have he := hV
  unfold f_X7_raceToEnd at he
  have hT0 : TI M M := TI_rf hI
  have qb_M := hI.1
  have qs_M := hI.2.1
  have qz_M := hI.2.2.1
  refine lv_aload_n hx hb dX7_raceToEnd_0 rfl (lv_at hl 0 rfl) ?_
  refine call_v [] [] hx hb hml hG hown hK (c_X7_layWinds had M hT0.1) gw_22_19 gm_X7_layWinds gd_X7_layWinds rfl rfl ⟨Nat.le_of_ble_eq_true rfl, Nat.le_of_ble_eq_true rfl⟩ ⟨Nat.le_refl _, Nat.le_refl _⟩ (rX7 hK hP) hP (fun _ h => h) hS rfl hl.1 rfl (Nat.le_of_ble_eq_true rfl) dX7_raceToEnd_1 (fun M_3 H locs hF_2 hP hS => ?_)
  obtain ⟨hF_2, hti_4⟩ := hF_2
  have he := bnd_at he hF_2.symm
  have hTM_3 : TI M M_3 := TI_tr hT0 hti_4
  have qb_M_3 := hTM_3.1.1
  have qs_M_3 := hTM_3.1.2.1
  have qz_M_3 := hTM_3.1.2.2.1
  obtain ⟨M_16, hr_6, he⟩ := bnd_ex he
  have j18 : ∀ (H : Heap) (locs : List Loc) (ls : Array Slot), TI M M_16 → va_P D vwCl (wld 31 ad (cM ad k M_16)) H → va_S (AW 31 ad) s.heap H locs → lv_has ls 1 [] → W p l e rm_X7_raceToEnd s m args below meth c H locs 0 0 Q (F0 m 18 ls []) := by
    intro H locs ls hTM_16 hP hS hl
    have qb_M_16 := hTM_16.1.1
    have qs_M_16 := hTM_16.1.2.1
    have qz_M_16 := hTM_16.1.2.2.1
    exact hret _ _ _ _ _ ⟨(hV.trans he.symm), hTM_16⟩ hP hS dX7_raceToEnd_18
  have lp4 : ∀ (nn : Nat) (H : Heap) (locs : List Loc) (ls : Array Slot) (M_5 : Mem), (TI M M_5) → (400 - (M_5 0 7).toInt).toNat < nn → lp_X7_raceToEnd_4 nn M_5 = M_16 → va_P D vwCl (wld 31 ad (cM ad k M_5)) H → va_S (AW 31 ad) s.heap H locs → lv_has ls 1 [(0, .ref (ad 0))] → W p l e rm_X7_raceToEnd s m args below meth c H locs 0 0 Q (F0 m 4 ls []) := by
    intro nn
    induction nn with
    | zero =>
      intro H locs ls M_5 hTM_5 hμ
      exact absurd hμ (Nat.not_lt_zero _)
    | succ nn ih =>
      intro H locs ls M_5 hTM_5 hμ hr_6 hP hS hl
      rw [lp_X7_raceToEnd_4] at hr_6
      have qb_M_5 := hTM_5.1.1
      have qs_M_5 := hTM_5.1.2.1
      have qz_M_5 := hTM_5.1.2.2.1
      refine lv_aload_n hx hb dX7_raceToEnd_4 rfl (lv_at hl 0 rfl) ?_
      refine call_i [] [] hx hb hml hG hown hK (c_X7_isEnded had M_5 hTM_5.1) gw_22_15 gm_X7_isEnded gd_X7_isEnded rfl rfl ⟨Nat.le_of_ble_eq_true rfl, Nat.le_of_ble_eq_true rfl⟩ ⟨Nat.le_refl _, Nat.le_refl _⟩ (rX7 hK hP) hP (fun _ h => h) hS rfl hl.1 rfl (Nat.le_of_ble_eq_true rfl) dX7_raceToEnd_5 (fun r_7 u_9 H locs hF_8 hP hS => ?_)
      obtain ⟨hz_10, hF_8, hu⟩ := hF_8; rw [hu] at hP; subst hF_8
      refine lv_if_ne (tgt := 18) hx hb dX7_raceToEnd_8 (by decide) (fun hc_11 => ?_) (fun hc_11 => ?_)
      · have hr_6 := ite_t hr_6 hc_11
        cases hr_6
        exact j18 _ _ _ hTM_5 hP hS (lv_sub hl [] rfl)
      · have hr_6 := ite_f hr_6 (fun q => q hc_11)
        refine lv_aload_n hx hb dX7_raceToEnd_11 rfl (lv_at hl 0 rfl) ?_
        refine call_v [] [] hx hb hml hG hown hK (c_X7_raceOn had M_5 hTM_5.1 (by have q0 : (f_X7_isEnded M_5).toInt = 0 := congrArg Int32.toInt hc_11; have r1 : (M_5 0 7).toInt < 400 := isEnded_lt hc_11; omega)) gw_23_0 gm_X7_raceOn gd_X7_raceOn rfl rfl ⟨Nat.le_of_ble_eq_true rfl, Nat.le_of_ble_eq_true rfl⟩ ⟨Nat.le_refl _, Nat.le_refl _⟩ (rX7 hK hP) hP (fun _ h => h) hS rfl hl.1 rfl (Nat.le_of_ble_eq_true rfl) dX7_raceToEnd_12 (fun M_14 H locs hF_13 hP hS => ?_)
        obtain ⟨hF_13, hti_15⟩ := hF_13
        have hr_6 := bnd_at hr_6 hF_13.symm
        have hTM_14 : TI M M_14 := TI_tr hTM_5 hti_15
        have qb_M_14 := hTM_14.1.1
        have qs_M_14 := hTM_14.1.2.1
        have qz_M_14 := hTM_14.1.2.2.1
        refine lv_goto (tgt := 4) hx hb dX7_raceToEnd_15 (by decide) ?_
        exact ih _ _ _ _ hTM_14 (by have qe := isEnded_lt hc_11; have qn := raceOn_sec hF_13; rw [qn, inc_I (N := 400) qe (by decide)]; omega) hr_6 hP hS (lv_sub hl [0] rfl)
  exact lp4 _ _ _ _ _ hTM_3 (by omega) hr_6 hP hS (lv_sub hl [0] rfl)
def rm_X7_worthOf : Room := { frames := 1, cells := 0, slots := 0, locals := 20 }
theorem gm_X7_worthOf : Cond.instanceMethod yX7_worthOf ∈ wsL_law ∧ Cond.selects RX7 yX7_worthOf yX7_worthOf ∈ wsL_law ∧ Cond.initialized RX7 ∈ wsL_law ∧ Cond.code yX7_worthOf cX7_worthOf 2 (some .int) ∈ wsL_law := ⟨gw_28_1, gw_28_2, gw_1_5, gw_28_3⟩
theorem gd_X7_worthOf : yX7_worthOf.cls = RX7 ∧ yX7_worthOf.cls ≠ "java/lang/invoke/MethodHandle" ∧ yX7_worthOf.cls ≠ "java/lang/invoke/VarHandle" ∧ (parseMethodDescriptor yX7_worthOf.desc).map (fun d => d.parameters.length) = some 1 := by decide +kernel
set_option maxRecDepth 100000 in
set_option maxHeartbeats 0 in
theorem c_X7_worthOf {l : Launch} {D : va_G} {k : Nat → ClassId} {ad : Nat → Nat} (had : InjN 31 ad) (M : Mem) (a1 : Int32) (hI : MI M) (hbx : 0 ≤ a1.toInt ∧ a1.toInt < 4) : Met l yX7_worthOf (Cond.code yX7_worthOf cX7_worthOf 2 (some .int) :: wsL_law) rm_X7_worthOf (va_Pc [.ref (ad 0), .int a1] (GW 31 ad D k (cM ad k M))) (va_Qi (fun r u => f_X7_worthOf M a1 = r ∧ u = M) (fun u t => GW 31 ad D k (cM ad k u) t) (AW 31 ad)) 0 0 (AW 31 ad) := by
  refine met_i (g := cM ad k) (M := M) (plainFor_of_name (by decide)) (Nat.le_of_ble_eq_true rfl) ?_
  intro p e s m args below meth c Q ls hx hb hml hG hown hK hret hP hS hl
  have hl : lv_has ls 2 [(0, .ref (ad 0)), (1, .int a1)] := hl
  obtain ⟨V, hV⟩ : ∃ V, f_X7_worthOf M a1 = V := ⟨_, rfl⟩
  have he := hV
  unfold f_X7_worthOf at he
  have hT0 : TI M M := TI_rf hI
  have qb_M := hI.1
  have qs_M := hI.2.1
  have qz_M := hI.2.2.1
  refine lv_aload_n hx hb dX7_worthOf_0 rfl (lv_at hl 0 rfl) ?_
  refine gX7_14 hx hb hG hown hK hP gw_4_17 dX7_worthOf_1 ?_
  refine lv_iload_n hx hb dX7_worthOf_4 rfl (lv_at hl 1 rfl) ?_
  refine al_M7 hx hb hK hP (vin_I (by omega) (by omega)) dX7_worthOf_5 ?_
  refine lv_aload_n hx hb dX7_worthOf_6 rfl (lv_at hl 0 rfl) ?_
  refine gX7_13 hx hb hG hown hK hP gw_4_16 dX7_worthOf_7 ?_
  refine lv_iload_n hx hb dX7_worthOf_10 rfl (lv_at hl 1 rfl) ?_
  refine al_M6 hx hb hK hP (vin_I (by omega) (by omega)) dX7_worthOf_11 ?_
  refine callS_i [.int (M 6 a1.toNatClampNeg)] [.int (M 7 a1.toNatClampNeg)] hx hb hml hG hown hK (c_X7_plainly had (M := M)  (M 6 a1.toNatClampNeg)) gw_23_20 gm_X7_plainly gd_X7_plainly rfl rfl ⟨Nat.le_of_ble_eq_true rfl, Nat.le_of_ble_eq_true rfl⟩ ⟨Nat.le_refl _, Nat.le_refl _⟩ hP (fun _ h => h) hS rfl hl.1 rfl (Nat.le_of_ble_eq_true rfl) dX7_worthOf_12 (fun r_1 u_3 H locs hF_2 hP hS => ?_)
  obtain ⟨hF_2, hu⟩ := hF_2; rw [hu] at hP; subst hF_2
  refine lv_iconst (v := 2) hx hb dX7_worthOf_15 (by decide) ?_
  refine lv_idiv hx hb dX7_worthOf_16 (by decide) ?_
  refine lv_isub hx hb dX7_worthOf_17 ?_
  exact hret _ _ _ _ _ _ ⟨hV.trans he.symm, rfl⟩ hP hS dX7_worthOf_18
def rm_X7_isAhead : Room := { frames := 2, cells := 0, slots := 0, locals := 41 }
theorem gm_X7_isAhead : Cond.instanceMethod yX7_isAhead ∈ wsL_law ∧ Cond.selects RX7 yX7_isAhead yX7_isAhead ∈ wsL_law ∧ Cond.initialized RX7 ∈ wsL_law ∧ Cond.code yX7_isAhead cX7_isAhead 3 (some .boolean) ∈ wsL_law := ⟨gw_27_21, gw_27_22, gw_1_5, gw_27_23⟩
theorem gd_X7_isAhead : yX7_isAhead.cls = RX7 ∧ yX7_isAhead.cls ≠ "java/lang/invoke/MethodHandle" ∧ yX7_isAhead.cls ≠ "java/lang/invoke/VarHandle" ∧ (parseMethodDescriptor yX7_isAhead.desc).map (fun d => d.parameters.length) = some 2 := by decide +kernel
set_option maxRecDepth 100000 in
set_option maxHeartbeats 0 in
theorem c_X7_isAhead {l : Launch} {D : va_G} {k : Nat → ClassId} {ad : Nat → Nat} (had : InjN 31 ad) (M : Mem) (a1 : Int32) (a2 : Int32) (hI : MI M) (hbx : 0 ≤ a1.toInt ∧ a1.toInt < 4) (hb2 : 0 ≤ a2.toInt ∧ a2.toInt < 4) : Met l yX7_isAhead (Cond.code yX7_isAhead cX7_isAhead 3 (some .boolean) :: wsL_law) rm_X7_isAhead (va_Pc [.ref (ad 0), .int a1, .int a2] (GW 31 ad D k (cM ad k M))) (va_Qi (fun r u => (r = 0 ∨ r = 1) ∧ f_X7_isAhead M a1 a2 = r ∧ u = M) (fun u t => GW 31 ad D k (cM ad k u) t) (AW 31 ad)) 0 0 (AW 31 ad) := by
  refine met_z (g := cM ad k) (M := M) (plainFor_of_name (by decide)) (Nat.le_of_ble_eq_true rfl) ?_
  intro p e s m args below meth c Q ls hx hb hml hG hown hK hret hP hS hl
  have hl : lv_has ls 3 [(0, .ref (ad 0)), (1, .int a1), (2, .int a2)] := hl
  obtain ⟨V, hV⟩ : ∃ V, f_X7_isAhead M a1 a2 = V := ⟨_, rfl⟩
  have he := hV
  unfold f_X7_isAhead at he
  have hT0 : TI M M := TI_rf hI
  have qb_M := hI.1
  have qs_M := hI.2.1
  have qz_M := hI.2.2.1
  refine lv_aload_n hx hb dX7_isAhead_0 rfl (lv_at hl 0 rfl) ?_
  refine lv_iload_n hx hb dX7_isAhead_1 rfl (lv_at hl 1 rfl) ?_
  refine call_i [.int a1] [] hx hb hml hG hown hK (c_X7_isIn had M a1 hT0.1 (by omega)) gw_18_10 gm_X7_isIn gd_X7_isIn rfl rfl ⟨Nat.le_of_ble_eq_true rfl, Nat.le_of_ble_eq_true rfl⟩ ⟨Nat.le_refl _, Nat.le_refl _⟩ (rX7 hK hP) hP (fun _ h => h) hS rfl hl.1 rfl (Nat.le_of_ble_eq_true rfl) dX7_isAhead_2 (fun r_1 u_3 H locs hF_2 hP hS => ?_)
  obtain ⟨hz_4, hF_2, hu⟩ := hF_2; rw [hu] at hP; subst hF_2
  refine lv_aload_n hx hb dX7_isAhead_5 rfl (lv_at hl 0 rfl) ?_
  refine lv_iload_n hx hb dX7_isAhead_6 rfl (lv_at hl 2 rfl) ?_
  refine call_i [.int a2] [.int (f_X7_isIn M a1)] hx hb hml hG hown hK (c_X7_isIn had M a2 hT0.1 (by omega)) gw_18_10 gm_X7_isIn gd_X7_isIn rfl rfl ⟨Nat.le_of_ble_eq_true rfl, Nat.le_of_ble_eq_true rfl⟩ ⟨Nat.le_refl _, Nat.le_refl _⟩ (rX7 hK hP) hP (fun _ h => h) hS rfl hl.1 rfl (Nat.le_of_ble_eq_true rfl) dX7_isAhead_7 (fun r_5 u_7 H locs hF_6 hP hS => ?_)
  obtain ⟨hz_8, hF_6, hu⟩ := hF_6; rw [hu] at hP; subst hF_6
  refine lv_icmp_ne (tgt := 36) hx hb dX7_isAhead_10 (by decide) (fun hc_9 => ?_) (fun hc_9 => ?_)
  · have he := ite_t he hc_9
    refine lv_aload_n hx hb dX7_isAhead_36 rfl (lv_at hl 0 rfl) ?_
    refine lv_iload_n hx hb dX7_isAhead_37 rfl (lv_at hl 1 rfl) ?_
    refine call_i [.int a1] [] hx hb hml hG hown hK (c_X7_isIn had M a1 hT0.1 (by have q0 : (f_X7_isIn M a1).toInt ≠ (f_X7_isIn M a2).toInt := ne_I hc_9; omega)) gw_18_10 gm_X7_isIn gd_X7_isIn rfl rfl ⟨Nat.le_of_ble_eq_true rfl, Nat.le_of_ble_eq_true rfl⟩ ⟨Nat.le_refl _, Nat.le_refl _⟩ (rX7 hK hP) hP (fun _ h => h) hS rfl hl.1 rfl (Nat.le_of_ble_eq_true rfl) dX7_isAhead_38 (fun r_10 u_12 H locs hF_11 hP hS => ?_)
    obtain ⟨hz_13, hF_11, hu⟩ := hF_11; rw [hu] at hP; subst hF_11
    obtain ⟨t_22, hr_15, he⟩ := bnd_ex he
    have j72 : ∀ (H : Heap) (locs : List Loc) (ls : Array Slot), (t_22 = 0 ∨ t_22 = 1) → va_P D vwCl (wld 31 ad (cM ad k M)) H → va_S (AW 31 ad) s.heap H locs → lv_has ls 3 [] → W p l e rm_X7_isAhead s m args below meth c H locs 0 0 Q (F0 m 72 ls [.int t_22]) := by
      intro H locs ls zt_22 hP hS hl
      exact hret _ _ _ _ _ _ ⟨zt_22, (hV.trans he.symm), rfl⟩ (nz01 zt_22) hP hS dX7_isAhead_72
    refine lv_if_eq (tgt := 71) hx hb dX7_isAhead_41 (by decide) (fun hc_14 => ?_) (fun hc_14 => ?_)
    · have hr_15 := ite_t hr_15 hc_14
      refine lv_iconst (v := 0) hx hb dX7_isAhead_71 (by decide) ?_
      cases hr_15
      exact j72 _ _ _ (Or.inl rfl) hP hS (lv_sub hl [] rfl)
    · have hr_15 := ite_f hr_15 hc_14
      refine lv_aload_n hx hb dX7_isAhead_44 rfl (lv_at hl 0 rfl) ?_
      refine lv_iload_n hx hb dX7_isAhead_45 rfl (lv_at hl 2 rfl) ?_
      refine call_i [.int a2] [] hx hb hml hG hown hK (c_X7_isIn had M a2 hT0.1 (by have q0 : (f_X7_isIn M a1).toInt ≠ (f_X7_isIn M a2).toInt := ne_I hc_9; have q1 : (f_X7_isIn M a1).toInt ≠ 0 := ne_I hc_14; omega)) gw_18_10 gm_X7_isIn gd_X7_isIn rfl rfl ⟨Nat.le_of_ble_eq_true rfl, Nat.le_of_ble_eq_true rfl⟩ ⟨Nat.le_refl _, Nat.le_refl _⟩ (rX7 hK hP) hP (fun _ h => h) hS rfl hl.1 rfl (Nat.le_of_ble_eq_true rfl) dX7_isAhead_46 (fun r_16 u_18 H locs hF_17 hP hS => ?_)
      obtain ⟨hz_19, hF_17, hu⟩ := hF_17; rw [hu] at hP; subst hF_17
      refine lv_if_eq (tgt := 67) hx hb dX7_isAhead_49 (by decide) (fun hc_20 => ?_) (fun hc_20 => ?_)
      · have hr_15 := ite_t hr_15 hc_20
        refine lv_iconst (v := 1) hx hb dX7_isAhead_67 (by decide) ?_
        refine lv_goto (tgt := 72) hx hb dX7_isAhead_68 (by decide) ?_
        cases hr_15
        exact j72 _ _ _ (Or.inr rfl) hP hS (lv_sub hl [] rfl)
      · have hr_15 := ite_f hr_15 hc_20
        refine lv_aload_n hx hb dX7_isAhead_52 rfl (lv_at hl 0 rfl) ?_
        refine gX7_17 hx hb hG hown hK hP gw_4_20 dX7_isAhead_53 ?_
        refine lv_iload_n hx hb dX7_isAhead_56 rfl (lv_at hl 1 rfl) ?_
        refine al_M10 hx hb hK hP (vin_I (by have q0 : (f_X7_isIn M a1).toInt ≠ (f_X7_isIn M a2).toInt := ne_I hc_9; have q1 : (f_X7_isIn M a1).toInt ≠ 0 := ne_I hc_14; omega) (by have q0 : (f_X7_isIn M a1).toInt ≠ (f_X7_isIn M a2).toInt := ne_I hc_9; have q1 : (f_X7_isIn M a1).toInt ≠ 0 := ne_I hc_14; omega)) dX7_isAhead_57 ?_
        refine lv_aload_n hx hb dX7_isAhead_58 rfl (lv_at hl 0 rfl) ?_
        refine gX7_17 hx hb hG hown hK hP gw_4_20 dX7_isAhead_59 ?_
        refine lv_iload_n hx hb dX7_isAhead_62 rfl (lv_at hl 2 rfl) ?_
        refine al_M10 hx hb hK hP (vin_I (by have q0 : (f_X7_isIn M a1).toInt ≠ (f_X7_isIn M a2).toInt := ne_I hc_9; have q1 : (f_X7_isIn M a2).toInt ≠ 0 := ne_I hc_20; omega) (by have q0 : (f_X7_isIn M a1).toInt ≠ (f_X7_isIn M a2).toInt := ne_I hc_9; have q1 : (f_X7_isIn M a2).toInt ≠ 0 := ne_I hc_20; omega)) dX7_isAhead_63 ?_
        refine lv_icmp_ge (tgt := 71) hx hb dX7_isAhead_64 (by decide) (fun hc_21 => ?_) (fun hc_21 => ?_)
        · have hr_15 := ite_t hr_15 hc_21
          refine lv_iconst (v := 0) hx hb dX7_isAhead_71 (by decide) ?_
          cases hr_15
          exact j72 _ _ _ (Or.inl rfl) hP hS (lv_sub hl [] rfl)
        · have hr_15 := ite_f hr_15 hc_21
          refine lv_iconst (v := 1) hx hb dX7_isAhead_67 (by decide) ?_
          refine lv_goto (tgt := 72) hx hb dX7_isAhead_68 (by decide) ?_
          cases hr_15
          exact j72 _ _ _ (Or.inr rfl) hP hS (lv_sub hl [] rfl)
  · have he := ite_f he (fun q => q hc_9)
    refine lv_aload_n hx hb dX7_isAhead_13 rfl (lv_at hl 0 rfl) ?_
    refine lv_iload_n hx hb dX7_isAhead_14 rfl (lv_at hl 1 rfl) ?_
    refine call_i [.int a1] [] hx hb hml hG hown hK (c_X7_isIn had M a1 hT0.1 (by have q0 : (f_X7_isIn M a1).toInt = (f_X7_isIn M a2).toInt := congrArg Int32.toInt hc_9; omega)) gw_18_10 gm_X7_isIn gd_X7_isIn rfl rfl ⟨Nat.le_of_ble_eq_true rfl, Nat.le_of_ble_eq_true rfl⟩ ⟨Nat.le_refl _, Nat.le_refl _⟩ (rX7 hK hP) hP (fun _ h => h) hS rfl hl.1 rfl (Nat.le_of_ble_eq_true rfl) dX7_isAhead_15 (fun r_23 u_25 H locs hF_24 hP hS => ?_)
    obtain ⟨hz_26, hF_24, hu⟩ := hF_24; rw [hu] at hP; subst hF_24
    refine lv_if_eq (tgt := 73) hx hb dX7_isAhead_18 (by decide) (fun hc_27 => ?_) (fun hc_27 => ?_)
    · have he := ite_t he hc_27
      refine lv_aload_n hx hb dX7_isAhead_73 rfl (lv_at hl 0 rfl) ?_
      refine lv_iload_n hx hb dX7_isAhead_74 rfl (lv_at hl 1 rfl) ?_
      refine call_i [.int a1] [] hx hb hml hG hown hK (c_X7_worthOf had M a1 hT0.1 (by have q0 : (f_X7_isIn M a1).toInt = (f_X7_isIn M a2).toInt := congrArg Int32.toInt hc_9; have q1 : (f_X7_isIn M a1).toInt = 0 := congrArg Int32.toInt hc_27; omega)) gw_28_0 gm_X7_worthOf gd_X7_worthOf rfl rfl ⟨Nat.le_of_ble_eq_true rfl, Nat.le_of_ble_eq_true rfl⟩ ⟨Nat.le_refl _, Nat.le_refl _⟩ (rX7 hK hP) hP (fun _ h => h) hS rfl hl.1 rfl (Nat.le_of_ble_eq_true rfl) dX7_isAhead_75 (fun r_28 u_30 H locs hF_29 hP hS => ?_)
      obtain ⟨hF_29, hu⟩ := hF_29; rw [hu] at hP; subst hF_29
      refine lv_aload_n hx hb dX7_isAhead_78 rfl (lv_at hl 0 rfl) ?_
      refine lv_iload_n hx hb dX7_isAhead_79 rfl (lv_at hl 2 rfl) ?_
      refine call_i [.int a2] [.int (f_X7_worthOf M a1)] hx hb hml hG hown hK (c_X7_worthOf had M a2 hT0.1 (by have q0 : (f_X7_isIn M a1).toInt = (f_X7_isIn M a2).toInt := congrArg Int32.toInt hc_9; have q1 : (f_X7_isIn M a1).toInt = 0 := congrArg Int32.toInt hc_27; omega)) gw_28_0 gm_X7_worthOf gd_X7_worthOf rfl rfl ⟨Nat.le_of_ble_eq_true rfl, Nat.le_of_ble_eq_true rfl⟩ ⟨Nat.le_refl _, Nat.le_refl _⟩ (rX7 hK hP) hP (fun _ h => h) hS rfl hl.1 rfl (Nat.le_of_ble_eq_true rfl) dX7_isAhead_80 (fun r_31 u_33 H locs hF_32 hP hS => ?_)
      obtain ⟨hF_32, hu⟩ := hF_32; rw [hu] at hP; subst hF_32
      obtain ⟨t_44, hr_35, he⟩ := bnd_ex he
      have j117 : ∀ (H : Heap) (locs : List Loc) (ls : Array Slot), (t_44 = 0 ∨ t_44 = 1) → va_P D vwCl (wld 31 ad (cM ad k M)) H → va_S (AW 31 ad) s.heap H locs → lv_has ls 3 [] → W p l e rm_X7_isAhead s m args below meth c H locs 0 0 Q (F0 m 117 ls [.int t_44]) := by
        intro H locs ls zt_44 hP hS hl
        exact hret _ _ _ _ _ _ ⟨zt_44, (hV.trans he.symm), rfl⟩ (nz01 zt_44) hP hS dX7_isAhead_117
      refine lv_icmp_eq (tgt := 107) hx hb dX7_isAhead_83 (by decide) (fun hc_34 => ?_) (fun hc_34 => ?_)
      · have hr_35 := ite_t hr_35 hc_34
        refine lv_iload_n hx hb dX7_isAhead_107 rfl (lv_at hl 1 rfl) ?_
        refine lv_iload_n hx hb dX7_isAhead_108 rfl (lv_at hl 2 rfl) ?_
        refine lv_icmp_ge (tgt := 116) hx hb dX7_isAhead_109 (by decide) (fun hc_36 => ?_) (fun hc_36 => ?_)
        · have hr_35 := ite_t hr_35 hc_36
          refine lv_iconst (v := 0) hx hb dX7_isAhead_116 (by decide) ?_
          cases hr_35
          exact j117 _ _ _ (Or.inl rfl) hP hS (lv_sub hl [] rfl)
        · have hr_35 := ite_f hr_35 hc_36
          refine lv_iconst (v := 1) hx hb dX7_isAhead_112 (by decide) ?_
          refine lv_goto (tgt := 117) hx hb dX7_isAhead_113 (by decide) ?_
          cases hr_35
          exact j117 _ _ _ (Or.inr rfl) hP hS (lv_sub hl [] rfl)
      · have hr_35 := ite_f hr_35 hc_34
        refine lv_aload_n hx hb dX7_isAhead_86 rfl (lv_at hl 0 rfl) ?_
        refine lv_iload_n hx hb dX7_isAhead_87 rfl (lv_at hl 1 rfl) ?_
        refine call_i [.int a1] [] hx hb hml hG hown hK (c_X7_worthOf had M a1 hT0.1 (by have q0 : (f_X7_isIn M a1).toInt = (f_X7_isIn M a2).toInt := congrArg Int32.toInt hc_9; have q1 : (f_X7_isIn M a1).toInt = 0 := congrArg Int32.toInt hc_27; have q2 : (f_X7_worthOf M a1).toInt ≠ (f_X7_worthOf M a2).toInt := ne_I hc_34; omega)) gw_28_0 gm_X7_worthOf gd_X7_worthOf rfl rfl ⟨Nat.le_of_ble_eq_true rfl, Nat.le_of_ble_eq_true rfl⟩ ⟨Nat.le_refl _, Nat.le_refl _⟩ (rX7 hK hP) hP (fun _ h => h) hS rfl hl.1 rfl (Nat.le_of_ble_eq_true rfl) dX7_isAhead_88 (fun r_37 u_39 H locs hF_38 hP hS => ?_)
        obtain ⟨hF_38, hu⟩ := hF_38; rw [hu] at hP; subst hF_38
        refine lv_aload_n hx hb dX7_isAhead_91 rfl (lv_at hl 0 rfl) ?_
        refine lv_iload_n hx hb dX7_isAhead_92 rfl (lv_at hl 2 rfl) ?_
        refine call_i [.int a2] [.int (f_X7_worthOf M a1)] hx hb hml hG hown hK (c_X7_worthOf had M a2 hT0.1 (by have q0 : (f_X7_isIn M a1).toInt = (f_X7_isIn M a2).toInt := congrArg Int32.toInt hc_9; have q1 : (f_X7_isIn M a1).toInt = 0 := congrArg Int32.toInt hc_27; have q2 : (f_X7_worthOf M a1).toInt ≠ (f_X7_worthOf M a2).toInt := ne_I hc_34; omega)) gw_28_0 gm_X7_worthOf gd_X7_worthOf rfl rfl ⟨Nat.le_of_ble_eq_true rfl, Nat.le_of_ble_eq_true rfl⟩ ⟨Nat.le_refl _, Nat.le_refl _⟩ (rX7 hK hP) hP (fun _ h => h) hS rfl hl.1 rfl (Nat.le_of_ble_eq_true rfl) dX7_isAhead_93 (fun r_40 u_42 H locs hF_41 hP hS => ?_)
        obtain ⟨hF_41, hu⟩ := hF_41; rw [hu] at hP; subst hF_41
        refine lv_icmp_le (tgt := 103) hx hb dX7_isAhead_96 (by decide) (fun hc_43 => ?_) (fun hc_43 => ?_)
        · have hr_35 := ite_t hr_35 hc_43
          refine lv_iconst (v := 0) hx hb dX7_isAhead_103 (by decide) ?_
          refine lv_goto (tgt := 117) hx hb dX7_isAhead_104 (by decide) ?_
          cases hr_35
          exact j117 _ _ _ (Or.inl rfl) hP hS (lv_sub hl [] rfl)
        · have hr_35 := ite_f hr_35 hc_43
          refine lv_iconst (v := 1) hx hb dX7_isAhead_99 (by decide) ?_
          refine lv_goto (tgt := 117) hx hb dX7_isAhead_100 (by decide) ?_
          cases hr_35
          exact j117 _ _ _ (Or.inr rfl) hP hS (lv_sub hl [] rfl)
    · have he := ite_f he hc_27
      refine lv_aload_n hx hb dX7_isAhead_21 rfl (lv_at hl 0 rfl) ?_
      refine gX7_17 hx hb hG hown hK hP gw_4_20 dX7_isAhead_22 ?_
      refine lv_iload_n hx hb dX7_isAhead_25 rfl (lv_at hl 1 rfl) ?_
      refine al_M10 hx hb hK hP (vin_I (by have q0 : (f_X7_isIn M a1).toInt = (f_X7_isIn M a2).toInt := congrArg Int32.toInt hc_9; have q1 : (f_X7_isIn M a1).toInt ≠ 0 := ne_I hc_27; omega) (by have q0 : (f_X7_isIn M a1).toInt = (f_X7_isIn M a2).toInt := congrArg Int32.toInt hc_9; have q1 : (f_X7_isIn M a1).toInt ≠ 0 := ne_I hc_27; omega)) dX7_isAhead_26 ?_
      refine lv_aload_n hx hb dX7_isAhead_27 rfl (lv_at hl 0 rfl) ?_
      refine gX7_17 hx hb hG hown hK hP gw_4_20 dX7_isAhead_28 ?_
      refine lv_iload_n hx hb dX7_isAhead_31 rfl (lv_at hl 2 rfl) ?_
      refine al_M10 hx hb hK hP (vin_I (by have q0 : (f_X7_isIn M a1).toInt = (f_X7_isIn M a2).toInt := congrArg Int32.toInt hc_9; omega) (by have q0 : (f_X7_isIn M a1).toInt = (f_X7_isIn M a2).toInt := congrArg Int32.toInt hc_9; omega)) dX7_isAhead_32 ?_
      refine lv_icmp_eq (tgt := 73) hx hb dX7_isAhead_33 (by decide) (fun hc_45 => ?_) (fun hc_45 => ?_)
      · have he := ite_t he hc_45
        refine lv_aload_n hx hb dX7_isAhead_73 rfl (lv_at hl 0 rfl) ?_
        refine lv_iload_n hx hb dX7_isAhead_74 rfl (lv_at hl 1 rfl) ?_
        refine call_i [.int a1] [] hx hb hml hG hown hK (c_X7_worthOf had M a1 hT0.1 (by have q0 : (f_X7_isIn M a1).toInt = (f_X7_isIn M a2).toInt := congrArg Int32.toInt hc_9; have q1 : (f_X7_isIn M a1).toInt ≠ 0 := ne_I hc_27; have q2 : (M 10 a1.toNatClampNeg).toInt = (M 10 a2.toNatClampNeg).toInt := congrArg Int32.toInt hc_45; omega)) gw_28_0 gm_X7_worthOf gd_X7_worthOf rfl rfl ⟨Nat.le_of_ble_eq_true rfl, Nat.le_of_ble_eq_true rfl⟩ ⟨Nat.le_refl _, Nat.le_refl _⟩ (rX7 hK hP) hP (fun _ h => h) hS rfl hl.1 rfl (Nat.le_of_ble_eq_true rfl) dX7_isAhead_75 (fun r_46 u_48 H locs hF_47 hP hS => ?_)
        obtain ⟨hF_47, hu⟩ := hF_47; rw [hu] at hP; subst hF_47
        refine lv_aload_n hx hb dX7_isAhead_78 rfl (lv_at hl 0 rfl) ?_
        refine lv_iload_n hx hb dX7_isAhead_79 rfl (lv_at hl 2 rfl) ?_
        refine call_i [.int a2] [.int (f_X7_worthOf M a1)] hx hb hml hG hown hK (c_X7_worthOf had M a2 hT0.1 (by have q0 : (f_X7_isIn M a1).toInt = (f_X7_isIn M a2).toInt := congrArg Int32.toInt hc_9; have q1 : (f_X7_isIn M a1).toInt ≠ 0 := ne_I hc_27; have q2 : (M 10 a1.toNatClampNeg).toInt = (M 10 a2.toNatClampNeg).toInt := congrArg Int32.toInt hc_45; omega)) gw_28_0 gm_X7_worthOf gd_X7_worthOf rfl rfl ⟨Nat.le_of_ble_eq_true rfl, Nat.le_of_ble_eq_true rfl⟩ ⟨Nat.le_refl _, Nat.le_refl _⟩ (rX7 hK hP) hP (fun _ h => h) hS rfl hl.1 rfl (Nat.le_of_ble_eq_true rfl) dX7_isAhead_80 (fun r_49 u_51 H locs hF_50 hP hS => ?_)
        obtain ⟨hF_50, hu⟩ := hF_50; rw [hu] at hP; subst hF_50
        obtain ⟨t_62, hr_53, he⟩ := bnd_ex he
        have j117 : ∀ (H : Heap) (locs : List Loc) (ls : Array Slot), (t_62 = 0 ∨ t_62 = 1) → va_P D vwCl (wld 31 ad (cM ad k M)) H → va_S (AW 31 ad) s.heap H locs → lv_has ls 3 [] → W p l e rm_X7_isAhead s m args below meth c H locs 0 0 Q (F0 m 117 ls [.int t_62]) := by
          intro H locs ls zt_62 hP hS hl
          exact hret _ _ _ _ _ _ ⟨zt_62, (hV.trans he.symm), rfl⟩ (nz01 zt_62) hP hS dX7_isAhead_117
        refine lv_icmp_eq (tgt := 107) hx hb dX7_isAhead_83 (by decide) (fun hc_52 => ?_) (fun hc_52 => ?_)
        · have hr_53 := ite_t hr_53 hc_52
          refine lv_iload_n hx hb dX7_isAhead_107 rfl (lv_at hl 1 rfl) ?_
          refine lv_iload_n hx hb dX7_isAhead_108 rfl (lv_at hl 2 rfl) ?_
          refine lv_icmp_ge (tgt := 116) hx hb dX7_isAhead_109 (by decide) (fun hc_54 => ?_) (fun hc_54 => ?_)
          · have hr_53 := ite_t hr_53 hc_54
            refine lv_iconst (v := 0) hx hb dX7_isAhead_116 (by decide) ?_
            cases hr_53
            exact j117 _ _ _ (Or.inl rfl) hP hS (lv_sub hl [] rfl)
          · have hr_53 := ite_f hr_53 hc_54
            refine lv_iconst (v := 1) hx hb dX7_isAhead_112 (by decide) ?_
            refine lv_goto (tgt := 117) hx hb dX7_isAhead_113 (by decide) ?_
            cases hr_53
            exact j117 _ _ _ (Or.inr rfl) hP hS (lv_sub hl [] rfl)
        · have hr_53 := ite_f hr_53 hc_52
          refine lv_aload_n hx hb dX7_isAhead_86 rfl (lv_at hl 0 rfl) ?_
          refine lv_iload_n hx hb dX7_isAhead_87 rfl (lv_at hl 1 rfl) ?_
          refine call_i [.int a1] [] hx hb hml hG hown hK (c_X7_worthOf had M a1 hT0.1 (by have q0 : (f_X7_isIn M a1).toInt = (f_X7_isIn M a2).toInt := congrArg Int32.toInt hc_9; have q1 : (f_X7_isIn M a1).toInt ≠ 0 := ne_I hc_27; have q2 : (M 10 a1.toNatClampNeg).toInt = (M 10 a2.toNatClampNeg).toInt := congrArg Int32.toInt hc_45; have q3 : (f_X7_worthOf M a1).toInt ≠ (f_X7_worthOf M a2).toInt := ne_I hc_52; omega)) gw_28_0 gm_X7_worthOf gd_X7_worthOf rfl rfl ⟨Nat.le_of_ble_eq_true rfl, Nat.le_of_ble_eq_true rfl⟩ ⟨Nat.le_refl _, Nat.le_refl _⟩ (rX7 hK hP) hP (fun _ h => h) hS rfl hl.1 rfl (Nat.le_of_ble_eq_true rfl) dX7_isAhead_88 (fun r_55 u_57 H locs hF_56 hP hS => ?_)
          obtain ⟨hF_56, hu⟩ := hF_56; rw [hu] at hP; subst hF_56
          refine lv_aload_n hx hb dX7_isAhead_91 rfl (lv_at hl 0 rfl) ?_
          refine lv_iload_n hx hb dX7_isAhead_92 rfl (lv_at hl 2 rfl) ?_
          refine call_i [.int a2] [.int (f_X7_worthOf M a1)] hx hb hml hG hown hK (c_X7_worthOf had M a2 hT0.1 (by have q0 : (f_X7_isIn M a1).toInt = (f_X7_isIn M a2).toInt := congrArg Int32.toInt hc_9; have q1 : (f_X7_isIn M a1).toInt ≠ 0 := ne_I hc_27; have q2 : (M 10 a1.toNatClampNeg).toInt = (M 10 a2.toNatClampNeg).toInt := congrArg Int32.toInt hc_45; have q3 : (f_X7_worthOf M a1).toInt ≠ (f_X7_worthOf M a2).toInt := ne_I hc_52; omega)) gw_28_0 gm_X7_worthOf gd_X7_worthOf rfl rfl ⟨Nat.le_of_ble_eq_true rfl, Nat.le_of_ble_eq_true rfl⟩ ⟨Nat.le_refl _, Nat.le_refl _⟩ (rX7 hK hP) hP (fun _ h => h) hS rfl hl.1 rfl (Nat.le_of_ble_eq_true rfl) dX7_isAhead_93 (fun r_58 u_60 H locs hF_59 hP hS => ?_)
          obtain ⟨hF_59, hu⟩ := hF_59; rw [hu] at hP; subst hF_59
          refine lv_icmp_le (tgt := 103) hx hb dX7_isAhead_96 (by decide) (fun hc_61 => ?_) (fun hc_61 => ?_)
          · have hr_53 := ite_t hr_53 hc_61
            refine lv_iconst (v := 0) hx hb dX7_isAhead_103 (by decide) ?_
            refine lv_goto (tgt := 117) hx hb dX7_isAhead_104 (by decide) ?_
            cases hr_53
            exact j117 _ _ _ (Or.inl rfl) hP hS (lv_sub hl [] rfl)
          · have hr_53 := ite_f hr_53 hc_61
            refine lv_iconst (v := 1) hx hb dX7_isAhead_99 (by decide) ?_
            refine lv_goto (tgt := 117) hx hb dX7_isAhead_100 (by decide) ?_
            cases hr_53
            exact j117 _ _ _ (Or.inr rfl) hP hS (lv_sub hl [] rfl)
      · have he := ite_f he hc_45
        refine lv_aload_n hx hb dX7_isAhead_36 rfl (lv_at hl 0 rfl) ?_
        refine lv_iload_n hx hb dX7_isAhead_37 rfl (lv_at hl 1 rfl) ?_
        refine call_i [.int a1] [] hx hb hml hG hown hK (c_X7_isIn had M a1 hT0.1 (by have q0 : (f_X7_isIn M a1).toInt = (f_X7_isIn M a2).toInt := congrArg Int32.toInt hc_9; have q1 : (f_X7_isIn M a1).toInt ≠ 0 := ne_I hc_27; have q2 : (M 10 a1.toNatClampNeg).toInt ≠ (M 10 a2.toNatClampNeg).toInt := ne_I hc_45; omega)) gw_18_10 gm_X7_isIn gd_X7_isIn rfl rfl ⟨Nat.le_of_ble_eq_true rfl, Nat.le_of_ble_eq_true rfl⟩ ⟨Nat.le_refl _, Nat.le_refl _⟩ (rX7 hK hP) hP (fun _ h => h) hS rfl hl.1 rfl (Nat.le_of_ble_eq_true rfl) dX7_isAhead_38 (fun r_63 u_65 H locs hF_64 hP hS => ?_)
        obtain ⟨hz_66, hF_64, hu⟩ := hF_64; rw [hu] at hP; subst hF_64
        obtain ⟨t_75, hr_68, he⟩ := bnd_ex he
        have j72 : ∀ (H : Heap) (locs : List Loc) (ls : Array Slot), (t_75 = 0 ∨ t_75 = 1) → va_P D vwCl (wld 31 ad (cM ad k M)) H → va_S (AW 31 ad) s.heap H locs → lv_has ls 3 [] → W p l e rm_X7_isAhead s m args below meth c H locs 0 0 Q (F0 m 72 ls [.int t_75]) := by
          intro H locs ls zt_75 hP hS hl
          exact hret _ _ _ _ _ _ ⟨zt_75, (hV.trans he.symm), rfl⟩ (nz01 zt_75) hP hS dX7_isAhead_72
        refine lv_if_eq (tgt := 71) hx hb dX7_isAhead_41 (by decide) (fun hc_67 => ?_) (fun hc_67 => ?_)
        · have hr_68 := ite_t hr_68 hc_67
          refine lv_iconst (v := 0) hx hb dX7_isAhead_71 (by decide) ?_
          cases hr_68
          exact j72 _ _ _ (Or.inl rfl) hP hS (lv_sub hl [] rfl)
        · have hr_68 := ite_f hr_68 hc_67
          refine lv_aload_n hx hb dX7_isAhead_44 rfl (lv_at hl 0 rfl) ?_
          refine lv_iload_n hx hb dX7_isAhead_45 rfl (lv_at hl 2 rfl) ?_
          refine call_i [.int a2] [] hx hb hml hG hown hK (c_X7_isIn had M a2 hT0.1 (by have q0 : (f_X7_isIn M a1).toInt = (f_X7_isIn M a2).toInt := congrArg Int32.toInt hc_9; have q1 : (f_X7_isIn M a1).toInt ≠ 0 := ne_I hc_27; have q2 : (M 10 a1.toNatClampNeg).toInt ≠ (M 10 a2.toNatClampNeg).toInt := ne_I hc_45; have q3 : (f_X7_isIn M a1).toInt ≠ 0 := ne_I hc_67; omega)) gw_18_10 gm_X7_isIn gd_X7_isIn rfl rfl ⟨Nat.le_of_ble_eq_true rfl, Nat.le_of_ble_eq_true rfl⟩ ⟨Nat.le_refl _, Nat.le_refl _⟩ (rX7 hK hP) hP (fun _ h => h) hS rfl hl.1 rfl (Nat.le_of_ble_eq_true rfl) dX7_isAhead_46 (fun r_69 u_71 H locs hF_70 hP hS => ?_)
          obtain ⟨hz_72, hF_70, hu⟩ := hF_70; rw [hu] at hP; subst hF_70
          refine lv_if_eq (tgt := 67) hx hb dX7_isAhead_49 (by decide) (fun hc_73 => ?_) (fun hc_73 => ?_)
          · have hr_68 := ite_t hr_68 hc_73
            refine lv_iconst (v := 1) hx hb dX7_isAhead_67 (by decide) ?_
            refine lv_goto (tgt := 72) hx hb dX7_isAhead_68 (by decide) ?_
            cases hr_68
            exact j72 _ _ _ (Or.inr rfl) hP hS (lv_sub hl [] rfl)
          · have hr_68 := ite_f hr_68 hc_73
            refine lv_aload_n hx hb dX7_isAhead_52 rfl (lv_at hl 0 rfl) ?_
            refine gX7_17 hx hb hG hown hK hP gw_4_20 dX7_isAhead_53 ?_
            refine lv_iload_n hx hb dX7_isAhead_56 rfl (lv_at hl 1 rfl) ?_
            refine al_M10 hx hb hK hP (vin_I (by have q0 : (f_X7_isIn M a1).toInt = (f_X7_isIn M a2).toInt := congrArg Int32.toInt hc_9; have q1 : (f_X7_isIn M a1).toInt ≠ 0 := ne_I hc_27; have q2 : (M 10 a1.toNatClampNeg).toInt ≠ (M 10 a2.toNatClampNeg).toInt := ne_I hc_45; have q3 : (f_X7_isIn M a1).toInt ≠ 0 := ne_I hc_67; omega) (by have q0 : (f_X7_isIn M a1).toInt = (f_X7_isIn M a2).toInt := congrArg Int32.toInt hc_9; have q1 : (f_X7_isIn M a1).toInt ≠ 0 := ne_I hc_27; have q2 : (M 10 a1.toNatClampNeg).toInt ≠ (M 10 a2.toNatClampNeg).toInt := ne_I hc_45; have q3 : (f_X7_isIn M a1).toInt ≠ 0 := ne_I hc_67; omega)) dX7_isAhead_57 ?_
            refine lv_aload_n hx hb dX7_isAhead_58 rfl (lv_at hl 0 rfl) ?_
            refine gX7_17 hx hb hG hown hK hP gw_4_20 dX7_isAhead_59 ?_
            refine lv_iload_n hx hb dX7_isAhead_62 rfl (lv_at hl 2 rfl) ?_
            refine al_M10 hx hb hK hP (vin_I (by have q0 : (f_X7_isIn M a1).toInt = (f_X7_isIn M a2).toInt := congrArg Int32.toInt hc_9; have q1 : (M 10 a1.toNatClampNeg).toInt ≠ (M 10 a2.toNatClampNeg).toInt := ne_I hc_45; have q2 : (f_X7_isIn M a2).toInt ≠ 0 := ne_I hc_73; omega) (by have q0 : (f_X7_isIn M a1).toInt = (f_X7_isIn M a2).toInt := congrArg Int32.toInt hc_9; have q1 : (M 10 a1.toNatClampNeg).toInt ≠ (M 10 a2.toNatClampNeg).toInt := ne_I hc_45; have q2 : (f_X7_isIn M a2).toInt ≠ 0 := ne_I hc_73; omega)) dX7_isAhead_63 ?_
            refine lv_icmp_ge (tgt := 71) hx hb dX7_isAhead_64 (by decide) (fun hc_74 => ?_) (fun hc_74 => ?_)
            · have hr_68 := ite_t hr_68 hc_74
              refine lv_iconst (v := 0) hx hb dX7_isAhead_71 (by decide) ?_
              cases hr_68
              exact j72 _ _ _ (Or.inl rfl) hP hS (lv_sub hl [] rfl)
            · have hr_68 := ite_f hr_68 hc_74
              refine lv_iconst (v := 1) hx hb dX7_isAhead_67 (by decide) ?_
              refine lv_goto (tgt := 72) hx hb dX7_isAhead_68 (by decide) ?_
              cases hr_68
              exact j72 _ _ _ (Or.inr rfl) hP hS (lv_sub hl [] rfl)
def rm_X7_placeOf : Room := { frames := 3, cells := 0, slots := 0, locals := 63 }
theorem gm_X7_placeOf : Cond.instanceMethod yX7_placeOf ∈ wsL_law ∧ Cond.selects RX7 yX7_placeOf yX7_placeOf ∈ wsL_law ∧ Cond.initialized RX7 ∈ wsL_law ∧ Cond.code yX7_placeOf cX7_placeOf 4 (some .int) ∈ wsL_law := ⟨gw_27_17, gw_27_18, gw_1_5, gw_27_19⟩
theorem gd_X7_placeOf : yX7_placeOf.cls = RX7 ∧ yX7_placeOf.cls ≠ "java/lang/invoke/MethodHandle" ∧ yX7_placeOf.cls ≠ "java/lang/invoke/VarHandle" ∧ (parseMethodDescriptor yX7_placeOf.desc).map (fun d => d.parameters.length) = some 1 := by decide +kernel
set_option maxRecDepth 100000 in
set_option maxHeartbeats 0 in
theorem c_X7_placeOf {l : Launch} {D : va_G} {k : Nat → ClassId} {ad : Nat → Nat} (had : InjN 31 ad) (M : Mem) (a1 : Int32) (hI : MI M) (hbx : 0 ≤ a1.toInt ∧ a1.toInt < 4) : Met l yX7_placeOf (Cond.code yX7_placeOf cX7_placeOf 4 (some .int) :: wsL_law) rm_X7_placeOf (va_Pc [.ref (ad 0), .int a1] (GW 31 ad D k (cM ad k M))) (va_Qi (fun r u => f_X7_placeOf M a1 = r ∧ u = M) (fun u t => GW 31 ad D k (cM ad k u) t) (AW 31 ad)) 0 0 (AW 31 ad) := by
  refine met_i (g := cM ad k) (M := M) (plainFor_of_name (by decide)) (Nat.le_of_ble_eq_true rfl) ?_
  intro p e s m args below meth c Q ls hx hb hml hG hown hK hret hP hS hl
  have hl : lv_has ls 4 [(0, .ref (ad 0)), (1, .int a1)] := hl
  obtain ⟨V, hV⟩ : ∃ V, f_X7_placeOf M a1 = V := ⟨_, rfl⟩
  have he := hV
  unfold f_X7_placeOf at he
  have hT0 : TI M M := TI_rf hI
  have qb_M := hI.1
  have qs_M := hI.2.1
  have qz_M := hI.2.2.1
  refine lv_iconst (v := 1) hx hb dX7_placeOf_0 (by decide) ?_
  refine lv_istore_n (lv' := [(2, .int 1), (0, .ref (ad 0)), (1, .int a1)]) hx hb dX7_placeOf_1 rfl hl (by decide) rfl (fun ls hl => ?_)
  refine lv_iconst (v := 0) hx hb dX7_placeOf_2 (by decide) ?_
  refine lv_istore_n (lv' := [(3, .int 0), (2, .int 1), (0, .ref (ad 0)), (1, .int a1)]) hx hb dX7_placeOf_3 rfl hl (by decide) rfl (fun ls hl => ?_)
  obtain ⟨w_29, hr_17, he⟩ := bnd_ex he
  have j40 : ∀ (H : Heap) (locs : List Loc) (ls : Array Slot), va_P D vwCl (wld 31 ad (cM ad k M)) H → va_S (AW 31 ad) s.heap H locs → lv_has ls 4 [(2, .int w_29)] → W p l e rm_X7_placeOf s m args below meth c H locs 0 0 Q (F0 m 40 ls []) := by
    intro H locs ls hP hS hl
    refine lv_iload_n hx hb dX7_placeOf_40 rfl (lv_at hl 0 rfl) ?_
    exact hret _ _ _ _ _ _ ⟨hV.trans he.symm, rfl⟩ hP hS dX7_placeOf_41
  have lp4 : ∀ (nn : Nat) (H : Heap) (locs : List Loc) (ls : Array Slot) (v_15 : Int32) (v_16 : Int32), (0 ≤ v_16.toInt) → (4 - v_16.toInt).toNat < nn → lp_X7_placeOf_4 nn M a1 v_15 v_16 = w_29 → va_P D vwCl (wld 31 ad (cM ad k M)) H → va_S (AW 31 ad) s.heap H locs → lv_has ls 4 [(0, .ref (ad 0)), (1, .int a1), (2, .int v_15), (3, .int v_16)] → W p l e rm_X7_placeOf s m args below meth c H locs 0 0 Q (F0 m 4 ls []) := by
    intro nn
    induction nn with
    | zero =>
      intro H locs ls v_15 v_16 h0v_16 hμ
      exact absurd hμ (Nat.not_lt_zero _)
    | succ nn ih =>
      intro H locs ls v_15 v_16 h0v_16 hμ hr_17 hP hS hl
      rw [lp_X7_placeOf_4] at hr_17
      refine lv_iload_n hx hb dX7_placeOf_4 rfl (lv_at hl 3 rfl) ?_
      refine lv_aload_n hx hb dX7_placeOf_5 rfl (lv_at hl 0 rfl) ?_
      refine gX7_8 hx hb hG hown hK hP gw_7_13 dX7_placeOf_6 ?_
      refine lv_icmp_ge (tgt := 40) hx hb dX7_placeOf_9 (by decide) (fun hc_18 => ?_) (fun hc_18 => ?_)
      · have hr_17 := ite_t hr_17 hc_18
        cases hr_17
        exact j40 _ _ _ hP hS (lv_sub hl [2] rfl)
      · have hr_17 := ite_f hr_17 hc_18
        refine lv_iload_n hx hb dX7_placeOf_12 rfl (lv_at hl 2 rfl) ?_
        refine lv_iload_n hx hb dX7_placeOf_13 rfl (lv_at hl 3 rfl) ?_
        refine lv_iload_n hx hb dX7_placeOf_14 rfl (lv_at hl 1 rfl) ?_
        obtain ⟨t_26, hr_20, hr_17⟩ := bnd_ex hr_17
        have j32 : ∀ (H : Heap) (locs : List Loc) (ls : Array Slot), (t_26 = 0 ∨ t_26 = 1) → va_P D vwCl (wld 31 ad (cM ad k M)) H → va_S (AW 31 ad) s.heap H locs → lv_has ls 4 [(0, .ref (ad 0)), (1, .int a1), (3, .int v_16)] → W p l e rm_X7_placeOf s m args below meth c H locs 0 0 Q (F0 m 32 ls [.int t_26, .int v_15]) := by
          intro H locs ls zt_26 hP hS hl
          refine lv_iadd hx hb dX7_placeOf_32 ?_
          refine lv_topi (fun y_27 ey_27 => ?_)
          have hr_17 := bnd_at hr_17 ey_27
          refine lv_istore_n (lv' := [(2, .int y_27), (0, .ref (ad 0)), (1, .int a1), (3, .int v_16)]) hx hb dX7_placeOf_33 rfl hl (by decide) rfl (fun ls hl => ?_)
          obtain ⟨y_28, ey_28⟩ : ∃ y_28 : Int32, y_28 = v_16 + 1 := ⟨_, rfl⟩
          have hr_17 := bnd_at hr_17 ey_28
          refine lv_iinc (v := y_28) (lv' := [(3, .int y_28), (2, .int y_27), (0, .ref (ad 0)), (1, .int a1)]) hx hb dX7_placeOf_34 hl (k := 3) rfl (by rw [ey_28]; rfl) (by decide) rfl (fun ls hl => ?_)
          refine lv_goto (tgt := 4) hx hb dX7_placeOf_37 (by decide) ?_
          exact ih _ _ _ _ _ (by rw [ey_28, inc_I (N := 4) (bnd_lt (nle_I hc_18) (by omega)) (by decide)]; omega) (by rw [ey_28]; exact mu_I hμ (bnd_lt (nle_I hc_18) (by omega)) (by decide)) hr_17 hP hS (lv_sub hl [2, 3, 1, 0] rfl)
        refine lv_icmp_eq (tgt := 31) hx hb dX7_placeOf_15 (by decide) (fun hc_19 => ?_) (fun hc_19 => ?_)
        · have hr_20 := ite_t hr_20 hc_19
          refine lv_iconst (v := 0) hx hb dX7_placeOf_31 (by decide) ?_
          cases hr_20
          exact j32 _ _ _ (Or.inl rfl) hP hS (lv_sub hl [0, 1, 3] rfl)
        · have hr_20 := ite_f hr_20 hc_19
          refine lv_aload_n hx hb dX7_placeOf_18 rfl (lv_at hl 0 rfl) ?_
          refine lv_iload_n hx hb dX7_placeOf_19 rfl (lv_at hl 3 rfl) ?_
          refine lv_iload_n hx hb dX7_placeOf_20 rfl (lv_at hl 1 rfl) ?_
          refine call_i [.int v_16, .int a1] [.int v_15] hx hb hml hG hown hK (c_X7_isAhead had M v_16 a1 hT0.1 (by have q0 : v_16.toInt < (M 0 8).toInt := nle_I hc_18; have q1 : v_16.toInt ≠ a1.toInt := ne_I hc_19; omega) (by have q0 : v_16.toInt < (M 0 8).toInt := nle_I hc_18; have q1 : v_16.toInt ≠ a1.toInt := ne_I hc_19; omega)) gw_27_20 gm_X7_isAhead gd_X7_isAhead rfl rfl ⟨Nat.le_of_ble_eq_true rfl, Nat.le_of_ble_eq_true rfl⟩ ⟨Nat.le_refl _, Nat.le_refl _⟩ (rX7 hK hP) hP (fun _ h => h) hS rfl hl.1 rfl (Nat.le_of_ble_eq_true rfl) dX7_placeOf_21 (fun r_21 u_23 H locs hF_22 hP hS => ?_)
          obtain ⟨hz_24, hF_22, hu⟩ := hF_22; rw [hu] at hP; subst hF_22
          refine lv_if_eq (tgt := 31) hx hb dX7_placeOf_24 (by decide) (fun hc_25 => ?_) (fun hc_25 => ?_)
          · have hr_20 := ite_t hr_20 hc_25
            refine lv_iconst (v := 0) hx hb dX7_placeOf_31 (by decide) ?_
            cases hr_20
            exact j32 _ _ _ (Or.inl rfl) hP hS (lv_sub hl [0, 1, 3] rfl)
          · have hr_20 := ite_f hr_20 hc_25
            refine lv_iconst (v := 1) hx hb dX7_placeOf_27 (by decide) ?_
            refine lv_goto (tgt := 32) hx hb dX7_placeOf_28 (by decide) ?_
            cases hr_20
            exact j32 _ _ _ (Or.inr rfl) hP hS (lv_sub hl [0, 1, 3] rfl)
  exact lp4 _ _ _ _ _ _ (by decide) (by decide) hr_17 hP hS (lv_sub hl [2, 3, 1, 0] rfl)
def rm_X7_carry : Room := { frames := 0, cells := 0, slots := 0, locals := 0 }
theorem gm_X7_carry : Cond.instanceMethod yX7_carry ∈ wsL_law ∧ Cond.selects RX7 yX7_carry yX7_carry ∈ wsL_law ∧ Cond.initialized RX7 ∈ wsL_law ∧ Cond.code yX7_carry cX7_carry 2 (some .int) ∈ wsL_law := ⟨gw_29_14, gw_29_15, gw_1_5, gw_29_16⟩
theorem gd_X7_carry : yX7_carry.cls = RX7 ∧ yX7_carry.cls ≠ "java/lang/invoke/MethodHandle" ∧ yX7_carry.cls ≠ "java/lang/invoke/VarHandle" ∧ (parseMethodDescriptor yX7_carry.desc).map (fun d => d.parameters.length) = some 1 := by decide +kernel
set_option maxRecDepth 100000 in
set_option maxHeartbeats 0 in
theorem c_X7_carry {l : Launch} {D : va_G} {k : Nat → ClassId} {ad : Nat → Nat} (had : InjN 31 ad) (M : Mem) (a1 : Int32) (hk : M 0 38 = 1 ∨ M 0 38 = 2) (hp : 0 ≤ (M 0 36).toInt ∧ (M 0 36).toInt < 150) : Met l yX7_carry (Cond.code yX7_carry cX7_carry 2 (some .int) :: wsL_law) rm_X7_carry (va_Pc [.ref (ad 0), .int a1] (GW 31 ad D k (cM ad k M))) (va_Qi (fun r u => f_X7_carry M a1 = (r, u)) (fun u t => GW 31 ad D k (cM ad k u) t) (AW 31 ad)) 0 0 (AW 31 ad) := by
  refine met_i (g := cM ad k) (M := M) (plainFor_of_name (by decide)) (Nat.le_of_ble_eq_true rfl) ?_
  intro p e s m args below meth c Q ls hx hb hml hG hown hK hret hP hS hl
  have hl : lv_has ls 2 [(0, .ref (ad 0)), (1, .int a1)] := hl
  obtain ⟨V, hV⟩ : ∃ V, f_X7_carry M a1 = V := ⟨_, rfl⟩
  have he := hV
  unfold f_X7_carry at he
  have hs0_36_M : M 0 36 = (M 0 36) := rfl
  have hs0_38_M : M 0 38 = (M 0 38) := rfl
  refine lv_aload_n hx hb dX7_carry_0 rfl (lv_at hl 0 rfl) ?_
  refine gX7_37 hx hb hG hown hK hP gw_29_11 dX7_carry_1 ?_
  obtain ⟨M_6, hr_2, he⟩ := bnd_ex he
  have j17 : ∀ (H : Heap) (locs : List Loc) (ls : Array Slot), M_6 0 36 = (M 0 36) → M_6 0 38 = (M 0 38) → va_P D vwCl (wld 31 ad (cM ad k M_6)) H → va_S (AW 31 ad) s.heap H locs → lv_has ls 2 [(0, .ref (ad 0))] → W p l e rm_X7_carry s m args below meth c H locs 0 0 Q (F0 m 17 ls []) := by
    intro H locs ls hs0_36_M_6 hs0_38_M_6 hP hS hl
    refine lv_aload_n hx hb dX7_carry_17 rfl (lv_at hl 0 rfl) ?_
    refine lv_dup hx hb dX7_carry_18 rfl ?_
    refine gX7_36 hx hb hG hown hK hP gw_29_12 dX7_carry_19 ?_
    refine lv_iconst (v := 1) hx hb dX7_carry_22 (by decide) ?_
    refine lv_iadd hx hb dX7_carry_23 ?_
    refine pX7_36 hx hb hG hown hK hP had AW_in hS gw_29_12 dX7_carry_24 (fun H locs hP hS => ?_)
    obtain ⟨M_7, eM_7⟩ : ∃ y : Mem, y = up2 M_6 0 36 ((M_6 0 36) + 1) := ⟨_, rfl⟩
    rw [← eM_7] at hP
    have he := bnd_at he eM_7
    have hs0_36_M_7 : M_7 0 36 = ((M_6 0 36) + 1) := by rw [eM_7]; exact up2_s _ _ _ _
    have hs0_38_M_7 : M_7 0 38 = (M 0 38) := by rw [eM_7, up2_n _ _ (by decide)] <;> exact hs0_38_M_6
    refine lv_aload_n hx hb dX7_carry_27 rfl (lv_at hl 0 rfl) ?_
    refine gX7_38 hx hb hG hown hK hP gw_29_10 dX7_carry_28 ?_
    refine br_k (M_7 0 38) (by rw [hs0_38_M_7]; exact hk) (fun hk_8 => ?_) (fun hk_8 => ?_)
    · have he := ite_t he hk_8
      rw [kvM_1 hk_8]
      refine lv_aload_n hx hb dX7_carry_31 rfl (lv_at hl 0 rfl) ?_
      refine gX7_36 hx hb hG hown hK hP gw_29_12 dX7_carry_32 ?_
      refine lv_iconst (v := 1) hx hb dX7_carry_35 (by decide) ?_
      refine lv_isub hx hb dX7_carry_36 ?_
      refine al_M20 hx hb hK hP (by rw [hs0_36_M_7, Int32.add_sub_cancel, hs0_36_M_6]; exact vin_I hp.1 hp.2) dX7_carry_37 ?_
      exact hret _ _ _ _ _ _ (hV.trans he.symm) hP hS dX7_carry_38
    · have he := ite_f he (fun q => by rw [hk_8] at q; exact absurd q (by decide))
      rw [kvM_2 hk_8]
      refine lv_aload_n hx hb dX7_carry_31 rfl (lv_at hl 0 rfl) ?_
      refine gX7_36 hx hb hG hown hK hP gw_29_12 dX7_carry_32 ?_
      refine lv_iconst (v := 1) hx hb dX7_carry_35 (by decide) ?_
      refine lv_isub hx hb dX7_carry_36 ?_
      refine al_M21 hx hb hK hP (by rw [hs0_36_M_7, Int32.add_sub_cancel, hs0_36_M_6]; exact vin_I hp.1 hp.2) dX7_carry_37 ?_
      exact hret _ _ _ _ _ _ (hV.trans he.symm) hP hS dX7_carry_38
  refine lv_if_eq (tgt := 17) hx hb dX7_carry_4 (by decide) (fun hc_1 => ?_) (fun hc_1 => ?_)
  · have hr_2 := ite_t hr_2 hc_1
    cases hr_2
    exact j17 _ _ _ hs0_36_M hs0_38_M hP hS (lv_sub hl [0] rfl)
  · have hr_2 := ite_f hr_2 hc_1
    refine lv_aload_n hx hb dX7_carry_7 rfl (lv_at hl 0 rfl) ?_
    refine gX7_38 hx hb hG hown hK hP gw_29_10 dX7_carry_8 ?_
    refine br_k (M 0 38) (by rw [hs0_38_M]; exact hk) (fun hk_3 => ?_) (fun hk_3 => ?_)
    · have hr_2 := ite_t hr_2 hk_3
      rw [kvM_1 hk_3]
      refine lv_aload_n hx hb dX7_carry_11 rfl (lv_at hl 0 rfl) ?_
      refine gX7_36 hx hb hG hown hK hP gw_29_12 dX7_carry_12 ?_
      refine lv_iload_n hx hb dX7_carry_15 rfl (lv_at hl 1 rfl) ?_
      refine as_M20 hx hb hK hP had AW_in hS (by rw [hs0_36_M]; exact vin_I hp.1 hp.2) dX7_carry_16 (fun H locs hP hS => ?_)
      obtain ⟨M_4, eM_4⟩ : ∃ y : Mem, y = up2 M 20 (M 0 36).toNatClampNeg a1 := ⟨_, rfl⟩
      rw [← eM_4] at hP
      have hr_2 := bnd_at hr_2 eM_4
      have hs0_36_M_4 : M_4 0 36 = (M 0 36) := by rw [eM_4, up2_o _ _ (by decide)] <;> exact hs0_36_M
      have hs0_38_M_4 : M_4 0 38 = (M 0 38) := by rw [eM_4, up2_o _ _ (by decide)] <;> exact hs0_38_M
      cases hr_2
      exact j17 _ _ _ hs0_36_M_4 hs0_38_M_4 hP hS (lv_sub hl [0] rfl)
    · have hr_2 := ite_f hr_2 (fun q => by rw [hk_3] at q; exact absurd q (by decide))
      rw [kvM_2 hk_3]
      refine lv_aload_n hx hb dX7_carry_11 rfl (lv_at hl 0 rfl) ?_
      refine gX7_36 hx hb hG hown hK hP gw_29_12 dX7_carry_12 ?_
      refine lv_iload_n hx hb dX7_carry_15 rfl (lv_at hl 1 rfl) ?_
      refine as_M21 hx hb hK hP had AW_in hS (by rw [hs0_36_M]; exact vin_I hp.1 hp.2) dX7_carry_16 (fun H locs hP hS => ?_)
      obtain ⟨M_5, eM_5⟩ : ∃ y : Mem, y = up2 M 21 (M 0 36).toNatClampNeg a1 := ⟨_, rfl⟩
      rw [← eM_5] at hP
      have hr_2 := bnd_at hr_2 eM_5
      have hs0_36_M_5 : M_5 0 36 = (M 0 36) := by rw [eM_5, up2_o _ _ (by decide)] <;> exact hs0_36_M
      have hs0_38_M_5 : M_5 0 38 = (M 0 38) := by rw [eM_5, up2_o _ _ (by decide)] <;> exact hs0_38_M
      cases hr_2
      exact j17 _ _ _ hs0_36_M_5 hs0_38_M_5 hP hS (lv_sub hl [0] rfl)
