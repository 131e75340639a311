-- @needs 12_dec 13_dec 14_dec 15_dec 31_hC 40_cC 52_cC
def rm_X6_skill : Room := { frames := 1, cells := 0, slots := 0, locals := 21 }
theorem gm_X6_skill : Cond.instanceMethod yX6_skill ∈ wsL_law ∧ Cond.selects RX6 yX6_skill yX6_skill ∈ wsL_law ∧ Cond.initialized RX6 ∈ wsL_law ∧ Cond.code yX6_skill cX6_skill 4 (some .int) ∈ wsL_law := ⟨gw_44_5, gw_44_6, gw_1_2, gw_44_7⟩
theorem gd_X6_skill : yX6_skill.cls = RX6 ∧ yX6_skill.cls ≠ "java/lang/invoke/MethodHandle" ∧ yX6_skill.cls ≠ "java/lang/invoke/VarHandle" ∧ (parseMethodDescriptor yX6_skill.desc).map (fun d => d.parameters.length) = some 1 := by decide +kernel
set_option maxRecDepth 100000 in
set_option maxHeartbeats 0 in
theorem c_X6_skill {l : Launch} {D : va_G} {k : Nat → ClassId} {ad : Nat → Nat} (had : InjN 74 ad) (M : Mem) (a1 : Int32) : Met l yX6_skill (Cond.code yX6_skill cX6_skill 4 (some .int) :: wsL_law) rm_X6_skill (va_Pc [.ref (ad 0), .int a1] (GW 74 ad D k (cC ad k M))) (va_Qi (fun r u => f_X6_skill M a1 = r ∧ u = M) (fun u t => GW 74 ad D k (cC ad k u) t) (AW 74 ad)) 0 0 (AW 74 ad) := by
  refine met_i (g := cC ad k) (M := M) (plainFor_of_name (by decide)) (Nat.le_of_ble_eq_true rfl) ?_
  intro p e s m args below meth c Q ls hx hb hml hG hown hK hret hP hS hl
  have hl : lv_has ls 4 [(0, .ref (ad 0)), (1, .int a1)] := hl
  obtain ⟨V, hV⟩ : ∃ V, f_X6_skill M a1 = V := ⟨_, rfl⟩
  have he := hV
  unfold f_X6_skill at he
  refine lv_aload_n hx hb dX6_skill_0 rfl (lv_at hl 0 rfl) ?_
  refine lv_iload_n hx hb dX6_skill_1 rfl (lv_at hl 1 rfl) ?_
  refine call_e [.int a1] [] hx hb hml hG hown hK (c_X6_shelfAt had M a1) gw_7_22 gm_X6_shelfAt gd_X6_shelfAt rfl rfl ⟨Nat.le_of_ble_eq_true rfl, Nat.le_of_ble_eq_true rfl⟩ ⟨Nat.le_refl _, Nat.le_refl _⟩ (rX6 hK hP rfl) hP (fun _ h => h) hS rfl hl.1 rfl (Nat.le_of_ble_eq_true rfl) dX6_skill_2 (fun r_1 u_3 H locs hF_2 hP hS => ?_)
  obtain ⟨hz_4, hF_2, hu⟩ := hF_2; rw [hu] at hP
  rcases r_1 with _ | b_5
  · have he := oel_n he hF_2
    refine lv_astore_nN (lv' := [(2, .null), (0, .ref (ad 0)), (1, .int a1)]) hx hb dX6_skill_5 rfl hl (by decide) rfl (fun ls hl => ?_)
    refine lv_aload_nN hx hb dX6_skill_6 rfl (lv_at hl 0 rfl) ?_
    refine lv_ifnonnullN hx hb dX6_skill_7 ?_
    refine lv_ldc (v := (-1000000001)) hx hb hown (hG _ gw_11_19) dX6_skill_10 ?_
    exact hret _ _ _ _ _ _ ⟨hV.trans he.symm, rfl⟩ hP hS dX6_skill_12
  · have he := oel_s he hF_2
    refine lv_astore_n (lv' := [(2, .ref (ad b_5)), (0, .ref (ad 0)), (1, .int a1)]) hx hb dX6_skill_5 rfl hl (by decide) rfl (fun ls hl => ?_)
    refine lv_aload_n hx hb dX6_skill_6 rfl (lv_at hl 0 rfl) ?_
    refine lv_ifnonnull (tgt := 13) hx hb dX6_skill_7 (by decide) ?_
    refine lv_aload_n hx hb dX6_skill_13 rfl (lv_at hl 0 rfl) ?_
    refine call_i [] [] hx hb hml hG hown hK (c_X5_sailorRefusal had M b_5 (hz_4 _ rfl)) gw_44_10 gm_X5_sailorRefusal gd_X5_sailorRefusal rfl rfl ⟨Nat.le_of_ble_eq_true rfl, Nat.le_of_ble_eq_true rfl⟩ ⟨Nat.le_refl _, Nat.le_refl _⟩ (rX5 hK hP (hz_4 _ rfl)) hP (fun _ h => h) hS rfl hl.1 rfl (Nat.le_of_ble_eq_true rfl) dX6_skill_14 (fun r_6 u_8 H locs hF_7 hP hS => ?_)
    obtain ⟨hF_7, hu⟩ := hF_7; rw [hu] at hP; subst hF_7
    refine lv_topi (fun y_9 ey_9 => ?_)
    have he := bnd_at he ey_9
    refine lv_istore_n (lv' := [(3, .int y_9), (2, .ref (ad b_5)), (0, .ref (ad 0)), (1, .int a1)]) hx hb dX6_skill_17 rfl hl (by decide) rfl (fun ls hl => ?_)
    refine lv_iload_n hx hb dX6_skill_18 rfl (lv_at hl 0 rfl) ?_
    obtain ⟨t_15, hr_11, he⟩ := bnd_ex he
    have j37 : ∀ (H : Heap) (locs : List Loc) (ls : Array Slot), va_P D vwCl (wld 74 ad (cC ad k M)) H → va_S (AW 74 ad) s.heap H locs → lv_has ls 4 [] → W p l e rm_X6_skill s m args below meth c H locs 0 0 Q (F0 m 37 ls [.int t_15]) := by
      intro H locs ls hP hS hl
      exact hret _ _ _ _ _ _ ⟨hV.trans he.symm, rfl⟩ hP hS dX6_skill_37
    refine lv_if_eq (tgt := 30) hx hb dX6_skill_19 (by decide) (fun hc_10 => ?_) (fun hc_10 => ?_)
    · have hr_11 := ite_t hr_11 hc_10
      refine lv_aload_n hx hb dX6_skill_30 rfl (lv_at hl 1 rfl) ?_
      refine gX5_1 hx hb hG hown hK hP (hz_4 _ rfl) gw_44_9 dX6_skill_31 ?_
      refine call_i [] [] hx hb hml hG hown hK (c_X4_skilled had M (b_5 + 8) (kR_slr2 (hz_4 _ rfl))) gw_44_14 gm_X4_skilled gd_X4_skilled rfl rfl ⟨Nat.le_of_ble_eq_true rfl, Nat.le_of_ble_eq_true rfl⟩ ⟨Nat.le_refl _, Nat.le_refl _⟩ (rX4 hK hP (kR_slr2 (hz_4 _ rfl))) hP (fun _ h => h) hS rfl hl.1 rfl (Nat.le_of_ble_eq_true rfl) dX6_skill_34 (fun r_12 u_14 H locs hF_13 hP hS => ?_)
      obtain ⟨hF_13, hu⟩ := hF_13; rw [hu] at hP; subst hF_13
      cases hr_11
      exact j37 _ _ _ hP hS (lv_sub hl [] rfl)
    · have hr_11 := ite_f hr_11 hc_10
      refine lv_ldcw (v := (-1000000000)) hx hb hown (hG _ gw_44_8) dX6_skill_22 ?_
      refine lv_iload_n hx hb dX6_skill_25 rfl (lv_at hl 0 rfl) ?_
      refine lv_iadd hx hb dX6_skill_26 ?_
      refine lv_goto (tgt := 37) hx hb dX6_skill_27 (by decide) ?_
      cases hr_11
      exact j37 _ _ _ hP hS (lv_sub hl [] rfl)
def rm_X3_reaches : Room := { frames := 0, cells := 0, slots := 0, locals := 0 }
theorem gm_X3_reaches : Cond.instanceMethod yX3_reaches ∈ wsL_law ∧ Cond.selects RX3 yX3_reaches yX3_reaches ∈ wsL_law ∧ Cond.initialized RX3 ∈ wsL_law ∧ Cond.code yX3_reaches cX3_reaches 3 (some .boolean) ∈ wsL_law := ⟨gw_6_4, gw_6_5, gw_1_19, gw_6_6⟩
theorem gd_X3_reaches : yX3_reaches.cls = RX3 ∧ yX3_reaches.cls ≠ "java/lang/invoke/MethodHandle" ∧ yX3_reaches.cls ≠ "java/lang/invoke/VarHandle" ∧ (parseMethodDescriptor yX3_reaches.desc).map (fun d => d.parameters.length) = some 1 := by decide +kernel
set_option maxRecDepth 100000 in
set_option maxHeartbeats 0 in
theorem c_X3_reaches {l : Launch} {D : va_G} {k : Nat → ClassId} {ad : Nat → Nat} (had : InjN 74 ad) (M : Mem) (o : Nat) (ho : kRace o) (a1 : Int32) : Met l yX3_reaches (Cond.code yX3_reaches cX3_reaches 3 (some .boolean) :: wsL_law) rm_X3_reaches (va_Pc [.ref (ad o), .int a1] (GW 74 ad D k (cC ad k M))) (va_Qi (fun r u => (r = 0 ∨ r = 1) ∧ f_X3_reaches M o a1 = r ∧ u = M) (fun u t => GW 74 ad D k (cC ad k u) t) (AW 74 ad)) 0 0 (AW 74 ad) := by
  refine met_z (g := cC ad k) (M := M) (plainFor_of_name (by decide)) (Nat.le_of_ble_eq_true rfl) ?_
  intro p e s m args below meth c Q ls hx hb hml hG hown hK hret hP hS hl
  have hl : lv_has ls 3 [(0, .ref (ad o)), (1, .int a1)] := hl
  obtain ⟨V, hV⟩ : ∃ V, f_X3_reaches M o a1 = V := ⟨_, rfl⟩
  have he := hV
  unfold f_X3_reaches at he
  refine lv_iconst (v := 0) hx hb dX3_reaches_0 (by decide) ?_
  refine lv_istore_n (lv' := [(2, .int 0), (0, .ref (ad o)), (1, .int a1)]) hx hb dX3_reaches_1 rfl hl (by decide) rfl (fun ls hl => ?_)
  have lp2 : ∀ (nn : Nat) (H : Heap) (locs : List Loc) (ls : Array Slot) (v_7 : Int32), (0 ≤ v_7.toInt) → (4 - v_7.toInt).toNat < nn → lp_X3_reaches_2 nn M o a1 v_7 = V → va_P D vwCl (wld 74 ad (cC ad k M)) H → va_S (AW 74 ad) s.heap H locs → lv_has ls 3 [(0, .ref (ad o)), (1, .int a1), (2, .int v_7)] → W p l e rm_X3_reaches s m args below meth c H locs 0 0 Q (F0 m 2 ls []) := by
    intro nn
    induction nn with
    | zero =>
      intro H locs ls v_7 h0v_7 hμ
      exact absurd hμ (Nat.not_lt_zero _)
    | succ nn ih =>
      intro H locs ls v_7 h0v_7 hμ he hP hS hl
      rw [lp_X3_reaches_2] at he
      refine lv_iload_n hx hb dX3_reaches_2 rfl (lv_at hl 2 rfl) ?_
      refine lv_aload_n hx hb dX3_reaches_3 rfl (lv_at hl 0 rfl) ?_
      refine gX3_1 hx hb hG hown hK hP ho gw_6_7 dX3_reaches_4 ?_
      refine lv_icmp_ge (tgt := 40) hx hb dX3_reaches_7 (by decide) (fun hc_8 => ?_) (fun hc_8 => ?_)
      · have he := ite_t he hc_8
        refine lv_iconst (v := 0) hx hb dX3_reaches_40 (by decide) ?_
        exact hret _ _ _ _ _ _ ⟨(Or.inl rfl), (hV.trans he.symm), rfl⟩ (nz01 (Or.inl rfl)) hP hS dX3_reaches_41
      · have he := ite_f he hc_8
        refine lv_iload_n hx hb dX3_reaches_10 rfl (lv_at hl 2 rfl) ?_
        refine lv_aload_n hx hb dX3_reaches_11 rfl (lv_at hl 0 rfl) ?_
        refine gX3_0 hx hb hG hown hK hP ho gw_3_9 dX3_reaches_12 ?_
        refine an_kBts hx hb hK hP (kR_bts ho) dX3_reaches_15 ?_
        refine lv_icmp_ge (tgt := 40) hx hb dX3_reaches_16 (by decide) (fun hc_9 => ?_) (fun hc_9 => ?_)
        · have he := ite_t he hc_9
          refine lv_iconst (v := 0) hx hb dX3_reaches_40 (by decide) ?_
          exact hret _ _ _ _ _ _ ⟨(Or.inl rfl), (hV.trans he.symm), rfl⟩ (nz01 (Or.inl rfl)) hP hS dX3_reaches_41
        · have he := ite_f he hc_9
          refine lv_aload_n hx hb dX3_reaches_19 rfl (lv_at hl 0 rfl) ?_
          refine gX3_0 hx hb hG hown hK hP ho gw_3_9 dX3_reaches_20 ?_
          refine lv_iload_n hx hb dX3_reaches_23 rfl (lv_at hl 2 rfl) ?_
          have hn_10 : vp_in v_7 4 := (vin_I (by have q0 : v_7.toInt < (M o 1).toInt := nle_I hc_8; have q1 : v_7.toInt < 4 := nle_I hc_9; omega) (by have q0 : v_7.toInt < (M o 1).toInt := nle_I hc_8; have q1 : v_7.toInt < 4 := nle_I hc_9; omega))
          refine al_kBts hx hb hK hP (kR_bts ho) hn_10 dX3_reaches_24 ?_
          refine gX1_4 hx hb hG hown hK hP (kR_boat (kR_bts ho) hn_10) gw_6_8 dX3_reaches_25 ?_
          refine lv_iload_n hx hb dX3_reaches_28 rfl (lv_at hl 1 rfl) ?_
          refine lv_icmp_lt (tgt := 34) hx hb dX3_reaches_29 (by decide) (fun hc_11 => ?_) (fun hc_11 => ?_)
          · have he := ite_t he hc_11
            obtain ⟨y_12, ey_12⟩ : ∃ y_12 : Int32, y_12 = v_7 + 1 := ⟨_, rfl⟩
            have he := bnd_at he ey_12
            refine lv_iinc (v := y_12) (lv' := [(2, .int y_12), (0, .ref (ad o)), (1, .int a1)]) hx hb dX3_reaches_34 hl (k := 2) rfl (by rw [ey_12]; rfl) (by decide) rfl (fun ls hl => ?_)
            refine lv_goto (tgt := 2) hx hb dX3_reaches_37 (by decide) ?_
            exact ih _ _ _ _ (by rw [ey_12, inc_I (N := 4) (nle_I hc_9) (by decide)]; omega) (by rw [ey_12]; exact mu_I hμ (nle_I hc_9) (by decide)) he hP hS (lv_sub hl [1, 2, 0] rfl)
          · have he := ite_f he hc_11
            refine lv_iconst (v := 1) hx hb dX3_reaches_32 (by decide) ?_
            exact hret _ _ _ _ _ _ ⟨(Or.inr rfl), (hV.trans he.symm), rfl⟩ (nz01 (Or.inr rfl)) hP hS dX3_reaches_33
  exact lp2 _ _ _ _ _ (by decide) (by decide) he hP hS (lv_sub hl [1, 2, 0] rfl)
def rm_X4_hasFailure : Room := { frames := 0, cells := 0, slots := 0, locals := 0 }
theorem gm_X4_hasFailure : Cond.instanceMethod yX4_hasFailure ∈ wsL_law ∧ Cond.selects RX4 yX4_hasFailure yX4_hasFailure ∈ wsL_law ∧ Cond.initialized RX4 ∈ wsL_law ∧ Cond.code yX4_hasFailure cX4_hasFailure 1 (some .boolean) ∈ wsL_law := ⟨gw_45_15, gw_45_16, gw_3_17, gw_45_17⟩
theorem gd_X4_hasFailure : yX4_hasFailure.cls = RX4 ∧ yX4_hasFailure.cls ≠ "java/lang/invoke/MethodHandle" ∧ yX4_hasFailure.cls ≠ "java/lang/invoke/VarHandle" ∧ (parseMethodDescriptor yX4_hasFailure.desc).map (fun d => d.parameters.length) = some 0 := by decide +kernel
set_option maxRecDepth 100000 in
set_option maxHeartbeats 0 in
theorem c_X4_hasFailure {l : Launch} {D : va_G} {k : Nat → ClassId} {ad : Nat → Nat} (had : InjN 74 ad) (M : Mem) (o : Nat) (ho : kSlr o) : Met l yX4_hasFailure (Cond.code yX4_hasFailure cX4_hasFailure 1 (some .boolean) :: wsL_law) rm_X4_hasFailure (va_Pc [.ref (ad o)] (GW 74 ad D k (cC ad k M))) (va_Qi (fun r u => (r = 0 ∨ r = 1) ∧ f_X4_hasFailure M o = r ∧ u = M) (fun u t => GW 74 ad D k (cC ad k u) t) (AW 74 ad)) 0 0 (AW 74 ad) := by
  refine met_z (g := cC ad k) (M := M) (plainFor_of_name (by decide)) (Nat.le_of_ble_eq_true rfl) ?_
  intro p e s m args below meth c Q ls hx hb hml hG hown hK hret hP hS hl
  have hl : lv_has ls 1 [(0, .ref (ad o))] := hl
  obtain ⟨V, hV⟩ : ∃ V, f_X4_hasFailure M o = V := ⟨_, rfl⟩
  have he := hV
  unfold f_X4_hasFailure at he
  refine lv_aload_n hx hb dX4_hasFailure_0 rfl (lv_at hl 0 rfl) ?_
  refine gX4_0 hx hb hG hown hK hP ho gw_14_13 dX4_hasFailure_1 ?_
  refine lv_iconst (v := 4) hx hb dX4_hasFailure_4 (by decide) ?_
  obtain ⟨t_4, hr_2, he⟩ := bnd_ex he
  have j20 : ∀ (H : Heap) (locs : List Loc) (ls : Array Slot), (t_4 = 0 ∨ t_4 = 1) → va_P D vwCl (wld 74 ad (cC ad k M)) H → va_S (AW 74 ad) s.heap H locs → lv_has ls 1 [] → W p l e rm_X4_hasFailure s m args below meth c H locs 0 0 Q (F0 m 20 ls [.int t_4]) := by
    intro H locs ls zt_4 hP hS hl
    exact hret _ _ _ _ _ _ ⟨zt_4, (hV.trans he.symm), rfl⟩ (nz01 zt_4) hP hS dX4_hasFailure_20
  refine lv_icmp_eq (tgt := 19) hx hb dX4_hasFailure_5 (by decide) (fun hc_1 => ?_) (fun hc_1 => ?_)
  · have hr_2 := ite_t hr_2 hc_1
    refine lv_iconst (v := 0) hx hb dX4_hasFailure_19 (by decide) ?_
    cases hr_2
    exact j20 _ _ _ (Or.inl rfl) hP hS (lv_sub hl [] rfl)
  · have hr_2 := ite_f hr_2 hc_1
    refine lv_aload_n hx hb dX4_hasFailure_8 rfl (lv_at hl 0 rfl) ?_
    refine gX4_1 hx hb hG hown hK hP ho gw_14_14 dX4_hasFailure_9 ?_
    refine lv_if_le (tgt := 19) hx hb dX4_hasFailure_12 (by decide) (fun hc_3 => ?_) (fun hc_3 => ?_)
    · have hr_2 := ite_t hr_2 hc_3
      refine lv_iconst (v := 0) hx hb dX4_hasFailure_19 (by decide) ?_
      cases hr_2
      exact j20 _ _ _ (Or.inl rfl) hP hS (lv_sub hl [] rfl)
    · have hr_2 := ite_f hr_2 hc_3
      refine lv_iconst (v := 1) hx hb dX4_hasFailure_15 (by decide) ?_
      refine lv_goto (tgt := 20) hx hb dX4_hasFailure_16 (by decide) ?_
      cases hr_2
      exact j20 _ _ _ (Or.inr rfl) hP hS (lv_sub hl [] rfl)
def rm_X4_failureNumber : Room := { frames := 1, cells := 0, slots := 0, locals := 20 }
theorem gm_X4_failureNumber : Cond.instanceMethod yX4_failureNumber ∈ wsL_law ∧ Cond.selects RX4 yX4_failureNumber yX4_failureNumber ∈ wsL_law ∧ Cond.initialized RX4 ∈ wsL_law ∧ Cond.code yX4_failureNumber cX4_failureNumber 1 (some .int) ∈ wsL_law := ⟨gw_45_19, gw_45_20, gw_3_17, gw_45_21⟩
theorem gd_X4_failureNumber : yX4_failureNumber.cls = RX4 ∧ yX4_failureNumber.cls ≠ "java/lang/invoke/MethodHandle" ∧ yX4_failureNumber.cls ≠ "java/lang/invoke/VarHandle" ∧ (parseMethodDescriptor yX4_failureNumber.desc).map (fun d => d.parameters.length) = some 0 := by decide +kernel
set_option maxRecDepth 100000 in
set_option maxHeartbeats 0 in
theorem c_X4_failureNumber {l : Launch} {D : va_G} {k : Nat → ClassId} {ad : Nat → Nat} (had : InjN 74 ad) (M : Mem) (o : Nat) (ho : kSlr o) : Met l yX4_failureNumber (Cond.code yX4_failureNumber cX4_failureNumber 1 (some .int) :: wsL_law) rm_X4_failureNumber (va_Pc [.ref (ad o)] (GW 74 ad D k (cC ad k M))) (va_Qi (fun r u => f_X4_failureNumber M o = r ∧ u = M) (fun u t => GW 74 ad D k (cC ad k u) t) (AW 74 ad)) 0 0 (AW 74 ad) := by
  refine met_i (g := cC ad k) (M := M) (plainFor_of_name (by decide)) (Nat.le_of_ble_eq_true rfl) ?_
  intro p e s m args below meth c Q ls hx hb hml hG hown hK hret hP hS hl
  have hl : lv_has ls 1 [(0, .ref (ad o))] := hl
  obtain ⟨V, hV⟩ : ∃ V, f_X4_failureNumber M o = V := ⟨_, rfl⟩
  have he := hV
  unfold f_X4_failureNumber at he
  refine lv_aload_n hx hb dX4_failureNumber_0 rfl (lv_at hl 0 rfl) ?_
  refine gX4_0 hx hb hG hown hK hP ho gw_14_13 dX4_failureNumber_1 ?_
  by_cases hw_1 : M o 0 = 3
  · have he := ite_t he hw_1
    refine lv_lookup (off := 37) (tgt := 41) hx hb dX4_failureNumber_4 (by decide +kernel) (by rw [hw_1]; first | done | rfl) (by decide) ?_
    refine lv_bipush (v := 100) hx hb dX4_failureNumber_41 (by decide) ?_
    refine lv_aload_n hx hb dX4_failureNumber_43 rfl (lv_at hl 0 rfl) ?_
    refine gX4_2 hx hb hG hown hK hP ho gw_14_15 dX4_failureNumber_44 ?_
    refine lv_iadd hx hb dX4_failureNumber_47 ?_
    exact hret _ _ _ _ _ _ ⟨hV.trans he.symm, rfl⟩ hP hS dX4_failureNumber_48
  · have he := ite_f he hw_1
    by_cases hw_2 : M o 0 = 6
    · have he := ite_t he hw_2
      refine lv_lookup (off := 28) (tgt := 32) hx hb dX4_failureNumber_4 (by decide +kernel) (by rw [hw_2]; first | done | rfl) (by decide) ?_
      refine lv_sipush (v := 200) hx hb dX4_failureNumber_32 (by decide) ?_
      refine lv_aload_n hx hb dX4_failureNumber_35 rfl (lv_at hl 0 rfl) ?_
      refine call_i [] [.int 200] hx hb hml hG hown hK (c_X4_skilled had M o ho) gw_45_22 gm_X4_skilled gd_X4_skilled rfl rfl ⟨Nat.le_of_ble_eq_true rfl, Nat.le_of_ble_eq_true rfl⟩ ⟨Nat.le_refl _, Nat.le_refl _⟩ (rX4 hK hP ho) hP (fun _ h => h) hS rfl hl.1 rfl (Nat.le_of_ble_eq_true rfl) dX4_failureNumber_36 (fun r_3 u_5 H locs hF_4 hP hS => ?_)
      obtain ⟨hF_4, hu⟩ := hF_4; rw [hu] at hP; subst hF_4
      refine lv_iadd hx hb dX4_failureNumber_39 ?_
      exact hret _ _ _ _ _ _ ⟨hV.trans he.symm, rfl⟩ hP hS dX4_failureNumber_40
    · have he := ite_f he hw_2
      refine lv_lookup (off := 45) (tgt := 49) hx hb dX4_failureNumber_4 (by decide +kernel) (by show Op.lookupswitch.offset [(3, 37), (6, 28)] _ _ = _; rw [lv_osw (a := 3) hw_1 rfl]; rw [lv_osw (a := 6) hw_2 rfl]; first | done | rfl) (by decide) ?_
      refine lv_aload_n hx hb dX4_failureNumber_49 rfl (lv_at hl 0 rfl) ?_
      refine gX4_2 hx hb hG hown hK hP ho gw_14_15 dX4_failureNumber_50 ?_
      exact hret _ _ _ _ _ _ ⟨hV.trans he.symm, rfl⟩ hP hS dX4_failureNumber_53
