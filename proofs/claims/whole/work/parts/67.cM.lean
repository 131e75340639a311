-- @needs 12_dec 13_dec 14_dec 15_dec 37_fault 66_cM
def rm_X7_placeOf : Room := { frames := 3, cells := 0, slots := 0, locals := 63 }
theorem gm_X7_placeOf : Cond.instanceMethod yX7_placeOf ∈ wsL_law ∧ Cond.selects RX7 yX7_placeOf yX7_placeOf ∈ wsL_law ∧ Cond.initialized RX7 ∈ wsL_law ∧ Cond.code yX7_placeOf cX7_placeOf 4 (some .int) ∈ wsL_law := ⟨gw_27_7, gw_27_8, gw_1_5, gw_27_9⟩
theorem gd_X7_placeOf : yX7_placeOf.cls = RX7 ∧ yX7_placeOf.cls ≠ "java/lang/invoke/MethodHandle" ∧ yX7_placeOf.cls ≠ "java/lang/invoke/VarHandle" ∧ (parseMethodDescriptor yX7_placeOf.desc).map (fun d => d.parameters.length) = some 1 := by decide +kernel
set_option maxRecDepth 100000 in
set_option maxHeartbeats 0 in
theorem c_X7_placeOf {l : Launch} {D : va_G} {k : Nat → ClassId} {ad : Nat → Nat} (had : InjN 31 ad) (M : Mem) (a1 : Int32) (hI : MI M) (hbx : 0 ≤ a1.toInt ∧ a1.toInt < 4) : Met l yX7_placeOf (Cond.code yX7_placeOf cX7_placeOf 4 (some .int) :: wsL_law) rm_X7_placeOf (va_Pc [.ref (ad 0), .int a1] (GW 31 ad D k (cM ad k M))) (va_Qi (fun r u => f_X7_placeOf M a1 = r ∧ u = M) (fun u t => GW 31 ad D k (cM ad k u) t) (AW 31 ad)) 0 0 (AW 31 ad) := by
  refine met_i (g := cM ad k) (M := M) (plainFor_of_name (by decide)) (Nat.le_of_ble_eq_true rfl) ?_
  intro p e s m args below meth c Q ls hx hb hml hG hown hK hret hP hS hl
  have hl : lv_has ls 4 [(0, .ref (ad 0)), (1, .int a1)] := hl
  obtain ⟨V, hV⟩ : ∃ V, f_X7_placeOf M a1 = V := ⟨_, rfl⟩
  have he := hV
  unfold f_X7_placeOf at he
  have hT0 : TI M M := TI_rf hI
  have qb_M := hI.1
  have qs_M := hI.2.1
  have qz_M := hI.2.2.1
  refine lv_iconst (v := 1) hx hb dX7_placeOf_0 (by decide) ?_
  refine lv_istore_n (lv' := [(2, .int 1), (0, .ref (ad 0)), (1, .int a1)]) hx hb dX7_placeOf_1 rfl hl (by decide) rfl (fun ls hl => ?_)
  refine lv_iconst (v := 0) hx hb dX7_placeOf_2 (by decide) ?_
  refine lv_istore_n (lv' := [(3, .int 0), (2, .int 1), (0, .ref (ad 0)), (1, .int a1)]) hx hb dX7_placeOf_3 rfl hl (by decide) rfl (fun ls hl => ?_)
  obtain ⟨w_29, hr_17, he⟩ := bnd_ex he
  have j40 : ∀ (H : Heap) (locs : List Loc) (ls : Array Slot), va_P D vwCl (wld 31 ad (cM ad k M)) H → va_S (AW 31 ad) s.heap H locs → lv_has ls 4 [(2, .int w_29)] → W p l e rm_X7_placeOf s m args below meth c H locs 0 0 Q (F0 m 40 ls []) := by
    intro H locs ls hP hS hl
    refine lv_iload_n hx hb dX7_placeOf_40 rfl (lv_at hl 0 rfl) ?_
    exact hret _ _ _ _ _ _ ⟨hV.trans he.symm, rfl⟩ hP hS dX7_placeOf_41
  have lp4 : ∀ (nn : Nat) (H : Heap) (locs : List Loc) (ls : Array Slot) (v_15 : Int32) (v_16 : Int32), (0 ≤ v_16.toInt) → (4 - v_16.toInt).toNat < nn → lp_X7_placeOf_4 nn M a1 v_15 v_16 = w_29 → va_P D vwCl (wld 31 ad (cM ad k M)) H → va_S (AW 31 ad) s.heap H locs → lv_has ls 4 [(0, .ref (ad 0)), (1, .int a1), (2, .int v_15), (3, .int v_16)] → W p l e rm_X7_placeOf s m args below meth c H locs 0 0 Q (F0 m 4 ls []) := by
    intro nn
    induction nn with
    | zero =>
      intro H locs ls v_15 v_16 h0v_16 hμ
      exact absurd hμ (Nat.not_lt_zero _)
    | succ nn ih =>
      intro H locs ls v_15 v_16 h0v_16 hμ hr_17 hP hS hl
      rw [lp_X7_placeOf_4] at hr_17
      refine lv_iload_n hx hb dX7_placeOf_4 rfl (lv_at hl 3 rfl) ?_
      refine lv_aload_n hx hb dX7_placeOf_5 rfl (lv_at hl 0 rfl) ?_
      refine gX7_8 hx hb hG hown hK hP gw_7_15 dX7_placeOf_6 ?_
      refine lv_icmp_ge (tgt := 40) hx hb dX7_placeOf_9 (by decide) (fun hc_18 => ?_) (fun hc_18 => ?_)
      · have hr_17 := ite_t hr_17 hc_18
        cases hr_17
        exact j40 _ _ _ hP hS (lv_sub hl [2] rfl)
      · have hr_17 := ite_f hr_17 hc_18
        refine lv_iload_n hx hb dX7_placeOf_12 rfl (lv_at hl 2 rfl) ?_
        refine lv_iload_n hx hb dX7_placeOf_13 rfl (lv_at hl 3 rfl) ?_
        refine lv_iload_n hx hb dX7_placeOf_14 rfl (lv_at hl 1 rfl) ?_
        obtain ⟨t_26, hr_20, hr_17⟩ := bnd_ex hr_17
        have j32 : ∀ (H : Heap) (locs : List Loc) (ls : Array Slot), (t_26 = 0 ∨ t_26 = 1) → va_P D vwCl (wld 31 ad (cM ad k M)) H → va_S (AW 31 ad) s.heap H locs → lv_has ls 4 [(0, .ref (ad 0)), (1, .int a1), (3, .int v_16)] → W p l e rm_X7_placeOf s m args below meth c H locs 0 0 Q (F0 m 32 ls [.int t_26, .int v_15]) := by
          intro H locs ls zt_26 hP hS hl
          refine lv_iadd hx hb dX7_placeOf_32 ?_
          refine lv_topi (fun y_27 ey_27 => ?_)
          have hr_17 := bnd_at hr_17 ey_27
          refine lv_istore_n (lv' := [(2, .int y_27), (0, .ref (ad 0)), (1, .int a1), (3, .int v_16)]) hx hb dX7_placeOf_33 rfl hl (by decide) rfl (fun ls hl => ?_)
          obtain ⟨y_28, ey_28⟩ : ∃ y_28 : Int32, y_28 = v_16 + 1 := ⟨_, rfl⟩
          have hr_17 := bnd_at hr_17 ey_28
          refine lv_iinc (v := y_28) (lv' := [(3, .int y_28), (2, .int y_27), (0, .ref (ad 0)), (1, .int a1)]) hx hb dX7_placeOf_34 hl (k := 3) rfl (by rw [ey_28]; rfl) (by decide) rfl (fun ls hl => ?_)
          refine lv_goto (tgt := 4) hx hb dX7_placeOf_37 (by decide) ?_
          exact ih _ _ _ _ _ (by rw [ey_28, inc_I (N := 4) (bnd_lt (nle_I hc_18) (by omega)) (by decide)]; omega) (by rw [ey_28]; exact mu_I hμ (bnd_lt (nle_I hc_18) (by omega)) (by decide)) hr_17 hP hS (lv_sub hl [2, 3, 1, 0] rfl)
        refine lv_icmp_eq (tgt := 31) hx hb dX7_placeOf_15 (by decide) (fun hc_19 => ?_) (fun hc_19 => ?_)
        · have hr_20 := ite_t hr_20 hc_19
          refine lv_iconst (v := 0) hx hb dX7_placeOf_31 (by decide) ?_
          cases hr_20
          exact j32 _ _ _ (Or.inl rfl) hP hS (lv_sub hl [0, 1, 3] rfl)
        · have hr_20 := ite_f hr_20 hc_19
          refine lv_aload_n hx hb dX7_placeOf_18 rfl (lv_at hl 0 rfl) ?_
          refine lv_iload_n hx hb dX7_placeOf_19 rfl (lv_at hl 3 rfl) ?_
          refine lv_iload_n hx hb dX7_placeOf_20 rfl (lv_at hl 1 rfl) ?_
          refine call_i [.int v_16, .int a1] [.int v_15] hx hb hml hG hown hK (c_X7_isAhead had M v_16 a1 hT0.1 (by have q0 : v_16.toInt < (M 0 8).toInt := nle_I hc_18; have q1 : v_16.toInt ≠ a1.toInt := ne_I hc_19; omega) (by have q0 : v_16.toInt < (M 0 8).toInt := nle_I hc_18; have q1 : v_16.toInt ≠ a1.toInt := ne_I hc_19; omega)) gw_27_10 gm_X7_isAhead gd_X7_isAhead rfl rfl ⟨Nat.le_of_ble_eq_true rfl, Nat.le_of_ble_eq_true rfl⟩ ⟨Nat.le_refl _, Nat.le_refl _⟩ (rX7 hK hP) hP (fun _ h => h) hS rfl hl.1 rfl (Nat.le_of_ble_eq_true rfl) dX7_placeOf_21 (fun r_21 u_23 H locs hF_22 hP hS => ?_)
          obtain ⟨hz_24, hF_22, hu⟩ := hF_22; rw [hu] at hP; subst hF_22
          refine lv_if_eq (tgt := 31) hx hb dX7_placeOf_24 (by decide) (fun hc_25 => ?_) (fun hc_25 => ?_)
          · have hr_20 := ite_t hr_20 hc_25
            refine lv_iconst (v := 0) hx hb dX7_placeOf_31 (by decide) ?_
            cases hr_20
            exact j32 _ _ _ (Or.inl rfl) hP hS (lv_sub hl [0, 1, 3] rfl)
          · have hr_20 := ite_f hr_20 hc_25
            refine lv_iconst (v := 1) hx hb dX7_placeOf_27 (by decide) ?_
            refine lv_goto (tgt := 32) hx hb dX7_placeOf_28 (by decide) ?_
            cases hr_20
            exact j32 _ _ _ (Or.inr rfl) hP hS (lv_sub hl [0, 1, 3] rfl)
  exact lp4 _ _ _ _ _ _ (by decide) (by decide) hr_17 hP hS (lv_sub hl [2, 3, 1, 0] rfl)
def rm_X7_carry : Room := { frames := 0, cells := 0, slots := 0, locals := 0 }
theorem gm_X7_carry : Cond.instanceMethod yX7_carry ∈ wsL_law ∧ Cond.selects RX7 yX7_carry yX7_carry ∈ wsL_law ∧ Cond.initialized RX7 ∈ wsL_law ∧ Cond.code yX7_carry cX7_carry 2 (some .int) ∈ wsL_law := ⟨gw_29_4, gw_29_5, gw_1_5, gw_29_6⟩
theorem gd_X7_carry : yX7_carry.cls = RX7 ∧ yX7_carry.cls ≠ "java/lang/invoke/MethodHandle" ∧ yX7_carry.cls ≠ "java/lang/invoke/VarHandle" ∧ (parseMethodDescriptor yX7_carry.desc).map (fun d => d.parameters.length) = some 1 := by decide +kernel
set_option maxRecDepth 100000 in
set_option maxHeartbeats 0 in
theorem c_X7_carry {l : Launch} {D : va_G} {k : Nat → ClassId} {ad : Nat → Nat} (had : InjN 31 ad) (M : Mem) (a1 : Int32) (hk : M 0 38 = 1 ∨ M 0 38 = 2) (hp : 0 ≤ (M 0 36).toInt ∧ (M 0 36).toInt < 150) : Met l yX7_carry (Cond.code yX7_carry cX7_carry 2 (some .int) :: wsL_law) rm_X7_carry (va_Pc [.ref (ad 0), .int a1] (GW 31 ad D k (cM ad k M))) (va_Qi (fun r u => f_X7_carry M a1 = (r, u)) (fun u t => GW 31 ad D k (cM ad k u) t) (AW 31 ad)) 0 0 (AW 31 ad) := by
  refine met_i (g := cM ad k) (M := M) (plainFor_of_name (by decide)) (Nat.le_of_ble_eq_true rfl) ?_
  intro p e s m args below meth c Q ls hx hb hml hG hown hK hret hP hS hl
  have hl : lv_has ls 2 [(0, .ref (ad 0)), (1, .int a1)] := hl
  obtain ⟨V, hV⟩ : ∃ V, f_X7_carry M a1 = V := ⟨_, rfl⟩
  have he := hV
  unfold f_X7_carry at he
  have hs0_36_M : M 0 36 = (M 0 36) := rfl
  have hs0_38_M : M 0 38 = (M 0 38) := rfl
  refine lv_aload_n hx hb dX7_carry_0 rfl (lv_at hl 0 rfl) ?_
  refine gX7_37 hx hb hG hown hK hP gw_29_1 dX7_carry_1 ?_
  obtain ⟨M_6, hr_2, he⟩ := bnd_ex he
  have j17 : ∀ (H : Heap) (locs : List Loc) (ls : Array Slot), M_6 0 36 = (M 0 36) → M_6 0 38 = (M 0 38) → va_P D vwCl (wld 31 ad (cM ad k M_6)) H → va_S (AW 31 ad) s.heap H locs → lv_has ls 2 [(0, .ref (ad 0))] → W p l e rm_X7_carry s m args below meth c H locs 0 0 Q (F0 m 17 ls []) := by
    intro H locs ls hs0_36_M_6 hs0_38_M_6 hP hS hl
    refine lv_aload_n hx hb dX7_carry_17 rfl (lv_at hl 0 rfl) ?_
    refine lv_dup hx hb dX7_carry_18 rfl ?_
    refine gX7_36 hx hb hG hown hK hP gw_29_2 dX7_carry_19 ?_
    refine lv_iconst (v := 1) hx hb dX7_carry_22 (by decide) ?_
    refine lv_iadd hx hb dX7_carry_23 ?_
    refine pX7_36 hx hb hG hown hK hP had AW_in hS gw_29_2 dX7_carry_24 (fun H locs hP hS => ?_)
    obtain ⟨M_7, eM_7⟩ : ∃ y : Mem, y = up2 M_6 0 36 ((M_6 0 36) + 1) := ⟨_, rfl⟩
    rw [← eM_7] at hP
    have he := bnd_at he eM_7
    have hs0_36_M_7 : M_7 0 36 = ((M_6 0 36) + 1) := by rw [eM_7]; exact up2_s _ _ _ _
    have hs0_38_M_7 : M_7 0 38 = (M 0 38) := by rw [eM_7, up2_n _ _ (by decide)] <;> exact hs0_38_M_6
    refine lv_aload_n hx hb dX7_carry_27 rfl (lv_at hl 0 rfl) ?_
    refine gX7_38 hx hb hG hown hK hP gw_29_0 dX7_carry_28 ?_
    refine br_k (M_7 0 38) (by rw [hs0_38_M_7]; exact hk) (fun hk_8 => ?_) (fun hk_8 => ?_)
    · have he := ite_t he hk_8
      rw [kvM_1 hk_8]
      refine lv_aload_n hx hb dX7_carry_31 rfl (lv_at hl 0 rfl) ?_
      refine gX7_36 hx hb hG hown hK hP gw_29_2 dX7_carry_32 ?_
      refine lv_iconst (v := 1) hx hb dX7_carry_35 (by decide) ?_
      refine lv_isub hx hb dX7_carry_36 ?_
      refine al_M20 hx hb hK hP (by rw [hs0_36_M_7, Int32.add_sub_cancel, hs0_36_M_6]; exact vin_I hp.1 hp.2) dX7_carry_37 ?_
      exact hret _ _ _ _ _ _ (hV.trans he.symm) hP hS dX7_carry_38
    · have he := ite_f he (fun q => by rw [hk_8] at q; exact absurd q (by decide))
      rw [kvM_2 hk_8]
      refine lv_aload_n hx hb dX7_carry_31 rfl (lv_at hl 0 rfl) ?_
      refine gX7_36 hx hb hG hown hK hP gw_29_2 dX7_carry_32 ?_
      refine lv_iconst (v := 1) hx hb dX7_carry_35 (by decide) ?_
      refine lv_isub hx hb dX7_carry_36 ?_
      refine al_M21 hx hb hK hP (by rw [hs0_36_M_7, Int32.add_sub_cancel, hs0_36_M_6]; exact vin_I hp.1 hp.2) dX7_carry_37 ?_
      exact hret _ _ _ _ _ _ (hV.trans he.symm) hP hS dX7_carry_38
  refine lv_if_eq (tgt := 17) hx hb dX7_carry_4 (by decide) (fun hc_1 => ?_) (fun hc_1 => ?_)
  · have hr_2 := ite_t hr_2 hc_1
    cases hr_2
    exact j17 _ _ _ hs0_36_M hs0_38_M hP hS (lv_sub hl [0] rfl)
  · have hr_2 := ite_f hr_2 hc_1
    refine lv_aload_n hx hb dX7_carry_7 rfl (lv_at hl 0 rfl) ?_
    refine gX7_38 hx hb hG hown hK hP gw_29_0 dX7_carry_8 ?_
    refine br_k (M 0 38) (by rw [hs0_38_M]; exact hk) (fun hk_3 => ?_) (fun hk_3 => ?_)
    · have hr_2 := ite_t hr_2 hk_3
      rw [kvM_1 hk_3]
      refine lv_aload_n hx hb dX7_carry_11 rfl (lv_at hl 0 rfl) ?_
      refine gX7_36 hx hb hG hown hK hP gw_29_2 dX7_carry_12 ?_
      refine lv_iload_n hx hb dX7_carry_15 rfl (lv_at hl 1 rfl) ?_
      refine as_M20 hx hb hK hP had AW_in hS (by rw [hs0_36_M]; exact vin_I hp.1 hp.2) dX7_carry_16 (fun H locs hP hS => ?_)
      obtain ⟨M_4, eM_4⟩ : ∃ y : Mem, y = up2 M 20 (M 0 36).toNatClampNeg a1 := ⟨_, rfl⟩
      rw [← eM_4] at hP
      have hr_2 := bnd_at hr_2 eM_4
      have hs0_36_M_4 : M_4 0 36 = (M 0 36) := by rw [eM_4, up2_o _ _ (by decide)] <;> exact hs0_36_M
      have hs0_38_M_4 : M_4 0 38 = (M 0 38) := by rw [eM_4, up2_o _ _ (by decide)] <;> exact hs0_38_M
      cases hr_2
      exact j17 _ _ _ hs0_36_M_4 hs0_38_M_4 hP hS (lv_sub hl [0] rfl)
    · have hr_2 := ite_f hr_2 (fun q => by rw [hk_3] at q; exact absurd q (by decide))
      rw [kvM_2 hk_3]
      refine lv_aload_n hx hb dX7_carry_11 rfl (lv_at hl 0 rfl) ?_
      refine gX7_36 hx hb hG hown hK hP gw_29_2 dX7_carry_12 ?_
      refine lv_iload_n hx hb dX7_carry_15 rfl (lv_at hl 1 rfl) ?_
      refine as_M21 hx hb hK hP had AW_in hS (by rw [hs0_36_M]; exact vin_I hp.1 hp.2) dX7_carry_16 (fun H locs hP hS => ?_)
      obtain ⟨M_5, eM_5⟩ : ∃ y : Mem, y = up2 M 21 (M 0 36).toNatClampNeg a1 := ⟨_, rfl⟩
      rw [← eM_5] at hP
      have hr_2 := bnd_at hr_2 eM_5
      have hs0_36_M_5 : M_5 0 36 = (M 0 36) := by rw [eM_5, up2_o _ _ (by decide)] <;> exact hs0_36_M
      have hs0_38_M_5 : M_5 0 38 = (M 0 38) := by rw [eM_5, up2_o _ _ (by decide)] <;> exact hs0_38_M
      cases hr_2
      exact j17 _ _ _ hs0_36_M_5 hs0_38_M_5 hP hS (lv_sub hl [0] rfl)
def rm_X7_carryBoats : Room := { frames := 1, cells := 0, slots := 0, locals := 21 }
theorem gm_X7_carryBoats : Cond.instanceMethod yX7_carryBoats ∈ wsL_law ∧ Cond.selects RX7 yX7_carryBoats yX7_carryBoats ∈ wsL_law ∧ Cond.initialized RX7 ∈ wsL_law ∧ Cond.code yX7_carryBoats cX7_carryBoats 2 none ∈ wsL_law := ⟨gw_29_8, gw_29_9, gw_1_5, gw_29_10⟩
theorem gd_X7_carryBoats : yX7_carryBoats.cls = RX7 ∧ yX7_carryBoats.cls ≠ "java/lang/invoke/MethodHandle" ∧ yX7_carryBoats.cls ≠ "java/lang/invoke/VarHandle" ∧ (parseMethodDescriptor yX7_carryBoats.desc).map (fun d => d.parameters.length) = some 0 := by decide +kernel
set_option maxRecDepth 100000 in
set_option maxHeartbeats 0 in
theorem c_X7_carryBoats {l : Launch} {D : va_G} {k : Nat → ClassId} {ad : Nat → Nat} (had : InjN 31 ad) (M : Mem) (hk : M 0 38 = 1 ∨ M 0 38 = 2) (hp : (M 0 36).toInt = 7) : Met l yX7_carryBoats (Cond.code yX7_carryBoats cX7_carryBoats 2 none :: wsL_law) rm_X7_carryBoats (va_Pc [.ref (ad 0)] (GW 31 ad D k (cM ad k M))) (va_Qv (fun u => f_X7_carryBoats M = u) (fun u t => GW 31 ad D k (cM ad k u) t) (AW 31 ad)) 0 0 (AW 31 ad) := by
  refine met_v (g := cM ad k) (M := M) (plainFor_of_name (by decide)) (Nat.le_of_ble_eq_true rfl) ?_
  intro p e s m args below meth c Q ls hx hb hml hG hown hK hret hP hS hl
  have hl : lv_has ls 2 [(0, .ref (ad 0))] := hl
  obtain ⟨V, hV⟩ : ∃ V, f_X7_carryBoats M = V := ⟨_, rfl⟩
  have he := hV
  unfold f_X7_carryBoats at he
  refine lv_iconst (v := 0) hx hb dX7_carryBoats_0 (by decide) ?_
  refine lv_istore_n (lv' := [(1, .int 0), (0, .ref (ad 0))]) hx hb dX7_carryBoats_1 rfl hl (by decide) rfl (fun ls hl => ?_)
  obtain ⟨M_91, hr_48, he⟩ := bnd_ex he
  have j173 : ∀ (H : Heap) (locs : List Loc) (ls : Array Slot), va_P D vwCl (wld 31 ad (cM ad k M_91)) H → va_S (AW 31 ad) s.heap H locs → lv_has ls 2 [] → W p l e rm_X7_carryBoats s m args below meth c H locs 0 0 Q (F0 m 173 ls []) := by
    intro H locs ls hP hS hl
    exact hret _ _ _ _ _ (hV.trans he.symm) hP hS dX7_carryBoats_173
  have lp2 : ∀ (nn : Nat) (H : Heap) (locs : List Loc) (ls : Array Slot) (M_47 : Mem) (v_46 : Int32), (0 ≤ v_46.toInt) → (M_47 0 38 = 1 ∨ M_47 0 38 = 2) → ((M_47 0 36).toInt = 7 + 10 * v_46.toInt) → (4 - v_46.toInt).toNat < nn → lp_X7_carryBoats_2 nn M_47 v_46 = M_91 → va_P D vwCl (wld 31 ad (cM ad k M_47)) H → va_S (AW 31 ad) s.heap H locs → lv_has ls 2 [(0, .ref (ad 0)), (1, .int v_46)] → W p l e rm_X7_carryBoats s m args below meth c H locs 0 0 Q (F0 m 2 ls []) := by
    intro nn
    induction nn with
    | zero =>
      intro H locs ls M_47 v_46 h0v_46 hk_M_47 hp_M_47 hμ
      exact absurd hμ (Nat.not_lt_zero _)
    | succ nn ih =>
      intro H locs ls M_47 v_46 h0v_46 hk_M_47 hp_M_47 hμ hr_48 hP hS hl
      rw [lp_X7_carryBoats_2] at hr_48
      refine lv_iload_n hx hb dX7_carryBoats_2 rfl (lv_at hl 1 rfl) ?_
      refine lv_iconst (v := 4) hx hb dX7_carryBoats_3 (by decide) ?_
      refine lv_icmp_ge (tgt := 173) hx hb dX7_carryBoats_4 (by decide) (fun hc_49 => ?_) (fun hc_49 => ?_)
      · have hr_48 := ite_t hr_48 hc_49
        cases hr_48
        exact j173 _ _ _ hP hS (lv_sub hl [] rfl)
      · have hr_48 := ite_f hr_48 hc_49
        refine lv_aload_n hx hb dX7_carryBoats_7 rfl (lv_at hl 0 rfl) ?_
        refine gX7_9 hx hb hG hown hK hP gw_4_14 dX7_carryBoats_8 ?_
        refine lv_iload_n hx hb dX7_carryBoats_11 rfl (lv_at hl 1 rfl) ?_
        refine lv_aload_n hx hb dX7_carryBoats_12 rfl (lv_at hl 0 rfl) ?_
        refine lv_aload_n hx hb dX7_carryBoats_13 rfl (lv_at hl 0 rfl) ?_
        refine gX7_9 hx hb hG hown hK hP gw_4_14 dX7_carryBoats_14 ?_
        refine lv_iload_n hx hb dX7_carryBoats_17 rfl (lv_at hl 1 rfl) ?_
        refine al_M2 hx hb hK hP (vin_I (by have q0 : v_46.toInt < 4 := nle_I hc_49; omega) (by have q0 : v_46.toInt < 4 := nle_I hc_49; omega)) dX7_carryBoats_18 ?_
        refine call_i [.int (M_47 2 v_46.toNatClampNeg)] [.int v_46, .ref (ad 2)] hx hb hml hG hown hK (c_X7_carry had M_47 (M_47 2 v_46.toNatClampNeg) hk_M_47 (by have q0 : v_46.toInt < 4 := nle_I hc_49; omega)) gw_29_3 gm_X7_carry gd_X7_carry rfl rfl ⟨Nat.le_of_ble_eq_true rfl, Nat.le_of_ble_eq_true rfl⟩ ⟨Nat.le_refl _, Nat.le_refl _⟩ (rX7 hK hP) hP (fun _ h => h) hS rfl hl.1 rfl (Nat.le_of_ble_eq_true rfl) dX7_carryBoats_19 (fun r_50 M_52 H locs hF_51 hP hS => ?_)
        have hr_48 := bnd2_at hr_48 hF_51
        have hpk_M_52 := carry_at (by have q0 : v_46.toInt < 4 := nle_I hc_49; omega) hF_51
        have hp_M_52 := hpk_M_52.1
        have hk_M_52 : M_52 0 38 = 1 ∨ M_52 0 38 = 2 := by rw [hpk_M_52.2]; exact hk_M_47
        refine as_M2 hx hb hK hP had AW_in hS (vin_I (by have q0 : v_46.toInt < 4 := nle_I hc_49; omega) (by have q0 : v_46.toInt < 4 := nle_I hc_49; omega)) dX7_carryBoats_22 (fun H locs hP hS => ?_)
        obtain ⟨M_53, eM_53⟩ : ∃ y : Mem, y = up2 M_52 2 v_46.toNatClampNeg r_50 := ⟨_, rfl⟩
        rw [← eM_53] at hP
        have hr_48 := bnd_at hr_48 eM_53
        have hp_M_53 : (M_53 0 36).toInt = (M_52 0 36).toInt := by rw [eM_53, up2_o _ _ (by decide)]
        have hk_M_53 : M_53 0 38 = 1 ∨ M_53 0 38 = 2 := by rw [eM_53, up2_o _ _ (by decide)]; exact hk_M_52
        refine lv_aload_n hx hb dX7_carryBoats_23 rfl (lv_at hl 0 rfl) ?_
        refine gX7_10 hx hb hG hown hK hP gw_4_15 dX7_carryBoats_24 ?_
        refine lv_iload_n hx hb dX7_carryBoats_27 rfl (lv_at hl 1 rfl) ?_
        refine lv_aload_n hx hb dX7_carryBoats_28 rfl (lv_at hl 0 rfl) ?_
        refine lv_aload_n hx hb dX7_carryBoats_29 rfl (lv_at hl 0 rfl) ?_
        refine gX7_10 hx hb hG hown hK hP gw_4_15 dX7_carryBoats_30 ?_
        refine lv_iload_n hx hb dX7_carryBoats_33 rfl (lv_at hl 1 rfl) ?_
        refine al_M3 hx hb hK hP (vin_I (by have q0 : v_46.toInt < 4 := nle_I hc_49; omega) (by have q0 : v_46.toInt < 4 := nle_I hc_49; omega)) dX7_carryBoats_34 ?_
        refine call_i [.int (M_53 3 v_46.toNatClampNeg)] [.int v_46, .ref (ad 3)] hx hb hml hG hown hK (c_X7_carry had M_53 (M_53 3 v_46.toNatClampNeg) hk_M_53 (by have q0 : v_46.toInt < 4 := nle_I hc_49; omega)) gw_29_3 gm_X7_carry gd_X7_carry rfl rfl ⟨Nat.le_of_ble_eq_true rfl, Nat.le_of_ble_eq_true rfl⟩ ⟨Nat.le_refl _, Nat.le_refl _⟩ (rX7 hK hP) hP (fun _ h => h) hS rfl hl.1 rfl (Nat.le_of_ble_eq_true rfl) dX7_carryBoats_35 (fun r_54 M_56 H locs hF_55 hP hS => ?_)
        have hr_48 := bnd2_at hr_48 hF_55
        have hpk_M_56 := carry_at (by have q0 : v_46.toInt < 4 := nle_I hc_49; omega) hF_55
        have hp_M_56 := hpk_M_56.1
        have hk_M_56 : M_56 0 38 = 1 ∨ M_56 0 38 = 2 := by rw [hpk_M_56.2]; exact hk_M_53
        refine as_M3 hx hb hK hP had AW_in hS (vin_I (by have q0 : v_46.toInt < 4 := nle_I hc_49; omega) (by have q0 : v_46.toInt < 4 := nle_I hc_49; omega)) dX7_carryBoats_38 (fun H locs hP hS => ?_)
        obtain ⟨M_57, eM_57⟩ : ∃ y : Mem, y = up2 M_56 3 v_46.toNatClampNeg r_54 := ⟨_, rfl⟩
        rw [← eM_57] at hP
        have hr_48 := bnd_at hr_48 eM_57
        have hp_M_57 : (M_57 0 36).toInt = (M_56 0 36).toInt := by rw [eM_57, up2_o _ _ (by decide)]
        have hk_M_57 : M_57 0 38 = 1 ∨ M_57 0 38 = 2 := by rw [eM_57, up2_o _ _ (by decide)]; exact hk_M_56
        refine lv_aload_n hx hb dX7_carryBoats_39 rfl (lv_at hl 0 rfl) ?_
        refine gX7_11 hx hb hG hown hK hP gw_4_16 dX7_carryBoats_40 ?_
        refine lv_iload_n hx hb dX7_carryBoats_43 rfl (lv_at hl 1 rfl) ?_
        refine lv_aload_n hx hb dX7_carryBoats_44 rfl (lv_at hl 0 rfl) ?_
        refine lv_aload_n hx hb dX7_carryBoats_45 rfl (lv_at hl 0 rfl) ?_
        refine gX7_11 hx hb hG hown hK hP gw_4_16 dX7_carryBoats_46 ?_
        refine lv_iload_n hx hb dX7_carryBoats_49 rfl (lv_at hl 1 rfl) ?_
        refine al_M4 hx hb hK hP (vin_I (by have q0 : v_46.toInt < 4 := nle_I hc_49; omega) (by have q0 : v_46.toInt < 4 := nle_I hc_49; omega)) dX7_carryBoats_50 ?_
        refine call_i [.int (M_57 4 v_46.toNatClampNeg)] [.int v_46, .ref (ad 4)] hx hb hml hG hown hK (c_X7_carry had M_57 (M_57 4 v_46.toNatClampNeg) hk_M_57 (by have q0 : v_46.toInt < 4 := nle_I hc_49; omega)) gw_29_3 gm_X7_carry gd_X7_carry rfl rfl ⟨Nat.le_of_ble_eq_true rfl, Nat.le_of_ble_eq_true rfl⟩ ⟨Nat.le_refl _, Nat.le_refl _⟩ (rX7 hK hP) hP (fun _ h => h) hS rfl hl.1 rfl (Nat.le_of_ble_eq_true rfl) dX7_carryBoats_51 (fun r_58 M_60 H locs hF_59 hP hS => ?_)
        have hr_48 := bnd2_at hr_48 hF_59
        have hpk_M_60 := carry_at (by have q0 : v_46.toInt < 4 := nle_I hc_49; omega) hF_59
        have hp_M_60 := hpk_M_60.1
        have hk_M_60 : M_60 0 38 = 1 ∨ M_60 0 38 = 2 := by rw [hpk_M_60.2]; exact hk_M_57
        refine as_M4 hx hb hK hP had AW_in hS (vin_I (by have q0 : v_46.toInt < 4 := nle_I hc_49; omega) (by have q0 : v_46.toInt < 4 := nle_I hc_49; omega)) dX7_carryBoats_54 (fun H locs hP hS => ?_)
        obtain ⟨M_61, eM_61⟩ : ∃ y : Mem, y = up2 M_60 4 v_46.toNatClampNeg r_58 := ⟨_, rfl⟩
        rw [← eM_61] at hP
        have hr_48 := bnd_at hr_48 eM_61
        have hp_M_61 : (M_61 0 36).toInt = (M_60 0 36).toInt := by rw [eM_61, up2_o _ _ (by decide)]
        have hk_M_61 : M_61 0 38 = 1 ∨ M_61 0 38 = 2 := by rw [eM_61, up2_o _ _ (by decide)]; exact hk_M_60
        refine lv_aload_n hx hb dX7_carryBoats_55 rfl (lv_at hl 0 rfl) ?_
        refine gX7_12 hx hb hG hown hK hP gw_4_17 dX7_carryBoats_56 ?_
        refine lv_iload_n hx hb dX7_carryBoats_59 rfl (lv_at hl 1 rfl) ?_
        refine lv_aload_n hx hb dX7_carryBoats_60 rfl (lv_at hl 0 rfl) ?_
        refine lv_aload_n hx hb dX7_carryBoats_61 rfl (lv_at hl 0 rfl) ?_
        refine gX7_12 hx hb hG hown hK hP gw_4_17 dX7_carryBoats_62 ?_
        refine lv_iload_n hx hb dX7_carryBoats_65 rfl (lv_at hl 1 rfl) ?_
        refine al_M5 hx hb hK hP (vin_I (by have q0 : v_46.toInt < 4 := nle_I hc_49; omega) (by have q0 : v_46.toInt < 4 := nle_I hc_49; omega)) dX7_carryBoats_66 ?_
        refine call_i [.int (M_61 5 v_46.toNatClampNeg)] [.int v_46, .ref (ad 5)] hx hb hml hG hown hK (c_X7_carry had M_61 (M_61 5 v_46.toNatClampNeg) hk_M_61 (by have q0 : v_46.toInt < 4 := nle_I hc_49; omega)) gw_29_3 gm_X7_carry gd_X7_carry rfl rfl ⟨Nat.le_of_ble_eq_true rfl, Nat.le_of_ble_eq_true rfl⟩ ⟨Nat.le_refl _, Nat.le_refl _⟩ (rX7 hK hP) hP (fun _ h => h) hS rfl hl.1 rfl (Nat.le_of_ble_eq_true rfl) dX7_carryBoats_67 (fun r_62 M_64 H locs hF_63 hP hS => ?_)
        have hr_48 := bnd2_at hr_48 hF_63
        have hpk_M_64 := carry_at (by have q0 : v_46.toInt < 4 := nle_I hc_49; omega) hF_63
        have hp_M_64 := hpk_M_64.1
        have hk_M_64 : M_64 0 38 = 1 ∨ M_64 0 38 = 2 := by rw [hpk_M_64.2]; exact hk_M_61
        refine as_M5 hx hb hK hP had AW_in hS (vin_I (by have q0 : v_46.toInt < 4 := nle_I hc_49; omega) (by have q0 : v_46.toInt < 4 := nle_I hc_49; omega)) dX7_carryBoats_70 (fun H locs hP hS => ?_)
        obtain ⟨M_65, eM_65⟩ : ∃ y : Mem, y = up2 M_64 5 v_46.toNatClampNeg r_62 := ⟨_, rfl⟩
        rw [← eM_65] at hP
        have hr_48 := bnd_at hr_48 eM_65
        have hp_M_65 : (M_65 0 36).toInt = (M_64 0 36).toInt := by rw [eM_65, up2_o _ _ (by decide)]
        have hk_M_65 : M_65 0 38 = 1 ∨ M_65 0 38 = 2 := by rw [eM_65, up2_o _ _ (by decide)]; exact hk_M_64
        refine lv_aload_n hx hb dX7_carryBoats_71 rfl (lv_at hl 0 rfl) ?_
        refine gX7_13 hx hb hG hown hK hP gw_4_18 dX7_carryBoats_72 ?_
        refine lv_iload_n hx hb dX7_carryBoats_75 rfl (lv_at hl 1 rfl) ?_
        refine lv_aload_n hx hb dX7_carryBoats_76 rfl (lv_at hl 0 rfl) ?_
        refine lv_aload_n hx hb dX7_carryBoats_77 rfl (lv_at hl 0 rfl) ?_
        refine gX7_13 hx hb hG hown hK hP gw_4_18 dX7_carryBoats_78 ?_
        refine lv_iload_n hx hb dX7_carryBoats_81 rfl (lv_at hl 1 rfl) ?_
        refine al_M6 hx hb hK hP (vin_I (by have q0 : v_46.toInt < 4 := nle_I hc_49; omega) (by have q0 : v_46.toInt < 4 := nle_I hc_49; omega)) dX7_carryBoats_82 ?_
        refine call_i [.int (M_65 6 v_46.toNatClampNeg)] [.int v_46, .ref (ad 6)] hx hb hml hG hown hK (c_X7_carry had M_65 (M_65 6 v_46.toNatClampNeg) hk_M_65 (by have q0 : v_46.toInt < 4 := nle_I hc_49; omega)) gw_29_3 gm_X7_carry gd_X7_carry rfl rfl ⟨Nat.le_of_ble_eq_true rfl, Nat.le_of_ble_eq_true rfl⟩ ⟨Nat.le_refl _, Nat.le_refl _⟩ (rX7 hK hP) hP (fun _ h => h) hS rfl hl.1 rfl (Nat.le_of_ble_eq_true rfl) dX7_carryBoats_83 (fun r_66 M_68 H locs hF_67 hP hS => ?_)
        have hr_48 := bnd2_at hr_48 hF_67
        have hpk_M_68 := carry_at (by have q0 : v_46.toInt < 4 := nle_I hc_49; omega) hF_67
        have hp_M_68 := hpk_M_68.1
        have hk_M_68 : M_68 0 38 = 1 ∨ M_68 0 38 = 2 := by rw [hpk_M_68.2]; exact hk_M_65
        refine as_M6 hx hb hK hP had AW_in hS (vin_I (by have q0 : v_46.toInt < 4 := nle_I hc_49; omega) (by have q0 : v_46.toInt < 4 := nle_I hc_49; omega)) dX7_carryBoats_86 (fun H locs hP hS => ?_)
        obtain ⟨M_69, eM_69⟩ : ∃ y : Mem, y = up2 M_68 6 v_46.toNatClampNeg r_66 := ⟨_, rfl⟩
        rw [← eM_69] at hP
        have hr_48 := bnd_at hr_48 eM_69
        have hp_M_69 : (M_69 0 36).toInt = (M_68 0 36).toInt := by rw [eM_69, up2_o _ _ (by decide)]
        have hk_M_69 : M_69 0 38 = 1 ∨ M_69 0 38 = 2 := by rw [eM_69, up2_o _ _ (by decide)]; exact hk_M_68
        refine lv_aload_n hx hb dX7_carryBoats_87 rfl (lv_at hl 0 rfl) ?_
        refine gX7_14 hx hb hG hown hK hP gw_4_19 dX7_carryBoats_88 ?_
        refine lv_iload_n hx hb dX7_carryBoats_91 rfl (lv_at hl 1 rfl) ?_
        refine lv_aload_n hx hb dX7_carryBoats_92 rfl (lv_at hl 0 rfl) ?_
        refine lv_aload_n hx hb dX7_carryBoats_93 rfl (lv_at hl 0 rfl) ?_
        refine gX7_14 hx hb hG hown hK hP gw_4_19 dX7_carryBoats_94 ?_
        refine lv_iload_n hx hb dX7_carryBoats_97 rfl (lv_at hl 1 rfl) ?_
        refine al_M7 hx hb hK hP (vin_I (by have q0 : v_46.toInt < 4 := nle_I hc_49; omega) (by have q0 : v_46.toInt < 4 := nle_I hc_49; omega)) dX7_carryBoats_98 ?_
        refine call_i [.int (M_69 7 v_46.toNatClampNeg)] [.int v_46, .ref (ad 7)] hx hb hml hG hown hK (c_X7_carry had M_69 (M_69 7 v_46.toNatClampNeg) hk_M_69 (by have q0 : v_46.toInt < 4 := nle_I hc_49; omega)) gw_29_3 gm_X7_carry gd_X7_carry rfl rfl ⟨Nat.le_of_ble_eq_true rfl, Nat.le_of_ble_eq_true rfl⟩ ⟨Nat.le_refl _, Nat.le_refl _⟩ (rX7 hK hP) hP (fun _ h => h) hS rfl hl.1 rfl (Nat.le_of_ble_eq_true rfl) dX7_carryBoats_99 (fun r_70 M_72 H locs hF_71 hP hS => ?_)
        have hr_48 := bnd2_at hr_48 hF_71
        have hpk_M_72 := carry_at (by have q0 : v_46.toInt < 4 := nle_I hc_49; omega) hF_71
        have hp_M_72 := hpk_M_72.1
        have hk_M_72 : M_72 0 38 = 1 ∨ M_72 0 38 = 2 := by rw [hpk_M_72.2]; exact hk_M_69
        refine as_M7 hx hb hK hP had AW_in hS (vin_I (by have q0 : v_46.toInt < 4 := nle_I hc_49; omega) (by have q0 : v_46.toInt < 4 := nle_I hc_49; omega)) dX7_carryBoats_102 (fun H locs hP hS => ?_)
        obtain ⟨M_73, eM_73⟩ : ∃ y : Mem, y = up2 M_72 7 v_46.toNatClampNeg r_70 := ⟨_, rfl⟩
        rw [← eM_73] at hP
        have hr_48 := bnd_at hr_48 eM_73
        have hp_M_73 : (M_73 0 36).toInt = (M_72 0 36).toInt := by rw [eM_73, up2_o _ _ (by decide)]
        have hk_M_73 : M_73 0 38 = 1 ∨ M_73 0 38 = 2 := by rw [eM_73, up2_o _ _ (by decide)]; exact hk_M_72
        refine lv_aload_n hx hb dX7_carryBoats_103 rfl (lv_at hl 0 rfl) ?_
        refine gX7_15 hx hb hG hown hK hP gw_4_20 dX7_carryBoats_104 ?_
        refine lv_iload_n hx hb dX7_carryBoats_107 rfl (lv_at hl 1 rfl) ?_
        refine lv_aload_n hx hb dX7_carryBoats_108 rfl (lv_at hl 0 rfl) ?_
        refine lv_aload_n hx hb dX7_carryBoats_109 rfl (lv_at hl 0 rfl) ?_
        refine gX7_15 hx hb hG hown hK hP gw_4_20 dX7_carryBoats_110 ?_
        refine lv_iload_n hx hb dX7_carryBoats_113 rfl (lv_at hl 1 rfl) ?_
        refine al_M8 hx hb hK hP (vin_I (by have q0 : v_46.toInt < 4 := nle_I hc_49; omega) (by have q0 : v_46.toInt < 4 := nle_I hc_49; omega)) dX7_carryBoats_114 ?_
        refine call_i [.int (M_73 8 v_46.toNatClampNeg)] [.int v_46, .ref (ad 8)] hx hb hml hG hown hK (c_X7_carry had M_73 (M_73 8 v_46.toNatClampNeg) hk_M_73 (by have q0 : v_46.toInt < 4 := nle_I hc_49; omega)) gw_29_3 gm_X7_carry gd_X7_carry rfl rfl ⟨Nat.le_of_ble_eq_true rfl, Nat.le_of_ble_eq_true rfl⟩ ⟨Nat.le_refl _, Nat.le_refl _⟩ (rX7 hK hP) hP (fun _ h => h) hS rfl hl.1 rfl (Nat.le_of_ble_eq_true rfl) dX7_carryBoats_115 (fun r_74 M_76 H locs hF_75 hP hS => ?_)
        have hr_48 := bnd2_at hr_48 hF_75
        have hpk_M_76 := carry_at (by have q0 : v_46.toInt < 4 := nle_I hc_49; omega) hF_75
        have hp_M_76 := hpk_M_76.1
        have hk_M_76 : M_76 0 38 = 1 ∨ M_76 0 38 = 2 := by rw [hpk_M_76.2]; exact hk_M_73
        refine as_M8 hx hb hK hP had AW_in hS (vin_I (by have q0 : v_46.toInt < 4 := nle_I hc_49; omega) (by have q0 : v_46.toInt < 4 := nle_I hc_49; omega)) dX7_carryBoats_118 (fun H locs hP hS => ?_)
        obtain ⟨M_77, eM_77⟩ : ∃ y : Mem, y = up2 M_76 8 v_46.toNatClampNeg r_74 := ⟨_, rfl⟩
        rw [← eM_77] at hP
        have hr_48 := bnd_at hr_48 eM_77
        have hp_M_77 : (M_77 0 36).toInt = (M_76 0 36).toInt := by rw [eM_77, up2_o _ _ (by decide)]
        have hk_M_77 : M_77 0 38 = 1 ∨ M_77 0 38 = 2 := by rw [eM_77, up2_o _ _ (by decide)]; exact hk_M_76
        refine lv_aload_n hx hb dX7_carryBoats_119 rfl (lv_at hl 0 rfl) ?_
        refine gX7_16 hx hb hG hown hK hP gw_4_21 dX7_carryBoats_120 ?_
        refine lv_iload_n hx hb dX7_carryBoats_123 rfl (lv_at hl 1 rfl) ?_
        refine lv_aload_n hx hb dX7_carryBoats_124 rfl (lv_at hl 0 rfl) ?_
        refine lv_aload_n hx hb dX7_carryBoats_125 rfl (lv_at hl 0 rfl) ?_
        refine gX7_16 hx hb hG hown hK hP gw_4_21 dX7_carryBoats_126 ?_
        refine lv_iload_n hx hb dX7_carryBoats_129 rfl (lv_at hl 1 rfl) ?_
        refine al_M9 hx hb hK hP (vin_I (by have q0 : v_46.toInt < 4 := nle_I hc_49; omega) (by have q0 : v_46.toInt < 4 := nle_I hc_49; omega)) dX7_carryBoats_130 ?_
        refine call_i [.int (M_77 9 v_46.toNatClampNeg)] [.int v_46, .ref (ad 9)] hx hb hml hG hown hK (c_X7_carry had M_77 (M_77 9 v_46.toNatClampNeg) hk_M_77 (by have q0 : v_46.toInt < 4 := nle_I hc_49; omega)) gw_29_3 gm_X7_carry gd_X7_carry rfl rfl ⟨Nat.le_of_ble_eq_true rfl, Nat.le_of_ble_eq_true rfl⟩ ⟨Nat.le_refl _, Nat.le_refl _⟩ (rX7 hK hP) hP (fun _ h => h) hS rfl hl.1 rfl (Nat.le_of_ble_eq_true rfl) dX7_carryBoats_131 (fun r_78 M_80 H locs hF_79 hP hS => ?_)
        have hr_48 := bnd2_at hr_48 hF_79
        have hpk_M_80 := carry_at (by have q0 : v_46.toInt < 4 := nle_I hc_49; omega) hF_79
        have hp_M_80 := hpk_M_80.1
        have hk_M_80 : M_80 0 38 = 1 ∨ M_80 0 38 = 2 := by rw [hpk_M_80.2]; exact hk_M_77
        refine as_M9 hx hb hK hP had AW_in hS (vin_I (by have q0 : v_46.toInt < 4 := nle_I hc_49; omega) (by have q0 : v_46.toInt < 4 := nle_I hc_49; omega)) dX7_carryBoats_134 (fun H locs hP hS => ?_)
        obtain ⟨M_81, eM_81⟩ : ∃ y : Mem, y = up2 M_80 9 v_46.toNatClampNeg r_78 := ⟨_, rfl⟩
        rw [← eM_81] at hP
        have hr_48 := bnd_at hr_48 eM_81
        have hp_M_81 : (M_81 0 36).toInt = (M_80 0 36).toInt := by rw [eM_81, up2_o _ _ (by decide)]
        have hk_M_81 : M_81 0 38 = 1 ∨ M_81 0 38 = 2 := by rw [eM_81, up2_o _ _ (by decide)]; exact hk_M_80
        refine lv_aload_n hx hb dX7_carryBoats_135 rfl (lv_at hl 0 rfl) ?_
        refine gX7_17 hx hb hG hown hK hP gw_4_22 dX7_carryBoats_136 ?_
        refine lv_iload_n hx hb dX7_carryBoats_139 rfl (lv_at hl 1 rfl) ?_
        refine lv_aload_n hx hb dX7_carryBoats_140 rfl (lv_at hl 0 rfl) ?_
        refine lv_aload_n hx hb dX7_carryBoats_141 rfl (lv_at hl 0 rfl) ?_
        refine gX7_17 hx hb hG hown hK hP gw_4_22 dX7_carryBoats_142 ?_
        refine lv_iload_n hx hb dX7_carryBoats_145 rfl (lv_at hl 1 rfl) ?_
        refine al_M10 hx hb hK hP (vin_I (by have q0 : v_46.toInt < 4 := nle_I hc_49; omega) (by have q0 : v_46.toInt < 4 := nle_I hc_49; omega)) dX7_carryBoats_146 ?_
        refine call_i [.int (M_81 10 v_46.toNatClampNeg)] [.int v_46, .ref (ad 10)] hx hb hml hG hown hK (c_X7_carry had M_81 (M_81 10 v_46.toNatClampNeg) hk_M_81 (by have q0 : v_46.toInt < 4 := nle_I hc_49; omega)) gw_29_3 gm_X7_carry gd_X7_carry rfl rfl ⟨Nat.le_of_ble_eq_true rfl, Nat.le_of_ble_eq_true rfl⟩ ⟨Nat.le_refl _, Nat.le_refl _⟩ (rX7 hK hP) hP (fun _ h => h) hS rfl hl.1 rfl (Nat.le_of_ble_eq_true rfl) dX7_carryBoats_147 (fun r_82 M_84 H locs hF_83 hP hS => ?_)
        have hr_48 := bnd2_at hr_48 hF_83
        have hpk_M_84 := carry_at (by have q0 : v_46.toInt < 4 := nle_I hc_49; omega) hF_83
        have hp_M_84 := hpk_M_84.1
        have hk_M_84 : M_84 0 38 = 1 ∨ M_84 0 38 = 2 := by rw [hpk_M_84.2]; exact hk_M_81
        refine as_M10 hx hb hK hP had AW_in hS (vin_I (by have q0 : v_46.toInt < 4 := nle_I hc_49; omega) (by have q0 : v_46.toInt < 4 := nle_I hc_49; omega)) dX7_carryBoats_150 (fun H locs hP hS => ?_)
        obtain ⟨M_85, eM_85⟩ : ∃ y : Mem, y = up2 M_84 10 v_46.toNatClampNeg r_82 := ⟨_, rfl⟩
        rw [← eM_85] at hP
        have hr_48 := bnd_at hr_48 eM_85
        have hp_M_85 : (M_85 0 36).toInt = (M_84 0 36).toInt := by rw [eM_85, up2_o _ _ (by decide)]
        have hk_M_85 : M_85 0 38 = 1 ∨ M_85 0 38 = 2 := by rw [eM_85, up2_o _ _ (by decide)]; exact hk_M_84
        refine lv_aload_n hx hb dX7_carryBoats_151 rfl (lv_at hl 0 rfl) ?_
        refine gX7_18 hx hb hG hown hK hP gw_4_23 dX7_carryBoats_152 ?_
        refine lv_iload_n hx hb dX7_carryBoats_155 rfl (lv_at hl 1 rfl) ?_
        refine lv_aload_n hx hb dX7_carryBoats_156 rfl (lv_at hl 0 rfl) ?_
        refine lv_aload_n hx hb dX7_carryBoats_157 rfl (lv_at hl 0 rfl) ?_
        refine gX7_18 hx hb hG hown hK hP gw_4_23 dX7_carryBoats_158 ?_
        refine lv_iload_n hx hb dX7_carryBoats_161 rfl (lv_at hl 1 rfl) ?_
        refine al_M11 hx hb hK hP (vin_I (by have q0 : v_46.toInt < 4 := nle_I hc_49; omega) (by have q0 : v_46.toInt < 4 := nle_I hc_49; omega)) dX7_carryBoats_162 ?_
        refine call_i [.int (M_85 11 v_46.toNatClampNeg)] [.int v_46, .ref (ad 11)] hx hb hml hG hown hK (c_X7_carry had M_85 (M_85 11 v_46.toNatClampNeg) hk_M_85 (by have q0 : v_46.toInt < 4 := nle_I hc_49; omega)) gw_29_3 gm_X7_carry gd_X7_carry rfl rfl ⟨Nat.le_of_ble_eq_true rfl, Nat.le_of_ble_eq_true rfl⟩ ⟨Nat.le_refl _, Nat.le_refl _⟩ (rX7 hK hP) hP (fun _ h => h) hS rfl hl.1 rfl (Nat.le_of_ble_eq_true rfl) dX7_carryBoats_163 (fun r_86 M_88 H locs hF_87 hP hS => ?_)
        have hr_48 := bnd2_at hr_48 hF_87
        have hpk_M_88 := carry_at (by have q0 : v_46.toInt < 4 := nle_I hc_49; omega) hF_87
        have hp_M_88 := hpk_M_88.1
        have hk_M_88 : M_88 0 38 = 1 ∨ M_88 0 38 = 2 := by rw [hpk_M_88.2]; exact hk_M_85
        refine as_M11 hx hb hK hP had AW_in hS (vin_I (by have q0 : v_46.toInt < 4 := nle_I hc_49; omega) (by have q0 : v_46.toInt < 4 := nle_I hc_49; omega)) dX7_carryBoats_166 (fun H locs hP hS => ?_)
        obtain ⟨M_89, eM_89⟩ : ∃ y : Mem, y = up2 M_88 11 v_46.toNatClampNeg r_86 := ⟨_, rfl⟩
        rw [← eM_89] at hP
        have hr_48 := bnd_at hr_48 eM_89
        have hp_M_89 : (M_89 0 36).toInt = (M_88 0 36).toInt := by rw [eM_89, up2_o _ _ (by decide)]
        have hk_M_89 : M_89 0 38 = 1 ∨ M_89 0 38 = 2 := by rw [eM_89, up2_o _ _ (by decide)]; exact hk_M_88
        obtain ⟨y_90, ey_90⟩ : ∃ y_90 : Int32, y_90 = v_46 + 1 := ⟨_, rfl⟩
        have hr_48 := bnd_at hr_48 ey_90
        refine lv_iinc (v := y_90) (lv' := [(1, .int y_90), (0, .ref (ad 0))]) hx hb dX7_carryBoats_167 hl (k := 1) rfl (by rw [ey_90]; rfl) (by decide) rfl (fun ls hl => ?_)
        refine lv_goto (tgt := 2) hx hb dX7_carryBoats_170 (by decide) ?_
        exact ih _ _ _ _ _ (by rw [ey_90, inc_I (N := 4) (nle_I hc_49) (by decide)]; omega) hk_M_89 (by rw [ey_90, inc_I (nle_I hc_49) (by decide)]; omega) (by rw [ey_90]; exact mu_I hμ (nle_I hc_49) (by decide)) hr_48 hP hS (lv_sub hl [1, 0] rfl)
  exact lp2 _ _ _ _ _ _ (by decide) hk (by first | (rw [Int32.toInt_zero]; omega) | omega) (by decide) hr_48 hP hS (lv_sub hl [1, 0] rfl)
def rm_X7_carryAll : Room := { frames := 2, cells := 0, slots := 0, locals := 42 }
theorem gm_X7_carryAll : Cond.instanceMethod yX7_carryAll ∈ wsL_law ∧ Cond.selects RX7 yX7_carryAll yX7_carryAll ∈ wsL_law ∧ Cond.initialized RX7 ∈ wsL_law ∧ Cond.code yX7_carryAll cX7_carryAll 4 none ∈ wsL_law := ⟨gw_28_21, gw_28_22, gw_1_5, gw_28_23⟩
theorem gd_X7_carryAll : yX7_carryAll.cls = RX7 ∧ yX7_carryAll.cls ≠ "java/lang/invoke/MethodHandle" ∧ yX7_carryAll.cls ≠ "java/lang/invoke/VarHandle" ∧ (parseMethodDescriptor yX7_carryAll.desc).map (fun d => d.parameters.length) = some 2 := by decide +kernel
set_option maxRecDepth 100000 in
set_option maxHeartbeats 0 in
theorem c_X7_carryAll {l : Launch} {D : va_G} {k : Nat → ClassId} {ad : Nat → Nat} (had : InjN 31 ad) (M : Mem) (a1 : Int32) (ha1 : a1 = 1 ∨ a1 = 2) (a2 : Int32) (ha2 : a2 = 0 ∨ a2 = 1) : Met l yX7_carryAll (Cond.code yX7_carryAll cX7_carryAll 4 none :: wsL_law) rm_X7_carryAll (va_Pc [.ref (ad 0), kvM ad a1, .int a2] (GW 31 ad D k (cM ad k M))) (va_Qv (fun u => f_X7_carryAll M a1 a2 = u) (fun u t => GW 31 ad D k (cM ad k u) t) (AW 31 ad)) 0 0 (AW 31 ad) := by
  refine met_v (g := cM ad k) (M := M) (plainFor_of_name (by decide)) (by unfold kvM; split <;> (try split) <;> exact Nat.le_of_ble_eq_true rfl) ?_
  intro p e s m args below meth c Q ls hx hb hml hG hown hK hret hP hS hl
  obtain ⟨rr, hrr⟩ := kvM_ref ad ha1
  rw [hrr] at hl
  have hl : lv_has ls 4 [(0, .ref (ad 0)), (1, .ref (ad rr)), (2, .int a2)] := hl
  obtain ⟨V, hV⟩ : ∃ V, f_X7_carryAll M a1 a2 = V := ⟨_, rfl⟩
  have he := hV
  unfold f_X7_carryAll at he
  refine lv_aload_n hx hb dX7_carryAll_0 rfl (lv_at hl 0 rfl) ?_
  refine lv_aload_n hx hb dX7_carryAll_1 rfl (lv_at hl 1 rfl) ?_
  rw [← hrr]
  refine pX7_38 (v := a1) hx hb hG hown hK hP had AW_in hS gw_29_0 dX7_carryAll_2 (fun H locs hP hS => ?_)
  obtain ⟨M_1, eM_1⟩ : ∃ y : Mem, y = up2 M 0 38 a1 := ⟨_, rfl⟩
  rw [← eM_1] at hP
  have he := bnd_at he eM_1
  have hp_M_1 : (M_1 0 36).toInt = (M 0 36).toInt := by rw [eM_1, up2_n _ _ (by decide)]
  have hk_M_1 : M_1 0 38 = 1 ∨ M_1 0 38 = 2 := by rw [eM_1, up2_s]; exact ha1
  refine lv_aload_n hx hb dX7_carryAll_5 rfl (lv_at hl 0 rfl) ?_
  refine lv_iload_n hx hb dX7_carryAll_6 rfl (lv_at hl 2 rfl) ?_
  refine pX7_37 hx hb hG hown hK hP had AW_in hS gw_29_1 ha2  dX7_carryAll_7 (fun H locs hP hS => ?_)
  obtain ⟨M_2, eM_2⟩ : ∃ y : Mem, y = up2 M_1 0 37 a2 := ⟨_, rfl⟩
  rw [← eM_2] at hP
  have he := bnd_at he eM_2
  have hp_M_2 : (M_2 0 36).toInt = (M_1 0 36).toInt := by rw [eM_2, up2_n _ _ (by decide)]
  have hk_M_2 : M_2 0 38 = 1 ∨ M_2 0 38 = 2 := by rw [eM_2, up2_n _ _ (by decide)]; exact hk_M_1
  refine lv_aload_n hx hb dX7_carryAll_10 rfl (lv_at hl 0 rfl) ?_
  refine lv_iconst (v := 0) hx hb dX7_carryAll_11 (by decide) ?_
  refine pX7_36 hx hb hG hown hK hP had AW_in hS gw_29_2 dX7_carryAll_12 (fun H locs hP hS => ?_)
  obtain ⟨M_3, eM_3⟩ : ∃ y : Mem, y = up2 M_2 0 36 0 := ⟨_, rfl⟩
  rw [← eM_3] at hP
  have he := bnd_at he eM_3
  have hp_M_3 : (M_3 0 36).toInt = 0 := by rw [eM_3, up2_s]; rfl
  have hk_M_3 : M_3 0 38 = 1 ∨ M_3 0 38 = 2 := by rw [eM_3, up2_n _ _ (by decide)]; exact hk_M_2
  refine lv_aload_n hx hb dX7_carryAll_15 rfl (lv_at hl 0 rfl) ?_
  refine lv_aload_n hx hb dX7_carryAll_16 rfl (lv_at hl 0 rfl) ?_
  refine lv_aload_n hx hb dX7_carryAll_17 rfl (lv_at hl 0 rfl) ?_
  refine gX7_0 hx hb hG hown hK hP gw_4_10 dX7_carryAll_18 ?_
  refine call_i [.int (M_3 0 0)] [.ref (ad 0)] hx hb hml hG hown hK (c_X7_carry had M_3 (M_3 0 0) hk_M_3 (by omega)) gw_29_3 gm_X7_carry gd_X7_carry rfl rfl ⟨Nat.le_of_ble_eq_true rfl, Nat.le_of_ble_eq_true rfl⟩ ⟨Nat.le_refl _, Nat.le_refl _⟩ (rX7 hK hP) hP (fun _ h => h) hS rfl hl.1 rfl (Nat.le_of_ble_eq_true rfl) dX7_carryAll_21 (fun r_4 M_6 H locs hF_5 hP hS => ?_)
  have he := bnd2_at he hF_5
  have hpk_M_6 := carry_at (by omega) hF_5
  have hp_M_6 := hpk_M_6.1
  have hk_M_6 : M_6 0 38 = 1 ∨ M_6 0 38 = 2 := by rw [hpk_M_6.2]; exact hk_M_3
  refine pX7_0 hx hb hG hown hK hP had AW_in hS gw_4_10 dX7_carryAll_24 (fun H locs hP hS => ?_)
  obtain ⟨M_7, eM_7⟩ : ∃ y : Mem, y = up2 M_6 0 0 r_4 := ⟨_, rfl⟩
  rw [← eM_7] at hP
  have he := bnd_at he eM_7
  have hp_M_7 : (M_7 0 36).toInt = (M_6 0 36).toInt := by rw [eM_7, up2_n _ _ (by decide)]
  have hk_M_7 : M_7 0 38 = 1 ∨ M_7 0 38 = 2 := by rw [eM_7, up2_n _ _ (by decide)]; exact hk_M_6
  refine lv_aload_n hx hb dX7_carryAll_27 rfl (lv_at hl 0 rfl) ?_
  refine lv_aload_n hx hb dX7_carryAll_28 rfl (lv_at hl 0 rfl) ?_
  refine lv_aload_n hx hb dX7_carryAll_29 rfl (lv_at hl 0 rfl) ?_
  refine gX7_1 hx hb hG hown hK hP gw_7_0 dX7_carryAll_30 ?_
  refine call_i [.int (M_7 0 1)] [.ref (ad 0)] hx hb hml hG hown hK (c_X7_carry had M_7 (M_7 0 1) hk_M_7 (by omega)) gw_29_3 gm_X7_carry gd_X7_carry rfl rfl ⟨Nat.le_of_ble_eq_true rfl, Nat.le_of_ble_eq_true rfl⟩ ⟨Nat.le_refl _, Nat.le_refl _⟩ (rX7 hK hP) hP (fun _ h => h) hS rfl hl.1 rfl (Nat.le_of_ble_eq_true rfl) dX7_carryAll_33 (fun r_8 M_10 H locs hF_9 hP hS => ?_)
  have he := bnd2_at he hF_9
  have hpk_M_10 := carry_at (by omega) hF_9
  have hp_M_10 := hpk_M_10.1
  have hk_M_10 : M_10 0 38 = 1 ∨ M_10 0 38 = 2 := by rw [hpk_M_10.2]; exact hk_M_7
  refine pX7_1 hx hb hG hown hK hP had AW_in hS gw_7_0 dX7_carryAll_36 (fun H locs hP hS => ?_)
  obtain ⟨M_11, eM_11⟩ : ∃ y : Mem, y = up2 M_10 0 1 r_8 := ⟨_, rfl⟩
  rw [← eM_11] at hP
  have he := bnd_at he eM_11
  have hp_M_11 : (M_11 0 36).toInt = (M_10 0 36).toInt := by rw [eM_11, up2_n _ _ (by decide)]
  have hk_M_11 : M_11 0 38 = 1 ∨ M_11 0 38 = 2 := by rw [eM_11, up2_n _ _ (by decide)]; exact hk_M_10
  refine lv_aload_n hx hb dX7_carryAll_39 rfl (lv_at hl 0 rfl) ?_
  refine lv_aload_n hx hb dX7_carryAll_40 rfl (lv_at hl 0 rfl) ?_
  refine lv_aload_n hx hb dX7_carryAll_41 rfl (lv_at hl 0 rfl) ?_
  refine gX7_2 hx hb hG hown hK hP gw_4_11 dX7_carryAll_42 ?_
  refine call_i [.int (M_11 0 2)] [.ref (ad 0)] hx hb hml hG hown hK (c_X7_carry had M_11 (M_11 0 2) hk_M_11 (by omega)) gw_29_3 gm_X7_carry gd_X7_carry rfl rfl ⟨Nat.le_of_ble_eq_true rfl, Nat.le_of_ble_eq_true rfl⟩ ⟨Nat.le_refl _, Nat.le_refl _⟩ (rX7 hK hP) hP (fun _ h => h) hS rfl hl.1 rfl (Nat.le_of_ble_eq_true rfl) dX7_carryAll_45 (fun r_12 M_14 H locs hF_13 hP hS => ?_)
  have he := bnd2_at he hF_13
  have hpk_M_14 := carry_at (by omega) hF_13
  have hp_M_14 := hpk_M_14.1
  have hk_M_14 : M_14 0 38 = 1 ∨ M_14 0 38 = 2 := by rw [hpk_M_14.2]; exact hk_M_11
  refine pX7_2 hx hb hG hown hK hP had AW_in hS gw_4_11 dX7_carryAll_48 (fun H locs hP hS => ?_)
  obtain ⟨M_15, eM_15⟩ : ∃ y : Mem, y = up2 M_14 0 2 r_12 := ⟨_, rfl⟩
  rw [← eM_15] at hP
  have he := bnd_at he eM_15
  have hp_M_15 : (M_15 0 36).toInt = (M_14 0 36).toInt := by rw [eM_15, up2_n _ _ (by decide)]
  have hk_M_15 : M_15 0 38 = 1 ∨ M_15 0 38 = 2 := by rw [eM_15, up2_n _ _ (by decide)]; exact hk_M_14
  refine lv_aload_n hx hb dX7_carryAll_51 rfl (lv_at hl 0 rfl) ?_
  refine lv_aload_n hx hb dX7_carryAll_52 rfl (lv_at hl 0 rfl) ?_
  refine lv_aload_n hx hb dX7_carryAll_53 rfl (lv_at hl 0 rfl) ?_
  refine gX7_3 hx hb hG hown hK hP gw_4_12 dX7_carryAll_54 ?_
  refine call_i [.int (M_15 0 3)] [.ref (ad 0)] hx hb hml hG hown hK (c_X7_carry had M_15 (M_15 0 3) hk_M_15 (by omega)) gw_29_3 gm_X7_carry gd_X7_carry rfl rfl ⟨Nat.le_of_ble_eq_true rfl, Nat.le_of_ble_eq_true rfl⟩ ⟨Nat.le_refl _, Nat.le_refl _⟩ (rX7 hK hP) hP (fun _ h => h) hS rfl hl.1 rfl (Nat.le_of_ble_eq_true rfl) dX7_carryAll_57 (fun r_16 M_18 H locs hF_17 hP hS => ?_)
  have he := bnd2_at he hF_17
  have hpk_M_18 := carry_at (by omega) hF_17
  have hp_M_18 := hpk_M_18.1
  have hk_M_18 : M_18 0 38 = 1 ∨ M_18 0 38 = 2 := by rw [hpk_M_18.2]; exact hk_M_15
  refine pX7_3 hx hb hG hown hK hP had AW_in hS gw_4_12 dX7_carryAll_60 (fun H locs hP hS => ?_)
  obtain ⟨M_19, eM_19⟩ : ∃ y : Mem, y = up2 M_18 0 3 r_16 := ⟨_, rfl⟩
  rw [← eM_19] at hP
  have he := bnd_at he eM_19
  have hp_M_19 : (M_19 0 36).toInt = (M_18 0 36).toInt := by rw [eM_19, up2_n _ _ (by decide)]
  have hk_M_19 : M_19 0 38 = 1 ∨ M_19 0 38 = 2 := by rw [eM_19, up2_n _ _ (by decide)]; exact hk_M_18
  refine lv_aload_n hx hb dX7_carryAll_63 rfl (lv_at hl 0 rfl) ?_
  refine lv_aload_n hx hb dX7_carryAll_64 rfl (lv_at hl 0 rfl) ?_
  refine lv_aload_n hx hb dX7_carryAll_65 rfl (lv_at hl 0 rfl) ?_
  refine gX7_4 hx hb hG hown hK hP gw_7_1 dX7_carryAll_66 ?_
  refine call_i [.int (M_19 0 4)] [.ref (ad 0)] hx hb hml hG hown hK (c_X7_carry had M_19 (M_19 0 4) hk_M_19 (by omega)) gw_29_3 gm_X7_carry gd_X7_carry rfl rfl ⟨Nat.le_of_ble_eq_true rfl, Nat.le_of_ble_eq_true rfl⟩ ⟨Nat.le_refl _, Nat.le_refl _⟩ (rX7 hK hP) hP (fun _ h => h) hS rfl hl.1 rfl (Nat.le_of_ble_eq_true rfl) dX7_carryAll_69 (fun r_20 M_22 H locs hF_21 hP hS => ?_)
  have he := bnd2_at he hF_21
  have hpk_M_22 := carry_at (by omega) hF_21
  have hp_M_22 := hpk_M_22.1
  have hk_M_22 : M_22 0 38 = 1 ∨ M_22 0 38 = 2 := by rw [hpk_M_22.2]; exact hk_M_19
  refine pX7_4 hx hb hG hown hK hP had AW_in hS gw_7_1 dX7_carryAll_72 (fun H locs hP hS => ?_)
  obtain ⟨M_23, eM_23⟩ : ∃ y : Mem, y = up2 M_22 0 4 r_20 := ⟨_, rfl⟩
  rw [← eM_23] at hP
  have he := bnd_at he eM_23
  have hp_M_23 : (M_23 0 36).toInt = (M_22 0 36).toInt := by rw [eM_23, up2_n _ _ (by decide)]
  have hk_M_23 : M_23 0 38 = 1 ∨ M_23 0 38 = 2 := by rw [eM_23, up2_n _ _ (by decide)]; exact hk_M_22
  refine lv_aload_n hx hb dX7_carryAll_75 rfl (lv_at hl 0 rfl) ?_
  refine lv_aload_n hx hb dX7_carryAll_76 rfl (lv_at hl 0 rfl) ?_
  refine lv_aload_n hx hb dX7_carryAll_77 rfl (lv_at hl 0 rfl) ?_
  refine gX7_7 hx hb hG hown hK hP gw_15_12 dX7_carryAll_78 ?_
  refine call_i [.int (M_23 0 7)] [.ref (ad 0)] hx hb hml hG hown hK (c_X7_carry had M_23 (M_23 0 7) hk_M_23 (by omega)) gw_29_3 gm_X7_carry gd_X7_carry rfl rfl ⟨Nat.le_of_ble_eq_true rfl, Nat.le_of_ble_eq_true rfl⟩ ⟨Nat.le_refl _, Nat.le_refl _⟩ (rX7 hK hP) hP (fun _ h => h) hS rfl hl.1 rfl (Nat.le_of_ble_eq_true rfl) dX7_carryAll_81 (fun r_24 M_26 H locs hF_25 hP hS => ?_)
  have he := bnd2_at he hF_25
  have hpk_M_26 := carry_at (by omega) hF_25
  have hp_M_26 := hpk_M_26.1
  have hk_M_26 : M_26 0 38 = 1 ∨ M_26 0 38 = 2 := by rw [hpk_M_26.2]; exact hk_M_23
  refine pX7_7 hx hb hG hown hK hP had AW_in hS gw_15_12 dX7_carryAll_84 (fun H locs hP hS => ?_)
  obtain ⟨M_27, eM_27⟩ : ∃ y : Mem, y = up2 M_26 0 7 r_24 := ⟨_, rfl⟩
  rw [← eM_27] at hP
  have he := bnd_at he eM_27
  have hp_M_27 : (M_27 0 36).toInt = (M_26 0 36).toInt := by rw [eM_27, up2_n _ _ (by decide)]
  have hk_M_27 : M_27 0 38 = 1 ∨ M_27 0 38 = 2 := by rw [eM_27, up2_n _ _ (by decide)]; exact hk_M_26
  refine lv_aload_n hx hb dX7_carryAll_87 rfl (lv_at hl 0 rfl) ?_
  refine lv_aload_n hx hb dX7_carryAll_88 rfl (lv_at hl 0 rfl) ?_
  refine lv_aload_n hx hb dX7_carryAll_89 rfl (lv_at hl 0 rfl) ?_
  refine gX7_8 hx hb hG hown hK hP gw_7_15 dX7_carryAll_90 ?_
  refine call_i [.int (M_27 0 8)] [.ref (ad 0)] hx hb hml hG hown hK (c_X7_carry had M_27 (M_27 0 8) hk_M_27 (by omega)) gw_29_3 gm_X7_carry gd_X7_carry rfl rfl ⟨Nat.le_of_ble_eq_true rfl, Nat.le_of_ble_eq_true rfl⟩ ⟨Nat.le_refl _, Nat.le_refl _⟩ (rX7 hK hP) hP (fun _ h => h) hS rfl hl.1 rfl (Nat.le_of_ble_eq_true rfl) dX7_carryAll_93 (fun r_28 M_30 H locs hF_29 hP hS => ?_)
  have he := bnd2_at he hF_29
  have hpk_M_30 := carry_at (by omega) hF_29
  have hp_M_30 := hpk_M_30.1
  have hk_M_30 : M_30 0 38 = 1 ∨ M_30 0 38 = 2 := by rw [hpk_M_30.2]; exact hk_M_27
  refine pX7_8 hx hb hG hown hK hP had AW_in hS gw_7_15 dX7_carryAll_96 (fun H locs hP hS => ?_)
  obtain ⟨M_31, eM_31⟩ : ∃ y : Mem, y = up2 M_30 0 8 r_28 := ⟨_, rfl⟩
  rw [← eM_31] at hP
  have he := bnd_at he eM_31
  have hp_M_31 : (M_31 0 36).toInt = (M_30 0 36).toInt := by rw [eM_31, up2_n _ _ (by decide)]
  have hk_M_31 : M_31 0 38 = 1 ∨ M_31 0 38 = 2 := by rw [eM_31, up2_n _ _ (by decide)]; exact hk_M_30
  refine lv_aload_n hx hb dX7_carryAll_99 rfl (lv_at hl 0 rfl) ?_
  refine call_v [] [] hx hb hml hG hown hK (c_X7_carryBoats had M_31 hk_M_31 (by omega)) gw_29_7 gm_X7_carryBoats gd_X7_carryBoats rfl rfl ⟨Nat.le_of_ble_eq_true rfl, Nat.le_of_ble_eq_true rfl⟩ ⟨Nat.le_refl _, Nat.le_refl _⟩ (rX7 hK hP) hP (fun _ h => h) hS rfl hl.1 rfl (Nat.le_of_ble_eq_true rfl) dX7_carryAll_100 (fun M_34 H locs hF_33 hP hS => ?_)
  have he := bnd_at he hF_33.symm
  have hpk_M_34 := carryBoats_at (by omega) hF_33
  have hp_M_34 := hpk_M_34.1
  have hk_M_34 : M_34 0 38 = 1 ∨ M_34 0 38 = 2 := by rw [hpk_M_34.2]; exact hk_M_31
  refine lv_aload_n hx hb dX7_carryAll_103 rfl (lv_at hl 0 rfl) ?_
  refine lv_aload_n hx hb dX7_carryAll_104 rfl (lv_at hl 0 rfl) ?_
  refine lv_aload_n hx hb dX7_carryAll_105 rfl (lv_at hl 0 rfl) ?_
  refine gX7_5 hx hb hG hown hK hP gw_11_13 dX7_carryAll_106 ?_
  refine call_i [.int (M_34 0 5)] [.ref (ad 0)] hx hb hml hG hown hK (c_X7_carry had M_34 (M_34 0 5) hk_M_34 (by omega)) gw_29_3 gm_X7_carry gd_X7_carry rfl rfl ⟨Nat.le_of_ble_eq_true rfl, Nat.le_of_ble_eq_true rfl⟩ ⟨Nat.le_refl _, Nat.le_refl _⟩ (rX7 hK hP) hP (fun _ h => h) hS rfl hl.1 rfl (Nat.le_of_ble_eq_true rfl) dX7_carryAll_109 (fun r_35 M_37 H locs hF_36 hP hS => ?_)
  have he := bnd2_at he hF_36
  have hpk_M_37 := carry_at (by omega) hF_36
  have hp_M_37 := hpk_M_37.1
  have hk_M_37 : M_37 0 38 = 1 ∨ M_37 0 38 = 2 := by rw [hpk_M_37.2]; exact hk_M_34
  refine pX7_5 hx hb hG hown hK hP had AW_in hS gw_11_13 dX7_carryAll_112 (fun H locs hP hS => ?_)
  obtain ⟨M_38, eM_38⟩ : ∃ y : Mem, y = up2 M_37 0 5 r_35 := ⟨_, rfl⟩
  rw [← eM_38] at hP
  have he := bnd_at he eM_38
  have hp_M_38 : (M_38 0 36).toInt = (M_37 0 36).toInt := by rw [eM_38, up2_n _ _ (by decide)]
  have hk_M_38 : M_38 0 38 = 1 ∨ M_38 0 38 = 2 := by rw [eM_38, up2_n _ _ (by decide)]; exact hk_M_37
  refine lv_iconst (v := 0) hx hb dX7_carryAll_115 (by decide) ?_
  refine lv_istore_n (lv' := [(3, .int 0), (0, .ref (ad 0)), (1, .ref (ad rr)), (2, .int a2)]) hx hb dX7_carryAll_116 rfl hl (by decide) rfl (fun ls hl => ?_)
  obtain ⟨M_57, hr_50, he⟩ := bnd_ex he
  have j145 : ∀ (H : Heap) (locs : List Loc) (ls : Array Slot), va_P D vwCl (wld 31 ad (cM ad k M_57)) H → va_S (AW 31 ad) s.heap H locs → lv_has ls 4 [] → W p l e rm_X7_carryAll s m args below meth c H locs 0 0 Q (F0 m 145 ls []) := by
    intro H locs ls hP hS hl
    exact hret _ _ _ _ _ (hV.trans he.symm) hP hS dX7_carryAll_145
  have lp117 : ∀ (nn : Nat) (H : Heap) (locs : List Loc) (ls : Array Slot) (M_49 : Mem) (v_48 : Int32), (0 ≤ v_48.toInt) → (M_49 0 38 = 1 ∨ M_49 0 38 = 2) → ((M_49 0 36).toInt = 48 + 1 * v_48.toInt) → (100 - v_48.toInt).toNat < nn → lp_X7_carryAll_117 nn M_49 v_48 = M_57 → va_P D vwCl (wld 31 ad (cM ad k M_49)) H → va_S (AW 31 ad) s.heap H locs → lv_has ls 4 [(0, .ref (ad 0)), (3, .int v_48)] → W p l e rm_X7_carryAll s m args below meth c H locs 0 0 Q (F0 m 117 ls []) := by
    intro nn
    induction nn with
    | zero =>
      intro H locs ls M_49 v_48 h0v_48 hk_M_49 hp_M_49 hμ
      exact absurd hμ (Nat.not_lt_zero _)
    | succ nn ih =>
      intro H locs ls M_49 v_48 h0v_48 hk_M_49 hp_M_49 hμ hr_50 hP hS hl
      rw [lp_X7_carryAll_117] at hr_50
      refine lv_iload_n hx hb dX7_carryAll_117 rfl (lv_at hl 1 rfl) ?_
      refine lv_bipush (v := 100) hx hb dX7_carryAll_118 (by decide) ?_
      refine lv_icmp_ge (tgt := 145) hx hb dX7_carryAll_120 (by decide) (fun hc_51 => ?_) (fun hc_51 => ?_)
      · have hr_50 := ite_t hr_50 hc_51
        cases hr_50
        exact j145 _ _ _ hP hS (lv_sub hl [] rfl)
      · have hr_50 := ite_f hr_50 hc_51
        refine lv_aload_n hx hb dX7_carryAll_123 rfl (lv_at hl 0 rfl) ?_
        refine gX7_6 hx hb hG hown hK hP gw_4_13 dX7_carryAll_124 ?_
        refine lv_iload_n hx hb dX7_carryAll_127 rfl (lv_at hl 1 rfl) ?_
        refine lv_aload_n hx hb dX7_carryAll_128 rfl (lv_at hl 0 rfl) ?_
        refine lv_aload_n hx hb dX7_carryAll_129 rfl (lv_at hl 0 rfl) ?_
        refine gX7_6 hx hb hG hown hK hP gw_4_13 dX7_carryAll_130 ?_
        refine lv_iload_n hx hb dX7_carryAll_133 rfl (lv_at hl 1 rfl) ?_
        refine al_M1 hx hb hK hP (vin_I (by have q0 : v_48.toInt < 100 := nle_I hc_51; omega) (by have q0 : v_48.toInt < 100 := nle_I hc_51; omega)) dX7_carryAll_134 ?_
        refine call_i [.int (M_49 1 v_48.toNatClampNeg)] [.int v_48, .ref (ad 1)] hx hb hml hG hown hK (c_X7_carry had M_49 (M_49 1 v_48.toNatClampNeg) hk_M_49 (by have q0 : v_48.toInt < 100 := nle_I hc_51; omega)) gw_29_3 gm_X7_carry gd_X7_carry rfl rfl ⟨Nat.le_of_ble_eq_true rfl, Nat.le_of_ble_eq_true rfl⟩ ⟨Nat.le_refl _, Nat.le_refl _⟩ (rX7 hK hP) hP (fun _ h => h) hS rfl hl.1 rfl (Nat.le_of_ble_eq_true rfl) dX7_carryAll_135 (fun r_52 M_54 H locs hF_53 hP hS => ?_)
        have hr_50 := bnd2_at hr_50 hF_53
        have hpk_M_54 := carry_at (by have q0 : v_48.toInt < 100 := nle_I hc_51; omega) hF_53
        have hp_M_54 := hpk_M_54.1
        have hk_M_54 : M_54 0 38 = 1 ∨ M_54 0 38 = 2 := by rw [hpk_M_54.2]; exact hk_M_49
        refine as_M1 hx hb hK hP had AW_in hS (vin_I (by have q0 : v_48.toInt < 100 := nle_I hc_51; omega) (by have q0 : v_48.toInt < 100 := nle_I hc_51; omega)) dX7_carryAll_138 (fun H locs hP hS => ?_)
        obtain ⟨M_55, eM_55⟩ : ∃ y : Mem, y = up2 M_54 1 v_48.toNatClampNeg r_52 := ⟨_, rfl⟩
        rw [← eM_55] at hP
        have hr_50 := bnd_at hr_50 eM_55
        have hp_M_55 : (M_55 0 36).toInt = (M_54 0 36).toInt := by rw [eM_55, up2_o _ _ (by decide)]
        have hk_M_55 : M_55 0 38 = 1 ∨ M_55 0 38 = 2 := by rw [eM_55, up2_o _ _ (by decide)]; exact hk_M_54
        obtain ⟨y_56, ey_56⟩ : ∃ y_56 : Int32, y_56 = v_48 + 1 := ⟨_, rfl⟩
        have hr_50 := bnd_at hr_50 ey_56
        refine lv_iinc (v := y_56) (lv' := [(3, .int y_56), (0, .ref (ad 0))]) hx hb dX7_carryAll_139 hl (k := 1) rfl (by rw [ey_56]; rfl) (by decide) rfl (fun ls hl => ?_)
        refine lv_goto (tgt := 117) hx hb dX7_carryAll_142 (by decide) ?_
        exact ih _ _ _ _ _ (by rw [ey_56, inc_I (N := 100) (nle_I hc_51) (by decide)]; omega) hk_M_55 (by rw [ey_56, inc_I (nle_I hc_51) (by decide)]; omega) (by rw [ey_56]; exact mu_I hμ (nle_I hc_51) (by decide)) hr_50 hP hS (lv_sub hl [1, 0] rfl)
  exact lp117 _ _ _ _ _ _ (by decide) hk_M_38 (by first | (rw [Int32.toInt_zero]; omega) | omega) (by decide) hr_50 hP hS (lv_sub hl [1, 0] rfl)
def rm_X7_open : Room := { frames := 3, cells := 0, slots := 0, locals := 65 }
theorem gm_X7_open : Cond.instanceMethod yX7_open ∈ wsL_law ∧ Cond.selects RX7 yX7_open yX7_open ∈ wsL_law ∧ Cond.initialized RX7 ∈ wsL_law ∧ Cond.code yX7_open cX7_open 1 none ∈ wsL_law := ⟨gw_28_17, gw_28_18, gw_1_5, gw_28_19⟩
theorem gd_X7_open : yX7_open.cls = RX7 ∧ yX7_open.cls ≠ "java/lang/invoke/MethodHandle" ∧ yX7_open.cls ≠ "java/lang/invoke/VarHandle" ∧ (parseMethodDescriptor yX7_open.desc).map (fun d => d.parameters.length) = some 0 := by decide +kernel
set_option maxRecDepth 100000 in
set_option maxHeartbeats 0 in
theorem c_X7_open {l : Launch} {D : va_G} {k : Nat → ClassId} {ad : Nat → Nat} (had : InjN 31 ad) (M : Mem) (hI : MI M) : Met l yX7_open (Cond.code yX7_open cX7_open 1 none :: wsL_law) rm_X7_open (va_Pc [.ref (ad 0)] (GW 31 ad D k (cM ad k M))) (va_Qv (fun u => (f_X7_open M = u ∧ TI M u ∧ SN (u 20))) (fun u t => GW 31 ad D k (cM ad k u) t) (AW 31 ad)) 0 0 (AW 31 ad) := by
  refine met_v (g := cM ad k) (M := M) (plainFor_of_name (by decide)) (Nat.le_of_ble_eq_true rfl) ?_
  intro p e s m args below meth c Q ls hx hb hml hG hown hK hret hP hS hl
  have hl : lv_has ls 1 [(0, .ref (ad 0))] := hl
  obtain ⟨V, hV⟩ : ∃ V, f_X7_open M = V := ⟨_, rfl⟩
  have he := hV
  unfold f_X7_open at he
  have hT0 : TI M M := TI_rf hI
  have qb_M := hI.1
  have qs_M := hI.2.1
  have qz_M := hI.2.2.1
  refine lv_aload_n hx hb dX7_open_0 rfl (lv_at hl 0 rfl) ?_
  refine lv_aload_n hx hb dX7_open_1 rfl (lv_at hl 0 rfl) ?_
  refine gX7_33 hx hb hG hown hK hP gw_5_8 dX7_open_2 ?_
  refine lv_iconst (v := 1) hx hb dX7_open_5 (by decide) ?_
  refine call_v [.ref (ad 20), .int 1] [] hx hb hml hG hown hK (c_X7_carryAll had M 1 (by decide) 1 (Or.inr rfl)) gw_28_20 gm_X7_carryAll gd_X7_carryAll rfl rfl ⟨Nat.le_of_ble_eq_true rfl, Nat.le_of_ble_eq_true rfl⟩ ⟨Nat.le_refl _, Nat.le_refl _⟩ (rX7 hK hP) hP (fun _ h => h) hS rfl hl.1 rfl (Nat.le_of_ble_eq_true rfl) dX7_open_6 (fun M_3 H locs hF_2 hP hS => ?_)
  have he := bnd_at he hF_2.symm
  exact hret _ _ _ _ _ ⟨(hV.trans he.symm), ti_open hI (hV.trans he.symm)⟩ hP hS dX7_open_9
def rm_X7_close : Room := { frames := 3, cells := 0, slots := 0, locals := 65 }
theorem gm_X7_close : Cond.instanceMethod yX7_close ∈ wsL_law ∧ Cond.selects RX7 yX7_close yX7_close ∈ wsL_law ∧ Cond.initialized RX7 ∈ wsL_law ∧ Cond.code yX7_close cX7_close 1 none ∈ wsL_law := ⟨gw_29_16, gw_29_17, gw_1_5, gw_29_18⟩
theorem gd_X7_close : yX7_close.cls = RX7 ∧ yX7_close.cls ≠ "java/lang/invoke/MethodHandle" ∧ yX7_close.cls ≠ "java/lang/invoke/VarHandle" ∧ (parseMethodDescriptor yX7_close.desc).map (fun d => d.parameters.length) = some 0 := by decide +kernel
set_option maxRecDepth 100000 in
set_option maxHeartbeats 0 in
theorem c_X7_close {l : Launch} {D : va_G} {k : Nat → ClassId} {ad : Nat → Nat} (had : InjN 31 ad) (M : Mem) (hI : MI M) (hN : SN (M 20)) : Met l yX7_close (Cond.code yX7_close cX7_close 1 none :: wsL_law) rm_X7_close (va_Pc [.ref (ad 0)] (GW 31 ad D k (cM ad k M))) (va_Qv (fun u => (f_X7_close M = u ∧ TI M u)) (fun u t => GW 31 ad D k (cM ad k u) t) (AW 31 ad)) 0 0 (AW 31 ad) := by
  refine met_v (g := cM ad k) (M := M) (plainFor_of_name (by decide)) (Nat.le_of_ble_eq_true rfl) ?_
  intro p e s m args below meth c Q ls hx hb hml hG hown hK hret hP hS hl
  have hl : lv_has ls 1 [(0, .ref (ad 0))] := hl
  obtain ⟨V, hV⟩ : ∃ V, f_X7_close M = V := ⟨_, rfl⟩
  have he := hV
  unfold f_X7_close at he
  have hT0 : TI M M := TI_rf hI
  have qb_M := hI.1
  have qs_M := hI.2.1
  have qz_M := hI.2.2.1
  refine lv_aload_n hx hb dX7_close_0 rfl (lv_at hl 0 rfl) ?_
  refine lv_aload_n hx hb dX7_close_1 rfl (lv_at hl 0 rfl) ?_
  refine gX7_33 hx hb hG hown hK hP gw_5_8 dX7_close_2 ?_
  refine lv_iconst (v := 0) hx hb dX7_close_5 (by decide) ?_
  refine call_v [.ref (ad 20), .int 0] [] hx hb hml hG hown hK (c_X7_carryAll had M 1 (by decide) 0 (Or.inl rfl)) gw_28_20 gm_X7_carryAll gd_X7_carryAll rfl rfl ⟨Nat.le_of_ble_eq_true rfl, Nat.le_of_ble_eq_true rfl⟩ ⟨Nat.le_refl _, Nat.le_refl _⟩ (rX7 hK hP) hP (fun _ h => h) hS rfl hl.1 rfl (Nat.le_of_ble_eq_true rfl) dX7_close_6 (fun M_3 H locs hF_2 hP hS => ?_)
  have he := bnd_at he hF_2.symm
  exact hret _ _ _ _ _ ⟨(hV.trans he.symm), ti_close hI hN (hV.trans he.symm)⟩ hP hS dX7_close_9
