-- @needs 12_dec 13_dec 14_dec 15_dec 31_hC 43_cC
def rm_X3_enter : Room := { frames := 2, cells := 0, slots := 0, locals := 42 }
theorem gm_X3_enter : Cond.instanceMethod yX3_enter ∈ wsL_law ∧ Cond.selects RX3 yX3_enter yX3_enter ∈ wsL_law ∧ Cond.initialized RX3 ∈ wsL_law ∧ Cond.code yX3_enter cX3_enter 6 (some .int) ∈ wsL_law := ⟨gw_14_3, gw_14_4, gw_1_19, gw_14_5⟩
theorem gd_X3_enter : yX3_enter.cls = RX3 ∧ yX3_enter.cls ≠ "java/lang/invoke/MethodHandle" ∧ yX3_enter.cls ≠ "java/lang/invoke/VarHandle" ∧ (parseMethodDescriptor yX3_enter.desc).map (fun d => d.parameters.length) = some 4 := by decide +kernel
set_option maxRecDepth 100000 in
set_option maxHeartbeats 0 in
theorem c_X3_enter {l : Launch} {D : va_G} {k : Nat → ClassId} {ad : Nat → Nat} (had : InjN 74 ad) (M : Mem) (o : Nat) (ho : kRace o) (a1 : Int32) (a2 : Int32) (a3 : Int32) (ha3 : a3 = 0 ∨ a3 = 1) (a4 : Int32) : Met l yX3_enter (Cond.code yX3_enter cX3_enter 6 (some .int) :: wsL_law) rm_X3_enter (va_Pc [.ref (ad o), .int a1, .int a2, .int a3, .int a4] (GW 74 ad D k (cC ad k M))) (va_Qi (fun r u => f_X3_enter M o a1 a2 a3 a4 = (r, u)) (fun u t => GW 74 ad D k (cC ad k u) t) (AW 74 ad)) 0 0 (AW 74 ad) := by
  refine met_i (g := cC ad k) (M := M) (plainFor_of_name (by decide)) (Nat.le_of_ble_eq_true rfl) ?_
  intro p e s m args below meth c Q ls hx hb hml hG hown hK hret hP hS hl
  have hl : lv_has ls 6 [(0, .ref (ad o)), (1, .int a1), (2, .int a2), (3, .int a3), (4, .int a4)] := hl
  obtain ⟨V, hV⟩ : ∃ V, f_X3_enter M o a1 a2 a3 a4 = V := ⟨_, rfl⟩
  have he := hV
  unfold f_X3_enter at he
  refine lv_aload_n hx hb dX3_enter_0 rfl (lv_at hl 0 rfl) ?_
  refine gX3_1 hx hb hG hown hK hP ho gw_6_7 dX3_enter_1 ?_
  refine lv_if_lt (tgt := 14) hx hb dX3_enter_4 (by decide) (fun hc_1 => ?_) (fun hc_1 => ?_)
  · have he := ite_t he hc_1
    refine lv_bipush (v := (-2)) hx hb dX3_enter_14 (by decide) ?_
    exact hret _ _ _ _ _ _ (hV.trans he.symm) hP hS dX3_enter_16
  · have he := ite_f he hc_1
    refine lv_aload_n hx hb dX3_enter_7 rfl (lv_at hl 0 rfl) ?_
    refine call_i [] [] hx hb hml hG hown hK (c_X3_isFull had M o ho) gw_14_8 gm_X3_isFull gd_X3_isFull rfl rfl ⟨Nat.le_of_ble_eq_true rfl, Nat.le_of_ble_eq_true rfl⟩ ⟨Nat.le_refl _, Nat.le_refl _⟩ (rX3 hK hP ho) hP (fun _ h => h) hS rfl hl.1 rfl (Nat.le_of_ble_eq_true rfl) dX3_enter_8 (fun r_2 u_4 H locs hF_3 hP hS => ?_)
    obtain ⟨hz_5, hF_3, hu⟩ := hF_3; rw [hu] at hP; subst hF_3
    refine lv_if_eq (tgt := 17) hx hb dX3_enter_11 (by decide) (fun hc_6 => ?_) (fun hc_6 => ?_)
    · have he := ite_t he hc_6
      refine lv_aload_n hx hb dX3_enter_17 rfl (lv_at hl 0 rfl) ?_
      refine gX3_0 hx hb hG hown hK hP ho gw_3_9 dX3_enter_18 ?_
      refine lv_aload_n hx hb dX3_enter_21 rfl (lv_at hl 0 rfl) ?_
      refine gX3_1 hx hb hG hown hK hP ho gw_6_7 dX3_enter_22 ?_
      have hn_7 : vp_in (M o 1) 4 := (vin_I (by have := nlt_I hc_1; rw [Int32.toInt_zero] at this; omega) (notFull hc_6))
      refine al_kBts hx hb hK hP (kR_bts ho) hn_7 dX3_enter_25 ?_
      refine lv_astore (lv' := [(5, .ref (ad (4 * (o + 3) - 45 + (M o 1).toNatClampNeg))), (0, .ref (ad o)), (1, .int a1), (2, .int a2), (3, .int a3), (4, .int a4)]) hx hb dX3_enter_26 hl (by decide) rfl (fun ls hl => ?_)
      refine lv_aload hx hb dX3_enter_28 (lv_at hl 0 rfl) ?_
      refine gX1_0 hx hb hG hown hK hP (kR_boat (kR_bts ho) hn_7) gw_14_6 dX3_enter_30 ?_
      refine lv_iload_n hx hb dX3_enter_33 rfl (lv_at hl 2 rfl) ?_
      refine lv_iload hx hb dX3_enter_34 (lv_at hl 5 rfl) ?_
      refine lv_aload_n hx hb dX3_enter_36 rfl (lv_at hl 1 rfl) ?_
      refine gX3_1 hx hb hG hown hK hP ho gw_6_7 dX3_enter_37 ?_
      refine call_v [.int a1, .int a4, .int (M o 1)] [] hx hb hml hG hown hK (c_X4_become had M ((4 * (o + 3) - 45 + (M o 1).toNatClampNeg) + 12) (kR_slr (kR_boat (kR_bts ho) hn_7)) a1 a4 (M o 1)) gw_14_9 gm_X4_become gd_X4_become rfl rfl ⟨Nat.le_of_ble_eq_true rfl, Nat.le_of_ble_eq_true rfl⟩ ⟨Nat.le_refl _, Nat.le_refl _⟩ (rX4 hK hP (kR_slr (kR_boat (kR_bts ho) hn_7))) hP (fun _ h => h) hS rfl hl.1 rfl (Nat.le_of_ble_eq_true rfl) dX3_enter_40 (fun M_10 H locs hF_9 hP hS => ?_)
      have he := bnd_at he hF_9.symm
      refine lv_aload hx hb dX3_enter_43 (lv_at hl 0 rfl) ?_
      refine lv_iload_n hx hb dX3_enter_45 rfl (lv_at hl 3 rfl) ?_
      refine lv_iload_n hx hb dX3_enter_46 rfl (lv_at hl 4 rfl) ?_
      refine call_v [.int a2, .int a3] [] hx hb hml hG hown hK (c_X1_comeToStart had M_10 (4 * (o + 3) - 45 + (M o 1).toNatClampNeg) (kR_boat (kR_bts ho) hn_7) a2 a3 ha3) gw_14_16 gm_X1_comeToStart gd_X1_comeToStart rfl rfl ⟨Nat.le_of_ble_eq_true rfl, Nat.le_of_ble_eq_true rfl⟩ ⟨Nat.le_refl _, Nat.le_refl _⟩ (rX1 hK hP (kR_boat (kR_bts ho) hn_7)) hP (fun _ h => h) hS rfl hl.1 rfl (Nat.le_of_ble_eq_true rfl) dX3_enter_47 (fun M_13 H locs hF_12 hP hS => ?_)
      have he := bnd_at he hF_12.symm
      refine lv_aload_n hx hb dX3_enter_50 rfl (lv_at hl 1 rfl) ?_
      refine lv_dup hx hb dX3_enter_51 rfl ?_
      refine gX3_1 hx hb hG hown hK hP ho gw_6_7 dX3_enter_52 ?_
      refine lv_iconst (v := 1) hx hb dX3_enter_55 (by decide) ?_
      refine lv_iadd hx hb dX3_enter_56 ?_
      refine pX3_1 hx hb hG hown hK hP had AW_in hS ho gw_6_7 dX3_enter_57 (fun H locs hP hS => ?_)
      obtain ⟨M_14, eM_14⟩ : ∃ y : Mem, y = up2 M_13 o 1 ((M_13 o 1) + 1) := ⟨_, rfl⟩
      rw [← eM_14] at hP
      have he := bnd_at he eM_14
      refine lv_aload hx hb dX3_enter_60 (lv_at hl 0 rfl) ?_
      refine gX1_0 hx hb hG hown hK hP (kR_boat (kR_bts ho) hn_7) gw_14_6 dX3_enter_62 ?_
      refine gX4_2 hx hb hG hown hK hP (kR_slr (kR_boat (kR_bts ho) hn_7)) gw_14_7 dX3_enter_65 ?_
      exact hret _ _ _ _ _ _ (hV.trans he.symm) hP hS dX3_enter_68
    · have he := ite_f he hc_6
      refine lv_bipush (v := (-2)) hx hb dX3_enter_14 (by decide) ?_
      exact hret _ _ _ _ _ _ (hV.trans he.symm) hP hS dX3_enter_16
def rm_X6_boat : Room := { frames := 3, cells := 0, slots := 0, locals := 67 }
theorem gm_X6_boat : Cond.instanceMethod yX6_boat ∈ wsL_law ∧ Cond.selects RX6 yX6_boat yX6_boat ∈ wsL_law ∧ Cond.initialized RX6 ∈ wsL_law ∧ Cond.code yX6_boat cX6_boat 5 (some .int) ∈ wsL_law := ⟨gw_13_15, gw_13_16, gw_1_2, gw_13_17⟩
theorem gd_X6_boat : yX6_boat.cls = RX6 ∧ yX6_boat.cls ≠ "java/lang/invoke/MethodHandle" ∧ yX6_boat.cls ≠ "java/lang/invoke/VarHandle" ∧ (parseMethodDescriptor yX6_boat.desc).map (fun d => d.parameters.length) = some 4 := by decide +kernel
set_option maxRecDepth 100000 in
set_option maxHeartbeats 0 in
theorem c_X6_boat {l : Launch} {D : va_G} {k : Nat → ClassId} {ad : Nat → Nat} (had : InjN 74 ad) (M : Mem) (a1 : Int32) (a2 : Int32) (a3 : Int32) (ha3 : a3 = 0 ∨ a3 = 1) (a4 : Int32) : Met l yX6_boat (Cond.code yX6_boat cX6_boat 5 (some .int) :: wsL_law) rm_X6_boat (va_Pc [.ref (ad 0), .int a1, .int a2, .int a3, .int a4] (GW 74 ad D k (cC ad k M))) (va_Qi (fun r u => f_X6_boat M a1 a2 a3 a4 = (r, u)) (fun u t => GW 74 ad D k (cC ad k u) t) (AW 74 ad)) 0 0 (AW 74 ad) := by
  refine met_i (g := cC ad k) (M := M) (plainFor_of_name (by decide)) (Nat.le_of_ble_eq_true rfl) ?_
  intro p e s m args below meth c Q ls hx hb hml hG hown hK hret hP hS hl
  have hl : lv_has ls 5 [(0, .ref (ad 0)), (1, .int a1), (2, .int a2), (3, .int a3), (4, .int a4)] := hl
  obtain ⟨V, hV⟩ : ∃ V, f_X6_boat M a1 a2 a3 a4 = V := ⟨_, rfl⟩
  have he := hV
  unfold f_X6_boat at he
  refine lv_iload_n hx hb dX6_boat_0 rfl (lv_at hl 1 rfl) ?_
  refine lv_if_lt (tgt := 29) hx hb dX6_boat_1 (by decide) (fun hc_1 => ?_) (fun hc_1 => ?_)
  · have he := ite_t he hc_1
    refine lv_iconst (v := (-1)) hx hb dX6_boat_29 (by decide) ?_
    exact hret _ _ _ _ _ _ (hV.trans he.symm) hP hS dX6_boat_30
  · have he := ite_f he hc_1
    refine lv_iload_n hx hb dX6_boat_4 rfl (lv_at hl 1 rfl) ?_
    refine lv_bipush (v := 7) hx hb dX6_boat_5 (by decide) ?_
    refine lv_icmp_gt (tgt := 29) hx hb dX6_boat_7 (by decide) (fun hc_2 => ?_) (fun hc_2 => ?_)
    · have he := ite_t he hc_2
      refine lv_iconst (v := (-1)) hx hb dX6_boat_29 (by decide) ?_
      exact hret _ _ _ _ _ _ (hV.trans he.symm) hP hS dX6_boat_30
    · have he := ite_f he hc_2
      refine lv_iload_n hx hb dX6_boat_10 rfl (lv_at hl 2 rfl) ?_
      refine callS_i [.int a2] [] hx hb hml hG hown hK (c_X6_isInBay had (M := M)  a2) gw_13_19 gm_X6_isInBay gd_X6_isInBay rfl rfl ⟨Nat.le_of_ble_eq_true rfl, Nat.le_of_ble_eq_true rfl⟩ ⟨Nat.le_refl _, Nat.le_refl _⟩ hP (fun _ h => h) hS rfl hl.1 rfl (Nat.le_of_ble_eq_true rfl) dX6_boat_11 (fun r_3 u_5 H locs hF_4 hP hS => ?_)
      obtain ⟨hz_6, hF_4, hu⟩ := hF_4; rw [hu] at hP; subst hF_4
      refine lv_if_eq (tgt := 29) hx hb dX6_boat_14 (by decide) (fun hc_7 => ?_) (fun hc_7 => ?_)
      · have he := ite_t he hc_7
        refine lv_iconst (v := (-1)) hx hb dX6_boat_29 (by decide) ?_
        exact hret _ _ _ _ _ _ (hV.trans he.symm) hP hS dX6_boat_30
      · have he := ite_f he hc_7
        refine lv_iload hx hb dX6_boat_17 (lv_at hl 4 rfl) ?_
        refine lv_if_lt (tgt := 29) hx hb dX6_boat_19 (by decide) (fun hc_8 => ?_) (fun hc_8 => ?_)
        · have he := ite_t he hc_8
          refine lv_iconst (v := (-1)) hx hb dX6_boat_29 (by decide) ?_
          exact hret _ _ _ _ _ _ (hV.trans he.symm) hP hS dX6_boat_30
        · have he := ite_f he hc_8
          refine lv_iload hx hb dX6_boat_22 (lv_at hl 4 rfl) ?_
          refine lv_bipush (v := 40) hx hb dX6_boat_24 (by decide) ?_
          refine lv_icmp_le (tgt := 31) hx hb dX6_boat_26 (by decide) (fun hc_9 => ?_) (fun hc_9 => ?_)
          · have he := ite_t he hc_9
            refine lv_aload_n hx hb dX6_boat_31 rfl (lv_at hl 0 rfl) ?_
            refine gX6_1 hx hb hG hown hK hP rfl gw_1_20 dX6_boat_32 ?_
            refine call_i [] [] hx hb hml hG hown hK (c_X3_isFull had M 13 (by decide)) gw_13_22 gm_X3_isFull gd_X3_isFull rfl rfl ⟨Nat.le_of_ble_eq_true rfl, Nat.le_of_ble_eq_true rfl⟩ ⟨Nat.le_refl _, Nat.le_refl _⟩ (rX3 hK hP (by decide)) hP (fun _ h => h) hS rfl hl.1 rfl (Nat.le_of_ble_eq_true rfl) dX6_boat_35 (fun r_10 u_12 H locs hF_11 hP hS => ?_)
            obtain ⟨hz_13, hF_11, hu⟩ := hF_11; rw [hu] at hP; subst hF_11
            refine lv_if_eq (tgt := 44) hx hb dX6_boat_38 (by decide) (fun hc_14 => ?_) (fun hc_14 => ?_)
            · have he := ite_t he hc_14
              refine lv_aload_n hx hb dX6_boat_44 rfl (lv_at hl 0 rfl) ?_
              refine gX6_1 hx hb hG hown hK hP rfl gw_1_20 dX6_boat_45 ?_
              refine gX3_2 hx hb hG hown hK hP (by decide) gw_13_18 dX6_boat_48 ?_
              refine lv_if_le (tgt := 57) hx hb dX6_boat_51 (by decide) (fun hc_15 => ?_) (fun hc_15 => ?_)
              · have he := ite_t he hc_15
                refine lv_aload_n hx hb dX6_boat_57 rfl (lv_at hl 0 rfl) ?_
                refine gX6_1 hx hb hG hown hK hP rfl gw_1_20 dX6_boat_58 ?_
                refine lv_iload_n hx hb dX6_boat_61 rfl (lv_at hl 1 rfl) ?_
                refine lv_iload_n hx hb dX6_boat_62 rfl (lv_at hl 2 rfl) ?_
                refine lv_iload_n hx hb dX6_boat_63 rfl (lv_at hl 3 rfl) ?_
                refine lv_iload hx hb dX6_boat_64 (lv_at hl 4 rfl) ?_
                refine call_i [.int a1, .int a2, .int a3, .int a4] [] hx hb hml hG hown hK (c_X3_enter had M 13 (by decide) a1 a2 a3 ha3 a4) gw_14_2 gm_X3_enter gd_X3_enter rfl rfl ⟨Nat.le_of_ble_eq_true rfl, Nat.le_of_ble_eq_true rfl⟩ ⟨Nat.le_refl _, Nat.le_refl _⟩ (rX3 hK hP (by decide)) hP (fun _ h => h) hS rfl hl.1 rfl (Nat.le_of_ble_eq_true rfl) dX6_boat_66 (fun r_16 M_18 H locs hF_17 hP hS => ?_)
                have he := bnd2_at he hF_17
                exact hret _ _ _ _ _ _ (hV.trans he.symm) hP hS dX6_boat_69
              · have he := ite_f he hc_15
                refine lv_bipush (v := (-3)) hx hb dX6_boat_54 (by decide) ?_
                exact hret _ _ _ _ _ _ (hV.trans he.symm) hP hS dX6_boat_56
            · have he := ite_f he hc_14
              refine lv_bipush (v := (-2)) hx hb dX6_boat_41 (by decide) ?_
              exact hret _ _ _ _ _ _ (hV.trans he.symm) hP hS dX6_boat_43
          · have he := ite_f he hc_9
            refine lv_iconst (v := (-1)) hx hb dX6_boat_29 (by decide) ?_
            exact hret _ _ _ _ _ _ (hV.trans he.symm) hP hS dX6_boat_30
def rm_X3_boatAt : Room := { frames := 0, cells := 0, slots := 0, locals := 0 }
theorem gm_X3_boatAt : Cond.instanceMethod yX3_boatAt ∈ wsL_law ∧ Cond.selects RX3 yX3_boatAt yX3_boatAt ∈ wsL_law ∧ Cond.initialized RX3 ∈ wsL_law ∧ Cond.code yX3_boatAt cX3_boatAt 2 (some (.object "WindBay$Boat")) ∈ wsL_law := ⟨gw_16_3, gw_16_4, gw_1_19, gw_16_5⟩
theorem gd_X3_boatAt : yX3_boatAt.cls = RX3 ∧ yX3_boatAt.cls ≠ "java/lang/invoke/MethodHandle" ∧ yX3_boatAt.cls ≠ "java/lang/invoke/VarHandle" ∧ (parseMethodDescriptor yX3_boatAt.desc).map (fun d => d.parameters.length) = some 1 := by decide +kernel
set_option maxRecDepth 100000 in
set_option maxHeartbeats 0 in
theorem c_X3_boatAt {l : Launch} {D : va_G} {k : Nat → ClassId} {ad : Nat → Nat} (had : InjN 74 ad) (M : Mem) (o : Nat) (ho : kRace o) (a1 : Int32) : Met l yX3_boatAt (Cond.code yX3_boatAt cX3_boatAt 2 (some (.object "WindBay$Boat")) :: wsL_law) rm_X3_boatAt (va_Pc [.ref (ad o), .int a1] (GW 74 ad D k (cC ad k M))) (va_Qe ad (fun r u => (∀ i, r = some i → kBoat i) ∧ f_X3_boatAt M o a1 = r ∧ u = M) (fun u t => GW 74 ad D k (cC ad k u) t) (AW 74 ad)) 0 0 (AW 74 ad) := by
  refine met_e (g := cC ad k) (M := M) (rt := (.object "WindBay$Boat")) (Or.inl ⟨_, rfl⟩) (plainFor_of_name (by decide)) (Nat.le_of_ble_eq_true rfl) ?_
  intro p e s m args below meth c Q ls hx hb hml hG hown hK hret hP hS hl
  have hl : lv_has ls 2 [(0, .ref (ad o)), (1, .int a1)] := hl
  obtain ⟨V, hV⟩ : ∃ V, f_X3_boatAt M o a1 = V := ⟨_, rfl⟩
  have he := hV
  unfold f_X3_boatAt at he
  refine lv_iload_n hx hb dX3_boatAt_0 rfl (lv_at hl 1 rfl) ?_
  obtain ⟨t_6, hr_2, he⟩ := bnd_ex he
  have j31 : ∀ (H : Heap) (locs : List Loc) (ls : Array Slot), (∀ i, t_6 = some i → kBoat i) → va_P D vwCl (wld 74 ad (cC ad k M)) H → va_S (AW 74 ad) s.heap H locs → lv_has ls 2 [] → W p l e rm_X3_boatAt s m args below meth c H locs 0 0 Q (F0 m 31 ls [va_re ad t_6]) := by
    intro H locs ls zt_6 hP hS hl
    exact hret _ _ _ _ (t_6) _ ⟨zt_6, hV.trans he.symm, rfl⟩ hP hS dX3_boatAt_31
  refine lv_if_lt (tgt := 30) hx hb dX3_boatAt_1 (by decide) (fun hc_1 => ?_) (fun hc_1 => ?_)
  · have hr_2 := ite_t hr_2 hc_1
    refine lv_null hx hb dX3_boatAt_30 ?_
    cases hr_2
    exact j31 _ _ _ (fun _ h => nomatch h) hP hS (lv_sub hl [] rfl)
  · have hr_2 := ite_f hr_2 hc_1
    refine lv_iload_n hx hb dX3_boatAt_4 rfl (lv_at hl 1 rfl) ?_
    refine lv_aload_n hx hb dX3_boatAt_5 rfl (lv_at hl 0 rfl) ?_
    refine gX3_1 hx hb hG hown hK hP ho gw_6_7 dX3_boatAt_6 ?_
    refine lv_icmp_ge (tgt := 30) hx hb dX3_boatAt_9 (by decide) (fun hc_3 => ?_) (fun hc_3 => ?_)
    · have hr_2 := ite_t hr_2 hc_3
      refine lv_null hx hb dX3_boatAt_30 ?_
      cases hr_2
      exact j31 _ _ _ (fun _ h => nomatch h) hP hS (lv_sub hl [] rfl)
    · have hr_2 := ite_f hr_2 hc_3
      refine lv_iload_n hx hb dX3_boatAt_12 rfl (lv_at hl 1 rfl) ?_
      refine lv_aload_n hx hb dX3_boatAt_13 rfl (lv_at hl 0 rfl) ?_
      refine gX3_0 hx hb hG hown hK hP ho gw_3_9 dX3_boatAt_14 ?_
      refine an_kBts hx hb hK hP (kR_bts ho) dX3_boatAt_17 ?_
      refine lv_icmp_ge (tgt := 30) hx hb dX3_boatAt_18 (by decide) (fun hc_4 => ?_) (fun hc_4 => ?_)
      · have hr_2 := ite_t hr_2 hc_4
        refine lv_null hx hb dX3_boatAt_30 ?_
        cases hr_2
        exact j31 _ _ _ (fun _ h => nomatch h) hP hS (lv_sub hl [] rfl)
      · have hr_2 := ite_f hr_2 hc_4
        refine lv_aload_n hx hb dX3_boatAt_21 rfl (lv_at hl 0 rfl) ?_
        refine gX3_0 hx hb hG hown hK hP ho gw_3_9 dX3_boatAt_22 ?_
        refine lv_iload_n hx hb dX3_boatAt_25 rfl (lv_at hl 1 rfl) ?_
        have hn_5 : vp_in a1 4 := (vin_I (by have q0 : 0 ≤ a1.toInt := nlt_I hc_1; have q1 : a1.toInt < (M o 1).toInt := nle_I hc_3; have q2 : a1.toInt < 4 := nle_I hc_4; omega) (by have q0 : 0 ≤ a1.toInt := nlt_I hc_1; have q1 : a1.toInt < (M o 1).toInt := nle_I hc_3; have q2 : a1.toInt < 4 := nle_I hc_4; omega))
        refine al_kBts hx hb hK hP (kR_bts ho) hn_5 dX3_boatAt_26 ?_
        refine lv_goto (tgt := 31) hx hb dX3_boatAt_27 (by decide) ?_
        cases hr_2
        exact j31 _ _ _ (fun _ h => by cases h; exact (kR_boat (kR_bts ho) hn_5)) hP hS (lv_sub hl [] rfl)
def rm_X1_tells : Room := { frames := 0, cells := 0, slots := 0, locals := 0 }
theorem gm_X1_tells : Cond.instanceMethod yX1_tells ∈ wsL_law ∧ Cond.selects RX1 yX1_tells yX1_tells ∈ wsL_law ∧ Cond.initialized RX1 ∈ wsL_law ∧ Cond.code yX1_tells cX1_tells 2 (some .int) ∈ wsL_law := ⟨gw_16_7, gw_16_8, gw_3_11, gw_16_9⟩
theorem gd_X1_tells : yX1_tells.cls = RX1 ∧ yX1_tells.cls ≠ "java/lang/invoke/MethodHandle" ∧ yX1_tells.cls ≠ "java/lang/invoke/VarHandle" ∧ (parseMethodDescriptor yX1_tells.desc).map (fun d => d.parameters.length) = some 1 := by decide +kernel
set_option maxRecDepth 100000 in
set_option maxHeartbeats 0 in
theorem c_X1_tells {l : Launch} {D : va_G} {k : Nat → ClassId} {ad : Nat → Nat} (had : InjN 74 ad) (M : Mem) (o : Nat) (ho : kBoat o) (a1 : Int32) : Met l yX1_tells (Cond.code yX1_tells cX1_tells 2 (some .int) :: wsL_law) rm_X1_tells (va_Pc [.ref (ad o), .int a1] (GW 74 ad D k (cC ad k M))) (va_Qi (fun r u => f_X1_tells M o a1 = r ∧ u = M) (fun u t => GW 74 ad D k (cC ad k u) t) (AW 74 ad)) 0 0 (AW 74 ad) := by
  refine met_i (g := cC ad k) (M := M) (plainFor_of_name (by decide)) (Nat.le_of_ble_eq_true rfl) ?_
  intro p e s m args below meth c Q ls hx hb hml hG hown hK hret hP hS hl
  have hl : lv_has ls 2 [(0, .ref (ad o)), (1, .int a1)] := hl
  obtain ⟨V, hV⟩ : ∃ V, f_X1_tells M o a1 = V := ⟨_, rfl⟩
  have he := hV
  unfold f_X1_tells at he
  refine lv_iload_n hx hb dX1_tells_0 rfl (lv_at hl 1 rfl) ?_
  by_cases hw_1 : a1 = 0
  · have he := ite_t he hw_1
    refine lv_tableIn (tgt := 44) hx hb dX1_tells_1 (by rw [hw_1]; decide) (by rw [hw_1]; decide) (by rw [hw_1]; rfl) (by decide) ?_
    refine lv_aload_n hx hb dX1_tells_44 rfl (lv_at hl 0 rfl) ?_
    refine gX1_0 hx hb hG hown hK hP ho gw_3_18 dX1_tells_45 ?_
    refine gX4_0 hx hb hG hown hK hP (kR_slr ho) gw_16_10 dX1_tells_48 ?_
    exact hret _ _ _ _ _ _ ⟨hV.trans he.symm, rfl⟩ hP hS dX1_tells_51
  · have he := ite_f he hw_1
    by_cases hw_2 : a1 = 1
    · have he := ite_t he hw_2
      refine lv_tableIn (tgt := 52) hx hb dX1_tells_1 (by rw [hw_2]; decide) (by rw [hw_2]; decide) (by rw [hw_2]; rfl) (by decide) ?_
      refine lv_aload_n hx hb dX1_tells_52 rfl (lv_at hl 0 rfl) ?_
      refine gX1_3 hx hb hG hown hK hP ho gw_15_2 dX1_tells_53 ?_
      exact hret _ _ _ _ _ _ ⟨hV.trans he.symm, rfl⟩ hP hS dX1_tells_56
    · have he := ite_f he hw_2
      by_cases hw_3 : a1 = 2
      · have he := ite_t he hw_3
        refine lv_tableIn (tgt := 57) hx hb dX1_tells_1 (by rw [hw_3]; decide) (by rw [hw_3]; decide) (by rw [hw_3]; rfl) (by decide) ?_
        refine lv_aload_n hx hb dX1_tells_57 rfl (lv_at hl 0 rfl) ?_
        refine gX1_4 hx hb hG hown hK hP ho gw_15_3 dX1_tells_58 ?_
        exact hret _ _ _ _ _ _ ⟨hV.trans he.symm, rfl⟩ hP hS dX1_tells_61
      · have he := ite_f he hw_3
        by_cases hw_4 : a1 = 3
        · have he := ite_t he hw_4
          refine lv_tableIn (tgt := 62) hx hb dX1_tells_1 (by rw [hw_4]; decide) (by rw [hw_4]; decide) (by rw [hw_4]; rfl) (by decide) ?_
          refine lv_aload_n hx hb dX1_tells_62 rfl (lv_at hl 0 rfl) ?_
          refine gX1_5 hx hb hG hown hK hP ho gw_15_4 dX1_tells_63 ?_
          obtain ⟨t_7, hr_6, he⟩ := bnd_ex he
          have j74 : ∀ (H : Heap) (locs : List Loc) (ls : Array Slot), (t_7 = 0 ∨ t_7 = 1) → va_P D vwCl (wld 74 ad (cC ad k M)) H → va_S (AW 74 ad) s.heap H locs → lv_has ls 2 [] → W p l e rm_X1_tells s m args below meth c H locs 0 0 Q (F0 m 74 ls [.int t_7]) := by
            intro H locs ls zt_7 hP hS hl
            exact hret _ _ _ _ _ _ ⟨hV.trans he.symm, rfl⟩ hP hS dX1_tells_74
          refine lv_if_eq (tgt := 73) hx hb dX1_tells_66 (by decide) (fun hc_5 => ?_) (fun hc_5 => ?_)
          · have hr_6 := ite_t hr_6 hc_5
            refine lv_iconst (v := 0) hx hb dX1_tells_73 (by decide) ?_
            cases hr_6
            exact j74 _ _ _ (Or.inl rfl) hP hS (lv_sub hl [] rfl)
          · have hr_6 := ite_f hr_6 hc_5
            refine lv_iconst (v := 1) hx hb dX1_tells_69 (by decide) ?_
            refine lv_goto (tgt := 74) hx hb dX1_tells_70 (by decide) ?_
            cases hr_6
            exact j74 _ _ _ (Or.inr rfl) hP hS (lv_sub hl [] rfl)
        · have he := ite_f he hw_4
          by_cases hw_8 : a1 = 4
          · have he := ite_t he hw_8
            refine lv_tableIn (tgt := 75) hx hb dX1_tells_1 (by rw [hw_8]; decide) (by rw [hw_8]; decide) (by rw [hw_8]; rfl) (by decide) ?_
            refine lv_aload_n hx hb dX1_tells_75 rfl (lv_at hl 0 rfl) ?_
            refine gX1_6 hx hb hG hown hK hP ho gw_15_5 dX1_tells_76 ?_
            exact hret _ _ _ _ _ _ ⟨hV.trans he.symm, rfl⟩ hP hS dX1_tells_79
          · have he := ite_f he hw_8
            by_cases hw_9 : a1 = 5
            · have he := ite_t he hw_9
              refine lv_tableIn (tgt := 80) hx hb dX1_tells_1 (by rw [hw_9]; decide) (by rw [hw_9]; decide) (by rw [hw_9]; rfl) (by decide) ?_
              refine lv_aload_n hx hb dX1_tells_80 rfl (lv_at hl 0 rfl) ?_
              refine gX1_7 hx hb hG hown hK hP ho gw_3_19 dX1_tells_81 ?_
              exact hret _ _ _ _ _ _ ⟨hV.trans he.symm, rfl⟩ hP hS dX1_tells_84
            · have he := ite_f he hw_9
              by_cases hw_10 : a1 = 6
              · have he := ite_t he hw_10
                refine lv_tableIn (tgt := 85) hx hb dX1_tells_1 (by rw [hw_10]; decide) (by rw [hw_10]; decide) (by rw [hw_10]; rfl) (by decide) ?_
                refine lv_aload_n hx hb dX1_tells_85 rfl (lv_at hl 0 rfl) ?_
                refine gX1_0 hx hb hG hown hK hP ho gw_3_18 dX1_tells_86 ?_
                refine gX4_1 hx hb hG hown hK hP (kR_slr ho) gw_16_11 dX1_tells_89 ?_
                exact hret _ _ _ _ _ _ ⟨hV.trans he.symm, rfl⟩ hP hS dX1_tells_92
              · have he := ite_f he hw_10
                refine lv_tableOut (tgt := 93) hx hb dX1_tells_1 (by have q0 : a1.toInt ≠ 0 := ne_I hw_1; have q1 : a1.toInt ≠ 1 := ne_I hw_2; have q2 : a1.toInt ≠ 2 := ne_I hw_3; have q3 : a1.toInt ≠ 3 := ne_I hw_4; have q4 : a1.toInt ≠ 4 := ne_I hw_8; have q5 : a1.toInt ≠ 5 := ne_I hw_9; have q6 : a1.toInt ≠ 6 := ne_I hw_10; omega) (by decide) ?_
                refine lv_aload_n hx hb dX1_tells_93 rfl (lv_at hl 0 rfl) ?_
                refine gX1_8 hx hb hG hown hK hP ho gw_15_6 dX1_tells_94 ?_
                exact hret _ _ _ _ _ _ ⟨hV.trans he.symm, rfl⟩ hP hS dX1_tells_97
def rm_X6_of : Room := { frames := 1, cells := 0, slots := 0, locals := 21 }
theorem gm_X6_of : Cond.instanceMethod yX6_of ∈ wsL_law ∧ Cond.selects RX6 yX6_of yX6_of ∈ wsL_law ∧ Cond.initialized RX6 ∈ wsL_law ∧ Cond.code yX6_of cX6_of 4 (some .int) ∈ wsL_law := ⟨gw_15_23, gw_16_0, gw_1_2, gw_16_1⟩
theorem gd_X6_of : yX6_of.cls = RX6 ∧ yX6_of.cls ≠ "java/lang/invoke/MethodHandle" ∧ yX6_of.cls ≠ "java/lang/invoke/VarHandle" ∧ (parseMethodDescriptor yX6_of.desc).map (fun d => d.parameters.length) = some 2 := by decide +kernel
set_option maxRecDepth 100000 in
set_option maxHeartbeats 0 in
theorem c_X6_of {l : Launch} {D : va_G} {k : Nat → ClassId} {ad : Nat → Nat} (had : InjN 74 ad) (M : Mem) (a1 : Int32) (a2 : Int32) : Met l yX6_of (Cond.code yX6_of cX6_of 4 (some .int) :: wsL_law) rm_X6_of (va_Pc [.ref (ad 0), .int a1, .int a2] (GW 74 ad D k (cC ad k M))) (va_Qi (fun r u => f_X6_of M a1 a2 = r ∧ u = M) (fun u t => GW 74 ad D k (cC ad k u) t) (AW 74 ad)) 0 0 (AW 74 ad) := by
  refine met_i (g := cC ad k) (M := M) (plainFor_of_name (by decide)) (Nat.le_of_ble_eq_true rfl) ?_
  intro p e s m args below meth c Q ls hx hb hml hG hown hK hret hP hS hl
  have hl : lv_has ls 4 [(0, .ref (ad 0)), (1, .int a1), (2, .int a2)] := hl
  obtain ⟨V, hV⟩ : ∃ V, f_X6_of M a1 a2 = V := ⟨_, rfl⟩
  have he := hV
  unfold f_X6_of at he
  refine lv_aload_n hx hb dX6_of_0 rfl (lv_at hl 0 rfl) ?_
  refine gX6_1 hx hb hG hown hK hP rfl gw_1_20 dX6_of_1 ?_
  refine lv_iload_n hx hb dX6_of_4 rfl (lv_at hl 1 rfl) ?_
  refine call_e [.int a1] [] hx hb hml hG hown hK (c_X3_boatAt had M 13 (by decide) a1) gw_16_2 gm_X3_boatAt gd_X3_boatAt rfl rfl ⟨Nat.le_of_ble_eq_true rfl, Nat.le_of_ble_eq_true rfl⟩ ⟨Nat.le_refl _, Nat.le_refl _⟩ (rX3 hK hP (by decide)) hP (fun _ h => h) hS rfl hl.1 rfl (Nat.le_of_ble_eq_true rfl) dX6_of_5 (fun r_1 u_3 H locs hF_2 hP hS => ?_)
  obtain ⟨hz_4, hF_2, hu⟩ := hF_2; rw [hu] at hP
  rcases r_1 with _ | b_5
  · have he := oel_n he hF_2
    refine lv_astore_nN (lv' := [(3, .null), (0, .ref (ad 0)), (1, .int a1), (2, .int a2)]) hx hb dX6_of_8 rfl hl (by decide) rfl (fun ls hl => ?_)
    refine lv_aload_nN hx hb dX6_of_9 rfl (lv_at hl 0 rfl) ?_
    refine lv_ifnullN (tgt := 23) hx hb dX6_of_10 (by decide) ?_
    refine lv_ldc (v := (-1000000001)) hx hb hown (hG _ gw_11_19) dX6_of_23 ?_
    exact hret _ _ _ _ _ _ ⟨hV.trans he.symm, rfl⟩ hP hS dX6_of_25
  · have he := oel_s he hF_2
    refine lv_astore_n (lv' := [(3, .ref (ad b_5)), (0, .ref (ad 0)), (1, .int a1), (2, .int a2)]) hx hb dX6_of_8 rfl hl (by decide) rfl (fun ls hl => ?_)
    refine lv_aload_n hx hb dX6_of_9 rfl (lv_at hl 0 rfl) ?_
    refine lv_ifnull hx hb dX6_of_10 ?_
    refine lv_iload_n hx hb dX6_of_13 rfl (lv_at hl 3 rfl) ?_
    refine lv_if_lt (tgt := 23) hx hb dX6_of_14 (by decide) (fun hc_6 => ?_) (fun hc_6 => ?_)
    · have he := ite_t he hc_6
      refine lv_ldc (v := (-1000000001)) hx hb hown (hG _ gw_11_19) dX6_of_23 ?_
      exact hret _ _ _ _ _ _ ⟨hV.trans he.symm, rfl⟩ hP hS dX6_of_25
    · have he := ite_f he hc_6
      refine lv_iload_n hx hb dX6_of_17 rfl (lv_at hl 3 rfl) ?_
      refine lv_bipush (v := 7) hx hb dX6_of_18 (by decide) ?_
      refine lv_icmp_le (tgt := 26) hx hb dX6_of_20 (by decide) (fun hc_7 => ?_) (fun hc_7 => ?_)
      · have he := ite_t he hc_7
        refine lv_aload_n hx hb dX6_of_26 rfl (lv_at hl 0 rfl) ?_
        refine lv_iload_n hx hb dX6_of_27 rfl (lv_at hl 3 rfl) ?_
        refine call_i [.int a2] [] hx hb hml hG hown hK (c_X1_tells had M b_5 (hz_4 _ rfl) a2) gw_16_6 gm_X1_tells gd_X1_tells rfl rfl ⟨Nat.le_of_ble_eq_true rfl, Nat.le_of_ble_eq_true rfl⟩ ⟨Nat.le_refl _, Nat.le_refl _⟩ (rX1 hK hP (hz_4 _ rfl)) hP (fun _ h => h) hS rfl hl.1 rfl (Nat.le_of_ble_eq_true rfl) dX6_of_28 (fun r_8 u_10 H locs hF_9 hP hS => ?_)
        obtain ⟨hF_9, hu⟩ := hF_9; rw [hu] at hP; subst hF_9
        exact hret _ _ _ _ _ _ ⟨hV.trans he.symm, rfl⟩ hP hS dX6_of_31
      · have he := ite_f he hc_7
        refine lv_ldc (v := (-1000000001)) hx hb hown (hG _ gw_11_19) dX6_of_23 ?_
        exact hret _ _ _ _ _ _ ⟨hV.trans he.symm, rfl⟩ hP hS dX6_of_25
def rm_X1_fouls : Room := { frames := 1, cells := 0, slots := 0, locals := 13 }
theorem gm_X1_fouls : Cond.instanceMethod yX1_fouls ∈ wsL_law ∧ Cond.selects RX1 yX1_fouls yX1_fouls ∈ wsL_law ∧ Cond.initialized RX1 ∈ wsL_law ∧ Cond.code yX1_fouls cX1_fouls 3 (some .boolean) ∈ wsL_law := ⟨gw_17_7, gw_17_8, gw_3_11, gw_17_9⟩
theorem gd_X1_fouls : yX1_fouls.cls = RX1 ∧ yX1_fouls.cls ≠ "java/lang/invoke/MethodHandle" ∧ yX1_fouls.cls ≠ "java/lang/invoke/VarHandle" ∧ (parseMethodDescriptor yX1_fouls.desc).map (fun d => d.parameters.length) = some 1 := by decide +kernel
set_option maxRecDepth 100000 in
set_option maxHeartbeats 0 in
theorem c_X1_fouls {l : Launch} {D : va_G} {k : Nat → ClassId} {ad : Nat → Nat} (had : InjN 74 ad) (M : Mem) (o : Nat) (ho : kBoat o) (a1 : Nat) (ha1 : kBoat a1) : Met l yX1_fouls (Cond.code yX1_fouls cX1_fouls 3 (some .boolean) :: wsL_law) rm_X1_fouls (va_Pc [.ref (ad o), .ref (ad a1)] (GW 74 ad D k (cC ad k M))) (va_Qi (fun r u => (r = 0 ∨ r = 1) ∧ f_X1_fouls M o a1 = r ∧ u = M) (fun u t => GW 74 ad D k (cC ad k u) t) (AW 74 ad)) 0 0 (AW 74 ad) := by
  refine met_z (g := cC ad k) (M := M) (plainFor_of_name (by decide)) (Nat.le_of_ble_eq_true rfl) ?_
  intro p e s m args below meth c Q ls hx hb hml hG hown hK hret hP hS hl
  have hl : lv_has ls 3 [(0, .ref (ad o)), (1, .ref (ad a1))] := hl
  obtain ⟨V, hV⟩ : ∃ V, f_X1_fouls M o a1 = V := ⟨_, rfl⟩
  have he := hV
  unfold f_X1_fouls at he
  refine lv_aload_n hx hb dX1_fouls_0 rfl (lv_at hl 0 rfl) ?_
  refine gX1_4 hx hb hG hown hK hP ho gw_15_3 dX1_fouls_1 ?_
  refine lv_aload_n hx hb dX1_fouls_4 rfl (lv_at hl 1 rfl) ?_
  refine gX1_4 hx hb hG hown hK hP ha1 gw_15_3 dX1_fouls_5 ?_
  refine lv_isub hx hb dX1_fouls_8 ?_
  refine lv_topi (fun y_1 ey_1 => ?_)
  have he := bnd_at he ey_1
  refine lv_istore_n (lv' := [(2, .int y_1), (0, .ref (ad o)), (1, .ref (ad a1))]) hx hb dX1_fouls_9 rfl hl (by decide) rfl (fun ls hl => ?_)
  refine lv_aload_n hx hb dX1_fouls_10 rfl (lv_at hl 1 rfl) ?_
  refine gX1_7 hx hb hG hown hK hP ho gw_3_19 dX1_fouls_11 ?_
  refine lv_bipush (v := (-4)) hx hb dX1_fouls_14 (by decide) ?_
  obtain ⟨t_8, hr_3, he⟩ := bnd_ex he
  have j61 : ∀ (H : Heap) (locs : List Loc) (ls : Array Slot), (t_8 = 0 ∨ t_8 = 1) → va_P D vwCl (wld 74 ad (cC ad k M)) H → va_S (AW 74 ad) s.heap H locs → lv_has ls 3 [] → W p l e rm_X1_fouls s m args below meth c H locs 0 0 Q (F0 m 61 ls [.int t_8]) := by
    intro H locs ls zt_8 hP hS hl
    exact hret _ _ _ _ _ _ ⟨zt_8, (hV.trans he.symm), rfl⟩ (nz01 zt_8) hP hS dX1_fouls_61
  refine lv_icmp_ne (tgt := 60) hx hb dX1_fouls_16 (by decide) (fun hc_2 => ?_) (fun hc_2 => ?_)
  · have hr_3 := ite_t hr_3 hc_2
    refine lv_iconst (v := 0) hx hb dX1_fouls_60 (by decide) ?_
    cases hr_3
    exact j61 _ _ _ (Or.inl rfl) hP hS (lv_sub hl [] rfl)
  · have hr_3 := ite_f hr_3 (fun q => q hc_2)
    refine lv_aload_n hx hb dX1_fouls_19 rfl (lv_at hl 2 rfl) ?_
    refine gX1_7 hx hb hG hown hK hP ha1 gw_3_19 dX1_fouls_20 ?_
    refine lv_bipush (v := (-4)) hx hb dX1_fouls_23 (by decide) ?_
    refine lv_icmp_ne (tgt := 60) hx hb dX1_fouls_25 (by decide) (fun hc_4 => ?_) (fun hc_4 => ?_)
    · have hr_3 := ite_t hr_3 hc_4
      refine lv_iconst (v := 0) hx hb dX1_fouls_60 (by decide) ?_
      cases hr_3
      exact j61 _ _ _ (Or.inl rfl) hP hS (lv_sub hl [] rfl)
    · have hr_3 := ite_f hr_3 (fun q => q hc_4)
      refine lv_iload_n hx hb dX1_fouls_28 rfl (lv_at hl 0 rfl) ?_
      refine lv_iconst (v := 1) hx hb dX1_fouls_29 (by decide) ?_
      refine lv_icmp_lt (tgt := 60) hx hb dX1_fouls_30 (by decide) (fun hc_5 => ?_) (fun hc_5 => ?_)
      · have hr_3 := ite_t hr_3 hc_5
        refine lv_iconst (v := 0) hx hb dX1_fouls_60 (by decide) ?_
        cases hr_3
        exact j61 _ _ _ (Or.inl rfl) hP hS (lv_sub hl [] rfl)
      · have hr_3 := ite_f hr_3 hc_5
        refine lv_iload_n hx hb dX1_fouls_33 rfl (lv_at hl 0 rfl) ?_
        refine lv_bipush (v := 20) hx hb dX1_fouls_34 (by decide) ?_
        refine lv_icmp_gt (tgt := 60) hx hb dX1_fouls_36 (by decide) (fun hc_6 => ?_) (fun hc_6 => ?_)
        · have hr_3 := ite_t hr_3 hc_6
          refine lv_iconst (v := 0) hx hb dX1_fouls_60 (by decide) ?_
          cases hr_3
          exact j61 _ _ _ (Or.inl rfl) hP hS (lv_sub hl [] rfl)
        · have hr_3 := ite_f hr_3 hc_6
          refine lv_aload_n hx hb dX1_fouls_39 rfl (lv_at hl 1 rfl) ?_
          refine gX1_3 hx hb hG hown hK hP ho gw_15_2 dX1_fouls_40 ?_
          refine lv_aload_n hx hb dX1_fouls_43 rfl (lv_at hl 2 rfl) ?_
          refine gX1_3 hx hb hG hown hK hP ha1 gw_15_2 dX1_fouls_44 ?_
          refine lv_isub hx hb dX1_fouls_47 ?_
          refine w_abs hx hb hml hG hown gw_17_10 (Nat.le_of_ble_eq_true rfl) (Nat.le_of_ble_eq_true rfl) hl.1 ⟨Nat.le_refl _, Nat.le_refl _⟩ dX1_fouls_48 ?_
          refine lv_bipush (v := 6) hx hb dX1_fouls_51 (by decide) ?_
          refine lv_icmp_gt (tgt := 60) hx hb dX1_fouls_53 (by decide) (fun hc_7 => ?_) (fun hc_7 => ?_)
          · have hr_3 := ite_t hr_3 hc_7
            refine lv_iconst (v := 0) hx hb dX1_fouls_60 (by decide) ?_
            cases hr_3
            exact j61 _ _ _ (Or.inl rfl) hP hS (lv_sub hl [] rfl)
          · have hr_3 := ite_f hr_3 hc_7
            refine lv_iconst (v := 1) hx hb dX1_fouls_56 (by decide) ?_
            refine lv_goto (tgt := 61) hx hb dX1_fouls_57 (by decide) ?_
            cases hr_3
            exact j61 _ _ _ (Or.inr rfl) hP hS (lv_sub hl [] rfl)
def rm_X3_tellBadAir : Room := { frames := 2, cells := 0, slots := 0, locals := 35 }
theorem gm_X3_tellBadAir : Cond.instanceMethod yX3_tellBadAir ∈ wsL_law ∧ Cond.selects RX3 yX3_tellBadAir yX3_tellBadAir ∈ wsL_law ∧ Cond.initialized RX3 ∈ wsL_law ∧ Cond.code yX3_tellBadAir cX3_tellBadAir 3 none ∈ wsL_law := ⟨gw_17_2, gw_17_3, gw_1_19, gw_17_4⟩
theorem gd_X3_tellBadAir : yX3_tellBadAir.cls = RX3 ∧ yX3_tellBadAir.cls ≠ "java/lang/invoke/MethodHandle" ∧ yX3_tellBadAir.cls ≠ "java/lang/invoke/VarHandle" ∧ (parseMethodDescriptor yX3_tellBadAir.desc).map (fun d => d.parameters.length) = some 0 := by decide +kernel
set_option maxRecDepth 100000 in
set_option maxHeartbeats 0 in
theorem c_X3_tellBadAir {l : Launch} {D : va_G} {k : Nat → ClassId} {ad : Nat → Nat} (had : InjN 74 ad) (M : Mem) (o : Nat) (ho : kRace o) : Met l yX3_tellBadAir (Cond.code yX3_tellBadAir cX3_tellBadAir 3 none :: wsL_law) rm_X3_tellBadAir (va_Pc [.ref (ad o)] (GW 74 ad D k (cC ad k M))) (va_Qv (fun u => f_X3_tellBadAir M o = u) (fun u t => GW 74 ad D k (cC ad k u) t) (AW 74 ad)) 0 0 (AW 74 ad) := by
  refine met_v (g := cC ad k) (M := M) (plainFor_of_name (by decide)) (Nat.le_of_ble_eq_true rfl) ?_
  intro p e s m args below meth c Q ls hx hb hml hG hown hK hret hP hS hl
  have hl : lv_has ls 3 [(0, .ref (ad o))] := hl
  obtain ⟨V, hV⟩ : ∃ V, f_X3_tellBadAir M o = V := ⟨_, rfl⟩
  have he := hV
  unfold f_X3_tellBadAir at he
  refine lv_iconst (v := 0) hx hb dX3_tellBadAir_0 (by decide) ?_
  refine lv_istore_n (lv' := [(1, .int 0), (0, .ref (ad o))]) hx hb dX3_tellBadAir_1 rfl hl (by decide) rfl (fun ls hl => ?_)
  obtain ⟨M_87, hr_46, he⟩ := bnd_ex he
  have j88 : ∀ (H : Heap) (locs : List Loc) (ls : Array Slot), va_P D vwCl (wld 74 ad (cC ad k M_87)) H → va_S (AW 74 ad) s.heap H locs → lv_has ls 3 [] → W p l e rm_X3_tellBadAir s m args below meth c H locs 0 0 Q (F0 m 88 ls []) := by
    intro H locs ls hP hS hl
    exact hret _ _ _ _ _ (hV.trans he.symm) hP hS dX3_tellBadAir_88
  have lp2 : ∀ (nn : Nat) (H : Heap) (locs : List Loc) (ls : Array Slot) (M_45 : Mem) (v_44 : Int32), (0 ≤ v_44.toInt) → (4 - v_44.toInt).toNat < nn → lp_X3_tellBadAir_2 nn o M_45 v_44 = M_87 → va_P D vwCl (wld 74 ad (cC ad k M_45)) H → va_S (AW 74 ad) s.heap H locs → lv_has ls 3 [(0, .ref (ad o)), (1, .int v_44)] → W p l e rm_X3_tellBadAir s m args below meth c H locs 0 0 Q (F0 m 2 ls []) := by
    intro nn
    induction nn with
    | zero =>
      intro H locs ls M_45 v_44 h0v_44 hμ
      exact absurd hμ (Nat.not_lt_zero _)
    | succ nn ih =>
      intro H locs ls M_45 v_44 h0v_44 hμ hr_46 hP hS hl
      rw [lp_X3_tellBadAir_2] at hr_46
      refine lv_iload_n hx hb dX3_tellBadAir_2 rfl (lv_at hl 1 rfl) ?_
      refine lv_aload_n hx hb dX3_tellBadAir_3 rfl (lv_at hl 0 rfl) ?_
      refine gX3_1 hx hb hG hown hK hP ho gw_6_7 dX3_tellBadAir_4 ?_
      refine lv_icmp_ge (tgt := 88) hx hb dX3_tellBadAir_7 (by decide) (fun hc_47 => ?_) (fun hc_47 => ?_)
      · have hr_46 := ite_t hr_46 hc_47
        cases hr_46
        exact j88 _ _ _ hP hS (lv_sub hl [] rfl)
      · have hr_46 := ite_f hr_46 hc_47
        refine lv_iload_n hx hb dX3_tellBadAir_10 rfl (lv_at hl 1 rfl) ?_
        refine lv_aload_n hx hb dX3_tellBadAir_11 rfl (lv_at hl 0 rfl) ?_
        refine gX3_0 hx hb hG hown hK hP ho gw_3_9 dX3_tellBadAir_12 ?_
        refine an_kBts hx hb hK hP (kR_bts ho) dX3_tellBadAir_15 ?_
        refine lv_icmp_ge (tgt := 88) hx hb dX3_tellBadAir_16 (by decide) (fun hc_48 => ?_) (fun hc_48 => ?_)
        · have hr_46 := ite_t hr_46 hc_48
          cases hr_46
          exact j88 _ _ _ hP hS (lv_sub hl [] rfl)
        · have hr_46 := ite_f hr_46 hc_48
          refine lv_aload_n hx hb dX3_tellBadAir_19 rfl (lv_at hl 0 rfl) ?_
          refine gX3_0 hx hb hG hown hK hP ho gw_3_9 dX3_tellBadAir_20 ?_
          refine lv_iload_n hx hb dX3_tellBadAir_23 rfl (lv_at hl 1 rfl) ?_
          have hn_49 : vp_in v_44 4 := (vin_I (by have q0 : v_44.toInt < (M_45 o 1).toInt := nle_I hc_47; have q1 : v_44.toInt < 4 := nle_I hc_48; omega) (by have q0 : v_44.toInt < (M_45 o 1).toInt := nle_I hc_47; have q1 : v_44.toInt < 4 := nle_I hc_48; omega))
          refine al_kBts hx hb hK hP (kR_bts ho) hn_49 dX3_tellBadAir_24 ?_
          refine lv_iconst (v := 0) hx hb dX3_tellBadAir_25 (by decide) ?_
          refine pX1_9 hx hb hG hown hK hP had AW_in hS (kR_boat (kR_bts ho) hn_49) gw_17_5 (Or.inl rfl)  dX3_tellBadAir_26 (fun H locs hP hS => ?_)
          obtain ⟨M_50, eM_50⟩ : ∃ y : Mem, y = up2 M_45 (4 * (o + 3) - 45 + v_44.toNatClampNeg) 9 0 := ⟨_, rfl⟩
          rw [← eM_50] at hP
          have hr_46 := bnd_at hr_46 eM_50
          refine lv_iconst (v := 0) hx hb dX3_tellBadAir_29 (by decide) ?_
          refine lv_istore_n (lv' := [(2, .int 0), (0, .ref (ad o)), (1, .int v_44)]) hx hb dX3_tellBadAir_30 rfl hl (by decide) rfl (fun ls hl => ?_)
          obtain ⟨M_85, hr_70, hr_46⟩ := bnd_ex hr_46
          have j82 : ∀ (H : Heap) (locs : List Loc) (ls : Array Slot), va_P D vwCl (wld 74 ad (cC ad k M_85)) H → va_S (AW 74 ad) s.heap H locs → lv_has ls 3 [(0, .ref (ad o)), (1, .int v_44)] → W p l e rm_X3_tellBadAir s m args below meth c H locs 0 0 Q (F0 m 82 ls []) := by
            intro H locs ls hP hS hl
            obtain ⟨y_86, ey_86⟩ : ∃ y_86 : Int32, y_86 = v_44 + 1 := ⟨_, rfl⟩
            have hr_46 := bnd_at hr_46 ey_86
            refine lv_iinc (v := y_86) (lv' := [(1, .int y_86), (0, .ref (ad o))]) hx hb dX3_tellBadAir_82 hl (k := 1) rfl (by rw [ey_86]; rfl) (by decide) rfl (fun ls hl => ?_)
            refine lv_goto (tgt := 2) hx hb dX3_tellBadAir_85 (by decide) ?_
            exact ih _ _ _ _ _ (by rw [ey_86, inc_I (N := 4) (nle_I hc_48) (by decide)]; omega) (by rw [ey_86]; exact mu_I hμ (nle_I hc_48) (by decide)) hr_46 hP hS (lv_sub hl [1, 0] rfl)
          have lp31 : ∀ (nn : Nat) (H : Heap) (locs : List Loc) (ls : Array Slot) (M_69 : Mem) (v_68 : Int32), (0 ≤ v_68.toInt) → (4 - v_68.toInt).toNat < nn → lp_X3_tellBadAir_31' nn o v_44 M_69 v_68 = M_85 → va_P D vwCl (wld 74 ad (cC ad k M_69)) H → va_S (AW 74 ad) s.heap H locs → lv_has ls 3 [(0, .ref (ad o)), (1, .int v_44), (2, .int v_68)] → W p l e rm_X3_tellBadAir s m args below meth c H locs 0 0 Q (F0 m 31 ls []) := by
            intro nn
            induction nn with
            | zero =>
              intro H locs ls M_69 v_68 h0v_68 hμ
              exact absurd hμ (Nat.not_lt_zero _)
            | succ nn ih =>
              intro H locs ls M_69 v_68 h0v_68 hμ hr_70 hP hS hl
              rw [lp_X3_tellBadAir_31'] at hr_70
              refine lv_iload_n hx hb dX3_tellBadAir_31 rfl (lv_at hl 2 rfl) ?_
              refine lv_aload_n hx hb dX3_tellBadAir_32 rfl (lv_at hl 0 rfl) ?_
              refine gX3_1 hx hb hG hown hK hP ho gw_6_7 dX3_tellBadAir_33 ?_
              refine lv_icmp_ge (tgt := 82) hx hb dX3_tellBadAir_36 (by decide) (fun hc_71 => ?_) (fun hc_71 => ?_)
              · have hr_70 := ite_t hr_70 hc_71
                cases hr_70
                exact j82 _ _ _ hP hS (lv_sub hl [0, 1] rfl)
              · have hr_70 := ite_f hr_70 hc_71
                refine lv_iload_n hx hb dX3_tellBadAir_39 rfl (lv_at hl 2 rfl) ?_
                refine lv_aload_n hx hb dX3_tellBadAir_40 rfl (lv_at hl 0 rfl) ?_
                refine gX3_0 hx hb hG hown hK hP ho gw_3_9 dX3_tellBadAir_41 ?_
                refine an_kBts hx hb hK hP (kR_bts ho) dX3_tellBadAir_44 ?_
                refine lv_icmp_ge (tgt := 82) hx hb dX3_tellBadAir_45 (by decide) (fun hc_72 => ?_) (fun hc_72 => ?_)
                · have hr_70 := ite_t hr_70 hc_72
                  cases hr_70
                  exact j82 _ _ _ hP hS (lv_sub hl [0, 1] rfl)
                · have hr_70 := ite_f hr_70 hc_72
                  refine lv_aload_n hx hb dX3_tellBadAir_48 rfl (lv_at hl 0 rfl) ?_
                  refine gX3_0 hx hb hG hown hK hP ho gw_3_9 dX3_tellBadAir_49 ?_
                  refine lv_iload_n hx hb dX3_tellBadAir_52 rfl (lv_at hl 2 rfl) ?_
                  have hn_73 : vp_in v_68 4 := (vin_I (by have q0 : v_68.toInt < (M_69 o 1).toInt := nle_I hc_71; have q1 : v_68.toInt < 4 := nle_I hc_72; omega) (by have q0 : v_68.toInt < (M_69 o 1).toInt := nle_I hc_71; have q1 : v_68.toInt < 4 := nle_I hc_72; omega))
                  refine al_kBts hx hb hK hP (kR_bts ho) hn_73 dX3_tellBadAir_53 ?_
                  refine lv_aload_n hx hb dX3_tellBadAir_54 rfl (lv_at hl 0 rfl) ?_
                  refine gX3_0 hx hb hG hown hK hP ho gw_3_9 dX3_tellBadAir_55 ?_
                  refine lv_iload_n hx hb dX3_tellBadAir_58 rfl (lv_at hl 1 rfl) ?_
                  have hn_74 : vp_in v_44 4 := (vin_I (by have q0 : v_44.toInt < (M_45 o 1).toInt := nle_I hc_47; have q1 : v_44.toInt < 4 := nle_I hc_48; omega) (by have q0 : v_44.toInt < (M_45 o 1).toInt := nle_I hc_47; have q1 : v_44.toInt < 4 := nle_I hc_48; omega))
                  refine al_kBts hx hb hK hP (kR_bts ho) hn_74 dX3_tellBadAir_59 ?_
                  refine call_i [.ref (ad (4 * (o + 3) - 45 + v_44.toNatClampNeg))] [] hx hb hml hG hown hK (c_X1_fouls had M_69 (4 * (o + 3) - 45 + v_68.toNatClampNeg) (kR_boat (kR_bts ho) hn_73) (4 * (o + 3) - 45 + v_44.toNatClampNeg) (kR_boat (kR_bts ho) hn_74)) gw_17_6 gm_X1_fouls gd_X1_fouls rfl rfl ⟨Nat.le_of_ble_eq_true rfl, Nat.le_of_ble_eq_true rfl⟩ ⟨Nat.le_refl _, Nat.le_refl _⟩ (rX1 hK hP (kR_boat (kR_bts ho) hn_73)) hP (fun _ h => h) hS rfl hl.1 rfl (Nat.le_of_ble_eq_true rfl) dX3_tellBadAir_60 (fun r_75 u_77 H locs hF_76 hP hS => ?_)
                  obtain ⟨hz_78, hF_76, hu⟩ := hF_76; rw [hu] at hP; subst hF_76
                  obtain ⟨M_83, hr_80, hr_70⟩ := bnd_ex hr_70
                  have j76 : ∀ (H : Heap) (locs : List Loc) (ls : Array Slot), va_P D vwCl (wld 74 ad (cC ad k M_83)) H → va_S (AW 74 ad) s.heap H locs → lv_has ls 3 [(0, .ref (ad o)), (1, .int v_44), (2, .int v_68)] → W p l e rm_X3_tellBadAir s m args below meth c H locs 0 0 Q (F0 m 76 ls []) := by
                    intro H locs ls hP hS hl
                    obtain ⟨y_84, ey_84⟩ : ∃ y_84 : Int32, y_84 = v_68 + 1 := ⟨_, rfl⟩
                    have hr_70 := bnd_at hr_70 ey_84
                    refine lv_iinc (v := y_84) (lv' := [(2, .int y_84), (0, .ref (ad o)), (1, .int v_44)]) hx hb dX3_tellBadAir_76 hl (k := 2) rfl (by rw [ey_84]; rfl) (by decide) rfl (fun ls hl => ?_)
                    refine lv_goto (tgt := 31) hx hb dX3_tellBadAir_79 (by decide) ?_
                    exact ih _ _ _ _ _ (by rw [ey_84, inc_I (N := 4) (nle_I hc_72) (by decide)]; omega) (by rw [ey_84]; exact mu_I hμ (nle_I hc_72) (by decide)) hr_70 hP hS (lv_sub hl [1, 2, 0] rfl)
                  refine lv_if_eq (tgt := 76) hx hb dX3_tellBadAir_63 (by decide) (fun hc_79 => ?_) (fun hc_79 => ?_)
                  · have hr_80 := ite_t hr_80 hc_79
                    cases hr_80
                    exact j76 _ _ _ hP hS (lv_sub hl [0, 1, 2] rfl)
                  · have hr_80 := ite_f hr_80 hc_79
                    refine lv_aload_n hx hb dX3_tellBadAir_66 rfl (lv_at hl 0 rfl) ?_
                    refine gX3_0 hx hb hG hown hK hP ho gw_3_9 dX3_tellBadAir_67 ?_
                    refine lv_iload_n hx hb dX3_tellBadAir_70 rfl (lv_at hl 1 rfl) ?_
                    have hn_81 : vp_in v_44 4 := (vin_I (by have q0 : v_44.toInt < (M_45 o 1).toInt := nle_I hc_47; have q1 : v_44.toInt < 4 := nle_I hc_48; have q2 : (f_X1_fouls M_69 (4 * (o + 3) - 45 + v_68.toNatClampNeg) (4 * (o + 3) - 45 + v_44.toNatClampNeg)).toInt ≠ 0 := ne_I hc_79; omega) (by have q0 : v_44.toInt < (M_45 o 1).toInt := nle_I hc_47; have q1 : v_44.toInt < 4 := nle_I hc_48; have q2 : (f_X1_fouls M_69 (4 * (o + 3) - 45 + v_68.toNatClampNeg) (4 * (o + 3) - 45 + v_44.toNatClampNeg)).toInt ≠ 0 := ne_I hc_79; omega))
                    refine al_kBts hx hb hK hP (kR_bts ho) hn_81 dX3_tellBadAir_71 ?_
                    refine lv_iconst (v := 1) hx hb dX3_tellBadAir_72 (by decide) ?_
                    refine pX1_9 hx hb hG hown hK hP had AW_in hS (kR_boat (kR_bts ho) hn_81) gw_17_5 (Or.inr rfl)  dX3_tellBadAir_73 (fun H locs hP hS => ?_)
                    obtain ⟨M_82, eM_82⟩ : ∃ y : Mem, y = up2 M_69 (4 * (o + 3) - 45 + v_44.toNatClampNeg) 9 1 := ⟨_, rfl⟩
                    rw [← eM_82] at hP
                    have hr_80 := bnd_at hr_80 eM_82
                    cases hr_80
                    exact j76 _ _ _ hP hS (lv_sub hl [0, 1, 2] rfl)
          exact lp31 _ _ _ _ _ _ (by decide) (by decide) hr_70 hP hS (lv_sub hl [1, 2, 0] rfl)
  exact lp2 _ _ _ _ _ _ (by decide) (by decide) hr_46 hP hS (lv_sub hl [1, 0] rfl)
def rm_X6_badAir : Room := { frames := 3, cells := 0, slots := 0, locals := 57 }
theorem gm_X6_badAir : Cond.instanceMethod yX6_badAir ∈ wsL_law ∧ Cond.selects RX6 yX6_badAir yX6_badAir ∈ wsL_law ∧ Cond.initialized RX6 ∈ wsL_law ∧ Cond.code yX6_badAir cX6_badAir 3 (some .int) ∈ wsL_law := ⟨gw_16_21, gw_16_22, gw_1_2, gw_16_23⟩
theorem gd_X6_badAir : yX6_badAir.cls = RX6 ∧ yX6_badAir.cls ≠ "java/lang/invoke/MethodHandle" ∧ yX6_badAir.cls ≠ "java/lang/invoke/VarHandle" ∧ (parseMethodDescriptor yX6_badAir.desc).map (fun d => d.parameters.length) = some 1 := by decide +kernel
set_option maxRecDepth 100000 in
set_option maxHeartbeats 0 in
theorem c_X6_badAir {l : Launch} {D : va_G} {k : Nat → ClassId} {ad : Nat → Nat} (had : InjN 74 ad) (M : Mem) (a1 : Int32) : Met l yX6_badAir (Cond.code yX6_badAir cX6_badAir 3 (some .int) :: wsL_law) rm_X6_badAir (va_Pc [.ref (ad 0), .int a1] (GW 74 ad D k (cC ad k M))) (va_Qi (fun r u => f_X6_badAir M a1 = (r, u)) (fun u t => GW 74 ad D k (cC ad k u) t) (AW 74 ad)) 0 0 (AW 74 ad) := by
  refine met_i (g := cC ad k) (M := M) (plainFor_of_name (by decide)) (Nat.le_of_ble_eq_true rfl) ?_
  intro p e s m args below meth c Q ls hx hb hml hG hown hK hret hP hS hl
  have hl : lv_has ls 3 [(0, .ref (ad 0)), (1, .int a1)] := hl
  obtain ⟨V, hV⟩ : ∃ V, f_X6_badAir M a1 = V := ⟨_, rfl⟩
  have he := hV
  unfold f_X6_badAir at he
  refine lv_aload_n hx hb dX6_badAir_0 rfl (lv_at hl 0 rfl) ?_
  refine gX6_1 hx hb hG hown hK hP rfl gw_1_20 dX6_badAir_1 ?_
  refine lv_iload_n hx hb dX6_badAir_4 rfl (lv_at hl 1 rfl) ?_
  refine call_e [.int a1] [] hx hb hml hG hown hK (c_X3_boatAt had M 13 (by decide) a1) gw_16_2 gm_X3_boatAt gd_X3_boatAt rfl rfl ⟨Nat.le_of_ble_eq_true rfl, Nat.le_of_ble_eq_true rfl⟩ ⟨Nat.le_refl _, Nat.le_refl _⟩ (rX3 hK hP (by decide)) hP (fun _ h => h) hS rfl hl.1 rfl (Nat.le_of_ble_eq_true rfl) dX6_badAir_5 (fun r_1 u_3 H locs hF_2 hP hS => ?_)
  obtain ⟨hz_4, hF_2, hu⟩ := hF_2; rw [hu] at hP
  rcases r_1 with _ | b_5
  · have he := oel_n he hF_2
    refine lv_astore_nN (lv' := [(2, .null), (0, .ref (ad 0)), (1, .int a1)]) hx hb dX6_badAir_8 rfl hl (by decide) rfl (fun ls hl => ?_)
    refine lv_aload_nN hx hb dX6_badAir_9 rfl (lv_at hl 0 rfl) ?_
    refine lv_ifnonnullN hx hb dX6_badAir_10 ?_
    refine lv_iconst (v := (-1)) hx hb dX6_badAir_13 (by decide) ?_
    exact hret _ _ _ _ _ _ (hV.trans he.symm) hP hS dX6_badAir_14
  · have he := oel_s he hF_2
    refine lv_astore_n (lv' := [(2, .ref (ad b_5)), (0, .ref (ad 0)), (1, .int a1)]) hx hb dX6_badAir_8 rfl hl (by decide) rfl (fun ls hl => ?_)
    refine lv_aload_n hx hb dX6_badAir_9 rfl (lv_at hl 0 rfl) ?_
    refine lv_ifnonnull (tgt := 15) hx hb dX6_badAir_10 (by decide) ?_
    refine lv_aload_n hx hb dX6_badAir_15 rfl (lv_at hl 1 rfl) ?_
    refine gX6_1 hx hb hG hown hK hP rfl gw_1_20 dX6_badAir_16 ?_
    refine call_v [] [] hx hb hml hG hown hK (c_X3_tellBadAir had M 13 (by decide)) gw_17_1 gm_X3_tellBadAir gd_X3_tellBadAir rfl rfl ⟨Nat.le_of_ble_eq_true rfl, Nat.le_of_ble_eq_true rfl⟩ ⟨Nat.le_refl _, Nat.le_refl _⟩ (rX3 hK hP (by decide)) hP (fun _ h => h) hS rfl hl.1 rfl (Nat.le_of_ble_eq_true rfl) dX6_badAir_19 (fun M_8 H locs hF_7 hP hS => ?_)
    have he := bnd_at he hF_7.symm
    refine lv_aload_n hx hb dX6_badAir_22 rfl (lv_at hl 0 rfl) ?_
    refine gX1_9 hx hb hG hown hK hP (hz_4 _ rfl) gw_17_0 dX6_badAir_23 ?_
    obtain ⟨t_11, hr_10, he⟩ := bnd_ex he
    have j34 : ∀ (H : Heap) (locs : List Loc) (ls : Array Slot), (t_11 = 0 ∨ t_11 = 1) → va_P D vwCl (wld 74 ad (cC ad k M_8)) H → va_S (AW 74 ad) s.heap H locs → lv_has ls 3 [] → W p l e rm_X6_badAir s m args below meth c H locs 0 0 Q (F0 m 34 ls [.int t_11]) := by
      intro H locs ls zt_11 hP hS hl
      exact hret _ _ _ _ _ _ (hV.trans he.symm) hP hS dX6_badAir_34
    refine lv_if_eq (tgt := 33) hx hb dX6_badAir_26 (by decide) (fun hc_9 => ?_) (fun hc_9 => ?_)
    · have hr_10 := ite_t hr_10 hc_9
      refine lv_iconst (v := 0) hx hb dX6_badAir_33 (by decide) ?_
      cases hr_10
      exact j34 _ _ _ (Or.inl rfl) hP hS (lv_sub hl [] rfl)
    · have hr_10 := ite_f hr_10 hc_9
      refine lv_iconst (v := 1) hx hb dX6_badAir_29 (by decide) ?_
      refine lv_goto (tgt := 34) hx hb dX6_badAir_30 (by decide) ?_
      cases hr_10
      exact j34 _ _ _ (Or.inr rfl) hP hS (lv_sub hl [] rfl)
def rm_X1_isIn : Room := { frames := 0, cells := 0, slots := 0, locals := 0 }
theorem gm_X1_isIn : Cond.instanceMethod yX1_isIn ∈ wsL_law ∧ Cond.selects RX1 yX1_isIn yX1_isIn ∈ wsL_law ∧ Cond.initialized RX1 ∈ wsL_law ∧ Cond.code yX1_isIn cX1_isIn 1 (some .boolean) ∈ wsL_law := ⟨gw_18_19, gw_18_20, gw_3_11, gw_18_21⟩
theorem gd_X1_isIn : yX1_isIn.cls = RX1 ∧ yX1_isIn.cls ≠ "java/lang/invoke/MethodHandle" ∧ yX1_isIn.cls ≠ "java/lang/invoke/VarHandle" ∧ (parseMethodDescriptor yX1_isIn.desc).map (fun d => d.parameters.length) = some 0 := by decide +kernel
set_option maxRecDepth 100000 in
set_option maxHeartbeats 0 in
theorem c_X1_isIn {l : Launch} {D : va_G} {k : Nat → ClassId} {ad : Nat → Nat} (had : InjN 74 ad) (M : Mem) (o : Nat) (ho : kBoat o) : Met l yX1_isIn (Cond.code yX1_isIn cX1_isIn 1 (some .boolean) :: wsL_law) rm_X1_isIn (va_Pc [.ref (ad o)] (GW 74 ad D k (cC ad k M))) (va_Qi (fun r u => (r = 0 ∨ r = 1) ∧ f_X1_isIn M o = r ∧ u = M) (fun u t => GW 74 ad D k (cC ad k u) t) (AW 74 ad)) 0 0 (AW 74 ad) := by
  refine met_z (g := cC ad k) (M := M) (plainFor_of_name (by decide)) (Nat.le_of_ble_eq_true rfl) ?_
  intro p e s m args below meth c Q ls hx hb hml hG hown hK hret hP hS hl
  have hl : lv_has ls 1 [(0, .ref (ad o))] := hl
  obtain ⟨V, hV⟩ : ∃ V, f_X1_isIn M o = V := ⟨_, rfl⟩
  have he := hV
  unfold f_X1_isIn at he
  refine lv_aload_n hx hb dX1_isIn_0 rfl (lv_at hl 0 rfl) ?_
  refine gX1_7 hx hb hG hown hK hP ho gw_3_19 dX1_isIn_1 ?_
  refine lv_bipush (v := (-4)) hx hb dX1_isIn_4 (by decide) ?_
  obtain ⟨t_3, hr_2, he⟩ := bnd_ex he
  have j14 : ∀ (H : Heap) (locs : List Loc) (ls : Array Slot), (t_3 = 0 ∨ t_3 = 1) → va_P D vwCl (wld 74 ad (cC ad k M)) H → va_S (AW 74 ad) s.heap H locs → lv_has ls 1 [] → W p l e rm_X1_isIn s m args below meth c H locs 0 0 Q (F0 m 14 ls [.int t_3]) := by
    intro H locs ls zt_3 hP hS hl
    exact hret _ _ _ _ _ _ ⟨zt_3, (hV.trans he.symm), rfl⟩ (nz01 zt_3) hP hS dX1_isIn_14
  refine lv_icmp_eq (tgt := 13) hx hb dX1_isIn_6 (by decide) (fun hc_1 => ?_) (fun hc_1 => ?_)
  · have hr_2 := ite_t hr_2 hc_1
    refine lv_iconst (v := 0) hx hb dX1_isIn_13 (by decide) ?_
    cases hr_2
    exact j14 _ _ _ (Or.inl rfl) hP hS (lv_sub hl [] rfl)
  · have hr_2 := ite_f hr_2 hc_1
    refine lv_iconst (v := 1) hx hb dX1_isIn_9 (by decide) ?_
    refine lv_goto (tgt := 14) hx hb dX1_isIn_10 (by decide) ?_
    cases hr_2
    exact j14 _ _ _ (Or.inr rfl) hP hS (lv_sub hl [] rfl)
def rm_X3_howManyIn : Room := { frames := 1, cells := 0, slots := 0, locals := 20 }
theorem gm_X3_howManyIn : Cond.instanceMethod yX3_howManyIn ∈ wsL_law ∧ Cond.selects RX3 yX3_howManyIn yX3_howManyIn ∈ wsL_law ∧ Cond.initialized RX3 ∈ wsL_law ∧ Cond.code yX3_howManyIn cX3_howManyIn 3 (some .int) ∈ wsL_law := ⟨gw_18_15, gw_18_16, gw_1_19, gw_18_17⟩
theorem gd_X3_howManyIn : yX3_howManyIn.cls = RX3 ∧ yX3_howManyIn.cls ≠ "java/lang/invoke/MethodHandle" ∧ yX3_howManyIn.cls ≠ "java/lang/invoke/VarHandle" ∧ (parseMethodDescriptor yX3_howManyIn.desc).map (fun d => d.parameters.length) = some 0 := by decide +kernel
set_option maxRecDepth 100000 in
set_option maxHeartbeats 0 in
theorem c_X3_howManyIn {l : Launch} {D : va_G} {k : Nat → ClassId} {ad : Nat → Nat} (had : InjN 74 ad) (M : Mem) (o : Nat) (ho : kRace o) : Met l yX3_howManyIn (Cond.code yX3_howManyIn cX3_howManyIn 3 (some .int) :: wsL_law) rm_X3_howManyIn (va_Pc [.ref (ad o)] (GW 74 ad D k (cC ad k M))) (va_Qi (fun r u => f_X3_howManyIn M o = r ∧ u = M) (fun u t => GW 74 ad D k (cC ad k u) t) (AW 74 ad)) 0 0 (AW 74 ad) := by
  refine met_i (g := cC ad k) (M := M) (plainFor_of_name (by decide)) (Nat.le_of_ble_eq_true rfl) ?_
  intro p e s m args below meth c Q ls hx hb hml hG hown hK hret hP hS hl
  have hl : lv_has ls 3 [(0, .ref (ad o))] := hl
  obtain ⟨V, hV⟩ : ∃ V, f_X3_howManyIn M o = V := ⟨_, rfl⟩
  have he := hV
  unfold f_X3_howManyIn at he
  refine lv_iconst (v := 0) hx hb dX3_howManyIn_0 (by decide) ?_
  refine lv_istore_n (lv' := [(1, .int 0), (0, .ref (ad o))]) hx hb dX3_howManyIn_1 rfl hl (by decide) rfl (fun ls hl => ?_)
  refine lv_iconst (v := 0) hx hb dX3_howManyIn_2 (by decide) ?_
  refine lv_istore_n (lv' := [(2, .int 0), (1, .int 0), (0, .ref (ad o))]) hx hb dX3_howManyIn_3 rfl hl (by decide) rfl (fun ls hl => ?_)
  obtain ⟨w_31, hr_18, he⟩ := bnd_ex he
  have j47 : ∀ (H : Heap) (locs : List Loc) (ls : Array Slot), va_P D vwCl (wld 74 ad (cC ad k M)) H → va_S (AW 74 ad) s.heap H locs → lv_has ls 3 [(1, .int w_31)] → W p l e rm_X3_howManyIn s m args below meth c H locs 0 0 Q (F0 m 47 ls []) := by
    intro H locs ls hP hS hl
    refine lv_iload_n hx hb dX3_howManyIn_47 rfl (lv_at hl 0 rfl) ?_
    exact hret _ _ _ _ _ _ ⟨hV.trans he.symm, rfl⟩ hP hS dX3_howManyIn_48
  have lp4 : ∀ (nn : Nat) (H : Heap) (locs : List Loc) (ls : Array Slot) (v_16 : Int32) (v_17 : Int32), (0 ≤ v_17.toInt) → (4 - v_17.toInt).toNat < nn → lp_X3_howManyIn_4 nn M o v_16 v_17 = w_31 → va_P D vwCl (wld 74 ad (cC ad k M)) H → va_S (AW 74 ad) s.heap H locs → lv_has ls 3 [(0, .ref (ad o)), (1, .int v_16), (2, .int v_17)] → W p l e rm_X3_howManyIn s m args below meth c H locs 0 0 Q (F0 m 4 ls []) := by
    intro nn
    induction nn with
    | zero =>
      intro H locs ls v_16 v_17 h0v_17 hμ
      exact absurd hμ (Nat.not_lt_zero _)
    | succ nn ih =>
      intro H locs ls v_16 v_17 h0v_17 hμ hr_18 hP hS hl
      rw [lp_X3_howManyIn_4] at hr_18
      refine lv_iload_n hx hb dX3_howManyIn_4 rfl (lv_at hl 2 rfl) ?_
      refine lv_aload_n hx hb dX3_howManyIn_5 rfl (lv_at hl 0 rfl) ?_
      refine gX3_1 hx hb hG hown hK hP ho gw_6_7 dX3_howManyIn_6 ?_
      refine lv_icmp_ge (tgt := 47) hx hb dX3_howManyIn_9 (by decide) (fun hc_19 => ?_) (fun hc_19 => ?_)
      · have hr_18 := ite_t hr_18 hc_19
        cases hr_18
        exact j47 _ _ _ hP hS (lv_sub hl [1] rfl)
      · have hr_18 := ite_f hr_18 hc_19
        refine lv_iload_n hx hb dX3_howManyIn_12 rfl (lv_at hl 2 rfl) ?_
        refine lv_aload_n hx hb dX3_howManyIn_13 rfl (lv_at hl 0 rfl) ?_
        refine gX3_0 hx hb hG hown hK hP ho gw_3_9 dX3_howManyIn_14 ?_
        refine an_kBts hx hb hK hP (kR_bts ho) dX3_howManyIn_17 ?_
        refine lv_icmp_ge (tgt := 47) hx hb dX3_howManyIn_18 (by decide) (fun hc_20 => ?_) (fun hc_20 => ?_)
        · have hr_18 := ite_t hr_18 hc_20
          cases hr_18
          exact j47 _ _ _ hP hS (lv_sub hl [1] rfl)
        · have hr_18 := ite_f hr_18 hc_20
          refine lv_iload_n hx hb dX3_howManyIn_21 rfl (lv_at hl 1 rfl) ?_
          refine lv_aload_n hx hb dX3_howManyIn_22 rfl (lv_at hl 0 rfl) ?_
          refine gX3_0 hx hb hG hown hK hP ho gw_3_9 dX3_howManyIn_23 ?_
          refine lv_iload_n hx hb dX3_howManyIn_26 rfl (lv_at hl 2 rfl) ?_
          have hn_21 : vp_in v_17 4 := (vin_I (by have q0 : v_17.toInt < (M o 1).toInt := nle_I hc_19; have q1 : v_17.toInt < 4 := nle_I hc_20; omega) (by have q0 : v_17.toInt < (M o 1).toInt := nle_I hc_19; have q1 : v_17.toInt < 4 := nle_I hc_20; omega))
          refine al_kBts hx hb hK hP (kR_bts ho) hn_21 dX3_howManyIn_27 ?_
          refine call_i [] [.int v_16] hx hb hml hG hown hK (c_X1_isIn had M (4 * (o + 3) - 45 + v_17.toNatClampNeg) (kR_boat (kR_bts ho) hn_21)) gw_18_18 gm_X1_isIn gd_X1_isIn rfl rfl ⟨Nat.le_of_ble_eq_true rfl, Nat.le_of_ble_eq_true rfl⟩ ⟨Nat.le_refl _, Nat.le_refl _⟩ (rX1 hK hP (kR_boat (kR_bts ho) hn_21)) hP (fun _ h => h) hS rfl hl.1 rfl (Nat.le_of_ble_eq_true rfl) dX3_howManyIn_28 (fun r_22 u_24 H locs hF_23 hP hS => ?_)
          obtain ⟨hz_25, hF_23, hu⟩ := hF_23; rw [hu] at hP; subst hF_23
          obtain ⟨t_28, hr_27, hr_18⟩ := bnd_ex hr_18
          have j39 : ∀ (H : Heap) (locs : List Loc) (ls : Array Slot), (t_28 = 0 ∨ t_28 = 1) → va_P D vwCl (wld 74 ad (cC ad k M)) H → va_S (AW 74 ad) s.heap H locs → lv_has ls 3 [(0, .ref (ad o)), (2, .int v_17)] → W p l e rm_X3_howManyIn s m args below meth c H locs 0 0 Q (F0 m 39 ls [.int t_28, .int v_16]) := by
            intro H locs ls zt_28 hP hS hl
            refine lv_iadd hx hb dX3_howManyIn_39 ?_
            refine lv_topi (fun y_29 ey_29 => ?_)
            have hr_18 := bnd_at hr_18 ey_29
            refine lv_istore_n (lv' := [(1, .int y_29), (0, .ref (ad o)), (2, .int v_17)]) hx hb dX3_howManyIn_40 rfl hl (by decide) rfl (fun ls hl => ?_)
            obtain ⟨y_30, ey_30⟩ : ∃ y_30 : Int32, y_30 = v_17 + 1 := ⟨_, rfl⟩
            have hr_18 := bnd_at hr_18 ey_30
            refine lv_iinc (v := y_30) (lv' := [(2, .int y_30), (1, .int y_29), (0, .ref (ad o))]) hx hb dX3_howManyIn_41 hl (k := 2) rfl (by rw [ey_30]; rfl) (by decide) rfl (fun ls hl => ?_)
            refine lv_goto (tgt := 4) hx hb dX3_howManyIn_44 (by decide) ?_
            exact ih _ _ _ _ _ (by rw [ey_30, inc_I (N := 4) (nle_I hc_20) (by decide)]; omega) (by rw [ey_30]; exact mu_I hμ (nle_I hc_20) (by decide)) hr_18 hP hS (lv_sub hl [2, 1, 0] rfl)
          refine lv_if_eq (tgt := 38) hx hb dX3_howManyIn_31 (by decide) (fun hc_26 => ?_) (fun hc_26 => ?_)
          · have hr_27 := ite_t hr_27 hc_26
            refine lv_iconst (v := 0) hx hb dX3_howManyIn_38 (by decide) ?_
            cases hr_27
            exact j39 _ _ _ (Or.inl rfl) hP hS (lv_sub hl [0, 2] rfl)
          · have hr_27 := ite_f hr_27 hc_26
            refine lv_iconst (v := 1) hx hb dX3_howManyIn_34 (by decide) ?_
            refine lv_goto (tgt := 39) hx hb dX3_howManyIn_35 (by decide) ?_
            cases hr_27
            exact j39 _ _ _ (Or.inr rfl) hP hS (lv_sub hl [0, 2] rfl)
  exact lp4 _ _ _ _ _ _ (by decide) (by decide) hr_18 hP hS (lv_sub hl [2, 1, 0] rfl)
