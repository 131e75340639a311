-- @needs 12_dec 13_dec 14_dec 15_dec 34_hM 60_cM 68_cM 74_cM
def rm_X7_row : Room := { frames := 1, cells := 0, slots := 0, locals := 25 }
theorem gm_X7_row : Cond.instanceMethod yX7_row ∈ wsL_law ∧ Cond.selects RX7 yX7_row yX7_row ∈ wsL_law ∧ Cond.initialized RX7 ∈ wsL_law ∧ Cond.code yX7_row cX7_row 5 (some .int) ∈ wsL_law := ⟨gw_41_23, gw_42_0, gw_1_5, gw_42_1⟩
theorem gd_X7_row : yX7_row.cls = RX7 ∧ yX7_row.cls ≠ "java/lang/invoke/MethodHandle" ∧ yX7_row.cls ≠ "java/lang/invoke/VarHandle" ∧ (parseMethodDescriptor yX7_row.desc).map (fun d => d.parameters.length) = some 3 := by decide +kernel
set_option maxRecDepth 100000 in
set_option maxHeartbeats 0 in
theorem c_X7_row {l : Launch} {D : va_G} {k : Nat → ClassId} {ad : Nat → Nat} (had : InjN 31 ad) (M : Mem) (a1 : Int32) (a2 : Int32) (a3 : Int32) (hI : MI M) : Met l yX7_row (Cond.code yX7_row cX7_row 5 (some .int) :: wsL_law) rm_X7_row (va_Pc [.ref (ad 0), .int a1, .int a2, .int a3] (GW 31 ad D k (cM ad k M))) (va_Qi (fun r u => (f_X7_row M a1 a2 a3 = (r, u) ∧ TI M u)) (fun u t => GW 31 ad D k (cM ad k u) t) (AW 31 ad)) 0 0 (AW 31 ad) := by
  refine met_i (g := cM ad k) (M := M) (plainFor_of_name (by decide)) (Nat.le_of_ble_eq_true rfl) ?_
  intro p e s m args below meth c Q ls hx hb hml hG hown hK hret hP hS hl
  have hl : lv_has ls 5 [(0, .ref (ad 0)), (1, .int a1), (2, .int a2), (3, .int a3)] := hl
  obtain ⟨V, hV⟩ : ∃ V, f_X7_row M a1 a2 a3 = V := ⟨_, rfl⟩
  have he := hV
  unfold f_X7_row at he
  have hT0 : TI M M := TI_rf hI
  have qb_M := hI.1
  have qs_M := hI.2.1
  have qz_M := hI.2.2.1
  refine lv_aload_n hx hb dX7_row_0 rfl (lv_at hl 0 rfl) ?_
  refine lv_iconst (v := 0) hx hb dX7_row_1 (by decide) ?_
  refine pX7_19 hx hb hG hown hK hP had AW_in hS gw_5_17 dX7_row_2 (fun H locs hP hS => ?_)
  obtain ⟨M_1, eM_1⟩ : ∃ y : Mem, y = up2 M 0 19 0 := ⟨_, rfl⟩
  rw [← eM_1] at hP
  have he := bnd_at he eM_1
  have hTM_1 : TI M M_1 := by rw [eM_1]; exact TI_f hT0 (by decide)
  have qb_M_1 := hTM_1.1.1
  have qs_M_1 := hTM_1.1.2.1
  have qz_M_1 := hTM_1.1.2.2.1
  refine lv_iload_n hx hb dX7_row_5 rfl (lv_at hl 1 rfl) ?_
  refine lv_i2l (v := a1.toInt64) hx hb dX7_row_6 rfl ?_
  refine lv_lconst (v := 0) hx hb dX7_row_7 (by decide) ?_
  refine lv_ldc2 (v := 7) hx hb hown (hG _ gw_9_9) dX7_row_8 ?_
  refine callS_i [.long a1.toInt64, .long 0, .long 7] [] hx hb hml hG hown hK (c_X7_in had (M := M_1)  a1.toInt64 0 7) gw_7_0 gm_X7_in gd_X7_in rfl rfl ⟨Nat.le_of_ble_eq_true rfl, Nat.le_of_ble_eq_true rfl⟩ ⟨Nat.le_refl _, Nat.le_refl _⟩ hP (fun _ h => h) hS rfl hl.1 rfl (Nat.le_of_ble_eq_true rfl) dX7_row_11 (fun r_2 u_4 H locs hF_3 hP hS => ?_)
  obtain ⟨hz_5, hF_3, hu⟩ := hF_3; rw [hu] at hP; subst hF_3
  refine lv_if_eq (tgt := 35) hx hb dX7_row_14 (by decide) (fun hc_6 => ?_) (fun hc_6 => ?_)
  · have he := ite_t he hc_6
    refine lv_iconst (v := (-1)) hx hb dX7_row_35 (by decide) ?_
    exact hret _ _ _ _ _ _ ⟨(hV.trans he.symm), hTM_1⟩ hP hS dX7_row_36
  · have he := ite_f he hc_6
    refine lv_iload_n hx hb dX7_row_17 rfl (lv_at hl 2 rfl) ?_
    refine lv_i2l (v := a2.toInt64) hx hb dX7_row_18 rfl ?_
    refine lv_lconst (v := 0) hx hb dX7_row_19 (by decide) ?_
    refine lv_ldc2 (v := 2) hx hb hown (hG _ gw_42_2) dX7_row_20 ?_
    refine callS_i [.long a2.toInt64, .long 0, .long 2] [] hx hb hml hG hown hK (c_X7_in had (M := M_1)  a2.toInt64 0 2) gw_7_0 gm_X7_in gd_X7_in rfl rfl ⟨Nat.le_of_ble_eq_true rfl, Nat.le_of_ble_eq_true rfl⟩ ⟨Nat.le_refl _, Nat.le_refl _⟩ hP (fun _ h => h) hS rfl hl.1 rfl (Nat.le_of_ble_eq_true rfl) dX7_row_23 (fun r_7 u_9 H locs hF_8 hP hS => ?_)
    obtain ⟨hz_10, hF_8, hu⟩ := hF_8; rw [hu] at hP; subst hF_8
    refine lv_if_eq (tgt := 35) hx hb dX7_row_26 (by decide) (fun hc_11 => ?_) (fun hc_11 => ?_)
    · have he := ite_t he hc_11
      refine lv_iconst (v := (-1)) hx hb dX7_row_35 (by decide) ?_
      exact hret _ _ _ _ _ _ ⟨(hV.trans he.symm), hTM_1⟩ hP hS dX7_row_36
    · have he := ite_f he hc_11
      refine lv_iload_n hx hb dX7_row_29 rfl (lv_at hl 3 rfl) ?_
      refine lv_bipush (v := 100) hx hb dX7_row_30 (by decide) ?_
      refine lv_icmp_le (tgt := 37) hx hb dX7_row_32 (by decide) (fun hc_12 => ?_) (fun hc_12 => ?_)
      · have he := ite_t he hc_12
        refine lv_iload_n hx hb dX7_row_37 rfl (lv_at hl 3 rfl) ?_
        refine lv_if_ge (tgt := 44) hx hb dX7_row_38 (by decide) (fun hc_13 => ?_) (fun hc_13 => ?_)
        · have he := ite_t he hc_13
          refine lv_aload_n hx hb dX7_row_44 rfl (lv_at hl 0 rfl) ?_
          refine gX7_42 hx hb hG hown hK hP gw_5_9 dX7_row_45 ?_
          refine lv_iload_n hx hb dX7_row_48 rfl (lv_at hl 1 rfl) ?_
          refine lv_iconst (v := 2) hx hb dX7_row_49 (by decide) ?_
          refine as_M23 hx hb hK hP had AW_in hS (vin_I (by have q0 : (f_X7_in a1.toInt64 0 7).toInt ≠ 0 := ne_I hc_6; have r1 : 0 ≤ a1.toInt ∧ a1.toInt ≤ 7 := in_I hc_6; omega) (by have q0 : (f_X7_in a1.toInt64 0 7).toInt ≠ 0 := ne_I hc_6; have r1 : 0 ≤ a1.toInt ∧ a1.toInt ≤ 7 := in_I hc_6; omega)) dX7_row_50 (fun H locs hP hS => ?_)
          obtain ⟨M_14, eM_14⟩ : ∃ y : Mem, y = up2 M_1 23 a1.toNatClampNeg 2 := ⟨_, rfl⟩
          rw [← eM_14] at hP
          have he := bnd_at he eM_14
          have hTM_14 : TI M M_14 := by rw [eM_14]; exact TI_a hTM_1 (by decide)
          have qb_M_14 := hTM_14.1.1
          have qs_M_14 := hTM_14.1.2.1
          have qz_M_14 := hTM_14.1.2.2.1
          refine lv_aload_n hx hb dX7_row_51 rfl (lv_at hl 0 rfl) ?_
          refine gX7_46 hx hb hG hown hK hP gw_5_13 dX7_row_52 ?_
          refine lv_iload_n hx hb dX7_row_55 rfl (lv_at hl 1 rfl) ?_
          refine lv_iload_n hx hb dX7_row_56 rfl (lv_at hl 2 rfl) ?_
          refine as_M27 hx hb hK hP had AW_in hS (vin_I (by have q0 : (f_X7_in a1.toInt64 0 7).toInt ≠ 0 := ne_I hc_6; have r1 : 0 ≤ a1.toInt ∧ a1.toInt ≤ 7 := in_I hc_6; omega) (by have q0 : (f_X7_in a1.toInt64 0 7).toInt ≠ 0 := ne_I hc_6; have r1 : 0 ≤ a1.toInt ∧ a1.toInt ≤ 7 := in_I hc_6; omega)) dX7_row_57 (fun H locs hP hS => ?_)
          obtain ⟨M_15, eM_15⟩ : ∃ y : Mem, y = up2 M_14 27 a1.toNatClampNeg a2 := ⟨_, rfl⟩
          rw [← eM_15] at hP
          have he := bnd_at he eM_15
          have hTM_15 : TI M M_15 := by rw [eM_15]; exact TI_a hTM_14 (by decide)
          have qb_M_15 := hTM_15.1.1
          have qs_M_15 := hTM_15.1.2.1
          have qz_M_15 := hTM_15.1.2.2.1
          refine lv_aload_n hx hb dX7_row_58 rfl (lv_at hl 0 rfl) ?_
          refine gX7_47 hx hb hG hown hK hP gw_5_14 dX7_row_59 ?_
          refine lv_iload_n hx hb dX7_row_62 rfl (lv_at hl 1 rfl) ?_
          refine lv_iload_n hx hb dX7_row_63 rfl (lv_at hl 3 rfl) ?_
          refine as_M28 hx hb hK hP had AW_in hS (vin_I (by have q0 : (f_X7_in a1.toInt64 0 7).toInt ≠ 0 := ne_I hc_6; have r1 : 0 ≤ a1.toInt ∧ a1.toInt ≤ 7 := in_I hc_6; omega) (by have q0 : (f_X7_in a1.toInt64 0 7).toInt ≠ 0 := ne_I hc_6; have r1 : 0 ≤ a1.toInt ∧ a1.toInt ≤ 7 := in_I hc_6; omega)) dX7_row_64 (fun H locs hP hS => ?_)
          obtain ⟨M_16, eM_16⟩ : ∃ y : Mem, y = up2 M_15 28 a1.toNatClampNeg a3 := ⟨_, rfl⟩
          rw [← eM_16] at hP
          have he := bnd_at he eM_16
          have hTM_16 : TI M M_16 := by rw [eM_16]; exact TI_rows hTM_15 (by have q0 : a3.toInt ≤ 100 := le_I hc_12; have q1 : 0 ≤ a3.toInt := le_I hc_13; omega)
          have qb_M_16 := hTM_16.1.1
          have qs_M_16 := hTM_16.1.2.1
          have qz_M_16 := hTM_16.1.2.2.1
          refine lv_iconst (v := 0) hx hb dX7_row_65 (by decide) ?_
          refine lv_istore (lv' := [(4, .int 0), (0, .ref (ad 0)), (1, .int a1), (2, .int a2), (3, .int a3)]) hx hb dX7_row_66 hl (by decide) rfl (fun ls hl => ?_)
          obtain ⟨M_29, hr_25, he⟩ := bnd_ex he
          have j94 : ∀ (H : Heap) (locs : List Loc) (ls : Array Slot), TI M M_29 → va_P D vwCl (wld 31 ad (cM ad k M_29)) H → va_S (AW 31 ad) s.heap H locs → lv_has ls 5 [] → W p l e rm_X7_row s m args below meth c H locs 0 0 Q (F0 m 94 ls []) := by
            intro H locs ls hTM_29 hP hS hl
            have qb_M_29 := hTM_29.1.1
            have qs_M_29 := hTM_29.1.2.1
            have qz_M_29 := hTM_29.1.2.2.1
            refine lv_iconst (v := 0) hx hb dX7_row_94 (by decide) ?_
            exact hret _ _ _ _ _ _ ⟨(hV.trans he.symm), hTM_29⟩ hP hS dX7_row_95
          have lp68 : ∀ (nn : Nat) (H : Heap) (locs : List Loc) (ls : Array Slot) (M_24 : Mem) (v_23 : Int32), (0 ≤ v_23.toInt) → (TI M M_24) → (100 - v_23.toInt).toNat < nn → lp_X7_row_68 nn a1 M_24 v_23 = M_29 → va_P D vwCl (wld 31 ad (cM ad k M_24)) H → va_S (AW 31 ad) s.heap H locs → lv_has ls 5 [(0, .ref (ad 0)), (1, .int a1), (4, .int v_23)] → W p l e rm_X7_row s m args below meth c H locs 0 0 Q (F0 m 68 ls []) := by
            intro nn
            induction nn with
            | zero =>
              intro H locs ls M_24 v_23 h0v_23 hTM_24 hμ
              exact absurd hμ (Nat.not_lt_zero _)
            | succ nn ih =>
              intro H locs ls M_24 v_23 h0v_23 hTM_24 hμ hr_25 hP hS hl
              rw [lp_X7_row_68] at hr_25
              have qb_M_24 := hTM_24.1.1
              have qs_M_24 := hTM_24.1.2.1
              have qz_M_24 := hTM_24.1.2.2.1
              refine lv_iload hx hb dX7_row_68 (lv_at hl 2 rfl) ?_
              refine lv_bipush (v := 100) hx hb dX7_row_70 (by decide) ?_
              refine lv_icmp_ge (tgt := 94) hx hb dX7_row_72 (by decide) (fun hc_26 => ?_) (fun hc_26 => ?_)
              · have hr_25 := ite_t hr_25 hc_26
                cases hr_25
                exact j94 _ _ _ hTM_24 hP hS (lv_sub hl [] rfl)
              · have hr_25 := ite_f hr_25 hc_26
                refine lv_aload_n hx hb dX7_row_75 rfl (lv_at hl 0 rfl) ?_
                refine gX7_48 hx hb hG hown hK hP gw_5_15 dX7_row_76 ?_
                refine lv_bipush (v := 100) hx hb dX7_row_79 (by decide) ?_
                refine lv_iload_n hx hb dX7_row_81 rfl (lv_at hl 1 rfl) ?_
                refine lv_imul hx hb dX7_row_82 ?_
                refine lv_iload hx hb dX7_row_83 (lv_at hl 2 rfl) ?_
                refine lv_iadd hx hb dX7_row_85 ?_
                refine lv_lconst (v := 0) hx hb dX7_row_86 (by decide) ?_
                refine as_M29 hx hb hK hP had AW_in hS (by decide) (vin_row (by have q0 : (f_X7_in a1.toInt64 0 7).toInt ≠ 0 := ne_I hc_6; have r1 : 0 ≤ a1.toInt ∧ a1.toInt ≤ 7 := in_I hc_6; omega) (by have q0 : v_23.toInt < 100 := nle_I hc_26; omega)) dX7_row_87 (fun H locs hP hS => ?_)
                obtain ⟨M_27, eM_27⟩ : ∃ y : Mem, y = up2 M_24 29 ((100 * a1) + v_23).toNatClampNeg ((0 : Int64).toInt32) := ⟨_, rfl⟩
                rw [← eM_27] at hP
                have hr_25 := bnd_at hr_25 eM_27
                have hTM_27 : TI M M_27 := by rw [eM_27]; exact TI_a hTM_24 (by decide)
                have qb_M_27 := hTM_27.1.1
                have qs_M_27 := hTM_27.1.2.1
                have qz_M_27 := hTM_27.1.2.2.1
                obtain ⟨y_28, ey_28⟩ : ∃ y_28 : Int32, y_28 = v_23 + 1 := ⟨_, rfl⟩
                have hr_25 := bnd_at hr_25 ey_28
                refine lv_iinc (v := y_28) (lv' := [(4, .int y_28), (0, .ref (ad 0)), (1, .int a1)]) hx hb dX7_row_88 hl (k := 2) rfl (by rw [ey_28]; rfl) (by decide) rfl (fun ls hl => ?_)
                refine lv_goto (tgt := 68) hx hb dX7_row_91 (by decide) ?_
                exact ih _ _ _ _ _ (by rw [ey_28, inc_I (N := 100) (nle_I hc_26) (by decide)]; omega) hTM_27 (by rw [ey_28]; exact mu_I hμ (nle_I hc_26) (by decide)) hr_25 hP hS (lv_sub hl [1, 2, 0] rfl)
          exact lp68 _ _ _ _ _ _ (by decide) hTM_16 (by decide) hr_25 hP hS (lv_sub hl [1, 2, 0] rfl)
        · have he := ite_f he hc_13
          refine lv_bipush (v := (-14)) hx hb dX7_row_41 (by decide) ?_
          exact hret _ _ _ _ _ _ ⟨(hV.trans he.symm), hTM_1⟩ hP hS dX7_row_43
      · have he := ite_f he hc_12
        refine lv_iconst (v := (-1)) hx hb dX7_row_35 (by decide) ?_
        exact hret _ _ _ _ _ _ ⟨(hV.trans he.symm), hTM_1⟩ hP hS dX7_row_36
def rm_X7_put : Room := { frames := 2, cells := 0, slots := 0, locals := 46 }
theorem gm_X7_put : Cond.instanceMethod yX7_put ∈ wsL_law ∧ Cond.selects RX7 yX7_put yX7_put ∈ wsL_law ∧ Cond.initialized RX7 ∈ wsL_law ∧ Cond.code yX7_put cX7_put 5 (some .int) ∈ wsL_law := ⟨gw_42_13, gw_42_14, gw_1_5, gw_42_15⟩
theorem gd_X7_put : yX7_put.cls = RX7 ∧ yX7_put.cls ≠ "java/lang/invoke/MethodHandle" ∧ yX7_put.cls ≠ "java/lang/invoke/VarHandle" ∧ (parseMethodDescriptor yX7_put.desc).map (fun d => d.parameters.length) = some 3 := by decide +kernel
set_option maxRecDepth 100000 in
set_option maxHeartbeats 0 in
theorem c_X7_put {l : Launch} {D : va_G} {k : Nat → ClassId} {ad : Nat → Nat} (had : InjN 31 ad) (M : Mem) (a1 : Int32) (a2 : Int32) (a3 : Int32) (hI : MI M) : Met l yX7_put (Cond.code yX7_put cX7_put 5 (some .int) :: wsL_law) rm_X7_put (va_Pc [.ref (ad 0), .int a1, .int a2, .int a3] (GW 31 ad D k (cM ad k M))) (va_Qi (fun r u => (f_X7_put M a1 a2 a3 = (r, u) ∧ TI M u)) (fun u t => GW 31 ad D k (cM ad k u) t) (AW 31 ad)) 0 0 (AW 31 ad) := by
  refine met_i (g := cM ad k) (M := M) (plainFor_of_name (by decide)) (Nat.le_of_ble_eq_true rfl) ?_
  intro p e s m args below meth c Q ls hx hb hml hG hown hK hret hP hS hl
  have hl : lv_has ls 5 [(0, .ref (ad 0)), (1, .int a1), (2, .int a2), (3, .int a3)] := hl
  obtain ⟨V, hV⟩ : ∃ V, f_X7_put M a1 a2 a3 = V := ⟨_, rfl⟩
  have he := hV
  unfold f_X7_put at he
  have hT0 : TI M M := TI_rf hI
  have qb_M := hI.1
  have qs_M := hI.2.1
  have qz_M := hI.2.2.1
  refine lv_aload_n hx hb dX7_put_0 rfl (lv_at hl 0 rfl) ?_
  refine lv_iconst (v := 0) hx hb dX7_put_1 (by decide) ?_
  refine pX7_19 hx hb hG hown hK hP had AW_in hS gw_5_17 dX7_put_2 (fun H locs hP hS => ?_)
  obtain ⟨M_1, eM_1⟩ : ∃ y : Mem, y = up2 M 0 19 0 := ⟨_, rfl⟩
  rw [← eM_1] at hP
  have he := bnd_at he eM_1
  have hTM_1 : TI M M_1 := by rw [eM_1]; exact TI_f hT0 (by decide)
  have qb_M_1 := hTM_1.1.1
  have qs_M_1 := hTM_1.1.2.1
  have qz_M_1 := hTM_1.1.2.2.1
  refine lv_aload_n hx hb dX7_put_5 rfl (lv_at hl 0 rfl) ?_
  refine lv_iload_n hx hb dX7_put_6 rfl (lv_at hl 1 rfl) ?_
  refine call_i [.int a1] [] hx hb hml hG hown hK (c_X7_wrongRow had M_1 a1 hTM_1.1) gw_9_5 gm_X7_wrongRow gd_X7_wrongRow rfl rfl ⟨Nat.le_of_ble_eq_true rfl, Nat.le_of_ble_eq_true rfl⟩ ⟨Nat.le_refl _, Nat.le_refl _⟩ (rX7 hK hP) hP (fun _ h => h) hS rfl hl.1 rfl (Nat.le_of_ble_eq_true rfl) dX7_put_7 (fun r_2 u_4 H locs hF_3 hP hS => ?_)
  obtain ⟨hF_3, hu⟩ := hF_3; rw [hu] at hP; subst hF_3
  refine lv_topi (fun y_5 ey_5 => ?_)
  have he := bnd_at he ey_5
  refine lv_istore (lv' := [(4, .int y_5), (0, .ref (ad 0)), (1, .int a1), (2, .int a2), (3, .int a3)]) hx hb dX7_put_10 hl (by decide) rfl (fun ls hl => ?_)
  refine lv_iload hx hb dX7_put_12 (lv_at hl 0 rfl) ?_
  refine lv_if_ge (tgt := 20) hx hb dX7_put_14 (by decide) (fun hc_6 => ?_) (fun hc_6 => ?_)
  · have he := ite_t he hc_6
    refine lv_iload_n hx hb dX7_put_20 rfl (lv_at hl 3 rfl) ?_
    refine lv_i2l (v := a2.toInt64) hx hb dX7_put_21 rfl ?_
    refine lv_lconst (v := 0) hx hb dX7_put_22 (by decide) ?_
    refine lv_aload_n hx hb dX7_put_23 rfl (lv_at hl 1 rfl) ?_
    refine gX7_47 hx hb hG hown hK hP gw_5_14 dX7_put_24 ?_
    refine lv_iload_n hx hb dX7_put_27 rfl (lv_at hl 2 rfl) ?_
    refine al_M28 hx hb hK hP (vin_I (by have qy_5 := congrArg Int32.toInt ey_5; omega) (by have qy_5 := congrArg Int32.toInt ey_5; omega)) dX7_put_28 ?_
    have qr_7 := hTM_1.1.2.2.2.1 _ (vin_lt (vin_I (by have qy_5 := congrArg Int32.toInt ey_5; omega) (by have qy_5 := congrArg Int32.toInt ey_5; omega)))
    refine lv_iconst (v := 1) hx hb dX7_put_29 (by decide) ?_
    refine lv_isub hx hb dX7_put_30 ?_
    refine lv_i2l (v := ((M_1 28 a1.toNatClampNeg) - 1).toInt64) hx hb dX7_put_31 rfl ?_
    refine callS_i [.long a2.toInt64, .long 0, .long (((M_1 28 a1.toNatClampNeg) - 1).toInt64)] [] hx hb hml hG hown hK (c_X7_in had (M := M_1)  a2.toInt64 0 (((M_1 28 a1.toNatClampNeg) - 1).toInt64)) gw_7_0 gm_X7_in gd_X7_in rfl rfl ⟨Nat.le_of_ble_eq_true rfl, Nat.le_of_ble_eq_true rfl⟩ ⟨Nat.le_refl _, Nat.le_refl _⟩ hP (fun _ h => h) hS rfl hl.1 rfl (Nat.le_of_ble_eq_true rfl) dX7_put_32 (fun r_8 u_10 H locs hF_9 hP hS => ?_)
    obtain ⟨hz_11, hF_9, hu⟩ := hF_9; rw [hu] at hP; subst hF_9
    refine lv_if_ne (tgt := 41) hx hb dX7_put_35 (by decide) (fun hc_12 => ?_) (fun hc_12 => ?_)
    · have he := ite_t he hc_12
      refine lv_aload_n hx hb dX7_put_41 rfl (lv_at hl 1 rfl) ?_
      refine gX7_48 hx hb hG hown hK hP gw_5_15 dX7_put_42 ?_
      refine lv_bipush (v := 100) hx hb dX7_put_45 (by decide) ?_
      refine lv_iload_n hx hb dX7_put_47 rfl (lv_at hl 2 rfl) ?_
      refine lv_imul hx hb dX7_put_48 ?_
      refine lv_iload_n hx hb dX7_put_49 rfl (lv_at hl 3 rfl) ?_
      refine lv_iadd hx hb dX7_put_50 ?_
      refine lv_iload_n hx hb dX7_put_51 rfl (lv_at hl 4 rfl) ?_
      refine lv_aload_n hx hb dX7_put_52 rfl (lv_at hl 1 rfl) ?_
      refine gX7_46 hx hb hG hown hK hP gw_5_13 dX7_put_53 ?_
      refine lv_iload_n hx hb dX7_put_56 rfl (lv_at hl 2 rfl) ?_
      refine al_M27 hx hb hK hP (vin_I (by have qy_5 := congrArg Int32.toInt ey_5; have q1 : (f_X7_in a2.toInt64 0 (((M_1 28 a1.toNatClampNeg) - 1).toInt64)).toInt ≠ 0 := ne_I hc_12; have r2 : 0 ≤ a2.toInt ∧ a2.toInt < (M_1 28 a1.toNatClampNeg).toInt := in_I1 (by omega) hc_12; omega) (by have qy_5 := congrArg Int32.toInt ey_5; have q1 : (f_X7_in a2.toInt64 0 (((M_1 28 a1.toNatClampNeg) - 1).toInt64)).toInt ≠ 0 := ne_I hc_12; have r2 : 0 ≤ a2.toInt ∧ a2.toInt < (M_1 28 a1.toNatClampNeg).toInt := in_I1 (by omega) hc_12; omega)) dX7_put_57 ?_
      refine callS_l [.int a3, .int (M_1 27 a1.toNatClampNeg)] [.int ((100 * a1) + a2), .ref (ad 29)] hx hb hml hG hown hK (c_X7_narrowed had (M := M_1)  a3 (M_1 27 a1.toNatClampNeg)) gw_42_16 gm_X7_narrowed gd_X7_narrowed rfl rfl ⟨Nat.le_of_ble_eq_true rfl, Nat.le_of_ble_eq_true rfl⟩ ⟨Nat.le_refl _, Nat.le_refl _⟩ hP (fun _ h => h) hS rfl hl.1 rfl (Nat.le_of_ble_eq_true rfl) dX7_put_58 (fun r_13 u_15 H locs hF_14 hP hS => ?_)
      obtain ⟨hF_14, hu⟩ := hF_14; rw [hu] at hP; subst hF_14
      refine as_M29 hx hb hK hP had AW_in hS (narrowed_ok _ _) (vin_row (by have qy_5 := congrArg Int32.toInt ey_5; have q1 : (f_X7_in a2.toInt64 0 (((M_1 28 a1.toNatClampNeg) - 1).toInt64)).toInt ≠ 0 := ne_I hc_12; have r2 : 0 ≤ a2.toInt ∧ a2.toInt < (M_1 28 a1.toNatClampNeg).toInt := in_I1 (by omega) hc_12; omega) (by have q0 : (f_X7_in a2.toInt64 0 (((M_1 28 a1.toNatClampNeg) - 1).toInt64)).toInt ≠ 0 := ne_I hc_12; have r1 : 0 ≤ a2.toInt ∧ a2.toInt < (M_1 28 a1.toNatClampNeg).toInt := in_I1 (by omega) hc_12; omega)) dX7_put_61 (fun H locs hP hS => ?_)
      obtain ⟨M_16, eM_16⟩ : ∃ y : Mem, y = up2 M_1 29 ((100 * a1) + a2).toNatClampNeg ((f_X7_narrowed a3 (M_1 27 a1.toNatClampNeg)).toInt32) := ⟨_, rfl⟩
      rw [← eM_16] at hP
      have he := bnd_at he eM_16
      have hTM_16 : TI M M_16 := by rw [eM_16]; exact TI_a hTM_1 (by decide)
      have qb_M_16 := hTM_16.1.1
      have qs_M_16 := hTM_16.1.2.1
      have qz_M_16 := hTM_16.1.2.2.1
      refine lv_iconst (v := 0) hx hb dX7_put_62 (by decide) ?_
      exact hret _ _ _ _ _ _ ⟨(hV.trans he.symm), hTM_16⟩ hP hS dX7_put_63
    · have he := ite_f he (fun q => q hc_12)
      refine lv_bipush (v := (-13)) hx hb dX7_put_38 (by decide) ?_
      exact hret _ _ _ _ _ _ ⟨(hV.trans he.symm), hTM_1⟩ hP hS dX7_put_40
  · have he := ite_f he hc_6
    refine lv_iload hx hb dX7_put_17 (lv_at hl 0 rfl) ?_
    exact hret _ _ _ _ _ _ ⟨(hV.trans he.symm), hTM_1⟩ hP hS dX7_put_19
def rm_X7_element : Room := { frames := 2, cells := 0, slots := 0, locals := 46 }
theorem gm_X7_element : Cond.instanceMethod yX7_element ∈ wsL_law ∧ Cond.selects RX7 yX7_element yX7_element ∈ wsL_law ∧ Cond.initialized RX7 ∈ wsL_law ∧ Cond.code yX7_element cX7_element 4 (some .long) ∈ wsL_law := ⟨gw_43_10, gw_43_11, gw_1_5, gw_43_12⟩
theorem gd_X7_element : yX7_element.cls = RX7 ∧ yX7_element.cls ≠ "java/lang/invoke/MethodHandle" ∧ yX7_element.cls ≠ "java/lang/invoke/VarHandle" ∧ (parseMethodDescriptor yX7_element.desc).map (fun d => d.parameters.length) = some 2 := by decide +kernel
set_option maxRecDepth 100000 in
set_option maxHeartbeats 0 in
theorem c_X7_element {l : Launch} {D : va_G} {k : Nat → ClassId} {ad : Nat → Nat} (had : InjN 31 ad) (M : Mem) (a1 : Int32) (a2 : Int32) (hI : MI M) : Met l yX7_element (Cond.code yX7_element cX7_element 4 (some .long) :: wsL_law) rm_X7_element (va_Pc [.ref (ad 0), .int a1, .int a2] (GW 31 ad D k (cM ad k M))) (va_Ql (fun r u => (f_X7_element M a1 a2 = (r, u) ∧ TI M u)) (fun u t => GW 31 ad D k (cM ad k u) t) (AW 31 ad)) 0 0 (AW 31 ad) := by
  refine met_l (g := cM ad k) (M := M) (plainFor_of_name (by decide)) (Nat.le_of_ble_eq_true rfl) ?_
  intro p e s m args below meth c Q ls hx hb hml hG hown hK hret hP hS hl
  have hl : lv_has ls 4 [(0, .ref (ad 0)), (1, .int a1), (2, .int a2)] := hl
  obtain ⟨V, hV⟩ : ∃ V, f_X7_element M a1 a2 = V := ⟨_, rfl⟩
  have he := hV
  unfold f_X7_element at he
  have hT0 : TI M M := TI_rf hI
  have qb_M := hI.1
  have qs_M := hI.2.1
  have qz_M := hI.2.2.1
  refine lv_aload_n hx hb dX7_element_0 rfl (lv_at hl 0 rfl) ?_
  refine lv_iload_n hx hb dX7_element_1 rfl (lv_at hl 1 rfl) ?_
  refine call_i [.int a1] [] hx hb hml hG hown hK (c_X7_wrongRow had M a1 hT0.1) gw_9_5 gm_X7_wrongRow gd_X7_wrongRow rfl rfl ⟨Nat.le_of_ble_eq_true rfl, Nat.le_of_ble_eq_true rfl⟩ ⟨Nat.le_refl _, Nat.le_refl _⟩ (rX7 hK hP) hP (fun _ h => h) hS rfl hl.1 rfl (Nat.le_of_ble_eq_true rfl) dX7_element_2 (fun r_1 u_3 H locs hF_2 hP hS => ?_)
  obtain ⟨hF_2, hu⟩ := hF_2; rw [hu] at hP; subst hF_2
  refine lv_topi (fun y_4 ey_4 => ?_)
  have he := bnd_at he ey_4
  refine lv_istore_n (lv' := [(3, .int y_4), (0, .ref (ad 0)), (1, .int a1), (2, .int a2)]) hx hb dX7_element_5 rfl hl (by decide) rfl (fun ls hl => ?_)
  refine lv_aload_n hx hb dX7_element_6 rfl (lv_at hl 1 rfl) ?_
  refine lv_iload_n hx hb dX7_element_7 rfl (lv_at hl 0 rfl) ?_
  refine lv_iconst (v := (-1)) hx hb dX7_element_8 (by decide) ?_
  obtain ⟨t_14, hr_6, he⟩ := bnd_ex he
  have j43 : ∀ (H : Heap) (locs : List Loc) (ls : Array Slot), va_P D vwCl (wld 31 ad (cM ad k M)) H → va_S (AW 31 ad) s.heap H locs → lv_has ls 4 [(0, .ref (ad 0)), (1, .int a1), (2, .int a2)] → W p l e rm_X7_element s m args below meth c H locs 0 0 Q (F0 m 43 ls [.int t_14, .ref (ad 0)]) := by
    intro H locs ls hP hS hl
    refine pX7_19 hx hb hG hown hK hP had AW_in hS gw_5_17 dX7_element_43 (fun H locs hP hS => ?_)
    obtain ⟨M_15, eM_15⟩ : ∃ y : Mem, y = up2 M 0 19 t_14 := ⟨_, rfl⟩
    rw [← eM_15] at hP
    have he := bnd_at he eM_15
    have hTM_15 : TI M M_15 := by rw [eM_15]; exact TI_f hT0 (by decide)
    have qb_M_15 := hTM_15.1.1
    have qs_M_15 := hTM_15.1.2.1
    have qz_M_15 := hTM_15.1.2.2.1
    refine lv_aload_n hx hb dX7_element_46 rfl (lv_at hl 0 rfl) ?_
    refine gX7_19 hx hb hG hown hK hP gw_5_17 dX7_element_47 ?_
    obtain ⟨t_18, hr_17, he⟩ := bnd_ex he
    have j68 : ∀ (H : Heap) (locs : List Loc) (ls : Array Slot), va_P D vwCl (wld 31 ad (cM ad k M_15)) H → va_S (AW 31 ad) s.heap H locs → lv_has ls 4 [] → W p l e rm_X7_element s m args below meth c H locs 0 0 Q (F0 m 68 ls [.long t_18]) := by
      intro H locs ls hP hS hl
      exact hret _ _ _ _ _ _ ⟨(hV.trans he.symm), hTM_15⟩ hP hS dX7_element_68
    refine lv_if_le (tgt := 57) hx hb dX7_element_50 (by decide) (fun hc_16 => ?_) (fun hc_16 => ?_)
    · have hr_17 := ite_t hr_17 hc_16
      refine lv_aload_n hx hb dX7_element_57 rfl (lv_at hl 0 rfl) ?_
      refine gX7_48 hx hb hG hown hK hP gw_5_15 dX7_element_58 ?_
      refine lv_bipush (v := 100) hx hb dX7_element_61 (by decide) ?_
      refine lv_iload_n hx hb dX7_element_63 rfl (lv_at hl 1 rfl) ?_
      refine lv_imul hx hb dX7_element_64 ?_
      refine lv_iload_n hx hb dX7_element_65 rfl (lv_at hl 2 rfl) ?_
      refine lv_iadd hx hb dX7_element_66 ?_
      refine al_M29 hx hb hK hP (vin_row (by have qy_4 := congrArg Int32.toInt ey_4; omega) (by omega)) dX7_element_67 ?_
      cases hr_17
      exact j68 _ _ _ hP hS (lv_sub hl [] rfl)
    · have hr_17 := ite_f hr_17 hc_16
      refine lv_lconst (v := 0) hx hb dX7_element_53 (by decide) ?_
      refine lv_goto (tgt := 68) hx hb dX7_element_54 (by decide) ?_
      cases hr_17
      exact j68 _ _ _ hP hS (lv_sub hl [] rfl)
  refine lv_icmp_ne (tgt := 16) hx hb dX7_element_9 (by decide) (fun hc_5 => ?_) (fun hc_5 => ?_)
  · have hr_6 := ite_t hr_6 hc_5
    refine lv_iload_n hx hb dX7_element_16 rfl (lv_at hl 0 rfl) ?_
    refine lv_if_lt (tgt := 38) hx hb dX7_element_17 (by decide) (fun hc_7 => ?_) (fun hc_7 => ?_)
    · have hr_6 := ite_t hr_6 hc_7
      refine lv_iconst (v := 2) hx hb dX7_element_38 (by decide) ?_
      refine lv_goto (tgt := 43) hx hb dX7_element_39 (by decide) ?_
      cases hr_6
      exact j43 _ _ _ hP hS (lv_sub hl [1, 2, 3] rfl)
    · have hr_6 := ite_f hr_6 hc_7
      refine lv_iload_n hx hb dX7_element_20 rfl (lv_at hl 3 rfl) ?_
      refine lv_i2l (v := a2.toInt64) hx hb dX7_element_21 rfl ?_
      refine lv_lconst (v := 0) hx hb dX7_element_22 (by decide) ?_
      refine lv_aload_n hx hb dX7_element_23 rfl (lv_at hl 1 rfl) ?_
      refine gX7_47 hx hb hG hown hK hP gw_5_14 dX7_element_24 ?_
      refine lv_iload_n hx hb dX7_element_27 rfl (lv_at hl 2 rfl) ?_
      refine al_M28 hx hb hK hP (vin_I (by have qy_4 := congrArg Int32.toInt ey_4; omega) (by have qy_4 := congrArg Int32.toInt ey_4; omega)) dX7_element_28 ?_
      have qr_8 := hT0.1.2.2.2.1 _ (vin_lt (vin_I (by have qy_4 := congrArg Int32.toInt ey_4; omega) (by have qy_4 := congrArg Int32.toInt ey_4; omega)))
      refine lv_iconst (v := 1) hx hb dX7_element_29 (by decide) ?_
      refine lv_isub hx hb dX7_element_30 ?_
      refine lv_i2l (v := ((M 28 a1.toNatClampNeg) - 1).toInt64) hx hb dX7_element_31 rfl ?_
      refine callS_i [.long a2.toInt64, .long 0, .long (((M 28 a1.toNatClampNeg) - 1).toInt64)] [.ref (ad 0)] hx hb hml hG hown hK (c_X7_in had (M := M)  a2.toInt64 0 (((M 28 a1.toNatClampNeg) - 1).toInt64)) gw_7_0 gm_X7_in gd_X7_in rfl rfl ⟨Nat.le_of_ble_eq_true rfl, Nat.le_of_ble_eq_true rfl⟩ ⟨Nat.le_refl _, Nat.le_refl _⟩ hP (fun _ h => h) hS rfl hl.1 rfl (Nat.le_of_ble_eq_true rfl) dX7_element_32 (fun r_9 u_11 H locs hF_10 hP hS => ?_)
      obtain ⟨hz_12, hF_10, hu⟩ := hF_10; rw [hu] at hP; subst hF_10
      refine lv_if_ne (tgt := 42) hx hb dX7_element_35 (by decide) (fun hc_13 => ?_) (fun hc_13 => ?_)
      · have hr_6 := ite_t hr_6 hc_13
        refine lv_iconst (v := 0) hx hb dX7_element_42 (by decide) ?_
        cases hr_6
        exact j43 _ _ _ hP hS (lv_sub hl [1, 2, 3] rfl)
      · have hr_6 := ite_f hr_6 (fun q => q hc_13)
        refine lv_iconst (v := 2) hx hb dX7_element_38 (by decide) ?_
        refine lv_goto (tgt := 43) hx hb dX7_element_39 (by decide) ?_
        cases hr_6
        exact j43 _ _ _ hP hS (lv_sub hl [1, 2, 3] rfl)
  · have hr_6 := ite_f hr_6 (fun q => q hc_5)
    refine lv_iconst (v := 1) hx hb dX7_element_12 (by decide) ?_
    refine lv_goto (tgt := 43) hx hb dX7_element_13 (by decide) ?_
    cases hr_6
    exact j43 _ _ _ hP hS (lv_sub hl [1, 2, 3] rfl)
def rm_X7_copy : Room := { frames := 1, cells := 0, slots := 0, locals := 25 }
theorem gm_X7_copy : Cond.instanceMethod yX7_copy ∈ wsL_law ∧ Cond.selects RX7 yX7_copy yX7_copy ∈ wsL_law ∧ Cond.initialized RX7 ∈ wsL_law ∧ Cond.code yX7_copy cX7_copy 7 (some .int) ∈ wsL_law := ⟨gw_44_4, gw_44_5, gw_1_5, gw_44_6⟩
theorem gd_X7_copy : yX7_copy.cls = RX7 ∧ yX7_copy.cls ≠ "java/lang/invoke/MethodHandle" ∧ yX7_copy.cls ≠ "java/lang/invoke/VarHandle" ∧ (parseMethodDescriptor yX7_copy.desc).map (fun d => d.parameters.length) = some 5 := by decide +kernel
set_option maxRecDepth 100000 in
set_option maxHeartbeats 0 in
theorem c_X7_copy {l : Launch} {D : va_G} {k : Nat → ClassId} {ad : Nat → Nat} (had : InjN 31 ad) (M : Mem) (a1 : Int32) (a2 : Int32) (a3 : Int32) (a4 : Int32) (a5 : Int32) (hI : MI M) : Met l yX7_copy (Cond.code yX7_copy cX7_copy 7 (some .int) :: wsL_law) rm_X7_copy (va_Pc [.ref (ad 0), .int a1, .int a2, .int a3, .int a4, .int a5] (GW 31 ad D k (cM ad k M))) (va_Qi (fun r u => (f_X7_copy M a1 a2 a3 a4 a5 = (r, u) ∧ TI M u)) (fun u t => GW 31 ad D k (cM ad k u) t) (AW 31 ad)) 0 0 (AW 31 ad) := by
  refine met_i (g := cM ad k) (M := M) (plainFor_of_name (by decide)) (Nat.le_of_ble_eq_true rfl) ?_
  intro p e s m args below meth c Q ls hx hb hml hG hown hK hret hP hS hl
  have hl : lv_has ls 7 [(0, .ref (ad 0)), (1, .int a1), (2, .int a2), (3, .int a3), (4, .int a4), (5, .int a5)] := hl
  obtain ⟨V, hV⟩ : ∃ V, f_X7_copy M a1 a2 a3 a4 a5 = V := ⟨_, rfl⟩
  have he := hV
  unfold f_X7_copy at he
  have hT0 : TI M M := TI_rf hI
  have qb_M := hI.1
  have qs_M := hI.2.1
  have qz_M := hI.2.2.1
  refine lv_aload_n hx hb dX7_copy_0 rfl (lv_at hl 0 rfl) ?_
  refine lv_iconst (v := 0) hx hb dX7_copy_1 (by decide) ?_
  refine pX7_19 hx hb hG hown hK hP had AW_in hS gw_5_17 dX7_copy_2 (fun H locs hP hS => ?_)
  obtain ⟨M_1, eM_1⟩ : ∃ y : Mem, y = up2 M 0 19 0 := ⟨_, rfl⟩
  rw [← eM_1] at hP
  have he := bnd_at he eM_1
  have hTM_1 : TI M M_1 := by rw [eM_1]; exact TI_f hT0 (by decide)
  have qb_M_1 := hTM_1.1.1
  have qs_M_1 := hTM_1.1.2.1
  have qz_M_1 := hTM_1.1.2.2.1
  refine lv_iload_n hx hb dX7_copy_5 rfl (lv_at hl 1 rfl) ?_
  refine lv_i2l (v := a1.toInt64) hx hb dX7_copy_6 rfl ?_
  refine lv_lconst (v := 0) hx hb dX7_copy_7 (by decide) ?_
  refine lv_ldc2 (v := 7) hx hb hown (hG _ gw_9_9) dX7_copy_8 ?_
  refine callS_i [.long a1.toInt64, .long 0, .long 7] [] hx hb hml hG hown hK (c_X7_in had (M := M_1)  a1.toInt64 0 7) gw_7_0 gm_X7_in gd_X7_in rfl rfl ⟨Nat.le_of_ble_eq_true rfl, Nat.le_of_ble_eq_true rfl⟩ ⟨Nat.le_refl _, Nat.le_refl _⟩ hP (fun _ h => h) hS rfl hl.1 rfl (Nat.le_of_ble_eq_true rfl) dX7_copy_11 (fun r_2 u_4 H locs hF_3 hP hS => ?_)
  obtain ⟨hz_5, hF_3, hu⟩ := hF_3; rw [hu] at hP; subst hF_3
  refine lv_if_eq (tgt := 29) hx hb dX7_copy_14 (by decide) (fun hc_6 => ?_) (fun hc_6 => ?_)
  · have he := ite_t he hc_6
    refine lv_iconst (v := (-1)) hx hb dX7_copy_29 (by decide) ?_
    exact hret _ _ _ _ _ _ ⟨(hV.trans he.symm), hTM_1⟩ hP hS dX7_copy_30
  · have he := ite_f he hc_6
    refine lv_iload_n hx hb dX7_copy_17 rfl (lv_at hl 3 rfl) ?_
    refine lv_i2l (v := a3.toInt64) hx hb dX7_copy_18 rfl ?_
    refine lv_lconst (v := 0) hx hb dX7_copy_19 (by decide) ?_
    refine lv_ldc2 (v := 7) hx hb hown (hG _ gw_9_9) dX7_copy_20 ?_
    refine callS_i [.long a3.toInt64, .long 0, .long 7] [] hx hb hml hG hown hK (c_X7_in had (M := M_1)  a3.toInt64 0 7) gw_7_0 gm_X7_in gd_X7_in rfl rfl ⟨Nat.le_of_ble_eq_true rfl, Nat.le_of_ble_eq_true rfl⟩ ⟨Nat.le_refl _, Nat.le_refl _⟩ hP (fun _ h => h) hS rfl hl.1 rfl (Nat.le_of_ble_eq_true rfl) dX7_copy_23 (fun r_7 u_9 H locs hF_8 hP hS => ?_)
    obtain ⟨hz_10, hF_8, hu⟩ := hF_8; rw [hu] at hP; subst hF_8
    refine lv_if_ne (tgt := 31) hx hb dX7_copy_26 (by decide) (fun hc_11 => ?_) (fun hc_11 => ?_)
    · have he := ite_t he hc_11
      refine lv_aload_n hx hb dX7_copy_31 rfl (lv_at hl 0 rfl) ?_
      refine gX7_42 hx hb hG hown hK hP gw_5_9 dX7_copy_32 ?_
      refine lv_iload_n hx hb dX7_copy_35 rfl (lv_at hl 1 rfl) ?_
      refine al_M23 hx hb hK hP (vin_I (by have q0 : (f_X7_in a1.toInt64 0 7).toInt ≠ 0 := ne_I hc_6; have r1 : 0 ≤ a1.toInt ∧ a1.toInt ≤ 7 := in_I hc_6; omega) (by have q0 : (f_X7_in a1.toInt64 0 7).toInt ≠ 0 := ne_I hc_6; have r1 : 0 ≤ a1.toInt ∧ a1.toInt ≤ 7 := in_I hc_6; omega)) dX7_copy_36 ?_
      refine lv_if_eq (tgt := 49) hx hb dX7_copy_37 (by decide) (fun hc_12 => ?_) (fun hc_12 => ?_)
      · have he := ite_t he hc_12
        refine lv_bipush (v := (-11)) hx hb dX7_copy_49 (by decide) ?_
        exact hret _ _ _ _ _ _ ⟨(hV.trans he.symm), hTM_1⟩ hP hS dX7_copy_51
      · have he := ite_f he hc_12
        refine lv_aload_n hx hb dX7_copy_40 rfl (lv_at hl 0 rfl) ?_
        refine gX7_42 hx hb hG hown hK hP gw_5_9 dX7_copy_41 ?_
        refine lv_iload_n hx hb dX7_copy_44 rfl (lv_at hl 3 rfl) ?_
        refine al_M23 hx hb hK hP (vin_I (by have q0 : (f_X7_in a3.toInt64 0 7).toInt ≠ 0 := ne_I hc_11; have r1 : 0 ≤ a3.toInt ∧ a3.toInt ≤ 7 := in_I hc_11; omega) (by have q0 : (f_X7_in a3.toInt64 0 7).toInt ≠ 0 := ne_I hc_11; have r1 : 0 ≤ a3.toInt ∧ a3.toInt ≤ 7 := in_I hc_11; omega)) dX7_copy_45 ?_
        refine lv_if_ne (tgt := 52) hx hb dX7_copy_46 (by decide) (fun hc_13 => ?_) (fun hc_13 => ?_)
        · have he := ite_t he hc_13
          refine lv_aload_n hx hb dX7_copy_52 rfl (lv_at hl 0 rfl) ?_
          refine gX7_42 hx hb hG hown hK hP gw_5_9 dX7_copy_53 ?_
          refine lv_iload_n hx hb dX7_copy_56 rfl (lv_at hl 1 rfl) ?_
          refine al_M23 hx hb hK hP (vin_I (by have q0 : (f_X7_in a1.toInt64 0 7).toInt ≠ 0 := ne_I hc_6; have r1 : 0 ≤ a1.toInt ∧ a1.toInt ≤ 7 := in_I hc_6; have q2 : (M_1 23 a1.toNatClampNeg).toInt ≠ 0 := ne_I hc_12; omega) (by have q0 : (f_X7_in a1.toInt64 0 7).toInt ≠ 0 := ne_I hc_6; have r1 : 0 ≤ a1.toInt ∧ a1.toInt ≤ 7 := in_I hc_6; have q2 : (M_1 23 a1.toNatClampNeg).toInt ≠ 0 := ne_I hc_12; omega)) dX7_copy_57 ?_
          refine lv_iconst (v := 2) hx hb dX7_copy_58 (by decide) ?_
          refine lv_icmp_ne (tgt := 87) hx hb dX7_copy_59 (by decide) (fun hc_14 => ?_) (fun hc_14 => ?_)
          · have he := ite_t he hc_14
            refine lv_bipush (v := (-12)) hx hb dX7_copy_87 (by decide) ?_
            exact hret _ _ _ _ _ _ ⟨(hV.trans he.symm), hTM_1⟩ hP hS dX7_copy_89
          · have he := ite_f he (fun q => q hc_14)
            refine lv_aload_n hx hb dX7_copy_62 rfl (lv_at hl 0 rfl) ?_
            refine gX7_42 hx hb hG hown hK hP gw_5_9 dX7_copy_63 ?_
            refine lv_iload_n hx hb dX7_copy_66 rfl (lv_at hl 3 rfl) ?_
            refine al_M23 hx hb hK hP (vin_I (by have q0 : (f_X7_in a3.toInt64 0 7).toInt ≠ 0 := ne_I hc_11; have r1 : 0 ≤ a3.toInt ∧ a3.toInt ≤ 7 := in_I hc_11; have q2 : (M_1 23 a3.toNatClampNeg).toInt ≠ 0 := ne_I hc_13; omega) (by have q0 : (f_X7_in a3.toInt64 0 7).toInt ≠ 0 := ne_I hc_11; have r1 : 0 ≤ a3.toInt ∧ a3.toInt ≤ 7 := in_I hc_11; have q2 : (M_1 23 a3.toNatClampNeg).toInt ≠ 0 := ne_I hc_13; omega)) dX7_copy_67 ?_
            refine lv_iconst (v := 2) hx hb dX7_copy_68 (by decide) ?_
            refine lv_icmp_ne (tgt := 87) hx hb dX7_copy_69 (by decide) (fun hc_15 => ?_) (fun hc_15 => ?_)
            · have he := ite_t he hc_15
              refine lv_bipush (v := (-12)) hx hb dX7_copy_87 (by decide) ?_
              exact hret _ _ _ _ _ _ ⟨(hV.trans he.symm), hTM_1⟩ hP hS dX7_copy_89
            · have he := ite_f he (fun q => q hc_15)
              refine lv_aload_n hx hb dX7_copy_72 rfl (lv_at hl 0 rfl) ?_
              refine gX7_46 hx hb hG hown hK hP gw_5_13 dX7_copy_73 ?_
              refine lv_iload_n hx hb dX7_copy_76 rfl (lv_at hl 1 rfl) ?_
              refine al_M27 hx hb hK hP (vin_I (by have q0 : (f_X7_in a1.toInt64 0 7).toInt ≠ 0 := ne_I hc_6; have r1 : 0 ≤ a1.toInt ∧ a1.toInt ≤ 7 := in_I hc_6; have q2 : (M_1 23 a1.toNatClampNeg).toInt ≠ 0 := ne_I hc_12; have q3 : (M_1 23 a1.toNatClampNeg).toInt = 2 := congrArg Int32.toInt hc_14; omega) (by have q0 : (f_X7_in a1.toInt64 0 7).toInt ≠ 0 := ne_I hc_6; have r1 : 0 ≤ a1.toInt ∧ a1.toInt ≤ 7 := in_I hc_6; have q2 : (M_1 23 a1.toNatClampNeg).toInt ≠ 0 := ne_I hc_12; have q3 : (M_1 23 a1.toNatClampNeg).toInt = 2 := congrArg Int32.toInt hc_14; omega)) dX7_copy_77 ?_
              refine lv_aload_n hx hb dX7_copy_78 rfl (lv_at hl 0 rfl) ?_
              refine gX7_46 hx hb hG hown hK hP gw_5_13 dX7_copy_79 ?_
              refine lv_iload_n hx hb dX7_copy_82 rfl (lv_at hl 3 rfl) ?_
              refine al_M27 hx hb hK hP (vin_I (by have q0 : (f_X7_in a3.toInt64 0 7).toInt ≠ 0 := ne_I hc_11; have r1 : 0 ≤ a3.toInt ∧ a3.toInt ≤ 7 := in_I hc_11; have q2 : (M_1 23 a3.toNatClampNeg).toInt ≠ 0 := ne_I hc_13; have q3 : (M_1 23 a3.toNatClampNeg).toInt = 2 := congrArg Int32.toInt hc_15; omega) (by have q0 : (f_X7_in a3.toInt64 0 7).toInt ≠ 0 := ne_I hc_11; have r1 : 0 ≤ a3.toInt ∧ a3.toInt ≤ 7 := in_I hc_11; have q2 : (M_1 23 a3.toNatClampNeg).toInt ≠ 0 := ne_I hc_13; have q3 : (M_1 23 a3.toNatClampNeg).toInt = 2 := congrArg Int32.toInt hc_15; omega)) dX7_copy_83 ?_
              refine lv_icmp_eq (tgt := 90) hx hb dX7_copy_84 (by decide) (fun hc_16 => ?_) (fun hc_16 => ?_)
              · have he := ite_t he hc_16
                refine lv_iload hx hb dX7_copy_90 (lv_at hl 5 rfl) ?_
                refine lv_if_lt (tgt := 131) hx hb dX7_copy_92 (by decide) (fun hc_17 => ?_) (fun hc_17 => ?_)
                · have he := ite_t he hc_17
                  refine lv_bipush (v := (-13)) hx hb dX7_copy_131 (by decide) ?_
                  exact hret _ _ _ _ _ _ ⟨(hV.trans he.symm), hTM_1⟩ hP hS dX7_copy_133
                · have he := ite_f he hc_17
                  refine lv_iload_n hx hb dX7_copy_95 rfl (lv_at hl 2 rfl) ?_
                  refine lv_if_lt (tgt := 131) hx hb dX7_copy_96 (by decide) (fun hc_18 => ?_) (fun hc_18 => ?_)
                  · have he := ite_t he hc_18
                    refine lv_bipush (v := (-13)) hx hb dX7_copy_131 (by decide) ?_
                    exact hret _ _ _ _ _ _ ⟨(hV.trans he.symm), hTM_1⟩ hP hS dX7_copy_133
                  · have he := ite_f he hc_18
                    refine lv_iload hx hb dX7_copy_99 (lv_at hl 4 rfl) ?_
                    refine lv_if_lt (tgt := 131) hx hb dX7_copy_101 (by decide) (fun hc_19 => ?_) (fun hc_19 => ?_)
                    · have he := ite_t he hc_19
                      refine lv_bipush (v := (-13)) hx hb dX7_copy_131 (by decide) ?_
                      exact hret _ _ _ _ _ _ ⟨(hV.trans he.symm), hTM_1⟩ hP hS dX7_copy_133
                    · have he := ite_f he hc_19
                      refine lv_iload_n hx hb dX7_copy_104 rfl (lv_at hl 2 rfl) ?_
                      refine lv_aload_n hx hb dX7_copy_105 rfl (lv_at hl 0 rfl) ?_
                      refine gX7_47 hx hb hG hown hK hP gw_5_14 dX7_copy_106 ?_
                      refine lv_iload_n hx hb dX7_copy_109 rfl (lv_at hl 1 rfl) ?_
                      refine al_M28 hx hb hK hP (vin_I (by have q0 : (f_X7_in a1.toInt64 0 7).toInt ≠ 0 := ne_I hc_6; have r1 : 0 ≤ a1.toInt ∧ a1.toInt ≤ 7 := in_I hc_6; have q2 : (M_1 23 a1.toNatClampNeg).toInt ≠ 0 := ne_I hc_12; have q3 : (M_1 23 a1.toNatClampNeg).toInt = 2 := congrArg Int32.toInt hc_14; have q4 : (M_1 27 a1.toNatClampNeg).toInt = (M_1 27 a3.toNatClampNeg).toInt := congrArg Int32.toInt hc_16; omega) (by have q0 : (f_X7_in a1.toInt64 0 7).toInt ≠ 0 := ne_I hc_6; have r1 : 0 ≤ a1.toInt ∧ a1.toInt ≤ 7 := in_I hc_6; have q2 : (M_1 23 a1.toNatClampNeg).toInt ≠ 0 := ne_I hc_12; have q3 : (M_1 23 a1.toNatClampNeg).toInt = 2 := congrArg Int32.toInt hc_14; have q4 : (M_1 27 a1.toNatClampNeg).toInt = (M_1 27 a3.toNatClampNeg).toInt := congrArg Int32.toInt hc_16; omega)) dX7_copy_110 ?_
                      have qr_20 := hTM_1.1.2.2.2.1 _ (vin_lt (vin_I (by have q0 : (f_X7_in a1.toInt64 0 7).toInt ≠ 0 := ne_I hc_6; have r1 : 0 ≤ a1.toInt ∧ a1.toInt ≤ 7 := in_I hc_6; have q2 : (M_1 23 a1.toNatClampNeg).toInt ≠ 0 := ne_I hc_12; have q3 : (M_1 23 a1.toNatClampNeg).toInt = 2 := congrArg Int32.toInt hc_14; have q4 : (M_1 27 a1.toNatClampNeg).toInt = (M_1 27 a3.toNatClampNeg).toInt := congrArg Int32.toInt hc_16; omega) (by have q0 : (f_X7_in a1.toInt64 0 7).toInt ≠ 0 := ne_I hc_6; have r1 : 0 ≤ a1.toInt ∧ a1.toInt ≤ 7 := in_I hc_6; have q2 : (M_1 23 a1.toNatClampNeg).toInt ≠ 0 := ne_I hc_12; have q3 : (M_1 23 a1.toNatClampNeg).toInt = 2 := congrArg Int32.toInt hc_14; have q4 : (M_1 27 a1.toNatClampNeg).toInt = (M_1 27 a3.toNatClampNeg).toInt := congrArg Int32.toInt hc_16; omega)))
                      refine lv_iload hx hb dX7_copy_111 (lv_at hl 5 rfl) ?_
                      refine lv_isub hx hb dX7_copy_113 ?_
                      refine lv_icmp_gt (tgt := 131) hx hb dX7_copy_114 (by decide) (fun hc_21 => ?_) (fun hc_21 => ?_)
                      · have he := ite_t he hc_21
                        refine lv_bipush (v := (-13)) hx hb dX7_copy_131 (by decide) ?_
                        exact hret _ _ _ _ _ _ ⟨(hV.trans he.symm), hTM_1⟩ hP hS dX7_copy_133
                      · have he := ite_f he hc_21
                        refine lv_iload hx hb dX7_copy_117 (lv_at hl 4 rfl) ?_
                        refine lv_aload_n hx hb dX7_copy_119 rfl (lv_at hl 0 rfl) ?_
                        refine gX7_47 hx hb hG hown hK hP gw_5_14 dX7_copy_120 ?_
                        refine lv_iload_n hx hb dX7_copy_123 rfl (lv_at hl 3 rfl) ?_
                        refine al_M28 hx hb hK hP (vin_I (by have q0 : (f_X7_in a3.toInt64 0 7).toInt ≠ 0 := ne_I hc_11; have r1 : 0 ≤ a3.toInt ∧ a3.toInt ≤ 7 := in_I hc_11; have q2 : (M_1 23 a3.toNatClampNeg).toInt ≠ 0 := ne_I hc_13; have q3 : (M_1 23 a3.toNatClampNeg).toInt = 2 := congrArg Int32.toInt hc_15; have q4 : (M_1 27 a1.toNatClampNeg).toInt = (M_1 27 a3.toNatClampNeg).toInt := congrArg Int32.toInt hc_16; omega) (by have q0 : (f_X7_in a3.toInt64 0 7).toInt ≠ 0 := ne_I hc_11; have r1 : 0 ≤ a3.toInt ∧ a3.toInt ≤ 7 := in_I hc_11; have q2 : (M_1 23 a3.toNatClampNeg).toInt ≠ 0 := ne_I hc_13; have q3 : (M_1 23 a3.toNatClampNeg).toInt = 2 := congrArg Int32.toInt hc_15; have q4 : (M_1 27 a1.toNatClampNeg).toInt = (M_1 27 a3.toNatClampNeg).toInt := congrArg Int32.toInt hc_16; omega)) dX7_copy_124 ?_
                        have qr_22 := hTM_1.1.2.2.2.1 _ (vin_lt (vin_I (by have q0 : (f_X7_in a3.toInt64 0 7).toInt ≠ 0 := ne_I hc_11; have r1 : 0 ≤ a3.toInt ∧ a3.toInt ≤ 7 := in_I hc_11; have q2 : (M_1 23 a3.toNatClampNeg).toInt ≠ 0 := ne_I hc_13; have q3 : (M_1 23 a3.toNatClampNeg).toInt = 2 := congrArg Int32.toInt hc_15; have q4 : (M_1 27 a1.toNatClampNeg).toInt = (M_1 27 a3.toNatClampNeg).toInt := congrArg Int32.toInt hc_16; omega) (by have q0 : (f_X7_in a3.toInt64 0 7).toInt ≠ 0 := ne_I hc_11; have r1 : 0 ≤ a3.toInt ∧ a3.toInt ≤ 7 := in_I hc_11; have q2 : (M_1 23 a3.toNatClampNeg).toInt ≠ 0 := ne_I hc_13; have q3 : (M_1 23 a3.toNatClampNeg).toInt = 2 := congrArg Int32.toInt hc_15; have q4 : (M_1 27 a1.toNatClampNeg).toInt = (M_1 27 a3.toNatClampNeg).toInt := congrArg Int32.toInt hc_16; omega)))
                        refine lv_iload hx hb dX7_copy_125 (lv_at hl 5 rfl) ?_
                        refine lv_isub hx hb dX7_copy_127 ?_
                        refine lv_icmp_le (tgt := 134) hx hb dX7_copy_128 (by decide) (fun hc_23 => ?_) (fun hc_23 => ?_)
                        · have he := ite_t he hc_23
                          refine lv_iconst (v := 0) hx hb dX7_copy_134 (by decide) ?_
                          refine lv_istore (lv' := [(6, .int 0), (0, .ref (ad 0)), (1, .int a1), (2, .int a2), (3, .int a3), (4, .int a4), (5, .int a5)]) hx hb dX7_copy_135 hl (by decide) rfl (fun ls hl => ?_)
                          obtain ⟨M_36, hr_32, he⟩ := bnd_ex he
                          have j171 : ∀ (H : Heap) (locs : List Loc) (ls : Array Slot), TI M M_36 → va_P D vwCl (wld 31 ad (cM ad k M_36)) H → va_S (AW 31 ad) s.heap H locs → lv_has ls 7 [(0, .ref (ad 0)), (3, .int a3), (4, .int a4), (5, .int a5)] → W p l e rm_X7_copy s m args below meth c H locs 0 0 Q (F0 m 171 ls []) := by
                            intro H locs ls hTM_36 hP hS hl
                            have qb_M_36 := hTM_36.1.1
                            have qs_M_36 := hTM_36.1.2.1
                            have qz_M_36 := hTM_36.1.2.2.1
                            refine lv_iconst (v := 0) hx hb dX7_copy_171 (by decide) ?_
                            refine lv_istore (lv' := [(6, .int 0), (0, .ref (ad 0)), (3, .int a3), (4, .int a4), (5, .int a5)]) hx hb dX7_copy_172 hl (by decide) rfl (fun ls hl => ?_)
                            obtain ⟨M_49, hr_45, he⟩ := bnd_ex he
                            have j209 : ∀ (H : Heap) (locs : List Loc) (ls : Array Slot), TI M M_49 → va_P D vwCl (wld 31 ad (cM ad k M_49)) H → va_S (AW 31 ad) s.heap H locs → lv_has ls 7 [(5, .int a5)] → W p l e rm_X7_copy s m args below meth c H locs 0 0 Q (F0 m 209 ls []) := by
                              intro H locs ls hTM_49 hP hS hl
                              have qb_M_49 := hTM_49.1.1
                              have qs_M_49 := hTM_49.1.2.1
                              have qz_M_49 := hTM_49.1.2.2.1
                              refine lv_iload hx hb dX7_copy_209 (lv_at hl 0 rfl) ?_
                              exact hret _ _ _ _ _ _ ⟨(hV.trans he.symm), hTM_49⟩ hP hS dX7_copy_211
                            have lp174 : ∀ (nn : Nat) (H : Heap) (locs : List Loc) (ls : Array Slot) (M_44 : Mem) (v_43 : Int32), (0 ≤ v_43.toInt) → (TI M M_44) → (a5.toInt - v_43.toInt).toNat < nn → lp_X7_copy_174 nn a3 a4 a5 M_44 v_43 = M_49 → va_P D vwCl (wld 31 ad (cM ad k M_44)) H → va_S (AW 31 ad) s.heap H locs → lv_has ls 7 [(0, .ref (ad 0)), (3, .int a3), (4, .int a4), (5, .int a5), (6, .int v_43)] → W p l e rm_X7_copy s m args below meth c H locs 0 0 Q (F0 m 174 ls []) := by
                              intro nn
                              induction nn with
                              | zero =>
                                intro H locs ls M_44 v_43 h0v_43 hTM_44 hμ
                                exact absurd hμ (Nat.not_lt_zero _)
                              | succ nn ih =>
                                intro H locs ls M_44 v_43 h0v_43 hTM_44 hμ hr_45 hP hS hl
                                rw [lp_X7_copy_174] at hr_45
                                have qb_M_44 := hTM_44.1.1
                                have qs_M_44 := hTM_44.1.2.1
                                have qz_M_44 := hTM_44.1.2.2.1
                                refine lv_iload hx hb dX7_copy_174 (lv_at hl 4 rfl) ?_
                                refine lv_iload hx hb dX7_copy_176 (lv_at hl 3 rfl) ?_
                                refine lv_icmp_ge (tgt := 209) hx hb dX7_copy_178 (by decide) (fun hc_46 => ?_) (fun hc_46 => ?_)
                                · have hr_45 := ite_t hr_45 hc_46
                                  cases hr_45
                                  exact j209 _ _ _ hTM_44 hP hS (lv_sub hl [3] rfl)
                                · have hr_45 := ite_f hr_45 hc_46
                                  refine lv_aload_n hx hb dX7_copy_181 rfl (lv_at hl 0 rfl) ?_
                                  refine gX7_48 hx hb hG hown hK hP gw_5_15 dX7_copy_182 ?_
                                  refine lv_bipush (v := 100) hx hb dX7_copy_185 (by decide) ?_
                                  refine lv_iload_n hx hb dX7_copy_187 rfl (lv_at hl 1 rfl) ?_
                                  refine lv_imul hx hb dX7_copy_188 ?_
                                  refine lv_iload hx hb dX7_copy_189 (lv_at hl 2 rfl) ?_
                                  refine lv_iadd hx hb dX7_copy_191 ?_
                                  refine lv_iload hx hb dX7_copy_192 (lv_at hl 4 rfl) ?_
                                  refine lv_iadd hx hb dX7_copy_194 ?_
                                  refine lv_aload_n hx hb dX7_copy_195 rfl (lv_at hl 0 rfl) ?_
                                  refine gX7_49 hx hb hG hown hK hP gw_5_16 dX7_copy_196 ?_
                                  refine lv_iload hx hb dX7_copy_199 (lv_at hl 4 rfl) ?_
                                  refine al_M30 hx hb hK hP (vin_I (by have q0 : v_43.toInt < a5.toInt := nle_I hc_46; omega) (by have q0 : v_43.toInt < a5.toInt := nle_I hc_46; omega)) dX7_copy_201 ?_
                                  refine as_M29 hx hb hK hP had AW_in hS (rt64 _) (vin_row2 (by have q0 : (f_X7_in a3.toInt64 0 7).toInt ≠ 0 := ne_I hc_11; have r1 : 0 ≤ a3.toInt ∧ a3.toInt ≤ 7 := in_I hc_11; have q2 : (M_1 23 a3.toNatClampNeg).toInt ≠ 0 := ne_I hc_13; have q3 : (M_1 23 a3.toNatClampNeg).toInt = 2 := congrArg Int32.toInt hc_15; have q4 : (M_1 27 a1.toNatClampNeg).toInt = (M_1 27 a3.toNatClampNeg).toInt := congrArg Int32.toInt hc_16; have q5 : a4.toInt ≤ ((M_1 28 a3.toNatClampNeg) - a5).toInt := le_I hc_23; omega) (by have q0 : (f_X7_in a3.toInt64 0 7).toInt ≠ 0 := ne_I hc_11; have r1 : 0 ≤ a3.toInt ∧ a3.toInt ≤ 7 := in_I hc_11; have q2 : (M_1 23 a3.toNatClampNeg).toInt ≠ 0 := ne_I hc_13; have q3 : (M_1 23 a3.toNatClampNeg).toInt = 2 := congrArg Int32.toInt hc_15; have q4 : (M_1 27 a1.toNatClampNeg).toInt = (M_1 27 a3.toNatClampNeg).toInt := congrArg Int32.toInt hc_16; have q5 : 0 ≤ a4.toInt := nlt_I hc_19; have q6 : a4.toInt ≤ ((M_1 28 a3.toNatClampNeg) - a5).toInt := le_I hc_23; have q7 : v_43.toInt < a5.toInt := nle_I hc_46; omega)) dX7_copy_202 (fun H locs hP hS => ?_)
                                  obtain ⟨M_47, eM_47⟩ : ∃ y : Mem, y = up2 M_44 29 (((100 * a3) + a4) + v_43).toNatClampNeg (((M_44 30 v_43.toNatClampNeg).toInt64).toInt32) := ⟨_, rfl⟩
                                  rw [← eM_47] at hP
                                  have hr_45 := bnd_at hr_45 eM_47
                                  have hTM_47 : TI M M_47 := by rw [eM_47]; exact TI_a hTM_44 (by decide)
                                  have qb_M_47 := hTM_47.1.1
                                  have qs_M_47 := hTM_47.1.2.1
                                  have qz_M_47 := hTM_47.1.2.2.1
                                  obtain ⟨y_48, ey_48⟩ : ∃ y_48 : Int32, y_48 = v_43 + 1 := ⟨_, rfl⟩
                                  have hr_45 := bnd_at hr_45 ey_48
                                  refine lv_iinc (v := y_48) (lv' := [(6, .int y_48), (0, .ref (ad 0)), (3, .int a3), (4, .int a4), (5, .int a5)]) hx hb dX7_copy_203 hl (k := 4) rfl (by rw [ey_48]; rfl) (by decide) rfl (fun ls hl => ?_)
                                  refine lv_goto (tgt := 174) hx hb dX7_copy_206 (by decide) ?_
                                  exact ih _ _ _ _ _ (by rw [ey_48, inc_I (N := a5.toInt) (nle_I hc_46) (Int32.toInt_le _)]; omega) hTM_47 (by rw [ey_48]; exact mu_I hμ (nle_I hc_46) (Int32.toInt_le _)) hr_45 hP hS (lv_sub hl [1, 2, 3, 4, 0] rfl)
                            exact lp174 _ _ _ _ _ _ (by decide) hTM_36 (Nat.lt_succ_self _) hr_45 hP hS (lv_sub hl [1, 2, 3, 4, 0] rfl)
                          have lp137 : ∀ (nn : Nat) (H : Heap) (locs : List Loc) (ls : Array Slot) (M_31 : Mem) (v_30 : Int32), (0 ≤ v_30.toInt) → (TI M M_31) → (a5.toInt - v_30.toInt).toNat < nn → lp_X7_copy_137 nn a1 a2 a5 M_31 v_30 = M_36 → va_P D vwCl (wld 31 ad (cM ad k M_31)) H → va_S (AW 31 ad) s.heap H locs → lv_has ls 7 [(0, .ref (ad 0)), (1, .int a1), (2, .int a2), (3, .int a3), (4, .int a4), (5, .int a5), (6, .int v_30)] → W p l e rm_X7_copy s m args below meth c H locs 0 0 Q (F0 m 137 ls []) := by
                            intro nn
                            induction nn with
                            | zero =>
                              intro H locs ls M_31 v_30 h0v_30 hTM_31 hμ
                              exact absurd hμ (Nat.not_lt_zero _)
                            | succ nn ih =>
                              intro H locs ls M_31 v_30 h0v_30 hTM_31 hμ hr_32 hP hS hl
                              rw [lp_X7_copy_137] at hr_32
                              have qb_M_31 := hTM_31.1.1
                              have qs_M_31 := hTM_31.1.2.1
                              have qz_M_31 := hTM_31.1.2.2.1
                              refine lv_iload hx hb dX7_copy_137 (lv_at hl 6 rfl) ?_
                              refine lv_iload hx hb dX7_copy_139 (lv_at hl 5 rfl) ?_
                              refine lv_icmp_ge (tgt := 171) hx hb dX7_copy_141 (by decide) (fun hc_33 => ?_) (fun hc_33 => ?_)
                              · have hr_32 := ite_t hr_32 hc_33
                                cases hr_32
                                exact j171 _ _ _ hTM_31 hP hS (lv_sub hl [0, 3, 4, 5] rfl)
                              · have hr_32 := ite_f hr_32 hc_33
                                refine lv_aload_n hx hb dX7_copy_144 rfl (lv_at hl 0 rfl) ?_
                                refine gX7_49 hx hb hG hown hK hP gw_5_16 dX7_copy_145 ?_
                                refine lv_iload hx hb dX7_copy_148 (lv_at hl 6 rfl) ?_
                                refine lv_aload_n hx hb dX7_copy_150 rfl (lv_at hl 0 rfl) ?_
                                refine gX7_48 hx hb hG hown hK hP gw_5_15 dX7_copy_151 ?_
                                refine lv_bipush (v := 100) hx hb dX7_copy_154 (by decide) ?_
                                refine lv_iload_n hx hb dX7_copy_156 rfl (lv_at hl 1 rfl) ?_
                                refine lv_imul hx hb dX7_copy_157 ?_
                                refine lv_iload_n hx hb dX7_copy_158 rfl (lv_at hl 2 rfl) ?_
                                refine lv_iadd hx hb dX7_copy_159 ?_
                                refine lv_iload hx hb dX7_copy_160 (lv_at hl 6 rfl) ?_
                                refine lv_iadd hx hb dX7_copy_162 ?_
                                refine al_M29 hx hb hK hP (vin_row2 (by have q0 : (f_X7_in a1.toInt64 0 7).toInt ≠ 0 := ne_I hc_6; have r1 : 0 ≤ a1.toInt ∧ a1.toInt ≤ 7 := in_I hc_6; have q2 : (M_1 23 a1.toNatClampNeg).toInt ≠ 0 := ne_I hc_12; have q3 : (M_1 23 a1.toNatClampNeg).toInt = 2 := congrArg Int32.toInt hc_14; have q4 : (M_1 27 a1.toNatClampNeg).toInt = (M_1 27 a3.toNatClampNeg).toInt := congrArg Int32.toInt hc_16; have q5 : a2.toInt ≤ ((M_1 28 a1.toNatClampNeg) - a5).toInt := nlt_I hc_21; omega) (by have q0 : (f_X7_in a1.toInt64 0 7).toInt ≠ 0 := ne_I hc_6; have r1 : 0 ≤ a1.toInt ∧ a1.toInt ≤ 7 := in_I hc_6; have q2 : (M_1 23 a1.toNatClampNeg).toInt ≠ 0 := ne_I hc_12; have q3 : (M_1 23 a1.toNatClampNeg).toInt = 2 := congrArg Int32.toInt hc_14; have q4 : (M_1 27 a1.toNatClampNeg).toInt = (M_1 27 a3.toNatClampNeg).toInt := congrArg Int32.toInt hc_16; have q5 : 0 ≤ a2.toInt := nlt_I hc_18; have q6 : a2.toInt ≤ ((M_1 28 a1.toNatClampNeg) - a5).toInt := nlt_I hc_21; have q7 : v_30.toInt < a5.toInt := nle_I hc_33; omega)) dX7_copy_163 ?_
                                refine as_M30 hx hb hK hP had AW_in hS (rt64 _) (vin_I (by have q0 : v_30.toInt < a5.toInt := nle_I hc_33; omega) (by have q0 : v_30.toInt < a5.toInt := nle_I hc_33; omega)) dX7_copy_164 (fun H locs hP hS => ?_)
                                obtain ⟨M_34, eM_34⟩ : ∃ y : Mem, y = up2 M_31 30 v_30.toNatClampNeg (((M_31 29 (((100 * a1) + a2) + v_30).toNatClampNeg).toInt64).toInt32) := ⟨_, rfl⟩
                                rw [← eM_34] at hP
                                have hr_32 := bnd_at hr_32 eM_34
                                have hTM_34 : TI M M_34 := by rw [eM_34]; exact TI_a hTM_31 (by decide)
                                have qb_M_34 := hTM_34.1.1
                                have qs_M_34 := hTM_34.1.2.1
                                have qz_M_34 := hTM_34.1.2.2.1
                                obtain ⟨y_35, ey_35⟩ : ∃ y_35 : Int32, y_35 = v_30 + 1 := ⟨_, rfl⟩
                                have hr_32 := bnd_at hr_32 ey_35
                                refine lv_iinc (v := y_35) (lv' := [(6, .int y_35), (0, .ref (ad 0)), (1, .int a1), (2, .int a2), (3, .int a3), (4, .int a4), (5, .int a5)]) hx hb dX7_copy_165 hl (k := 6) rfl (by rw [ey_35]; rfl) (by decide) rfl (fun ls hl => ?_)
                                refine lv_goto (tgt := 137) hx hb dX7_copy_168 (by decide) ?_
                                exact ih _ _ _ _ _ (by rw [ey_35, inc_I (N := a5.toInt) (nle_I hc_33) (Int32.toInt_le _)]; omega) hTM_34 (by rw [ey_35]; exact mu_I hμ (nle_I hc_33) (Int32.toInt_le _)) hr_32 hP hS (lv_sub hl [1, 2, 3, 4, 5, 6, 0] rfl)
                          exact lp137 _ _ _ _ _ _ (by decide) hTM_1 (Nat.lt_succ_self _) hr_32 hP hS (lv_sub hl [1, 2, 3, 4, 5, 6, 0] rfl)
                        · have he := ite_f he hc_23
                          refine lv_bipush (v := (-13)) hx hb dX7_copy_131 (by decide) ?_
                          exact hret _ _ _ _ _ _ ⟨(hV.trans he.symm), hTM_1⟩ hP hS dX7_copy_133
              · have he := ite_f he hc_16
                refine lv_bipush (v := (-12)) hx hb dX7_copy_87 (by decide) ?_
                exact hret _ _ _ _ _ _ ⟨(hV.trans he.symm), hTM_1⟩ hP hS dX7_copy_89
        · have he := ite_f he (fun q => q hc_13)
          refine lv_bipush (v := (-11)) hx hb dX7_copy_49 (by decide) ?_
          exact hret _ _ _ _ _ _ ⟨(hV.trans he.symm), hTM_1⟩ hP hS dX7_copy_51
    · have he := ite_f he (fun q => q hc_11)
      refine lv_iconst (v := (-1)) hx hb dX7_copy_29 (by decide) ?_
      exact hret _ _ _ _ _ _ ⟨(hV.trans he.symm), hTM_1⟩ hP hS dX7_copy_30
