-- @needs 12_dec 13_dec 14_dec 15_dec 31_hC 44_cC 46_cC 48_cC
def rm_X6_gameLead : Room := { frames := 5, cells := 0, slots := 0, locals := 107 }
theorem gm_X6_gameLead : Cond.instanceMethod yX6_gameLead ∈ wsL_law ∧ Cond.selects RX6 yX6_gameLead yX6_gameLead ∈ wsL_law ∧ Cond.initialized RX6 ∈ wsL_law ∧ Cond.code yX6_gameLead cX6_gameLead 6 (some .int) ∈ wsL_law := ⟨gw_32_22, gw_32_23, gw_1_2, gw_33_0⟩
theorem gd_X6_gameLead : yX6_gameLead.cls = RX6 ∧ yX6_gameLead.cls ≠ "java/lang/invoke/MethodHandle" ∧ yX6_gameLead.cls ≠ "java/lang/invoke/VarHandle" ∧ (parseMethodDescriptor yX6_gameLead.desc).map (fun d => d.parameters.length) = some 5 := by decide +kernel
set_option maxRecDepth 100000 in
set_option maxHeartbeats 0 in
theorem c_X6_gameLead {l : Launch} {D : va_G} {k : Nat → ClassId} {ad : Nat → Nat} (had : InjN 74 ad) (M : Mem) (a1 : Int32) (a2 : Int32) (a3 : Int32) (a4 : Int32) (a5 : Int32) : Met l yX6_gameLead (Cond.code yX6_gameLead cX6_gameLead 6 (some .int) :: wsL_law) rm_X6_gameLead (va_Pc [.ref (ad 0), .int a1, .int a2, .int a3, .int a4, .int a5] (GW 74 ad D k (cC ad k M))) (va_Qi (fun r u => f_X6_gameLead M a1 a2 a3 a4 a5 = (r, u)) (fun u t => GW 74 ad D k (cC ad k u) t) (AW 74 ad)) 0 0 (AW 74 ad) := by
  refine met_i (g := cC ad k) (M := M) (plainFor_of_name (by decide)) (Nat.le_of_ble_eq_true rfl) ?_
  intro p e s m args below meth c Q ls hx hb hml hG hown hK hret hP hS hl
  have hl : lv_has ls 6 [(0, .ref (ad 0)), (1, .int a1), (2, .int a2), (3, .int a3), (4, .int a4), (5, .int a5)] := hl
  obtain ⟨V, hV⟩ : ∃ V, f_X6_gameLead M a1 a2 a3 a4 a5 = V := ⟨_, rfl⟩
  have he := hV
  unfold f_X6_gameLead at he
  refine lv_aload_n hx hb dX6_gameLead_0 rfl (lv_at hl 0 rfl) ?_
  refine gX6_6 hx hb hG hown hK hP rfl gw_2_0 dX6_gameLead_1 ?_
  refine call_v [] [] hx hb hml hG hown hK (c_X3_clear had M 15 (by decide)) gw_30_3 gm_X3_clear gd_X3_clear rfl rfl ⟨Nat.le_of_ble_eq_true rfl, Nat.le_of_ble_eq_true rfl⟩ ⟨Nat.le_refl _, Nat.le_refl _⟩ (rX3 hK hP (by decide)) hP (fun _ h => h) hS rfl hl.1 rfl (Nat.le_of_ble_eq_true rfl) dX6_gameLead_4 (fun M_3 H locs hF_2 hP hS => ?_)
  have he := bnd_at he hF_2.symm
  refine lv_aload_n hx hb dX6_gameLead_7 rfl (lv_at hl 0 rfl) ?_
  refine gX6_6 hx hb hG hown hK hP rfl gw_2_0 dX6_gameLead_8 ?_
  refine lv_bipush (v := 8) hx hb dX6_gameLead_11 (by decide) ?_
  refine lv_iload_n hx hb dX6_gameLead_13 rfl (lv_at hl 1 rfl) ?_
  refine lv_iload_n hx hb dX6_gameLead_14 rfl (lv_at hl 3 rfl) ?_
  refine lv_iconst (v := 1) hx hb dX6_gameLead_15 (by decide) ?_
  refine lv_iand hx hb dX6_gameLead_16 ?_
  obtain ⟨t_6, hr_5, he⟩ := bnd_ex he
  have j25 : ∀ (H : Heap) (locs : List Loc) (ls : Array Slot), (t_6 = 0 ∨ t_6 = 1) → va_P D vwCl (wld 74 ad (cC ad k M_3)) H → va_S (AW 74 ad) s.heap H locs → lv_has ls 6 [(0, .ref (ad 0)), (2, .int a2), (3, .int a3), (4, .int a4), (5, .int a5)] → W p l e rm_X6_gameLead s m args below meth c H locs 0 0 Q (F0 m 25 ls [.int t_6, .int a1, .int 8, .ref (ad 15)]) := by
    intro H locs ls zt_6 hP hS hl
    refine lv_iload hx hb dX6_gameLead_25 (lv_at hl 3 rfl) ?_
    refine call_i [.int 8, .int a1, .int t_6, .int a4] [] hx hb hml hG hown hK (c_X3_enter had M_3 15 (by decide) 8 a1 t_6 zt_6 a4) gw_14_2 gm_X3_enter gd_X3_enter rfl rfl ⟨Nat.le_of_ble_eq_true rfl, Nat.le_of_ble_eq_true rfl⟩ ⟨Nat.le_refl _, Nat.le_refl _⟩ (rX3 hK hP (by decide)) hP (fun _ h => h) hS rfl hl.1 rfl (Nat.le_of_ble_eq_true rfl) dX6_gameLead_27 (fun r_7 M_9 H locs hF_8 hP hS => ?_)
    have he := bnd2_at he hF_8
    refine lv_pop hx hb dX6_gameLead_30 rfl ?_
    refine lv_aload_n hx hb dX6_gameLead_31 rfl (lv_at hl 0 rfl) ?_
    refine gX6_6 hx hb hG hown hK hP rfl gw_2_0 dX6_gameLead_32 ?_
    refine lv_bipush (v := 8) hx hb dX6_gameLead_35 (by decide) ?_
    refine lv_iload_n hx hb dX6_gameLead_37 rfl (lv_at hl 1 rfl) ?_
    refine lv_iload_n hx hb dX6_gameLead_38 rfl (lv_at hl 2 rfl) ?_
    refine lv_iconst (v := 2) hx hb dX6_gameLead_39 (by decide) ?_
    refine lv_iand hx hb dX6_gameLead_40 ?_
    obtain ⟨t_12, hr_11, he⟩ := bnd_ex he
    have j49 : ∀ (H : Heap) (locs : List Loc) (ls : Array Slot), (t_12 = 0 ∨ t_12 = 1) → va_P D vwCl (wld 74 ad (cC ad k M_9)) H → va_S (AW 74 ad) s.heap H locs → lv_has ls 6 [(0, .ref (ad 0)), (5, .int a5)] → W p l e rm_X6_gameLead s m args below meth c H locs 0 0 Q (F0 m 49 ls [.int t_12, .int a2, .int 8, .ref (ad 15)]) := by
      intro H locs ls zt_12 hP hS hl
      refine lv_iload hx hb dX6_gameLead_49 (lv_at hl 1 rfl) ?_
      refine call_i [.int 8, .int a2, .int t_12, .int a5] [] hx hb hml hG hown hK (c_X3_enter had M_9 15 (by decide) 8 a2 t_12 zt_12 a5) gw_14_2 gm_X3_enter gd_X3_enter rfl rfl ⟨Nat.le_of_ble_eq_true rfl, Nat.le_of_ble_eq_true rfl⟩ ⟨Nat.le_refl _, Nat.le_refl _⟩ (rX3 hK hP (by decide)) hP (fun _ h => h) hS rfl hl.1 rfl (Nat.le_of_ble_eq_true rfl) dX6_gameLead_51 (fun r_13 M_15 H locs hF_14 hP hS => ?_)
      have he := bnd2_at he hF_14
      refine lv_pop hx hb dX6_gameLead_54 rfl ?_
      refine lv_aload_n hx hb dX6_gameLead_55 rfl (lv_at hl 0 rfl) ?_
      refine gX6_6 hx hb hG hown hK hP rfl gw_2_0 dX6_gameLead_56 ?_
      refine lv_aload_n hx hb dX6_gameLead_59 rfl (lv_at hl 0 rfl) ?_
      refine gX6_0 hx hb hG hown hK hP rfl gw_1_16 dX6_gameLead_60 ?_
      refine lv_bipush (v := 60) hx hb dX6_gameLead_63 (by decide) ?_
      refine call_v [.ref (ad 1), .int 60] [] hx hb hml hG hown hK (c_X3_goOn had M_15 15 (by decide) 1 (by decide) 60) gw_18_22 gm_X3_goOn gd_X3_goOn rfl rfl ⟨Nat.le_of_ble_eq_true rfl, Nat.le_of_ble_eq_true rfl⟩ ⟨Nat.le_refl _, Nat.le_refl _⟩ (rX3 hK hP (by decide)) hP (fun _ h => h) hS rfl hl.1 rfl (Nat.le_of_ble_eq_true rfl) dX6_gameLead_65 (fun M_18 H locs hF_17 hP hS => ?_)
      have he := bnd_at he hF_17.symm
      refine lv_aload_n hx hb dX6_gameLead_68 rfl (lv_at hl 0 rfl) ?_
      refine gX6_6 hx hb hG hown hK hP rfl gw_2_0 dX6_gameLead_69 ?_
      refine lv_aload_n hx hb dX6_gameLead_72 rfl (lv_at hl 0 rfl) ?_
      refine gX6_0 hx hb hG hown hK hP rfl gw_1_16 dX6_gameLead_73 ?_
      refine gX0_0 hx hb hG hown hK hP (by decide) gw_33_1 dX6_gameLead_76 ?_
      refine call_i [.int (M_18 1 0)] [] hx hb hml hG hown hK (c_X3_leadOfFirst had M_18 15 (by decide) (M_18 1 0)) gw_33_2 gm_X3_leadOfFirst gd_X3_leadOfFirst rfl rfl ⟨Nat.le_of_ble_eq_true rfl, Nat.le_of_ble_eq_true rfl⟩ ⟨Nat.le_refl _, Nat.le_refl _⟩ (rX3 hK hP (by decide)) hP (fun _ h => h) hS rfl hl.1 rfl (Nat.le_of_ble_eq_true rfl) dX6_gameLead_79 (fun r_19 u_21 H locs hF_20 hP hS => ?_)
      obtain ⟨hF_20, hu⟩ := hF_20; rw [hu] at hP; subst hF_20
      exact hret _ _ _ _ _ _ (hV.trans he.symm) hP hS dX6_gameLead_82
    refine lv_if_eq (tgt := 48) hx hb dX6_gameLead_41 (by decide) (fun hc_10 => ?_) (fun hc_10 => ?_)
    · have hr_11 := ite_t hr_11 hc_10
      refine lv_iconst (v := 0) hx hb dX6_gameLead_48 (by decide) ?_
      cases hr_11
      exact j49 _ _ _ (Or.inl rfl) hP hS (lv_sub hl [0, 4] rfl)
    · have hr_11 := ite_f hr_11 hc_10
      refine lv_iconst (v := 1) hx hb dX6_gameLead_44 (by decide) ?_
      refine lv_goto (tgt := 49) hx hb dX6_gameLead_45 (by decide) ?_
      cases hr_11
      exact j49 _ _ _ (Or.inr rfl) hP hS (lv_sub hl [0, 4] rfl)
  refine lv_if_eq (tgt := 24) hx hb dX6_gameLead_17 (by decide) (fun hc_4 => ?_) (fun hc_4 => ?_)
  · have hr_5 := ite_t hr_5 hc_4
    refine lv_iconst (v := 0) hx hb dX6_gameLead_24 (by decide) ?_
    cases hr_5
    exact j25 _ _ _ (Or.inl rfl) hP hS (lv_sub hl [0, 2, 3, 4, 5] rfl)
  · have hr_5 := ite_f hr_5 hc_4
    refine lv_iconst (v := 1) hx hb dX6_gameLead_20 (by decide) ?_
    refine lv_goto (tgt := 25) hx hb dX6_gameLead_21 (by decide) ?_
    cases hr_5
    exact j25 _ _ _ (Or.inr rfl) hP hS (lv_sub hl [0, 2, 3, 4, 5] rfl)
def rm_X6_lead : Room := { frames := 6, cells := 0, slots := 0, locals := 132 }
theorem gm_X6_lead : Cond.instanceMethod yX6_lead ∈ wsL_law ∧ Cond.selects RX6 yX6_lead yX6_lead ∈ wsL_law ∧ Cond.initialized RX6 ∈ wsL_law ∧ Cond.code yX6_lead cX6_lead 6 (some .int) ∈ wsL_law := ⟨gw_32_12, gw_32_13, gw_1_2, gw_32_14⟩
theorem gd_X6_lead : yX6_lead.cls = RX6 ∧ yX6_lead.cls ≠ "java/lang/invoke/MethodHandle" ∧ yX6_lead.cls ≠ "java/lang/invoke/VarHandle" ∧ (parseMethodDescriptor yX6_lead.desc).map (fun d => d.parameters.length) = some 5 := by decide +kernel
set_option maxRecDepth 100000 in
set_option maxHeartbeats 0 in
theorem c_X6_lead {l : Launch} {D : va_G} {k : Nat → ClassId} {ad : Nat → Nat} (had : InjN 74 ad) (M : Mem) (a1 : Int32) (a2 : Int32) (a3 : Int32) (a4 : Int32) (a5 : Int32) : Met l yX6_lead (Cond.code yX6_lead cX6_lead 6 (some .int) :: wsL_law) rm_X6_lead (va_Pc [.ref (ad 0), .int a1, .int a2, .int a3, .int a4, .int a5] (GW 74 ad D k (cC ad k M))) (va_Qi (fun r u => f_X6_lead M a1 a2 a3 a4 a5 = (r, u)) (fun u t => GW 74 ad D k (cC ad k u) t) (AW 74 ad)) 0 0 (AW 74 ad) := by
  refine met_i (g := cC ad k) (M := M) (plainFor_of_name (by decide)) (Nat.le_of_ble_eq_true rfl) ?_
  intro p e s m args below meth c Q ls hx hb hml hG hown hK hret hP hS hl
  have hl : lv_has ls 6 [(0, .ref (ad 0)), (1, .int a1), (2, .int a2), (3, .int a3), (4, .int a4), (5, .int a5)] := hl
  obtain ⟨V, hV⟩ : ∃ V, f_X6_lead M a1 a2 a3 a4 a5 = V := ⟨_, rfl⟩
  have he := hV
  unfold f_X6_lead at he
  refine lv_iload_n hx hb dX6_lead_0 rfl (lv_at hl 1 rfl) ?_
  refine lv_iload_n hx hb dX6_lead_1 rfl (lv_at hl 2 rfl) ?_
  refine lv_iload_n hx hb dX6_lead_2 rfl (lv_at hl 3 rfl) ?_
  refine callS_i [.int a1, .int a2, .int a3] [] hx hb hml hG hown hK (c_X6_isGame had (M := M)  a1 a2 a3) gw_32_15 gm_X6_isGame gd_X6_isGame rfl rfl ⟨Nat.le_of_ble_eq_true rfl, Nat.le_of_ble_eq_true rfl⟩ ⟨Nat.le_refl _, Nat.le_refl _⟩ hP (fun _ h => h) hS rfl hl.1 rfl (Nat.le_of_ble_eq_true rfl) dX6_lead_3 (fun r_1 u_3 H locs hF_2 hP hS => ?_)
  obtain ⟨hz_4, hF_2, hu⟩ := hF_2; rw [hu] at hP; subst hF_2
  refine lv_if_eq (tgt := 25) hx hb dX6_lead_6 (by decide) (fun hc_5 => ?_) (fun hc_5 => ?_)
  · have he := ite_t he hc_5
    refine lv_ldc (v := (-1000000001)) hx hb hown (hG _ gw_11_19) dX6_lead_25 ?_
    exact hret _ _ _ _ _ _ (hV.trans he.symm) hP hS dX6_lead_27
  · have he := ite_f he hc_5
    refine lv_iload hx hb dX6_lead_9 (lv_at hl 4 rfl) ?_
    refine callS_i [.int a4] [] hx hb hml hG hown hK (c_X6_isGameBits had (M := M)  a4) gw_32_18 gm_X6_isGameBits gd_X6_isGameBits rfl rfl ⟨Nat.le_of_ble_eq_true rfl, Nat.le_of_ble_eq_true rfl⟩ ⟨Nat.le_refl _, Nat.le_refl _⟩ hP (fun _ h => h) hS rfl hl.1 rfl (Nat.le_of_ble_eq_true rfl) dX6_lead_11 (fun r_6 u_8 H locs hF_7 hP hS => ?_)
    obtain ⟨hz_9, hF_7, hu⟩ := hF_7; rw [hu] at hP; subst hF_7
    refine lv_if_eq (tgt := 25) hx hb dX6_lead_14 (by decide) (fun hc_10 => ?_) (fun hc_10 => ?_)
    · have he := ite_t he hc_10
      refine lv_ldc (v := (-1000000001)) hx hb hown (hG _ gw_11_19) dX6_lead_25 ?_
      exact hret _ _ _ _ _ _ (hV.trans he.symm) hP hS dX6_lead_27
    · have he := ite_f he hc_10
      refine lv_iload hx hb dX6_lead_17 (lv_at hl 5 rfl) ?_
      refine callS_i [.int a5] [] hx hb hml hG hown hK (c_X6_isGameBits had (M := M)  a5) gw_32_18 gm_X6_isGameBits gd_X6_isGameBits rfl rfl ⟨Nat.le_of_ble_eq_true rfl, Nat.le_of_ble_eq_true rfl⟩ ⟨Nat.le_refl _, Nat.le_refl _⟩ hP (fun _ h => h) hS rfl hl.1 rfl (Nat.le_of_ble_eq_true rfl) dX6_lead_19 (fun r_11 u_13 H locs hF_12 hP hS => ?_)
      obtain ⟨hz_14, hF_12, hu⟩ := hF_12; rw [hu] at hP; subst hF_12
      refine lv_if_ne (tgt := 28) hx hb dX6_lead_22 (by decide) (fun hc_15 => ?_) (fun hc_15 => ?_)
      · have he := ite_t he hc_15
        refine lv_aload_n hx hb dX6_lead_28 rfl (lv_at hl 0 rfl) ?_
        refine lv_iload_n hx hb dX6_lead_29 rfl (lv_at hl 1 rfl) ?_
        refine lv_iload_n hx hb dX6_lead_30 rfl (lv_at hl 2 rfl) ?_
        refine lv_iload_n hx hb dX6_lead_31 rfl (lv_at hl 3 rfl) ?_
        refine lv_iload hx hb dX6_lead_32 (lv_at hl 4 rfl) ?_
        refine lv_iload hx hb dX6_lead_34 (lv_at hl 5 rfl) ?_
        refine call_i [.int a1, .int a2, .int a3, .int a4, .int a5] [] hx hb hml hG hown hK (c_X6_gameLead had M a1 a2 a3 a4 a5) gw_32_21 gm_X6_gameLead gd_X6_gameLead rfl rfl ⟨Nat.le_of_ble_eq_true rfl, Nat.le_of_ble_eq_true rfl⟩ ⟨Nat.le_refl _, Nat.le_refl _⟩ (rX6 hK hP rfl) hP (fun _ h => h) hS rfl hl.1 rfl (Nat.le_of_ble_eq_true rfl) dX6_lead_36 (fun r_16 M_18 H locs hF_17 hP hS => ?_)
        have he := bnd2_at he hF_17
        exact hret _ _ _ _ _ _ (hV.trans he.symm) hP hS dX6_lead_39
      · have he := ite_f he (fun q => q hc_15)
        refine lv_ldc (v := (-1000000001)) hx hb hown (hG _ gw_11_19) dX6_lead_25 ?_
        exact hret _ _ _ _ _ _ (hV.trans he.symm) hP hS dX6_lead_27
def rm_X6_worstGame : Room := { frames := 6, cells := 0, slots := 0, locals := 132 }
theorem gm_X6_worstGame : Cond.instanceMethod yX6_worstGame ∈ wsL_law ∧ Cond.selects RX6 yX6_worstGame yX6_worstGame ∈ wsL_law ∧ Cond.initialized RX6 ∈ wsL_law ∧ Cond.code yX6_worstGame cX6_worstGame 8 (some .int) ∈ wsL_law := ⟨gw_34_6, gw_34_7, gw_1_2, gw_34_8⟩
theorem gd_X6_worstGame : yX6_worstGame.cls = RX6 ∧ yX6_worstGame.cls ≠ "java/lang/invoke/MethodHandle" ∧ yX6_worstGame.cls ≠ "java/lang/invoke/VarHandle" ∧ (parseMethodDescriptor yX6_worstGame.desc).map (fun d => d.parameters.length) = some 4 := by decide +kernel
set_option maxRecDepth 100000 in
set_option maxHeartbeats 0 in
theorem c_X6_worstGame {l : Launch} {D : va_G} {k : Nat → ClassId} {ad : Nat → Nat} (had : InjN 74 ad) (M : Mem) (a1 : Int32) (a2 : Int32) (a3 : Int32) (a4 : Int32) : Met l yX6_worstGame (Cond.code yX6_worstGame cX6_worstGame 8 (some .int) :: wsL_law) rm_X6_worstGame (va_Pc [.ref (ad 0), .int a1, .int a2, .int a3, .int a4] (GW 74 ad D k (cC ad k M))) (va_Qi (fun r u => f_X6_worstGame M a1 a2 a3 a4 = (r, u)) (fun u t => GW 74 ad D k (cC ad k u) t) (AW 74 ad)) 0 0 (AW 74 ad) := by
  refine met_i (g := cC ad k) (M := M) (plainFor_of_name (by decide)) (Nat.le_of_ble_eq_true rfl) ?_
  intro p e s m args below meth c Q ls hx hb hml hG hown hK hret hP hS hl
  have hl : lv_has ls 8 [(0, .ref (ad 0)), (1, .int a1), (2, .int a2), (3, .int a3), (4, .int a4)] := hl
  obtain ⟨V, hV⟩ : ∃ V, f_X6_worstGame M a1 a2 a3 a4 = V := ⟨_, rfl⟩
  have he := hV
  unfold f_X6_worstGame at he
  refine lv_aload_n hx hb dX6_worstGame_0 rfl (lv_at hl 0 rfl) ?_
  refine lv_iload_n hx hb dX6_worstGame_1 rfl (lv_at hl 1 rfl) ?_
  refine lv_iload_n hx hb dX6_worstGame_2 rfl (lv_at hl 2 rfl) ?_
  refine lv_iload_n hx hb dX6_worstGame_3 rfl (lv_at hl 3 rfl) ?_
  refine lv_iload hx hb dX6_worstGame_4 (lv_at hl 4 rfl) ?_
  refine lv_iconst (v := 0) hx hb dX6_worstGame_6 (by decide) ?_
  refine call_i [.int a1, .int a2, .int a3, .int a4, .int 0] [] hx hb hml hG hown hK (c_X6_gameLead had M a1 a2 a3 a4 0) gw_32_21 gm_X6_gameLead gd_X6_gameLead rfl rfl ⟨Nat.le_of_ble_eq_true rfl, Nat.le_of_ble_eq_true rfl⟩ ⟨Nat.le_refl _, Nat.le_refl _⟩ (rX6 hK hP rfl) hP (fun _ h => h) hS rfl hl.1 rfl (Nat.le_of_ble_eq_true rfl) dX6_worstGame_7 (fun r_1 M_3 H locs hF_2 hP hS => ?_)
  have he := bnd2_at he hF_2
  refine lv_bipush (v := 16) hx hb dX6_worstGame_10 (by decide) ?_
  refine lv_imul hx hb dX6_worstGame_12 ?_
  refine lv_topi (fun y_4 ey_4 => ?_)
  have he := bnd_at he ey_4
  refine lv_istore (lv' := [(5, .int y_4), (0, .ref (ad 0)), (1, .int a1), (2, .int a2), (3, .int a3), (4, .int a4)]) hx hb dX6_worstGame_13 hl (by decide) rfl (fun ls hl => ?_)
  refine lv_iconst (v := 1) hx hb dX6_worstGame_15 (by decide) ?_
  refine lv_istore (lv' := [(6, .int 1), (5, .int y_4), (0, .ref (ad 0)), (1, .int a1), (2, .int a2), (3, .int a3), (4, .int a4)]) hx hb dX6_worstGame_16 hl (by decide) rfl (fun ls hl => ?_)
  obtain ⟨w_25, M_26, hr_18, he⟩ := bnd2_ex he
  have j59 : ∀ (H : Heap) (locs : List Loc) (ls : Array Slot), va_P D vwCl (wld 74 ad (cC ad k M_26)) H → va_S (AW 74 ad) s.heap H locs → lv_has ls 8 [(5, .int w_25)] → W p l e rm_X6_worstGame s m args below meth c H locs 0 0 Q (F0 m 59 ls []) := by
    intro H locs ls hP hS hl
    refine lv_iload hx hb dX6_worstGame_59 (lv_at hl 0 rfl) ?_
    exact hret _ _ _ _ _ _ (hV.trans he.symm) hP hS dX6_worstGame_61
  have lp18 : ∀ (nn : Nat) (H : Heap) (locs : List Loc) (ls : Array Slot) (M_17 : Mem) (v_15 : Int32) (v_16 : Int32), (1 ≤ v_16.toInt) → (16 - v_16.toInt).toNat < nn → lp_X6_worstGame_18 nn a1 a2 a3 a4 M_17 v_15 v_16 = (w_25, M_26) → va_P D vwCl (wld 74 ad (cC ad k M_17)) H → va_S (AW 74 ad) s.heap H locs → lv_has ls 8 [(0, .ref (ad 0)), (1, .int a1), (2, .int a2), (3, .int a3), (4, .int a4), (5, .int v_15), (6, .int v_16)] → W p l e rm_X6_worstGame s m args below meth c H locs 0 0 Q (F0 m 18 ls []) := by
    intro nn
    induction nn with
    | zero =>
      intro H locs ls M_17 v_15 v_16 h0v_16 hμ
      exact absurd hμ (Nat.not_lt_zero _)
    | succ nn ih =>
      intro H locs ls M_17 v_15 v_16 h0v_16 hμ hr_18 hP hS hl
      rw [lp_X6_worstGame_18] at hr_18
      refine lv_iload hx hb dX6_worstGame_18 (lv_at hl 6 rfl) ?_
      refine lv_bipush (v := 16) hx hb dX6_worstGame_20 (by decide) ?_
      refine lv_icmp_ge (tgt := 59) hx hb dX6_worstGame_22 (by decide) (fun hc_19 => ?_) (fun hc_19 => ?_)
      · have hr_18 := ite_t hr_18 hc_19
        cases hr_18
        exact j59 _ _ _ hP hS (lv_sub hl [5] rfl)
      · have hr_18 := ite_f hr_18 hc_19
        refine lv_aload_n hx hb dX6_worstGame_25 rfl (lv_at hl 0 rfl) ?_
        refine lv_iload_n hx hb dX6_worstGame_26 rfl (lv_at hl 1 rfl) ?_
        refine lv_iload_n hx hb dX6_worstGame_27 rfl (lv_at hl 2 rfl) ?_
        refine lv_iload_n hx hb dX6_worstGame_28 rfl (lv_at hl 3 rfl) ?_
        refine lv_iload hx hb dX6_worstGame_29 (lv_at hl 4 rfl) ?_
        refine lv_iload hx hb dX6_worstGame_31 (lv_at hl 6 rfl) ?_
        refine call_i [.int a1, .int a2, .int a3, .int a4, .int v_16] [] hx hb hml hG hown hK (c_X6_gameLead had M_17 a1 a2 a3 a4 v_16) gw_32_21 gm_X6_gameLead gd_X6_gameLead rfl rfl ⟨Nat.le_of_ble_eq_true rfl, Nat.le_of_ble_eq_true rfl⟩ ⟨Nat.le_refl _, Nat.le_refl _⟩ (rX6 hK hP rfl) hP (fun _ h => h) hS rfl hl.1 rfl (Nat.le_of_ble_eq_true rfl) dX6_worstGame_33 (fun r_20 M_22 H locs hF_21 hP hS => ?_)
        have hr_18 := bnd2_at hr_18 hF_21
        refine lv_istore (lv' := [(7, .int r_20), (0, .ref (ad 0)), (1, .int a1), (2, .int a2), (3, .int a3), (4, .int a4), (5, .int v_15), (6, .int v_16)]) hx hb dX6_worstGame_36 hl (by decide) rfl (fun ls hl => ?_)
        refine lv_iload hx hb dX6_worstGame_38 (lv_at hl 6 rfl) ?_
        refine lv_iload hx hb dX6_worstGame_40 (lv_at hl 0 rfl) ?_
        refine lv_bipush (v := 16) hx hb dX6_worstGame_42 (by decide) ?_
        refine lv_imul hx hb dX6_worstGame_44 ?_
        refine lv_iload hx hb dX6_worstGame_45 (lv_at hl 7 rfl) ?_
        refine lv_iadd hx hb dX6_worstGame_47 ?_
        refine w_min hx hb hml hG hown gw_31_13 (Nat.le_of_ble_eq_true rfl) (Nat.le_of_ble_eq_true rfl) hl.1 ⟨Nat.le_refl _, Nat.le_refl _⟩ dX6_worstGame_48 ?_
        refine lv_topi (fun y_23 ey_23 => ?_)
        have hr_18 := bnd_at hr_18 ey_23
        refine lv_istore (lv' := [(5, .int y_23), (7, .int r_20), (0, .ref (ad 0)), (1, .int a1), (2, .int a2), (3, .int a3), (4, .int a4), (6, .int v_16)]) hx hb dX6_worstGame_51 hl (by decide) rfl (fun ls hl => ?_)
        obtain ⟨y_24, ey_24⟩ : ∃ y_24 : Int32, y_24 = v_16 + 1 := ⟨_, rfl⟩
        have hr_18 := bnd_at hr_18 ey_24
        refine lv_iinc (v := y_24) (lv' := [(6, .int y_24), (5, .int y_23), (7, .int r_20), (0, .ref (ad 0)), (1, .int a1), (2, .int a2), (3, .int a3), (4, .int a4)]) hx hb dX6_worstGame_53 hl (k := 7) rfl (by rw [ey_24]; rfl) (by decide) rfl (fun ls hl => ?_)
        refine lv_goto (tgt := 18) hx hb dX6_worstGame_56 (by decide) ?_
        exact ih _ _ _ _ _ _ (by rw [ey_24, inc_I (N := 16) (nle_I hc_19) (by decide)]; omega) (by rw [ey_24]; exact mu_I hμ (nle_I hc_19) (by decide)) hr_18 hP hS (lv_sub hl [3, 4, 5, 6, 7, 1, 0] rfl)
  exact lp18 _ _ _ _ _ _ _ (by decide) (by decide) hr_18 hP hS (lv_sub hl [2, 3, 4, 5, 6, 1, 0] rfl)
def rm_J9_floorDiv_7cf53 : Room := { frames := 0, cells := 0, slots := 0, locals := 0 }
theorem gm_J9_floorDiv_7cf53 : Cond.static yJ9_floorDiv_7cf53 ∈ wsL_law ∧ Cond.initialized yJ9_floorDiv_7cf53.cls ∈ wsL_law ∧ Cond.code yJ9_floorDiv_7cf53 cJ9_floorDiv_7cf53 3 (some .int) ∈ wsL_law := ⟨gw_34_10, gw_34_11, gw_34_12⟩
theorem gd_J9_floorDiv_7cf53 : yJ9_floorDiv_7cf53.cls ≠ "java/lang/invoke/MethodHandle" ∧ yJ9_floorDiv_7cf53.cls ≠ "java/lang/invoke/VarHandle" ∧ (parseMethodDescriptor yJ9_floorDiv_7cf53.desc).map (fun d => d.parameters.length) = some 2 := by decide +kernel
set_option maxRecDepth 100000 in
set_option maxHeartbeats 0 in
theorem c_J9_floorDiv_7cf53 {l : Launch} {D : va_G} {k : Nat → ClassId} {ad : Nat → Nat} (had : InjN 74 ad) {M : Mem} (a1 : Int32) (a2 : Int32) (hz : ¬ a2 = 0) : Met l yJ9_floorDiv_7cf53 (Cond.code yJ9_floorDiv_7cf53 cJ9_floorDiv_7cf53 3 (some .int) :: wsL_law) rm_J9_floorDiv_7cf53 (va_Pc [.int a1, .int a2] (GW 74 ad D k (cC ad k M))) (va_Qi (fun r u => f_J9_floorDiv_7cf53 a1 a2 = r ∧ u = M) (fun u t => GW 74 ad D k (cC ad k u) t) (AW 74 ad)) 0 0 (AW 74 ad) := by
  refine met_i (g := cC ad k) (M := M) (by decide +kernel) (Nat.le_of_ble_eq_true rfl) ?_
  intro p e s m args below meth c Q ls hx hb hml hG hown hK hret hP hS hl
  have hl : lv_has ls 3 [(0, .int a1), (1, .int a2)] := hl
  obtain ⟨V, hV⟩ : ∃ V, f_J9_floorDiv_7cf53 a1 a2 = V := ⟨_, rfl⟩
  have he := hV
  unfold f_J9_floorDiv_7cf53 at he
  refine lv_iload_n hx hb dJ9_floorDiv_7cf53_0 rfl (lv_at hl 0 rfl) ?_
  refine lv_iload_n hx hb dJ9_floorDiv_7cf53_1 rfl (lv_at hl 1 rfl) ?_
  refine lv_idiv hx hb dJ9_floorDiv_7cf53_2 hz ?_
  refine lv_topi (fun y_1 ey_1 => ?_)
  have he := bnd_at he ey_1
  refine lv_istore_n (lv' := [(2, .int y_1), (0, .int a1), (1, .int a2)]) hx hb dJ9_floorDiv_7cf53_3 rfl hl (by decide) rfl (fun ls hl => ?_)
  refine lv_iload_n hx hb dJ9_floorDiv_7cf53_4 rfl (lv_at hl 1 rfl) ?_
  refine lv_iload_n hx hb dJ9_floorDiv_7cf53_5 rfl (lv_at hl 2 rfl) ?_
  refine lv_ixor hx hb dJ9_floorDiv_7cf53_6 ?_
  refine lv_if_ge (tgt := 21) hx hb dJ9_floorDiv_7cf53_7 (by decide) (fun hc_2 => ?_) (fun hc_2 => ?_)
  · have he := ite_t he hc_2
    refine lv_iload_n hx hb dJ9_floorDiv_7cf53_21 rfl (lv_at hl 0 rfl) ?_
    exact hret _ _ _ _ _ _ ⟨hV.trans he.symm, rfl⟩ hP hS dJ9_floorDiv_7cf53_22
  · have he := ite_f he hc_2
    refine lv_iload_n hx hb dJ9_floorDiv_7cf53_10 rfl (lv_at hl 0 rfl) ?_
    refine lv_iload_n hx hb dJ9_floorDiv_7cf53_11 rfl (lv_at hl 2 rfl) ?_
    refine lv_imul hx hb dJ9_floorDiv_7cf53_12 ?_
    refine lv_iload_n hx hb dJ9_floorDiv_7cf53_13 rfl (lv_at hl 1 rfl) ?_
    refine lv_icmp_eq (tgt := 21) hx hb dJ9_floorDiv_7cf53_14 (by decide) (fun hc_3 => ?_) (fun hc_3 => ?_)
    · have he := ite_t he hc_3
      refine lv_iload_n hx hb dJ9_floorDiv_7cf53_21 rfl (lv_at hl 0 rfl) ?_
      exact hret _ _ _ _ _ _ ⟨hV.trans he.symm, rfl⟩ hP hS dJ9_floorDiv_7cf53_22
    · have he := ite_f he hc_3
      refine lv_iload_n hx hb dJ9_floorDiv_7cf53_17 rfl (lv_at hl 0 rfl) ?_
      refine lv_iconst (v := 1) hx hb dJ9_floorDiv_7cf53_18 (by decide) ?_
      refine lv_isub hx hb dJ9_floorDiv_7cf53_19 ?_
      exact hret _ _ _ _ _ _ ⟨hV.trans he.symm, rfl⟩ hP hS dJ9_floorDiv_7cf53_20
def rm_X6_safe : Room := { frames := 7, cells := 0, slots := 0, locals := 159 }
theorem gm_X6_safe : Cond.instanceMethod yX6_safe ∈ wsL_law ∧ Cond.selects RX6 yX6_safe yX6_safe ∈ wsL_law ∧ Cond.initialized RX6 ∈ wsL_law ∧ Cond.code yX6_safe cX6_safe 9 (some .int) ∈ wsL_law := ⟨gw_34_2, gw_34_3, gw_1_2, gw_34_4⟩
theorem gd_X6_safe : yX6_safe.cls = RX6 ∧ yX6_safe.cls ≠ "java/lang/invoke/MethodHandle" ∧ yX6_safe.cls ≠ "java/lang/invoke/VarHandle" ∧ (parseMethodDescriptor yX6_safe.desc).map (fun d => d.parameters.length) = some 4 := by decide +kernel
set_option maxRecDepth 100000 in
set_option maxHeartbeats 0 in
theorem c_X6_safe {l : Launch} {D : va_G} {k : Nat → ClassId} {ad : Nat → Nat} (had : InjN 74 ad) (M : Mem) (a1 : Int32) (a2 : Int32) (a3 : Int32) (a4 : Int32) : Met l yX6_safe (Cond.code yX6_safe cX6_safe 9 (some .int) :: wsL_law) rm_X6_safe (va_Pc [.ref (ad 0), .int a1, .int a2, .int a3, .int a4] (GW 74 ad D k (cC ad k M))) (va_Qi (fun r u => f_X6_safe M a1 a2 a3 a4 = (r, u)) (fun u t => GW 74 ad D k (cC ad k u) t) (AW 74 ad)) 0 0 (AW 74 ad) := by
  refine met_i (g := cC ad k) (M := M) (plainFor_of_name (by decide)) (Nat.le_of_ble_eq_true rfl) ?_
  intro p e s m args below meth c Q ls hx hb hml hG hown hK hret hP hS hl
  have hl : lv_has ls 9 [(0, .ref (ad 0)), (1, .int a1), (2, .int a2), (3, .int a3), (4, .int a4)] := hl
  obtain ⟨V, hV⟩ : ∃ V, f_X6_safe M a1 a2 a3 a4 = V := ⟨_, rfl⟩
  have he := hV
  unfold f_X6_safe at he
  refine lv_iload_n hx hb dX6_safe_0 rfl (lv_at hl 1 rfl) ?_
  refine lv_iload_n hx hb dX6_safe_1 rfl (lv_at hl 2 rfl) ?_
  refine lv_iload_n hx hb dX6_safe_2 rfl (lv_at hl 3 rfl) ?_
  refine callS_i [.int a1, .int a2, .int a3] [] hx hb hml hG hown hK (c_X6_isGame had (M := M)  a1 a2 a3) gw_32_15 gm_X6_isGame gd_X6_isGame rfl rfl ⟨Nat.le_of_ble_eq_true rfl, Nat.le_of_ble_eq_true rfl⟩ ⟨Nat.le_refl _, Nat.le_refl _⟩ hP (fun _ h => h) hS rfl hl.1 rfl (Nat.le_of_ble_eq_true rfl) dX6_safe_3 (fun r_1 u_3 H locs hF_2 hP hS => ?_)
  obtain ⟨hz_4, hF_2, hu⟩ := hF_2; rw [hu] at hP; subst hF_2
  refine lv_if_eq (tgt := 20) hx hb dX6_safe_6 (by decide) (fun hc_5 => ?_) (fun hc_5 => ?_)
  · have he := ite_t he hc_5
    refine lv_ldc (v := (-1000000001)) hx hb hown (hG _ gw_11_19) dX6_safe_20 ?_
    exact hret _ _ _ _ _ _ (hV.trans he.symm) hP hS dX6_safe_22
  · have he := ite_f he hc_5
    refine lv_iload hx hb dX6_safe_9 (lv_at hl 4 rfl) ?_
    refine lv_if_lt (tgt := 20) hx hb dX6_safe_11 (by decide) (fun hc_6 => ?_) (fun hc_6 => ?_)
    · have he := ite_t he hc_6
      refine lv_ldc (v := (-1000000001)) hx hb hown (hG _ gw_11_19) dX6_safe_20 ?_
      exact hret _ _ _ _ _ _ (hV.trans he.symm) hP hS dX6_safe_22
    · have he := ite_f he hc_6
      refine lv_iload hx hb dX6_safe_14 (lv_at hl 4 rfl) ?_
      refine lv_iconst (v := 1) hx hb dX6_safe_16 (by decide) ?_
      refine lv_icmp_le (tgt := 23) hx hb dX6_safe_17 (by decide) (fun hc_7 => ?_) (fun hc_7 => ?_)
      · have he := ite_t he hc_7
        refine lv_iconst (v := 0) hx hb dX6_safe_23 (by decide) ?_
        refine lv_istore (lv' := [(5, .int 0), (0, .ref (ad 0)), (1, .int a1), (2, .int a2), (3, .int a3), (4, .int a4)]) hx hb dX6_safe_24 hl (by decide) rfl (fun ls hl => ?_)
        refine lv_aload_n hx hb dX6_safe_26 rfl (lv_at hl 1 rfl) ?_
        refine lv_iload_n hx hb dX6_safe_27 rfl (lv_at hl 2 rfl) ?_
        refine lv_iload_n hx hb dX6_safe_28 rfl (lv_at hl 3 rfl) ?_
        refine lv_iload_n hx hb dX6_safe_29 rfl (lv_at hl 4 rfl) ?_
        refine lv_iconst (v := 0) hx hb dX6_safe_30 (by decide) ?_
        refine call_i [.int a1, .int a2, .int a3, .int 0] [] hx hb hml hG hown hK (c_X6_worstGame had M a1 a2 a3 0) gw_34_5 gm_X6_worstGame gd_X6_worstGame rfl rfl ⟨Nat.le_of_ble_eq_true rfl, Nat.le_of_ble_eq_true rfl⟩ ⟨Nat.le_refl _, Nat.le_refl _⟩ (rX6 hK hP rfl) hP (fun _ h => h) hS rfl hl.1 rfl (Nat.le_of_ble_eq_true rfl) dX6_safe_31 (fun r_8 M_10 H locs hF_9 hP hS => ?_)
        have he := bnd2_at he hF_9
        refine lv_bipush (v := 16) hx hb dX6_safe_34 (by decide) ?_
        refine callS_i [.int r_8, .int 16] [] hx hb hml hG hown hK (c_J9_floorDiv_7cf53 had (M := M_10)  r_8 16 (by decide)) gw_34_9 gm_J9_floorDiv_7cf53 gd_J9_floorDiv_7cf53 rfl rfl ⟨Nat.le_of_ble_eq_true rfl, Nat.le_of_ble_eq_true rfl⟩ ⟨Nat.le_refl _, Nat.le_refl _⟩ hP (fun _ h => h) hS rfl hl.1 rfl (Nat.le_of_ble_eq_true rfl) dX6_safe_36 (fun r_11 u_13 H locs hF_12 hP hS => ?_)
        obtain ⟨hF_12, hu⟩ := hF_12; rw [hu] at hP; subst hF_12
        refine lv_topi (fun y_14 ey_14 => ?_)
        have he := bnd_at he ey_14
        refine lv_istore (lv' := [(6, .int y_14), (5, .int 0), (0, .ref (ad 0)), (1, .int a1), (2, .int a2), (3, .int a3), (4, .int a4)]) hx hb dX6_safe_39 hl (by decide) rfl (fun ls hl => ?_)
        refine lv_iconst (v := 1) hx hb dX6_safe_41 (by decide) ?_
        refine lv_istore (lv' := [(7, .int 1), (6, .int y_14), (5, .int 0), (0, .ref (ad 0)), (1, .int a1), (2, .int a2), (3, .int a3), (4, .int a4)]) hx hb dX6_safe_42 hl (by decide) rfl (fun ls hl => ?_)
        obtain ⟨w_69, w_70, M_71, hr_55, he⟩ := bnd3_ex he
        have j88 : ∀ (H : Heap) (locs : List Loc) (ls : Array Slot), va_P D vwCl (wld 74 ad (cC ad k M_71)) H → va_S (AW 74 ad) s.heap H locs → lv_has ls 9 [(4, .int a4), (5, .int w_69), (6, .int w_70)] → W p l e rm_X6_safe s m args below meth c H locs 0 0 Q (F0 m 88 ls []) := by
          intro H locs ls hP hS hl
          refine lv_iload hx hb dX6_safe_88 (lv_at hl 0 rfl) ?_
          obtain ⟨t_74, hr_73, he⟩ := bnd_ex he
          have j100 : ∀ (H : Heap) (locs : List Loc) (ls : Array Slot), va_P D vwCl (wld 74 ad (cC ad k M_71)) H → va_S (AW 74 ad) s.heap H locs → lv_has ls 9 [] → W p l e rm_X6_safe s m args below meth c H locs 0 0 Q (F0 m 100 ls [.int t_74]) := by
            intro H locs ls hP hS hl
            exact hret _ _ _ _ _ _ (hV.trans he.symm) hP hS dX6_safe_100
          refine lv_if_ne (tgt := 98) hx hb dX6_safe_90 (by decide) (fun hc_72 => ?_) (fun hc_72 => ?_)
          · have hr_73 := ite_t hr_73 hc_72
            refine lv_iload hx hb dX6_safe_98 (lv_at hl 1 rfl) ?_
            cases hr_73
            exact j100 _ _ _ hP hS (lv_sub hl [] rfl)
          · have hr_73 := ite_f hr_73 (fun q => q hc_72)
            refine lv_iload hx hb dX6_safe_93 (lv_at hl 2 rfl) ?_
            refine lv_goto (tgt := 100) hx hb dX6_safe_95 (by decide) ?_
            cases hr_73
            exact j100 _ _ _ hP hS (lv_sub hl [] rfl)
        have lp44 : ∀ (nn : Nat) (H : Heap) (locs : List Loc) (ls : Array Slot) (M_54 : Mem) (v_51 : Int32) (v_52 : Int32) (v_53 : Int32), (1 ≤ v_53.toInt) → (16 - v_53.toInt).toNat < nn → lp_X6_safe_44 nn a1 a2 a3 M_54 v_51 v_52 v_53 = (w_69, w_70, M_71) → va_P D vwCl (wld 74 ad (cC ad k M_54)) H → va_S (AW 74 ad) s.heap H locs → lv_has ls 9 [(0, .ref (ad 0)), (1, .int a1), (2, .int a2), (3, .int a3), (4, .int a4), (5, .int v_51), (6, .int v_52), (7, .int v_53)] → W p l e rm_X6_safe s m args below meth c H locs 0 0 Q (F0 m 44 ls []) := by
          intro nn
          induction nn with
          | zero =>
            intro H locs ls M_54 v_51 v_52 v_53 h0v_53 hμ
            exact absurd hμ (Nat.not_lt_zero _)
          | succ nn ih =>
            intro H locs ls M_54 v_51 v_52 v_53 h0v_53 hμ hr_55 hP hS hl
            rw [lp_X6_safe_44] at hr_55
            refine lv_iload hx hb dX6_safe_44 (lv_at hl 7 rfl) ?_
            refine lv_bipush (v := 16) hx hb dX6_safe_46 (by decide) ?_
            refine lv_icmp_ge (tgt := 88) hx hb dX6_safe_48 (by decide) (fun hc_56 => ?_) (fun hc_56 => ?_)
            · have hr_55 := ite_t hr_55 hc_56
              cases hr_55
              exact j88 _ _ _ hP hS (lv_sub hl [4, 5, 6] rfl)
            · have hr_55 := ite_f hr_55 hc_56
              refine lv_aload_n hx hb dX6_safe_51 rfl (lv_at hl 0 rfl) ?_
              refine lv_iload_n hx hb dX6_safe_52 rfl (lv_at hl 1 rfl) ?_
              refine lv_iload_n hx hb dX6_safe_53 rfl (lv_at hl 2 rfl) ?_
              refine lv_iload_n hx hb dX6_safe_54 rfl (lv_at hl 3 rfl) ?_
              refine lv_iload hx hb dX6_safe_55 (lv_at hl 7 rfl) ?_
              refine call_i [.int a1, .int a2, .int a3, .int v_53] [] hx hb hml hG hown hK (c_X6_worstGame had M_54 a1 a2 a3 v_53) gw_34_5 gm_X6_worstGame gd_X6_worstGame rfl rfl ⟨Nat.le_of_ble_eq_true rfl, Nat.le_of_ble_eq_true rfl⟩ ⟨Nat.le_refl _, Nat.le_refl _⟩ (rX6 hK hP rfl) hP (fun _ h => h) hS rfl hl.1 rfl (Nat.le_of_ble_eq_true rfl) dX6_safe_57 (fun r_57 M_59 H locs hF_58 hP hS => ?_)
              have hr_55 := bnd2_at hr_55 hF_58
              refine lv_bipush (v := 16) hx hb dX6_safe_60 (by decide) ?_
              refine callS_i [.int r_57, .int 16] [] hx hb hml hG hown hK (c_J9_floorDiv_7cf53 had (M := M_59)  r_57 16 (by decide)) gw_34_9 gm_J9_floorDiv_7cf53 gd_J9_floorDiv_7cf53 rfl rfl ⟨Nat.le_of_ble_eq_true rfl, Nat.le_of_ble_eq_true rfl⟩ ⟨Nat.le_refl _, Nat.le_refl _⟩ hP (fun _ h => h) hS rfl hl.1 rfl (Nat.le_of_ble_eq_true rfl) dX6_safe_62 (fun r_60 u_62 H locs hF_61 hP hS => ?_)
              obtain ⟨hF_61, hu⟩ := hF_61; rw [hu] at hP; subst hF_61
              refine lv_topi (fun y_63 ey_63 => ?_)
              have hr_55 := bnd_at hr_55 ey_63
              refine lv_istore (lv' := [(8, .int y_63), (0, .ref (ad 0)), (1, .int a1), (2, .int a2), (3, .int a3), (4, .int a4), (5, .int v_51), (6, .int v_52), (7, .int v_53)]) hx hb dX6_safe_65 hl (by decide) rfl (fun ls hl => ?_)
              refine lv_iload hx hb dX6_safe_67 (lv_at hl 0 rfl) ?_
              refine lv_iload hx hb dX6_safe_69 (lv_at hl 7 rfl) ?_
              obtain ⟨x_66, x_67, hr_65, hr_55⟩ := bnd2_ex hr_55
              have j82 : ∀ (H : Heap) (locs : List Loc) (ls : Array Slot), va_P D vwCl (wld 74 ad (cC ad k M_59)) H → va_S (AW 74 ad) s.heap H locs → lv_has ls 9 [(0, .ref (ad 0)), (1, .int a1), (2, .int a2), (3, .int a3), (4, .int a4), (5, .int x_66), (6, .int x_67), (7, .int v_53)] → W p l e rm_X6_safe s m args below meth c H locs 0 0 Q (F0 m 82 ls []) := by
                intro H locs ls hP hS hl
                obtain ⟨y_68, ey_68⟩ : ∃ y_68 : Int32, y_68 = v_53 + 1 := ⟨_, rfl⟩
                have hr_55 := bnd_at hr_55 ey_68
                refine lv_iinc (v := y_68) (lv' := [(7, .int y_68), (0, .ref (ad 0)), (1, .int a1), (2, .int a2), (3, .int a3), (4, .int a4), (5, .int x_66), (6, .int x_67)]) hx hb dX6_safe_82 hl (k := 7) rfl (by rw [ey_68]; rfl) (by decide) rfl (fun ls hl => ?_)
                refine lv_goto (tgt := 44) hx hb dX6_safe_85 (by decide) ?_
                exact ih _ _ _ _ _ _ _ (by rw [ey_68, inc_I (N := 16) (nle_I hc_56) (by decide)]; omega) (by rw [ey_68]; exact mu_I hμ (nle_I hc_56) (by decide)) hr_55 hP hS (lv_sub hl [1, 2, 3, 4, 5, 6, 7, 0] rfl)
              refine lv_icmp_le (tgt := 82) hx hb dX6_safe_71 (by decide) (fun hc_64 => ?_) (fun hc_64 => ?_)
              · have hr_65 := ite_t hr_65 hc_64
                cases hr_65
                exact j82 _ _ _ hP hS (lv_sub hl [1, 2, 3, 4, 5, 6, 7, 8] rfl)
              · have hr_65 := ite_f hr_65 hc_64
                refine lv_iload hx hb dX6_safe_74 (lv_at hl 0 rfl) ?_
                refine lv_istore (lv' := [(6, .int y_63), (8, .int y_63), (0, .ref (ad 0)), (1, .int a1), (2, .int a2), (3, .int a3), (4, .int a4), (5, .int v_51), (7, .int v_53)]) hx hb dX6_safe_76 hl (by decide) rfl (fun ls hl => ?_)
                refine lv_iload hx hb dX6_safe_78 (lv_at hl 8 rfl) ?_
                refine lv_istore (lv' := [(5, .int v_53), (6, .int y_63), (8, .int y_63), (0, .ref (ad 0)), (1, .int a1), (2, .int a2), (3, .int a3), (4, .int a4), (7, .int v_53)]) hx hb dX6_safe_80 hl (by decide) rfl (fun ls hl => ?_)
                cases hr_65
                exact j82 _ _ _ hP hS (lv_sub hl [3, 4, 5, 6, 7, 0, 1, 8] rfl)
        exact lp44 _ _ _ _ _ _ _ _ (by decide) (by decide) hr_55 hP hS (lv_sub hl [3, 4, 5, 6, 7, 2, 1, 0] rfl)
      · have he := ite_f he hc_7
        refine lv_ldc (v := (-1000000001)) hx hb hown (hG _ gw_11_19) dX6_safe_20 ?_
        exact hret _ _ _ _ _ _ (hV.trans he.symm) hP hS dX6_safe_22
def rm_J9_floorMod_7cf53 : Room := { frames := 0, cells := 0, slots := 0, locals := 0 }
theorem gm_J9_floorMod_7cf53 : Cond.static yJ9_floorMod_7cf53 ∈ wsL_law ∧ Cond.initialized yJ9_floorMod_7cf53.cls ∈ wsL_law ∧ Cond.code yJ9_floorMod_7cf53 cJ9_floorMod_7cf53 3 (some .int) ∈ wsL_law := ⟨gw_35_0, gw_34_11, gw_35_1⟩
theorem gd_J9_floorMod_7cf53 : yJ9_floorMod_7cf53.cls ≠ "java/lang/invoke/MethodHandle" ∧ yJ9_floorMod_7cf53.cls ≠ "java/lang/invoke/VarHandle" ∧ (parseMethodDescriptor yJ9_floorMod_7cf53.desc).map (fun d => d.parameters.length) = some 2 := by decide +kernel
set_option maxRecDepth 100000 in
set_option maxHeartbeats 0 in
theorem c_J9_floorMod_7cf53 {l : Launch} {D : va_G} {k : Nat → ClassId} {ad : Nat → Nat} (had : InjN 74 ad) {M : Mem} (a1 : Int32) (a2 : Int32) (hz : ¬ a2 = 0) : Met l yJ9_floorMod_7cf53 (Cond.code yJ9_floorMod_7cf53 cJ9_floorMod_7cf53 3 (some .int) :: wsL_law) rm_J9_floorMod_7cf53 (va_Pc [.int a1, .int a2] (GW 74 ad D k (cC ad k M))) (va_Qi (fun r u => f_J9_floorMod_7cf53 a1 a2 = r ∧ u = M) (fun u t => GW 74 ad D k (cC ad k u) t) (AW 74 ad)) 0 0 (AW 74 ad) := by
  refine met_i (g := cC ad k) (M := M) (by decide +kernel) (Nat.le_of_ble_eq_true rfl) ?_
  intro p e s m args below meth c Q ls hx hb hml hG hown hK hret hP hS hl
  have hl : lv_has ls 3 [(0, .int a1), (1, .int a2)] := hl
  obtain ⟨V, hV⟩ : ∃ V, f_J9_floorMod_7cf53 a1 a2 = V := ⟨_, rfl⟩
  have he := hV
  unfold f_J9_floorMod_7cf53 at he
  refine lv_iload_n hx hb dJ9_floorMod_7cf53_0 rfl (lv_at hl 0 rfl) ?_
  refine lv_iload_n hx hb dJ9_floorMod_7cf53_1 rfl (lv_at hl 1 rfl) ?_
  refine lv_irem hx hb dJ9_floorMod_7cf53_2 hz ?_
  refine lv_topi (fun y_1 ey_1 => ?_)
  have he := bnd_at he ey_1
  refine lv_istore_n (lv' := [(2, .int y_1), (0, .int a1), (1, .int a2)]) hx hb dJ9_floorMod_7cf53_3 rfl hl (by decide) rfl (fun ls hl => ?_)
  refine lv_iload_n hx hb dJ9_floorMod_7cf53_4 rfl (lv_at hl 1 rfl) ?_
  refine lv_iload_n hx hb dJ9_floorMod_7cf53_5 rfl (lv_at hl 2 rfl) ?_
  refine lv_ixor hx hb dJ9_floorMod_7cf53_6 ?_
  refine lv_if_ge (tgt := 18) hx hb dJ9_floorMod_7cf53_7 (by decide) (fun hc_2 => ?_) (fun hc_2 => ?_)
  · have he := ite_t he hc_2
    refine lv_iload_n hx hb dJ9_floorMod_7cf53_18 rfl (lv_at hl 0 rfl) ?_
    exact hret _ _ _ _ _ _ ⟨hV.trans he.symm, rfl⟩ hP hS dJ9_floorMod_7cf53_19
  · have he := ite_f he hc_2
    refine lv_iload_n hx hb dJ9_floorMod_7cf53_10 rfl (lv_at hl 0 rfl) ?_
    refine lv_if_eq (tgt := 18) hx hb dJ9_floorMod_7cf53_11 (by decide) (fun hc_3 => ?_) (fun hc_3 => ?_)
    · have he := ite_t he hc_3
      refine lv_iload_n hx hb dJ9_floorMod_7cf53_18 rfl (lv_at hl 0 rfl) ?_
      exact hret _ _ _ _ _ _ ⟨hV.trans he.symm, rfl⟩ hP hS dJ9_floorMod_7cf53_19
    · have he := ite_f he hc_3
      refine lv_iload_n hx hb dJ9_floorMod_7cf53_14 rfl (lv_at hl 0 rfl) ?_
      refine lv_iload_n hx hb dJ9_floorMod_7cf53_15 rfl (lv_at hl 2 rfl) ?_
      refine lv_iadd hx hb dJ9_floorMod_7cf53_16 ?_
      exact hret _ _ _ _ _ _ ⟨hV.trans he.symm, rfl⟩ hP hS dJ9_floorMod_7cf53_17
def rm_X6_answer : Room := { frames := 7, cells := 0, slots := 0, locals := 159 }
theorem gm_X6_answer : Cond.instanceMethod yX6_answer ∈ wsL_law ∧ Cond.selects RX6 yX6_answer yX6_answer ∈ wsL_law ∧ Cond.initialized RX6 ∈ wsL_law ∧ Cond.code yX6_answer cX6_answer 5 (some .int) ∈ wsL_law := ⟨gw_34_20, gw_34_21, gw_1_2, gw_34_22⟩
theorem gd_X6_answer : yX6_answer.cls = RX6 ∧ yX6_answer.cls ≠ "java/lang/invoke/MethodHandle" ∧ yX6_answer.cls ≠ "java/lang/invoke/VarHandle" ∧ (parseMethodDescriptor yX6_answer.desc).map (fun d => d.parameters.length) = some 4 := by decide +kernel
set_option maxRecDepth 100000 in
set_option maxHeartbeats 0 in
theorem c_X6_answer {l : Launch} {D : va_G} {k : Nat → ClassId} {ad : Nat → Nat} (had : InjN 74 ad) (M : Mem) (a1 : Int32) (a2 : Int32) (a3 : Int32) (a4 : Int32) : Met l yX6_answer (Cond.code yX6_answer cX6_answer 5 (some .int) :: wsL_law) rm_X6_answer (va_Pc [.ref (ad 0), .int a1, .int a2, .int a3, .int a4] (GW 74 ad D k (cC ad k M))) (va_Qi (fun r u => f_X6_answer M a1 a2 a3 a4 = (r, u)) (fun u t => GW 74 ad D k (cC ad k u) t) (AW 74 ad)) 0 0 (AW 74 ad) := by
  refine met_i (g := cC ad k) (M := M) (plainFor_of_name (by decide)) (Nat.le_of_ble_eq_true rfl) ?_
  intro p e s m args below meth c Q ls hx hb hml hG hown hK hret hP hS hl
  have hl : lv_has ls 5 [(0, .ref (ad 0)), (1, .int a1), (2, .int a2), (3, .int a3), (4, .int a4)] := hl
  obtain ⟨V, hV⟩ : ∃ V, f_X6_answer M a1 a2 a3 a4 = V := ⟨_, rfl⟩
  have he := hV
  unfold f_X6_answer at he
  refine lv_iload_n hx hb dX6_answer_0 rfl (lv_at hl 1 rfl) ?_
  refine lv_iload_n hx hb dX6_answer_1 rfl (lv_at hl 2 rfl) ?_
  refine lv_iload_n hx hb dX6_answer_2 rfl (lv_at hl 3 rfl) ?_
  refine callS_i [.int a1, .int a2, .int a3] [] hx hb hml hG hown hK (c_X6_isGame had (M := M)  a1 a2 a3) gw_32_15 gm_X6_isGame gd_X6_isGame rfl rfl ⟨Nat.le_of_ble_eq_true rfl, Nat.le_of_ble_eq_true rfl⟩ ⟨Nat.le_refl _, Nat.le_refl _⟩ hP (fun _ h => h) hS rfl hl.1 rfl (Nat.le_of_ble_eq_true rfl) dX6_answer_3 (fun r_1 u_3 H locs hF_2 hP hS => ?_)
  obtain ⟨hz_4, hF_2, hu⟩ := hF_2; rw [hu] at hP; subst hF_2
  refine lv_if_eq (tgt := 17) hx hb dX6_answer_6 (by decide) (fun hc_5 => ?_) (fun hc_5 => ?_)
  · have he := ite_t he hc_5
    refine lv_iconst (v := (-1)) hx hb dX6_answer_17 (by decide) ?_
    exact hret _ _ _ _ _ _ (hV.trans he.symm) hP hS dX6_answer_18
  · have he := ite_f he hc_5
    refine lv_iload hx hb dX6_answer_9 (lv_at hl 4 rfl) ?_
    refine callS_i [.int a4] [] hx hb hml hG hown hK (c_X6_isGameBits had (M := M)  a4) gw_32_18 gm_X6_isGameBits gd_X6_isGameBits rfl rfl ⟨Nat.le_of_ble_eq_true rfl, Nat.le_of_ble_eq_true rfl⟩ ⟨Nat.le_refl _, Nat.le_refl _⟩ hP (fun _ h => h) hS rfl hl.1 rfl (Nat.le_of_ble_eq_true rfl) dX6_answer_11 (fun r_6 u_8 H locs hF_7 hP hS => ?_)
    obtain ⟨hz_9, hF_7, hu⟩ := hF_7; rw [hu] at hP; subst hF_7
    refine lv_if_ne (tgt := 19) hx hb dX6_answer_14 (by decide) (fun hc_10 => ?_) (fun hc_10 => ?_)
    · have he := ite_t he hc_10
      refine lv_aload_n hx hb dX6_answer_19 rfl (lv_at hl 0 rfl) ?_
      refine lv_iload_n hx hb dX6_answer_20 rfl (lv_at hl 1 rfl) ?_
      refine lv_iload_n hx hb dX6_answer_21 rfl (lv_at hl 2 rfl) ?_
      refine lv_iload_n hx hb dX6_answer_22 rfl (lv_at hl 3 rfl) ?_
      refine lv_iload hx hb dX6_answer_23 (lv_at hl 4 rfl) ?_
      refine call_i [.int a1, .int a2, .int a3, .int a4] [] hx hb hml hG hown hK (c_X6_worstGame had M a1 a2 a3 a4) gw_34_5 gm_X6_worstGame gd_X6_worstGame rfl rfl ⟨Nat.le_of_ble_eq_true rfl, Nat.le_of_ble_eq_true rfl⟩ ⟨Nat.le_refl _, Nat.le_refl _⟩ (rX6 hK hP rfl) hP (fun _ h => h) hS rfl hl.1 rfl (Nat.le_of_ble_eq_true rfl) dX6_answer_25 (fun r_11 M_13 H locs hF_12 hP hS => ?_)
      have he := bnd2_at he hF_12
      refine lv_bipush (v := 16) hx hb dX6_answer_28 (by decide) ?_
      refine callS_i [.int r_11, .int 16] [] hx hb hml hG hown hK (c_J9_floorMod_7cf53 had (M := M_13)  r_11 16 (by decide)) gw_34_23 gm_J9_floorMod_7cf53 gd_J9_floorMod_7cf53 rfl rfl ⟨Nat.le_of_ble_eq_true rfl, Nat.le_of_ble_eq_true rfl⟩ ⟨Nat.le_refl _, Nat.le_refl _⟩ hP (fun _ h => h) hS rfl hl.1 rfl (Nat.le_of_ble_eq_true rfl) dX6_answer_30 (fun r_14 u_16 H locs hF_15 hP hS => ?_)
      obtain ⟨hF_15, hu⟩ := hF_15; rw [hu] at hP; subst hF_15
      exact hret _ _ _ _ _ _ (hV.trans he.symm) hP hS dX6_answer_33
    · have he := ite_f he (fun q => q hc_10)
      refine lv_iconst (v := (-1)) hx hb dX6_answer_17 (by decide) ?_
      exact hret _ _ _ _ _ _ (hV.trans he.symm) hP hS dX6_answer_18
def rm_X6_cover : Room := { frames := 6, cells := 0, slots := 0, locals := 132 }
theorem gm_X6_cover : Cond.instanceMethod yX6_cover ∈ wsL_law ∧ Cond.selects RX6 yX6_cover yX6_cover ∈ wsL_law ∧ Cond.initialized RX6 ∈ wsL_law ∧ Cond.code yX6_cover cX6_cover 5 (some .int) ∈ wsL_law := ⟨gw_35_7, gw_35_8, gw_1_2, gw_35_9⟩
theorem gd_X6_cover : yX6_cover.cls = RX6 ∧ yX6_cover.cls ≠ "java/lang/invoke/MethodHandle" ∧ yX6_cover.cls ≠ "java/lang/invoke/VarHandle" ∧ (parseMethodDescriptor yX6_cover.desc).map (fun d => d.parameters.length) = some 4 := by decide +kernel
set_option maxRecDepth 100000 in
set_option maxHeartbeats 0 in
theorem c_X6_cover {l : Launch} {D : va_G} {k : Nat → ClassId} {ad : Nat → Nat} (had : InjN 74 ad) (M : Mem) (a1 : Int32) (a2 : Int32) (a3 : Int32) (a4 : Int32) : Met l yX6_cover (Cond.code yX6_cover cX6_cover 5 (some .int) :: wsL_law) rm_X6_cover (va_Pc [.ref (ad 0), .int a1, .int a2, .int a3, .int a4] (GW 74 ad D k (cC ad k M))) (va_Qi (fun r u => f_X6_cover M a1 a2 a3 a4 = (r, u)) (fun u t => GW 74 ad D k (cC ad k u) t) (AW 74 ad)) 0 0 (AW 74 ad) := by
  refine met_i (g := cC ad k) (M := M) (plainFor_of_name (by decide)) (Nat.le_of_ble_eq_true rfl) ?_
  intro p e s m args below meth c Q ls hx hb hml hG hown hK hret hP hS hl
  have hl : lv_has ls 5 [(0, .ref (ad 0)), (1, .int a1), (2, .int a2), (3, .int a3), (4, .int a4)] := hl
  obtain ⟨V, hV⟩ : ∃ V, f_X6_cover M a1 a2 a3 a4 = V := ⟨_, rfl⟩
  have he := hV
  unfold f_X6_cover at he
  refine lv_iload_n hx hb dX6_cover_0 rfl (lv_at hl 1 rfl) ?_
  refine lv_iload_n hx hb dX6_cover_1 rfl (lv_at hl 2 rfl) ?_
  refine lv_iload_n hx hb dX6_cover_2 rfl (lv_at hl 3 rfl) ?_
  refine callS_i [.int a1, .int a2, .int a3] [] hx hb hml hG hown hK (c_X6_isGame had (M := M)  a1 a2 a3) gw_32_15 gm_X6_isGame gd_X6_isGame rfl rfl ⟨Nat.le_of_ble_eq_true rfl, Nat.le_of_ble_eq_true rfl⟩ ⟨Nat.le_refl _, Nat.le_refl _⟩ hP (fun _ h => h) hS rfl hl.1 rfl (Nat.le_of_ble_eq_true rfl) dX6_cover_3 (fun r_1 u_3 H locs hF_2 hP hS => ?_)
  obtain ⟨hz_4, hF_2, hu⟩ := hF_2; rw [hu] at hP; subst hF_2
  refine lv_if_eq (tgt := 17) hx hb dX6_cover_6 (by decide) (fun hc_5 => ?_) (fun hc_5 => ?_)
  · have he := ite_t he hc_5
    refine lv_ldc (v := (-1000000001)) hx hb hown (hG _ gw_11_19) dX6_cover_17 ?_
    exact hret _ _ _ _ _ _ (hV.trans he.symm) hP hS dX6_cover_19
  · have he := ite_f he hc_5
    refine lv_iload hx hb dX6_cover_9 (lv_at hl 4 rfl) ?_
    refine callS_i [.int a4] [] hx hb hml hG hown hK (c_X6_isGameBits had (M := M)  a4) gw_32_18 gm_X6_isGameBits gd_X6_isGameBits rfl rfl ⟨Nat.le_of_ble_eq_true rfl, Nat.le_of_ble_eq_true rfl⟩ ⟨Nat.le_refl _, Nat.le_refl _⟩ hP (fun _ h => h) hS rfl hl.1 rfl (Nat.le_of_ble_eq_true rfl) dX6_cover_11 (fun r_6 u_8 H locs hF_7 hP hS => ?_)
    obtain ⟨hz_9, hF_7, hu⟩ := hF_7; rw [hu] at hP; subst hF_7
    refine lv_if_ne (tgt := 20) hx hb dX6_cover_14 (by decide) (fun hc_10 => ?_) (fun hc_10 => ?_)
    · have he := ite_t he hc_10
      refine lv_aload_n hx hb dX6_cover_20 rfl (lv_at hl 0 rfl) ?_
      refine lv_iload_n hx hb dX6_cover_21 rfl (lv_at hl 1 rfl) ?_
      refine lv_iload_n hx hb dX6_cover_22 rfl (lv_at hl 2 rfl) ?_
      refine lv_iload_n hx hb dX6_cover_23 rfl (lv_at hl 3 rfl) ?_
      refine lv_iload hx hb dX6_cover_24 (lv_at hl 4 rfl) ?_
      refine lv_iload hx hb dX6_cover_26 (lv_at hl 4 rfl) ?_
      refine call_i [.int a1, .int a2, .int a3, .int a4, .int a4] [] hx hb hml hG hown hK (c_X6_gameLead had M a1 a2 a3 a4 a4) gw_32_21 gm_X6_gameLead gd_X6_gameLead rfl rfl ⟨Nat.le_of_ble_eq_true rfl, Nat.le_of_ble_eq_true rfl⟩ ⟨Nat.le_refl _, Nat.le_refl _⟩ (rX6 hK hP rfl) hP (fun _ h => h) hS rfl hl.1 rfl (Nat.le_of_ble_eq_true rfl) dX6_cover_28 (fun r_11 M_13 H locs hF_12 hP hS => ?_)
      have he := bnd2_at he hF_12
      exact hret _ _ _ _ _ _ (hV.trans he.symm) hP hS dX6_cover_31
    · have he := ite_f he (fun q => q hc_10)
      refine lv_ldc (v := (-1000000001)) hx hb hown (hG _ gw_11_19) dX6_cover_17 ?_
      exact hret _ _ _ _ _ _ (hV.trans he.symm) hP hS dX6_cover_19
def rm_J6_compare_7cf53 : Room := { frames := 0, cells := 0, slots := 0, locals := 0 }
theorem gm_J6_compare_7cf53 : Cond.static yJ6_compare_7cf53 ∈ wsL_law ∧ Cond.initialized yJ6_compare_7cf53.cls ∈ wsL_law ∧ Cond.code yJ6_compare_7cf53 cJ6_compare_7cf53 2 (some .int) ∈ wsL_law := ⟨gw_36_2, gw_36_3, gw_36_4⟩
theorem gd_J6_compare_7cf53 : yJ6_compare_7cf53.cls ≠ "java/lang/invoke/MethodHandle" ∧ yJ6_compare_7cf53.cls ≠ "java/lang/invoke/VarHandle" ∧ (parseMethodDescriptor yJ6_compare_7cf53.desc).map (fun d => d.parameters.length) = some 2 := by decide +kernel
set_option maxRecDepth 100000 in
set_option maxHeartbeats 0 in
theorem c_J6_compare_7cf53 {l : Launch} {D : va_G} {k : Nat → ClassId} {ad : Nat → Nat} (had : InjN 74 ad) {M : Mem} (a1 : Int32) (a2 : Int32) : Met l yJ6_compare_7cf53 (Cond.code yJ6_compare_7cf53 cJ6_compare_7cf53 2 (some .int) :: wsL_law) rm_J6_compare_7cf53 (va_Pc [.int a1, .int a2] (GW 74 ad D k (cC ad k M))) (va_Qi (fun r u => f_J6_compare_7cf53 a1 a2 = r ∧ u = M) (fun u t => GW 74 ad D k (cC ad k u) t) (AW 74 ad)) 0 0 (AW 74 ad) := by
  refine met_i (g := cC ad k) (M := M) (by decide +kernel) (Nat.le_of_ble_eq_true rfl) ?_
  intro p e s m args below meth c Q ls hx hb hml hG hown hK hret hP hS hl
  have hl : lv_has ls 2 [(0, .int a1), (1, .int a2)] := hl
  obtain ⟨V, hV⟩ : ∃ V, f_J6_compare_7cf53 a1 a2 = V := ⟨_, rfl⟩
  have he := hV
  unfold f_J6_compare_7cf53 at he
  refine lv_iload_n hx hb dJ6_compare_7cf53_0 rfl (lv_at hl 0 rfl) ?_
  refine lv_iload_n hx hb dJ6_compare_7cf53_1 rfl (lv_at hl 1 rfl) ?_
  obtain ⟨t_4, hr_2, he⟩ := bnd_ex he
  have j19 : ∀ (H : Heap) (locs : List Loc) (ls : Array Slot), va_P D vwCl (wld 74 ad (cC ad k M)) H → va_S (AW 74 ad) s.heap H locs → lv_has ls 2 [] → W p l e rm_J6_compare_7cf53 s m args below meth c H locs 0 0 Q (F0 m 19 ls [.int t_4]) := by
    intro H locs ls hP hS hl
    exact hret _ _ _ _ _ _ ⟨hV.trans he.symm, rfl⟩ hP hS dJ6_compare_7cf53_19
  refine lv_icmp_ge (tgt := 9) hx hb dJ6_compare_7cf53_2 (by decide) (fun hc_1 => ?_) (fun hc_1 => ?_)
  · have hr_2 := ite_t hr_2 hc_1
    refine lv_iload_n hx hb dJ6_compare_7cf53_9 rfl (lv_at hl 0 rfl) ?_
    refine lv_iload_n hx hb dJ6_compare_7cf53_10 rfl (lv_at hl 1 rfl) ?_
    refine lv_icmp_ne (tgt := 18) hx hb dJ6_compare_7cf53_11 (by decide) (fun hc_3 => ?_) (fun hc_3 => ?_)
    · have hr_2 := ite_t hr_2 hc_3
      refine lv_iconst (v := 1) hx hb dJ6_compare_7cf53_18 (by decide) ?_
      cases hr_2
      exact j19 _ _ _ hP hS (lv_sub hl [] rfl)
    · have hr_2 := ite_f hr_2 (fun q => q hc_3)
      refine lv_iconst (v := 0) hx hb dJ6_compare_7cf53_14 (by decide) ?_
      refine lv_goto (tgt := 19) hx hb dJ6_compare_7cf53_15 (by decide) ?_
      cases hr_2
      exact j19 _ _ _ hP hS (lv_sub hl [] rfl)
  · have hr_2 := ite_f hr_2 hc_1
    refine lv_iconst (v := (-1)) hx hb dJ6_compare_7cf53_5 (by decide) ?_
    refine lv_goto (tgt := 19) hx hb dJ6_compare_7cf53_6 (by decide) ?_
    cases hr_2
    exact j19 _ _ _ hP hS (lv_sub hl [] rfl)
