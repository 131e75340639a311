-- @needs 12_dec 13_dec 14_dec 15_dec 31_hC 40_cC 41_cC
def rm_X6_fault : Room := { frames := 2, cells := 0, slots := 0, locals := 46 }
theorem gm_X6_fault : Cond.instanceMethod yX6_fault ∈ wsL_law ∧ Cond.selects RX6 yX6_fault yX6_fault ∈ wsL_law ∧ Cond.initialized RX6 ∈ wsL_law ∧ Cond.code yX6_fault cX6_fault 4 (some .int) ∈ wsL_law := ⟨gw_7_15, gw_7_16, gw_1_2, gw_7_17⟩
theorem gd_X6_fault : yX6_fault.cls = RX6 ∧ yX6_fault.cls ≠ "java/lang/invoke/MethodHandle" ∧ yX6_fault.cls ≠ "java/lang/invoke/VarHandle" ∧ (parseMethodDescriptor yX6_fault.desc).map (fun d => d.parameters.length) = some 1 := by decide +kernel
set_option maxRecDepth 100000 in
set_option maxHeartbeats 0 in
theorem c_X6_fault {l : Launch} {D : va_G} {k : Nat → ClassId} {ad : Nat → Nat} (had : InjN 68 ad) (M : Mem) (a1 : Int32) : Met l yX6_fault (Cond.code yX6_fault cX6_fault 4 (some .int) :: wsL_law) rm_X6_fault (va_Pc [.ref (ad 0), .int a1] (GW 68 ad D k (cC ad k M))) (va_Qi (fun r u => f_X6_fault M a1 = r ∧ u = M) (fun u t => GW 68 ad D k (cC ad k u) t) (AW 68 ad)) 0 0 (AW 68 ad) := by
  refine met_i (g := cC ad k) (M := M) (plainFor_of_name (by decide)) (Nat.le_of_ble_eq_true rfl) ?_
  intro p e s m args below meth c Q ls hx hb hml hG hown hK hret hP hS hl
  have hl : lv_has ls 4 [(0, .ref (ad 0)), (1, .int a1)] := hl
  obtain ⟨V, hV⟩ : ∃ V, f_X6_fault M a1 = V := ⟨_, rfl⟩
  have he := hV
  unfold f_X6_fault at he
  refine lv_aload_n hx hb dX6_fault_0 rfl (lv_at hl 0 rfl) ?_
  refine lv_iload_n hx hb dX6_fault_1 rfl (lv_at hl 1 rfl) ?_
  refine call_e [.int a1] [] hx hb hml hG hown hK (c_X6_shelfAt had M a1) gw_7_20 gm_X6_shelfAt gd_X6_shelfAt rfl rfl ⟨Nat.le_of_ble_eq_true rfl, Nat.le_of_ble_eq_true rfl⟩ ⟨Nat.le_refl _, Nat.le_refl _⟩ (rX6 hK hP rfl) hP (fun _ h => h) hS rfl hl.1 rfl (Nat.le_of_ble_eq_true rfl) dX6_fault_2 (fun r_1 u_3 H locs hF_2 hP hS => ?_)
  obtain ⟨hz_4, hF_2, hu⟩ := hF_2; rw [hu] at hP
  rcases r_1 with _ | b_5
  · have he := oel_n he hF_2
    refine lv_astore_nN (lv' := [(2, .null), (0, .ref (ad 0)), (1, .int a1)]) hx hb dX6_fault_5 rfl hl (by decide) rfl (fun ls hl => ?_)
    refine lv_aload_nN hx hb dX6_fault_6 rfl (lv_at hl 0 rfl) ?_
    refine lv_ifnonnullN hx hb dX6_fault_7 ?_
    refine lv_iconst (v := (-1)) hx hb dX6_fault_10 (by decide) ?_
    exact hret _ _ _ _ _ _ ⟨hV.trans he.symm, rfl⟩ hP hS dX6_fault_11
  · have he := oel_s he hF_2
    refine lv_astore_n (lv' := [(2, .ref (ad b_5)), (0, .ref (ad 0)), (1, .int a1)]) hx hb dX6_fault_5 rfl hl (by decide) rfl (fun ls hl => ?_)
    refine lv_aload_n hx hb dX6_fault_6 rfl (lv_at hl 0 rfl) ?_
    refine lv_ifnonnull (tgt := 12) hx hb dX6_fault_7 (by decide) ?_
    refine lv_aload_n hx hb dX6_fault_12 rfl (lv_at hl 0 rfl) ?_
    refine call_i [] [] hx hb hml hG hown hK (c_X5_textRefusal had M b_5 (hz_4 _ rfl)) gw_8_0 gm_X5_textRefusal gd_X5_textRefusal rfl rfl ⟨Nat.le_of_ble_eq_true rfl, Nat.le_of_ble_eq_true rfl⟩ ⟨Nat.le_refl _, Nat.le_refl _⟩ (rX5 hK hP (hz_4 _ rfl)) hP (fun _ h => h) hS rfl hl.1 rfl (Nat.le_of_ble_eq_true rfl) dX6_fault_13 (fun r_6 u_8 H locs hF_7 hP hS => ?_)
    obtain ⟨hF_7, hu⟩ := hF_7; rw [hu] at hP; subst hF_7
    refine lv_topi (fun y_9 ey_9 => ?_)
    have he := bnd_at he ey_9
    refine lv_istore_n (lv' := [(3, .int y_9), (2, .ref (ad b_5)), (0, .ref (ad 0)), (1, .int a1)]) hx hb dX6_fault_16 rfl hl (by decide) rfl (fun ls hl => ?_)
    refine lv_iload_n hx hb dX6_fault_17 rfl (lv_at hl 0 rfl) ?_
    obtain ⟨t_15, hr_11, he⟩ := bnd_ex he
    have j36 : ∀ (H : Heap) (locs : List Loc) (ls : Array Slot), va_P D vwCl (wld 68 ad (cC ad k M)) H → va_S (AW 68 ad) s.heap H locs → lv_has ls 4 [] → W p l e rm_X6_fault s m args below meth c H locs 0 0 Q (F0 m 36 ls [.int t_15]) := by
      intro H locs ls hP hS hl
      exact hret _ _ _ _ _ _ ⟨hV.trans he.symm, rfl⟩ hP hS dX6_fault_36
    refine lv_if_eq (tgt := 25) hx hb dX6_fault_18 (by decide) (fun hc_10 => ?_) (fun hc_10 => ?_)
    · have hr_11 := ite_t hr_11 hc_10
      refine lv_aload_n hx hb dX6_fault_25 rfl (lv_at hl 1 rfl) ?_
      refine gX5_4 hx hb hG hown hK hP (hz_4 _ rfl) gw_7_18 dX6_fault_26 ?_
      refine lv_aload_n hx hb dX6_fault_29 rfl (lv_at hl 1 rfl) ?_
      refine gX5_3 hx hb hG hown hK hP (hz_4 _ rfl) gw_7_19 dX6_fault_30 ?_
      refine callS_i [.ref (ad (b_5 + 16)), .int (M b_5 3)] [] hx hb hml hG hown hK (c_X2_faultIn had M (b_5 + 16) (kA_elm (kR_elm (hz_4 _ rfl))) (M b_5 3)) gw_8_9 gm_X2_faultIn gd_X2_faultIn rfl rfl ⟨Nat.le_of_ble_eq_true rfl, Nat.le_of_ble_eq_true rfl⟩ ⟨Nat.le_refl _, Nat.le_refl _⟩ hP (fun _ h => h) hS rfl hl.1 rfl (Nat.le_of_ble_eq_true rfl) dX6_fault_33 (fun r_12 u_14 H locs hF_13 hP hS => ?_)
      obtain ⟨hF_13, hu⟩ := hF_13; rw [hu] at hP; subst hF_13
      cases hr_11
      exact j36 _ _ _ hP hS (lv_sub hl [] rfl)
    · have hr_11 := ite_f hr_11 hc_10
      refine lv_iload_n hx hb dX6_fault_21 rfl (lv_at hl 0 rfl) ?_
      refine lv_goto (tgt := 36) hx hb dX6_fault_22 (by decide) ?_
      cases hr_11
      exact j36 _ _ _ hP hS (lv_sub hl [] rfl)
def rm_X2_take : Room := { frames := 1, cells := 0, slots := 0, locals := 40 }
theorem gm_X2_take : Cond.instanceMethod yX2_take ∈ wsL_law ∧ Cond.selects RX2 yX2_take yX2_take ∈ wsL_law ∧ Cond.initialized RX2 ∈ wsL_law ∧ Cond.code yX2_take cX2_take 3 none ∈ wsL_law := ⟨gw_10_7, gw_10_8, gw_2_14, gw_10_9⟩
theorem gd_X2_take : yX2_take.cls = RX2 ∧ yX2_take.cls ≠ "java/lang/invoke/MethodHandle" ∧ yX2_take.cls ≠ "java/lang/invoke/VarHandle" ∧ (parseMethodDescriptor yX2_take.desc).map (fun d => d.parameters.length) = some 2 := by decide +kernel
set_option maxRecDepth 100000 in
set_option maxHeartbeats 0 in
theorem c_X2_take {l : Launch} {D : va_G} {k : Nat → ClassId} {ad : Nat → Nat} (had : InjN 68 ad) (M : Mem) (o : Nat) (ho : kLaw o) (a1 : Nat) (ha1 : kA100 a1) (a2 : Int32) : Met l yX2_take (Cond.code yX2_take cX2_take 3 none :: wsL_law) rm_X2_take (va_Pc [.ref (ad o), .ref (ad a1), .int a2] (GW 68 ad D k (cC ad k M))) (va_Qv (fun u => f_X2_take M o a1 a2 = u) (fun u t => GW 68 ad D k (cC ad k u) t) (AW 68 ad)) 0 0 (AW 68 ad) := by
  refine met_v (g := cC ad k) (M := M) (plainFor_of_name (by decide)) (Nat.le_of_ble_eq_true rfl) ?_
  intro p e s m args below meth c Q ls hx hb hml hG hown hK hret hP hS hl
  have hl : lv_has ls 3 [(0, .ref (ad o)), (1, .ref (ad a1)), (2, .int a2)] := hl
  obtain ⟨V, hV⟩ : ∃ V, f_X2_take M o a1 a2 = V := ⟨_, rfl⟩
  have he := hV
  unfold f_X2_take at he
  refine lv_aload_n hx hb dX2_take_0 rfl (lv_at hl 0 rfl) ?_
  refine lv_iconst (v := 0) hx hb dX2_take_1 (by decide) ?_
  refine lv_iload_n hx hb dX2_take_2 rfl (lv_at hl 2 rfl) ?_
  refine lv_aload_n hx hb dX2_take_3 rfl (lv_at hl 1 rfl) ?_
  refine an_kA100 hx hb hK hP ha1 dX2_take_4 ?_
  refine lv_aload_n hx hb dX2_take_5 rfl (lv_at hl 0 rfl) ?_
  refine gX2_0 hx hb hG hown hK hP ho gw_2_21 dX2_take_6 ?_
  refine an_kTxt hx hb hK hP (kR_txt ho) dX2_take_9 ?_
  refine w_min hx hb hml hG hown gw_10_10 (Nat.le_of_ble_eq_true rfl) (Nat.le_of_ble_eq_true rfl) hl.1 ⟨Nat.le_refl _, Nat.le_refl _⟩ dX2_take_10 ?_
  refine w_min hx hb hml hG hown gw_10_10 (Nat.le_of_ble_eq_true rfl) (Nat.le_of_ble_eq_true rfl) hl.1 ⟨Nat.le_refl _, Nat.le_refl _⟩ dX2_take_13 ?_
  refine w_max hx hb hml hG hown gw_10_14 (Nat.le_of_ble_eq_true rfl) (Nat.le_of_ble_eq_true rfl) hl.1 ⟨Nat.le_refl _, Nat.le_refl _⟩ dX2_take_16 ?_
  refine pX2_1 hx hb hG hown hK hP had AW_in hS ho gw_10_17 dX2_take_19 (fun H locs hP hS => ?_)
  obtain ⟨M_1, eM_1⟩ : ∃ y : Mem, y = up2 M o 1 (mx 0 (mn a2 (mn 100 100))) := ⟨_, rfl⟩
  rw [← eM_1] at hP
  have he := bnd_at he eM_1
  refine lv_aload_n hx hb dX2_take_22 rfl (lv_at hl 1 rfl) ?_
  refine lv_iconst (v := 0) hx hb dX2_take_23 (by decide) ?_
  refine lv_aload_n hx hb dX2_take_24 rfl (lv_at hl 0 rfl) ?_
  refine gX2_0 hx hb hG hown hK hP ho gw_2_21 dX2_take_25 ?_
  refine lv_iconst (v := 0) hx hb dX2_take_28 (by decide) ?_
  refine lv_aload_n hx hb dX2_take_29 rfl (lv_at hl 0 rfl) ?_
  refine gX2_1 hx hb hG hown hK hP ho gw_10_17 dX2_take_30 ?_
  refine w_copy hx hb hml hG hown gw_10_18 hK hP had AW_in hS ha1 (kA_txt (kR_txt ho)) (by decide) (by decide) (by rw [eM_1, up2_s]; exact (take_ok _).1) (by rw [eM_1, up2_s]; have := (take_ok a2).2; show 0 + _ ≤ _; omega) (by rw [eM_1, up2_s]; have := (take_ok a2).2; show 0 + _ ≤ _; omega) (Nat.le_of_ble_eq_true rfl) (Nat.le_of_ble_eq_true rfl) hl.1 dX2_take_33 (fun H locs hP hS => ?_)
  obtain ⟨M_2, eM_2⟩ : ∃ y : Mem, y = cpM M_1 a1 (o + 6) 0 0 (M_1 o 1) := ⟨_, rfl⟩
  rw [← eM_2] at hP
  have he := bnd_at he eM_2
  exact hret _ _ _ _ _ (hV.trans he.symm) hP hS dX2_take_36
def rm_J7_fill_53178 : Room := { frames := 0, cells := 0, slots := 0, locals := 0 }
theorem gm_J7_fill_53178 : Cond.static yJ7_fill_53178 ∈ wsL_law ∧ Cond.initialized yJ7_fill_53178.cls ∈ wsL_law ∧ Cond.code yJ7_fill_53178 cJ7_fill_53178 4 none ∈ wsL_law := ⟨gw_2_23, gw_3_0, gw_3_1⟩
theorem gd_J7_fill_53178 : yJ7_fill_53178.cls ≠ "java/lang/invoke/MethodHandle" ∧ yJ7_fill_53178.cls ≠ "java/lang/invoke/VarHandle" ∧ (parseMethodDescriptor yJ7_fill_53178.desc).map (fun d => d.parameters.length) = some 2 := by decide +kernel
set_option maxRecDepth 100000 in
set_option maxHeartbeats 0 in
theorem c_J7_fill_53178 {l : Launch} {D : va_G} {k : Nat → ClassId} {ad : Nat → Nat} (had : InjN 68 ad) (M : Mem) (a1 : Nat) (ha1 : kIA a1) (a2 : Int32) : Met l yJ7_fill_53178 (Cond.code yJ7_fill_53178 cJ7_fill_53178 4 none :: wsL_law) rm_J7_fill_53178 (va_Pc [.ref (ad a1), .int a2] (GW 68 ad D k (cC ad k M))) (va_Qv (fun u => f_J7_fill_53178 M a1 a2 = u) (fun u t => GW 68 ad D k (cC ad k u) t) (AW 68 ad)) 0 0 (AW 68 ad) := by
  refine met_v (g := cC ad k) (M := M) (by decide +kernel) (Nat.le_of_ble_eq_true rfl) ?_
  intro p e s m args below meth c Q ls hx hb hml hG hown hK hret hP hS hl
  have hl : lv_has ls 4 [(0, .ref (ad a1)), (1, .int a2)] := hl
  obtain ⟨V, hV⟩ : ∃ V, f_J7_fill_53178 M a1 a2 = V := ⟨_, rfl⟩
  have he := hV
  unfold f_J7_fill_53178 at he
  refine lv_iconst (v := 0) hx hb dJ7_fill_53178_0 (by decide) ?_
  refine lv_istore_n (lv' := [(2, .int 0), (0, .ref (ad a1)), (1, .int a2)]) hx hb dJ7_fill_53178_1 rfl hl (by decide) rfl (fun ls hl => ?_)
  refine lv_aload_n hx hb dJ7_fill_53178_2 rfl (lv_at hl 1 rfl) ?_
  refine an_kIA hx hb hK hP ha1 dJ7_fill_53178_3 ?_
  refine lv_topi (fun y_1 ey_1 => ?_)
  have he := bnd_at he ey_1
  refine lv_istore_n (lv' := [(3, .int y_1), (2, .int 0), (0, .ref (ad a1)), (1, .int a2)]) hx hb dJ7_fill_53178_4 rfl hl (by decide) rfl (fun ls hl => ?_)
  obtain ⟨M_14, hr_10, he⟩ := bnd_ex he
  have j20 : ∀ (H : Heap) (locs : List Loc) (ls : Array Slot), va_P D vwCl (wld 68 ad (cC ad k M_14)) H → va_S (AW 68 ad) s.heap H locs → lv_has ls 4 [] → W p l e rm_J7_fill_53178 s m args below meth c H locs 0 0 Q (F0 m 20 ls []) := by
    intro H locs ls hP hS hl
    exact hret _ _ _ _ _ (hV.trans he.symm) hP hS dJ7_fill_53178_20
  have lp5 : ∀ (nn : Nat) (H : Heap) (locs : List Loc) (ls : Array Slot) (M_9 : Mem) (v_8 : Int32), (0 ≤ v_8.toInt) → (y_1.toInt - v_8.toInt).toNat < nn → lp_J7_fill_53178_5 nn a1 a2 y_1 M_9 v_8 = M_14 → va_P D vwCl (wld 68 ad (cC ad k M_9)) H → va_S (AW 68 ad) s.heap H locs → lv_has ls 4 [(0, .ref (ad a1)), (1, .int a2), (2, .int v_8), (3, .int y_1)] → W p l e rm_J7_fill_53178 s m args below meth c H locs 0 0 Q (F0 m 5 ls []) := by
    intro nn
    induction nn with
    | zero =>
      intro H locs ls M_9 v_8 h0v_8 hμ
      exact absurd hμ (Nat.not_lt_zero _)
    | succ nn ih =>
      intro H locs ls M_9 v_8 h0v_8 hμ hr_10 hP hS hl
      rw [lp_J7_fill_53178_5] at hr_10
      refine lv_iload_n hx hb dJ7_fill_53178_5 rfl (lv_at hl 2 rfl) ?_
      refine lv_iload_n hx hb dJ7_fill_53178_6 rfl (lv_at hl 3 rfl) ?_
      refine lv_icmp_ge (tgt := 20) hx hb dJ7_fill_53178_7 (by decide) (fun hc_11 => ?_) (fun hc_11 => ?_)
      · have hr_10 := ite_t hr_10 hc_11
        cases hr_10
        exact j20 _ _ _ hP hS (lv_sub hl [] rfl)
      · have hr_10 := ite_f hr_10 hc_11
        refine lv_aload_n hx hb dJ7_fill_53178_10 rfl (lv_at hl 0 rfl) ?_
        refine lv_iload_n hx hb dJ7_fill_53178_11 rfl (lv_at hl 2 rfl) ?_
        refine lv_iload_n hx hb dJ7_fill_53178_12 rfl (lv_at hl 1 rfl) ?_
        refine as_kIA hx hb hK hP had AW_in hS ha1 (vin_I (by omega) (by rw [← nI_toInt (show nIA a1 < 2 ^ 31 from Nat.lt_of_le_of_lt (nIA_le a1) (by decide))]; have := nle_I hc_11; rw [ey_1] at this; exact this)) dJ7_fill_53178_13 (fun H locs hP hS => ?_)
        obtain ⟨M_12, eM_12⟩ : ∃ y : Mem, y = up2 M_9 a1 v_8.toNatClampNeg a2 := ⟨_, rfl⟩
        rw [← eM_12] at hP
        have hr_10 := bnd_at hr_10 eM_12
        obtain ⟨y_13, ey_13⟩ : ∃ y_13 : Int32, y_13 = v_8 + 1 := ⟨_, rfl⟩
        have hr_10 := bnd_at hr_10 ey_13
        refine lv_iinc (v := y_13) (lv' := [(2, .int y_13), (0, .ref (ad a1)), (1, .int a2), (3, .int y_1)]) hx hb dJ7_fill_53178_14 hl (k := 2) rfl (by rw [ey_13]; rfl) (by decide) rfl (fun ls hl => ?_)
        refine lv_goto (tgt := 5) hx hb dJ7_fill_53178_17 (by decide) ?_
        exact ih _ _ _ _ _ (by rw [ey_13, inc_I (N := y_1.toInt) (nle_I hc_11) (Int32.toInt_le _)]; omega) (by rw [ey_13]; exact mu_I hμ (nle_I hc_11) (Int32.toInt_le _)) hr_10 hP hS (lv_sub hl [1, 2, 0, 3] rfl)
  exact lp5 _ _ _ _ _ _ (by decide) (Nat.lt_succ_self _) hr_10 hP hS (lv_sub hl [2, 3, 1, 0] rfl)
def rm_X0_tellLaw : Room := { frames := 2, cells := 0, slots := 0, locals := 62 }
theorem gm_X0_tellLaw : Cond.instanceMethod yX0_tellLaw ∈ wsL_law ∧ Cond.selects RX0 yX0_tellLaw yX0_tellLaw ∈ wsL_law ∧ Cond.initialized RX0 ∈ wsL_law ∧ Cond.code yX0_tellLaw cX0_tellLaw 3 none ∈ wsL_law := ⟨gw_10_3, gw_10_4, gw_1_15, gw_10_5⟩
theorem gd_X0_tellLaw : yX0_tellLaw.cls = RX0 ∧ yX0_tellLaw.cls ≠ "java/lang/invoke/MethodHandle" ∧ yX0_tellLaw.cls ≠ "java/lang/invoke/VarHandle" ∧ (parseMethodDescriptor yX0_tellLaw.desc).map (fun d => d.parameters.length) = some 2 := by decide +kernel
set_option maxRecDepth 100000 in
set_option maxHeartbeats 0 in
theorem c_X0_tellLaw {l : Launch} {D : va_G} {k : Nat → ClassId} {ad : Nat → Nat} (had : InjN 68 ad) (M : Mem) (o : Nat) (ho : kBay o) (a1 : Nat) (ha1 : kA100 a1) (a2 : Int32) : Met l yX0_tellLaw (Cond.code yX0_tellLaw cX0_tellLaw 3 none :: wsL_law) rm_X0_tellLaw (va_Pc [.ref (ad o), .ref (ad a1), .int a2] (GW 68 ad D k (cC ad k M))) (va_Qv (fun u => f_X0_tellLaw M o a1 a2 = u) (fun u t => GW 68 ad D k (cC ad k u) t) (AW 68 ad)) 0 0 (AW 68 ad) := by
  refine met_v (g := cC ad k) (M := M) (plainFor_of_name (by decide)) (Nat.le_of_ble_eq_true rfl) ?_
  intro p e s m args below meth c Q ls hx hb hml hG hown hK hret hP hS hl
  have hl : lv_has ls 3 [(0, .ref (ad o)), (1, .ref (ad a1)), (2, .int a2)] := hl
  obtain ⟨V, hV⟩ : ∃ V, f_X0_tellLaw M o a1 a2 = V := ⟨_, rfl⟩
  have he := hV
  unfold f_X0_tellLaw at he
  refine lv_aload_n hx hb dX0_tellLaw_0 rfl (lv_at hl 0 rfl) ?_
  refine gX0_5 hx hb hG hown hK hP ho gw_2_15 dX0_tellLaw_1 ?_
  refine lv_aload_n hx hb dX0_tellLaw_4 rfl (lv_at hl 1 rfl) ?_
  refine lv_iload_n hx hb dX0_tellLaw_5 rfl (lv_at hl 2 rfl) ?_
  refine call_v [.ref (ad a1), .int a2] [] hx hb hml hG hown hK (c_X2_take had M (o + 3) (kR_law ho) a1 ha1 a2) gw_10_6 gm_X2_take gd_X2_take rfl rfl ⟨Nat.le_of_ble_eq_true rfl, Nat.le_of_ble_eq_true rfl⟩ ⟨Nat.le_refl _, Nat.le_refl _⟩ (rX2 hK hP (kR_law ho)) hP (fun _ h => h) hS rfl hl.1 rfl (Nat.le_of_ble_eq_true rfl) dX0_tellLaw_6 (fun M_3 H locs hF_2 hP hS => ?_)
  have he := bnd_at he hF_2.symm
  refine lv_aload_n hx hb dX0_tellLaw_9 rfl (lv_at hl 0 rfl) ?_
  refine gX0_6 hx hb hG hown hK hP ho gw_2_17 dX0_tellLaw_10 ?_
  refine lv_bipush (v := 100) hx hb dX0_tellLaw_13 (by decide) ?_
  refine callS_v [.ref (ad (o + 6)), .int 100] [] hx hb hml hG hown hK (c_J7_fill_53178 had M_3 (o + 6) (kI_win (kR_win ho)) 100) gw_2_22 gm_J7_fill_53178 gd_J7_fill_53178 rfl rfl ⟨Nat.le_of_ble_eq_true rfl, Nat.le_of_ble_eq_true rfl⟩ ⟨Nat.le_refl _, Nat.le_refl _⟩ hP (fun _ h => h) hS rfl hl.1 rfl (Nat.le_of_ble_eq_true rfl) dX0_tellLaw_15 (fun M_6 H locs hF_5 hP hS => ?_)
  have he := bnd_at he hF_5.symm
  exact hret _ _ _ _ _ (hV.trans he.symm) hP hS dX0_tellLaw_18
def rm_X6_law : Room := { frames := 3, cells := 0, slots := 0, locals := 84 }
theorem gm_X6_law : Cond.instanceMethod yX6_law ∈ wsL_law ∧ Cond.selects RX6 yX6_law yX6_law ∈ wsL_law ∧ Cond.initialized RX6 ∈ wsL_law ∧ Cond.code yX6_law cX6_law 5 (some .int) ∈ wsL_law := ⟨gw_9_23, gw_10_0, gw_1_2, gw_10_1⟩
theorem gd_X6_law : yX6_law.cls = RX6 ∧ yX6_law.cls ≠ "java/lang/invoke/MethodHandle" ∧ yX6_law.cls ≠ "java/lang/invoke/VarHandle" ∧ (parseMethodDescriptor yX6_law.desc).map (fun d => d.parameters.length) = some 1 := by decide +kernel
set_option maxRecDepth 100000 in
set_option maxHeartbeats 0 in
theorem c_X6_law {l : Launch} {D : va_G} {k : Nat → ClassId} {ad : Nat → Nat} (had : InjN 68 ad) (M : Mem) (a1 : Int32) : Met l yX6_law (Cond.code yX6_law cX6_law 5 (some .int) :: wsL_law) rm_X6_law (va_Pc [.ref (ad 0), .int a1] (GW 68 ad D k (cC ad k M))) (va_Qi (fun r u => f_X6_law M a1 = (r, u)) (fun u t => GW 68 ad D k (cC ad k u) t) (AW 68 ad)) 0 0 (AW 68 ad) := by
  refine met_i (g := cC ad k) (M := M) (plainFor_of_name (by decide)) (Nat.le_of_ble_eq_true rfl) ?_
  intro p e s m args below meth c Q ls hx hb hml hG hown hK hret hP hS hl
  have hl : lv_has ls 5 [(0, .ref (ad 0)), (1, .int a1)] := hl
  obtain ⟨V, hV⟩ : ∃ V, f_X6_law M a1 = V := ⟨_, rfl⟩
  have he := hV
  unfold f_X6_law at he
  refine lv_aload_n hx hb dX6_law_0 rfl (lv_at hl 0 rfl) ?_
  refine lv_iload_n hx hb dX6_law_1 rfl (lv_at hl 1 rfl) ?_
  refine call_e [.int a1] [] hx hb hml hG hown hK (c_X6_shelfAt had M a1) gw_7_20 gm_X6_shelfAt gd_X6_shelfAt rfl rfl ⟨Nat.le_of_ble_eq_true rfl, Nat.le_of_ble_eq_true rfl⟩ ⟨Nat.le_refl _, Nat.le_refl _⟩ (rX6 hK hP rfl) hP (fun _ h => h) hS rfl hl.1 rfl (Nat.le_of_ble_eq_true rfl) dX6_law_2 (fun r_1 u_3 H locs hF_2 hP hS => ?_)
  obtain ⟨hz_4, hF_2, hu⟩ := hF_2; rw [hu] at hP
  rcases r_1 with _ | b_5
  · have he := oel_n he hF_2
    refine lv_astore_nN (lv' := [(2, .null), (0, .ref (ad 0)), (1, .int a1)]) hx hb dX6_law_5 rfl hl (by decide) rfl (fun ls hl => ?_)
    refine lv_aload_nN hx hb dX6_law_6 rfl (lv_at hl 0 rfl) ?_
    refine lv_ifnonnullN hx hb dX6_law_7 ?_
    refine lv_iconst (v := (-1)) hx hb dX6_law_10 (by decide) ?_
    exact hret _ _ _ _ _ _ (hV.trans he.symm) hP hS dX6_law_11
  · have he := oel_s he hF_2
    refine lv_astore_n (lv' := [(2, .ref (ad b_5)), (0, .ref (ad 0)), (1, .int a1)]) hx hb dX6_law_5 rfl hl (by decide) rfl (fun ls hl => ?_)
    refine lv_aload_n hx hb dX6_law_6 rfl (lv_at hl 0 rfl) ?_
    refine lv_ifnonnull (tgt := 12) hx hb dX6_law_7 (by decide) ?_
    refine lv_aload_n hx hb dX6_law_12 rfl (lv_at hl 0 rfl) ?_
    refine call_i [] [] hx hb hml hG hown hK (c_X5_textRefusal had M b_5 (hz_4 _ rfl)) gw_8_0 gm_X5_textRefusal gd_X5_textRefusal rfl rfl ⟨Nat.le_of_ble_eq_true rfl, Nat.le_of_ble_eq_true rfl⟩ ⟨Nat.le_refl _, Nat.le_refl _⟩ (rX5 hK hP (hz_4 _ rfl)) hP (fun _ h => h) hS rfl hl.1 rfl (Nat.le_of_ble_eq_true rfl) dX6_law_13 (fun r_6 u_8 H locs hF_7 hP hS => ?_)
    obtain ⟨hF_7, hu⟩ := hF_7; rw [hu] at hP; subst hF_7
    refine lv_topi (fun y_9 ey_9 => ?_)
    have he := bnd_at he ey_9
    refine lv_istore_n (lv' := [(3, .int y_9), (2, .ref (ad b_5)), (0, .ref (ad 0)), (1, .int a1)]) hx hb dX6_law_16 rfl hl (by decide) rfl (fun ls hl => ?_)
    refine lv_iload_n hx hb dX6_law_17 rfl (lv_at hl 0 rfl) ?_
    refine lv_if_eq (tgt := 23) hx hb dX6_law_18 (by decide) (fun hc_10 => ?_) (fun hc_10 => ?_)
    · have he := ite_t he hc_10
      refine lv_aload_n hx hb dX6_law_23 rfl (lv_at hl 1 rfl) ?_
      refine gX5_4 hx hb hG hown hK hP (hz_4 _ rfl) gw_7_18 dX6_law_24 ?_
      refine lv_aload_n hx hb dX6_law_27 rfl (lv_at hl 1 rfl) ?_
      refine gX5_3 hx hb hG hown hK hP (hz_4 _ rfl) gw_7_19 dX6_law_28 ?_
      refine callS_i [.ref (ad (b_5 + 16)), .int (M b_5 3)] [] hx hb hml hG hown hK (c_X2_faultIn had M (b_5 + 16) (kA_elm (kR_elm (hz_4 _ rfl))) (M b_5 3)) gw_8_9 gm_X2_faultIn gd_X2_faultIn rfl rfl ⟨Nat.le_of_ble_eq_true rfl, Nat.le_of_ble_eq_true rfl⟩ ⟨Nat.le_refl _, Nat.le_refl _⟩ hP (fun _ h => h) hS rfl hl.1 rfl (Nat.le_of_ble_eq_true rfl) dX6_law_31 (fun r_11 u_13 H locs hF_12 hP hS => ?_)
      obtain ⟨hF_12, hu⟩ := hF_12; rw [hu] at hP; subst hF_12
      refine lv_topi (fun y_14 ey_14 => ?_)
      have he := bnd_at he ey_14
      refine lv_istore (lv' := [(4, .int y_14), (3, .int y_9), (2, .ref (ad b_5)), (0, .ref (ad 0)), (1, .int a1)]) hx hb dX6_law_34 hl (by decide) rfl (fun ls hl => ?_)
      refine lv_iload hx hb dX6_law_36 (lv_at hl 0 rfl) ?_
      refine lv_bipush (v := (-4)) hx hb dX6_law_38 (by decide) ?_
      refine lv_icmp_eq (tgt := 49) hx hb dX6_law_40 (by decide) (fun hc_15 => ?_) (fun hc_15 => ?_)
      · have he := ite_t he hc_15
        refine lv_aload_n hx hb dX6_law_49 rfl (lv_at hl 3 rfl) ?_
        refine gX6_0 hx hb hG hown hK hP rfl gw_1_16 dX6_law_50 ?_
        refine lv_aload_n hx hb dX6_law_53 rfl (lv_at hl 2 rfl) ?_
        refine gX5_4 hx hb hG hown hK hP (hz_4 _ rfl) gw_7_18 dX6_law_54 ?_
        refine lv_aload_n hx hb dX6_law_57 rfl (lv_at hl 2 rfl) ?_
        refine gX5_3 hx hb hG hown hK hP (hz_4 _ rfl) gw_7_19 dX6_law_58 ?_
        refine call_v [.ref (ad (b_5 + 16)), .int (M b_5 3)] [] hx hb hml hG hown hK (c_X0_tellLaw had M 1 (by decide) (b_5 + 16) (kA_elm (kR_elm (hz_4 _ rfl))) (M b_5 3)) gw_10_2 gm_X0_tellLaw gd_X0_tellLaw rfl rfl ⟨Nat.le_of_ble_eq_true rfl, Nat.le_of_ble_eq_true rfl⟩ ⟨Nat.le_refl _, Nat.le_refl _⟩ (rX0 hK hP (by decide)) hP (fun _ h => h) hS rfl hl.1 rfl (Nat.le_of_ble_eq_true rfl) dX6_law_61 (fun M_18 H locs hF_17 hP hS => ?_)
        have he := bnd_at he hF_17.symm
        refine lv_iconst (v := 1) hx hb dX6_law_64 (by decide) ?_
        exact hret _ _ _ _ _ _ (hV.trans he.symm) hP hS dX6_law_65
      · have he := ite_f he hc_15
        refine lv_bipush (v := (-100)) hx hb dX6_law_43 (by decide) ?_
        refine lv_iload hx hb dX6_law_45 (lv_at hl 0 rfl) ?_
        refine lv_isub hx hb dX6_law_47 ?_
        exact hret _ _ _ _ _ _ (hV.trans he.symm) hP hS dX6_law_48
    · have he := ite_f he hc_10
      refine lv_iload_n hx hb dX6_law_21 rfl (lv_at hl 0 rfl) ?_
      exact hret _ _ _ _ _ _ (hV.trans he.symm) hP hS dX6_law_22
def rm_X2_next : Room := { frames := 0, cells := 0, slots := 0, locals := 0 }
theorem gm_X2_next : Cond.instanceMethod yX2_next ∈ wsL_law ∧ Cond.selects RX2 yX2_next yX2_next ∈ wsL_law ∧ Cond.initialized RX2 ∈ wsL_law ∧ Cond.code yX2_next cX2_next 1 (some .int) ∈ wsL_law := ⟨gw_12_6, gw_12_7, gw_2_14, gw_12_8⟩
theorem gd_X2_next : yX2_next.cls = RX2 ∧ yX2_next.cls ≠ "java/lang/invoke/MethodHandle" ∧ yX2_next.cls ≠ "java/lang/invoke/VarHandle" ∧ (parseMethodDescriptor yX2_next.desc).map (fun d => d.parameters.length) = some 0 := by decide +kernel
set_option maxRecDepth 100000 in
set_option maxHeartbeats 0 in
theorem c_X2_next {l : Launch} {D : va_G} {k : Nat → ClassId} {ad : Nat → Nat} (had : InjN 68 ad) (M : Mem) (o : Nat) (ho : kLaw o) : Met l yX2_next (Cond.code yX2_next cX2_next 1 (some .int) :: wsL_law) rm_X2_next (va_Pc [.ref (ad o)] (GW 68 ad D k (cC ad k M))) (va_Qi (fun r u => f_X2_next M o = r ∧ u = M) (fun u t => GW 68 ad D k (cC ad k u) t) (AW 68 ad)) 0 0 (AW 68 ad) := by
  refine met_i (g := cC ad k) (M := M) (plainFor_of_name (by decide)) (Nat.le_of_ble_eq_true rfl) ?_
  intro p e s m args below meth c Q ls hx hb hml hG hown hK hret hP hS hl
  have hl : lv_has ls 1 [(0, .ref (ad o))] := hl
  obtain ⟨V, hV⟩ : ∃ V, f_X2_next M o = V := ⟨_, rfl⟩
  have he := hV
  unfold f_X2_next at he
  refine lv_aload_n hx hb dX2_next_0 rfl (lv_at hl 0 rfl) ?_
  refine gX2_2 hx hb hG hown hK hP ho gw_11_19 dX2_next_1 ?_
  obtain ⟨t_5, hr_2, he⟩ := bnd_ex he
  have j43 : ∀ (H : Heap) (locs : List Loc) (ls : Array Slot), va_P D vwCl (wld 68 ad (cC ad k M)) H → va_S (AW 68 ad) s.heap H locs → lv_has ls 1 [] → W p l e rm_X2_next s m args below meth c H locs 0 0 Q (F0 m 43 ls [.int t_5]) := by
    intro H locs ls hP hS hl
    exact hret _ _ _ _ _ _ ⟨hV.trans he.symm, rfl⟩ hP hS dX2_next_43
  refine lv_if_lt (tgt := 42) hx hb dX2_next_4 (by decide) (fun hc_1 => ?_) (fun hc_1 => ?_)
  · have hr_2 := ite_t hr_2 hc_1
    refine lv_iconst (v := 0) hx hb dX2_next_42 (by decide) ?_
    cases hr_2
    exact j43 _ _ _ hP hS (lv_sub hl [] rfl)
  · have hr_2 := ite_f hr_2 hc_1
    refine lv_aload_n hx hb dX2_next_7 rfl (lv_at hl 0 rfl) ?_
    refine gX2_2 hx hb hG hown hK hP ho gw_11_19 dX2_next_8 ?_
    refine lv_aload_n hx hb dX2_next_11 rfl (lv_at hl 0 rfl) ?_
    refine gX2_1 hx hb hG hown hK hP ho gw_10_17 dX2_next_12 ?_
    refine lv_icmp_ge (tgt := 42) hx hb dX2_next_15 (by decide) (fun hc_3 => ?_) (fun hc_3 => ?_)
    · have hr_2 := ite_t hr_2 hc_3
      refine lv_iconst (v := 0) hx hb dX2_next_42 (by decide) ?_
      cases hr_2
      exact j43 _ _ _ hP hS (lv_sub hl [] rfl)
    · have hr_2 := ite_f hr_2 hc_3
      refine lv_aload_n hx hb dX2_next_18 rfl (lv_at hl 0 rfl) ?_
      refine gX2_2 hx hb hG hown hK hP ho gw_11_19 dX2_next_19 ?_
      refine lv_aload_n hx hb dX2_next_22 rfl (lv_at hl 0 rfl) ?_
      refine gX2_0 hx hb hG hown hK hP ho gw_2_21 dX2_next_23 ?_
      refine an_kTxt hx hb hK hP (kR_txt ho) dX2_next_26 ?_
      refine lv_icmp_ge (tgt := 42) hx hb dX2_next_27 (by decide) (fun hc_4 => ?_) (fun hc_4 => ?_)
      · have hr_2 := ite_t hr_2 hc_4
        refine lv_iconst (v := 0) hx hb dX2_next_42 (by decide) ?_
        cases hr_2
        exact j43 _ _ _ hP hS (lv_sub hl [] rfl)
      · have hr_2 := ite_f hr_2 hc_4
        refine lv_aload_n hx hb dX2_next_30 rfl (lv_at hl 0 rfl) ?_
        refine gX2_0 hx hb hG hown hK hP ho gw_2_21 dX2_next_31 ?_
        refine lv_aload_n hx hb dX2_next_34 rfl (lv_at hl 0 rfl) ?_
        refine gX2_2 hx hb hG hown hK hP ho gw_11_19 dX2_next_35 ?_
        refine al_kTxt hx hb hK hP (kR_txt ho) (vin_I (by have q0 : 0 ≤ (M o 2).toInt := nlt_I hc_1; have q1 : (M o 2).toInt < (M o 1).toInt := nle_I hc_3; have q2 : (M o 2).toInt < 100 := nle_I hc_4; omega) (by have q0 : 0 ≤ (M o 2).toInt := nlt_I hc_1; have q1 : (M o 2).toInt < (M o 1).toInt := nle_I hc_3; have q2 : (M o 2).toInt < 100 := nle_I hc_4; omega)) dX2_next_38 ?_
        refine lv_goto (tgt := 43) hx hb dX2_next_39 (by decide) ?_
        cases hr_2
        exact j43 _ _ _ hP hS (lv_sub hl [] rfl)
def rm_X2_wholeNumber : Room := { frames := 1, cells := 0, slots := 0, locals := 20 }
theorem gm_X2_wholeNumber : Cond.instanceMethod yX2_wholeNumber ∈ wsL_law ∧ Cond.selects RX2 yX2_wholeNumber yX2_wholeNumber ∈ wsL_law ∧ Cond.initialized RX2 ∈ wsL_law ∧ Cond.code yX2_wholeNumber cX2_wholeNumber 2 (some .int) ∈ wsL_law := ⟨gw_12_11, gw_12_12, gw_2_14, gw_12_13⟩
theorem gd_X2_wholeNumber : yX2_wholeNumber.cls = RX2 ∧ yX2_wholeNumber.cls ≠ "java/lang/invoke/MethodHandle" ∧ yX2_wholeNumber.cls ≠ "java/lang/invoke/VarHandle" ∧ (parseMethodDescriptor yX2_wholeNumber.desc).map (fun d => d.parameters.length) = some 0 := by decide +kernel
set_option maxRecDepth 100000 in
set_option maxHeartbeats 0 in
theorem c_X2_wholeNumber {l : Launch} {D : va_G} {k : Nat → ClassId} {ad : Nat → Nat} (had : InjN 68 ad) (M : Mem) (o : Nat) (ho : kLaw o) : Met l yX2_wholeNumber (Cond.code yX2_wholeNumber cX2_wholeNumber 2 (some .int) :: wsL_law) rm_X2_wholeNumber (va_Pc [.ref (ad o)] (GW 68 ad D k (cC ad k M))) (va_Qi (fun r u => f_X2_wholeNumber M o = (r, u)) (fun u t => GW 68 ad D k (cC ad k u) t) (AW 68 ad)) 0 0 (AW 68 ad) := by
  refine met_i (g := cC ad k) (M := M) (plainFor_of_name (by decide)) (Nat.le_of_ble_eq_true rfl) ?_
  intro p e s m args below meth c Q ls hx hb hml hG hown hK hret hP hS hl
  have hl : lv_has ls 2 [(0, .ref (ad o))] := hl
  obtain ⟨V, hV⟩ : ∃ V, f_X2_wholeNumber M o = V := ⟨_, rfl⟩
  have he := hV
  unfold f_X2_wholeNumber at he
  refine lv_iconst (v := 0) hx hb dX2_wholeNumber_0 (by decide) ?_
  refine lv_istore_n (lv' := [(1, .int 0), (0, .ref (ad o))]) hx hb dX2_wholeNumber_1 rfl hl (by decide) rfl (fun ls hl => ?_)
  obtain ⟨w_35, M_36, hr_20, he⟩ := bnd2_ex he
  have j49 : ∀ (H : Heap) (locs : List Loc) (ls : Array Slot), va_P D vwCl (wld 68 ad (cC ad k M_36)) H → va_S (AW 68 ad) s.heap H locs → lv_has ls 2 [(1, .int w_35)] → W p l e rm_X2_wholeNumber s m args below meth c H locs 0 0 Q (F0 m 49 ls []) := by
    intro H locs ls hP hS hl
    refine lv_iload_n hx hb dX2_wholeNumber_49 rfl (lv_at hl 0 rfl) ?_
    exact hret _ _ _ _ _ _ (hV.trans he.symm) hP hS dX2_wholeNumber_50
  have lp2 : ∀ (nn : Nat) (H : Heap) (locs : List Loc) (ls : Array Slot) (M_19 : Mem) (v_18 : Int32), (100 - (M_19 o 2).toInt).toNat < nn → lp_X2_wholeNumber_2 nn o M_19 v_18 = (w_35, M_36) → va_P D vwCl (wld 68 ad (cC ad k M_19)) H → va_S (AW 68 ad) s.heap H locs → lv_has ls 2 [(0, .ref (ad o)), (1, .int v_18)] → W p l e rm_X2_wholeNumber s m args below meth c H locs 0 0 Q (F0 m 2 ls []) := by
    intro nn
    induction nn with
    | zero =>
      intro H locs ls M_19 v_18 hμ
      exact absurd hμ (Nat.not_lt_zero _)
    | succ nn ih =>
      intro H locs ls M_19 v_18 hμ hr_20 hP hS hl
      rw [lp_X2_wholeNumber_2] at hr_20
      refine lv_aload_n hx hb dX2_wholeNumber_2 rfl (lv_at hl 0 rfl) ?_
      refine gX2_2 hx hb hG hown hK hP ho gw_11_19 dX2_wholeNumber_3 ?_
      refine lv_aload_n hx hb dX2_wholeNumber_6 rfl (lv_at hl 0 rfl) ?_
      refine gX2_1 hx hb hG hown hK hP ho gw_10_17 dX2_wholeNumber_7 ?_
      refine lv_icmp_ge (tgt := 49) hx hb dX2_wholeNumber_10 (by decide) (fun hc_21 => ?_) (fun hc_21 => ?_)
      · have hr_20 := ite_t hr_20 hc_21
        cases hr_20
        exact j49 _ _ _ hP hS (lv_sub hl [1] rfl)
      · have hr_20 := ite_f hr_20 hc_21
        refine lv_aload_n hx hb dX2_wholeNumber_13 rfl (lv_at hl 0 rfl) ?_
        refine call_i [] [] hx hb hml hG hown hK (c_X2_next had M_19 o ho) gw_12_5 gm_X2_next gd_X2_next rfl rfl ⟨Nat.le_of_ble_eq_true rfl, Nat.le_of_ble_eq_true rfl⟩ ⟨Nat.le_refl _, Nat.le_refl _⟩ (rX2 hK hP ho) hP (fun _ h => h) hS rfl hl.1 rfl (Nat.le_of_ble_eq_true rfl) dX2_wholeNumber_14 (fun r_22 u_24 H locs hF_23 hP hS => ?_)
        obtain ⟨hF_23, hu⟩ := hF_23; rw [hu] at hP; subst hF_23
        refine callS_i [.int (f_X2_next M_19 o)] [] hx hb hml hG hown hK (c_X2_isDigit had (M := M_19)  (f_X2_next M_19 o)) gw_8_12 gm_X2_isDigit gd_X2_isDigit rfl rfl ⟨Nat.le_of_ble_eq_true rfl, Nat.le_of_ble_eq_true rfl⟩ ⟨Nat.le_refl _, Nat.le_refl _⟩ hP (fun _ h => h) hS rfl hl.1 rfl (Nat.le_of_ble_eq_true rfl) dX2_wholeNumber_17 (fun r_25 u_27 H locs hF_26 hP hS => ?_)
        obtain ⟨hz_28, hF_26, hu⟩ := hF_26; rw [hu] at hP; subst hF_26
        refine lv_if_eq (tgt := 49) hx hb dX2_wholeNumber_20 (by decide) (fun hc_29 => ?_) (fun hc_29 => ?_)
        · have hr_20 := ite_t hr_20 hc_29
          cases hr_20
          exact j49 _ _ _ hP hS (lv_sub hl [1] rfl)
        · have hr_20 := ite_f hr_20 hc_29
          refine lv_iload_n hx hb dX2_wholeNumber_23 rfl (lv_at hl 1 rfl) ?_
          refine lv_bipush (v := 10) hx hb dX2_wholeNumber_24 (by decide) ?_
          refine lv_imul hx hb dX2_wholeNumber_26 ?_
          refine lv_aload_n hx hb dX2_wholeNumber_27 rfl (lv_at hl 0 rfl) ?_
          refine call_i [] [.int (v_18 * 10)] hx hb hml hG hown hK (c_X2_next had M_19 o ho) gw_12_5 gm_X2_next gd_X2_next rfl rfl ⟨Nat.le_of_ble_eq_true rfl, Nat.le_of_ble_eq_true rfl⟩ ⟨Nat.le_refl _, Nat.le_refl _⟩ (rX2 hK hP ho) hP (fun _ h => h) hS rfl hl.1 rfl (Nat.le_of_ble_eq_true rfl) dX2_wholeNumber_28 (fun r_30 u_32 H locs hF_31 hP hS => ?_)
          obtain ⟨hF_31, hu⟩ := hF_31; rw [hu] at hP; subst hF_31
          refine lv_iadd hx hb dX2_wholeNumber_31 ?_
          refine lv_bipush (v := 48) hx hb dX2_wholeNumber_32 (by decide) ?_
          refine lv_isub hx hb dX2_wholeNumber_34 ?_
          refine lv_topi (fun y_33 ey_33 => ?_)
          have hr_20 := bnd_at hr_20 ey_33
          refine lv_istore_n (lv' := [(1, .int y_33), (0, .ref (ad o))]) hx hb dX2_wholeNumber_35 rfl hl (by decide) rfl (fun ls hl => ?_)
          refine lv_aload_n hx hb dX2_wholeNumber_36 rfl (lv_at hl 1 rfl) ?_
          refine lv_dup hx hb dX2_wholeNumber_37 rfl ?_
          refine gX2_2 hx hb hG hown hK hP ho gw_11_19 dX2_wholeNumber_38 ?_
          refine lv_iconst (v := 1) hx hb dX2_wholeNumber_41 (by decide) ?_
          refine lv_iadd hx hb dX2_wholeNumber_42 ?_
          refine pX2_2 hx hb hG hown hK hP had AW_in hS ho gw_11_19 dX2_wholeNumber_43 (fun H locs hP hS => ?_)
          obtain ⟨M_34, eM_34⟩ : ∃ y : Mem, y = up2 M_19 o 2 ((M_19 o 2) + 1) := ⟨_, rfl⟩
          rw [← eM_34] at hP
          have hr_20 := bnd_at hr_20 eM_34
          refine lv_goto (tgt := 2) hx hb dX2_wholeNumber_46 (by decide) ?_
          exact ih _ _ _ _ _ (by rw [eM_34, up2_s]; have qd := digit_lt hc_29; rw [inc_I qd.2 (by decide)]; omega) hr_20 hP hS (lv_sub hl [1, 0] rfl)
  exact lp2 _ _ _ _ _ _ (Nat.lt_succ_self _) hr_20 hP hS (lv_sub hl [1, 0] rfl)
def rm_X2_atom (n : Nat) : Room := { frames := 3 * n + 3, cells := 0, slots := 0, locals := 100 * n + 130 }
theorem gm_X2_atom : Cond.instanceMethod yX2_atom ∈ wsL_law ∧ Cond.selects RX2 yX2_atom yX2_atom ∈ wsL_law ∧ Cond.initialized RX2 ∈ wsL_law ∧ Cond.code yX2_atom cX2_atom 4 (some .int) ∈ wsL_law := ⟨gw_12_16, gw_12_17, gw_2_14, gw_12_9⟩
theorem gd_X2_atom : yX2_atom.cls = RX2 ∧ yX2_atom.cls ≠ "java/lang/invoke/MethodHandle" ∧ yX2_atom.cls ≠ "java/lang/invoke/VarHandle" ∧ (parseMethodDescriptor yX2_atom.desc).map (fun d => d.parameters.length) = some 1 := by decide +kernel
set_option maxRecDepth 100000 in
set_option maxHeartbeats 0 in
theorem c_X2_atom {l : Launch} {D : va_G} {k : Nat → ClassId} {ad : Nat → Nat} (had : InjN 68 ad) {n : Nat} {fs : (Mem → Nat → Int32 → Int32 × Mem)} (hn : n ≤ 7) (hfs : FSok fs n) (hs : CS l D k ad fs n) (M : Mem) (o : Nat) (ho : kLaw o) (a1 : Int32) (hd : 7 ≤ a1.toInt + ((n : Nat) : Int) + 1) (h6 : a1.toInt ≤ 6) (hlb : 0 ≤ (M o 2).toInt ∧ (M o 2).toInt ≤ 600) : Met l yX2_atom (Cond.code yX2_atom cX2_atom 4 (some .int) :: wsL_law) (rm_X2_atom n) (va_Pc [.ref (ad o), .int a1] (GW 68 ad D k (cC ad k M))) (va_Qi (fun r u => f_X2_atom fs M o a1 = (r, u)) (fun u t => GW 68 ad D k (cC ad k u) t) (AW 68 ad)) 0 0 (AW 68 ad) := by
  refine met_i (g := cC ad k) (M := M) (plainFor_of_name (by decide)) (Nat.le_of_ble_eq_true rfl) ?_
  intro p e s m args below meth c Q ls hx hb hml hG hown hK hret hP hS hl
  have hl : lv_has ls 4 [(0, .ref (ad o)), (1, .int a1)] := hl
  obtain ⟨V, hV⟩ : ∃ V, f_X2_atom fs M o a1 = V := ⟨_, rfl⟩
  have he := hV
  unfold f_X2_atom at he
  refine lv_aload_n hx hb dX2_atom_0 rfl (lv_at hl 0 rfl) ?_
  refine call_i [] [] hx hb hml hG hown hK (c_X2_next had M o ho) gw_12_5 gm_X2_next gd_X2_next rfl rfl ⟨by simp only [rm_X2_atom, rm_X2_next]; omega, by simp only [rm_X2_atom, rm_X2_next]; omega⟩ ⟨Nat.le_refl _, Nat.le_refl _⟩ (rX2 hK hP ho) hP (fun _ h => h) hS rfl hl.1 rfl (Nat.le_of_ble_eq_true rfl) dX2_atom_1 (fun r_1 u_3 H locs hF_2 hP hS => ?_)
  obtain ⟨hF_2, hu⟩ := hF_2; rw [hu] at hP; subst hF_2
  refine lv_topi (fun y_4 ey_4 => ?_)
  have he := bnd_at he ey_4
  refine lv_istore_n (lv' := [(2, .int y_4), (0, .ref (ad o)), (1, .int a1)]) hx hb dX2_atom_4 rfl hl (by decide) rfl (fun ls hl => ?_)
  refine lv_iload_n hx hb dX2_atom_5 rfl (lv_at hl 0 rfl) ?_
  refine callS_i [.int y_4] [] hx hb hml hG hown hK (c_X2_isDigit had (M := M)  y_4) gw_8_12 gm_X2_isDigit gd_X2_isDigit rfl rfl ⟨by simp only [rm_X2_atom, rm_X2_isDigit]; omega, by simp only [rm_X2_atom, rm_X2_isDigit]; omega⟩ ⟨Nat.le_refl _, Nat.le_refl _⟩ hP (fun _ h => h) hS rfl hl.1 rfl (Nat.le_of_ble_eq_true rfl) dX2_atom_6 (fun r_5 u_7 H locs hF_6 hP hS => ?_)
  obtain ⟨hz_8, hF_6, hu⟩ := hF_6; rw [hu] at hP; subst hF_6
  refine lv_if_eq (tgt := 17) hx hb dX2_atom_9 (by decide) (fun hc_9 => ?_) (fun hc_9 => ?_)
  · have he := ite_t he hc_9
    refine lv_aload_n hx hb dX2_atom_17 rfl (lv_at hl 1 rfl) ?_
    refine lv_dup hx hb dX2_atom_18 rfl ?_
    refine gX2_2 hx hb hG hown hK hP ho gw_11_19 dX2_atom_19 ?_
    refine lv_iconst (v := 1) hx hb dX2_atom_22 (by decide) ?_
    refine lv_iadd hx hb dX2_atom_23 ?_
    refine pX2_2 hx hb hG hown hK hP had AW_in hS ho gw_11_19 dX2_atom_24 (fun H locs hP hS => ?_)
    obtain ⟨M_10, eM_10⟩ : ∃ y : Mem, y = up2 M o 2 ((M o 2) + 1) := ⟨_, rfl⟩
    rw [← eM_10] at hP
    have he := bnd_at he eM_10
    refine lv_iload_n hx hb dX2_atom_27 rfl (lv_at hl 0 rfl) ?_
    refine lv_bipush (v := 40) hx hb dX2_atom_28 (by decide) ?_
    refine lv_icmp_ne (tgt := 59) hx hb dX2_atom_30 (by decide) (fun hc_11 => ?_) (fun hc_11 => ?_)
    · have he := ite_t he hc_11
      refine lv_iload_n hx hb dX2_atom_59 rfl (lv_at hl 0 rfl) ?_
      refine lv_bipush (v := 116) hx hb dX2_atom_60 (by decide) ?_
      obtain ⟨t_14, hr_13, he⟩ := bnd_ex he
      have j76 : ∀ (H : Heap) (locs : List Loc) (ls : Array Slot), va_P D vwCl (wld 68 ad (cC ad k M_10)) H → va_S (AW 68 ad) s.heap H locs → lv_has ls 4 [] → W p l e (rm_X2_atom n) s m args below meth c H locs 0 0 Q (F0 m 76 ls [.int t_14]) := by
        intro H locs ls hP hS hl
        exact hret _ _ _ _ _ _ (hV.trans he.symm) hP hS dX2_atom_76
      refine lv_icmp_ne (tgt := 72) hx hb dX2_atom_62 (by decide) (fun hc_12 => ?_) (fun hc_12 => ?_)
      · have hr_13 := ite_t hr_13 hc_12
        refine lv_aload_n hx hb dX2_atom_72 rfl (lv_at hl 1 rfl) ?_
        refine gX2_4 hx hb hG hown hK hP ho gw_11_21 dX2_atom_73 ?_
        cases hr_13
        exact j76 _ _ _ hP hS (lv_sub hl [] rfl)
      · have hr_13 := ite_f hr_13 (fun q => q hc_12)
        refine lv_aload_n hx hb dX2_atom_65 rfl (lv_at hl 1 rfl) ?_
        refine gX2_3 hx hb hG hown hK hP ho gw_11_20 dX2_atom_66 ?_
        refine lv_goto (tgt := 76) hx hb dX2_atom_69 (by decide) ?_
        cases hr_13
        exact j76 _ _ _ hP hS (lv_sub hl [] rfl)
    · have he := ite_f he (fun q => q hc_11)
      refine lv_iload_n hx hb dX2_atom_33 rfl (lv_at hl 2 rfl) ?_
      refine lv_bipush (v := 6) hx hb dX2_atom_34 (by decide) ?_
      refine lv_icmp_ge (tgt := 59) hx hb dX2_atom_36 (by decide) (fun hc_15 => ?_) (fun hc_15 => ?_)
      · have he := ite_t he hc_15
        refine lv_iload_n hx hb dX2_atom_59 rfl (lv_at hl 0 rfl) ?_
        refine lv_bipush (v := 116) hx hb dX2_atom_60 (by decide) ?_
        obtain ⟨t_18, hr_17, he⟩ := bnd_ex he
        have j76 : ∀ (H : Heap) (locs : List Loc) (ls : Array Slot), va_P D vwCl (wld 68 ad (cC ad k M_10)) H → va_S (AW 68 ad) s.heap H locs → lv_has ls 4 [] → W p l e (rm_X2_atom n) s m args below meth c H locs 0 0 Q (F0 m 76 ls [.int t_18]) := by
          intro H locs ls hP hS hl
          exact hret _ _ _ _ _ _ (hV.trans he.symm) hP hS dX2_atom_76
        refine lv_icmp_ne (tgt := 72) hx hb dX2_atom_62 (by decide) (fun hc_16 => ?_) (fun hc_16 => ?_)
        · have hr_17 := ite_t hr_17 hc_16
          refine lv_aload_n hx hb dX2_atom_72 rfl (lv_at hl 1 rfl) ?_
          refine gX2_4 hx hb hG hown hK hP ho gw_11_21 dX2_atom_73 ?_
          cases hr_17
          exact j76 _ _ _ hP hS (lv_sub hl [] rfl)
        · have hr_17 := ite_f hr_17 (fun q => q hc_16)
          refine lv_aload_n hx hb dX2_atom_65 rfl (lv_at hl 1 rfl) ?_
          refine gX2_3 hx hb hG hown hK hP ho gw_11_20 dX2_atom_66 ?_
          refine lv_goto (tgt := 76) hx hb dX2_atom_69 (by decide) ?_
          cases hr_17
          exact j76 _ _ _ hP hS (lv_sub hl [] rfl)
      · have he := ite_f he hc_15
        refine lv_aload_n hx hb dX2_atom_39 rfl (lv_at hl 1 rfl) ?_
        refine lv_iload_n hx hb dX2_atom_40 rfl (lv_at hl 2 rfl) ?_
        refine lv_iconst (v := 1) hx hb dX2_atom_41 (by decide) ?_
        refine lv_iadd hx hb dX2_atom_42 ?_
        refine call_i [.int (a1 + 1)] [] hx hb hml hG hown hK (hs had M_10 o ho (a1 + 1) (by have qa := nle_I hc_15; have qb : (6 : Int32).toInt = 6 := rfl; rw [inc_I (N := 100) (by omega) (by decide)]; omega) (by have qa := nle_I hc_15; have qb : (6 : Int32).toInt = 6 := rfl; rw [inc_I (N := 100) (by omega) (by decide)]; omega) (by rw [eM_10, up2_s]; have ql := next_lt (c := 40) (ey_4.symm.trans hc_11) (by decide); rw [inc_I ql.2 (by decide)]; omega)) gw_11_22 gm_X2_sum gd_X2_sum rfl rfl ⟨by simp only [rm_X2_atom, rm_X2_sum]; omega, by simp only [rm_X2_atom, rm_X2_sum]; omega⟩ ⟨Nat.le_refl _, Nat.le_refl _⟩ (rX2 hK hP ho) hP (fun _ h => h) hS rfl hl.1 rfl (Nat.le_of_ble_eq_true rfl) dX2_atom_43 (fun r_19 M_21 H locs hF_20 hP hS => ?_)
        have he := bnd2_at he hF_20
        refine lv_istore_n (lv' := [(3, .int r_19), (2, .int y_4), (0, .ref (ad o)), (1, .int a1)]) hx hb dX2_atom_46 rfl hl (by decide) rfl (fun ls hl => ?_)
        refine lv_aload_n hx hb dX2_atom_47 rfl (lv_at hl 2 rfl) ?_
        refine lv_dup hx hb dX2_atom_48 rfl ?_
        refine gX2_2 hx hb hG hown hK hP ho gw_11_19 dX2_atom_49 ?_
        refine lv_iconst (v := 1) hx hb dX2_atom_52 (by decide) ?_
        refine lv_iadd hx hb dX2_atom_53 ?_
        refine pX2_2 hx hb hG hown hK hP had AW_in hS ho gw_11_19 dX2_atom_54 (fun H locs hP hS => ?_)
        obtain ⟨M_22, eM_22⟩ : ∃ y : Mem, y = up2 M_21 o 2 ((M_21 o 2) + 1) := ⟨_, rfl⟩
        rw [← eM_22] at hP
        have he := bnd_at he eM_22
        refine lv_iload_n hx hb dX2_atom_57 rfl (lv_at hl 0 rfl) ?_
        exact hret _ _ _ _ _ _ (hV.trans he.symm) hP hS dX2_atom_58
  · have he := ite_f he hc_9
    refine lv_aload_n hx hb dX2_atom_12 rfl (lv_at hl 1 rfl) ?_
    refine call_i [] [] hx hb hml hG hown hK (c_X2_wholeNumber had M o ho) gw_12_10 gm_X2_wholeNumber gd_X2_wholeNumber rfl rfl ⟨by simp only [rm_X2_atom, rm_X2_wholeNumber]; omega, by simp only [rm_X2_atom, rm_X2_wholeNumber]; omega⟩ ⟨Nat.le_refl _, Nat.le_refl _⟩ (rX2 hK hP ho) hP (fun _ h => h) hS rfl hl.1 rfl (Nat.le_of_ble_eq_true rfl) dX2_atom_13 (fun r_23 M_25 H locs hF_24 hP hS => ?_)
    have he := bnd2_at he hF_24
    exact hret _ _ _ _ _ _ (hV.trans he.symm) hP hS dX2_atom_16
def rm_X2_joined : Room := { frames := 0, cells := 0, slots := 0, locals := 0 }
theorem gm_X2_joined : Cond.static yX2_joined ∈ wsL_law ∧ Cond.initialized yX2_joined.cls ∈ wsL_law ∧ Cond.code yX2_joined cX2_joined 3 (some .int) ∈ wsL_law := ⟨gw_12_19, gw_2_14, gw_12_20⟩
theorem gd_X2_joined : yX2_joined.cls ≠ "java/lang/invoke/MethodHandle" ∧ yX2_joined.cls ≠ "java/lang/invoke/VarHandle" ∧ (parseMethodDescriptor yX2_joined.desc).map (fun d => d.parameters.length) = some 3 := by decide +kernel
set_option maxRecDepth 100000 in
set_option maxHeartbeats 0 in
theorem c_X2_joined {l : Launch} {D : va_G} {k : Nat → ClassId} {ad : Nat → Nat} (had : InjN 68 ad) {M : Mem} (a1 : Int32) (a2 : Int32) (a3 : Int32) : Met l yX2_joined (Cond.code yX2_joined cX2_joined 3 (some .int) :: wsL_law) rm_X2_joined (va_Pc [.int a1, .int a2, .int a3] (GW 68 ad D k (cC ad k M))) (va_Qi (fun r u => f_X2_joined a1 a2 a3 = r ∧ u = M) (fun u t => GW 68 ad D k (cC ad k u) t) (AW 68 ad)) 0 0 (AW 68 ad) := by
  refine met_i (g := cC ad k) (M := M) (plainFor_of_name (by decide)) (Nat.le_of_ble_eq_true rfl) ?_
  intro p e s m args below meth c Q ls hx hb hml hG hown hK hret hP hS hl
  have hl : lv_has ls 3 [(0, .int a1), (1, .int a2), (2, .int a3)] := hl
  obtain ⟨V, hV⟩ : ∃ V, f_X2_joined a1 a2 a3 = V := ⟨_, rfl⟩
  have he := hV
  unfold f_X2_joined at he
  refine lv_iload_n hx hb dX2_joined_0 rfl (lv_at hl 0 rfl) ?_
  refine lv_bipush (v := 42) hx hb dX2_joined_1 (by decide) ?_
  refine lv_icmp_ne (tgt := 10) hx hb dX2_joined_3 (by decide) (fun hc_1 => ?_) (fun hc_1 => ?_)
  · have he := ite_t he hc_1
    refine lv_iload_n hx hb dX2_joined_10 rfl (lv_at hl 2 rfl) ?_
    refine lv_if_ne (tgt := 16) hx hb dX2_joined_11 (by decide) (fun hc_2 => ?_) (fun hc_2 => ?_)
    · have he := ite_t he hc_2
      refine lv_iload_n hx hb dX2_joined_16 rfl (lv_at hl 0 rfl) ?_
      refine lv_bipush (v := 47) hx hb dX2_joined_17 (by decide) ?_
      obtain ⟨t_5, hr_4, he⟩ := bnd_ex he
      have j31 : ∀ (H : Heap) (locs : List Loc) (ls : Array Slot), va_P D vwCl (wld 68 ad (cC ad k M)) H → va_S (AW 68 ad) s.heap H locs → lv_has ls 3 [] → W p l e rm_X2_joined s m args below meth c H locs 0 0 Q (F0 m 31 ls [.int t_5]) := by
        intro H locs ls hP hS hl
        exact hret _ _ _ _ _ _ ⟨hV.trans he.symm, rfl⟩ hP hS dX2_joined_31
      refine lv_icmp_ne (tgt := 28) hx hb dX2_joined_19 (by decide) (fun hc_3 => ?_) (fun hc_3 => ?_)
      · have hr_4 := ite_t hr_4 hc_3
        refine lv_iload_n hx hb dX2_joined_28 rfl (lv_at hl 1 rfl) ?_
        refine lv_iload_n hx hb dX2_joined_29 rfl (lv_at hl 2 rfl) ?_
        refine lv_irem hx hb dX2_joined_30 hc_2 ?_
        cases hr_4
        exact j31 _ _ _ hP hS (lv_sub hl [] rfl)
      · have hr_4 := ite_f hr_4 (fun q => q hc_3)
        refine lv_iload_n hx hb dX2_joined_22 rfl (lv_at hl 1 rfl) ?_
        refine lv_iload_n hx hb dX2_joined_23 rfl (lv_at hl 2 rfl) ?_
        refine lv_idiv hx hb dX2_joined_24 hc_2 ?_
        refine lv_goto (tgt := 31) hx hb dX2_joined_25 (by decide) ?_
        cases hr_4
        exact j31 _ _ _ hP hS (lv_sub hl [] rfl)
    · have he := ite_f he (fun q => q hc_2)
      refine lv_iconst (v := 0) hx hb dX2_joined_14 (by decide) ?_
      exact hret _ _ _ _ _ _ ⟨hV.trans he.symm, rfl⟩ hP hS dX2_joined_15
  · have he := ite_f he (fun q => q hc_1)
    refine lv_iload_n hx hb dX2_joined_6 rfl (lv_at hl 1 rfl) ?_
    refine lv_iload_n hx hb dX2_joined_7 rfl (lv_at hl 2 rfl) ?_
    refine lv_imul hx hb dX2_joined_8 ?_
    exact hret _ _ _ _ _ _ ⟨hV.trans he.symm, rfl⟩ hP hS dX2_joined_9
def rm_X2_product (n : Nat) : Room := { frames := 3 * n + 4, cells := 0, slots := 0, locals := 100 * n + 160 }
theorem gm_X2_product : Cond.instanceMethod yX2_product ∈ wsL_law ∧ Cond.selects RX2 yX2_product yX2_product ∈ wsL_law ∧ Cond.initialized RX2 ∈ wsL_law ∧ Cond.code yX2_product cX2_product 4 (some .int) ∈ wsL_law := ⟨gw_12_3, gw_12_4, gw_2_14, gw_12_14⟩
theorem gd_X2_product : yX2_product.cls = RX2 ∧ yX2_product.cls ≠ "java/lang/invoke/MethodHandle" ∧ yX2_product.cls ≠ "java/lang/invoke/VarHandle" ∧ (parseMethodDescriptor yX2_product.desc).map (fun d => d.parameters.length) = some 1 := by decide +kernel
set_option maxRecDepth 100000 in
set_option maxHeartbeats 0 in
theorem c_X2_product {l : Launch} {D : va_G} {k : Nat → ClassId} {ad : Nat → Nat} (had : InjN 68 ad) {n : Nat} {fs : (Mem → Nat → Int32 → Int32 × Mem)} (hn : n ≤ 7) (hfs : FSok fs n) (hs : CS l D k ad fs n) (M : Mem) (o : Nat) (ho : kLaw o) (a1 : Int32) (hd : 7 ≤ a1.toInt + ((n : Nat) : Int) + 1) (h6 : a1.toInt ≤ 6) (hlb : 0 ≤ (M o 2).toInt ∧ (M o 2).toInt ≤ 600) : Met l yX2_product (Cond.code yX2_product cX2_product 4 (some .int) :: wsL_law) (rm_X2_product n) (va_Pc [.ref (ad o), .int a1] (GW 68 ad D k (cC ad k M))) (va_Qi (fun r u => f_X2_product fs M o a1 = (r, u)) (fun u t => GW 68 ad D k (cC ad k u) t) (AW 68 ad)) 0 0 (AW 68 ad) := by
  refine met_i (g := cC ad k) (M := M) (plainFor_of_name (by decide)) (Nat.le_of_ble_eq_true rfl) ?_
  intro p e s m args below meth c Q ls hx hb hml hG hown hK hret hP hS hl
  have hl : lv_has ls 4 [(0, .ref (ad o)), (1, .int a1)] := hl
  obtain ⟨V, hV⟩ : ∃ V, f_X2_product fs M o a1 = V := ⟨_, rfl⟩
  have he := hV
  unfold f_X2_product at he
  refine lv_aload_n hx hb dX2_product_0 rfl (lv_at hl 0 rfl) ?_
  refine lv_iload_n hx hb dX2_product_1 rfl (lv_at hl 1 rfl) ?_
  refine call_i [.int a1] [] hx hb hml hG hown hK (c_X2_atom had hn hfs hs M o ho a1 hd h6 hlb) gw_12_15 gm_X2_atom gd_X2_atom rfl rfl ⟨by simp only [rm_X2_product, rm_X2_atom]; omega, by simp only [rm_X2_product, rm_X2_atom]; omega⟩ ⟨Nat.le_refl _, Nat.le_refl _⟩ (rX2 hK hP ho) hP (fun _ h => h) hS rfl hl.1 rfl (Nat.le_of_ble_eq_true rfl) dX2_product_2 (fun r_1 M_3 H locs hF_2 hP hS => ?_)
  have he := bnd2_at he hF_2
  refine lv_istore_n (lv' := [(2, .int r_1), (0, .ref (ad o)), (1, .int a1)]) hx hb dX2_product_5 rfl hl (by decide) rfl (fun ls hl => ?_)
  obtain ⟨w_28, M_29, hr_6, he⟩ := bnd2_ex he
  have j56 : ∀ (H : Heap) (locs : List Loc) (ls : Array Slot), va_P D vwCl (wld 68 ad (cC ad k M_29)) H → va_S (AW 68 ad) s.heap H locs → lv_has ls 4 [(2, .int w_28)] → W p l e (rm_X2_product n) s m args below meth c H locs 0 0 Q (F0 m 56 ls []) := by
    intro H locs ls hP hS hl
    refine lv_iload_n hx hb dX2_product_56 rfl (lv_at hl 0 rfl) ?_
    exact hret _ _ _ _ _ _ (hV.trans he.symm) hP hS dX2_product_57
  have lp6 : ∀ (nn : Nat) (H : Heap) (locs : List Loc) (ls : Array Slot) (M_5 : Mem) (v_4 : Int32), (100 - (M_5 o 2).toInt).toNat < nn → lp_X2_product_6 nn fs o a1 M_5 v_4 = (w_28, M_29) → va_P D vwCl (wld 68 ad (cC ad k M_5)) H → va_S (AW 68 ad) s.heap H locs → lv_has ls 4 [(0, .ref (ad o)), (1, .int a1), (2, .int v_4)] → W p l e (rm_X2_product n) s m args below meth c H locs 0 0 Q (F0 m 6 ls []) := by
    intro nn
    induction nn with
    | zero =>
      intro H locs ls M_5 v_4 hμ
      exact absurd hμ (Nat.not_lt_zero _)
    | succ nn ih =>
      intro H locs ls M_5 v_4 hμ hr_6 hP hS hl
      rw [lp_X2_product_6] at hr_6
      refine lv_aload_n hx hb dX2_product_6 rfl (lv_at hl 0 rfl) ?_
      refine gX2_2 hx hb hG hown hK hP ho gw_11_19 dX2_product_7 ?_
      refine lv_aload_n hx hb dX2_product_10 rfl (lv_at hl 0 rfl) ?_
      refine gX2_1 hx hb hG hown hK hP ho gw_10_17 dX2_product_11 ?_
      refine lv_icmp_ge (tgt := 56) hx hb dX2_product_14 (by decide) (fun hc_7 => ?_) (fun hc_7 => ?_)
      · have hr_6 := ite_t hr_6 hc_7
        cases hr_6
        exact j56 _ _ _ hP hS (lv_sub hl [2] rfl)
      · have hr_6 := ite_f hr_6 hc_7
        refine lv_aload_n hx hb dX2_product_17 rfl (lv_at hl 0 rfl) ?_
        refine call_i [] [] hx hb hml hG hown hK (c_X2_next had M_5 o ho) gw_12_5 gm_X2_next gd_X2_next rfl rfl ⟨by simp only [rm_X2_product, rm_X2_next]; omega, by simp only [rm_X2_product, rm_X2_next]; omega⟩ ⟨Nat.le_refl _, Nat.le_refl _⟩ (rX2 hK hP ho) hP (fun _ h => h) hS rfl hl.1 rfl (Nat.le_of_ble_eq_true rfl) dX2_product_18 (fun r_8 u_10 H locs hF_9 hP hS => ?_)
        obtain ⟨hF_9, hu⟩ := hF_9; rw [hu] at hP; subst hF_9
        refine callS_i [.int (f_X2_next M_5 o)] [] hx hb hml hG hown hK (c_X2_isProductSign had (M := M_5)  (f_X2_next M_5 o)) gw_8_18 gm_X2_isProductSign gd_X2_isProductSign rfl rfl ⟨by simp only [rm_X2_product, rm_X2_isProductSign]; omega, by simp only [rm_X2_product, rm_X2_isProductSign]; omega⟩ ⟨Nat.le_refl _, Nat.le_refl _⟩ hP (fun _ h => h) hS rfl hl.1 rfl (Nat.le_of_ble_eq_true rfl) dX2_product_21 (fun r_11 u_13 H locs hF_12 hP hS => ?_)
        obtain ⟨hz_14, hF_12, hu⟩ := hF_12; rw [hu] at hP; subst hF_12
        refine lv_if_eq (tgt := 56) hx hb dX2_product_24 (by decide) (fun hc_15 => ?_) (fun hc_15 => ?_)
        · have hr_6 := ite_t hr_6 hc_15
          cases hr_6
          exact j56 _ _ _ hP hS (lv_sub hl [2] rfl)
        · have hr_6 := ite_f hr_6 hc_15
          refine lv_aload_n hx hb dX2_product_27 rfl (lv_at hl 0 rfl) ?_
          refine call_i [] [] hx hb hml hG hown hK (c_X2_next had M_5 o ho) gw_12_5 gm_X2_next gd_X2_next rfl rfl ⟨by simp only [rm_X2_product, rm_X2_next]; omega, by simp only [rm_X2_product, rm_X2_next]; omega⟩ ⟨Nat.le_refl _, Nat.le_refl _⟩ (rX2 hK hP ho) hP (fun _ h => h) hS rfl hl.1 rfl (Nat.le_of_ble_eq_true rfl) dX2_product_28 (fun r_16 u_18 H locs hF_17 hP hS => ?_)
          obtain ⟨hF_17, hu⟩ := hF_17; rw [hu] at hP; subst hF_17
          refine lv_topi (fun y_19 ey_19 => ?_)
          have hr_6 := bnd_at hr_6 ey_19
          refine lv_istore_n (lv' := [(3, .int y_19), (0, .ref (ad o)), (1, .int a1), (2, .int v_4)]) hx hb dX2_product_31 rfl hl (by decide) rfl (fun ls hl => ?_)
          refine lv_aload_n hx hb dX2_product_32 rfl (lv_at hl 1 rfl) ?_
          refine lv_dup hx hb dX2_product_33 rfl ?_
          refine gX2_2 hx hb hG hown hK hP ho gw_11_19 dX2_product_34 ?_
          refine lv_iconst (v := 1) hx hb dX2_product_37 (by decide) ?_
          refine lv_iadd hx hb dX2_product_38 ?_
          refine pX2_2 hx hb hG hown hK hP had AW_in hS ho gw_11_19 dX2_product_39 (fun H locs hP hS => ?_)
          obtain ⟨M_20, eM_20⟩ : ∃ y : Mem, y = up2 M_5 o 2 ((M_5 o 2) + 1) := ⟨_, rfl⟩
          rw [← eM_20] at hP
          have hr_6 := bnd_at hr_6 eM_20
          refine lv_iload_n hx hb dX2_product_42 rfl (lv_at hl 0 rfl) ?_
          refine lv_iload_n hx hb dX2_product_43 rfl (lv_at hl 3 rfl) ?_
          refine lv_aload_n hx hb dX2_product_44 rfl (lv_at hl 1 rfl) ?_
          refine lv_iload_n hx hb dX2_product_45 rfl (lv_at hl 2 rfl) ?_
          refine call_i [.int a1] [.int v_4, .int y_19] hx hb hml hG hown hK (c_X2_atom had hn hfs hs M_20 o ho a1 hd h6 (by rw [eM_20, up2_s]; have ql := isProductSign_lt hc_15; rw [inc_I ql.2 (by decide)]; omega)) gw_12_15 gm_X2_atom gd_X2_atom rfl rfl ⟨by simp only [rm_X2_product, rm_X2_atom]; omega, by simp only [rm_X2_product, rm_X2_atom]; omega⟩ ⟨Nat.le_refl _, Nat.le_refl _⟩ (rX2 hK hP ho) hP (fun _ h => h) hS rfl hl.1 rfl (Nat.le_of_ble_eq_true rfl) dX2_product_46 (fun r_21 M_23 H locs hF_22 hP hS => ?_)
          have hr_6 := bnd2_at hr_6 hF_22
          refine callS_i [.int y_19, .int v_4, .int r_21] [] hx hb hml hG hown hK (c_X2_joined had (M := M_23)  y_19 v_4 r_21) gw_12_18 gm_X2_joined gd_X2_joined rfl rfl ⟨by simp only [rm_X2_product, rm_X2_joined]; omega, by simp only [rm_X2_product, rm_X2_joined]; omega⟩ ⟨Nat.le_refl _, Nat.le_refl _⟩ hP (fun _ h => h) hS rfl hl.1 rfl (Nat.le_of_ble_eq_true rfl) dX2_product_49 (fun r_24 u_26 H locs hF_25 hP hS => ?_)
          obtain ⟨hF_25, hu⟩ := hF_25; rw [hu] at hP; subst hF_25
          refine lv_topi (fun y_27 ey_27 => ?_)
          have hr_6 := bnd_at hr_6 ey_27
          refine lv_istore_n (lv' := [(2, .int y_27), (3, .int y_19), (0, .ref (ad o)), (1, .int a1)]) hx hb dX2_product_52 rfl hl (by decide) rfl (fun ls hl => ?_)
          refine lv_goto (tgt := 6) hx hb dX2_product_53 (by decide) ?_
          exact ih _ _ _ _ _ (by have qs := atom_step hfs hn hd h6 (isProductSign_lt hc_15) (eM_20 ▸ hF_22); have ql := isProductSign_lt hc_15; omega) hr_6 hP hS (lv_sub hl [2, 3, 0] rfl)
  exact lp6 _ _ _ _ _ _ (Nat.lt_succ_self _) hr_6 hP hS (lv_sub hl [1, 2, 0] rfl)
