-- @needs 12_dec 13_dec 14_dec 15_dec 31_hC 40_cC 42_cC 43_cC 46_cC 47_cC
def rm_X5_hasPlace : Room := { frames := 0, cells := 0, slots := 0, locals := 0 }
theorem gm_X5_hasPlace : Cond.instanceMethod yX5_hasPlace ∈ wsL_law ∧ Cond.selects RX5 yX5_hasPlace yX5_hasPlace ∈ wsL_law ∧ Cond.initialized RX5 ∈ wsL_law ∧ Cond.code yX5_hasPlace cX5_hasPlace 2 (some .boolean) ∈ wsL_law := ⟨gw_37_9, gw_37_10, gw_2_4, gw_37_11⟩
theorem gd_X5_hasPlace : yX5_hasPlace.cls = RX5 ∧ yX5_hasPlace.cls ≠ "java/lang/invoke/MethodHandle" ∧ yX5_hasPlace.cls ≠ "java/lang/invoke/VarHandle" ∧ (parseMethodDescriptor yX5_hasPlace.desc).map (fun d => d.parameters.length) = some 1 := by decide +kernel
set_option maxRecDepth 100000 in
set_option maxHeartbeats 0 in
theorem c_X5_hasPlace {l : Launch} {D : va_G} {k : Nat → ClassId} {ad : Nat → Nat} (had : InjN 68 ad) (M : Mem) (o : Nat) (ho : kShf o) (a1 : Int32) : Met l yX5_hasPlace (Cond.code yX5_hasPlace cX5_hasPlace 2 (some .boolean) :: wsL_law) rm_X5_hasPlace (va_Pc [.ref (ad o), .int a1] (GW 68 ad D k (cC ad k M))) (va_Qi (fun r u => (r = 0 ∨ r = 1) ∧ f_X5_hasPlace M o a1 = r ∧ u = M) (fun u t => GW 68 ad D k (cC ad k u) t) (AW 68 ad)) 0 0 (AW 68 ad) := by
  refine met_z (g := cC ad k) (M := M) (plainFor_of_name (by decide)) (Nat.le_of_ble_eq_true rfl) ?_
  intro p e s m args below meth c Q ls hx hb hml hG hown hK hret hP hS hl
  have hl : lv_has ls 2 [(0, .ref (ad o)), (1, .int a1)] := hl
  obtain ⟨V, hV⟩ : ∃ V, f_X5_hasPlace M o a1 = V := ⟨_, rfl⟩
  have he := hV
  unfold f_X5_hasPlace at he
  refine lv_iload_n hx hb dX5_hasPlace_0 rfl (lv_at hl 1 rfl) ?_
  obtain ⟨t_5, hr_2, he⟩ := bnd_ex he
  have j26 : ∀ (H : Heap) (locs : List Loc) (ls : Array Slot), (t_5 = 0 ∨ t_5 = 1) → va_P D vwCl (wld 68 ad (cC ad k M)) H → va_S (AW 68 ad) s.heap H locs → lv_has ls 2 [] → W p l e rm_X5_hasPlace s m args below meth c H locs 0 0 Q (F0 m 26 ls [.int t_5]) := by
    intro H locs ls zt_5 hP hS hl
    exact hret _ _ _ _ _ _ ⟨zt_5, (hV.trans he.symm), rfl⟩ (nz01 zt_5) hP hS dX5_hasPlace_26
  refine lv_if_lt (tgt := 25) hx hb dX5_hasPlace_1 (by decide) (fun hc_1 => ?_) (fun hc_1 => ?_)
  · have hr_2 := ite_t hr_2 hc_1
    refine lv_iconst (v := 0) hx hb dX5_hasPlace_25 (by decide) ?_
    cases hr_2
    exact j26 _ _ _ (Or.inl rfl) hP hS (lv_sub hl [] rfl)
  · have hr_2 := ite_f hr_2 hc_1
    refine lv_iload_n hx hb dX5_hasPlace_4 rfl (lv_at hl 1 rfl) ?_
    refine lv_aload_n hx hb dX5_hasPlace_5 rfl (lv_at hl 0 rfl) ?_
    refine gX5_3 hx hb hG hown hK hP ho gw_36_9 dX5_hasPlace_6 ?_
    refine lv_icmp_ge (tgt := 25) hx hb dX5_hasPlace_9 (by decide) (fun hc_3 => ?_) (fun hc_3 => ?_)
    · have hr_2 := ite_t hr_2 hc_3
      refine lv_iconst (v := 0) hx hb dX5_hasPlace_25 (by decide) ?_
      cases hr_2
      exact j26 _ _ _ (Or.inl rfl) hP hS (lv_sub hl [] rfl)
    · have hr_2 := ite_f hr_2 hc_3
      refine lv_iload_n hx hb dX5_hasPlace_12 rfl (lv_at hl 1 rfl) ?_
      refine lv_aload_n hx hb dX5_hasPlace_13 rfl (lv_at hl 0 rfl) ?_
      refine gX5_4 hx hb hG hown hK hP ho gw_4_3 dX5_hasPlace_14 ?_
      refine an_kElm hx hb hK hP (kR_elm ho) dX5_hasPlace_17 ?_
      refine lv_icmp_ge (tgt := 25) hx hb dX5_hasPlace_18 (by decide) (fun hc_4 => ?_) (fun hc_4 => ?_)
      · have hr_2 := ite_t hr_2 hc_4
        refine lv_iconst (v := 0) hx hb dX5_hasPlace_25 (by decide) ?_
        cases hr_2
        exact j26 _ _ _ (Or.inl rfl) hP hS (lv_sub hl [] rfl)
      · have hr_2 := ite_f hr_2 hc_4
        refine lv_iconst (v := 1) hx hb dX5_hasPlace_21 (by decide) ?_
        refine lv_goto (tgt := 26) hx hb dX5_hasPlace_22 (by decide) ?_
        cases hr_2
        exact j26 _ _ _ (Or.inr rfl) hP hS (lv_sub hl [] rfl)
def rm_X5_tellsAt : Room := { frames := 1, cells := 0, slots := 0, locals := 21 }
theorem gm_X5_tellsAt : Cond.instanceMethod yX5_tellsAt ∈ wsL_law ∧ Cond.selects RX5 yX5_tellsAt yX5_tellsAt ∈ wsL_law ∧ Cond.initialized RX5 ∈ wsL_law ∧ Cond.code yX5_tellsAt cX5_tellsAt 2 (some .boolean) ∈ wsL_law := ⟨gw_37_4, gw_37_5, gw_2_4, gw_37_6⟩
theorem gd_X5_tellsAt : yX5_tellsAt.cls = RX5 ∧ yX5_tellsAt.cls ≠ "java/lang/invoke/MethodHandle" ∧ yX5_tellsAt.cls ≠ "java/lang/invoke/VarHandle" ∧ (parseMethodDescriptor yX5_tellsAt.desc).map (fun d => d.parameters.length) = some 1 := by decide +kernel
set_option maxRecDepth 100000 in
set_option maxHeartbeats 0 in
theorem c_X5_tellsAt {l : Launch} {D : va_G} {k : Nat → ClassId} {ad : Nat → Nat} (had : InjN 68 ad) (M : Mem) (o : Nat) (ho : kShf o) (a1 : Int32) : Met l yX5_tellsAt (Cond.code yX5_tellsAt cX5_tellsAt 2 (some .boolean) :: wsL_law) rm_X5_tellsAt (va_Pc [.ref (ad o), .int a1] (GW 68 ad D k (cC ad k M))) (va_Qi (fun r u => (r = 0 ∨ r = 1) ∧ f_X5_tellsAt M o a1 = r ∧ u = M) (fun u t => GW 68 ad D k (cC ad k u) t) (AW 68 ad)) 0 0 (AW 68 ad) := by
  refine met_z (g := cC ad k) (M := M) (plainFor_of_name (by decide)) (Nat.le_of_ble_eq_true rfl) ?_
  intro p e s m args below meth c Q ls hx hb hml hG hown hK hret hP hS hl
  have hl : lv_has ls 2 [(0, .ref (ad o)), (1, .int a1)] := hl
  obtain ⟨V, hV⟩ : ∃ V, f_X5_tellsAt M o a1 = V := ⟨_, rfl⟩
  have he := hV
  unfold f_X5_tellsAt at he
  refine lv_aload_n hx hb dX5_tellsAt_0 rfl (lv_at hl 0 rfl) ?_
  refine gX5_2 hx hb hG hown hK hP ho gw_8_4 dX5_tellsAt_1 ?_
  by_cases hw_1 : M o 2 = 0
  · have he := ite_t he hw_1
    refine lv_lookup (off := 28) (tgt := 32) hx hb dX5_tellsAt_4 (by decide +kernel) (by rw [hw_1]; first | done | rfl) (by decide) ?_
    refine lv_aload_n hx hb dX5_tellsAt_32 rfl (lv_at hl 0 rfl) ?_
    refine lv_iload_n hx hb dX5_tellsAt_33 rfl (lv_at hl 1 rfl) ?_
    refine call_i [.int a1] [] hx hb hml hG hown hK (c_X5_hasPlace had M o ho a1) gw_37_8 gm_X5_hasPlace gd_X5_hasPlace rfl rfl ⟨Nat.le_of_ble_eq_true rfl, Nat.le_of_ble_eq_true rfl⟩ ⟨Nat.le_refl _, Nat.le_refl _⟩ (rX5 hK hP ho) hP (fun _ h => h) hS rfl hl.1 rfl (Nat.le_of_ble_eq_true rfl) dX5_tellsAt_34 (fun r_2 u_4 H locs hF_3 hP hS => ?_)
    obtain ⟨hz_5, hF_3, hu⟩ := hF_3; rw [hu] at hP; subst hF_3
    obtain ⟨t_9, hr_7, he⟩ := bnd_ex he
    have j56 : ∀ (H : Heap) (locs : List Loc) (ls : Array Slot), (t_9 = 0 ∨ t_9 = 1) → va_P D vwCl (wld 68 ad (cC ad k M)) H → va_S (AW 68 ad) s.heap H locs → lv_has ls 2 [] → W p l e rm_X5_tellsAt s m args below meth c H locs 0 0 Q (F0 m 56 ls [.int t_9]) := by
      intro H locs ls zt_9 hP hS hl
      exact hret _ _ _ _ _ _ ⟨zt_9, (hV.trans he.symm), rfl⟩ (nz01 zt_9) hP hS dX5_tellsAt_56
    refine lv_if_eq (tgt := 55) hx hb dX5_tellsAt_37 (by decide) (fun hc_6 => ?_) (fun hc_6 => ?_)
    · have hr_7 := ite_t hr_7 hc_6
      refine lv_iconst (v := 0) hx hb dX5_tellsAt_55 (by decide) ?_
      cases hr_7
      exact j56 _ _ _ (Or.inl rfl) hP hS (lv_sub hl [] rfl)
    · have hr_7 := ite_f hr_7 hc_6
      refine lv_aload_n hx hb dX5_tellsAt_40 rfl (lv_at hl 0 rfl) ?_
      refine gX5_4 hx hb hG hown hK hP ho gw_4_3 dX5_tellsAt_41 ?_
      refine lv_iload_n hx hb dX5_tellsAt_44 rfl (lv_at hl 1 rfl) ?_
      refine al_kElm hx hb hK hP (kR_elm ho) (place_in hc_6) dX5_tellsAt_45 ?_
      refine lv_bipush (v := (-128)) hx hb dX5_tellsAt_46 (by decide) ?_
      refine lv_icmp_eq (tgt := 55) hx hb dX5_tellsAt_48 (by decide) (fun hc_8 => ?_) (fun hc_8 => ?_)
      · have hr_7 := ite_t hr_7 hc_8
        refine lv_iconst (v := 0) hx hb dX5_tellsAt_55 (by decide) ?_
        cases hr_7
        exact j56 _ _ _ (Or.inl rfl) hP hS (lv_sub hl [] rfl)
      · have hr_7 := ite_f hr_7 hc_8
        refine lv_iconst (v := 1) hx hb dX5_tellsAt_51 (by decide) ?_
        refine lv_goto (tgt := 56) hx hb dX5_tellsAt_52 (by decide) ?_
        cases hr_7
        exact j56 _ _ _ (Or.inr rfl) hP hS (lv_sub hl [] rfl)
  · have he := ite_f he hw_1
    by_cases hw_10 : M o 2 = 1
    · have he := ite_t he hw_10
      refine lv_lookup (off := 53) (tgt := 57) hx hb dX5_tellsAt_4 (by decide +kernel) (by rw [hw_10]; first | done | rfl) (by decide) ?_
      refine lv_aload_n hx hb dX5_tellsAt_57 rfl (lv_at hl 0 rfl) ?_
      refine lv_iload_n hx hb dX5_tellsAt_58 rfl (lv_at hl 1 rfl) ?_
      refine call_i [.int a1] [] hx hb hml hG hown hK (c_X5_hasPlace had M o ho a1) gw_37_8 gm_X5_hasPlace gd_X5_hasPlace rfl rfl ⟨Nat.le_of_ble_eq_true rfl, Nat.le_of_ble_eq_true rfl⟩ ⟨Nat.le_refl _, Nat.le_refl _⟩ (rX5 hK hP ho) hP (fun _ h => h) hS rfl hl.1 rfl (Nat.le_of_ble_eq_true rfl) dX5_tellsAt_59 (fun r_11 u_13 H locs hF_12 hP hS => ?_)
      obtain ⟨hz_14, hF_12, hu⟩ := hF_12; rw [hu] at hP; subst hF_12
      obtain ⟨t_18, hr_16, he⟩ := bnd_ex he
      have j82 : ∀ (H : Heap) (locs : List Loc) (ls : Array Slot), (t_18 = 0 ∨ t_18 = 1) → va_P D vwCl (wld 68 ad (cC ad k M)) H → va_S (AW 68 ad) s.heap H locs → lv_has ls 2 [] → W p l e rm_X5_tellsAt s m args below meth c H locs 0 0 Q (F0 m 82 ls [.int t_18]) := by
        intro H locs ls zt_18 hP hS hl
        exact hret _ _ _ _ _ _ ⟨zt_18, (hV.trans he.symm), rfl⟩ (nz01 zt_18) hP hS dX5_tellsAt_82
      refine lv_if_eq (tgt := 81) hx hb dX5_tellsAt_62 (by decide) (fun hc_15 => ?_) (fun hc_15 => ?_)
      · have hr_16 := ite_t hr_16 hc_15
        refine lv_iconst (v := 0) hx hb dX5_tellsAt_81 (by decide) ?_
        cases hr_16
        exact j82 _ _ _ (Or.inl rfl) hP hS (lv_sub hl [] rfl)
      · have hr_16 := ite_f hr_16 hc_15
        refine lv_aload_n hx hb dX5_tellsAt_65 rfl (lv_at hl 0 rfl) ?_
        refine gX5_4 hx hb hG hown hK hP ho gw_4_3 dX5_tellsAt_66 ?_
        refine lv_iload_n hx hb dX5_tellsAt_69 rfl (lv_at hl 1 rfl) ?_
        refine al_kElm hx hb hK hP (kR_elm ho) (place_in hc_15) dX5_tellsAt_70 ?_
        refine lv_sipush (v := (-32768)) hx hb dX5_tellsAt_71 (by decide) ?_
        refine lv_icmp_eq (tgt := 81) hx hb dX5_tellsAt_74 (by decide) (fun hc_17 => ?_) (fun hc_17 => ?_)
        · have hr_16 := ite_t hr_16 hc_17
          refine lv_iconst (v := 0) hx hb dX5_tellsAt_81 (by decide) ?_
          cases hr_16
          exact j82 _ _ _ (Or.inl rfl) hP hS (lv_sub hl [] rfl)
        · have hr_16 := ite_f hr_16 hc_17
          refine lv_iconst (v := 1) hx hb dX5_tellsAt_77 (by decide) ?_
          refine lv_goto (tgt := 82) hx hb dX5_tellsAt_78 (by decide) ?_
          cases hr_16
          exact j82 _ _ _ (Or.inr rfl) hP hS (lv_sub hl [] rfl)
    · have he := ite_f he hw_10
      refine lv_lookup (off := 79) (tgt := 83) hx hb dX5_tellsAt_4 (by decide +kernel) (by show Op.lookupswitch.offset [(0, 28), (1, 53)] _ _ = _; rw [lv_osw (a := 0) hw_1 rfl]; rw [lv_osw (a := 1) hw_10 rfl]; first | done | rfl) (by decide) ?_
      refine lv_aload_n hx hb dX5_tellsAt_83 rfl (lv_at hl 0 rfl) ?_
      refine lv_iload_n hx hb dX5_tellsAt_84 rfl (lv_at hl 1 rfl) ?_
      refine call_i [.int a1] [] hx hb hml hG hown hK (c_X5_hasPlace had M o ho a1) gw_37_8 gm_X5_hasPlace gd_X5_hasPlace rfl rfl ⟨Nat.le_of_ble_eq_true rfl, Nat.le_of_ble_eq_true rfl⟩ ⟨Nat.le_refl _, Nat.le_refl _⟩ (rX5 hK hP ho) hP (fun _ h => h) hS rfl hl.1 rfl (Nat.le_of_ble_eq_true rfl) dX5_tellsAt_85 (fun r_19 u_21 H locs hF_20 hP hS => ?_)
      obtain ⟨hz_22, hF_20, hu⟩ := hF_20; rw [hu] at hP; subst hF_20
      obtain ⟨t_26, hr_24, he⟩ := bnd_ex he
      have j107 : ∀ (H : Heap) (locs : List Loc) (ls : Array Slot), (t_26 = 0 ∨ t_26 = 1) → va_P D vwCl (wld 68 ad (cC ad k M)) H → va_S (AW 68 ad) s.heap H locs → lv_has ls 2 [] → W p l e rm_X5_tellsAt s m args below meth c H locs 0 0 Q (F0 m 107 ls [.int t_26]) := by
        intro H locs ls zt_26 hP hS hl
        exact hret _ _ _ _ _ _ ⟨zt_26, (hV.trans he.symm), rfl⟩ (nz01 zt_26) hP hS dX5_tellsAt_107
      refine lv_if_eq (tgt := 106) hx hb dX5_tellsAt_88 (by decide) (fun hc_23 => ?_) (fun hc_23 => ?_)
      · have hr_24 := ite_t hr_24 hc_23
        refine lv_iconst (v := 0) hx hb dX5_tellsAt_106 (by decide) ?_
        cases hr_24
        exact j107 _ _ _ (Or.inl rfl) hP hS (lv_sub hl [] rfl)
      · have hr_24 := ite_f hr_24 hc_23
        refine lv_aload_n hx hb dX5_tellsAt_91 rfl (lv_at hl 0 rfl) ?_
        refine gX5_4 hx hb hG hown hK hP ho gw_4_3 dX5_tellsAt_92 ?_
        refine lv_iload_n hx hb dX5_tellsAt_95 rfl (lv_at hl 1 rfl) ?_
        refine al_kElm hx hb hK hP (kR_elm ho) (place_in hc_23) dX5_tellsAt_96 ?_
        refine lv_ldc (v := (-2147483648)) hx hb hown (hG _ gw_37_7) dX5_tellsAt_97 ?_
        refine lv_icmp_eq (tgt := 106) hx hb dX5_tellsAt_99 (by decide) (fun hc_25 => ?_) (fun hc_25 => ?_)
        · have hr_24 := ite_t hr_24 hc_25
          refine lv_iconst (v := 0) hx hb dX5_tellsAt_106 (by decide) ?_
          cases hr_24
          exact j107 _ _ _ (Or.inl rfl) hP hS (lv_sub hl [] rfl)
        · have hr_24 := ite_f hr_24 hc_25
          refine lv_iconst (v := 1) hx hb dX5_tellsAt_102 (by decide) ?_
          refine lv_goto (tgt := 107) hx hb dX5_tellsAt_103 (by decide) ?_
          cases hr_24
          exact j107 _ _ _ (Or.inr rfl) hP hS (lv_sub hl [] rfl)
def rm_X6_firstNotSo : Room := { frames := 28, cells := 0, slots := 0, locals := 916 }
theorem gm_X6_firstNotSo : Cond.instanceMethod yX6_firstNotSo ∈ wsL_law ∧ Cond.selects RX6 yX6_firstNotSo yX6_firstNotSo ∈ wsL_law ∧ Cond.initialized RX6 ∈ wsL_law ∧ Cond.code yX6_firstNotSo cX6_firstNotSo 5 (some .int) ∈ wsL_law := ⟨gw_36_23, gw_37_0, gw_1_2, gw_37_1⟩
theorem gd_X6_firstNotSo : yX6_firstNotSo.cls = RX6 ∧ yX6_firstNotSo.cls ≠ "java/lang/invoke/MethodHandle" ∧ yX6_firstNotSo.cls ≠ "java/lang/invoke/VarHandle" ∧ (parseMethodDescriptor yX6_firstNotSo.desc).map (fun d => d.parameters.length) = some 2 := by decide +kernel
set_option maxRecDepth 100000 in
set_option maxHeartbeats 0 in
theorem c_X6_firstNotSo {l : Launch} {D : va_G} {k : Nat → ClassId} {ad : Nat → Nat} (had : InjN 68 ad) (M : Mem) (a1 : Int32) (a2 : Nat) (ha2 : kShf a2) : Met l yX6_firstNotSo (Cond.code yX6_firstNotSo cX6_firstNotSo 5 (some .int) :: wsL_law) rm_X6_firstNotSo (va_Pc [.ref (ad 0), .int a1, .ref (ad a2)] (GW 68 ad D k (cC ad k M))) (va_Qi (fun r u => f_X6_firstNotSo M a1 a2 = (r, u)) (fun u t => GW 68 ad D k (cC ad k u) t) (AW 68 ad)) 0 0 (AW 68 ad) := by
  refine met_i (g := cC ad k) (M := M) (plainFor_of_name (by decide)) (Nat.le_of_ble_eq_true rfl) ?_
  intro p e s m args below meth c Q ls hx hb hml hG hown hK hret hP hS hl
  have hl : lv_has ls 5 [(0, .ref (ad 0)), (1, .int a1), (2, .ref (ad a2))] := hl
  obtain ⟨V, hV⟩ : ∃ V, f_X6_firstNotSo M a1 a2 = V := ⟨_, rfl⟩
  have he := hV
  unfold f_X6_firstNotSo at he
  refine lv_aload_n hx hb dX6_firstNotSo_0 rfl (lv_at hl 0 rfl) ?_
  refine gX6_6 hx hb hG hown hK hP rfl gw_2_0 dX6_firstNotSo_1 ?_
  refine lv_aload_n hx hb dX6_firstNotSo_4 rfl (lv_at hl 0 rfl) ?_
  refine gX6_1 hx hb hG hown hK hP rfl gw_1_20 dX6_firstNotSo_5 ?_
  refine call_v [.ref (ad 13)] [] hx hb hml hG hown hK (c_X3_take had M 15 (by decide) 13 (by decide)) gw_28_12 gm_X3_take gd_X3_take rfl rfl ⟨Nat.le_of_ble_eq_true rfl, Nat.le_of_ble_eq_true rfl⟩ ⟨Nat.le_refl _, Nat.le_refl _⟩ (rX3 hK hP (by decide)) hP (fun _ h => h) hS rfl hl.1 rfl (Nat.le_of_ble_eq_true rfl) dX6_firstNotSo_8 (fun M_3 H locs hF_2 hP hS => ?_)
  have he := bnd_at he hF_2.symm
  refine lv_aload_n hx hb dX6_firstNotSo_11 rfl (lv_at hl 0 rfl) ?_
  refine gX6_6 hx hb hG hown hK hP rfl gw_2_0 dX6_firstNotSo_12 ?_
  refine lv_iload_n hx hb dX6_firstNotSo_15 rfl (lv_at hl 1 rfl) ?_
  refine call_e [.int a1] [] hx hb hml hG hown hK (c_X3_boatAt had M_3 15 (by decide) a1) gw_16_12 gm_X3_boatAt gd_X3_boatAt rfl rfl ⟨Nat.le_of_ble_eq_true rfl, Nat.le_of_ble_eq_true rfl⟩ ⟨Nat.le_refl _, Nat.le_refl _⟩ (rX3 hK hP (by decide)) hP (fun _ h => h) hS rfl hl.1 rfl (Nat.le_of_ble_eq_true rfl) dX6_firstNotSo_16 (fun r_4 u_6 H locs hF_5 hP hS => ?_)
  obtain ⟨hz_7, hF_5, hu⟩ := hF_5; rw [hu] at hP
  rcases r_4 with _ | b_8
  · have he := oel_n he hF_5
    refine lv_astore_nN (lv' := [(3, .null), (0, .ref (ad 0)), (1, .int a1), (2, .ref (ad a2))]) hx hb dX6_firstNotSo_19 rfl hl (by decide) rfl (fun ls hl => ?_)
    refine lv_iconst (v := 0) hx hb dX6_firstNotSo_20 (by decide) ?_
    refine lv_istore (lv' := [(4, .int 0), (3, .null), (0, .ref (ad 0)), (1, .int a1), (2, .ref (ad a2))]) hx hb dX6_firstNotSo_21 hl (by decide) rfl (fun ls hl => ?_)
    have lp23 : ∀ (nn : Nat) (H : Heap) (locs : List Loc) (ls : Array Slot) (M_10 : Mem) (v_9 : Int32), (v_9 = 0 ∨ v_9 = 1) → 0 < nn → lp_X6_firstNotSo_23 nn M_10 v_9 = V → va_P D vwCl (wld 68 ad (cC ad k M_10)) H → va_S (AW 68 ad) s.heap H locs → lv_has ls 5 [(0, .ref (ad 0)), (2, .ref (ad a2)), (3, .null), (4, .int v_9)] → W p l e rm_X6_firstNotSo s m args below meth c H locs 0 0 Q (F0 m 23 ls []) := by
      intro nn
      induction nn with
      | zero =>
        intro H locs ls M_10 v_9 zv_9 hμ
        exact absurd hμ (Nat.not_lt_zero _)
      | succ nn ih =>
        intro H locs ls M_10 v_9 zv_9 hμ he hP hS hl
        rw [lp_X6_firstNotSo_23] at he
        refine lv_aload_nN hx hb dX6_firstNotSo_23 rfl (lv_at hl 2 rfl) ?_
        refine lv_ifnullN (tgt := 80) hx hb dX6_firstNotSo_24 (by decide) ?_
        refine lv_bipush (v := (-4)) hx hb dX6_firstNotSo_80 (by decide) ?_
        exact hret _ _ _ _ _ _ (hV.trans he.symm) hP hS dX6_firstNotSo_82
    exact lp23 _ _ _ _ _ _ (Or.inl rfl) (by decide) he hP hS (lv_sub hl [2, 4, 1, 0] rfl)
  · have he := oel_s he hF_5
    refine lv_astore_n (lv' := [(3, .ref (ad b_8)), (0, .ref (ad 0)), (1, .int a1), (2, .ref (ad a2))]) hx hb dX6_firstNotSo_19 rfl hl (by decide) rfl (fun ls hl => ?_)
    refine lv_iconst (v := 0) hx hb dX6_firstNotSo_20 (by decide) ?_
    refine lv_istore (lv' := [(4, .int 0), (3, .ref (ad b_8)), (0, .ref (ad 0)), (1, .int a1), (2, .ref (ad a2))]) hx hb dX6_firstNotSo_21 hl (by decide) rfl (fun ls hl => ?_)
    have lp23 : ∀ (nn : Nat) (H : Heap) (locs : List Loc) (ls : Array Slot) (M_26 : Mem) (v_25 : Int32), (0 ≤ v_25.toInt) → (M_26 a2 3 = M_3 a2 3) → ((M_3 a2 3).toInt - v_25.toInt).toNat < nn → lp_X6_firstNotSo_23' nn a2 b_8 M_26 v_25 = V → va_P D vwCl (wld 68 ad (cC ad k M_26)) H → va_S (AW 68 ad) s.heap H locs → lv_has ls 5 [(0, .ref (ad 0)), (2, .ref (ad a2)), (3, .ref (ad b_8)), (4, .int v_25)] → W p l e rm_X6_firstNotSo s m args below meth c H locs 0 0 Q (F0 m 23 ls []) := by
      intro nn
      induction nn with
      | zero =>
        intro H locs ls M_26 v_25 hi0 hiM hμ
        exact absurd hμ (Nat.not_lt_zero _)
      | succ nn ih =>
        intro H locs ls M_26 v_25 hi0 hiM hμ he hP hS hl
        rw [lp_X6_firstNotSo_23'] at he
        refine lv_aload_n hx hb dX6_firstNotSo_23 rfl (lv_at hl 2 rfl) ?_
        refine lv_ifnull hx hb dX6_firstNotSo_24 ?_
        refine lv_iload hx hb dX6_firstNotSo_27 (lv_at hl 3 rfl) ?_
        refine lv_aload_n hx hb dX6_firstNotSo_29 rfl (lv_at hl 1 rfl) ?_
        refine gX5_3 hx hb hG hown hK hP ha2 gw_7_19 dX6_firstNotSo_30 ?_
        refine lv_icmp_ge (tgt := 80) hx hb dX6_firstNotSo_33 (by decide) (fun hc_27 => ?_) (fun hc_27 => ?_)
        · have he := ite_t he hc_27
          refine lv_bipush (v := (-4)) hx hb dX6_firstNotSo_80 (by decide) ?_
          exact hret _ _ _ _ _ _ (hV.trans he.symm) hP hS dX6_firstNotSo_82
        · have he := ite_f he hc_27
          refine lv_aload_n hx hb dX6_firstNotSo_36 rfl (lv_at hl 0 rfl) ?_
          refine gX6_6 hx hb hG hown hK hP rfl gw_2_0 dX6_firstNotSo_37 ?_
          refine lv_aload_n hx hb dX6_firstNotSo_40 rfl (lv_at hl 0 rfl) ?_
          refine gX6_0 hx hb hG hown hK hP rfl gw_1_16 dX6_firstNotSo_41 ?_
          refine lv_iconst (v := 1) hx hb dX6_firstNotSo_44 (by decide) ?_
          refine call_v [.ref (ad 1), .int 1] [] hx hb hml hG hown hK (c_X3_goOn had M_26 15 (by decide) 1 (by decide) 1) gw_19_8 gm_X3_goOn gd_X3_goOn rfl rfl ⟨Nat.le_of_ble_eq_true rfl, Nat.le_of_ble_eq_true rfl⟩ ⟨Nat.le_refl _, Nat.le_refl _⟩ (rX3 hK hP (by decide)) hP (fun _ h => h) hS rfl hl.1 rfl (Nat.le_of_ble_eq_true rfl) dX6_firstNotSo_45 (fun M_30 H locs hF_29 hP hS => ?_)
          have he := bnd_at he hF_29.symm
          refine lv_aload_n hx hb dX6_firstNotSo_48 rfl (lv_at hl 1 rfl) ?_
          refine lv_iload hx hb dX6_firstNotSo_49 (lv_at hl 3 rfl) ?_
          refine call_i [.int v_25] [] hx hb hml hG hown hK (c_X5_tellsAt had M_30 a2 ha2 v_25) gw_37_3 gm_X5_tellsAt gd_X5_tellsAt rfl rfl ⟨Nat.le_of_ble_eq_true rfl, Nat.le_of_ble_eq_true rfl⟩ ⟨Nat.le_refl _, Nat.le_refl _⟩ (rX5 hK hP ha2) hP (fun _ h => h) hS rfl hl.1 rfl (Nat.le_of_ble_eq_true rfl) dX6_firstNotSo_51 (fun r_31 u_33 H locs hF_32 hP hS => ?_)
          obtain ⟨hz_34, hF_32, hu⟩ := hF_32; rw [hu] at hP; subst hF_32
          refine lv_if_eq (tgt := 74) hx hb dX6_firstNotSo_54 (by decide) (fun hc_35 => ?_) (fun hc_35 => ?_)
          · have he := ite_t he hc_35
            obtain ⟨y_36, ey_36⟩ : ∃ y_36 : Int32, y_36 = v_25 + 1 := ⟨_, rfl⟩
            have he := bnd_at he ey_36
            refine lv_iinc (v := y_36) (lv' := [(4, .int y_36), (0, .ref (ad 0)), (2, .ref (ad a2)), (3, .ref (ad b_8))]) hx hb dX6_firstNotSo_74 hl (k := 3) rfl (by rw [ey_36]; rfl) (by decide) rfl (fun ls hl => ?_)
            refine lv_goto (tgt := 23) hx hb dX6_firstNotSo_77 (by decide) ?_
            exact ih _ _ _ _ _ (by rw [ey_36, inc_I (N := ((M_3 a2 3).toInt)) (by have q0 := nle_I hc_27; rw [hiM] at q0; exact q0) (Int32.toInt_le _)]; omega) (by rw [← hF_29, goOn_shf (by omega)]; exact hiM) (by rw [ey_36]; exact mu_I hμ (by have q0 := nle_I hc_27; rw [hiM] at q0; exact q0) (Int32.toInt_le _)) he hP hS (lv_sub hl [1, 2, 3, 0] rfl)
          · have he := ite_f he hc_35
            refine lv_aload_n hx hb dX6_firstNotSo_57 rfl (lv_at hl 1 rfl) ?_
            refine gX5_4 hx hb hG hown hK hP ha2 gw_7_18 dX6_firstNotSo_58 ?_
            refine lv_iload hx hb dX6_firstNotSo_61 (lv_at hl 3 rfl) ?_
            refine al_kElm hx hb hK hP (kR_elm ha2) (tells_in hc_35) dX6_firstNotSo_63 ?_
            refine lv_aload_n hx hb dX6_firstNotSo_64 rfl (lv_at hl 2 rfl) ?_
            refine gX1_4 hx hb hG hown hK hP (hz_7 _ rfl) gw_37_2 dX6_firstNotSo_65 ?_
            refine lv_icmp_eq (tgt := 74) hx hb dX6_firstNotSo_68 (by decide) (fun hc_37 => ?_) (fun hc_37 => ?_)
            · have he := ite_t he hc_37
              obtain ⟨y_38, ey_38⟩ : ∃ y_38 : Int32, y_38 = v_25 + 1 := ⟨_, rfl⟩
              have he := bnd_at he ey_38
              refine lv_iinc (v := y_38) (lv' := [(4, .int y_38), (0, .ref (ad 0)), (2, .ref (ad a2)), (3, .ref (ad b_8))]) hx hb dX6_firstNotSo_74 hl (k := 3) rfl (by rw [ey_38]; rfl) (by decide) rfl (fun ls hl => ?_)
              refine lv_goto (tgt := 23) hx hb dX6_firstNotSo_77 (by decide) ?_
              exact ih _ _ _ _ _ (by rw [ey_38, inc_I (N := ((M_3 a2 3).toInt)) (by have q0 := nle_I hc_27; rw [hiM] at q0; exact q0) (Int32.toInt_le _)]; omega) (by rw [← hF_29, goOn_shf (by omega)]; exact hiM) (by rw [ey_38]; exact mu_I hμ (by have q0 := nle_I hc_27; rw [hiM] at q0; exact q0) (Int32.toInt_le _)) he hP hS (lv_sub hl [1, 2, 3, 0] rfl)
            · have he := ite_f he hc_37
              refine lv_iload hx hb dX6_firstNotSo_71 (lv_at hl 3 rfl) ?_
              exact hret _ _ _ _ _ _ (hV.trans he.symm) hP hS dX6_firstNotSo_73
    exact lp23 _ _ _ _ _ _ (by decide) rfl (by rw [Int32.toInt_zero]; omega) he hP hS (lv_sub hl [2, 4, 1, 0] rfl)
def rm_X6_read : Room := { frames := 29, cells := 0, slots := 0, locals := 940 }
theorem gm_X6_read : Cond.instanceMethod yX6_read ∈ wsL_law ∧ Cond.selects RX6 yX6_read yX6_read ∈ wsL_law ∧ Cond.initialized RX6 ∈ wsL_law ∧ Cond.code yX6_read cX6_read 5 (some .int) ∈ wsL_law := ⟨gw_36_19, gw_36_20, gw_1_2, gw_36_21⟩
theorem gd_X6_read : yX6_read.cls = RX6 ∧ yX6_read.cls ≠ "java/lang/invoke/MethodHandle" ∧ yX6_read.cls ≠ "java/lang/invoke/VarHandle" ∧ (parseMethodDescriptor yX6_read.desc).map (fun d => d.parameters.length) = some 2 := by decide +kernel
set_option maxRecDepth 100000 in
set_option maxHeartbeats 0 in
theorem c_X6_read {l : Launch} {D : va_G} {k : Nat → ClassId} {ad : Nat → Nat} (had : InjN 68 ad) (M : Mem) (a1 : Int32) (a2 : Int32) : Met l yX6_read (Cond.code yX6_read cX6_read 5 (some .int) :: wsL_law) rm_X6_read (va_Pc [.ref (ad 0), .int a1, .int a2] (GW 68 ad D k (cC ad k M))) (va_Qi (fun r u => f_X6_read M a1 a2 = (r, u)) (fun u t => GW 68 ad D k (cC ad k u) t) (AW 68 ad)) 0 0 (AW 68 ad) := by
  refine met_i (g := cC ad k) (M := M) (plainFor_of_name (by decide)) (Nat.le_of_ble_eq_true rfl) ?_
  intro p e s m args below meth c Q ls hx hb hml hG hown hK hret hP hS hl
  have hl : lv_has ls 5 [(0, .ref (ad 0)), (1, .int a1), (2, .int a2)] := hl
  obtain ⟨V, hV⟩ : ∃ V, f_X6_read M a1 a2 = V := ⟨_, rfl⟩
  have he := hV
  unfold f_X6_read at he
  refine lv_aload_n hx hb dX6_read_0 rfl (lv_at hl 0 rfl) ?_
  refine lv_iload_n hx hb dX6_read_1 rfl (lv_at hl 2 rfl) ?_
  refine call_e [.int a2] [] hx hb hml hG hown hK (c_X6_shelfAt had M a2) gw_7_20 gm_X6_shelfAt gd_X6_shelfAt rfl rfl ⟨Nat.le_of_ble_eq_true rfl, Nat.le_of_ble_eq_true rfl⟩ ⟨Nat.le_refl _, Nat.le_refl _⟩ (rX6 hK hP rfl) hP (fun _ h => h) hS rfl hl.1 rfl (Nat.le_of_ble_eq_true rfl) dX6_read_2 (fun r_1 u_3 H locs hF_2 hP hS => ?_)
  obtain ⟨hz_4, hF_2, hu⟩ := hF_2; rw [hu] at hP
  rcases r_1 with _ | b_5
  · have he := oel_n he hF_2
    refine lv_astore_nN (lv' := [(3, .null), (0, .ref (ad 0)), (1, .int a1), (2, .int a2)]) hx hb dX6_read_5 rfl hl (by decide) rfl (fun ls hl => ?_)
    refine lv_aload_nN hx hb dX6_read_6 rfl (lv_at hl 0 rfl) ?_
    refine lv_ifnullN (tgt := 21) hx hb dX6_read_7 (by decide) ?_
    refine lv_iconst (v := (-1)) hx hb dX6_read_21 (by decide) ?_
    exact hret _ _ _ _ _ _ (hV.trans he.symm) hP hS dX6_read_22
  · have he := oel_s he hF_2
    refine lv_astore_n (lv' := [(3, .ref (ad b_5)), (0, .ref (ad 0)), (1, .int a1), (2, .int a2)]) hx hb dX6_read_5 rfl hl (by decide) rfl (fun ls hl => ?_)
    refine lv_aload_n hx hb dX6_read_6 rfl (lv_at hl 0 rfl) ?_
    refine lv_ifnull hx hb dX6_read_7 ?_
    refine lv_aload_n hx hb dX6_read_10 rfl (lv_at hl 1 rfl) ?_
    refine gX6_1 hx hb hG hown hK hP rfl gw_1_20 dX6_read_11 ?_
    refine lv_iload_n hx hb dX6_read_14 rfl (lv_at hl 2 rfl) ?_
    refine call_e [.int a1] [] hx hb hml hG hown hK (c_X3_boatAt had M 13 (by decide) a1) gw_16_12 gm_X3_boatAt gd_X3_boatAt rfl rfl ⟨Nat.le_of_ble_eq_true rfl, Nat.le_of_ble_eq_true rfl⟩ ⟨Nat.le_refl _, Nat.le_refl _⟩ (rX3 hK hP (by decide)) hP (fun _ h => h) hS rfl hl.1 rfl (Nat.le_of_ble_eq_true rfl) dX6_read_15 (fun r_6 u_8 H locs hF_7 hP hS => ?_)
    obtain ⟨hz_9, hF_7, hu⟩ := hF_7; rw [hu] at hP
    rcases r_6 with _ | b_10
    · have he := oel_n he hF_7
      refine lv_ifnonnullN hx hb dX6_read_18 ?_
      refine lv_iconst (v := (-1)) hx hb dX6_read_21 (by decide) ?_
      exact hret _ _ _ _ _ _ (hV.trans he.symm) hP hS dX6_read_22
    · have he := oel_s he hF_7
      refine lv_ifnonnull (tgt := 23) hx hb dX6_read_18 (by decide) ?_
      refine lv_aload_n hx hb dX6_read_23 rfl (lv_at hl 0 rfl) ?_
      refine call_i [] [] hx hb hml hG hown hK (c_X5_rowRefusal had M b_5 (hz_4 _ rfl)) gw_36_4 gm_X5_rowRefusal gd_X5_rowRefusal rfl rfl ⟨Nat.le_of_ble_eq_true rfl, Nat.le_of_ble_eq_true rfl⟩ ⟨Nat.le_refl _, Nat.le_refl _⟩ (rX5 hK hP (hz_4 _ rfl)) hP (fun _ h => h) hS rfl hl.1 rfl (Nat.le_of_ble_eq_true rfl) dX6_read_24 (fun r_11 u_13 H locs hF_12 hP hS => ?_)
      obtain ⟨hF_12, hu⟩ := hF_12; rw [hu] at hP; subst hF_12
      refine lv_topi (fun y_14 ey_14 => ?_)
      have he := bnd_at he ey_14
      refine lv_istore (lv' := [(4, .int y_14), (3, .ref (ad b_5)), (0, .ref (ad 0)), (1, .int a1), (2, .int a2)]) hx hb dX6_read_27 hl (by decide) rfl (fun ls hl => ?_)
      refine lv_iload hx hb dX6_read_29 (lv_at hl 0 rfl) ?_
      obtain ⟨t_20, M_21, hr_16, he⟩ := bnd2_ex he
      have j45 : ∀ (H : Heap) (locs : List Loc) (ls : Array Slot), va_P D vwCl (wld 68 ad (cC ad k M_21)) H → va_S (AW 68 ad) s.heap H locs → lv_has ls 5 [] → W p l e rm_X6_read s m args below meth c H locs 0 0 Q (F0 m 45 ls [.int t_20]) := by
        intro H locs ls hP hS hl
        exact hret _ _ _ _ _ _ (hV.trans he.symm) hP hS dX6_read_45
      refine lv_if_eq (tgt := 39) hx hb dX6_read_31 (by decide) (fun hc_15 => ?_) (fun hc_15 => ?_)
      · have hr_16 := ite_t hr_16 hc_15
        refine lv_aload_n hx hb dX6_read_39 rfl (lv_at hl 2 rfl) ?_
        refine lv_iload_n hx hb dX6_read_40 rfl (lv_at hl 3 rfl) ?_
        refine lv_aload_n hx hb dX6_read_41 rfl (lv_at hl 1 rfl) ?_
        refine call_i [.int a1, .ref (ad b_5)] [] hx hb hml hG hown hK (c_X6_firstNotSo had M a1 b_5 (hz_4 _ rfl)) gw_36_22 gm_X6_firstNotSo gd_X6_firstNotSo rfl rfl ⟨Nat.le_of_ble_eq_true rfl, Nat.le_of_ble_eq_true rfl⟩ ⟨Nat.le_refl _, Nat.le_refl _⟩ (rX6 hK hP rfl) hP (fun _ h => h) hS rfl hl.1 rfl (Nat.le_of_ble_eq_true rfl) dX6_read_42 (fun r_17 M_19 H locs hF_18 hP hS => ?_)
        have hr_16 := bnd2_at hr_16 hF_18
        cases hr_16
        exact j45 _ _ _ hP hS (lv_sub hl [] rfl)
      · have hr_16 := ite_f hr_16 hc_15
        refine lv_iload hx hb dX6_read_34 (lv_at hl 0 rfl) ?_
        refine lv_goto (tgt := 45) hx hb dX6_read_36 (by decide) ?_
        cases hr_16
        exact j45 _ _ _ hP hS (lv_sub hl [] rfl)
def rm_X0_take : Room := { frames := 3, cells := 0, slots := 0, locals := 84 }
theorem gm_X0_take : Cond.instanceMethod yX0_take ∈ wsL_law ∧ Cond.selects RX0 yX0_take yX0_take ∈ wsL_law ∧ Cond.initialized RX0 ∈ wsL_law ∧ Cond.code yX0_take cX0_take 2 none ∈ wsL_law := ⟨gw_38_4, gw_38_5, gw_1_15, gw_38_6⟩
theorem gd_X0_take : yX0_take.cls = RX0 ∧ yX0_take.cls ≠ "java/lang/invoke/MethodHandle" ∧ yX0_take.cls ≠ "java/lang/invoke/VarHandle" ∧ (parseMethodDescriptor yX0_take.desc).map (fun d => d.parameters.length) = some 1 := by decide +kernel
set_option maxRecDepth 100000 in
set_option maxHeartbeats 0 in
theorem c_X0_take {l : Launch} {D : va_G} {k : Nat → ClassId} {ad : Nat → Nat} (had : InjN 68 ad) (M : Mem) (o : Nat) (ho : kBay o) (a1 : Nat) (ha1 : kBay a1) : Met l yX0_take (Cond.code yX0_take cX0_take 2 none :: wsL_law) rm_X0_take (va_Pc [.ref (ad o), .ref (ad a1)] (GW 68 ad D k (cC ad k M))) (va_Qv (fun u => f_X0_take M o a1 = u) (fun u t => GW 68 ad D k (cC ad k u) t) (AW 68 ad)) 0 0 (AW 68 ad) := by
  refine met_v (g := cC ad k) (M := M) (plainFor_of_name (by decide)) (Nat.le_of_ble_eq_true rfl) ?_
  intro p e s m args below meth c Q ls hx hb hml hG hown hK hret hP hS hl
  have hl : lv_has ls 2 [(0, .ref (ad o)), (1, .ref (ad a1))] := hl
  obtain ⟨V, hV⟩ : ∃ V, f_X0_take M o a1 = V := ⟨_, rfl⟩
  have he := hV
  unfold f_X0_take at he
  refine lv_aload_n hx hb dX0_take_0 rfl (lv_at hl 0 rfl) ?_
  refine lv_aload_n hx hb dX0_take_1 rfl (lv_at hl 1 rfl) ?_
  refine gX0_0 hx hb hG hown hK hP ha1 gw_2_9 dX0_take_2 ?_
  refine pX0_0 hx hb hG hown hK hP had AW_in hS ho gw_2_9 dX0_take_5 (fun H locs hP hS => ?_)
  obtain ⟨M_1, eM_1⟩ : ∃ y : Mem, y = up2 M o 0 (M a1 0) := ⟨_, rfl⟩
  rw [← eM_1] at hP
  have he := bnd_at he eM_1
  refine lv_aload_n hx hb dX0_take_8 rfl (lv_at hl 0 rfl) ?_
  refine lv_aload_n hx hb dX0_take_9 rfl (lv_at hl 1 rfl) ?_
  refine gX0_1 hx hb hG hown hK hP ha1 gw_6_11 dX0_take_10 ?_
  refine pX0_1 hx hb hG hown hK hP had AW_in hS ho gw_6_11 dX0_take_13 (fun H locs hP hS => ?_)
  obtain ⟨M_2, eM_2⟩ : ∃ y : Mem, y = up2 M_1 o 1 (M_1 a1 1) := ⟨_, rfl⟩
  rw [← eM_2] at hP
  have he := bnd_at he eM_2
  refine lv_aload_n hx hb dX0_take_16 rfl (lv_at hl 0 rfl) ?_
  refine lv_aload_n hx hb dX0_take_17 rfl (lv_at hl 1 rfl) ?_
  refine gX0_2 hx hb hG hown hK hP ha1 gw_2_10 dX0_take_18 ?_
  refine pX0_2 hx hb hG hown hK hP had AW_in hS ho gw_2_10 dX0_take_21 (fun H locs hP hS => ?_)
  obtain ⟨M_3, eM_3⟩ : ∃ y : Mem, y = up2 M_2 o 2 (M_2 a1 2) := ⟨_, rfl⟩
  rw [← eM_3] at hP
  have he := bnd_at he eM_3
  refine lv_aload_n hx hb dX0_take_24 rfl (lv_at hl 0 rfl) ?_
  refine lv_aload_n hx hb dX0_take_25 rfl (lv_at hl 1 rfl) ?_
  refine gX0_3 hx hb hG hown hK hP ha1 gw_2_11 dX0_take_26 ?_
  refine pX0_3 hx hb hG hown hK hP had AW_in hS ho gw_2_11 dX0_take_29 (fun H locs hP hS => ?_)
  obtain ⟨M_4, eM_4⟩ : ∃ y : Mem, y = up2 M_3 o 3 (M_3 a1 3) := ⟨_, rfl⟩
  rw [← eM_4] at hP
  have he := bnd_at he eM_4
  refine lv_aload_n hx hb dX0_take_32 rfl (lv_at hl 0 rfl) ?_
  refine lv_aload_n hx hb dX0_take_33 rfl (lv_at hl 1 rfl) ?_
  refine gX0_4 hx hb hG hown hK hP ha1 gw_6_12 dX0_take_34 ?_
  refine pX0_4 hx hb hG hown hK hP had AW_in hS ho gw_6_12 dX0_take_37 (fun H locs hP hS => ?_)
  obtain ⟨M_5, eM_5⟩ : ∃ y : Mem, y = up2 M_4 o 4 (M_4 a1 4) := ⟨_, rfl⟩
  rw [← eM_5] at hP
  have he := bnd_at he eM_5
  refine lv_aload_n hx hb dX0_take_40 rfl (lv_at hl 0 rfl) ?_
  refine lv_aload_n hx hb dX0_take_41 rfl (lv_at hl 1 rfl) ?_
  refine gX0_5 hx hb hG hown hK hP ha1 gw_2_15 dX0_take_42 ?_
  refine gX2_0 hx hb hG hown hK hP (kR_law ha1) gw_38_7 dX0_take_45 ?_
  refine lv_aload_n hx hb dX0_take_48 rfl (lv_at hl 1 rfl) ?_
  refine gX0_5 hx hb hG hown hK hP ha1 gw_2_15 dX0_take_49 ?_
  refine gX2_1 hx hb hG hown hK hP (kR_law ha1) gw_38_8 dX0_take_52 ?_
  refine call_v [.ref (ad ((a1 + 3) + 6)), .int (M_5 (a1 + 3) 1)] [] hx hb hml hG hown hK (c_X0_tellLaw had M_5 o ho ((a1 + 3) + 6) (kA_txt (kR_txt (kR_law ha1))) (M_5 (a1 + 3) 1)) gw_38_9 gm_X0_tellLaw gd_X0_tellLaw rfl rfl ⟨Nat.le_of_ble_eq_true rfl, Nat.le_of_ble_eq_true rfl⟩ ⟨Nat.le_refl _, Nat.le_refl _⟩ (rX0 hK hP ho) hP (fun _ h => h) hS rfl hl.1 rfl (Nat.le_of_ble_eq_true rfl) dX0_take_55 (fun M_8 H locs hF_7 hP hS => ?_)
  have he := bnd_at he hF_7.symm
  exact hret _ _ _ _ _ (hV.trans he.symm) hP hS dX0_take_58
def rm_X0_setting : Room := { frames := 0, cells := 0, slots := 0, locals := 0 }
theorem gm_X0_setting : Cond.instanceMethod yX0_setting ∈ wsL_law ∧ Cond.selects RX0 yX0_setting yX0_setting ∈ wsL_law ∧ Cond.initialized RX0 ∈ wsL_law ∧ Cond.code yX0_setting cX0_setting 2 (some .int) ∈ wsL_law := ⟨gw_6_14, gw_6_15, gw_1_15, gw_6_16⟩
theorem gd_X0_setting : yX0_setting.cls = RX0 ∧ yX0_setting.cls ≠ "java/lang/invoke/MethodHandle" ∧ yX0_setting.cls ≠ "java/lang/invoke/VarHandle" ∧ (parseMethodDescriptor yX0_setting.desc).map (fun d => d.parameters.length) = some 1 := by decide +kernel
set_option maxRecDepth 100000 in
set_option maxHeartbeats 0 in
theorem c_X0_setting {l : Launch} {D : va_G} {k : Nat → ClassId} {ad : Nat → Nat} (had : InjN 68 ad) (M : Mem) (o : Nat) (ho : kBay o) (a1 : Int32) : Met l yX0_setting (Cond.code yX0_setting cX0_setting 2 (some .int) :: wsL_law) rm_X0_setting (va_Pc [.ref (ad o), .int a1] (GW 68 ad D k (cC ad k M))) (va_Qi (fun r u => f_X0_setting M o a1 = r ∧ u = M) (fun u t => GW 68 ad D k (cC ad k u) t) (AW 68 ad)) 0 0 (AW 68 ad) := by
  refine met_i (g := cC ad k) (M := M) (plainFor_of_name (by decide)) (Nat.le_of_ble_eq_true rfl) ?_
  intro p e s m args below meth c Q ls hx hb hml hG hown hK hret hP hS hl
  have hl : lv_has ls 2 [(0, .ref (ad o)), (1, .int a1)] := hl
  obtain ⟨V, hV⟩ : ∃ V, f_X0_setting M o a1 = V := ⟨_, rfl⟩
  have he := hV
  unfold f_X0_setting at he
  refine lv_iload_n hx hb dX0_setting_0 rfl (lv_at hl 1 rfl) ?_
  by_cases hw_1 : a1 = 0
  · have he := ite_t he hw_1
    refine lv_tableIn (tgt := 32) hx hb dX0_setting_1 (by rw [hw_1]; decide) (by rw [hw_1]; decide) (by rw [hw_1]; rfl) (by decide) ?_
    refine lv_aload_n hx hb dX0_setting_32 rfl (lv_at hl 0 rfl) ?_
    refine gX0_0 hx hb hG hown hK hP ho gw_2_9 dX0_setting_33 ?_
    exact hret _ _ _ _ _ _ ⟨hV.trans he.symm, rfl⟩ hP hS dX0_setting_36
  · have he := ite_f he hw_1
    by_cases hw_2 : a1 = 1
    · have he := ite_t he hw_2
      refine lv_tableIn (tgt := 37) hx hb dX0_setting_1 (by rw [hw_2]; decide) (by rw [hw_2]; decide) (by rw [hw_2]; rfl) (by decide) ?_
      refine lv_aload_n hx hb dX0_setting_37 rfl (lv_at hl 0 rfl) ?_
      refine gX0_1 hx hb hG hown hK hP ho gw_6_11 dX0_setting_38 ?_
      exact hret _ _ _ _ _ _ ⟨hV.trans he.symm, rfl⟩ hP hS dX0_setting_41
    · have he := ite_f he hw_2
      by_cases hw_3 : a1 = 2
      · have he := ite_t he hw_3
        refine lv_tableIn (tgt := 42) hx hb dX0_setting_1 (by rw [hw_3]; decide) (by rw [hw_3]; decide) (by rw [hw_3]; rfl) (by decide) ?_
        refine lv_aload_n hx hb dX0_setting_42 rfl (lv_at hl 0 rfl) ?_
        refine gX0_2 hx hb hG hown hK hP ho gw_2_10 dX0_setting_43 ?_
        exact hret _ _ _ _ _ _ ⟨hV.trans he.symm, rfl⟩ hP hS dX0_setting_46
      · have he := ite_f he hw_3
        by_cases hw_4 : a1 = 3
        · have he := ite_t he hw_4
          refine lv_tableIn (tgt := 47) hx hb dX0_setting_1 (by rw [hw_4]; decide) (by rw [hw_4]; decide) (by rw [hw_4]; rfl) (by decide) ?_
          refine lv_aload_n hx hb dX0_setting_47 rfl (lv_at hl 0 rfl) ?_
          refine gX0_3 hx hb hG hown hK hP ho gw_2_11 dX0_setting_48 ?_
          exact hret _ _ _ _ _ _ ⟨hV.trans he.symm, rfl⟩ hP hS dX0_setting_51
        · have he := ite_f he hw_4
          refine lv_tableOut (tgt := 52) hx hb dX0_setting_1 (by have q0 : a1.toInt ≠ 0 := ne_I hw_1; have q1 : a1.toInt ≠ 1 := ne_I hw_2; have q2 : a1.toInt ≠ 2 := ne_I hw_3; have q3 : a1.toInt ≠ 3 := ne_I hw_4; omega) (by decide) ?_
          refine lv_aload_n hx hb dX0_setting_52 rfl (lv_at hl 0 rfl) ?_
          refine gX0_4 hx hb hG hown hK hP ho gw_6_12 dX0_setting_53 ?_
          exact hret _ _ _ _ _ _ ⟨hV.trans he.symm, rfl⟩ hP hS dX0_setting_56
def rm_X0_change : Room := { frames := 1, cells := 0, slots := 0, locals := 23 }
theorem gm_X0_change : Cond.instanceMethod yX0_change ∈ wsL_law ∧ Cond.selects RX0 yX0_change yX0_change ∈ wsL_law ∧ Cond.initialized RX0 ∈ wsL_law ∧ Cond.code yX0_change cX0_change 4 (some .int) ∈ wsL_law := ⟨gw_6_8, gw_6_9, gw_1_15, gw_6_10⟩
theorem gd_X0_change : yX0_change.cls = RX0 ∧ yX0_change.cls ≠ "java/lang/invoke/MethodHandle" ∧ yX0_change.cls ≠ "java/lang/invoke/VarHandle" ∧ (parseMethodDescriptor yX0_change.desc).map (fun d => d.parameters.length) = some 2 := by decide +kernel
set_option maxRecDepth 100000 in
set_option maxHeartbeats 0 in
theorem c_X0_change {l : Launch} {D : va_G} {k : Nat → ClassId} {ad : Nat → Nat} (had : InjN 68 ad) (M : Mem) (o : Nat) (ho : kBay o) (a1 : Int32) (a2 : Int32) : Met l yX0_change (Cond.code yX0_change cX0_change 4 (some .int) :: wsL_law) rm_X0_change (va_Pc [.ref (ad o), .int a1, .int a2] (GW 68 ad D k (cC ad k M))) (va_Qi (fun r u => f_X0_change M o a1 a2 = (r, u)) (fun u t => GW 68 ad D k (cC ad k u) t) (AW 68 ad)) 0 0 (AW 68 ad) := by
  refine met_i (g := cC ad k) (M := M) (plainFor_of_name (by decide)) (Nat.le_of_ble_eq_true rfl) ?_
  intro p e s m args below meth c Q ls hx hb hml hG hown hK hret hP hS hl
  have hl : lv_has ls 4 [(0, .ref (ad o)), (1, .int a1), (2, .int a2)] := hl
  obtain ⟨V, hV⟩ : ∃ V, f_X0_change M o a1 a2 = V := ⟨_, rfl⟩
  have he := hV
  unfold f_X0_change at he
  refine lv_aload_n hx hb dX0_change_0 rfl (lv_at hl 0 rfl) ?_
  refine lv_iload_n hx hb dX0_change_1 rfl (lv_at hl 1 rfl) ?_
  refine call_i [.int a1] [] hx hb hml hG hown hK (c_X0_setting had M o ho a1) gw_6_13 gm_X0_setting gd_X0_setting rfl rfl ⟨Nat.le_of_ble_eq_true rfl, Nat.le_of_ble_eq_true rfl⟩ ⟨Nat.le_refl _, Nat.le_refl _⟩ (rX0 hK hP ho) hP (fun _ h => h) hS rfl hl.1 rfl (Nat.le_of_ble_eq_true rfl) dX0_change_2 (fun r_1 u_3 H locs hF_2 hP hS => ?_)
  obtain ⟨hF_2, hu⟩ := hF_2; rw [hu] at hP; subst hF_2
  refine lv_topi (fun y_4 ey_4 => ?_)
  have he := bnd_at he ey_4
  refine lv_istore_n (lv' := [(3, .int y_4), (0, .ref (ad o)), (1, .int a1), (2, .int a2)]) hx hb dX0_change_5 rfl hl (by decide) rfl (fun ls hl => ?_)
  refine lv_iload_n hx hb dX0_change_6 rfl (lv_at hl 2 rfl) ?_
  obtain ⟨M_18, hr_5, he⟩ := bnd_ex he
  have j82 : ∀ (H : Heap) (locs : List Loc) (ls : Array Slot), va_P D vwCl (wld 68 ad (cC ad k M_18)) H → va_S (AW 68 ad) s.heap H locs → lv_has ls 4 [(3, .int y_4)] → W p l e rm_X0_change s m args below meth c H locs 0 0 Q (F0 m 82 ls []) := by
    intro H locs ls hP hS hl
    refine lv_iload_n hx hb dX0_change_82 rfl (lv_at hl 0 rfl) ?_
    exact hret _ _ _ _ _ _ (hV.trans he.symm) hP hS dX0_change_83
  by_cases hw_6 : a1 = 0
  · have hr_5 := ite_t hr_5 hw_6
    refine lv_tableIn (tgt := 36) hx hb dX0_change_7 (by rw [hw_6]; decide) (by rw [hw_6]; decide) (by rw [hw_6]; rfl) (by decide) ?_
    refine lv_aload_n hx hb dX0_change_36 rfl (lv_at hl 1 rfl) ?_
    refine lv_iload_n hx hb dX0_change_37 rfl (lv_at hl 3 rfl) ?_
    refine pX0_0 hx hb hG hown hK hP had AW_in hS ho gw_2_9 dX0_change_38 (fun H locs hP hS => ?_)
    obtain ⟨M_7, eM_7⟩ : ∃ y : Mem, y = up2 M o 0 a2 := ⟨_, rfl⟩
    rw [← eM_7] at hP
    have hr_5 := bnd_at hr_5 eM_7
    refine lv_goto (tgt := 82) hx hb dX0_change_41 (by decide) ?_
    cases hr_5
    exact j82 _ _ _ hP hS (lv_sub hl [0] rfl)
  · have hr_5 := ite_f hr_5 hw_6
    by_cases hw_8 : a1 = 1
    · have hr_5 := ite_t hr_5 hw_8
      refine lv_tableIn (tgt := 44) hx hb dX0_change_7 (by rw [hw_8]; decide) (by rw [hw_8]; decide) (by rw [hw_8]; rfl) (by decide) ?_
      refine lv_aload_n hx hb dX0_change_44 rfl (lv_at hl 1 rfl) ?_
      refine lv_iload_n hx hb dX0_change_45 rfl (lv_at hl 3 rfl) ?_
      refine pX0_1 hx hb hG hown hK hP had AW_in hS ho gw_6_11 dX0_change_46 (fun H locs hP hS => ?_)
      obtain ⟨M_9, eM_9⟩ : ∃ y : Mem, y = up2 M o 1 a2 := ⟨_, rfl⟩
      rw [← eM_9] at hP
      have hr_5 := bnd_at hr_5 eM_9
      refine lv_goto (tgt := 82) hx hb dX0_change_49 (by decide) ?_
      cases hr_5
      exact j82 _ _ _ hP hS (lv_sub hl [0] rfl)
    · have hr_5 := ite_f hr_5 hw_8
      by_cases hw_10 : a1 = 2
      · have hr_5 := ite_t hr_5 hw_10
        refine lv_tableIn (tgt := 52) hx hb dX0_change_7 (by rw [hw_10]; decide) (by rw [hw_10]; decide) (by rw [hw_10]; rfl) (by decide) ?_
        refine lv_aload_n hx hb dX0_change_52 rfl (lv_at hl 1 rfl) ?_
        refine lv_iload_n hx hb dX0_change_53 rfl (lv_at hl 3 rfl) ?_
        refine pX0_2 hx hb hG hown hK hP had AW_in hS ho gw_2_10 dX0_change_54 (fun H locs hP hS => ?_)
        obtain ⟨M_11, eM_11⟩ : ∃ y : Mem, y = up2 M o 2 a2 := ⟨_, rfl⟩
        rw [← eM_11] at hP
        have hr_5 := bnd_at hr_5 eM_11
        refine lv_goto (tgt := 82) hx hb dX0_change_57 (by decide) ?_
        cases hr_5
        exact j82 _ _ _ hP hS (lv_sub hl [0] rfl)
      · have hr_5 := ite_f hr_5 hw_10
        by_cases hw_12 : a1 = 3
        · have hr_5 := ite_t hr_5 hw_12
          refine lv_tableIn (tgt := 60) hx hb dX0_change_7 (by rw [hw_12]; decide) (by rw [hw_12]; decide) (by rw [hw_12]; rfl) (by decide) ?_
          refine lv_aload_n hx hb dX0_change_60 rfl (lv_at hl 1 rfl) ?_
          refine lv_iload_n hx hb dX0_change_61 rfl (lv_at hl 3 rfl) ?_
          refine pX0_3 hx hb hG hown hK hP had AW_in hS ho gw_2_11 dX0_change_62 (fun H locs hP hS => ?_)
          obtain ⟨M_13, eM_13⟩ : ∃ y : Mem, y = up2 M o 3 a2 := ⟨_, rfl⟩
          rw [← eM_13] at hP
          have hr_5 := bnd_at hr_5 eM_13
          refine lv_goto (tgt := 82) hx hb dX0_change_65 (by decide) ?_
          cases hr_5
          exact j82 _ _ _ hP hS (lv_sub hl [0] rfl)
        · have hr_5 := ite_f hr_5 hw_12
          refine lv_tableOut (tgt := 68) hx hb dX0_change_7 (by have q0 : a1.toInt ≠ 0 := ne_I hw_6; have q1 : a1.toInt ≠ 1 := ne_I hw_8; have q2 : a1.toInt ≠ 2 := ne_I hw_10; have q3 : a1.toInt ≠ 3 := ne_I hw_12; omega) (by decide) ?_
          refine lv_aload_n hx hb dX0_change_68 rfl (lv_at hl 1 rfl) ?_
          refine lv_iload_n hx hb dX0_change_69 rfl (lv_at hl 3 rfl) ?_
          refine pX0_4 hx hb hG hown hK hP had AW_in hS ho gw_6_12 dX0_change_70 (fun H locs hP hS => ?_)
          obtain ⟨M_14, eM_14⟩ : ∃ y : Mem, y = up2 M o 4 a2 := ⟨_, rfl⟩
          rw [← eM_14] at hP
          have hr_5 := bnd_at hr_5 eM_14
          refine lv_aload_n hx hb dX0_change_73 rfl (lv_at hl 1 rfl) ?_
          refine gX0_6 hx hb hG hown hK hP ho gw_2_17 dX0_change_74 ?_
          refine lv_bipush (v := 100) hx hb dX0_change_77 (by decide) ?_
          refine callS_v [.ref (ad (o + 6)), .int 100] [] hx hb hml hG hown hK (c_J7_fill_53178 had M_14 (o + 6) (kI_win (kR_win ho)) 100) gw_2_22 gm_J7_fill_53178 gd_J7_fill_53178 rfl rfl ⟨Nat.le_of_ble_eq_true rfl, Nat.le_of_ble_eq_true rfl⟩ ⟨Nat.le_refl _, Nat.le_refl _⟩ hP (fun _ h => h) hS rfl hl.1 rfl (Nat.le_of_ble_eq_true rfl) dX0_change_79 (fun M_17 H locs hF_16 hP hS => ?_)
          have hr_5 := bnd_at hr_5 hF_16.symm
          cases hr_5
          exact j82 _ _ _ hP hS (lv_sub hl [0] rfl)
def rm_X1_gain : Room := { frames := 1, cells := 0, slots := 0, locals := 15 }
theorem gm_X1_gain : Cond.instanceMethod yX1_gain ∈ wsL_law ∧ Cond.selects RX1 yX1_gain yX1_gain ∈ wsL_law ∧ Cond.initialized RX1 ∈ wsL_law ∧ Cond.code yX1_gain cX1_gain 3 none ∈ wsL_law := ⟨gw_38_15, gw_38_16, gw_3_9, gw_38_17⟩
theorem gd_X1_gain : yX1_gain.cls = RX1 ∧ yX1_gain.cls ≠ "java/lang/invoke/MethodHandle" ∧ yX1_gain.cls ≠ "java/lang/invoke/VarHandle" ∧ (parseMethodDescriptor yX1_gain.desc).map (fun d => d.parameters.length) = some 2 := by decide +kernel
set_option maxRecDepth 100000 in
set_option maxHeartbeats 0 in
theorem c_X1_gain {l : Launch} {D : va_G} {k : Nat → ClassId} {ad : Nat → Nat} (had : InjN 68 ad) (M : Mem) (o : Nat) (ho : kBoat o) (a1 : Int32) (a2 : Int32) : Met l yX1_gain (Cond.code yX1_gain cX1_gain 3 none :: wsL_law) rm_X1_gain (va_Pc [.ref (ad o), .int a1, .int a2] (GW 68 ad D k (cC ad k M))) (va_Qv (fun u => f_X1_gain M o a1 a2 = u) (fun u t => GW 68 ad D k (cC ad k u) t) (AW 68 ad)) 0 0 (AW 68 ad) := by
  refine met_v (g := cC ad k) (M := M) (plainFor_of_name (by decide)) (Nat.le_of_ble_eq_true rfl) ?_
  intro p e s m args below meth c Q ls hx hb hml hG hown hK hret hP hS hl
  have hl : lv_has ls 3 [(0, .ref (ad o)), (1, .int a1), (2, .int a2)] := hl
  obtain ⟨V, hV⟩ : ∃ V, f_X1_gain M o a1 a2 = V := ⟨_, rfl⟩
  have he := hV
  unfold f_X1_gain at he
  refine lv_aload_n hx hb dX1_gain_0 rfl (lv_at hl 0 rfl) ?_
  refine lv_aload_n hx hb dX1_gain_1 rfl (lv_at hl 0 rfl) ?_
  refine gX1_4 hx hb hG hown hK hP ho gw_15_13 dX1_gain_2 ?_
  refine lv_iload_n hx hb dX1_gain_5 rfl (lv_at hl 2 rfl) ?_
  refine lv_aload_n hx hb dX1_gain_6 rfl (lv_at hl 0 rfl) ?_
  refine gX1_4 hx hb hG hown hK hP ho gw_15_13 dX1_gain_7 ?_
  refine lv_iload_n hx hb dX1_gain_10 rfl (lv_at hl 1 rfl) ?_
  refine lv_iadd hx hb dX1_gain_11 ?_
  refine w_min hx hb hml hG hown gw_20_3 (Nat.le_of_ble_eq_true rfl) (Nat.le_of_ble_eq_true rfl) hl.1 ⟨Nat.le_refl _, Nat.le_refl _⟩ dX1_gain_12 ?_
  refine w_max hx hb hml hG hown gw_20_2 (Nat.le_of_ble_eq_true rfl) (Nat.le_of_ble_eq_true rfl) hl.1 ⟨Nat.le_refl _, Nat.le_refl _⟩ dX1_gain_15 ?_
  refine pX1_4 hx hb hG hown hK hP had AW_in hS ho gw_15_13 dX1_gain_18 (fun H locs hP hS => ?_)
  obtain ⟨M_1, eM_1⟩ : ∃ y : Mem, y = up2 M o 4 (mx (M o 4) (mn a2 ((M o 4) + a1))) := ⟨_, rfl⟩
  rw [← eM_1] at hP
  have he := bnd_at he eM_1
  exact hret _ _ _ _ _ (hV.trans he.symm) hP hS dX1_gain_21
def rm_X6_firstWinsWith : Room := { frames := 28, cells := 0, slots := 0, locals := 916 }
theorem gm_X6_firstWinsWith : Cond.instanceMethod yX6_firstWinsWith ∈ wsL_law ∧ Cond.selects RX6 yX6_firstWinsWith yX6_firstWinsWith ∈ wsL_law ∧ Cond.initialized RX6 ∈ wsL_law ∧ Cond.code yX6_firstWinsWith cX6_firstWinsWith 4 (some .boolean) ∈ wsL_law := ⟨gw_38_11, gw_38_12, gw_1_2, gw_38_13⟩
theorem gd_X6_firstWinsWith : yX6_firstWinsWith.cls = RX6 ∧ yX6_firstWinsWith.cls ≠ "java/lang/invoke/MethodHandle" ∧ yX6_firstWinsWith.cls ≠ "java/lang/invoke/VarHandle" ∧ (parseMethodDescriptor yX6_firstWinsWith.desc).map (fun d => d.parameters.length) = some 1 := by decide +kernel
set_option maxRecDepth 100000 in
set_option maxHeartbeats 0 in
theorem c_X6_firstWinsWith {l : Launch} {D : va_G} {k : Nat → ClassId} {ad : Nat → Nat} (had : InjN 68 ad) (M : Mem) (a1 : Int32) : Met l yX6_firstWinsWith (Cond.code yX6_firstWinsWith cX6_firstWinsWith 4 (some .boolean) :: wsL_law) rm_X6_firstWinsWith (va_Pc [.ref (ad 0), .int a1] (GW 68 ad D k (cC ad k M))) (va_Qi (fun r u => (r = 0 ∨ r = 1) ∧ f_X6_firstWinsWith M a1 = (r, u)) (fun u t => GW 68 ad D k (cC ad k u) t) (AW 68 ad)) 0 0 (AW 68 ad) := by
  refine met_z (g := cC ad k) (M := M) (plainFor_of_name (by decide)) (Nat.le_of_ble_eq_true rfl) ?_
  intro p e s m args below meth c Q ls hx hb hml hG hown hK hret hP hS hl
  have hl : lv_has ls 4 [(0, .ref (ad 0)), (1, .int a1)] := hl
  obtain ⟨V, hV⟩ : ∃ V, f_X6_firstWinsWith M a1 = V := ⟨_, rfl⟩
  have he := hV
  unfold f_X6_firstWinsWith at he
  refine lv_aload_n hx hb dX6_firstWinsWith_0 rfl (lv_at hl 0 rfl) ?_
  refine gX6_6 hx hb hG hown hK hP rfl gw_2_0 dX6_firstWinsWith_1 ?_
  refine lv_aload_n hx hb dX6_firstWinsWith_4 rfl (lv_at hl 0 rfl) ?_
  refine gX6_1 hx hb hG hown hK hP rfl gw_1_20 dX6_firstWinsWith_5 ?_
  refine call_v [.ref (ad 13)] [] hx hb hml hG hown hK (c_X3_take had M 15 (by decide) 13 (by decide)) gw_28_12 gm_X3_take gd_X3_take rfl rfl ⟨Nat.le_of_ble_eq_true rfl, Nat.le_of_ble_eq_true rfl⟩ ⟨Nat.le_refl _, Nat.le_refl _⟩ (rX3 hK hP (by decide)) hP (fun _ h => h) hS rfl hl.1 rfl (Nat.le_of_ble_eq_true rfl) dX6_firstWinsWith_8 (fun M_3 H locs hF_2 hP hS => ?_)
  have he := bnd_at he hF_2.symm
  refine lv_aload_n hx hb dX6_firstWinsWith_11 rfl (lv_at hl 0 rfl) ?_
  refine gX6_6 hx hb hG hown hK hP rfl gw_2_0 dX6_firstWinsWith_12 ?_
  refine lv_iconst (v := 0) hx hb dX6_firstWinsWith_15 (by decide) ?_
  refine call_e [.int 0] [] hx hb hml hG hown hK (c_X3_boatAt had M_3 15 (by decide) 0) gw_16_12 gm_X3_boatAt gd_X3_boatAt rfl rfl ⟨Nat.le_of_ble_eq_true rfl, Nat.le_of_ble_eq_true rfl⟩ ⟨Nat.le_refl _, Nat.le_refl _⟩ (rX3 hK hP (by decide)) hP (fun _ h => h) hS rfl hl.1 rfl (Nat.le_of_ble_eq_true rfl) dX6_firstWinsWith_16 (fun r_4 u_6 H locs hF_5 hP hS => ?_)
  obtain ⟨hz_7, hF_5, hu⟩ := hF_5; rw [hu] at hP
  rcases r_4 with _ | b_8
  · have he := oel_n he hF_5
    refine lv_astore_nN (lv' := [(2, .null), (0, .ref (ad 0)), (1, .int a1)]) hx hb dX6_firstWinsWith_19 rfl hl (by decide) rfl (fun ls hl => ?_)
    refine lv_aload_n hx hb dX6_firstWinsWith_20 rfl (lv_at hl 1 rfl) ?_
    refine gX6_6 hx hb hG hown hK hP rfl gw_2_0 dX6_firstWinsWith_21 ?_
    refine lv_iconst (v := 1) hx hb dX6_firstWinsWith_24 (by decide) ?_
    refine call_e [.int 1] [] hx hb hml hG hown hK (c_X3_boatAt had M_3 15 (by decide) 1) gw_16_12 gm_X3_boatAt gd_X3_boatAt rfl rfl ⟨Nat.le_of_ble_eq_true rfl, Nat.le_of_ble_eq_true rfl⟩ ⟨Nat.le_refl _, Nat.le_refl _⟩ (rX3 hK hP (by decide)) hP (fun _ h => h) hS rfl hl.1 rfl (Nat.le_of_ble_eq_true rfl) dX6_firstWinsWith_25 (fun r_9 u_11 H locs hF_10 hP hS => ?_)
    obtain ⟨hz_12, hF_10, hu⟩ := hF_10; rw [hu] at hP
    rcases r_9 with _ | b_13
    · have he := oel_n he hF_10
      refine lv_astore_nN (lv' := [(3, .null), (2, .null), (0, .ref (ad 0)), (1, .int a1)]) hx hb dX6_firstWinsWith_28 rfl hl (by decide) rfl (fun ls hl => ?_)
      refine lv_aload_nN hx hb dX6_firstWinsWith_29 rfl (lv_at hl 1 rfl) ?_
      refine lv_ifnullN (tgt := 37) hx hb dX6_firstWinsWith_30 (by decide) ?_
      refine lv_iconst (v := 0) hx hb dX6_firstWinsWith_37 (by decide) ?_
      exact hret _ _ _ _ _ _ ⟨(Or.inl rfl), (hV.trans he.symm)⟩ (nz01 (Or.inl rfl)) hP hS dX6_firstWinsWith_38
    · have he := oel_s he hF_10
      refine lv_astore_n (lv' := [(3, .ref (ad b_13)), (2, .null), (0, .ref (ad 0)), (1, .int a1)]) hx hb dX6_firstWinsWith_28 rfl hl (by decide) rfl (fun ls hl => ?_)
      refine lv_aload_nN hx hb dX6_firstWinsWith_29 rfl (lv_at hl 1 rfl) ?_
      refine lv_ifnullN (tgt := 37) hx hb dX6_firstWinsWith_30 (by decide) ?_
      refine lv_iconst (v := 0) hx hb dX6_firstWinsWith_37 (by decide) ?_
      exact hret _ _ _ _ _ _ ⟨(Or.inl rfl), (hV.trans he.symm)⟩ (nz01 (Or.inl rfl)) hP hS dX6_firstWinsWith_38
  · have he := oel_s he hF_5
    refine lv_astore_n (lv' := [(2, .ref (ad b_8)), (0, .ref (ad 0)), (1, .int a1)]) hx hb dX6_firstWinsWith_19 rfl hl (by decide) rfl (fun ls hl => ?_)
    refine lv_aload_n hx hb dX6_firstWinsWith_20 rfl (lv_at hl 1 rfl) ?_
    refine gX6_6 hx hb hG hown hK hP rfl gw_2_0 dX6_firstWinsWith_21 ?_
    refine lv_iconst (v := 1) hx hb dX6_firstWinsWith_24 (by decide) ?_
    refine call_e [.int 1] [] hx hb hml hG hown hK (c_X3_boatAt had M_3 15 (by decide) 1) gw_16_12 gm_X3_boatAt gd_X3_boatAt rfl rfl ⟨Nat.le_of_ble_eq_true rfl, Nat.le_of_ble_eq_true rfl⟩ ⟨Nat.le_refl _, Nat.le_refl _⟩ (rX3 hK hP (by decide)) hP (fun _ h => h) hS rfl hl.1 rfl (Nat.le_of_ble_eq_true rfl) dX6_firstWinsWith_25 (fun r_14 u_16 H locs hF_15 hP hS => ?_)
    obtain ⟨hz_17, hF_15, hu⟩ := hF_15; rw [hu] at hP
    rcases r_14 with _ | b_18
    · have he := oel_n he hF_15
      refine lv_astore_nN (lv' := [(3, .null), (2, .ref (ad b_8)), (0, .ref (ad 0)), (1, .int a1)]) hx hb dX6_firstWinsWith_28 rfl hl (by decide) rfl (fun ls hl => ?_)
      refine lv_aload_n hx hb dX6_firstWinsWith_29 rfl (lv_at hl 1 rfl) ?_
      refine lv_ifnull hx hb dX6_firstWinsWith_30 ?_
      refine lv_aload_nN hx hb dX6_firstWinsWith_33 rfl (lv_at hl 0 rfl) ?_
      refine lv_ifnonnullN hx hb dX6_firstWinsWith_34 ?_
      refine lv_iconst (v := 0) hx hb dX6_firstWinsWith_37 (by decide) ?_
      exact hret _ _ _ _ _ _ ⟨(Or.inl rfl), (hV.trans he.symm)⟩ (nz01 (Or.inl rfl)) hP hS dX6_firstWinsWith_38
    · have he := oel_s he hF_15
      refine lv_astore_n (lv' := [(3, .ref (ad b_18)), (2, .ref (ad b_8)), (0, .ref (ad 0)), (1, .int a1)]) hx hb dX6_firstWinsWith_28 rfl hl (by decide) rfl (fun ls hl => ?_)
      refine lv_aload_n hx hb dX6_firstWinsWith_29 rfl (lv_at hl 1 rfl) ?_
      refine lv_ifnull hx hb dX6_firstWinsWith_30 ?_
      refine lv_aload_n hx hb dX6_firstWinsWith_33 rfl (lv_at hl 0 rfl) ?_
      refine lv_ifnonnull (tgt := 39) hx hb dX6_firstWinsWith_34 (by decide) ?_
      refine lv_aload_n hx hb dX6_firstWinsWith_39 rfl (lv_at hl 1 rfl) ?_
      refine lv_iload_n hx hb dX6_firstWinsWith_40 rfl (lv_at hl 3 rfl) ?_
      refine lv_aload_n hx hb dX6_firstWinsWith_41 rfl (lv_at hl 2 rfl) ?_
      refine gX6_5 hx hb hG hown hK hP rfl gw_1_23 dX6_firstWinsWith_42 ?_
      refine gX0_0 hx hb hG hown hK hP (by decide) gw_33_11 dX6_firstWinsWith_45 ?_
      refine call_v [.int a1, .int (M_3 3 0)] [] hx hb hml hG hown hK (c_X1_gain had M_3 b_8 (hz_7 _ rfl) a1 (M_3 3 0)) gw_38_14 gm_X1_gain gd_X1_gain rfl rfl ⟨Nat.le_of_ble_eq_true rfl, Nat.le_of_ble_eq_true rfl⟩ ⟨Nat.le_refl _, Nat.le_refl _⟩ (rX1 hK hP (hz_7 _ rfl)) hP (fun _ h => h) hS rfl hl.1 rfl (Nat.le_of_ble_eq_true rfl) dX6_firstWinsWith_48 (fun M_21 H locs hF_20 hP hS => ?_)
      have he := bnd_at he hF_20.symm
      refine lv_aload_n hx hb dX6_firstWinsWith_51 rfl (lv_at hl 2 rfl) ?_
      refine gX6_6 hx hb hG hown hK hP rfl gw_2_0 dX6_firstWinsWith_52 ?_
      refine lv_aload_n hx hb dX6_firstWinsWith_55 rfl (lv_at hl 2 rfl) ?_
      refine gX6_5 hx hb hG hown hK hP rfl gw_1_23 dX6_firstWinsWith_56 ?_
      refine lv_sipush (v := 400) hx hb dX6_firstWinsWith_59 (by decide) ?_
      refine call_v [.ref (ad 3), .int 400] [] hx hb hml hG hown hK (c_X3_goOn had M_21 15 (by decide) 3 (by decide) 400) gw_19_8 gm_X3_goOn gd_X3_goOn rfl rfl ⟨Nat.le_of_ble_eq_true rfl, Nat.le_of_ble_eq_true rfl⟩ ⟨Nat.le_refl _, Nat.le_refl _⟩ (rX3 hK hP (by decide)) hP (fun _ h => h) hS rfl hl.1 rfl (Nat.le_of_ble_eq_true rfl) dX6_firstWinsWith_62 (fun M_24 H locs hF_23 hP hS => ?_)
      have he := bnd_at he hF_23.symm
      refine lv_aload_n hx hb dX6_firstWinsWith_65 rfl (lv_at hl 1 rfl) ?_
      refine lv_aload_n hx hb dX6_firstWinsWith_66 rfl (lv_at hl 0 rfl) ?_
      refine call_i [.ref (ad b_18)] [] hx hb hml hG hown hK (c_X1_isAheadOf had M_24 b_8 (hz_7 _ rfl) b_18 (hz_17 _ rfl)) gw_38_18 gm_X1_isAheadOf gd_X1_isAheadOf rfl rfl ⟨Nat.le_of_ble_eq_true rfl, Nat.le_of_ble_eq_true rfl⟩ ⟨Nat.le_refl _, Nat.le_refl _⟩ (rX1 hK hP (hz_7 _ rfl)) hP (fun _ h => h) hS rfl hl.1 rfl (Nat.le_of_ble_eq_true rfl) dX6_firstWinsWith_67 (fun r_25 u_27 H locs hF_26 hP hS => ?_)
      obtain ⟨hz_28, hF_26, hu⟩ := hF_26; rw [hu] at hP; subst hF_26
      exact hret _ _ _ _ _ _ ⟨hz_28, (hV.trans he.symm)⟩ (nz01 hz_28) hP hS dX6_firstWinsWith_70
