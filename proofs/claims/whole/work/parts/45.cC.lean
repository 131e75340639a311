-- @needs 12_dec 13_dec 14_dec 15_dec 31_hC 44_cC
def rm_X3_hasEnded : Room := { frames := 2, cells := 0, slots := 0, locals := 42 }
theorem gm_X3_hasEnded : Cond.instanceMethod yX3_hasEnded ∈ wsL_law ∧ Cond.selects RX3 yX3_hasEnded yX3_hasEnded ∈ wsL_law ∧ Cond.initialized RX3 ∈ wsL_law ∧ Cond.code yX3_hasEnded cX3_hasEnded 1 (some .boolean) ∈ wsL_law := ⟨gw_18_10, gw_18_11, gw_1_19, gw_18_12⟩
theorem gd_X3_hasEnded : yX3_hasEnded.cls = RX3 ∧ yX3_hasEnded.cls ≠ "java/lang/invoke/MethodHandle" ∧ yX3_hasEnded.cls ≠ "java/lang/invoke/VarHandle" ∧ (parseMethodDescriptor yX3_hasEnded.desc).map (fun d => d.parameters.length) = some 0 := by decide +kernel
set_option maxRecDepth 100000 in
set_option maxHeartbeats 0 in
theorem c_X3_hasEnded {l : Launch} {D : va_G} {k : Nat → ClassId} {ad : Nat → Nat} (had : InjN 74 ad) (M : Mem) (o : Nat) (ho : kRace o) : Met l yX3_hasEnded (Cond.code yX3_hasEnded cX3_hasEnded 1 (some .boolean) :: wsL_law) rm_X3_hasEnded (va_Pc [.ref (ad o)] (GW 74 ad D k (cC ad k M))) (va_Qi (fun r u => (r = 0 ∨ r = 1) ∧ f_X3_hasEnded M o = r ∧ u = M) (fun u t => GW 74 ad D k (cC ad k u) t) (AW 74 ad)) 0 0 (AW 74 ad) := by
  refine met_z (g := cC ad k) (M := M) (plainFor_of_name (by decide)) (Nat.le_of_ble_eq_true rfl) ?_
  intro p e s m args below meth c Q ls hx hb hml hG hown hK hret hP hS hl
  have hl : lv_has ls 1 [(0, .ref (ad o))] := hl
  obtain ⟨V, hV⟩ : ∃ V, f_X3_hasEnded M o = V := ⟨_, rfl⟩
  have he := hV
  unfold f_X3_hasEnded at he
  refine lv_aload_n hx hb dX3_hasEnded_0 rfl (lv_at hl 0 rfl) ?_
  refine gX3_2 hx hb hG hown hK hP ho gw_18_13 dX3_hasEnded_1 ?_
  refine lv_sipush (v := 400) hx hb dX3_hasEnded_4 (by decide) ?_
  obtain ⟨t_8, hr_2, he⟩ := bnd_ex he
  have j33 : ∀ (H : Heap) (locs : List Loc) (ls : Array Slot), (t_8 = 0 ∨ t_8 = 1) → va_P D vwCl (wld 74 ad (cC ad k M)) H → va_S (AW 74 ad) s.heap H locs → lv_has ls 1 [] → W p l e rm_X3_hasEnded s m args below meth c H locs 0 0 Q (F0 m 33 ls [.int t_8]) := by
    intro H locs ls zt_8 hP hS hl
    exact hret _ _ _ _ _ _ ⟨zt_8, (hV.trans he.symm), rfl⟩ (nz01 zt_8) hP hS dX3_hasEnded_33
  refine lv_icmp_ge (tgt := 28) hx hb dX3_hasEnded_7 (by decide) (fun hc_1 => ?_) (fun hc_1 => ?_)
  · have hr_2 := ite_t hr_2 hc_1
    refine lv_iconst (v := 1) hx hb dX3_hasEnded_28 (by decide) ?_
    refine lv_goto (tgt := 33) hx hb dX3_hasEnded_29 (by decide) ?_
    cases hr_2
    exact j33 _ _ _ (Or.inr rfl) hP hS (lv_sub hl [] rfl)
  · have hr_2 := ite_f hr_2 hc_1
    refine lv_aload_n hx hb dX3_hasEnded_10 rfl (lv_at hl 0 rfl) ?_
    refine gX3_1 hx hb hG hown hK hP ho gw_6_7 dX3_hasEnded_11 ?_
    refine lv_if_le (tgt := 32) hx hb dX3_hasEnded_14 (by decide) (fun hc_3 => ?_) (fun hc_3 => ?_)
    · have hr_2 := ite_t hr_2 hc_3
      refine lv_iconst (v := 0) hx hb dX3_hasEnded_32 (by decide) ?_
      cases hr_2
      exact j33 _ _ _ (Or.inl rfl) hP hS (lv_sub hl [] rfl)
    · have hr_2 := ite_f hr_2 hc_3
      refine lv_aload_n hx hb dX3_hasEnded_17 rfl (lv_at hl 0 rfl) ?_
      refine call_i [] [] hx hb hml hG hown hK (c_X3_howManyIn had M o ho) gw_18_14 gm_X3_howManyIn gd_X3_howManyIn rfl rfl ⟨Nat.le_of_ble_eq_true rfl, Nat.le_of_ble_eq_true rfl⟩ ⟨Nat.le_refl _, Nat.le_refl _⟩ (rX3 hK hP ho) hP (fun _ h => h) hS rfl hl.1 rfl (Nat.le_of_ble_eq_true rfl) dX3_hasEnded_18 (fun r_4 u_6 H locs hF_5 hP hS => ?_)
      obtain ⟨hF_5, hu⟩ := hF_5; rw [hu] at hP; subst hF_5
      refine lv_aload_n hx hb dX3_hasEnded_21 rfl (lv_at hl 0 rfl) ?_
      refine gX3_1 hx hb hG hown hK hP ho gw_6_7 dX3_hasEnded_22 ?_
      refine lv_icmp_ne (tgt := 32) hx hb dX3_hasEnded_25 (by decide) (fun hc_7 => ?_) (fun hc_7 => ?_)
      · have hr_2 := ite_t hr_2 hc_7
        refine lv_iconst (v := 0) hx hb dX3_hasEnded_32 (by decide) ?_
        cases hr_2
        exact j33 _ _ _ (Or.inl rfl) hP hS (lv_sub hl [] rfl)
      · have hr_2 := ite_f hr_2 (fun q => q hc_7)
        refine lv_iconst (v := 1) hx hb dX3_hasEnded_28 (by decide) ?_
        refine lv_goto (tgt := 33) hx hb dX3_hasEnded_29 (by decide) ?_
        cases hr_2
        exact j33 _ _ _ (Or.inr rfl) hP hS (lv_sub hl [] rfl)
def rm_X0_tideAt : Room := { frames := 1, cells := 0, slots := 0, locals := 13 }
theorem gm_X0_tideAt : Cond.instanceMethod yX0_tideAt ∈ wsL_law ∧ Cond.selects RX0 yX0_tideAt yX0_tideAt ∈ wsL_law ∧ Cond.initialized RX0 ∈ wsL_law ∧ Cond.code yX0_tideAt cX0_tideAt 2 (some .int) ∈ wsL_law := ⟨gw_19_21, gw_19_22, gw_1_15, gw_19_23⟩
theorem gd_X0_tideAt : yX0_tideAt.cls = RX0 ∧ yX0_tideAt.cls ≠ "java/lang/invoke/MethodHandle" ∧ yX0_tideAt.cls ≠ "java/lang/invoke/VarHandle" ∧ (parseMethodDescriptor yX0_tideAt.desc).map (fun d => d.parameters.length) = some 1 := by decide +kernel
set_option maxRecDepth 100000 in
set_option maxHeartbeats 0 in
theorem c_X0_tideAt {l : Launch} {D : va_G} {k : Nat → ClassId} {ad : Nat → Nat} (had : InjN 74 ad) (M : Mem) (o : Nat) (ho : kBay o) (a1 : Int32) : Met l yX0_tideAt (Cond.code yX0_tideAt cX0_tideAt 2 (some .int) :: wsL_law) rm_X0_tideAt (va_Pc [.ref (ad o), .int a1] (GW 74 ad D k (cC ad k M))) (va_Qi (fun r u => f_X0_tideAt M o a1 = r ∧ u = M) (fun u t => GW 74 ad D k (cC ad k u) t) (AW 74 ad)) 0 0 (AW 74 ad) := by
  refine met_i (g := cC ad k) (M := M) (plainFor_of_name (by decide)) (Nat.le_of_ble_eq_true rfl) ?_
  intro p e s m args below meth c Q ls hx hb hml hG hown hK hret hP hS hl
  have hl : lv_has ls 2 [(0, .ref (ad o)), (1, .int a1)] := hl
  obtain ⟨V, hV⟩ : ∃ V, f_X0_tideAt M o a1 = V := ⟨_, rfl⟩
  have he := hV
  unfold f_X0_tideAt at he
  refine lv_iload_n hx hb dX0_tideAt_0 rfl (lv_at hl 1 rfl) ?_
  refine w_abs hx hb hml hG hown gw_20_0 (Nat.le_of_ble_eq_true rfl) (Nat.le_of_ble_eq_true rfl) hl.1 ⟨Nat.le_refl _, Nat.le_refl _⟩ dX0_tideAt_1 ?_
  refine lv_aload_n hx hb dX0_tideAt_4 rfl (lv_at hl 0 rfl) ?_
  refine gX0_2 hx hb hG hown hK hP ho gw_2_10 dX0_tideAt_5 ?_
  obtain ⟨t_3, hr_2, he⟩ := bnd_ex he
  have j24 : ∀ (H : Heap) (locs : List Loc) (ls : Array Slot), va_P D vwCl (wld 74 ad (cC ad k M)) H → va_S (AW 74 ad) s.heap H locs → lv_has ls 2 [] → W p l e rm_X0_tideAt s m args below meth c H locs 0 0 Q (F0 m 24 ls [.int t_3]) := by
    intro H locs ls hP hS hl
    exact hret _ _ _ _ _ _ ⟨hV.trans he.symm, rfl⟩ hP hS dX0_tideAt_24
  refine lv_icmp_gt (tgt := 18) hx hb dX0_tideAt_8 (by decide) (fun hc_1 => ?_) (fun hc_1 => ?_)
  · have hr_2 := ite_t hr_2 hc_1
    refine lv_aload_n hx hb dX0_tideAt_18 rfl (lv_at hl 0 rfl) ?_
    refine gX0_1 hx hb hG hown hK hP ho gw_6_13 dX0_tideAt_19 ?_
    refine lv_iconst (v := 2) hx hb dX0_tideAt_22 (by decide) ?_
    refine lv_idiv hx hb dX0_tideAt_23 (by decide) ?_
    cases hr_2
    exact j24 _ _ _ hP hS (lv_sub hl [] rfl)
  · have hr_2 := ite_f hr_2 hc_1
    refine lv_aload_n hx hb dX0_tideAt_11 rfl (lv_at hl 0 rfl) ?_
    refine gX0_1 hx hb hG hown hK hP ho gw_6_13 dX0_tideAt_12 ?_
    refine lv_goto (tgt := 24) hx hb dX0_tideAt_15 (by decide) ?_
    cases hr_2
    exact j24 _ _ _ hP hS (lv_sub hl [] rfl)
def rm_X1_sail : Room := { frames := 2, cells := 0, slots := 0, locals := 34 }
theorem gm_X1_sail : Cond.instanceMethod yX1_sail ∈ wsL_law ∧ Cond.selects RX1 yX1_sail yX1_sail ∈ wsL_law ∧ Cond.initialized RX1 ∈ wsL_law ∧ Cond.code yX1_sail cX1_sail 5 none ∈ wsL_law := ⟨gw_19_12, gw_19_13, gw_3_11, gw_19_14⟩
theorem gd_X1_sail : yX1_sail.cls = RX1 ∧ yX1_sail.cls ≠ "java/lang/invoke/MethodHandle" ∧ yX1_sail.cls ≠ "java/lang/invoke/VarHandle" ∧ (parseMethodDescriptor yX1_sail.desc).map (fun d => d.parameters.length) = some 3 := by decide +kernel
set_option maxRecDepth 100000 in
set_option maxHeartbeats 0 in
theorem c_X1_sail {l : Launch} {D : va_G} {k : Nat → ClassId} {ad : Nat → Nat} (had : InjN 74 ad) (M : Mem) (o : Nat) (ho : kBoat o) (a1 : Nat) (ha1 : kBay a1) (a2 : Int32) (a3 : Int32) : Met l yX1_sail (Cond.code yX1_sail cX1_sail 5 none :: wsL_law) rm_X1_sail (va_Pc [.ref (ad o), .ref (ad a1), .int a2, .int a3] (GW 74 ad D k (cC ad k M))) (va_Qv (fun u => f_X1_sail M o a1 a2 a3 = u) (fun u t => GW 74 ad D k (cC ad k u) t) (AW 74 ad)) 0 0 (AW 74 ad) := by
  refine met_v (g := cC ad k) (M := M) (plainFor_of_name (by decide)) (Nat.le_of_ble_eq_true rfl) ?_
  intro p e s m args below meth c Q ls hx hb hml hG hown hK hret hP hS hl
  have hl : lv_has ls 5 [(0, .ref (ad o)), (1, .ref (ad a1)), (2, .int a2), (3, .int a3)] := hl
  obtain ⟨V, hV⟩ : ∃ V, f_X1_sail M o a1 a2 a3 = V := ⟨_, rfl⟩
  have he := hV
  unfold f_X1_sail at he
  refine lv_aload_n hx hb dX1_sail_0 rfl (lv_at hl 0 rfl) ?_
  refine call_i [] [] hx hb hml hG hown hK (c_X1_isIn had M o ho) gw_19_19 gm_X1_isIn gd_X1_isIn rfl rfl ⟨Nat.le_of_ble_eq_true rfl, Nat.le_of_ble_eq_true rfl⟩ ⟨Nat.le_refl _, Nat.le_refl _⟩ (rX1 hK hP ho) hP (fun _ h => h) hS rfl hl.1 rfl (Nat.le_of_ble_eq_true rfl) dX1_sail_1 (fun r_1 u_3 H locs hF_2 hP hS => ?_)
  obtain ⟨hz_4, hF_2, hu⟩ := hF_2; rw [hu] at hP; subst hF_2
  refine lv_if_eq (tgt := 8) hx hb dX1_sail_4 (by decide) (fun hc_5 => ?_) (fun hc_5 => ?_)
  · have he := ite_t he hc_5
    refine lv_aload_n hx hb dX1_sail_8 rfl (lv_at hl 0 rfl) ?_
    refine gX1_4 hx hb hG hown hK hP ho gw_15_3 dX1_sail_9 ?_
    refine lv_aload_n hx hb dX1_sail_12 rfl (lv_at hl 1 rfl) ?_
    refine gX0_0 hx hb hG hown hK hP ha1 gw_19_15 dX1_sail_13 ?_
    obtain ⟨M_33, hr_7, he⟩ := bnd_ex he
    have j204 : ∀ (H : Heap) (locs : List Loc) (ls : Array Slot), va_P D vwCl (wld 74 ad (cC ad k M_33)) H → va_S (AW 74 ad) s.heap H locs → lv_has ls 5 [(0, .ref (ad o)), (1, .ref (ad a1)), (3, .int a3)] → W p l e rm_X1_sail s m args below meth c H locs 0 0 Q (F0 m 204 ls []) := by
      intro H locs ls hP hS hl
      refine lv_aload_n hx hb dX1_sail_204 rfl (lv_at hl 0 rfl) ?_
      refine gX1_4 hx hb hG hown hK hP ho gw_15_3 dX1_sail_205 ?_
      refine lv_aload_n hx hb dX1_sail_208 rfl (lv_at hl 1 rfl) ?_
      refine gX0_0 hx hb hG hown hK hP ha1 gw_19_15 dX1_sail_209 ?_
      obtain ⟨M_38, hr_35, he⟩ := bnd_ex he
      have j227 : ∀ (H : Heap) (locs : List Loc) (ls : Array Slot), va_P D vwCl (wld 74 ad (cC ad k M_38)) H → va_S (AW 74 ad) s.heap H locs → lv_has ls 5 [] → W p l e rm_X1_sail s m args below meth c H locs 0 0 Q (F0 m 227 ls []) := by
        intro H locs ls hP hS hl
        exact hret _ _ _ _ _ (hV.trans he.symm) hP hS dX1_sail_227
      refine lv_icmp_lt (tgt := 227) hx hb dX1_sail_212 (by decide) (fun hc_34 => ?_) (fun hc_34 => ?_)
      · have hr_35 := ite_t hr_35 hc_34
        cases hr_35
        exact j227 _ _ _ hP hS (lv_sub hl [] rfl)
      · have hr_35 := ite_f hr_35 hc_34
        refine lv_aload_n hx hb dX1_sail_215 rfl (lv_at hl 0 rfl) ?_
        refine gX1_3 hx hb hG hown hK hP ho gw_15_2 dX1_sail_216 ?_
        refine lv_if_ne (tgt := 227) hx hb dX1_sail_219 (by decide) (fun hc_36 => ?_) (fun hc_36 => ?_)
        · have hr_35 := ite_t hr_35 hc_36
          cases hr_35
          exact j227 _ _ _ hP hS (lv_sub hl [] rfl)
        · have hr_35 := ite_f hr_35 (fun q => q hc_36)
          refine lv_aload_n hx hb dX1_sail_222 rfl (lv_at hl 0 rfl) ?_
          refine lv_iload_n hx hb dX1_sail_223 rfl (lv_at hl 2 rfl) ?_
          refine pX1_7 hx hb hG hown hK hP had AW_in hS ho gw_3_19 dX1_sail_224 (fun H locs hP hS => ?_)
          obtain ⟨M_37, eM_37⟩ : ∃ y : Mem, y = up2 M_33 o 7 a3 := ⟨_, rfl⟩
          rw [← eM_37] at hP
          have hr_35 := bnd_at hr_35 eM_37
          cases hr_35
          exact j227 _ _ _ hP hS (lv_sub hl [] rfl)
    refine lv_icmp_lt (tgt := 58) hx hb dX1_sail_16 (by decide) (fun hc_6 => ?_) (fun hc_6 => ?_)
    · have hr_7 := ite_t hr_7 hc_6
      refine lv_aload_n hx hb dX1_sail_58 rfl (lv_at hl 0 rfl) ?_
      refine gX1_6 hx hb hG hown hK hP ho gw_15_5 dX1_sail_59 ?_
      refine lv_if_le (tgt := 99) hx hb dX1_sail_62 (by decide) (fun hc_8 => ?_) (fun hc_8 => ?_)
      · have hr_7 := ite_t hr_7 hc_8
        refine lv_aload_n hx hb dX1_sail_99 rfl (lv_at hl 0 rfl) ?_
        refine gX1_5 hx hb hG hown hK hP ho gw_15_4 dX1_sail_100 ?_
        obtain ⟨t_11, hr_10, hr_7⟩ := bnd_ex hr_7
        have j121 : ∀ (H : Heap) (locs : List Loc) (ls : Array Slot), va_P D vwCl (wld 74 ad (cC ad k M)) H → va_S (AW 74 ad) s.heap H locs → lv_has ls 5 [(0, .ref (ad o)), (1, .ref (ad a1)), (3, .int a3)] → W p l e rm_X1_sail s m args below meth c H locs 0 0 Q (F0 m 121 ls [.int t_11]) := by
          intro H locs ls hP hS hl
          refine lv_istore (lv' := [(4, .int t_11), (0, .ref (ad o)), (1, .ref (ad a1)), (3, .int a3)]) hx hb dX1_sail_121 hl (by decide) rfl (fun ls hl => ?_)
          refine lv_iload hx hb dX1_sail_123 (lv_at hl 0 rfl) ?_
          refine lv_aload_n hx hb dX1_sail_125 rfl (lv_at hl 1 rfl) ?_
          refine gX1_9 hx hb hG hown hK hP ho gw_19_18 dX1_sail_126 ?_
          obtain ⟨t_14, hr_13, hr_7⟩ := bnd_ex hr_7
          have j137 : ∀ (H : Heap) (locs : List Loc) (ls : Array Slot), va_P D vwCl (wld 74 ad (cC ad k M)) H → va_S (AW 74 ad) s.heap H locs → lv_has ls 5 [(0, .ref (ad o)), (1, .ref (ad a1)), (3, .int a3)] → W p l e rm_X1_sail s m args below meth c H locs 0 0 Q (F0 m 137 ls [.int t_14, .int t_11]) := by
            intro H locs ls hP hS hl
            refine lv_aload_n hx hb dX1_sail_137 rfl (lv_at hl 1 rfl) ?_
            refine lv_aload_n hx hb dX1_sail_138 rfl (lv_at hl 0 rfl) ?_
            refine gX1_3 hx hb hG hown hK hP ho gw_15_2 dX1_sail_139 ?_
            refine call_i [.int (M o 3)] [.int t_14, .int t_11] hx hb hml hG hown hK (c_X0_tideAt had M a1 ha1 (M o 3)) gw_19_20 gm_X0_tideAt gd_X0_tideAt rfl rfl ⟨Nat.le_of_ble_eq_true rfl, Nat.le_of_ble_eq_true rfl⟩ ⟨Nat.le_refl _, Nat.le_refl _⟩ (rX0 hK hP ha1) hP (fun _ h => h) hS rfl hl.1 rfl (Nat.le_of_ble_eq_true rfl) dX1_sail_142 (fun r_15 u_17 H locs hF_16 hP hS => ?_)
            obtain ⟨hF_16, hu⟩ := hF_16; rw [hu] at hP; subst hF_16
            refine lv_iadd hx hb dX1_sail_145 ?_
            refine lv_isub hx hb dX1_sail_146 ?_
            refine lv_topi (fun y_18 ey_18 => ?_)
            have hr_7 := bnd_at hr_7 ey_18
            refine lv_istore (lv' := [(4, .int y_18), (0, .ref (ad o)), (1, .ref (ad a1)), (3, .int a3)]) hx hb dX1_sail_147 hl (by decide) rfl (fun ls hl => ?_)
            refine lv_aload_n hx hb dX1_sail_149 rfl (lv_at hl 1 rfl) ?_
            refine lv_dup hx hb dX1_sail_150 rfl ?_
            refine gX1_4 hx hb hG hown hK hP ho gw_15_3 dX1_sail_151 ?_
            refine lv_iconst (v := 0) hx hb dX1_sail_154 (by decide) ?_
            refine lv_iload hx hb dX1_sail_155 (lv_at hl 0 rfl) ?_
            refine w_max hx hb hml hG hown gw_19_16 (Nat.le_of_ble_eq_true rfl) (Nat.le_of_ble_eq_true rfl) hl.1 ⟨Nat.le_refl _, Nat.le_refl _⟩ dX1_sail_157 ?_
            refine lv_iadd hx hb dX1_sail_160 ?_
            refine pX1_4 hx hb hG hown hK hP had AW_in hS ho gw_15_3 dX1_sail_161 (fun H locs hP hS => ?_)
            obtain ⟨M_19, eM_19⟩ : ∃ y : Mem, y = up2 M o 4 ((M o 4) + (mx 0 y_18)) := ⟨_, rfl⟩
            rw [← eM_19] at hP
            have hr_7 := bnd_at hr_7 eM_19
            refine lv_aload_n hx hb dX1_sail_164 rfl (lv_at hl 1 rfl) ?_
            refine lv_aload_n hx hb dX1_sail_165 rfl (lv_at hl 1 rfl) ?_
            refine gX1_5 hx hb hG hown hK hP ho gw_15_4 dX1_sail_166 ?_
            obtain ⟨t_22, hr_21, hr_7⟩ := bnd_ex hr_7
            have j201 : ∀ (H : Heap) (locs : List Loc) (ls : Array Slot), va_P D vwCl (wld 74 ad (cC ad k M_19)) H → va_S (AW 74 ad) s.heap H locs → lv_has ls 5 [(0, .ref (ad o)), (1, .ref (ad a1)), (3, .int a3)] → W p l e rm_X1_sail s m args below meth c H locs 0 0 Q (F0 m 201 ls [.int t_22, .ref (ad o)]) := by
              intro H locs ls hP hS hl
              refine pX1_3 hx hb hG hown hK hP had AW_in hS ho gw_15_2 dX1_sail_201 (fun H locs hP hS => ?_)
              obtain ⟨M_23, eM_23⟩ : ∃ y : Mem, y = up2 M_19 o 3 t_22 := ⟨_, rfl⟩
              rw [← eM_23] at hP
              have hr_7 := bnd_at hr_7 eM_23
              cases hr_7
              exact j204 _ _ _ hP hS (lv_sub hl [0, 1, 2] rfl)
            refine lv_if_eq (tgt := 188) hx hb dX1_sail_169 (by decide) (fun hc_20 => ?_) (fun hc_20 => ?_)
            · have hr_21 := ite_t hr_21 hc_20
              refine lv_sipush (v := (-200)) hx hb dX1_sail_188 (by decide) ?_
              refine lv_aload_n hx hb dX1_sail_191 rfl (lv_at hl 1 rfl) ?_
              refine gX1_3 hx hb hG hown hK hP ho gw_15_2 dX1_sail_192 ?_
              refine lv_bipush (v := 8) hx hb dX1_sail_195 (by decide) ?_
              refine lv_isub hx hb dX1_sail_197 ?_
              refine w_max hx hb hml hG hown gw_19_16 (Nat.le_of_ble_eq_true rfl) (Nat.le_of_ble_eq_true rfl) hl.1 ⟨Nat.le_refl _, Nat.le_refl _⟩ dX1_sail_198 ?_
              cases hr_21
              exact j201 _ _ _ hP hS (lv_sub hl [1, 2, 3] rfl)
            · have hr_21 := ite_f hr_21 hc_20
              refine lv_sipush (v := 200) hx hb dX1_sail_172 (by decide) ?_
              refine lv_aload_n hx hb dX1_sail_175 rfl (lv_at hl 1 rfl) ?_
              refine gX1_3 hx hb hG hown hK hP ho gw_15_2 dX1_sail_176 ?_
              refine lv_bipush (v := 8) hx hb dX1_sail_179 (by decide) ?_
              refine lv_iadd hx hb dX1_sail_181 ?_
              refine w_min hx hb hml hG hown gw_19_17 (Nat.le_of_ble_eq_true rfl) (Nat.le_of_ble_eq_true rfl) hl.1 ⟨Nat.le_refl _, Nat.le_refl _⟩ dX1_sail_182 ?_
              refine lv_goto (tgt := 201) hx hb dX1_sail_185 (by decide) ?_
              cases hr_21
              exact j201 _ _ _ hP hS (lv_sub hl [1, 2, 3] rfl)
          refine lv_if_eq (tgt := 136) hx hb dX1_sail_129 (by decide) (fun hc_12 => ?_) (fun hc_12 => ?_)
          · have hr_13 := ite_t hr_13 hc_12
            refine lv_iconst (v := 0) hx hb dX1_sail_136 (by decide) ?_
            cases hr_13
            exact j137 _ _ _ hP hS (lv_sub hl [1, 2, 3] rfl)
          · have hr_13 := ite_f hr_13 hc_12
            refine lv_iconst (v := 2) hx hb dX1_sail_132 (by decide) ?_
            refine lv_goto (tgt := 137) hx hb dX1_sail_133 (by decide) ?_
            cases hr_13
            exact j137 _ _ _ hP hS (lv_sub hl [1, 2, 3] rfl)
        refine lv_if_eq (tgt := 115) hx hb dX1_sail_103 (by decide) (fun hc_9 => ?_) (fun hc_9 => ?_)
        · have hr_10 := ite_t hr_10 hc_9
          refine lv_bipush (v := 6) hx hb dX1_sail_115 (by decide) ?_
          refine lv_iload_n hx hb dX1_sail_117 rfl (lv_at hl 2 rfl) ?_
          refine lv_iconst (v := 5) hx hb dX1_sail_118 (by decide) ?_
          refine lv_idiv hx hb dX1_sail_119 (by decide) ?_
          refine lv_iadd hx hb dX1_sail_120 ?_
          cases hr_10
          exact j121 _ _ _ hP hS (lv_sub hl [0, 1, 3] rfl)
        · have hr_10 := ite_f hr_10 hc_9
          refine lv_bipush (v := 6) hx hb dX1_sail_106 (by decide) ?_
          refine lv_iload_n hx hb dX1_sail_108 rfl (lv_at hl 2 rfl) ?_
          refine lv_iconst (v := 5) hx hb dX1_sail_109 (by decide) ?_
          refine lv_idiv hx hb dX1_sail_110 (by decide) ?_
          refine lv_isub hx hb dX1_sail_111 ?_
          refine lv_goto (tgt := 121) hx hb dX1_sail_112 (by decide) ?_
          cases hr_10
          exact j121 _ _ _ hP hS (lv_sub hl [0, 1, 3] rfl)
      · have hr_7 := ite_f hr_7 hc_8
        refine lv_aload_n hx hb dX1_sail_65 rfl (lv_at hl 0 rfl) ?_
        refine lv_dup hx hb dX1_sail_66 rfl ?_
        refine gX1_6 hx hb hG hown hK hP ho gw_15_5 dX1_sail_67 ?_
        refine lv_iconst (v := 1) hx hb dX1_sail_70 (by decide) ?_
        refine lv_isub hx hb dX1_sail_71 ?_
        refine pX1_6 hx hb hG hown hK hP had AW_in hS ho gw_15_5 dX1_sail_72 (fun H locs hP hS => ?_)
        obtain ⟨M_24, eM_24⟩ : ∃ y : Mem, y = up2 M o 6 ((M o 6) - 1) := ⟨_, rfl⟩
        rw [← eM_24] at hP
        have hr_7 := bnd_at hr_7 eM_24
        refine lv_aload_n hx hb dX1_sail_75 rfl (lv_at hl 0 rfl) ?_
        refine lv_iconst (v := 0) hx hb dX1_sail_76 (by decide) ?_
        refine lv_aload_n hx hb dX1_sail_77 rfl (lv_at hl 0 rfl) ?_
        refine gX1_4 hx hb hG hown hK hP ho gw_15_3 dX1_sail_78 ?_
        refine lv_aload_n hx hb dX1_sail_81 rfl (lv_at hl 1 rfl) ?_
        refine lv_aload_n hx hb dX1_sail_82 rfl (lv_at hl 0 rfl) ?_
        refine gX1_3 hx hb hG hown hK hP ho gw_15_2 dX1_sail_83 ?_
        refine call_i [.int (M_24 o 3)] [.int (M_24 o 4), .int 0, .ref (ad o)] hx hb hml hG hown hK (c_X0_tideAt had M_24 a1 ha1 (M_24 o 3)) gw_19_20 gm_X0_tideAt gd_X0_tideAt rfl rfl ⟨Nat.le_of_ble_eq_true rfl, Nat.le_of_ble_eq_true rfl⟩ ⟨Nat.le_refl _, Nat.le_refl _⟩ (rX0 hK hP ha1) hP (fun _ h => h) hS rfl hl.1 rfl (Nat.le_of_ble_eq_true rfl) dX1_sail_86 (fun r_25 u_27 H locs hF_26 hP hS => ?_)
        obtain ⟨hF_26, hu⟩ := hF_26; rw [hu] at hP; subst hF_26
        refine lv_isub hx hb dX1_sail_89 ?_
        refine w_max hx hb hml hG hown gw_19_16 (Nat.le_of_ble_eq_true rfl) (Nat.le_of_ble_eq_true rfl) hl.1 ⟨Nat.le_refl _, Nat.le_refl _⟩ dX1_sail_90 ?_
        refine pX1_4 hx hb hG hown hK hP had AW_in hS ho gw_15_3 dX1_sail_93 (fun H locs hP hS => ?_)
        obtain ⟨M_28, eM_28⟩ : ∃ y : Mem, y = up2 M_24 o 4 (mx 0 ((M_24 o 4) - (f_X0_tideAt M_24 a1 (M_24 o 3)))) := ⟨_, rfl⟩
        rw [← eM_28] at hP
        have hr_7 := bnd_at hr_7 eM_28
        refine lv_goto (tgt := 204) hx hb dX1_sail_96 (by decide) ?_
        cases hr_7
        exact j204 _ _ _ hP hS (lv_sub hl [0, 1, 3] rfl)
    · have hr_7 := ite_f hr_7 hc_6
      refine lv_aload_n hx hb dX1_sail_19 rfl (lv_at hl 0 rfl) ?_
      refine lv_aload_n hx hb dX1_sail_20 rfl (lv_at hl 0 rfl) ?_
      refine gX1_3 hx hb hG hown hK hP ho gw_15_2 dX1_sail_21 ?_
      obtain ⟨t_31, hr_30, hr_7⟩ := bnd_ex hr_7
      have j52 : ∀ (H : Heap) (locs : List Loc) (ls : Array Slot), va_P D vwCl (wld 74 ad (cC ad k M)) H → va_S (AW 74 ad) s.heap H locs → lv_has ls 5 [(0, .ref (ad o)), (1, .ref (ad a1)), (3, .int a3)] → W p l e rm_X1_sail s m args below meth c H locs 0 0 Q (F0 m 52 ls [.int t_31, .ref (ad o)]) := by
        intro H locs ls hP hS hl
        refine pX1_3 hx hb hG hown hK hP had AW_in hS ho gw_15_2 dX1_sail_52 (fun H locs hP hS => ?_)
        obtain ⟨M_32, eM_32⟩ : ∃ y : Mem, y = up2 M o 3 t_31 := ⟨_, rfl⟩
        rw [← eM_32] at hP
        have hr_7 := bnd_at hr_7 eM_32
        refine lv_goto (tgt := 204) hx hb dX1_sail_55 (by decide) ?_
        cases hr_7
        exact j204 _ _ _ hP hS (lv_sub hl [0, 1, 2] rfl)
      refine lv_if_le (tgt := 41) hx hb dX1_sail_24 (by decide) (fun hc_29 => ?_) (fun hc_29 => ?_)
      · have hr_30 := ite_t hr_30 hc_29
        refine lv_iconst (v := 0) hx hb dX1_sail_41 (by decide) ?_
        refine lv_aload_n hx hb dX1_sail_42 rfl (lv_at hl 0 rfl) ?_
        refine gX1_3 hx hb hG hown hK hP ho gw_15_2 dX1_sail_43 ?_
        refine lv_bipush (v := 8) hx hb dX1_sail_46 (by decide) ?_
        refine lv_iadd hx hb dX1_sail_48 ?_
        refine w_min hx hb hml hG hown gw_19_17 (Nat.le_of_ble_eq_true rfl) (Nat.le_of_ble_eq_true rfl) hl.1 ⟨Nat.le_refl _, Nat.le_refl _⟩ dX1_sail_49 ?_
        cases hr_30
        exact j52 _ _ _ hP hS (lv_sub hl [0, 1, 3] rfl)
      · have hr_30 := ite_f hr_30 hc_29
        refine lv_iconst (v := 0) hx hb dX1_sail_27 (by decide) ?_
        refine lv_aload_n hx hb dX1_sail_28 rfl (lv_at hl 0 rfl) ?_
        refine gX1_3 hx hb hG hown hK hP ho gw_15_2 dX1_sail_29 ?_
        refine lv_bipush (v := 8) hx hb dX1_sail_32 (by decide) ?_
        refine lv_isub hx hb dX1_sail_34 ?_
        refine w_max hx hb hml hG hown gw_19_16 (Nat.le_of_ble_eq_true rfl) (Nat.le_of_ble_eq_true rfl) hl.1 ⟨Nat.le_refl _, Nat.le_refl _⟩ dX1_sail_35 ?_
        refine lv_goto (tgt := 52) hx hb dX1_sail_38 (by decide) ?_
        cases hr_30
        exact j52 _ _ _ hP hS (lv_sub hl [0, 1, 3] rfl)
  · have he := ite_f he hc_5
    exact hret _ _ _ _ _ (hV.trans he.symm) hP hS dX1_sail_7
def rm_X1_canTurn : Room := { frames := 1, cells := 0, slots := 0, locals := 20 }
theorem gm_X1_canTurn : Cond.instanceMethod yX1_canTurn ∈ wsL_law ∧ Cond.selects RX1 yX1_canTurn yX1_canTurn ∈ wsL_law ∧ Cond.initialized RX1 ∈ wsL_law ∧ Cond.code yX1_canTurn cX1_canTurn 2 (some .boolean) ∈ wsL_law := ⟨gw_20_2, gw_20_3, gw_3_11, gw_20_4⟩
theorem gd_X1_canTurn : yX1_canTurn.cls = RX1 ∧ yX1_canTurn.cls ≠ "java/lang/invoke/MethodHandle" ∧ yX1_canTurn.cls ≠ "java/lang/invoke/VarHandle" ∧ (parseMethodDescriptor yX1_canTurn.desc).map (fun d => d.parameters.length) = some 1 := by decide +kernel
set_option maxRecDepth 100000 in
set_option maxHeartbeats 0 in
theorem c_X1_canTurn {l : Launch} {D : va_G} {k : Nat → ClassId} {ad : Nat → Nat} (had : InjN 74 ad) (M : Mem) (o : Nat) (ho : kBoat o) (a1 : Nat) (ha1 : kBay a1) : Met l yX1_canTurn (Cond.code yX1_canTurn cX1_canTurn 2 (some .boolean) :: wsL_law) rm_X1_canTurn (va_Pc [.ref (ad o), .ref (ad a1)] (GW 74 ad D k (cC ad k M))) (va_Qi (fun r u => (r = 0 ∨ r = 1) ∧ f_X1_canTurn M o a1 = r ∧ u = M) (fun u t => GW 74 ad D k (cC ad k u) t) (AW 74 ad)) 0 0 (AW 74 ad) := by
  refine met_z (g := cC ad k) (M := M) (plainFor_of_name (by decide)) (Nat.le_of_ble_eq_true rfl) ?_
  intro p e s m args below meth c Q ls hx hb hml hG hown hK hret hP hS hl
  have hl : lv_has ls 2 [(0, .ref (ad o)), (1, .ref (ad a1))] := hl
  obtain ⟨V, hV⟩ : ∃ V, f_X1_canTurn M o a1 = V := ⟨_, rfl⟩
  have he := hV
  unfold f_X1_canTurn at he
  refine lv_aload_n hx hb dX1_canTurn_0 rfl (lv_at hl 0 rfl) ?_
  refine call_i [] [] hx hb hml hG hown hK (c_X1_isIn had M o ho) gw_19_19 gm_X1_isIn gd_X1_isIn rfl rfl ⟨Nat.le_of_ble_eq_true rfl, Nat.le_of_ble_eq_true rfl⟩ ⟨Nat.le_refl _, Nat.le_refl _⟩ (rX1 hK hP ho) hP (fun _ h => h) hS rfl hl.1 rfl (Nat.le_of_ble_eq_true rfl) dX1_canTurn_1 (fun r_1 u_3 H locs hF_2 hP hS => ?_)
  obtain ⟨hz_4, hF_2, hu⟩ := hF_2; rw [hu] at hP; subst hF_2
  obtain ⟨t_9, hr_6, he⟩ := bnd_ex he
  have j30 : ∀ (H : Heap) (locs : List Loc) (ls : Array Slot), (t_9 = 0 ∨ t_9 = 1) → va_P D vwCl (wld 74 ad (cC ad k M)) H → va_S (AW 74 ad) s.heap H locs → lv_has ls 2 [] → W p l e rm_X1_canTurn s m args below meth c H locs 0 0 Q (F0 m 30 ls [.int t_9]) := by
    intro H locs ls zt_9 hP hS hl
    exact hret _ _ _ _ _ _ ⟨zt_9, (hV.trans he.symm), rfl⟩ (nz01 zt_9) hP hS dX1_canTurn_30
  refine lv_if_ne (tgt := 29) hx hb dX1_canTurn_4 (by decide) (fun hc_5 => ?_) (fun hc_5 => ?_)
  · have hr_6 := ite_t hr_6 hc_5
    refine lv_iconst (v := 0) hx hb dX1_canTurn_29 (by decide) ?_
    cases hr_6
    exact j30 _ _ _ (Or.inl rfl) hP hS (lv_sub hl [] rfl)
  · have hr_6 := ite_f hr_6 (fun q => q hc_5)
    refine lv_aload_n hx hb dX1_canTurn_7 rfl (lv_at hl 0 rfl) ?_
    refine gX1_6 hx hb hG hown hK hP ho gw_15_5 dX1_canTurn_8 ?_
    refine lv_if_ne (tgt := 29) hx hb dX1_canTurn_11 (by decide) (fun hc_7 => ?_) (fun hc_7 => ?_)
    · have hr_6 := ite_t hr_6 hc_7
      refine lv_iconst (v := 0) hx hb dX1_canTurn_29 (by decide) ?_
      cases hr_6
      exact j30 _ _ _ (Or.inl rfl) hP hS (lv_sub hl [] rfl)
    · have hr_6 := ite_f hr_6 (fun q => q hc_7)
      refine lv_aload_n hx hb dX1_canTurn_14 rfl (lv_at hl 0 rfl) ?_
      refine gX1_4 hx hb hG hown hK hP ho gw_15_3 dX1_canTurn_15 ?_
      refine lv_aload_n hx hb dX1_canTurn_18 rfl (lv_at hl 1 rfl) ?_
      refine gX0_0 hx hb hG hown hK hP ha1 gw_19_15 dX1_canTurn_19 ?_
      refine lv_icmp_ge (tgt := 29) hx hb dX1_canTurn_22 (by decide) (fun hc_8 => ?_) (fun hc_8 => ?_)
      · have hr_6 := ite_t hr_6 hc_8
        refine lv_iconst (v := 0) hx hb dX1_canTurn_29 (by decide) ?_
        cases hr_6
        exact j30 _ _ _ (Or.inl rfl) hP hS (lv_sub hl [] rfl)
      · have hr_6 := ite_f hr_6 hc_8
        refine lv_iconst (v := 1) hx hb dX1_canTurn_25 (by decide) ?_
        refine lv_goto (tgt := 30) hx hb dX1_canTurn_26 (by decide) ?_
        cases hr_6
        exact j30 _ _ _ (Or.inr rfl) hP hS (lv_sub hl [] rfl)
def rm_X1_goesOut : Room := { frames := 0, cells := 0, slots := 0, locals := 0 }
theorem gm_X1_goesOut : Cond.instanceMethod yX1_goesOut ∈ wsL_law ∧ Cond.selects RX1 yX1_goesOut yX1_goesOut ∈ wsL_law ∧ Cond.initialized RX1 ∈ wsL_law ∧ Cond.code yX1_goesOut cX1_goesOut 1 (some .boolean) ∈ wsL_law := ⟨gw_20_6, gw_20_7, gw_3_11, gw_20_8⟩
theorem gd_X1_goesOut : yX1_goesOut.cls = RX1 ∧ yX1_goesOut.cls ≠ "java/lang/invoke/MethodHandle" ∧ yX1_goesOut.cls ≠ "java/lang/invoke/VarHandle" ∧ (parseMethodDescriptor yX1_goesOut.desc).map (fun d => d.parameters.length) = some 0 := by decide +kernel
set_option maxRecDepth 100000 in
set_option maxHeartbeats 0 in
theorem c_X1_goesOut {l : Launch} {D : va_G} {k : Nat → ClassId} {ad : Nat → Nat} (had : InjN 74 ad) (M : Mem) (o : Nat) (ho : kBoat o) : Met l yX1_goesOut (Cond.code yX1_goesOut cX1_goesOut 1 (some .boolean) :: wsL_law) rm_X1_goesOut (va_Pc [.ref (ad o)] (GW 74 ad D k (cC ad k M))) (va_Qi (fun r u => (r = 0 ∨ r = 1) ∧ f_X1_goesOut M o = r ∧ u = M) (fun u t => GW 74 ad D k (cC ad k u) t) (AW 74 ad)) 0 0 (AW 74 ad) := by
  refine met_z (g := cC ad k) (M := M) (plainFor_of_name (by decide)) (Nat.le_of_ble_eq_true rfl) ?_
  intro p e s m args below meth c Q ls hx hb hml hG hown hK hret hP hS hl
  have hl : lv_has ls 1 [(0, .ref (ad o))] := hl
  obtain ⟨V, hV⟩ : ∃ V, f_X1_goesOut M o = V := ⟨_, rfl⟩
  have he := hV
  unfold f_X1_goesOut at he
  refine lv_aload_n hx hb dX1_goesOut_0 rfl (lv_at hl 0 rfl) ?_
  refine gX1_5 hx hb hG hown hK hP ho gw_15_4 dX1_goesOut_1 ?_
  obtain ⟨t_5, hr_2, he⟩ := bnd_ex he
  have j40 : ∀ (H : Heap) (locs : List Loc) (ls : Array Slot), (t_5 = 0 ∨ t_5 = 1) → va_P D vwCl (wld 74 ad (cC ad k M)) H → va_S (AW 74 ad) s.heap H locs → lv_has ls 1 [] → W p l e rm_X1_goesOut s m args below meth c H locs 0 0 Q (F0 m 40 ls [.int t_5]) := by
    intro H locs ls zt_5 hP hS hl
    exact hret _ _ _ _ _ _ ⟨zt_5, (hV.trans he.symm), rfl⟩ (nz01 zt_5) hP hS dX1_goesOut_40
  refine lv_if_eq (tgt := 25) hx hb dX1_goesOut_4 (by decide) (fun hc_1 => ?_) (fun hc_1 => ?_)
  · have hr_2 := ite_t hr_2 hc_1
    refine lv_aload_n hx hb dX1_goesOut_25 rfl (lv_at hl 0 rfl) ?_
    refine gX1_3 hx hb hG hown hK hP ho gw_15_2 dX1_goesOut_26 ?_
    refine lv_sipush (v := (-200)) hx hb dX1_goesOut_29 (by decide) ?_
    refine lv_icmp_gt (tgt := 39) hx hb dX1_goesOut_32 (by decide) (fun hc_3 => ?_) (fun hc_3 => ?_)
    · have hr_2 := ite_t hr_2 hc_3
      refine lv_iconst (v := 0) hx hb dX1_goesOut_39 (by decide) ?_
      cases hr_2
      exact j40 _ _ _ (Or.inl rfl) hP hS (lv_sub hl [] rfl)
    · have hr_2 := ite_f hr_2 hc_3
      refine lv_iconst (v := 1) hx hb dX1_goesOut_35 (by decide) ?_
      refine lv_goto (tgt := 40) hx hb dX1_goesOut_36 (by decide) ?_
      cases hr_2
      exact j40 _ _ _ (Or.inr rfl) hP hS (lv_sub hl [] rfl)
  · have hr_2 := ite_f hr_2 hc_1
    refine lv_aload_n hx hb dX1_goesOut_7 rfl (lv_at hl 0 rfl) ?_
    refine gX1_3 hx hb hG hown hK hP ho gw_15_2 dX1_goesOut_8 ?_
    refine lv_sipush (v := 200) hx hb dX1_goesOut_11 (by decide) ?_
    refine lv_icmp_lt (tgt := 21) hx hb dX1_goesOut_14 (by decide) (fun hc_4 => ?_) (fun hc_4 => ?_)
    · have hr_2 := ite_t hr_2 hc_4
      refine lv_iconst (v := 0) hx hb dX1_goesOut_21 (by decide) ?_
      refine lv_goto (tgt := 40) hx hb dX1_goesOut_22 (by decide) ?_
      cases hr_2
      exact j40 _ _ _ (Or.inl rfl) hP hS (lv_sub hl [] rfl)
    · have hr_2 := ite_f hr_2 hc_4
      refine lv_iconst (v := 1) hx hb dX1_goesOut_17 (by decide) ?_
      refine lv_goto (tgt := 40) hx hb dX1_goesOut_18 (by decide) ?_
      cases hr_2
      exact j40 _ _ _ (Or.inr rfl) hP hS (lv_sub hl [] rfl)
def rm_X1_turnsAt : Room := { frames := 0, cells := 0, slots := 0, locals := 0 }
theorem gm_X1_turnsAt : Cond.instanceMethod yX1_turnsAt ∈ wsL_law ∧ Cond.selects RX1 yX1_turnsAt yX1_turnsAt ∈ wsL_law ∧ Cond.initialized RX1 ∈ wsL_law ∧ Cond.code yX1_turnsAt cX1_turnsAt 3 (some .boolean) ∈ wsL_law := ⟨gw_20_16, gw_20_17, gw_3_11, gw_20_18⟩
theorem gd_X1_turnsAt : yX1_turnsAt.cls = RX1 ∧ yX1_turnsAt.cls ≠ "java/lang/invoke/MethodHandle" ∧ yX1_turnsAt.cls ≠ "java/lang/invoke/VarHandle" ∧ (parseMethodDescriptor yX1_turnsAt.desc).map (fun d => d.parameters.length) = some 1 := by decide +kernel
set_option maxRecDepth 100000 in
set_option maxHeartbeats 0 in
theorem c_X1_turnsAt {l : Launch} {D : va_G} {k : Nat → ClassId} {ad : Nat → Nat} (had : InjN 74 ad) (M : Mem) (o : Nat) (ho : kBoat o) (a1 : Int32) : Met l yX1_turnsAt (Cond.code yX1_turnsAt cX1_turnsAt 3 (some .boolean) :: wsL_law) rm_X1_turnsAt (va_Pc [.ref (ad o), .int a1] (GW 74 ad D k (cC ad k M))) (va_Qi (fun r u => (r = 0 ∨ r = 1) ∧ f_X1_turnsAt M o a1 = r ∧ u = M) (fun u t => GW 74 ad D k (cC ad k u) t) (AW 74 ad)) 0 0 (AW 74 ad) := by
  refine met_z (g := cC ad k) (M := M) (plainFor_of_name (by decide)) (Nat.le_of_ble_eq_true rfl) ?_
  intro p e s m args below meth c Q ls hx hb hml hG hown hK hret hP hS hl
  have hl : lv_has ls 3 [(0, .ref (ad o)), (1, .int a1)] := hl
  obtain ⟨V, hV⟩ : ∃ V, f_X1_turnsAt M o a1 = V := ⟨_, rfl⟩
  have he := hV
  unfold f_X1_turnsAt at he
  refine lv_iconst (v := 5) hx hb dX1_turnsAt_0 (by decide) ?_
  refine lv_aload_n hx hb dX1_turnsAt_1 rfl (lv_at hl 0 rfl) ?_
  refine gX1_0 hx hb hG hown hK hP ho gw_3_18 dX1_turnsAt_2 ?_
  refine gX4_1 hx hb hG hown hK hP (kR_slr ho) gw_16_11 dX1_turnsAt_5 ?_
  refine lv_imul hx hb dX1_turnsAt_8 ?_
  refine lv_topi (fun y_1 ey_1 => ?_)
  have he := bnd_at he ey_1
  refine lv_istore_n (lv' := [(2, .int y_1), (0, .ref (ad o)), (1, .int a1)]) hx hb dX1_turnsAt_9 rfl hl (by decide) rfl (fun ls hl => ?_)
  refine lv_iload_n hx hb dX1_turnsAt_10 rfl (lv_at hl 0 rfl) ?_
  obtain ⟨t_5, hr_3, he⟩ := bnd_ex he
  have j25 : ∀ (H : Heap) (locs : List Loc) (ls : Array Slot), (t_5 = 0 ∨ t_5 = 1) → va_P D vwCl (wld 74 ad (cC ad k M)) H → va_S (AW 74 ad) s.heap H locs → lv_has ls 3 [] → W p l e rm_X1_turnsAt s m args below meth c H locs 0 0 Q (F0 m 25 ls [.int t_5]) := by
    intro H locs ls zt_5 hP hS hl
    exact hret _ _ _ _ _ _ ⟨zt_5, (hV.trans he.symm), rfl⟩ (nz01 zt_5) hP hS dX1_turnsAt_25
  refine lv_if_le (tgt := 24) hx hb dX1_turnsAt_11 (by decide) (fun hc_2 => ?_) (fun hc_2 => ?_)
  · have hr_3 := ite_t hr_3 hc_2
    refine lv_iconst (v := 0) hx hb dX1_turnsAt_24 (by decide) ?_
    cases hr_3
    exact j25 _ _ _ (Or.inl rfl) hP hS (lv_sub hl [] rfl)
  · have hr_3 := ite_f hr_3 hc_2
    refine lv_iload_n hx hb dX1_turnsAt_14 rfl (lv_at hl 2 rfl) ?_
    refine lv_iload_n hx hb dX1_turnsAt_15 rfl (lv_at hl 0 rfl) ?_
    refine lv_irem hx hb dX1_turnsAt_16 (fun q => by have qy_1 := congrArg Int32.toInt ey_1; have q1 : 0 < y_1.toInt := nle_I hc_2; have qq : y_1.toInt = 0 := congrArg Int32.toInt q; omega) ?_
    refine lv_if_ne (tgt := 24) hx hb dX1_turnsAt_17 (by decide) (fun hc_4 => ?_) (fun hc_4 => ?_)
    · have hr_3 := ite_t hr_3 hc_4
      refine lv_iconst (v := 0) hx hb dX1_turnsAt_24 (by decide) ?_
      cases hr_3
      exact j25 _ _ _ (Or.inl rfl) hP hS (lv_sub hl [] rfl)
    · have hr_3 := ite_f hr_3 (fun q => q hc_4)
      refine lv_iconst (v := 1) hx hb dX1_turnsAt_20 (by decide) ?_
      refine lv_goto (tgt := 25) hx hb dX1_turnsAt_21 (by decide) ?_
      cases hr_3
      exact j25 _ _ _ (Or.inr rfl) hP hS (lv_sub hl [] rfl)
def rm_X1_isHeadedBy : Room := { frames := 0, cells := 0, slots := 0, locals := 0 }
theorem gm_X1_isHeadedBy : Cond.instanceMethod yX1_isHeadedBy ∈ wsL_law ∧ Cond.selects RX1 yX1_isHeadedBy yX1_isHeadedBy ∈ wsL_law ∧ Cond.initialized RX1 ∈ wsL_law ∧ Cond.code yX1_isHeadedBy cX1_isHeadedBy 3 (some .boolean) ∈ wsL_law := ⟨gw_20_20, gw_20_21, gw_3_11, gw_20_22⟩
theorem gd_X1_isHeadedBy : yX1_isHeadedBy.cls = RX1 ∧ yX1_isHeadedBy.cls ≠ "java/lang/invoke/MethodHandle" ∧ yX1_isHeadedBy.cls ≠ "java/lang/invoke/VarHandle" ∧ (parseMethodDescriptor yX1_isHeadedBy.desc).map (fun d => d.parameters.length) = some 1 := by decide +kernel
set_option maxRecDepth 100000 in
set_option maxHeartbeats 0 in
theorem c_X1_isHeadedBy {l : Launch} {D : va_G} {k : Nat → ClassId} {ad : Nat → Nat} (had : InjN 74 ad) (M : Mem) (o : Nat) (ho : kBoat o) (a1 : Int32) : Met l yX1_isHeadedBy (Cond.code yX1_isHeadedBy cX1_isHeadedBy 3 (some .boolean) :: wsL_law) rm_X1_isHeadedBy (va_Pc [.ref (ad o), .int a1] (GW 74 ad D k (cC ad k M))) (va_Qi (fun r u => (r = 0 ∨ r = 1) ∧ f_X1_isHeadedBy M o a1 = r ∧ u = M) (fun u t => GW 74 ad D k (cC ad k u) t) (AW 74 ad)) 0 0 (AW 74 ad) := by
  refine met_z (g := cC ad k) (M := M) (plainFor_of_name (by decide)) (Nat.le_of_ble_eq_true rfl) ?_
  intro p e s m args below meth c Q ls hx hb hml hG hown hK hret hP hS hl
  have hl : lv_has ls 3 [(0, .ref (ad o)), (1, .int a1)] := hl
  obtain ⟨V, hV⟩ : ∃ V, f_X1_isHeadedBy M o a1 = V := ⟨_, rfl⟩
  have he := hV
  unfold f_X1_isHeadedBy at he
  refine lv_aload_n hx hb dX1_isHeadedBy_0 rfl (lv_at hl 0 rfl) ?_
  refine gX1_5 hx hb hG hown hK hP ho gw_15_4 dX1_isHeadedBy_1 ?_
  obtain ⟨t_3, hr_2, he⟩ := bnd_ex he
  have j17 : ∀ (H : Heap) (locs : List Loc) (ls : Array Slot), va_P D vwCl (wld 74 ad (cC ad k M)) H → va_S (AW 74 ad) s.heap H locs → lv_has ls 3 [(0, .ref (ad o))] → W p l e rm_X1_isHeadedBy s m args below meth c H locs 0 0 Q (F0 m 17 ls [.int t_3]) := by
    intro H locs ls hP hS hl
    refine lv_istore_n (lv' := [(2, .int t_3), (0, .ref (ad o))]) hx hb dX1_isHeadedBy_17 rfl hl (by decide) rfl (fun ls hl => ?_)
    refine lv_iload_n hx hb dX1_isHeadedBy_18 rfl (lv_at hl 0 rfl) ?_
    refine lv_aload_n hx hb dX1_isHeadedBy_19 rfl (lv_at hl 1 rfl) ?_
    refine gX1_0 hx hb hG hown hK hP ho gw_3_18 dX1_isHeadedBy_20 ?_
    refine gX4_1 hx hb hG hown hK hP (kR_slr ho) gw_16_11 dX1_isHeadedBy_23 ?_
    refine lv_iconst (v := 5) hx hb dX1_isHeadedBy_26 (by decide) ?_
    refine lv_idiv hx hb dX1_isHeadedBy_27 (by decide) ?_
    refine lv_iconst (v := 1) hx hb dX1_isHeadedBy_28 (by decide) ?_
    refine lv_iadd hx hb dX1_isHeadedBy_29 ?_
    obtain ⟨t_6, hr_5, he⟩ := bnd_ex he
    have j38 : ∀ (H : Heap) (locs : List Loc) (ls : Array Slot), (t_6 = 0 ∨ t_6 = 1) → va_P D vwCl (wld 74 ad (cC ad k M)) H → va_S (AW 74 ad) s.heap H locs → lv_has ls 3 [] → W p l e rm_X1_isHeadedBy s m args below meth c H locs 0 0 Q (F0 m 38 ls [.int t_6]) := by
      intro H locs ls zt_6 hP hS hl
      exact hret _ _ _ _ _ _ ⟨zt_6, (hV.trans he.symm), rfl⟩ (nz01 zt_6) hP hS dX1_isHeadedBy_38
    refine lv_icmp_lt (tgt := 37) hx hb dX1_isHeadedBy_30 (by decide) (fun hc_4 => ?_) (fun hc_4 => ?_)
    · have hr_5 := ite_t hr_5 hc_4
      refine lv_iconst (v := 0) hx hb dX1_isHeadedBy_37 (by decide) ?_
      cases hr_5
      exact j38 _ _ _ (Or.inl rfl) hP hS (lv_sub hl [] rfl)
    · have hr_5 := ite_f hr_5 hc_4
      refine lv_iconst (v := 1) hx hb dX1_isHeadedBy_33 (by decide) ?_
      refine lv_goto (tgt := 38) hx hb dX1_isHeadedBy_34 (by decide) ?_
      cases hr_5
      exact j38 _ _ _ (Or.inr rfl) hP hS (lv_sub hl [] rfl)
  refine lv_if_eq (tgt := 13) hx hb dX1_isHeadedBy_4 (by decide) (fun hc_1 => ?_) (fun hc_1 => ?_)
  · have hr_2 := ite_t hr_2 hc_1
    refine lv_iload_n hx hb dX1_isHeadedBy_13 rfl (lv_at hl 1 rfl) ?_
    refine lv_iconst (v := 5) hx hb dX1_isHeadedBy_14 (by decide) ?_
    refine lv_idiv hx hb dX1_isHeadedBy_15 (by decide) ?_
    refine lv_ineg hx hb dX1_isHeadedBy_16 ?_
    cases hr_2
    exact j17 _ _ _ hP hS (lv_sub hl [0] rfl)
  · have hr_2 := ite_f hr_2 hc_1
    refine lv_iload_n hx hb dX1_isHeadedBy_7 rfl (lv_at hl 1 rfl) ?_
    refine lv_iconst (v := 5) hx hb dX1_isHeadedBy_8 (by decide) ?_
    refine lv_idiv hx hb dX1_isHeadedBy_9 (by decide) ?_
    refine lv_goto (tgt := 17) hx hb dX1_isHeadedBy_10 (by decide) ?_
    cases hr_2
    exact j17 _ _ _ hP hS (lv_sub hl [0] rfl)
def rm_X3_hasToCover : Room := { frames := 0, cells := 0, slots := 0, locals := 0 }
theorem gm_X3_hasToCover : Cond.instanceMethod yX3_hasToCover ∈ wsL_law ∧ Cond.selects RX3 yX3_hasToCover yX3_hasToCover ∈ wsL_law ∧ Cond.initialized RX3 ∈ wsL_law ∧ Cond.code yX3_hasToCover cX3_hasToCover 3 (some .boolean) ∈ wsL_law := ⟨gw_21_0, gw_21_1, gw_1_19, gw_21_2⟩
theorem gd_X3_hasToCover : yX3_hasToCover.cls = RX3 ∧ yX3_hasToCover.cls ≠ "java/lang/invoke/MethodHandle" ∧ yX3_hasToCover.cls ≠ "java/lang/invoke/VarHandle" ∧ (parseMethodDescriptor yX3_hasToCover.desc).map (fun d => d.parameters.length) = some 1 := by decide +kernel
set_option maxRecDepth 100000 in
set_option maxHeartbeats 0 in
theorem c_X3_hasToCover {l : Launch} {D : va_G} {k : Nat → ClassId} {ad : Nat → Nat} (had : InjN 74 ad) (M : Mem) (o : Nat) (ho : kRace o) (a1 : Nat) (ha1 : kBoat a1) : Met l yX3_hasToCover (Cond.code yX3_hasToCover cX3_hasToCover 3 (some .boolean) :: wsL_law) rm_X3_hasToCover (va_Pc [.ref (ad o), .ref (ad a1)] (GW 74 ad D k (cC ad k M))) (va_Qi (fun r u => (r = 0 ∨ r = 1) ∧ f_X3_hasToCover M o a1 = r ∧ u = M) (fun u t => GW 74 ad D k (cC ad k u) t) (AW 74 ad)) 0 0 (AW 74 ad) := by
  refine met_z (g := cC ad k) (M := M) (plainFor_of_name (by decide)) (Nat.le_of_ble_eq_true rfl) ?_
  intro p e s m args below meth c Q ls hx hb hml hG hown hK hret hP hS hl
  have hl : lv_has ls 3 [(0, .ref (ad o)), (1, .ref (ad a1))] := hl
  obtain ⟨V, hV⟩ : ∃ V, f_X3_hasToCover M o a1 = V := ⟨_, rfl⟩
  have he := hV
  unfold f_X3_hasToCover at he
  refine lv_aload_n hx hb dX3_hasToCover_0 rfl (lv_at hl 1 rfl) ?_
  refine gX1_0 hx hb hG hown hK hP ha1 gw_14_6 dX3_hasToCover_1 ?_
  refine gX4_2 hx hb hG hown hK hP (kR_slr ha1) gw_14_7 dX3_hasToCover_4 ?_
  obtain ⟨t_3, hr_2, he⟩ := bnd_ex he
  have j28 : ∀ (H : Heap) (locs : List Loc) (ls : Array Slot), va_P D vwCl (wld 74 ad (cC ad k M)) H → va_S (AW 74 ad) s.heap H locs → lv_has ls 3 [(0, .ref (ad o)), (1, .ref (ad a1))] → W p l e rm_X3_hasToCover s m args below meth c H locs 0 0 Q (F0 m 28 ls [.int t_3]) := by
    intro H locs ls hP hS hl
    refine lv_istore_n (lv' := [(2, .int t_3), (0, .ref (ad o)), (1, .ref (ad a1))]) hx hb dX3_hasToCover_28 rfl hl (by decide) rfl (fun ls hl => ?_)
    refine lv_iload_n hx hb dX3_hasToCover_29 rfl (lv_at hl 0 rfl) ?_
    refine lv_if_lt (tgt := 52) hx hb dX3_hasToCover_30 (by decide) (fun hc_4 => ?_) (fun hc_4 => ?_)
    · have he := ite_t he hc_4
      refine lv_iconst (v := 0) hx hb dX3_hasToCover_52 (by decide) ?_
      exact hret _ _ _ _ _ _ ⟨(Or.inl rfl), (hV.trans he.symm), rfl⟩ (nz01 (Or.inl rfl)) hP hS dX3_hasToCover_53
    · have he := ite_f he hc_4
      refine lv_iload_n hx hb dX3_hasToCover_33 rfl (lv_at hl 0 rfl) ?_
      refine lv_aload_n hx hb dX3_hasToCover_34 rfl (lv_at hl 1 rfl) ?_
      refine gX3_0 hx hb hG hown hK hP ho gw_3_9 dX3_hasToCover_35 ?_
      refine an_kBts hx hb hK hP (kR_bts ho) dX3_hasToCover_38 ?_
      refine lv_icmp_ge (tgt := 52) hx hb dX3_hasToCover_39 (by decide) (fun hc_5 => ?_) (fun hc_5 => ?_)
      · have he := ite_t he hc_5
        refine lv_iconst (v := 0) hx hb dX3_hasToCover_52 (by decide) ?_
        exact hret _ _ _ _ _ _ ⟨(Or.inl rfl), (hV.trans he.symm), rfl⟩ (nz01 (Or.inl rfl)) hP hS dX3_hasToCover_53
      · have he := ite_f he hc_5
        refine lv_aload_n hx hb dX3_hasToCover_42 rfl (lv_at hl 1 rfl) ?_
        refine gX3_0 hx hb hG hown hK hP ho gw_3_9 dX3_hasToCover_43 ?_
        refine lv_iload_n hx hb dX3_hasToCover_46 rfl (lv_at hl 0 rfl) ?_
        have hn_6 : vp_in t_3 4 := (vin_I (by have q0 : 0 ≤ t_3.toInt := nlt_I hc_4; have q1 : t_3.toInt < 4 := nle_I hc_5; omega) (by have q0 : 0 ≤ t_3.toInt := nlt_I hc_4; have q1 : t_3.toInt < 4 := nle_I hc_5; omega))
        refine al_kBts hx hb hK hP (kR_bts ho) hn_6 dX3_hasToCover_47 ?_
        refine lv_aload_n hx hb dX3_hasToCover_48 rfl (lv_at hl 2 rfl) ?_
        refine lv_acmp_ne (rx := some (ad (4 * (o + 3) - 45 + t_3.toNatClampNeg))) (ry := some (ad a1)) (tgt := 54) hx hb dX3_hasToCover_49 (by decide) (fun hc_7 => ?_) (fun hc_7 => ?_)
        · have hc_7 : ¬ (4 * (o + 3) - 45 + t_3.toNatClampNeg) = a1 := fun q => hc_7 (by rw [q])
          have he := ite_t he hc_7
          refine lv_aload_n hx hb dX3_hasToCover_54 rfl (lv_at hl 1 rfl) ?_
          refine gX3_0 hx hb hG hown hK hP ho gw_3_9 dX3_hasToCover_55 ?_
          refine lv_iload_n hx hb dX3_hasToCover_58 rfl (lv_at hl 0 rfl) ?_
          have hn_8 : vp_in t_3 4 := (vin_I (by have q0 : 0 ≤ t_3.toInt := nlt_I hc_4; have q1 : t_3.toInt < 4 := nle_I hc_5; omega) (by have q0 : 0 ≤ t_3.toInt := nlt_I hc_4; have q1 : t_3.toInt < 4 := nle_I hc_5; omega))
          refine al_kBts hx hb hK hP (kR_bts ho) hn_8 dX3_hasToCover_59 ?_
          refine gX1_5 hx hb hG hown hK hP (kR_boat (kR_bts ho) hn_8) gw_21_3 dX3_hasToCover_60 ?_
          refine lv_aload_n hx hb dX3_hasToCover_63 rfl (lv_at hl 2 rfl) ?_
          refine gX1_5 hx hb hG hown hK hP ha1 gw_21_3 dX3_hasToCover_64 ?_
          obtain ⟨t_13, hr_10, he⟩ := bnd_ex he
          have j91 : ∀ (H : Heap) (locs : List Loc) (ls : Array Slot), (t_13 = 0 ∨ t_13 = 1) → va_P D vwCl (wld 74 ad (cC ad k M)) H → va_S (AW 74 ad) s.heap H locs → lv_has ls 3 [] → W p l e rm_X3_hasToCover s m args below meth c H locs 0 0 Q (F0 m 91 ls [.int t_13]) := by
            intro H locs ls zt_13 hP hS hl
            exact hret _ _ _ _ _ _ ⟨zt_13, (hV.trans he.symm), rfl⟩ (nz01 zt_13) hP hS dX3_hasToCover_91
          refine lv_icmp_eq (tgt := 90) hx hb dX3_hasToCover_67 (by decide) (fun hc_9 => ?_) (fun hc_9 => ?_)
          · have hr_10 := ite_t hr_10 hc_9
            refine lv_iconst (v := 0) hx hb dX3_hasToCover_90 (by decide) ?_
            cases hr_10
            exact j91 _ _ _ (Or.inl rfl) hP hS (lv_sub hl [] rfl)
          · have hr_10 := ite_f hr_10 hc_9
            refine lv_aload_n hx hb dX3_hasToCover_70 rfl (lv_at hl 1 rfl) ?_
            refine gX3_0 hx hb hG hown hK hP ho gw_3_9 dX3_hasToCover_71 ?_
            refine lv_iload_n hx hb dX3_hasToCover_74 rfl (lv_at hl 0 rfl) ?_
            have hn_11 : vp_in t_3 4 := (vin_I (by have q0 : 0 ≤ t_3.toInt := nlt_I hc_4; have q1 : t_3.toInt < 4 := nle_I hc_5; have q2 : (b01 (M (4 * (o + 3) - 45 + t_3.toNatClampNeg) 5)).toInt ≠ (b01 (M a1 5)).toInt := ne_I hc_9; omega) (by have q0 : 0 ≤ t_3.toInt := nlt_I hc_4; have q1 : t_3.toInt < 4 := nle_I hc_5; have q2 : (b01 (M (4 * (o + 3) - 45 + t_3.toNatClampNeg) 5)).toInt ≠ (b01 (M a1 5)).toInt := ne_I hc_9; omega))
            refine al_kBts hx hb hK hP (kR_bts ho) hn_11 dX3_hasToCover_75 ?_
            refine gX1_4 hx hb hG hown hK hP (kR_boat (kR_bts ho) hn_11) gw_6_8 dX3_hasToCover_76 ?_
            refine lv_aload_n hx hb dX3_hasToCover_79 rfl (lv_at hl 2 rfl) ?_
            refine gX1_4 hx hb hG hown hK hP ha1 gw_6_8 dX3_hasToCover_80 ?_
            refine lv_icmp_ge (tgt := 90) hx hb dX3_hasToCover_83 (by decide) (fun hc_12 => ?_) (fun hc_12 => ?_)
            · have hr_10 := ite_t hr_10 hc_12
              refine lv_iconst (v := 0) hx hb dX3_hasToCover_90 (by decide) ?_
              cases hr_10
              exact j91 _ _ _ (Or.inl rfl) hP hS (lv_sub hl [] rfl)
            · have hr_10 := ite_f hr_10 hc_12
              refine lv_iconst (v := 1) hx hb dX3_hasToCover_86 (by decide) ?_
              refine lv_goto (tgt := 91) hx hb dX3_hasToCover_87 (by decide) ?_
              cases hr_10
              exact j91 _ _ _ (Or.inr rfl) hP hS (lv_sub hl [] rfl)
        · have hc_7 : (4 * (o + 3) - 45 + t_3.toNatClampNeg) = a1 := (had _ _ (by have := (kR_boat (kR_bts ho) hn_6); omega) (by have := ha1; omega)) (Option.some.inj hc_7)
          have he := ite_f he (fun q => q hc_7)
          refine lv_iconst (v := 0) hx hb dX3_hasToCover_52 (by decide) ?_
          exact hret _ _ _ _ _ _ ⟨(Or.inl rfl), (hV.trans he.symm), rfl⟩ (nz01 (Or.inl rfl)) hP hS dX3_hasToCover_53
  refine lv_if_le (tgt := 22) hx hb dX3_hasToCover_7 (by decide) (fun hc_1 => ?_) (fun hc_1 => ?_)
  · have hr_2 := ite_t hr_2 hc_1
    refine lv_aload_n hx hb dX3_hasToCover_22 rfl (lv_at hl 0 rfl) ?_
    refine gX3_1 hx hb hG hown hK hP ho gw_6_7 dX3_hasToCover_23 ?_
    refine lv_iconst (v := 1) hx hb dX3_hasToCover_26 (by decide) ?_
    refine lv_isub hx hb dX3_hasToCover_27 ?_
    cases hr_2
    exact j28 _ _ _ hP hS (lv_sub hl [0, 1] rfl)
  · have hr_2 := ite_f hr_2 hc_1
    refine lv_aload_n hx hb dX3_hasToCover_10 rfl (lv_at hl 1 rfl) ?_
    refine gX1_0 hx hb hG hown hK hP ha1 gw_14_6 dX3_hasToCover_11 ?_
    refine gX4_2 hx hb hG hown hK hP (kR_slr ha1) gw_14_7 dX3_hasToCover_14 ?_
    refine lv_iconst (v := 1) hx hb dX3_hasToCover_17 (by decide) ?_
    refine lv_isub hx hb dX3_hasToCover_18 ?_
    refine lv_goto (tgt := 28) hx hb dX3_hasToCover_19 (by decide) ?_
    cases hr_2
    exact j28 _ _ _ hP hS (lv_sub hl [0, 1] rfl)
def rm_X1_turnsOddlyAt : Room := { frames := 0, cells := 0, slots := 0, locals := 0 }
theorem gm_X1_turnsOddlyAt : Cond.instanceMethod yX1_turnsOddlyAt ∈ wsL_law ∧ Cond.selects RX1 yX1_turnsOddlyAt yX1_turnsOddlyAt ∈ wsL_law ∧ Cond.initialized RX1 ∈ wsL_law ∧ Cond.code yX1_turnsOddlyAt cX1_turnsOddlyAt 3 (some .boolean) ∈ wsL_law := ⟨gw_21_5, gw_21_6, gw_3_11, gw_21_7⟩
theorem gd_X1_turnsOddlyAt : yX1_turnsOddlyAt.cls = RX1 ∧ yX1_turnsOddlyAt.cls ≠ "java/lang/invoke/MethodHandle" ∧ yX1_turnsOddlyAt.cls ≠ "java/lang/invoke/VarHandle" ∧ (parseMethodDescriptor yX1_turnsOddlyAt.desc).map (fun d => d.parameters.length) = some 1 := by decide +kernel
set_option maxRecDepth 100000 in
set_option maxHeartbeats 0 in
theorem c_X1_turnsOddlyAt {l : Launch} {D : va_G} {k : Nat → ClassId} {ad : Nat → Nat} (had : InjN 74 ad) (M : Mem) (o : Nat) (ho : kBoat o) (a1 : Int32) : Met l yX1_turnsOddlyAt (Cond.code yX1_turnsOddlyAt cX1_turnsOddlyAt 3 (some .boolean) :: wsL_law) rm_X1_turnsOddlyAt (va_Pc [.ref (ad o), .int a1] (GW 74 ad D k (cC ad k M))) (va_Qi (fun r u => (r = 0 ∨ r = 1) ∧ f_X1_turnsOddlyAt M o a1 = r ∧ u = M) (fun u t => GW 74 ad D k (cC ad k u) t) (AW 74 ad)) 0 0 (AW 74 ad) := by
  refine met_z (g := cC ad k) (M := M) (plainFor_of_name (by decide)) (Nat.le_of_ble_eq_true rfl) ?_
  intro p e s m args below meth c Q ls hx hb hml hG hown hK hret hP hS hl
  have hl : lv_has ls 3 [(0, .ref (ad o)), (1, .int a1)] := hl
  obtain ⟨V, hV⟩ : ∃ V, f_X1_turnsOddlyAt M o a1 = V := ⟨_, rfl⟩
  have he := hV
  unfold f_X1_turnsOddlyAt at he
  refine lv_iconst (v := 5) hx hb dX1_turnsOddlyAt_0 (by decide) ?_
  refine lv_aload_n hx hb dX1_turnsOddlyAt_1 rfl (lv_at hl 0 rfl) ?_
  refine gX1_0 hx hb hG hown hK hP ho gw_3_18 dX1_turnsOddlyAt_2 ?_
  refine gX4_1 hx hb hG hown hK hP (kR_slr ho) gw_16_11 dX1_turnsOddlyAt_5 ?_
  refine lv_imul hx hb dX1_turnsOddlyAt_8 ?_
  refine lv_topi (fun y_1 ey_1 => ?_)
  have he := bnd_at he ey_1
  refine lv_istore_n (lv' := [(2, .int y_1), (0, .ref (ad o)), (1, .int a1)]) hx hb dX1_turnsOddlyAt_9 rfl hl (by decide) rfl (fun ls hl => ?_)
  refine lv_iload_n hx hb dX1_turnsOddlyAt_10 rfl (lv_at hl 0 rfl) ?_
  obtain ⟨t_5, hr_3, he⟩ := bnd_ex he
  have j28 : ∀ (H : Heap) (locs : List Loc) (ls : Array Slot), (t_5 = 0 ∨ t_5 = 1) → va_P D vwCl (wld 74 ad (cC ad k M)) H → va_S (AW 74 ad) s.heap H locs → lv_has ls 3 [] → W p l e rm_X1_turnsOddlyAt s m args below meth c H locs 0 0 Q (F0 m 28 ls [.int t_5]) := by
    intro H locs ls zt_5 hP hS hl
    exact hret _ _ _ _ _ _ ⟨zt_5, (hV.trans he.symm), rfl⟩ (nz01 zt_5) hP hS dX1_turnsOddlyAt_28
  refine lv_if_le (tgt := 27) hx hb dX1_turnsOddlyAt_11 (by decide) (fun hc_2 => ?_) (fun hc_2 => ?_)
  · have hr_3 := ite_t hr_3 hc_2
    refine lv_iconst (v := 0) hx hb dX1_turnsOddlyAt_27 (by decide) ?_
    cases hr_3
    exact j28 _ _ _ (Or.inl rfl) hP hS (lv_sub hl [] rfl)
  · have hr_3 := ite_f hr_3 hc_2
    refine lv_iload_n hx hb dX1_turnsOddlyAt_14 rfl (lv_at hl 2 rfl) ?_
    refine lv_iconst (v := 2) hx hb dX1_turnsOddlyAt_15 (by decide) ?_
    refine lv_iload_n hx hb dX1_turnsOddlyAt_16 rfl (lv_at hl 0 rfl) ?_
    refine lv_imul hx hb dX1_turnsOddlyAt_17 ?_
    refine lv_irem hx hb dX1_turnsOddlyAt_18 (ne2_I (by have qy_1 := congrArg Int32.toInt ey_1; have q1 : 0 < y_1.toInt := nle_I hc_2; omega)) ?_
    refine lv_iload_n hx hb dX1_turnsOddlyAt_19 rfl (lv_at hl 0 rfl) ?_
    refine lv_icmp_ne (tgt := 27) hx hb dX1_turnsOddlyAt_20 (by decide) (fun hc_4 => ?_) (fun hc_4 => ?_)
    · have hr_3 := ite_t hr_3 hc_4
      refine lv_iconst (v := 0) hx hb dX1_turnsOddlyAt_27 (by decide) ?_
      cases hr_3
      exact j28 _ _ _ (Or.inl rfl) hP hS (lv_sub hl [] rfl)
    · have hr_3 := ite_f hr_3 (fun q => q hc_4)
      refine lv_iconst (v := 1) hx hb dX1_turnsOddlyAt_23 (by decide) ?_
      refine lv_goto (tgt := 28) hx hb dX1_turnsOddlyAt_24 (by decide) ?_
      cases hr_3
      exact j28 _ _ _ (Or.inr rfl) hP hS (lv_sub hl [] rfl)
def rm_X1_isFarAside : Room := { frames := 0, cells := 0, slots := 0, locals := 0 }
theorem gm_X1_isFarAside : Cond.instanceMethod yX1_isFarAside ∈ wsL_law ∧ Cond.selects RX1 yX1_isFarAside yX1_isFarAside ∈ wsL_law ∧ Cond.initialized RX1 ∈ wsL_law ∧ Cond.code yX1_isFarAside cX1_isFarAside 1 (some .boolean) ∈ wsL_law := ⟨gw_21_9, gw_21_10, gw_3_11, gw_21_11⟩
theorem gd_X1_isFarAside : yX1_isFarAside.cls = RX1 ∧ yX1_isFarAside.cls ≠ "java/lang/invoke/MethodHandle" ∧ yX1_isFarAside.cls ≠ "java/lang/invoke/VarHandle" ∧ (parseMethodDescriptor yX1_isFarAside.desc).map (fun d => d.parameters.length) = some 0 := by decide +kernel
set_option maxRecDepth 100000 in
set_option maxHeartbeats 0 in
theorem c_X1_isFarAside {l : Launch} {D : va_G} {k : Nat → ClassId} {ad : Nat → Nat} (had : InjN 74 ad) (M : Mem) (o : Nat) (ho : kBoat o) : Met l yX1_isFarAside (Cond.code yX1_isFarAside cX1_isFarAside 1 (some .boolean) :: wsL_law) rm_X1_isFarAside (va_Pc [.ref (ad o)] (GW 74 ad D k (cC ad k M))) (va_Qi (fun r u => (r = 0 ∨ r = 1) ∧ f_X1_isFarAside M o = r ∧ u = M) (fun u t => GW 74 ad D k (cC ad k u) t) (AW 74 ad)) 0 0 (AW 74 ad) := by
  refine met_z (g := cC ad k) (M := M) (plainFor_of_name (by decide)) (Nat.le_of_ble_eq_true rfl) ?_
  intro p e s m args below meth c Q ls hx hb hml hG hown hK hret hP hS hl
  have hl : lv_has ls 1 [(0, .ref (ad o))] := hl
  obtain ⟨V, hV⟩ : ∃ V, f_X1_isFarAside M o = V := ⟨_, rfl⟩
  have he := hV
  unfold f_X1_isFarAside at he
  refine lv_aload_n hx hb dX1_isFarAside_0 rfl (lv_at hl 0 rfl) ?_
  refine gX1_5 hx hb hG hown hK hP ho gw_15_4 dX1_isFarAside_1 ?_
  obtain ⟨t_3, hr_2, he⟩ := bnd_ex he
  have j19 : ∀ (H : Heap) (locs : List Loc) (ls : Array Slot), va_P D vwCl (wld 74 ad (cC ad k M)) H → va_S (AW 74 ad) s.heap H locs → lv_has ls 1 [(0, .ref (ad o))] → W p l e rm_X1_isFarAside s m args below meth c H locs 0 0 Q (F0 m 19 ls [.int t_3]) := by
    intro H locs ls hP hS hl
    refine lv_iconst (v := 5) hx hb dX1_isFarAside_19 (by decide) ?_
    refine lv_aload_n hx hb dX1_isFarAside_20 rfl (lv_at hl 0 rfl) ?_
    refine gX1_0 hx hb hG hown hK hP ho gw_3_18 dX1_isFarAside_21 ?_
    refine gX4_1 hx hb hG hown hK hP (kR_slr ho) gw_16_11 dX1_isFarAside_24 ?_
    refine lv_imul hx hb dX1_isFarAside_27 ?_
    obtain ⟨t_6, hr_5, he⟩ := bnd_ex he
    have j36 : ∀ (H : Heap) (locs : List Loc) (ls : Array Slot), (t_6 = 0 ∨ t_6 = 1) → va_P D vwCl (wld 74 ad (cC ad k M)) H → va_S (AW 74 ad) s.heap H locs → lv_has ls 1 [] → W p l e rm_X1_isFarAside s m args below meth c H locs 0 0 Q (F0 m 36 ls [.int t_6]) := by
      intro H locs ls zt_6 hP hS hl
      exact hret _ _ _ _ _ _ ⟨zt_6, (hV.trans he.symm), rfl⟩ (nz01 zt_6) hP hS dX1_isFarAside_36
    refine lv_icmp_lt (tgt := 35) hx hb dX1_isFarAside_28 (by decide) (fun hc_4 => ?_) (fun hc_4 => ?_)
    · have hr_5 := ite_t hr_5 hc_4
      refine lv_iconst (v := 0) hx hb dX1_isFarAside_35 (by decide) ?_
      cases hr_5
      exact j36 _ _ _ (Or.inl rfl) hP hS (lv_sub hl [] rfl)
    · have hr_5 := ite_f hr_5 hc_4
      refine lv_iconst (v := 1) hx hb dX1_isFarAside_31 (by decide) ?_
      refine lv_goto (tgt := 36) hx hb dX1_isFarAside_32 (by decide) ?_
      cases hr_5
      exact j36 _ _ _ (Or.inr rfl) hP hS (lv_sub hl [] rfl)
  refine lv_if_eq (tgt := 14) hx hb dX1_isFarAside_4 (by decide) (fun hc_1 => ?_) (fun hc_1 => ?_)
  · have hr_2 := ite_t hr_2 hc_1
    refine lv_aload_n hx hb dX1_isFarAside_14 rfl (lv_at hl 0 rfl) ?_
    refine gX1_3 hx hb hG hown hK hP ho gw_15_2 dX1_isFarAside_15 ?_
    refine lv_ineg hx hb dX1_isFarAside_18 ?_
    cases hr_2
    exact j19 _ _ _ hP hS (lv_sub hl [0] rfl)
  · have hr_2 := ite_f hr_2 hc_1
    refine lv_aload_n hx hb dX1_isFarAside_7 rfl (lv_at hl 0 rfl) ?_
    refine gX1_3 hx hb hG hown hK hP ho gw_15_2 dX1_isFarAside_8 ?_
    refine lv_goto (tgt := 19) hx hb dX1_isFarAside_11 (by decide) ?_
    cases hr_2
    exact j19 _ _ _ hP hS (lv_sub hl [0] rfl)
