-- @needs 12_dec 13_dec 14_dec 15_dec 37_fault
def rm_X7_thrown : Room := { frames := 0, cells := 0, slots := 0, locals := 0 }
theorem gm_X7_thrown : Cond.instanceMethod yX7_thrown ∈ wsL_law ∧ Cond.selects RX7 yX7_thrown yX7_thrown ∈ wsL_law ∧ Cond.initialized RX7 ∈ wsL_law ∧ Cond.code yX7_thrown cX7_thrown 1 (some .int) ∈ wsL_law := ⟨gw_43_11, gw_43_12, gw_1_5, gw_43_13⟩
theorem gd_X7_thrown : yX7_thrown.cls = RX7 ∧ yX7_thrown.cls ≠ "java/lang/invoke/MethodHandle" ∧ yX7_thrown.cls ≠ "java/lang/invoke/VarHandle" ∧ (parseMethodDescriptor yX7_thrown.desc).map (fun d => d.parameters.length) = some 0 := by decide +kernel
set_option maxRecDepth 100000 in
set_option maxHeartbeats 0 in
theorem c_X7_thrown {l : Launch} {D : va_G} {k : Nat → ClassId} {ad : Nat → Nat} (had : InjN 31 ad) (M : Mem) (hI : MI M) : Met l yX7_thrown (Cond.code yX7_thrown cX7_thrown 1 (some .int) :: wsL_law) rm_X7_thrown (va_Pc [.ref (ad 0)] (GW 31 ad D k (cM ad k M))) (va_Qi (fun r u => f_X7_thrown M = r ∧ u = M) (fun u t => GW 31 ad D k (cM ad k u) t) (AW 31 ad)) 0 0 (AW 31 ad) := by
  refine met_i (g := cM ad k) (M := M) (plainFor_of_name (by decide)) (Nat.le_of_ble_eq_true rfl) ?_
  intro p e s m args below meth c Q ls hx hb hml hG hown hK hret hP hS hl
  have hl : lv_has ls 1 [(0, .ref (ad 0))] := hl
  obtain ⟨V, hV⟩ : ∃ V, f_X7_thrown M = V := ⟨_, rfl⟩
  have he := hV
  unfold f_X7_thrown at he
  have hT0 : TI M M := TI_rf hI
  have qb_M := hI.1
  have qs_M := hI.2.1
  have qz_M := hI.2.2.1
  refine lv_aload_n hx hb dX7_thrown_0 rfl (lv_at hl 0 rfl) ?_
  refine gX7_19 hx hb hG hown hK hP gw_5_19 dX7_thrown_1 ?_
  exact hret _ _ _ _ _ _ ⟨hV.trans he.symm, rfl⟩ hP hS dX7_thrown_4
def rm_X7_in : Room := { frames := 0, cells := 0, slots := 0, locals := 0 }
theorem gm_X7_in : Cond.static yX7_in ∈ wsL_law ∧ Cond.initialized yX7_in.cls ∈ wsL_law ∧ Cond.code yX7_in cX7_in 6 (some .boolean) ∈ wsL_law := ⟨gw_7_3, gw_1_5, gw_7_4⟩
theorem gd_X7_in : yX7_in.cls ≠ "java/lang/invoke/MethodHandle" ∧ yX7_in.cls ≠ "java/lang/invoke/VarHandle" ∧ (parseMethodDescriptor yX7_in.desc).map (fun d => d.parameters.length) = some 3 := by decide +kernel
set_option maxRecDepth 100000 in
set_option maxHeartbeats 0 in
theorem c_X7_in {l : Launch} {D : va_G} {k : Nat → ClassId} {ad : Nat → Nat} (had : InjN 31 ad) {M : Mem} (a1 : Int64) (a2 : Int64) (a3 : Int64) : Met l yX7_in (Cond.code yX7_in cX7_in 6 (some .boolean) :: wsL_law) rm_X7_in (va_Pc [.long a1, .long a2, .long a3] (GW 31 ad D k (cM ad k M))) (va_Qi (fun r u => (r = 0 ∨ r = 1) ∧ f_X7_in a1 a2 a3 = r ∧ u = M) (fun u t => GW 31 ad D k (cM ad k u) t) (AW 31 ad)) 0 0 (AW 31 ad) := by
  refine met_z (g := cM ad k) (M := M) (plainFor_of_name (by decide)) (Nat.le_of_ble_eq_true rfl) ?_
  intro p e s m args below meth c Q ls hx hb hml hG hown hK hret hP hS hl
  have hl : lv_has ls 6 [(0, .long a1), (2, .long a2), (4, .long a3)] := hl
  obtain ⟨V, hV⟩ : ∃ V, f_X7_in a1 a2 a3 = V := ⟨_, rfl⟩
  have he := hV
  unfold f_X7_in at he
  refine lv_lload_n hx hb dX7_in_0 rfl (lv_at hl 0 rfl) ?_
  refine lv_lload_n hx hb dX7_in_1 rfl (lv_at hl 1 rfl) ?_
  refine W.lcmp hx hb dX7_in_2 ?_
  obtain ⟨t_4, hr_2, he⟩ := bnd_ex he
  have j18 : ∀ (H : Heap) (locs : List Loc) (ls : Array Slot), (t_4 = 0 ∨ t_4 = 1) → va_P D vwCl (wld 31 ad (cM ad k M)) H → va_S (AW 31 ad) s.heap H locs → lv_has ls 6 [] → W p l e rm_X7_in s m args below meth c H locs 0 0 Q (F0 m 18 ls [.int t_4]) := by
    intro H locs ls zt_4 hP hS hl
    exact hret _ _ _ _ _ _ ⟨zt_4, (hV.trans he.symm), rfl⟩ (nz01 zt_4) hP hS dX7_in_18
  refine lv_if_lt (tgt := 17) hx hb dX7_in_3 (by decide) (fun hc_1 => ?_) (fun hc_1 => ?_)
  · have hr_2 := ite_t hr_2 hc_1
    refine lv_iconst (v := 0) hx hb dX7_in_17 (by decide) ?_
    cases hr_2
    exact j18 _ _ _ (Or.inl rfl) hP hS (lv_sub hl [] rfl)
  · have hr_2 := ite_f hr_2 hc_1
    refine lv_lload_n hx hb dX7_in_6 rfl (lv_at hl 0 rfl) ?_
    refine lv_lload hx hb dX7_in_7 (lv_at hl 2 rfl) ?_
    refine W.lcmp hx hb dX7_in_9 ?_
    refine lv_if_gt (tgt := 17) hx hb dX7_in_10 (by decide) (fun hc_3 => ?_) (fun hc_3 => ?_)
    · have hr_2 := ite_t hr_2 hc_3
      refine lv_iconst (v := 0) hx hb dX7_in_17 (by decide) ?_
      cases hr_2
      exact j18 _ _ _ (Or.inl rfl) hP hS (lv_sub hl [] rfl)
    · have hr_2 := ite_f hr_2 hc_3
      refine lv_iconst (v := 1) hx hb dX7_in_13 (by decide) ?_
      refine lv_goto (tgt := 18) hx hb dX7_in_14 (by decide) ?_
      cases hr_2
      exact j18 _ _ _ (Or.inr rfl) hP hS (lv_sub hl [] rfl)
def rm_X7_plainly : Room := { frames := 0, cells := 0, slots := 0, locals := 0 }
theorem gm_X7_plainly : Cond.static yX7_plainly ∈ wsL_law ∧ Cond.initialized yX7_plainly.cls ∈ wsL_law ∧ Cond.code yX7_plainly cX7_plainly 1 (some .int) ∈ wsL_law := ⟨gw_23_11, gw_1_5, gw_23_12⟩
theorem gd_X7_plainly : yX7_plainly.cls ≠ "java/lang/invoke/MethodHandle" ∧ yX7_plainly.cls ≠ "java/lang/invoke/VarHandle" ∧ (parseMethodDescriptor yX7_plainly.desc).map (fun d => d.parameters.length) = some 1 := by decide +kernel
set_option maxRecDepth 100000 in
set_option maxHeartbeats 0 in
theorem c_X7_plainly {l : Launch} {D : va_G} {k : Nat → ClassId} {ad : Nat → Nat} (had : InjN 31 ad) {M : Mem} (a1 : Int32) : Met l yX7_plainly (Cond.code yX7_plainly cX7_plainly 1 (some .int) :: wsL_law) rm_X7_plainly (va_Pc [.int a1] (GW 31 ad D k (cM ad k M))) (va_Qi (fun r u => f_X7_plainly a1 = r ∧ u = M) (fun u t => GW 31 ad D k (cM ad k u) t) (AW 31 ad)) 0 0 (AW 31 ad) := by
  refine met_i (g := cM ad k) (M := M) (plainFor_of_name (by decide)) (Nat.le_of_ble_eq_true rfl) ?_
  intro p e s m args below meth c Q ls hx hb hml hG hown hK hret hP hS hl
  have hl : lv_has ls 1 [(0, .int a1)] := hl
  obtain ⟨V, hV⟩ : ∃ V, f_X7_plainly a1 = V := ⟨_, rfl⟩
  have he := hV
  unfold f_X7_plainly at he
  refine lv_iload_n hx hb dX7_plainly_0 rfl (lv_at hl 0 rfl) ?_
  obtain ⟨t_3, hr_2, he⟩ := bnd_ex he
  have j10 : ∀ (H : Heap) (locs : List Loc) (ls : Array Slot), va_P D vwCl (wld 31 ad (cM ad k M)) H → va_S (AW 31 ad) s.heap H locs → lv_has ls 1 [] → W p l e rm_X7_plainly s m args below meth c H locs 0 0 Q (F0 m 10 ls [.int t_3]) := by
    intro H locs ls hP hS hl
    exact hret _ _ _ _ _ _ ⟨hV.trans he.symm, rfl⟩ hP hS dX7_plainly_10
  refine lv_if_ge (tgt := 9) hx hb dX7_plainly_1 (by decide) (fun hc_1 => ?_) (fun hc_1 => ?_)
  · have hr_2 := ite_t hr_2 hc_1
    refine lv_iload_n hx hb dX7_plainly_9 rfl (lv_at hl 0 rfl) ?_
    cases hr_2
    exact j10 _ _ _ hP hS (lv_sub hl [] rfl)
  · have hr_2 := ite_f hr_2 hc_1
    refine lv_iload_n hx hb dX7_plainly_4 rfl (lv_at hl 0 rfl) ?_
    refine lv_ineg hx hb dX7_plainly_5 ?_
    refine lv_goto (tgt := 10) hx hb dX7_plainly_6 (by decide) ?_
    cases hr_2
    exact j10 _ _ _ hP hS (lv_sub hl [] rfl)
def rm_X7_isBoat : Room := { frames := 1, cells := 0, slots := 0, locals := 25 }
theorem gm_X7_isBoat : Cond.instanceMethod yX7_isBoat ∈ wsL_law ∧ Cond.selects RX7 yX7_isBoat yX7_isBoat ∈ wsL_law ∧ Cond.initialized RX7 ∈ wsL_law ∧ Cond.code yX7_isBoat cX7_isBoat 2 (some .boolean) ∈ wsL_law := ⟨gw_16_17, gw_16_18, gw_1_5, gw_16_19⟩
theorem gd_X7_isBoat : yX7_isBoat.cls = RX7 ∧ yX7_isBoat.cls ≠ "java/lang/invoke/MethodHandle" ∧ yX7_isBoat.cls ≠ "java/lang/invoke/VarHandle" ∧ (parseMethodDescriptor yX7_isBoat.desc).map (fun d => d.parameters.length) = some 1 := by decide +kernel
set_option maxRecDepth 100000 in
set_option maxHeartbeats 0 in
theorem c_X7_isBoat {l : Launch} {D : va_G} {k : Nat → ClassId} {ad : Nat → Nat} (had : InjN 31 ad) (M : Mem) (a1 : Int32) (hI : MI M) : Met l yX7_isBoat (Cond.code yX7_isBoat cX7_isBoat 2 (some .boolean) :: wsL_law) rm_X7_isBoat (va_Pc [.ref (ad 0), .int a1] (GW 31 ad D k (cM ad k M))) (va_Qi (fun r u => (r = 0 ∨ r = 1) ∧ f_X7_isBoat M a1 = r ∧ u = M) (fun u t => GW 31 ad D k (cM ad k u) t) (AW 31 ad)) 0 0 (AW 31 ad) := by
  refine met_z (g := cM ad k) (M := M) (plainFor_of_name (by decide)) (Nat.le_of_ble_eq_true rfl) ?_
  intro p e s m args below meth c Q ls hx hb hml hG hown hK hret hP hS hl
  have hl : lv_has ls 2 [(0, .ref (ad 0)), (1, .int a1)] := hl
  obtain ⟨V, hV⟩ : ∃ V, f_X7_isBoat M a1 = V := ⟨_, rfl⟩
  have he := hV
  unfold f_X7_isBoat at he
  have hT0 : TI M M := TI_rf hI
  have qb_M := hI.1
  have qs_M := hI.2.1
  have qz_M := hI.2.2.1
  refine lv_iload_n hx hb dX7_isBoat_0 rfl (lv_at hl 1 rfl) ?_
  refine lv_i2l (v := a1.toInt64) hx hb dX7_isBoat_1 rfl ?_
  refine lv_lconst (v := 0) hx hb dX7_isBoat_2 (by decide) ?_
  refine lv_aload_n hx hb dX7_isBoat_3 rfl (lv_at hl 0 rfl) ?_
  refine gX7_8 hx hb hG hown hK hP gw_7_15 dX7_isBoat_4 ?_
  refine lv_iconst (v := 1) hx hb dX7_isBoat_7 (by decide) ?_
  refine lv_isub hx hb dX7_isBoat_8 ?_
  refine lv_i2l (v := ((M 0 8) - 1).toInt64) hx hb dX7_isBoat_9 rfl ?_
  refine callS_i [.long a1.toInt64, .long 0, .long (((M 0 8) - 1).toInt64)] [] hx hb hml hG hown hK (c_X7_in had (M := M)  a1.toInt64 0 (((M 0 8) - 1).toInt64)) gw_7_2 gm_X7_in gd_X7_in rfl rfl ⟨Nat.le_of_ble_eq_true rfl, Nat.le_of_ble_eq_true rfl⟩ ⟨Nat.le_refl _, Nat.le_refl _⟩ hP (fun _ h => h) hS rfl hl.1 rfl (Nat.le_of_ble_eq_true rfl) dX7_isBoat_10 (fun r_1 u_3 H locs hF_2 hP hS => ?_)
  obtain ⟨hz_4, hF_2, hu⟩ := hF_2; rw [hu] at hP; subst hF_2
  exact hret _ _ _ _ _ _ ⟨hz_4, (hV.trans he.symm), rfl⟩ (nz01 hz_4) hP hS dX7_isBoat_13
