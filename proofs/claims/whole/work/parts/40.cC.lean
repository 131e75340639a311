-- @needs 12_dec 13_dec 14_dec 15_dec 31_hC
def rm_X6_shelfAt : Room := { frames := 0, cells := 0, slots := 0, locals := 0 }
theorem gm_X6_shelfAt : Cond.instanceMethod yX6_shelfAt ∈ wsL_law ∧ Cond.selects RX6 yX6_shelfAt yX6_shelfAt ∈ wsL_law ∧ Cond.initialized RX6 ∈ wsL_law ∧ Cond.code yX6_shelfAt cX6_shelfAt 2 (some (.object "WindBay$Shelf")) ∈ wsL_law := ⟨gw_7_23, gw_8_0, gw_1_2, gw_8_1⟩
theorem gd_X6_shelfAt : yX6_shelfAt.cls = RX6 ∧ yX6_shelfAt.cls ≠ "java/lang/invoke/MethodHandle" ∧ yX6_shelfAt.cls ≠ "java/lang/invoke/VarHandle" ∧ (parseMethodDescriptor yX6_shelfAt.desc).map (fun d => d.parameters.length) = some 1 := by decide +kernel
set_option maxRecDepth 100000 in
set_option maxHeartbeats 0 in
theorem c_X6_shelfAt {l : Launch} {D : va_G} {k : Nat → ClassId} {ad : Nat → Nat} (had : InjN 74 ad) (M : Mem) (a1 : Int32) : Met l yX6_shelfAt (Cond.code yX6_shelfAt cX6_shelfAt 2 (some (.object "WindBay$Shelf")) :: wsL_law) rm_X6_shelfAt (va_Pc [.ref (ad 0), .int a1] (GW 74 ad D k (cC ad k M))) (va_Qe ad (fun r u => (∀ i, r = some i → kShf i) ∧ f_X6_shelfAt M a1 = r ∧ u = M) (fun u t => GW 74 ad D k (cC ad k u) t) (AW 74 ad)) 0 0 (AW 74 ad) := by
  refine met_e (g := cC ad k) (M := M) (rt := (.object "WindBay$Shelf")) (Or.inl ⟨_, rfl⟩) (plainFor_of_name (by decide)) (Nat.le_of_ble_eq_true rfl) ?_
  intro p e s m args below meth c Q ls hx hb hml hG hown hK hret hP hS hl
  have hl : lv_has ls 2 [(0, .ref (ad 0)), (1, .int a1)] := hl
  obtain ⟨V, hV⟩ : ∃ V, f_X6_shelfAt M a1 = V := ⟨_, rfl⟩
  have he := hV
  unfold f_X6_shelfAt at he
  refine lv_iload_n hx hb dX6_shelfAt_0 rfl (lv_at hl 1 rfl) ?_
  obtain ⟨t_5, hr_2, he⟩ := bnd_ex he
  have j23 : ∀ (H : Heap) (locs : List Loc) (ls : Array Slot), (∀ i, t_5 = some i → kShf i) → va_P D vwCl (wld 74 ad (cC ad k M)) H → va_S (AW 74 ad) s.heap H locs → lv_has ls 2 [] → W p l e rm_X6_shelfAt s m args below meth c H locs 0 0 Q (F0 m 23 ls [va_re ad t_5]) := by
    intro H locs ls zt_5 hP hS hl
    exact hret _ _ _ _ (t_5) _ ⟨zt_5, hV.trans he.symm, rfl⟩ hP hS dX6_shelfAt_23
  refine lv_if_lt (tgt := 22) hx hb dX6_shelfAt_1 (by decide) (fun hc_1 => ?_) (fun hc_1 => ?_)
  · have hr_2 := ite_t hr_2 hc_1
    refine lv_null hx hb dX6_shelfAt_22 ?_
    cases hr_2
    exact j23 _ _ _ (fun _ h => nomatch h) hP hS (lv_sub hl [] rfl)
  · have hr_2 := ite_f hr_2 hc_1
    refine lv_iload_n hx hb dX6_shelfAt_4 rfl (lv_at hl 1 rfl) ?_
    refine lv_aload_n hx hb dX6_shelfAt_5 rfl (lv_at hl 0 rfl) ?_
    refine gX6_7 hx hb hG hown hK hP rfl gw_2_2 dX6_shelfAt_6 ?_
    refine an_kShs hx hb hK hP rfl dX6_shelfAt_9 ?_
    refine lv_icmp_ge (tgt := 22) hx hb dX6_shelfAt_10 (by decide) (fun hc_3 => ?_) (fun hc_3 => ?_)
    · have hr_2 := ite_t hr_2 hc_3
      refine lv_null hx hb dX6_shelfAt_22 ?_
      cases hr_2
      exact j23 _ _ _ (fun _ h => nomatch h) hP hS (lv_sub hl [] rfl)
    · have hr_2 := ite_f hr_2 hc_3
      refine lv_aload_n hx hb dX6_shelfAt_13 rfl (lv_at hl 0 rfl) ?_
      refine gX6_7 hx hb hG hown hK hP rfl gw_2_2 dX6_shelfAt_14 ?_
      refine lv_iload_n hx hb dX6_shelfAt_17 rfl (lv_at hl 1 rfl) ?_
      have hn_4 : vp_in a1 8 := (vin_I (by have q0 : 0 ≤ a1.toInt := nlt_I hc_1; have q1 : a1.toInt < 8 := nle_I hc_3; omega) (by have q0 : 0 ≤ a1.toInt := nlt_I hc_1; have q1 : a1.toInt < 8 := nle_I hc_3; omega))
      refine al_kShs hx hb hK hP rfl hn_4 dX6_shelfAt_18 ?_
      refine lv_goto (tgt := 23) hx hb dX6_shelfAt_19 (by decide) ?_
      cases hr_2
      exact j23 _ _ _ (fun _ h => by cases h; exact (kR_shf rfl hn_4)) hP hS (lv_sub hl [] rfl)
def rm_X5_rowRefusal : Room := { frames := 0, cells := 0, slots := 0, locals := 0 }
theorem gm_X5_rowRefusal : Cond.instanceMethod yX5_rowRefusal ∈ wsL_law ∧ Cond.selects RX5 yX5_rowRefusal yX5_rowRefusal ∈ wsL_law ∧ Cond.initialized RX5 ∈ wsL_law ∧ Cond.code yX5_rowRefusal cX5_rowRefusal 1 (some .int) ∈ wsL_law := ⟨gw_8_8, gw_8_9, gw_2_4, gw_8_10⟩
theorem gd_X5_rowRefusal : yX5_rowRefusal.cls = RX5 ∧ yX5_rowRefusal.cls ≠ "java/lang/invoke/MethodHandle" ∧ yX5_rowRefusal.cls ≠ "java/lang/invoke/VarHandle" ∧ (parseMethodDescriptor yX5_rowRefusal.desc).map (fun d => d.parameters.length) = some 0 := by decide +kernel
set_option maxRecDepth 100000 in
set_option maxHeartbeats 0 in
theorem c_X5_rowRefusal {l : Launch} {D : va_G} {k : Nat → ClassId} {ad : Nat → Nat} (had : InjN 74 ad) (M : Mem) (o : Nat) (ho : kShf o) : Met l yX5_rowRefusal (Cond.code yX5_rowRefusal cX5_rowRefusal 1 (some .int) :: wsL_law) rm_X5_rowRefusal (va_Pc [.ref (ad o)] (GW 74 ad D k (cC ad k M))) (va_Qi (fun r u => f_X5_rowRefusal M o = r ∧ u = M) (fun u t => GW 74 ad D k (cC ad k u) t) (AW 74 ad)) 0 0 (AW 74 ad) := by
  refine met_i (g := cC ad k) (M := M) (plainFor_of_name (by decide)) (Nat.le_of_ble_eq_true rfl) ?_
  intro p e s m args below meth c Q ls hx hb hml hG hown hK hret hP hS hl
  have hl : lv_has ls 1 [(0, .ref (ad o))] := hl
  obtain ⟨V, hV⟩ : ∃ V, f_X5_rowRefusal M o = V := ⟨_, rfl⟩
  have he := hV
  unfold f_X5_rowRefusal at he
  refine lv_aload_n hx hb dX5_rowRefusal_0 rfl (lv_at hl 0 rfl) ?_
  refine gX5_0 hx hb hG hown hK hP ho gw_4_2 dX5_rowRefusal_1 ?_
  refine lv_if_ne (tgt := 10) hx hb dX5_rowRefusal_4 (by decide) (fun hc_1 => ?_) (fun hc_1 => ?_)
  · have he := ite_t he hc_1
    refine lv_aload_n hx hb dX5_rowRefusal_10 rfl (lv_at hl 0 rfl) ?_
    refine gX5_0 hx hb hG hown hK hP ho gw_4_2 dX5_rowRefusal_11 ?_
    refine lv_iconst (v := 2) hx hb dX5_rowRefusal_14 (by decide) ?_
    obtain ⟨t_4, hr_3, he⟩ := bnd_ex he
    have j24 : ∀ (H : Heap) (locs : List Loc) (ls : Array Slot), va_P D vwCl (wld 74 ad (cC ad k M)) H → va_S (AW 74 ad) s.heap H locs → lv_has ls 1 [] → W p l e rm_X5_rowRefusal s m args below meth c H locs 0 0 Q (F0 m 24 ls [.int t_4]) := by
      intro H locs ls hP hS hl
      exact hret _ _ _ _ _ _ ⟨hV.trans he.symm, rfl⟩ hP hS dX5_rowRefusal_24
    refine lv_icmp_ne (tgt := 22) hx hb dX5_rowRefusal_15 (by decide) (fun hc_2 => ?_) (fun hc_2 => ?_)
    · have hr_3 := ite_t hr_3 hc_2
      refine lv_bipush (v := (-12)) hx hb dX5_rowRefusal_22 (by decide) ?_
      cases hr_3
      exact j24 _ _ _ hP hS (lv_sub hl [] rfl)
    · have hr_3 := ite_f hr_3 (fun q => q hc_2)
      refine lv_iconst (v := 0) hx hb dX5_rowRefusal_18 (by decide) ?_
      refine lv_goto (tgt := 24) hx hb dX5_rowRefusal_19 (by decide) ?_
      cases hr_3
      exact j24 _ _ _ hP hS (lv_sub hl [] rfl)
  · have he := ite_f he (fun q => q hc_1)
    refine lv_bipush (v := (-11)) hx hb dX5_rowRefusal_7 (by decide) ?_
    exact hret _ _ _ _ _ _ ⟨hV.trans he.symm, rfl⟩ hP hS dX5_rowRefusal_9
def rm_X5_textRefusal : Room := { frames := 1, cells := 0, slots := 0, locals := 20 }
theorem gm_X5_textRefusal : Cond.instanceMethod yX5_textRefusal ∈ wsL_law ∧ Cond.selects RX5 yX5_textRefusal yX5_textRefusal ∈ wsL_law ∧ Cond.initialized RX5 ∈ wsL_law ∧ Cond.code yX5_textRefusal cX5_textRefusal 2 (some .int) ∈ wsL_law := ⟨gw_8_3, gw_8_4, gw_2_4, gw_8_5⟩
theorem gd_X5_textRefusal : yX5_textRefusal.cls = RX5 ∧ yX5_textRefusal.cls ≠ "java/lang/invoke/MethodHandle" ∧ yX5_textRefusal.cls ≠ "java/lang/invoke/VarHandle" ∧ (parseMethodDescriptor yX5_textRefusal.desc).map (fun d => d.parameters.length) = some 0 := by decide +kernel
set_option maxRecDepth 100000 in
set_option maxHeartbeats 0 in
theorem c_X5_textRefusal {l : Launch} {D : va_G} {k : Nat → ClassId} {ad : Nat → Nat} (had : InjN 74 ad) (M : Mem) (o : Nat) (ho : kShf o) : Met l yX5_textRefusal (Cond.code yX5_textRefusal cX5_textRefusal 2 (some .int) :: wsL_law) rm_X5_textRefusal (va_Pc [.ref (ad o)] (GW 74 ad D k (cC ad k M))) (va_Qi (fun r u => f_X5_textRefusal M o = r ∧ u = M) (fun u t => GW 74 ad D k (cC ad k u) t) (AW 74 ad)) 0 0 (AW 74 ad) := by
  refine met_i (g := cC ad k) (M := M) (plainFor_of_name (by decide)) (Nat.le_of_ble_eq_true rfl) ?_
  intro p e s m args below meth c Q ls hx hb hml hG hown hK hret hP hS hl
  have hl : lv_has ls 2 [(0, .ref (ad o))] := hl
  obtain ⟨V, hV⟩ : ∃ V, f_X5_textRefusal M o = V := ⟨_, rfl⟩
  have he := hV
  unfold f_X5_textRefusal at he
  refine lv_aload_n hx hb dX5_textRefusal_0 rfl (lv_at hl 0 rfl) ?_
  refine call_i [] [] hx hb hml hG hown hK (c_X5_rowRefusal had M o ho) gw_8_7 gm_X5_rowRefusal gd_X5_rowRefusal rfl rfl ⟨Nat.le_of_ble_eq_true rfl, Nat.le_of_ble_eq_true rfl⟩ ⟨Nat.le_refl _, Nat.le_refl _⟩ (rX5 hK hP ho) hP (fun _ h => h) hS rfl hl.1 rfl (Nat.le_of_ble_eq_true rfl) dX5_textRefusal_1 (fun r_1 u_3 H locs hF_2 hP hS => ?_)
  obtain ⟨hF_2, hu⟩ := hF_2; rw [hu] at hP; subst hF_2
  refine lv_topi (fun y_4 ey_4 => ?_)
  have he := bnd_at he ey_4
  refine lv_istore_n (lv' := [(1, .int y_4), (0, .ref (ad o))]) hx hb dX5_textRefusal_4 rfl hl (by decide) rfl (fun ls hl => ?_)
  refine lv_iload_n hx hb dX5_textRefusal_5 rfl (lv_at hl 0 rfl) ?_
  obtain ⟨t_8, hr_6, he⟩ := bnd_ex he
  have j22 : ∀ (H : Heap) (locs : List Loc) (ls : Array Slot), va_P D vwCl (wld 74 ad (cC ad k M)) H → va_S (AW 74 ad) s.heap H locs → lv_has ls 2 [] → W p l e rm_X5_textRefusal s m args below meth c H locs 0 0 Q (F0 m 22 ls [.int t_8]) := by
    intro H locs ls hP hS hl
    exact hret _ _ _ _ _ _ ⟨hV.trans he.symm, rfl⟩ hP hS dX5_textRefusal_22
  refine lv_if_ne (tgt := 21) hx hb dX5_textRefusal_6 (by decide) (fun hc_5 => ?_) (fun hc_5 => ?_)
  · have hr_6 := ite_t hr_6 hc_5
    refine lv_iload_n hx hb dX5_textRefusal_21 rfl (lv_at hl 0 rfl) ?_
    cases hr_6
    exact j22 _ _ _ hP hS (lv_sub hl [] rfl)
  · have hr_6 := ite_f hr_6 (fun q => q hc_5)
    refine lv_aload_n hx hb dX5_textRefusal_9 rfl (lv_at hl 1 rfl) ?_
    refine gX5_2 hx hb hG hown hK hP ho gw_8_6 dX5_textRefusal_10 ?_
    refine lv_if_eq (tgt := 21) hx hb dX5_textRefusal_13 (by decide) (fun hc_7 => ?_) (fun hc_7 => ?_)
    · have hr_6 := ite_t hr_6 hc_7
      refine lv_iload_n hx hb dX5_textRefusal_21 rfl (lv_at hl 0 rfl) ?_
      cases hr_6
      exact j22 _ _ _ hP hS (lv_sub hl [] rfl)
    · have hr_6 := ite_f hr_6 hc_7
      refine lv_bipush (v := (-12)) hx hb dX5_textRefusal_16 (by decide) ?_
      refine lv_goto (tgt := 22) hx hb dX5_textRefusal_18 (by decide) ?_
      cases hr_6
      exact j22 _ _ _ hP hS (lv_sub hl [] rfl)
def rm_X2_isDigit : Room := { frames := 0, cells := 0, slots := 0, locals := 0 }
theorem gm_X2_isDigit : Cond.static yX2_isDigit ∈ wsL_law ∧ Cond.initialized yX2_isDigit.cls ∈ wsL_law ∧ Cond.code yX2_isDigit cX2_isDigit 1 (some .boolean) ∈ wsL_law := ⟨gw_8_15, gw_2_14, gw_8_16⟩
theorem gd_X2_isDigit : yX2_isDigit.cls ≠ "java/lang/invoke/MethodHandle" ∧ yX2_isDigit.cls ≠ "java/lang/invoke/VarHandle" ∧ (parseMethodDescriptor yX2_isDigit.desc).map (fun d => d.parameters.length) = some 1 := by decide +kernel
set_option maxRecDepth 100000 in
set_option maxHeartbeats 0 in
theorem c_X2_isDigit {l : Launch} {D : va_G} {k : Nat → ClassId} {ad : Nat → Nat} (had : InjN 74 ad) {M : Mem} (a1 : Int32) : Met l yX2_isDigit (Cond.code yX2_isDigit cX2_isDigit 1 (some .boolean) :: wsL_law) rm_X2_isDigit (va_Pc [.int a1] (GW 74 ad D k (cC ad k M))) (va_Qi (fun r u => (r = 0 ∨ r = 1) ∧ f_X2_isDigit a1 = r ∧ u = M) (fun u t => GW 74 ad D k (cC ad k u) t) (AW 74 ad)) 0 0 (AW 74 ad) := by
  refine met_z (g := cC ad k) (M := M) (plainFor_of_name (by decide)) (Nat.le_of_ble_eq_true rfl) ?_
  intro p e s m args below meth c Q ls hx hb hml hG hown hK hret hP hS hl
  have hl : lv_has ls 1 [(0, .int a1)] := hl
  obtain ⟨V, hV⟩ : ∃ V, f_X2_isDigit a1 = V := ⟨_, rfl⟩
  have he := hV
  unfold f_X2_isDigit at he
  refine lv_iload_n hx hb dX2_isDigit_0 rfl (lv_at hl 0 rfl) ?_
  refine lv_bipush (v := 48) hx hb dX2_isDigit_1 (by decide) ?_
  obtain ⟨t_4, hr_2, he⟩ := bnd_ex he
  have j17 : ∀ (H : Heap) (locs : List Loc) (ls : Array Slot), (t_4 = 0 ∨ t_4 = 1) → va_P D vwCl (wld 74 ad (cC ad k M)) H → va_S (AW 74 ad) s.heap H locs → lv_has ls 1 [] → W p l e rm_X2_isDigit s m args below meth c H locs 0 0 Q (F0 m 17 ls [.int t_4]) := by
    intro H locs ls zt_4 hP hS hl
    exact hret _ _ _ _ _ _ ⟨zt_4, (hV.trans he.symm), rfl⟩ (nz01 zt_4) hP hS dX2_isDigit_17
  refine lv_icmp_lt (tgt := 16) hx hb dX2_isDigit_3 (by decide) (fun hc_1 => ?_) (fun hc_1 => ?_)
  · have hr_2 := ite_t hr_2 hc_1
    refine lv_iconst (v := 0) hx hb dX2_isDigit_16 (by decide) ?_
    cases hr_2
    exact j17 _ _ _ (Or.inl rfl) hP hS (lv_sub hl [] rfl)
  · have hr_2 := ite_f hr_2 hc_1
    refine lv_iload_n hx hb dX2_isDigit_6 rfl (lv_at hl 0 rfl) ?_
    refine lv_bipush (v := 57) hx hb dX2_isDigit_7 (by decide) ?_
    refine lv_icmp_gt (tgt := 16) hx hb dX2_isDigit_9 (by decide) (fun hc_3 => ?_) (fun hc_3 => ?_)
    · have hr_2 := ite_t hr_2 hc_3
      refine lv_iconst (v := 0) hx hb dX2_isDigit_16 (by decide) ?_
      cases hr_2
      exact j17 _ _ _ (Or.inl rfl) hP hS (lv_sub hl [] rfl)
    · have hr_2 := ite_f hr_2 hc_3
      refine lv_iconst (v := 1) hx hb dX2_isDigit_12 (by decide) ?_
      refine lv_goto (tgt := 17) hx hb dX2_isDigit_13 (by decide) ?_
      cases hr_2
      exact j17 _ _ _ (Or.inr rfl) hP hS (lv_sub hl [] rfl)
def rm_X2_isSumSign : Room := { frames := 0, cells := 0, slots := 0, locals := 0 }
theorem gm_X2_isSumSign : Cond.static yX2_isSumSign ∈ wsL_law ∧ Cond.initialized yX2_isSumSign.cls ∈ wsL_law ∧ Cond.code yX2_isSumSign cX2_isSumSign 1 (some .boolean) ∈ wsL_law := ⟨gw_8_18, gw_2_14, gw_8_19⟩
theorem gd_X2_isSumSign : yX2_isSumSign.cls ≠ "java/lang/invoke/MethodHandle" ∧ yX2_isSumSign.cls ≠ "java/lang/invoke/VarHandle" ∧ (parseMethodDescriptor yX2_isSumSign.desc).map (fun d => d.parameters.length) = some 1 := by decide +kernel
set_option maxRecDepth 100000 in
set_option maxHeartbeats 0 in
theorem c_X2_isSumSign {l : Launch} {D : va_G} {k : Nat → ClassId} {ad : Nat → Nat} (had : InjN 74 ad) {M : Mem} (a1 : Int32) : Met l yX2_isSumSign (Cond.code yX2_isSumSign cX2_isSumSign 1 (some .boolean) :: wsL_law) rm_X2_isSumSign (va_Pc [.int a1] (GW 74 ad D k (cC ad k M))) (va_Qi (fun r u => (r = 0 ∨ r = 1) ∧ f_X2_isSumSign a1 = r ∧ u = M) (fun u t => GW 74 ad D k (cC ad k u) t) (AW 74 ad)) 0 0 (AW 74 ad) := by
  refine met_z (g := cC ad k) (M := M) (plainFor_of_name (by decide)) (Nat.le_of_ble_eq_true rfl) ?_
  intro p e s m args below meth c Q ls hx hb hml hG hown hK hret hP hS hl
  have hl : lv_has ls 1 [(0, .int a1)] := hl
  obtain ⟨V, hV⟩ : ∃ V, f_X2_isSumSign a1 = V := ⟨_, rfl⟩
  have he := hV
  unfold f_X2_isSumSign at he
  refine lv_iload_n hx hb dX2_isSumSign_0 rfl (lv_at hl 0 rfl) ?_
  refine lv_bipush (v := 43) hx hb dX2_isSumSign_1 (by decide) ?_
  obtain ⟨t_4, hr_2, he⟩ := bnd_ex he
  have j17 : ∀ (H : Heap) (locs : List Loc) (ls : Array Slot), (t_4 = 0 ∨ t_4 = 1) → va_P D vwCl (wld 74 ad (cC ad k M)) H → va_S (AW 74 ad) s.heap H locs → lv_has ls 1 [] → W p l e rm_X2_isSumSign s m args below meth c H locs 0 0 Q (F0 m 17 ls [.int t_4]) := by
    intro H locs ls zt_4 hP hS hl
    exact hret _ _ _ _ _ _ ⟨zt_4, (hV.trans he.symm), rfl⟩ (nz01 zt_4) hP hS dX2_isSumSign_17
  refine lv_icmp_eq (tgt := 12) hx hb dX2_isSumSign_3 (by decide) (fun hc_1 => ?_) (fun hc_1 => ?_)
  · have hr_2 := ite_t hr_2 hc_1
    refine lv_iconst (v := 1) hx hb dX2_isSumSign_12 (by decide) ?_
    refine lv_goto (tgt := 17) hx hb dX2_isSumSign_13 (by decide) ?_
    cases hr_2
    exact j17 _ _ _ (Or.inr rfl) hP hS (lv_sub hl [] rfl)
  · have hr_2 := ite_f hr_2 hc_1
    refine lv_iload_n hx hb dX2_isSumSign_6 rfl (lv_at hl 0 rfl) ?_
    refine lv_bipush (v := 45) hx hb dX2_isSumSign_7 (by decide) ?_
    refine lv_icmp_ne (tgt := 16) hx hb dX2_isSumSign_9 (by decide) (fun hc_3 => ?_) (fun hc_3 => ?_)
    · have hr_2 := ite_t hr_2 hc_3
      refine lv_iconst (v := 0) hx hb dX2_isSumSign_16 (by decide) ?_
      cases hr_2
      exact j17 _ _ _ (Or.inl rfl) hP hS (lv_sub hl [] rfl)
    · have hr_2 := ite_f hr_2 (fun q => q hc_3)
      refine lv_iconst (v := 1) hx hb dX2_isSumSign_12 (by decide) ?_
      refine lv_goto (tgt := 17) hx hb dX2_isSumSign_13 (by decide) ?_
      cases hr_2
      exact j17 _ _ _ (Or.inr rfl) hP hS (lv_sub hl [] rfl)
def rm_X2_isProductSign : Room := { frames := 0, cells := 0, slots := 0, locals := 0 }
theorem gm_X2_isProductSign : Cond.static yX2_isProductSign ∈ wsL_law ∧ Cond.initialized yX2_isProductSign.cls ∈ wsL_law ∧ Cond.code yX2_isProductSign cX2_isProductSign 1 (some .boolean) ∈ wsL_law := ⟨gw_8_21, gw_2_14, gw_8_22⟩
theorem gd_X2_isProductSign : yX2_isProductSign.cls ≠ "java/lang/invoke/MethodHandle" ∧ yX2_isProductSign.cls ≠ "java/lang/invoke/VarHandle" ∧ (parseMethodDescriptor yX2_isProductSign.desc).map (fun d => d.parameters.length) = some 1 := by decide +kernel
set_option maxRecDepth 100000 in
set_option maxHeartbeats 0 in
theorem c_X2_isProductSign {l : Launch} {D : va_G} {k : Nat → ClassId} {ad : Nat → Nat} (had : InjN 74 ad) {M : Mem} (a1 : Int32) : Met l yX2_isProductSign (Cond.code yX2_isProductSign cX2_isProductSign 1 (some .boolean) :: wsL_law) rm_X2_isProductSign (va_Pc [.int a1] (GW 74 ad D k (cC ad k M))) (va_Qi (fun r u => (r = 0 ∨ r = 1) ∧ f_X2_isProductSign a1 = r ∧ u = M) (fun u t => GW 74 ad D k (cC ad k u) t) (AW 74 ad)) 0 0 (AW 74 ad) := by
  refine met_z (g := cC ad k) (M := M) (plainFor_of_name (by decide)) (Nat.le_of_ble_eq_true rfl) ?_
  intro p e s m args below meth c Q ls hx hb hml hG hown hK hret hP hS hl
  have hl : lv_has ls 1 [(0, .int a1)] := hl
  obtain ⟨V, hV⟩ : ∃ V, f_X2_isProductSign a1 = V := ⟨_, rfl⟩
  have he := hV
  unfold f_X2_isProductSign at he
  refine lv_iload_n hx hb dX2_isProductSign_0 rfl (lv_at hl 0 rfl) ?_
  refine lv_bipush (v := 42) hx hb dX2_isProductSign_1 (by decide) ?_
  obtain ⟨t_5, hr_2, he⟩ := bnd_ex he
  have j23 : ∀ (H : Heap) (locs : List Loc) (ls : Array Slot), (t_5 = 0 ∨ t_5 = 1) → va_P D vwCl (wld 74 ad (cC ad k M)) H → va_S (AW 74 ad) s.heap H locs → lv_has ls 1 [] → W p l e rm_X2_isProductSign s m args below meth c H locs 0 0 Q (F0 m 23 ls [.int t_5]) := by
    intro H locs ls zt_5 hP hS hl
    exact hret _ _ _ _ _ _ ⟨zt_5, (hV.trans he.symm), rfl⟩ (nz01 zt_5) hP hS dX2_isProductSign_23
  refine lv_icmp_eq (tgt := 18) hx hb dX2_isProductSign_3 (by decide) (fun hc_1 => ?_) (fun hc_1 => ?_)
  · have hr_2 := ite_t hr_2 hc_1
    refine lv_iconst (v := 1) hx hb dX2_isProductSign_18 (by decide) ?_
    refine lv_goto (tgt := 23) hx hb dX2_isProductSign_19 (by decide) ?_
    cases hr_2
    exact j23 _ _ _ (Or.inr rfl) hP hS (lv_sub hl [] rfl)
  · have hr_2 := ite_f hr_2 hc_1
    refine lv_iload_n hx hb dX2_isProductSign_6 rfl (lv_at hl 0 rfl) ?_
    refine lv_bipush (v := 47) hx hb dX2_isProductSign_7 (by decide) ?_
    refine lv_icmp_eq (tgt := 18) hx hb dX2_isProductSign_9 (by decide) (fun hc_3 => ?_) (fun hc_3 => ?_)
    · have hr_2 := ite_t hr_2 hc_3
      refine lv_iconst (v := 1) hx hb dX2_isProductSign_18 (by decide) ?_
      refine lv_goto (tgt := 23) hx hb dX2_isProductSign_19 (by decide) ?_
      cases hr_2
      exact j23 _ _ _ (Or.inr rfl) hP hS (lv_sub hl [] rfl)
    · have hr_2 := ite_f hr_2 hc_3
      refine lv_iload_n hx hb dX2_isProductSign_12 rfl (lv_at hl 0 rfl) ?_
      refine lv_bipush (v := 37) hx hb dX2_isProductSign_13 (by decide) ?_
      refine lv_icmp_ne (tgt := 22) hx hb dX2_isProductSign_15 (by decide) (fun hc_4 => ?_) (fun hc_4 => ?_)
      · have hr_2 := ite_t hr_2 hc_4
        refine lv_iconst (v := 0) hx hb dX2_isProductSign_22 (by decide) ?_
        cases hr_2
        exact j23 _ _ _ (Or.inl rfl) hP hS (lv_sub hl [] rfl)
      · have hr_2 := ite_f hr_2 (fun q => q hc_4)
        refine lv_iconst (v := 1) hx hb dX2_isProductSign_18 (by decide) ?_
        refine lv_goto (tgt := 23) hx hb dX2_isProductSign_19 (by decide) ?_
        cases hr_2
        exact j23 _ _ _ (Or.inr rfl) hP hS (lv_sub hl [] rfl)
