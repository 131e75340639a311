-- @needs 12_dec 13_dec 14_dec 15_dec 31_hC
def rm_X2_joined : Room := { frames := 0, cells := 0, slots := 0, locals := 0 }
theorem gm_X2_joined : Cond.static yX2_joined ∈ wsL_law ∧ Cond.initialized yX2_joined.cls ∈ wsL_law ∧ Cond.code yX2_joined cX2_joined 3 (some .int) ∈ wsL_law := ⟨gw_12_9, gw_2_14, gw_12_10⟩
theorem gd_X2_joined : yX2_joined.cls ≠ "java/lang/invoke/MethodHandle" ∧ yX2_joined.cls ≠ "java/lang/invoke/VarHandle" ∧ (parseMethodDescriptor yX2_joined.desc).map (fun d => d.parameters.length) = some 3 := by decide +kernel
set_option maxRecDepth 100000 in
set_option maxHeartbeats 0 in
theorem c_X2_joined {l : Launch} {D : va_G} {k : Nat → ClassId} {ad : Nat → Nat} (had : InjN 74 ad) {M : Mem} (a1 : Int32) (a2 : Int32) (a3 : Int32) : Met l yX2_joined (Cond.code yX2_joined cX2_joined 3 (some .int) :: wsL_law) rm_X2_joined (va_Pc [.int a1, .int a2, .int a3] (GW 74 ad D k (cC ad k M))) (va_Qi (fun r u => f_X2_joined a1 a2 a3 = r ∧ u = M) (fun u t => GW 74 ad D k (cC ad k u) t) (AW 74 ad)) 0 0 (AW 74 ad) := by
  refine met_i (g := cC ad k) (M := M) (plainFor_of_name (by decide)) (Nat.le_of_ble_eq_true rfl) ?_
  intro p e s m args below meth c Q ls hx hb hml hG hown hK hret hP hS hl
  have hl : lv_has ls 3 [(0, .int a1), (1, .int a2), (2, .int a3)] := hl
  obtain ⟨V, hV⟩ : ∃ V, f_X2_joined a1 a2 a3 = V := ⟨_, rfl⟩
  have he := hV
  unfold f_X2_joined at he
  refine lv_iload_n hx hb dX2_joined_0 rfl (lv_at hl 0 rfl) ?_
  by_cases hw_1 : a1 = 42
  · have he := ite_t he hw_1
    refine lv_tableIn (tgt := 48) hx hb dX2_joined_1 (by rw [hw_1]; decide) (by rw [hw_1]; decide) (by rw [hw_1]; rfl) (by decide) ?_
    refine lv_iload_n hx hb dX2_joined_48 rfl (lv_at hl 1 rfl) ?_
    refine lv_iload_n hx hb dX2_joined_49 rfl (lv_at hl 2 rfl) ?_
    refine lv_imul hx hb dX2_joined_50 ?_
    exact hret _ _ _ _ _ _ ⟨hV.trans he.symm, rfl⟩ hP hS dX2_joined_51
  · have he := ite_f he hw_1
    by_cases hw_2 : a1 = 43
    · have he := ite_t he hw_2
      refine lv_tableIn (tgt := 40) hx hb dX2_joined_1 (by rw [hw_2]; decide) (by rw [hw_2]; decide) (by rw [hw_2]; rfl) (by decide) ?_
      refine lv_iload_n hx hb dX2_joined_40 rfl (lv_at hl 1 rfl) ?_
      refine lv_iload_n hx hb dX2_joined_41 rfl (lv_at hl 2 rfl) ?_
      refine lv_iadd hx hb dX2_joined_42 ?_
      exact hret _ _ _ _ _ _ ⟨hV.trans he.symm, rfl⟩ hP hS dX2_joined_43
    · have he := ite_f he hw_2
      by_cases hw_3 : a1 = 45
      · have he := ite_t he hw_3
        refine lv_tableIn (tgt := 44) hx hb dX2_joined_1 (by rw [hw_3]; decide) (by rw [hw_3]; decide) (by rw [hw_3]; rfl) (by decide) ?_
        refine lv_iload_n hx hb dX2_joined_44 rfl (lv_at hl 1 rfl) ?_
        refine lv_iload_n hx hb dX2_joined_45 rfl (lv_at hl 2 rfl) ?_
        refine lv_isub hx hb dX2_joined_46 ?_
        exact hret _ _ _ _ _ _ ⟨hV.trans he.symm, rfl⟩ hP hS dX2_joined_47
      · have he := ite_f he hw_3
        by_cases hw_4 : a1 = 47
        · have he := ite_t he hw_4
          refine lv_tableIn (tgt := 52) hx hb dX2_joined_1 (by rw [hw_4]; decide) (by rw [hw_4]; decide) (by rw [hw_4]; rfl) (by decide) ?_
          refine lv_iload_n hx hb dX2_joined_52 rfl (lv_at hl 2 rfl) ?_
          obtain ⟨t_7, hr_6, he⟩ := bnd_ex he
          have j63 : ∀ (H : Heap) (locs : List Loc) (ls : Array Slot), va_P D vwCl (wld 74 ad (cC ad k M)) H → va_S (AW 74 ad) s.heap H locs → lv_has ls 3 [] → W p l e rm_X2_joined s m args below meth c H locs 0 0 Q (F0 m 63 ls [.int t_7]) := by
            intro H locs ls hP hS hl
            exact hret _ _ _ _ _ _ ⟨hV.trans he.symm, rfl⟩ hP hS dX2_joined_63
          refine lv_if_ne (tgt := 60) hx hb dX2_joined_53 (by decide) (fun hc_5 => ?_) (fun hc_5 => ?_)
          · have hr_6 := ite_t hr_6 hc_5
            refine lv_iload_n hx hb dX2_joined_60 rfl (lv_at hl 1 rfl) ?_
            refine lv_iload_n hx hb dX2_joined_61 rfl (lv_at hl 2 rfl) ?_
            refine lv_idiv hx hb dX2_joined_62 hc_5 ?_
            cases hr_6
            exact j63 _ _ _ hP hS (lv_sub hl [] rfl)
          · have hr_6 := ite_f hr_6 (fun q => q hc_5)
            refine lv_iconst (v := 0) hx hb dX2_joined_56 (by decide) ?_
            refine lv_goto (tgt := 63) hx hb dX2_joined_57 (by decide) ?_
            cases hr_6
            exact j63 _ _ _ hP hS (lv_sub hl [] rfl)
        · have he := ite_f he hw_4
          by_cases hg_1_44 : a1 = 44
          · refine lv_tableIn (tgt := 64) hx hb dX2_joined_1 (by rw [hg_1_44]; decide) (by rw [hg_1_44]; decide) (by rw [hg_1_44]; rfl) (by decide) ?_
            refine lv_iload_n hx hb dX2_joined_64 rfl (lv_at hl 2 rfl) ?_
            obtain ⟨t_10, hr_9, he⟩ := bnd_ex he
            have j75 : ∀ (H : Heap) (locs : List Loc) (ls : Array Slot), va_P D vwCl (wld 74 ad (cC ad k M)) H → va_S (AW 74 ad) s.heap H locs → lv_has ls 3 [] → W p l e rm_X2_joined s m args below meth c H locs 0 0 Q (F0 m 75 ls [.int t_10]) := by
              intro H locs ls hP hS hl
              exact hret _ _ _ _ _ _ ⟨hV.trans he.symm, rfl⟩ hP hS dX2_joined_75
            refine lv_if_ne (tgt := 72) hx hb dX2_joined_65 (by decide) (fun hc_8 => ?_) (fun hc_8 => ?_)
            · have hr_9 := ite_t hr_9 hc_8
              refine lv_iload_n hx hb dX2_joined_72 rfl (lv_at hl 1 rfl) ?_
              refine lv_iload_n hx hb dX2_joined_73 rfl (lv_at hl 2 rfl) ?_
              refine lv_irem hx hb dX2_joined_74 hc_8 ?_
              cases hr_9
              exact j75 _ _ _ hP hS (lv_sub hl [] rfl)
            · have hr_9 := ite_f hr_9 (fun q => q hc_8)
              refine lv_iconst (v := 0) hx hb dX2_joined_68 (by decide) ?_
              refine lv_goto (tgt := 75) hx hb dX2_joined_69 (by decide) ?_
              cases hr_9
              exact j75 _ _ _ hP hS (lv_sub hl [] rfl)
          · by_cases hg_1_46 : a1 = 46
            · refine lv_tableIn (tgt := 64) hx hb dX2_joined_1 (by rw [hg_1_46]; decide) (by rw [hg_1_46]; decide) (by rw [hg_1_46]; rfl) (by decide) ?_
              refine lv_iload_n hx hb dX2_joined_64 rfl (lv_at hl 2 rfl) ?_
              obtain ⟨t_10, hr_9, he⟩ := bnd_ex he
              have j75 : ∀ (H : Heap) (locs : List Loc) (ls : Array Slot), va_P D vwCl (wld 74 ad (cC ad k M)) H → va_S (AW 74 ad) s.heap H locs → lv_has ls 3 [] → W p l e rm_X2_joined s m args below meth c H locs 0 0 Q (F0 m 75 ls [.int t_10]) := by
                intro H locs ls hP hS hl
                exact hret _ _ _ _ _ _ ⟨hV.trans he.symm, rfl⟩ hP hS dX2_joined_75
              refine lv_if_ne (tgt := 72) hx hb dX2_joined_65 (by decide) (fun hc_8 => ?_) (fun hc_8 => ?_)
              · have hr_9 := ite_t hr_9 hc_8
                refine lv_iload_n hx hb dX2_joined_72 rfl (lv_at hl 1 rfl) ?_
                refine lv_iload_n hx hb dX2_joined_73 rfl (lv_at hl 2 rfl) ?_
                refine lv_irem hx hb dX2_joined_74 hc_8 ?_
                cases hr_9
                exact j75 _ _ _ hP hS (lv_sub hl [] rfl)
              · have hr_9 := ite_f hr_9 (fun q => q hc_8)
                refine lv_iconst (v := 0) hx hb dX2_joined_68 (by decide) ?_
                refine lv_goto (tgt := 75) hx hb dX2_joined_69 (by decide) ?_
                cases hr_9
                exact j75 _ _ _ hP hS (lv_sub hl [] rfl)
            · refine lv_tableOut (tgt := 64) hx hb dX2_joined_1 (by have q0 : a1.toInt ≠ 42 := ne_I hw_1; have q1 : a1.toInt ≠ 43 := ne_I hw_2; have q2 : a1.toInt ≠ 45 := ne_I hw_3; have q3 : a1.toInt ≠ 47 := ne_I hw_4; have q4 : a1.toInt ≠ 44 := ne_I hg_1_44; have q5 : a1.toInt ≠ 46 := ne_I hg_1_46; omega) (by decide) ?_
              refine lv_iload_n hx hb dX2_joined_64 rfl (lv_at hl 2 rfl) ?_
              obtain ⟨t_10, hr_9, he⟩ := bnd_ex he
              have j75 : ∀ (H : Heap) (locs : List Loc) (ls : Array Slot), va_P D vwCl (wld 74 ad (cC ad k M)) H → va_S (AW 74 ad) s.heap H locs → lv_has ls 3 [] → W p l e rm_X2_joined s m args below meth c H locs 0 0 Q (F0 m 75 ls [.int t_10]) := by
                intro H locs ls hP hS hl
                exact hret _ _ _ _ _ _ ⟨hV.trans he.symm, rfl⟩ hP hS dX2_joined_75
              refine lv_if_ne (tgt := 72) hx hb dX2_joined_65 (by decide) (fun hc_8 => ?_) (fun hc_8 => ?_)
              · have hr_9 := ite_t hr_9 hc_8
                refine lv_iload_n hx hb dX2_joined_72 rfl (lv_at hl 1 rfl) ?_
                refine lv_iload_n hx hb dX2_joined_73 rfl (lv_at hl 2 rfl) ?_
                refine lv_irem hx hb dX2_joined_74 hc_8 ?_
                cases hr_9
                exact j75 _ _ _ hP hS (lv_sub hl [] rfl)
              · have hr_9 := ite_f hr_9 (fun q => q hc_8)
                refine lv_iconst (v := 0) hx hb dX2_joined_68 (by decide) ?_
                refine lv_goto (tgt := 75) hx hb dX2_joined_69 (by decide) ?_
                cases hr_9
                exact j75 _ _ _ hP hS (lv_sub hl [] rfl)
def rm_X2_valueAt : Room := { frames := 1, cells := 0, slots := 0, locals := 22 }
theorem gm_X2_valueAt : Cond.instanceMethod yX2_valueAt ∈ wsL_law ∧ Cond.selects RX2 yX2_valueAt yX2_valueAt ∈ wsL_law ∧ Cond.initialized RX2 ∈ wsL_law ∧ Cond.code yX2_valueAt cX2_valueAt 6 (some .int) ∈ wsL_law := ⟨gw_12_5, gw_12_6, gw_2_14, gw_12_7⟩
theorem gd_X2_valueAt : yX2_valueAt.cls = RX2 ∧ yX2_valueAt.cls ≠ "java/lang/invoke/MethodHandle" ∧ yX2_valueAt.cls ≠ "java/lang/invoke/VarHandle" ∧ (parseMethodDescriptor yX2_valueAt.desc).map (fun d => d.parameters.length) = some 2 := by decide +kernel
set_option maxRecDepth 100000 in
set_option maxHeartbeats 0 in
theorem c_X2_valueAt {l : Launch} {D : va_G} {k : Nat → ClassId} {ad : Nat → Nat} (had : InjN 74 ad) (M : Mem) (o : Nat) (ho : kLaw o) (a1 : Int32) (a2 : Int32) : Met l yX2_valueAt (Cond.code yX2_valueAt cX2_valueAt 6 (some .int) :: wsL_law) rm_X2_valueAt (va_Pc [.ref (ad o), .int a1, .int a2] (GW 74 ad D k (cC ad k M))) (va_Qi (fun r u => f_X2_valueAt M o a1 a2 = (r, u)) (fun u t => GW 74 ad D k (cC ad k u) t) (AW 74 ad)) 0 0 (AW 74 ad) := by
  refine met_i (g := cC ad k) (M := M) (plainFor_of_name (by decide)) (Nat.le_of_ble_eq_true rfl) ?_
  intro p e s m args below meth c Q ls hx hb hml hG hown hK hret hP hS hl
  have hl : lv_has ls 6 [(0, .ref (ad o)), (1, .int a1), (2, .int a2)] := hl
  obtain ⟨V, hV⟩ : ∃ V, f_X2_valueAt M o a1 a2 = V := ⟨_, rfl⟩
  have he := hV
  unfold f_X2_valueAt at he
  refine lv_iconst (v := 0) hx hb dX2_valueAt_0 (by decide) ?_
  refine lv_istore_n (lv' := [(3, .int 0), (0, .ref (ad o)), (1, .int a1), (2, .int a2)]) hx hb dX2_valueAt_1 rfl hl (by decide) rfl (fun ls hl => ?_)
  refine lv_iconst (v := 0) hx hb dX2_valueAt_2 (by decide) ?_
  refine lv_istore (lv' := [(4, .int 0), (3, .int 0), (0, .ref (ad o)), (1, .int a1), (2, .int a2)]) hx hb dX2_valueAt_3 hl (by decide) rfl (fun ls hl => ?_)
  obtain ⟨w_87, M_88, hr_47, he⟩ := bnd2_ex he
  have j140 : ∀ (H : Heap) (locs : List Loc) (ls : Array Slot), va_P D vwCl (wld 74 ad (cC ad k M_88)) H → va_S (AW 74 ad) s.heap H locs → lv_has ls 6 [(0, .ref (ad o)), (3, .int w_87)] → W p l e rm_X2_valueAt s m args below meth c H locs 0 0 Q (F0 m 140 ls []) := by
    intro H locs ls hP hS hl
    refine lv_iload_n hx hb dX2_valueAt_140 rfl (lv_at hl 1 rfl) ?_
    obtain ⟨t_91, hr_90, he⟩ := bnd_ex he
    have j154 : ∀ (H : Heap) (locs : List Loc) (ls : Array Slot), va_P D vwCl (wld 74 ad (cC ad k M_88)) H → va_S (AW 74 ad) s.heap H locs → lv_has ls 6 [] → W p l e rm_X2_valueAt s m args below meth c H locs 0 0 Q (F0 m 154 ls [.int t_91]) := by
      intro H locs ls hP hS hl
      exact hret _ _ _ _ _ _ (hV.trans he.symm) hP hS dX2_valueAt_154
    refine lv_if_ne (tgt := 148) hx hb dX2_valueAt_141 (by decide) (fun hc_89 => ?_) (fun hc_89 => ?_)
    · have hr_90 := ite_t hr_90 hc_89
      refine lv_aload_n hx hb dX2_valueAt_148 rfl (lv_at hl 0 rfl) ?_
      refine gX2_4 hx hb hG hown hK hP ho gw_2_23 dX2_valueAt_149 ?_
      refine lv_iconst (v := 0) hx hb dX2_valueAt_152 (by decide) ?_
      refine al_kPt hx hb hK hP (kR_pt ho) (vin_I (by decide) (by decide)) dX2_valueAt_153 ?_
      cases hr_90
      exact j154 _ _ _ hP hS (lv_sub hl [] rfl)
    · have hr_90 := ite_f hr_90 (fun q => q hc_89)
      refine lv_iconst (v := 0) hx hb dX2_valueAt_144 (by decide) ?_
      refine lv_goto (tgt := 154) hx hb dX2_valueAt_145 (by decide) ?_
      cases hr_90
      exact j154 _ _ _ hP hS (lv_sub hl [] rfl)
  have lp5 : ∀ (nn : Nat) (H : Heap) (locs : List Loc) (ls : Array Slot) (M_46 : Mem) (v_44 : Int32) (v_45 : Int32), (0 ≤ v_45.toInt) → (0 ≤ v_44.toInt) → (100 - v_45.toInt).toNat < nn → lp_X2_valueAt_5 nn o a1 a2 M_46 v_44 v_45 = (w_87, M_88) → va_P D vwCl (wld 74 ad (cC ad k M_46)) H → va_S (AW 74 ad) s.heap H locs → lv_has ls 6 [(0, .ref (ad o)), (1, .int a1), (2, .int a2), (3, .int v_44), (4, .int v_45)] → W p l e rm_X2_valueAt s m args below meth c H locs 0 0 Q (F0 m 5 ls []) := by
    intro nn
    induction nn with
    | zero =>
      intro H locs ls M_46 v_44 v_45 h0v_45 hwk hμ
      exact absurd hμ (Nat.not_lt_zero _)
    | succ nn ih =>
      intro H locs ls M_46 v_44 v_45 h0v_45 hwk hμ hr_47 hP hS hl
      rw [lp_X2_valueAt_5] at hr_47
      refine lv_iload hx hb dX2_valueAt_5 (lv_at hl 4 rfl) ?_
      refine lv_aload_n hx hb dX2_valueAt_7 rfl (lv_at hl 0 rfl) ?_
      refine gX2_1 hx hb hG hown hK hP ho gw_10_12 dX2_valueAt_8 ?_
      refine lv_icmp_ge (tgt := 140) hx hb dX2_valueAt_11 (by decide) (fun hc_48 => ?_) (fun hc_48 => ?_)
      · have hr_47 := ite_t hr_47 hc_48
        cases hr_47
        exact j140 _ _ _ hP hS (lv_sub hl [0, 3] rfl)
      · have hr_47 := ite_f hr_47 hc_48
        refine lv_iload hx hb dX2_valueAt_14 (lv_at hl 4 rfl) ?_
        refine lv_aload_n hx hb dX2_valueAt_16 rfl (lv_at hl 0 rfl) ?_
        refine gX2_0 hx hb hG hown hK hP ho gw_2_21 dX2_valueAt_17 ?_
        refine an_kTxt hx hb hK hP (kR_txt ho) dX2_valueAt_20 ?_
        refine lv_icmp_ge (tgt := 140) hx hb dX2_valueAt_21 (by decide) (fun hc_49 => ?_) (fun hc_49 => ?_)
        · have hr_47 := ite_t hr_47 hc_49
          cases hr_47
          exact j140 _ _ _ hP hS (lv_sub hl [0, 3] rfl)
        · have hr_47 := ite_f hr_47 hc_49
          refine lv_aload_n hx hb dX2_valueAt_24 rfl (lv_at hl 0 rfl) ?_
          refine gX2_0 hx hb hG hown hK hP ho gw_2_21 dX2_valueAt_25 ?_
          refine lv_iload hx hb dX2_valueAt_28 (lv_at hl 4 rfl) ?_
          refine al_kTxt hx hb hK hP (kR_txt ho) (vin_I (by have q0 : v_45.toInt < (M_46 o 1).toInt := nle_I hc_48; have q1 : v_45.toInt < 100 := nle_I hc_49; omega) (by have q0 : v_45.toInt < (M_46 o 1).toInt := nle_I hc_48; have q1 : v_45.toInt < 100 := nle_I hc_49; omega)) dX2_valueAt_30 ?_
          refine lv_topi (fun y_50 ey_50 => ?_)
          have hr_47 := bnd_at hr_47 ey_50
          refine lv_istore (lv' := [(5, .int y_50), (0, .ref (ad o)), (1, .int a1), (2, .int a2), (3, .int v_44), (4, .int v_45)]) hx hb dX2_valueAt_31 hl (by decide) rfl (fun ls hl => ?_)
          refine lv_iload hx hb dX2_valueAt_33 (lv_at hl 0 rfl) ?_
          refine lv_bipush (v := (-2)) hx hb dX2_valueAt_35 (by decide) ?_
          obtain ⟨x_84, M_85, hr_52, hr_47⟩ := bnd2_ex hr_47
          have j134 : ∀ (H : Heap) (locs : List Loc) (ls : Array Slot), (0 ≤ x_84.toInt) → va_P D vwCl (wld 74 ad (cC ad k M_85)) H → va_S (AW 74 ad) s.heap H locs → lv_has ls 6 [(0, .ref (ad o)), (1, .int a1), (2, .int a2), (3, .int x_84), (4, .int v_45)] → W p l e rm_X2_valueAt s m args below meth c H locs 0 0 Q (F0 m 134 ls []) := by
            intro H locs ls hjw hP hS hl
            obtain ⟨y_86, ey_86⟩ : ∃ y_86 : Int32, y_86 = v_45 + 1 := ⟨_, rfl⟩
            have hr_47 := bnd_at hr_47 ey_86
            refine lv_iinc (v := y_86) (lv' := [(4, .int y_86), (0, .ref (ad o)), (1, .int a1), (2, .int a2), (3, .int x_84)]) hx hb dX2_valueAt_134 hl (k := 4) rfl (by rw [ey_86]; rfl) (by decide) rfl (fun ls hl => ?_)
            refine lv_goto (tgt := 5) hx hb dX2_valueAt_137 (by decide) ?_
            exact ih _ _ _ _ _ _ (by rw [ey_86, inc_I (N := 100) (nle_I hc_49) (by decide)]; omega) hjw (by rw [ey_86]; exact mu_I hμ (nle_I hc_49) (by decide)) hr_47 hP hS (lv_sub hl [1, 2, 3, 4, 0] rfl)
          refine lv_icmp_ge (tgt := 88) hx hb dX2_valueAt_37 (by decide) (fun hc_51 => ?_) (fun hc_51 => ?_)
          · have hr_52 := ite_t hr_52 hc_51
            refine lv_iload hx hb dX2_valueAt_88 (lv_at hl 0 rfl) ?_
            refine lv_bipush (v := (-2)) hx hb dX2_valueAt_90 (by decide) ?_
            refine lv_icmp_lt (tgt := 134) hx hb dX2_valueAt_92 (by decide) (fun hc_53 => ?_) (fun hc_53 => ?_)
            · have hr_52 := ite_t hr_52 hc_53
              cases hr_52
              exact j134 _ _ _ hwk hP hS (lv_sub hl [1, 2, 3, 4, 5] rfl)
            · have hr_52 := ite_f hr_52 hc_53
              refine lv_iload_n hx hb dX2_valueAt_95 rfl (lv_at hl 4 rfl) ?_
              refine lv_aload_n hx hb dX2_valueAt_96 rfl (lv_at hl 1 rfl) ?_
              refine gX2_4 hx hb hG hown hK hP ho gw_2_23 dX2_valueAt_97 ?_
              refine an_kPt hx hb hK hP (kR_pt ho) dX2_valueAt_100 ?_
              refine lv_icmp_ge (tgt := 134) hx hb dX2_valueAt_101 (by decide) (fun hc_54 => ?_) (fun hc_54 => ?_)
              · have hr_52 := ite_t hr_52 hc_54
                cases hr_52
                exact j134 _ _ _ hwk hP hS (lv_sub hl [1, 2, 3, 4, 5] rfl)
              · have hr_52 := ite_f hr_52 hc_54
                refine lv_aload_n hx hb dX2_valueAt_104 rfl (lv_at hl 1 rfl) ?_
                refine gX2_4 hx hb hG hown hK hP ho gw_2_23 dX2_valueAt_105 ?_
                refine lv_iload_n hx hb dX2_valueAt_108 rfl (lv_at hl 4 rfl) ?_
                refine lv_iload hx hb dX2_valueAt_109 (lv_at hl 0 rfl) ?_
                obtain ⟨t_58, hr_56, hr_52⟩ := bnd_ex hr_52
                have j130 : ∀ (H : Heap) (locs : List Loc) (ls : Array Slot), va_P D vwCl (wld 74 ad (cC ad k M_46)) H → va_S (AW 74 ad) s.heap H locs → lv_has ls 6 [(0, .ref (ad o)), (1, .int a1), (2, .int a2), (3, .int v_44), (4, .int v_45)] → W p l e rm_X2_valueAt s m args below meth c H locs 0 0 Q (F0 m 130 ls [.int t_58, .int v_44, .ref (ad (o + 67))]) := by
                  intro H locs ls hP hS hl
                  refine as_kPt hx hb hK hP had AW_in hS (kR_pt ho) (vin_I hwk (nle_I hc_54)) dX2_valueAt_130 (fun H locs hP hS => ?_)
                  obtain ⟨M_59, eM_59⟩ : ∃ y : Mem, y = up2 M_46 (o + 67) v_44.toNatClampNeg t_58 := ⟨_, rfl⟩
                  rw [← eM_59] at hP
                  have hr_52 := bnd_at hr_52 eM_59
                  obtain ⟨y_60, ey_60⟩ : ∃ y_60 : Int32, y_60 = v_44 + 1 := ⟨_, rfl⟩
                  have hr_52 := bnd_at hr_52 ey_60
                  refine lv_iinc (v := y_60) (lv' := [(3, .int y_60), (0, .ref (ad o)), (1, .int a1), (2, .int a2), (4, .int v_45)]) hx hb dX2_valueAt_131 hl (k := 3) rfl (by rw [ey_60]; rfl) (by decide) rfl (fun ls hl => ?_)
                  cases hr_52
                  exact j134 _ _ _ (by rw [ey_60, inc_I (N := 100) (nle_I hc_54) (by decide)]; omega) hP hS (lv_sub hl [1, 2, 3, 0, 4] rfl)
                refine lv_if_lt (tgt := 119) hx hb dX2_valueAt_111 (by decide) (fun hc_55 => ?_) (fun hc_55 => ?_)
                · have hr_56 := ite_t hr_56 hc_55
                  refine lv_iload hx hb dX2_valueAt_119 (lv_at hl 0 rfl) ?_
                  refine lv_iconst (v := (-1)) hx hb dX2_valueAt_121 (by decide) ?_
                  refine lv_icmp_ne (tgt := 129) hx hb dX2_valueAt_122 (by decide) (fun hc_57 => ?_) (fun hc_57 => ?_)
                  · have hr_56 := ite_t hr_56 hc_57
                    refine lv_iload_n hx hb dX2_valueAt_129 rfl (lv_at hl 3 rfl) ?_
                    cases hr_56
                    exact j130 _ _ _ hP hS (lv_sub hl [1, 2, 3, 4, 5] rfl)
                  · have hr_56 := ite_f hr_56 (fun q => q hc_57)
                    refine lv_iload_n hx hb dX2_valueAt_125 rfl (lv_at hl 2 rfl) ?_
                    refine lv_goto (tgt := 130) hx hb dX2_valueAt_126 (by decide) ?_
                    cases hr_56
                    exact j130 _ _ _ hP hS (lv_sub hl [1, 2, 3, 4, 5] rfl)
                · have hr_56 := ite_f hr_56 hc_55
                  refine lv_iload hx hb dX2_valueAt_114 (lv_at hl 0 rfl) ?_
                  refine lv_goto (tgt := 130) hx hb dX2_valueAt_116 (by decide) ?_
                  cases hr_56
                  exact j130 _ _ _ hP hS (lv_sub hl [1, 2, 3, 4, 5] rfl)
          · have hr_52 := ite_f hr_52 hc_51
            refine lv_iload_n hx hb dX2_valueAt_40 rfl (lv_at hl 4 rfl) ?_
            refine lv_iconst (v := 2) hx hb dX2_valueAt_41 (by decide) ?_
            refine lv_icmp_lt (tgt := 88) hx hb dX2_valueAt_42 (by decide) (fun hc_61 => ?_) (fun hc_61 => ?_)
            · have hr_52 := ite_t hr_52 hc_61
              refine lv_iload hx hb dX2_valueAt_88 (lv_at hl 0 rfl) ?_
              refine lv_bipush (v := (-2)) hx hb dX2_valueAt_90 (by decide) ?_
              refine lv_icmp_lt (tgt := 134) hx hb dX2_valueAt_92 (by decide) (fun hc_62 => ?_) (fun hc_62 => ?_)
              · have hr_52 := ite_t hr_52 hc_62
                cases hr_52
                exact j134 _ _ _ hwk hP hS (lv_sub hl [1, 2, 3, 4, 5] rfl)
              · have hr_52 := ite_f hr_52 hc_62
                refine lv_iload_n hx hb dX2_valueAt_95 rfl (lv_at hl 4 rfl) ?_
                refine lv_aload_n hx hb dX2_valueAt_96 rfl (lv_at hl 1 rfl) ?_
                refine gX2_4 hx hb hG hown hK hP ho gw_2_23 dX2_valueAt_97 ?_
                refine an_kPt hx hb hK hP (kR_pt ho) dX2_valueAt_100 ?_
                refine lv_icmp_ge (tgt := 134) hx hb dX2_valueAt_101 (by decide) (fun hc_63 => ?_) (fun hc_63 => ?_)
                · have hr_52 := ite_t hr_52 hc_63
                  cases hr_52
                  exact j134 _ _ _ hwk hP hS (lv_sub hl [1, 2, 3, 4, 5] rfl)
                · have hr_52 := ite_f hr_52 hc_63
                  refine lv_aload_n hx hb dX2_valueAt_104 rfl (lv_at hl 1 rfl) ?_
                  refine gX2_4 hx hb hG hown hK hP ho gw_2_23 dX2_valueAt_105 ?_
                  refine lv_iload_n hx hb dX2_valueAt_108 rfl (lv_at hl 4 rfl) ?_
                  refine lv_iload hx hb dX2_valueAt_109 (lv_at hl 0 rfl) ?_
                  obtain ⟨t_67, hr_65, hr_52⟩ := bnd_ex hr_52
                  have j130 : ∀ (H : Heap) (locs : List Loc) (ls : Array Slot), va_P D vwCl (wld 74 ad (cC ad k M_46)) H → va_S (AW 74 ad) s.heap H locs → lv_has ls 6 [(0, .ref (ad o)), (1, .int a1), (2, .int a2), (3, .int v_44), (4, .int v_45)] → W p l e rm_X2_valueAt s m args below meth c H locs 0 0 Q (F0 m 130 ls [.int t_67, .int v_44, .ref (ad (o + 67))]) := by
                    intro H locs ls hP hS hl
                    refine as_kPt hx hb hK hP had AW_in hS (kR_pt ho) (vin_I hwk (nle_I hc_63)) dX2_valueAt_130 (fun H locs hP hS => ?_)
                    obtain ⟨M_68, eM_68⟩ : ∃ y : Mem, y = up2 M_46 (o + 67) v_44.toNatClampNeg t_67 := ⟨_, rfl⟩
                    rw [← eM_68] at hP
                    have hr_52 := bnd_at hr_52 eM_68
                    obtain ⟨y_69, ey_69⟩ : ∃ y_69 : Int32, y_69 = v_44 + 1 := ⟨_, rfl⟩
                    have hr_52 := bnd_at hr_52 ey_69
                    refine lv_iinc (v := y_69) (lv' := [(3, .int y_69), (0, .ref (ad o)), (1, .int a1), (2, .int a2), (4, .int v_45)]) hx hb dX2_valueAt_131 hl (k := 3) rfl (by rw [ey_69]; rfl) (by decide) rfl (fun ls hl => ?_)
                    cases hr_52
                    exact j134 _ _ _ (by rw [ey_69, inc_I (N := 100) (nle_I hc_63) (by decide)]; omega) hP hS (lv_sub hl [1, 2, 3, 0, 4] rfl)
                  refine lv_if_lt (tgt := 119) hx hb dX2_valueAt_111 (by decide) (fun hc_64 => ?_) (fun hc_64 => ?_)
                  · have hr_65 := ite_t hr_65 hc_64
                    refine lv_iload hx hb dX2_valueAt_119 (lv_at hl 0 rfl) ?_
                    refine lv_iconst (v := (-1)) hx hb dX2_valueAt_121 (by decide) ?_
                    refine lv_icmp_ne (tgt := 129) hx hb dX2_valueAt_122 (by decide) (fun hc_66 => ?_) (fun hc_66 => ?_)
                    · have hr_65 := ite_t hr_65 hc_66
                      refine lv_iload_n hx hb dX2_valueAt_129 rfl (lv_at hl 3 rfl) ?_
                      cases hr_65
                      exact j130 _ _ _ hP hS (lv_sub hl [1, 2, 3, 4, 5] rfl)
                    · have hr_65 := ite_f hr_65 (fun q => q hc_66)
                      refine lv_iload_n hx hb dX2_valueAt_125 rfl (lv_at hl 2 rfl) ?_
                      refine lv_goto (tgt := 130) hx hb dX2_valueAt_126 (by decide) ?_
                      cases hr_65
                      exact j130 _ _ _ hP hS (lv_sub hl [1, 2, 3, 4, 5] rfl)
                  · have hr_65 := ite_f hr_65 hc_64
                    refine lv_iload hx hb dX2_valueAt_114 (lv_at hl 0 rfl) ?_
                    refine lv_goto (tgt := 130) hx hb dX2_valueAt_116 (by decide) ?_
                    cases hr_65
                    exact j130 _ _ _ hP hS (lv_sub hl [1, 2, 3, 4, 5] rfl)
            · have hr_52 := ite_f hr_52 hc_61
              refine lv_iload_n hx hb dX2_valueAt_45 rfl (lv_at hl 4 rfl) ?_
              refine lv_aload_n hx hb dX2_valueAt_46 rfl (lv_at hl 1 rfl) ?_
              refine gX2_4 hx hb hG hown hK hP ho gw_2_23 dX2_valueAt_47 ?_
              refine an_kPt hx hb hK hP (kR_pt ho) dX2_valueAt_50 ?_
              refine lv_icmp_gt (tgt := 88) hx hb dX2_valueAt_51 (by decide) (fun hc_70 => ?_) (fun hc_70 => ?_)
              · have hr_52 := ite_t hr_52 hc_70
                refine lv_iload hx hb dX2_valueAt_88 (lv_at hl 0 rfl) ?_
                refine lv_bipush (v := (-2)) hx hb dX2_valueAt_90 (by decide) ?_
                refine lv_icmp_lt (tgt := 134) hx hb dX2_valueAt_92 (by decide) (fun hc_71 => ?_) (fun hc_71 => ?_)
                · have hr_52 := ite_t hr_52 hc_71
                  cases hr_52
                  exact j134 _ _ _ hwk hP hS (lv_sub hl [1, 2, 3, 4, 5] rfl)
                · have hr_52 := ite_f hr_52 hc_71
                  refine lv_iload_n hx hb dX2_valueAt_95 rfl (lv_at hl 4 rfl) ?_
                  refine lv_aload_n hx hb dX2_valueAt_96 rfl (lv_at hl 1 rfl) ?_
                  refine gX2_4 hx hb hG hown hK hP ho gw_2_23 dX2_valueAt_97 ?_
                  refine an_kPt hx hb hK hP (kR_pt ho) dX2_valueAt_100 ?_
                  refine lv_icmp_ge (tgt := 134) hx hb dX2_valueAt_101 (by decide) (fun hc_72 => ?_) (fun hc_72 => ?_)
                  · have hr_52 := ite_t hr_52 hc_72
                    cases hr_52
                    exact j134 _ _ _ hwk hP hS (lv_sub hl [1, 2, 3, 4, 5] rfl)
                  · have hr_52 := ite_f hr_52 hc_72
                    refine lv_aload_n hx hb dX2_valueAt_104 rfl (lv_at hl 1 rfl) ?_
                    refine gX2_4 hx hb hG hown hK hP ho gw_2_23 dX2_valueAt_105 ?_
                    refine lv_iload_n hx hb dX2_valueAt_108 rfl (lv_at hl 4 rfl) ?_
                    refine lv_iload hx hb dX2_valueAt_109 (lv_at hl 0 rfl) ?_
                    obtain ⟨t_76, hr_74, hr_52⟩ := bnd_ex hr_52
                    have j130 : ∀ (H : Heap) (locs : List Loc) (ls : Array Slot), va_P D vwCl (wld 74 ad (cC ad k M_46)) H → va_S (AW 74 ad) s.heap H locs → lv_has ls 6 [(0, .ref (ad o)), (1, .int a1), (2, .int a2), (3, .int v_44), (4, .int v_45)] → W p l e rm_X2_valueAt s m args below meth c H locs 0 0 Q (F0 m 130 ls [.int t_76, .int v_44, .ref (ad (o + 67))]) := by
                      intro H locs ls hP hS hl
                      refine as_kPt hx hb hK hP had AW_in hS (kR_pt ho) (vin_I hwk (nle_I hc_72)) dX2_valueAt_130 (fun H locs hP hS => ?_)
                      obtain ⟨M_77, eM_77⟩ : ∃ y : Mem, y = up2 M_46 (o + 67) v_44.toNatClampNeg t_76 := ⟨_, rfl⟩
                      rw [← eM_77] at hP
                      have hr_52 := bnd_at hr_52 eM_77
                      obtain ⟨y_78, ey_78⟩ : ∃ y_78 : Int32, y_78 = v_44 + 1 := ⟨_, rfl⟩
                      have hr_52 := bnd_at hr_52 ey_78
                      refine lv_iinc (v := y_78) (lv' := [(3, .int y_78), (0, .ref (ad o)), (1, .int a1), (2, .int a2), (4, .int v_45)]) hx hb dX2_valueAt_131 hl (k := 3) rfl (by rw [ey_78]; rfl) (by decide) rfl (fun ls hl => ?_)
                      cases hr_52
                      exact j134 _ _ _ (by rw [ey_78, inc_I (N := 100) (nle_I hc_72) (by decide)]; omega) hP hS (lv_sub hl [1, 2, 3, 0, 4] rfl)
                    refine lv_if_lt (tgt := 119) hx hb dX2_valueAt_111 (by decide) (fun hc_73 => ?_) (fun hc_73 => ?_)
                    · have hr_74 := ite_t hr_74 hc_73
                      refine lv_iload hx hb dX2_valueAt_119 (lv_at hl 0 rfl) ?_
                      refine lv_iconst (v := (-1)) hx hb dX2_valueAt_121 (by decide) ?_
                      refine lv_icmp_ne (tgt := 129) hx hb dX2_valueAt_122 (by decide) (fun hc_75 => ?_) (fun hc_75 => ?_)
                      · have hr_74 := ite_t hr_74 hc_75
                        refine lv_iload_n hx hb dX2_valueAt_129 rfl (lv_at hl 3 rfl) ?_
                        cases hr_74
                        exact j130 _ _ _ hP hS (lv_sub hl [1, 2, 3, 4, 5] rfl)
                      · have hr_74 := ite_f hr_74 (fun q => q hc_75)
                        refine lv_iload_n hx hb dX2_valueAt_125 rfl (lv_at hl 2 rfl) ?_
                        refine lv_goto (tgt := 130) hx hb dX2_valueAt_126 (by decide) ?_
                        cases hr_74
                        exact j130 _ _ _ hP hS (lv_sub hl [1, 2, 3, 4, 5] rfl)
                    · have hr_74 := ite_f hr_74 hc_73
                      refine lv_iload hx hb dX2_valueAt_114 (lv_at hl 0 rfl) ?_
                      refine lv_goto (tgt := 130) hx hb dX2_valueAt_116 (by decide) ?_
                      cases hr_74
                      exact j130 _ _ _ hP hS (lv_sub hl [1, 2, 3, 4, 5] rfl)
              · have hr_52 := ite_f hr_52 hc_70
                obtain ⟨y_79, ey_79⟩ : ∃ y_79 : Int32, y_79 = v_44 + (-1) := ⟨_, rfl⟩
                have hr_52 := bnd_at hr_52 ey_79
                refine lv_iinc (v := y_79) (lv' := [(3, .int y_79), (5, .int y_50), (0, .ref (ad o)), (1, .int a1), (2, .int a2), (4, .int v_45)]) hx hb dX2_valueAt_54 hl (k := 4) rfl (by rw [ey_79]; rfl) (by decide) rfl (fun ls hl => ?_)
                refine lv_aload_n hx hb dX2_valueAt_57 rfl (lv_at hl 2 rfl) ?_
                refine gX2_4 hx hb hG hown hK hP ho gw_2_23 dX2_valueAt_58 ?_
                refine lv_iload_n hx hb dX2_valueAt_61 rfl (lv_at hl 0 rfl) ?_
                refine lv_iconst (v := 1) hx hb dX2_valueAt_62 (by decide) ?_
                refine lv_isub hx hb dX2_valueAt_63 ?_
                refine lv_iload hx hb dX2_valueAt_64 (lv_at hl 1 rfl) ?_
                refine lv_ineg hx hb dX2_valueAt_66 ?_
                refine lv_aload_n hx hb dX2_valueAt_67 rfl (lv_at hl 2 rfl) ?_
                refine gX2_4 hx hb hG hown hK hP ho gw_2_23 dX2_valueAt_68 ?_
                refine lv_iload_n hx hb dX2_valueAt_71 rfl (lv_at hl 0 rfl) ?_
                refine lv_iconst (v := 1) hx hb dX2_valueAt_72 (by decide) ?_
                refine lv_isub hx hb dX2_valueAt_73 ?_
                refine al_kPt hx hb hK hP (kR_pt ho) (by have ql2 : (2 : Int32).toInt = 2 := rfl; have ql1 : (100 : Int32).toInt = 100 := rfl; have q1 := nlt_I hc_61; have q2 := nlt_I hc_70; have qy := congrArg Int32.toInt ey_79; rw [← Int32.sub_eq_add_neg, dec_I (by omega)] at qy; exact vin_I (by rw [dec_I (by omega)]; omega) (by rw [dec_I (by omega)]; omega)) dX2_valueAt_74 ?_
                refine lv_aload_n hx hb dX2_valueAt_75 rfl (lv_at hl 2 rfl) ?_
                refine gX2_4 hx hb hG hown hK hP ho gw_2_23 dX2_valueAt_76 ?_
                refine lv_iload_n hx hb dX2_valueAt_79 rfl (lv_at hl 0 rfl) ?_
                refine al_kPt hx hb hK hP (kR_pt ho) (by have ql2 : (2 : Int32).toInt = 2 := rfl; have ql1 : (100 : Int32).toInt = 100 := rfl; have q1 := nlt_I hc_61; have q2 := nlt_I hc_70; have qy := congrArg Int32.toInt ey_79; rw [← Int32.sub_eq_add_neg, dec_I (by omega)] at qy; exact vin_I (by omega) (by omega)) dX2_valueAt_80 ?_
                refine callS_i [.int (-y_50), .int (M_46 (o + 67) (y_79 - 1).toNatClampNeg), .int (M_46 (o + 67) y_79.toNatClampNeg)] [.int (y_79 - 1), .ref (ad (o + 67))] hx hb hml hG hown hK (c_X2_joined had (M := M_46)  (-y_50) (M_46 (o + 67) (y_79 - 1).toNatClampNeg) (M_46 (o + 67) y_79.toNatClampNeg)) gw_12_8 gm_X2_joined gd_X2_joined rfl rfl ⟨Nat.le_of_ble_eq_true rfl, Nat.le_of_ble_eq_true rfl⟩ ⟨Nat.le_refl _, Nat.le_refl _⟩ hP (fun _ h => h) hS rfl hl.1 rfl (Nat.le_of_ble_eq_true rfl) dX2_valueAt_81 (fun r_80 u_82 H locs hF_81 hP hS => ?_)
                obtain ⟨hF_81, hu⟩ := hF_81; rw [hu] at hP; subst hF_81
                refine as_kPt hx hb hK hP had AW_in hS (kR_pt ho) (by have ql2 : (2 : Int32).toInt = 2 := rfl; have ql1 : (100 : Int32).toInt = 100 := rfl; have q1 := nlt_I hc_61; have q2 := nlt_I hc_70; have qy := congrArg Int32.toInt ey_79; rw [← Int32.sub_eq_add_neg, dec_I (by omega)] at qy; exact vin_I (by rw [dec_I (by omega)]; omega) (by rw [dec_I (by omega)]; omega)) dX2_valueAt_84 (fun H locs hP hS => ?_)
                obtain ⟨M_83, eM_83⟩ : ∃ y : Mem, y = up2 M_46 (o + 67) (y_79 - 1).toNatClampNeg (f_X2_joined (-y_50) (M_46 (o + 67) (y_79 - 1).toNatClampNeg) (M_46 (o + 67) y_79.toNatClampNeg)) := ⟨_, rfl⟩
                rw [← eM_83] at hP
                have hr_52 := bnd_at hr_52 eM_83
                refine lv_goto (tgt := 134) hx hb dX2_valueAt_85 (by decide) ?_
                cases hr_52
                exact j134 _ _ _ (by have ql2 : (2 : Int32).toInt = 2 := rfl; have ql1 : (100 : Int32).toInt = 100 := rfl; have q1 := nlt_I hc_61; have q2 := nlt_I hc_70; have qy := congrArg Int32.toInt ey_79; rw [← Int32.sub_eq_add_neg, dec_I (by omega)] at qy; omega) hP hS (lv_sub hl [2, 3, 4, 0, 5] rfl)
  exact lp5 _ _ _ _ _ _ _ (by decide) (by decide) (by decide) hr_47 hP hS (lv_sub hl [2, 3, 4, 1, 0] rfl)
def rm_X0_windAt : Room := { frames := 2, cells := 0, slots := 0, locals := 47 }
theorem gm_X0_windAt : Cond.instanceMethod yX0_windAt ∈ wsL_law ∧ Cond.selects RX0 yX0_windAt yX0_windAt ∈ wsL_law ∧ Cond.initialized RX0 ∈ wsL_law ∧ Cond.code yX0_windAt cX0_windAt 3 (some .int) ∈ wsL_law := ⟨gw_11_21, gw_11_22, gw_1_15, gw_11_23⟩
theorem gd_X0_windAt : yX0_windAt.cls = RX0 ∧ yX0_windAt.cls ≠ "java/lang/invoke/MethodHandle" ∧ yX0_windAt.cls ≠ "java/lang/invoke/VarHandle" ∧ (parseMethodDescriptor yX0_windAt.desc).map (fun d => d.parameters.length) = some 1 := by decide +kernel
set_option maxRecDepth 100000 in
set_option maxHeartbeats 0 in
theorem c_X0_windAt {l : Launch} {D : va_G} {k : Nat → ClassId} {ad : Nat → Nat} (had : InjN 74 ad) (M : Mem) (o : Nat) (ho : kBay o) (a1 : Int32) : Met l yX0_windAt (Cond.code yX0_windAt cX0_windAt 3 (some .int) :: wsL_law) rm_X0_windAt (va_Pc [.ref (ad o), .int a1] (GW 74 ad D k (cC ad k M))) (va_Qi (fun r u => f_X0_windAt M o a1 = (r, u)) (fun u t => GW 74 ad D k (cC ad k u) t) (AW 74 ad)) 0 0 (AW 74 ad) := by
  refine met_i (g := cC ad k) (M := M) (plainFor_of_name (by decide)) (Nat.le_of_ble_eq_true rfl) ?_
  intro p e s m args below meth c Q ls hx hb hml hG hown hK hret hP hS hl
  have hl : lv_has ls 3 [(0, .ref (ad o)), (1, .int a1)] := hl
  obtain ⟨V, hV⟩ : ∃ V, f_X0_windAt M o a1 = V := ⟨_, rfl⟩
  have he := hV
  unfold f_X0_windAt at he
  refine lv_iload_n hx hb dX0_windAt_0 rfl (lv_at hl 1 rfl) ?_
  refine lv_if_lt (tgt := 13) hx hb dX0_windAt_1 (by decide) (fun hc_1 => ?_) (fun hc_1 => ?_)
  · have he := ite_t he hc_1
    refine lv_iconst (v := 0) hx hb dX0_windAt_13 (by decide) ?_
    exact hret _ _ _ _ _ _ (hV.trans he.symm) hP hS dX0_windAt_14
  · have he := ite_f he hc_1
    refine lv_iload_n hx hb dX0_windAt_4 rfl (lv_at hl 1 rfl) ?_
    refine lv_aload_n hx hb dX0_windAt_5 rfl (lv_at hl 0 rfl) ?_
    refine gX0_6 hx hb hG hown hK hP ho gw_2_17 dX0_windAt_6 ?_
    refine an_kWin hx hb hK hP (kR_win ho) dX0_windAt_9 ?_
    refine lv_icmp_lt (tgt := 15) hx hb dX0_windAt_10 (by decide) (fun hc_2 => ?_) (fun hc_2 => ?_)
    · have he := ite_t he hc_2
      refine lv_aload_n hx hb dX0_windAt_15 rfl (lv_at hl 0 rfl) ?_
      refine gX0_6 hx hb hG hown hK hP ho gw_2_17 dX0_windAt_16 ?_
      refine lv_iload_n hx hb dX0_windAt_19 rfl (lv_at hl 1 rfl) ?_
      refine al_kWin hx hb hK hP (kR_win ho) (vin_I (by have q0 : 0 ≤ a1.toInt := nlt_I hc_1; have q1 : a1.toInt < 401 := lt_I hc_2; omega) (by have q0 : 0 ≤ a1.toInt := nlt_I hc_1; have q1 : a1.toInt < 401 := lt_I hc_2; omega)) dX0_windAt_20 ?_
      refine lv_bipush (v := 100) hx hb dX0_windAt_21 (by decide) ?_
      obtain ⟨M_9, hr_4, he⟩ := bnd_ex he
      have j56 : ∀ (H : Heap) (locs : List Loc) (ls : Array Slot), va_P D vwCl (wld 74 ad (cC ad k M_9)) H → va_S (AW 74 ad) s.heap H locs → lv_has ls 3 [(0, .ref (ad o)), (1, .int a1)] → W p l e rm_X0_windAt s m args below meth c H locs 0 0 Q (F0 m 56 ls []) := by
        intro H locs ls hP hS hl
        refine lv_aload_n hx hb dX0_windAt_56 rfl (lv_at hl 0 rfl) ?_
        refine gX0_6 hx hb hG hown hK hP ho gw_2_17 dX0_windAt_57 ?_
        refine lv_iload_n hx hb dX0_windAt_60 rfl (lv_at hl 1 rfl) ?_
        refine al_kWin hx hb hK hP (kR_win ho) (vin_I (by have q0 : 0 ≤ a1.toInt := nlt_I hc_1; have q1 : a1.toInt < 401 := lt_I hc_2; omega) (by have q0 : 0 ≤ a1.toInt := nlt_I hc_1; have q1 : a1.toInt < 401 := lt_I hc_2; omega)) dX0_windAt_61 ?_
        exact hret _ _ _ _ _ _ (hV.trans he.symm) hP hS dX0_windAt_62
      refine lv_icmp_ne (tgt := 56) hx hb dX0_windAt_23 (by decide) (fun hc_3 => ?_) (fun hc_3 => ?_)
      · have hr_4 := ite_t hr_4 hc_3
        cases hr_4
        exact j56 _ _ _ hP hS (lv_sub hl [0, 1] rfl)
      · have hr_4 := ite_f hr_4 (fun q => q hc_3)
        refine lv_aload_n hx hb dX0_windAt_26 rfl (lv_at hl 0 rfl) ?_
        refine gX0_5 hx hb hG hown hK hP ho gw_2_15 dX0_windAt_27 ?_
        refine lv_iload_n hx hb dX0_windAt_30 rfl (lv_at hl 1 rfl) ?_
        refine lv_aload_n hx hb dX0_windAt_31 rfl (lv_at hl 0 rfl) ?_
        refine gX0_4 hx hb hG hown hK hP ho gw_6_14 dX0_windAt_32 ?_
        refine call_i [.int a1, .int (M o 4)] [] hx hb hml hG hown hK (c_X2_valueAt had M (o + 3) (kR_law ho) a1 (M o 4)) gw_12_4 gm_X2_valueAt gd_X2_valueAt rfl rfl ⟨Nat.le_of_ble_eq_true rfl, Nat.le_of_ble_eq_true rfl⟩ ⟨Nat.le_refl _, Nat.le_refl _⟩ (rX2 hK hP (kR_law ho)) hP (fun _ h => h) hS rfl hl.1 rfl (Nat.le_of_ble_eq_true rfl) dX0_windAt_35 (fun r_5 M_7 H locs hF_6 hP hS => ?_)
        have hr_4 := bnd2_at hr_4 hF_6
        refine lv_istore_n (lv' := [(2, .int r_5), (0, .ref (ad o)), (1, .int a1)]) hx hb dX0_windAt_38 rfl hl (by decide) rfl (fun ls hl => ?_)
        refine lv_aload_n hx hb dX0_windAt_39 rfl (lv_at hl 1 rfl) ?_
        refine gX0_6 hx hb hG hown hK hP ho gw_2_17 dX0_windAt_40 ?_
        refine lv_iload_n hx hb dX0_windAt_43 rfl (lv_at hl 2 rfl) ?_
        refine lv_bipush (v := (-40)) hx hb dX0_windAt_44 (by decide) ?_
        refine lv_bipush (v := 40) hx hb dX0_windAt_46 (by decide) ?_
        refine lv_iload_n hx hb dX0_windAt_48 rfl (lv_at hl 0 rfl) ?_
        refine w_min hx hb hml hG hown gw_12_0 (Nat.le_of_ble_eq_true rfl) (Nat.le_of_ble_eq_true rfl) hl.1 ⟨Nat.le_refl _, Nat.le_refl _⟩ dX0_windAt_49 ?_
        refine w_max hx hb hml hG hown gw_12_3 (Nat.le_of_ble_eq_true rfl) (Nat.le_of_ble_eq_true rfl) hl.1 ⟨Nat.le_refl _, Nat.le_refl _⟩ dX0_windAt_52 ?_
        refine as_kWin hx hb hK hP had AW_in hS (kR_win ho) (vin_I (by have q0 : 0 ≤ a1.toInt := nlt_I hc_1; have q1 : a1.toInt < 401 := lt_I hc_2; have q2 : (M (o + 6) a1.toNatClampNeg).toInt = 100 := congrArg Int32.toInt hc_3; omega) (by have q0 : 0 ≤ a1.toInt := nlt_I hc_1; have q1 : a1.toInt < 401 := lt_I hc_2; have q2 : (M (o + 6) a1.toNatClampNeg).toInt = 100 := congrArg Int32.toInt hc_3; omega)) dX0_windAt_55 (fun H locs hP hS => ?_)
        obtain ⟨M_8, eM_8⟩ : ∃ y : Mem, y = up2 M_7 (o + 6) a1.toNatClampNeg (mx (-40) (mn 40 r_5)) := ⟨_, rfl⟩
        rw [← eM_8] at hP
        have hr_4 := bnd_at hr_4 eM_8
        cases hr_4
        exact j56 _ _ _ hP hS (lv_sub hl [1, 2] rfl)
    · have he := ite_f he hc_2
      refine lv_iconst (v := 0) hx hb dX0_windAt_13 (by decide) ?_
      exact hret _ _ _ _ _ _ (hV.trans he.symm) hP hS dX0_windAt_14
def rm_X6_wind : Room := { frames := 3, cells := 0, slots := 0, locals := 69 }
theorem gm_X6_wind : Cond.instanceMethod yX6_wind ∈ wsL_law ∧ Cond.selects RX6 yX6_wind yX6_wind ∈ wsL_law ∧ Cond.initialized RX6 ∈ wsL_law ∧ Cond.code yX6_wind cX6_wind 2 (some .int) ∈ wsL_law := ⟨gw_11_16, gw_11_17, gw_1_2, gw_11_18⟩
theorem gd_X6_wind : yX6_wind.cls = RX6 ∧ yX6_wind.cls ≠ "java/lang/invoke/MethodHandle" ∧ yX6_wind.cls ≠ "java/lang/invoke/VarHandle" ∧ (parseMethodDescriptor yX6_wind.desc).map (fun d => d.parameters.length) = some 1 := by decide +kernel
set_option maxRecDepth 100000 in
set_option maxHeartbeats 0 in
theorem c_X6_wind {l : Launch} {D : va_G} {k : Nat → ClassId} {ad : Nat → Nat} (had : InjN 74 ad) (M : Mem) (a1 : Int32) : Met l yX6_wind (Cond.code yX6_wind cX6_wind 2 (some .int) :: wsL_law) rm_X6_wind (va_Pc [.ref (ad 0), .int a1] (GW 74 ad D k (cC ad k M))) (va_Qi (fun r u => f_X6_wind M a1 = (r, u)) (fun u t => GW 74 ad D k (cC ad k u) t) (AW 74 ad)) 0 0 (AW 74 ad) := by
  refine met_i (g := cC ad k) (M := M) (plainFor_of_name (by decide)) (Nat.le_of_ble_eq_true rfl) ?_
  intro p e s m args below meth c Q ls hx hb hml hG hown hK hret hP hS hl
  have hl : lv_has ls 2 [(0, .ref (ad 0)), (1, .int a1)] := hl
  obtain ⟨V, hV⟩ : ∃ V, f_X6_wind M a1 = V := ⟨_, rfl⟩
  have he := hV
  unfold f_X6_wind at he
  refine lv_iload_n hx hb dX6_wind_0 rfl (lv_at hl 1 rfl) ?_
  refine lv_if_lt (tgt := 11) hx hb dX6_wind_1 (by decide) (fun hc_1 => ?_) (fun hc_1 => ?_)
  · have he := ite_t he hc_1
    refine lv_ldc (v := (-1000000001)) hx hb hown (hG _ gw_11_19) dX6_wind_11 ?_
    exact hret _ _ _ _ _ _ (hV.trans he.symm) hP hS dX6_wind_13
  · have he := ite_f he hc_1
    refine lv_iload_n hx hb dX6_wind_4 rfl (lv_at hl 1 rfl) ?_
    refine lv_sipush (v := 400) hx hb dX6_wind_5 (by decide) ?_
    refine lv_icmp_le (tgt := 14) hx hb dX6_wind_8 (by decide) (fun hc_2 => ?_) (fun hc_2 => ?_)
    · have he := ite_t he hc_2
      refine lv_aload_n hx hb dX6_wind_14 rfl (lv_at hl 0 rfl) ?_
      refine gX6_0 hx hb hG hown hK hP rfl gw_1_16 dX6_wind_15 ?_
      refine lv_iload_n hx hb dX6_wind_18 rfl (lv_at hl 1 rfl) ?_
      refine call_i [.int a1] [] hx hb hml hG hown hK (c_X0_windAt had M 1 (by decide) a1) gw_11_20 gm_X0_windAt gd_X0_windAt rfl rfl ⟨Nat.le_of_ble_eq_true rfl, Nat.le_of_ble_eq_true rfl⟩ ⟨Nat.le_refl _, Nat.le_refl _⟩ (rX0 hK hP (by decide)) hP (fun _ h => h) hS rfl hl.1 rfl (Nat.le_of_ble_eq_true rfl) dX6_wind_19 (fun r_3 M_5 H locs hF_4 hP hS => ?_)
      have he := bnd2_at he hF_4
      exact hret _ _ _ _ _ _ (hV.trans he.symm) hP hS dX6_wind_22
    · have he := ite_f he hc_2
      refine lv_ldc (v := (-1000000001)) hx hb hown (hG _ gw_11_19) dX6_wind_11 ?_
      exact hret _ _ _ _ _ _ (hV.trans he.symm) hP hS dX6_wind_13
def rm_X6_isInBay : Room := { frames := 0, cells := 0, slots := 0, locals := 0 }
theorem gm_X6_isInBay : Cond.static yX6_isInBay ∈ wsL_law ∧ Cond.initialized yX6_isInBay.cls ∈ wsL_law ∧ Cond.code yX6_isInBay cX6_isInBay 1 (some .boolean) ∈ wsL_law := ⟨gw_13_20, gw_1_2, gw_13_21⟩
theorem gd_X6_isInBay : yX6_isInBay.cls ≠ "java/lang/invoke/MethodHandle" ∧ yX6_isInBay.cls ≠ "java/lang/invoke/VarHandle" ∧ (parseMethodDescriptor yX6_isInBay.desc).map (fun d => d.parameters.length) = some 1 := by decide +kernel
set_option maxRecDepth 100000 in
set_option maxHeartbeats 0 in
theorem c_X6_isInBay {l : Launch} {D : va_G} {k : Nat → ClassId} {ad : Nat → Nat} (had : InjN 74 ad) {M : Mem} (a1 : Int32) : Met l yX6_isInBay (Cond.code yX6_isInBay cX6_isInBay 1 (some .boolean) :: wsL_law) rm_X6_isInBay (va_Pc [.int a1] (GW 74 ad D k (cC ad k M))) (va_Qi (fun r u => (r = 0 ∨ r = 1) ∧ f_X6_isInBay a1 = r ∧ u = M) (fun u t => GW 74 ad D k (cC ad k u) t) (AW 74 ad)) 0 0 (AW 74 ad) := by
  refine met_z (g := cC ad k) (M := M) (plainFor_of_name (by decide)) (Nat.le_of_ble_eq_true rfl) ?_
  intro p e s m args below meth c Q ls hx hb hml hG hown hK hret hP hS hl
  have hl : lv_has ls 1 [(0, .int a1)] := hl
  obtain ⟨V, hV⟩ : ∃ V, f_X6_isInBay a1 = V := ⟨_, rfl⟩
  have he := hV
  unfold f_X6_isInBay at he
  refine lv_iload_n hx hb dX6_isInBay_0 rfl (lv_at hl 0 rfl) ?_
  refine lv_sipush (v := (-200)) hx hb dX6_isInBay_1 (by decide) ?_
  obtain ⟨t_4, hr_2, he⟩ := bnd_ex he
  have j19 : ∀ (H : Heap) (locs : List Loc) (ls : Array Slot), (t_4 = 0 ∨ t_4 = 1) → va_P D vwCl (wld 74 ad (cC ad k M)) H → va_S (AW 74 ad) s.heap H locs → lv_has ls 1 [] → W p l e rm_X6_isInBay s m args below meth c H locs 0 0 Q (F0 m 19 ls [.int t_4]) := by
    intro H locs ls zt_4 hP hS hl
    exact hret _ _ _ _ _ _ ⟨zt_4, (hV.trans he.symm), rfl⟩ (nz01 zt_4) hP hS dX6_isInBay_19
  refine lv_icmp_lt (tgt := 18) hx hb dX6_isInBay_4 (by decide) (fun hc_1 => ?_) (fun hc_1 => ?_)
  · have hr_2 := ite_t hr_2 hc_1
    refine lv_iconst (v := 0) hx hb dX6_isInBay_18 (by decide) ?_
    cases hr_2
    exact j19 _ _ _ (Or.inl rfl) hP hS (lv_sub hl [] rfl)
  · have hr_2 := ite_f hr_2 hc_1
    refine lv_iload_n hx hb dX6_isInBay_7 rfl (lv_at hl 0 rfl) ?_
    refine lv_sipush (v := 200) hx hb dX6_isInBay_8 (by decide) ?_
    refine lv_icmp_gt (tgt := 18) hx hb dX6_isInBay_11 (by decide) (fun hc_3 => ?_) (fun hc_3 => ?_)
    · have hr_2 := ite_t hr_2 hc_3
      refine lv_iconst (v := 0) hx hb dX6_isInBay_18 (by decide) ?_
      cases hr_2
      exact j19 _ _ _ (Or.inl rfl) hP hS (lv_sub hl [] rfl)
    · have hr_2 := ite_f hr_2 hc_3
      refine lv_iconst (v := 1) hx hb dX6_isInBay_14 (by decide) ?_
      refine lv_goto (tgt := 19) hx hb dX6_isInBay_15 (by decide) ?_
      cases hr_2
      exact j19 _ _ _ (Or.inr rfl) hP hS (lv_sub hl [] rfl)
def rm_X3_isFull : Room := { frames := 0, cells := 0, slots := 0, locals := 0 }
theorem gm_X3_isFull : Cond.instanceMethod yX3_isFull ∈ wsL_law ∧ Cond.selects RX3 yX3_isFull yX3_isFull ∈ wsL_law ∧ Cond.initialized RX3 ∈ wsL_law ∧ Cond.code yX3_isFull cX3_isFull 1 (some .boolean) ∈ wsL_law := ⟨gw_13_23, gw_14_0, gw_1_19, gw_14_1⟩
theorem gd_X3_isFull : yX3_isFull.cls = RX3 ∧ yX3_isFull.cls ≠ "java/lang/invoke/MethodHandle" ∧ yX3_isFull.cls ≠ "java/lang/invoke/VarHandle" ∧ (parseMethodDescriptor yX3_isFull.desc).map (fun d => d.parameters.length) = some 0 := by decide +kernel
set_option maxRecDepth 100000 in
set_option maxHeartbeats 0 in
theorem c_X3_isFull {l : Launch} {D : va_G} {k : Nat → ClassId} {ad : Nat → Nat} (had : InjN 74 ad) (M : Mem) (o : Nat) (ho : kRace o) : Met l yX3_isFull (Cond.code yX3_isFull cX3_isFull 1 (some .boolean) :: wsL_law) rm_X3_isFull (va_Pc [.ref (ad o)] (GW 74 ad D k (cC ad k M))) (va_Qi (fun r u => (r = 0 ∨ r = 1) ∧ f_X3_isFull M o = r ∧ u = M) (fun u t => GW 74 ad D k (cC ad k u) t) (AW 74 ad)) 0 0 (AW 74 ad) := by
  refine met_z (g := cC ad k) (M := M) (plainFor_of_name (by decide)) (Nat.le_of_ble_eq_true rfl) ?_
  intro p e s m args below meth c Q ls hx hb hml hG hown hK hret hP hS hl
  have hl : lv_has ls 1 [(0, .ref (ad o))] := hl
  obtain ⟨V, hV⟩ : ∃ V, f_X3_isFull M o = V := ⟨_, rfl⟩
  have he := hV
  unfold f_X3_isFull at he
  refine lv_aload_n hx hb dX3_isFull_0 rfl (lv_at hl 0 rfl) ?_
  refine gX3_1 hx hb hG hown hK hP ho gw_6_7 dX3_isFull_1 ?_
  refine lv_aload_n hx hb dX3_isFull_4 rfl (lv_at hl 0 rfl) ?_
  refine gX3_0 hx hb hG hown hK hP ho gw_3_9 dX3_isFull_5 ?_
  refine an_kBts hx hb hK hP (kR_bts ho) dX3_isFull_8 ?_
  obtain ⟨t_3, hr_2, he⟩ := bnd_ex he
  have j17 : ∀ (H : Heap) (locs : List Loc) (ls : Array Slot), (t_3 = 0 ∨ t_3 = 1) → va_P D vwCl (wld 74 ad (cC ad k M)) H → va_S (AW 74 ad) s.heap H locs → lv_has ls 1 [] → W p l e rm_X3_isFull s m args below meth c H locs 0 0 Q (F0 m 17 ls [.int t_3]) := by
    intro H locs ls zt_3 hP hS hl
    exact hret _ _ _ _ _ _ ⟨zt_3, (hV.trans he.symm), rfl⟩ (nz01 zt_3) hP hS dX3_isFull_17
  refine lv_icmp_lt (tgt := 16) hx hb dX3_isFull_9 (by decide) (fun hc_1 => ?_) (fun hc_1 => ?_)
  · have hr_2 := ite_t hr_2 hc_1
    refine lv_iconst (v := 0) hx hb dX3_isFull_16 (by decide) ?_
    cases hr_2
    exact j17 _ _ _ (Or.inl rfl) hP hS (lv_sub hl [] rfl)
  · have hr_2 := ite_f hr_2 hc_1
    refine lv_iconst (v := 1) hx hb dX3_isFull_12 (by decide) ?_
    refine lv_goto (tgt := 17) hx hb dX3_isFull_13 (by decide) ?_
    cases hr_2
    exact j17 _ _ _ (Or.inr rfl) hP hS (lv_sub hl [] rfl)
def rm_X4_become : Room := { frames := 0, cells := 0, slots := 0, locals := 0 }
theorem gm_X4_become : Cond.instanceMethod yX4_become ∈ wsL_law ∧ Cond.selects RX4 yX4_become yX4_become ∈ wsL_law ∧ Cond.initialized RX4 ∈ wsL_law ∧ Cond.code yX4_become cX4_become 4 none ∈ wsL_law := ⟨gw_14_10, gw_14_11, gw_3_17, gw_14_12⟩
theorem gd_X4_become : yX4_become.cls = RX4 ∧ yX4_become.cls ≠ "java/lang/invoke/MethodHandle" ∧ yX4_become.cls ≠ "java/lang/invoke/VarHandle" ∧ (parseMethodDescriptor yX4_become.desc).map (fun d => d.parameters.length) = some 3 := by decide +kernel
set_option maxRecDepth 100000 in
set_option maxHeartbeats 0 in
theorem c_X4_become {l : Launch} {D : va_G} {k : Nat → ClassId} {ad : Nat → Nat} (had : InjN 74 ad) (M : Mem) (o : Nat) (ho : kSlr o) (a1 : Int32) (a2 : Int32) (a3 : Int32) : Met l yX4_become (Cond.code yX4_become cX4_become 4 none :: wsL_law) rm_X4_become (va_Pc [.ref (ad o), .int a1, .int a2, .int a3] (GW 74 ad D k (cC ad k M))) (va_Qv (fun u => f_X4_become M o a1 a2 a3 = u) (fun u t => GW 74 ad D k (cC ad k u) t) (AW 74 ad)) 0 0 (AW 74 ad) := by
  refine met_v (g := cC ad k) (M := M) (plainFor_of_name (by decide)) (Nat.le_of_ble_eq_true rfl) ?_
  intro p e s m args below meth c Q ls hx hb hml hG hown hK hret hP hS hl
  have hl : lv_has ls 4 [(0, .ref (ad o)), (1, .int a1), (2, .int a2), (3, .int a3)] := hl
  obtain ⟨V, hV⟩ : ∃ V, f_X4_become M o a1 a2 a3 = V := ⟨_, rfl⟩
  have he := hV
  unfold f_X4_become at he
  refine lv_aload_n hx hb dX4_become_0 rfl (lv_at hl 0 rfl) ?_
  refine lv_iload_n hx hb dX4_become_1 rfl (lv_at hl 1 rfl) ?_
  refine pX4_0 hx hb hG hown hK hP had AW_in hS ho gw_14_13 dX4_become_2 (fun H locs hP hS => ?_)
  obtain ⟨M_1, eM_1⟩ : ∃ y : Mem, y = up2 M o 0 a1 := ⟨_, rfl⟩
  rw [← eM_1] at hP
  have he := bnd_at he eM_1
  refine lv_aload_n hx hb dX4_become_5 rfl (lv_at hl 0 rfl) ?_
  refine lv_iload_n hx hb dX4_become_6 rfl (lv_at hl 2 rfl) ?_
  refine pX4_1 hx hb hG hown hK hP had AW_in hS ho gw_14_14 dX4_become_7 (fun H locs hP hS => ?_)
  obtain ⟨M_2, eM_2⟩ : ∃ y : Mem, y = up2 M_1 o 1 a2 := ⟨_, rfl⟩
  rw [← eM_2] at hP
  have he := bnd_at he eM_2
  refine lv_aload_n hx hb dX4_become_10 rfl (lv_at hl 0 rfl) ?_
  refine lv_iload_n hx hb dX4_become_11 rfl (lv_at hl 3 rfl) ?_
  refine pX4_2 hx hb hG hown hK hP had AW_in hS ho gw_14_15 dX4_become_12 (fun H locs hP hS => ?_)
  obtain ⟨M_3, eM_3⟩ : ∃ y : Mem, y = up2 M_2 o 2 a3 := ⟨_, rfl⟩
  rw [← eM_3] at hP
  have he := bnd_at he eM_3
  exact hret _ _ _ _ _ (hV.trans he.symm) hP hS dX4_become_15
def rm_X1_beginAnew : Room := { frames := 0, cells := 0, slots := 0, locals := 0 }
theorem gm_X1_beginAnew : Cond.instanceMethod yX1_beginAnew ∈ wsL_law ∧ Cond.selects RX1 yX1_beginAnew yX1_beginAnew ∈ wsL_law ∧ Cond.initialized RX1 ∈ wsL_law ∧ Cond.code yX1_beginAnew cX1_beginAnew 1 none ∈ wsL_law := ⟨gw_14_23, gw_15_0, gw_3_11, gw_15_1⟩
theorem gd_X1_beginAnew : yX1_beginAnew.cls = RX1 ∧ yX1_beginAnew.cls ≠ "java/lang/invoke/MethodHandle" ∧ yX1_beginAnew.cls ≠ "java/lang/invoke/VarHandle" ∧ (parseMethodDescriptor yX1_beginAnew.desc).map (fun d => d.parameters.length) = some 0 := by decide +kernel
set_option maxRecDepth 100000 in
set_option maxHeartbeats 0 in
theorem c_X1_beginAnew {l : Launch} {D : va_G} {k : Nat → ClassId} {ad : Nat → Nat} (had : InjN 74 ad) (M : Mem) (o : Nat) (ho : kBoat o) : Met l yX1_beginAnew (Cond.code yX1_beginAnew cX1_beginAnew 1 none :: wsL_law) rm_X1_beginAnew (va_Pc [.ref (ad o)] (GW 74 ad D k (cC ad k M))) (va_Qv (fun u => f_X1_beginAnew M o = u) (fun u t => GW 74 ad D k (cC ad k u) t) (AW 74 ad)) 0 0 (AW 74 ad) := by
  refine met_v (g := cC ad k) (M := M) (plainFor_of_name (by decide)) (Nat.le_of_ble_eq_true rfl) ?_
  intro p e s m args below meth c Q ls hx hb hml hG hown hK hret hP hS hl
  have hl : lv_has ls 1 [(0, .ref (ad o))] := hl
  obtain ⟨V, hV⟩ : ∃ V, f_X1_beginAnew M o = V := ⟨_, rfl⟩
  have he := hV
  unfold f_X1_beginAnew at he
  refine lv_aload_n hx hb dX1_beginAnew_0 rfl (lv_at hl 0 rfl) ?_
  refine lv_aload_n hx hb dX1_beginAnew_1 rfl (lv_at hl 0 rfl) ?_
  refine gX1_1 hx hb hG hown hK hP ho gw_14_20 dX1_beginAnew_2 ?_
  refine pX1_3 hx hb hG hown hK hP had AW_in hS ho gw_15_2 dX1_beginAnew_5 (fun H locs hP hS => ?_)
  obtain ⟨M_1, eM_1⟩ : ∃ y : Mem, y = up2 M o 3 (M o 1) := ⟨_, rfl⟩
  rw [← eM_1] at hP
  have he := bnd_at he eM_1
  refine lv_aload_n hx hb dX1_beginAnew_8 rfl (lv_at hl 0 rfl) ?_
  refine lv_iconst (v := 0) hx hb dX1_beginAnew_9 (by decide) ?_
  refine pX1_4 hx hb hG hown hK hP had AW_in hS ho gw_15_3 dX1_beginAnew_10 (fun H locs hP hS => ?_)
  obtain ⟨M_2, eM_2⟩ : ∃ y : Mem, y = up2 M_1 o 4 0 := ⟨_, rfl⟩
  rw [← eM_2] at hP
  have he := bnd_at he eM_2
  refine lv_aload_n hx hb dX1_beginAnew_13 rfl (lv_at hl 0 rfl) ?_
  refine lv_aload_n hx hb dX1_beginAnew_14 rfl (lv_at hl 0 rfl) ?_
  refine gX1_2 hx hb hG hown hK hP ho gw_14_21 dX1_beginAnew_15 ?_
  refine pX1_5 hx hb hG hown hK hP had AW_in hS ho gw_15_4 (b01_or _)  dX1_beginAnew_18 (fun H locs hP hS => ?_)
  obtain ⟨M_3, eM_3⟩ : ∃ y : Mem, y = up2 M_2 o 5 (b01 (M_2 o 2)) := ⟨_, rfl⟩
  rw [← eM_3] at hP
  have he := bnd_at he eM_3
  refine lv_aload_n hx hb dX1_beginAnew_21 rfl (lv_at hl 0 rfl) ?_
  refine lv_iconst (v := 0) hx hb dX1_beginAnew_22 (by decide) ?_
  refine pX1_6 hx hb hG hown hK hP had AW_in hS ho gw_15_5 dX1_beginAnew_23 (fun H locs hP hS => ?_)
  obtain ⟨M_4, eM_4⟩ : ∃ y : Mem, y = up2 M_3 o 6 0 := ⟨_, rfl⟩
  rw [← eM_4] at hP
  have he := bnd_at he eM_4
  refine lv_aload_n hx hb dX1_beginAnew_26 rfl (lv_at hl 0 rfl) ?_
  refine lv_bipush (v := (-4)) hx hb dX1_beginAnew_27 (by decide) ?_
  refine pX1_7 hx hb hG hown hK hP had AW_in hS ho gw_3_19 dX1_beginAnew_29 (fun H locs hP hS => ?_)
  obtain ⟨M_5, eM_5⟩ : ∃ y : Mem, y = up2 M_4 o 7 (-4) := ⟨_, rfl⟩
  rw [← eM_5] at hP
  have he := bnd_at he eM_5
  refine lv_aload_n hx hb dX1_beginAnew_32 rfl (lv_at hl 0 rfl) ?_
  refine lv_iconst (v := 0) hx hb dX1_beginAnew_33 (by decide) ?_
  refine pX1_8 hx hb hG hown hK hP had AW_in hS ho gw_15_6 dX1_beginAnew_34 (fun H locs hP hS => ?_)
  obtain ⟨M_6, eM_6⟩ : ∃ y : Mem, y = up2 M_5 o 8 0 := ⟨_, rfl⟩
  rw [← eM_6] at hP
  have he := bnd_at he eM_6
  exact hret _ _ _ _ _ (hV.trans he.symm) hP hS dX1_beginAnew_37
def rm_X1_comeToStart : Room := { frames := 1, cells := 0, slots := 0, locals := 20 }
theorem gm_X1_comeToStart : Cond.instanceMethod yX1_comeToStart ∈ wsL_law ∧ Cond.selects RX1 yX1_comeToStart yX1_comeToStart ∈ wsL_law ∧ Cond.initialized RX1 ∈ wsL_law ∧ Cond.code yX1_comeToStart cX1_comeToStart 3 none ∈ wsL_law := ⟨gw_14_17, gw_14_18, gw_3_11, gw_14_19⟩
theorem gd_X1_comeToStart : yX1_comeToStart.cls = RX1 ∧ yX1_comeToStart.cls ≠ "java/lang/invoke/MethodHandle" ∧ yX1_comeToStart.cls ≠ "java/lang/invoke/VarHandle" ∧ (parseMethodDescriptor yX1_comeToStart.desc).map (fun d => d.parameters.length) = some 2 := by decide +kernel
set_option maxRecDepth 100000 in
set_option maxHeartbeats 0 in
theorem c_X1_comeToStart {l : Launch} {D : va_G} {k : Nat → ClassId} {ad : Nat → Nat} (had : InjN 74 ad) (M : Mem) (o : Nat) (ho : kBoat o) (a1 : Int32) (a2 : Int32) (ha2 : a2 = 0 ∨ a2 = 1) : Met l yX1_comeToStart (Cond.code yX1_comeToStart cX1_comeToStart 3 none :: wsL_law) rm_X1_comeToStart (va_Pc [.ref (ad o), .int a1, .int a2] (GW 74 ad D k (cC ad k M))) (va_Qv (fun u => f_X1_comeToStart M o a1 a2 = u) (fun u t => GW 74 ad D k (cC ad k u) t) (AW 74 ad)) 0 0 (AW 74 ad) := by
  refine met_v (g := cC ad k) (M := M) (plainFor_of_name (by decide)) (Nat.le_of_ble_eq_true rfl) ?_
  intro p e s m args below meth c Q ls hx hb hml hG hown hK hret hP hS hl
  have hl : lv_has ls 3 [(0, .ref (ad o)), (1, .int a1), (2, .int a2)] := hl
  obtain ⟨V, hV⟩ : ∃ V, f_X1_comeToStart M o a1 a2 = V := ⟨_, rfl⟩
  have he := hV
  unfold f_X1_comeToStart at he
  refine lv_aload_n hx hb dX1_comeToStart_0 rfl (lv_at hl 0 rfl) ?_
  refine lv_iload_n hx hb dX1_comeToStart_1 rfl (lv_at hl 1 rfl) ?_
  refine pX1_1 hx hb hG hown hK hP had AW_in hS ho gw_14_20 dX1_comeToStart_2 (fun H locs hP hS => ?_)
  obtain ⟨M_1, eM_1⟩ : ∃ y : Mem, y = up2 M o 1 a1 := ⟨_, rfl⟩
  rw [← eM_1] at hP
  have he := bnd_at he eM_1
  refine lv_aload_n hx hb dX1_comeToStart_5 rfl (lv_at hl 0 rfl) ?_
  refine lv_iload_n hx hb dX1_comeToStart_6 rfl (lv_at hl 2 rfl) ?_
  refine pX1_2 hx hb hG hown hK hP had AW_in hS ho gw_14_21 ha2  dX1_comeToStart_7 (fun H locs hP hS => ?_)
  obtain ⟨M_2, eM_2⟩ : ∃ y : Mem, y = up2 M_1 o 2 a2 := ⟨_, rfl⟩
  rw [← eM_2] at hP
  have he := bnd_at he eM_2
  refine lv_aload_n hx hb dX1_comeToStart_10 rfl (lv_at hl 0 rfl) ?_
  refine call_v [] [] hx hb hml hG hown hK (c_X1_beginAnew had M_2 o ho) gw_14_22 gm_X1_beginAnew gd_X1_beginAnew rfl rfl ⟨Nat.le_of_ble_eq_true rfl, Nat.le_of_ble_eq_true rfl⟩ ⟨Nat.le_refl _, Nat.le_refl _⟩ (rX1 hK hP ho) hP (fun _ h => h) hS rfl hl.1 rfl (Nat.le_of_ble_eq_true rfl) dX1_comeToStart_11 (fun M_5 H locs hF_4 hP hS => ?_)
  have he := bnd_at he hF_4.symm
  exact hret _ _ _ _ _ (hV.trans he.symm) hP hS dX1_comeToStart_14
