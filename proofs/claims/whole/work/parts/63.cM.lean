-- @needs 12_dec 13_dec 14_dec 15_dec 37_fault 60_cM 62_cM
def rm_X7_windBy : Room := { frames := 2, cells := 0, slots := 0, locals := 41 }
theorem gm_X7_windBy : Cond.instanceMethod yX7_windBy ∈ wsL_law ∧ Cond.selects RX7 yX7_windBy yX7_windBy ∈ wsL_law ∧ Cond.initialized RX7 ∈ wsL_law ∧ Cond.code yX7_windBy cX7_windBy 6 (some .int) ∈ wsL_law := ⟨gw_12_18, gw_12_19, gw_1_5, gw_12_20⟩
theorem gd_X7_windBy : yX7_windBy.cls = RX7 ∧ yX7_windBy.cls ≠ "java/lang/invoke/MethodHandle" ∧ yX7_windBy.cls ≠ "java/lang/invoke/VarHandle" ∧ (parseMethodDescriptor yX7_windBy.desc).map (fun d => d.parameters.length) = some 2 := by decide +kernel
set_option maxRecDepth 100000 in
set_option maxHeartbeats 0 in
theorem c_X7_windBy {l : Launch} {D : va_G} {k : Nat → ClassId} {ad : Nat → Nat} (had : InjN 31 ad) (M : Mem) (a1 : Int32) (a2 : Int32) (hI : MI M) : Met l yX7_windBy (Cond.code yX7_windBy cX7_windBy 6 (some .int) :: wsL_law) rm_X7_windBy (va_Pc [.ref (ad 0), .int a1, .int a2] (GW 31 ad D k (cM ad k M))) (va_Qi (fun r u => (f_X7_windBy M a1 a2 = (r, u) ∧ TI M u)) (fun u t => GW 31 ad D k (cM ad k u) t) (AW 31 ad)) 0 0 (AW 31 ad) := by
  refine met_i (g := cM ad k) (M := M) (plainFor_of_name (by decide)) (Nat.le_of_ble_eq_true rfl) ?_
  intro p e s m args below meth c Q ls hx hb hml hG hown hK hret hP hS hl
  have hl : lv_has ls 6 [(0, .ref (ad 0)), (1, .int a1), (2, .int a2)] := hl
  obtain ⟨V, hV⟩ : ∃ V, f_X7_windBy M a1 a2 = V := ⟨_, rfl⟩
  have he := hV
  unfold f_X7_windBy at he
  have hT0 : TI M M := TI_rf hI
  have qb_M := hI.1
  have qs_M := hI.2.1
  have qz_M := hI.2.2.1
  refine lv_aload_n hx hb dX7_windBy_0 rfl (lv_at hl 0 rfl) ?_
  refine gX7_5 hx hb hG hown hK hP gw_11_13 dX7_windBy_1 ?_
  refine lv_if_ne (tgt := 9) hx hb dX7_windBy_4 (by decide) (fun hc_1 => ?_) (fun hc_1 => ?_)
  · have he := ite_t he hc_1
    refine lv_aload_n hx hb dX7_windBy_9 rfl (lv_at hl 0 rfl) ?_
    refine lv_iconst (v := 0) hx hb dX7_windBy_10 (by decide) ?_
    refine pX7_27 hx hb hG hown hK hP had AW_in hS gw_12_21 dX7_windBy_11 (fun H locs hP hS => ?_)
    obtain ⟨M_2, eM_2⟩ : ∃ y : Mem, y = up2 M 0 27 0 := ⟨_, rfl⟩
    rw [← eM_2] at hP
    have he := bnd_at he eM_2
    have hTM_2 : TI M M_2 := by rw [eM_2]; exact TI_f hT0 (by decide)
    have qb_M_2 := hTM_2.1.1
    have qs_M_2 := hTM_2.1.2.1
    have qz_M_2 := hTM_2.1.2.2.1
    refine lv_aload_n hx hb dX7_windBy_14 rfl (lv_at hl 0 rfl) ?_
    refine call_v [] [] hx hb hml hG hown hK (c_X7_openLevel had M_2 hTM_2.1 (by rw [eM_2, up2_s]; decide)) gw_12_22 gm_X7_openLevel gd_X7_openLevel rfl rfl ⟨Nat.le_of_ble_eq_true rfl, Nat.le_of_ble_eq_true rfl⟩ ⟨Nat.le_refl _, Nat.le_refl _⟩ (rX7 hK hP) hP (fun _ h => h) hS rfl hl.1 rfl (Nat.le_of_ble_eq_true rfl) dX7_windBy_15 (fun M_5 H locs hF_4 hP hS => ?_)
    obtain ⟨hF_4, hti_6⟩ := hF_4
    have he := bnd_at he hF_4.symm
    have hTM_5 : TI M M_5 := TI_tr hTM_2 hti_6
    have qb_M_5 := hTM_5.1.1
    have qs_M_5 := hTM_5.1.2.1
    have qz_M_5 := hTM_5.1.2.2.1
    refine lv_iconst (v := 0) hx hb dX7_windBy_18 (by decide) ?_
    refine lv_istore_n (lv' := [(3, .int 0), (0, .ref (ad 0)), (1, .int a1), (2, .int a2)]) hx hb dX7_windBy_19 rfl hl (by decide) rfl (fun ls hl => ?_)
    obtain ⟨M_143, hr_77, he⟩ := bnd_ex he
    have j218 : ∀ (H : Heap) (locs : List Loc) (ls : Array Slot), TI M M_143 → (0 ≤ (M_143 0 27).toInt ∧ (M_143 0 27).toInt < 8) → va_P D vwCl (wld 31 ad (cM ad k M_143)) H → va_S (AW 31 ad) s.heap H locs → lv_has ls 6 [(0, .ref (ad 0))] → W p l e rm_X7_windBy s m args below meth c H locs 0 0 Q (F0 m 218 ls []) := by
      intro H locs ls hTM_143 hlev0 hP hS hl
      have qb_M_143 := hTM_143.1.1
      have qs_M_143 := hTM_143.1.2.1
      have qz_M_143 := hTM_143.1.2.2.1
      refine lv_aload_n hx hb dX7_windBy_218 rfl (lv_at hl 0 rfl) ?_
      refine call_i [] [] hx hb hml hG hown hK (c_X7_levelSum had M_143 hTM_143.1 hlev0) gw_13_2 gm_X7_levelSum gd_X7_levelSum rfl rfl ⟨Nat.le_of_ble_eq_true rfl, Nat.le_of_ble_eq_true rfl⟩ ⟨Nat.le_refl _, Nat.le_refl _⟩ (rX7 hK hP) hP (fun _ h => h) hS rfl hl.1 rfl (Nat.le_of_ble_eq_true rfl) dX7_windBy_219 (fun r_144 u_146 H locs hF_145 hP hS => ?_)
      obtain ⟨hF_145, hu⟩ := hF_145; rw [hu] at hP; subst hF_145
      refine lv_topi (fun y_147 ey_147 => ?_)
      have he := bnd_at he ey_147
      refine lv_istore (lv' := [(4, .int y_147), (0, .ref (ad 0))]) hx hb dX7_windBy_222 hl (by decide) rfl (fun ls hl => ?_)
      refine lv_iload hx hb dX7_windBy_224 (lv_at hl 0 rfl) ?_
      refine lv_bipush (v := (-40)) hx hb dX7_windBy_226 (by decide) ?_
      obtain ⟨t_151, hr_149, he⟩ := bnd_ex he
      have j250 : ∀ (H : Heap) (locs : List Loc) (ls : Array Slot), va_P D vwCl (wld 31 ad (cM ad k M_143)) H → va_S (AW 31 ad) s.heap H locs → lv_has ls 6 [] → W p l e rm_X7_windBy s m args below meth c H locs 0 0 Q (F0 m 250 ls [.int t_151]) := by
        intro H locs ls hP hS hl
        exact hret _ _ _ _ _ _ ⟨(hV.trans he.symm), hTM_143⟩ hP hS dX7_windBy_250
      refine lv_icmp_ge (tgt := 236) hx hb dX7_windBy_228 (by decide) (fun hc_148 => ?_) (fun hc_148 => ?_)
      · have hr_149 := ite_t hr_149 hc_148
        refine lv_iload hx hb dX7_windBy_236 (lv_at hl 0 rfl) ?_
        refine lv_bipush (v := 40) hx hb dX7_windBy_238 (by decide) ?_
        refine lv_icmp_le (tgt := 248) hx hb dX7_windBy_240 (by decide) (fun hc_150 => ?_) (fun hc_150 => ?_)
        · have hr_149 := ite_t hr_149 hc_150
          refine lv_iload hx hb dX7_windBy_248 (lv_at hl 0 rfl) ?_
          cases hr_149
          exact j250 _ _ _ hP hS (lv_sub hl [] rfl)
        · have hr_149 := ite_f hr_149 hc_150
          refine lv_bipush (v := 40) hx hb dX7_windBy_243 (by decide) ?_
          refine lv_goto (tgt := 250) hx hb dX7_windBy_245 (by decide) ?_
          cases hr_149
          exact j250 _ _ _ hP hS (lv_sub hl [] rfl)
      · have hr_149 := ite_f hr_149 hc_148
        refine lv_bipush (v := (-40)) hx hb dX7_windBy_231 (by decide) ?_
        refine lv_goto (tgt := 250) hx hb dX7_windBy_233 (by decide) ?_
        cases hr_149
        exact j250 _ _ _ hP hS (lv_sub hl [] rfl)
    have lp20 : ∀ (nn : Nat) (H : Heap) (locs : List Loc) (ls : Array Slot) (M_76 : Mem) (v_75 : Int32), (TI M M_76) → (WB M M_76 v_75) → (100 - v_75.toInt).toNat < nn → lp_X7_windBy_20 nn a1 a2 M_76 v_75 = M_143 → va_P D vwCl (wld 31 ad (cM ad k M_76)) H → va_S (AW 31 ad) s.heap H locs → lv_has ls 6 [(0, .ref (ad 0)), (1, .int a1), (2, .int a2), (3, .int v_75)] → W p l e rm_X7_windBy s m args below meth c H locs 0 0 Q (F0 m 20 ls []) := by
      intro nn
      induction nn with
      | zero =>
        intro H locs ls M_76 v_75 hTM_76 hWB hμ
        exact absurd hμ (Nat.not_lt_zero _)
      | succ nn ih =>
        intro H locs ls M_76 v_75 hTM_76 hWB hμ hr_77 hP hS hl
        rw [lp_X7_windBy_20] at hr_77
        have qb_M_76 := hTM_76.1.1
        have qs_M_76 := hTM_76.1.2.1
        have qz_M_76 := hTM_76.1.2.2.1
        refine lv_iload_n hx hb dX7_windBy_20 rfl (lv_at hl 3 rfl) ?_
        refine lv_aload_n hx hb dX7_windBy_21 rfl (lv_at hl 0 rfl) ?_
        refine gX7_5 hx hb hG hown hK hP gw_11_13 dX7_windBy_22 ?_
        refine lv_icmp_ge (tgt := 218) hx hb dX7_windBy_25 (by decide) (fun hc_78 => ?_) (fun hc_78 => ?_)
        · have hr_77 := ite_t hr_77 hc_78
          cases hr_77
          exact j218 _ _ _ hTM_76 (wb_lev hI hWB) hP hS (lv_sub hl [0] rfl)
        · have hr_77 := ite_f hr_77 hc_78
          refine lv_aload_n hx hb dX7_windBy_28 rfl (lv_at hl 0 rfl) ?_
          refine gX7_6 hx hb hG hown hK hP gw_4_13 dX7_windBy_29 ?_
          refine lv_iload_n hx hb dX7_windBy_32 rfl (lv_at hl 3 rfl) ?_
          refine al_M1 hx hb hK hP (wb_in hI hWB hc_78) dX7_windBy_33 ?_
          refine lv_topi (fun y_79 ey_79 => ?_)
          have hr_77 := bnd_at hr_77 ey_79
          refine lv_istore (lv' := [(4, .int y_79), (0, .ref (ad 0)), (1, .int a1), (2, .int a2), (3, .int v_75)]) hx hb dX7_windBy_34 hl (by decide) rfl (fun ls hl => ?_)
          obtain ⟨y_80, ey_80⟩ : ∃ y_80 : Int32, y_80 = v_75 + 1 := ⟨_, rfl⟩
          have hr_77 := bnd_at hr_77 ey_80
          refine lv_iinc (v := y_80) (lv' := [(3, .int y_80), (4, .int y_79), (0, .ref (ad 0)), (1, .int a1), (2, .int a2)]) hx hb dX7_windBy_36 hl (k := 4) rfl (by rw [ey_80]; rfl) (by decide) rfl (fun ls hl => ?_)
          refine lv_iload hx hb dX7_windBy_39 (lv_at hl 1 rfl) ?_
          refine lv_bipush (v := 40) hx hb dX7_windBy_41 (by decide) ?_
          obtain ⟨x_141, M_142, hr_82, hr_77⟩ := bnd2_ex hr_77
          have j215 : ∀ (H : Heap) (locs : List Loc) (ls : Array Slot), TI M M_142 → (WB M M_142 x_141 ∧ v_75.toInt < x_141.toInt) → va_P D vwCl (wld 31 ad (cM ad k M_142)) H → va_S (AW 31 ad) s.heap H locs → lv_has ls 6 [(0, .ref (ad 0)), (1, .int a1), (2, .int a2), (3, .int x_141)] → W p l e rm_X7_windBy s m args below meth c H locs 0 0 Q (F0 m 215 ls []) := by
            intro H locs ls hTM_142 hj215 hP hS hl
            have qb_M_142 := hTM_142.1.1
            have qs_M_142 := hTM_142.1.2.1
            have qz_M_142 := hTM_142.1.2.2.1
            refine lv_goto (tgt := 20) hx hb dX7_windBy_215 (by decide) ?_
            exact ih _ _ _ _ _ hTM_142 hj215.1 (by have qv := hj215.2; have qg := vp_in_iff.mp (wb_in hI hWB hc_78); omega) hr_77 hP hS (lv_sub hl [0, 1, 2, 3] rfl)
          refine lv_icmp_ne (tgt := 63) hx hb dX7_windBy_43 (by decide) (fun hc_81 => ?_) (fun hc_81 => ?_)
          · have hr_82 := ite_t hr_82 hc_81
            refine lv_iload hx hb dX7_windBy_63 (lv_at hl 1 rfl) ?_
            refine lv_bipush (v := 41) hx hb dX7_windBy_65 (by decide) ?_
            refine lv_icmp_ne (tgt := 95) hx hb dX7_windBy_67 (by decide) (fun hc_83 => ?_) (fun hc_83 => ?_)
            · have hr_82 := ite_t hr_82 hc_83
              refine lv_iload hx hb dX7_windBy_95 (lv_at hl 1 rfl) ?_
              refine lv_bipush (v := 116) hx hb dX7_windBy_97 (by decide) ?_
              refine lv_icmp_eq (tgt := 109) hx hb dX7_windBy_99 (by decide) (fun hc_84 => ?_) (fun hc_84 => ?_)
              · have hr_82 := ite_t hr_82 hc_84
                refine lv_aload_n hx hb dX7_windBy_109 rfl (lv_at hl 2 rfl) ?_
                refine lv_iload hx hb dX7_windBy_110 (lv_at hl 1 rfl) ?_
                refine lv_bipush (v := 116) hx hb dX7_windBy_112 (by decide) ?_
                obtain ⟨t_87, hr_86, hr_82⟩ := bnd_ex hr_82
                have j122 : ∀ (H : Heap) (locs : List Loc) (ls : Array Slot), va_P D vwCl (wld 31 ad (cM ad k M_76)) H → va_S (AW 31 ad) s.heap H locs → lv_has ls 6 [(0, .ref (ad 0)), (1, .int a1), (2, .int a2), (3, .int y_80)] → W p l e rm_X7_windBy s m args below meth c H locs 0 0 Q (F0 m 122 ls [.int t_87, .ref (ad 0)]) := by
                  intro H locs ls hP hS hl
                  refine call_v [.int t_87] [] hx hb hml hG hown hK (c_X7_atom had M_76 t_87 hTM_76.1 (wb_lev hI hWB)) gw_13_6 gm_X7_atom gd_X7_atom rfl rfl ⟨Nat.le_of_ble_eq_true rfl, Nat.le_of_ble_eq_true rfl⟩ ⟨Nat.le_refl _, Nat.le_refl _⟩ (rX7 hK hP) hP (fun _ h => h) hS rfl hl.1 rfl (Nat.le_of_ble_eq_true rfl) dX7_windBy_122 (fun M_90 H locs hF_89 hP hS => ?_)
                  obtain ⟨hF_89, hti_91⟩ := hF_89
                  have hr_82 := bnd_at hr_82 hF_89.symm
                  have hTM_90 : TI M M_90 := TI_tr hTM_76 hti_91
                  have qb_M_90 := hTM_90.1.1
                  have qs_M_90 := hTM_90.1.2.1
                  have qz_M_90 := hTM_90.1.2.2.1
                  refine lv_goto (tgt := 215) hx hb dX7_windBy_125 (by decide) ?_
                  cases hr_82
                  exact j215 _ _ _ hTM_90 ⟨by rw [ey_80]; exact wb_atom (wb_same hI hWB hc_78 (by rw [← ey_79]; exact hc_81) (by rw [← ey_79]; exact hc_83)) hF_89, by have qb := vp_in_iff.mp (wb_in hI hWB hc_78); rw [ey_80, inc_I (N := 100) qb.2 (by decide)]; omega⟩ hP hS (lv_sub hl [0, 1, 2, 3] rfl)
                refine lv_icmp_ne (tgt := 121) hx hb dX7_windBy_114 (by decide) (fun hc_85 => ?_) (fun hc_85 => ?_)
                · have hr_86 := ite_t hr_86 hc_85
                  refine lv_iload_n hx hb dX7_windBy_121 rfl (lv_at hl 4 rfl) ?_
                  cases hr_86
                  exact j122 _ _ _ hP hS (lv_sub hl [2, 3, 4, 0] rfl)
                · have hr_86 := ite_f hr_86 (fun q => q hc_85)
                  refine lv_iload_n hx hb dX7_windBy_117 rfl (lv_at hl 3 rfl) ?_
                  refine lv_goto (tgt := 122) hx hb dX7_windBy_118 (by decide) ?_
                  cases hr_86
                  exact j122 _ _ _ hP hS (lv_sub hl [2, 3, 4, 0] rfl)
              · have hr_82 := ite_f hr_82 hc_84
                refine lv_iload hx hb dX7_windBy_102 (lv_at hl 1 rfl) ?_
                refine lv_bipush (v := 115) hx hb dX7_windBy_104 (by decide) ?_
                refine lv_icmp_ne (tgt := 128) hx hb dX7_windBy_106 (by decide) (fun hc_92 => ?_) (fun hc_92 => ?_)
                · have hr_82 := ite_t hr_82 hc_92
                  refine lv_iload hx hb dX7_windBy_128 (lv_at hl 1 rfl) ?_
                  refine lv_i2l (v := y_79.toInt64) hx hb dX7_windBy_130 rfl ?_
                  refine lv_ldc2 (v := 48) hx hb hown (hG _ gw_9_22) dX7_windBy_131 ?_
                  refine lv_ldc2 (v := 57) hx hb hown (hG _ gw_9_23) dX7_windBy_134 ?_
                  refine callS_i [.long y_79.toInt64, .long 48, .long 57] [] hx hb hml hG hown hK (c_X7_in had (M := M_76)  y_79.toInt64 48 57) gw_7_2 gm_X7_in gd_X7_in rfl rfl ⟨Nat.le_of_ble_eq_true rfl, Nat.le_of_ble_eq_true rfl⟩ ⟨Nat.le_refl _, Nat.le_refl _⟩ hP (fun _ h => h) hS rfl hl.1 rfl (Nat.le_of_ble_eq_true rfl) dX7_windBy_137 (fun r_93 u_95 H locs hF_94 hP hS => ?_)
                  obtain ⟨hz_96, hF_94, hu⟩ := hF_94; rw [hu] at hP; subst hF_94
                  refine lv_if_eq (tgt := 209) hx hb dX7_windBy_140 (by decide) (fun hc_97 => ?_) (fun hc_97 => ?_)
                  · have hr_82 := ite_t hr_82 hc_97
                    refine lv_aload_n hx hb dX7_windBy_209 rfl (lv_at hl 2 rfl) ?_
                    refine lv_iload hx hb dX7_windBy_210 (lv_at hl 1 rfl) ?_
                    refine call_v [.int y_79] [] hx hb hml hG hown hK (c_X7_work had M_76 y_79 hTM_76.1 (wb_lev hI hWB)) gw_13_10 gm_X7_work gd_X7_work rfl rfl ⟨Nat.le_of_ble_eq_true rfl, Nat.le_of_ble_eq_true rfl⟩ ⟨Nat.le_refl _, Nat.le_refl _⟩ (rX7 hK hP) hP (fun _ h => h) hS rfl hl.1 rfl (Nat.le_of_ble_eq_true rfl) dX7_windBy_212 (fun M_100 H locs hF_99 hP hS => ?_)
                    obtain ⟨hF_99, hti_101⟩ := hF_99
                    have hr_82 := bnd_at hr_82 hF_99.symm
                    have hTM_100 : TI M M_100 := TI_tr hTM_76 hti_101
                    have qb_M_100 := hTM_100.1.1
                    have qs_M_100 := hTM_100.1.2.1
                    have qz_M_100 := hTM_100.1.2.2.1
                    cases hr_82
                    exact j215 _ _ _ hTM_100 ⟨by rw [ey_80]; exact wb_work (wb_same hI hWB hc_78 (by rw [← ey_79]; exact hc_81) (by rw [← ey_79]; exact hc_83)) hF_99, by have qb := vp_in_iff.mp (wb_in hI hWB hc_78); rw [ey_80, inc_I (N := 100) qb.2 (by decide)]; omega⟩ hP hS (lv_sub hl [2, 3, 4, 0] rfl)
                  · have hr_82 := ite_f hr_82 hc_97
                    refine lv_iload hx hb dX7_windBy_143 (lv_at hl 1 rfl) ?_
                    refine lv_bipush (v := 48) hx hb dX7_windBy_145 (by decide) ?_
                    refine lv_isub hx hb dX7_windBy_147 ?_
                    refine lv_topi (fun y_102 ey_102 => ?_)
                    have hr_82 := bnd_at hr_82 ey_102
                    refine lv_istore (lv' := [(5, .int y_102), (3, .int y_80), (4, .int y_79), (0, .ref (ad 0)), (1, .int a1), (2, .int a2)]) hx hb dX7_windBy_148 hl (by decide) rfl (fun ls hl => ?_)
                    obtain ⟨w_114, w_115, hr_105, hr_82⟩ := bnd2_ex hr_82
                    have j200 : ∀ (H : Heap) (locs : List Loc) (ls : Array Slot), (WB M M_76 w_114 ∧ v_75.toInt < w_114.toInt) → va_P D vwCl (wld 31 ad (cM ad k M_76)) H → va_S (AW 31 ad) s.heap H locs → lv_has ls 6 [(0, .ref (ad 0)), (1, .int a1), (2, .int a2), (3, .int w_114), (5, .int w_115)] → W p l e rm_X7_windBy s m args below meth c H locs 0 0 Q (F0 m 200 ls []) := by
                      intro H locs ls hWB3 hP hS hl
                      refine lv_aload_n hx hb dX7_windBy_200 rfl (lv_at hl 0 rfl) ?_
                      refine lv_iload hx hb dX7_windBy_201 (lv_at hl 4 rfl) ?_
                      refine call_v [.int w_115] [] hx hb hml hG hown hK (c_X7_atom had M_76 w_115 hTM_76.1 (wb_lev hI hWB)) gw_13_6 gm_X7_atom gd_X7_atom rfl rfl ⟨Nat.le_of_ble_eq_true rfl, Nat.le_of_ble_eq_true rfl⟩ ⟨Nat.le_refl _, Nat.le_refl _⟩ (rX7 hK hP) hP (fun _ h => h) hS rfl hl.1 rfl (Nat.le_of_ble_eq_true rfl) dX7_windBy_203 (fun M_118 H locs hF_117 hP hS => ?_)
                      obtain ⟨hF_117, hti_119⟩ := hF_117
                      have hr_82 := bnd_at hr_82 hF_117.symm
                      have hTM_118 : TI M M_118 := TI_tr hTM_76 hti_119
                      have qb_M_118 := hTM_118.1.1
                      have qs_M_118 := hTM_118.1.2.1
                      have qz_M_118 := hTM_118.1.2.2.1
                      refine lv_goto (tgt := 215) hx hb dX7_windBy_206 (by decide) ?_
                      cases hr_82
                      exact j215 _ _ _ hTM_118 ⟨wb_atom hWB3.1 hF_117, hWB3.2⟩ hP hS (lv_sub hl [0, 1, 2, 3] rfl)
                    have lp150 : ∀ (nn : Nat) (H : Heap) (locs : List Loc) (ls : Array Slot) (v_103 : Int32) (v_104 : Int32), (WB M M_76 v_103 ∧ v_75.toInt < v_103.toInt) → (100 - v_103.toInt).toNat < nn → lp_X7_windBy_150' nn M_76 v_103 v_104 = (w_114, w_115) → va_P D vwCl (wld 31 ad (cM ad k M_76)) H → va_S (AW 31 ad) s.heap H locs → lv_has ls 6 [(0, .ref (ad 0)), (1, .int a1), (2, .int a2), (3, .int v_103), (5, .int v_104)] → W p l e rm_X7_windBy s m args below meth c H locs 0 0 Q (F0 m 150 ls []) := by
                      intro nn
                      induction nn with
                      | zero =>
                        intro H locs ls v_103 v_104 hWB2 hμ
                        exact absurd hμ (Nat.not_lt_zero _)
                      | succ nn ih =>
                        intro H locs ls v_103 v_104 hWB2 hμ hr_105 hP hS hl
                        rw [lp_X7_windBy_150'] at hr_105
                        refine lv_iload_n hx hb dX7_windBy_150 rfl (lv_at hl 3 rfl) ?_
                        refine lv_aload_n hx hb dX7_windBy_151 rfl (lv_at hl 0 rfl) ?_
                        refine gX7_5 hx hb hG hown hK hP gw_11_13 dX7_windBy_152 ?_
                        refine lv_icmp_ge (tgt := 200) hx hb dX7_windBy_155 (by decide) (fun hc_106 => ?_) (fun hc_106 => ?_)
                        · have hr_105 := ite_t hr_105 hc_106
                          cases hr_105
                          exact j200 _ _ _ hWB2 hP hS (lv_sub hl [0, 1, 2, 3, 4] rfl)
                        · have hr_105 := ite_f hr_105 hc_106
                          refine lv_aload_n hx hb dX7_windBy_158 rfl (lv_at hl 0 rfl) ?_
                          refine gX7_6 hx hb hG hown hK hP gw_4_13 dX7_windBy_159 ?_
                          refine lv_iload_n hx hb dX7_windBy_162 rfl (lv_at hl 3 rfl) ?_
                          refine al_M1 hx hb hK hP (wb_in hI hWB2.1 hc_106) dX7_windBy_163 ?_
                          refine lv_i2l (v := (M_76 1 v_103.toNatClampNeg).toInt64) hx hb dX7_windBy_164 rfl ?_
                          refine lv_ldc2 (v := 48) hx hb hown (hG _ gw_9_22) dX7_windBy_165 ?_
                          refine lv_ldc2 (v := 57) hx hb hown (hG _ gw_9_23) dX7_windBy_168 ?_
                          refine callS_i [.long ((M_76 1 v_103.toNatClampNeg).toInt64), .long 48, .long 57] [] hx hb hml hG hown hK (c_X7_in had (M := M_76)  ((M_76 1 v_103.toNatClampNeg).toInt64) 48 57) gw_7_2 gm_X7_in gd_X7_in rfl rfl ⟨Nat.le_of_ble_eq_true rfl, Nat.le_of_ble_eq_true rfl⟩ ⟨Nat.le_refl _, Nat.le_refl _⟩ hP (fun _ h => h) hS rfl hl.1 rfl (Nat.le_of_ble_eq_true rfl) dX7_windBy_171 (fun r_107 u_109 H locs hF_108 hP hS => ?_)
                          obtain ⟨hz_110, hF_108, hu⟩ := hF_108; rw [hu] at hP; subst hF_108
                          refine lv_if_eq (tgt := 200) hx hb dX7_windBy_174 (by decide) (fun hc_111 => ?_) (fun hc_111 => ?_)
                          · have hr_105 := ite_t hr_105 hc_111
                            cases hr_105
                            exact j200 _ _ _ hWB2 hP hS (lv_sub hl [0, 1, 2, 3, 4] rfl)
                          · have hr_105 := ite_f hr_105 hc_111
                            refine lv_bipush (v := 10) hx hb dX7_windBy_177 (by decide) ?_
                            refine lv_iload hx hb dX7_windBy_179 (lv_at hl 4 rfl) ?_
                            refine lv_imul hx hb dX7_windBy_181 ?_
                            refine lv_aload_n hx hb dX7_windBy_182 rfl (lv_at hl 0 rfl) ?_
                            refine gX7_6 hx hb hG hown hK hP gw_4_13 dX7_windBy_183 ?_
                            refine lv_iload_n hx hb dX7_windBy_186 rfl (lv_at hl 3 rfl) ?_
                            refine al_M1 hx hb hK hP (wb_in hI hWB2.1 hc_106) dX7_windBy_187 ?_
                            refine lv_iadd hx hb dX7_windBy_188 ?_
                            refine lv_bipush (v := 48) hx hb dX7_windBy_189 (by decide) ?_
                            refine lv_isub hx hb dX7_windBy_191 ?_
                            refine lv_topi (fun y_112 ey_112 => ?_)
                            have hr_105 := bnd_at hr_105 ey_112
                            refine lv_istore (lv' := [(5, .int y_112), (0, .ref (ad 0)), (1, .int a1), (2, .int a2), (3, .int v_103)]) hx hb dX7_windBy_192 hl (by decide) rfl (fun ls hl => ?_)
                            obtain ⟨y_113, ey_113⟩ : ∃ y_113 : Int32, y_113 = v_103 + 1 := ⟨_, rfl⟩
                            have hr_105 := bnd_at hr_105 ey_113
                            refine lv_iinc (v := y_113) (lv' := [(3, .int y_113), (5, .int y_112), (0, .ref (ad 0)), (1, .int a1), (2, .int a2)]) hx hb dX7_windBy_194 hl (k := 4) rfl (by rw [ey_113]; rfl) (by decide) rfl (fun ls hl => ?_)
                            refine lv_goto (tgt := 150) hx hb dX7_windBy_197 (by decide) ?_
                            exact ih _ _ _ _ _ ⟨by rw [ey_113]; exact wb_dig hI hWB2.1 hc_106 hc_111, by have qb := vp_in_iff.mp (wb_in hI hWB2.1 hc_106); rw [ey_113, inc_I (N := 100) qb.2 (by decide)]; have qc := hWB2.2; omega⟩ (by have qa := (wb_in hI hWB2.1 hc_106); have qb := vp_in_iff.mp qa; rw [ey_113, inc_I (N := 100) qb.2 (by decide)]; omega) hr_105 hP hS (lv_sub hl [2, 3, 4, 0, 1] rfl)
                    exact lp150 _ _ _ _ _ _ ⟨by rw [ey_80]; exact wb_same hI hWB hc_78 (by rw [← ey_79]; exact hc_81) (by rw [← ey_79]; exact hc_83), by have qb := vp_in_iff.mp (wb_in hI hWB hc_78); rw [ey_80, inc_I (N := 100) qb.2 (by decide)]; omega⟩ (by have qb := vp_in_iff.mp (wb_in hI hWB hc_78); rw [ey_80, inc_I (N := 100) qb.2 (by decide)]; omega) hr_105 hP hS (lv_sub hl [3, 4, 5, 1, 0] rfl)
                · have hr_82 := ite_f hr_82 (fun q => q hc_92)
                  refine lv_aload_n hx hb dX7_windBy_109 rfl (lv_at hl 2 rfl) ?_
                  refine lv_iload hx hb dX7_windBy_110 (lv_at hl 1 rfl) ?_
                  refine lv_bipush (v := 116) hx hb dX7_windBy_112 (by decide) ?_
                  obtain ⟨t_122, hr_121, hr_82⟩ := bnd_ex hr_82
                  have j122 : ∀ (H : Heap) (locs : List Loc) (ls : Array Slot), va_P D vwCl (wld 31 ad (cM ad k M_76)) H → va_S (AW 31 ad) s.heap H locs → lv_has ls 6 [(0, .ref (ad 0)), (1, .int a1), (2, .int a2), (3, .int y_80)] → W p l e rm_X7_windBy s m args below meth c H locs 0 0 Q (F0 m 122 ls [.int t_122, .ref (ad 0)]) := by
                    intro H locs ls hP hS hl
                    refine call_v [.int t_122] [] hx hb hml hG hown hK (c_X7_atom had M_76 t_122 hTM_76.1 (wb_lev hI hWB)) gw_13_6 gm_X7_atom gd_X7_atom rfl rfl ⟨Nat.le_of_ble_eq_true rfl, Nat.le_of_ble_eq_true rfl⟩ ⟨Nat.le_refl _, Nat.le_refl _⟩ (rX7 hK hP) hP (fun _ h => h) hS rfl hl.1 rfl (Nat.le_of_ble_eq_true rfl) dX7_windBy_122 (fun M_125 H locs hF_124 hP hS => ?_)
                    obtain ⟨hF_124, hti_126⟩ := hF_124
                    have hr_82 := bnd_at hr_82 hF_124.symm
                    have hTM_125 : TI M M_125 := TI_tr hTM_76 hti_126
                    have qb_M_125 := hTM_125.1.1
                    have qs_M_125 := hTM_125.1.2.1
                    have qz_M_125 := hTM_125.1.2.2.1
                    refine lv_goto (tgt := 215) hx hb dX7_windBy_125 (by decide) ?_
                    cases hr_82
                    exact j215 _ _ _ hTM_125 ⟨by rw [ey_80]; exact wb_atom (wb_same hI hWB hc_78 (by rw [← ey_79]; exact hc_81) (by rw [← ey_79]; exact hc_83)) hF_124, by have qb := vp_in_iff.mp (wb_in hI hWB hc_78); rw [ey_80, inc_I (N := 100) qb.2 (by decide)]; omega⟩ hP hS (lv_sub hl [0, 1, 2, 3] rfl)
                  refine lv_icmp_ne (tgt := 121) hx hb dX7_windBy_114 (by decide) (fun hc_120 => ?_) (fun hc_120 => ?_)
                  · have hr_121 := ite_t hr_121 hc_120
                    refine lv_iload_n hx hb dX7_windBy_121 rfl (lv_at hl 4 rfl) ?_
                    cases hr_121
                    exact j122 _ _ _ hP hS (lv_sub hl [2, 3, 4, 0] rfl)
                  · have hr_121 := ite_f hr_121 (fun q => q hc_120)
                    refine lv_iload_n hx hb dX7_windBy_117 rfl (lv_at hl 3 rfl) ?_
                    refine lv_goto (tgt := 122) hx hb dX7_windBy_118 (by decide) ?_
                    cases hr_121
                    exact j122 _ _ _ hP hS (lv_sub hl [2, 3, 4, 0] rfl)
            · have hr_82 := ite_f hr_82 (fun q => q hc_83)
              refine lv_aload_n hx hb dX7_windBy_70 rfl (lv_at hl 2 rfl) ?_
              refine call_i [] [] hx hb hml hG hown hK (c_X7_levelSum had M_76 hTM_76.1 (wb_lev hI hWB)) gw_13_2 gm_X7_levelSum gd_X7_levelSum rfl rfl ⟨Nat.le_of_ble_eq_true rfl, Nat.le_of_ble_eq_true rfl⟩ ⟨Nat.le_refl _, Nat.le_refl _⟩ (rX7 hK hP) hP (fun _ h => h) hS rfl hl.1 rfl (Nat.le_of_ble_eq_true rfl) dX7_windBy_71 (fun r_127 u_129 H locs hF_128 hP hS => ?_)
              obtain ⟨hF_128, hu⟩ := hF_128; rw [hu] at hP; subst hF_128
              refine lv_topi (fun y_130 ey_130 => ?_)
              have hr_82 := bnd_at hr_82 ey_130
              refine lv_istore (lv' := [(5, .int y_130), (3, .int y_80), (4, .int y_79), (0, .ref (ad 0)), (1, .int a1), (2, .int a2)]) hx hb dX7_windBy_74 hl (by decide) rfl (fun ls hl => ?_)
              refine lv_aload_n hx hb dX7_windBy_76 rfl (lv_at hl 3 rfl) ?_
              refine lv_dup hx hb dX7_windBy_77 rfl ?_
              refine gX7_27 hx hb hG hown hK hP gw_12_21 dX7_windBy_78 ?_
              refine lv_iconst (v := 1) hx hb dX7_windBy_81 (by decide) ?_
              refine lv_isub hx hb dX7_windBy_82 ?_
              refine pX7_27 hx hb hG hown hK hP had AW_in hS gw_12_21 dX7_windBy_83 (fun H locs hP hS => ?_)
              obtain ⟨M_131, eM_131⟩ : ∃ y : Mem, y = up2 M_76 0 27 ((M_76 0 27) - 1) := ⟨_, rfl⟩
              rw [← eM_131] at hP
              have hr_82 := bnd_at hr_82 eM_131
              have hTM_131 : TI M M_131 := by rw [eM_131]; exact TI_f hTM_76 (by decide)
              have qb_M_131 := hTM_131.1.1
              have qs_M_131 := hTM_131.1.2.1
              have qz_M_131 := hTM_131.1.2.2.1
              refine lv_aload_n hx hb dX7_windBy_86 rfl (lv_at hl 3 rfl) ?_
              refine lv_iload hx hb dX7_windBy_87 (lv_at hl 0 rfl) ?_
              refine call_v [.int y_130] [] hx hb hml hG hown hK (c_X7_atom had M_131 y_130 hTM_131.1 (wb_close hI hWB hc_78 (ey_79.symm.trans hc_83) eM_131).1) gw_13_6 gm_X7_atom gd_X7_atom rfl rfl ⟨Nat.le_of_ble_eq_true rfl, Nat.le_of_ble_eq_true rfl⟩ ⟨Nat.le_refl _, Nat.le_refl _⟩ (rX7 hK hP) hP (fun _ h => h) hS rfl hl.1 rfl (Nat.le_of_ble_eq_true rfl) dX7_windBy_89 (fun M_134 H locs hF_133 hP hS => ?_)
              obtain ⟨hF_133, hti_135⟩ := hF_133
              have hr_82 := bnd_at hr_82 hF_133.symm
              have hTM_134 : TI M M_134 := TI_tr hTM_131 hti_135
              have qb_M_134 := hTM_134.1.1
              have qs_M_134 := hTM_134.1.2.1
              have qz_M_134 := hTM_134.1.2.2.1
              refine lv_goto (tgt := 215) hx hb dX7_windBy_92 (by decide) ?_
              cases hr_82
              exact j215 _ _ _ hTM_134 ⟨by rw [ey_80]; exact (wb_close hI hWB hc_78 (ey_79.symm.trans hc_83) eM_131).2 hF_133, by have qb := vp_in_iff.mp (wb_in hI hWB hc_78); rw [ey_80, inc_I (N := 100) qb.2 (by decide)]; omega⟩ hP hS (lv_sub hl [3, 4, 5, 1] rfl)
          · have hr_82 := ite_f hr_82 (fun q => q hc_81)
            refine lv_aload_n hx hb dX7_windBy_46 rfl (lv_at hl 2 rfl) ?_
            refine lv_dup hx hb dX7_windBy_47 rfl ?_
            refine gX7_27 hx hb hG hown hK hP gw_12_21 dX7_windBy_48 ?_
            refine lv_iconst (v := 1) hx hb dX7_windBy_51 (by decide) ?_
            refine lv_iadd hx hb dX7_windBy_52 ?_
            refine pX7_27 hx hb hG hown hK hP had AW_in hS gw_12_21 dX7_windBy_53 (fun H locs hP hS => ?_)
            obtain ⟨M_136, eM_136⟩ : ∃ y : Mem, y = up2 M_76 0 27 ((M_76 0 27) + 1) := ⟨_, rfl⟩
            rw [← eM_136] at hP
            have hr_82 := bnd_at hr_82 eM_136
            have hTM_136 : TI M M_136 := by rw [eM_136]; exact TI_f hTM_76 (by decide)
            have qb_M_136 := hTM_136.1.1
            have qs_M_136 := hTM_136.1.2.1
            have qz_M_136 := hTM_136.1.2.2.1
            refine lv_aload_n hx hb dX7_windBy_56 rfl (lv_at hl 2 rfl) ?_
            refine call_v [] [] hx hb hml hG hown hK (c_X7_openLevel had M_136 hTM_136.1 (wb_open hI hWB hc_78 (ey_79.symm.trans hc_81) eM_136).1) gw_12_22 gm_X7_openLevel gd_X7_openLevel rfl rfl ⟨Nat.le_of_ble_eq_true rfl, Nat.le_of_ble_eq_true rfl⟩ ⟨Nat.le_refl _, Nat.le_refl _⟩ (rX7 hK hP) hP (fun _ h => h) hS rfl hl.1 rfl (Nat.le_of_ble_eq_true rfl) dX7_windBy_57 (fun M_139 H locs hF_138 hP hS => ?_)
            obtain ⟨hF_138, hti_140⟩ := hF_138
            have hr_82 := bnd_at hr_82 hF_138.symm
            have hTM_139 : TI M M_139 := TI_tr hTM_136 hti_140
            have qb_M_139 := hTM_139.1.1
            have qs_M_139 := hTM_139.1.2.1
            have qz_M_139 := hTM_139.1.2.2.1
            refine lv_goto (tgt := 215) hx hb dX7_windBy_60 (by decide) ?_
            cases hr_82
            exact j215 _ _ _ hTM_139 ⟨by rw [ey_80]; exact (wb_open hI hWB hc_78 (ey_79.symm.trans hc_81) eM_136).2 hF_138, by have qb := vp_in_iff.mp (wb_in hI hWB hc_78); rw [ey_80, inc_I (N := 100) qb.2 (by decide)]; omega⟩ hP hS (lv_sub hl [2, 3, 4, 0] rfl)
    exact lp20 _ _ _ _ _ _ hTM_5 (wb_0 hI (eM_2 ▸ hF_4)) (by decide) hr_77 hP hS (lv_sub hl [1, 2, 3, 0] rfl)
  · have he := ite_f he (fun q => q hc_1)
    refine lv_iconst (v := 0) hx hb dX7_windBy_7 (by decide) ?_
    exact hret _ _ _ _ _ _ ⟨(hV.trans he.symm), hT0⟩ hP hS dX7_windBy_8
def rm_X7_layWinds : Room := { frames := 3, cells := 0, slots := 0, locals := 66 }
theorem gm_X7_layWinds : Cond.instanceMethod yX7_layWinds ∈ wsL_law ∧ Cond.selects RX7 yX7_layWinds yX7_layWinds ∈ wsL_law ∧ Cond.initialized RX7 ∈ wsL_law ∧ Cond.code yX7_layWinds cX7_layWinds 2 none ∈ wsL_law := ⟨gw_22_10, gw_22_11, gw_1_5, gw_22_12⟩
theorem gd_X7_layWinds : yX7_layWinds.cls = RX7 ∧ yX7_layWinds.cls ≠ "java/lang/invoke/MethodHandle" ∧ yX7_layWinds.cls ≠ "java/lang/invoke/VarHandle" ∧ (parseMethodDescriptor yX7_layWinds.desc).map (fun d => d.parameters.length) = some 0 := by decide +kernel
set_option maxRecDepth 100000 in
set_option maxHeartbeats 0 in
theorem c_X7_layWinds {l : Launch} {D : va_G} {k : Nat → ClassId} {ad : Nat → Nat} (had : InjN 31 ad) (M : Mem) (hI : MI M) : Met l yX7_layWinds (Cond.code yX7_layWinds cX7_layWinds 2 none :: wsL_law) rm_X7_layWinds (va_Pc [.ref (ad 0)] (GW 31 ad D k (cM ad k M))) (va_Qv (fun u => (f_X7_layWinds M = u ∧ TI M u)) (fun u t => GW 31 ad D k (cM ad k u) t) (AW 31 ad)) 0 0 (AW 31 ad) := by
  refine met_v (g := cM ad k) (M := M) (plainFor_of_name (by decide)) (Nat.le_of_ble_eq_true rfl) ?_
  intro p e s m args below meth c Q ls hx hb hml hG hown hK hret hP hS hl
  have hl : lv_has ls 2 [(0, .ref (ad 0))] := hl
  obtain ⟨V, hV⟩ : ∃ V, f_X7_layWinds M = V := ⟨_, rfl⟩
  have he := hV
  unfold f_X7_layWinds at he
  have hT0 : TI M M := TI_rf hI
  have qb_M := hI.1
  have qs_M := hI.2.1
  have qz_M := hI.2.2.1
  refine lv_aload_n hx hb dX7_layWinds_0 rfl (lv_at hl 0 rfl) ?_
  refine gX7_29 hx hb hG hown hK hP gw_11_14 dX7_layWinds_1 ?_
  obtain ⟨M_50, hr_2, he⟩ := bnd_ex he
  have j61 : ∀ (H : Heap) (locs : List Loc) (ls : Array Slot), TI M M_50 → va_P D vwCl (wld 31 ad (cM ad k M_50)) H → va_S (AW 31 ad) s.heap H locs → lv_has ls 2 [] → W p l e rm_X7_layWinds s m args below meth c H locs 0 0 Q (F0 m 61 ls []) := by
    intro H locs ls hTM_50 hP hS hl
    have qb_M_50 := hTM_50.1.1
    have qs_M_50 := hTM_50.1.2.1
    have qz_M_50 := hTM_50.1.2.2.1
    exact hret _ _ _ _ _ ⟨(hV.trans he.symm), hTM_50⟩ hP hS dX7_layWinds_61
  refine lv_if_eq (tgt := 18) hx hb dX7_layWinds_4 (by decide) (fun hc_1 => ?_) (fun hc_1 => ?_)
  · have hr_2 := ite_t hr_2 hc_1
    refine lv_iconst (v := 0) hx hb dX7_layWinds_18 (by decide) ?_
    refine lv_istore_n (lv' := [(1, .int 0), (0, .ref (ad 0))]) hx hb dX7_layWinds_19 rfl hl (by decide) rfl (fun ls hl => ?_)
    obtain ⟨M_23, hr_15, hr_2⟩ := bnd_ex hr_2
    have j48 : ∀ (H : Heap) (locs : List Loc) (ls : Array Slot), TI M M_23 → va_P D vwCl (wld 31 ad (cM ad k M_23)) H → va_S (AW 31 ad) s.heap H locs → lv_has ls 2 [(0, .ref (ad 0))] → W p l e rm_X7_layWinds s m args below meth c H locs 0 0 Q (F0 m 48 ls []) := by
      intro H locs ls hTM_23 hP hS hl
      have qb_M_23 := hTM_23.1.1
      have qs_M_23 := hTM_23.1.2.1
      have qz_M_23 := hTM_23.1.2.2.1
      refine lv_aload_n hx hb dX7_layWinds_48 rfl (lv_at hl 0 rfl) ?_
      refine lv_iconst (v := 1) hx hb dX7_layWinds_49 (by decide) ?_
      refine pX7_29 hx hb hG hown hK hP had AW_in hS gw_11_14 (Or.inr rfl)  dX7_layWinds_50 (fun H locs hP hS => ?_)
      obtain ⟨M_24, eM_24⟩ : ∃ y : Mem, y = up2 M_23 0 29 1 := ⟨_, rfl⟩
      rw [← eM_24] at hP
      have hr_2 := bnd_at hr_2 eM_24
      have hTM_24 : TI M M_24 := by rw [eM_24]; exact TI_f hTM_23 (by decide)
      have qb_M_24 := hTM_24.1.1
      have qs_M_24 := hTM_24.1.2.1
      have qz_M_24 := hTM_24.1.2.2.1
      refine lv_aload_n hx hb dX7_layWinds_53 rfl (lv_at hl 0 rfl) ?_
      refine lv_aload_n hx hb dX7_layWinds_54 rfl (lv_at hl 0 rfl) ?_
      refine gX7_4 hx hb hG hown hK hP gw_7_1 dX7_layWinds_55 ?_
      refine pX7_30 hx hb hG hown hK hP had AW_in hS gw_22_13 dX7_layWinds_58 (fun H locs hP hS => ?_)
      obtain ⟨M_25, eM_25⟩ : ∃ y : Mem, y = up2 M_24 0 30 (M_24 0 4) := ⟨_, rfl⟩
      rw [← eM_25] at hP
      have hr_2 := bnd_at hr_2 eM_25
      have hTM_25 : TI M M_25 := by rw [eM_25]; exact TI_f hTM_24 (by decide)
      have qb_M_25 := hTM_25.1.1
      have qs_M_25 := hTM_25.1.2.1
      have qz_M_25 := hTM_25.1.2.2.1
      cases hr_2
      exact j61 _ _ _ hTM_25 hP hS (lv_sub hl [] rfl)
    have lp20 : ∀ (nn : Nat) (H : Heap) (locs : List Loc) (ls : Array Slot) (M_14 : Mem) (v_13 : Int32), (0 ≤ v_13.toInt) → (TI M M_14) → (401 - v_13.toInt).toNat < nn → lp_X7_layWinds_20 nn M_14 v_13 = M_23 → va_P D vwCl (wld 31 ad (cM ad k M_14)) H → va_S (AW 31 ad) s.heap H locs → lv_has ls 2 [(0, .ref (ad 0)), (1, .int v_13)] → W p l e rm_X7_layWinds s m args below meth c H locs 0 0 Q (F0 m 20 ls []) := by
      intro nn
      induction nn with
      | zero =>
        intro H locs ls M_14 v_13 h0v_13 hTM_14 hμ
        exact absurd hμ (Nat.not_lt_zero _)
      | succ nn ih =>
        intro H locs ls M_14 v_13 h0v_13 hTM_14 hμ hr_15 hP hS hl
        rw [lp_X7_layWinds_20] at hr_15
        have qb_M_14 := hTM_14.1.1
        have qs_M_14 := hTM_14.1.2.1
        have qz_M_14 := hTM_14.1.2.2.1
        refine lv_iload_n hx hb dX7_layWinds_20 rfl (lv_at hl 1 rfl) ?_
        refine lv_sipush (v := 400) hx hb dX7_layWinds_21 (by decide) ?_
        refine lv_icmp_gt (tgt := 48) hx hb dX7_layWinds_24 (by decide) (fun hc_16 => ?_) (fun hc_16 => ?_)
        · have hr_15 := ite_t hr_15 hc_16
          cases hr_15
          exact j48 _ _ _ hTM_14 hP hS (lv_sub hl [0] rfl)
        · have hr_15 := ite_f hr_15 hc_16
          refine lv_aload_n hx hb dX7_layWinds_27 rfl (lv_at hl 0 rfl) ?_
          refine gX7_28 hx hb hG hown hK hP gw_5_5 dX7_layWinds_28 ?_
          refine lv_iload_n hx hb dX7_layWinds_31 rfl (lv_at hl 1 rfl) ?_
          refine lv_aload_n hx hb dX7_layWinds_32 rfl (lv_at hl 0 rfl) ?_
          refine lv_iload_n hx hb dX7_layWinds_33 rfl (lv_at hl 1 rfl) ?_
          refine lv_aload_n hx hb dX7_layWinds_34 rfl (lv_at hl 0 rfl) ?_
          refine gX7_4 hx hb hG hown hK hP gw_7_1 dX7_layWinds_35 ?_
          refine call_i [.int v_13, .int (M_14 0 4)] [.int v_13, .ref (ad 17)] hx hb hml hG hown hK (c_X7_windBy had M_14 v_13 (M_14 0 4) hTM_14.1) gw_12_17 gm_X7_windBy gd_X7_windBy rfl rfl ⟨Nat.le_of_ble_eq_true rfl, Nat.le_of_ble_eq_true rfl⟩ ⟨Nat.le_refl _, Nat.le_refl _⟩ (rX7 hK hP) hP (fun _ h => h) hS rfl hl.1 rfl (Nat.le_of_ble_eq_true rfl) dX7_layWinds_38 (fun r_17 M_19 H locs hF_18 hP hS => ?_)
          obtain ⟨hF_18, hti_20⟩ := hF_18
          have hr_15 := bnd2_at hr_15 hF_18
          have hTM_19 : TI M M_19 := TI_tr hTM_14 hti_20
          have qb_M_19 := hTM_19.1.1
          have qs_M_19 := hTM_19.1.2.1
          have qz_M_19 := hTM_19.1.2.2.1
          refine as_M17 hx hb hK hP had AW_in hS (vin_I (by have q0 : v_13.toInt ≤ 400 := nlt_I hc_16; omega) (by have q0 : v_13.toInt ≤ 400 := nlt_I hc_16; omega)) dX7_layWinds_41 (fun H locs hP hS => ?_)
          obtain ⟨M_21, eM_21⟩ : ∃ y : Mem, y = up2 M_19 17 v_13.toNatClampNeg r_17 := ⟨_, rfl⟩
          rw [← eM_21] at hP
          have hr_15 := bnd_at hr_15 eM_21
          have hTM_21 : TI M M_21 := by rw [eM_21]; exact TI_a hTM_19 (by decide)
          have qb_M_21 := hTM_21.1.1
          have qs_M_21 := hTM_21.1.2.1
          have qz_M_21 := hTM_21.1.2.2.1
          obtain ⟨y_22, ey_22⟩ : ∃ y_22 : Int32, y_22 = v_13 + 1 := ⟨_, rfl⟩
          have hr_15 := bnd_at hr_15 ey_22
          refine lv_iinc (v := y_22) (lv' := [(1, .int y_22), (0, .ref (ad 0))]) hx hb dX7_layWinds_42 hl (k := 1) rfl (by rw [ey_22]; rfl) (by decide) rfl (fun ls hl => ?_)
          refine lv_goto (tgt := 20) hx hb dX7_layWinds_45 (by decide) ?_
          exact ih _ _ _ _ _ (by rw [ey_22, inc_I (N := 401) (Int.lt_add_one_of_le (nlt_I hc_16)) (by decide)]; omega) hTM_21 (by rw [ey_22]; exact mu_I hμ (Int.lt_add_one_of_le (nlt_I hc_16)) (by decide)) hr_15 hP hS (lv_sub hl [1, 0] rfl)
    exact lp20 _ _ _ _ _ _ (by decide) hT0 (by decide) hr_15 hP hS (lv_sub hl [1, 0] rfl)
  · have hr_2 := ite_f hr_2 hc_1
    refine lv_aload_n hx hb dX7_layWinds_7 rfl (lv_at hl 0 rfl) ?_
    refine gX7_30 hx hb hG hown hK hP gw_22_13 dX7_layWinds_8 ?_
    refine lv_aload_n hx hb dX7_layWinds_11 rfl (lv_at hl 0 rfl) ?_
    refine gX7_4 hx hb hG hown hK hP gw_7_1 dX7_layWinds_12 ?_
    refine lv_icmp_eq (tgt := 61) hx hb dX7_layWinds_15 (by decide) (fun hc_26 => ?_) (fun hc_26 => ?_)
    · have hr_2 := ite_t hr_2 hc_26
      cases hr_2
      exact j61 _ _ _ hT0 hP hS (lv_sub hl [] rfl)
    · have hr_2 := ite_f hr_2 hc_26
      refine lv_iconst (v := 0) hx hb dX7_layWinds_18 (by decide) ?_
      refine lv_istore_n (lv' := [(1, .int 0), (0, .ref (ad 0))]) hx hb dX7_layWinds_19 rfl hl (by decide) rfl (fun ls hl => ?_)
      obtain ⟨M_47, hr_39, hr_2⟩ := bnd_ex hr_2
      have j48 : ∀ (H : Heap) (locs : List Loc) (ls : Array Slot), TI M M_47 → va_P D vwCl (wld 31 ad (cM ad k M_47)) H → va_S (AW 31 ad) s.heap H locs → lv_has ls 2 [(0, .ref (ad 0))] → W p l e rm_X7_layWinds s m args below meth c H locs 0 0 Q (F0 m 48 ls []) := by
        intro H locs ls hTM_47 hP hS hl
        have qb_M_47 := hTM_47.1.1
        have qs_M_47 := hTM_47.1.2.1
        have qz_M_47 := hTM_47.1.2.2.1
        refine lv_aload_n hx hb dX7_layWinds_48 rfl (lv_at hl 0 rfl) ?_
        refine lv_iconst (v := 1) hx hb dX7_layWinds_49 (by decide) ?_
        refine pX7_29 hx hb hG hown hK hP had AW_in hS gw_11_14 (Or.inr rfl)  dX7_layWinds_50 (fun H locs hP hS => ?_)
        obtain ⟨M_48, eM_48⟩ : ∃ y : Mem, y = up2 M_47 0 29 1 := ⟨_, rfl⟩
        rw [← eM_48] at hP
        have hr_2 := bnd_at hr_2 eM_48
        have hTM_48 : TI M M_48 := by rw [eM_48]; exact TI_f hTM_47 (by decide)
        have qb_M_48 := hTM_48.1.1
        have qs_M_48 := hTM_48.1.2.1
        have qz_M_48 := hTM_48.1.2.2.1
        refine lv_aload_n hx hb dX7_layWinds_53 rfl (lv_at hl 0 rfl) ?_
        refine lv_aload_n hx hb dX7_layWinds_54 rfl (lv_at hl 0 rfl) ?_
        refine gX7_4 hx hb hG hown hK hP gw_7_1 dX7_layWinds_55 ?_
        refine pX7_30 hx hb hG hown hK hP had AW_in hS gw_22_13 dX7_layWinds_58 (fun H locs hP hS => ?_)
        obtain ⟨M_49, eM_49⟩ : ∃ y : Mem, y = up2 M_48 0 30 (M_48 0 4) := ⟨_, rfl⟩
        rw [← eM_49] at hP
        have hr_2 := bnd_at hr_2 eM_49
        have hTM_49 : TI M M_49 := by rw [eM_49]; exact TI_f hTM_48 (by decide)
        have qb_M_49 := hTM_49.1.1
        have qs_M_49 := hTM_49.1.2.1
        have qz_M_49 := hTM_49.1.2.2.1
        cases hr_2
        exact j61 _ _ _ hTM_49 hP hS (lv_sub hl [] rfl)
      have lp20 : ∀ (nn : Nat) (H : Heap) (locs : List Loc) (ls : Array Slot) (M_38 : Mem) (v_37 : Int32), (0 ≤ v_37.toInt) → (TI M M_38) → (401 - v_37.toInt).toNat < nn → lp_X7_layWinds_20' nn M_38 v_37 = M_47 → va_P D vwCl (wld 31 ad (cM ad k M_38)) H → va_S (AW 31 ad) s.heap H locs → lv_has ls 2 [(0, .ref (ad 0)), (1, .int v_37)] → W p l e rm_X7_layWinds s m args below meth c H locs 0 0 Q (F0 m 20 ls []) := by
        intro nn
        induction nn with
        | zero =>
          intro H locs ls M_38 v_37 h0v_37 hTM_38 hμ
          exact absurd hμ (Nat.not_lt_zero _)
        | succ nn ih =>
          intro H locs ls M_38 v_37 h0v_37 hTM_38 hμ hr_39 hP hS hl
          rw [lp_X7_layWinds_20'] at hr_39
          have qb_M_38 := hTM_38.1.1
          have qs_M_38 := hTM_38.1.2.1
          have qz_M_38 := hTM_38.1.2.2.1
          refine lv_iload_n hx hb dX7_layWinds_20 rfl (lv_at hl 1 rfl) ?_
          refine lv_sipush (v := 400) hx hb dX7_layWinds_21 (by decide) ?_
          refine lv_icmp_gt (tgt := 48) hx hb dX7_layWinds_24 (by decide) (fun hc_40 => ?_) (fun hc_40 => ?_)
          · have hr_39 := ite_t hr_39 hc_40
            cases hr_39
            exact j48 _ _ _ hTM_38 hP hS (lv_sub hl [0] rfl)
          · have hr_39 := ite_f hr_39 hc_40
            refine lv_aload_n hx hb dX7_layWinds_27 rfl (lv_at hl 0 rfl) ?_
            refine gX7_28 hx hb hG hown hK hP gw_5_5 dX7_layWinds_28 ?_
            refine lv_iload_n hx hb dX7_layWinds_31 rfl (lv_at hl 1 rfl) ?_
            refine lv_aload_n hx hb dX7_layWinds_32 rfl (lv_at hl 0 rfl) ?_
            refine lv_iload_n hx hb dX7_layWinds_33 rfl (lv_at hl 1 rfl) ?_
            refine lv_aload_n hx hb dX7_layWinds_34 rfl (lv_at hl 0 rfl) ?_
            refine gX7_4 hx hb hG hown hK hP gw_7_1 dX7_layWinds_35 ?_
            refine call_i [.int v_37, .int (M_38 0 4)] [.int v_37, .ref (ad 17)] hx hb hml hG hown hK (c_X7_windBy had M_38 v_37 (M_38 0 4) hTM_38.1) gw_12_17 gm_X7_windBy gd_X7_windBy rfl rfl ⟨Nat.le_of_ble_eq_true rfl, Nat.le_of_ble_eq_true rfl⟩ ⟨Nat.le_refl _, Nat.le_refl _⟩ (rX7 hK hP) hP (fun _ h => h) hS rfl hl.1 rfl (Nat.le_of_ble_eq_true rfl) dX7_layWinds_38 (fun r_41 M_43 H locs hF_42 hP hS => ?_)
            obtain ⟨hF_42, hti_44⟩ := hF_42
            have hr_39 := bnd2_at hr_39 hF_42
            have hTM_43 : TI M M_43 := TI_tr hTM_38 hti_44
            have qb_M_43 := hTM_43.1.1
            have qs_M_43 := hTM_43.1.2.1
            have qz_M_43 := hTM_43.1.2.2.1
            refine as_M17 hx hb hK hP had AW_in hS (vin_I (by have q0 : v_37.toInt ≤ 400 := nlt_I hc_40; omega) (by have q0 : v_37.toInt ≤ 400 := nlt_I hc_40; omega)) dX7_layWinds_41 (fun H locs hP hS => ?_)
            obtain ⟨M_45, eM_45⟩ : ∃ y : Mem, y = up2 M_43 17 v_37.toNatClampNeg r_41 := ⟨_, rfl⟩
            rw [← eM_45] at hP
            have hr_39 := bnd_at hr_39 eM_45
            have hTM_45 : TI M M_45 := by rw [eM_45]; exact TI_a hTM_43 (by decide)
            have qb_M_45 := hTM_45.1.1
            have qs_M_45 := hTM_45.1.2.1
            have qz_M_45 := hTM_45.1.2.2.1
            obtain ⟨y_46, ey_46⟩ : ∃ y_46 : Int32, y_46 = v_37 + 1 := ⟨_, rfl⟩
            have hr_39 := bnd_at hr_39 ey_46
            refine lv_iinc (v := y_46) (lv' := [(1, .int y_46), (0, .ref (ad 0))]) hx hb dX7_layWinds_42 hl (k := 1) rfl (by rw [ey_46]; rfl) (by decide) rfl (fun ls hl => ?_)
            refine lv_goto (tgt := 20) hx hb dX7_layWinds_45 (by decide) ?_
            exact ih _ _ _ _ _ (by rw [ey_46, inc_I (N := 401) (Int.lt_add_one_of_le (nlt_I hc_40)) (by decide)]; omega) hTM_45 (by rw [ey_46]; exact mu_I hμ (Int.lt_add_one_of_le (nlt_I hc_40)) (by decide)) hr_39 hP hS (lv_sub hl [1, 0] rfl)
      exact lp20 _ _ _ _ _ _ (by decide) hT0 (by decide) hr_39 hP hS (lv_sub hl [1, 0] rfl)
def rm_X7_isIn : Room := { frames := 0, cells := 0, slots := 0, locals := 0 }
theorem gm_X7_isIn : Cond.instanceMethod yX7_isIn ∈ wsL_law ∧ Cond.selects RX7 yX7_isIn yX7_isIn ∈ wsL_law ∧ Cond.initialized RX7 ∈ wsL_law ∧ Cond.code yX7_isIn cX7_isIn 2 (some .boolean) ∈ wsL_law := ⟨gw_18_1, gw_18_2, gw_1_5, gw_18_3⟩
theorem gd_X7_isIn : yX7_isIn.cls = RX7 ∧ yX7_isIn.cls ≠ "java/lang/invoke/MethodHandle" ∧ yX7_isIn.cls ≠ "java/lang/invoke/VarHandle" ∧ (parseMethodDescriptor yX7_isIn.desc).map (fun d => d.parameters.length) = some 1 := by decide +kernel
set_option maxRecDepth 100000 in
set_option maxHeartbeats 0 in
theorem c_X7_isIn {l : Launch} {D : va_G} {k : Nat → ClassId} {ad : Nat → Nat} (had : InjN 31 ad) (M : Mem) (a1 : Int32) (hI : MI M) (hbx : 0 ≤ a1.toInt ∧ a1.toInt < 4) : Met l yX7_isIn (Cond.code yX7_isIn cX7_isIn 2 (some .boolean) :: wsL_law) rm_X7_isIn (va_Pc [.ref (ad 0), .int a1] (GW 31 ad D k (cM ad k M))) (va_Qi (fun r u => (r = 0 ∨ r = 1) ∧ f_X7_isIn M a1 = r ∧ u = M) (fun u t => GW 31 ad D k (cM ad k u) t) (AW 31 ad)) 0 0 (AW 31 ad) := by
  refine met_z (g := cM ad k) (M := M) (plainFor_of_name (by decide)) (Nat.le_of_ble_eq_true rfl) ?_
  intro p e s m args below meth c Q ls hx hb hml hG hown hK hret hP hS hl
  have hl : lv_has ls 2 [(0, .ref (ad 0)), (1, .int a1)] := hl
  obtain ⟨V, hV⟩ : ∃ V, f_X7_isIn M a1 = V := ⟨_, rfl⟩
  have he := hV
  unfold f_X7_isIn at he
  have hT0 : TI M M := TI_rf hI
  have qb_M := hI.1
  have qs_M := hI.2.1
  have qz_M := hI.2.2.1
  refine lv_aload_n hx hb dX7_isIn_0 rfl (lv_at hl 0 rfl) ?_
  refine gX7_17 hx hb hG hown hK hP gw_4_22 dX7_isIn_1 ?_
  refine lv_iload_n hx hb dX7_isIn_4 rfl (lv_at hl 1 rfl) ?_
  refine al_M10 hx hb hK hP (vin_I (by omega) (by omega)) dX7_isIn_5 ?_
  obtain ⟨t_3, hr_2, he⟩ := bnd_ex he
  have j14 : ∀ (H : Heap) (locs : List Loc) (ls : Array Slot), (t_3 = 0 ∨ t_3 = 1) → va_P D vwCl (wld 31 ad (cM ad k M)) H → va_S (AW 31 ad) s.heap H locs → lv_has ls 2 [] → W p l e rm_X7_isIn s m args below meth c H locs 0 0 Q (F0 m 14 ls [.int t_3]) := by
    intro H locs ls zt_3 hP hS hl
    exact hret _ _ _ _ _ _ ⟨zt_3, (hV.trans he.symm), rfl⟩ (nz01 zt_3) hP hS dX7_isIn_14
  refine lv_if_lt (tgt := 13) hx hb dX7_isIn_6 (by decide) (fun hc_1 => ?_) (fun hc_1 => ?_)
  · have hr_2 := ite_t hr_2 hc_1
    refine lv_iconst (v := 0) hx hb dX7_isIn_13 (by decide) ?_
    cases hr_2
    exact j14 _ _ _ (Or.inl rfl) hP hS (lv_sub hl [] rfl)
  · have hr_2 := ite_f hr_2 hc_1
    refine lv_iconst (v := 1) hx hb dX7_isIn_9 (by decide) ?_
    refine lv_goto (tgt := 14) hx hb dX7_isIn_10 (by decide) ?_
    cases hr_2
    exact j14 _ _ _ (Or.inr rfl) hP hS (lv_sub hl [] rfl)
def rm_X7_isAtDist : Room := { frames := 0, cells := 0, slots := 0, locals := 0 }
theorem gm_X7_isAtDist : Cond.instanceMethod yX7_isAtDist ∈ wsL_law ∧ Cond.selects RX7 yX7_isAtDist yX7_isAtDist ∈ wsL_law ∧ Cond.initialized RX7 ∈ wsL_law ∧ Cond.code yX7_isAtDist cX7_isAtDist 2 (some .boolean) ∈ wsL_law := ⟨gw_23_3, gw_23_4, gw_1_5, gw_23_5⟩
theorem gd_X7_isAtDist : yX7_isAtDist.cls = RX7 ∧ yX7_isAtDist.cls ≠ "java/lang/invoke/MethodHandle" ∧ yX7_isAtDist.cls ≠ "java/lang/invoke/VarHandle" ∧ (parseMethodDescriptor yX7_isAtDist.desc).map (fun d => d.parameters.length) = some 1 := by decide +kernel
set_option maxRecDepth 100000 in
set_option maxHeartbeats 0 in
theorem c_X7_isAtDist {l : Launch} {D : va_G} {k : Nat → ClassId} {ad : Nat → Nat} (had : InjN 31 ad) (M : Mem) (a1 : Int32) (hI : MI M) (hbx : 0 ≤ a1.toInt ∧ a1.toInt < 4) : Met l yX7_isAtDist (Cond.code yX7_isAtDist cX7_isAtDist 2 (some .boolean) :: wsL_law) rm_X7_isAtDist (va_Pc [.ref (ad 0), .int a1] (GW 31 ad D k (cM ad k M))) (va_Qi (fun r u => (r = 0 ∨ r = 1) ∧ f_X7_isAtDist M a1 = r ∧ u = M) (fun u t => GW 31 ad D k (cM ad k u) t) (AW 31 ad)) 0 0 (AW 31 ad) := by
  refine met_z (g := cM ad k) (M := M) (plainFor_of_name (by decide)) (Nat.le_of_ble_eq_true rfl) ?_
  intro p e s m args below meth c Q ls hx hb hml hG hown hK hret hP hS hl
  have hl : lv_has ls 2 [(0, .ref (ad 0)), (1, .int a1)] := hl
  obtain ⟨V, hV⟩ : ∃ V, f_X7_isAtDist M a1 = V := ⟨_, rfl⟩
  have he := hV
  unfold f_X7_isAtDist at he
  have hT0 : TI M M := TI_rf hI
  have qb_M := hI.1
  have qs_M := hI.2.1
  have qz_M := hI.2.2.1
  refine lv_aload_n hx hb dX7_isAtDist_0 rfl (lv_at hl 0 rfl) ?_
  refine gX7_14 hx hb hG hown hK hP gw_4_19 dX7_isAtDist_1 ?_
  refine lv_iload_n hx hb dX7_isAtDist_4 rfl (lv_at hl 1 rfl) ?_
  refine al_M7 hx hb hK hP (vin_I (by omega) (by omega)) dX7_isAtDist_5 ?_
  refine lv_aload_n hx hb dX7_isAtDist_6 rfl (lv_at hl 0 rfl) ?_
  refine gX7_0 hx hb hG hown hK hP gw_4_10 dX7_isAtDist_7 ?_
  obtain ⟨t_3, hr_2, he⟩ := bnd_ex he
  have j18 : ∀ (H : Heap) (locs : List Loc) (ls : Array Slot), (t_3 = 0 ∨ t_3 = 1) → va_P D vwCl (wld 31 ad (cM ad k M)) H → va_S (AW 31 ad) s.heap H locs → lv_has ls 2 [] → W p l e rm_X7_isAtDist s m args below meth c H locs 0 0 Q (F0 m 18 ls [.int t_3]) := by
    intro H locs ls zt_3 hP hS hl
    exact hret _ _ _ _ _ _ ⟨zt_3, (hV.trans he.symm), rfl⟩ (nz01 zt_3) hP hS dX7_isAtDist_18
  refine lv_icmp_lt (tgt := 17) hx hb dX7_isAtDist_10 (by decide) (fun hc_1 => ?_) (fun hc_1 => ?_)
  · have hr_2 := ite_t hr_2 hc_1
    refine lv_iconst (v := 0) hx hb dX7_isAtDist_17 (by decide) ?_
    cases hr_2
    exact j18 _ _ _ (Or.inl rfl) hP hS (lv_sub hl [] rfl)
  · have hr_2 := ite_f hr_2 hc_1
    refine lv_iconst (v := 1) hx hb dX7_isAtDist_13 (by decide) ?_
    refine lv_goto (tgt := 18) hx hb dX7_isAtDist_14 (by decide) ?_
    cases hr_2
    exact j18 _ _ _ (Or.inr rfl) hP hS (lv_sub hl [] rfl)
