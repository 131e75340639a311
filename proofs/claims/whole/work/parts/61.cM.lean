-- @needs 12_dec 13_dec 14_dec 15_dec 37_fault 60_cM
def rm_X7_faultOf : Room := { frames := 1, cells := 0, slots := 0, locals := 25 }
theorem gm_X7_faultOf : Cond.instanceMethod yX7_faultOf ∈ wsL_law ∧ Cond.selects RX7 yX7_faultOf yX7_faultOf ∈ wsL_law ∧ Cond.initialized RX7 ∈ wsL_law ∧ Cond.code yX7_faultOf cX7_faultOf 9 (some .int) ∈ wsL_law := ⟨gw_9_18, gw_9_19, gw_1_5, gw_9_20⟩
theorem gd_X7_faultOf : yX7_faultOf.cls = RX7 ∧ yX7_faultOf.cls ≠ "java/lang/invoke/MethodHandle" ∧ yX7_faultOf.cls ≠ "java/lang/invoke/VarHandle" ∧ (parseMethodDescriptor yX7_faultOf.desc).map (fun d => d.parameters.length) = some 0 := by decide +kernel
set_option maxRecDepth 100000 in
set_option maxHeartbeats 0 in
theorem c_X7_faultOf {l : Launch} {D : va_G} {k : Nat → ClassId} {ad : Nat → Nat} (had : InjN 31 ad) (M : Mem) (hI : MI M) : Met l yX7_faultOf (Cond.code yX7_faultOf cX7_faultOf 9 (some .int) :: wsL_law) rm_X7_faultOf (va_Pc [.ref (ad 0)] (GW 31 ad D k (cM ad k M))) (va_Qi (fun r u => (f_X7_faultOf M = (r, u) ∧ TI M u)) (fun u t => GW 31 ad D k (cM ad k u) t) (AW 31 ad)) 0 0 (AW 31 ad) := by
  refine met_i (g := cM ad k) (M := M) (plainFor_of_name (by decide)) (Nat.le_of_ble_eq_true rfl) ?_
  intro p e s m args below meth c Q ls hx hb hml hG hown hK hret hP hS hl
  have hl : lv_has ls 9 [(0, .ref (ad 0))] := hl
  obtain ⟨V, hV⟩ : ∃ V, f_X7_faultOf M = V := ⟨_, rfl⟩
  have he := hV
  unfold f_X7_faultOf at he
  have hT0 : TI M M := TI_rf hI
  have qb_M := hI.1
  have qs_M := hI.2.1
  have qz_M := hI.2.2.1
  refine lv_iconst (v := 1) hx hb dX7_faultOf_0 (by decide) ?_
  refine lv_istore_n (lv' := [(1, .int 1), (0, .ref (ad 0))]) hx hb dX7_faultOf_1 rfl hl (by decide) rfl (fun ls hl => ?_)
  refine lv_iconst (v := 0) hx hb dX7_faultOf_2 (by decide) ?_
  refine lv_istore_n (lv' := [(2, .int 0), (1, .int 1), (0, .ref (ad 0))]) hx hb dX7_faultOf_3 rfl hl (by decide) rfl (fun ls hl => ?_)
  refine lv_iconst (v := 0) hx hb dX7_faultOf_4 (by decide) ?_
  refine lv_istore_n (lv' := [(3, .int 0), (2, .int 0), (1, .int 1), (0, .ref (ad 0))]) hx hb dX7_faultOf_5 rfl hl (by decide) rfl (fun ls hl => ?_)
  refine lv_aload_n hx hb dX7_faultOf_6 rfl (lv_at hl 3 rfl) ?_
  refine lv_iconst (v := 0) hx hb dX7_faultOf_7 (by decide) ?_
  refine pX7_22 hx hb hG hown hK hP had AW_in hS gw_9_21 dX7_faultOf_8 (fun H locs hP hS => ?_)
  obtain ⟨M_1, eM_1⟩ : ∃ y : Mem, y = up2 M 0 22 0 := ⟨_, rfl⟩
  rw [← eM_1] at hP
  have he := bnd_at he eM_1
  have hTM_1 : TI M M_1 := by rw [eM_1]; exact TI_f hT0 (by decide)
  have qb_M_1 := hTM_1.1.1
  have qs_M_1 := hTM_1.1.2.1
  have qz_M_1 := hTM_1.1.2.2.1
  refine lv_iconst (v := 0) hx hb dX7_faultOf_11 (by decide) ?_
  refine lv_istore (lv' := [(4, .int 0), (3, .int 0), (2, .int 0), (1, .int 1), (0, .ref (ad 0))]) hx hb dX7_faultOf_12 hl (by decide) rfl (fun ls hl => ?_)
  have lp14 : ∀ (nn : Nat) (H : Heap) (locs : List Loc) (ls : Array Slot) (M_167 : Mem) (v_163 : Int32) (v_164 : Int32) (v_165 : Int32) (v_166 : Int32), (v_163 = 0 ∨ v_163 = 1) → (0 ≤ v_166.toInt) → (TI M M_167) → (v_164 = 0 ∨ 1 ≤ v_166.toInt) → (100 - v_166.toInt).toNat < nn → lp_X7_faultOf_14 nn M_167 v_163 v_164 v_165 v_166 = V → va_P D vwCl (wld 31 ad (cM ad k M_167)) H → va_S (AW 31 ad) s.heap H locs → lv_has ls 9 [(0, .ref (ad 0)), (1, .int v_163), (2, .int v_164), (3, .int v_165), (4, .int v_166)] → W p l e rm_X7_faultOf s m args below meth c H locs 0 0 Q (F0 m 14 ls []) := by
    intro nn
    induction nn with
    | zero =>
      intro H locs ls M_167 v_163 v_164 v_165 v_166 zv_163 h0v_166 hTM_167 hin hμ
      exact absurd hμ (Nat.not_lt_zero _)
    | succ nn ih =>
      intro H locs ls M_167 v_163 v_164 v_165 v_166 zv_163 h0v_166 hTM_167 hin hμ he hP hS hl
      rw [lp_X7_faultOf_14] at he
      have qb_M_167 := hTM_167.1.1
      have qs_M_167 := hTM_167.1.2.1
      have qz_M_167 := hTM_167.1.2.2.1
      refine lv_iload hx hb dX7_faultOf_14 (lv_at hl 4 rfl) ?_
      refine lv_aload_n hx hb dX7_faultOf_16 rfl (lv_at hl 0 rfl) ?_
      refine gX7_21 hx hb hG hown hK hP gw_9_16 dX7_faultOf_17 ?_
      refine lv_icmp_ge (tgt := 285) hx hb dX7_faultOf_20 (by decide) (fun hc_168 => ?_) (fun hc_168 => ?_)
      · have he := ite_t he hc_168
        refine lv_iload_n hx hb dX7_faultOf_285 rfl (lv_at hl 1 rfl) ?_
        obtain ⟨t_172, hr_170, he⟩ := bnd_ex he
        have j302 : ∀ (H : Heap) (locs : List Loc) (ls : Array Slot), va_P D vwCl (wld 31 ad (cM ad k M_167)) H → va_S (AW 31 ad) s.heap H locs → lv_has ls 9 [] → W p l e rm_X7_faultOf s m args below meth c H locs 0 0 Q (F0 m 302 ls [.int t_172]) := by
          intro H locs ls hP hS hl
          exact hret _ _ _ _ _ _ ⟨(hV.trans he.symm), hTM_167⟩ hP hS dX7_faultOf_302
        refine lv_if_ne (tgt := 293) hx hb dX7_faultOf_286 (by decide) (fun hc_169 => ?_) (fun hc_169 => ?_)
        · have hr_170 := ite_t hr_170 hc_169
          refine lv_aload_n hx hb dX7_faultOf_293 rfl (lv_at hl 0 rfl) ?_
          refine gX7_21 hx hb hG hown hK hP gw_9_16 dX7_faultOf_294 ?_
          refine lv_goto (tgt := 302) hx hb dX7_faultOf_297 (by decide) ?_
          cases hr_170
          exact j302 _ _ _ hP hS (lv_sub hl [] rfl)
        · have hr_170 := ite_f hr_170 (fun q => q hc_169)
          refine lv_iload_n hx hb dX7_faultOf_289 rfl (lv_at hl 3 rfl) ?_
          refine lv_if_le (tgt := 300) hx hb dX7_faultOf_290 (by decide) (fun hc_171 => ?_) (fun hc_171 => ?_)
          · have hr_170 := ite_t hr_170 hc_171
            refine lv_bipush (v := (-4)) hx hb dX7_faultOf_300 (by decide) ?_
            cases hr_170
            exact j302 _ _ _ hP hS (lv_sub hl [] rfl)
          · have hr_170 := ite_f hr_170 hc_171
            refine lv_aload_n hx hb dX7_faultOf_293 rfl (lv_at hl 0 rfl) ?_
            refine gX7_21 hx hb hG hown hK hP gw_9_16 dX7_faultOf_294 ?_
            refine lv_goto (tgt := 302) hx hb dX7_faultOf_297 (by decide) ?_
            cases hr_170
            exact j302 _ _ _ hP hS (lv_sub hl [] rfl)
      · have he := ite_f he hc_168
        refine lv_aload_n hx hb dX7_faultOf_23 rfl (lv_at hl 0 rfl) ?_
        refine gX7_20 hx hb hG hown hK hP gw_5_0 dX7_faultOf_24 ?_
        refine lv_iload hx hb dX7_faultOf_27 (lv_at hl 4 rfl) ?_
        refine al_M12 hx hb hK hP (vin_I (by have q0 : v_166.toInt < (M_167 0 21).toInt := nle_I hc_168; omega) (by have q0 : v_166.toInt < (M_167 0 21).toInt := nle_I hc_168; omega)) dX7_faultOf_29 ?_
        refine lv_topi (fun y_173 ey_173 => ?_)
        have he := bnd_at he ey_173
        refine lv_istore (lv' := [(5, .int y_173), (0, .ref (ad 0)), (1, .int v_163), (2, .int v_164), (3, .int v_165), (4, .int v_166)]) hx hb dX7_faultOf_30 hl (by decide) rfl (fun ls hl => ?_)
        refine lv_iload hx hb dX7_faultOf_32 (lv_at hl 0 rfl) ?_
        refine lv_i2l (v := y_173.toInt64) hx hb dX7_faultOf_34 rfl ?_
        refine lv_ldc2 (v := 48) hx hb hown (hG _ gw_9_22) dX7_faultOf_35 ?_
        refine lv_ldc2 (v := 57) hx hb hown (hG _ gw_9_23) dX7_faultOf_38 ?_
        refine callS_i [.long y_173.toInt64, .long 48, .long 57] [] hx hb hml hG hown hK (c_X7_in had (M := M_167)  y_173.toInt64 48 57) gw_7_2 gm_X7_in gd_X7_in rfl rfl ⟨Nat.le_of_ble_eq_true rfl, Nat.le_of_ble_eq_true rfl⟩ ⟨Nat.le_refl _, Nat.le_refl _⟩ hP (fun _ h => h) hS rfl hl.1 rfl (Nat.le_of_ble_eq_true rfl) dX7_faultOf_41 (fun r_174 u_176 H locs hF_175 hP hS => ?_)
        obtain ⟨hz_177, hF_175, hu⟩ := hF_175; rw [hu] at hP; subst hF_175
        refine lv_topi (fun y_178 ey_178 => ?_)
        have he := bnd_at he ey_178
        refine lv_istore (lv' := [(6, .int y_178), (5, .int y_173), (0, .ref (ad 0)), (1, .int v_163), (2, .int v_164), (3, .int v_165), (4, .int v_166)]) hx hb dX7_faultOf_44 hl (by decide) rfl (fun ls hl => ?_)
        refine lv_iload hx hb dX7_faultOf_46 (lv_at hl 0 rfl) ?_
        refine lv_if_eq (tgt := 101) hx hb dX7_faultOf_48 (by decide) (fun hc_179 => ?_) (fun hc_179 => ?_)
        · have he := ite_t he hc_179
          refine lv_iload_n hx hb dX7_faultOf_101 rfl (lv_at hl 3 rfl) ?_
          refine lv_if_eq (tgt := 188) hx hb dX7_faultOf_102 (by decide) (fun hc_180 => ?_) (fun hc_180 => ?_)
          · have he := ite_t he hc_180
            refine lv_iload hx hb dX7_faultOf_188 (lv_at hl 1 rfl) ?_
            refine lv_bipush (v := 41) hx hb dX7_faultOf_190 (by decide) ?_
            obtain ⟨t_184, hr_182, he⟩ := bnd_ex he
            have j204 : ∀ (H : Heap) (locs : List Loc) (ls : Array Slot), (t_184 = 0 ∨ t_184 = 1) → va_P D vwCl (wld 31 ad (cM ad k M_167)) H → va_S (AW 31 ad) s.heap H locs → lv_has ls 9 [(0, .ref (ad 0)), (3, .int v_165), (4, .int v_166), (5, .int y_173)] → W p l e rm_X7_faultOf s m args below meth c H locs 0 0 Q (F0 m 204 ls [.int t_184]) := by
              intro H locs ls zt_184 hP hS hl
              refine lv_istore (lv' := [(7, .int t_184), (0, .ref (ad 0)), (3, .int v_165), (4, .int v_166), (5, .int y_173)]) hx hb dX7_faultOf_204 hl (by decide) rfl (fun ls hl => ?_)
              refine lv_iload hx hb dX7_faultOf_206 (lv_at hl 4 rfl) ?_
              refine lv_bipush (v := 43) hx hb dX7_faultOf_208 (by decide) ?_
              obtain ⟨t_191, hr_186, he⟩ := bnd_ex he
              have j246 : ∀ (H : Heap) (locs : List Loc) (ls : Array Slot), (t_191 = 0 ∨ t_191 = 1) → va_P D vwCl (wld 31 ad (cM ad k M_167)) H → va_S (AW 31 ad) s.heap H locs → lv_has ls 9 [(0, .ref (ad 0)), (3, .int v_165), (4, .int v_166), (7, .int t_184)] → W p l e rm_X7_faultOf s m args below meth c H locs 0 0 Q (F0 m 246 ls [.int t_191]) := by
                intro H locs ls zt_191 hP hS hl
                refine lv_istore (lv' := [(8, .int t_191), (0, .ref (ad 0)), (3, .int v_165), (4, .int v_166), (7, .int t_184)]) hx hb dX7_faultOf_246 hl (by decide) rfl (fun ls hl => ?_)
                refine lv_iload hx hb dX7_faultOf_248 (lv_at hl 4 rfl) ?_
                refine lv_if_ne (tgt := 261) hx hb dX7_faultOf_250 (by decide) (fun hc_192 => ?_) (fun hc_192 => ?_)
                · have he := ite_t he hc_192
                  refine lv_iload_n hx hb dX7_faultOf_261 rfl (lv_at hl 2 rfl) ?_
                  refine lv_iload hx hb dX7_faultOf_262 (lv_at hl 4 rfl) ?_
                  obtain ⟨t_195, hr_194, he⟩ := bnd_ex he
                  have j272 : ∀ (H : Heap) (locs : List Loc) (ls : Array Slot), (t_195 = 0 ∨ t_195 = 1) → va_P D vwCl (wld 31 ad (cM ad k M_167)) H → va_S (AW 31 ad) s.heap H locs → lv_has ls 9 [(0, .ref (ad 0)), (4, .int v_166), (8, .int t_191)] → W p l e rm_X7_faultOf s m args below meth c H locs 0 0 Q (F0 m 272 ls [.int t_195, .int v_165]) := by
                    intro H locs ls zt_195 hP hS hl
                    refine lv_isub hx hb dX7_faultOf_272 ?_
                    refine lv_topi (fun y_196 ey_196 => ?_)
                    have he := bnd_at he ey_196
                    refine lv_istore_n (lv' := [(3, .int y_196), (0, .ref (ad 0)), (4, .int v_166), (8, .int t_191)]) hx hb dX7_faultOf_273 rfl hl (by decide) rfl (fun ls hl => ?_)
                    refine lv_iload hx hb dX7_faultOf_274 (lv_at hl 3 rfl) ?_
                    refine lv_istore_n (lv' := [(1, .int t_191), (3, .int y_196), (0, .ref (ad 0)), (4, .int v_166), (8, .int t_191)]) hx hb dX7_faultOf_276 rfl hl (by decide) rfl (fun ls hl => ?_)
                    refine lv_iconst (v := 0) hx hb dX7_faultOf_277 (by decide) ?_
                    refine lv_istore_n (lv' := [(2, .int 0), (1, .int t_191), (3, .int y_196), (0, .ref (ad 0)), (4, .int v_166), (8, .int t_191)]) hx hb dX7_faultOf_278 rfl hl (by decide) rfl (fun ls hl => ?_)
                    obtain ⟨y_197, ey_197⟩ : ∃ y_197 : Int32, y_197 = v_166 + 1 := ⟨_, rfl⟩
                    have he := bnd_at he ey_197
                    refine lv_iinc (v := y_197) (lv' := [(4, .int y_197), (2, .int 0), (1, .int t_191), (3, .int y_196), (0, .ref (ad 0)), (8, .int t_191)]) hx hb dX7_faultOf_279 hl (k := 4) rfl (by rw [ey_197]; rfl) (by decide) rfl (fun ls hl => ?_)
                    refine lv_goto (tgt := 14) hx hb dX7_faultOf_282 (by decide) ?_
                    exact ih _ _ _ _ _ _ _ _ zt_191 (by rw [ey_197, inc_I (N := 100) (bnd_lt (nle_I hc_168) (by omega)) (by decide)]; omega) hTM_167 (Or.inr (by rw [ey_197, inc_I (N := 100) (bnd_lt (nle_I hc_168) (by omega)) (by decide)]; omega)) (by rw [ey_197]; exact mu_I hμ (bnd_lt (nle_I hc_168) (by omega)) (by decide)) he hP hS (lv_sub hl [4, 2, 1, 3, 0] rfl)
                  refine lv_if_eq (tgt := 271) hx hb dX7_faultOf_264 (by decide) (fun hc_193 => ?_) (fun hc_193 => ?_)
                  · have hr_194 := ite_t hr_194 hc_193
                    refine lv_iconst (v := 0) hx hb dX7_faultOf_271 (by decide) ?_
                    cases hr_194
                    exact j272 _ _ _ (Or.inl rfl) hP hS (lv_sub hl [1, 3, 0] rfl)
                  · have hr_194 := ite_f hr_194 hc_193
                    refine lv_iconst (v := 1) hx hb dX7_faultOf_267 (by decide) ?_
                    refine lv_goto (tgt := 272) hx hb dX7_faultOf_268 (by decide) ?_
                    cases hr_194
                    exact j272 _ _ _ (Or.inr rfl) hP hS (lv_sub hl [1, 3, 0] rfl)
                · have he := ite_f he (fun q => q hc_192)
                  refine lv_iload hx hb dX7_faultOf_253 (lv_at hl 0 rfl) ?_
                  refine lv_if_ne (tgt := 261) hx hb dX7_faultOf_255 (by decide) (fun hc_198 => ?_) (fun hc_198 => ?_)
                  · have he := ite_t he hc_198
                    refine lv_iload_n hx hb dX7_faultOf_261 rfl (lv_at hl 2 rfl) ?_
                    refine lv_iload hx hb dX7_faultOf_262 (lv_at hl 4 rfl) ?_
                    obtain ⟨t_201, hr_200, he⟩ := bnd_ex he
                    have j272 : ∀ (H : Heap) (locs : List Loc) (ls : Array Slot), (t_201 = 0 ∨ t_201 = 1) → va_P D vwCl (wld 31 ad (cM ad k M_167)) H → va_S (AW 31 ad) s.heap H locs → lv_has ls 9 [(0, .ref (ad 0)), (4, .int v_166), (8, .int t_191)] → W p l e rm_X7_faultOf s m args below meth c H locs 0 0 Q (F0 m 272 ls [.int t_201, .int v_165]) := by
                      intro H locs ls zt_201 hP hS hl
                      refine lv_isub hx hb dX7_faultOf_272 ?_
                      refine lv_topi (fun y_202 ey_202 => ?_)
                      have he := bnd_at he ey_202
                      refine lv_istore_n (lv' := [(3, .int y_202), (0, .ref (ad 0)), (4, .int v_166), (8, .int t_191)]) hx hb dX7_faultOf_273 rfl hl (by decide) rfl (fun ls hl => ?_)
                      refine lv_iload hx hb dX7_faultOf_274 (lv_at hl 3 rfl) ?_
                      refine lv_istore_n (lv' := [(1, .int t_191), (3, .int y_202), (0, .ref (ad 0)), (4, .int v_166), (8, .int t_191)]) hx hb dX7_faultOf_276 rfl hl (by decide) rfl (fun ls hl => ?_)
                      refine lv_iconst (v := 0) hx hb dX7_faultOf_277 (by decide) ?_
                      refine lv_istore_n (lv' := [(2, .int 0), (1, .int t_191), (3, .int y_202), (0, .ref (ad 0)), (4, .int v_166), (8, .int t_191)]) hx hb dX7_faultOf_278 rfl hl (by decide) rfl (fun ls hl => ?_)
                      obtain ⟨y_203, ey_203⟩ : ∃ y_203 : Int32, y_203 = v_166 + 1 := ⟨_, rfl⟩
                      have he := bnd_at he ey_203
                      refine lv_iinc (v := y_203) (lv' := [(4, .int y_203), (2, .int 0), (1, .int t_191), (3, .int y_202), (0, .ref (ad 0)), (8, .int t_191)]) hx hb dX7_faultOf_279 hl (k := 4) rfl (by rw [ey_203]; rfl) (by decide) rfl (fun ls hl => ?_)
                      refine lv_goto (tgt := 14) hx hb dX7_faultOf_282 (by decide) ?_
                      exact ih _ _ _ _ _ _ _ _ zt_191 (by rw [ey_203, inc_I (N := 100) (bnd_lt (nle_I hc_168) (by omega)) (by decide)]; omega) hTM_167 (Or.inr (by rw [ey_203, inc_I (N := 100) (bnd_lt (nle_I hc_168) (by omega)) (by decide)]; omega)) (by rw [ey_203]; exact mu_I hμ (bnd_lt (nle_I hc_168) (by omega)) (by decide)) he hP hS (lv_sub hl [4, 2, 1, 3, 0] rfl)
                    refine lv_if_eq (tgt := 271) hx hb dX7_faultOf_264 (by decide) (fun hc_199 => ?_) (fun hc_199 => ?_)
                    · have hr_200 := ite_t hr_200 hc_199
                      refine lv_iconst (v := 0) hx hb dX7_faultOf_271 (by decide) ?_
                      cases hr_200
                      exact j272 _ _ _ (Or.inl rfl) hP hS (lv_sub hl [1, 3, 0] rfl)
                    · have hr_200 := ite_f hr_200 hc_199
                      refine lv_iconst (v := 1) hx hb dX7_faultOf_267 (by decide) ?_
                      refine lv_goto (tgt := 272) hx hb dX7_faultOf_268 (by decide) ?_
                      cases hr_200
                      exact j272 _ _ _ (Or.inr rfl) hP hS (lv_sub hl [1, 3, 0] rfl)
                  · have he := ite_f he (fun q => q hc_198)
                    refine lv_iload hx hb dX7_faultOf_258 (lv_at hl 3 rfl) ?_
                    exact hret _ _ _ _ _ _ ⟨(hV.trans he.symm), hTM_167⟩ hP hS dX7_faultOf_260
              refine lv_icmp_eq (tgt := 241) hx hb dX7_faultOf_210 (by decide) (fun hc_185 => ?_) (fun hc_185 => ?_)
              · have hr_186 := ite_t hr_186 hc_185
                refine lv_iconst (v := 1) hx hb dX7_faultOf_241 (by decide) ?_
                refine lv_goto (tgt := 246) hx hb dX7_faultOf_242 (by decide) ?_
                cases hr_186
                exact j246 _ _ _ (Or.inr rfl) hP hS (lv_sub hl [1, 2, 3, 0] rfl)
              · have hr_186 := ite_f hr_186 hc_185
                refine lv_iload hx hb dX7_faultOf_213 (lv_at hl 4 rfl) ?_
                refine lv_bipush (v := 45) hx hb dX7_faultOf_215 (by decide) ?_
                refine lv_icmp_eq (tgt := 241) hx hb dX7_faultOf_217 (by decide) (fun hc_187 => ?_) (fun hc_187 => ?_)
                · have hr_186 := ite_t hr_186 hc_187
                  refine lv_iconst (v := 1) hx hb dX7_faultOf_241 (by decide) ?_
                  refine lv_goto (tgt := 246) hx hb dX7_faultOf_242 (by decide) ?_
                  cases hr_186
                  exact j246 _ _ _ (Or.inr rfl) hP hS (lv_sub hl [1, 2, 3, 0] rfl)
                · have hr_186 := ite_f hr_186 hc_187
                  refine lv_iload hx hb dX7_faultOf_220 (lv_at hl 4 rfl) ?_
                  refine lv_bipush (v := 42) hx hb dX7_faultOf_222 (by decide) ?_
                  refine lv_icmp_eq (tgt := 241) hx hb dX7_faultOf_224 (by decide) (fun hc_188 => ?_) (fun hc_188 => ?_)
                  · have hr_186 := ite_t hr_186 hc_188
                    refine lv_iconst (v := 1) hx hb dX7_faultOf_241 (by decide) ?_
                    refine lv_goto (tgt := 246) hx hb dX7_faultOf_242 (by decide) ?_
                    cases hr_186
                    exact j246 _ _ _ (Or.inr rfl) hP hS (lv_sub hl [1, 2, 3, 0] rfl)
                  · have hr_186 := ite_f hr_186 hc_188
                    refine lv_iload hx hb dX7_faultOf_227 (lv_at hl 4 rfl) ?_
                    refine lv_bipush (v := 47) hx hb dX7_faultOf_229 (by decide) ?_
                    refine lv_icmp_eq (tgt := 241) hx hb dX7_faultOf_231 (by decide) (fun hc_189 => ?_) (fun hc_189 => ?_)
                    · have hr_186 := ite_t hr_186 hc_189
                      refine lv_iconst (v := 1) hx hb dX7_faultOf_241 (by decide) ?_
                      refine lv_goto (tgt := 246) hx hb dX7_faultOf_242 (by decide) ?_
                      cases hr_186
                      exact j246 _ _ _ (Or.inr rfl) hP hS (lv_sub hl [1, 2, 3, 0] rfl)
                    · have hr_186 := ite_f hr_186 hc_189
                      refine lv_iload hx hb dX7_faultOf_234 (lv_at hl 4 rfl) ?_
                      refine lv_bipush (v := 37) hx hb dX7_faultOf_236 (by decide) ?_
                      refine lv_icmp_ne (tgt := 245) hx hb dX7_faultOf_238 (by decide) (fun hc_190 => ?_) (fun hc_190 => ?_)
                      · have hr_186 := ite_t hr_186 hc_190
                        refine lv_iconst (v := 0) hx hb dX7_faultOf_245 (by decide) ?_
                        cases hr_186
                        exact j246 _ _ _ (Or.inl rfl) hP hS (lv_sub hl [1, 2, 3, 0] rfl)
                      · have hr_186 := ite_f hr_186 (fun q => q hc_190)
                        refine lv_iconst (v := 1) hx hb dX7_faultOf_241 (by decide) ?_
                        refine lv_goto (tgt := 246) hx hb dX7_faultOf_242 (by decide) ?_
                        cases hr_186
                        exact j246 _ _ _ (Or.inr rfl) hP hS (lv_sub hl [1, 2, 3, 0] rfl)
            refine lv_icmp_ne (tgt := 203) hx hb dX7_faultOf_192 (by decide) (fun hc_181 => ?_) (fun hc_181 => ?_)
            · have hr_182 := ite_t hr_182 hc_181
              refine lv_iconst (v := 0) hx hb dX7_faultOf_203 (by decide) ?_
              cases hr_182
              exact j204 _ _ _ (Or.inl rfl) hP hS (lv_sub hl [2, 5, 6, 1] rfl)
            · have hr_182 := ite_f hr_182 (fun q => q hc_181)
              refine lv_iload_n hx hb dX7_faultOf_195 rfl (lv_at hl 5 rfl) ?_
              refine lv_if_le (tgt := 203) hx hb dX7_faultOf_196 (by decide) (fun hc_183 => ?_) (fun hc_183 => ?_)
              · have hr_182 := ite_t hr_182 hc_183
                refine lv_iconst (v := 0) hx hb dX7_faultOf_203 (by decide) ?_
                cases hr_182
                exact j204 _ _ _ (Or.inl rfl) hP hS (lv_sub hl [2, 5, 6, 1] rfl)
              · have hr_182 := ite_f hr_182 hc_183
                refine lv_iconst (v := 1) hx hb dX7_faultOf_199 (by decide) ?_
                refine lv_goto (tgt := 204) hx hb dX7_faultOf_200 (by decide) ?_
                cases hr_182
                exact j204 _ _ _ (Or.inr rfl) hP hS (lv_sub hl [2, 5, 6, 1] rfl)
          · have he := ite_f he hc_180
            refine lv_iload hx hb dX7_faultOf_105 (lv_at hl 1 rfl) ?_
            refine lv_bipush (v := 40) hx hb dX7_faultOf_107 (by decide) ?_
            obtain ⟨t_207, hr_205, he⟩ := bnd_ex he
            have j123 : ∀ (H : Heap) (locs : List Loc) (ls : Array Slot), (t_207 = 0 ∨ t_207 = 1) → va_P D vwCl (wld 31 ad (cM ad k M_167)) H → va_S (AW 31 ad) s.heap H locs → lv_has ls 9 [(0, .ref (ad 0)), (3, .int v_165), (4, .int v_166), (5, .int y_173), (6, .int y_178)] → W p l e rm_X7_faultOf s m args below meth c H locs 0 0 Q (F0 m 123 ls [.int t_207]) := by
              intro H locs ls zt_207 hP hS hl
              refine lv_istore (lv' := [(7, .int t_207), (0, .ref (ad 0)), (3, .int v_165), (4, .int v_166), (5, .int y_173), (6, .int y_178)]) hx hb dX7_faultOf_123 hl (by decide) rfl (fun ls hl => ?_)
              refine lv_iload hx hb dX7_faultOf_125 (lv_at hl 0 rfl) ?_
              refine lv_if_ne (tgt := 152) hx hb dX7_faultOf_127 (by decide) (fun hc_208 => ?_) (fun hc_208 => ?_)
              · have he := ite_t he hc_208
                refine lv_iload_n hx hb dX7_faultOf_152 rfl (lv_at hl 2 rfl) ?_
                refine lv_iload hx hb dX7_faultOf_153 (lv_at hl 0 rfl) ?_
                obtain ⟨t_211, hr_210, he⟩ := bnd_ex he
                have j163 : ∀ (H : Heap) (locs : List Loc) (ls : Array Slot), (t_211 = 0 ∨ t_211 = 1) → va_P D vwCl (wld 31 ad (cM ad k M_167)) H → va_S (AW 31 ad) s.heap H locs → lv_has ls 9 [(0, .ref (ad 0)), (4, .int v_166), (6, .int y_178), (7, .int t_207)] → W p l e rm_X7_faultOf s m args below meth c H locs 0 0 Q (F0 m 163 ls [.int t_211, .int v_165]) := by
                  intro H locs ls zt_211 hP hS hl
                  refine lv_iadd hx hb dX7_faultOf_163 ?_
                  refine lv_topi (fun y_212 ey_212 => ?_)
                  have he := bnd_at he ey_212
                  refine lv_istore_n (lv' := [(3, .int y_212), (0, .ref (ad 0)), (4, .int v_166), (6, .int y_178), (7, .int t_207)]) hx hb dX7_faultOf_164 rfl hl (by decide) rfl (fun ls hl => ?_)
                  refine lv_iload hx hb dX7_faultOf_165 (lv_at hl 4 rfl) ?_
                  refine lv_istore_n (lv' := [(1, .int t_207), (3, .int y_212), (0, .ref (ad 0)), (4, .int v_166), (6, .int y_178), (7, .int t_207)]) hx hb dX7_faultOf_167 rfl hl (by decide) rfl (fun ls hl => ?_)
                  refine lv_iload hx hb dX7_faultOf_168 (lv_at hl 4 rfl) ?_
                  refine lv_istore_n (lv' := [(2, .int y_178), (1, .int t_207), (3, .int y_212), (0, .ref (ad 0)), (4, .int v_166), (6, .int y_178), (7, .int t_207)]) hx hb dX7_faultOf_170 rfl hl (by decide) rfl (fun ls hl => ?_)
                  refine lv_aload_n hx hb dX7_faultOf_171 rfl (lv_at hl 3 rfl) ?_
                  refine lv_iload hx hb dX7_faultOf_172 (lv_at hl 5 rfl) ?_
                  obtain ⟨t_215, hr_214, he⟩ := bnd_ex he
                  have j182 : ∀ (H : Heap) (locs : List Loc) (ls : Array Slot), (t_215 = 0 ∨ t_215 = 1) → va_P D vwCl (wld 31 ad (cM ad k M_167)) H → va_S (AW 31 ad) s.heap H locs → lv_has ls 9 [(0, .ref (ad 0)), (1, .int t_207), (2, .int y_178), (3, .int y_212), (4, .int v_166)] → W p l e rm_X7_faultOf s m args below meth c H locs 0 0 Q (F0 m 182 ls [.int t_215, .ref (ad 0)]) := by
                    intro H locs ls zt_215 hP hS hl
                    refine pX7_22 hx hb hG hown hK hP had AW_in hS gw_9_21 dX7_faultOf_182 (fun H locs hP hS => ?_)
                    obtain ⟨M_216, eM_216⟩ : ∃ y : Mem, y = up2 M_167 0 22 t_215 := ⟨_, rfl⟩
                    rw [← eM_216] at hP
                    have he := bnd_at he eM_216
                    have hTM_216 : TI M M_216 := by rw [eM_216]; exact TI_f hTM_167 (by decide)
                    have qb_M_216 := hTM_216.1.1
                    have qs_M_216 := hTM_216.1.2.1
                    have qz_M_216 := hTM_216.1.2.2.1
                    refine lv_goto (tgt := 279) hx hb dX7_faultOf_185 (by decide) ?_
                    obtain ⟨y_217, ey_217⟩ : ∃ y_217 : Int32, y_217 = v_166 + 1 := ⟨_, rfl⟩
                    have he := bnd_at he ey_217
                    refine lv_iinc (v := y_217) (lv' := [(4, .int y_217), (0, .ref (ad 0)), (1, .int t_207), (2, .int y_178), (3, .int y_212)]) hx hb dX7_faultOf_279 hl (k := 4) rfl (by rw [ey_217]; rfl) (by decide) rfl (fun ls hl => ?_)
                    refine lv_goto (tgt := 14) hx hb dX7_faultOf_282 (by decide) ?_
                    exact ih _ _ _ _ _ _ _ _ zt_207 (by rw [ey_217, inc_I (N := 100) (bnd_lt (nle_I hc_168) (by omega)) (by decide)]; omega) hTM_216 (Or.inr (by rw [ey_217, inc_I (N := 100) (bnd_lt (nle_I hc_168) (by omega)) (by decide)]; omega)) (by rw [ey_217]; exact mu_I hμ (bnd_lt (nle_I hc_168) (by omega)) (by decide)) he hP hS (lv_sub hl [1, 2, 3, 4, 0] rfl)
                  refine lv_if_eq (tgt := 181) hx hb dX7_faultOf_174 (by decide) (fun hc_213 => ?_) (fun hc_213 => ?_)
                  · have hr_214 := ite_t hr_214 hc_213
                    refine lv_iconst (v := 0) hx hb dX7_faultOf_181 (by decide) ?_
                    cases hr_214
                    exact j182 _ _ _ (Or.inl rfl) hP hS (lv_sub hl [3, 1, 0, 2, 4] rfl)
                  · have hr_214 := ite_f hr_214 hc_213
                    refine lv_iconst (v := 1) hx hb dX7_faultOf_177 (by decide) ?_
                    refine lv_goto (tgt := 182) hx hb dX7_faultOf_178 (by decide) ?_
                    cases hr_214
                    exact j182 _ _ _ (Or.inr rfl) hP hS (lv_sub hl [3, 1, 0, 2, 4] rfl)
                refine lv_if_eq (tgt := 162) hx hb dX7_faultOf_155 (by decide) (fun hc_209 => ?_) (fun hc_209 => ?_)
                · have hr_210 := ite_t hr_210 hc_209
                  refine lv_iconst (v := 0) hx hb dX7_faultOf_162 (by decide) ?_
                  cases hr_210
                  exact j163 _ _ _ (Or.inl rfl) hP hS (lv_sub hl [1, 3, 5, 0] rfl)
                · have hr_210 := ite_f hr_210 hc_209
                  refine lv_iconst (v := 1) hx hb dX7_faultOf_158 (by decide) ?_
                  refine lv_goto (tgt := 163) hx hb dX7_faultOf_159 (by decide) ?_
                  cases hr_210
                  exact j163 _ _ _ (Or.inr rfl) hP hS (lv_sub hl [1, 3, 5, 0] rfl)
              · have he := ite_f he (fun q => q hc_208)
                refine lv_iload hx hb dX7_faultOf_130 (lv_at hl 5 rfl) ?_
                refine lv_if_ne (tgt := 152) hx hb dX7_faultOf_132 (by decide) (fun hc_218 => ?_) (fun hc_218 => ?_)
                · have he := ite_t he hc_218
                  refine lv_iload_n hx hb dX7_faultOf_152 rfl (lv_at hl 2 rfl) ?_
                  refine lv_iload hx hb dX7_faultOf_153 (lv_at hl 0 rfl) ?_
                  obtain ⟨t_221, hr_220, he⟩ := bnd_ex he
                  have j163 : ∀ (H : Heap) (locs : List Loc) (ls : Array Slot), (t_221 = 0 ∨ t_221 = 1) → va_P D vwCl (wld 31 ad (cM ad k M_167)) H → va_S (AW 31 ad) s.heap H locs → lv_has ls 9 [(0, .ref (ad 0)), (4, .int v_166), (6, .int y_178), (7, .int t_207)] → W p l e rm_X7_faultOf s m args below meth c H locs 0 0 Q (F0 m 163 ls [.int t_221, .int v_165]) := by
                    intro H locs ls zt_221 hP hS hl
                    refine lv_iadd hx hb dX7_faultOf_163 ?_
                    refine lv_topi (fun y_222 ey_222 => ?_)
                    have he := bnd_at he ey_222
                    refine lv_istore_n (lv' := [(3, .int y_222), (0, .ref (ad 0)), (4, .int v_166), (6, .int y_178), (7, .int t_207)]) hx hb dX7_faultOf_164 rfl hl (by decide) rfl (fun ls hl => ?_)
                    refine lv_iload hx hb dX7_faultOf_165 (lv_at hl 4 rfl) ?_
                    refine lv_istore_n (lv' := [(1, .int t_207), (3, .int y_222), (0, .ref (ad 0)), (4, .int v_166), (6, .int y_178), (7, .int t_207)]) hx hb dX7_faultOf_167 rfl hl (by decide) rfl (fun ls hl => ?_)
                    refine lv_iload hx hb dX7_faultOf_168 (lv_at hl 4 rfl) ?_
                    refine lv_istore_n (lv' := [(2, .int y_178), (1, .int t_207), (3, .int y_222), (0, .ref (ad 0)), (4, .int v_166), (6, .int y_178), (7, .int t_207)]) hx hb dX7_faultOf_170 rfl hl (by decide) rfl (fun ls hl => ?_)
                    refine lv_aload_n hx hb dX7_faultOf_171 rfl (lv_at hl 3 rfl) ?_
                    refine lv_iload hx hb dX7_faultOf_172 (lv_at hl 5 rfl) ?_
                    obtain ⟨t_225, hr_224, he⟩ := bnd_ex he
                    have j182 : ∀ (H : Heap) (locs : List Loc) (ls : Array Slot), (t_225 = 0 ∨ t_225 = 1) → va_P D vwCl (wld 31 ad (cM ad k M_167)) H → va_S (AW 31 ad) s.heap H locs → lv_has ls 9 [(0, .ref (ad 0)), (1, .int t_207), (2, .int y_178), (3, .int y_222), (4, .int v_166)] → W p l e rm_X7_faultOf s m args below meth c H locs 0 0 Q (F0 m 182 ls [.int t_225, .ref (ad 0)]) := by
                      intro H locs ls zt_225 hP hS hl
                      refine pX7_22 hx hb hG hown hK hP had AW_in hS gw_9_21 dX7_faultOf_182 (fun H locs hP hS => ?_)
                      obtain ⟨M_226, eM_226⟩ : ∃ y : Mem, y = up2 M_167 0 22 t_225 := ⟨_, rfl⟩
                      rw [← eM_226] at hP
                      have he := bnd_at he eM_226
                      have hTM_226 : TI M M_226 := by rw [eM_226]; exact TI_f hTM_167 (by decide)
                      have qb_M_226 := hTM_226.1.1
                      have qs_M_226 := hTM_226.1.2.1
                      have qz_M_226 := hTM_226.1.2.2.1
                      refine lv_goto (tgt := 279) hx hb dX7_faultOf_185 (by decide) ?_
                      obtain ⟨y_227, ey_227⟩ : ∃ y_227 : Int32, y_227 = v_166 + 1 := ⟨_, rfl⟩
                      have he := bnd_at he ey_227
                      refine lv_iinc (v := y_227) (lv' := [(4, .int y_227), (0, .ref (ad 0)), (1, .int t_207), (2, .int y_178), (3, .int y_222)]) hx hb dX7_faultOf_279 hl (k := 4) rfl (by rw [ey_227]; rfl) (by decide) rfl (fun ls hl => ?_)
                      refine lv_goto (tgt := 14) hx hb dX7_faultOf_282 (by decide) ?_
                      exact ih _ _ _ _ _ _ _ _ zt_207 (by rw [ey_227, inc_I (N := 100) (bnd_lt (nle_I hc_168) (by omega)) (by decide)]; omega) hTM_226 (Or.inr (by rw [ey_227, inc_I (N := 100) (bnd_lt (nle_I hc_168) (by omega)) (by decide)]; omega)) (by rw [ey_227]; exact mu_I hμ (bnd_lt (nle_I hc_168) (by omega)) (by decide)) he hP hS (lv_sub hl [1, 2, 3, 4, 0] rfl)
                    refine lv_if_eq (tgt := 181) hx hb dX7_faultOf_174 (by decide) (fun hc_223 => ?_) (fun hc_223 => ?_)
                    · have hr_224 := ite_t hr_224 hc_223
                      refine lv_iconst (v := 0) hx hb dX7_faultOf_181 (by decide) ?_
                      cases hr_224
                      exact j182 _ _ _ (Or.inl rfl) hP hS (lv_sub hl [3, 1, 0, 2, 4] rfl)
                    · have hr_224 := ite_f hr_224 hc_223
                      refine lv_iconst (v := 1) hx hb dX7_faultOf_177 (by decide) ?_
                      refine lv_goto (tgt := 182) hx hb dX7_faultOf_178 (by decide) ?_
                      cases hr_224
                      exact j182 _ _ _ (Or.inr rfl) hP hS (lv_sub hl [3, 1, 0, 2, 4] rfl)
                  refine lv_if_eq (tgt := 162) hx hb dX7_faultOf_155 (by decide) (fun hc_219 => ?_) (fun hc_219 => ?_)
                  · have hr_220 := ite_t hr_220 hc_219
                    refine lv_iconst (v := 0) hx hb dX7_faultOf_162 (by decide) ?_
                    cases hr_220
                    exact j163 _ _ _ (Or.inl rfl) hP hS (lv_sub hl [1, 3, 5, 0] rfl)
                  · have hr_220 := ite_f hr_220 hc_219
                    refine lv_iconst (v := 1) hx hb dX7_faultOf_158 (by decide) ?_
                    refine lv_goto (tgt := 163) hx hb dX7_faultOf_159 (by decide) ?_
                    cases hr_220
                    exact j163 _ _ _ (Or.inr rfl) hP hS (lv_sub hl [1, 3, 5, 0] rfl)
                · have he := ite_f he (fun q => q hc_218)
                  refine lv_iload hx hb dX7_faultOf_135 (lv_at hl 4 rfl) ?_
                  refine lv_bipush (v := 116) hx hb dX7_faultOf_137 (by decide) ?_
                  refine lv_icmp_eq (tgt := 152) hx hb dX7_faultOf_139 (by decide) (fun hc_228 => ?_) (fun hc_228 => ?_)
                  · have he := ite_t he hc_228
                    refine lv_iload_n hx hb dX7_faultOf_152 rfl (lv_at hl 2 rfl) ?_
                    refine lv_iload hx hb dX7_faultOf_153 (lv_at hl 0 rfl) ?_
                    obtain ⟨t_231, hr_230, he⟩ := bnd_ex he
                    have j163 : ∀ (H : Heap) (locs : List Loc) (ls : Array Slot), (t_231 = 0 ∨ t_231 = 1) → va_P D vwCl (wld 31 ad (cM ad k M_167)) H → va_S (AW 31 ad) s.heap H locs → lv_has ls 9 [(0, .ref (ad 0)), (4, .int v_166), (6, .int y_178), (7, .int t_207)] → W p l e rm_X7_faultOf s m args below meth c H locs 0 0 Q (F0 m 163 ls [.int t_231, .int v_165]) := by
                      intro H locs ls zt_231 hP hS hl
                      refine lv_iadd hx hb dX7_faultOf_163 ?_
                      refine lv_topi (fun y_232 ey_232 => ?_)
                      have he := bnd_at he ey_232
                      refine lv_istore_n (lv' := [(3, .int y_232), (0, .ref (ad 0)), (4, .int v_166), (6, .int y_178), (7, .int t_207)]) hx hb dX7_faultOf_164 rfl hl (by decide) rfl (fun ls hl => ?_)
                      refine lv_iload hx hb dX7_faultOf_165 (lv_at hl 4 rfl) ?_
                      refine lv_istore_n (lv' := [(1, .int t_207), (3, .int y_232), (0, .ref (ad 0)), (4, .int v_166), (6, .int y_178), (7, .int t_207)]) hx hb dX7_faultOf_167 rfl hl (by decide) rfl (fun ls hl => ?_)
                      refine lv_iload hx hb dX7_faultOf_168 (lv_at hl 4 rfl) ?_
                      refine lv_istore_n (lv' := [(2, .int y_178), (1, .int t_207), (3, .int y_232), (0, .ref (ad 0)), (4, .int v_166), (6, .int y_178), (7, .int t_207)]) hx hb dX7_faultOf_170 rfl hl (by decide) rfl (fun ls hl => ?_)
                      refine lv_aload_n hx hb dX7_faultOf_171 rfl (lv_at hl 3 rfl) ?_
                      refine lv_iload hx hb dX7_faultOf_172 (lv_at hl 5 rfl) ?_
                      obtain ⟨t_235, hr_234, he⟩ := bnd_ex he
                      have j182 : ∀ (H : Heap) (locs : List Loc) (ls : Array Slot), (t_235 = 0 ∨ t_235 = 1) → va_P D vwCl (wld 31 ad (cM ad k M_167)) H → va_S (AW 31 ad) s.heap H locs → lv_has ls 9 [(0, .ref (ad 0)), (1, .int t_207), (2, .int y_178), (3, .int y_232), (4, .int v_166)] → W p l e rm_X7_faultOf s m args below meth c H locs 0 0 Q (F0 m 182 ls [.int t_235, .ref (ad 0)]) := by
                        intro H locs ls zt_235 hP hS hl
                        refine pX7_22 hx hb hG hown hK hP had AW_in hS gw_9_21 dX7_faultOf_182 (fun H locs hP hS => ?_)
                        obtain ⟨M_236, eM_236⟩ : ∃ y : Mem, y = up2 M_167 0 22 t_235 := ⟨_, rfl⟩
                        rw [← eM_236] at hP
                        have he := bnd_at he eM_236
                        have hTM_236 : TI M M_236 := by rw [eM_236]; exact TI_f hTM_167 (by decide)
                        have qb_M_236 := hTM_236.1.1
                        have qs_M_236 := hTM_236.1.2.1
                        have qz_M_236 := hTM_236.1.2.2.1
                        refine lv_goto (tgt := 279) hx hb dX7_faultOf_185 (by decide) ?_
                        obtain ⟨y_237, ey_237⟩ : ∃ y_237 : Int32, y_237 = v_166 + 1 := ⟨_, rfl⟩
                        have he := bnd_at he ey_237
                        refine lv_iinc (v := y_237) (lv' := [(4, .int y_237), (0, .ref (ad 0)), (1, .int t_207), (2, .int y_178), (3, .int y_232)]) hx hb dX7_faultOf_279 hl (k := 4) rfl (by rw [ey_237]; rfl) (by decide) rfl (fun ls hl => ?_)
                        refine lv_goto (tgt := 14) hx hb dX7_faultOf_282 (by decide) ?_
                        exact ih _ _ _ _ _ _ _ _ zt_207 (by rw [ey_237, inc_I (N := 100) (bnd_lt (nle_I hc_168) (by omega)) (by decide)]; omega) hTM_236 (Or.inr (by rw [ey_237, inc_I (N := 100) (bnd_lt (nle_I hc_168) (by omega)) (by decide)]; omega)) (by rw [ey_237]; exact mu_I hμ (bnd_lt (nle_I hc_168) (by omega)) (by decide)) he hP hS (lv_sub hl [1, 2, 3, 4, 0] rfl)
                      refine lv_if_eq (tgt := 181) hx hb dX7_faultOf_174 (by decide) (fun hc_233 => ?_) (fun hc_233 => ?_)
                      · have hr_234 := ite_t hr_234 hc_233
                        refine lv_iconst (v := 0) hx hb dX7_faultOf_181 (by decide) ?_
                        cases hr_234
                        exact j182 _ _ _ (Or.inl rfl) hP hS (lv_sub hl [3, 1, 0, 2, 4] rfl)
                      · have hr_234 := ite_f hr_234 hc_233
                        refine lv_iconst (v := 1) hx hb dX7_faultOf_177 (by decide) ?_
                        refine lv_goto (tgt := 182) hx hb dX7_faultOf_178 (by decide) ?_
                        cases hr_234
                        exact j182 _ _ _ (Or.inr rfl) hP hS (lv_sub hl [3, 1, 0, 2, 4] rfl)
                    refine lv_if_eq (tgt := 162) hx hb dX7_faultOf_155 (by decide) (fun hc_229 => ?_) (fun hc_229 => ?_)
                    · have hr_230 := ite_t hr_230 hc_229
                      refine lv_iconst (v := 0) hx hb dX7_faultOf_162 (by decide) ?_
                      cases hr_230
                      exact j163 _ _ _ (Or.inl rfl) hP hS (lv_sub hl [1, 3, 5, 0] rfl)
                    · have hr_230 := ite_f hr_230 hc_229
                      refine lv_iconst (v := 1) hx hb dX7_faultOf_158 (by decide) ?_
                      refine lv_goto (tgt := 163) hx hb dX7_faultOf_159 (by decide) ?_
                      cases hr_230
                      exact j163 _ _ _ (Or.inr rfl) hP hS (lv_sub hl [1, 3, 5, 0] rfl)
                  · have he := ite_f he hc_228
                    refine lv_iload hx hb dX7_faultOf_142 (lv_at hl 4 rfl) ?_
                    refine lv_bipush (v := 115) hx hb dX7_faultOf_144 (by decide) ?_
                    refine lv_icmp_eq (tgt := 152) hx hb dX7_faultOf_146 (by decide) (fun hc_238 => ?_) (fun hc_238 => ?_)
                    · have he := ite_t he hc_238
                      refine lv_iload_n hx hb dX7_faultOf_152 rfl (lv_at hl 2 rfl) ?_
                      refine lv_iload hx hb dX7_faultOf_153 (lv_at hl 0 rfl) ?_
                      obtain ⟨t_241, hr_240, he⟩ := bnd_ex he
                      have j163 : ∀ (H : Heap) (locs : List Loc) (ls : Array Slot), (t_241 = 0 ∨ t_241 = 1) → va_P D vwCl (wld 31 ad (cM ad k M_167)) H → va_S (AW 31 ad) s.heap H locs → lv_has ls 9 [(0, .ref (ad 0)), (4, .int v_166), (6, .int y_178), (7, .int t_207)] → W p l e rm_X7_faultOf s m args below meth c H locs 0 0 Q (F0 m 163 ls [.int t_241, .int v_165]) := by
                        intro H locs ls zt_241 hP hS hl
                        refine lv_iadd hx hb dX7_faultOf_163 ?_
                        refine lv_topi (fun y_242 ey_242 => ?_)
                        have he := bnd_at he ey_242
                        refine lv_istore_n (lv' := [(3, .int y_242), (0, .ref (ad 0)), (4, .int v_166), (6, .int y_178), (7, .int t_207)]) hx hb dX7_faultOf_164 rfl hl (by decide) rfl (fun ls hl => ?_)
                        refine lv_iload hx hb dX7_faultOf_165 (lv_at hl 4 rfl) ?_
                        refine lv_istore_n (lv' := [(1, .int t_207), (3, .int y_242), (0, .ref (ad 0)), (4, .int v_166), (6, .int y_178), (7, .int t_207)]) hx hb dX7_faultOf_167 rfl hl (by decide) rfl (fun ls hl => ?_)
                        refine lv_iload hx hb dX7_faultOf_168 (lv_at hl 4 rfl) ?_
                        refine lv_istore_n (lv' := [(2, .int y_178), (1, .int t_207), (3, .int y_242), (0, .ref (ad 0)), (4, .int v_166), (6, .int y_178), (7, .int t_207)]) hx hb dX7_faultOf_170 rfl hl (by decide) rfl (fun ls hl => ?_)
                        refine lv_aload_n hx hb dX7_faultOf_171 rfl (lv_at hl 3 rfl) ?_
                        refine lv_iload hx hb dX7_faultOf_172 (lv_at hl 5 rfl) ?_
                        obtain ⟨t_245, hr_244, he⟩ := bnd_ex he
                        have j182 : ∀ (H : Heap) (locs : List Loc) (ls : Array Slot), (t_245 = 0 ∨ t_245 = 1) → va_P D vwCl (wld 31 ad (cM ad k M_167)) H → va_S (AW 31 ad) s.heap H locs → lv_has ls 9 [(0, .ref (ad 0)), (1, .int t_207), (2, .int y_178), (3, .int y_242), (4, .int v_166)] → W p l e rm_X7_faultOf s m args below meth c H locs 0 0 Q (F0 m 182 ls [.int t_245, .ref (ad 0)]) := by
                          intro H locs ls zt_245 hP hS hl
                          refine pX7_22 hx hb hG hown hK hP had AW_in hS gw_9_21 dX7_faultOf_182 (fun H locs hP hS => ?_)
                          obtain ⟨M_246, eM_246⟩ : ∃ y : Mem, y = up2 M_167 0 22 t_245 := ⟨_, rfl⟩
                          rw [← eM_246] at hP
                          have he := bnd_at he eM_246
                          have hTM_246 : TI M M_246 := by rw [eM_246]; exact TI_f hTM_167 (by decide)
                          have qb_M_246 := hTM_246.1.1
                          have qs_M_246 := hTM_246.1.2.1
                          have qz_M_246 := hTM_246.1.2.2.1
                          refine lv_goto (tgt := 279) hx hb dX7_faultOf_185 (by decide) ?_
                          obtain ⟨y_247, ey_247⟩ : ∃ y_247 : Int32, y_247 = v_166 + 1 := ⟨_, rfl⟩
                          have he := bnd_at he ey_247
                          refine lv_iinc (v := y_247) (lv' := [(4, .int y_247), (0, .ref (ad 0)), (1, .int t_207), (2, .int y_178), (3, .int y_242)]) hx hb dX7_faultOf_279 hl (k := 4) rfl (by rw [ey_247]; rfl) (by decide) rfl (fun ls hl => ?_)
                          refine lv_goto (tgt := 14) hx hb dX7_faultOf_282 (by decide) ?_
                          exact ih _ _ _ _ _ _ _ _ zt_207 (by rw [ey_247, inc_I (N := 100) (bnd_lt (nle_I hc_168) (by omega)) (by decide)]; omega) hTM_246 (Or.inr (by rw [ey_247, inc_I (N := 100) (bnd_lt (nle_I hc_168) (by omega)) (by decide)]; omega)) (by rw [ey_247]; exact mu_I hμ (bnd_lt (nle_I hc_168) (by omega)) (by decide)) he hP hS (lv_sub hl [1, 2, 3, 4, 0] rfl)
                        refine lv_if_eq (tgt := 181) hx hb dX7_faultOf_174 (by decide) (fun hc_243 => ?_) (fun hc_243 => ?_)
                        · have hr_244 := ite_t hr_244 hc_243
                          refine lv_iconst (v := 0) hx hb dX7_faultOf_181 (by decide) ?_
                          cases hr_244
                          exact j182 _ _ _ (Or.inl rfl) hP hS (lv_sub hl [3, 1, 0, 2, 4] rfl)
                        · have hr_244 := ite_f hr_244 hc_243
                          refine lv_iconst (v := 1) hx hb dX7_faultOf_177 (by decide) ?_
                          refine lv_goto (tgt := 182) hx hb dX7_faultOf_178 (by decide) ?_
                          cases hr_244
                          exact j182 _ _ _ (Or.inr rfl) hP hS (lv_sub hl [3, 1, 0, 2, 4] rfl)
                      refine lv_if_eq (tgt := 162) hx hb dX7_faultOf_155 (by decide) (fun hc_239 => ?_) (fun hc_239 => ?_)
                      · have hr_240 := ite_t hr_240 hc_239
                        refine lv_iconst (v := 0) hx hb dX7_faultOf_162 (by decide) ?_
                        cases hr_240
                        exact j163 _ _ _ (Or.inl rfl) hP hS (lv_sub hl [1, 3, 5, 0] rfl)
                      · have hr_240 := ite_f hr_240 hc_239
                        refine lv_iconst (v := 1) hx hb dX7_faultOf_158 (by decide) ?_
                        refine lv_goto (tgt := 163) hx hb dX7_faultOf_159 (by decide) ?_
                        cases hr_240
                        exact j163 _ _ _ (Or.inr rfl) hP hS (lv_sub hl [1, 3, 5, 0] rfl)
                    · have he := ite_f he hc_238
                      refine lv_iload hx hb dX7_faultOf_149 (lv_at hl 3 rfl) ?_
                      exact hret _ _ _ _ _ _ ⟨(hV.trans he.symm), hTM_167⟩ hP hS dX7_faultOf_151
            refine lv_icmp_ne (tgt := 122) hx hb dX7_faultOf_109 (by decide) (fun hc_204 => ?_) (fun hc_204 => ?_)
            · have hr_205 := ite_t hr_205 hc_204
              refine lv_iconst (v := 0) hx hb dX7_faultOf_122 (by decide) ?_
              cases hr_205
              exact j123 _ _ _ (Or.inl rfl) hP hS (lv_sub hl [2, 5, 6, 1, 0] rfl)
            · have hr_205 := ite_f hr_205 (fun q => q hc_204)
              refine lv_iload_n hx hb dX7_faultOf_112 rfl (lv_at hl 5 rfl) ?_
              refine lv_bipush (v := 6) hx hb dX7_faultOf_113 (by decide) ?_
              refine lv_icmp_ge (tgt := 122) hx hb dX7_faultOf_115 (by decide) (fun hc_206 => ?_) (fun hc_206 => ?_)
              · have hr_205 := ite_t hr_205 hc_206
                refine lv_iconst (v := 0) hx hb dX7_faultOf_122 (by decide) ?_
                cases hr_205
                exact j123 _ _ _ (Or.inl rfl) hP hS (lv_sub hl [2, 5, 6, 1, 0] rfl)
              · have hr_205 := ite_f hr_205 hc_206
                refine lv_iconst (v := 1) hx hb dX7_faultOf_118 (by decide) ?_
                refine lv_goto (tgt := 123) hx hb dX7_faultOf_119 (by decide) ?_
                cases hr_205
                exact j123 _ _ _ (Or.inr rfl) hP hS (lv_sub hl [2, 5, 6, 1, 0] rfl)
        · have he := ite_f he hc_179
          refine lv_iload_n hx hb dX7_faultOf_51 rfl (lv_at hl 4 rfl) ?_
          refine lv_if_eq (tgt := 101) hx hb dX7_faultOf_52 (by decide) (fun hc_248 => ?_) (fun hc_248 => ?_)
          · have he := ite_t he hc_248
            refine lv_iload_n hx hb dX7_faultOf_101 rfl (lv_at hl 3 rfl) ?_
            refine lv_if_eq (tgt := 188) hx hb dX7_faultOf_102 (by decide) (fun hc_249 => ?_) (fun hc_249 => ?_)
            · have he := ite_t he hc_249
              refine lv_iload hx hb dX7_faultOf_188 (lv_at hl 1 rfl) ?_
              refine lv_bipush (v := 41) hx hb dX7_faultOf_190 (by decide) ?_
              obtain ⟨t_253, hr_251, he⟩ := bnd_ex he
              have j204 : ∀ (H : Heap) (locs : List Loc) (ls : Array Slot), (t_253 = 0 ∨ t_253 = 1) → va_P D vwCl (wld 31 ad (cM ad k M_167)) H → va_S (AW 31 ad) s.heap H locs → lv_has ls 9 [(0, .ref (ad 0)), (3, .int v_165), (4, .int v_166), (5, .int y_173)] → W p l e rm_X7_faultOf s m args below meth c H locs 0 0 Q (F0 m 204 ls [.int t_253]) := by
                intro H locs ls zt_253 hP hS hl
                refine lv_istore (lv' := [(7, .int t_253), (0, .ref (ad 0)), (3, .int v_165), (4, .int v_166), (5, .int y_173)]) hx hb dX7_faultOf_204 hl (by decide) rfl (fun ls hl => ?_)
                refine lv_iload hx hb dX7_faultOf_206 (lv_at hl 4 rfl) ?_
                refine lv_bipush (v := 43) hx hb dX7_faultOf_208 (by decide) ?_
                obtain ⟨t_260, hr_255, he⟩ := bnd_ex he
                have j246 : ∀ (H : Heap) (locs : List Loc) (ls : Array Slot), (t_260 = 0 ∨ t_260 = 1) → va_P D vwCl (wld 31 ad (cM ad k M_167)) H → va_S (AW 31 ad) s.heap H locs → lv_has ls 9 [(0, .ref (ad 0)), (3, .int v_165), (4, .int v_166), (7, .int t_253)] → W p l e rm_X7_faultOf s m args below meth c H locs 0 0 Q (F0 m 246 ls [.int t_260]) := by
                  intro H locs ls zt_260 hP hS hl
                  refine lv_istore (lv' := [(8, .int t_260), (0, .ref (ad 0)), (3, .int v_165), (4, .int v_166), (7, .int t_253)]) hx hb dX7_faultOf_246 hl (by decide) rfl (fun ls hl => ?_)
                  refine lv_iload hx hb dX7_faultOf_248 (lv_at hl 4 rfl) ?_
                  refine lv_if_ne (tgt := 261) hx hb dX7_faultOf_250 (by decide) (fun hc_261 => ?_) (fun hc_261 => ?_)
                  · have he := ite_t he hc_261
                    refine lv_iload_n hx hb dX7_faultOf_261 rfl (lv_at hl 2 rfl) ?_
                    refine lv_iload hx hb dX7_faultOf_262 (lv_at hl 4 rfl) ?_
                    obtain ⟨t_264, hr_263, he⟩ := bnd_ex he
                    have j272 : ∀ (H : Heap) (locs : List Loc) (ls : Array Slot), (t_264 = 0 ∨ t_264 = 1) → va_P D vwCl (wld 31 ad (cM ad k M_167)) H → va_S (AW 31 ad) s.heap H locs → lv_has ls 9 [(0, .ref (ad 0)), (4, .int v_166), (8, .int t_260)] → W p l e rm_X7_faultOf s m args below meth c H locs 0 0 Q (F0 m 272 ls [.int t_264, .int v_165]) := by
                      intro H locs ls zt_264 hP hS hl
                      refine lv_isub hx hb dX7_faultOf_272 ?_
                      refine lv_topi (fun y_265 ey_265 => ?_)
                      have he := bnd_at he ey_265
                      refine lv_istore_n (lv' := [(3, .int y_265), (0, .ref (ad 0)), (4, .int v_166), (8, .int t_260)]) hx hb dX7_faultOf_273 rfl hl (by decide) rfl (fun ls hl => ?_)
                      refine lv_iload hx hb dX7_faultOf_274 (lv_at hl 3 rfl) ?_
                      refine lv_istore_n (lv' := [(1, .int t_260), (3, .int y_265), (0, .ref (ad 0)), (4, .int v_166), (8, .int t_260)]) hx hb dX7_faultOf_276 rfl hl (by decide) rfl (fun ls hl => ?_)
                      refine lv_iconst (v := 0) hx hb dX7_faultOf_277 (by decide) ?_
                      refine lv_istore_n (lv' := [(2, .int 0), (1, .int t_260), (3, .int y_265), (0, .ref (ad 0)), (4, .int v_166), (8, .int t_260)]) hx hb dX7_faultOf_278 rfl hl (by decide) rfl (fun ls hl => ?_)
                      obtain ⟨y_266, ey_266⟩ : ∃ y_266 : Int32, y_266 = v_166 + 1 := ⟨_, rfl⟩
                      have he := bnd_at he ey_266
                      refine lv_iinc (v := y_266) (lv' := [(4, .int y_266), (2, .int 0), (1, .int t_260), (3, .int y_265), (0, .ref (ad 0)), (8, .int t_260)]) hx hb dX7_faultOf_279 hl (k := 4) rfl (by rw [ey_266]; rfl) (by decide) rfl (fun ls hl => ?_)
                      refine lv_goto (tgt := 14) hx hb dX7_faultOf_282 (by decide) ?_
                      exact ih _ _ _ _ _ _ _ _ zt_260 (by rw [ey_266, inc_I (N := 100) (bnd_lt (nle_I hc_168) (by omega)) (by decide)]; omega) hTM_167 (Or.inr (by rw [ey_266, inc_I (N := 100) (bnd_lt (nle_I hc_168) (by omega)) (by decide)]; omega)) (by rw [ey_266]; exact mu_I hμ (bnd_lt (nle_I hc_168) (by omega)) (by decide)) he hP hS (lv_sub hl [4, 2, 1, 3, 0] rfl)
                    refine lv_if_eq (tgt := 271) hx hb dX7_faultOf_264 (by decide) (fun hc_262 => ?_) (fun hc_262 => ?_)
                    · have hr_263 := ite_t hr_263 hc_262
                      refine lv_iconst (v := 0) hx hb dX7_faultOf_271 (by decide) ?_
                      cases hr_263
                      exact j272 _ _ _ (Or.inl rfl) hP hS (lv_sub hl [1, 3, 0] rfl)
                    · have hr_263 := ite_f hr_263 hc_262
                      refine lv_iconst (v := 1) hx hb dX7_faultOf_267 (by decide) ?_
                      refine lv_goto (tgt := 272) hx hb dX7_faultOf_268 (by decide) ?_
                      cases hr_263
                      exact j272 _ _ _ (Or.inr rfl) hP hS (lv_sub hl [1, 3, 0] rfl)
                  · have he := ite_f he (fun q => q hc_261)
                    refine lv_iload hx hb dX7_faultOf_253 (lv_at hl 0 rfl) ?_
                    refine lv_if_ne (tgt := 261) hx hb dX7_faultOf_255 (by decide) (fun hc_267 => ?_) (fun hc_267 => ?_)
                    · have he := ite_t he hc_267
                      refine lv_iload_n hx hb dX7_faultOf_261 rfl (lv_at hl 2 rfl) ?_
                      refine lv_iload hx hb dX7_faultOf_262 (lv_at hl 4 rfl) ?_
                      obtain ⟨t_270, hr_269, he⟩ := bnd_ex he
                      have j272 : ∀ (H : Heap) (locs : List Loc) (ls : Array Slot), (t_270 = 0 ∨ t_270 = 1) → va_P D vwCl (wld 31 ad (cM ad k M_167)) H → va_S (AW 31 ad) s.heap H locs → lv_has ls 9 [(0, .ref (ad 0)), (4, .int v_166), (8, .int t_260)] → W p l e rm_X7_faultOf s m args below meth c H locs 0 0 Q (F0 m 272 ls [.int t_270, .int v_165]) := by
                        intro H locs ls zt_270 hP hS hl
                        refine lv_isub hx hb dX7_faultOf_272 ?_
                        refine lv_topi (fun y_271 ey_271 => ?_)
                        have he := bnd_at he ey_271
                        refine lv_istore_n (lv' := [(3, .int y_271), (0, .ref (ad 0)), (4, .int v_166), (8, .int t_260)]) hx hb dX7_faultOf_273 rfl hl (by decide) rfl (fun ls hl => ?_)
                        refine lv_iload hx hb dX7_faultOf_274 (lv_at hl 3 rfl) ?_
                        refine lv_istore_n (lv' := [(1, .int t_260), (3, .int y_271), (0, .ref (ad 0)), (4, .int v_166), (8, .int t_260)]) hx hb dX7_faultOf_276 rfl hl (by decide) rfl (fun ls hl => ?_)
                        refine lv_iconst (v := 0) hx hb dX7_faultOf_277 (by decide) ?_
                        refine lv_istore_n (lv' := [(2, .int 0), (1, .int t_260), (3, .int y_271), (0, .ref (ad 0)), (4, .int v_166), (8, .int t_260)]) hx hb dX7_faultOf_278 rfl hl (by decide) rfl (fun ls hl => ?_)
                        obtain ⟨y_272, ey_272⟩ : ∃ y_272 : Int32, y_272 = v_166 + 1 := ⟨_, rfl⟩
                        have he := bnd_at he ey_272
                        refine lv_iinc (v := y_272) (lv' := [(4, .int y_272), (2, .int 0), (1, .int t_260), (3, .int y_271), (0, .ref (ad 0)), (8, .int t_260)]) hx hb dX7_faultOf_279 hl (k := 4) rfl (by rw [ey_272]; rfl) (by decide) rfl (fun ls hl => ?_)
                        refine lv_goto (tgt := 14) hx hb dX7_faultOf_282 (by decide) ?_
                        exact ih _ _ _ _ _ _ _ _ zt_260 (by rw [ey_272, inc_I (N := 100) (bnd_lt (nle_I hc_168) (by omega)) (by decide)]; omega) hTM_167 (Or.inr (by rw [ey_272, inc_I (N := 100) (bnd_lt (nle_I hc_168) (by omega)) (by decide)]; omega)) (by rw [ey_272]; exact mu_I hμ (bnd_lt (nle_I hc_168) (by omega)) (by decide)) he hP hS (lv_sub hl [4, 2, 1, 3, 0] rfl)
                      refine lv_if_eq (tgt := 271) hx hb dX7_faultOf_264 (by decide) (fun hc_268 => ?_) (fun hc_268 => ?_)
                      · have hr_269 := ite_t hr_269 hc_268
                        refine lv_iconst (v := 0) hx hb dX7_faultOf_271 (by decide) ?_
                        cases hr_269
                        exact j272 _ _ _ (Or.inl rfl) hP hS (lv_sub hl [1, 3, 0] rfl)
                      · have hr_269 := ite_f hr_269 hc_268
                        refine lv_iconst (v := 1) hx hb dX7_faultOf_267 (by decide) ?_
                        refine lv_goto (tgt := 272) hx hb dX7_faultOf_268 (by decide) ?_
                        cases hr_269
                        exact j272 _ _ _ (Or.inr rfl) hP hS (lv_sub hl [1, 3, 0] rfl)
                    · have he := ite_f he (fun q => q hc_267)
                      refine lv_iload hx hb dX7_faultOf_258 (lv_at hl 3 rfl) ?_
                      exact hret _ _ _ _ _ _ ⟨(hV.trans he.symm), hTM_167⟩ hP hS dX7_faultOf_260
                refine lv_icmp_eq (tgt := 241) hx hb dX7_faultOf_210 (by decide) (fun hc_254 => ?_) (fun hc_254 => ?_)
                · have hr_255 := ite_t hr_255 hc_254
                  refine lv_iconst (v := 1) hx hb dX7_faultOf_241 (by decide) ?_
                  refine lv_goto (tgt := 246) hx hb dX7_faultOf_242 (by decide) ?_
                  cases hr_255
                  exact j246 _ _ _ (Or.inr rfl) hP hS (lv_sub hl [1, 2, 3, 0] rfl)
                · have hr_255 := ite_f hr_255 hc_254
                  refine lv_iload hx hb dX7_faultOf_213 (lv_at hl 4 rfl) ?_
                  refine lv_bipush (v := 45) hx hb dX7_faultOf_215 (by decide) ?_
                  refine lv_icmp_eq (tgt := 241) hx hb dX7_faultOf_217 (by decide) (fun hc_256 => ?_) (fun hc_256 => ?_)
                  · have hr_255 := ite_t hr_255 hc_256
                    refine lv_iconst (v := 1) hx hb dX7_faultOf_241 (by decide) ?_
                    refine lv_goto (tgt := 246) hx hb dX7_faultOf_242 (by decide) ?_
                    cases hr_255
                    exact j246 _ _ _ (Or.inr rfl) hP hS (lv_sub hl [1, 2, 3, 0] rfl)
                  · have hr_255 := ite_f hr_255 hc_256
                    refine lv_iload hx hb dX7_faultOf_220 (lv_at hl 4 rfl) ?_
                    refine lv_bipush (v := 42) hx hb dX7_faultOf_222 (by decide) ?_
                    refine lv_icmp_eq (tgt := 241) hx hb dX7_faultOf_224 (by decide) (fun hc_257 => ?_) (fun hc_257 => ?_)
                    · have hr_255 := ite_t hr_255 hc_257
                      refine lv_iconst (v := 1) hx hb dX7_faultOf_241 (by decide) ?_
                      refine lv_goto (tgt := 246) hx hb dX7_faultOf_242 (by decide) ?_
                      cases hr_255
                      exact j246 _ _ _ (Or.inr rfl) hP hS (lv_sub hl [1, 2, 3, 0] rfl)
                    · have hr_255 := ite_f hr_255 hc_257
                      refine lv_iload hx hb dX7_faultOf_227 (lv_at hl 4 rfl) ?_
                      refine lv_bipush (v := 47) hx hb dX7_faultOf_229 (by decide) ?_
                      refine lv_icmp_eq (tgt := 241) hx hb dX7_faultOf_231 (by decide) (fun hc_258 => ?_) (fun hc_258 => ?_)
                      · have hr_255 := ite_t hr_255 hc_258
                        refine lv_iconst (v := 1) hx hb dX7_faultOf_241 (by decide) ?_
                        refine lv_goto (tgt := 246) hx hb dX7_faultOf_242 (by decide) ?_
                        cases hr_255
                        exact j246 _ _ _ (Or.inr rfl) hP hS (lv_sub hl [1, 2, 3, 0] rfl)
                      · have hr_255 := ite_f hr_255 hc_258
                        refine lv_iload hx hb dX7_faultOf_234 (lv_at hl 4 rfl) ?_
                        refine lv_bipush (v := 37) hx hb dX7_faultOf_236 (by decide) ?_
                        refine lv_icmp_ne (tgt := 245) hx hb dX7_faultOf_238 (by decide) (fun hc_259 => ?_) (fun hc_259 => ?_)
                        · have hr_255 := ite_t hr_255 hc_259
                          refine lv_iconst (v := 0) hx hb dX7_faultOf_245 (by decide) ?_
                          cases hr_255
                          exact j246 _ _ _ (Or.inl rfl) hP hS (lv_sub hl [1, 2, 3, 0] rfl)
                        · have hr_255 := ite_f hr_255 (fun q => q hc_259)
                          refine lv_iconst (v := 1) hx hb dX7_faultOf_241 (by decide) ?_
                          refine lv_goto (tgt := 246) hx hb dX7_faultOf_242 (by decide) ?_
                          cases hr_255
                          exact j246 _ _ _ (Or.inr rfl) hP hS (lv_sub hl [1, 2, 3, 0] rfl)
              refine lv_icmp_ne (tgt := 203) hx hb dX7_faultOf_192 (by decide) (fun hc_250 => ?_) (fun hc_250 => ?_)
              · have hr_251 := ite_t hr_251 hc_250
                refine lv_iconst (v := 0) hx hb dX7_faultOf_203 (by decide) ?_
                cases hr_251
                exact j204 _ _ _ (Or.inl rfl) hP hS (lv_sub hl [2, 5, 6, 1] rfl)
              · have hr_251 := ite_f hr_251 (fun q => q hc_250)
                refine lv_iload_n hx hb dX7_faultOf_195 rfl (lv_at hl 5 rfl) ?_
                refine lv_if_le (tgt := 203) hx hb dX7_faultOf_196 (by decide) (fun hc_252 => ?_) (fun hc_252 => ?_)
                · have hr_251 := ite_t hr_251 hc_252
                  refine lv_iconst (v := 0) hx hb dX7_faultOf_203 (by decide) ?_
                  cases hr_251
                  exact j204 _ _ _ (Or.inl rfl) hP hS (lv_sub hl [2, 5, 6, 1] rfl)
                · have hr_251 := ite_f hr_251 hc_252
                  refine lv_iconst (v := 1) hx hb dX7_faultOf_199 (by decide) ?_
                  refine lv_goto (tgt := 204) hx hb dX7_faultOf_200 (by decide) ?_
                  cases hr_251
                  exact j204 _ _ _ (Or.inr rfl) hP hS (lv_sub hl [2, 5, 6, 1] rfl)
            · have he := ite_f he hc_249
              refine lv_iload hx hb dX7_faultOf_105 (lv_at hl 1 rfl) ?_
              refine lv_bipush (v := 40) hx hb dX7_faultOf_107 (by decide) ?_
              obtain ⟨t_276, hr_274, he⟩ := bnd_ex he
              have j123 : ∀ (H : Heap) (locs : List Loc) (ls : Array Slot), (t_276 = 0 ∨ t_276 = 1) → va_P D vwCl (wld 31 ad (cM ad k M_167)) H → va_S (AW 31 ad) s.heap H locs → lv_has ls 9 [(0, .ref (ad 0)), (3, .int v_165), (4, .int v_166), (5, .int y_173), (6, .int y_178)] → W p l e rm_X7_faultOf s m args below meth c H locs 0 0 Q (F0 m 123 ls [.int t_276]) := by
                intro H locs ls zt_276 hP hS hl
                refine lv_istore (lv' := [(7, .int t_276), (0, .ref (ad 0)), (3, .int v_165), (4, .int v_166), (5, .int y_173), (6, .int y_178)]) hx hb dX7_faultOf_123 hl (by decide) rfl (fun ls hl => ?_)
                refine lv_iload hx hb dX7_faultOf_125 (lv_at hl 0 rfl) ?_
                refine lv_if_ne (tgt := 152) hx hb dX7_faultOf_127 (by decide) (fun hc_277 => ?_) (fun hc_277 => ?_)
                · have he := ite_t he hc_277
                  refine lv_iload_n hx hb dX7_faultOf_152 rfl (lv_at hl 2 rfl) ?_
                  refine lv_iload hx hb dX7_faultOf_153 (lv_at hl 0 rfl) ?_
                  obtain ⟨t_280, hr_279, he⟩ := bnd_ex he
                  have j163 : ∀ (H : Heap) (locs : List Loc) (ls : Array Slot), (t_280 = 0 ∨ t_280 = 1) → va_P D vwCl (wld 31 ad (cM ad k M_167)) H → va_S (AW 31 ad) s.heap H locs → lv_has ls 9 [(0, .ref (ad 0)), (4, .int v_166), (6, .int y_178), (7, .int t_276)] → W p l e rm_X7_faultOf s m args below meth c H locs 0 0 Q (F0 m 163 ls [.int t_280, .int v_165]) := by
                    intro H locs ls zt_280 hP hS hl
                    refine lv_iadd hx hb dX7_faultOf_163 ?_
                    refine lv_topi (fun y_281 ey_281 => ?_)
                    have he := bnd_at he ey_281
                    refine lv_istore_n (lv' := [(3, .int y_281), (0, .ref (ad 0)), (4, .int v_166), (6, .int y_178), (7, .int t_276)]) hx hb dX7_faultOf_164 rfl hl (by decide) rfl (fun ls hl => ?_)
                    refine lv_iload hx hb dX7_faultOf_165 (lv_at hl 4 rfl) ?_
                    refine lv_istore_n (lv' := [(1, .int t_276), (3, .int y_281), (0, .ref (ad 0)), (4, .int v_166), (6, .int y_178), (7, .int t_276)]) hx hb dX7_faultOf_167 rfl hl (by decide) rfl (fun ls hl => ?_)
                    refine lv_iload hx hb dX7_faultOf_168 (lv_at hl 4 rfl) ?_
                    refine lv_istore_n (lv' := [(2, .int y_178), (1, .int t_276), (3, .int y_281), (0, .ref (ad 0)), (4, .int v_166), (6, .int y_178), (7, .int t_276)]) hx hb dX7_faultOf_170 rfl hl (by decide) rfl (fun ls hl => ?_)
                    refine lv_aload_n hx hb dX7_faultOf_171 rfl (lv_at hl 3 rfl) ?_
                    refine lv_iload hx hb dX7_faultOf_172 (lv_at hl 5 rfl) ?_
                    obtain ⟨t_284, hr_283, he⟩ := bnd_ex he
                    have j182 : ∀ (H : Heap) (locs : List Loc) (ls : Array Slot), (t_284 = 0 ∨ t_284 = 1) → va_P D vwCl (wld 31 ad (cM ad k M_167)) H → va_S (AW 31 ad) s.heap H locs → lv_has ls 9 [(0, .ref (ad 0)), (1, .int t_276), (2, .int y_178), (3, .int y_281), (4, .int v_166)] → W p l e rm_X7_faultOf s m args below meth c H locs 0 0 Q (F0 m 182 ls [.int t_284, .ref (ad 0)]) := by
                      intro H locs ls zt_284 hP hS hl
                      refine pX7_22 hx hb hG hown hK hP had AW_in hS gw_9_21 dX7_faultOf_182 (fun H locs hP hS => ?_)
                      obtain ⟨M_285, eM_285⟩ : ∃ y : Mem, y = up2 M_167 0 22 t_284 := ⟨_, rfl⟩
                      rw [← eM_285] at hP
                      have he := bnd_at he eM_285
                      have hTM_285 : TI M M_285 := by rw [eM_285]; exact TI_f hTM_167 (by decide)
                      have qb_M_285 := hTM_285.1.1
                      have qs_M_285 := hTM_285.1.2.1
                      have qz_M_285 := hTM_285.1.2.2.1
                      refine lv_goto (tgt := 279) hx hb dX7_faultOf_185 (by decide) ?_
                      obtain ⟨y_286, ey_286⟩ : ∃ y_286 : Int32, y_286 = v_166 + 1 := ⟨_, rfl⟩
                      have he := bnd_at he ey_286
                      refine lv_iinc (v := y_286) (lv' := [(4, .int y_286), (0, .ref (ad 0)), (1, .int t_276), (2, .int y_178), (3, .int y_281)]) hx hb dX7_faultOf_279 hl (k := 4) rfl (by rw [ey_286]; rfl) (by decide) rfl (fun ls hl => ?_)
                      refine lv_goto (tgt := 14) hx hb dX7_faultOf_282 (by decide) ?_
                      exact ih _ _ _ _ _ _ _ _ zt_276 (by rw [ey_286, inc_I (N := 100) (bnd_lt (nle_I hc_168) (by omega)) (by decide)]; omega) hTM_285 (Or.inr (by rw [ey_286, inc_I (N := 100) (bnd_lt (nle_I hc_168) (by omega)) (by decide)]; omega)) (by rw [ey_286]; exact mu_I hμ (bnd_lt (nle_I hc_168) (by omega)) (by decide)) he hP hS (lv_sub hl [1, 2, 3, 4, 0] rfl)
                    refine lv_if_eq (tgt := 181) hx hb dX7_faultOf_174 (by decide) (fun hc_282 => ?_) (fun hc_282 => ?_)
                    · have hr_283 := ite_t hr_283 hc_282
                      refine lv_iconst (v := 0) hx hb dX7_faultOf_181 (by decide) ?_
                      cases hr_283
                      exact j182 _ _ _ (Or.inl rfl) hP hS (lv_sub hl [3, 1, 0, 2, 4] rfl)
                    · have hr_283 := ite_f hr_283 hc_282
                      refine lv_iconst (v := 1) hx hb dX7_faultOf_177 (by decide) ?_
                      refine lv_goto (tgt := 182) hx hb dX7_faultOf_178 (by decide) ?_
                      cases hr_283
                      exact j182 _ _ _ (Or.inr rfl) hP hS (lv_sub hl [3, 1, 0, 2, 4] rfl)
                  refine lv_if_eq (tgt := 162) hx hb dX7_faultOf_155 (by decide) (fun hc_278 => ?_) (fun hc_278 => ?_)
                  · have hr_279 := ite_t hr_279 hc_278
                    refine lv_iconst (v := 0) hx hb dX7_faultOf_162 (by decide) ?_
                    cases hr_279
                    exact j163 _ _ _ (Or.inl rfl) hP hS (lv_sub hl [1, 3, 5, 0] rfl)
                  · have hr_279 := ite_f hr_279 hc_278
                    refine lv_iconst (v := 1) hx hb dX7_faultOf_158 (by decide) ?_
                    refine lv_goto (tgt := 163) hx hb dX7_faultOf_159 (by decide) ?_
                    cases hr_279
                    exact j163 _ _ _ (Or.inr rfl) hP hS (lv_sub hl [1, 3, 5, 0] rfl)
                · have he := ite_f he (fun q => q hc_277)
                  refine lv_iload hx hb dX7_faultOf_130 (lv_at hl 5 rfl) ?_
                  refine lv_if_ne (tgt := 152) hx hb dX7_faultOf_132 (by decide) (fun hc_287 => ?_) (fun hc_287 => ?_)
                  · have he := ite_t he hc_287
                    refine lv_iload_n hx hb dX7_faultOf_152 rfl (lv_at hl 2 rfl) ?_
                    refine lv_iload hx hb dX7_faultOf_153 (lv_at hl 0 rfl) ?_
                    obtain ⟨t_290, hr_289, he⟩ := bnd_ex he
                    have j163 : ∀ (H : Heap) (locs : List Loc) (ls : Array Slot), (t_290 = 0 ∨ t_290 = 1) → va_P D vwCl (wld 31 ad (cM ad k M_167)) H → va_S (AW 31 ad) s.heap H locs → lv_has ls 9 [(0, .ref (ad 0)), (4, .int v_166), (6, .int y_178), (7, .int t_276)] → W p l e rm_X7_faultOf s m args below meth c H locs 0 0 Q (F0 m 163 ls [.int t_290, .int v_165]) := by
                      intro H locs ls zt_290 hP hS hl
                      refine lv_iadd hx hb dX7_faultOf_163 ?_
                      refine lv_topi (fun y_291 ey_291 => ?_)
                      have he := bnd_at he ey_291
                      refine lv_istore_n (lv' := [(3, .int y_291), (0, .ref (ad 0)), (4, .int v_166), (6, .int y_178), (7, .int t_276)]) hx hb dX7_faultOf_164 rfl hl (by decide) rfl (fun ls hl => ?_)
                      refine lv_iload hx hb dX7_faultOf_165 (lv_at hl 4 rfl) ?_
                      refine lv_istore_n (lv' := [(1, .int t_276), (3, .int y_291), (0, .ref (ad 0)), (4, .int v_166), (6, .int y_178), (7, .int t_276)]) hx hb dX7_faultOf_167 rfl hl (by decide) rfl (fun ls hl => ?_)
                      refine lv_iload hx hb dX7_faultOf_168 (lv_at hl 4 rfl) ?_
                      refine lv_istore_n (lv' := [(2, .int y_178), (1, .int t_276), (3, .int y_291), (0, .ref (ad 0)), (4, .int v_166), (6, .int y_178), (7, .int t_276)]) hx hb dX7_faultOf_170 rfl hl (by decide) rfl (fun ls hl => ?_)
                      refine lv_aload_n hx hb dX7_faultOf_171 rfl (lv_at hl 3 rfl) ?_
                      refine lv_iload hx hb dX7_faultOf_172 (lv_at hl 5 rfl) ?_
                      obtain ⟨t_294, hr_293, he⟩ := bnd_ex he
                      have j182 : ∀ (H : Heap) (locs : List Loc) (ls : Array Slot), (t_294 = 0 ∨ t_294 = 1) → va_P D vwCl (wld 31 ad (cM ad k M_167)) H → va_S (AW 31 ad) s.heap H locs → lv_has ls 9 [(0, .ref (ad 0)), (1, .int t_276), (2, .int y_178), (3, .int y_291), (4, .int v_166)] → W p l e rm_X7_faultOf s m args below meth c H locs 0 0 Q (F0 m 182 ls [.int t_294, .ref (ad 0)]) := by
                        intro H locs ls zt_294 hP hS hl
                        refine pX7_22 hx hb hG hown hK hP had AW_in hS gw_9_21 dX7_faultOf_182 (fun H locs hP hS => ?_)
                        obtain ⟨M_295, eM_295⟩ : ∃ y : Mem, y = up2 M_167 0 22 t_294 := ⟨_, rfl⟩
                        rw [← eM_295] at hP
                        have he := bnd_at he eM_295
                        have hTM_295 : TI M M_295 := by rw [eM_295]; exact TI_f hTM_167 (by decide)
                        have qb_M_295 := hTM_295.1.1
                        have qs_M_295 := hTM_295.1.2.1
                        have qz_M_295 := hTM_295.1.2.2.1
                        refine lv_goto (tgt := 279) hx hb dX7_faultOf_185 (by decide) ?_
                        obtain ⟨y_296, ey_296⟩ : ∃ y_296 : Int32, y_296 = v_166 + 1 := ⟨_, rfl⟩
                        have he := bnd_at he ey_296
                        refine lv_iinc (v := y_296) (lv' := [(4, .int y_296), (0, .ref (ad 0)), (1, .int t_276), (2, .int y_178), (3, .int y_291)]) hx hb dX7_faultOf_279 hl (k := 4) rfl (by rw [ey_296]; rfl) (by decide) rfl (fun ls hl => ?_)
                        refine lv_goto (tgt := 14) hx hb dX7_faultOf_282 (by decide) ?_
                        exact ih _ _ _ _ _ _ _ _ zt_276 (by rw [ey_296, inc_I (N := 100) (bnd_lt (nle_I hc_168) (by omega)) (by decide)]; omega) hTM_295 (Or.inr (by rw [ey_296, inc_I (N := 100) (bnd_lt (nle_I hc_168) (by omega)) (by decide)]; omega)) (by rw [ey_296]; exact mu_I hμ (bnd_lt (nle_I hc_168) (by omega)) (by decide)) he hP hS (lv_sub hl [1, 2, 3, 4, 0] rfl)
                      refine lv_if_eq (tgt := 181) hx hb dX7_faultOf_174 (by decide) (fun hc_292 => ?_) (fun hc_292 => ?_)
                      · have hr_293 := ite_t hr_293 hc_292
                        refine lv_iconst (v := 0) hx hb dX7_faultOf_181 (by decide) ?_
                        cases hr_293
                        exact j182 _ _ _ (Or.inl rfl) hP hS (lv_sub hl [3, 1, 0, 2, 4] rfl)
                      · have hr_293 := ite_f hr_293 hc_292
                        refine lv_iconst (v := 1) hx hb dX7_faultOf_177 (by decide) ?_
                        refine lv_goto (tgt := 182) hx hb dX7_faultOf_178 (by decide) ?_
                        cases hr_293
                        exact j182 _ _ _ (Or.inr rfl) hP hS (lv_sub hl [3, 1, 0, 2, 4] rfl)
                    refine lv_if_eq (tgt := 162) hx hb dX7_faultOf_155 (by decide) (fun hc_288 => ?_) (fun hc_288 => ?_)
                    · have hr_289 := ite_t hr_289 hc_288
                      refine lv_iconst (v := 0) hx hb dX7_faultOf_162 (by decide) ?_
                      cases hr_289
                      exact j163 _ _ _ (Or.inl rfl) hP hS (lv_sub hl [1, 3, 5, 0] rfl)
                    · have hr_289 := ite_f hr_289 hc_288
                      refine lv_iconst (v := 1) hx hb dX7_faultOf_158 (by decide) ?_
                      refine lv_goto (tgt := 163) hx hb dX7_faultOf_159 (by decide) ?_
                      cases hr_289
                      exact j163 _ _ _ (Or.inr rfl) hP hS (lv_sub hl [1, 3, 5, 0] rfl)
                  · have he := ite_f he (fun q => q hc_287)
                    refine lv_iload hx hb dX7_faultOf_135 (lv_at hl 4 rfl) ?_
                    refine lv_bipush (v := 116) hx hb dX7_faultOf_137 (by decide) ?_
                    refine lv_icmp_eq (tgt := 152) hx hb dX7_faultOf_139 (by decide) (fun hc_297 => ?_) (fun hc_297 => ?_)
                    · have he := ite_t he hc_297
                      refine lv_iload_n hx hb dX7_faultOf_152 rfl (lv_at hl 2 rfl) ?_
                      refine lv_iload hx hb dX7_faultOf_153 (lv_at hl 0 rfl) ?_
                      obtain ⟨t_300, hr_299, he⟩ := bnd_ex he
                      have j163 : ∀ (H : Heap) (locs : List Loc) (ls : Array Slot), (t_300 = 0 ∨ t_300 = 1) → va_P D vwCl (wld 31 ad (cM ad k M_167)) H → va_S (AW 31 ad) s.heap H locs → lv_has ls 9 [(0, .ref (ad 0)), (4, .int v_166), (6, .int y_178), (7, .int t_276)] → W p l e rm_X7_faultOf s m args below meth c H locs 0 0 Q (F0 m 163 ls [.int t_300, .int v_165]) := by
                        intro H locs ls zt_300 hP hS hl
                        refine lv_iadd hx hb dX7_faultOf_163 ?_
                        refine lv_topi (fun y_301 ey_301 => ?_)
                        have he := bnd_at he ey_301
                        refine lv_istore_n (lv' := [(3, .int y_301), (0, .ref (ad 0)), (4, .int v_166), (6, .int y_178), (7, .int t_276)]) hx hb dX7_faultOf_164 rfl hl (by decide) rfl (fun ls hl => ?_)
                        refine lv_iload hx hb dX7_faultOf_165 (lv_at hl 4 rfl) ?_
                        refine lv_istore_n (lv' := [(1, .int t_276), (3, .int y_301), (0, .ref (ad 0)), (4, .int v_166), (6, .int y_178), (7, .int t_276)]) hx hb dX7_faultOf_167 rfl hl (by decide) rfl (fun ls hl => ?_)
                        refine lv_iload hx hb dX7_faultOf_168 (lv_at hl 4 rfl) ?_
                        refine lv_istore_n (lv' := [(2, .int y_178), (1, .int t_276), (3, .int y_301), (0, .ref (ad 0)), (4, .int v_166), (6, .int y_178), (7, .int t_276)]) hx hb dX7_faultOf_170 rfl hl (by decide) rfl (fun ls hl => ?_)
                        refine lv_aload_n hx hb dX7_faultOf_171 rfl (lv_at hl 3 rfl) ?_
                        refine lv_iload hx hb dX7_faultOf_172 (lv_at hl 5 rfl) ?_
                        obtain ⟨t_304, hr_303, he⟩ := bnd_ex he
                        have j182 : ∀ (H : Heap) (locs : List Loc) (ls : Array Slot), (t_304 = 0 ∨ t_304 = 1) → va_P D vwCl (wld 31 ad (cM ad k M_167)) H → va_S (AW 31 ad) s.heap H locs → lv_has ls 9 [(0, .ref (ad 0)), (1, .int t_276), (2, .int y_178), (3, .int y_301), (4, .int v_166)] → W p l e rm_X7_faultOf s m args below meth c H locs 0 0 Q (F0 m 182 ls [.int t_304, .ref (ad 0)]) := by
                          intro H locs ls zt_304 hP hS hl
                          refine pX7_22 hx hb hG hown hK hP had AW_in hS gw_9_21 dX7_faultOf_182 (fun H locs hP hS => ?_)
                          obtain ⟨M_305, eM_305⟩ : ∃ y : Mem, y = up2 M_167 0 22 t_304 := ⟨_, rfl⟩
                          rw [← eM_305] at hP
                          have he := bnd_at he eM_305
                          have hTM_305 : TI M M_305 := by rw [eM_305]; exact TI_f hTM_167 (by decide)
                          have qb_M_305 := hTM_305.1.1
                          have qs_M_305 := hTM_305.1.2.1
                          have qz_M_305 := hTM_305.1.2.2.1
                          refine lv_goto (tgt := 279) hx hb dX7_faultOf_185 (by decide) ?_
                          obtain ⟨y_306, ey_306⟩ : ∃ y_306 : Int32, y_306 = v_166 + 1 := ⟨_, rfl⟩
                          have he := bnd_at he ey_306
                          refine lv_iinc (v := y_306) (lv' := [(4, .int y_306), (0, .ref (ad 0)), (1, .int t_276), (2, .int y_178), (3, .int y_301)]) hx hb dX7_faultOf_279 hl (k := 4) rfl (by rw [ey_306]; rfl) (by decide) rfl (fun ls hl => ?_)
                          refine lv_goto (tgt := 14) hx hb dX7_faultOf_282 (by decide) ?_
                          exact ih _ _ _ _ _ _ _ _ zt_276 (by rw [ey_306, inc_I (N := 100) (bnd_lt (nle_I hc_168) (by omega)) (by decide)]; omega) hTM_305 (Or.inr (by rw [ey_306, inc_I (N := 100) (bnd_lt (nle_I hc_168) (by omega)) (by decide)]; omega)) (by rw [ey_306]; exact mu_I hμ (bnd_lt (nle_I hc_168) (by omega)) (by decide)) he hP hS (lv_sub hl [1, 2, 3, 4, 0] rfl)
                        refine lv_if_eq (tgt := 181) hx hb dX7_faultOf_174 (by decide) (fun hc_302 => ?_) (fun hc_302 => ?_)
                        · have hr_303 := ite_t hr_303 hc_302
                          refine lv_iconst (v := 0) hx hb dX7_faultOf_181 (by decide) ?_
                          cases hr_303
                          exact j182 _ _ _ (Or.inl rfl) hP hS (lv_sub hl [3, 1, 0, 2, 4] rfl)
                        · have hr_303 := ite_f hr_303 hc_302
                          refine lv_iconst (v := 1) hx hb dX7_faultOf_177 (by decide) ?_
                          refine lv_goto (tgt := 182) hx hb dX7_faultOf_178 (by decide) ?_
                          cases hr_303
                          exact j182 _ _ _ (Or.inr rfl) hP hS (lv_sub hl [3, 1, 0, 2, 4] rfl)
                      refine lv_if_eq (tgt := 162) hx hb dX7_faultOf_155 (by decide) (fun hc_298 => ?_) (fun hc_298 => ?_)
                      · have hr_299 := ite_t hr_299 hc_298
                        refine lv_iconst (v := 0) hx hb dX7_faultOf_162 (by decide) ?_
                        cases hr_299
                        exact j163 _ _ _ (Or.inl rfl) hP hS (lv_sub hl [1, 3, 5, 0] rfl)
                      · have hr_299 := ite_f hr_299 hc_298
                        refine lv_iconst (v := 1) hx hb dX7_faultOf_158 (by decide) ?_
                        refine lv_goto (tgt := 163) hx hb dX7_faultOf_159 (by decide) ?_
                        cases hr_299
                        exact j163 _ _ _ (Or.inr rfl) hP hS (lv_sub hl [1, 3, 5, 0] rfl)
                    · have he := ite_f he hc_297
                      refine lv_iload hx hb dX7_faultOf_142 (lv_at hl 4 rfl) ?_
                      refine lv_bipush (v := 115) hx hb dX7_faultOf_144 (by decide) ?_
                      refine lv_icmp_eq (tgt := 152) hx hb dX7_faultOf_146 (by decide) (fun hc_307 => ?_) (fun hc_307 => ?_)
                      · have he := ite_t he hc_307
                        refine lv_iload_n hx hb dX7_faultOf_152 rfl (lv_at hl 2 rfl) ?_
                        refine lv_iload hx hb dX7_faultOf_153 (lv_at hl 0 rfl) ?_
                        obtain ⟨t_310, hr_309, he⟩ := bnd_ex he
                        have j163 : ∀ (H : Heap) (locs : List Loc) (ls : Array Slot), (t_310 = 0 ∨ t_310 = 1) → va_P D vwCl (wld 31 ad (cM ad k M_167)) H → va_S (AW 31 ad) s.heap H locs → lv_has ls 9 [(0, .ref (ad 0)), (4, .int v_166), (6, .int y_178), (7, .int t_276)] → W p l e rm_X7_faultOf s m args below meth c H locs 0 0 Q (F0 m 163 ls [.int t_310, .int v_165]) := by
                          intro H locs ls zt_310 hP hS hl
                          refine lv_iadd hx hb dX7_faultOf_163 ?_
                          refine lv_topi (fun y_311 ey_311 => ?_)
                          have he := bnd_at he ey_311
                          refine lv_istore_n (lv' := [(3, .int y_311), (0, .ref (ad 0)), (4, .int v_166), (6, .int y_178), (7, .int t_276)]) hx hb dX7_faultOf_164 rfl hl (by decide) rfl (fun ls hl => ?_)
                          refine lv_iload hx hb dX7_faultOf_165 (lv_at hl 4 rfl) ?_
                          refine lv_istore_n (lv' := [(1, .int t_276), (3, .int y_311), (0, .ref (ad 0)), (4, .int v_166), (6, .int y_178), (7, .int t_276)]) hx hb dX7_faultOf_167 rfl hl (by decide) rfl (fun ls hl => ?_)
                          refine lv_iload hx hb dX7_faultOf_168 (lv_at hl 4 rfl) ?_
                          refine lv_istore_n (lv' := [(2, .int y_178), (1, .int t_276), (3, .int y_311), (0, .ref (ad 0)), (4, .int v_166), (6, .int y_178), (7, .int t_276)]) hx hb dX7_faultOf_170 rfl hl (by decide) rfl (fun ls hl => ?_)
                          refine lv_aload_n hx hb dX7_faultOf_171 rfl (lv_at hl 3 rfl) ?_
                          refine lv_iload hx hb dX7_faultOf_172 (lv_at hl 5 rfl) ?_
                          obtain ⟨t_314, hr_313, he⟩ := bnd_ex he
                          have j182 : ∀ (H : Heap) (locs : List Loc) (ls : Array Slot), (t_314 = 0 ∨ t_314 = 1) → va_P D vwCl (wld 31 ad (cM ad k M_167)) H → va_S (AW 31 ad) s.heap H locs → lv_has ls 9 [(0, .ref (ad 0)), (1, .int t_276), (2, .int y_178), (3, .int y_311), (4, .int v_166)] → W p l e rm_X7_faultOf s m args below meth c H locs 0 0 Q (F0 m 182 ls [.int t_314, .ref (ad 0)]) := by
                            intro H locs ls zt_314 hP hS hl
                            refine pX7_22 hx hb hG hown hK hP had AW_in hS gw_9_21 dX7_faultOf_182 (fun H locs hP hS => ?_)
                            obtain ⟨M_315, eM_315⟩ : ∃ y : Mem, y = up2 M_167 0 22 t_314 := ⟨_, rfl⟩
                            rw [← eM_315] at hP
                            have he := bnd_at he eM_315
                            have hTM_315 : TI M M_315 := by rw [eM_315]; exact TI_f hTM_167 (by decide)
                            have qb_M_315 := hTM_315.1.1
                            have qs_M_315 := hTM_315.1.2.1
                            have qz_M_315 := hTM_315.1.2.2.1
                            refine lv_goto (tgt := 279) hx hb dX7_faultOf_185 (by decide) ?_
                            obtain ⟨y_316, ey_316⟩ : ∃ y_316 : Int32, y_316 = v_166 + 1 := ⟨_, rfl⟩
                            have he := bnd_at he ey_316
                            refine lv_iinc (v := y_316) (lv' := [(4, .int y_316), (0, .ref (ad 0)), (1, .int t_276), (2, .int y_178), (3, .int y_311)]) hx hb dX7_faultOf_279 hl (k := 4) rfl (by rw [ey_316]; rfl) (by decide) rfl (fun ls hl => ?_)
                            refine lv_goto (tgt := 14) hx hb dX7_faultOf_282 (by decide) ?_
                            exact ih _ _ _ _ _ _ _ _ zt_276 (by rw [ey_316, inc_I (N := 100) (bnd_lt (nle_I hc_168) (by omega)) (by decide)]; omega) hTM_315 (Or.inr (by rw [ey_316, inc_I (N := 100) (bnd_lt (nle_I hc_168) (by omega)) (by decide)]; omega)) (by rw [ey_316]; exact mu_I hμ (bnd_lt (nle_I hc_168) (by omega)) (by decide)) he hP hS (lv_sub hl [1, 2, 3, 4, 0] rfl)
                          refine lv_if_eq (tgt := 181) hx hb dX7_faultOf_174 (by decide) (fun hc_312 => ?_) (fun hc_312 => ?_)
                          · have hr_313 := ite_t hr_313 hc_312
                            refine lv_iconst (v := 0) hx hb dX7_faultOf_181 (by decide) ?_
                            cases hr_313
                            exact j182 _ _ _ (Or.inl rfl) hP hS (lv_sub hl [3, 1, 0, 2, 4] rfl)
                          · have hr_313 := ite_f hr_313 hc_312
                            refine lv_iconst (v := 1) hx hb dX7_faultOf_177 (by decide) ?_
                            refine lv_goto (tgt := 182) hx hb dX7_faultOf_178 (by decide) ?_
                            cases hr_313
                            exact j182 _ _ _ (Or.inr rfl) hP hS (lv_sub hl [3, 1, 0, 2, 4] rfl)
                        refine lv_if_eq (tgt := 162) hx hb dX7_faultOf_155 (by decide) (fun hc_308 => ?_) (fun hc_308 => ?_)
                        · have hr_309 := ite_t hr_309 hc_308
                          refine lv_iconst (v := 0) hx hb dX7_faultOf_162 (by decide) ?_
                          cases hr_309
                          exact j163 _ _ _ (Or.inl rfl) hP hS (lv_sub hl [1, 3, 5, 0] rfl)
                        · have hr_309 := ite_f hr_309 hc_308
                          refine lv_iconst (v := 1) hx hb dX7_faultOf_158 (by decide) ?_
                          refine lv_goto (tgt := 163) hx hb dX7_faultOf_159 (by decide) ?_
                          cases hr_309
                          exact j163 _ _ _ (Or.inr rfl) hP hS (lv_sub hl [1, 3, 5, 0] rfl)
                      · have he := ite_f he hc_307
                        refine lv_iload hx hb dX7_faultOf_149 (lv_at hl 3 rfl) ?_
                        exact hret _ _ _ _ _ _ ⟨(hV.trans he.symm), hTM_167⟩ hP hS dX7_faultOf_151
              refine lv_icmp_ne (tgt := 122) hx hb dX7_faultOf_109 (by decide) (fun hc_273 => ?_) (fun hc_273 => ?_)
              · have hr_274 := ite_t hr_274 hc_273
                refine lv_iconst (v := 0) hx hb dX7_faultOf_122 (by decide) ?_
                cases hr_274
                exact j123 _ _ _ (Or.inl rfl) hP hS (lv_sub hl [2, 5, 6, 1, 0] rfl)
              · have hr_274 := ite_f hr_274 (fun q => q hc_273)
                refine lv_iload_n hx hb dX7_faultOf_112 rfl (lv_at hl 5 rfl) ?_
                refine lv_bipush (v := 6) hx hb dX7_faultOf_113 (by decide) ?_
                refine lv_icmp_ge (tgt := 122) hx hb dX7_faultOf_115 (by decide) (fun hc_275 => ?_) (fun hc_275 => ?_)
                · have hr_274 := ite_t hr_274 hc_275
                  refine lv_iconst (v := 0) hx hb dX7_faultOf_122 (by decide) ?_
                  cases hr_274
                  exact j123 _ _ _ (Or.inl rfl) hP hS (lv_sub hl [2, 5, 6, 1, 0] rfl)
                · have hr_274 := ite_f hr_274 hc_275
                  refine lv_iconst (v := 1) hx hb dX7_faultOf_118 (by decide) ?_
                  refine lv_goto (tgt := 123) hx hb dX7_faultOf_119 (by decide) ?_
                  cases hr_274
                  exact j123 _ _ _ (Or.inr rfl) hP hS (lv_sub hl [2, 5, 6, 1, 0] rfl)
          · have he := ite_f he hc_248
            refine lv_aload_n hx hb dX7_faultOf_55 rfl (lv_at hl 2 rfl) ?_
            refine gX7_22 hx hb hG hown hK hP gw_9_21 dX7_faultOf_56 ?_
            refine lv_iconst (v := 3) hx hb dX7_faultOf_59 (by decide) ?_
            refine lv_icmp_eq (tgt := 85) hx hb dX7_faultOf_60 (by decide) (fun hc_317 => ?_) (fun hc_317 => ?_)
            · have he := ite_t he hc_317
              refine lv_iload hx hb dX7_faultOf_85 (lv_at hl 6 rfl) ?_
              exact hret _ _ _ _ _ _ ⟨(hV.trans he.symm), hTM_167⟩ hP hS dX7_faultOf_87
            · have he := ite_f he hc_317
              refine lv_aload_n hx hb dX7_faultOf_63 rfl (lv_at hl 2 rfl) ?_
              refine gX7_22 hx hb hG hown hK hP gw_9_21 dX7_faultOf_64 ?_
              refine lv_iconst (v := 1) hx hb dX7_faultOf_67 (by decide) ?_
              refine lv_icmp_ne (tgt := 88) hx hb dX7_faultOf_68 (by decide) (fun hc_318 => ?_) (fun hc_318 => ?_)
              · have he := ite_t he hc_318
                refine lv_aload_n hx hb dX7_faultOf_88 rfl (lv_at hl 2 rfl) ?_
                refine lv_dup hx hb dX7_faultOf_89 rfl ?_
                refine gX7_22 hx hb hG hown hK hP gw_9_21 dX7_faultOf_90 ?_
                refine lv_iconst (v := 1) hx hb dX7_faultOf_93 (by decide) ?_
                refine lv_iadd hx hb dX7_faultOf_94 ?_
                refine pX7_22 hx hb hG hown hK hP had AW_in hS gw_9_21 dX7_faultOf_95 (fun H locs hP hS => ?_)
                obtain ⟨M_319, eM_319⟩ : ∃ y : Mem, y = up2 M_167 0 22 ((M_167 0 22) + 1) := ⟨_, rfl⟩
                rw [← eM_319] at hP
                have he := bnd_at he eM_319
                have hTM_319 : TI M M_319 := by rw [eM_319]; exact TI_f hTM_167 (by decide)
                have qb_M_319 := hTM_319.1.1
                have qs_M_319 := hTM_319.1.2.1
                have qz_M_319 := hTM_319.1.2.2.1
                refine lv_goto (tgt := 279) hx hb dX7_faultOf_98 (by decide) ?_
                obtain ⟨y_320, ey_320⟩ : ∃ y_320 : Int32, y_320 = v_166 + 1 := ⟨_, rfl⟩
                have he := bnd_at he ey_320
                refine lv_iinc (v := y_320) (lv' := [(4, .int y_320), (6, .int y_178), (5, .int y_173), (0, .ref (ad 0)), (1, .int v_163), (2, .int v_164), (3, .int v_165)]) hx hb dX7_faultOf_279 hl (k := 6) rfl (by rw [ey_320]; rfl) (by decide) rfl (fun ls hl => ?_)
                refine lv_goto (tgt := 14) hx hb dX7_faultOf_282 (by decide) ?_
                exact ih _ _ _ _ _ _ _ _ zv_163 (by rw [ey_320, inc_I (N := 100) (bnd_lt (nle_I hc_168) (by omega)) (by decide)]; omega) hTM_319 (Or.inr (by rw [ey_320, inc_I (N := 100) (bnd_lt (nle_I hc_168) (by omega)) (by decide)]; omega)) (by rw [ey_320]; exact mu_I hμ (bnd_lt (nle_I hc_168) (by omega)) (by decide)) he hP hS (lv_sub hl [3, 4, 5, 6, 0] rfl)
              · have he := ite_f he (fun q => q hc_318)
                refine lv_aload_n hx hb dX7_faultOf_71 rfl (lv_at hl 2 rfl) ?_
                refine gX7_20 hx hb hG hown hK hP gw_5_0 dX7_faultOf_72 ?_
                refine lv_iload hx hb dX7_faultOf_75 (lv_at hl 6 rfl) ?_
                refine lv_iconst (v := 1) hx hb dX7_faultOf_77 (by decide) ?_
                refine lv_isub hx hb dX7_faultOf_78 ?_
                refine al_M12 hx hb hK hP (by have q1 : 1 ≤ v_166.toInt := hin.resolve_left hc_248; have q2 : v_166.toInt < 100 := bnd_lt (nle_I hc_168) (by omega); exact vin_I (by rw [dec_I (by omega)]; omega) (by rw [dec_I (by omega)]; omega)) dX7_faultOf_79 ?_
                refine lv_bipush (v := 48) hx hb dX7_faultOf_80 (by decide) ?_
                refine lv_icmp_ne (tgt := 88) hx hb dX7_faultOf_82 (by decide) (fun hc_321 => ?_) (fun hc_321 => ?_)
                · have he := ite_t he hc_321
                  refine lv_aload_n hx hb dX7_faultOf_88 rfl (lv_at hl 2 rfl) ?_
                  refine lv_dup hx hb dX7_faultOf_89 rfl ?_
                  refine gX7_22 hx hb hG hown hK hP gw_9_21 dX7_faultOf_90 ?_
                  refine lv_iconst (v := 1) hx hb dX7_faultOf_93 (by decide) ?_
                  refine lv_iadd hx hb dX7_faultOf_94 ?_
                  refine pX7_22 hx hb hG hown hK hP had AW_in hS gw_9_21 dX7_faultOf_95 (fun H locs hP hS => ?_)
                  obtain ⟨M_322, eM_322⟩ : ∃ y : Mem, y = up2 M_167 0 22 ((M_167 0 22) + 1) := ⟨_, rfl⟩
                  rw [← eM_322] at hP
                  have he := bnd_at he eM_322
                  have hTM_322 : TI M M_322 := by rw [eM_322]; exact TI_f hTM_167 (by decide)
                  have qb_M_322 := hTM_322.1.1
                  have qs_M_322 := hTM_322.1.2.1
                  have qz_M_322 := hTM_322.1.2.2.1
                  refine lv_goto (tgt := 279) hx hb dX7_faultOf_98 (by decide) ?_
                  obtain ⟨y_323, ey_323⟩ : ∃ y_323 : Int32, y_323 = v_166 + 1 := ⟨_, rfl⟩
                  have he := bnd_at he ey_323
                  refine lv_iinc (v := y_323) (lv' := [(4, .int y_323), (6, .int y_178), (5, .int y_173), (0, .ref (ad 0)), (1, .int v_163), (2, .int v_164), (3, .int v_165)]) hx hb dX7_faultOf_279 hl (k := 6) rfl (by rw [ey_323]; rfl) (by decide) rfl (fun ls hl => ?_)
                  refine lv_goto (tgt := 14) hx hb dX7_faultOf_282 (by decide) ?_
                  exact ih _ _ _ _ _ _ _ _ zv_163 (by rw [ey_323, inc_I (N := 100) (bnd_lt (nle_I hc_168) (by omega)) (by decide)]; omega) hTM_322 (Or.inr (by rw [ey_323, inc_I (N := 100) (bnd_lt (nle_I hc_168) (by omega)) (by decide)]; omega)) (by rw [ey_323]; exact mu_I hμ (bnd_lt (nle_I hc_168) (by omega)) (by decide)) he hP hS (lv_sub hl [3, 4, 5, 6, 0] rfl)
                · have he := ite_f he (fun q => q hc_321)
                  refine lv_iload hx hb dX7_faultOf_85 (lv_at hl 6 rfl) ?_
                  exact hret _ _ _ _ _ _ ⟨(hV.trans he.symm), hTM_167⟩ hP hS dX7_faultOf_87
  exact lp14 _ _ _ _ _ _ _ _ _ (Or.inr rfl) (by decide) hTM_1 (Or.inl rfl) (by decide) he hP hS (lv_sub hl [4, 3, 2, 1, 0] rfl)
