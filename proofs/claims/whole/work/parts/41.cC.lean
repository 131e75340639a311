-- @needs 12_dec 13_dec 14_dec 15_dec 31_hC 40_cC
def rm_X2_faultIn : Room := { frames := 1, cells := 0, slots := 0, locals := 20 }
theorem gm_X2_faultIn : Cond.static yX2_faultIn ∈ wsL_law ∧ Cond.initialized yX2_faultIn.cls ∈ wsL_law ∧ Cond.code yX2_faultIn cX2_faultIn 7 (some .int) ∈ wsL_law := ⟨gw_8_12, gw_2_14, gw_8_13⟩
theorem gd_X2_faultIn : yX2_faultIn.cls ≠ "java/lang/invoke/MethodHandle" ∧ yX2_faultIn.cls ≠ "java/lang/invoke/VarHandle" ∧ (parseMethodDescriptor yX2_faultIn.desc).map (fun d => d.parameters.length) = some 2 := by decide +kernel
set_option maxRecDepth 100000 in
set_option maxHeartbeats 0 in
theorem c_X2_faultIn {l : Launch} {D : va_G} {k : Nat → ClassId} {ad : Nat → Nat} (had : InjN 74 ad) (M : Mem) (a1 : Nat) (ha1 : kA100 a1) (a2 : Int32) : Met l yX2_faultIn (Cond.code yX2_faultIn cX2_faultIn 7 (some .int) :: wsL_law) rm_X2_faultIn (va_Pc [.ref (ad a1), .int a2] (GW 74 ad D k (cC ad k M))) (va_Qi (fun r u => f_X2_faultIn M a1 a2 = r ∧ u = M) (fun u t => GW 74 ad D k (cC ad k u) t) (AW 74 ad)) 0 0 (AW 74 ad) := by
  refine met_i (g := cC ad k) (M := M) (plainFor_of_name (by decide)) (Nat.le_of_ble_eq_true rfl) ?_
  intro p e s m args below meth c Q ls hx hb hml hG hown hK hret hP hS hl
  have hl : lv_has ls 7 [(0, .ref (ad a1)), (1, .int a2)] := hl
  obtain ⟨V, hV⟩ : ∃ V, f_X2_faultIn M a1 a2 = V := ⟨_, rfl⟩
  have he := hV
  unfold f_X2_faultIn at he
  refine lv_iconst (v := 0) hx hb dX2_faultIn_0 (by decide) ?_
  refine lv_istore_n (lv' := [(2, .int 0), (0, .ref (ad a1)), (1, .int a2)]) hx hb dX2_faultIn_1 rfl hl (by decide) rfl (fun ls hl => ?_)
  refine lv_iconst (v := 0) hx hb dX2_faultIn_2 (by decide) ?_
  refine lv_istore_n (lv' := [(3, .int 0), (2, .int 0), (0, .ref (ad a1)), (1, .int a2)]) hx hb dX2_faultIn_3 rfl hl (by decide) rfl (fun ls hl => ?_)
  refine lv_iconst (v := 1) hx hb dX2_faultIn_4 (by decide) ?_
  refine lv_istore (lv' := [(4, .int 1), (3, .int 0), (2, .int 0), (0, .ref (ad a1)), (1, .int a2)]) hx hb dX2_faultIn_5 hl (by decide) rfl (fun ls hl => ?_)
  refine lv_iconst (v := 0) hx hb dX2_faultIn_7 (by decide) ?_
  refine lv_istore (lv' := [(5, .int 0), (4, .int 1), (3, .int 0), (2, .int 0), (0, .ref (ad a1)), (1, .int a2)]) hx hb dX2_faultIn_8 hl (by decide) rfl (fun ls hl => ?_)
  have lp10 : ∀ (nn : Nat) (H : Heap) (locs : List Loc) (ls : Array Slot) (v_594 : Int32) (v_595 : Int32) (v_596 : Int32) (v_597 : Int32), (v_596 = 0 ∨ v_596 = 1) → (0 ≤ v_597.toInt) → (100 - v_597.toInt).toNat < nn → lp_X2_faultIn_10 nn M a1 a2 v_594 v_595 v_596 v_597 = V → va_P D vwCl (wld 74 ad (cC ad k M)) H → va_S (AW 74 ad) s.heap H locs → lv_has ls 7 [(0, .ref (ad a1)), (1, .int a2), (2, .int v_594), (3, .int v_595), (4, .int v_596), (5, .int v_597)] → W p l e rm_X2_faultIn s m args below meth c H locs 0 0 Q (F0 m 10 ls []) := by
    intro nn
    induction nn with
    | zero =>
      intro H locs ls v_594 v_595 v_596 v_597 zv_596 h0v_597 hμ
      exact absurd hμ (Nat.not_lt_zero _)
    | succ nn ih =>
      intro H locs ls v_594 v_595 v_596 v_597 zv_596 h0v_597 hμ he hP hS hl
      rw [lp_X2_faultIn_10] at he
      refine lv_iload hx hb dX2_faultIn_10 (lv_at hl 5 rfl) ?_
      refine lv_iload_n hx hb dX2_faultIn_12 rfl (lv_at hl 1 rfl) ?_
      refine lv_icmp_ge (tgt := 190) hx hb dX2_faultIn_13 (by decide) (fun hc_598 => ?_) (fun hc_598 => ?_)
      · have he := ite_t he hc_598
        refine lv_iload hx hb dX2_faultIn_190 (lv_at hl 4 rfl) ?_
        obtain ⟨t_602, hr_600, he⟩ := bnd_ex he
        have j205 : ∀ (H : Heap) (locs : List Loc) (ls : Array Slot), va_P D vwCl (wld 74 ad (cC ad k M)) H → va_S (AW 74 ad) s.heap H locs → lv_has ls 7 [] → W p l e rm_X2_faultIn s m args below meth c H locs 0 0 Q (F0 m 205 ls [.int t_602]) := by
          intro H locs ls hP hS hl
          exact hret _ _ _ _ _ _ ⟨hV.trans he.symm, rfl⟩ hP hS dX2_faultIn_205
        refine lv_if_ne (tgt := 199) hx hb dX2_faultIn_192 (by decide) (fun hc_599 => ?_) (fun hc_599 => ?_)
        · have hr_600 := ite_t hr_600 hc_599
          refine lv_iload_n hx hb dX2_faultIn_199 rfl (lv_at hl 1 rfl) ?_
          refine lv_goto (tgt := 205) hx hb dX2_faultIn_200 (by decide) ?_
          cases hr_600
          exact j205 _ _ _ hP hS (lv_sub hl [] rfl)
        · have hr_600 := ite_f hr_600 (fun q => q hc_599)
          refine lv_iload_n hx hb dX2_faultIn_195 rfl (lv_at hl 2 rfl) ?_
          refine lv_if_le (tgt := 203) hx hb dX2_faultIn_196 (by decide) (fun hc_601 => ?_) (fun hc_601 => ?_)
          · have hr_600 := ite_t hr_600 hc_601
            refine lv_bipush (v := (-4)) hx hb dX2_faultIn_203 (by decide) ?_
            cases hr_600
            exact j205 _ _ _ hP hS (lv_sub hl [] rfl)
          · have hr_600 := ite_f hr_600 hc_601
            refine lv_iload_n hx hb dX2_faultIn_199 rfl (lv_at hl 1 rfl) ?_
            refine lv_goto (tgt := 205) hx hb dX2_faultIn_200 (by decide) ?_
            cases hr_600
            exact j205 _ _ _ hP hS (lv_sub hl [] rfl)
      · have he := ite_f he hc_598
        refine lv_iload hx hb dX2_faultIn_16 (lv_at hl 5 rfl) ?_
        refine lv_aload_n hx hb dX2_faultIn_18 rfl (lv_at hl 0 rfl) ?_
        refine an_kA100 hx hb hK hP ha1 dX2_faultIn_19 ?_
        refine lv_icmp_ge (tgt := 190) hx hb dX2_faultIn_20 (by decide) (fun hc_603 => ?_) (fun hc_603 => ?_)
        · have he := ite_t he hc_603
          refine lv_iload hx hb dX2_faultIn_190 (lv_at hl 4 rfl) ?_
          obtain ⟨t_607, hr_605, he⟩ := bnd_ex he
          have j205 : ∀ (H : Heap) (locs : List Loc) (ls : Array Slot), va_P D vwCl (wld 74 ad (cC ad k M)) H → va_S (AW 74 ad) s.heap H locs → lv_has ls 7 [] → W p l e rm_X2_faultIn s m args below meth c H locs 0 0 Q (F0 m 205 ls [.int t_607]) := by
            intro H locs ls hP hS hl
            exact hret _ _ _ _ _ _ ⟨hV.trans he.symm, rfl⟩ hP hS dX2_faultIn_205
          refine lv_if_ne (tgt := 199) hx hb dX2_faultIn_192 (by decide) (fun hc_604 => ?_) (fun hc_604 => ?_)
          · have hr_605 := ite_t hr_605 hc_604
            refine lv_iload_n hx hb dX2_faultIn_199 rfl (lv_at hl 1 rfl) ?_
            refine lv_goto (tgt := 205) hx hb dX2_faultIn_200 (by decide) ?_
            cases hr_605
            exact j205 _ _ _ hP hS (lv_sub hl [] rfl)
          · have hr_605 := ite_f hr_605 (fun q => q hc_604)
            refine lv_iload_n hx hb dX2_faultIn_195 rfl (lv_at hl 2 rfl) ?_
            refine lv_if_le (tgt := 203) hx hb dX2_faultIn_196 (by decide) (fun hc_606 => ?_) (fun hc_606 => ?_)
            · have hr_605 := ite_t hr_605 hc_606
              refine lv_bipush (v := (-4)) hx hb dX2_faultIn_203 (by decide) ?_
              cases hr_605
              exact j205 _ _ _ hP hS (lv_sub hl [] rfl)
            · have hr_605 := ite_f hr_605 hc_606
              refine lv_iload_n hx hb dX2_faultIn_199 rfl (lv_at hl 1 rfl) ?_
              refine lv_goto (tgt := 205) hx hb dX2_faultIn_200 (by decide) ?_
              cases hr_605
              exact j205 _ _ _ hP hS (lv_sub hl [] rfl)
        · have he := ite_f he hc_603
          refine lv_aload_n hx hb dX2_faultIn_23 rfl (lv_at hl 0 rfl) ?_
          refine lv_iload hx hb dX2_faultIn_24 (lv_at hl 5 rfl) ?_
          refine al_kA100 hx hb hK hP ha1 (vin_I (by have q0 : v_597.toInt < a2.toInt := nle_I hc_598; have q1 : v_597.toInt < 100 := nle_I hc_603; omega) (by have q0 : v_597.toInt < a2.toInt := nle_I hc_598; have q1 : v_597.toInt < 100 := nle_I hc_603; omega)) dX2_faultIn_26 ?_
          refine lv_topi (fun y_608 ey_608 => ?_)
          have he := bnd_at he ey_608
          refine lv_istore (lv' := [(6, .int y_608), (0, .ref (ad a1)), (1, .int a2), (2, .int v_594), (3, .int v_595), (4, .int v_596), (5, .int v_597)]) hx hb dX2_faultIn_27 hl (by decide) rfl (fun ls hl => ?_)
          refine lv_iload hx hb dX2_faultIn_29 (lv_at hl 5 rfl) ?_
          refine lv_if_eq (tgt := 53) hx hb dX2_faultIn_31 (by decide) (fun hc_609 => ?_) (fun hc_609 => ?_)
          · have he := ite_t he hc_609
            refine lv_iload hx hb dX2_faultIn_53 (lv_at hl 5 rfl) ?_
            refine lv_if_eq (tgt := 107) hx hb dX2_faultIn_55 (by decide) (fun hc_610 => ?_) (fun hc_610 => ?_)
            · have he := ite_t he hc_610
              refine lv_iload hx hb dX2_faultIn_107 (lv_at hl 5 rfl) ?_
              refine lv_if_ne (tgt := 130) hx hb dX2_faultIn_109 (by decide) (fun hc_611 => ?_) (fun hc_611 => ?_)
              · have he := ite_t he hc_611
                refine lv_iload hx hb dX2_faultIn_130 (lv_at hl 5 rfl) ?_
                refine lv_if_ne (tgt := 157) hx hb dX2_faultIn_132 (by decide) (fun hc_612 => ?_) (fun hc_612 => ?_)
                · have he := ite_t he hc_612
                  refine lv_iload hx hb dX2_faultIn_157 (lv_at hl 5 rfl) ?_
                  refine lv_if_ne (tgt := 181) hx hb dX2_faultIn_159 (by decide) (fun hc_613 => ?_) (fun hc_613 => ?_)
                  · have he := ite_t he hc_613
                    refine lv_iload hx hb dX2_faultIn_181 (lv_at hl 6 rfl) ?_
                    exact hret _ _ _ _ _ _ ⟨hV.trans he.symm, rfl⟩ hP hS dX2_faultIn_183
                  · have he := ite_f he (fun q => q hc_613)
                    refine lv_iload hx hb dX2_faultIn_162 (lv_at hl 0 rfl) ?_
                    refine lv_bipush (v := 41) hx hb dX2_faultIn_164 (by decide) ?_
                    refine lv_icmp_ne (tgt := 181) hx hb dX2_faultIn_166 (by decide) (fun hc_614 => ?_) (fun hc_614 => ?_)
                    · have he := ite_t he hc_614
                      refine lv_iload hx hb dX2_faultIn_181 (lv_at hl 6 rfl) ?_
                      exact hret _ _ _ _ _ _ ⟨hV.trans he.symm, rfl⟩ hP hS dX2_faultIn_183
                    · have he := ite_f he (fun q => q hc_614)
                      refine lv_iload_n hx hb dX2_faultIn_169 rfl (lv_at hl 3 rfl) ?_
                      refine lv_if_le (tgt := 181) hx hb dX2_faultIn_170 (by decide) (fun hc_615 => ?_) (fun hc_615 => ?_)
                      · have he := ite_t he hc_615
                        refine lv_iload hx hb dX2_faultIn_181 (lv_at hl 6 rfl) ?_
                        exact hret _ _ _ _ _ _ ⟨hV.trans he.symm, rfl⟩ hP hS dX2_faultIn_183
                      · have he := ite_f he hc_615
                        obtain ⟨y_616, ey_616⟩ : ∃ y_616 : Int32, y_616 = v_594 + (-1) := ⟨_, rfl⟩
                        have he := bnd_at he ey_616
                        refine lv_iinc (v := y_616) (lv' := [(2, .int y_616), (6, .int y_608), (0, .ref (ad a1)), (1, .int a2), (3, .int v_595), (4, .int v_596), (5, .int v_597)]) hx hb dX2_faultIn_173 hl (k := 3) rfl (by rw [ey_616]; rfl) (by decide) rfl (fun ls hl => ?_)
                        refine lv_iconst (v := 0) hx hb dX2_faultIn_176 (by decide) ?_
                        refine lv_istore_n (lv' := [(3, .int 0), (2, .int y_616), (6, .int y_608), (0, .ref (ad a1)), (1, .int a2), (4, .int v_596), (5, .int v_597)]) hx hb dX2_faultIn_177 rfl hl (by decide) rfl (fun ls hl => ?_)
                        refine lv_goto (tgt := 184) hx hb dX2_faultIn_178 (by decide) ?_
                        obtain ⟨y_617, ey_617⟩ : ∃ y_617 : Int32, y_617 = v_597 + 1 := ⟨_, rfl⟩
                        have he := bnd_at he ey_617
                        refine lv_iinc (v := y_617) (lv' := [(5, .int y_617), (3, .int 0), (2, .int y_616), (6, .int y_608), (0, .ref (ad a1)), (1, .int a2), (4, .int v_596)]) hx hb dX2_faultIn_184 hl (k := 6) rfl (by rw [ey_617]; rfl) (by decide) rfl (fun ls hl => ?_)
                        refine lv_goto (tgt := 10) hx hb dX2_faultIn_187 (by decide) ?_
                        exact ih _ _ _ _ _ _ _ zv_596 (by rw [ey_617, inc_I (N := 100) (nle_I hc_603) (by decide)]; omega) (by rw [ey_617]; exact mu_I hμ (nle_I hc_603) (by decide)) he hP hS (lv_sub hl [4, 5, 2, 1, 6, 0] rfl)
                · have he := ite_f he (fun q => q hc_612)
                  refine lv_iload hx hb dX2_faultIn_135 (lv_at hl 0 rfl) ?_
                  refine callS_i [.int y_608] [] hx hb hml hG hown hK (c_X2_isSumSign had (M := M)  y_608) gw_8_17 gm_X2_isSumSign gd_X2_isSumSign rfl rfl ⟨Nat.le_of_ble_eq_true rfl, Nat.le_of_ble_eq_true rfl⟩ ⟨Nat.le_refl _, Nat.le_refl _⟩ hP (fun _ h => h) hS rfl hl.1 rfl (Nat.le_of_ble_eq_true rfl) dX2_faultIn_137 (fun r_618 u_620 H locs hF_619 hP hS => ?_)
                  obtain ⟨hz_621, hF_619, hu⟩ := hF_619; rw [hu] at hP; subst hF_619
                  refine lv_if_ne (tgt := 151) hx hb dX2_faultIn_140 (by decide) (fun hc_622 => ?_) (fun hc_622 => ?_)
                  · have he := ite_t he hc_622
                    refine lv_iconst (v := 1) hx hb dX2_faultIn_151 (by decide) ?_
                    refine lv_istore (lv' := [(4, .int 1), (6, .int y_608), (0, .ref (ad a1)), (1, .int a2), (2, .int v_594), (3, .int v_595), (5, .int v_597)]) hx hb dX2_faultIn_152 hl (by decide) rfl (fun ls hl => ?_)
                    refine lv_goto (tgt := 184) hx hb dX2_faultIn_154 (by decide) ?_
                    obtain ⟨y_623, ey_623⟩ : ∃ y_623 : Int32, y_623 = v_597 + 1 := ⟨_, rfl⟩
                    have he := bnd_at he ey_623
                    refine lv_iinc (v := y_623) (lv' := [(5, .int y_623), (4, .int 1), (6, .int y_608), (0, .ref (ad a1)), (1, .int a2), (2, .int v_594), (3, .int v_595)]) hx hb dX2_faultIn_184 hl (k := 6) rfl (by rw [ey_623]; rfl) (by decide) rfl (fun ls hl => ?_)
                    refine lv_goto (tgt := 10) hx hb dX2_faultIn_187 (by decide) ?_
                    exact ih _ _ _ _ _ _ _ (Or.inr rfl) (by rw [ey_623, inc_I (N := 100) (nle_I hc_603) (by decide)]; omega) (by rw [ey_623]; exact mu_I hμ (nle_I hc_603) (by decide)) he hP hS (lv_sub hl [3, 4, 5, 6, 1, 0] rfl)
                  · have he := ite_f he (fun q => q hc_622)
                    refine lv_iload hx hb dX2_faultIn_143 (lv_at hl 0 rfl) ?_
                    refine callS_i [.int y_608] [] hx hb hml hG hown hK (c_X2_isProductSign had (M := M)  y_608) gw_8_20 gm_X2_isProductSign gd_X2_isProductSign rfl rfl ⟨Nat.le_of_ble_eq_true rfl, Nat.le_of_ble_eq_true rfl⟩ ⟨Nat.le_refl _, Nat.le_refl _⟩ hP (fun _ h => h) hS rfl hl.1 rfl (Nat.le_of_ble_eq_true rfl) dX2_faultIn_145 (fun r_624 u_626 H locs hF_625 hP hS => ?_)
                    obtain ⟨hz_627, hF_625, hu⟩ := hF_625; rw [hu] at hP; subst hF_625
                    refine lv_if_eq (tgt := 157) hx hb dX2_faultIn_148 (by decide) (fun hc_628 => ?_) (fun hc_628 => ?_)
                    · have he := ite_t he hc_628
                      refine lv_iload hx hb dX2_faultIn_157 (lv_at hl 5 rfl) ?_
                      refine lv_if_ne (tgt := 181) hx hb dX2_faultIn_159 (by decide) (fun hc_629 => ?_) (fun hc_629 => ?_)
                      · have he := ite_t he hc_629
                        refine lv_iload hx hb dX2_faultIn_181 (lv_at hl 6 rfl) ?_
                        exact hret _ _ _ _ _ _ ⟨hV.trans he.symm, rfl⟩ hP hS dX2_faultIn_183
                      · have he := ite_f he (fun q => q hc_629)
                        refine lv_iload hx hb dX2_faultIn_162 (lv_at hl 0 rfl) ?_
                        refine lv_bipush (v := 41) hx hb dX2_faultIn_164 (by decide) ?_
                        refine lv_icmp_ne (tgt := 181) hx hb dX2_faultIn_166 (by decide) (fun hc_630 => ?_) (fun hc_630 => ?_)
                        · have he := ite_t he hc_630
                          refine lv_iload hx hb dX2_faultIn_181 (lv_at hl 6 rfl) ?_
                          exact hret _ _ _ _ _ _ ⟨hV.trans he.symm, rfl⟩ hP hS dX2_faultIn_183
                        · have he := ite_f he (fun q => q hc_630)
                          refine lv_iload_n hx hb dX2_faultIn_169 rfl (lv_at hl 3 rfl) ?_
                          refine lv_if_le (tgt := 181) hx hb dX2_faultIn_170 (by decide) (fun hc_631 => ?_) (fun hc_631 => ?_)
                          · have he := ite_t he hc_631
                            refine lv_iload hx hb dX2_faultIn_181 (lv_at hl 6 rfl) ?_
                            exact hret _ _ _ _ _ _ ⟨hV.trans he.symm, rfl⟩ hP hS dX2_faultIn_183
                          · have he := ite_f he hc_631
                            obtain ⟨y_632, ey_632⟩ : ∃ y_632 : Int32, y_632 = v_594 + (-1) := ⟨_, rfl⟩
                            have he := bnd_at he ey_632
                            refine lv_iinc (v := y_632) (lv' := [(2, .int y_632), (6, .int y_608), (0, .ref (ad a1)), (1, .int a2), (3, .int v_595), (4, .int v_596), (5, .int v_597)]) hx hb dX2_faultIn_173 hl (k := 3) rfl (by rw [ey_632]; rfl) (by decide) rfl (fun ls hl => ?_)
                            refine lv_iconst (v := 0) hx hb dX2_faultIn_176 (by decide) ?_
                            refine lv_istore_n (lv' := [(3, .int 0), (2, .int y_632), (6, .int y_608), (0, .ref (ad a1)), (1, .int a2), (4, .int v_596), (5, .int v_597)]) hx hb dX2_faultIn_177 rfl hl (by decide) rfl (fun ls hl => ?_)
                            refine lv_goto (tgt := 184) hx hb dX2_faultIn_178 (by decide) ?_
                            obtain ⟨y_633, ey_633⟩ : ∃ y_633 : Int32, y_633 = v_597 + 1 := ⟨_, rfl⟩
                            have he := bnd_at he ey_633
                            refine lv_iinc (v := y_633) (lv' := [(5, .int y_633), (3, .int 0), (2, .int y_632), (6, .int y_608), (0, .ref (ad a1)), (1, .int a2), (4, .int v_596)]) hx hb dX2_faultIn_184 hl (k := 6) rfl (by rw [ey_633]; rfl) (by decide) rfl (fun ls hl => ?_)
                            refine lv_goto (tgt := 10) hx hb dX2_faultIn_187 (by decide) ?_
                            exact ih _ _ _ _ _ _ _ zv_596 (by rw [ey_633, inc_I (N := 100) (nle_I hc_603) (by decide)]; omega) (by rw [ey_633]; exact mu_I hμ (nle_I hc_603) (by decide)) he hP hS (lv_sub hl [4, 5, 2, 1, 6, 0] rfl)
                    · have he := ite_f he hc_628
                      refine lv_iconst (v := 1) hx hb dX2_faultIn_151 (by decide) ?_
                      refine lv_istore (lv' := [(4, .int 1), (6, .int y_608), (0, .ref (ad a1)), (1, .int a2), (2, .int v_594), (3, .int v_595), (5, .int v_597)]) hx hb dX2_faultIn_152 hl (by decide) rfl (fun ls hl => ?_)
                      refine lv_goto (tgt := 184) hx hb dX2_faultIn_154 (by decide) ?_
                      obtain ⟨y_634, ey_634⟩ : ∃ y_634 : Int32, y_634 = v_597 + 1 := ⟨_, rfl⟩
                      have he := bnd_at he ey_634
                      refine lv_iinc (v := y_634) (lv' := [(5, .int y_634), (4, .int 1), (6, .int y_608), (0, .ref (ad a1)), (1, .int a2), (2, .int v_594), (3, .int v_595)]) hx hb dX2_faultIn_184 hl (k := 6) rfl (by rw [ey_634]; rfl) (by decide) rfl (fun ls hl => ?_)
                      refine lv_goto (tgt := 10) hx hb dX2_faultIn_187 (by decide) ?_
                      exact ih _ _ _ _ _ _ _ (Or.inr rfl) (by rw [ey_634, inc_I (N := 100) (nle_I hc_603) (by decide)]; omega) (by rw [ey_634]; exact mu_I hμ (nle_I hc_603) (by decide)) he hP hS (lv_sub hl [3, 4, 5, 6, 1, 0] rfl)
              · have he := ite_f he (fun q => q hc_611)
                refine lv_iload hx hb dX2_faultIn_112 (lv_at hl 0 rfl) ?_
                refine callS_i [.int y_608] [] hx hb hml hG hown hK (c_X2_isDigit had (M := M)  y_608) gw_8_14 gm_X2_isDigit gd_X2_isDigit rfl rfl ⟨Nat.le_of_ble_eq_true rfl, Nat.le_of_ble_eq_true rfl⟩ ⟨Nat.le_refl _, Nat.le_refl _⟩ hP (fun _ h => h) hS rfl hl.1 rfl (Nat.le_of_ble_eq_true rfl) dX2_faultIn_114 (fun r_635 u_637 H locs hF_636 hP hS => ?_)
                obtain ⟨hz_638, hF_636, hu⟩ := hF_636; rw [hu] at hP; subst hF_636
                refine lv_if_eq (tgt := 130) hx hb dX2_faultIn_117 (by decide) (fun hc_639 => ?_) (fun hc_639 => ?_)
                · have he := ite_t he hc_639
                  refine lv_iload hx hb dX2_faultIn_130 (lv_at hl 5 rfl) ?_
                  refine lv_if_ne (tgt := 157) hx hb dX2_faultIn_132 (by decide) (fun hc_640 => ?_) (fun hc_640 => ?_)
                  · have he := ite_t he hc_640
                    refine lv_iload hx hb dX2_faultIn_157 (lv_at hl 5 rfl) ?_
                    refine lv_if_ne (tgt := 181) hx hb dX2_faultIn_159 (by decide) (fun hc_641 => ?_) (fun hc_641 => ?_)
                    · have he := ite_t he hc_641
                      refine lv_iload hx hb dX2_faultIn_181 (lv_at hl 6 rfl) ?_
                      exact hret _ _ _ _ _ _ ⟨hV.trans he.symm, rfl⟩ hP hS dX2_faultIn_183
                    · have he := ite_f he (fun q => q hc_641)
                      refine lv_iload hx hb dX2_faultIn_162 (lv_at hl 0 rfl) ?_
                      refine lv_bipush (v := 41) hx hb dX2_faultIn_164 (by decide) ?_
                      refine lv_icmp_ne (tgt := 181) hx hb dX2_faultIn_166 (by decide) (fun hc_642 => ?_) (fun hc_642 => ?_)
                      · have he := ite_t he hc_642
                        refine lv_iload hx hb dX2_faultIn_181 (lv_at hl 6 rfl) ?_
                        exact hret _ _ _ _ _ _ ⟨hV.trans he.symm, rfl⟩ hP hS dX2_faultIn_183
                      · have he := ite_f he (fun q => q hc_642)
                        refine lv_iload_n hx hb dX2_faultIn_169 rfl (lv_at hl 3 rfl) ?_
                        refine lv_if_le (tgt := 181) hx hb dX2_faultIn_170 (by decide) (fun hc_643 => ?_) (fun hc_643 => ?_)
                        · have he := ite_t he hc_643
                          refine lv_iload hx hb dX2_faultIn_181 (lv_at hl 6 rfl) ?_
                          exact hret _ _ _ _ _ _ ⟨hV.trans he.symm, rfl⟩ hP hS dX2_faultIn_183
                        · have he := ite_f he hc_643
                          obtain ⟨y_644, ey_644⟩ : ∃ y_644 : Int32, y_644 = v_594 + (-1) := ⟨_, rfl⟩
                          have he := bnd_at he ey_644
                          refine lv_iinc (v := y_644) (lv' := [(2, .int y_644), (6, .int y_608), (0, .ref (ad a1)), (1, .int a2), (3, .int v_595), (4, .int v_596), (5, .int v_597)]) hx hb dX2_faultIn_173 hl (k := 3) rfl (by rw [ey_644]; rfl) (by decide) rfl (fun ls hl => ?_)
                          refine lv_iconst (v := 0) hx hb dX2_faultIn_176 (by decide) ?_
                          refine lv_istore_n (lv' := [(3, .int 0), (2, .int y_644), (6, .int y_608), (0, .ref (ad a1)), (1, .int a2), (4, .int v_596), (5, .int v_597)]) hx hb dX2_faultIn_177 rfl hl (by decide) rfl (fun ls hl => ?_)
                          refine lv_goto (tgt := 184) hx hb dX2_faultIn_178 (by decide) ?_
                          obtain ⟨y_645, ey_645⟩ : ∃ y_645 : Int32, y_645 = v_597 + 1 := ⟨_, rfl⟩
                          have he := bnd_at he ey_645
                          refine lv_iinc (v := y_645) (lv' := [(5, .int y_645), (3, .int 0), (2, .int y_644), (6, .int y_608), (0, .ref (ad a1)), (1, .int a2), (4, .int v_596)]) hx hb dX2_faultIn_184 hl (k := 6) rfl (by rw [ey_645]; rfl) (by decide) rfl (fun ls hl => ?_)
                          refine lv_goto (tgt := 10) hx hb dX2_faultIn_187 (by decide) ?_
                          exact ih _ _ _ _ _ _ _ zv_596 (by rw [ey_645, inc_I (N := 100) (nle_I hc_603) (by decide)]; omega) (by rw [ey_645]; exact mu_I hμ (nle_I hc_603) (by decide)) he hP hS (lv_sub hl [4, 5, 2, 1, 6, 0] rfl)
                  · have he := ite_f he (fun q => q hc_640)
                    refine lv_iload hx hb dX2_faultIn_135 (lv_at hl 0 rfl) ?_
                    refine callS_i [.int y_608] [] hx hb hml hG hown hK (c_X2_isSumSign had (M := M)  y_608) gw_8_17 gm_X2_isSumSign gd_X2_isSumSign rfl rfl ⟨Nat.le_of_ble_eq_true rfl, Nat.le_of_ble_eq_true rfl⟩ ⟨Nat.le_refl _, Nat.le_refl _⟩ hP (fun _ h => h) hS rfl hl.1 rfl (Nat.le_of_ble_eq_true rfl) dX2_faultIn_137 (fun r_646 u_648 H locs hF_647 hP hS => ?_)
                    obtain ⟨hz_649, hF_647, hu⟩ := hF_647; rw [hu] at hP; subst hF_647
                    refine lv_if_ne (tgt := 151) hx hb dX2_faultIn_140 (by decide) (fun hc_650 => ?_) (fun hc_650 => ?_)
                    · have he := ite_t he hc_650
                      refine lv_iconst (v := 1) hx hb dX2_faultIn_151 (by decide) ?_
                      refine lv_istore (lv' := [(4, .int 1), (6, .int y_608), (0, .ref (ad a1)), (1, .int a2), (2, .int v_594), (3, .int v_595), (5, .int v_597)]) hx hb dX2_faultIn_152 hl (by decide) rfl (fun ls hl => ?_)
                      refine lv_goto (tgt := 184) hx hb dX2_faultIn_154 (by decide) ?_
                      obtain ⟨y_651, ey_651⟩ : ∃ y_651 : Int32, y_651 = v_597 + 1 := ⟨_, rfl⟩
                      have he := bnd_at he ey_651
                      refine lv_iinc (v := y_651) (lv' := [(5, .int y_651), (4, .int 1), (6, .int y_608), (0, .ref (ad a1)), (1, .int a2), (2, .int v_594), (3, .int v_595)]) hx hb dX2_faultIn_184 hl (k := 6) rfl (by rw [ey_651]; rfl) (by decide) rfl (fun ls hl => ?_)
                      refine lv_goto (tgt := 10) hx hb dX2_faultIn_187 (by decide) ?_
                      exact ih _ _ _ _ _ _ _ (Or.inr rfl) (by rw [ey_651, inc_I (N := 100) (nle_I hc_603) (by decide)]; omega) (by rw [ey_651]; exact mu_I hμ (nle_I hc_603) (by decide)) he hP hS (lv_sub hl [3, 4, 5, 6, 1, 0] rfl)
                    · have he := ite_f he (fun q => q hc_650)
                      refine lv_iload hx hb dX2_faultIn_143 (lv_at hl 0 rfl) ?_
                      refine callS_i [.int y_608] [] hx hb hml hG hown hK (c_X2_isProductSign had (M := M)  y_608) gw_8_20 gm_X2_isProductSign gd_X2_isProductSign rfl rfl ⟨Nat.le_of_ble_eq_true rfl, Nat.le_of_ble_eq_true rfl⟩ ⟨Nat.le_refl _, Nat.le_refl _⟩ hP (fun _ h => h) hS rfl hl.1 rfl (Nat.le_of_ble_eq_true rfl) dX2_faultIn_145 (fun r_652 u_654 H locs hF_653 hP hS => ?_)
                      obtain ⟨hz_655, hF_653, hu⟩ := hF_653; rw [hu] at hP; subst hF_653
                      refine lv_if_eq (tgt := 157) hx hb dX2_faultIn_148 (by decide) (fun hc_656 => ?_) (fun hc_656 => ?_)
                      · have he := ite_t he hc_656
                        refine lv_iload hx hb dX2_faultIn_157 (lv_at hl 5 rfl) ?_
                        refine lv_if_ne (tgt := 181) hx hb dX2_faultIn_159 (by decide) (fun hc_657 => ?_) (fun hc_657 => ?_)
                        · have he := ite_t he hc_657
                          refine lv_iload hx hb dX2_faultIn_181 (lv_at hl 6 rfl) ?_
                          exact hret _ _ _ _ _ _ ⟨hV.trans he.symm, rfl⟩ hP hS dX2_faultIn_183
                        · have he := ite_f he (fun q => q hc_657)
                          refine lv_iload hx hb dX2_faultIn_162 (lv_at hl 0 rfl) ?_
                          refine lv_bipush (v := 41) hx hb dX2_faultIn_164 (by decide) ?_
                          refine lv_icmp_ne (tgt := 181) hx hb dX2_faultIn_166 (by decide) (fun hc_658 => ?_) (fun hc_658 => ?_)
                          · have he := ite_t he hc_658
                            refine lv_iload hx hb dX2_faultIn_181 (lv_at hl 6 rfl) ?_
                            exact hret _ _ _ _ _ _ ⟨hV.trans he.symm, rfl⟩ hP hS dX2_faultIn_183
                          · have he := ite_f he (fun q => q hc_658)
                            refine lv_iload_n hx hb dX2_faultIn_169 rfl (lv_at hl 3 rfl) ?_
                            refine lv_if_le (tgt := 181) hx hb dX2_faultIn_170 (by decide) (fun hc_659 => ?_) (fun hc_659 => ?_)
                            · have he := ite_t he hc_659
                              refine lv_iload hx hb dX2_faultIn_181 (lv_at hl 6 rfl) ?_
                              exact hret _ _ _ _ _ _ ⟨hV.trans he.symm, rfl⟩ hP hS dX2_faultIn_183
                            · have he := ite_f he hc_659
                              obtain ⟨y_660, ey_660⟩ : ∃ y_660 : Int32, y_660 = v_594 + (-1) := ⟨_, rfl⟩
                              have he := bnd_at he ey_660
                              refine lv_iinc (v := y_660) (lv' := [(2, .int y_660), (6, .int y_608), (0, .ref (ad a1)), (1, .int a2), (3, .int v_595), (4, .int v_596), (5, .int v_597)]) hx hb dX2_faultIn_173 hl (k := 3) rfl (by rw [ey_660]; rfl) (by decide) rfl (fun ls hl => ?_)
                              refine lv_iconst (v := 0) hx hb dX2_faultIn_176 (by decide) ?_
                              refine lv_istore_n (lv' := [(3, .int 0), (2, .int y_660), (6, .int y_608), (0, .ref (ad a1)), (1, .int a2), (4, .int v_596), (5, .int v_597)]) hx hb dX2_faultIn_177 rfl hl (by decide) rfl (fun ls hl => ?_)
                              refine lv_goto (tgt := 184) hx hb dX2_faultIn_178 (by decide) ?_
                              obtain ⟨y_661, ey_661⟩ : ∃ y_661 : Int32, y_661 = v_597 + 1 := ⟨_, rfl⟩
                              have he := bnd_at he ey_661
                              refine lv_iinc (v := y_661) (lv' := [(5, .int y_661), (3, .int 0), (2, .int y_660), (6, .int y_608), (0, .ref (ad a1)), (1, .int a2), (4, .int v_596)]) hx hb dX2_faultIn_184 hl (k := 6) rfl (by rw [ey_661]; rfl) (by decide) rfl (fun ls hl => ?_)
                              refine lv_goto (tgt := 10) hx hb dX2_faultIn_187 (by decide) ?_
                              exact ih _ _ _ _ _ _ _ zv_596 (by rw [ey_661, inc_I (N := 100) (nle_I hc_603) (by decide)]; omega) (by rw [ey_661]; exact mu_I hμ (nle_I hc_603) (by decide)) he hP hS (lv_sub hl [4, 5, 2, 1, 6, 0] rfl)
                      · have he := ite_f he hc_656
                        refine lv_iconst (v := 1) hx hb dX2_faultIn_151 (by decide) ?_
                        refine lv_istore (lv' := [(4, .int 1), (6, .int y_608), (0, .ref (ad a1)), (1, .int a2), (2, .int v_594), (3, .int v_595), (5, .int v_597)]) hx hb dX2_faultIn_152 hl (by decide) rfl (fun ls hl => ?_)
                        refine lv_goto (tgt := 184) hx hb dX2_faultIn_154 (by decide) ?_
                        obtain ⟨y_662, ey_662⟩ : ∃ y_662 : Int32, y_662 = v_597 + 1 := ⟨_, rfl⟩
                        have he := bnd_at he ey_662
                        refine lv_iinc (v := y_662) (lv' := [(5, .int y_662), (4, .int 1), (6, .int y_608), (0, .ref (ad a1)), (1, .int a2), (2, .int v_594), (3, .int v_595)]) hx hb dX2_faultIn_184 hl (k := 6) rfl (by rw [ey_662]; rfl) (by decide) rfl (fun ls hl => ?_)
                        refine lv_goto (tgt := 10) hx hb dX2_faultIn_187 (by decide) ?_
                        exact ih _ _ _ _ _ _ _ (Or.inr rfl) (by rw [ey_662, inc_I (N := 100) (nle_I hc_603) (by decide)]; omega) (by rw [ey_662]; exact mu_I hμ (nle_I hc_603) (by decide)) he hP hS (lv_sub hl [3, 4, 5, 6, 1, 0] rfl)
                · have he := ite_f he hc_639
                  refine lv_iload_n hx hb dX2_faultIn_120 rfl (lv_at hl 4 rfl) ?_
                  refine lv_if_le (tgt := 130) hx hb dX2_faultIn_121 (by decide) (fun hc_663 => ?_) (fun hc_663 => ?_)
                  · have he := ite_t he hc_663
                    refine lv_iload hx hb dX2_faultIn_130 (lv_at hl 5 rfl) ?_
                    refine lv_if_ne (tgt := 157) hx hb dX2_faultIn_132 (by decide) (fun hc_664 => ?_) (fun hc_664 => ?_)
                    · have he := ite_t he hc_664
                      refine lv_iload hx hb dX2_faultIn_157 (lv_at hl 5 rfl) ?_
                      refine lv_if_ne (tgt := 181) hx hb dX2_faultIn_159 (by decide) (fun hc_665 => ?_) (fun hc_665 => ?_)
                      · have he := ite_t he hc_665
                        refine lv_iload hx hb dX2_faultIn_181 (lv_at hl 6 rfl) ?_
                        exact hret _ _ _ _ _ _ ⟨hV.trans he.symm, rfl⟩ hP hS dX2_faultIn_183
                      · have he := ite_f he (fun q => q hc_665)
                        refine lv_iload hx hb dX2_faultIn_162 (lv_at hl 0 rfl) ?_
                        refine lv_bipush (v := 41) hx hb dX2_faultIn_164 (by decide) ?_
                        refine lv_icmp_ne (tgt := 181) hx hb dX2_faultIn_166 (by decide) (fun hc_666 => ?_) (fun hc_666 => ?_)
                        · have he := ite_t he hc_666
                          refine lv_iload hx hb dX2_faultIn_181 (lv_at hl 6 rfl) ?_
                          exact hret _ _ _ _ _ _ ⟨hV.trans he.symm, rfl⟩ hP hS dX2_faultIn_183
                        · have he := ite_f he (fun q => q hc_666)
                          refine lv_iload_n hx hb dX2_faultIn_169 rfl (lv_at hl 3 rfl) ?_
                          refine lv_if_le (tgt := 181) hx hb dX2_faultIn_170 (by decide) (fun hc_667 => ?_) (fun hc_667 => ?_)
                          · have he := ite_t he hc_667
                            refine lv_iload hx hb dX2_faultIn_181 (lv_at hl 6 rfl) ?_
                            exact hret _ _ _ _ _ _ ⟨hV.trans he.symm, rfl⟩ hP hS dX2_faultIn_183
                          · have he := ite_f he hc_667
                            obtain ⟨y_668, ey_668⟩ : ∃ y_668 : Int32, y_668 = v_594 + (-1) := ⟨_, rfl⟩
                            have he := bnd_at he ey_668
                            refine lv_iinc (v := y_668) (lv' := [(2, .int y_668), (6, .int y_608), (0, .ref (ad a1)), (1, .int a2), (3, .int v_595), (4, .int v_596), (5, .int v_597)]) hx hb dX2_faultIn_173 hl (k := 3) rfl (by rw [ey_668]; rfl) (by decide) rfl (fun ls hl => ?_)
                            refine lv_iconst (v := 0) hx hb dX2_faultIn_176 (by decide) ?_
                            refine lv_istore_n (lv' := [(3, .int 0), (2, .int y_668), (6, .int y_608), (0, .ref (ad a1)), (1, .int a2), (4, .int v_596), (5, .int v_597)]) hx hb dX2_faultIn_177 rfl hl (by decide) rfl (fun ls hl => ?_)
                            refine lv_goto (tgt := 184) hx hb dX2_faultIn_178 (by decide) ?_
                            obtain ⟨y_669, ey_669⟩ : ∃ y_669 : Int32, y_669 = v_597 + 1 := ⟨_, rfl⟩
                            have he := bnd_at he ey_669
                            refine lv_iinc (v := y_669) (lv' := [(5, .int y_669), (3, .int 0), (2, .int y_668), (6, .int y_608), (0, .ref (ad a1)), (1, .int a2), (4, .int v_596)]) hx hb dX2_faultIn_184 hl (k := 6) rfl (by rw [ey_669]; rfl) (by decide) rfl (fun ls hl => ?_)
                            refine lv_goto (tgt := 10) hx hb dX2_faultIn_187 (by decide) ?_
                            exact ih _ _ _ _ _ _ _ zv_596 (by rw [ey_669, inc_I (N := 100) (nle_I hc_603) (by decide)]; omega) (by rw [ey_669]; exact mu_I hμ (nle_I hc_603) (by decide)) he hP hS (lv_sub hl [4, 5, 2, 1, 6, 0] rfl)
                    · have he := ite_f he (fun q => q hc_664)
                      refine lv_iload hx hb dX2_faultIn_135 (lv_at hl 0 rfl) ?_
                      refine callS_i [.int y_608] [] hx hb hml hG hown hK (c_X2_isSumSign had (M := M)  y_608) gw_8_17 gm_X2_isSumSign gd_X2_isSumSign rfl rfl ⟨Nat.le_of_ble_eq_true rfl, Nat.le_of_ble_eq_true rfl⟩ ⟨Nat.le_refl _, Nat.le_refl _⟩ hP (fun _ h => h) hS rfl hl.1 rfl (Nat.le_of_ble_eq_true rfl) dX2_faultIn_137 (fun r_670 u_672 H locs hF_671 hP hS => ?_)
                      obtain ⟨hz_673, hF_671, hu⟩ := hF_671; rw [hu] at hP; subst hF_671
                      refine lv_if_ne (tgt := 151) hx hb dX2_faultIn_140 (by decide) (fun hc_674 => ?_) (fun hc_674 => ?_)
                      · have he := ite_t he hc_674
                        refine lv_iconst (v := 1) hx hb dX2_faultIn_151 (by decide) ?_
                        refine lv_istore (lv' := [(4, .int 1), (6, .int y_608), (0, .ref (ad a1)), (1, .int a2), (2, .int v_594), (3, .int v_595), (5, .int v_597)]) hx hb dX2_faultIn_152 hl (by decide) rfl (fun ls hl => ?_)
                        refine lv_goto (tgt := 184) hx hb dX2_faultIn_154 (by decide) ?_
                        obtain ⟨y_675, ey_675⟩ : ∃ y_675 : Int32, y_675 = v_597 + 1 := ⟨_, rfl⟩
                        have he := bnd_at he ey_675
                        refine lv_iinc (v := y_675) (lv' := [(5, .int y_675), (4, .int 1), (6, .int y_608), (0, .ref (ad a1)), (1, .int a2), (2, .int v_594), (3, .int v_595)]) hx hb dX2_faultIn_184 hl (k := 6) rfl (by rw [ey_675]; rfl) (by decide) rfl (fun ls hl => ?_)
                        refine lv_goto (tgt := 10) hx hb dX2_faultIn_187 (by decide) ?_
                        exact ih _ _ _ _ _ _ _ (Or.inr rfl) (by rw [ey_675, inc_I (N := 100) (nle_I hc_603) (by decide)]; omega) (by rw [ey_675]; exact mu_I hμ (nle_I hc_603) (by decide)) he hP hS (lv_sub hl [3, 4, 5, 6, 1, 0] rfl)
                      · have he := ite_f he (fun q => q hc_674)
                        refine lv_iload hx hb dX2_faultIn_143 (lv_at hl 0 rfl) ?_
                        refine callS_i [.int y_608] [] hx hb hml hG hown hK (c_X2_isProductSign had (M := M)  y_608) gw_8_20 gm_X2_isProductSign gd_X2_isProductSign rfl rfl ⟨Nat.le_of_ble_eq_true rfl, Nat.le_of_ble_eq_true rfl⟩ ⟨Nat.le_refl _, Nat.le_refl _⟩ hP (fun _ h => h) hS rfl hl.1 rfl (Nat.le_of_ble_eq_true rfl) dX2_faultIn_145 (fun r_676 u_678 H locs hF_677 hP hS => ?_)
                        obtain ⟨hz_679, hF_677, hu⟩ := hF_677; rw [hu] at hP; subst hF_677
                        refine lv_if_eq (tgt := 157) hx hb dX2_faultIn_148 (by decide) (fun hc_680 => ?_) (fun hc_680 => ?_)
                        · have he := ite_t he hc_680
                          refine lv_iload hx hb dX2_faultIn_157 (lv_at hl 5 rfl) ?_
                          refine lv_if_ne (tgt := 181) hx hb dX2_faultIn_159 (by decide) (fun hc_681 => ?_) (fun hc_681 => ?_)
                          · have he := ite_t he hc_681
                            refine lv_iload hx hb dX2_faultIn_181 (lv_at hl 6 rfl) ?_
                            exact hret _ _ _ _ _ _ ⟨hV.trans he.symm, rfl⟩ hP hS dX2_faultIn_183
                          · have he := ite_f he (fun q => q hc_681)
                            refine lv_iload hx hb dX2_faultIn_162 (lv_at hl 0 rfl) ?_
                            refine lv_bipush (v := 41) hx hb dX2_faultIn_164 (by decide) ?_
                            refine lv_icmp_ne (tgt := 181) hx hb dX2_faultIn_166 (by decide) (fun hc_682 => ?_) (fun hc_682 => ?_)
                            · have he := ite_t he hc_682
                              refine lv_iload hx hb dX2_faultIn_181 (lv_at hl 6 rfl) ?_
                              exact hret _ _ _ _ _ _ ⟨hV.trans he.symm, rfl⟩ hP hS dX2_faultIn_183
                            · have he := ite_f he (fun q => q hc_682)
                              refine lv_iload_n hx hb dX2_faultIn_169 rfl (lv_at hl 3 rfl) ?_
                              refine lv_if_le (tgt := 181) hx hb dX2_faultIn_170 (by decide) (fun hc_683 => ?_) (fun hc_683 => ?_)
                              · have he := ite_t he hc_683
                                refine lv_iload hx hb dX2_faultIn_181 (lv_at hl 6 rfl) ?_
                                exact hret _ _ _ _ _ _ ⟨hV.trans he.symm, rfl⟩ hP hS dX2_faultIn_183
                              · have he := ite_f he hc_683
                                obtain ⟨y_684, ey_684⟩ : ∃ y_684 : Int32, y_684 = v_594 + (-1) := ⟨_, rfl⟩
                                have he := bnd_at he ey_684
                                refine lv_iinc (v := y_684) (lv' := [(2, .int y_684), (6, .int y_608), (0, .ref (ad a1)), (1, .int a2), (3, .int v_595), (4, .int v_596), (5, .int v_597)]) hx hb dX2_faultIn_173 hl (k := 3) rfl (by rw [ey_684]; rfl) (by decide) rfl (fun ls hl => ?_)
                                refine lv_iconst (v := 0) hx hb dX2_faultIn_176 (by decide) ?_
                                refine lv_istore_n (lv' := [(3, .int 0), (2, .int y_684), (6, .int y_608), (0, .ref (ad a1)), (1, .int a2), (4, .int v_596), (5, .int v_597)]) hx hb dX2_faultIn_177 rfl hl (by decide) rfl (fun ls hl => ?_)
                                refine lv_goto (tgt := 184) hx hb dX2_faultIn_178 (by decide) ?_
                                obtain ⟨y_685, ey_685⟩ : ∃ y_685 : Int32, y_685 = v_597 + 1 := ⟨_, rfl⟩
                                have he := bnd_at he ey_685
                                refine lv_iinc (v := y_685) (lv' := [(5, .int y_685), (3, .int 0), (2, .int y_684), (6, .int y_608), (0, .ref (ad a1)), (1, .int a2), (4, .int v_596)]) hx hb dX2_faultIn_184 hl (k := 6) rfl (by rw [ey_685]; rfl) (by decide) rfl (fun ls hl => ?_)
                                refine lv_goto (tgt := 10) hx hb dX2_faultIn_187 (by decide) ?_
                                exact ih _ _ _ _ _ _ _ zv_596 (by rw [ey_685, inc_I (N := 100) (nle_I hc_603) (by decide)]; omega) (by rw [ey_685]; exact mu_I hμ (nle_I hc_603) (by decide)) he hP hS (lv_sub hl [4, 5, 2, 1, 6, 0] rfl)
                        · have he := ite_f he hc_680
                          refine lv_iconst (v := 1) hx hb dX2_faultIn_151 (by decide) ?_
                          refine lv_istore (lv' := [(4, .int 1), (6, .int y_608), (0, .ref (ad a1)), (1, .int a2), (2, .int v_594), (3, .int v_595), (5, .int v_597)]) hx hb dX2_faultIn_152 hl (by decide) rfl (fun ls hl => ?_)
                          refine lv_goto (tgt := 184) hx hb dX2_faultIn_154 (by decide) ?_
                          obtain ⟨y_686, ey_686⟩ : ∃ y_686 : Int32, y_686 = v_597 + 1 := ⟨_, rfl⟩
                          have he := bnd_at he ey_686
                          refine lv_iinc (v := y_686) (lv' := [(5, .int y_686), (4, .int 1), (6, .int y_608), (0, .ref (ad a1)), (1, .int a2), (2, .int v_594), (3, .int v_595)]) hx hb dX2_faultIn_184 hl (k := 6) rfl (by rw [ey_686]; rfl) (by decide) rfl (fun ls hl => ?_)
                          refine lv_goto (tgt := 10) hx hb dX2_faultIn_187 (by decide) ?_
                          exact ih _ _ _ _ _ _ _ (Or.inr rfl) (by rw [ey_686, inc_I (N := 100) (nle_I hc_603) (by decide)]; omega) (by rw [ey_686]; exact mu_I hμ (nle_I hc_603) (by decide)) he hP hS (lv_sub hl [3, 4, 5, 6, 1, 0] rfl)
                  · have he := ite_f he hc_663
                    obtain ⟨y_687, ey_687⟩ : ∃ y_687 : Int32, y_687 = v_595 + (-1) := ⟨_, rfl⟩
                    have he := bnd_at he ey_687
                    refine lv_iinc (v := y_687) (lv' := [(3, .int y_687), (6, .int y_608), (0, .ref (ad a1)), (1, .int a2), (2, .int v_594), (4, .int v_596), (5, .int v_597)]) hx hb dX2_faultIn_124 hl (k := 4) rfl (by rw [ey_687]; rfl) (by decide) rfl (fun ls hl => ?_)
                    refine lv_goto (tgt := 184) hx hb dX2_faultIn_127 (by decide) ?_
                    obtain ⟨y_688, ey_688⟩ : ∃ y_688 : Int32, y_688 = v_597 + 1 := ⟨_, rfl⟩
                    have he := bnd_at he ey_688
                    refine lv_iinc (v := y_688) (lv' := [(5, .int y_688), (3, .int y_687), (6, .int y_608), (0, .ref (ad a1)), (1, .int a2), (2, .int v_594), (4, .int v_596)]) hx hb dX2_faultIn_184 hl (k := 6) rfl (by rw [ey_688]; rfl) (by decide) rfl (fun ls hl => ?_)
                    refine lv_goto (tgt := 10) hx hb dX2_faultIn_187 (by decide) ?_
                    exact ih _ _ _ _ _ _ _ zv_596 (by rw [ey_688, inc_I (N := 100) (nle_I hc_603) (by decide)]; omega) (by rw [ey_688]; exact mu_I hμ (nle_I hc_603) (by decide)) he hP hS (lv_sub hl [3, 4, 5, 1, 6, 0] rfl)
            · have he := ite_f he hc_610
              refine lv_iload hx hb dX2_faultIn_58 (lv_at hl 0 rfl) ?_
              refine callS_i [.int y_608] [] hx hb hml hG hown hK (c_X2_isDigit had (M := M)  y_608) gw_8_14 gm_X2_isDigit gd_X2_isDigit rfl rfl ⟨Nat.le_of_ble_eq_true rfl, Nat.le_of_ble_eq_true rfl⟩ ⟨Nat.le_refl _, Nat.le_refl _⟩ hP (fun _ h => h) hS rfl hl.1 rfl (Nat.le_of_ble_eq_true rfl) dX2_faultIn_60 (fun r_689 u_691 H locs hF_690 hP hS => ?_)
              obtain ⟨hz_692, hF_690, hu⟩ := hF_690; rw [hu] at hP; subst hF_690
              refine lv_if_ne (tgt := 80) hx hb dX2_faultIn_63 (by decide) (fun hc_693 => ?_) (fun hc_693 => ?_)
              · have he := ite_t he hc_693
                refine lv_iconst (v := 0) hx hb dX2_faultIn_80 (by decide) ?_
                refine lv_istore (lv' := [(4, .int 0), (6, .int y_608), (0, .ref (ad a1)), (1, .int a2), (2, .int v_594), (3, .int v_595), (5, .int v_597)]) hx hb dX2_faultIn_81 hl (by decide) rfl (fun ls hl => ?_)
                refine lv_iload hx hb dX2_faultIn_83 (lv_at hl 1 rfl) ?_
                refine callS_i [.int y_608] [] hx hb hml hG hown hK (c_X2_isDigit had (M := M)  y_608) gw_8_14 gm_X2_isDigit gd_X2_isDigit rfl rfl ⟨Nat.le_of_ble_eq_true rfl, Nat.le_of_ble_eq_true rfl⟩ ⟨Nat.le_refl _, Nat.le_refl _⟩ hP (fun _ h => h) hS rfl hl.1 rfl (Nat.le_of_ble_eq_true rfl) dX2_faultIn_85 (fun r_694 u_696 H locs hF_695 hP hS => ?_)
                obtain ⟨hz_697, hF_695, hu⟩ := hF_695; rw [hu] at hP; subst hF_695
                obtain ⟨t_701, hr_699, he⟩ := bnd_ex he
                have j103 : ∀ (H : Heap) (locs : List Loc) (ls : Array Slot), va_P D vwCl (wld 74 ad (cC ad k M)) H → va_S (AW 74 ad) s.heap H locs → lv_has ls 7 [(0, .ref (ad a1)), (1, .int a2), (2, .int v_594), (4, .int 0), (5, .int v_597)] → W p l e rm_X2_faultIn s m args below meth c H locs 0 0 Q (F0 m 103 ls [.int t_701]) := by
                  intro H locs ls hP hS hl
                  refine lv_istore_n (lv' := [(3, .int t_701), (0, .ref (ad a1)), (1, .int a2), (2, .int v_594), (4, .int 0), (5, .int v_597)]) hx hb dX2_faultIn_103 rfl hl (by decide) rfl (fun ls hl => ?_)
                  refine lv_goto (tgt := 184) hx hb dX2_faultIn_104 (by decide) ?_
                  obtain ⟨y_702, ey_702⟩ : ∃ y_702 : Int32, y_702 = v_597 + 1 := ⟨_, rfl⟩
                  have he := bnd_at he ey_702
                  refine lv_iinc (v := y_702) (lv' := [(5, .int y_702), (3, .int t_701), (0, .ref (ad a1)), (1, .int a2), (2, .int v_594), (4, .int 0)]) hx hb dX2_faultIn_184 hl (k := 5) rfl (by rw [ey_702]; rfl) (by decide) rfl (fun ls hl => ?_)
                  refine lv_goto (tgt := 10) hx hb dX2_faultIn_187 (by decide) ?_
                  exact ih _ _ _ _ _ _ _ (Or.inl rfl) (by rw [ey_702, inc_I (N := 100) (nle_I hc_603) (by decide)]; omega) (by rw [ey_702]; exact mu_I hμ (nle_I hc_603) (by decide)) he hP hS (lv_sub hl [2, 3, 4, 1, 5, 0] rfl)
                refine lv_if_eq (tgt := 102) hx hb dX2_faultIn_88 (by decide) (fun hc_698 => ?_) (fun hc_698 => ?_)
                · have hr_699 := ite_t hr_699 hc_698
                  refine lv_iconst (v := 0) hx hb dX2_faultIn_102 (by decide) ?_
                  cases hr_699
                  exact j103 _ _ _ hP hS (lv_sub hl [2, 3, 4, 0, 6] rfl)
                · have hr_699 := ite_f hr_699 hc_698
                  refine lv_iload hx hb dX2_faultIn_91 (lv_at hl 1 rfl) ?_
                  refine lv_bipush (v := 48) hx hb dX2_faultIn_93 (by decide) ?_
                  refine lv_icmp_eq (tgt := 102) hx hb dX2_faultIn_95 (by decide) (fun hc_700 => ?_) (fun hc_700 => ?_)
                  · have hr_699 := ite_t hr_699 hc_700
                    refine lv_iconst (v := 0) hx hb dX2_faultIn_102 (by decide) ?_
                    cases hr_699
                    exact j103 _ _ _ hP hS (lv_sub hl [2, 3, 4, 0, 6] rfl)
                  · have hr_699 := ite_f hr_699 hc_700
                    refine lv_iconst (v := 2) hx hb dX2_faultIn_98 (by decide) ?_
                    refine lv_goto (tgt := 103) hx hb dX2_faultIn_99 (by decide) ?_
                    cases hr_699
                    exact j103 _ _ _ hP hS (lv_sub hl [2, 3, 4, 0, 6] rfl)
              · have he := ite_f he (fun q => q hc_693)
                refine lv_iload hx hb dX2_faultIn_66 (lv_at hl 0 rfl) ?_
                refine lv_bipush (v := 116) hx hb dX2_faultIn_68 (by decide) ?_
                refine lv_icmp_eq (tgt := 80) hx hb dX2_faultIn_70 (by decide) (fun hc_703 => ?_) (fun hc_703 => ?_)
                · have he := ite_t he hc_703
                  refine lv_iconst (v := 0) hx hb dX2_faultIn_80 (by decide) ?_
                  refine lv_istore (lv' := [(4, .int 0), (6, .int y_608), (0, .ref (ad a1)), (1, .int a2), (2, .int v_594), (3, .int v_595), (5, .int v_597)]) hx hb dX2_faultIn_81 hl (by decide) rfl (fun ls hl => ?_)
                  refine lv_iload hx hb dX2_faultIn_83 (lv_at hl 1 rfl) ?_
                  refine callS_i [.int y_608] [] hx hb hml hG hown hK (c_X2_isDigit had (M := M)  y_608) gw_8_14 gm_X2_isDigit gd_X2_isDigit rfl rfl ⟨Nat.le_of_ble_eq_true rfl, Nat.le_of_ble_eq_true rfl⟩ ⟨Nat.le_refl _, Nat.le_refl _⟩ hP (fun _ h => h) hS rfl hl.1 rfl (Nat.le_of_ble_eq_true rfl) dX2_faultIn_85 (fun r_704 u_706 H locs hF_705 hP hS => ?_)
                  obtain ⟨hz_707, hF_705, hu⟩ := hF_705; rw [hu] at hP; subst hF_705
                  obtain ⟨t_711, hr_709, he⟩ := bnd_ex he
                  have j103 : ∀ (H : Heap) (locs : List Loc) (ls : Array Slot), va_P D vwCl (wld 74 ad (cC ad k M)) H → va_S (AW 74 ad) s.heap H locs → lv_has ls 7 [(0, .ref (ad a1)), (1, .int a2), (2, .int v_594), (4, .int 0), (5, .int v_597)] → W p l e rm_X2_faultIn s m args below meth c H locs 0 0 Q (F0 m 103 ls [.int t_711]) := by
                    intro H locs ls hP hS hl
                    refine lv_istore_n (lv' := [(3, .int t_711), (0, .ref (ad a1)), (1, .int a2), (2, .int v_594), (4, .int 0), (5, .int v_597)]) hx hb dX2_faultIn_103 rfl hl (by decide) rfl (fun ls hl => ?_)
                    refine lv_goto (tgt := 184) hx hb dX2_faultIn_104 (by decide) ?_
                    obtain ⟨y_712, ey_712⟩ : ∃ y_712 : Int32, y_712 = v_597 + 1 := ⟨_, rfl⟩
                    have he := bnd_at he ey_712
                    refine lv_iinc (v := y_712) (lv' := [(5, .int y_712), (3, .int t_711), (0, .ref (ad a1)), (1, .int a2), (2, .int v_594), (4, .int 0)]) hx hb dX2_faultIn_184 hl (k := 5) rfl (by rw [ey_712]; rfl) (by decide) rfl (fun ls hl => ?_)
                    refine lv_goto (tgt := 10) hx hb dX2_faultIn_187 (by decide) ?_
                    exact ih _ _ _ _ _ _ _ (Or.inl rfl) (by rw [ey_712, inc_I (N := 100) (nle_I hc_603) (by decide)]; omega) (by rw [ey_712]; exact mu_I hμ (nle_I hc_603) (by decide)) he hP hS (lv_sub hl [2, 3, 4, 1, 5, 0] rfl)
                  refine lv_if_eq (tgt := 102) hx hb dX2_faultIn_88 (by decide) (fun hc_708 => ?_) (fun hc_708 => ?_)
                  · have hr_709 := ite_t hr_709 hc_708
                    refine lv_iconst (v := 0) hx hb dX2_faultIn_102 (by decide) ?_
                    cases hr_709
                    exact j103 _ _ _ hP hS (lv_sub hl [2, 3, 4, 0, 6] rfl)
                  · have hr_709 := ite_f hr_709 hc_708
                    refine lv_iload hx hb dX2_faultIn_91 (lv_at hl 1 rfl) ?_
                    refine lv_bipush (v := 48) hx hb dX2_faultIn_93 (by decide) ?_
                    refine lv_icmp_eq (tgt := 102) hx hb dX2_faultIn_95 (by decide) (fun hc_710 => ?_) (fun hc_710 => ?_)
                    · have hr_709 := ite_t hr_709 hc_710
                      refine lv_iconst (v := 0) hx hb dX2_faultIn_102 (by decide) ?_
                      cases hr_709
                      exact j103 _ _ _ hP hS (lv_sub hl [2, 3, 4, 0, 6] rfl)
                    · have hr_709 := ite_f hr_709 hc_710
                      refine lv_iconst (v := 2) hx hb dX2_faultIn_98 (by decide) ?_
                      refine lv_goto (tgt := 103) hx hb dX2_faultIn_99 (by decide) ?_
                      cases hr_709
                      exact j103 _ _ _ hP hS (lv_sub hl [2, 3, 4, 0, 6] rfl)
                · have he := ite_f he hc_703
                  refine lv_iload hx hb dX2_faultIn_73 (lv_at hl 0 rfl) ?_
                  refine lv_bipush (v := 115) hx hb dX2_faultIn_75 (by decide) ?_
                  refine lv_icmp_ne (tgt := 107) hx hb dX2_faultIn_77 (by decide) (fun hc_713 => ?_) (fun hc_713 => ?_)
                  · have he := ite_t he hc_713
                    refine lv_iload hx hb dX2_faultIn_107 (lv_at hl 5 rfl) ?_
                    refine lv_if_ne (tgt := 130) hx hb dX2_faultIn_109 (by decide) (fun hc_714 => ?_) (fun hc_714 => ?_)
                    · have he := ite_t he hc_714
                      refine lv_iload hx hb dX2_faultIn_130 (lv_at hl 5 rfl) ?_
                      refine lv_if_ne (tgt := 157) hx hb dX2_faultIn_132 (by decide) (fun hc_715 => ?_) (fun hc_715 => ?_)
                      · have he := ite_t he hc_715
                        refine lv_iload hx hb dX2_faultIn_157 (lv_at hl 5 rfl) ?_
                        refine lv_if_ne (tgt := 181) hx hb dX2_faultIn_159 (by decide) (fun hc_716 => ?_) (fun hc_716 => ?_)
                        · have he := ite_t he hc_716
                          refine lv_iload hx hb dX2_faultIn_181 (lv_at hl 6 rfl) ?_
                          exact hret _ _ _ _ _ _ ⟨hV.trans he.symm, rfl⟩ hP hS dX2_faultIn_183
                        · have he := ite_f he (fun q => q hc_716)
                          refine lv_iload hx hb dX2_faultIn_162 (lv_at hl 0 rfl) ?_
                          refine lv_bipush (v := 41) hx hb dX2_faultIn_164 (by decide) ?_
                          refine lv_icmp_ne (tgt := 181) hx hb dX2_faultIn_166 (by decide) (fun hc_717 => ?_) (fun hc_717 => ?_)
                          · have he := ite_t he hc_717
                            refine lv_iload hx hb dX2_faultIn_181 (lv_at hl 6 rfl) ?_
                            exact hret _ _ _ _ _ _ ⟨hV.trans he.symm, rfl⟩ hP hS dX2_faultIn_183
                          · have he := ite_f he (fun q => q hc_717)
                            refine lv_iload_n hx hb dX2_faultIn_169 rfl (lv_at hl 3 rfl) ?_
                            refine lv_if_le (tgt := 181) hx hb dX2_faultIn_170 (by decide) (fun hc_718 => ?_) (fun hc_718 => ?_)
                            · have he := ite_t he hc_718
                              refine lv_iload hx hb dX2_faultIn_181 (lv_at hl 6 rfl) ?_
                              exact hret _ _ _ _ _ _ ⟨hV.trans he.symm, rfl⟩ hP hS dX2_faultIn_183
                            · have he := ite_f he hc_718
                              obtain ⟨y_719, ey_719⟩ : ∃ y_719 : Int32, y_719 = v_594 + (-1) := ⟨_, rfl⟩
                              have he := bnd_at he ey_719
                              refine lv_iinc (v := y_719) (lv' := [(2, .int y_719), (6, .int y_608), (0, .ref (ad a1)), (1, .int a2), (3, .int v_595), (4, .int v_596), (5, .int v_597)]) hx hb dX2_faultIn_173 hl (k := 3) rfl (by rw [ey_719]; rfl) (by decide) rfl (fun ls hl => ?_)
                              refine lv_iconst (v := 0) hx hb dX2_faultIn_176 (by decide) ?_
                              refine lv_istore_n (lv' := [(3, .int 0), (2, .int y_719), (6, .int y_608), (0, .ref (ad a1)), (1, .int a2), (4, .int v_596), (5, .int v_597)]) hx hb dX2_faultIn_177 rfl hl (by decide) rfl (fun ls hl => ?_)
                              refine lv_goto (tgt := 184) hx hb dX2_faultIn_178 (by decide) ?_
                              obtain ⟨y_720, ey_720⟩ : ∃ y_720 : Int32, y_720 = v_597 + 1 := ⟨_, rfl⟩
                              have he := bnd_at he ey_720
                              refine lv_iinc (v := y_720) (lv' := [(5, .int y_720), (3, .int 0), (2, .int y_719), (6, .int y_608), (0, .ref (ad a1)), (1, .int a2), (4, .int v_596)]) hx hb dX2_faultIn_184 hl (k := 6) rfl (by rw [ey_720]; rfl) (by decide) rfl (fun ls hl => ?_)
                              refine lv_goto (tgt := 10) hx hb dX2_faultIn_187 (by decide) ?_
                              exact ih _ _ _ _ _ _ _ zv_596 (by rw [ey_720, inc_I (N := 100) (nle_I hc_603) (by decide)]; omega) (by rw [ey_720]; exact mu_I hμ (nle_I hc_603) (by decide)) he hP hS (lv_sub hl [4, 5, 2, 1, 6, 0] rfl)
                      · have he := ite_f he (fun q => q hc_715)
                        refine lv_iload hx hb dX2_faultIn_135 (lv_at hl 0 rfl) ?_
                        refine callS_i [.int y_608] [] hx hb hml hG hown hK (c_X2_isSumSign had (M := M)  y_608) gw_8_17 gm_X2_isSumSign gd_X2_isSumSign rfl rfl ⟨Nat.le_of_ble_eq_true rfl, Nat.le_of_ble_eq_true rfl⟩ ⟨Nat.le_refl _, Nat.le_refl _⟩ hP (fun _ h => h) hS rfl hl.1 rfl (Nat.le_of_ble_eq_true rfl) dX2_faultIn_137 (fun r_721 u_723 H locs hF_722 hP hS => ?_)
                        obtain ⟨hz_724, hF_722, hu⟩ := hF_722; rw [hu] at hP; subst hF_722
                        refine lv_if_ne (tgt := 151) hx hb dX2_faultIn_140 (by decide) (fun hc_725 => ?_) (fun hc_725 => ?_)
                        · have he := ite_t he hc_725
                          refine lv_iconst (v := 1) hx hb dX2_faultIn_151 (by decide) ?_
                          refine lv_istore (lv' := [(4, .int 1), (6, .int y_608), (0, .ref (ad a1)), (1, .int a2), (2, .int v_594), (3, .int v_595), (5, .int v_597)]) hx hb dX2_faultIn_152 hl (by decide) rfl (fun ls hl => ?_)
                          refine lv_goto (tgt := 184) hx hb dX2_faultIn_154 (by decide) ?_
                          obtain ⟨y_726, ey_726⟩ : ∃ y_726 : Int32, y_726 = v_597 + 1 := ⟨_, rfl⟩
                          have he := bnd_at he ey_726
                          refine lv_iinc (v := y_726) (lv' := [(5, .int y_726), (4, .int 1), (6, .int y_608), (0, .ref (ad a1)), (1, .int a2), (2, .int v_594), (3, .int v_595)]) hx hb dX2_faultIn_184 hl (k := 6) rfl (by rw [ey_726]; rfl) (by decide) rfl (fun ls hl => ?_)
                          refine lv_goto (tgt := 10) hx hb dX2_faultIn_187 (by decide) ?_
                          exact ih _ _ _ _ _ _ _ (Or.inr rfl) (by rw [ey_726, inc_I (N := 100) (nle_I hc_603) (by decide)]; omega) (by rw [ey_726]; exact mu_I hμ (nle_I hc_603) (by decide)) he hP hS (lv_sub hl [3, 4, 5, 6, 1, 0] rfl)
                        · have he := ite_f he (fun q => q hc_725)
                          refine lv_iload hx hb dX2_faultIn_143 (lv_at hl 0 rfl) ?_
                          refine callS_i [.int y_608] [] hx hb hml hG hown hK (c_X2_isProductSign had (M := M)  y_608) gw_8_20 gm_X2_isProductSign gd_X2_isProductSign rfl rfl ⟨Nat.le_of_ble_eq_true rfl, Nat.le_of_ble_eq_true rfl⟩ ⟨Nat.le_refl _, Nat.le_refl _⟩ hP (fun _ h => h) hS rfl hl.1 rfl (Nat.le_of_ble_eq_true rfl) dX2_faultIn_145 (fun r_727 u_729 H locs hF_728 hP hS => ?_)
                          obtain ⟨hz_730, hF_728, hu⟩ := hF_728; rw [hu] at hP; subst hF_728
                          refine lv_if_eq (tgt := 157) hx hb dX2_faultIn_148 (by decide) (fun hc_731 => ?_) (fun hc_731 => ?_)
                          · have he := ite_t he hc_731
                            refine lv_iload hx hb dX2_faultIn_157 (lv_at hl 5 rfl) ?_
                            refine lv_if_ne (tgt := 181) hx hb dX2_faultIn_159 (by decide) (fun hc_732 => ?_) (fun hc_732 => ?_)
                            · have he := ite_t he hc_732
                              refine lv_iload hx hb dX2_faultIn_181 (lv_at hl 6 rfl) ?_
                              exact hret _ _ _ _ _ _ ⟨hV.trans he.symm, rfl⟩ hP hS dX2_faultIn_183
                            · have he := ite_f he (fun q => q hc_732)
                              refine lv_iload hx hb dX2_faultIn_162 (lv_at hl 0 rfl) ?_
                              refine lv_bipush (v := 41) hx hb dX2_faultIn_164 (by decide) ?_
                              refine lv_icmp_ne (tgt := 181) hx hb dX2_faultIn_166 (by decide) (fun hc_733 => ?_) (fun hc_733 => ?_)
                              · have he := ite_t he hc_733
                                refine lv_iload hx hb dX2_faultIn_181 (lv_at hl 6 rfl) ?_
                                exact hret _ _ _ _ _ _ ⟨hV.trans he.symm, rfl⟩ hP hS dX2_faultIn_183
                              · have he := ite_f he (fun q => q hc_733)
                                refine lv_iload_n hx hb dX2_faultIn_169 rfl (lv_at hl 3 rfl) ?_
                                refine lv_if_le (tgt := 181) hx hb dX2_faultIn_170 (by decide) (fun hc_734 => ?_) (fun hc_734 => ?_)
                                · have he := ite_t he hc_734
                                  refine lv_iload hx hb dX2_faultIn_181 (lv_at hl 6 rfl) ?_
                                  exact hret _ _ _ _ _ _ ⟨hV.trans he.symm, rfl⟩ hP hS dX2_faultIn_183
                                · have he := ite_f he hc_734
                                  obtain ⟨y_735, ey_735⟩ : ∃ y_735 : Int32, y_735 = v_594 + (-1) := ⟨_, rfl⟩
                                  have he := bnd_at he ey_735
                                  refine lv_iinc (v := y_735) (lv' := [(2, .int y_735), (6, .int y_608), (0, .ref (ad a1)), (1, .int a2), (3, .int v_595), (4, .int v_596), (5, .int v_597)]) hx hb dX2_faultIn_173 hl (k := 3) rfl (by rw [ey_735]; rfl) (by decide) rfl (fun ls hl => ?_)
                                  refine lv_iconst (v := 0) hx hb dX2_faultIn_176 (by decide) ?_
                                  refine lv_istore_n (lv' := [(3, .int 0), (2, .int y_735), (6, .int y_608), (0, .ref (ad a1)), (1, .int a2), (4, .int v_596), (5, .int v_597)]) hx hb dX2_faultIn_177 rfl hl (by decide) rfl (fun ls hl => ?_)
                                  refine lv_goto (tgt := 184) hx hb dX2_faultIn_178 (by decide) ?_
                                  obtain ⟨y_736, ey_736⟩ : ∃ y_736 : Int32, y_736 = v_597 + 1 := ⟨_, rfl⟩
                                  have he := bnd_at he ey_736
                                  refine lv_iinc (v := y_736) (lv' := [(5, .int y_736), (3, .int 0), (2, .int y_735), (6, .int y_608), (0, .ref (ad a1)), (1, .int a2), (4, .int v_596)]) hx hb dX2_faultIn_184 hl (k := 6) rfl (by rw [ey_736]; rfl) (by decide) rfl (fun ls hl => ?_)
                                  refine lv_goto (tgt := 10) hx hb dX2_faultIn_187 (by decide) ?_
                                  exact ih _ _ _ _ _ _ _ zv_596 (by rw [ey_736, inc_I (N := 100) (nle_I hc_603) (by decide)]; omega) (by rw [ey_736]; exact mu_I hμ (nle_I hc_603) (by decide)) he hP hS (lv_sub hl [4, 5, 2, 1, 6, 0] rfl)
                          · have he := ite_f he hc_731
                            refine lv_iconst (v := 1) hx hb dX2_faultIn_151 (by decide) ?_
                            refine lv_istore (lv' := [(4, .int 1), (6, .int y_608), (0, .ref (ad a1)), (1, .int a2), (2, .int v_594), (3, .int v_595), (5, .int v_597)]) hx hb dX2_faultIn_152 hl (by decide) rfl (fun ls hl => ?_)
                            refine lv_goto (tgt := 184) hx hb dX2_faultIn_154 (by decide) ?_
                            obtain ⟨y_737, ey_737⟩ : ∃ y_737 : Int32, y_737 = v_597 + 1 := ⟨_, rfl⟩
                            have he := bnd_at he ey_737
                            refine lv_iinc (v := y_737) (lv' := [(5, .int y_737), (4, .int 1), (6, .int y_608), (0, .ref (ad a1)), (1, .int a2), (2, .int v_594), (3, .int v_595)]) hx hb dX2_faultIn_184 hl (k := 6) rfl (by rw [ey_737]; rfl) (by decide) rfl (fun ls hl => ?_)
                            refine lv_goto (tgt := 10) hx hb dX2_faultIn_187 (by decide) ?_
                            exact ih _ _ _ _ _ _ _ (Or.inr rfl) (by rw [ey_737, inc_I (N := 100) (nle_I hc_603) (by decide)]; omega) (by rw [ey_737]; exact mu_I hμ (nle_I hc_603) (by decide)) he hP hS (lv_sub hl [3, 4, 5, 6, 1, 0] rfl)
                    · have he := ite_f he (fun q => q hc_714)
                      refine lv_iload hx hb dX2_faultIn_112 (lv_at hl 0 rfl) ?_
                      refine callS_i [.int y_608] [] hx hb hml hG hown hK (c_X2_isDigit had (M := M)  y_608) gw_8_14 gm_X2_isDigit gd_X2_isDigit rfl rfl ⟨Nat.le_of_ble_eq_true rfl, Nat.le_of_ble_eq_true rfl⟩ ⟨Nat.le_refl _, Nat.le_refl _⟩ hP (fun _ h => h) hS rfl hl.1 rfl (Nat.le_of_ble_eq_true rfl) dX2_faultIn_114 (fun r_738 u_740 H locs hF_739 hP hS => ?_)
                      obtain ⟨hz_741, hF_739, hu⟩ := hF_739; rw [hu] at hP; subst hF_739
                      refine lv_if_eq (tgt := 130) hx hb dX2_faultIn_117 (by decide) (fun hc_742 => ?_) (fun hc_742 => ?_)
                      · have he := ite_t he hc_742
                        refine lv_iload hx hb dX2_faultIn_130 (lv_at hl 5 rfl) ?_
                        refine lv_if_ne (tgt := 157) hx hb dX2_faultIn_132 (by decide) (fun hc_743 => ?_) (fun hc_743 => ?_)
                        · have he := ite_t he hc_743
                          refine lv_iload hx hb dX2_faultIn_157 (lv_at hl 5 rfl) ?_
                          refine lv_if_ne (tgt := 181) hx hb dX2_faultIn_159 (by decide) (fun hc_744 => ?_) (fun hc_744 => ?_)
                          · have he := ite_t he hc_744
                            refine lv_iload hx hb dX2_faultIn_181 (lv_at hl 6 rfl) ?_
                            exact hret _ _ _ _ _ _ ⟨hV.trans he.symm, rfl⟩ hP hS dX2_faultIn_183
                          · have he := ite_f he (fun q => q hc_744)
                            refine lv_iload hx hb dX2_faultIn_162 (lv_at hl 0 rfl) ?_
                            refine lv_bipush (v := 41) hx hb dX2_faultIn_164 (by decide) ?_
                            refine lv_icmp_ne (tgt := 181) hx hb dX2_faultIn_166 (by decide) (fun hc_745 => ?_) (fun hc_745 => ?_)
                            · have he := ite_t he hc_745
                              refine lv_iload hx hb dX2_faultIn_181 (lv_at hl 6 rfl) ?_
                              exact hret _ _ _ _ _ _ ⟨hV.trans he.symm, rfl⟩ hP hS dX2_faultIn_183
                            · have he := ite_f he (fun q => q hc_745)
                              refine lv_iload_n hx hb dX2_faultIn_169 rfl (lv_at hl 3 rfl) ?_
                              refine lv_if_le (tgt := 181) hx hb dX2_faultIn_170 (by decide) (fun hc_746 => ?_) (fun hc_746 => ?_)
                              · have he := ite_t he hc_746
                                refine lv_iload hx hb dX2_faultIn_181 (lv_at hl 6 rfl) ?_
                                exact hret _ _ _ _ _ _ ⟨hV.trans he.symm, rfl⟩ hP hS dX2_faultIn_183
                              · have he := ite_f he hc_746
                                obtain ⟨y_747, ey_747⟩ : ∃ y_747 : Int32, y_747 = v_594 + (-1) := ⟨_, rfl⟩
                                have he := bnd_at he ey_747
                                refine lv_iinc (v := y_747) (lv' := [(2, .int y_747), (6, .int y_608), (0, .ref (ad a1)), (1, .int a2), (3, .int v_595), (4, .int v_596), (5, .int v_597)]) hx hb dX2_faultIn_173 hl (k := 3) rfl (by rw [ey_747]; rfl) (by decide) rfl (fun ls hl => ?_)
                                refine lv_iconst (v := 0) hx hb dX2_faultIn_176 (by decide) ?_
                                refine lv_istore_n (lv' := [(3, .int 0), (2, .int y_747), (6, .int y_608), (0, .ref (ad a1)), (1, .int a2), (4, .int v_596), (5, .int v_597)]) hx hb dX2_faultIn_177 rfl hl (by decide) rfl (fun ls hl => ?_)
                                refine lv_goto (tgt := 184) hx hb dX2_faultIn_178 (by decide) ?_
                                obtain ⟨y_748, ey_748⟩ : ∃ y_748 : Int32, y_748 = v_597 + 1 := ⟨_, rfl⟩
                                have he := bnd_at he ey_748
                                refine lv_iinc (v := y_748) (lv' := [(5, .int y_748), (3, .int 0), (2, .int y_747), (6, .int y_608), (0, .ref (ad a1)), (1, .int a2), (4, .int v_596)]) hx hb dX2_faultIn_184 hl (k := 6) rfl (by rw [ey_748]; rfl) (by decide) rfl (fun ls hl => ?_)
                                refine lv_goto (tgt := 10) hx hb dX2_faultIn_187 (by decide) ?_
                                exact ih _ _ _ _ _ _ _ zv_596 (by rw [ey_748, inc_I (N := 100) (nle_I hc_603) (by decide)]; omega) (by rw [ey_748]; exact mu_I hμ (nle_I hc_603) (by decide)) he hP hS (lv_sub hl [4, 5, 2, 1, 6, 0] rfl)
                        · have he := ite_f he (fun q => q hc_743)
                          refine lv_iload hx hb dX2_faultIn_135 (lv_at hl 0 rfl) ?_
                          refine callS_i [.int y_608] [] hx hb hml hG hown hK (c_X2_isSumSign had (M := M)  y_608) gw_8_17 gm_X2_isSumSign gd_X2_isSumSign rfl rfl ⟨Nat.le_of_ble_eq_true rfl, Nat.le_of_ble_eq_true rfl⟩ ⟨Nat.le_refl _, Nat.le_refl _⟩ hP (fun _ h => h) hS rfl hl.1 rfl (Nat.le_of_ble_eq_true rfl) dX2_faultIn_137 (fun r_749 u_751 H locs hF_750 hP hS => ?_)
                          obtain ⟨hz_752, hF_750, hu⟩ := hF_750; rw [hu] at hP; subst hF_750
                          refine lv_if_ne (tgt := 151) hx hb dX2_faultIn_140 (by decide) (fun hc_753 => ?_) (fun hc_753 => ?_)
                          · have he := ite_t he hc_753
                            refine lv_iconst (v := 1) hx hb dX2_faultIn_151 (by decide) ?_
                            refine lv_istore (lv' := [(4, .int 1), (6, .int y_608), (0, .ref (ad a1)), (1, .int a2), (2, .int v_594), (3, .int v_595), (5, .int v_597)]) hx hb dX2_faultIn_152 hl (by decide) rfl (fun ls hl => ?_)
                            refine lv_goto (tgt := 184) hx hb dX2_faultIn_154 (by decide) ?_
                            obtain ⟨y_754, ey_754⟩ : ∃ y_754 : Int32, y_754 = v_597 + 1 := ⟨_, rfl⟩
                            have he := bnd_at he ey_754
                            refine lv_iinc (v := y_754) (lv' := [(5, .int y_754), (4, .int 1), (6, .int y_608), (0, .ref (ad a1)), (1, .int a2), (2, .int v_594), (3, .int v_595)]) hx hb dX2_faultIn_184 hl (k := 6) rfl (by rw [ey_754]; rfl) (by decide) rfl (fun ls hl => ?_)
                            refine lv_goto (tgt := 10) hx hb dX2_faultIn_187 (by decide) ?_
                            exact ih _ _ _ _ _ _ _ (Or.inr rfl) (by rw [ey_754, inc_I (N := 100) (nle_I hc_603) (by decide)]; omega) (by rw [ey_754]; exact mu_I hμ (nle_I hc_603) (by decide)) he hP hS (lv_sub hl [3, 4, 5, 6, 1, 0] rfl)
                          · have he := ite_f he (fun q => q hc_753)
                            refine lv_iload hx hb dX2_faultIn_143 (lv_at hl 0 rfl) ?_
                            refine callS_i [.int y_608] [] hx hb hml hG hown hK (c_X2_isProductSign had (M := M)  y_608) gw_8_20 gm_X2_isProductSign gd_X2_isProductSign rfl rfl ⟨Nat.le_of_ble_eq_true rfl, Nat.le_of_ble_eq_true rfl⟩ ⟨Nat.le_refl _, Nat.le_refl _⟩ hP (fun _ h => h) hS rfl hl.1 rfl (Nat.le_of_ble_eq_true rfl) dX2_faultIn_145 (fun r_755 u_757 H locs hF_756 hP hS => ?_)
                            obtain ⟨hz_758, hF_756, hu⟩ := hF_756; rw [hu] at hP; subst hF_756
                            refine lv_if_eq (tgt := 157) hx hb dX2_faultIn_148 (by decide) (fun hc_759 => ?_) (fun hc_759 => ?_)
                            · have he := ite_t he hc_759
                              refine lv_iload hx hb dX2_faultIn_157 (lv_at hl 5 rfl) ?_
                              refine lv_if_ne (tgt := 181) hx hb dX2_faultIn_159 (by decide) (fun hc_760 => ?_) (fun hc_760 => ?_)
                              · have he := ite_t he hc_760
                                refine lv_iload hx hb dX2_faultIn_181 (lv_at hl 6 rfl) ?_
                                exact hret _ _ _ _ _ _ ⟨hV.trans he.symm, rfl⟩ hP hS dX2_faultIn_183
                              · have he := ite_f he (fun q => q hc_760)
                                refine lv_iload hx hb dX2_faultIn_162 (lv_at hl 0 rfl) ?_
                                refine lv_bipush (v := 41) hx hb dX2_faultIn_164 (by decide) ?_
                                refine lv_icmp_ne (tgt := 181) hx hb dX2_faultIn_166 (by decide) (fun hc_761 => ?_) (fun hc_761 => ?_)
                                · have he := ite_t he hc_761
                                  refine lv_iload hx hb dX2_faultIn_181 (lv_at hl 6 rfl) ?_
                                  exact hret _ _ _ _ _ _ ⟨hV.trans he.symm, rfl⟩ hP hS dX2_faultIn_183
                                · have he := ite_f he (fun q => q hc_761)
                                  refine lv_iload_n hx hb dX2_faultIn_169 rfl (lv_at hl 3 rfl) ?_
                                  refine lv_if_le (tgt := 181) hx hb dX2_faultIn_170 (by decide) (fun hc_762 => ?_) (fun hc_762 => ?_)
                                  · have he := ite_t he hc_762
                                    refine lv_iload hx hb dX2_faultIn_181 (lv_at hl 6 rfl) ?_
                                    exact hret _ _ _ _ _ _ ⟨hV.trans he.symm, rfl⟩ hP hS dX2_faultIn_183
                                  · have he := ite_f he hc_762
                                    obtain ⟨y_763, ey_763⟩ : ∃ y_763 : Int32, y_763 = v_594 + (-1) := ⟨_, rfl⟩
                                    have he := bnd_at he ey_763
                                    refine lv_iinc (v := y_763) (lv' := [(2, .int y_763), (6, .int y_608), (0, .ref (ad a1)), (1, .int a2), (3, .int v_595), (4, .int v_596), (5, .int v_597)]) hx hb dX2_faultIn_173 hl (k := 3) rfl (by rw [ey_763]; rfl) (by decide) rfl (fun ls hl => ?_)
                                    refine lv_iconst (v := 0) hx hb dX2_faultIn_176 (by decide) ?_
                                    refine lv_istore_n (lv' := [(3, .int 0), (2, .int y_763), (6, .int y_608), (0, .ref (ad a1)), (1, .int a2), (4, .int v_596), (5, .int v_597)]) hx hb dX2_faultIn_177 rfl hl (by decide) rfl (fun ls hl => ?_)
                                    refine lv_goto (tgt := 184) hx hb dX2_faultIn_178 (by decide) ?_
                                    obtain ⟨y_764, ey_764⟩ : ∃ y_764 : Int32, y_764 = v_597 + 1 := ⟨_, rfl⟩
                                    have he := bnd_at he ey_764
                                    refine lv_iinc (v := y_764) (lv' := [(5, .int y_764), (3, .int 0), (2, .int y_763), (6, .int y_608), (0, .ref (ad a1)), (1, .int a2), (4, .int v_596)]) hx hb dX2_faultIn_184 hl (k := 6) rfl (by rw [ey_764]; rfl) (by decide) rfl (fun ls hl => ?_)
                                    refine lv_goto (tgt := 10) hx hb dX2_faultIn_187 (by decide) ?_
                                    exact ih _ _ _ _ _ _ _ zv_596 (by rw [ey_764, inc_I (N := 100) (nle_I hc_603) (by decide)]; omega) (by rw [ey_764]; exact mu_I hμ (nle_I hc_603) (by decide)) he hP hS (lv_sub hl [4, 5, 2, 1, 6, 0] rfl)
                            · have he := ite_f he hc_759
                              refine lv_iconst (v := 1) hx hb dX2_faultIn_151 (by decide) ?_
                              refine lv_istore (lv' := [(4, .int 1), (6, .int y_608), (0, .ref (ad a1)), (1, .int a2), (2, .int v_594), (3, .int v_595), (5, .int v_597)]) hx hb dX2_faultIn_152 hl (by decide) rfl (fun ls hl => ?_)
                              refine lv_goto (tgt := 184) hx hb dX2_faultIn_154 (by decide) ?_
                              obtain ⟨y_765, ey_765⟩ : ∃ y_765 : Int32, y_765 = v_597 + 1 := ⟨_, rfl⟩
                              have he := bnd_at he ey_765
                              refine lv_iinc (v := y_765) (lv' := [(5, .int y_765), (4, .int 1), (6, .int y_608), (0, .ref (ad a1)), (1, .int a2), (2, .int v_594), (3, .int v_595)]) hx hb dX2_faultIn_184 hl (k := 6) rfl (by rw [ey_765]; rfl) (by decide) rfl (fun ls hl => ?_)
                              refine lv_goto (tgt := 10) hx hb dX2_faultIn_187 (by decide) ?_
                              exact ih _ _ _ _ _ _ _ (Or.inr rfl) (by rw [ey_765, inc_I (N := 100) (nle_I hc_603) (by decide)]; omega) (by rw [ey_765]; exact mu_I hμ (nle_I hc_603) (by decide)) he hP hS (lv_sub hl [3, 4, 5, 6, 1, 0] rfl)
                      · have he := ite_f he hc_742
                        refine lv_iload_n hx hb dX2_faultIn_120 rfl (lv_at hl 4 rfl) ?_
                        refine lv_if_le (tgt := 130) hx hb dX2_faultIn_121 (by decide) (fun hc_766 => ?_) (fun hc_766 => ?_)
                        · have he := ite_t he hc_766
                          refine lv_iload hx hb dX2_faultIn_130 (lv_at hl 5 rfl) ?_
                          refine lv_if_ne (tgt := 157) hx hb dX2_faultIn_132 (by decide) (fun hc_767 => ?_) (fun hc_767 => ?_)
                          · have he := ite_t he hc_767
                            refine lv_iload hx hb dX2_faultIn_157 (lv_at hl 5 rfl) ?_
                            refine lv_if_ne (tgt := 181) hx hb dX2_faultIn_159 (by decide) (fun hc_768 => ?_) (fun hc_768 => ?_)
                            · have he := ite_t he hc_768
                              refine lv_iload hx hb dX2_faultIn_181 (lv_at hl 6 rfl) ?_
                              exact hret _ _ _ _ _ _ ⟨hV.trans he.symm, rfl⟩ hP hS dX2_faultIn_183
                            · have he := ite_f he (fun q => q hc_768)
                              refine lv_iload hx hb dX2_faultIn_162 (lv_at hl 0 rfl) ?_
                              refine lv_bipush (v := 41) hx hb dX2_faultIn_164 (by decide) ?_
                              refine lv_icmp_ne (tgt := 181) hx hb dX2_faultIn_166 (by decide) (fun hc_769 => ?_) (fun hc_769 => ?_)
                              · have he := ite_t he hc_769
                                refine lv_iload hx hb dX2_faultIn_181 (lv_at hl 6 rfl) ?_
                                exact hret _ _ _ _ _ _ ⟨hV.trans he.symm, rfl⟩ hP hS dX2_faultIn_183
                              · have he := ite_f he (fun q => q hc_769)
                                refine lv_iload_n hx hb dX2_faultIn_169 rfl (lv_at hl 3 rfl) ?_
                                refine lv_if_le (tgt := 181) hx hb dX2_faultIn_170 (by decide) (fun hc_770 => ?_) (fun hc_770 => ?_)
                                · have he := ite_t he hc_770
                                  refine lv_iload hx hb dX2_faultIn_181 (lv_at hl 6 rfl) ?_
                                  exact hret _ _ _ _ _ _ ⟨hV.trans he.symm, rfl⟩ hP hS dX2_faultIn_183
                                · have he := ite_f he hc_770
                                  obtain ⟨y_771, ey_771⟩ : ∃ y_771 : Int32, y_771 = v_594 + (-1) := ⟨_, rfl⟩
                                  have he := bnd_at he ey_771
                                  refine lv_iinc (v := y_771) (lv' := [(2, .int y_771), (6, .int y_608), (0, .ref (ad a1)), (1, .int a2), (3, .int v_595), (4, .int v_596), (5, .int v_597)]) hx hb dX2_faultIn_173 hl (k := 3) rfl (by rw [ey_771]; rfl) (by decide) rfl (fun ls hl => ?_)
                                  refine lv_iconst (v := 0) hx hb dX2_faultIn_176 (by decide) ?_
                                  refine lv_istore_n (lv' := [(3, .int 0), (2, .int y_771), (6, .int y_608), (0, .ref (ad a1)), (1, .int a2), (4, .int v_596), (5, .int v_597)]) hx hb dX2_faultIn_177 rfl hl (by decide) rfl (fun ls hl => ?_)
                                  refine lv_goto (tgt := 184) hx hb dX2_faultIn_178 (by decide) ?_
                                  obtain ⟨y_772, ey_772⟩ : ∃ y_772 : Int32, y_772 = v_597 + 1 := ⟨_, rfl⟩
                                  have he := bnd_at he ey_772
                                  refine lv_iinc (v := y_772) (lv' := [(5, .int y_772), (3, .int 0), (2, .int y_771), (6, .int y_608), (0, .ref (ad a1)), (1, .int a2), (4, .int v_596)]) hx hb dX2_faultIn_184 hl (k := 6) rfl (by rw [ey_772]; rfl) (by decide) rfl (fun ls hl => ?_)
                                  refine lv_goto (tgt := 10) hx hb dX2_faultIn_187 (by decide) ?_
                                  exact ih _ _ _ _ _ _ _ zv_596 (by rw [ey_772, inc_I (N := 100) (nle_I hc_603) (by decide)]; omega) (by rw [ey_772]; exact mu_I hμ (nle_I hc_603) (by decide)) he hP hS (lv_sub hl [4, 5, 2, 1, 6, 0] rfl)
                          · have he := ite_f he (fun q => q hc_767)
                            refine lv_iload hx hb dX2_faultIn_135 (lv_at hl 0 rfl) ?_
                            refine callS_i [.int y_608] [] hx hb hml hG hown hK (c_X2_isSumSign had (M := M)  y_608) gw_8_17 gm_X2_isSumSign gd_X2_isSumSign rfl rfl ⟨Nat.le_of_ble_eq_true rfl, Nat.le_of_ble_eq_true rfl⟩ ⟨Nat.le_refl _, Nat.le_refl _⟩ hP (fun _ h => h) hS rfl hl.1 rfl (Nat.le_of_ble_eq_true rfl) dX2_faultIn_137 (fun r_773 u_775 H locs hF_774 hP hS => ?_)
                            obtain ⟨hz_776, hF_774, hu⟩ := hF_774; rw [hu] at hP; subst hF_774
                            refine lv_if_ne (tgt := 151) hx hb dX2_faultIn_140 (by decide) (fun hc_777 => ?_) (fun hc_777 => ?_)
                            · have he := ite_t he hc_777
                              refine lv_iconst (v := 1) hx hb dX2_faultIn_151 (by decide) ?_
                              refine lv_istore (lv' := [(4, .int 1), (6, .int y_608), (0, .ref (ad a1)), (1, .int a2), (2, .int v_594), (3, .int v_595), (5, .int v_597)]) hx hb dX2_faultIn_152 hl (by decide) rfl (fun ls hl => ?_)
                              refine lv_goto (tgt := 184) hx hb dX2_faultIn_154 (by decide) ?_
                              obtain ⟨y_778, ey_778⟩ : ∃ y_778 : Int32, y_778 = v_597 + 1 := ⟨_, rfl⟩
                              have he := bnd_at he ey_778
                              refine lv_iinc (v := y_778) (lv' := [(5, .int y_778), (4, .int 1), (6, .int y_608), (0, .ref (ad a1)), (1, .int a2), (2, .int v_594), (3, .int v_595)]) hx hb dX2_faultIn_184 hl (k := 6) rfl (by rw [ey_778]; rfl) (by decide) rfl (fun ls hl => ?_)
                              refine lv_goto (tgt := 10) hx hb dX2_faultIn_187 (by decide) ?_
                              exact ih _ _ _ _ _ _ _ (Or.inr rfl) (by rw [ey_778, inc_I (N := 100) (nle_I hc_603) (by decide)]; omega) (by rw [ey_778]; exact mu_I hμ (nle_I hc_603) (by decide)) he hP hS (lv_sub hl [3, 4, 5, 6, 1, 0] rfl)
                            · have he := ite_f he (fun q => q hc_777)
                              refine lv_iload hx hb dX2_faultIn_143 (lv_at hl 0 rfl) ?_
                              refine callS_i [.int y_608] [] hx hb hml hG hown hK (c_X2_isProductSign had (M := M)  y_608) gw_8_20 gm_X2_isProductSign gd_X2_isProductSign rfl rfl ⟨Nat.le_of_ble_eq_true rfl, Nat.le_of_ble_eq_true rfl⟩ ⟨Nat.le_refl _, Nat.le_refl _⟩ hP (fun _ h => h) hS rfl hl.1 rfl (Nat.le_of_ble_eq_true rfl) dX2_faultIn_145 (fun r_779 u_781 H locs hF_780 hP hS => ?_)
                              obtain ⟨hz_782, hF_780, hu⟩ := hF_780; rw [hu] at hP; subst hF_780
                              refine lv_if_eq (tgt := 157) hx hb dX2_faultIn_148 (by decide) (fun hc_783 => ?_) (fun hc_783 => ?_)
                              · have he := ite_t he hc_783
                                refine lv_iload hx hb dX2_faultIn_157 (lv_at hl 5 rfl) ?_
                                refine lv_if_ne (tgt := 181) hx hb dX2_faultIn_159 (by decide) (fun hc_784 => ?_) (fun hc_784 => ?_)
                                · have he := ite_t he hc_784
                                  refine lv_iload hx hb dX2_faultIn_181 (lv_at hl 6 rfl) ?_
                                  exact hret _ _ _ _ _ _ ⟨hV.trans he.symm, rfl⟩ hP hS dX2_faultIn_183
                                · have he := ite_f he (fun q => q hc_784)
                                  refine lv_iload hx hb dX2_faultIn_162 (lv_at hl 0 rfl) ?_
                                  refine lv_bipush (v := 41) hx hb dX2_faultIn_164 (by decide) ?_
                                  refine lv_icmp_ne (tgt := 181) hx hb dX2_faultIn_166 (by decide) (fun hc_785 => ?_) (fun hc_785 => ?_)
                                  · have he := ite_t he hc_785
                                    refine lv_iload hx hb dX2_faultIn_181 (lv_at hl 6 rfl) ?_
                                    exact hret _ _ _ _ _ _ ⟨hV.trans he.symm, rfl⟩ hP hS dX2_faultIn_183
                                  · have he := ite_f he (fun q => q hc_785)
                                    refine lv_iload_n hx hb dX2_faultIn_169 rfl (lv_at hl 3 rfl) ?_
                                    refine lv_if_le (tgt := 181) hx hb dX2_faultIn_170 (by decide) (fun hc_786 => ?_) (fun hc_786 => ?_)
                                    · have he := ite_t he hc_786
                                      refine lv_iload hx hb dX2_faultIn_181 (lv_at hl 6 rfl) ?_
                                      exact hret _ _ _ _ _ _ ⟨hV.trans he.symm, rfl⟩ hP hS dX2_faultIn_183
                                    · have he := ite_f he hc_786
                                      obtain ⟨y_787, ey_787⟩ : ∃ y_787 : Int32, y_787 = v_594 + (-1) := ⟨_, rfl⟩
                                      have he := bnd_at he ey_787
                                      refine lv_iinc (v := y_787) (lv' := [(2, .int y_787), (6, .int y_608), (0, .ref (ad a1)), (1, .int a2), (3, .int v_595), (4, .int v_596), (5, .int v_597)]) hx hb dX2_faultIn_173 hl (k := 3) rfl (by rw [ey_787]; rfl) (by decide) rfl (fun ls hl => ?_)
                                      refine lv_iconst (v := 0) hx hb dX2_faultIn_176 (by decide) ?_
                                      refine lv_istore_n (lv' := [(3, .int 0), (2, .int y_787), (6, .int y_608), (0, .ref (ad a1)), (1, .int a2), (4, .int v_596), (5, .int v_597)]) hx hb dX2_faultIn_177 rfl hl (by decide) rfl (fun ls hl => ?_)
                                      refine lv_goto (tgt := 184) hx hb dX2_faultIn_178 (by decide) ?_
                                      obtain ⟨y_788, ey_788⟩ : ∃ y_788 : Int32, y_788 = v_597 + 1 := ⟨_, rfl⟩
                                      have he := bnd_at he ey_788
                                      refine lv_iinc (v := y_788) (lv' := [(5, .int y_788), (3, .int 0), (2, .int y_787), (6, .int y_608), (0, .ref (ad a1)), (1, .int a2), (4, .int v_596)]) hx hb dX2_faultIn_184 hl (k := 6) rfl (by rw [ey_788]; rfl) (by decide) rfl (fun ls hl => ?_)
                                      refine lv_goto (tgt := 10) hx hb dX2_faultIn_187 (by decide) ?_
                                      exact ih _ _ _ _ _ _ _ zv_596 (by rw [ey_788, inc_I (N := 100) (nle_I hc_603) (by decide)]; omega) (by rw [ey_788]; exact mu_I hμ (nle_I hc_603) (by decide)) he hP hS (lv_sub hl [4, 5, 2, 1, 6, 0] rfl)
                              · have he := ite_f he hc_783
                                refine lv_iconst (v := 1) hx hb dX2_faultIn_151 (by decide) ?_
                                refine lv_istore (lv' := [(4, .int 1), (6, .int y_608), (0, .ref (ad a1)), (1, .int a2), (2, .int v_594), (3, .int v_595), (5, .int v_597)]) hx hb dX2_faultIn_152 hl (by decide) rfl (fun ls hl => ?_)
                                refine lv_goto (tgt := 184) hx hb dX2_faultIn_154 (by decide) ?_
                                obtain ⟨y_789, ey_789⟩ : ∃ y_789 : Int32, y_789 = v_597 + 1 := ⟨_, rfl⟩
                                have he := bnd_at he ey_789
                                refine lv_iinc (v := y_789) (lv' := [(5, .int y_789), (4, .int 1), (6, .int y_608), (0, .ref (ad a1)), (1, .int a2), (2, .int v_594), (3, .int v_595)]) hx hb dX2_faultIn_184 hl (k := 6) rfl (by rw [ey_789]; rfl) (by decide) rfl (fun ls hl => ?_)
                                refine lv_goto (tgt := 10) hx hb dX2_faultIn_187 (by decide) ?_
                                exact ih _ _ _ _ _ _ _ (Or.inr rfl) (by rw [ey_789, inc_I (N := 100) (nle_I hc_603) (by decide)]; omega) (by rw [ey_789]; exact mu_I hμ (nle_I hc_603) (by decide)) he hP hS (lv_sub hl [3, 4, 5, 6, 1, 0] rfl)
                        · have he := ite_f he hc_766
                          obtain ⟨y_790, ey_790⟩ : ∃ y_790 : Int32, y_790 = v_595 + (-1) := ⟨_, rfl⟩
                          have he := bnd_at he ey_790
                          refine lv_iinc (v := y_790) (lv' := [(3, .int y_790), (6, .int y_608), (0, .ref (ad a1)), (1, .int a2), (2, .int v_594), (4, .int v_596), (5, .int v_597)]) hx hb dX2_faultIn_124 hl (k := 4) rfl (by rw [ey_790]; rfl) (by decide) rfl (fun ls hl => ?_)
                          refine lv_goto (tgt := 184) hx hb dX2_faultIn_127 (by decide) ?_
                          obtain ⟨y_791, ey_791⟩ : ∃ y_791 : Int32, y_791 = v_597 + 1 := ⟨_, rfl⟩
                          have he := bnd_at he ey_791
                          refine lv_iinc (v := y_791) (lv' := [(5, .int y_791), (3, .int y_790), (6, .int y_608), (0, .ref (ad a1)), (1, .int a2), (2, .int v_594), (4, .int v_596)]) hx hb dX2_faultIn_184 hl (k := 6) rfl (by rw [ey_791]; rfl) (by decide) rfl (fun ls hl => ?_)
                          refine lv_goto (tgt := 10) hx hb dX2_faultIn_187 (by decide) ?_
                          exact ih _ _ _ _ _ _ _ zv_596 (by rw [ey_791, inc_I (N := 100) (nle_I hc_603) (by decide)]; omega) (by rw [ey_791]; exact mu_I hμ (nle_I hc_603) (by decide)) he hP hS (lv_sub hl [3, 4, 5, 1, 6, 0] rfl)
                  · have he := ite_f he (fun q => q hc_713)
                    refine lv_iconst (v := 0) hx hb dX2_faultIn_80 (by decide) ?_
                    refine lv_istore (lv' := [(4, .int 0), (6, .int y_608), (0, .ref (ad a1)), (1, .int a2), (2, .int v_594), (3, .int v_595), (5, .int v_597)]) hx hb dX2_faultIn_81 hl (by decide) rfl (fun ls hl => ?_)
                    refine lv_iload hx hb dX2_faultIn_83 (lv_at hl 1 rfl) ?_
                    refine callS_i [.int y_608] [] hx hb hml hG hown hK (c_X2_isDigit had (M := M)  y_608) gw_8_14 gm_X2_isDigit gd_X2_isDigit rfl rfl ⟨Nat.le_of_ble_eq_true rfl, Nat.le_of_ble_eq_true rfl⟩ ⟨Nat.le_refl _, Nat.le_refl _⟩ hP (fun _ h => h) hS rfl hl.1 rfl (Nat.le_of_ble_eq_true rfl) dX2_faultIn_85 (fun r_792 u_794 H locs hF_793 hP hS => ?_)
                    obtain ⟨hz_795, hF_793, hu⟩ := hF_793; rw [hu] at hP; subst hF_793
                    obtain ⟨t_799, hr_797, he⟩ := bnd_ex he
                    have j103 : ∀ (H : Heap) (locs : List Loc) (ls : Array Slot), va_P D vwCl (wld 74 ad (cC ad k M)) H → va_S (AW 74 ad) s.heap H locs → lv_has ls 7 [(0, .ref (ad a1)), (1, .int a2), (2, .int v_594), (4, .int 0), (5, .int v_597)] → W p l e rm_X2_faultIn s m args below meth c H locs 0 0 Q (F0 m 103 ls [.int t_799]) := by
                      intro H locs ls hP hS hl
                      refine lv_istore_n (lv' := [(3, .int t_799), (0, .ref (ad a1)), (1, .int a2), (2, .int v_594), (4, .int 0), (5, .int v_597)]) hx hb dX2_faultIn_103 rfl hl (by decide) rfl (fun ls hl => ?_)
                      refine lv_goto (tgt := 184) hx hb dX2_faultIn_104 (by decide) ?_
                      obtain ⟨y_800, ey_800⟩ : ∃ y_800 : Int32, y_800 = v_597 + 1 := ⟨_, rfl⟩
                      have he := bnd_at he ey_800
                      refine lv_iinc (v := y_800) (lv' := [(5, .int y_800), (3, .int t_799), (0, .ref (ad a1)), (1, .int a2), (2, .int v_594), (4, .int 0)]) hx hb dX2_faultIn_184 hl (k := 5) rfl (by rw [ey_800]; rfl) (by decide) rfl (fun ls hl => ?_)
                      refine lv_goto (tgt := 10) hx hb dX2_faultIn_187 (by decide) ?_
                      exact ih _ _ _ _ _ _ _ (Or.inl rfl) (by rw [ey_800, inc_I (N := 100) (nle_I hc_603) (by decide)]; omega) (by rw [ey_800]; exact mu_I hμ (nle_I hc_603) (by decide)) he hP hS (lv_sub hl [2, 3, 4, 1, 5, 0] rfl)
                    refine lv_if_eq (tgt := 102) hx hb dX2_faultIn_88 (by decide) (fun hc_796 => ?_) (fun hc_796 => ?_)
                    · have hr_797 := ite_t hr_797 hc_796
                      refine lv_iconst (v := 0) hx hb dX2_faultIn_102 (by decide) ?_
                      cases hr_797
                      exact j103 _ _ _ hP hS (lv_sub hl [2, 3, 4, 0, 6] rfl)
                    · have hr_797 := ite_f hr_797 hc_796
                      refine lv_iload hx hb dX2_faultIn_91 (lv_at hl 1 rfl) ?_
                      refine lv_bipush (v := 48) hx hb dX2_faultIn_93 (by decide) ?_
                      refine lv_icmp_eq (tgt := 102) hx hb dX2_faultIn_95 (by decide) (fun hc_798 => ?_) (fun hc_798 => ?_)
                      · have hr_797 := ite_t hr_797 hc_798
                        refine lv_iconst (v := 0) hx hb dX2_faultIn_102 (by decide) ?_
                        cases hr_797
                        exact j103 _ _ _ hP hS (lv_sub hl [2, 3, 4, 0, 6] rfl)
                      · have hr_797 := ite_f hr_797 hc_798
                        refine lv_iconst (v := 2) hx hb dX2_faultIn_98 (by decide) ?_
                        refine lv_goto (tgt := 103) hx hb dX2_faultIn_99 (by decide) ?_
                        cases hr_797
                        exact j103 _ _ _ hP hS (lv_sub hl [2, 3, 4, 0, 6] rfl)
          · have he := ite_f he hc_609
            refine lv_iload hx hb dX2_faultIn_34 (lv_at hl 0 rfl) ?_
            refine lv_bipush (v := 40) hx hb dX2_faultIn_36 (by decide) ?_
            refine lv_icmp_ne (tgt := 53) hx hb dX2_faultIn_38 (by decide) (fun hc_801 => ?_) (fun hc_801 => ?_)
            · have he := ite_t he hc_801
              refine lv_iload hx hb dX2_faultIn_53 (lv_at hl 5 rfl) ?_
              refine lv_if_eq (tgt := 107) hx hb dX2_faultIn_55 (by decide) (fun hc_802 => ?_) (fun hc_802 => ?_)
              · have he := ite_t he hc_802
                refine lv_iload hx hb dX2_faultIn_107 (lv_at hl 5 rfl) ?_
                refine lv_if_ne (tgt := 130) hx hb dX2_faultIn_109 (by decide) (fun hc_803 => ?_) (fun hc_803 => ?_)
                · have he := ite_t he hc_803
                  refine lv_iload hx hb dX2_faultIn_130 (lv_at hl 5 rfl) ?_
                  refine lv_if_ne (tgt := 157) hx hb dX2_faultIn_132 (by decide) (fun hc_804 => ?_) (fun hc_804 => ?_)
                  · have he := ite_t he hc_804
                    refine lv_iload hx hb dX2_faultIn_157 (lv_at hl 5 rfl) ?_
                    refine lv_if_ne (tgt := 181) hx hb dX2_faultIn_159 (by decide) (fun hc_805 => ?_) (fun hc_805 => ?_)
                    · have he := ite_t he hc_805
                      refine lv_iload hx hb dX2_faultIn_181 (lv_at hl 6 rfl) ?_
                      exact hret _ _ _ _ _ _ ⟨hV.trans he.symm, rfl⟩ hP hS dX2_faultIn_183
                    · have he := ite_f he (fun q => q hc_805)
                      refine lv_iload hx hb dX2_faultIn_162 (lv_at hl 0 rfl) ?_
                      refine lv_bipush (v := 41) hx hb dX2_faultIn_164 (by decide) ?_
                      refine lv_icmp_ne (tgt := 181) hx hb dX2_faultIn_166 (by decide) (fun hc_806 => ?_) (fun hc_806 => ?_)
                      · have he := ite_t he hc_806
                        refine lv_iload hx hb dX2_faultIn_181 (lv_at hl 6 rfl) ?_
                        exact hret _ _ _ _ _ _ ⟨hV.trans he.symm, rfl⟩ hP hS dX2_faultIn_183
                      · have he := ite_f he (fun q => q hc_806)
                        refine lv_iload_n hx hb dX2_faultIn_169 rfl (lv_at hl 3 rfl) ?_
                        refine lv_if_le (tgt := 181) hx hb dX2_faultIn_170 (by decide) (fun hc_807 => ?_) (fun hc_807 => ?_)
                        · have he := ite_t he hc_807
                          refine lv_iload hx hb dX2_faultIn_181 (lv_at hl 6 rfl) ?_
                          exact hret _ _ _ _ _ _ ⟨hV.trans he.symm, rfl⟩ hP hS dX2_faultIn_183
                        · have he := ite_f he hc_807
                          obtain ⟨y_808, ey_808⟩ : ∃ y_808 : Int32, y_808 = v_594 + (-1) := ⟨_, rfl⟩
                          have he := bnd_at he ey_808
                          refine lv_iinc (v := y_808) (lv' := [(2, .int y_808), (6, .int y_608), (0, .ref (ad a1)), (1, .int a2), (3, .int v_595), (4, .int v_596), (5, .int v_597)]) hx hb dX2_faultIn_173 hl (k := 3) rfl (by rw [ey_808]; rfl) (by decide) rfl (fun ls hl => ?_)
                          refine lv_iconst (v := 0) hx hb dX2_faultIn_176 (by decide) ?_
                          refine lv_istore_n (lv' := [(3, .int 0), (2, .int y_808), (6, .int y_608), (0, .ref (ad a1)), (1, .int a2), (4, .int v_596), (5, .int v_597)]) hx hb dX2_faultIn_177 rfl hl (by decide) rfl (fun ls hl => ?_)
                          refine lv_goto (tgt := 184) hx hb dX2_faultIn_178 (by decide) ?_
                          obtain ⟨y_809, ey_809⟩ : ∃ y_809 : Int32, y_809 = v_597 + 1 := ⟨_, rfl⟩
                          have he := bnd_at he ey_809
                          refine lv_iinc (v := y_809) (lv' := [(5, .int y_809), (3, .int 0), (2, .int y_808), (6, .int y_608), (0, .ref (ad a1)), (1, .int a2), (4, .int v_596)]) hx hb dX2_faultIn_184 hl (k := 6) rfl (by rw [ey_809]; rfl) (by decide) rfl (fun ls hl => ?_)
                          refine lv_goto (tgt := 10) hx hb dX2_faultIn_187 (by decide) ?_
                          exact ih _ _ _ _ _ _ _ zv_596 (by rw [ey_809, inc_I (N := 100) (nle_I hc_603) (by decide)]; omega) (by rw [ey_809]; exact mu_I hμ (nle_I hc_603) (by decide)) he hP hS (lv_sub hl [4, 5, 2, 1, 6, 0] rfl)
                  · have he := ite_f he (fun q => q hc_804)
                    refine lv_iload hx hb dX2_faultIn_135 (lv_at hl 0 rfl) ?_
                    refine callS_i [.int y_608] [] hx hb hml hG hown hK (c_X2_isSumSign had (M := M)  y_608) gw_8_17 gm_X2_isSumSign gd_X2_isSumSign rfl rfl ⟨Nat.le_of_ble_eq_true rfl, Nat.le_of_ble_eq_true rfl⟩ ⟨Nat.le_refl _, Nat.le_refl _⟩ hP (fun _ h => h) hS rfl hl.1 rfl (Nat.le_of_ble_eq_true rfl) dX2_faultIn_137 (fun r_810 u_812 H locs hF_811 hP hS => ?_)
                    obtain ⟨hz_813, hF_811, hu⟩ := hF_811; rw [hu] at hP; subst hF_811
                    refine lv_if_ne (tgt := 151) hx hb dX2_faultIn_140 (by decide) (fun hc_814 => ?_) (fun hc_814 => ?_)
                    · have he := ite_t he hc_814
                      refine lv_iconst (v := 1) hx hb dX2_faultIn_151 (by decide) ?_
                      refine lv_istore (lv' := [(4, .int 1), (6, .int y_608), (0, .ref (ad a1)), (1, .int a2), (2, .int v_594), (3, .int v_595), (5, .int v_597)]) hx hb dX2_faultIn_152 hl (by decide) rfl (fun ls hl => ?_)
                      refine lv_goto (tgt := 184) hx hb dX2_faultIn_154 (by decide) ?_
                      obtain ⟨y_815, ey_815⟩ : ∃ y_815 : Int32, y_815 = v_597 + 1 := ⟨_, rfl⟩
                      have he := bnd_at he ey_815
                      refine lv_iinc (v := y_815) (lv' := [(5, .int y_815), (4, .int 1), (6, .int y_608), (0, .ref (ad a1)), (1, .int a2), (2, .int v_594), (3, .int v_595)]) hx hb dX2_faultIn_184 hl (k := 6) rfl (by rw [ey_815]; rfl) (by decide) rfl (fun ls hl => ?_)
                      refine lv_goto (tgt := 10) hx hb dX2_faultIn_187 (by decide) ?_
                      exact ih _ _ _ _ _ _ _ (Or.inr rfl) (by rw [ey_815, inc_I (N := 100) (nle_I hc_603) (by decide)]; omega) (by rw [ey_815]; exact mu_I hμ (nle_I hc_603) (by decide)) he hP hS (lv_sub hl [3, 4, 5, 6, 1, 0] rfl)
                    · have he := ite_f he (fun q => q hc_814)
                      refine lv_iload hx hb dX2_faultIn_143 (lv_at hl 0 rfl) ?_
                      refine callS_i [.int y_608] [] hx hb hml hG hown hK (c_X2_isProductSign had (M := M)  y_608) gw_8_20 gm_X2_isProductSign gd_X2_isProductSign rfl rfl ⟨Nat.le_of_ble_eq_true rfl, Nat.le_of_ble_eq_true rfl⟩ ⟨Nat.le_refl _, Nat.le_refl _⟩ hP (fun _ h => h) hS rfl hl.1 rfl (Nat.le_of_ble_eq_true rfl) dX2_faultIn_145 (fun r_816 u_818 H locs hF_817 hP hS => ?_)
                      obtain ⟨hz_819, hF_817, hu⟩ := hF_817; rw [hu] at hP; subst hF_817
                      refine lv_if_eq (tgt := 157) hx hb dX2_faultIn_148 (by decide) (fun hc_820 => ?_) (fun hc_820 => ?_)
                      · have he := ite_t he hc_820
                        refine lv_iload hx hb dX2_faultIn_157 (lv_at hl 5 rfl) ?_
                        refine lv_if_ne (tgt := 181) hx hb dX2_faultIn_159 (by decide) (fun hc_821 => ?_) (fun hc_821 => ?_)
                        · have he := ite_t he hc_821
                          refine lv_iload hx hb dX2_faultIn_181 (lv_at hl 6 rfl) ?_
                          exact hret _ _ _ _ _ _ ⟨hV.trans he.symm, rfl⟩ hP hS dX2_faultIn_183
                        · have he := ite_f he (fun q => q hc_821)
                          refine lv_iload hx hb dX2_faultIn_162 (lv_at hl 0 rfl) ?_
                          refine lv_bipush (v := 41) hx hb dX2_faultIn_164 (by decide) ?_
                          refine lv_icmp_ne (tgt := 181) hx hb dX2_faultIn_166 (by decide) (fun hc_822 => ?_) (fun hc_822 => ?_)
                          · have he := ite_t he hc_822
                            refine lv_iload hx hb dX2_faultIn_181 (lv_at hl 6 rfl) ?_
                            exact hret _ _ _ _ _ _ ⟨hV.trans he.symm, rfl⟩ hP hS dX2_faultIn_183
                          · have he := ite_f he (fun q => q hc_822)
                            refine lv_iload_n hx hb dX2_faultIn_169 rfl (lv_at hl 3 rfl) ?_
                            refine lv_if_le (tgt := 181) hx hb dX2_faultIn_170 (by decide) (fun hc_823 => ?_) (fun hc_823 => ?_)
                            · have he := ite_t he hc_823
                              refine lv_iload hx hb dX2_faultIn_181 (lv_at hl 6 rfl) ?_
                              exact hret _ _ _ _ _ _ ⟨hV.trans he.symm, rfl⟩ hP hS dX2_faultIn_183
                            · have he := ite_f he hc_823
                              obtain ⟨y_824, ey_824⟩ : ∃ y_824 : Int32, y_824 = v_594 + (-1) := ⟨_, rfl⟩
                              have he := bnd_at he ey_824
                              refine lv_iinc (v := y_824) (lv' := [(2, .int y_824), (6, .int y_608), (0, .ref (ad a1)), (1, .int a2), (3, .int v_595), (4, .int v_596), (5, .int v_597)]) hx hb dX2_faultIn_173 hl (k := 3) rfl (by rw [ey_824]; rfl) (by decide) rfl (fun ls hl => ?_)
                              refine lv_iconst (v := 0) hx hb dX2_faultIn_176 (by decide) ?_
                              refine lv_istore_n (lv' := [(3, .int 0), (2, .int y_824), (6, .int y_608), (0, .ref (ad a1)), (1, .int a2), (4, .int v_596), (5, .int v_597)]) hx hb dX2_faultIn_177 rfl hl (by decide) rfl (fun ls hl => ?_)
                              refine lv_goto (tgt := 184) hx hb dX2_faultIn_178 (by decide) ?_
                              obtain ⟨y_825, ey_825⟩ : ∃ y_825 : Int32, y_825 = v_597 + 1 := ⟨_, rfl⟩
                              have he := bnd_at he ey_825
                              refine lv_iinc (v := y_825) (lv' := [(5, .int y_825), (3, .int 0), (2, .int y_824), (6, .int y_608), (0, .ref (ad a1)), (1, .int a2), (4, .int v_596)]) hx hb dX2_faultIn_184 hl (k := 6) rfl (by rw [ey_825]; rfl) (by decide) rfl (fun ls hl => ?_)
                              refine lv_goto (tgt := 10) hx hb dX2_faultIn_187 (by decide) ?_
                              exact ih _ _ _ _ _ _ _ zv_596 (by rw [ey_825, inc_I (N := 100) (nle_I hc_603) (by decide)]; omega) (by rw [ey_825]; exact mu_I hμ (nle_I hc_603) (by decide)) he hP hS (lv_sub hl [4, 5, 2, 1, 6, 0] rfl)
                      · have he := ite_f he hc_820
                        refine lv_iconst (v := 1) hx hb dX2_faultIn_151 (by decide) ?_
                        refine lv_istore (lv' := [(4, .int 1), (6, .int y_608), (0, .ref (ad a1)), (1, .int a2), (2, .int v_594), (3, .int v_595), (5, .int v_597)]) hx hb dX2_faultIn_152 hl (by decide) rfl (fun ls hl => ?_)
                        refine lv_goto (tgt := 184) hx hb dX2_faultIn_154 (by decide) ?_
                        obtain ⟨y_826, ey_826⟩ : ∃ y_826 : Int32, y_826 = v_597 + 1 := ⟨_, rfl⟩
                        have he := bnd_at he ey_826
                        refine lv_iinc (v := y_826) (lv' := [(5, .int y_826), (4, .int 1), (6, .int y_608), (0, .ref (ad a1)), (1, .int a2), (2, .int v_594), (3, .int v_595)]) hx hb dX2_faultIn_184 hl (k := 6) rfl (by rw [ey_826]; rfl) (by decide) rfl (fun ls hl => ?_)
                        refine lv_goto (tgt := 10) hx hb dX2_faultIn_187 (by decide) ?_
                        exact ih _ _ _ _ _ _ _ (Or.inr rfl) (by rw [ey_826, inc_I (N := 100) (nle_I hc_603) (by decide)]; omega) (by rw [ey_826]; exact mu_I hμ (nle_I hc_603) (by decide)) he hP hS (lv_sub hl [3, 4, 5, 6, 1, 0] rfl)
                · have he := ite_f he (fun q => q hc_803)
                  refine lv_iload hx hb dX2_faultIn_112 (lv_at hl 0 rfl) ?_
                  refine callS_i [.int y_608] [] hx hb hml hG hown hK (c_X2_isDigit had (M := M)  y_608) gw_8_14 gm_X2_isDigit gd_X2_isDigit rfl rfl ⟨Nat.le_of_ble_eq_true rfl, Nat.le_of_ble_eq_true rfl⟩ ⟨Nat.le_refl _, Nat.le_refl _⟩ hP (fun _ h => h) hS rfl hl.1 rfl (Nat.le_of_ble_eq_true rfl) dX2_faultIn_114 (fun r_827 u_829 H locs hF_828 hP hS => ?_)
                  obtain ⟨hz_830, hF_828, hu⟩ := hF_828; rw [hu] at hP; subst hF_828
                  refine lv_if_eq (tgt := 130) hx hb dX2_faultIn_117 (by decide) (fun hc_831 => ?_) (fun hc_831 => ?_)
                  · have he := ite_t he hc_831
                    refine lv_iload hx hb dX2_faultIn_130 (lv_at hl 5 rfl) ?_
                    refine lv_if_ne (tgt := 157) hx hb dX2_faultIn_132 (by decide) (fun hc_832 => ?_) (fun hc_832 => ?_)
                    · have he := ite_t he hc_832
                      refine lv_iload hx hb dX2_faultIn_157 (lv_at hl 5 rfl) ?_
                      refine lv_if_ne (tgt := 181) hx hb dX2_faultIn_159 (by decide) (fun hc_833 => ?_) (fun hc_833 => ?_)
                      · have he := ite_t he hc_833
                        refine lv_iload hx hb dX2_faultIn_181 (lv_at hl 6 rfl) ?_
                        exact hret _ _ _ _ _ _ ⟨hV.trans he.symm, rfl⟩ hP hS dX2_faultIn_183
                      · have he := ite_f he (fun q => q hc_833)
                        refine lv_iload hx hb dX2_faultIn_162 (lv_at hl 0 rfl) ?_
                        refine lv_bipush (v := 41) hx hb dX2_faultIn_164 (by decide) ?_
                        refine lv_icmp_ne (tgt := 181) hx hb dX2_faultIn_166 (by decide) (fun hc_834 => ?_) (fun hc_834 => ?_)
                        · have he := ite_t he hc_834
                          refine lv_iload hx hb dX2_faultIn_181 (lv_at hl 6 rfl) ?_
                          exact hret _ _ _ _ _ _ ⟨hV.trans he.symm, rfl⟩ hP hS dX2_faultIn_183
                        · have he := ite_f he (fun q => q hc_834)
                          refine lv_iload_n hx hb dX2_faultIn_169 rfl (lv_at hl 3 rfl) ?_
                          refine lv_if_le (tgt := 181) hx hb dX2_faultIn_170 (by decide) (fun hc_835 => ?_) (fun hc_835 => ?_)
                          · have he := ite_t he hc_835
                            refine lv_iload hx hb dX2_faultIn_181 (lv_at hl 6 rfl) ?_
                            exact hret _ _ _ _ _ _ ⟨hV.trans he.symm, rfl⟩ hP hS dX2_faultIn_183
                          · have he := ite_f he hc_835
                            obtain ⟨y_836, ey_836⟩ : ∃ y_836 : Int32, y_836 = v_594 + (-1) := ⟨_, rfl⟩
                            have he := bnd_at he ey_836
                            refine lv_iinc (v := y_836) (lv' := [(2, .int y_836), (6, .int y_608), (0, .ref (ad a1)), (1, .int a2), (3, .int v_595), (4, .int v_596), (5, .int v_597)]) hx hb dX2_faultIn_173 hl (k := 3) rfl (by rw [ey_836]; rfl) (by decide) rfl (fun ls hl => ?_)
                            refine lv_iconst (v := 0) hx hb dX2_faultIn_176 (by decide) ?_
                            refine lv_istore_n (lv' := [(3, .int 0), (2, .int y_836), (6, .int y_608), (0, .ref (ad a1)), (1, .int a2), (4, .int v_596), (5, .int v_597)]) hx hb dX2_faultIn_177 rfl hl (by decide) rfl (fun ls hl => ?_)
                            refine lv_goto (tgt := 184) hx hb dX2_faultIn_178 (by decide) ?_
                            obtain ⟨y_837, ey_837⟩ : ∃ y_837 : Int32, y_837 = v_597 + 1 := ⟨_, rfl⟩
                            have he := bnd_at he ey_837
                            refine lv_iinc (v := y_837) (lv' := [(5, .int y_837), (3, .int 0), (2, .int y_836), (6, .int y_608), (0, .ref (ad a1)), (1, .int a2), (4, .int v_596)]) hx hb dX2_faultIn_184 hl (k := 6) rfl (by rw [ey_837]; rfl) (by decide) rfl (fun ls hl => ?_)
                            refine lv_goto (tgt := 10) hx hb dX2_faultIn_187 (by decide) ?_
                            exact ih _ _ _ _ _ _ _ zv_596 (by rw [ey_837, inc_I (N := 100) (nle_I hc_603) (by decide)]; omega) (by rw [ey_837]; exact mu_I hμ (nle_I hc_603) (by decide)) he hP hS (lv_sub hl [4, 5, 2, 1, 6, 0] rfl)
                    · have he := ite_f he (fun q => q hc_832)
                      refine lv_iload hx hb dX2_faultIn_135 (lv_at hl 0 rfl) ?_
                      refine callS_i [.int y_608] [] hx hb hml hG hown hK (c_X2_isSumSign had (M := M)  y_608) gw_8_17 gm_X2_isSumSign gd_X2_isSumSign rfl rfl ⟨Nat.le_of_ble_eq_true rfl, Nat.le_of_ble_eq_true rfl⟩ ⟨Nat.le_refl _, Nat.le_refl _⟩ hP (fun _ h => h) hS rfl hl.1 rfl (Nat.le_of_ble_eq_true rfl) dX2_faultIn_137 (fun r_838 u_840 H locs hF_839 hP hS => ?_)
                      obtain ⟨hz_841, hF_839, hu⟩ := hF_839; rw [hu] at hP; subst hF_839
                      refine lv_if_ne (tgt := 151) hx hb dX2_faultIn_140 (by decide) (fun hc_842 => ?_) (fun hc_842 => ?_)
                      · have he := ite_t he hc_842
                        refine lv_iconst (v := 1) hx hb dX2_faultIn_151 (by decide) ?_
                        refine lv_istore (lv' := [(4, .int 1), (6, .int y_608), (0, .ref (ad a1)), (1, .int a2), (2, .int v_594), (3, .int v_595), (5, .int v_597)]) hx hb dX2_faultIn_152 hl (by decide) rfl (fun ls hl => ?_)
                        refine lv_goto (tgt := 184) hx hb dX2_faultIn_154 (by decide) ?_
                        obtain ⟨y_843, ey_843⟩ : ∃ y_843 : Int32, y_843 = v_597 + 1 := ⟨_, rfl⟩
                        have he := bnd_at he ey_843
                        refine lv_iinc (v := y_843) (lv' := [(5, .int y_843), (4, .int 1), (6, .int y_608), (0, .ref (ad a1)), (1, .int a2), (2, .int v_594), (3, .int v_595)]) hx hb dX2_faultIn_184 hl (k := 6) rfl (by rw [ey_843]; rfl) (by decide) rfl (fun ls hl => ?_)
                        refine lv_goto (tgt := 10) hx hb dX2_faultIn_187 (by decide) ?_
                        exact ih _ _ _ _ _ _ _ (Or.inr rfl) (by rw [ey_843, inc_I (N := 100) (nle_I hc_603) (by decide)]; omega) (by rw [ey_843]; exact mu_I hμ (nle_I hc_603) (by decide)) he hP hS (lv_sub hl [3, 4, 5, 6, 1, 0] rfl)
                      · have he := ite_f he (fun q => q hc_842)
                        refine lv_iload hx hb dX2_faultIn_143 (lv_at hl 0 rfl) ?_
                        refine callS_i [.int y_608] [] hx hb hml hG hown hK (c_X2_isProductSign had (M := M)  y_608) gw_8_20 gm_X2_isProductSign gd_X2_isProductSign rfl rfl ⟨Nat.le_of_ble_eq_true rfl, Nat.le_of_ble_eq_true rfl⟩ ⟨Nat.le_refl _, Nat.le_refl _⟩ hP (fun _ h => h) hS rfl hl.1 rfl (Nat.le_of_ble_eq_true rfl) dX2_faultIn_145 (fun r_844 u_846 H locs hF_845 hP hS => ?_)
                        obtain ⟨hz_847, hF_845, hu⟩ := hF_845; rw [hu] at hP; subst hF_845
                        refine lv_if_eq (tgt := 157) hx hb dX2_faultIn_148 (by decide) (fun hc_848 => ?_) (fun hc_848 => ?_)
                        · have he := ite_t he hc_848
                          refine lv_iload hx hb dX2_faultIn_157 (lv_at hl 5 rfl) ?_
                          refine lv_if_ne (tgt := 181) hx hb dX2_faultIn_159 (by decide) (fun hc_849 => ?_) (fun hc_849 => ?_)
                          · have he := ite_t he hc_849
                            refine lv_iload hx hb dX2_faultIn_181 (lv_at hl 6 rfl) ?_
                            exact hret _ _ _ _ _ _ ⟨hV.trans he.symm, rfl⟩ hP hS dX2_faultIn_183
                          · have he := ite_f he (fun q => q hc_849)
                            refine lv_iload hx hb dX2_faultIn_162 (lv_at hl 0 rfl) ?_
                            refine lv_bipush (v := 41) hx hb dX2_faultIn_164 (by decide) ?_
                            refine lv_icmp_ne (tgt := 181) hx hb dX2_faultIn_166 (by decide) (fun hc_850 => ?_) (fun hc_850 => ?_)
                            · have he := ite_t he hc_850
                              refine lv_iload hx hb dX2_faultIn_181 (lv_at hl 6 rfl) ?_
                              exact hret _ _ _ _ _ _ ⟨hV.trans he.symm, rfl⟩ hP hS dX2_faultIn_183
                            · have he := ite_f he (fun q => q hc_850)
                              refine lv_iload_n hx hb dX2_faultIn_169 rfl (lv_at hl 3 rfl) ?_
                              refine lv_if_le (tgt := 181) hx hb dX2_faultIn_170 (by decide) (fun hc_851 => ?_) (fun hc_851 => ?_)
                              · have he := ite_t he hc_851
                                refine lv_iload hx hb dX2_faultIn_181 (lv_at hl 6 rfl) ?_
                                exact hret _ _ _ _ _ _ ⟨hV.trans he.symm, rfl⟩ hP hS dX2_faultIn_183
                              · have he := ite_f he hc_851
                                obtain ⟨y_852, ey_852⟩ : ∃ y_852 : Int32, y_852 = v_594 + (-1) := ⟨_, rfl⟩
                                have he := bnd_at he ey_852
                                refine lv_iinc (v := y_852) (lv' := [(2, .int y_852), (6, .int y_608), (0, .ref (ad a1)), (1, .int a2), (3, .int v_595), (4, .int v_596), (5, .int v_597)]) hx hb dX2_faultIn_173 hl (k := 3) rfl (by rw [ey_852]; rfl) (by decide) rfl (fun ls hl => ?_)
                                refine lv_iconst (v := 0) hx hb dX2_faultIn_176 (by decide) ?_
                                refine lv_istore_n (lv' := [(3, .int 0), (2, .int y_852), (6, .int y_608), (0, .ref (ad a1)), (1, .int a2), (4, .int v_596), (5, .int v_597)]) hx hb dX2_faultIn_177 rfl hl (by decide) rfl (fun ls hl => ?_)
                                refine lv_goto (tgt := 184) hx hb dX2_faultIn_178 (by decide) ?_
                                obtain ⟨y_853, ey_853⟩ : ∃ y_853 : Int32, y_853 = v_597 + 1 := ⟨_, rfl⟩
                                have he := bnd_at he ey_853
                                refine lv_iinc (v := y_853) (lv' := [(5, .int y_853), (3, .int 0), (2, .int y_852), (6, .int y_608), (0, .ref (ad a1)), (1, .int a2), (4, .int v_596)]) hx hb dX2_faultIn_184 hl (k := 6) rfl (by rw [ey_853]; rfl) (by decide) rfl (fun ls hl => ?_)
                                refine lv_goto (tgt := 10) hx hb dX2_faultIn_187 (by decide) ?_
                                exact ih _ _ _ _ _ _ _ zv_596 (by rw [ey_853, inc_I (N := 100) (nle_I hc_603) (by decide)]; omega) (by rw [ey_853]; exact mu_I hμ (nle_I hc_603) (by decide)) he hP hS (lv_sub hl [4, 5, 2, 1, 6, 0] rfl)
                        · have he := ite_f he hc_848
                          refine lv_iconst (v := 1) hx hb dX2_faultIn_151 (by decide) ?_
                          refine lv_istore (lv' := [(4, .int 1), (6, .int y_608), (0, .ref (ad a1)), (1, .int a2), (2, .int v_594), (3, .int v_595), (5, .int v_597)]) hx hb dX2_faultIn_152 hl (by decide) rfl (fun ls hl => ?_)
                          refine lv_goto (tgt := 184) hx hb dX2_faultIn_154 (by decide) ?_
                          obtain ⟨y_854, ey_854⟩ : ∃ y_854 : Int32, y_854 = v_597 + 1 := ⟨_, rfl⟩
                          have he := bnd_at he ey_854
                          refine lv_iinc (v := y_854) (lv' := [(5, .int y_854), (4, .int 1), (6, .int y_608), (0, .ref (ad a1)), (1, .int a2), (2, .int v_594), (3, .int v_595)]) hx hb dX2_faultIn_184 hl (k := 6) rfl (by rw [ey_854]; rfl) (by decide) rfl (fun ls hl => ?_)
                          refine lv_goto (tgt := 10) hx hb dX2_faultIn_187 (by decide) ?_
                          exact ih _ _ _ _ _ _ _ (Or.inr rfl) (by rw [ey_854, inc_I (N := 100) (nle_I hc_603) (by decide)]; omega) (by rw [ey_854]; exact mu_I hμ (nle_I hc_603) (by decide)) he hP hS (lv_sub hl [3, 4, 5, 6, 1, 0] rfl)
                  · have he := ite_f he hc_831
                    refine lv_iload_n hx hb dX2_faultIn_120 rfl (lv_at hl 4 rfl) ?_
                    refine lv_if_le (tgt := 130) hx hb dX2_faultIn_121 (by decide) (fun hc_855 => ?_) (fun hc_855 => ?_)
                    · have he := ite_t he hc_855
                      refine lv_iload hx hb dX2_faultIn_130 (lv_at hl 5 rfl) ?_
                      refine lv_if_ne (tgt := 157) hx hb dX2_faultIn_132 (by decide) (fun hc_856 => ?_) (fun hc_856 => ?_)
                      · have he := ite_t he hc_856
                        refine lv_iload hx hb dX2_faultIn_157 (lv_at hl 5 rfl) ?_
                        refine lv_if_ne (tgt := 181) hx hb dX2_faultIn_159 (by decide) (fun hc_857 => ?_) (fun hc_857 => ?_)
                        · have he := ite_t he hc_857
                          refine lv_iload hx hb dX2_faultIn_181 (lv_at hl 6 rfl) ?_
                          exact hret _ _ _ _ _ _ ⟨hV.trans he.symm, rfl⟩ hP hS dX2_faultIn_183
                        · have he := ite_f he (fun q => q hc_857)
                          refine lv_iload hx hb dX2_faultIn_162 (lv_at hl 0 rfl) ?_
                          refine lv_bipush (v := 41) hx hb dX2_faultIn_164 (by decide) ?_
                          refine lv_icmp_ne (tgt := 181) hx hb dX2_faultIn_166 (by decide) (fun hc_858 => ?_) (fun hc_858 => ?_)
                          · have he := ite_t he hc_858
                            refine lv_iload hx hb dX2_faultIn_181 (lv_at hl 6 rfl) ?_
                            exact hret _ _ _ _ _ _ ⟨hV.trans he.symm, rfl⟩ hP hS dX2_faultIn_183
                          · have he := ite_f he (fun q => q hc_858)
                            refine lv_iload_n hx hb dX2_faultIn_169 rfl (lv_at hl 3 rfl) ?_
                            refine lv_if_le (tgt := 181) hx hb dX2_faultIn_170 (by decide) (fun hc_859 => ?_) (fun hc_859 => ?_)
                            · have he := ite_t he hc_859
                              refine lv_iload hx hb dX2_faultIn_181 (lv_at hl 6 rfl) ?_
                              exact hret _ _ _ _ _ _ ⟨hV.trans he.symm, rfl⟩ hP hS dX2_faultIn_183
                            · have he := ite_f he hc_859
                              obtain ⟨y_860, ey_860⟩ : ∃ y_860 : Int32, y_860 = v_594 + (-1) := ⟨_, rfl⟩
                              have he := bnd_at he ey_860
                              refine lv_iinc (v := y_860) (lv' := [(2, .int y_860), (6, .int y_608), (0, .ref (ad a1)), (1, .int a2), (3, .int v_595), (4, .int v_596), (5, .int v_597)]) hx hb dX2_faultIn_173 hl (k := 3) rfl (by rw [ey_860]; rfl) (by decide) rfl (fun ls hl => ?_)
                              refine lv_iconst (v := 0) hx hb dX2_faultIn_176 (by decide) ?_
                              refine lv_istore_n (lv' := [(3, .int 0), (2, .int y_860), (6, .int y_608), (0, .ref (ad a1)), (1, .int a2), (4, .int v_596), (5, .int v_597)]) hx hb dX2_faultIn_177 rfl hl (by decide) rfl (fun ls hl => ?_)
                              refine lv_goto (tgt := 184) hx hb dX2_faultIn_178 (by decide) ?_
                              obtain ⟨y_861, ey_861⟩ : ∃ y_861 : Int32, y_861 = v_597 + 1 := ⟨_, rfl⟩
                              have he := bnd_at he ey_861
                              refine lv_iinc (v := y_861) (lv' := [(5, .int y_861), (3, .int 0), (2, .int y_860), (6, .int y_608), (0, .ref (ad a1)), (1, .int a2), (4, .int v_596)]) hx hb dX2_faultIn_184 hl (k := 6) rfl (by rw [ey_861]; rfl) (by decide) rfl (fun ls hl => ?_)
                              refine lv_goto (tgt := 10) hx hb dX2_faultIn_187 (by decide) ?_
                              exact ih _ _ _ _ _ _ _ zv_596 (by rw [ey_861, inc_I (N := 100) (nle_I hc_603) (by decide)]; omega) (by rw [ey_861]; exact mu_I hμ (nle_I hc_603) (by decide)) he hP hS (lv_sub hl [4, 5, 2, 1, 6, 0] rfl)
                      · have he := ite_f he (fun q => q hc_856)
                        refine lv_iload hx hb dX2_faultIn_135 (lv_at hl 0 rfl) ?_
                        refine callS_i [.int y_608] [] hx hb hml hG hown hK (c_X2_isSumSign had (M := M)  y_608) gw_8_17 gm_X2_isSumSign gd_X2_isSumSign rfl rfl ⟨Nat.le_of_ble_eq_true rfl, Nat.le_of_ble_eq_true rfl⟩ ⟨Nat.le_refl _, Nat.le_refl _⟩ hP (fun _ h => h) hS rfl hl.1 rfl (Nat.le_of_ble_eq_true rfl) dX2_faultIn_137 (fun r_862 u_864 H locs hF_863 hP hS => ?_)
                        obtain ⟨hz_865, hF_863, hu⟩ := hF_863; rw [hu] at hP; subst hF_863
                        refine lv_if_ne (tgt := 151) hx hb dX2_faultIn_140 (by decide) (fun hc_866 => ?_) (fun hc_866 => ?_)
                        · have he := ite_t he hc_866
                          refine lv_iconst (v := 1) hx hb dX2_faultIn_151 (by decide) ?_
                          refine lv_istore (lv' := [(4, .int 1), (6, .int y_608), (0, .ref (ad a1)), (1, .int a2), (2, .int v_594), (3, .int v_595), (5, .int v_597)]) hx hb dX2_faultIn_152 hl (by decide) rfl (fun ls hl => ?_)
                          refine lv_goto (tgt := 184) hx hb dX2_faultIn_154 (by decide) ?_
                          obtain ⟨y_867, ey_867⟩ : ∃ y_867 : Int32, y_867 = v_597 + 1 := ⟨_, rfl⟩
                          have he := bnd_at he ey_867
                          refine lv_iinc (v := y_867) (lv' := [(5, .int y_867), (4, .int 1), (6, .int y_608), (0, .ref (ad a1)), (1, .int a2), (2, .int v_594), (3, .int v_595)]) hx hb dX2_faultIn_184 hl (k := 6) rfl (by rw [ey_867]; rfl) (by decide) rfl (fun ls hl => ?_)
                          refine lv_goto (tgt := 10) hx hb dX2_faultIn_187 (by decide) ?_
                          exact ih _ _ _ _ _ _ _ (Or.inr rfl) (by rw [ey_867, inc_I (N := 100) (nle_I hc_603) (by decide)]; omega) (by rw [ey_867]; exact mu_I hμ (nle_I hc_603) (by decide)) he hP hS (lv_sub hl [3, 4, 5, 6, 1, 0] rfl)
                        · have he := ite_f he (fun q => q hc_866)
                          refine lv_iload hx hb dX2_faultIn_143 (lv_at hl 0 rfl) ?_
                          refine callS_i [.int y_608] [] hx hb hml hG hown hK (c_X2_isProductSign had (M := M)  y_608) gw_8_20 gm_X2_isProductSign gd_X2_isProductSign rfl rfl ⟨Nat.le_of_ble_eq_true rfl, Nat.le_of_ble_eq_true rfl⟩ ⟨Nat.le_refl _, Nat.le_refl _⟩ hP (fun _ h => h) hS rfl hl.1 rfl (Nat.le_of_ble_eq_true rfl) dX2_faultIn_145 (fun r_868 u_870 H locs hF_869 hP hS => ?_)
                          obtain ⟨hz_871, hF_869, hu⟩ := hF_869; rw [hu] at hP; subst hF_869
                          refine lv_if_eq (tgt := 157) hx hb dX2_faultIn_148 (by decide) (fun hc_872 => ?_) (fun hc_872 => ?_)
                          · have he := ite_t he hc_872
                            refine lv_iload hx hb dX2_faultIn_157 (lv_at hl 5 rfl) ?_
                            refine lv_if_ne (tgt := 181) hx hb dX2_faultIn_159 (by decide) (fun hc_873 => ?_) (fun hc_873 => ?_)
                            · have he := ite_t he hc_873
                              refine lv_iload hx hb dX2_faultIn_181 (lv_at hl 6 rfl) ?_
                              exact hret _ _ _ _ _ _ ⟨hV.trans he.symm, rfl⟩ hP hS dX2_faultIn_183
                            · have he := ite_f he (fun q => q hc_873)
                              refine lv_iload hx hb dX2_faultIn_162 (lv_at hl 0 rfl) ?_
                              refine lv_bipush (v := 41) hx hb dX2_faultIn_164 (by decide) ?_
                              refine lv_icmp_ne (tgt := 181) hx hb dX2_faultIn_166 (by decide) (fun hc_874 => ?_) (fun hc_874 => ?_)
                              · have he := ite_t he hc_874
                                refine lv_iload hx hb dX2_faultIn_181 (lv_at hl 6 rfl) ?_
                                exact hret _ _ _ _ _ _ ⟨hV.trans he.symm, rfl⟩ hP hS dX2_faultIn_183
                              · have he := ite_f he (fun q => q hc_874)
                                refine lv_iload_n hx hb dX2_faultIn_169 rfl (lv_at hl 3 rfl) ?_
                                refine lv_if_le (tgt := 181) hx hb dX2_faultIn_170 (by decide) (fun hc_875 => ?_) (fun hc_875 => ?_)
                                · have he := ite_t he hc_875
                                  refine lv_iload hx hb dX2_faultIn_181 (lv_at hl 6 rfl) ?_
                                  exact hret _ _ _ _ _ _ ⟨hV.trans he.symm, rfl⟩ hP hS dX2_faultIn_183
                                · have he := ite_f he hc_875
                                  obtain ⟨y_876, ey_876⟩ : ∃ y_876 : Int32, y_876 = v_594 + (-1) := ⟨_, rfl⟩
                                  have he := bnd_at he ey_876
                                  refine lv_iinc (v := y_876) (lv' := [(2, .int y_876), (6, .int y_608), (0, .ref (ad a1)), (1, .int a2), (3, .int v_595), (4, .int v_596), (5, .int v_597)]) hx hb dX2_faultIn_173 hl (k := 3) rfl (by rw [ey_876]; rfl) (by decide) rfl (fun ls hl => ?_)
                                  refine lv_iconst (v := 0) hx hb dX2_faultIn_176 (by decide) ?_
                                  refine lv_istore_n (lv' := [(3, .int 0), (2, .int y_876), (6, .int y_608), (0, .ref (ad a1)), (1, .int a2), (4, .int v_596), (5, .int v_597)]) hx hb dX2_faultIn_177 rfl hl (by decide) rfl (fun ls hl => ?_)
                                  refine lv_goto (tgt := 184) hx hb dX2_faultIn_178 (by decide) ?_
                                  obtain ⟨y_877, ey_877⟩ : ∃ y_877 : Int32, y_877 = v_597 + 1 := ⟨_, rfl⟩
                                  have he := bnd_at he ey_877
                                  refine lv_iinc (v := y_877) (lv' := [(5, .int y_877), (3, .int 0), (2, .int y_876), (6, .int y_608), (0, .ref (ad a1)), (1, .int a2), (4, .int v_596)]) hx hb dX2_faultIn_184 hl (k := 6) rfl (by rw [ey_877]; rfl) (by decide) rfl (fun ls hl => ?_)
                                  refine lv_goto (tgt := 10) hx hb dX2_faultIn_187 (by decide) ?_
                                  exact ih _ _ _ _ _ _ _ zv_596 (by rw [ey_877, inc_I (N := 100) (nle_I hc_603) (by decide)]; omega) (by rw [ey_877]; exact mu_I hμ (nle_I hc_603) (by decide)) he hP hS (lv_sub hl [4, 5, 2, 1, 6, 0] rfl)
                          · have he := ite_f he hc_872
                            refine lv_iconst (v := 1) hx hb dX2_faultIn_151 (by decide) ?_
                            refine lv_istore (lv' := [(4, .int 1), (6, .int y_608), (0, .ref (ad a1)), (1, .int a2), (2, .int v_594), (3, .int v_595), (5, .int v_597)]) hx hb dX2_faultIn_152 hl (by decide) rfl (fun ls hl => ?_)
                            refine lv_goto (tgt := 184) hx hb dX2_faultIn_154 (by decide) ?_
                            obtain ⟨y_878, ey_878⟩ : ∃ y_878 : Int32, y_878 = v_597 + 1 := ⟨_, rfl⟩
                            have he := bnd_at he ey_878
                            refine lv_iinc (v := y_878) (lv' := [(5, .int y_878), (4, .int 1), (6, .int y_608), (0, .ref (ad a1)), (1, .int a2), (2, .int v_594), (3, .int v_595)]) hx hb dX2_faultIn_184 hl (k := 6) rfl (by rw [ey_878]; rfl) (by decide) rfl (fun ls hl => ?_)
                            refine lv_goto (tgt := 10) hx hb dX2_faultIn_187 (by decide) ?_
                            exact ih _ _ _ _ _ _ _ (Or.inr rfl) (by rw [ey_878, inc_I (N := 100) (nle_I hc_603) (by decide)]; omega) (by rw [ey_878]; exact mu_I hμ (nle_I hc_603) (by decide)) he hP hS (lv_sub hl [3, 4, 5, 6, 1, 0] rfl)
                    · have he := ite_f he hc_855
                      obtain ⟨y_879, ey_879⟩ : ∃ y_879 : Int32, y_879 = v_595 + (-1) := ⟨_, rfl⟩
                      have he := bnd_at he ey_879
                      refine lv_iinc (v := y_879) (lv' := [(3, .int y_879), (6, .int y_608), (0, .ref (ad a1)), (1, .int a2), (2, .int v_594), (4, .int v_596), (5, .int v_597)]) hx hb dX2_faultIn_124 hl (k := 4) rfl (by rw [ey_879]; rfl) (by decide) rfl (fun ls hl => ?_)
                      refine lv_goto (tgt := 184) hx hb dX2_faultIn_127 (by decide) ?_
                      obtain ⟨y_880, ey_880⟩ : ∃ y_880 : Int32, y_880 = v_597 + 1 := ⟨_, rfl⟩
                      have he := bnd_at he ey_880
                      refine lv_iinc (v := y_880) (lv' := [(5, .int y_880), (3, .int y_879), (6, .int y_608), (0, .ref (ad a1)), (1, .int a2), (2, .int v_594), (4, .int v_596)]) hx hb dX2_faultIn_184 hl (k := 6) rfl (by rw [ey_880]; rfl) (by decide) rfl (fun ls hl => ?_)
                      refine lv_goto (tgt := 10) hx hb dX2_faultIn_187 (by decide) ?_
                      exact ih _ _ _ _ _ _ _ zv_596 (by rw [ey_880, inc_I (N := 100) (nle_I hc_603) (by decide)]; omega) (by rw [ey_880]; exact mu_I hμ (nle_I hc_603) (by decide)) he hP hS (lv_sub hl [3, 4, 5, 1, 6, 0] rfl)
              · have he := ite_f he hc_802
                refine lv_iload hx hb dX2_faultIn_58 (lv_at hl 0 rfl) ?_
                refine callS_i [.int y_608] [] hx hb hml hG hown hK (c_X2_isDigit had (M := M)  y_608) gw_8_14 gm_X2_isDigit gd_X2_isDigit rfl rfl ⟨Nat.le_of_ble_eq_true rfl, Nat.le_of_ble_eq_true rfl⟩ ⟨Nat.le_refl _, Nat.le_refl _⟩ hP (fun _ h => h) hS rfl hl.1 rfl (Nat.le_of_ble_eq_true rfl) dX2_faultIn_60 (fun r_881 u_883 H locs hF_882 hP hS => ?_)
                obtain ⟨hz_884, hF_882, hu⟩ := hF_882; rw [hu] at hP; subst hF_882
                refine lv_if_ne (tgt := 80) hx hb dX2_faultIn_63 (by decide) (fun hc_885 => ?_) (fun hc_885 => ?_)
                · have he := ite_t he hc_885
                  refine lv_iconst (v := 0) hx hb dX2_faultIn_80 (by decide) ?_
                  refine lv_istore (lv' := [(4, .int 0), (6, .int y_608), (0, .ref (ad a1)), (1, .int a2), (2, .int v_594), (3, .int v_595), (5, .int v_597)]) hx hb dX2_faultIn_81 hl (by decide) rfl (fun ls hl => ?_)
                  refine lv_iload hx hb dX2_faultIn_83 (lv_at hl 1 rfl) ?_
                  refine callS_i [.int y_608] [] hx hb hml hG hown hK (c_X2_isDigit had (M := M)  y_608) gw_8_14 gm_X2_isDigit gd_X2_isDigit rfl rfl ⟨Nat.le_of_ble_eq_true rfl, Nat.le_of_ble_eq_true rfl⟩ ⟨Nat.le_refl _, Nat.le_refl _⟩ hP (fun _ h => h) hS rfl hl.1 rfl (Nat.le_of_ble_eq_true rfl) dX2_faultIn_85 (fun r_886 u_888 H locs hF_887 hP hS => ?_)
                  obtain ⟨hz_889, hF_887, hu⟩ := hF_887; rw [hu] at hP; subst hF_887
                  obtain ⟨t_893, hr_891, he⟩ := bnd_ex he
                  have j103 : ∀ (H : Heap) (locs : List Loc) (ls : Array Slot), va_P D vwCl (wld 74 ad (cC ad k M)) H → va_S (AW 74 ad) s.heap H locs → lv_has ls 7 [(0, .ref (ad a1)), (1, .int a2), (2, .int v_594), (4, .int 0), (5, .int v_597)] → W p l e rm_X2_faultIn s m args below meth c H locs 0 0 Q (F0 m 103 ls [.int t_893]) := by
                    intro H locs ls hP hS hl
                    refine lv_istore_n (lv' := [(3, .int t_893), (0, .ref (ad a1)), (1, .int a2), (2, .int v_594), (4, .int 0), (5, .int v_597)]) hx hb dX2_faultIn_103 rfl hl (by decide) rfl (fun ls hl => ?_)
                    refine lv_goto (tgt := 184) hx hb dX2_faultIn_104 (by decide) ?_
                    obtain ⟨y_894, ey_894⟩ : ∃ y_894 : Int32, y_894 = v_597 + 1 := ⟨_, rfl⟩
                    have he := bnd_at he ey_894
                    refine lv_iinc (v := y_894) (lv' := [(5, .int y_894), (3, .int t_893), (0, .ref (ad a1)), (1, .int a2), (2, .int v_594), (4, .int 0)]) hx hb dX2_faultIn_184 hl (k := 5) rfl (by rw [ey_894]; rfl) (by decide) rfl (fun ls hl => ?_)
                    refine lv_goto (tgt := 10) hx hb dX2_faultIn_187 (by decide) ?_
                    exact ih _ _ _ _ _ _ _ (Or.inl rfl) (by rw [ey_894, inc_I (N := 100) (nle_I hc_603) (by decide)]; omega) (by rw [ey_894]; exact mu_I hμ (nle_I hc_603) (by decide)) he hP hS (lv_sub hl [2, 3, 4, 1, 5, 0] rfl)
                  refine lv_if_eq (tgt := 102) hx hb dX2_faultIn_88 (by decide) (fun hc_890 => ?_) (fun hc_890 => ?_)
                  · have hr_891 := ite_t hr_891 hc_890
                    refine lv_iconst (v := 0) hx hb dX2_faultIn_102 (by decide) ?_
                    cases hr_891
                    exact j103 _ _ _ hP hS (lv_sub hl [2, 3, 4, 0, 6] rfl)
                  · have hr_891 := ite_f hr_891 hc_890
                    refine lv_iload hx hb dX2_faultIn_91 (lv_at hl 1 rfl) ?_
                    refine lv_bipush (v := 48) hx hb dX2_faultIn_93 (by decide) ?_
                    refine lv_icmp_eq (tgt := 102) hx hb dX2_faultIn_95 (by decide) (fun hc_892 => ?_) (fun hc_892 => ?_)
                    · have hr_891 := ite_t hr_891 hc_892
                      refine lv_iconst (v := 0) hx hb dX2_faultIn_102 (by decide) ?_
                      cases hr_891
                      exact j103 _ _ _ hP hS (lv_sub hl [2, 3, 4, 0, 6] rfl)
                    · have hr_891 := ite_f hr_891 hc_892
                      refine lv_iconst (v := 2) hx hb dX2_faultIn_98 (by decide) ?_
                      refine lv_goto (tgt := 103) hx hb dX2_faultIn_99 (by decide) ?_
                      cases hr_891
                      exact j103 _ _ _ hP hS (lv_sub hl [2, 3, 4, 0, 6] rfl)
                · have he := ite_f he (fun q => q hc_885)
                  refine lv_iload hx hb dX2_faultIn_66 (lv_at hl 0 rfl) ?_
                  refine lv_bipush (v := 116) hx hb dX2_faultIn_68 (by decide) ?_
                  refine lv_icmp_eq (tgt := 80) hx hb dX2_faultIn_70 (by decide) (fun hc_895 => ?_) (fun hc_895 => ?_)
                  · have he := ite_t he hc_895
                    refine lv_iconst (v := 0) hx hb dX2_faultIn_80 (by decide) ?_
                    refine lv_istore (lv' := [(4, .int 0), (6, .int y_608), (0, .ref (ad a1)), (1, .int a2), (2, .int v_594), (3, .int v_595), (5, .int v_597)]) hx hb dX2_faultIn_81 hl (by decide) rfl (fun ls hl => ?_)
                    refine lv_iload hx hb dX2_faultIn_83 (lv_at hl 1 rfl) ?_
                    refine callS_i [.int y_608] [] hx hb hml hG hown hK (c_X2_isDigit had (M := M)  y_608) gw_8_14 gm_X2_isDigit gd_X2_isDigit rfl rfl ⟨Nat.le_of_ble_eq_true rfl, Nat.le_of_ble_eq_true rfl⟩ ⟨Nat.le_refl _, Nat.le_refl _⟩ hP (fun _ h => h) hS rfl hl.1 rfl (Nat.le_of_ble_eq_true rfl) dX2_faultIn_85 (fun r_896 u_898 H locs hF_897 hP hS => ?_)
                    obtain ⟨hz_899, hF_897, hu⟩ := hF_897; rw [hu] at hP; subst hF_897
                    obtain ⟨t_903, hr_901, he⟩ := bnd_ex he
                    have j103 : ∀ (H : Heap) (locs : List Loc) (ls : Array Slot), va_P D vwCl (wld 74 ad (cC ad k M)) H → va_S (AW 74 ad) s.heap H locs → lv_has ls 7 [(0, .ref (ad a1)), (1, .int a2), (2, .int v_594), (4, .int 0), (5, .int v_597)] → W p l e rm_X2_faultIn s m args below meth c H locs 0 0 Q (F0 m 103 ls [.int t_903]) := by
                      intro H locs ls hP hS hl
                      refine lv_istore_n (lv' := [(3, .int t_903), (0, .ref (ad a1)), (1, .int a2), (2, .int v_594), (4, .int 0), (5, .int v_597)]) hx hb dX2_faultIn_103 rfl hl (by decide) rfl (fun ls hl => ?_)
                      refine lv_goto (tgt := 184) hx hb dX2_faultIn_104 (by decide) ?_
                      obtain ⟨y_904, ey_904⟩ : ∃ y_904 : Int32, y_904 = v_597 + 1 := ⟨_, rfl⟩
                      have he := bnd_at he ey_904
                      refine lv_iinc (v := y_904) (lv' := [(5, .int y_904), (3, .int t_903), (0, .ref (ad a1)), (1, .int a2), (2, .int v_594), (4, .int 0)]) hx hb dX2_faultIn_184 hl (k := 5) rfl (by rw [ey_904]; rfl) (by decide) rfl (fun ls hl => ?_)
                      refine lv_goto (tgt := 10) hx hb dX2_faultIn_187 (by decide) ?_
                      exact ih _ _ _ _ _ _ _ (Or.inl rfl) (by rw [ey_904, inc_I (N := 100) (nle_I hc_603) (by decide)]; omega) (by rw [ey_904]; exact mu_I hμ (nle_I hc_603) (by decide)) he hP hS (lv_sub hl [2, 3, 4, 1, 5, 0] rfl)
                    refine lv_if_eq (tgt := 102) hx hb dX2_faultIn_88 (by decide) (fun hc_900 => ?_) (fun hc_900 => ?_)
                    · have hr_901 := ite_t hr_901 hc_900
                      refine lv_iconst (v := 0) hx hb dX2_faultIn_102 (by decide) ?_
                      cases hr_901
                      exact j103 _ _ _ hP hS (lv_sub hl [2, 3, 4, 0, 6] rfl)
                    · have hr_901 := ite_f hr_901 hc_900
                      refine lv_iload hx hb dX2_faultIn_91 (lv_at hl 1 rfl) ?_
                      refine lv_bipush (v := 48) hx hb dX2_faultIn_93 (by decide) ?_
                      refine lv_icmp_eq (tgt := 102) hx hb dX2_faultIn_95 (by decide) (fun hc_902 => ?_) (fun hc_902 => ?_)
                      · have hr_901 := ite_t hr_901 hc_902
                        refine lv_iconst (v := 0) hx hb dX2_faultIn_102 (by decide) ?_
                        cases hr_901
                        exact j103 _ _ _ hP hS (lv_sub hl [2, 3, 4, 0, 6] rfl)
                      · have hr_901 := ite_f hr_901 hc_902
                        refine lv_iconst (v := 2) hx hb dX2_faultIn_98 (by decide) ?_
                        refine lv_goto (tgt := 103) hx hb dX2_faultIn_99 (by decide) ?_
                        cases hr_901
                        exact j103 _ _ _ hP hS (lv_sub hl [2, 3, 4, 0, 6] rfl)
                  · have he := ite_f he hc_895
                    refine lv_iload hx hb dX2_faultIn_73 (lv_at hl 0 rfl) ?_
                    refine lv_bipush (v := 115) hx hb dX2_faultIn_75 (by decide) ?_
                    refine lv_icmp_ne (tgt := 107) hx hb dX2_faultIn_77 (by decide) (fun hc_905 => ?_) (fun hc_905 => ?_)
                    · have he := ite_t he hc_905
                      refine lv_iload hx hb dX2_faultIn_107 (lv_at hl 5 rfl) ?_
                      refine lv_if_ne (tgt := 130) hx hb dX2_faultIn_109 (by decide) (fun hc_906 => ?_) (fun hc_906 => ?_)
                      · have he := ite_t he hc_906
                        refine lv_iload hx hb dX2_faultIn_130 (lv_at hl 5 rfl) ?_
                        refine lv_if_ne (tgt := 157) hx hb dX2_faultIn_132 (by decide) (fun hc_907 => ?_) (fun hc_907 => ?_)
                        · have he := ite_t he hc_907
                          refine lv_iload hx hb dX2_faultIn_157 (lv_at hl 5 rfl) ?_
                          refine lv_if_ne (tgt := 181) hx hb dX2_faultIn_159 (by decide) (fun hc_908 => ?_) (fun hc_908 => ?_)
                          · have he := ite_t he hc_908
                            refine lv_iload hx hb dX2_faultIn_181 (lv_at hl 6 rfl) ?_
                            exact hret _ _ _ _ _ _ ⟨hV.trans he.symm, rfl⟩ hP hS dX2_faultIn_183
                          · have he := ite_f he (fun q => q hc_908)
                            refine lv_iload hx hb dX2_faultIn_162 (lv_at hl 0 rfl) ?_
                            refine lv_bipush (v := 41) hx hb dX2_faultIn_164 (by decide) ?_
                            refine lv_icmp_ne (tgt := 181) hx hb dX2_faultIn_166 (by decide) (fun hc_909 => ?_) (fun hc_909 => ?_)
                            · have he := ite_t he hc_909
                              refine lv_iload hx hb dX2_faultIn_181 (lv_at hl 6 rfl) ?_
                              exact hret _ _ _ _ _ _ ⟨hV.trans he.symm, rfl⟩ hP hS dX2_faultIn_183
                            · have he := ite_f he (fun q => q hc_909)
                              refine lv_iload_n hx hb dX2_faultIn_169 rfl (lv_at hl 3 rfl) ?_
                              refine lv_if_le (tgt := 181) hx hb dX2_faultIn_170 (by decide) (fun hc_910 => ?_) (fun hc_910 => ?_)
                              · have he := ite_t he hc_910
                                refine lv_iload hx hb dX2_faultIn_181 (lv_at hl 6 rfl) ?_
                                exact hret _ _ _ _ _ _ ⟨hV.trans he.symm, rfl⟩ hP hS dX2_faultIn_183
                              · have he := ite_f he hc_910
                                obtain ⟨y_911, ey_911⟩ : ∃ y_911 : Int32, y_911 = v_594 + (-1) := ⟨_, rfl⟩
                                have he := bnd_at he ey_911
                                refine lv_iinc (v := y_911) (lv' := [(2, .int y_911), (6, .int y_608), (0, .ref (ad a1)), (1, .int a2), (3, .int v_595), (4, .int v_596), (5, .int v_597)]) hx hb dX2_faultIn_173 hl (k := 3) rfl (by rw [ey_911]; rfl) (by decide) rfl (fun ls hl => ?_)
                                refine lv_iconst (v := 0) hx hb dX2_faultIn_176 (by decide) ?_
                                refine lv_istore_n (lv' := [(3, .int 0), (2, .int y_911), (6, .int y_608), (0, .ref (ad a1)), (1, .int a2), (4, .int v_596), (5, .int v_597)]) hx hb dX2_faultIn_177 rfl hl (by decide) rfl (fun ls hl => ?_)
                                refine lv_goto (tgt := 184) hx hb dX2_faultIn_178 (by decide) ?_
                                obtain ⟨y_912, ey_912⟩ : ∃ y_912 : Int32, y_912 = v_597 + 1 := ⟨_, rfl⟩
                                have he := bnd_at he ey_912
                                refine lv_iinc (v := y_912) (lv' := [(5, .int y_912), (3, .int 0), (2, .int y_911), (6, .int y_608), (0, .ref (ad a1)), (1, .int a2), (4, .int v_596)]) hx hb dX2_faultIn_184 hl (k := 6) rfl (by rw [ey_912]; rfl) (by decide) rfl (fun ls hl => ?_)
                                refine lv_goto (tgt := 10) hx hb dX2_faultIn_187 (by decide) ?_
                                exact ih _ _ _ _ _ _ _ zv_596 (by rw [ey_912, inc_I (N := 100) (nle_I hc_603) (by decide)]; omega) (by rw [ey_912]; exact mu_I hμ (nle_I hc_603) (by decide)) he hP hS (lv_sub hl [4, 5, 2, 1, 6, 0] rfl)
                        · have he := ite_f he (fun q => q hc_907)
                          refine lv_iload hx hb dX2_faultIn_135 (lv_at hl 0 rfl) ?_
                          refine callS_i [.int y_608] [] hx hb hml hG hown hK (c_X2_isSumSign had (M := M)  y_608) gw_8_17 gm_X2_isSumSign gd_X2_isSumSign rfl rfl ⟨Nat.le_of_ble_eq_true rfl, Nat.le_of_ble_eq_true rfl⟩ ⟨Nat.le_refl _, Nat.le_refl _⟩ hP (fun _ h => h) hS rfl hl.1 rfl (Nat.le_of_ble_eq_true rfl) dX2_faultIn_137 (fun r_913 u_915 H locs hF_914 hP hS => ?_)
                          obtain ⟨hz_916, hF_914, hu⟩ := hF_914; rw [hu] at hP; subst hF_914
                          refine lv_if_ne (tgt := 151) hx hb dX2_faultIn_140 (by decide) (fun hc_917 => ?_) (fun hc_917 => ?_)
                          · have he := ite_t he hc_917
                            refine lv_iconst (v := 1) hx hb dX2_faultIn_151 (by decide) ?_
                            refine lv_istore (lv' := [(4, .int 1), (6, .int y_608), (0, .ref (ad a1)), (1, .int a2), (2, .int v_594), (3, .int v_595), (5, .int v_597)]) hx hb dX2_faultIn_152 hl (by decide) rfl (fun ls hl => ?_)
                            refine lv_goto (tgt := 184) hx hb dX2_faultIn_154 (by decide) ?_
                            obtain ⟨y_918, ey_918⟩ : ∃ y_918 : Int32, y_918 = v_597 + 1 := ⟨_, rfl⟩
                            have he := bnd_at he ey_918
                            refine lv_iinc (v := y_918) (lv' := [(5, .int y_918), (4, .int 1), (6, .int y_608), (0, .ref (ad a1)), (1, .int a2), (2, .int v_594), (3, .int v_595)]) hx hb dX2_faultIn_184 hl (k := 6) rfl (by rw [ey_918]; rfl) (by decide) rfl (fun ls hl => ?_)
                            refine lv_goto (tgt := 10) hx hb dX2_faultIn_187 (by decide) ?_
                            exact ih _ _ _ _ _ _ _ (Or.inr rfl) (by rw [ey_918, inc_I (N := 100) (nle_I hc_603) (by decide)]; omega) (by rw [ey_918]; exact mu_I hμ (nle_I hc_603) (by decide)) he hP hS (lv_sub hl [3, 4, 5, 6, 1, 0] rfl)
                          · have he := ite_f he (fun q => q hc_917)
                            refine lv_iload hx hb dX2_faultIn_143 (lv_at hl 0 rfl) ?_
                            refine callS_i [.int y_608] [] hx hb hml hG hown hK (c_X2_isProductSign had (M := M)  y_608) gw_8_20 gm_X2_isProductSign gd_X2_isProductSign rfl rfl ⟨Nat.le_of_ble_eq_true rfl, Nat.le_of_ble_eq_true rfl⟩ ⟨Nat.le_refl _, Nat.le_refl _⟩ hP (fun _ h => h) hS rfl hl.1 rfl (Nat.le_of_ble_eq_true rfl) dX2_faultIn_145 (fun r_919 u_921 H locs hF_920 hP hS => ?_)
                            obtain ⟨hz_922, hF_920, hu⟩ := hF_920; rw [hu] at hP; subst hF_920
                            refine lv_if_eq (tgt := 157) hx hb dX2_faultIn_148 (by decide) (fun hc_923 => ?_) (fun hc_923 => ?_)
                            · have he := ite_t he hc_923
                              refine lv_iload hx hb dX2_faultIn_157 (lv_at hl 5 rfl) ?_
                              refine lv_if_ne (tgt := 181) hx hb dX2_faultIn_159 (by decide) (fun hc_924 => ?_) (fun hc_924 => ?_)
                              · have he := ite_t he hc_924
                                refine lv_iload hx hb dX2_faultIn_181 (lv_at hl 6 rfl) ?_
                                exact hret _ _ _ _ _ _ ⟨hV.trans he.symm, rfl⟩ hP hS dX2_faultIn_183
                              · have he := ite_f he (fun q => q hc_924)
                                refine lv_iload hx hb dX2_faultIn_162 (lv_at hl 0 rfl) ?_
                                refine lv_bipush (v := 41) hx hb dX2_faultIn_164 (by decide) ?_
                                refine lv_icmp_ne (tgt := 181) hx hb dX2_faultIn_166 (by decide) (fun hc_925 => ?_) (fun hc_925 => ?_)
                                · have he := ite_t he hc_925
                                  refine lv_iload hx hb dX2_faultIn_181 (lv_at hl 6 rfl) ?_
                                  exact hret _ _ _ _ _ _ ⟨hV.trans he.symm, rfl⟩ hP hS dX2_faultIn_183
                                · have he := ite_f he (fun q => q hc_925)
                                  refine lv_iload_n hx hb dX2_faultIn_169 rfl (lv_at hl 3 rfl) ?_
                                  refine lv_if_le (tgt := 181) hx hb dX2_faultIn_170 (by decide) (fun hc_926 => ?_) (fun hc_926 => ?_)
                                  · have he := ite_t he hc_926
                                    refine lv_iload hx hb dX2_faultIn_181 (lv_at hl 6 rfl) ?_
                                    exact hret _ _ _ _ _ _ ⟨hV.trans he.symm, rfl⟩ hP hS dX2_faultIn_183
                                  · have he := ite_f he hc_926
                                    obtain ⟨y_927, ey_927⟩ : ∃ y_927 : Int32, y_927 = v_594 + (-1) := ⟨_, rfl⟩
                                    have he := bnd_at he ey_927
                                    refine lv_iinc (v := y_927) (lv' := [(2, .int y_927), (6, .int y_608), (0, .ref (ad a1)), (1, .int a2), (3, .int v_595), (4, .int v_596), (5, .int v_597)]) hx hb dX2_faultIn_173 hl (k := 3) rfl (by rw [ey_927]; rfl) (by decide) rfl (fun ls hl => ?_)
                                    refine lv_iconst (v := 0) hx hb dX2_faultIn_176 (by decide) ?_
                                    refine lv_istore_n (lv' := [(3, .int 0), (2, .int y_927), (6, .int y_608), (0, .ref (ad a1)), (1, .int a2), (4, .int v_596), (5, .int v_597)]) hx hb dX2_faultIn_177 rfl hl (by decide) rfl (fun ls hl => ?_)
                                    refine lv_goto (tgt := 184) hx hb dX2_faultIn_178 (by decide) ?_
                                    obtain ⟨y_928, ey_928⟩ : ∃ y_928 : Int32, y_928 = v_597 + 1 := ⟨_, rfl⟩
                                    have he := bnd_at he ey_928
                                    refine lv_iinc (v := y_928) (lv' := [(5, .int y_928), (3, .int 0), (2, .int y_927), (6, .int y_608), (0, .ref (ad a1)), (1, .int a2), (4, .int v_596)]) hx hb dX2_faultIn_184 hl (k := 6) rfl (by rw [ey_928]; rfl) (by decide) rfl (fun ls hl => ?_)
                                    refine lv_goto (tgt := 10) hx hb dX2_faultIn_187 (by decide) ?_
                                    exact ih _ _ _ _ _ _ _ zv_596 (by rw [ey_928, inc_I (N := 100) (nle_I hc_603) (by decide)]; omega) (by rw [ey_928]; exact mu_I hμ (nle_I hc_603) (by decide)) he hP hS (lv_sub hl [4, 5, 2, 1, 6, 0] rfl)
                            · have he := ite_f he hc_923
                              refine lv_iconst (v := 1) hx hb dX2_faultIn_151 (by decide) ?_
                              refine lv_istore (lv' := [(4, .int 1), (6, .int y_608), (0, .ref (ad a1)), (1, .int a2), (2, .int v_594), (3, .int v_595), (5, .int v_597)]) hx hb dX2_faultIn_152 hl (by decide) rfl (fun ls hl => ?_)
                              refine lv_goto (tgt := 184) hx hb dX2_faultIn_154 (by decide) ?_
                              obtain ⟨y_929, ey_929⟩ : ∃ y_929 : Int32, y_929 = v_597 + 1 := ⟨_, rfl⟩
                              have he := bnd_at he ey_929
                              refine lv_iinc (v := y_929) (lv' := [(5, .int y_929), (4, .int 1), (6, .int y_608), (0, .ref (ad a1)), (1, .int a2), (2, .int v_594), (3, .int v_595)]) hx hb dX2_faultIn_184 hl (k := 6) rfl (by rw [ey_929]; rfl) (by decide) rfl (fun ls hl => ?_)
                              refine lv_goto (tgt := 10) hx hb dX2_faultIn_187 (by decide) ?_
                              exact ih _ _ _ _ _ _ _ (Or.inr rfl) (by rw [ey_929, inc_I (N := 100) (nle_I hc_603) (by decide)]; omega) (by rw [ey_929]; exact mu_I hμ (nle_I hc_603) (by decide)) he hP hS (lv_sub hl [3, 4, 5, 6, 1, 0] rfl)
                      · have he := ite_f he (fun q => q hc_906)
                        refine lv_iload hx hb dX2_faultIn_112 (lv_at hl 0 rfl) ?_
                        refine callS_i [.int y_608] [] hx hb hml hG hown hK (c_X2_isDigit had (M := M)  y_608) gw_8_14 gm_X2_isDigit gd_X2_isDigit rfl rfl ⟨Nat.le_of_ble_eq_true rfl, Nat.le_of_ble_eq_true rfl⟩ ⟨Nat.le_refl _, Nat.le_refl _⟩ hP (fun _ h => h) hS rfl hl.1 rfl (Nat.le_of_ble_eq_true rfl) dX2_faultIn_114 (fun r_930 u_932 H locs hF_931 hP hS => ?_)
                        obtain ⟨hz_933, hF_931, hu⟩ := hF_931; rw [hu] at hP; subst hF_931
                        refine lv_if_eq (tgt := 130) hx hb dX2_faultIn_117 (by decide) (fun hc_934 => ?_) (fun hc_934 => ?_)
                        · have he := ite_t he hc_934
                          refine lv_iload hx hb dX2_faultIn_130 (lv_at hl 5 rfl) ?_
                          refine lv_if_ne (tgt := 157) hx hb dX2_faultIn_132 (by decide) (fun hc_935 => ?_) (fun hc_935 => ?_)
                          · have he := ite_t he hc_935
                            refine lv_iload hx hb dX2_faultIn_157 (lv_at hl 5 rfl) ?_
                            refine lv_if_ne (tgt := 181) hx hb dX2_faultIn_159 (by decide) (fun hc_936 => ?_) (fun hc_936 => ?_)
                            · have he := ite_t he hc_936
                              refine lv_iload hx hb dX2_faultIn_181 (lv_at hl 6 rfl) ?_
                              exact hret _ _ _ _ _ _ ⟨hV.trans he.symm, rfl⟩ hP hS dX2_faultIn_183
                            · have he := ite_f he (fun q => q hc_936)
                              refine lv_iload hx hb dX2_faultIn_162 (lv_at hl 0 rfl) ?_
                              refine lv_bipush (v := 41) hx hb dX2_faultIn_164 (by decide) ?_
                              refine lv_icmp_ne (tgt := 181) hx hb dX2_faultIn_166 (by decide) (fun hc_937 => ?_) (fun hc_937 => ?_)
                              · have he := ite_t he hc_937
                                refine lv_iload hx hb dX2_faultIn_181 (lv_at hl 6 rfl) ?_
                                exact hret _ _ _ _ _ _ ⟨hV.trans he.symm, rfl⟩ hP hS dX2_faultIn_183
                              · have he := ite_f he (fun q => q hc_937)
                                refine lv_iload_n hx hb dX2_faultIn_169 rfl (lv_at hl 3 rfl) ?_
                                refine lv_if_le (tgt := 181) hx hb dX2_faultIn_170 (by decide) (fun hc_938 => ?_) (fun hc_938 => ?_)
                                · have he := ite_t he hc_938
                                  refine lv_iload hx hb dX2_faultIn_181 (lv_at hl 6 rfl) ?_
                                  exact hret _ _ _ _ _ _ ⟨hV.trans he.symm, rfl⟩ hP hS dX2_faultIn_183
                                · have he := ite_f he hc_938
                                  obtain ⟨y_939, ey_939⟩ : ∃ y_939 : Int32, y_939 = v_594 + (-1) := ⟨_, rfl⟩
                                  have he := bnd_at he ey_939
                                  refine lv_iinc (v := y_939) (lv' := [(2, .int y_939), (6, .int y_608), (0, .ref (ad a1)), (1, .int a2), (3, .int v_595), (4, .int v_596), (5, .int v_597)]) hx hb dX2_faultIn_173 hl (k := 3) rfl (by rw [ey_939]; rfl) (by decide) rfl (fun ls hl => ?_)
                                  refine lv_iconst (v := 0) hx hb dX2_faultIn_176 (by decide) ?_
                                  refine lv_istore_n (lv' := [(3, .int 0), (2, .int y_939), (6, .int y_608), (0, .ref (ad a1)), (1, .int a2), (4, .int v_596), (5, .int v_597)]) hx hb dX2_faultIn_177 rfl hl (by decide) rfl (fun ls hl => ?_)
                                  refine lv_goto (tgt := 184) hx hb dX2_faultIn_178 (by decide) ?_
                                  obtain ⟨y_940, ey_940⟩ : ∃ y_940 : Int32, y_940 = v_597 + 1 := ⟨_, rfl⟩
                                  have he := bnd_at he ey_940
                                  refine lv_iinc (v := y_940) (lv' := [(5, .int y_940), (3, .int 0), (2, .int y_939), (6, .int y_608), (0, .ref (ad a1)), (1, .int a2), (4, .int v_596)]) hx hb dX2_faultIn_184 hl (k := 6) rfl (by rw [ey_940]; rfl) (by decide) rfl (fun ls hl => ?_)
                                  refine lv_goto (tgt := 10) hx hb dX2_faultIn_187 (by decide) ?_
                                  exact ih _ _ _ _ _ _ _ zv_596 (by rw [ey_940, inc_I (N := 100) (nle_I hc_603) (by decide)]; omega) (by rw [ey_940]; exact mu_I hμ (nle_I hc_603) (by decide)) he hP hS (lv_sub hl [4, 5, 2, 1, 6, 0] rfl)
                          · have he := ite_f he (fun q => q hc_935)
                            refine lv_iload hx hb dX2_faultIn_135 (lv_at hl 0 rfl) ?_
                            refine callS_i [.int y_608] [] hx hb hml hG hown hK (c_X2_isSumSign had (M := M)  y_608) gw_8_17 gm_X2_isSumSign gd_X2_isSumSign rfl rfl ⟨Nat.le_of_ble_eq_true rfl, Nat.le_of_ble_eq_true rfl⟩ ⟨Nat.le_refl _, Nat.le_refl _⟩ hP (fun _ h => h) hS rfl hl.1 rfl (Nat.le_of_ble_eq_true rfl) dX2_faultIn_137 (fun r_941 u_943 H locs hF_942 hP hS => ?_)
                            obtain ⟨hz_944, hF_942, hu⟩ := hF_942; rw [hu] at hP; subst hF_942
                            refine lv_if_ne (tgt := 151) hx hb dX2_faultIn_140 (by decide) (fun hc_945 => ?_) (fun hc_945 => ?_)
                            · have he := ite_t he hc_945
                              refine lv_iconst (v := 1) hx hb dX2_faultIn_151 (by decide) ?_
                              refine lv_istore (lv' := [(4, .int 1), (6, .int y_608), (0, .ref (ad a1)), (1, .int a2), (2, .int v_594), (3, .int v_595), (5, .int v_597)]) hx hb dX2_faultIn_152 hl (by decide) rfl (fun ls hl => ?_)
                              refine lv_goto (tgt := 184) hx hb dX2_faultIn_154 (by decide) ?_
                              obtain ⟨y_946, ey_946⟩ : ∃ y_946 : Int32, y_946 = v_597 + 1 := ⟨_, rfl⟩
                              have he := bnd_at he ey_946
                              refine lv_iinc (v := y_946) (lv' := [(5, .int y_946), (4, .int 1), (6, .int y_608), (0, .ref (ad a1)), (1, .int a2), (2, .int v_594), (3, .int v_595)]) hx hb dX2_faultIn_184 hl (k := 6) rfl (by rw [ey_946]; rfl) (by decide) rfl (fun ls hl => ?_)
                              refine lv_goto (tgt := 10) hx hb dX2_faultIn_187 (by decide) ?_
                              exact ih _ _ _ _ _ _ _ (Or.inr rfl) (by rw [ey_946, inc_I (N := 100) (nle_I hc_603) (by decide)]; omega) (by rw [ey_946]; exact mu_I hμ (nle_I hc_603) (by decide)) he hP hS (lv_sub hl [3, 4, 5, 6, 1, 0] rfl)
                            · have he := ite_f he (fun q => q hc_945)
                              refine lv_iload hx hb dX2_faultIn_143 (lv_at hl 0 rfl) ?_
                              refine callS_i [.int y_608] [] hx hb hml hG hown hK (c_X2_isProductSign had (M := M)  y_608) gw_8_20 gm_X2_isProductSign gd_X2_isProductSign rfl rfl ⟨Nat.le_of_ble_eq_true rfl, Nat.le_of_ble_eq_true rfl⟩ ⟨Nat.le_refl _, Nat.le_refl _⟩ hP (fun _ h => h) hS rfl hl.1 rfl (Nat.le_of_ble_eq_true rfl) dX2_faultIn_145 (fun r_947 u_949 H locs hF_948 hP hS => ?_)
                              obtain ⟨hz_950, hF_948, hu⟩ := hF_948; rw [hu] at hP; subst hF_948
                              refine lv_if_eq (tgt := 157) hx hb dX2_faultIn_148 (by decide) (fun hc_951 => ?_) (fun hc_951 => ?_)
                              · have he := ite_t he hc_951
                                refine lv_iload hx hb dX2_faultIn_157 (lv_at hl 5 rfl) ?_
                                refine lv_if_ne (tgt := 181) hx hb dX2_faultIn_159 (by decide) (fun hc_952 => ?_) (fun hc_952 => ?_)
                                · have he := ite_t he hc_952
                                  refine lv_iload hx hb dX2_faultIn_181 (lv_at hl 6 rfl) ?_
                                  exact hret _ _ _ _ _ _ ⟨hV.trans he.symm, rfl⟩ hP hS dX2_faultIn_183
                                · have he := ite_f he (fun q => q hc_952)
                                  refine lv_iload hx hb dX2_faultIn_162 (lv_at hl 0 rfl) ?_
                                  refine lv_bipush (v := 41) hx hb dX2_faultIn_164 (by decide) ?_
                                  refine lv_icmp_ne (tgt := 181) hx hb dX2_faultIn_166 (by decide) (fun hc_953 => ?_) (fun hc_953 => ?_)
                                  · have he := ite_t he hc_953
                                    refine lv_iload hx hb dX2_faultIn_181 (lv_at hl 6 rfl) ?_
                                    exact hret _ _ _ _ _ _ ⟨hV.trans he.symm, rfl⟩ hP hS dX2_faultIn_183
                                  · have he := ite_f he (fun q => q hc_953)
                                    refine lv_iload_n hx hb dX2_faultIn_169 rfl (lv_at hl 3 rfl) ?_
                                    refine lv_if_le (tgt := 181) hx hb dX2_faultIn_170 (by decide) (fun hc_954 => ?_) (fun hc_954 => ?_)
                                    · have he := ite_t he hc_954
                                      refine lv_iload hx hb dX2_faultIn_181 (lv_at hl 6 rfl) ?_
                                      exact hret _ _ _ _ _ _ ⟨hV.trans he.symm, rfl⟩ hP hS dX2_faultIn_183
                                    · have he := ite_f he hc_954
                                      obtain ⟨y_955, ey_955⟩ : ∃ y_955 : Int32, y_955 = v_594 + (-1) := ⟨_, rfl⟩
                                      have he := bnd_at he ey_955
                                      refine lv_iinc (v := y_955) (lv' := [(2, .int y_955), (6, .int y_608), (0, .ref (ad a1)), (1, .int a2), (3, .int v_595), (4, .int v_596), (5, .int v_597)]) hx hb dX2_faultIn_173 hl (k := 3) rfl (by rw [ey_955]; rfl) (by decide) rfl (fun ls hl => ?_)
                                      refine lv_iconst (v := 0) hx hb dX2_faultIn_176 (by decide) ?_
                                      refine lv_istore_n (lv' := [(3, .int 0), (2, .int y_955), (6, .int y_608), (0, .ref (ad a1)), (1, .int a2), (4, .int v_596), (5, .int v_597)]) hx hb dX2_faultIn_177 rfl hl (by decide) rfl (fun ls hl => ?_)
                                      refine lv_goto (tgt := 184) hx hb dX2_faultIn_178 (by decide) ?_
                                      obtain ⟨y_956, ey_956⟩ : ∃ y_956 : Int32, y_956 = v_597 + 1 := ⟨_, rfl⟩
                                      have he := bnd_at he ey_956
                                      refine lv_iinc (v := y_956) (lv' := [(5, .int y_956), (3, .int 0), (2, .int y_955), (6, .int y_608), (0, .ref (ad a1)), (1, .int a2), (4, .int v_596)]) hx hb dX2_faultIn_184 hl (k := 6) rfl (by rw [ey_956]; rfl) (by decide) rfl (fun ls hl => ?_)
                                      refine lv_goto (tgt := 10) hx hb dX2_faultIn_187 (by decide) ?_
                                      exact ih _ _ _ _ _ _ _ zv_596 (by rw [ey_956, inc_I (N := 100) (nle_I hc_603) (by decide)]; omega) (by rw [ey_956]; exact mu_I hμ (nle_I hc_603) (by decide)) he hP hS (lv_sub hl [4, 5, 2, 1, 6, 0] rfl)
                              · have he := ite_f he hc_951
                                refine lv_iconst (v := 1) hx hb dX2_faultIn_151 (by decide) ?_
                                refine lv_istore (lv' := [(4, .int 1), (6, .int y_608), (0, .ref (ad a1)), (1, .int a2), (2, .int v_594), (3, .int v_595), (5, .int v_597)]) hx hb dX2_faultIn_152 hl (by decide) rfl (fun ls hl => ?_)
                                refine lv_goto (tgt := 184) hx hb dX2_faultIn_154 (by decide) ?_
                                obtain ⟨y_957, ey_957⟩ : ∃ y_957 : Int32, y_957 = v_597 + 1 := ⟨_, rfl⟩
                                have he := bnd_at he ey_957
                                refine lv_iinc (v := y_957) (lv' := [(5, .int y_957), (4, .int 1), (6, .int y_608), (0, .ref (ad a1)), (1, .int a2), (2, .int v_594), (3, .int v_595)]) hx hb dX2_faultIn_184 hl (k := 6) rfl (by rw [ey_957]; rfl) (by decide) rfl (fun ls hl => ?_)
                                refine lv_goto (tgt := 10) hx hb dX2_faultIn_187 (by decide) ?_
                                exact ih _ _ _ _ _ _ _ (Or.inr rfl) (by rw [ey_957, inc_I (N := 100) (nle_I hc_603) (by decide)]; omega) (by rw [ey_957]; exact mu_I hμ (nle_I hc_603) (by decide)) he hP hS (lv_sub hl [3, 4, 5, 6, 1, 0] rfl)
                        · have he := ite_f he hc_934
                          refine lv_iload_n hx hb dX2_faultIn_120 rfl (lv_at hl 4 rfl) ?_
                          refine lv_if_le (tgt := 130) hx hb dX2_faultIn_121 (by decide) (fun hc_958 => ?_) (fun hc_958 => ?_)
                          · have he := ite_t he hc_958
                            refine lv_iload hx hb dX2_faultIn_130 (lv_at hl 5 rfl) ?_
                            refine lv_if_ne (tgt := 157) hx hb dX2_faultIn_132 (by decide) (fun hc_959 => ?_) (fun hc_959 => ?_)
                            · have he := ite_t he hc_959
                              refine lv_iload hx hb dX2_faultIn_157 (lv_at hl 5 rfl) ?_
                              refine lv_if_ne (tgt := 181) hx hb dX2_faultIn_159 (by decide) (fun hc_960 => ?_) (fun hc_960 => ?_)
                              · have he := ite_t he hc_960
                                refine lv_iload hx hb dX2_faultIn_181 (lv_at hl 6 rfl) ?_
                                exact hret _ _ _ _ _ _ ⟨hV.trans he.symm, rfl⟩ hP hS dX2_faultIn_183
                              · have he := ite_f he (fun q => q hc_960)
                                refine lv_iload hx hb dX2_faultIn_162 (lv_at hl 0 rfl) ?_
                                refine lv_bipush (v := 41) hx hb dX2_faultIn_164 (by decide) ?_
                                refine lv_icmp_ne (tgt := 181) hx hb dX2_faultIn_166 (by decide) (fun hc_961 => ?_) (fun hc_961 => ?_)
                                · have he := ite_t he hc_961
                                  refine lv_iload hx hb dX2_faultIn_181 (lv_at hl 6 rfl) ?_
                                  exact hret _ _ _ _ _ _ ⟨hV.trans he.symm, rfl⟩ hP hS dX2_faultIn_183
                                · have he := ite_f he (fun q => q hc_961)
                                  refine lv_iload_n hx hb dX2_faultIn_169 rfl (lv_at hl 3 rfl) ?_
                                  refine lv_if_le (tgt := 181) hx hb dX2_faultIn_170 (by decide) (fun hc_962 => ?_) (fun hc_962 => ?_)
                                  · have he := ite_t he hc_962
                                    refine lv_iload hx hb dX2_faultIn_181 (lv_at hl 6 rfl) ?_
                                    exact hret _ _ _ _ _ _ ⟨hV.trans he.symm, rfl⟩ hP hS dX2_faultIn_183
                                  · have he := ite_f he hc_962
                                    obtain ⟨y_963, ey_963⟩ : ∃ y_963 : Int32, y_963 = v_594 + (-1) := ⟨_, rfl⟩
                                    have he := bnd_at he ey_963
                                    refine lv_iinc (v := y_963) (lv' := [(2, .int y_963), (6, .int y_608), (0, .ref (ad a1)), (1, .int a2), (3, .int v_595), (4, .int v_596), (5, .int v_597)]) hx hb dX2_faultIn_173 hl (k := 3) rfl (by rw [ey_963]; rfl) (by decide) rfl (fun ls hl => ?_)
                                    refine lv_iconst (v := 0) hx hb dX2_faultIn_176 (by decide) ?_
                                    refine lv_istore_n (lv' := [(3, .int 0), (2, .int y_963), (6, .int y_608), (0, .ref (ad a1)), (1, .int a2), (4, .int v_596), (5, .int v_597)]) hx hb dX2_faultIn_177 rfl hl (by decide) rfl (fun ls hl => ?_)
                                    refine lv_goto (tgt := 184) hx hb dX2_faultIn_178 (by decide) ?_
                                    obtain ⟨y_964, ey_964⟩ : ∃ y_964 : Int32, y_964 = v_597 + 1 := ⟨_, rfl⟩
                                    have he := bnd_at he ey_964
                                    refine lv_iinc (v := y_964) (lv' := [(5, .int y_964), (3, .int 0), (2, .int y_963), (6, .int y_608), (0, .ref (ad a1)), (1, .int a2), (4, .int v_596)]) hx hb dX2_faultIn_184 hl (k := 6) rfl (by rw [ey_964]; rfl) (by decide) rfl (fun ls hl => ?_)
                                    refine lv_goto (tgt := 10) hx hb dX2_faultIn_187 (by decide) ?_
                                    exact ih _ _ _ _ _ _ _ zv_596 (by rw [ey_964, inc_I (N := 100) (nle_I hc_603) (by decide)]; omega) (by rw [ey_964]; exact mu_I hμ (nle_I hc_603) (by decide)) he hP hS (lv_sub hl [4, 5, 2, 1, 6, 0] rfl)
                            · have he := ite_f he (fun q => q hc_959)
                              refine lv_iload hx hb dX2_faultIn_135 (lv_at hl 0 rfl) ?_
                              refine callS_i [.int y_608] [] hx hb hml hG hown hK (c_X2_isSumSign had (M := M)  y_608) gw_8_17 gm_X2_isSumSign gd_X2_isSumSign rfl rfl ⟨Nat.le_of_ble_eq_true rfl, Nat.le_of_ble_eq_true rfl⟩ ⟨Nat.le_refl _, Nat.le_refl _⟩ hP (fun _ h => h) hS rfl hl.1 rfl (Nat.le_of_ble_eq_true rfl) dX2_faultIn_137 (fun r_965 u_967 H locs hF_966 hP hS => ?_)
                              obtain ⟨hz_968, hF_966, hu⟩ := hF_966; rw [hu] at hP; subst hF_966
                              refine lv_if_ne (tgt := 151) hx hb dX2_faultIn_140 (by decide) (fun hc_969 => ?_) (fun hc_969 => ?_)
                              · have he := ite_t he hc_969
                                refine lv_iconst (v := 1) hx hb dX2_faultIn_151 (by decide) ?_
                                refine lv_istore (lv' := [(4, .int 1), (6, .int y_608), (0, .ref (ad a1)), (1, .int a2), (2, .int v_594), (3, .int v_595), (5, .int v_597)]) hx hb dX2_faultIn_152 hl (by decide) rfl (fun ls hl => ?_)
                                refine lv_goto (tgt := 184) hx hb dX2_faultIn_154 (by decide) ?_
                                obtain ⟨y_970, ey_970⟩ : ∃ y_970 : Int32, y_970 = v_597 + 1 := ⟨_, rfl⟩
                                have he := bnd_at he ey_970
                                refine lv_iinc (v := y_970) (lv' := [(5, .int y_970), (4, .int 1), (6, .int y_608), (0, .ref (ad a1)), (1, .int a2), (2, .int v_594), (3, .int v_595)]) hx hb dX2_faultIn_184 hl (k := 6) rfl (by rw [ey_970]; rfl) (by decide) rfl (fun ls hl => ?_)
                                refine lv_goto (tgt := 10) hx hb dX2_faultIn_187 (by decide) ?_
                                exact ih _ _ _ _ _ _ _ (Or.inr rfl) (by rw [ey_970, inc_I (N := 100) (nle_I hc_603) (by decide)]; omega) (by rw [ey_970]; exact mu_I hμ (nle_I hc_603) (by decide)) he hP hS (lv_sub hl [3, 4, 5, 6, 1, 0] rfl)
                              · have he := ite_f he (fun q => q hc_969)
                                refine lv_iload hx hb dX2_faultIn_143 (lv_at hl 0 rfl) ?_
                                refine callS_i [.int y_608] [] hx hb hml hG hown hK (c_X2_isProductSign had (M := M)  y_608) gw_8_20 gm_X2_isProductSign gd_X2_isProductSign rfl rfl ⟨Nat.le_of_ble_eq_true rfl, Nat.le_of_ble_eq_true rfl⟩ ⟨Nat.le_refl _, Nat.le_refl _⟩ hP (fun _ h => h) hS rfl hl.1 rfl (Nat.le_of_ble_eq_true rfl) dX2_faultIn_145 (fun r_971 u_973 H locs hF_972 hP hS => ?_)
                                obtain ⟨hz_974, hF_972, hu⟩ := hF_972; rw [hu] at hP; subst hF_972
                                refine lv_if_eq (tgt := 157) hx hb dX2_faultIn_148 (by decide) (fun hc_975 => ?_) (fun hc_975 => ?_)
                                · have he := ite_t he hc_975
                                  refine lv_iload hx hb dX2_faultIn_157 (lv_at hl 5 rfl) ?_
                                  refine lv_if_ne (tgt := 181) hx hb dX2_faultIn_159 (by decide) (fun hc_976 => ?_) (fun hc_976 => ?_)
                                  · have he := ite_t he hc_976
                                    refine lv_iload hx hb dX2_faultIn_181 (lv_at hl 6 rfl) ?_
                                    exact hret _ _ _ _ _ _ ⟨hV.trans he.symm, rfl⟩ hP hS dX2_faultIn_183
                                  · have he := ite_f he (fun q => q hc_976)
                                    refine lv_iload hx hb dX2_faultIn_162 (lv_at hl 0 rfl) ?_
                                    refine lv_bipush (v := 41) hx hb dX2_faultIn_164 (by decide) ?_
                                    refine lv_icmp_ne (tgt := 181) hx hb dX2_faultIn_166 (by decide) (fun hc_977 => ?_) (fun hc_977 => ?_)
                                    · have he := ite_t he hc_977
                                      refine lv_iload hx hb dX2_faultIn_181 (lv_at hl 6 rfl) ?_
                                      exact hret _ _ _ _ _ _ ⟨hV.trans he.symm, rfl⟩ hP hS dX2_faultIn_183
                                    · have he := ite_f he (fun q => q hc_977)
                                      refine lv_iload_n hx hb dX2_faultIn_169 rfl (lv_at hl 3 rfl) ?_
                                      refine lv_if_le (tgt := 181) hx hb dX2_faultIn_170 (by decide) (fun hc_978 => ?_) (fun hc_978 => ?_)
                                      · have he := ite_t he hc_978
                                        refine lv_iload hx hb dX2_faultIn_181 (lv_at hl 6 rfl) ?_
                                        exact hret _ _ _ _ _ _ ⟨hV.trans he.symm, rfl⟩ hP hS dX2_faultIn_183
                                      · have he := ite_f he hc_978
                                        obtain ⟨y_979, ey_979⟩ : ∃ y_979 : Int32, y_979 = v_594 + (-1) := ⟨_, rfl⟩
                                        have he := bnd_at he ey_979
                                        refine lv_iinc (v := y_979) (lv' := [(2, .int y_979), (6, .int y_608), (0, .ref (ad a1)), (1, .int a2), (3, .int v_595), (4, .int v_596), (5, .int v_597)]) hx hb dX2_faultIn_173 hl (k := 3) rfl (by rw [ey_979]; rfl) (by decide) rfl (fun ls hl => ?_)
                                        refine lv_iconst (v := 0) hx hb dX2_faultIn_176 (by decide) ?_
                                        refine lv_istore_n (lv' := [(3, .int 0), (2, .int y_979), (6, .int y_608), (0, .ref (ad a1)), (1, .int a2), (4, .int v_596), (5, .int v_597)]) hx hb dX2_faultIn_177 rfl hl (by decide) rfl (fun ls hl => ?_)
                                        refine lv_goto (tgt := 184) hx hb dX2_faultIn_178 (by decide) ?_
                                        obtain ⟨y_980, ey_980⟩ : ∃ y_980 : Int32, y_980 = v_597 + 1 := ⟨_, rfl⟩
                                        have he := bnd_at he ey_980
                                        refine lv_iinc (v := y_980) (lv' := [(5, .int y_980), (3, .int 0), (2, .int y_979), (6, .int y_608), (0, .ref (ad a1)), (1, .int a2), (4, .int v_596)]) hx hb dX2_faultIn_184 hl (k := 6) rfl (by rw [ey_980]; rfl) (by decide) rfl (fun ls hl => ?_)
                                        refine lv_goto (tgt := 10) hx hb dX2_faultIn_187 (by decide) ?_
                                        exact ih _ _ _ _ _ _ _ zv_596 (by rw [ey_980, inc_I (N := 100) (nle_I hc_603) (by decide)]; omega) (by rw [ey_980]; exact mu_I hμ (nle_I hc_603) (by decide)) he hP hS (lv_sub hl [4, 5, 2, 1, 6, 0] rfl)
                                · have he := ite_f he hc_975
                                  refine lv_iconst (v := 1) hx hb dX2_faultIn_151 (by decide) ?_
                                  refine lv_istore (lv' := [(4, .int 1), (6, .int y_608), (0, .ref (ad a1)), (1, .int a2), (2, .int v_594), (3, .int v_595), (5, .int v_597)]) hx hb dX2_faultIn_152 hl (by decide) rfl (fun ls hl => ?_)
                                  refine lv_goto (tgt := 184) hx hb dX2_faultIn_154 (by decide) ?_
                                  obtain ⟨y_981, ey_981⟩ : ∃ y_981 : Int32, y_981 = v_597 + 1 := ⟨_, rfl⟩
                                  have he := bnd_at he ey_981
                                  refine lv_iinc (v := y_981) (lv' := [(5, .int y_981), (4, .int 1), (6, .int y_608), (0, .ref (ad a1)), (1, .int a2), (2, .int v_594), (3, .int v_595)]) hx hb dX2_faultIn_184 hl (k := 6) rfl (by rw [ey_981]; rfl) (by decide) rfl (fun ls hl => ?_)
                                  refine lv_goto (tgt := 10) hx hb dX2_faultIn_187 (by decide) ?_
                                  exact ih _ _ _ _ _ _ _ (Or.inr rfl) (by rw [ey_981, inc_I (N := 100) (nle_I hc_603) (by decide)]; omega) (by rw [ey_981]; exact mu_I hμ (nle_I hc_603) (by decide)) he hP hS (lv_sub hl [3, 4, 5, 6, 1, 0] rfl)
                          · have he := ite_f he hc_958
                            obtain ⟨y_982, ey_982⟩ : ∃ y_982 : Int32, y_982 = v_595 + (-1) := ⟨_, rfl⟩
                            have he := bnd_at he ey_982
                            refine lv_iinc (v := y_982) (lv' := [(3, .int y_982), (6, .int y_608), (0, .ref (ad a1)), (1, .int a2), (2, .int v_594), (4, .int v_596), (5, .int v_597)]) hx hb dX2_faultIn_124 hl (k := 4) rfl (by rw [ey_982]; rfl) (by decide) rfl (fun ls hl => ?_)
                            refine lv_goto (tgt := 184) hx hb dX2_faultIn_127 (by decide) ?_
                            obtain ⟨y_983, ey_983⟩ : ∃ y_983 : Int32, y_983 = v_597 + 1 := ⟨_, rfl⟩
                            have he := bnd_at he ey_983
                            refine lv_iinc (v := y_983) (lv' := [(5, .int y_983), (3, .int y_982), (6, .int y_608), (0, .ref (ad a1)), (1, .int a2), (2, .int v_594), (4, .int v_596)]) hx hb dX2_faultIn_184 hl (k := 6) rfl (by rw [ey_983]; rfl) (by decide) rfl (fun ls hl => ?_)
                            refine lv_goto (tgt := 10) hx hb dX2_faultIn_187 (by decide) ?_
                            exact ih _ _ _ _ _ _ _ zv_596 (by rw [ey_983, inc_I (N := 100) (nle_I hc_603) (by decide)]; omega) (by rw [ey_983]; exact mu_I hμ (nle_I hc_603) (by decide)) he hP hS (lv_sub hl [3, 4, 5, 1, 6, 0] rfl)
                    · have he := ite_f he (fun q => q hc_905)
                      refine lv_iconst (v := 0) hx hb dX2_faultIn_80 (by decide) ?_
                      refine lv_istore (lv' := [(4, .int 0), (6, .int y_608), (0, .ref (ad a1)), (1, .int a2), (2, .int v_594), (3, .int v_595), (5, .int v_597)]) hx hb dX2_faultIn_81 hl (by decide) rfl (fun ls hl => ?_)
                      refine lv_iload hx hb dX2_faultIn_83 (lv_at hl 1 rfl) ?_
                      refine callS_i [.int y_608] [] hx hb hml hG hown hK (c_X2_isDigit had (M := M)  y_608) gw_8_14 gm_X2_isDigit gd_X2_isDigit rfl rfl ⟨Nat.le_of_ble_eq_true rfl, Nat.le_of_ble_eq_true rfl⟩ ⟨Nat.le_refl _, Nat.le_refl _⟩ hP (fun _ h => h) hS rfl hl.1 rfl (Nat.le_of_ble_eq_true rfl) dX2_faultIn_85 (fun r_984 u_986 H locs hF_985 hP hS => ?_)
                      obtain ⟨hz_987, hF_985, hu⟩ := hF_985; rw [hu] at hP; subst hF_985
                      obtain ⟨t_991, hr_989, he⟩ := bnd_ex he
                      have j103 : ∀ (H : Heap) (locs : List Loc) (ls : Array Slot), va_P D vwCl (wld 74 ad (cC ad k M)) H → va_S (AW 74 ad) s.heap H locs → lv_has ls 7 [(0, .ref (ad a1)), (1, .int a2), (2, .int v_594), (4, .int 0), (5, .int v_597)] → W p l e rm_X2_faultIn s m args below meth c H locs 0 0 Q (F0 m 103 ls [.int t_991]) := by
                        intro H locs ls hP hS hl
                        refine lv_istore_n (lv' := [(3, .int t_991), (0, .ref (ad a1)), (1, .int a2), (2, .int v_594), (4, .int 0), (5, .int v_597)]) hx hb dX2_faultIn_103 rfl hl (by decide) rfl (fun ls hl => ?_)
                        refine lv_goto (tgt := 184) hx hb dX2_faultIn_104 (by decide) ?_
                        obtain ⟨y_992, ey_992⟩ : ∃ y_992 : Int32, y_992 = v_597 + 1 := ⟨_, rfl⟩
                        have he := bnd_at he ey_992
                        refine lv_iinc (v := y_992) (lv' := [(5, .int y_992), (3, .int t_991), (0, .ref (ad a1)), (1, .int a2), (2, .int v_594), (4, .int 0)]) hx hb dX2_faultIn_184 hl (k := 5) rfl (by rw [ey_992]; rfl) (by decide) rfl (fun ls hl => ?_)
                        refine lv_goto (tgt := 10) hx hb dX2_faultIn_187 (by decide) ?_
                        exact ih _ _ _ _ _ _ _ (Or.inl rfl) (by rw [ey_992, inc_I (N := 100) (nle_I hc_603) (by decide)]; omega) (by rw [ey_992]; exact mu_I hμ (nle_I hc_603) (by decide)) he hP hS (lv_sub hl [2, 3, 4, 1, 5, 0] rfl)
                      refine lv_if_eq (tgt := 102) hx hb dX2_faultIn_88 (by decide) (fun hc_988 => ?_) (fun hc_988 => ?_)
                      · have hr_989 := ite_t hr_989 hc_988
                        refine lv_iconst (v := 0) hx hb dX2_faultIn_102 (by decide) ?_
                        cases hr_989
                        exact j103 _ _ _ hP hS (lv_sub hl [2, 3, 4, 0, 6] rfl)
                      · have hr_989 := ite_f hr_989 hc_988
                        refine lv_iload hx hb dX2_faultIn_91 (lv_at hl 1 rfl) ?_
                        refine lv_bipush (v := 48) hx hb dX2_faultIn_93 (by decide) ?_
                        refine lv_icmp_eq (tgt := 102) hx hb dX2_faultIn_95 (by decide) (fun hc_990 => ?_) (fun hc_990 => ?_)
                        · have hr_989 := ite_t hr_989 hc_990
                          refine lv_iconst (v := 0) hx hb dX2_faultIn_102 (by decide) ?_
                          cases hr_989
                          exact j103 _ _ _ hP hS (lv_sub hl [2, 3, 4, 0, 6] rfl)
                        · have hr_989 := ite_f hr_989 hc_990
                          refine lv_iconst (v := 2) hx hb dX2_faultIn_98 (by decide) ?_
                          refine lv_goto (tgt := 103) hx hb dX2_faultIn_99 (by decide) ?_
                          cases hr_989
                          exact j103 _ _ _ hP hS (lv_sub hl [2, 3, 4, 0, 6] rfl)
            · have he := ite_f he (fun q => q hc_801)
              refine lv_iload_n hx hb dX2_faultIn_41 rfl (lv_at hl 3 rfl) ?_
              refine lv_bipush (v := 6) hx hb dX2_faultIn_42 (by decide) ?_
              refine lv_icmp_ge (tgt := 53) hx hb dX2_faultIn_44 (by decide) (fun hc_993 => ?_) (fun hc_993 => ?_)
              · have he := ite_t he hc_993
                refine lv_iload hx hb dX2_faultIn_53 (lv_at hl 5 rfl) ?_
                refine lv_if_eq (tgt := 107) hx hb dX2_faultIn_55 (by decide) (fun hc_994 => ?_) (fun hc_994 => ?_)
                · have he := ite_t he hc_994
                  refine lv_iload hx hb dX2_faultIn_107 (lv_at hl 5 rfl) ?_
                  refine lv_if_ne (tgt := 130) hx hb dX2_faultIn_109 (by decide) (fun hc_995 => ?_) (fun hc_995 => ?_)
                  · have he := ite_t he hc_995
                    refine lv_iload hx hb dX2_faultIn_130 (lv_at hl 5 rfl) ?_
                    refine lv_if_ne (tgt := 157) hx hb dX2_faultIn_132 (by decide) (fun hc_996 => ?_) (fun hc_996 => ?_)
                    · have he := ite_t he hc_996
                      refine lv_iload hx hb dX2_faultIn_157 (lv_at hl 5 rfl) ?_
                      refine lv_if_ne (tgt := 181) hx hb dX2_faultIn_159 (by decide) (fun hc_997 => ?_) (fun hc_997 => ?_)
                      · have he := ite_t he hc_997
                        refine lv_iload hx hb dX2_faultIn_181 (lv_at hl 6 rfl) ?_
                        exact hret _ _ _ _ _ _ ⟨hV.trans he.symm, rfl⟩ hP hS dX2_faultIn_183
                      · have he := ite_f he (fun q => q hc_997)
                        refine lv_iload hx hb dX2_faultIn_162 (lv_at hl 0 rfl) ?_
                        refine lv_bipush (v := 41) hx hb dX2_faultIn_164 (by decide) ?_
                        refine lv_icmp_ne (tgt := 181) hx hb dX2_faultIn_166 (by decide) (fun hc_998 => ?_) (fun hc_998 => ?_)
                        · have he := ite_t he hc_998
                          refine lv_iload hx hb dX2_faultIn_181 (lv_at hl 6 rfl) ?_
                          exact hret _ _ _ _ _ _ ⟨hV.trans he.symm, rfl⟩ hP hS dX2_faultIn_183
                        · have he := ite_f he (fun q => q hc_998)
                          refine lv_iload_n hx hb dX2_faultIn_169 rfl (lv_at hl 3 rfl) ?_
                          refine lv_if_le (tgt := 181) hx hb dX2_faultIn_170 (by decide) (fun hc_999 => ?_) (fun hc_999 => ?_)
                          · have he := ite_t he hc_999
                            refine lv_iload hx hb dX2_faultIn_181 (lv_at hl 6 rfl) ?_
                            exact hret _ _ _ _ _ _ ⟨hV.trans he.symm, rfl⟩ hP hS dX2_faultIn_183
                          · have he := ite_f he hc_999
                            obtain ⟨y_1000, ey_1000⟩ : ∃ y_1000 : Int32, y_1000 = v_594 + (-1) := ⟨_, rfl⟩
                            have he := bnd_at he ey_1000
                            refine lv_iinc (v := y_1000) (lv' := [(2, .int y_1000), (6, .int y_608), (0, .ref (ad a1)), (1, .int a2), (3, .int v_595), (4, .int v_596), (5, .int v_597)]) hx hb dX2_faultIn_173 hl (k := 3) rfl (by rw [ey_1000]; rfl) (by decide) rfl (fun ls hl => ?_)
                            refine lv_iconst (v := 0) hx hb dX2_faultIn_176 (by decide) ?_
                            refine lv_istore_n (lv' := [(3, .int 0), (2, .int y_1000), (6, .int y_608), (0, .ref (ad a1)), (1, .int a2), (4, .int v_596), (5, .int v_597)]) hx hb dX2_faultIn_177 rfl hl (by decide) rfl (fun ls hl => ?_)
                            refine lv_goto (tgt := 184) hx hb dX2_faultIn_178 (by decide) ?_
                            obtain ⟨y_1001, ey_1001⟩ : ∃ y_1001 : Int32, y_1001 = v_597 + 1 := ⟨_, rfl⟩
                            have he := bnd_at he ey_1001
                            refine lv_iinc (v := y_1001) (lv' := [(5, .int y_1001), (3, .int 0), (2, .int y_1000), (6, .int y_608), (0, .ref (ad a1)), (1, .int a2), (4, .int v_596)]) hx hb dX2_faultIn_184 hl (k := 6) rfl (by rw [ey_1001]; rfl) (by decide) rfl (fun ls hl => ?_)
                            refine lv_goto (tgt := 10) hx hb dX2_faultIn_187 (by decide) ?_
                            exact ih _ _ _ _ _ _ _ zv_596 (by rw [ey_1001, inc_I (N := 100) (nle_I hc_603) (by decide)]; omega) (by rw [ey_1001]; exact mu_I hμ (nle_I hc_603) (by decide)) he hP hS (lv_sub hl [4, 5, 2, 1, 6, 0] rfl)
                    · have he := ite_f he (fun q => q hc_996)
                      refine lv_iload hx hb dX2_faultIn_135 (lv_at hl 0 rfl) ?_
                      refine callS_i [.int y_608] [] hx hb hml hG hown hK (c_X2_isSumSign had (M := M)  y_608) gw_8_17 gm_X2_isSumSign gd_X2_isSumSign rfl rfl ⟨Nat.le_of_ble_eq_true rfl, Nat.le_of_ble_eq_true rfl⟩ ⟨Nat.le_refl _, Nat.le_refl _⟩ hP (fun _ h => h) hS rfl hl.1 rfl (Nat.le_of_ble_eq_true rfl) dX2_faultIn_137 (fun r_1002 u_1004 H locs hF_1003 hP hS => ?_)
                      obtain ⟨hz_1005, hF_1003, hu⟩ := hF_1003; rw [hu] at hP; subst hF_1003
                      refine lv_if_ne (tgt := 151) hx hb dX2_faultIn_140 (by decide) (fun hc_1006 => ?_) (fun hc_1006 => ?_)
                      · have he := ite_t he hc_1006
                        refine lv_iconst (v := 1) hx hb dX2_faultIn_151 (by decide) ?_
                        refine lv_istore (lv' := [(4, .int 1), (6, .int y_608), (0, .ref (ad a1)), (1, .int a2), (2, .int v_594), (3, .int v_595), (5, .int v_597)]) hx hb dX2_faultIn_152 hl (by decide) rfl (fun ls hl => ?_)
                        refine lv_goto (tgt := 184) hx hb dX2_faultIn_154 (by decide) ?_
                        obtain ⟨y_1007, ey_1007⟩ : ∃ y_1007 : Int32, y_1007 = v_597 + 1 := ⟨_, rfl⟩
                        have he := bnd_at he ey_1007
                        refine lv_iinc (v := y_1007) (lv' := [(5, .int y_1007), (4, .int 1), (6, .int y_608), (0, .ref (ad a1)), (1, .int a2), (2, .int v_594), (3, .int v_595)]) hx hb dX2_faultIn_184 hl (k := 6) rfl (by rw [ey_1007]; rfl) (by decide) rfl (fun ls hl => ?_)
                        refine lv_goto (tgt := 10) hx hb dX2_faultIn_187 (by decide) ?_
                        exact ih _ _ _ _ _ _ _ (Or.inr rfl) (by rw [ey_1007, inc_I (N := 100) (nle_I hc_603) (by decide)]; omega) (by rw [ey_1007]; exact mu_I hμ (nle_I hc_603) (by decide)) he hP hS (lv_sub hl [3, 4, 5, 6, 1, 0] rfl)
                      · have he := ite_f he (fun q => q hc_1006)
                        refine lv_iload hx hb dX2_faultIn_143 (lv_at hl 0 rfl) ?_
                        refine callS_i [.int y_608] [] hx hb hml hG hown hK (c_X2_isProductSign had (M := M)  y_608) gw_8_20 gm_X2_isProductSign gd_X2_isProductSign rfl rfl ⟨Nat.le_of_ble_eq_true rfl, Nat.le_of_ble_eq_true rfl⟩ ⟨Nat.le_refl _, Nat.le_refl _⟩ hP (fun _ h => h) hS rfl hl.1 rfl (Nat.le_of_ble_eq_true rfl) dX2_faultIn_145 (fun r_1008 u_1010 H locs hF_1009 hP hS => ?_)
                        obtain ⟨hz_1011, hF_1009, hu⟩ := hF_1009; rw [hu] at hP; subst hF_1009
                        refine lv_if_eq (tgt := 157) hx hb dX2_faultIn_148 (by decide) (fun hc_1012 => ?_) (fun hc_1012 => ?_)
                        · have he := ite_t he hc_1012
                          refine lv_iload hx hb dX2_faultIn_157 (lv_at hl 5 rfl) ?_
                          refine lv_if_ne (tgt := 181) hx hb dX2_faultIn_159 (by decide) (fun hc_1013 => ?_) (fun hc_1013 => ?_)
                          · have he := ite_t he hc_1013
                            refine lv_iload hx hb dX2_faultIn_181 (lv_at hl 6 rfl) ?_
                            exact hret _ _ _ _ _ _ ⟨hV.trans he.symm, rfl⟩ hP hS dX2_faultIn_183
                          · have he := ite_f he (fun q => q hc_1013)
                            refine lv_iload hx hb dX2_faultIn_162 (lv_at hl 0 rfl) ?_
                            refine lv_bipush (v := 41) hx hb dX2_faultIn_164 (by decide) ?_
                            refine lv_icmp_ne (tgt := 181) hx hb dX2_faultIn_166 (by decide) (fun hc_1014 => ?_) (fun hc_1014 => ?_)
                            · have he := ite_t he hc_1014
                              refine lv_iload hx hb dX2_faultIn_181 (lv_at hl 6 rfl) ?_
                              exact hret _ _ _ _ _ _ ⟨hV.trans he.symm, rfl⟩ hP hS dX2_faultIn_183
                            · have he := ite_f he (fun q => q hc_1014)
                              refine lv_iload_n hx hb dX2_faultIn_169 rfl (lv_at hl 3 rfl) ?_
                              refine lv_if_le (tgt := 181) hx hb dX2_faultIn_170 (by decide) (fun hc_1015 => ?_) (fun hc_1015 => ?_)
                              · have he := ite_t he hc_1015
                                refine lv_iload hx hb dX2_faultIn_181 (lv_at hl 6 rfl) ?_
                                exact hret _ _ _ _ _ _ ⟨hV.trans he.symm, rfl⟩ hP hS dX2_faultIn_183
                              · have he := ite_f he hc_1015
                                obtain ⟨y_1016, ey_1016⟩ : ∃ y_1016 : Int32, y_1016 = v_594 + (-1) := ⟨_, rfl⟩
                                have he := bnd_at he ey_1016
                                refine lv_iinc (v := y_1016) (lv' := [(2, .int y_1016), (6, .int y_608), (0, .ref (ad a1)), (1, .int a2), (3, .int v_595), (4, .int v_596), (5, .int v_597)]) hx hb dX2_faultIn_173 hl (k := 3) rfl (by rw [ey_1016]; rfl) (by decide) rfl (fun ls hl => ?_)
                                refine lv_iconst (v := 0) hx hb dX2_faultIn_176 (by decide) ?_
                                refine lv_istore_n (lv' := [(3, .int 0), (2, .int y_1016), (6, .int y_608), (0, .ref (ad a1)), (1, .int a2), (4, .int v_596), (5, .int v_597)]) hx hb dX2_faultIn_177 rfl hl (by decide) rfl (fun ls hl => ?_)
                                refine lv_goto (tgt := 184) hx hb dX2_faultIn_178 (by decide) ?_
                                obtain ⟨y_1017, ey_1017⟩ : ∃ y_1017 : Int32, y_1017 = v_597 + 1 := ⟨_, rfl⟩
                                have he := bnd_at he ey_1017
                                refine lv_iinc (v := y_1017) (lv' := [(5, .int y_1017), (3, .int 0), (2, .int y_1016), (6, .int y_608), (0, .ref (ad a1)), (1, .int a2), (4, .int v_596)]) hx hb dX2_faultIn_184 hl (k := 6) rfl (by rw [ey_1017]; rfl) (by decide) rfl (fun ls hl => ?_)
                                refine lv_goto (tgt := 10) hx hb dX2_faultIn_187 (by decide) ?_
                                exact ih _ _ _ _ _ _ _ zv_596 (by rw [ey_1017, inc_I (N := 100) (nle_I hc_603) (by decide)]; omega) (by rw [ey_1017]; exact mu_I hμ (nle_I hc_603) (by decide)) he hP hS (lv_sub hl [4, 5, 2, 1, 6, 0] rfl)
                        · have he := ite_f he hc_1012
                          refine lv_iconst (v := 1) hx hb dX2_faultIn_151 (by decide) ?_
                          refine lv_istore (lv' := [(4, .int 1), (6, .int y_608), (0, .ref (ad a1)), (1, .int a2), (2, .int v_594), (3, .int v_595), (5, .int v_597)]) hx hb dX2_faultIn_152 hl (by decide) rfl (fun ls hl => ?_)
                          refine lv_goto (tgt := 184) hx hb dX2_faultIn_154 (by decide) ?_
                          obtain ⟨y_1018, ey_1018⟩ : ∃ y_1018 : Int32, y_1018 = v_597 + 1 := ⟨_, rfl⟩
                          have he := bnd_at he ey_1018
                          refine lv_iinc (v := y_1018) (lv' := [(5, .int y_1018), (4, .int 1), (6, .int y_608), (0, .ref (ad a1)), (1, .int a2), (2, .int v_594), (3, .int v_595)]) hx hb dX2_faultIn_184 hl (k := 6) rfl (by rw [ey_1018]; rfl) (by decide) rfl (fun ls hl => ?_)
                          refine lv_goto (tgt := 10) hx hb dX2_faultIn_187 (by decide) ?_
                          exact ih _ _ _ _ _ _ _ (Or.inr rfl) (by rw [ey_1018, inc_I (N := 100) (nle_I hc_603) (by decide)]; omega) (by rw [ey_1018]; exact mu_I hμ (nle_I hc_603) (by decide)) he hP hS (lv_sub hl [3, 4, 5, 6, 1, 0] rfl)
                  · have he := ite_f he (fun q => q hc_995)
                    refine lv_iload hx hb dX2_faultIn_112 (lv_at hl 0 rfl) ?_
                    refine callS_i [.int y_608] [] hx hb hml hG hown hK (c_X2_isDigit had (M := M)  y_608) gw_8_14 gm_X2_isDigit gd_X2_isDigit rfl rfl ⟨Nat.le_of_ble_eq_true rfl, Nat.le_of_ble_eq_true rfl⟩ ⟨Nat.le_refl _, Nat.le_refl _⟩ hP (fun _ h => h) hS rfl hl.1 rfl (Nat.le_of_ble_eq_true rfl) dX2_faultIn_114 (fun r_1019 u_1021 H locs hF_1020 hP hS => ?_)
                    obtain ⟨hz_1022, hF_1020, hu⟩ := hF_1020; rw [hu] at hP; subst hF_1020
                    refine lv_if_eq (tgt := 130) hx hb dX2_faultIn_117 (by decide) (fun hc_1023 => ?_) (fun hc_1023 => ?_)
                    · have he := ite_t he hc_1023
                      refine lv_iload hx hb dX2_faultIn_130 (lv_at hl 5 rfl) ?_
                      refine lv_if_ne (tgt := 157) hx hb dX2_faultIn_132 (by decide) (fun hc_1024 => ?_) (fun hc_1024 => ?_)
                      · have he := ite_t he hc_1024
                        refine lv_iload hx hb dX2_faultIn_157 (lv_at hl 5 rfl) ?_
                        refine lv_if_ne (tgt := 181) hx hb dX2_faultIn_159 (by decide) (fun hc_1025 => ?_) (fun hc_1025 => ?_)
                        · have he := ite_t he hc_1025
                          refine lv_iload hx hb dX2_faultIn_181 (lv_at hl 6 rfl) ?_
                          exact hret _ _ _ _ _ _ ⟨hV.trans he.symm, rfl⟩ hP hS dX2_faultIn_183
                        · have he := ite_f he (fun q => q hc_1025)
                          refine lv_iload hx hb dX2_faultIn_162 (lv_at hl 0 rfl) ?_
                          refine lv_bipush (v := 41) hx hb dX2_faultIn_164 (by decide) ?_
                          refine lv_icmp_ne (tgt := 181) hx hb dX2_faultIn_166 (by decide) (fun hc_1026 => ?_) (fun hc_1026 => ?_)
                          · have he := ite_t he hc_1026
                            refine lv_iload hx hb dX2_faultIn_181 (lv_at hl 6 rfl) ?_
                            exact hret _ _ _ _ _ _ ⟨hV.trans he.symm, rfl⟩ hP hS dX2_faultIn_183
                          · have he := ite_f he (fun q => q hc_1026)
                            refine lv_iload_n hx hb dX2_faultIn_169 rfl (lv_at hl 3 rfl) ?_
                            refine lv_if_le (tgt := 181) hx hb dX2_faultIn_170 (by decide) (fun hc_1027 => ?_) (fun hc_1027 => ?_)
                            · have he := ite_t he hc_1027
                              refine lv_iload hx hb dX2_faultIn_181 (lv_at hl 6 rfl) ?_
                              exact hret _ _ _ _ _ _ ⟨hV.trans he.symm, rfl⟩ hP hS dX2_faultIn_183
                            · have he := ite_f he hc_1027
                              obtain ⟨y_1028, ey_1028⟩ : ∃ y_1028 : Int32, y_1028 = v_594 + (-1) := ⟨_, rfl⟩
                              have he := bnd_at he ey_1028
                              refine lv_iinc (v := y_1028) (lv' := [(2, .int y_1028), (6, .int y_608), (0, .ref (ad a1)), (1, .int a2), (3, .int v_595), (4, .int v_596), (5, .int v_597)]) hx hb dX2_faultIn_173 hl (k := 3) rfl (by rw [ey_1028]; rfl) (by decide) rfl (fun ls hl => ?_)
                              refine lv_iconst (v := 0) hx hb dX2_faultIn_176 (by decide) ?_
                              refine lv_istore_n (lv' := [(3, .int 0), (2, .int y_1028), (6, .int y_608), (0, .ref (ad a1)), (1, .int a2), (4, .int v_596), (5, .int v_597)]) hx hb dX2_faultIn_177 rfl hl (by decide) rfl (fun ls hl => ?_)
                              refine lv_goto (tgt := 184) hx hb dX2_faultIn_178 (by decide) ?_
                              obtain ⟨y_1029, ey_1029⟩ : ∃ y_1029 : Int32, y_1029 = v_597 + 1 := ⟨_, rfl⟩
                              have he := bnd_at he ey_1029
                              refine lv_iinc (v := y_1029) (lv' := [(5, .int y_1029), (3, .int 0), (2, .int y_1028), (6, .int y_608), (0, .ref (ad a1)), (1, .int a2), (4, .int v_596)]) hx hb dX2_faultIn_184 hl (k := 6) rfl (by rw [ey_1029]; rfl) (by decide) rfl (fun ls hl => ?_)
                              refine lv_goto (tgt := 10) hx hb dX2_faultIn_187 (by decide) ?_
                              exact ih _ _ _ _ _ _ _ zv_596 (by rw [ey_1029, inc_I (N := 100) (nle_I hc_603) (by decide)]; omega) (by rw [ey_1029]; exact mu_I hμ (nle_I hc_603) (by decide)) he hP hS (lv_sub hl [4, 5, 2, 1, 6, 0] rfl)
                      · have he := ite_f he (fun q => q hc_1024)
                        refine lv_iload hx hb dX2_faultIn_135 (lv_at hl 0 rfl) ?_
                        refine callS_i [.int y_608] [] hx hb hml hG hown hK (c_X2_isSumSign had (M := M)  y_608) gw_8_17 gm_X2_isSumSign gd_X2_isSumSign rfl rfl ⟨Nat.le_of_ble_eq_true rfl, Nat.le_of_ble_eq_true rfl⟩ ⟨Nat.le_refl _, Nat.le_refl _⟩ hP (fun _ h => h) hS rfl hl.1 rfl (Nat.le_of_ble_eq_true rfl) dX2_faultIn_137 (fun r_1030 u_1032 H locs hF_1031 hP hS => ?_)
                        obtain ⟨hz_1033, hF_1031, hu⟩ := hF_1031; rw [hu] at hP; subst hF_1031
                        refine lv_if_ne (tgt := 151) hx hb dX2_faultIn_140 (by decide) (fun hc_1034 => ?_) (fun hc_1034 => ?_)
                        · have he := ite_t he hc_1034
                          refine lv_iconst (v := 1) hx hb dX2_faultIn_151 (by decide) ?_
                          refine lv_istore (lv' := [(4, .int 1), (6, .int y_608), (0, .ref (ad a1)), (1, .int a2), (2, .int v_594), (3, .int v_595), (5, .int v_597)]) hx hb dX2_faultIn_152 hl (by decide) rfl (fun ls hl => ?_)
                          refine lv_goto (tgt := 184) hx hb dX2_faultIn_154 (by decide) ?_
                          obtain ⟨y_1035, ey_1035⟩ : ∃ y_1035 : Int32, y_1035 = v_597 + 1 := ⟨_, rfl⟩
                          have he := bnd_at he ey_1035
                          refine lv_iinc (v := y_1035) (lv' := [(5, .int y_1035), (4, .int 1), (6, .int y_608), (0, .ref (ad a1)), (1, .int a2), (2, .int v_594), (3, .int v_595)]) hx hb dX2_faultIn_184 hl (k := 6) rfl (by rw [ey_1035]; rfl) (by decide) rfl (fun ls hl => ?_)
                          refine lv_goto (tgt := 10) hx hb dX2_faultIn_187 (by decide) ?_
                          exact ih _ _ _ _ _ _ _ (Or.inr rfl) (by rw [ey_1035, inc_I (N := 100) (nle_I hc_603) (by decide)]; omega) (by rw [ey_1035]; exact mu_I hμ (nle_I hc_603) (by decide)) he hP hS (lv_sub hl [3, 4, 5, 6, 1, 0] rfl)
                        · have he := ite_f he (fun q => q hc_1034)
                          refine lv_iload hx hb dX2_faultIn_143 (lv_at hl 0 rfl) ?_
                          refine callS_i [.int y_608] [] hx hb hml hG hown hK (c_X2_isProductSign had (M := M)  y_608) gw_8_20 gm_X2_isProductSign gd_X2_isProductSign rfl rfl ⟨Nat.le_of_ble_eq_true rfl, Nat.le_of_ble_eq_true rfl⟩ ⟨Nat.le_refl _, Nat.le_refl _⟩ hP (fun _ h => h) hS rfl hl.1 rfl (Nat.le_of_ble_eq_true rfl) dX2_faultIn_145 (fun r_1036 u_1038 H locs hF_1037 hP hS => ?_)
                          obtain ⟨hz_1039, hF_1037, hu⟩ := hF_1037; rw [hu] at hP; subst hF_1037
                          refine lv_if_eq (tgt := 157) hx hb dX2_faultIn_148 (by decide) (fun hc_1040 => ?_) (fun hc_1040 => ?_)
                          · have he := ite_t he hc_1040
                            refine lv_iload hx hb dX2_faultIn_157 (lv_at hl 5 rfl) ?_
                            refine lv_if_ne (tgt := 181) hx hb dX2_faultIn_159 (by decide) (fun hc_1041 => ?_) (fun hc_1041 => ?_)
                            · have he := ite_t he hc_1041
                              refine lv_iload hx hb dX2_faultIn_181 (lv_at hl 6 rfl) ?_
                              exact hret _ _ _ _ _ _ ⟨hV.trans he.symm, rfl⟩ hP hS dX2_faultIn_183
                            · have he := ite_f he (fun q => q hc_1041)
                              refine lv_iload hx hb dX2_faultIn_162 (lv_at hl 0 rfl) ?_
                              refine lv_bipush (v := 41) hx hb dX2_faultIn_164 (by decide) ?_
                              refine lv_icmp_ne (tgt := 181) hx hb dX2_faultIn_166 (by decide) (fun hc_1042 => ?_) (fun hc_1042 => ?_)
                              · have he := ite_t he hc_1042
                                refine lv_iload hx hb dX2_faultIn_181 (lv_at hl 6 rfl) ?_
                                exact hret _ _ _ _ _ _ ⟨hV.trans he.symm, rfl⟩ hP hS dX2_faultIn_183
                              · have he := ite_f he (fun q => q hc_1042)
                                refine lv_iload_n hx hb dX2_faultIn_169 rfl (lv_at hl 3 rfl) ?_
                                refine lv_if_le (tgt := 181) hx hb dX2_faultIn_170 (by decide) (fun hc_1043 => ?_) (fun hc_1043 => ?_)
                                · have he := ite_t he hc_1043
                                  refine lv_iload hx hb dX2_faultIn_181 (lv_at hl 6 rfl) ?_
                                  exact hret _ _ _ _ _ _ ⟨hV.trans he.symm, rfl⟩ hP hS dX2_faultIn_183
                                · have he := ite_f he hc_1043
                                  obtain ⟨y_1044, ey_1044⟩ : ∃ y_1044 : Int32, y_1044 = v_594 + (-1) := ⟨_, rfl⟩
                                  have he := bnd_at he ey_1044
                                  refine lv_iinc (v := y_1044) (lv' := [(2, .int y_1044), (6, .int y_608), (0, .ref (ad a1)), (1, .int a2), (3, .int v_595), (4, .int v_596), (5, .int v_597)]) hx hb dX2_faultIn_173 hl (k := 3) rfl (by rw [ey_1044]; rfl) (by decide) rfl (fun ls hl => ?_)
                                  refine lv_iconst (v := 0) hx hb dX2_faultIn_176 (by decide) ?_
                                  refine lv_istore_n (lv' := [(3, .int 0), (2, .int y_1044), (6, .int y_608), (0, .ref (ad a1)), (1, .int a2), (4, .int v_596), (5, .int v_597)]) hx hb dX2_faultIn_177 rfl hl (by decide) rfl (fun ls hl => ?_)
                                  refine lv_goto (tgt := 184) hx hb dX2_faultIn_178 (by decide) ?_
                                  obtain ⟨y_1045, ey_1045⟩ : ∃ y_1045 : Int32, y_1045 = v_597 + 1 := ⟨_, rfl⟩
                                  have he := bnd_at he ey_1045
                                  refine lv_iinc (v := y_1045) (lv' := [(5, .int y_1045), (3, .int 0), (2, .int y_1044), (6, .int y_608), (0, .ref (ad a1)), (1, .int a2), (4, .int v_596)]) hx hb dX2_faultIn_184 hl (k := 6) rfl (by rw [ey_1045]; rfl) (by decide) rfl (fun ls hl => ?_)
                                  refine lv_goto (tgt := 10) hx hb dX2_faultIn_187 (by decide) ?_
                                  exact ih _ _ _ _ _ _ _ zv_596 (by rw [ey_1045, inc_I (N := 100) (nle_I hc_603) (by decide)]; omega) (by rw [ey_1045]; exact mu_I hμ (nle_I hc_603) (by decide)) he hP hS (lv_sub hl [4, 5, 2, 1, 6, 0] rfl)
                          · have he := ite_f he hc_1040
                            refine lv_iconst (v := 1) hx hb dX2_faultIn_151 (by decide) ?_
                            refine lv_istore (lv' := [(4, .int 1), (6, .int y_608), (0, .ref (ad a1)), (1, .int a2), (2, .int v_594), (3, .int v_595), (5, .int v_597)]) hx hb dX2_faultIn_152 hl (by decide) rfl (fun ls hl => ?_)
                            refine lv_goto (tgt := 184) hx hb dX2_faultIn_154 (by decide) ?_
                            obtain ⟨y_1046, ey_1046⟩ : ∃ y_1046 : Int32, y_1046 = v_597 + 1 := ⟨_, rfl⟩
                            have he := bnd_at he ey_1046
                            refine lv_iinc (v := y_1046) (lv' := [(5, .int y_1046), (4, .int 1), (6, .int y_608), (0, .ref (ad a1)), (1, .int a2), (2, .int v_594), (3, .int v_595)]) hx hb dX2_faultIn_184 hl (k := 6) rfl (by rw [ey_1046]; rfl) (by decide) rfl (fun ls hl => ?_)
                            refine lv_goto (tgt := 10) hx hb dX2_faultIn_187 (by decide) ?_
                            exact ih _ _ _ _ _ _ _ (Or.inr rfl) (by rw [ey_1046, inc_I (N := 100) (nle_I hc_603) (by decide)]; omega) (by rw [ey_1046]; exact mu_I hμ (nle_I hc_603) (by decide)) he hP hS (lv_sub hl [3, 4, 5, 6, 1, 0] rfl)
                    · have he := ite_f he hc_1023
                      refine lv_iload_n hx hb dX2_faultIn_120 rfl (lv_at hl 4 rfl) ?_
                      refine lv_if_le (tgt := 130) hx hb dX2_faultIn_121 (by decide) (fun hc_1047 => ?_) (fun hc_1047 => ?_)
                      · have he := ite_t he hc_1047
                        refine lv_iload hx hb dX2_faultIn_130 (lv_at hl 5 rfl) ?_
                        refine lv_if_ne (tgt := 157) hx hb dX2_faultIn_132 (by decide) (fun hc_1048 => ?_) (fun hc_1048 => ?_)
                        · have he := ite_t he hc_1048
                          refine lv_iload hx hb dX2_faultIn_157 (lv_at hl 5 rfl) ?_
                          refine lv_if_ne (tgt := 181) hx hb dX2_faultIn_159 (by decide) (fun hc_1049 => ?_) (fun hc_1049 => ?_)
                          · have he := ite_t he hc_1049
                            refine lv_iload hx hb dX2_faultIn_181 (lv_at hl 6 rfl) ?_
                            exact hret _ _ _ _ _ _ ⟨hV.trans he.symm, rfl⟩ hP hS dX2_faultIn_183
                          · have he := ite_f he (fun q => q hc_1049)
                            refine lv_iload hx hb dX2_faultIn_162 (lv_at hl 0 rfl) ?_
                            refine lv_bipush (v := 41) hx hb dX2_faultIn_164 (by decide) ?_
                            refine lv_icmp_ne (tgt := 181) hx hb dX2_faultIn_166 (by decide) (fun hc_1050 => ?_) (fun hc_1050 => ?_)
                            · have he := ite_t he hc_1050
                              refine lv_iload hx hb dX2_faultIn_181 (lv_at hl 6 rfl) ?_
                              exact hret _ _ _ _ _ _ ⟨hV.trans he.symm, rfl⟩ hP hS dX2_faultIn_183
                            · have he := ite_f he (fun q => q hc_1050)
                              refine lv_iload_n hx hb dX2_faultIn_169 rfl (lv_at hl 3 rfl) ?_
                              refine lv_if_le (tgt := 181) hx hb dX2_faultIn_170 (by decide) (fun hc_1051 => ?_) (fun hc_1051 => ?_)
                              · have he := ite_t he hc_1051
                                refine lv_iload hx hb dX2_faultIn_181 (lv_at hl 6 rfl) ?_
                                exact hret _ _ _ _ _ _ ⟨hV.trans he.symm, rfl⟩ hP hS dX2_faultIn_183
                              · have he := ite_f he hc_1051
                                obtain ⟨y_1052, ey_1052⟩ : ∃ y_1052 : Int32, y_1052 = v_594 + (-1) := ⟨_, rfl⟩
                                have he := bnd_at he ey_1052
                                refine lv_iinc (v := y_1052) (lv' := [(2, .int y_1052), (6, .int y_608), (0, .ref (ad a1)), (1, .int a2), (3, .int v_595), (4, .int v_596), (5, .int v_597)]) hx hb dX2_faultIn_173 hl (k := 3) rfl (by rw [ey_1052]; rfl) (by decide) rfl (fun ls hl => ?_)
                                refine lv_iconst (v := 0) hx hb dX2_faultIn_176 (by decide) ?_
                                refine lv_istore_n (lv' := [(3, .int 0), (2, .int y_1052), (6, .int y_608), (0, .ref (ad a1)), (1, .int a2), (4, .int v_596), (5, .int v_597)]) hx hb dX2_faultIn_177 rfl hl (by decide) rfl (fun ls hl => ?_)
                                refine lv_goto (tgt := 184) hx hb dX2_faultIn_178 (by decide) ?_
                                obtain ⟨y_1053, ey_1053⟩ : ∃ y_1053 : Int32, y_1053 = v_597 + 1 := ⟨_, rfl⟩
                                have he := bnd_at he ey_1053
                                refine lv_iinc (v := y_1053) (lv' := [(5, .int y_1053), (3, .int 0), (2, .int y_1052), (6, .int y_608), (0, .ref (ad a1)), (1, .int a2), (4, .int v_596)]) hx hb dX2_faultIn_184 hl (k := 6) rfl (by rw [ey_1053]; rfl) (by decide) rfl (fun ls hl => ?_)
                                refine lv_goto (tgt := 10) hx hb dX2_faultIn_187 (by decide) ?_
                                exact ih _ _ _ _ _ _ _ zv_596 (by rw [ey_1053, inc_I (N := 100) (nle_I hc_603) (by decide)]; omega) (by rw [ey_1053]; exact mu_I hμ (nle_I hc_603) (by decide)) he hP hS (lv_sub hl [4, 5, 2, 1, 6, 0] rfl)
                        · have he := ite_f he (fun q => q hc_1048)
                          refine lv_iload hx hb dX2_faultIn_135 (lv_at hl 0 rfl) ?_
                          refine callS_i [.int y_608] [] hx hb hml hG hown hK (c_X2_isSumSign had (M := M)  y_608) gw_8_17 gm_X2_isSumSign gd_X2_isSumSign rfl rfl ⟨Nat.le_of_ble_eq_true rfl, Nat.le_of_ble_eq_true rfl⟩ ⟨Nat.le_refl _, Nat.le_refl _⟩ hP (fun _ h => h) hS rfl hl.1 rfl (Nat.le_of_ble_eq_true rfl) dX2_faultIn_137 (fun r_1054 u_1056 H locs hF_1055 hP hS => ?_)
                          obtain ⟨hz_1057, hF_1055, hu⟩ := hF_1055; rw [hu] at hP; subst hF_1055
                          refine lv_if_ne (tgt := 151) hx hb dX2_faultIn_140 (by decide) (fun hc_1058 => ?_) (fun hc_1058 => ?_)
                          · have he := ite_t he hc_1058
                            refine lv_iconst (v := 1) hx hb dX2_faultIn_151 (by decide) ?_
                            refine lv_istore (lv' := [(4, .int 1), (6, .int y_608), (0, .ref (ad a1)), (1, .int a2), (2, .int v_594), (3, .int v_595), (5, .int v_597)]) hx hb dX2_faultIn_152 hl (by decide) rfl (fun ls hl => ?_)
                            refine lv_goto (tgt := 184) hx hb dX2_faultIn_154 (by decide) ?_
                            obtain ⟨y_1059, ey_1059⟩ : ∃ y_1059 : Int32, y_1059 = v_597 + 1 := ⟨_, rfl⟩
                            have he := bnd_at he ey_1059
                            refine lv_iinc (v := y_1059) (lv' := [(5, .int y_1059), (4, .int 1), (6, .int y_608), (0, .ref (ad a1)), (1, .int a2), (2, .int v_594), (3, .int v_595)]) hx hb dX2_faultIn_184 hl (k := 6) rfl (by rw [ey_1059]; rfl) (by decide) rfl (fun ls hl => ?_)
                            refine lv_goto (tgt := 10) hx hb dX2_faultIn_187 (by decide) ?_
                            exact ih _ _ _ _ _ _ _ (Or.inr rfl) (by rw [ey_1059, inc_I (N := 100) (nle_I hc_603) (by decide)]; omega) (by rw [ey_1059]; exact mu_I hμ (nle_I hc_603) (by decide)) he hP hS (lv_sub hl [3, 4, 5, 6, 1, 0] rfl)
                          · have he := ite_f he (fun q => q hc_1058)
                            refine lv_iload hx hb dX2_faultIn_143 (lv_at hl 0 rfl) ?_
                            refine callS_i [.int y_608] [] hx hb hml hG hown hK (c_X2_isProductSign had (M := M)  y_608) gw_8_20 gm_X2_isProductSign gd_X2_isProductSign rfl rfl ⟨Nat.le_of_ble_eq_true rfl, Nat.le_of_ble_eq_true rfl⟩ ⟨Nat.le_refl _, Nat.le_refl _⟩ hP (fun _ h => h) hS rfl hl.1 rfl (Nat.le_of_ble_eq_true rfl) dX2_faultIn_145 (fun r_1060 u_1062 H locs hF_1061 hP hS => ?_)
                            obtain ⟨hz_1063, hF_1061, hu⟩ := hF_1061; rw [hu] at hP; subst hF_1061
                            refine lv_if_eq (tgt := 157) hx hb dX2_faultIn_148 (by decide) (fun hc_1064 => ?_) (fun hc_1064 => ?_)
                            · have he := ite_t he hc_1064
                              refine lv_iload hx hb dX2_faultIn_157 (lv_at hl 5 rfl) ?_
                              refine lv_if_ne (tgt := 181) hx hb dX2_faultIn_159 (by decide) (fun hc_1065 => ?_) (fun hc_1065 => ?_)
                              · have he := ite_t he hc_1065
                                refine lv_iload hx hb dX2_faultIn_181 (lv_at hl 6 rfl) ?_
                                exact hret _ _ _ _ _ _ ⟨hV.trans he.symm, rfl⟩ hP hS dX2_faultIn_183
                              · have he := ite_f he (fun q => q hc_1065)
                                refine lv_iload hx hb dX2_faultIn_162 (lv_at hl 0 rfl) ?_
                                refine lv_bipush (v := 41) hx hb dX2_faultIn_164 (by decide) ?_
                                refine lv_icmp_ne (tgt := 181) hx hb dX2_faultIn_166 (by decide) (fun hc_1066 => ?_) (fun hc_1066 => ?_)
                                · have he := ite_t he hc_1066
                                  refine lv_iload hx hb dX2_faultIn_181 (lv_at hl 6 rfl) ?_
                                  exact hret _ _ _ _ _ _ ⟨hV.trans he.symm, rfl⟩ hP hS dX2_faultIn_183
                                · have he := ite_f he (fun q => q hc_1066)
                                  refine lv_iload_n hx hb dX2_faultIn_169 rfl (lv_at hl 3 rfl) ?_
                                  refine lv_if_le (tgt := 181) hx hb dX2_faultIn_170 (by decide) (fun hc_1067 => ?_) (fun hc_1067 => ?_)
                                  · have he := ite_t he hc_1067
                                    refine lv_iload hx hb dX2_faultIn_181 (lv_at hl 6 rfl) ?_
                                    exact hret _ _ _ _ _ _ ⟨hV.trans he.symm, rfl⟩ hP hS dX2_faultIn_183
                                  · have he := ite_f he hc_1067
                                    obtain ⟨y_1068, ey_1068⟩ : ∃ y_1068 : Int32, y_1068 = v_594 + (-1) := ⟨_, rfl⟩
                                    have he := bnd_at he ey_1068
                                    refine lv_iinc (v := y_1068) (lv' := [(2, .int y_1068), (6, .int y_608), (0, .ref (ad a1)), (1, .int a2), (3, .int v_595), (4, .int v_596), (5, .int v_597)]) hx hb dX2_faultIn_173 hl (k := 3) rfl (by rw [ey_1068]; rfl) (by decide) rfl (fun ls hl => ?_)
                                    refine lv_iconst (v := 0) hx hb dX2_faultIn_176 (by decide) ?_
                                    refine lv_istore_n (lv' := [(3, .int 0), (2, .int y_1068), (6, .int y_608), (0, .ref (ad a1)), (1, .int a2), (4, .int v_596), (5, .int v_597)]) hx hb dX2_faultIn_177 rfl hl (by decide) rfl (fun ls hl => ?_)
                                    refine lv_goto (tgt := 184) hx hb dX2_faultIn_178 (by decide) ?_
                                    obtain ⟨y_1069, ey_1069⟩ : ∃ y_1069 : Int32, y_1069 = v_597 + 1 := ⟨_, rfl⟩
                                    have he := bnd_at he ey_1069
                                    refine lv_iinc (v := y_1069) (lv' := [(5, .int y_1069), (3, .int 0), (2, .int y_1068), (6, .int y_608), (0, .ref (ad a1)), (1, .int a2), (4, .int v_596)]) hx hb dX2_faultIn_184 hl (k := 6) rfl (by rw [ey_1069]; rfl) (by decide) rfl (fun ls hl => ?_)
                                    refine lv_goto (tgt := 10) hx hb dX2_faultIn_187 (by decide) ?_
                                    exact ih _ _ _ _ _ _ _ zv_596 (by rw [ey_1069, inc_I (N := 100) (nle_I hc_603) (by decide)]; omega) (by rw [ey_1069]; exact mu_I hμ (nle_I hc_603) (by decide)) he hP hS (lv_sub hl [4, 5, 2, 1, 6, 0] rfl)
                            · have he := ite_f he hc_1064
                              refine lv_iconst (v := 1) hx hb dX2_faultIn_151 (by decide) ?_
                              refine lv_istore (lv' := [(4, .int 1), (6, .int y_608), (0, .ref (ad a1)), (1, .int a2), (2, .int v_594), (3, .int v_595), (5, .int v_597)]) hx hb dX2_faultIn_152 hl (by decide) rfl (fun ls hl => ?_)
                              refine lv_goto (tgt := 184) hx hb dX2_faultIn_154 (by decide) ?_
                              obtain ⟨y_1070, ey_1070⟩ : ∃ y_1070 : Int32, y_1070 = v_597 + 1 := ⟨_, rfl⟩
                              have he := bnd_at he ey_1070
                              refine lv_iinc (v := y_1070) (lv' := [(5, .int y_1070), (4, .int 1), (6, .int y_608), (0, .ref (ad a1)), (1, .int a2), (2, .int v_594), (3, .int v_595)]) hx hb dX2_faultIn_184 hl (k := 6) rfl (by rw [ey_1070]; rfl) (by decide) rfl (fun ls hl => ?_)
                              refine lv_goto (tgt := 10) hx hb dX2_faultIn_187 (by decide) ?_
                              exact ih _ _ _ _ _ _ _ (Or.inr rfl) (by rw [ey_1070, inc_I (N := 100) (nle_I hc_603) (by decide)]; omega) (by rw [ey_1070]; exact mu_I hμ (nle_I hc_603) (by decide)) he hP hS (lv_sub hl [3, 4, 5, 6, 1, 0] rfl)
                      · have he := ite_f he hc_1047
                        obtain ⟨y_1071, ey_1071⟩ : ∃ y_1071 : Int32, y_1071 = v_595 + (-1) := ⟨_, rfl⟩
                        have he := bnd_at he ey_1071
                        refine lv_iinc (v := y_1071) (lv' := [(3, .int y_1071), (6, .int y_608), (0, .ref (ad a1)), (1, .int a2), (2, .int v_594), (4, .int v_596), (5, .int v_597)]) hx hb dX2_faultIn_124 hl (k := 4) rfl (by rw [ey_1071]; rfl) (by decide) rfl (fun ls hl => ?_)
                        refine lv_goto (tgt := 184) hx hb dX2_faultIn_127 (by decide) ?_
                        obtain ⟨y_1072, ey_1072⟩ : ∃ y_1072 : Int32, y_1072 = v_597 + 1 := ⟨_, rfl⟩
                        have he := bnd_at he ey_1072
                        refine lv_iinc (v := y_1072) (lv' := [(5, .int y_1072), (3, .int y_1071), (6, .int y_608), (0, .ref (ad a1)), (1, .int a2), (2, .int v_594), (4, .int v_596)]) hx hb dX2_faultIn_184 hl (k := 6) rfl (by rw [ey_1072]; rfl) (by decide) rfl (fun ls hl => ?_)
                        refine lv_goto (tgt := 10) hx hb dX2_faultIn_187 (by decide) ?_
                        exact ih _ _ _ _ _ _ _ zv_596 (by rw [ey_1072, inc_I (N := 100) (nle_I hc_603) (by decide)]; omega) (by rw [ey_1072]; exact mu_I hμ (nle_I hc_603) (by decide)) he hP hS (lv_sub hl [3, 4, 5, 1, 6, 0] rfl)
                · have he := ite_f he hc_994
                  refine lv_iload hx hb dX2_faultIn_58 (lv_at hl 0 rfl) ?_
                  refine callS_i [.int y_608] [] hx hb hml hG hown hK (c_X2_isDigit had (M := M)  y_608) gw_8_14 gm_X2_isDigit gd_X2_isDigit rfl rfl ⟨Nat.le_of_ble_eq_true rfl, Nat.le_of_ble_eq_true rfl⟩ ⟨Nat.le_refl _, Nat.le_refl _⟩ hP (fun _ h => h) hS rfl hl.1 rfl (Nat.le_of_ble_eq_true rfl) dX2_faultIn_60 (fun r_1073 u_1075 H locs hF_1074 hP hS => ?_)
                  obtain ⟨hz_1076, hF_1074, hu⟩ := hF_1074; rw [hu] at hP; subst hF_1074
                  refine lv_if_ne (tgt := 80) hx hb dX2_faultIn_63 (by decide) (fun hc_1077 => ?_) (fun hc_1077 => ?_)
                  · have he := ite_t he hc_1077
                    refine lv_iconst (v := 0) hx hb dX2_faultIn_80 (by decide) ?_
                    refine lv_istore (lv' := [(4, .int 0), (6, .int y_608), (0, .ref (ad a1)), (1, .int a2), (2, .int v_594), (3, .int v_595), (5, .int v_597)]) hx hb dX2_faultIn_81 hl (by decide) rfl (fun ls hl => ?_)
                    refine lv_iload hx hb dX2_faultIn_83 (lv_at hl 1 rfl) ?_
                    refine callS_i [.int y_608] [] hx hb hml hG hown hK (c_X2_isDigit had (M := M)  y_608) gw_8_14 gm_X2_isDigit gd_X2_isDigit rfl rfl ⟨Nat.le_of_ble_eq_true rfl, Nat.le_of_ble_eq_true rfl⟩ ⟨Nat.le_refl _, Nat.le_refl _⟩ hP (fun _ h => h) hS rfl hl.1 rfl (Nat.le_of_ble_eq_true rfl) dX2_faultIn_85 (fun r_1078 u_1080 H locs hF_1079 hP hS => ?_)
                    obtain ⟨hz_1081, hF_1079, hu⟩ := hF_1079; rw [hu] at hP; subst hF_1079
                    obtain ⟨t_1085, hr_1083, he⟩ := bnd_ex he
                    have j103 : ∀ (H : Heap) (locs : List Loc) (ls : Array Slot), va_P D vwCl (wld 74 ad (cC ad k M)) H → va_S (AW 74 ad) s.heap H locs → lv_has ls 7 [(0, .ref (ad a1)), (1, .int a2), (2, .int v_594), (4, .int 0), (5, .int v_597)] → W p l e rm_X2_faultIn s m args below meth c H locs 0 0 Q (F0 m 103 ls [.int t_1085]) := by
                      intro H locs ls hP hS hl
                      refine lv_istore_n (lv' := [(3, .int t_1085), (0, .ref (ad a1)), (1, .int a2), (2, .int v_594), (4, .int 0), (5, .int v_597)]) hx hb dX2_faultIn_103 rfl hl (by decide) rfl (fun ls hl => ?_)
                      refine lv_goto (tgt := 184) hx hb dX2_faultIn_104 (by decide) ?_
                      obtain ⟨y_1086, ey_1086⟩ : ∃ y_1086 : Int32, y_1086 = v_597 + 1 := ⟨_, rfl⟩
                      have he := bnd_at he ey_1086
                      refine lv_iinc (v := y_1086) (lv' := [(5, .int y_1086), (3, .int t_1085), (0, .ref (ad a1)), (1, .int a2), (2, .int v_594), (4, .int 0)]) hx hb dX2_faultIn_184 hl (k := 5) rfl (by rw [ey_1086]; rfl) (by decide) rfl (fun ls hl => ?_)
                      refine lv_goto (tgt := 10) hx hb dX2_faultIn_187 (by decide) ?_
                      exact ih _ _ _ _ _ _ _ (Or.inl rfl) (by rw [ey_1086, inc_I (N := 100) (nle_I hc_603) (by decide)]; omega) (by rw [ey_1086]; exact mu_I hμ (nle_I hc_603) (by decide)) he hP hS (lv_sub hl [2, 3, 4, 1, 5, 0] rfl)
                    refine lv_if_eq (tgt := 102) hx hb dX2_faultIn_88 (by decide) (fun hc_1082 => ?_) (fun hc_1082 => ?_)
                    · have hr_1083 := ite_t hr_1083 hc_1082
                      refine lv_iconst (v := 0) hx hb dX2_faultIn_102 (by decide) ?_
                      cases hr_1083
                      exact j103 _ _ _ hP hS (lv_sub hl [2, 3, 4, 0, 6] rfl)
                    · have hr_1083 := ite_f hr_1083 hc_1082
                      refine lv_iload hx hb dX2_faultIn_91 (lv_at hl 1 rfl) ?_
                      refine lv_bipush (v := 48) hx hb dX2_faultIn_93 (by decide) ?_
                      refine lv_icmp_eq (tgt := 102) hx hb dX2_faultIn_95 (by decide) (fun hc_1084 => ?_) (fun hc_1084 => ?_)
                      · have hr_1083 := ite_t hr_1083 hc_1084
                        refine lv_iconst (v := 0) hx hb dX2_faultIn_102 (by decide) ?_
                        cases hr_1083
                        exact j103 _ _ _ hP hS (lv_sub hl [2, 3, 4, 0, 6] rfl)
                      · have hr_1083 := ite_f hr_1083 hc_1084
                        refine lv_iconst (v := 2) hx hb dX2_faultIn_98 (by decide) ?_
                        refine lv_goto (tgt := 103) hx hb dX2_faultIn_99 (by decide) ?_
                        cases hr_1083
                        exact j103 _ _ _ hP hS (lv_sub hl [2, 3, 4, 0, 6] rfl)
                  · have he := ite_f he (fun q => q hc_1077)
                    refine lv_iload hx hb dX2_faultIn_66 (lv_at hl 0 rfl) ?_
                    refine lv_bipush (v := 116) hx hb dX2_faultIn_68 (by decide) ?_
                    refine lv_icmp_eq (tgt := 80) hx hb dX2_faultIn_70 (by decide) (fun hc_1087 => ?_) (fun hc_1087 => ?_)
                    · have he := ite_t he hc_1087
                      refine lv_iconst (v := 0) hx hb dX2_faultIn_80 (by decide) ?_
                      refine lv_istore (lv' := [(4, .int 0), (6, .int y_608), (0, .ref (ad a1)), (1, .int a2), (2, .int v_594), (3, .int v_595), (5, .int v_597)]) hx hb dX2_faultIn_81 hl (by decide) rfl (fun ls hl => ?_)
                      refine lv_iload hx hb dX2_faultIn_83 (lv_at hl 1 rfl) ?_
                      refine callS_i [.int y_608] [] hx hb hml hG hown hK (c_X2_isDigit had (M := M)  y_608) gw_8_14 gm_X2_isDigit gd_X2_isDigit rfl rfl ⟨Nat.le_of_ble_eq_true rfl, Nat.le_of_ble_eq_true rfl⟩ ⟨Nat.le_refl _, Nat.le_refl _⟩ hP (fun _ h => h) hS rfl hl.1 rfl (Nat.le_of_ble_eq_true rfl) dX2_faultIn_85 (fun r_1088 u_1090 H locs hF_1089 hP hS => ?_)
                      obtain ⟨hz_1091, hF_1089, hu⟩ := hF_1089; rw [hu] at hP; subst hF_1089
                      obtain ⟨t_1095, hr_1093, he⟩ := bnd_ex he
                      have j103 : ∀ (H : Heap) (locs : List Loc) (ls : Array Slot), va_P D vwCl (wld 74 ad (cC ad k M)) H → va_S (AW 74 ad) s.heap H locs → lv_has ls 7 [(0, .ref (ad a1)), (1, .int a2), (2, .int v_594), (4, .int 0), (5, .int v_597)] → W p l e rm_X2_faultIn s m args below meth c H locs 0 0 Q (F0 m 103 ls [.int t_1095]) := by
                        intro H locs ls hP hS hl
                        refine lv_istore_n (lv' := [(3, .int t_1095), (0, .ref (ad a1)), (1, .int a2), (2, .int v_594), (4, .int 0), (5, .int v_597)]) hx hb dX2_faultIn_103 rfl hl (by decide) rfl (fun ls hl => ?_)
                        refine lv_goto (tgt := 184) hx hb dX2_faultIn_104 (by decide) ?_
                        obtain ⟨y_1096, ey_1096⟩ : ∃ y_1096 : Int32, y_1096 = v_597 + 1 := ⟨_, rfl⟩
                        have he := bnd_at he ey_1096
                        refine lv_iinc (v := y_1096) (lv' := [(5, .int y_1096), (3, .int t_1095), (0, .ref (ad a1)), (1, .int a2), (2, .int v_594), (4, .int 0)]) hx hb dX2_faultIn_184 hl (k := 5) rfl (by rw [ey_1096]; rfl) (by decide) rfl (fun ls hl => ?_)
                        refine lv_goto (tgt := 10) hx hb dX2_faultIn_187 (by decide) ?_
                        exact ih _ _ _ _ _ _ _ (Or.inl rfl) (by rw [ey_1096, inc_I (N := 100) (nle_I hc_603) (by decide)]; omega) (by rw [ey_1096]; exact mu_I hμ (nle_I hc_603) (by decide)) he hP hS (lv_sub hl [2, 3, 4, 1, 5, 0] rfl)
                      refine lv_if_eq (tgt := 102) hx hb dX2_faultIn_88 (by decide) (fun hc_1092 => ?_) (fun hc_1092 => ?_)
                      · have hr_1093 := ite_t hr_1093 hc_1092
                        refine lv_iconst (v := 0) hx hb dX2_faultIn_102 (by decide) ?_
                        cases hr_1093
                        exact j103 _ _ _ hP hS (lv_sub hl [2, 3, 4, 0, 6] rfl)
                      · have hr_1093 := ite_f hr_1093 hc_1092
                        refine lv_iload hx hb dX2_faultIn_91 (lv_at hl 1 rfl) ?_
                        refine lv_bipush (v := 48) hx hb dX2_faultIn_93 (by decide) ?_
                        refine lv_icmp_eq (tgt := 102) hx hb dX2_faultIn_95 (by decide) (fun hc_1094 => ?_) (fun hc_1094 => ?_)
                        · have hr_1093 := ite_t hr_1093 hc_1094
                          refine lv_iconst (v := 0) hx hb dX2_faultIn_102 (by decide) ?_
                          cases hr_1093
                          exact j103 _ _ _ hP hS (lv_sub hl [2, 3, 4, 0, 6] rfl)
                        · have hr_1093 := ite_f hr_1093 hc_1094
                          refine lv_iconst (v := 2) hx hb dX2_faultIn_98 (by decide) ?_
                          refine lv_goto (tgt := 103) hx hb dX2_faultIn_99 (by decide) ?_
                          cases hr_1093
                          exact j103 _ _ _ hP hS (lv_sub hl [2, 3, 4, 0, 6] rfl)
                    · have he := ite_f he hc_1087
                      refine lv_iload hx hb dX2_faultIn_73 (lv_at hl 0 rfl) ?_
                      refine lv_bipush (v := 115) hx hb dX2_faultIn_75 (by decide) ?_
                      refine lv_icmp_ne (tgt := 107) hx hb dX2_faultIn_77 (by decide) (fun hc_1097 => ?_) (fun hc_1097 => ?_)
                      · have he := ite_t he hc_1097
                        refine lv_iload hx hb dX2_faultIn_107 (lv_at hl 5 rfl) ?_
                        refine lv_if_ne (tgt := 130) hx hb dX2_faultIn_109 (by decide) (fun hc_1098 => ?_) (fun hc_1098 => ?_)
                        · have he := ite_t he hc_1098
                          refine lv_iload hx hb dX2_faultIn_130 (lv_at hl 5 rfl) ?_
                          refine lv_if_ne (tgt := 157) hx hb dX2_faultIn_132 (by decide) (fun hc_1099 => ?_) (fun hc_1099 => ?_)
                          · have he := ite_t he hc_1099
                            refine lv_iload hx hb dX2_faultIn_157 (lv_at hl 5 rfl) ?_
                            refine lv_if_ne (tgt := 181) hx hb dX2_faultIn_159 (by decide) (fun hc_1100 => ?_) (fun hc_1100 => ?_)
                            · have he := ite_t he hc_1100
                              refine lv_iload hx hb dX2_faultIn_181 (lv_at hl 6 rfl) ?_
                              exact hret _ _ _ _ _ _ ⟨hV.trans he.symm, rfl⟩ hP hS dX2_faultIn_183
                            · have he := ite_f he (fun q => q hc_1100)
                              refine lv_iload hx hb dX2_faultIn_162 (lv_at hl 0 rfl) ?_
                              refine lv_bipush (v := 41) hx hb dX2_faultIn_164 (by decide) ?_
                              refine lv_icmp_ne (tgt := 181) hx hb dX2_faultIn_166 (by decide) (fun hc_1101 => ?_) (fun hc_1101 => ?_)
                              · have he := ite_t he hc_1101
                                refine lv_iload hx hb dX2_faultIn_181 (lv_at hl 6 rfl) ?_
                                exact hret _ _ _ _ _ _ ⟨hV.trans he.symm, rfl⟩ hP hS dX2_faultIn_183
                              · have he := ite_f he (fun q => q hc_1101)
                                refine lv_iload_n hx hb dX2_faultIn_169 rfl (lv_at hl 3 rfl) ?_
                                refine lv_if_le (tgt := 181) hx hb dX2_faultIn_170 (by decide) (fun hc_1102 => ?_) (fun hc_1102 => ?_)
                                · have he := ite_t he hc_1102
                                  refine lv_iload hx hb dX2_faultIn_181 (lv_at hl 6 rfl) ?_
                                  exact hret _ _ _ _ _ _ ⟨hV.trans he.symm, rfl⟩ hP hS dX2_faultIn_183
                                · have he := ite_f he hc_1102
                                  obtain ⟨y_1103, ey_1103⟩ : ∃ y_1103 : Int32, y_1103 = v_594 + (-1) := ⟨_, rfl⟩
                                  have he := bnd_at he ey_1103
                                  refine lv_iinc (v := y_1103) (lv' := [(2, .int y_1103), (6, .int y_608), (0, .ref (ad a1)), (1, .int a2), (3, .int v_595), (4, .int v_596), (5, .int v_597)]) hx hb dX2_faultIn_173 hl (k := 3) rfl (by rw [ey_1103]; rfl) (by decide) rfl (fun ls hl => ?_)
                                  refine lv_iconst (v := 0) hx hb dX2_faultIn_176 (by decide) ?_
                                  refine lv_istore_n (lv' := [(3, .int 0), (2, .int y_1103), (6, .int y_608), (0, .ref (ad a1)), (1, .int a2), (4, .int v_596), (5, .int v_597)]) hx hb dX2_faultIn_177 rfl hl (by decide) rfl (fun ls hl => ?_)
                                  refine lv_goto (tgt := 184) hx hb dX2_faultIn_178 (by decide) ?_
                                  obtain ⟨y_1104, ey_1104⟩ : ∃ y_1104 : Int32, y_1104 = v_597 + 1 := ⟨_, rfl⟩
                                  have he := bnd_at he ey_1104
                                  refine lv_iinc (v := y_1104) (lv' := [(5, .int y_1104), (3, .int 0), (2, .int y_1103), (6, .int y_608), (0, .ref (ad a1)), (1, .int a2), (4, .int v_596)]) hx hb dX2_faultIn_184 hl (k := 6) rfl (by rw [ey_1104]; rfl) (by decide) rfl (fun ls hl => ?_)
                                  refine lv_goto (tgt := 10) hx hb dX2_faultIn_187 (by decide) ?_
                                  exact ih _ _ _ _ _ _ _ zv_596 (by rw [ey_1104, inc_I (N := 100) (nle_I hc_603) (by decide)]; omega) (by rw [ey_1104]; exact mu_I hμ (nle_I hc_603) (by decide)) he hP hS (lv_sub hl [4, 5, 2, 1, 6, 0] rfl)
                          · have he := ite_f he (fun q => q hc_1099)
                            refine lv_iload hx hb dX2_faultIn_135 (lv_at hl 0 rfl) ?_
                            refine callS_i [.int y_608] [] hx hb hml hG hown hK (c_X2_isSumSign had (M := M)  y_608) gw_8_17 gm_X2_isSumSign gd_X2_isSumSign rfl rfl ⟨Nat.le_of_ble_eq_true rfl, Nat.le_of_ble_eq_true rfl⟩ ⟨Nat.le_refl _, Nat.le_refl _⟩ hP (fun _ h => h) hS rfl hl.1 rfl (Nat.le_of_ble_eq_true rfl) dX2_faultIn_137 (fun r_1105 u_1107 H locs hF_1106 hP hS => ?_)
                            obtain ⟨hz_1108, hF_1106, hu⟩ := hF_1106; rw [hu] at hP; subst hF_1106
                            refine lv_if_ne (tgt := 151) hx hb dX2_faultIn_140 (by decide) (fun hc_1109 => ?_) (fun hc_1109 => ?_)
                            · have he := ite_t he hc_1109
                              refine lv_iconst (v := 1) hx hb dX2_faultIn_151 (by decide) ?_
                              refine lv_istore (lv' := [(4, .int 1), (6, .int y_608), (0, .ref (ad a1)), (1, .int a2), (2, .int v_594), (3, .int v_595), (5, .int v_597)]) hx hb dX2_faultIn_152 hl (by decide) rfl (fun ls hl => ?_)
                              refine lv_goto (tgt := 184) hx hb dX2_faultIn_154 (by decide) ?_
                              obtain ⟨y_1110, ey_1110⟩ : ∃ y_1110 : Int32, y_1110 = v_597 + 1 := ⟨_, rfl⟩
                              have he := bnd_at he ey_1110
                              refine lv_iinc (v := y_1110) (lv' := [(5, .int y_1110), (4, .int 1), (6, .int y_608), (0, .ref (ad a1)), (1, .int a2), (2, .int v_594), (3, .int v_595)]) hx hb dX2_faultIn_184 hl (k := 6) rfl (by rw [ey_1110]; rfl) (by decide) rfl (fun ls hl => ?_)
                              refine lv_goto (tgt := 10) hx hb dX2_faultIn_187 (by decide) ?_
                              exact ih _ _ _ _ _ _ _ (Or.inr rfl) (by rw [ey_1110, inc_I (N := 100) (nle_I hc_603) (by decide)]; omega) (by rw [ey_1110]; exact mu_I hμ (nle_I hc_603) (by decide)) he hP hS (lv_sub hl [3, 4, 5, 6, 1, 0] rfl)
                            · have he := ite_f he (fun q => q hc_1109)
                              refine lv_iload hx hb dX2_faultIn_143 (lv_at hl 0 rfl) ?_
                              refine callS_i [.int y_608] [] hx hb hml hG hown hK (c_X2_isProductSign had (M := M)  y_608) gw_8_20 gm_X2_isProductSign gd_X2_isProductSign rfl rfl ⟨Nat.le_of_ble_eq_true rfl, Nat.le_of_ble_eq_true rfl⟩ ⟨Nat.le_refl _, Nat.le_refl _⟩ hP (fun _ h => h) hS rfl hl.1 rfl (Nat.le_of_ble_eq_true rfl) dX2_faultIn_145 (fun r_1111 u_1113 H locs hF_1112 hP hS => ?_)
                              obtain ⟨hz_1114, hF_1112, hu⟩ := hF_1112; rw [hu] at hP; subst hF_1112
                              refine lv_if_eq (tgt := 157) hx hb dX2_faultIn_148 (by decide) (fun hc_1115 => ?_) (fun hc_1115 => ?_)
                              · have he := ite_t he hc_1115
                                refine lv_iload hx hb dX2_faultIn_157 (lv_at hl 5 rfl) ?_
                                refine lv_if_ne (tgt := 181) hx hb dX2_faultIn_159 (by decide) (fun hc_1116 => ?_) (fun hc_1116 => ?_)
                                · have he := ite_t he hc_1116
                                  refine lv_iload hx hb dX2_faultIn_181 (lv_at hl 6 rfl) ?_
                                  exact hret _ _ _ _ _ _ ⟨hV.trans he.symm, rfl⟩ hP hS dX2_faultIn_183
                                · have he := ite_f he (fun q => q hc_1116)
                                  refine lv_iload hx hb dX2_faultIn_162 (lv_at hl 0 rfl) ?_
                                  refine lv_bipush (v := 41) hx hb dX2_faultIn_164 (by decide) ?_
                                  refine lv_icmp_ne (tgt := 181) hx hb dX2_faultIn_166 (by decide) (fun hc_1117 => ?_) (fun hc_1117 => ?_)
                                  · have he := ite_t he hc_1117
                                    refine lv_iload hx hb dX2_faultIn_181 (lv_at hl 6 rfl) ?_
                                    exact hret _ _ _ _ _ _ ⟨hV.trans he.symm, rfl⟩ hP hS dX2_faultIn_183
                                  · have he := ite_f he (fun q => q hc_1117)
                                    refine lv_iload_n hx hb dX2_faultIn_169 rfl (lv_at hl 3 rfl) ?_
                                    refine lv_if_le (tgt := 181) hx hb dX2_faultIn_170 (by decide) (fun hc_1118 => ?_) (fun hc_1118 => ?_)
                                    · have he := ite_t he hc_1118
                                      refine lv_iload hx hb dX2_faultIn_181 (lv_at hl 6 rfl) ?_
                                      exact hret _ _ _ _ _ _ ⟨hV.trans he.symm, rfl⟩ hP hS dX2_faultIn_183
                                    · have he := ite_f he hc_1118
                                      obtain ⟨y_1119, ey_1119⟩ : ∃ y_1119 : Int32, y_1119 = v_594 + (-1) := ⟨_, rfl⟩
                                      have he := bnd_at he ey_1119
                                      refine lv_iinc (v := y_1119) (lv' := [(2, .int y_1119), (6, .int y_608), (0, .ref (ad a1)), (1, .int a2), (3, .int v_595), (4, .int v_596), (5, .int v_597)]) hx hb dX2_faultIn_173 hl (k := 3) rfl (by rw [ey_1119]; rfl) (by decide) rfl (fun ls hl => ?_)
                                      refine lv_iconst (v := 0) hx hb dX2_faultIn_176 (by decide) ?_
                                      refine lv_istore_n (lv' := [(3, .int 0), (2, .int y_1119), (6, .int y_608), (0, .ref (ad a1)), (1, .int a2), (4, .int v_596), (5, .int v_597)]) hx hb dX2_faultIn_177 rfl hl (by decide) rfl (fun ls hl => ?_)
                                      refine lv_goto (tgt := 184) hx hb dX2_faultIn_178 (by decide) ?_
                                      obtain ⟨y_1120, ey_1120⟩ : ∃ y_1120 : Int32, y_1120 = v_597 + 1 := ⟨_, rfl⟩
                                      have he := bnd_at he ey_1120
                                      refine lv_iinc (v := y_1120) (lv' := [(5, .int y_1120), (3, .int 0), (2, .int y_1119), (6, .int y_608), (0, .ref (ad a1)), (1, .int a2), (4, .int v_596)]) hx hb dX2_faultIn_184 hl (k := 6) rfl (by rw [ey_1120]; rfl) (by decide) rfl (fun ls hl => ?_)
                                      refine lv_goto (tgt := 10) hx hb dX2_faultIn_187 (by decide) ?_
                                      exact ih _ _ _ _ _ _ _ zv_596 (by rw [ey_1120, inc_I (N := 100) (nle_I hc_603) (by decide)]; omega) (by rw [ey_1120]; exact mu_I hμ (nle_I hc_603) (by decide)) he hP hS (lv_sub hl [4, 5, 2, 1, 6, 0] rfl)
                              · have he := ite_f he hc_1115
                                refine lv_iconst (v := 1) hx hb dX2_faultIn_151 (by decide) ?_
                                refine lv_istore (lv' := [(4, .int 1), (6, .int y_608), (0, .ref (ad a1)), (1, .int a2), (2, .int v_594), (3, .int v_595), (5, .int v_597)]) hx hb dX2_faultIn_152 hl (by decide) rfl (fun ls hl => ?_)
                                refine lv_goto (tgt := 184) hx hb dX2_faultIn_154 (by decide) ?_
                                obtain ⟨y_1121, ey_1121⟩ : ∃ y_1121 : Int32, y_1121 = v_597 + 1 := ⟨_, rfl⟩
                                have he := bnd_at he ey_1121
                                refine lv_iinc (v := y_1121) (lv' := [(5, .int y_1121), (4, .int 1), (6, .int y_608), (0, .ref (ad a1)), (1, .int a2), (2, .int v_594), (3, .int v_595)]) hx hb dX2_faultIn_184 hl (k := 6) rfl (by rw [ey_1121]; rfl) (by decide) rfl (fun ls hl => ?_)
                                refine lv_goto (tgt := 10) hx hb dX2_faultIn_187 (by decide) ?_
                                exact ih _ _ _ _ _ _ _ (Or.inr rfl) (by rw [ey_1121, inc_I (N := 100) (nle_I hc_603) (by decide)]; omega) (by rw [ey_1121]; exact mu_I hμ (nle_I hc_603) (by decide)) he hP hS (lv_sub hl [3, 4, 5, 6, 1, 0] rfl)
                        · have he := ite_f he (fun q => q hc_1098)
                          refine lv_iload hx hb dX2_faultIn_112 (lv_at hl 0 rfl) ?_
                          refine callS_i [.int y_608] [] hx hb hml hG hown hK (c_X2_isDigit had (M := M)  y_608) gw_8_14 gm_X2_isDigit gd_X2_isDigit rfl rfl ⟨Nat.le_of_ble_eq_true rfl, Nat.le_of_ble_eq_true rfl⟩ ⟨Nat.le_refl _, Nat.le_refl _⟩ hP (fun _ h => h) hS rfl hl.1 rfl (Nat.le_of_ble_eq_true rfl) dX2_faultIn_114 (fun r_1122 u_1124 H locs hF_1123 hP hS => ?_)
                          obtain ⟨hz_1125, hF_1123, hu⟩ := hF_1123; rw [hu] at hP; subst hF_1123
                          refine lv_if_eq (tgt := 130) hx hb dX2_faultIn_117 (by decide) (fun hc_1126 => ?_) (fun hc_1126 => ?_)
                          · have he := ite_t he hc_1126
                            refine lv_iload hx hb dX2_faultIn_130 (lv_at hl 5 rfl) ?_
                            refine lv_if_ne (tgt := 157) hx hb dX2_faultIn_132 (by decide) (fun hc_1127 => ?_) (fun hc_1127 => ?_)
                            · have he := ite_t he hc_1127
                              refine lv_iload hx hb dX2_faultIn_157 (lv_at hl 5 rfl) ?_
                              refine lv_if_ne (tgt := 181) hx hb dX2_faultIn_159 (by decide) (fun hc_1128 => ?_) (fun hc_1128 => ?_)
                              · have he := ite_t he hc_1128
                                refine lv_iload hx hb dX2_faultIn_181 (lv_at hl 6 rfl) ?_
                                exact hret _ _ _ _ _ _ ⟨hV.trans he.symm, rfl⟩ hP hS dX2_faultIn_183
                              · have he := ite_f he (fun q => q hc_1128)
                                refine lv_iload hx hb dX2_faultIn_162 (lv_at hl 0 rfl) ?_
                                refine lv_bipush (v := 41) hx hb dX2_faultIn_164 (by decide) ?_
                                refine lv_icmp_ne (tgt := 181) hx hb dX2_faultIn_166 (by decide) (fun hc_1129 => ?_) (fun hc_1129 => ?_)
                                · have he := ite_t he hc_1129
                                  refine lv_iload hx hb dX2_faultIn_181 (lv_at hl 6 rfl) ?_
                                  exact hret _ _ _ _ _ _ ⟨hV.trans he.symm, rfl⟩ hP hS dX2_faultIn_183
                                · have he := ite_f he (fun q => q hc_1129)
                                  refine lv_iload_n hx hb dX2_faultIn_169 rfl (lv_at hl 3 rfl) ?_
                                  refine lv_if_le (tgt := 181) hx hb dX2_faultIn_170 (by decide) (fun hc_1130 => ?_) (fun hc_1130 => ?_)
                                  · have he := ite_t he hc_1130
                                    refine lv_iload hx hb dX2_faultIn_181 (lv_at hl 6 rfl) ?_
                                    exact hret _ _ _ _ _ _ ⟨hV.trans he.symm, rfl⟩ hP hS dX2_faultIn_183
                                  · have he := ite_f he hc_1130
                                    obtain ⟨y_1131, ey_1131⟩ : ∃ y_1131 : Int32, y_1131 = v_594 + (-1) := ⟨_, rfl⟩
                                    have he := bnd_at he ey_1131
                                    refine lv_iinc (v := y_1131) (lv' := [(2, .int y_1131), (6, .int y_608), (0, .ref (ad a1)), (1, .int a2), (3, .int v_595), (4, .int v_596), (5, .int v_597)]) hx hb dX2_faultIn_173 hl (k := 3) rfl (by rw [ey_1131]; rfl) (by decide) rfl (fun ls hl => ?_)
                                    refine lv_iconst (v := 0) hx hb dX2_faultIn_176 (by decide) ?_
                                    refine lv_istore_n (lv' := [(3, .int 0), (2, .int y_1131), (6, .int y_608), (0, .ref (ad a1)), (1, .int a2), (4, .int v_596), (5, .int v_597)]) hx hb dX2_faultIn_177 rfl hl (by decide) rfl (fun ls hl => ?_)
                                    refine lv_goto (tgt := 184) hx hb dX2_faultIn_178 (by decide) ?_
                                    obtain ⟨y_1132, ey_1132⟩ : ∃ y_1132 : Int32, y_1132 = v_597 + 1 := ⟨_, rfl⟩
                                    have he := bnd_at he ey_1132
                                    refine lv_iinc (v := y_1132) (lv' := [(5, .int y_1132), (3, .int 0), (2, .int y_1131), (6, .int y_608), (0, .ref (ad a1)), (1, .int a2), (4, .int v_596)]) hx hb dX2_faultIn_184 hl (k := 6) rfl (by rw [ey_1132]; rfl) (by decide) rfl (fun ls hl => ?_)
                                    refine lv_goto (tgt := 10) hx hb dX2_faultIn_187 (by decide) ?_
                                    exact ih _ _ _ _ _ _ _ zv_596 (by rw [ey_1132, inc_I (N := 100) (nle_I hc_603) (by decide)]; omega) (by rw [ey_1132]; exact mu_I hμ (nle_I hc_603) (by decide)) he hP hS (lv_sub hl [4, 5, 2, 1, 6, 0] rfl)
                            · have he := ite_f he (fun q => q hc_1127)
                              refine lv_iload hx hb dX2_faultIn_135 (lv_at hl 0 rfl) ?_
                              refine callS_i [.int y_608] [] hx hb hml hG hown hK (c_X2_isSumSign had (M := M)  y_608) gw_8_17 gm_X2_isSumSign gd_X2_isSumSign rfl rfl ⟨Nat.le_of_ble_eq_true rfl, Nat.le_of_ble_eq_true rfl⟩ ⟨Nat.le_refl _, Nat.le_refl _⟩ hP (fun _ h => h) hS rfl hl.1 rfl (Nat.le_of_ble_eq_true rfl) dX2_faultIn_137 (fun r_1133 u_1135 H locs hF_1134 hP hS => ?_)
                              obtain ⟨hz_1136, hF_1134, hu⟩ := hF_1134; rw [hu] at hP; subst hF_1134
                              refine lv_if_ne (tgt := 151) hx hb dX2_faultIn_140 (by decide) (fun hc_1137 => ?_) (fun hc_1137 => ?_)
                              · have he := ite_t he hc_1137
                                refine lv_iconst (v := 1) hx hb dX2_faultIn_151 (by decide) ?_
                                refine lv_istore (lv' := [(4, .int 1), (6, .int y_608), (0, .ref (ad a1)), (1, .int a2), (2, .int v_594), (3, .int v_595), (5, .int v_597)]) hx hb dX2_faultIn_152 hl (by decide) rfl (fun ls hl => ?_)
                                refine lv_goto (tgt := 184) hx hb dX2_faultIn_154 (by decide) ?_
                                obtain ⟨y_1138, ey_1138⟩ : ∃ y_1138 : Int32, y_1138 = v_597 + 1 := ⟨_, rfl⟩
                                have he := bnd_at he ey_1138
                                refine lv_iinc (v := y_1138) (lv' := [(5, .int y_1138), (4, .int 1), (6, .int y_608), (0, .ref (ad a1)), (1, .int a2), (2, .int v_594), (3, .int v_595)]) hx hb dX2_faultIn_184 hl (k := 6) rfl (by rw [ey_1138]; rfl) (by decide) rfl (fun ls hl => ?_)
                                refine lv_goto (tgt := 10) hx hb dX2_faultIn_187 (by decide) ?_
                                exact ih _ _ _ _ _ _ _ (Or.inr rfl) (by rw [ey_1138, inc_I (N := 100) (nle_I hc_603) (by decide)]; omega) (by rw [ey_1138]; exact mu_I hμ (nle_I hc_603) (by decide)) he hP hS (lv_sub hl [3, 4, 5, 6, 1, 0] rfl)
                              · have he := ite_f he (fun q => q hc_1137)
                                refine lv_iload hx hb dX2_faultIn_143 (lv_at hl 0 rfl) ?_
                                refine callS_i [.int y_608] [] hx hb hml hG hown hK (c_X2_isProductSign had (M := M)  y_608) gw_8_20 gm_X2_isProductSign gd_X2_isProductSign rfl rfl ⟨Nat.le_of_ble_eq_true rfl, Nat.le_of_ble_eq_true rfl⟩ ⟨Nat.le_refl _, Nat.le_refl _⟩ hP (fun _ h => h) hS rfl hl.1 rfl (Nat.le_of_ble_eq_true rfl) dX2_faultIn_145 (fun r_1139 u_1141 H locs hF_1140 hP hS => ?_)
                                obtain ⟨hz_1142, hF_1140, hu⟩ := hF_1140; rw [hu] at hP; subst hF_1140
                                refine lv_if_eq (tgt := 157) hx hb dX2_faultIn_148 (by decide) (fun hc_1143 => ?_) (fun hc_1143 => ?_)
                                · have he := ite_t he hc_1143
                                  refine lv_iload hx hb dX2_faultIn_157 (lv_at hl 5 rfl) ?_
                                  refine lv_if_ne (tgt := 181) hx hb dX2_faultIn_159 (by decide) (fun hc_1144 => ?_) (fun hc_1144 => ?_)
                                  · have he := ite_t he hc_1144
                                    refine lv_iload hx hb dX2_faultIn_181 (lv_at hl 6 rfl) ?_
                                    exact hret _ _ _ _ _ _ ⟨hV.trans he.symm, rfl⟩ hP hS dX2_faultIn_183
                                  · have he := ite_f he (fun q => q hc_1144)
                                    refine lv_iload hx hb dX2_faultIn_162 (lv_at hl 0 rfl) ?_
                                    refine lv_bipush (v := 41) hx hb dX2_faultIn_164 (by decide) ?_
                                    refine lv_icmp_ne (tgt := 181) hx hb dX2_faultIn_166 (by decide) (fun hc_1145 => ?_) (fun hc_1145 => ?_)
                                    · have he := ite_t he hc_1145
                                      refine lv_iload hx hb dX2_faultIn_181 (lv_at hl 6 rfl) ?_
                                      exact hret _ _ _ _ _ _ ⟨hV.trans he.symm, rfl⟩ hP hS dX2_faultIn_183
                                    · have he := ite_f he (fun q => q hc_1145)
                                      refine lv_iload_n hx hb dX2_faultIn_169 rfl (lv_at hl 3 rfl) ?_
                                      refine lv_if_le (tgt := 181) hx hb dX2_faultIn_170 (by decide) (fun hc_1146 => ?_) (fun hc_1146 => ?_)
                                      · have he := ite_t he hc_1146
                                        refine lv_iload hx hb dX2_faultIn_181 (lv_at hl 6 rfl) ?_
                                        exact hret _ _ _ _ _ _ ⟨hV.trans he.symm, rfl⟩ hP hS dX2_faultIn_183
                                      · have he := ite_f he hc_1146
                                        obtain ⟨y_1147, ey_1147⟩ : ∃ y_1147 : Int32, y_1147 = v_594 + (-1) := ⟨_, rfl⟩
                                        have he := bnd_at he ey_1147
                                        refine lv_iinc (v := y_1147) (lv' := [(2, .int y_1147), (6, .int y_608), (0, .ref (ad a1)), (1, .int a2), (3, .int v_595), (4, .int v_596), (5, .int v_597)]) hx hb dX2_faultIn_173 hl (k := 3) rfl (by rw [ey_1147]; rfl) (by decide) rfl (fun ls hl => ?_)
                                        refine lv_iconst (v := 0) hx hb dX2_faultIn_176 (by decide) ?_
                                        refine lv_istore_n (lv' := [(3, .int 0), (2, .int y_1147), (6, .int y_608), (0, .ref (ad a1)), (1, .int a2), (4, .int v_596), (5, .int v_597)]) hx hb dX2_faultIn_177 rfl hl (by decide) rfl (fun ls hl => ?_)
                                        refine lv_goto (tgt := 184) hx hb dX2_faultIn_178 (by decide) ?_
                                        obtain ⟨y_1148, ey_1148⟩ : ∃ y_1148 : Int32, y_1148 = v_597 + 1 := ⟨_, rfl⟩
                                        have he := bnd_at he ey_1148
                                        refine lv_iinc (v := y_1148) (lv' := [(5, .int y_1148), (3, .int 0), (2, .int y_1147), (6, .int y_608), (0, .ref (ad a1)), (1, .int a2), (4, .int v_596)]) hx hb dX2_faultIn_184 hl (k := 6) rfl (by rw [ey_1148]; rfl) (by decide) rfl (fun ls hl => ?_)
                                        refine lv_goto (tgt := 10) hx hb dX2_faultIn_187 (by decide) ?_
                                        exact ih _ _ _ _ _ _ _ zv_596 (by rw [ey_1148, inc_I (N := 100) (nle_I hc_603) (by decide)]; omega) (by rw [ey_1148]; exact mu_I hμ (nle_I hc_603) (by decide)) he hP hS (lv_sub hl [4, 5, 2, 1, 6, 0] rfl)
                                · have he := ite_f he hc_1143
                                  refine lv_iconst (v := 1) hx hb dX2_faultIn_151 (by decide) ?_
                                  refine lv_istore (lv' := [(4, .int 1), (6, .int y_608), (0, .ref (ad a1)), (1, .int a2), (2, .int v_594), (3, .int v_595), (5, .int v_597)]) hx hb dX2_faultIn_152 hl (by decide) rfl (fun ls hl => ?_)
                                  refine lv_goto (tgt := 184) hx hb dX2_faultIn_154 (by decide) ?_
                                  obtain ⟨y_1149, ey_1149⟩ : ∃ y_1149 : Int32, y_1149 = v_597 + 1 := ⟨_, rfl⟩
                                  have he := bnd_at he ey_1149
                                  refine lv_iinc (v := y_1149) (lv' := [(5, .int y_1149), (4, .int 1), (6, .int y_608), (0, .ref (ad a1)), (1, .int a2), (2, .int v_594), (3, .int v_595)]) hx hb dX2_faultIn_184 hl (k := 6) rfl (by rw [ey_1149]; rfl) (by decide) rfl (fun ls hl => ?_)
                                  refine lv_goto (tgt := 10) hx hb dX2_faultIn_187 (by decide) ?_
                                  exact ih _ _ _ _ _ _ _ (Or.inr rfl) (by rw [ey_1149, inc_I (N := 100) (nle_I hc_603) (by decide)]; omega) (by rw [ey_1149]; exact mu_I hμ (nle_I hc_603) (by decide)) he hP hS (lv_sub hl [3, 4, 5, 6, 1, 0] rfl)
                          · have he := ite_f he hc_1126
                            refine lv_iload_n hx hb dX2_faultIn_120 rfl (lv_at hl 4 rfl) ?_
                            refine lv_if_le (tgt := 130) hx hb dX2_faultIn_121 (by decide) (fun hc_1150 => ?_) (fun hc_1150 => ?_)
                            · have he := ite_t he hc_1150
                              refine lv_iload hx hb dX2_faultIn_130 (lv_at hl 5 rfl) ?_
                              refine lv_if_ne (tgt := 157) hx hb dX2_faultIn_132 (by decide) (fun hc_1151 => ?_) (fun hc_1151 => ?_)
                              · have he := ite_t he hc_1151
                                refine lv_iload hx hb dX2_faultIn_157 (lv_at hl 5 rfl) ?_
                                refine lv_if_ne (tgt := 181) hx hb dX2_faultIn_159 (by decide) (fun hc_1152 => ?_) (fun hc_1152 => ?_)
                                · have he := ite_t he hc_1152
                                  refine lv_iload hx hb dX2_faultIn_181 (lv_at hl 6 rfl) ?_
                                  exact hret _ _ _ _ _ _ ⟨hV.trans he.symm, rfl⟩ hP hS dX2_faultIn_183
                                · have he := ite_f he (fun q => q hc_1152)
                                  refine lv_iload hx hb dX2_faultIn_162 (lv_at hl 0 rfl) ?_
                                  refine lv_bipush (v := 41) hx hb dX2_faultIn_164 (by decide) ?_
                                  refine lv_icmp_ne (tgt := 181) hx hb dX2_faultIn_166 (by decide) (fun hc_1153 => ?_) (fun hc_1153 => ?_)
                                  · have he := ite_t he hc_1153
                                    refine lv_iload hx hb dX2_faultIn_181 (lv_at hl 6 rfl) ?_
                                    exact hret _ _ _ _ _ _ ⟨hV.trans he.symm, rfl⟩ hP hS dX2_faultIn_183
                                  · have he := ite_f he (fun q => q hc_1153)
                                    refine lv_iload_n hx hb dX2_faultIn_169 rfl (lv_at hl 3 rfl) ?_
                                    refine lv_if_le (tgt := 181) hx hb dX2_faultIn_170 (by decide) (fun hc_1154 => ?_) (fun hc_1154 => ?_)
                                    · have he := ite_t he hc_1154
                                      refine lv_iload hx hb dX2_faultIn_181 (lv_at hl 6 rfl) ?_
                                      exact hret _ _ _ _ _ _ ⟨hV.trans he.symm, rfl⟩ hP hS dX2_faultIn_183
                                    · have he := ite_f he hc_1154
                                      obtain ⟨y_1155, ey_1155⟩ : ∃ y_1155 : Int32, y_1155 = v_594 + (-1) := ⟨_, rfl⟩
                                      have he := bnd_at he ey_1155
                                      refine lv_iinc (v := y_1155) (lv' := [(2, .int y_1155), (6, .int y_608), (0, .ref (ad a1)), (1, .int a2), (3, .int v_595), (4, .int v_596), (5, .int v_597)]) hx hb dX2_faultIn_173 hl (k := 3) rfl (by rw [ey_1155]; rfl) (by decide) rfl (fun ls hl => ?_)
                                      refine lv_iconst (v := 0) hx hb dX2_faultIn_176 (by decide) ?_
                                      refine lv_istore_n (lv' := [(3, .int 0), (2, .int y_1155), (6, .int y_608), (0, .ref (ad a1)), (1, .int a2), (4, .int v_596), (5, .int v_597)]) hx hb dX2_faultIn_177 rfl hl (by decide) rfl (fun ls hl => ?_)
                                      refine lv_goto (tgt := 184) hx hb dX2_faultIn_178 (by decide) ?_
                                      obtain ⟨y_1156, ey_1156⟩ : ∃ y_1156 : Int32, y_1156 = v_597 + 1 := ⟨_, rfl⟩
                                      have he := bnd_at he ey_1156
                                      refine lv_iinc (v := y_1156) (lv' := [(5, .int y_1156), (3, .int 0), (2, .int y_1155), (6, .int y_608), (0, .ref (ad a1)), (1, .int a2), (4, .int v_596)]) hx hb dX2_faultIn_184 hl (k := 6) rfl (by rw [ey_1156]; rfl) (by decide) rfl (fun ls hl => ?_)
                                      refine lv_goto (tgt := 10) hx hb dX2_faultIn_187 (by decide) ?_
                                      exact ih _ _ _ _ _ _ _ zv_596 (by rw [ey_1156, inc_I (N := 100) (nle_I hc_603) (by decide)]; omega) (by rw [ey_1156]; exact mu_I hμ (nle_I hc_603) (by decide)) he hP hS (lv_sub hl [4, 5, 2, 1, 6, 0] rfl)
                              · have he := ite_f he (fun q => q hc_1151)
                                refine lv_iload hx hb dX2_faultIn_135 (lv_at hl 0 rfl) ?_
                                refine callS_i [.int y_608] [] hx hb hml hG hown hK (c_X2_isSumSign had (M := M)  y_608) gw_8_17 gm_X2_isSumSign gd_X2_isSumSign rfl rfl ⟨Nat.le_of_ble_eq_true rfl, Nat.le_of_ble_eq_true rfl⟩ ⟨Nat.le_refl _, Nat.le_refl _⟩ hP (fun _ h => h) hS rfl hl.1 rfl (Nat.le_of_ble_eq_true rfl) dX2_faultIn_137 (fun r_1157 u_1159 H locs hF_1158 hP hS => ?_)
                                obtain ⟨hz_1160, hF_1158, hu⟩ := hF_1158; rw [hu] at hP; subst hF_1158
                                refine lv_if_ne (tgt := 151) hx hb dX2_faultIn_140 (by decide) (fun hc_1161 => ?_) (fun hc_1161 => ?_)
                                · have he := ite_t he hc_1161
                                  refine lv_iconst (v := 1) hx hb dX2_faultIn_151 (by decide) ?_
                                  refine lv_istore (lv' := [(4, .int 1), (6, .int y_608), (0, .ref (ad a1)), (1, .int a2), (2, .int v_594), (3, .int v_595), (5, .int v_597)]) hx hb dX2_faultIn_152 hl (by decide) rfl (fun ls hl => ?_)
                                  refine lv_goto (tgt := 184) hx hb dX2_faultIn_154 (by decide) ?_
                                  obtain ⟨y_1162, ey_1162⟩ : ∃ y_1162 : Int32, y_1162 = v_597 + 1 := ⟨_, rfl⟩
                                  have he := bnd_at he ey_1162
                                  refine lv_iinc (v := y_1162) (lv' := [(5, .int y_1162), (4, .int 1), (6, .int y_608), (0, .ref (ad a1)), (1, .int a2), (2, .int v_594), (3, .int v_595)]) hx hb dX2_faultIn_184 hl (k := 6) rfl (by rw [ey_1162]; rfl) (by decide) rfl (fun ls hl => ?_)
                                  refine lv_goto (tgt := 10) hx hb dX2_faultIn_187 (by decide) ?_
                                  exact ih _ _ _ _ _ _ _ (Or.inr rfl) (by rw [ey_1162, inc_I (N := 100) (nle_I hc_603) (by decide)]; omega) (by rw [ey_1162]; exact mu_I hμ (nle_I hc_603) (by decide)) he hP hS (lv_sub hl [3, 4, 5, 6, 1, 0] rfl)
                                · have he := ite_f he (fun q => q hc_1161)
                                  refine lv_iload hx hb dX2_faultIn_143 (lv_at hl 0 rfl) ?_
                                  refine callS_i [.int y_608] [] hx hb hml hG hown hK (c_X2_isProductSign had (M := M)  y_608) gw_8_20 gm_X2_isProductSign gd_X2_isProductSign rfl rfl ⟨Nat.le_of_ble_eq_true rfl, Nat.le_of_ble_eq_true rfl⟩ ⟨Nat.le_refl _, Nat.le_refl _⟩ hP (fun _ h => h) hS rfl hl.1 rfl (Nat.le_of_ble_eq_true rfl) dX2_faultIn_145 (fun r_1163 u_1165 H locs hF_1164 hP hS => ?_)
                                  obtain ⟨hz_1166, hF_1164, hu⟩ := hF_1164; rw [hu] at hP; subst hF_1164
                                  refine lv_if_eq (tgt := 157) hx hb dX2_faultIn_148 (by decide) (fun hc_1167 => ?_) (fun hc_1167 => ?_)
                                  · have he := ite_t he hc_1167
                                    refine lv_iload hx hb dX2_faultIn_157 (lv_at hl 5 rfl) ?_
                                    refine lv_if_ne (tgt := 181) hx hb dX2_faultIn_159 (by decide) (fun hc_1168 => ?_) (fun hc_1168 => ?_)
                                    · have he := ite_t he hc_1168
                                      refine lv_iload hx hb dX2_faultIn_181 (lv_at hl 6 rfl) ?_
                                      exact hret _ _ _ _ _ _ ⟨hV.trans he.symm, rfl⟩ hP hS dX2_faultIn_183
                                    · have he := ite_f he (fun q => q hc_1168)
                                      refine lv_iload hx hb dX2_faultIn_162 (lv_at hl 0 rfl) ?_
                                      refine lv_bipush (v := 41) hx hb dX2_faultIn_164 (by decide) ?_
                                      refine lv_icmp_ne (tgt := 181) hx hb dX2_faultIn_166 (by decide) (fun hc_1169 => ?_) (fun hc_1169 => ?_)
                                      · have he := ite_t he hc_1169
                                        refine lv_iload hx hb dX2_faultIn_181 (lv_at hl 6 rfl) ?_
                                        exact hret _ _ _ _ _ _ ⟨hV.trans he.symm, rfl⟩ hP hS dX2_faultIn_183
                                      · have he := ite_f he (fun q => q hc_1169)
                                        refine lv_iload_n hx hb dX2_faultIn_169 rfl (lv_at hl 3 rfl) ?_
                                        refine lv_if_le (tgt := 181) hx hb dX2_faultIn_170 (by decide) (fun hc_1170 => ?_) (fun hc_1170 => ?_)
                                        · have he := ite_t he hc_1170
                                          refine lv_iload hx hb dX2_faultIn_181 (lv_at hl 6 rfl) ?_
                                          exact hret _ _ _ _ _ _ ⟨hV.trans he.symm, rfl⟩ hP hS dX2_faultIn_183
                                        · have he := ite_f he hc_1170
                                          obtain ⟨y_1171, ey_1171⟩ : ∃ y_1171 : Int32, y_1171 = v_594 + (-1) := ⟨_, rfl⟩
                                          have he := bnd_at he ey_1171
                                          refine lv_iinc (v := y_1171) (lv' := [(2, .int y_1171), (6, .int y_608), (0, .ref (ad a1)), (1, .int a2), (3, .int v_595), (4, .int v_596), (5, .int v_597)]) hx hb dX2_faultIn_173 hl (k := 3) rfl (by rw [ey_1171]; rfl) (by decide) rfl (fun ls hl => ?_)
                                          refine lv_iconst (v := 0) hx hb dX2_faultIn_176 (by decide) ?_
                                          refine lv_istore_n (lv' := [(3, .int 0), (2, .int y_1171), (6, .int y_608), (0, .ref (ad a1)), (1, .int a2), (4, .int v_596), (5, .int v_597)]) hx hb dX2_faultIn_177 rfl hl (by decide) rfl (fun ls hl => ?_)
                                          refine lv_goto (tgt := 184) hx hb dX2_faultIn_178 (by decide) ?_
                                          obtain ⟨y_1172, ey_1172⟩ : ∃ y_1172 : Int32, y_1172 = v_597 + 1 := ⟨_, rfl⟩
                                          have he := bnd_at he ey_1172
                                          refine lv_iinc (v := y_1172) (lv' := [(5, .int y_1172), (3, .int 0), (2, .int y_1171), (6, .int y_608), (0, .ref (ad a1)), (1, .int a2), (4, .int v_596)]) hx hb dX2_faultIn_184 hl (k := 6) rfl (by rw [ey_1172]; rfl) (by decide) rfl (fun ls hl => ?_)
                                          refine lv_goto (tgt := 10) hx hb dX2_faultIn_187 (by decide) ?_
                                          exact ih _ _ _ _ _ _ _ zv_596 (by rw [ey_1172, inc_I (N := 100) (nle_I hc_603) (by decide)]; omega) (by rw [ey_1172]; exact mu_I hμ (nle_I hc_603) (by decide)) he hP hS (lv_sub hl [4, 5, 2, 1, 6, 0] rfl)
                                  · have he := ite_f he hc_1167
                                    refine lv_iconst (v := 1) hx hb dX2_faultIn_151 (by decide) ?_
                                    refine lv_istore (lv' := [(4, .int 1), (6, .int y_608), (0, .ref (ad a1)), (1, .int a2), (2, .int v_594), (3, .int v_595), (5, .int v_597)]) hx hb dX2_faultIn_152 hl (by decide) rfl (fun ls hl => ?_)
                                    refine lv_goto (tgt := 184) hx hb dX2_faultIn_154 (by decide) ?_
                                    obtain ⟨y_1173, ey_1173⟩ : ∃ y_1173 : Int32, y_1173 = v_597 + 1 := ⟨_, rfl⟩
                                    have he := bnd_at he ey_1173
                                    refine lv_iinc (v := y_1173) (lv' := [(5, .int y_1173), (4, .int 1), (6, .int y_608), (0, .ref (ad a1)), (1, .int a2), (2, .int v_594), (3, .int v_595)]) hx hb dX2_faultIn_184 hl (k := 6) rfl (by rw [ey_1173]; rfl) (by decide) rfl (fun ls hl => ?_)
                                    refine lv_goto (tgt := 10) hx hb dX2_faultIn_187 (by decide) ?_
                                    exact ih _ _ _ _ _ _ _ (Or.inr rfl) (by rw [ey_1173, inc_I (N := 100) (nle_I hc_603) (by decide)]; omega) (by rw [ey_1173]; exact mu_I hμ (nle_I hc_603) (by decide)) he hP hS (lv_sub hl [3, 4, 5, 6, 1, 0] rfl)
                            · have he := ite_f he hc_1150
                              obtain ⟨y_1174, ey_1174⟩ : ∃ y_1174 : Int32, y_1174 = v_595 + (-1) := ⟨_, rfl⟩
                              have he := bnd_at he ey_1174
                              refine lv_iinc (v := y_1174) (lv' := [(3, .int y_1174), (6, .int y_608), (0, .ref (ad a1)), (1, .int a2), (2, .int v_594), (4, .int v_596), (5, .int v_597)]) hx hb dX2_faultIn_124 hl (k := 4) rfl (by rw [ey_1174]; rfl) (by decide) rfl (fun ls hl => ?_)
                              refine lv_goto (tgt := 184) hx hb dX2_faultIn_127 (by decide) ?_
                              obtain ⟨y_1175, ey_1175⟩ : ∃ y_1175 : Int32, y_1175 = v_597 + 1 := ⟨_, rfl⟩
                              have he := bnd_at he ey_1175
                              refine lv_iinc (v := y_1175) (lv' := [(5, .int y_1175), (3, .int y_1174), (6, .int y_608), (0, .ref (ad a1)), (1, .int a2), (2, .int v_594), (4, .int v_596)]) hx hb dX2_faultIn_184 hl (k := 6) rfl (by rw [ey_1175]; rfl) (by decide) rfl (fun ls hl => ?_)
                              refine lv_goto (tgt := 10) hx hb dX2_faultIn_187 (by decide) ?_
                              exact ih _ _ _ _ _ _ _ zv_596 (by rw [ey_1175, inc_I (N := 100) (nle_I hc_603) (by decide)]; omega) (by rw [ey_1175]; exact mu_I hμ (nle_I hc_603) (by decide)) he hP hS (lv_sub hl [3, 4, 5, 1, 6, 0] rfl)
                      · have he := ite_f he (fun q => q hc_1097)
                        refine lv_iconst (v := 0) hx hb dX2_faultIn_80 (by decide) ?_
                        refine lv_istore (lv' := [(4, .int 0), (6, .int y_608), (0, .ref (ad a1)), (1, .int a2), (2, .int v_594), (3, .int v_595), (5, .int v_597)]) hx hb dX2_faultIn_81 hl (by decide) rfl (fun ls hl => ?_)
                        refine lv_iload hx hb dX2_faultIn_83 (lv_at hl 1 rfl) ?_
                        refine callS_i [.int y_608] [] hx hb hml hG hown hK (c_X2_isDigit had (M := M)  y_608) gw_8_14 gm_X2_isDigit gd_X2_isDigit rfl rfl ⟨Nat.le_of_ble_eq_true rfl, Nat.le_of_ble_eq_true rfl⟩ ⟨Nat.le_refl _, Nat.le_refl _⟩ hP (fun _ h => h) hS rfl hl.1 rfl (Nat.le_of_ble_eq_true rfl) dX2_faultIn_85 (fun r_1176 u_1178 H locs hF_1177 hP hS => ?_)
                        obtain ⟨hz_1179, hF_1177, hu⟩ := hF_1177; rw [hu] at hP; subst hF_1177
                        obtain ⟨t_1183, hr_1181, he⟩ := bnd_ex he
                        have j103 : ∀ (H : Heap) (locs : List Loc) (ls : Array Slot), va_P D vwCl (wld 74 ad (cC ad k M)) H → va_S (AW 74 ad) s.heap H locs → lv_has ls 7 [(0, .ref (ad a1)), (1, .int a2), (2, .int v_594), (4, .int 0), (5, .int v_597)] → W p l e rm_X2_faultIn s m args below meth c H locs 0 0 Q (F0 m 103 ls [.int t_1183]) := by
                          intro H locs ls hP hS hl
                          refine lv_istore_n (lv' := [(3, .int t_1183), (0, .ref (ad a1)), (1, .int a2), (2, .int v_594), (4, .int 0), (5, .int v_597)]) hx hb dX2_faultIn_103 rfl hl (by decide) rfl (fun ls hl => ?_)
                          refine lv_goto (tgt := 184) hx hb dX2_faultIn_104 (by decide) ?_
                          obtain ⟨y_1184, ey_1184⟩ : ∃ y_1184 : Int32, y_1184 = v_597 + 1 := ⟨_, rfl⟩
                          have he := bnd_at he ey_1184
                          refine lv_iinc (v := y_1184) (lv' := [(5, .int y_1184), (3, .int t_1183), (0, .ref (ad a1)), (1, .int a2), (2, .int v_594), (4, .int 0)]) hx hb dX2_faultIn_184 hl (k := 5) rfl (by rw [ey_1184]; rfl) (by decide) rfl (fun ls hl => ?_)
                          refine lv_goto (tgt := 10) hx hb dX2_faultIn_187 (by decide) ?_
                          exact ih _ _ _ _ _ _ _ (Or.inl rfl) (by rw [ey_1184, inc_I (N := 100) (nle_I hc_603) (by decide)]; omega) (by rw [ey_1184]; exact mu_I hμ (nle_I hc_603) (by decide)) he hP hS (lv_sub hl [2, 3, 4, 1, 5, 0] rfl)
                        refine lv_if_eq (tgt := 102) hx hb dX2_faultIn_88 (by decide) (fun hc_1180 => ?_) (fun hc_1180 => ?_)
                        · have hr_1181 := ite_t hr_1181 hc_1180
                          refine lv_iconst (v := 0) hx hb dX2_faultIn_102 (by decide) ?_
                          cases hr_1181
                          exact j103 _ _ _ hP hS (lv_sub hl [2, 3, 4, 0, 6] rfl)
                        · have hr_1181 := ite_f hr_1181 hc_1180
                          refine lv_iload hx hb dX2_faultIn_91 (lv_at hl 1 rfl) ?_
                          refine lv_bipush (v := 48) hx hb dX2_faultIn_93 (by decide) ?_
                          refine lv_icmp_eq (tgt := 102) hx hb dX2_faultIn_95 (by decide) (fun hc_1182 => ?_) (fun hc_1182 => ?_)
                          · have hr_1181 := ite_t hr_1181 hc_1182
                            refine lv_iconst (v := 0) hx hb dX2_faultIn_102 (by decide) ?_
                            cases hr_1181
                            exact j103 _ _ _ hP hS (lv_sub hl [2, 3, 4, 0, 6] rfl)
                          · have hr_1181 := ite_f hr_1181 hc_1182
                            refine lv_iconst (v := 2) hx hb dX2_faultIn_98 (by decide) ?_
                            refine lv_goto (tgt := 103) hx hb dX2_faultIn_99 (by decide) ?_
                            cases hr_1181
                            exact j103 _ _ _ hP hS (lv_sub hl [2, 3, 4, 0, 6] rfl)
              · have he := ite_f he hc_993
                obtain ⟨y_1185, ey_1185⟩ : ∃ y_1185 : Int32, y_1185 = v_594 + 1 := ⟨_, rfl⟩
                have he := bnd_at he ey_1185
                refine lv_iinc (v := y_1185) (lv' := [(2, .int y_1185), (6, .int y_608), (0, .ref (ad a1)), (1, .int a2), (3, .int v_595), (4, .int v_596), (5, .int v_597)]) hx hb dX2_faultIn_47 hl (k := 3) rfl (by rw [ey_1185]; rfl) (by decide) rfl (fun ls hl => ?_)
                refine lv_goto (tgt := 184) hx hb dX2_faultIn_50 (by decide) ?_
                obtain ⟨y_1186, ey_1186⟩ : ∃ y_1186 : Int32, y_1186 = v_597 + 1 := ⟨_, rfl⟩
                have he := bnd_at he ey_1186
                refine lv_iinc (v := y_1186) (lv' := [(5, .int y_1186), (2, .int y_1185), (6, .int y_608), (0, .ref (ad a1)), (1, .int a2), (3, .int v_595), (4, .int v_596)]) hx hb dX2_faultIn_184 hl (k := 6) rfl (by rw [ey_1186]; rfl) (by decide) rfl (fun ls hl => ?_)
                refine lv_goto (tgt := 10) hx hb dX2_faultIn_187 (by decide) ?_
                exact ih _ _ _ _ _ _ _ zv_596 (by rw [ey_1186, inc_I (N := 100) (nle_I hc_603) (by decide)]; omega) (by rw [ey_1186]; exact mu_I hμ (nle_I hc_603) (by decide)) he hP hS (lv_sub hl [3, 4, 1, 5, 6, 0] rfl)
  exact lp10 _ _ _ _ _ _ _ _ (Or.inr rfl) (by decide) (by decide) he hP hS (lv_sub hl [4, 5, 3, 2, 1, 0] rfl)
