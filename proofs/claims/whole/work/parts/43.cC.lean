-- @needs 12_dec 13_dec 14_dec 15_dec 31_hC 40_cC 42_cC

set_option maxRecDepth 100000 in
set_option maxHeartbeats 0 in
theorem c_X2_sum {l : Launch} {D : va_G} {k : Nat → ClassId} {ad : Nat → Nat} (had : InjN 68 ad) {n : Nat} {fs : (Mem → Nat → Int32 → Int32 × Mem)} (hn : n ≤ 7) (hfs : FSok fs n) (hs : CS l D k ad fs n) (M : Mem) (o : Nat) (ho : kLaw o) (a1 : Int32) (hd : 7 ≤ a1.toInt + ((n : Nat) : Int) + 1) (h6 : a1.toInt ≤ 6) (hlb : 0 ≤ (M o 2).toInt ∧ (M o 2).toInt ≤ 600) : Met l yX2_sum (Cond.code yX2_sum cX2_sum 5 (some .int) :: wsL_law) (rm_X2_sum (n + 1)) (va_Pc [.ref (ad o), .int a1] (GW 68 ad D k (cC ad k M))) (va_Qi (fun r u => f_X2_sum fs M o a1 = (r, u)) (fun u t => GW 68 ad D k (cC ad k u) t) (AW 68 ad)) 0 0 (AW 68 ad) := by
  refine met_i (g := cC ad k) (M := M) (plainFor_of_name (by decide)) (Nat.le_of_ble_eq_true rfl) ?_
  intro p e s m args below meth c Q ls hx hb hml hG hown hK hret hP hS hl
  have hl : lv_has ls 5 [(0, .ref (ad o)), (1, .int a1)] := hl
  obtain ⟨V, hV⟩ : ∃ V, f_X2_sum fs M o a1 = V := ⟨_, rfl⟩
  have he := hV
  unfold f_X2_sum at he
  refine lv_aload_n hx hb dX2_sum_0 rfl (lv_at hl 0 rfl) ?_
  refine lv_iload_n hx hb dX2_sum_1 rfl (lv_at hl 1 rfl) ?_
  refine call_i [.int a1] [] hx hb hml hG hown hK (c_X2_product had hn hfs hs M o ho a1 hd h6 hlb) gw_12_2 gm_X2_product gd_X2_product rfl rfl ⟨by simp only [rm_X2_sum, rm_X2_product]; omega, by simp only [rm_X2_sum, rm_X2_product]; omega⟩ ⟨Nat.le_refl _, Nat.le_refl _⟩ (rX2 hK hP ho) hP (fun _ h => h) hS rfl hl.1 rfl (Nat.le_of_ble_eq_true rfl) dX2_sum_2 (fun r_1 M_3 H locs hF_2 hP hS => ?_)
  have he := bnd2_at he hF_2
  refine lv_istore_n (lv' := [(2, .int r_1), (0, .ref (ad o)), (1, .int a1)]) hx hb dX2_sum_5 rfl hl (by decide) rfl (fun ls hl => ?_)
  obtain ⟨w_29, M_30, hr_6, he⟩ := bnd2_ex he
  have j78 : ∀ (H : Heap) (locs : List Loc) (ls : Array Slot), va_P D vwCl (wld 68 ad (cC ad k M_30)) H → va_S (AW 68 ad) s.heap H locs → lv_has ls 5 [(2, .int w_29)] → W p l e (rm_X2_sum (n + 1)) s m args below meth c H locs 0 0 Q (F0 m 78 ls []) := by
    intro H locs ls hP hS hl
    refine lv_iload_n hx hb dX2_sum_78 rfl (lv_at hl 0 rfl) ?_
    exact hret _ _ _ _ _ _ (hV.trans he.symm) hP hS dX2_sum_79
  have lp6 : ∀ (nn : Nat) (H : Heap) (locs : List Loc) (ls : Array Slot) (M_5 : Mem) (v_4 : Int32), (100 - (M_5 o 2).toInt).toNat < nn → lp_X2_sum_6 nn fs o a1 M_5 v_4 = (w_29, M_30) → va_P D vwCl (wld 68 ad (cC ad k M_5)) H → va_S (AW 68 ad) s.heap H locs → lv_has ls 5 [(0, .ref (ad o)), (1, .int a1), (2, .int v_4)] → W p l e (rm_X2_sum (n + 1)) s m args below meth c H locs 0 0 Q (F0 m 6 ls []) := by
    intro nn
    induction nn with
    | zero =>
      intro H locs ls M_5 v_4 hμ
      exact absurd hμ (Nat.not_lt_zero _)
    | succ nn ih =>
      intro H locs ls M_5 v_4 hμ hr_6 hP hS hl
      rw [lp_X2_sum_6] at hr_6
      refine lv_aload_n hx hb dX2_sum_6 rfl (lv_at hl 0 rfl) ?_
      refine gX2_2 hx hb hG hown hK hP ho gw_11_19 dX2_sum_7 ?_
      refine lv_aload_n hx hb dX2_sum_10 rfl (lv_at hl 0 rfl) ?_
      refine gX2_1 hx hb hG hown hK hP ho gw_10_17 dX2_sum_11 ?_
      refine lv_icmp_ge (tgt := 78) hx hb dX2_sum_14 (by decide) (fun hc_7 => ?_) (fun hc_7 => ?_)
      · have hr_6 := ite_t hr_6 hc_7
        cases hr_6
        exact j78 _ _ _ hP hS (lv_sub hl [2] rfl)
      · have hr_6 := ite_f hr_6 hc_7
        refine lv_aload_n hx hb dX2_sum_17 rfl (lv_at hl 0 rfl) ?_
        refine call_i [] [] hx hb hml hG hown hK (c_X2_next had M_5 o ho) gw_12_5 gm_X2_next gd_X2_next rfl rfl ⟨by simp only [rm_X2_sum, rm_X2_next]; omega, by simp only [rm_X2_sum, rm_X2_next]; omega⟩ ⟨Nat.le_refl _, Nat.le_refl _⟩ (rX2 hK hP ho) hP (fun _ h => h) hS rfl hl.1 rfl (Nat.le_of_ble_eq_true rfl) dX2_sum_18 (fun r_8 u_10 H locs hF_9 hP hS => ?_)
        obtain ⟨hF_9, hu⟩ := hF_9; rw [hu] at hP; subst hF_9
        refine callS_i [.int (f_X2_next M_5 o)] [] hx hb hml hG hown hK (c_X2_isSumSign had (M := M_5)  (f_X2_next M_5 o)) gw_8_15 gm_X2_isSumSign gd_X2_isSumSign rfl rfl ⟨by simp only [rm_X2_sum, rm_X2_isSumSign]; omega, by simp only [rm_X2_sum, rm_X2_isSumSign]; omega⟩ ⟨Nat.le_refl _, Nat.le_refl _⟩ hP (fun _ h => h) hS rfl hl.1 rfl (Nat.le_of_ble_eq_true rfl) dX2_sum_21 (fun r_11 u_13 H locs hF_12 hP hS => ?_)
        obtain ⟨hz_14, hF_12, hu⟩ := hF_12; rw [hu] at hP; subst hF_12
        refine lv_if_eq (tgt := 78) hx hb dX2_sum_24 (by decide) (fun hc_15 => ?_) (fun hc_15 => ?_)
        · have hr_6 := ite_t hr_6 hc_15
          cases hr_6
          exact j78 _ _ _ hP hS (lv_sub hl [2] rfl)
        · have hr_6 := ite_f hr_6 hc_15
          refine lv_aload_n hx hb dX2_sum_27 rfl (lv_at hl 0 rfl) ?_
          refine call_i [] [] hx hb hml hG hown hK (c_X2_next had M_5 o ho) gw_12_5 gm_X2_next gd_X2_next rfl rfl ⟨by simp only [rm_X2_sum, rm_X2_next]; omega, by simp only [rm_X2_sum, rm_X2_next]; omega⟩ ⟨Nat.le_refl _, Nat.le_refl _⟩ (rX2 hK hP ho) hP (fun _ h => h) hS rfl hl.1 rfl (Nat.le_of_ble_eq_true rfl) dX2_sum_28 (fun r_16 u_18 H locs hF_17 hP hS => ?_)
          obtain ⟨hF_17, hu⟩ := hF_17; rw [hu] at hP; subst hF_17
          refine lv_bipush (v := 43) hx hb dX2_sum_31 (by decide) ?_
          obtain ⟨t_21, hr_20, hr_6⟩ := bnd_ex hr_6
          have j41 : ∀ (H : Heap) (locs : List Loc) (ls : Array Slot), (t_21 = 0 ∨ t_21 = 1) → va_P D vwCl (wld 68 ad (cC ad k M_5)) H → va_S (AW 68 ad) s.heap H locs → lv_has ls 5 [(0, .ref (ad o)), (1, .int a1), (2, .int v_4)] → W p l e (rm_X2_sum (n + 1)) s m args below meth c H locs 0 0 Q (F0 m 41 ls [.int t_21]) := by
            intro H locs ls zt_21 hP hS hl
            refine lv_istore_n (lv' := [(3, .int t_21), (0, .ref (ad o)), (1, .int a1), (2, .int v_4)]) hx hb dX2_sum_41 rfl hl (by decide) rfl (fun ls hl => ?_)
            refine lv_aload_n hx hb dX2_sum_42 rfl (lv_at hl 1 rfl) ?_
            refine lv_dup hx hb dX2_sum_43 rfl ?_
            refine gX2_2 hx hb hG hown hK hP ho gw_11_19 dX2_sum_44 ?_
            refine lv_iconst (v := 1) hx hb dX2_sum_47 (by decide) ?_
            refine lv_iadd hx hb dX2_sum_48 ?_
            refine pX2_2 hx hb hG hown hK hP had AW_in hS ho gw_11_19 dX2_sum_49 (fun H locs hP hS => ?_)
            obtain ⟨M_22, eM_22⟩ : ∃ y : Mem, y = up2 M_5 o 2 ((M_5 o 2) + 1) := ⟨_, rfl⟩
            rw [← eM_22] at hP
            have hr_6 := bnd_at hr_6 eM_22
            refine lv_aload_n hx hb dX2_sum_52 rfl (lv_at hl 1 rfl) ?_
            refine lv_iload_n hx hb dX2_sum_53 rfl (lv_at hl 2 rfl) ?_
            refine call_i [.int a1] [] hx hb hml hG hown hK (c_X2_product had hn hfs hs M_22 o ho a1 hd h6 (by rw [eM_22, up2_s]; have ql := isSumSign_lt hc_15; rw [inc_I ql.2 (by decide)]; omega)) gw_12_2 gm_X2_product gd_X2_product rfl rfl ⟨by simp only [rm_X2_sum, rm_X2_product]; omega, by simp only [rm_X2_sum, rm_X2_product]; omega⟩ ⟨Nat.le_refl _, Nat.le_refl _⟩ (rX2 hK hP ho) hP (fun _ h => h) hS rfl hl.1 rfl (Nat.le_of_ble_eq_true rfl) dX2_sum_54 (fun r_23 M_25 H locs hF_24 hP hS => ?_)
            have hr_6 := bnd2_at hr_6 hF_24
            refine lv_istore (lv' := [(4, .int r_23), (3, .int t_21), (0, .ref (ad o)), (1, .int a1), (2, .int v_4)]) hx hb dX2_sum_57 hl (by decide) rfl (fun ls hl => ?_)
            refine lv_iload_n hx hb dX2_sum_59 rfl (lv_at hl 1 rfl) ?_
            obtain ⟨t_28, hr_27, hr_6⟩ := bnd_ex hr_6
            have j74 : ∀ (H : Heap) (locs : List Loc) (ls : Array Slot), va_P D vwCl (wld 68 ad (cC ad k M_25)) H → va_S (AW 68 ad) s.heap H locs → lv_has ls 5 [(0, .ref (ad o)), (1, .int a1)] → W p l e (rm_X2_sum (n + 1)) s m args below meth c H locs 0 0 Q (F0 m 74 ls [.int t_28]) := by
              intro H locs ls hP hS hl
              refine lv_istore_n (lv' := [(2, .int t_28), (0, .ref (ad o)), (1, .int a1)]) hx hb dX2_sum_74 rfl hl (by decide) rfl (fun ls hl => ?_)
              refine lv_goto (tgt := 6) hx hb dX2_sum_75 (by decide) ?_
              exact ih _ _ _ _ _ (by have qs := product_step hfs hn hd h6 (isSumSign_lt hc_15) (eM_22 ▸ hF_24); have ql := isSumSign_lt hc_15; omega) hr_6 hP hS (lv_sub hl [1, 2, 0] rfl)
            refine lv_if_eq (tgt := 70) hx hb dX2_sum_60 (by decide) (fun hc_26 => ?_) (fun hc_26 => ?_)
            · have hr_27 := ite_t hr_27 hc_26
              refine lv_iload_n hx hb dX2_sum_70 rfl (lv_at hl 4 rfl) ?_
              refine lv_iload hx hb dX2_sum_71 (lv_at hl 0 rfl) ?_
              refine lv_isub hx hb dX2_sum_73 ?_
              cases hr_27
              exact j74 _ _ _ hP hS (lv_sub hl [2, 3] rfl)
            · have hr_27 := ite_f hr_27 hc_26
              refine lv_iload_n hx hb dX2_sum_63 rfl (lv_at hl 4 rfl) ?_
              refine lv_iload hx hb dX2_sum_64 (lv_at hl 0 rfl) ?_
              refine lv_iadd hx hb dX2_sum_66 ?_
              refine lv_goto (tgt := 74) hx hb dX2_sum_67 (by decide) ?_
              cases hr_27
              exact j74 _ _ _ hP hS (lv_sub hl [2, 3] rfl)
          refine lv_icmp_ne (tgt := 40) hx hb dX2_sum_33 (by decide) (fun hc_19 => ?_) (fun hc_19 => ?_)
          · have hr_20 := ite_t hr_20 hc_19
            refine lv_iconst (v := 0) hx hb dX2_sum_40 (by decide) ?_
            cases hr_20
            exact j41 _ _ _ (Or.inl rfl) hP hS (lv_sub hl [0, 1, 2] rfl)
          · have hr_20 := ite_f hr_20 (fun q => q hc_19)
            refine lv_iconst (v := 1) hx hb dX2_sum_36 (by decide) ?_
            refine lv_goto (tgt := 41) hx hb dX2_sum_37 (by decide) ?_
            cases hr_20
            exact j41 _ _ _ (Or.inr rfl) hP hS (lv_sub hl [0, 1, 2] rfl)
  exact lp6 _ _ _ _ _ _ (Nat.lt_succ_self _) hr_6 hP hS (lv_sub hl [1, 2, 0] rfl)
theorem c_sum_all {l : Launch} {D : va_G} {k : Nat → ClassId} {ad : Nat → Nat} : ∀ n : Nat, n ≤ 7 → CS l D k ad (fS n) n := by
  intro n
  induction n with
  | zero =>
    intro _ _ M o _ a1 h1 h2
    exact absurd h1 (by show ¬ (7 ≤ a1.toInt + ((0 : Nat) : Int)); omega)
  | succ n ih =>
    intro hn had M o ho a1 h1 h2 h3
    exact c_X2_sum had (by omega) (fS_ok n (by omega)) (ih (by omega)) M o ho a1 (by have := h1; push_cast at this; omega) h2 h3
theorem c_sum7 {l : Launch} {D : va_G} {k : Nat → ClassId} {ad : Nat → Nat} (had : InjN 68 ad) (M : Mem) (o : Nat) (ho : kLaw o) (a1 : Int32) (hd : 7 ≤ a1.toInt + ((7 : Nat) : Int)) (h6 : a1.toInt ≤ 6) (hlb : 0 ≤ (M o 2).toInt ∧ (M o 2).toInt ≤ 600) : Met l yX2_sum (Cond.code yX2_sum cX2_sum 5 (some .int) :: wsL_law) (rm_X2_sum 7) (va_Pc [.ref (ad o), .int a1] (GW 68 ad D k (cC ad k M))) (va_Qi (fun r u => fS 7 M o a1 = (r, u)) (fun u t => GW 68 ad D k (cC ad k u) t) (AW 68 ad)) 0 0 (AW 68 ad) := c_sum_all 7 (Nat.le_refl _) had M o ho a1 hd h6 hlb
def rm_X2_valueAt : Room := { frames := 24, cells := 0, slots := 0, locals := 824 }
theorem gm_X2_valueAt : Cond.instanceMethod yX2_valueAt ∈ wsL_law ∧ Cond.selects RX2 yX2_valueAt yX2_valueAt ∈ wsL_law ∧ Cond.initialized RX2 ∈ wsL_law ∧ Cond.code yX2_valueAt cX2_valueAt 3 (some .int) ∈ wsL_law := ⟨gw_11_16, gw_11_17, gw_2_14, gw_11_18⟩
theorem gd_X2_valueAt : yX2_valueAt.cls = RX2 ∧ yX2_valueAt.cls ≠ "java/lang/invoke/MethodHandle" ∧ yX2_valueAt.cls ≠ "java/lang/invoke/VarHandle" ∧ (parseMethodDescriptor yX2_valueAt.desc).map (fun d => d.parameters.length) = some 2 := by decide +kernel
set_option maxRecDepth 100000 in
set_option maxHeartbeats 0 in
theorem c_X2_valueAt {l : Launch} {D : va_G} {k : Nat → ClassId} {ad : Nat → Nat} (had : InjN 68 ad) (M : Mem) (o : Nat) (ho : kLaw o) (a1 : Int32) (a2 : Int32) : Met l yX2_valueAt (Cond.code yX2_valueAt cX2_valueAt 3 (some .int) :: wsL_law) rm_X2_valueAt (va_Pc [.ref (ad o), .int a1, .int a2] (GW 68 ad D k (cC ad k M))) (va_Qi (fun r u => f_X2_valueAt M o a1 a2 = (r, u)) (fun u t => GW 68 ad D k (cC ad k u) t) (AW 68 ad)) 0 0 (AW 68 ad) := by
  refine met_i (g := cC ad k) (M := M) (plainFor_of_name (by decide)) (Nat.le_of_ble_eq_true rfl) ?_
  intro p e s m args below meth c Q ls hx hb hml hG hown hK hret hP hS hl
  have hl : lv_has ls 3 [(0, .ref (ad o)), (1, .int a1), (2, .int a2)] := hl
  obtain ⟨V, hV⟩ : ∃ V, f_X2_valueAt M o a1 a2 = V := ⟨_, rfl⟩
  have he := hV
  unfold f_X2_valueAt at he
  refine lv_aload_n hx hb dX2_valueAt_0 rfl (lv_at hl 0 rfl) ?_
  refine gX2_1 hx hb hG hown hK hP ho gw_10_17 dX2_valueAt_1 ?_
  refine lv_if_ne (tgt := 9) hx hb dX2_valueAt_4 (by decide) (fun hc_1 => ?_) (fun hc_1 => ?_)
  · have he := ite_t he hc_1
    refine lv_aload_n hx hb dX2_valueAt_9 rfl (lv_at hl 0 rfl) ?_
    refine lv_iconst (v := 0) hx hb dX2_valueAt_10 (by decide) ?_
    refine pX2_2 hx hb hG hown hK hP had AW_in hS ho gw_11_19 dX2_valueAt_11 (fun H locs hP hS => ?_)
    obtain ⟨M_2, eM_2⟩ : ∃ y : Mem, y = up2 M o 2 0 := ⟨_, rfl⟩
    rw [← eM_2] at hP
    have he := bnd_at he eM_2
    refine lv_aload_n hx hb dX2_valueAt_14 rfl (lv_at hl 0 rfl) ?_
    refine lv_iload_n hx hb dX2_valueAt_15 rfl (lv_at hl 1 rfl) ?_
    refine pX2_3 hx hb hG hown hK hP had AW_in hS ho gw_11_20 dX2_valueAt_16 (fun H locs hP hS => ?_)
    obtain ⟨M_3, eM_3⟩ : ∃ y : Mem, y = up2 M_2 o 3 a1 := ⟨_, rfl⟩
    rw [← eM_3] at hP
    have he := bnd_at he eM_3
    refine lv_aload_n hx hb dX2_valueAt_19 rfl (lv_at hl 0 rfl) ?_
    refine lv_iload_n hx hb dX2_valueAt_20 rfl (lv_at hl 2 rfl) ?_
    refine pX2_4 hx hb hG hown hK hP had AW_in hS ho gw_11_21 dX2_valueAt_21 (fun H locs hP hS => ?_)
    obtain ⟨M_4, eM_4⟩ : ∃ y : Mem, y = up2 M_3 o 4 a2 := ⟨_, rfl⟩
    rw [← eM_4] at hP
    have he := bnd_at he eM_4
    refine lv_aload_n hx hb dX2_valueAt_24 rfl (lv_at hl 0 rfl) ?_
    refine lv_iconst (v := 0) hx hb dX2_valueAt_25 (by decide) ?_
    refine call_i [.int 0] [] hx hb hml hG hown hK (c_sum7 had M_4 o ho 0 (by decide) (by decide) (by simp [eM_4, eM_3, eM_2, up2])) gw_11_22 gm_X2_sum gd_X2_sum rfl rfl ⟨Nat.le_of_ble_eq_true rfl, Nat.le_of_ble_eq_true rfl⟩ ⟨Nat.le_refl _, Nat.le_refl _⟩ (rX2 hK hP ho) hP (fun _ h => h) hS rfl hl.1 rfl (Nat.le_of_ble_eq_true rfl) dX2_valueAt_26 (fun r_5 M_7 H locs hF_6 hP hS => ?_)
    have he := bnd2_at he hF_6
    exact hret _ _ _ _ _ _ (hV.trans he.symm) hP hS dX2_valueAt_29
  · have he := ite_f he (fun q => q hc_1)
    refine lv_iconst (v := 0) hx hb dX2_valueAt_7 (by decide) ?_
    exact hret _ _ _ _ _ _ (hV.trans he.symm) hP hS dX2_valueAt_8
def rm_X0_windAt : Room := { frames := 25, cells := 0, slots := 0, locals := 846 }
theorem gm_X0_windAt : Cond.instanceMethod yX0_windAt ∈ wsL_law ∧ Cond.selects RX0 yX0_windAt yX0_windAt ∈ wsL_law ∧ Cond.initialized RX0 ∈ wsL_law ∧ Cond.code yX0_windAt cX0_windAt 3 (some .int) ∈ wsL_law := ⟨gw_11_10, gw_11_11, gw_1_15, gw_11_12⟩
theorem gd_X0_windAt : yX0_windAt.cls = RX0 ∧ yX0_windAt.cls ≠ "java/lang/invoke/MethodHandle" ∧ yX0_windAt.cls ≠ "java/lang/invoke/VarHandle" ∧ (parseMethodDescriptor yX0_windAt.desc).map (fun d => d.parameters.length) = some 1 := by decide +kernel
set_option maxRecDepth 100000 in
set_option maxHeartbeats 0 in
theorem c_X0_windAt {l : Launch} {D : va_G} {k : Nat → ClassId} {ad : Nat → Nat} (had : InjN 68 ad) (M : Mem) (o : Nat) (ho : kBay o) (a1 : Int32) : Met l yX0_windAt (Cond.code yX0_windAt cX0_windAt 3 (some .int) :: wsL_law) rm_X0_windAt (va_Pc [.ref (ad o), .int a1] (GW 68 ad D k (cC ad k M))) (va_Qi (fun r u => f_X0_windAt M o a1 = (r, u)) (fun u t => GW 68 ad D k (cC ad k u) t) (AW 68 ad)) 0 0 (AW 68 ad) := by
  refine met_i (g := cC ad k) (M := M) (plainFor_of_name (by decide)) (Nat.le_of_ble_eq_true rfl) ?_
  intro p e s m args below meth c Q ls hx hb hml hG hown hK hret hP hS hl
  have hl : lv_has ls 3 [(0, .ref (ad o)), (1, .int a1)] := hl
  obtain ⟨V, hV⟩ : ∃ V, f_X0_windAt M o a1 = V := ⟨_, rfl⟩
  have he := hV
  unfold f_X0_windAt at he
  refine lv_iload_n hx hb dX0_windAt_0 rfl (lv_at hl 1 rfl) ?_
  refine lv_if_lt (tgt := 13) hx hb dX0_windAt_1 (by decide) (fun hc_1 => ?_) (fun hc_1 => ?_)
  · have he := ite_t he hc_1
    refine lv_iconst (v := 0) hx hb dX0_windAt_13 (by decide) ?_
    exact hret _ _ _ _ _ _ (hV.trans he.symm) hP hS dX0_windAt_14
  · have he := ite_f he hc_1
    refine lv_iload_n hx hb dX0_windAt_4 rfl (lv_at hl 1 rfl) ?_
    refine lv_aload_n hx hb dX0_windAt_5 rfl (lv_at hl 0 rfl) ?_
    refine gX0_6 hx hb hG hown hK hP ho gw_2_17 dX0_windAt_6 ?_
    refine an_kWin hx hb hK hP (kR_win ho) dX0_windAt_9 ?_
    refine lv_icmp_lt (tgt := 15) hx hb dX0_windAt_10 (by decide) (fun hc_2 => ?_) (fun hc_2 => ?_)
    · have he := ite_t he hc_2
      refine lv_aload_n hx hb dX0_windAt_15 rfl (lv_at hl 0 rfl) ?_
      refine gX0_6 hx hb hG hown hK hP ho gw_2_17 dX0_windAt_16 ?_
      refine lv_iload_n hx hb dX0_windAt_19 rfl (lv_at hl 1 rfl) ?_
      refine al_kWin hx hb hK hP (kR_win ho) (vin_I (by have q0 : 0 ≤ a1.toInt := nlt_I hc_1; have q1 : a1.toInt < 401 := lt_I hc_2; omega) (by have q0 : 0 ≤ a1.toInt := nlt_I hc_1; have q1 : a1.toInt < 401 := lt_I hc_2; omega)) dX0_windAt_20 ?_
      refine lv_bipush (v := 100) hx hb dX0_windAt_21 (by decide) ?_
      obtain ⟨M_9, hr_4, he⟩ := bnd_ex he
      have j56 : ∀ (H : Heap) (locs : List Loc) (ls : Array Slot), va_P D vwCl (wld 68 ad (cC ad k M_9)) H → va_S (AW 68 ad) s.heap H locs → lv_has ls 3 [(0, .ref (ad o)), (1, .int a1)] → W p l e rm_X0_windAt s m args below meth c H locs 0 0 Q (F0 m 56 ls []) := by
        intro H locs ls hP hS hl
        refine lv_aload_n hx hb dX0_windAt_56 rfl (lv_at hl 0 rfl) ?_
        refine gX0_6 hx hb hG hown hK hP ho gw_2_17 dX0_windAt_57 ?_
        refine lv_iload_n hx hb dX0_windAt_60 rfl (lv_at hl 1 rfl) ?_
        refine al_kWin hx hb hK hP (kR_win ho) (vin_I (by have q0 : 0 ≤ a1.toInt := nlt_I hc_1; have q1 : a1.toInt < 401 := lt_I hc_2; omega) (by have q0 : 0 ≤ a1.toInt := nlt_I hc_1; have q1 : a1.toInt < 401 := lt_I hc_2; omega)) dX0_windAt_61 ?_
        exact hret _ _ _ _ _ _ (hV.trans he.symm) hP hS dX0_windAt_62
      refine lv_icmp_ne (tgt := 56) hx hb dX0_windAt_23 (by decide) (fun hc_3 => ?_) (fun hc_3 => ?_)
      · have hr_4 := ite_t hr_4 hc_3
        cases hr_4
        exact j56 _ _ _ hP hS (lv_sub hl [0, 1] rfl)
      · have hr_4 := ite_f hr_4 (fun q => q hc_3)
        refine lv_aload_n hx hb dX0_windAt_26 rfl (lv_at hl 0 rfl) ?_
        refine gX0_5 hx hb hG hown hK hP ho gw_2_15 dX0_windAt_27 ?_
        refine lv_iload_n hx hb dX0_windAt_30 rfl (lv_at hl 1 rfl) ?_
        refine lv_aload_n hx hb dX0_windAt_31 rfl (lv_at hl 0 rfl) ?_
        refine gX0_4 hx hb hG hown hK hP ho gw_6_12 dX0_windAt_32 ?_
        refine call_i [.int a1, .int (M o 4)] [] hx hb hml hG hown hK (c_X2_valueAt had M (o + 3) (kR_law ho) a1 (M o 4)) gw_11_15 gm_X2_valueAt gd_X2_valueAt rfl rfl ⟨Nat.le_of_ble_eq_true rfl, Nat.le_of_ble_eq_true rfl⟩ ⟨Nat.le_refl _, Nat.le_refl _⟩ (rX2 hK hP (kR_law ho)) hP (fun _ h => h) hS rfl hl.1 rfl (Nat.le_of_ble_eq_true rfl) dX0_windAt_35 (fun r_5 M_7 H locs hF_6 hP hS => ?_)
        have hr_4 := bnd2_at hr_4 hF_6
        refine lv_istore_n (lv' := [(2, .int r_5), (0, .ref (ad o)), (1, .int a1)]) hx hb dX0_windAt_38 rfl hl (by decide) rfl (fun ls hl => ?_)
        refine lv_aload_n hx hb dX0_windAt_39 rfl (lv_at hl 1 rfl) ?_
        refine gX0_6 hx hb hG hown hK hP ho gw_2_17 dX0_windAt_40 ?_
        refine lv_iload_n hx hb dX0_windAt_43 rfl (lv_at hl 2 rfl) ?_
        refine lv_bipush (v := (-40)) hx hb dX0_windAt_44 (by decide) ?_
        refine lv_bipush (v := 40) hx hb dX0_windAt_46 (by decide) ?_
        refine lv_iload_n hx hb dX0_windAt_48 rfl (lv_at hl 0 rfl) ?_
        refine w_min hx hb hml hG hown gw_11_13 (Nat.le_of_ble_eq_true rfl) (Nat.le_of_ble_eq_true rfl) hl.1 ⟨Nat.le_refl _, Nat.le_refl _⟩ dX0_windAt_49 ?_
        refine w_max hx hb hml hG hown gw_11_14 (Nat.le_of_ble_eq_true rfl) (Nat.le_of_ble_eq_true rfl) hl.1 ⟨Nat.le_refl _, Nat.le_refl _⟩ dX0_windAt_52 ?_
        refine as_kWin hx hb hK hP had AW_in hS (kR_win ho) (vin_I (by have q0 : 0 ≤ a1.toInt := nlt_I hc_1; have q1 : a1.toInt < 401 := lt_I hc_2; have q2 : (M (o + 6) a1.toNatClampNeg).toInt = 100 := congrArg Int32.toInt hc_3; omega) (by have q0 : 0 ≤ a1.toInt := nlt_I hc_1; have q1 : a1.toInt < 401 := lt_I hc_2; have q2 : (M (o + 6) a1.toNatClampNeg).toInt = 100 := congrArg Int32.toInt hc_3; omega)) dX0_windAt_55 (fun H locs hP hS => ?_)
        obtain ⟨M_8, eM_8⟩ : ∃ y : Mem, y = up2 M_7 (o + 6) a1.toNatClampNeg (mx (-40) (mn 40 r_5)) := ⟨_, rfl⟩
        rw [← eM_8] at hP
        have hr_4 := bnd_at hr_4 eM_8
        cases hr_4
        exact j56 _ _ _ hP hS (lv_sub hl [1, 2] rfl)
    · have he := ite_f he hc_2
      refine lv_iconst (v := 0) hx hb dX0_windAt_13 (by decide) ?_
      exact hret _ _ _ _ _ _ (hV.trans he.symm) hP hS dX0_windAt_14
def rm_X6_wind : Room := { frames := 26, cells := 0, slots := 0, locals := 868 }
theorem gm_X6_wind : Cond.instanceMethod yX6_wind ∈ wsL_law ∧ Cond.selects RX6 yX6_wind yX6_wind ∈ wsL_law ∧ Cond.initialized RX6 ∈ wsL_law ∧ Cond.code yX6_wind cX6_wind 2 (some .int) ∈ wsL_law := ⟨gw_11_5, gw_11_6, gw_1_2, gw_11_7⟩
theorem gd_X6_wind : yX6_wind.cls = RX6 ∧ yX6_wind.cls ≠ "java/lang/invoke/MethodHandle" ∧ yX6_wind.cls ≠ "java/lang/invoke/VarHandle" ∧ (parseMethodDescriptor yX6_wind.desc).map (fun d => d.parameters.length) = some 1 := by decide +kernel
set_option maxRecDepth 100000 in
set_option maxHeartbeats 0 in
theorem c_X6_wind {l : Launch} {D : va_G} {k : Nat → ClassId} {ad : Nat → Nat} (had : InjN 68 ad) (M : Mem) (a1 : Int32) : Met l yX6_wind (Cond.code yX6_wind cX6_wind 2 (some .int) :: wsL_law) rm_X6_wind (va_Pc [.ref (ad 0), .int a1] (GW 68 ad D k (cC ad k M))) (va_Qi (fun r u => f_X6_wind M a1 = (r, u)) (fun u t => GW 68 ad D k (cC ad k u) t) (AW 68 ad)) 0 0 (AW 68 ad) := by
  refine met_i (g := cC ad k) (M := M) (plainFor_of_name (by decide)) (Nat.le_of_ble_eq_true rfl) ?_
  intro p e s m args below meth c Q ls hx hb hml hG hown hK hret hP hS hl
  have hl : lv_has ls 2 [(0, .ref (ad 0)), (1, .int a1)] := hl
  obtain ⟨V, hV⟩ : ∃ V, f_X6_wind M a1 = V := ⟨_, rfl⟩
  have he := hV
  unfold f_X6_wind at he
  refine lv_iload_n hx hb dX6_wind_0 rfl (lv_at hl 1 rfl) ?_
  refine lv_if_lt (tgt := 11) hx hb dX6_wind_1 (by decide) (fun hc_1 => ?_) (fun hc_1 => ?_)
  · have he := ite_t he hc_1
    refine lv_ldc (v := (-1000000001)) hx hb hown (hG _ gw_11_8) dX6_wind_11 ?_
    exact hret _ _ _ _ _ _ (hV.trans he.symm) hP hS dX6_wind_13
  · have he := ite_f he hc_1
    refine lv_iload_n hx hb dX6_wind_4 rfl (lv_at hl 1 rfl) ?_
    refine lv_sipush (v := 400) hx hb dX6_wind_5 (by decide) ?_
    refine lv_icmp_le (tgt := 14) hx hb dX6_wind_8 (by decide) (fun hc_2 => ?_) (fun hc_2 => ?_)
    · have he := ite_t he hc_2
      refine lv_aload_n hx hb dX6_wind_14 rfl (lv_at hl 0 rfl) ?_
      refine gX6_0 hx hb hG hown hK hP rfl gw_1_16 dX6_wind_15 ?_
      refine lv_iload_n hx hb dX6_wind_18 rfl (lv_at hl 1 rfl) ?_
      refine call_i [.int a1] [] hx hb hml hG hown hK (c_X0_windAt had M 1 (by decide) a1) gw_11_9 gm_X0_windAt gd_X0_windAt rfl rfl ⟨Nat.le_of_ble_eq_true rfl, Nat.le_of_ble_eq_true rfl⟩ ⟨Nat.le_refl _, Nat.le_refl _⟩ (rX0 hK hP (by decide)) hP (fun _ h => h) hS rfl hl.1 rfl (Nat.le_of_ble_eq_true rfl) dX6_wind_19 (fun r_3 M_5 H locs hF_4 hP hS => ?_)
      have he := bnd2_at he hF_4
      exact hret _ _ _ _ _ _ (hV.trans he.symm) hP hS dX6_wind_22
    · have he := ite_f he hc_2
      refine lv_ldc (v := (-1000000001)) hx hb hown (hG _ gw_11_8) dX6_wind_11 ?_
      exact hret _ _ _ _ _ _ (hV.trans he.symm) hP hS dX6_wind_13
def rm_X6_isInBay : Room := { frames := 0, cells := 0, slots := 0, locals := 0 }
theorem gm_X6_isInBay : Cond.static yX6_isInBay ∈ wsL_law ∧ Cond.initialized yX6_isInBay.cls ∈ wsL_law ∧ Cond.code yX6_isInBay cX6_isInBay 1 (some .boolean) ∈ wsL_law := ⟨gw_14_6, gw_1_2, gw_14_7⟩
theorem gd_X6_isInBay : yX6_isInBay.cls ≠ "java/lang/invoke/MethodHandle" ∧ yX6_isInBay.cls ≠ "java/lang/invoke/VarHandle" ∧ (parseMethodDescriptor yX6_isInBay.desc).map (fun d => d.parameters.length) = some 1 := by decide +kernel
set_option maxRecDepth 100000 in
set_option maxHeartbeats 0 in
theorem c_X6_isInBay {l : Launch} {D : va_G} {k : Nat → ClassId} {ad : Nat → Nat} (had : InjN 68 ad) {M : Mem} (a1 : Int32) : Met l yX6_isInBay (Cond.code yX6_isInBay cX6_isInBay 1 (some .boolean) :: wsL_law) rm_X6_isInBay (va_Pc [.int a1] (GW 68 ad D k (cC ad k M))) (va_Qi (fun r u => (r = 0 ∨ r = 1) ∧ f_X6_isInBay a1 = r ∧ u = M) (fun u t => GW 68 ad D k (cC ad k u) t) (AW 68 ad)) 0 0 (AW 68 ad) := by
  refine met_z (g := cC ad k) (M := M) (plainFor_of_name (by decide)) (Nat.le_of_ble_eq_true rfl) ?_
  intro p e s m args below meth c Q ls hx hb hml hG hown hK hret hP hS hl
  have hl : lv_has ls 1 [(0, .int a1)] := hl
  obtain ⟨V, hV⟩ : ∃ V, f_X6_isInBay a1 = V := ⟨_, rfl⟩
  have he := hV
  unfold f_X6_isInBay at he
  refine lv_iload_n hx hb dX6_isInBay_0 rfl (lv_at hl 0 rfl) ?_
  refine lv_sipush (v := (-200)) hx hb dX6_isInBay_1 (by decide) ?_
  obtain ⟨t_4, hr_2, he⟩ := bnd_ex he
  have j19 : ∀ (H : Heap) (locs : List Loc) (ls : Array Slot), (t_4 = 0 ∨ t_4 = 1) → va_P D vwCl (wld 68 ad (cC ad k M)) H → va_S (AW 68 ad) s.heap H locs → lv_has ls 1 [] → W p l e rm_X6_isInBay s m args below meth c H locs 0 0 Q (F0 m 19 ls [.int t_4]) := by
    intro H locs ls zt_4 hP hS hl
    exact hret _ _ _ _ _ _ ⟨zt_4, (hV.trans he.symm), rfl⟩ (nz01 zt_4) hP hS dX6_isInBay_19
  refine lv_icmp_lt (tgt := 18) hx hb dX6_isInBay_4 (by decide) (fun hc_1 => ?_) (fun hc_1 => ?_)
  · have hr_2 := ite_t hr_2 hc_1
    refine lv_iconst (v := 0) hx hb dX6_isInBay_18 (by decide) ?_
    cases hr_2
    exact j19 _ _ _ (Or.inl rfl) hP hS (lv_sub hl [] rfl)
  · have hr_2 := ite_f hr_2 hc_1
    refine lv_iload_n hx hb dX6_isInBay_7 rfl (lv_at hl 0 rfl) ?_
    refine lv_sipush (v := 200) hx hb dX6_isInBay_8 (by decide) ?_
    refine lv_icmp_gt (tgt := 18) hx hb dX6_isInBay_11 (by decide) (fun hc_3 => ?_) (fun hc_3 => ?_)
    · have hr_2 := ite_t hr_2 hc_3
      refine lv_iconst (v := 0) hx hb dX6_isInBay_18 (by decide) ?_
      cases hr_2
      exact j19 _ _ _ (Or.inl rfl) hP hS (lv_sub hl [] rfl)
    · have hr_2 := ite_f hr_2 hc_3
      refine lv_iconst (v := 1) hx hb dX6_isInBay_14 (by decide) ?_
      refine lv_goto (tgt := 19) hx hb dX6_isInBay_15 (by decide) ?_
      cases hr_2
      exact j19 _ _ _ (Or.inr rfl) hP hS (lv_sub hl [] rfl)
def rm_X3_isFull : Room := { frames := 0, cells := 0, slots := 0, locals := 0 }
theorem gm_X3_isFull : Cond.instanceMethod yX3_isFull ∈ wsL_law ∧ Cond.selects RX3 yX3_isFull yX3_isFull ∈ wsL_law ∧ Cond.initialized RX3 ∈ wsL_law ∧ Cond.code yX3_isFull cX3_isFull 1 (some .boolean) ∈ wsL_law := ⟨gw_14_9, gw_14_10, gw_1_19, gw_14_11⟩
theorem gd_X3_isFull : yX3_isFull.cls = RX3 ∧ yX3_isFull.cls ≠ "java/lang/invoke/MethodHandle" ∧ yX3_isFull.cls ≠ "java/lang/invoke/VarHandle" ∧ (parseMethodDescriptor yX3_isFull.desc).map (fun d => d.parameters.length) = some 0 := by decide +kernel
set_option maxRecDepth 100000 in
set_option maxHeartbeats 0 in
theorem c_X3_isFull {l : Launch} {D : va_G} {k : Nat → ClassId} {ad : Nat → Nat} (had : InjN 68 ad) (M : Mem) (o : Nat) (ho : kRace o) : Met l yX3_isFull (Cond.code yX3_isFull cX3_isFull 1 (some .boolean) :: wsL_law) rm_X3_isFull (va_Pc [.ref (ad o)] (GW 68 ad D k (cC ad k M))) (va_Qi (fun r u => (r = 0 ∨ r = 1) ∧ f_X3_isFull M o = r ∧ u = M) (fun u t => GW 68 ad D k (cC ad k u) t) (AW 68 ad)) 0 0 (AW 68 ad) := by
  refine met_z (g := cC ad k) (M := M) (plainFor_of_name (by decide)) (Nat.le_of_ble_eq_true rfl) ?_
  intro p e s m args below meth c Q ls hx hb hml hG hown hK hret hP hS hl
  have hl : lv_has ls 1 [(0, .ref (ad o))] := hl
  obtain ⟨V, hV⟩ : ∃ V, f_X3_isFull M o = V := ⟨_, rfl⟩
  have he := hV
  unfold f_X3_isFull at he
  refine lv_aload_n hx hb dX3_isFull_0 rfl (lv_at hl 0 rfl) ?_
  refine gX3_1 hx hb hG hown hK hP ho gw_6_5 dX3_isFull_1 ?_
  refine lv_aload_n hx hb dX3_isFull_4 rfl (lv_at hl 0 rfl) ?_
  refine gX3_0 hx hb hG hown hK hP ho gw_3_7 dX3_isFull_5 ?_
  refine an_kBts hx hb hK hP (kR_bts ho) dX3_isFull_8 ?_
  obtain ⟨t_3, hr_2, he⟩ := bnd_ex he
  have j17 : ∀ (H : Heap) (locs : List Loc) (ls : Array Slot), (t_3 = 0 ∨ t_3 = 1) → va_P D vwCl (wld 68 ad (cC ad k M)) H → va_S (AW 68 ad) s.heap H locs → lv_has ls 1 [] → W p l e rm_X3_isFull s m args below meth c H locs 0 0 Q (F0 m 17 ls [.int t_3]) := by
    intro H locs ls zt_3 hP hS hl
    exact hret _ _ _ _ _ _ ⟨zt_3, (hV.trans he.symm), rfl⟩ (nz01 zt_3) hP hS dX3_isFull_17
  refine lv_icmp_lt (tgt := 16) hx hb dX3_isFull_9 (by decide) (fun hc_1 => ?_) (fun hc_1 => ?_)
  · have hr_2 := ite_t hr_2 hc_1
    refine lv_iconst (v := 0) hx hb dX3_isFull_16 (by decide) ?_
    cases hr_2
    exact j17 _ _ _ (Or.inl rfl) hP hS (lv_sub hl [] rfl)
  · have hr_2 := ite_f hr_2 hc_1
    refine lv_iconst (v := 1) hx hb dX3_isFull_12 (by decide) ?_
    refine lv_goto (tgt := 17) hx hb dX3_isFull_13 (by decide) ?_
    cases hr_2
    exact j17 _ _ _ (Or.inr rfl) hP hS (lv_sub hl [] rfl)
def rm_X4_become : Room := { frames := 0, cells := 0, slots := 0, locals := 0 }
theorem gm_X4_become : Cond.instanceMethod yX4_become ∈ wsL_law ∧ Cond.selects RX4 yX4_become yX4_become ∈ wsL_law ∧ Cond.initialized RX4 ∈ wsL_law ∧ Cond.code yX4_become cX4_become 4 none ∈ wsL_law := ⟨gw_14_20, gw_14_21, gw_3_15, gw_14_22⟩
theorem gd_X4_become : yX4_become.cls = RX4 ∧ yX4_become.cls ≠ "java/lang/invoke/MethodHandle" ∧ yX4_become.cls ≠ "java/lang/invoke/VarHandle" ∧ (parseMethodDescriptor yX4_become.desc).map (fun d => d.parameters.length) = some 3 := by decide +kernel
set_option maxRecDepth 100000 in
set_option maxHeartbeats 0 in
theorem c_X4_become {l : Launch} {D : va_G} {k : Nat → ClassId} {ad : Nat → Nat} (had : InjN 68 ad) (M : Mem) (o : Nat) (ho : kSlr o) (a1 : Int32) (a2 : Int32) (a3 : Int32) : Met l yX4_become (Cond.code yX4_become cX4_become 4 none :: wsL_law) rm_X4_become (va_Pc [.ref (ad o), .int a1, .int a2, .int a3] (GW 68 ad D k (cC ad k M))) (va_Qv (fun u => f_X4_become M o a1 a2 a3 = u) (fun u t => GW 68 ad D k (cC ad k u) t) (AW 68 ad)) 0 0 (AW 68 ad) := by
  refine met_v (g := cC ad k) (M := M) (plainFor_of_name (by decide)) (Nat.le_of_ble_eq_true rfl) ?_
  intro p e s m args below meth c Q ls hx hb hml hG hown hK hret hP hS hl
  have hl : lv_has ls 4 [(0, .ref (ad o)), (1, .int a1), (2, .int a2), (3, .int a3)] := hl
  obtain ⟨V, hV⟩ : ∃ V, f_X4_become M o a1 a2 a3 = V := ⟨_, rfl⟩
  have he := hV
  unfold f_X4_become at he
  refine lv_aload_n hx hb dX4_become_0 rfl (lv_at hl 0 rfl) ?_
  refine lv_iload_n hx hb dX4_become_1 rfl (lv_at hl 1 rfl) ?_
  refine pX4_0 hx hb hG hown hK hP had AW_in hS ho gw_14_23 dX4_become_2 (fun H locs hP hS => ?_)
  obtain ⟨M_1, eM_1⟩ : ∃ y : Mem, y = up2 M o 0 a1 := ⟨_, rfl⟩
  rw [← eM_1] at hP
  have he := bnd_at he eM_1
  refine lv_aload_n hx hb dX4_become_5 rfl (lv_at hl 0 rfl) ?_
  refine lv_iload_n hx hb dX4_become_6 rfl (lv_at hl 2 rfl) ?_
  refine pX4_1 hx hb hG hown hK hP had AW_in hS ho gw_15_0 dX4_become_7 (fun H locs hP hS => ?_)
  obtain ⟨M_2, eM_2⟩ : ∃ y : Mem, y = up2 M_1 o 1 a2 := ⟨_, rfl⟩
  rw [← eM_2] at hP
  have he := bnd_at he eM_2
  refine lv_aload_n hx hb dX4_become_10 rfl (lv_at hl 0 rfl) ?_
  refine lv_iload_n hx hb dX4_become_11 rfl (lv_at hl 3 rfl) ?_
  refine pX4_2 hx hb hG hown hK hP had AW_in hS ho gw_15_1 dX4_become_12 (fun H locs hP hS => ?_)
  obtain ⟨M_3, eM_3⟩ : ∃ y : Mem, y = up2 M_2 o 2 a3 := ⟨_, rfl⟩
  rw [← eM_3] at hP
  have he := bnd_at he eM_3
  exact hret _ _ _ _ _ (hV.trans he.symm) hP hS dX4_become_15
def rm_X1_beginAnew : Room := { frames := 0, cells := 0, slots := 0, locals := 0 }
theorem gm_X1_beginAnew : Cond.instanceMethod yX1_beginAnew ∈ wsL_law ∧ Cond.selects RX1 yX1_beginAnew yX1_beginAnew ∈ wsL_law ∧ Cond.initialized RX1 ∈ wsL_law ∧ Cond.code yX1_beginAnew cX1_beginAnew 1 none ∈ wsL_law := ⟨gw_15_9, gw_15_10, gw_3_9, gw_15_11⟩
theorem gd_X1_beginAnew : yX1_beginAnew.cls = RX1 ∧ yX1_beginAnew.cls ≠ "java/lang/invoke/MethodHandle" ∧ yX1_beginAnew.cls ≠ "java/lang/invoke/VarHandle" ∧ (parseMethodDescriptor yX1_beginAnew.desc).map (fun d => d.parameters.length) = some 0 := by decide +kernel
set_option maxRecDepth 100000 in
set_option maxHeartbeats 0 in
theorem c_X1_beginAnew {l : Launch} {D : va_G} {k : Nat → ClassId} {ad : Nat → Nat} (had : InjN 68 ad) (M : Mem) (o : Nat) (ho : kBoat o) : Met l yX1_beginAnew (Cond.code yX1_beginAnew cX1_beginAnew 1 none :: wsL_law) rm_X1_beginAnew (va_Pc [.ref (ad o)] (GW 68 ad D k (cC ad k M))) (va_Qv (fun u => f_X1_beginAnew M o = u) (fun u t => GW 68 ad D k (cC ad k u) t) (AW 68 ad)) 0 0 (AW 68 ad) := by
  refine met_v (g := cC ad k) (M := M) (plainFor_of_name (by decide)) (Nat.le_of_ble_eq_true rfl) ?_
  intro p e s m args below meth c Q ls hx hb hml hG hown hK hret hP hS hl
  have hl : lv_has ls 1 [(0, .ref (ad o))] := hl
  obtain ⟨V, hV⟩ : ∃ V, f_X1_beginAnew M o = V := ⟨_, rfl⟩
  have he := hV
  unfold f_X1_beginAnew at he
  refine lv_aload_n hx hb dX1_beginAnew_0 rfl (lv_at hl 0 rfl) ?_
  refine lv_aload_n hx hb dX1_beginAnew_1 rfl (lv_at hl 0 rfl) ?_
  refine gX1_1 hx hb hG hown hK hP ho gw_15_6 dX1_beginAnew_2 ?_
  refine pX1_3 hx hb hG hown hK hP had AW_in hS ho gw_15_12 dX1_beginAnew_5 (fun H locs hP hS => ?_)
  obtain ⟨M_1, eM_1⟩ : ∃ y : Mem, y = up2 M o 3 (M o 1) := ⟨_, rfl⟩
  rw [← eM_1] at hP
  have he := bnd_at he eM_1
  refine lv_aload_n hx hb dX1_beginAnew_8 rfl (lv_at hl 0 rfl) ?_
  refine lv_iconst (v := 0) hx hb dX1_beginAnew_9 (by decide) ?_
  refine pX1_4 hx hb hG hown hK hP had AW_in hS ho gw_15_13 dX1_beginAnew_10 (fun H locs hP hS => ?_)
  obtain ⟨M_2, eM_2⟩ : ∃ y : Mem, y = up2 M_1 o 4 0 := ⟨_, rfl⟩
  rw [← eM_2] at hP
  have he := bnd_at he eM_2
  refine lv_aload_n hx hb dX1_beginAnew_13 rfl (lv_at hl 0 rfl) ?_
  refine lv_aload_n hx hb dX1_beginAnew_14 rfl (lv_at hl 0 rfl) ?_
  refine gX1_2 hx hb hG hown hK hP ho gw_15_7 dX1_beginAnew_15 ?_
  refine pX1_5 hx hb hG hown hK hP had AW_in hS ho gw_15_14 (b01_or _)  dX1_beginAnew_18 (fun H locs hP hS => ?_)
  obtain ⟨M_3, eM_3⟩ : ∃ y : Mem, y = up2 M_2 o 5 (b01 (M_2 o 2)) := ⟨_, rfl⟩
  rw [← eM_3] at hP
  have he := bnd_at he eM_3
  refine lv_aload_n hx hb dX1_beginAnew_21 rfl (lv_at hl 0 rfl) ?_
  refine lv_iconst (v := 0) hx hb dX1_beginAnew_22 (by decide) ?_
  refine pX1_6 hx hb hG hown hK hP had AW_in hS ho gw_15_15 dX1_beginAnew_23 (fun H locs hP hS => ?_)
  obtain ⟨M_4, eM_4⟩ : ∃ y : Mem, y = up2 M_3 o 6 0 := ⟨_, rfl⟩
  rw [← eM_4] at hP
  have he := bnd_at he eM_4
  refine lv_aload_n hx hb dX1_beginAnew_26 rfl (lv_at hl 0 rfl) ?_
  refine lv_bipush (v := (-4)) hx hb dX1_beginAnew_27 (by decide) ?_
  refine pX1_7 hx hb hG hown hK hP had AW_in hS ho gw_3_17 dX1_beginAnew_29 (fun H locs hP hS => ?_)
  obtain ⟨M_5, eM_5⟩ : ∃ y : Mem, y = up2 M_4 o 7 (-4) := ⟨_, rfl⟩
  rw [← eM_5] at hP
  have he := bnd_at he eM_5
  refine lv_aload_n hx hb dX1_beginAnew_32 rfl (lv_at hl 0 rfl) ?_
  refine lv_iconst (v := 0) hx hb dX1_beginAnew_33 (by decide) ?_
  refine pX1_8 hx hb hG hown hK hP had AW_in hS ho gw_15_16 dX1_beginAnew_34 (fun H locs hP hS => ?_)
  obtain ⟨M_6, eM_6⟩ : ∃ y : Mem, y = up2 M_5 o 8 0 := ⟨_, rfl⟩
  rw [← eM_6] at hP
  have he := bnd_at he eM_6
  exact hret _ _ _ _ _ (hV.trans he.symm) hP hS dX1_beginAnew_37
def rm_X1_comeToStart : Room := { frames := 1, cells := 0, slots := 0, locals := 20 }
theorem gm_X1_comeToStart : Cond.instanceMethod yX1_comeToStart ∈ wsL_law ∧ Cond.selects RX1 yX1_comeToStart yX1_comeToStart ∈ wsL_law ∧ Cond.initialized RX1 ∈ wsL_law ∧ Cond.code yX1_comeToStart cX1_comeToStart 3 none ∈ wsL_law := ⟨gw_15_3, gw_15_4, gw_3_9, gw_15_5⟩
theorem gd_X1_comeToStart : yX1_comeToStart.cls = RX1 ∧ yX1_comeToStart.cls ≠ "java/lang/invoke/MethodHandle" ∧ yX1_comeToStart.cls ≠ "java/lang/invoke/VarHandle" ∧ (parseMethodDescriptor yX1_comeToStart.desc).map (fun d => d.parameters.length) = some 2 := by decide +kernel
set_option maxRecDepth 100000 in
set_option maxHeartbeats 0 in
theorem c_X1_comeToStart {l : Launch} {D : va_G} {k : Nat → ClassId} {ad : Nat → Nat} (had : InjN 68 ad) (M : Mem) (o : Nat) (ho : kBoat o) (a1 : Int32) (a2 : Int32) (ha2 : a2 = 0 ∨ a2 = 1) : Met l yX1_comeToStart (Cond.code yX1_comeToStart cX1_comeToStart 3 none :: wsL_law) rm_X1_comeToStart (va_Pc [.ref (ad o), .int a1, .int a2] (GW 68 ad D k (cC ad k M))) (va_Qv (fun u => f_X1_comeToStart M o a1 a2 = u) (fun u t => GW 68 ad D k (cC ad k u) t) (AW 68 ad)) 0 0 (AW 68 ad) := by
  refine met_v (g := cC ad k) (M := M) (plainFor_of_name (by decide)) (Nat.le_of_ble_eq_true rfl) ?_
  intro p e s m args below meth c Q ls hx hb hml hG hown hK hret hP hS hl
  have hl : lv_has ls 3 [(0, .ref (ad o)), (1, .int a1), (2, .int a2)] := hl
  obtain ⟨V, hV⟩ : ∃ V, f_X1_comeToStart M o a1 a2 = V := ⟨_, rfl⟩
  have he := hV
  unfold f_X1_comeToStart at he
  refine lv_aload_n hx hb dX1_comeToStart_0 rfl (lv_at hl 0 rfl) ?_
  refine lv_iload_n hx hb dX1_comeToStart_1 rfl (lv_at hl 1 rfl) ?_
  refine pX1_1 hx hb hG hown hK hP had AW_in hS ho gw_15_6 dX1_comeToStart_2 (fun H locs hP hS => ?_)
  obtain ⟨M_1, eM_1⟩ : ∃ y : Mem, y = up2 M o 1 a1 := ⟨_, rfl⟩
  rw [← eM_1] at hP
  have he := bnd_at he eM_1
  refine lv_aload_n hx hb dX1_comeToStart_5 rfl (lv_at hl 0 rfl) ?_
  refine lv_iload_n hx hb dX1_comeToStart_6 rfl (lv_at hl 2 rfl) ?_
  refine pX1_2 hx hb hG hown hK hP had AW_in hS ho gw_15_7 ha2  dX1_comeToStart_7 (fun H locs hP hS => ?_)
  obtain ⟨M_2, eM_2⟩ : ∃ y : Mem, y = up2 M_1 o 2 a2 := ⟨_, rfl⟩
  rw [← eM_2] at hP
  have he := bnd_at he eM_2
  refine lv_aload_n hx hb dX1_comeToStart_10 rfl (lv_at hl 0 rfl) ?_
  refine call_v [] [] hx hb hml hG hown hK (c_X1_beginAnew had M_2 o ho) gw_15_8 gm_X1_beginAnew gd_X1_beginAnew rfl rfl ⟨Nat.le_of_ble_eq_true rfl, Nat.le_of_ble_eq_true rfl⟩ ⟨Nat.le_refl _, Nat.le_refl _⟩ (rX1 hK hP ho) hP (fun _ h => h) hS rfl hl.1 rfl (Nat.le_of_ble_eq_true rfl) dX1_comeToStart_11 (fun M_5 H locs hF_4 hP hS => ?_)
  have he := bnd_at he hF_4.symm
  exact hret _ _ _ _ _ (hV.trans he.symm) hP hS dX1_comeToStart_14
def rm_X3_enter : Room := { frames := 2, cells := 0, slots := 0, locals := 42 }
theorem gm_X3_enter : Cond.instanceMethod yX3_enter ∈ wsL_law ∧ Cond.selects RX3 yX3_enter yX3_enter ∈ wsL_law ∧ Cond.initialized RX3 ∈ wsL_law ∧ Cond.code yX3_enter cX3_enter 6 (some .int) ∈ wsL_law := ⟨gw_14_13, gw_14_14, gw_1_19, gw_14_15⟩
theorem gd_X3_enter : yX3_enter.cls = RX3 ∧ yX3_enter.cls ≠ "java/lang/invoke/MethodHandle" ∧ yX3_enter.cls ≠ "java/lang/invoke/VarHandle" ∧ (parseMethodDescriptor yX3_enter.desc).map (fun d => d.parameters.length) = some 4 := by decide +kernel
set_option maxRecDepth 100000 in
set_option maxHeartbeats 0 in
theorem c_X3_enter {l : Launch} {D : va_G} {k : Nat → ClassId} {ad : Nat → Nat} (had : InjN 68 ad) (M : Mem) (o : Nat) (ho : kRace o) (a1 : Int32) (a2 : Int32) (a3 : Int32) (ha3 : a3 = 0 ∨ a3 = 1) (a4 : Int32) : Met l yX3_enter (Cond.code yX3_enter cX3_enter 6 (some .int) :: wsL_law) rm_X3_enter (va_Pc [.ref (ad o), .int a1, .int a2, .int a3, .int a4] (GW 68 ad D k (cC ad k M))) (va_Qi (fun r u => f_X3_enter M o a1 a2 a3 a4 = (r, u)) (fun u t => GW 68 ad D k (cC ad k u) t) (AW 68 ad)) 0 0 (AW 68 ad) := by
  refine met_i (g := cC ad k) (M := M) (plainFor_of_name (by decide)) (Nat.le_of_ble_eq_true rfl) ?_
  intro p e s m args below meth c Q ls hx hb hml hG hown hK hret hP hS hl
  have hl : lv_has ls 6 [(0, .ref (ad o)), (1, .int a1), (2, .int a2), (3, .int a3), (4, .int a4)] := hl
  obtain ⟨V, hV⟩ : ∃ V, f_X3_enter M o a1 a2 a3 a4 = V := ⟨_, rfl⟩
  have he := hV
  unfold f_X3_enter at he
  refine lv_aload_n hx hb dX3_enter_0 rfl (lv_at hl 0 rfl) ?_
  refine gX3_1 hx hb hG hown hK hP ho gw_6_5 dX3_enter_1 ?_
  refine lv_if_lt (tgt := 14) hx hb dX3_enter_4 (by decide) (fun hc_1 => ?_) (fun hc_1 => ?_)
  · have he := ite_t he hc_1
    refine lv_bipush (v := (-2)) hx hb dX3_enter_14 (by decide) ?_
    exact hret _ _ _ _ _ _ (hV.trans he.symm) hP hS dX3_enter_16
  · have he := ite_f he hc_1
    refine lv_aload_n hx hb dX3_enter_7 rfl (lv_at hl 0 rfl) ?_
    refine call_i [] [] hx hb hml hG hown hK (c_X3_isFull had M o ho) gw_14_18 gm_X3_isFull gd_X3_isFull rfl rfl ⟨Nat.le_of_ble_eq_true rfl, Nat.le_of_ble_eq_true rfl⟩ ⟨Nat.le_refl _, Nat.le_refl _⟩ (rX3 hK hP ho) hP (fun _ h => h) hS rfl hl.1 rfl (Nat.le_of_ble_eq_true rfl) dX3_enter_8 (fun r_2 u_4 H locs hF_3 hP hS => ?_)
    obtain ⟨hz_5, hF_3, hu⟩ := hF_3; rw [hu] at hP; subst hF_3
    refine lv_if_eq (tgt := 17) hx hb dX3_enter_11 (by decide) (fun hc_6 => ?_) (fun hc_6 => ?_)
    · have he := ite_t he hc_6
      refine lv_aload_n hx hb dX3_enter_17 rfl (lv_at hl 0 rfl) ?_
      refine gX3_0 hx hb hG hown hK hP ho gw_3_7 dX3_enter_18 ?_
      refine lv_aload_n hx hb dX3_enter_21 rfl (lv_at hl 0 rfl) ?_
      refine gX3_1 hx hb hG hown hK hP ho gw_6_5 dX3_enter_22 ?_
      have hn_7 : vp_in (M o 1) 4 := (vin_I (by have := nlt_I hc_1; rw [Int32.toInt_zero] at this; omega) (notFull hc_6))
      refine al_kBts hx hb hK hP (kR_bts ho) hn_7 dX3_enter_25 ?_
      refine lv_astore (lv' := [(5, .ref (ad (4 * (o + 3) - 45 + (M o 1).toNatClampNeg))), (0, .ref (ad o)), (1, .int a1), (2, .int a2), (3, .int a3), (4, .int a4)]) hx hb dX3_enter_26 hl (by decide) rfl (fun ls hl => ?_)
      refine lv_aload hx hb dX3_enter_28 (lv_at hl 0 rfl) ?_
      refine gX1_0 hx hb hG hown hK hP (kR_boat (kR_bts ho) hn_7) gw_14_16 dX3_enter_30 ?_
      refine lv_iload_n hx hb dX3_enter_33 rfl (lv_at hl 2 rfl) ?_
      refine lv_iload hx hb dX3_enter_34 (lv_at hl 5 rfl) ?_
      refine lv_aload_n hx hb dX3_enter_36 rfl (lv_at hl 1 rfl) ?_
      refine gX3_1 hx hb hG hown hK hP ho gw_6_5 dX3_enter_37 ?_
      refine call_v [.int a1, .int a4, .int (M o 1)] [] hx hb hml hG hown hK (c_X4_become had M ((4 * (o + 3) - 45 + (M o 1).toNatClampNeg) + 12) (kR_slr (kR_boat (kR_bts ho) hn_7)) a1 a4 (M o 1)) gw_14_19 gm_X4_become gd_X4_become rfl rfl ⟨Nat.le_of_ble_eq_true rfl, Nat.le_of_ble_eq_true rfl⟩ ⟨Nat.le_refl _, Nat.le_refl _⟩ (rX4 hK hP (kR_slr (kR_boat (kR_bts ho) hn_7))) hP (fun _ h => h) hS rfl hl.1 rfl (Nat.le_of_ble_eq_true rfl) dX3_enter_40 (fun M_10 H locs hF_9 hP hS => ?_)
      have he := bnd_at he hF_9.symm
      refine lv_aload hx hb dX3_enter_43 (lv_at hl 0 rfl) ?_
      refine lv_iload_n hx hb dX3_enter_45 rfl (lv_at hl 3 rfl) ?_
      refine lv_iload_n hx hb dX3_enter_46 rfl (lv_at hl 4 rfl) ?_
      refine call_v [.int a2, .int a3] [] hx hb hml hG hown hK (c_X1_comeToStart had M_10 (4 * (o + 3) - 45 + (M o 1).toNatClampNeg) (kR_boat (kR_bts ho) hn_7) a2 a3 ha3) gw_15_2 gm_X1_comeToStart gd_X1_comeToStart rfl rfl ⟨Nat.le_of_ble_eq_true rfl, Nat.le_of_ble_eq_true rfl⟩ ⟨Nat.le_refl _, Nat.le_refl _⟩ (rX1 hK hP (kR_boat (kR_bts ho) hn_7)) hP (fun _ h => h) hS rfl hl.1 rfl (Nat.le_of_ble_eq_true rfl) dX3_enter_47 (fun M_13 H locs hF_12 hP hS => ?_)
      have he := bnd_at he hF_12.symm
      refine lv_aload_n hx hb dX3_enter_50 rfl (lv_at hl 1 rfl) ?_
      refine lv_dup hx hb dX3_enter_51 rfl ?_
      refine gX3_1 hx hb hG hown hK hP ho gw_6_5 dX3_enter_52 ?_
      refine lv_iconst (v := 1) hx hb dX3_enter_55 (by decide) ?_
      refine lv_iadd hx hb dX3_enter_56 ?_
      refine pX3_1 hx hb hG hown hK hP had AW_in hS ho gw_6_5 dX3_enter_57 (fun H locs hP hS => ?_)
      obtain ⟨M_14, eM_14⟩ : ∃ y : Mem, y = up2 M_13 o 1 ((M_13 o 1) + 1) := ⟨_, rfl⟩
      rw [← eM_14] at hP
      have he := bnd_at he eM_14
      refine lv_aload hx hb dX3_enter_60 (lv_at hl 0 rfl) ?_
      refine gX1_0 hx hb hG hown hK hP (kR_boat (kR_bts ho) hn_7) gw_14_16 dX3_enter_62 ?_
      refine gX4_2 hx hb hG hown hK hP (kR_slr (kR_boat (kR_bts ho) hn_7)) gw_14_17 dX3_enter_65 ?_
      exact hret _ _ _ _ _ _ (hV.trans he.symm) hP hS dX3_enter_68
    · have he := ite_f he hc_6
      refine lv_bipush (v := (-2)) hx hb dX3_enter_14 (by decide) ?_
      exact hret _ _ _ _ _ _ (hV.trans he.symm) hP hS dX3_enter_16
def rm_X6_boat : Room := { frames := 3, cells := 0, slots := 0, locals := 67 }
theorem gm_X6_boat : Cond.instanceMethod yX6_boat ∈ wsL_law ∧ Cond.selects RX6 yX6_boat yX6_boat ∈ wsL_law ∧ Cond.initialized RX6 ∈ wsL_law ∧ Cond.code yX6_boat cX6_boat 5 (some .int) ∈ wsL_law := ⟨gw_14_1, gw_14_2, gw_1_2, gw_14_3⟩
theorem gd_X6_boat : yX6_boat.cls = RX6 ∧ yX6_boat.cls ≠ "java/lang/invoke/MethodHandle" ∧ yX6_boat.cls ≠ "java/lang/invoke/VarHandle" ∧ (parseMethodDescriptor yX6_boat.desc).map (fun d => d.parameters.length) = some 4 := by decide +kernel
set_option maxRecDepth 100000 in
set_option maxHeartbeats 0 in
theorem c_X6_boat {l : Launch} {D : va_G} {k : Nat → ClassId} {ad : Nat → Nat} (had : InjN 68 ad) (M : Mem) (a1 : Int32) (a2 : Int32) (a3 : Int32) (ha3 : a3 = 0 ∨ a3 = 1) (a4 : Int32) : Met l yX6_boat (Cond.code yX6_boat cX6_boat 5 (some .int) :: wsL_law) rm_X6_boat (va_Pc [.ref (ad 0), .int a1, .int a2, .int a3, .int a4] (GW 68 ad D k (cC ad k M))) (va_Qi (fun r u => f_X6_boat M a1 a2 a3 a4 = (r, u)) (fun u t => GW 68 ad D k (cC ad k u) t) (AW 68 ad)) 0 0 (AW 68 ad) := by
  refine met_i (g := cC ad k) (M := M) (plainFor_of_name (by decide)) (Nat.le_of_ble_eq_true rfl) ?_
  intro p e s m args below meth c Q ls hx hb hml hG hown hK hret hP hS hl
  have hl : lv_has ls 5 [(0, .ref (ad 0)), (1, .int a1), (2, .int a2), (3, .int a3), (4, .int a4)] := hl
  obtain ⟨V, hV⟩ : ∃ V, f_X6_boat M a1 a2 a3 a4 = V := ⟨_, rfl⟩
  have he := hV
  unfold f_X6_boat at he
  refine lv_iload_n hx hb dX6_boat_0 rfl (lv_at hl 1 rfl) ?_
  refine lv_if_lt (tgt := 29) hx hb dX6_boat_1 (by decide) (fun hc_1 => ?_) (fun hc_1 => ?_)
  · have he := ite_t he hc_1
    refine lv_iconst (v := (-1)) hx hb dX6_boat_29 (by decide) ?_
    exact hret _ _ _ _ _ _ (hV.trans he.symm) hP hS dX6_boat_30
  · have he := ite_f he hc_1
    refine lv_iload_n hx hb dX6_boat_4 rfl (lv_at hl 1 rfl) ?_
    refine lv_bipush (v := 7) hx hb dX6_boat_5 (by decide) ?_
    refine lv_icmp_gt (tgt := 29) hx hb dX6_boat_7 (by decide) (fun hc_2 => ?_) (fun hc_2 => ?_)
    · have he := ite_t he hc_2
      refine lv_iconst (v := (-1)) hx hb dX6_boat_29 (by decide) ?_
      exact hret _ _ _ _ _ _ (hV.trans he.symm) hP hS dX6_boat_30
    · have he := ite_f he hc_2
      refine lv_iload_n hx hb dX6_boat_10 rfl (lv_at hl 2 rfl) ?_
      refine callS_i [.int a2] [] hx hb hml hG hown hK (c_X6_isInBay had (M := M)  a2) gw_14_5 gm_X6_isInBay gd_X6_isInBay rfl rfl ⟨Nat.le_of_ble_eq_true rfl, Nat.le_of_ble_eq_true rfl⟩ ⟨Nat.le_refl _, Nat.le_refl _⟩ hP (fun _ h => h) hS rfl hl.1 rfl (Nat.le_of_ble_eq_true rfl) dX6_boat_11 (fun r_3 u_5 H locs hF_4 hP hS => ?_)
      obtain ⟨hz_6, hF_4, hu⟩ := hF_4; rw [hu] at hP; subst hF_4
      refine lv_if_eq (tgt := 29) hx hb dX6_boat_14 (by decide) (fun hc_7 => ?_) (fun hc_7 => ?_)
      · have he := ite_t he hc_7
        refine lv_iconst (v := (-1)) hx hb dX6_boat_29 (by decide) ?_
        exact hret _ _ _ _ _ _ (hV.trans he.symm) hP hS dX6_boat_30
      · have he := ite_f he hc_7
        refine lv_iload hx hb dX6_boat_17 (lv_at hl 4 rfl) ?_
        refine lv_if_lt (tgt := 29) hx hb dX6_boat_19 (by decide) (fun hc_8 => ?_) (fun hc_8 => ?_)
        · have he := ite_t he hc_8
          refine lv_iconst (v := (-1)) hx hb dX6_boat_29 (by decide) ?_
          exact hret _ _ _ _ _ _ (hV.trans he.symm) hP hS dX6_boat_30
        · have he := ite_f he hc_8
          refine lv_iload hx hb dX6_boat_22 (lv_at hl 4 rfl) ?_
          refine lv_bipush (v := 40) hx hb dX6_boat_24 (by decide) ?_
          refine lv_icmp_le (tgt := 31) hx hb dX6_boat_26 (by decide) (fun hc_9 => ?_) (fun hc_9 => ?_)
          · have he := ite_t he hc_9
            refine lv_aload_n hx hb dX6_boat_31 rfl (lv_at hl 0 rfl) ?_
            refine gX6_1 hx hb hG hown hK hP rfl gw_1_20 dX6_boat_32 ?_
            refine call_i [] [] hx hb hml hG hown hK (c_X3_isFull had M 13 (by decide)) gw_14_8 gm_X3_isFull gd_X3_isFull rfl rfl ⟨Nat.le_of_ble_eq_true rfl, Nat.le_of_ble_eq_true rfl⟩ ⟨Nat.le_refl _, Nat.le_refl _⟩ (rX3 hK hP (by decide)) hP (fun _ h => h) hS rfl hl.1 rfl (Nat.le_of_ble_eq_true rfl) dX6_boat_35 (fun r_10 u_12 H locs hF_11 hP hS => ?_)
            obtain ⟨hz_13, hF_11, hu⟩ := hF_11; rw [hu] at hP; subst hF_11
            refine lv_if_eq (tgt := 44) hx hb dX6_boat_38 (by decide) (fun hc_14 => ?_) (fun hc_14 => ?_)
            · have he := ite_t he hc_14
              refine lv_aload_n hx hb dX6_boat_44 rfl (lv_at hl 0 rfl) ?_
              refine gX6_1 hx hb hG hown hK hP rfl gw_1_20 dX6_boat_45 ?_
              refine gX3_2 hx hb hG hown hK hP (by decide) gw_14_4 dX6_boat_48 ?_
              refine lv_if_le (tgt := 57) hx hb dX6_boat_51 (by decide) (fun hc_15 => ?_) (fun hc_15 => ?_)
              · have he := ite_t he hc_15
                refine lv_aload_n hx hb dX6_boat_57 rfl (lv_at hl 0 rfl) ?_
                refine gX6_1 hx hb hG hown hK hP rfl gw_1_20 dX6_boat_58 ?_
                refine lv_iload_n hx hb dX6_boat_61 rfl (lv_at hl 1 rfl) ?_
                refine lv_iload_n hx hb dX6_boat_62 rfl (lv_at hl 2 rfl) ?_
                refine lv_iload_n hx hb dX6_boat_63 rfl (lv_at hl 3 rfl) ?_
                refine lv_iload hx hb dX6_boat_64 (lv_at hl 4 rfl) ?_
                refine call_i [.int a1, .int a2, .int a3, .int a4] [] hx hb hml hG hown hK (c_X3_enter had M 13 (by decide) a1 a2 a3 ha3 a4) gw_14_12 gm_X3_enter gd_X3_enter rfl rfl ⟨Nat.le_of_ble_eq_true rfl, Nat.le_of_ble_eq_true rfl⟩ ⟨Nat.le_refl _, Nat.le_refl _⟩ (rX3 hK hP (by decide)) hP (fun _ h => h) hS rfl hl.1 rfl (Nat.le_of_ble_eq_true rfl) dX6_boat_66 (fun r_16 M_18 H locs hF_17 hP hS => ?_)
                have he := bnd2_at he hF_17
                exact hret _ _ _ _ _ _ (hV.trans he.symm) hP hS dX6_boat_69
              · have he := ite_f he hc_15
                refine lv_bipush (v := (-3)) hx hb dX6_boat_54 (by decide) ?_
                exact hret _ _ _ _ _ _ (hV.trans he.symm) hP hS dX6_boat_56
            · have he := ite_f he hc_14
              refine lv_bipush (v := (-2)) hx hb dX6_boat_41 (by decide) ?_
              exact hret _ _ _ _ _ _ (hV.trans he.symm) hP hS dX6_boat_43
          · have he := ite_f he hc_9
            refine lv_iconst (v := (-1)) hx hb dX6_boat_29 (by decide) ?_
            exact hret _ _ _ _ _ _ (hV.trans he.symm) hP hS dX6_boat_30
def rm_X3_boatAt : Room := { frames := 0, cells := 0, slots := 0, locals := 0 }
theorem gm_X3_boatAt : Cond.instanceMethod yX3_boatAt ∈ wsL_law ∧ Cond.selects RX3 yX3_boatAt yX3_boatAt ∈ wsL_law ∧ Cond.initialized RX3 ∈ wsL_law ∧ Cond.code yX3_boatAt cX3_boatAt 2 (some (.object "WindBay$Boat")) ∈ wsL_law := ⟨gw_16_13, gw_16_14, gw_1_19, gw_16_15⟩
theorem gd_X3_boatAt : yX3_boatAt.cls = RX3 ∧ yX3_boatAt.cls ≠ "java/lang/invoke/MethodHandle" ∧ yX3_boatAt.cls ≠ "java/lang/invoke/VarHandle" ∧ (parseMethodDescriptor yX3_boatAt.desc).map (fun d => d.parameters.length) = some 1 := by decide +kernel
set_option maxRecDepth 100000 in
set_option maxHeartbeats 0 in
theorem c_X3_boatAt {l : Launch} {D : va_G} {k : Nat → ClassId} {ad : Nat → Nat} (had : InjN 68 ad) (M : Mem) (o : Nat) (ho : kRace o) (a1 : Int32) : Met l yX3_boatAt (Cond.code yX3_boatAt cX3_boatAt 2 (some (.object "WindBay$Boat")) :: wsL_law) rm_X3_boatAt (va_Pc [.ref (ad o), .int a1] (GW 68 ad D k (cC ad k M))) (va_Qe ad (fun r u => (∀ i, r = some i → kBoat i) ∧ f_X3_boatAt M o a1 = r ∧ u = M) (fun u t => GW 68 ad D k (cC ad k u) t) (AW 68 ad)) 0 0 (AW 68 ad) := by
  refine met_e (g := cC ad k) (M := M) (rt := (.object "WindBay$Boat")) (Or.inl ⟨_, rfl⟩) (plainFor_of_name (by decide)) (Nat.le_of_ble_eq_true rfl) ?_
  intro p e s m args below meth c Q ls hx hb hml hG hown hK hret hP hS hl
  have hl : lv_has ls 2 [(0, .ref (ad o)), (1, .int a1)] := hl
  obtain ⟨V, hV⟩ : ∃ V, f_X3_boatAt M o a1 = V := ⟨_, rfl⟩
  have he := hV
  unfold f_X3_boatAt at he
  refine lv_iload_n hx hb dX3_boatAt_0 rfl (lv_at hl 1 rfl) ?_
  obtain ⟨t_6, hr_2, he⟩ := bnd_ex he
  have j31 : ∀ (H : Heap) (locs : List Loc) (ls : Array Slot), (∀ i, t_6 = some i → kBoat i) → va_P D vwCl (wld 68 ad (cC ad k M)) H → va_S (AW 68 ad) s.heap H locs → lv_has ls 2 [] → W p l e rm_X3_boatAt s m args below meth c H locs 0 0 Q (F0 m 31 ls [va_re ad t_6]) := by
    intro H locs ls zt_6 hP hS hl
    exact hret _ _ _ _ (t_6) _ ⟨zt_6, hV.trans he.symm, rfl⟩ hP hS dX3_boatAt_31
  refine lv_if_lt (tgt := 30) hx hb dX3_boatAt_1 (by decide) (fun hc_1 => ?_) (fun hc_1 => ?_)
  · have hr_2 := ite_t hr_2 hc_1
    refine lv_null hx hb dX3_boatAt_30 ?_
    cases hr_2
    exact j31 _ _ _ (fun _ h => nomatch h) hP hS (lv_sub hl [] rfl)
  · have hr_2 := ite_f hr_2 hc_1
    refine lv_iload_n hx hb dX3_boatAt_4 rfl (lv_at hl 1 rfl) ?_
    refine lv_aload_n hx hb dX3_boatAt_5 rfl (lv_at hl 0 rfl) ?_
    refine gX3_1 hx hb hG hown hK hP ho gw_6_5 dX3_boatAt_6 ?_
    refine lv_icmp_ge (tgt := 30) hx hb dX3_boatAt_9 (by decide) (fun hc_3 => ?_) (fun hc_3 => ?_)
    · have hr_2 := ite_t hr_2 hc_3
      refine lv_null hx hb dX3_boatAt_30 ?_
      cases hr_2
      exact j31 _ _ _ (fun _ h => nomatch h) hP hS (lv_sub hl [] rfl)
    · have hr_2 := ite_f hr_2 hc_3
      refine lv_iload_n hx hb dX3_boatAt_12 rfl (lv_at hl 1 rfl) ?_
      refine lv_aload_n hx hb dX3_boatAt_13 rfl (lv_at hl 0 rfl) ?_
      refine gX3_0 hx hb hG hown hK hP ho gw_3_7 dX3_boatAt_14 ?_
      refine an_kBts hx hb hK hP (kR_bts ho) dX3_boatAt_17 ?_
      refine lv_icmp_ge (tgt := 30) hx hb dX3_boatAt_18 (by decide) (fun hc_4 => ?_) (fun hc_4 => ?_)
      · have hr_2 := ite_t hr_2 hc_4
        refine lv_null hx hb dX3_boatAt_30 ?_
        cases hr_2
        exact j31 _ _ _ (fun _ h => nomatch h) hP hS (lv_sub hl [] rfl)
      · have hr_2 := ite_f hr_2 hc_4
        refine lv_aload_n hx hb dX3_boatAt_21 rfl (lv_at hl 0 rfl) ?_
        refine gX3_0 hx hb hG hown hK hP ho gw_3_7 dX3_boatAt_22 ?_
        refine lv_iload_n hx hb dX3_boatAt_25 rfl (lv_at hl 1 rfl) ?_
        have hn_5 : vp_in a1 4 := (vin_I (by have q0 : 0 ≤ a1.toInt := nlt_I hc_1; have q1 : a1.toInt < (M o 1).toInt := nle_I hc_3; have q2 : a1.toInt < 4 := nle_I hc_4; omega) (by have q0 : 0 ≤ a1.toInt := nlt_I hc_1; have q1 : a1.toInt < (M o 1).toInt := nle_I hc_3; have q2 : a1.toInt < 4 := nle_I hc_4; omega))
        refine al_kBts hx hb hK hP (kR_bts ho) hn_5 dX3_boatAt_26 ?_
        refine lv_goto (tgt := 31) hx hb dX3_boatAt_27 (by decide) ?_
        cases hr_2
        exact j31 _ _ _ (fun _ h => by cases h; exact (kR_boat (kR_bts ho) hn_5)) hP hS (lv_sub hl [] rfl)
