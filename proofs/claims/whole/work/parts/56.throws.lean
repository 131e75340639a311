-- @needs 55_throw
set_option maxRecDepth 100000
/-- fail -/
def rm_X4_fail : Room := { frames := 6, cells := 1, slots := 6, locals := 82 }
theorem gm_X4_fail : Cond.instanceMethod yX4_fail ∈ wsL_law ∧ Cond.selects RX4 yX4_fail yX4_fail ∈ wsL_law ∧ Cond.initialized RX4 ∈ wsL_law ∧ Cond.code yX4_fail cX4_fail 1 none ∈ wsL_law := ⟨gw_45_10, gw_45_11, gw_3_17, gw_45_12⟩
theorem gd_X4_fail : yX4_fail.cls = RX4 ∧ yX4_fail.cls ≠ "java/lang/invoke/MethodHandle" ∧ yX4_fail.cls ≠ "java/lang/invoke/VarHandle" ∧ (parseMethodDescriptor yX4_fail.desc).map (fun d => d.parameters.length) = some 0 := by decide +kernel
theorem c_X4_fail {l : Launch} (hfl : l.stackTraces = false) {D : va_G} {k : Nat → ClassId} {ad : Nat → Nat} (had : InjN 74 ad) (M : Mem) (o : Nat) (ho : kSlr o) : vx_Met l yX4_fail (Cond.code yX4_fail cX4_fail 1 none :: wsL_law) rm_X4_fail (va_Pc [.ref (ad o)] (GE 74 ad D k (cC ad k M)))
    (va_Qv (fun u : Mem => u = M ∧ f_X4_hasFailure M o = 0) (fun u t => GW 74 ad D k (cC ad k u) t) (AW 74 ad)) (vx_X (fun u : Mem => u = M ∧ ¬ f_X4_hasFailure M o = 0) (fun E u t => E = eIS ∧ GW 74 ad D k (cC ad k u) t) (AW 74 ad)) 1 6 (AW 74 ad) := by
  refine vx_ofW (cc := cX4_fail) (maxL := 1) (ret := none) (by decide) rfl ?_
  intro p e s m args below meth c s₁ B hml htab hv
  obtain ⟨rfl, ⟨hP, hK⟩, hE⟩ := hv
  have hr := B.returns
  have hts := atoms_spec (ws := Cond.code yX4_fail cX4_fail 1 none :: wsL_law) B.pre
  have hG : ∀ w ∈ wsL_law, w.before _ s = true := fun w h => hts w (List.mem_cons_of_mem _ h)
  have hown := findClass_of_methodNamed B.named
  have hlocks := B.notSynchronized
  have hx := B.exec
  have hb := B.bytes
  rw [lg_entry_eq]
  have hl := lv_entry [Value.ref (ad o)] (n := 1) (Nat.le_of_ble_eq_true rfl)
  generalize (lg_sl [Value.ref (ad o)] ++ List.replicate (1 - (lg_sl [Value.ref (ad o)]).length) Slot.unset).toArray = ls at hl ⊢
  change W p l e rm_X4_fail s m #[Value.ref (ad o)] below meth c s.heap [] 0 0 (vx_MQ below _ _ #[Value.ref (ad o)] s 1 6 (AW 74 ad)) (F0 m 0 ls [])
  have hS : va_S (AW 74 ad) s.heap s.heap [] := va_S.rf
  have hl : lv_has ls 1 [(0, .ref (ad o))] := hl
  refine lv_aload_n hx hb dX4_fail_0 rfl (lv_at hl 0 rfl) ?_
  refine call_i [] [] hx hb hml hG hown hK (c_X4_hasFailure had M o ho) gw_45_14 gm_X4_hasFailure gd_X4_hasFailure rfl rfl ⟨Nat.le_of_ble_eq_true rfl, Nat.le_of_ble_eq_true rfl⟩ ⟨Nat.zero_le _, Nat.zero_le _⟩ (rX4 hK hP ho) hP (fun _ h => h) hS rfl hl.1 rfl (Nat.le_of_ble_eq_true rfl) dX4_fail_1 (fun r u H locs hF hP hS => ?_)
  obtain ⟨-, hF, hu⟩ := hF; rw [hu] at hP; subst hF
  refine lv_if_eq (tgt := 17) hx hb dX4_fail_4 (by decide) (fun hc => ?_) (fun hc => ?_)
  · refine vx_ret (W.widen (Nat.zero_le 1) (Nat.zero_le 6) (W.vret hx hb hr (fun t ht hW => ⟨⟨M, rfl, ⟨rfl, hc⟩, by rw [ht]; exact hP, va_K.moved hW.alike hK⟩, hS.F ht⟩) hS.2.2 dX4_fail_17))
  · exact tw hx hb hfl hown (by decide +kernel) hG hK hE gw_45_13 gw_43_5 hE.2.2.2.2.1 xL2 xA2 hE.2.2.2.1.2.2.2.2.2.1 xG2 hS hP (hl.1.trans hml.symm) dX4_fail_7 dX4_fail_10 dX4_fail_11 dX4_fail_13 dX4_fail_16 (fun x hx => (htab x hx).elim) (Nat.le_of_ble_eq_true rfl) (Nat.le_of_ble_eq_true rfl) (Nat.le_of_ble_eq_true rfl) (Nat.le_of_ble_eq_true rfl) hlocks (Nat.le_of_ble_eq_true rfl) (Nat.le_of_ble_eq_true rfl) (fun t hPt hKt => ⟨M, ⟨rfl, hc⟩, rfl, hPt, hKt⟩)
theorem hasPlace_in {M : Mem} {b : Nat} {a2 : Int32} (h : ¬ f_X5_hasPlace M b a2 = 0) : vp_in a2 100 := by
  unfold f_X5_hasPlace bnd at h
  by_cases h1 : a2 < 0
  · rw [if_pos h1] at h; exact absurd rfl h
  · rw [if_neg h1] at h
    by_cases h2 : M b 3 ≤ a2
    · rw [if_pos h2] at h; exact absurd rfl h
    · rw [if_neg h2] at h
      by_cases h3 : 100 ≤ a2
      · rw [if_pos h3] at h; exact absurd rfl h
      · have q0 : 0 ≤ a2.toInt := nlt_I h1
        have q1 : a2.toInt < 100 := nle_I h3
        exact vin_I q0 q1
/-- what element answers: its exception's number, its value -/
def rm_X6_element : Room := { frames := 6, cells := 1, slots := 6, locals := 82 }
theorem gm_X6_element : Cond.instanceMethod yX6_element ∈ wsL_law ∧ Cond.selects RX6 yX6_element yX6_element ∈ wsL_law ∧ Cond.initialized RX6 ∈ wsL_law ∧ Cond.code yX6_element cX6_element 4 (some .long) ∈ wsL_law := ⟨gw_42_23, gw_43_0, gw_1_2, gw_43_1⟩
theorem gd_X6_element : yX6_element.cls = RX6 ∧ yX6_element.cls ≠ "java/lang/invoke/MethodHandle" ∧ yX6_element.cls ≠ "java/lang/invoke/VarHandle" ∧ (parseMethodDescriptor yX6_element.desc).map (fun d => d.parameters.length) = some 2 := by decide +kernel
theorem c_X6_element {l : Launch} (hfl : l.stackTraces = false) {D : va_G} {k : Nat → ClassId} {ad : Nat → Nat} (had : InjN 74 ad) (M : Mem) (a1 a2 : Int32) : vx_Met l yX6_element (Cond.code yX6_element cX6_element 4 (some .long) :: wsL_law) rm_X6_element (va_Pc [.ref (ad 0), .int a1, .int a2] (GE 74 ad D k (cC ad k M)))
    (va_Ql (fun r (u : Mem) => u = M ∧ eC M a1 a2 = 0 ∧ r = vC M a1 a2) (fun u t => GW 74 ad D k (cC ad k u) t) (AW 74 ad)) (vx_X (fun u : Mem => u = M) (fun E u t => ((E = eIA ∧ eC M a1 a2 = 1) ∨ (E = eIS ∧ eC M a1 a2 = 2)) ∧ GW 74 ad D k (cC ad k u) t) (AW 74 ad)) 1 6 (AW 74 ad) := by
  refine vx_ofW (cc := cX6_element) (maxL := 4) (ret := some .long) (by decide) rfl ?_
  intro p e s m args below meth c s₁ B hml htab hv
  obtain ⟨rfl, ⟨hP, hK⟩, hE⟩ := hv
  have hr := B.returns
  have hts := atoms_spec (ws := Cond.code yX6_element cX6_element 4 (some .long) :: wsL_law) B.pre
  have hG : ∀ w ∈ wsL_law, w.before _ s = true := fun w h => hts w (List.mem_cons_of_mem _ h)
  have hown := findClass_of_methodNamed B.named
  have hlocks := B.notSynchronized
  have hx := B.exec
  have hb := B.bytes
  rw [lg_entry_eq]
  have hl := lv_entry [Value.ref (ad 0), .int a1, .int a2] (n := 4) (Nat.le_of_ble_eq_true rfl)
  generalize (lg_sl [Value.ref (ad 0), .int a1, .int a2] ++ List.replicate (4 - (lg_sl [Value.ref (ad 0), .int a1, .int a2]).length) Slot.unset).toArray = ls at hl ⊢
  change W p l e rm_X6_element s m #[Value.ref (ad 0), .int a1, .int a2] below meth c s.heap [] 0 0 (vx_MQ below _ _ #[Value.ref (ad 0), .int a1, .int a2] s 1 6 (AW 74 ad)) (F0 m 0 ls [])
  have hS : va_S (AW 74 ad) s.heap s.heap [] := va_S.rf
  have hl : lv_has ls 4 [(0, .ref (ad 0)), (1, .int a1), (2, .int a2)] := hl
  obtain ⟨C, hC⟩ : ∃ C, eC M a1 a2 = C := ⟨_, rfl⟩
  have he := hC
  unfold eC at he
  obtain ⟨V, hV⟩ : ∃ V, vC M a1 a2 = V := ⟨_, rfl⟩
  have hv := hV
  unfold vC at hv
  have no : ∀ x ∈ c.exceptionTable.toList, ∀ z : Nat, covers x z = false := fun x hx => (htab x hx).elim
  refine lv_aload_n hx hb dX6_element_0 rfl (lv_at hl 0 rfl) ?_
  refine lv_iload_n hx hb dX6_element_1 rfl (lv_at hl 1 rfl) ?_
  refine call_e [.int a1] [] hx hb hml hG hown hK (c_X6_shelfAt had M a1) gw_7_22 gm_X6_shelfAt gd_X6_shelfAt rfl rfl ⟨Nat.le_of_ble_eq_true rfl, Nat.le_of_ble_eq_true rfl⟩ ⟨Nat.zero_le _, Nat.zero_le _⟩ (rX6 hK hP rfl) hP (fun _ h => h) hS rfl hl.1 rfl (Nat.le_of_ble_eq_true rfl) dX6_element_2 (fun r u H locs hF hP hS => ?_)
  obtain ⟨hz, hF, hu⟩ := hF; rw [hu] at hP
  rcases r with _ | b
  · have he := oel_n he hF
    refine lv_astore_nN (lv' := [(3, .null), (0, .ref (ad 0)), (1, .int a1), (2, .int a2)]) hx hb dX6_element_5 rfl hl (by decide) rfl (fun ls hl => ?_)
    refine lv_aload_nN hx hb dX6_element_6 rfl (lv_at hl 0 rfl) ?_
    refine lv_ifnonnullN hx hb dX6_element_7 ?_
    exact tw hx hb hfl hown (by decide +kernel) hG hK hE gw_43_2 gw_43_3 hE.2.2.2.2.2.1 xL0 xA0 hE.2.2.2.1.2.2.2.2.1 xG0 hS hP (hl.1.trans hml.symm) dX6_element_10 dX6_element_13 dX6_element_14 dX6_element_16 dX6_element_19 (fun x hx => no x hx _) (Nat.le_of_ble_eq_true rfl) (Nat.le_of_ble_eq_true rfl) (Nat.le_of_ble_eq_true rfl) (Nat.le_of_ble_eq_true rfl) hlocks (Nat.le_of_ble_eq_true rfl) (Nat.le_of_ble_eq_true rfl) (fun t hPt hKt => ⟨M, rfl, Or.inl ⟨rfl, hC.trans he.symm⟩, hPt, hKt⟩)
  · have he := oel_s he hF
    have hv := oel_s hv hF
    have hb9 := hz _ rfl
    refine lv_astore_n (lv' := [(3, .ref (ad b)), (0, .ref (ad 0)), (1, .int a1), (2, .int a2)]) hx hb dX6_element_5 rfl hl (by decide) rfl (fun ls hl => ?_)
    refine lv_aload_n hx hb dX6_element_6 rfl (lv_at hl 0 rfl) ?_
    refine lv_ifnonnull (tgt := 20) hx hb dX6_element_7 (by decide) ?_
    refine lv_aload_n hx hb dX6_element_20 rfl (lv_at hl 0 rfl) ?_
    refine gX5_0 hx hb hG hown hK hP hb9 gw_40_20 dX6_element_21 ?_
    refine lv_iconst (v := 2) hx hb dX6_element_24 (by decide) ?_
    refine lv_icmp_eq (tgt := 38) hx hb dX6_element_25 (by decide) (fun hc => ?_) (fun hc => ?_)
    · have he := ite_t he hc
      refine lv_aload_n hx hb dX6_element_38 rfl (lv_at hl 0 rfl) ?_
      refine lv_iload_n hx hb dX6_element_39 rfl (lv_at hl 3 rfl) ?_
      refine call_i [.int a2] [] hx hb hml hG hown hK (c_X5_hasPlace had M b hb9 a2) gw_42_4 gm_X5_hasPlace gd_X5_hasPlace rfl rfl ⟨Nat.le_of_ble_eq_true rfl, Nat.le_of_ble_eq_true rfl⟩ ⟨Nat.zero_le _, Nat.zero_le _⟩ (rX5 hK hP hb9) hP (fun _ h => h) hS rfl hl.1 rfl (Nat.le_of_ble_eq_true rfl) dX6_element_40 (fun r u H locs hF hP hS => ?_)
      obtain ⟨-, hF, hu⟩ := hF; rw [hu] at hP; subst hF
      refine lv_if_ne (tgt := 56) hx hb dX6_element_43 (by decide) (fun hc => ?_) (fun hc => ?_)
      · have he := ite_f he hc
        refine lv_aload_n hx hb dX6_element_56 rfl (lv_at hl 0 rfl) ?_
        refine gX5_4 hx hb hG hown hK hP hb9 gw_7_20 dX6_element_57 ?_
        refine lv_iload_n hx hb dX6_element_60 rfl (lv_at hl 3 rfl) ?_
        have hin : vp_in a2 100 := hasPlace_in hc
        refine al_kA100 hx hb hK hP (kA_elm (kR_elm hb9)) hin dX6_element_61 ?_
        refine lv_i2l (v := V) hx hb dX6_element_62 hv ?_
        refine vx_ret (W.widen (Nat.zero_le 1) (Nat.zero_le 6) (W.lret hx hb hr (fun t ht hW => ⟨⟨V, M, rfl, ⟨rfl, hC.trans he.symm, hV.symm⟩, by rw [ht]; exact hP, va_K.moved hW.alike hK⟩, hS.F ht⟩) hS.2.2 dX6_element_63))
      · have he := ite_t he hc
        exact tw hx hb hfl hown (by decide +kernel) hG hK hE gw_43_4 gw_43_5 hE.2.2.2.2.2.2.2 xL1 xA1 hE.2.2.2.1.2.2.2.2.2.1 xG1 hS hP (hl.1.trans hml.symm) dX6_element_46 dX6_element_49 dX6_element_50 dX6_element_52 dX6_element_55 (fun x hx => no x hx _) (Nat.le_of_ble_eq_true rfl) (Nat.le_of_ble_eq_true rfl) (Nat.le_of_ble_eq_true rfl) (Nat.le_of_ble_eq_true rfl) hlocks (Nat.le_of_ble_eq_true rfl) (Nat.le_of_ble_eq_true rfl) (fun t hPt hKt => ⟨M, rfl, Or.inr ⟨rfl, hC.trans he.symm⟩, hPt, hKt⟩)
    · have he := ite_f he hc
      exact tw hx hb hfl hown (by decide +kernel) hG hK hE gw_43_4 gw_43_5 hE.2.2.2.2.2.2.1 xL1 xA1 hE.2.2.2.1.2.2.2.2.2.1 xG1 hS hP (hl.1.trans hml.symm) dX6_element_28 dX6_element_31 dX6_element_32 dX6_element_34 dX6_element_37 (fun x hx => no x hx _) (Nat.le_of_ble_eq_true rfl) (Nat.le_of_ble_eq_true rfl) (Nat.le_of_ble_eq_true rfl) (Nat.le_of_ble_eq_true rfl) hlocks (Nat.le_of_ble_eq_true rfl) (Nat.le_of_ble_eq_true rfl) (fun t hPt hKt => ⟨M, rfl, Or.inr ⟨rfl, hC.trans he.symm⟩, hPt, hKt⟩)
/-- toss: the throw is caught -/
def rm_X6_toss : Room := { frames := 7, cells := 1, slots := 6, locals := 102 }
theorem toss_tab : tableOf [(23, 30, 33, 246)] = [] ++ ⟨23, 30, 33, 246⟩ :: [] := rfl
theorem c_X6_toss {l : Launch} (hfl : l.stackTraces = false) {D : va_G} {k : Nat → ClassId} {ad : Nat → Nat} (had : InjN 74 ad) (M : Mem) (a1 : Int32) : Met l yX6_toss (Cond.codeWith yX6_toss cX6_toss 5 (some .int) [(23, 30, 33, 246)] :: wsL_law) rm_X6_toss (va_Pc [.ref (ad 0), .int a1] (GE 74 ad D k (cC ad k M))) (va_Qi (fun r u => f_X6_toss M a1 = r ∧ u = M) (fun u t => GW 74 ad D k (cC ad k u) t) (AW 74 ad)) 1 6 (AW 74 ad) := by
  refine va_MetW (cc := cX6_toss) (maxL := 5) (ret := some .int) (hh := [(23, 30, 33, 246)]) (by decide) rfl ?_
  intro p e s m args below meth c s₁ B hml hv
  obtain ⟨rfl, ⟨hP, hK⟩, hE⟩ := hv
  have hr := B.returns
  have hts := atoms_spec (ws := Cond.codeWith yX6_toss cX6_toss 5 (some .int) [(23, 30, 33, 246)] :: wsL_law) B.pre
  have htab : c.exceptionTable.toList = [] ++ ⟨23, 30, 33, 246⟩ :: [] := (vx_table (x := yX6_toss) B (hts _ List.mem_cons_self)).trans toss_tab
  have hG : ∀ w ∈ wsL_law, w.before _ s = true := fun w h => hts w (List.mem_cons_of_mem _ h)
  have hown := findClass_of_methodNamed B.named
  have hlocks := B.notSynchronized
  have hx := B.exec
  have hb := B.bytes
  rw [lg_entry_eq]
  have hl := lv_entry [Value.ref (ad 0), .int a1] (n := 5) (Nat.le_of_ble_eq_true rfl)
  generalize (lg_sl [Value.ref (ad 0), .int a1] ++ List.replicate (5 - (lg_sl [Value.ref (ad 0), .int a1]).length) Slot.unset).toArray = ls at hl ⊢
  change W p l e rm_X6_toss s m #[Value.ref (ad 0), .int a1] below meth c s.heap [] 0 0 (MQ below _ #[Value.ref (ad 0), .int a1] s 1 6 (AW 74 ad)) (F0 m 0 ls [])
  have hS : va_S (AW 74 ad) s.heap s.heap [] := va_S.rf
  have hl : lv_has ls 5 [(0, .ref (ad 0)), (1, .int a1)] := hl
  obtain ⟨V, hV⟩ : ∃ V, f_X6_toss M a1 = V := ⟨_, rfl⟩
  have he := hV
  unfold f_X6_toss at he
  have hret : ∀ (H : Heap) (locs : List Loc) (ls : Array Slot) (pc cs ss : Nat) (r : Int32), cs ≤ 1 → ss ≤ 6 → r = V → va_P D vwCl (wld 74 ad (cC ad k M)) H → va_S (AW 74 ad) s.heap H locs → decode cX6_toss pc = .ok (.ireturn, 1) → W p l e rm_X6_toss s m #[Value.ref (ad 0), .int a1] below meth c H locs cs ss (MQ below (va_Qi (fun r u => f_X6_toss M a1 = r ∧ u = M) (fun u t => GW 74 ad D k (cC ad k u) t) (AW 74 ad)) #[Value.ref (ad 0), .int a1] s 1 6 (AW 74 ad)) (F0 m pc ls [.int r]) := fun H locs ls pc cs ss r h1 h2 hrV hP hS hd =>
    W.widen h1 h2 (W.iret (v := r) hx hb hr (fun t ht hW => ⟨⟨r, M, rfl, ⟨hV.trans hrV.symm, rfl⟩, by rw [ht]; exact hP, va_K.moved hW.alike hK⟩, hS.F ht⟩) hS.2.2 hd)
  refine lv_aload_n hx hb dX6_toss_0 rfl (lv_at hl 0 rfl) ?_
  refine lv_iload_n hx hb dX6_toss_1 rfl (lv_at hl 1 rfl) ?_
  refine call_e [.int a1] [] hx hb hml hG hown hK (c_X6_shelfAt had M a1) gw_7_22 gm_X6_shelfAt gd_X6_shelfAt rfl rfl ⟨Nat.le_of_ble_eq_true rfl, Nat.le_of_ble_eq_true rfl⟩ ⟨Nat.zero_le _, Nat.zero_le _⟩ (rX6 hK hP rfl) hP (fun _ h => h) hS rfl hl.1 rfl (Nat.le_of_ble_eq_true rfl) dX6_toss_2 (fun r u H locs hF hP hS => ?_)
  obtain ⟨hz, hF, hu⟩ := hF; rw [hu] at hP
  rcases r with _ | b
  · have he := oel_n he hF
    refine lv_astore_nN (lv' := [(2, .null), (0, .ref (ad 0)), (1, .int a1)]) hx hb dX6_toss_5 rfl hl (by decide) rfl (fun ls hl => ?_)
    refine lv_aload_nN hx hb dX6_toss_6 rfl (lv_at hl 0 rfl) ?_
    refine lv_ifnonnullN hx hb dX6_toss_7 ?_
    refine lv_iconst (v := -1) hx hb dX6_toss_10 (by decide) ?_
    exact hret _ _ _ _ _ _ _ (Nat.zero_le _) (Nat.zero_le _) he hP hS dX6_toss_11
  · have he := oel_s he hF
    have hb9 := hz _ rfl
    refine lv_astore_n (lv' := [(2, .ref (ad b)), (0, .ref (ad 0)), (1, .int a1)]) hx hb dX6_toss_5 rfl hl (by decide) rfl (fun ls hl => ?_)
    refine lv_aload_n hx hb dX6_toss_6 rfl (lv_at hl 0 rfl) ?_
    refine lv_ifnonnull (tgt := 12) hx hb dX6_toss_7 (by decide) ?_
    refine lv_aload_n hx hb dX6_toss_12 rfl (lv_at hl 0 rfl) ?_
    refine call_i [] [] hx hb hml hG hown hK (c_X5_sailorRefusal had M b hb9) gw_44_10 gm_X5_sailorRefusal gd_X5_sailorRefusal rfl rfl ⟨Nat.le_of_ble_eq_true rfl, Nat.le_of_ble_eq_true rfl⟩ ⟨Nat.zero_le _, Nat.zero_le _⟩ (rX5 hK hP hb9) hP (fun _ h => h) hS rfl hl.1 rfl (Nat.le_of_ble_eq_true rfl) dX6_toss_13 (fun r u H locs hF hP hS => ?_)
    obtain ⟨hF, hu⟩ := hF; rw [hu] at hP; subst hF
    refine lv_istore_n (lv' := [(3, .int (f_X5_sailorRefusal M b)), (2, .ref (ad b)), (0, .ref (ad 0)), (1, .int a1)]) hx hb dX6_toss_16 rfl hl (by decide) rfl (fun ls hl => ?_)
    refine lv_iload_n hx hb dX6_toss_17 rfl (lv_at hl 0 rfl) ?_
    refine lv_if_eq (tgt := 23) hx hb dX6_toss_18 (by decide) (fun hc => ?_) (fun hc => ?_)
    · have he := ite_t he hc
      refine lv_aload_n hx hb dX6_toss_23 rfl (lv_at hl 1 rfl) ?_
      refine gX5_1 hx hb hG hown hK hP hb9 gw_44_9 dX6_toss_24 ?_
      have hEH := hE.kept hS.2.1
      have hlz := hl.1
      refine vx_callv (A1 := AW 74 ad) (vx_runV (As := []) (rest := []) ⟨hx, hb, hml, hown, hG⟩ (c_X4_fail hfl had M (b + 8) (kR_slr2 hb9)) (cwV 0 hG (good_V gw_45_9 gm_X4_fail) rfl rfl rfl gd_X4_fail ⟨Nat.le_of_ble_eq_true rfl, Nat.le_of_ble_eq_true rfl⟩) ⟨GE_blind _, rX4 hK hP (kR_slr2 hb9), fun U hU hW => ⟨rfl, ⟨by rw [hU]; exact hP, va_K.moved hW.alike hK⟩, by rw [hU]; exact hEH.warm hW⟩⟩ rfl rfl hl.1 rfl (lv_room (m := m) (pc := 27) (ls := ls) (rest := []) (Nat.le_of_ble_eq_true rfl)) dX6_toss_27 ⟨Nat.le_of_ble_eq_true rfl, Nat.le_of_ble_eq_true rfl⟩) hS (fun q _ h => h) (fun _ h => h) (fun q _ h => h) (fun E ce q9 u t H1 locs1 ht ha hp hB hz1 hk1 hS1 hce hcv hcl => ?_) (fun u t H1 locs1 ht ha hp hB hz1 hk1 hS1 => ?_)
      · obtain ⟨rfl, hn⟩ := hp
        obtain ⟨rfl, hP1, -⟩ := hB
        rw [ht] at hP1
        have he := ite_f he hn
        refine vx_catch (own := RX6) (name := eIS) hown [] ⟨23, 30, 33, 246⟩ [] htab (fun z hz => absurd hz List.not_mem_nil) (by decide) (by decide) (hG _ gw_43_4) (va_Nw.use rfl hE.2.2.2.1.2.2.2.2.2.1) hce hcv hcl ?_
        refine lv_astore (lv' := [(4, .ref q9), (3, .int (f_X5_sailorRefusal u b)), (2, .ref (ad b)), (0, .ref (ad 0)), (1, .int a1)]) hx hb dX6_toss_33 hl (by decide) rfl (fun ls hl => ?_)
        refine lv_aload_n hx hb dX6_toss_35 rfl (lv_at hl 2 rfl) ?_
        refine gX5_1 hx hb hG hown hK hP1 hb9 gw_44_9 dX6_toss_36 ?_
        refine call_i [] [] hx hb hml hG hown hK (c_X4_failureNumber had u (b + 8) (kR_slr2 hb9)) gw_45_18 gm_X4_failureNumber gd_X4_failureNumber rfl rfl ⟨Nat.le_of_ble_eq_true rfl, Nat.le_of_ble_eq_true rfl⟩ ⟨Nat.le_of_ble_eq_true rfl, Nat.le_of_ble_eq_true rfl⟩ (rX4 hK hP1 (kR_slr2 hb9)) hP1 (fun _ h => h) hS1 rfl hl.1 rfl (Nat.le_of_ble_eq_true rfl) dX6_toss_39 (fun r u2 H locs hF hP hS => ?_)
        obtain ⟨hF, hu⟩ := hF; rw [hu] at hP; subst hF
        exact hret _ _ _ _ _ _ _ (Nat.le_of_ble_eq_true rfl) (Nat.le_of_ble_eq_true rfl) he hP hS dX6_toss_42
      · obtain ⟨rfl, hn⟩ := hp
        obtain ⟨hP1, -⟩ := hB
        rw [ht] at hP1
        have he := ite_t he hn
        refine lv_goto (tgt := 43) hx hb dX6_toss_30 (by decide) ?_
        refine lv_bipush (v := -15) hx hb dX6_toss_43 (by decide) ?_
        exact hret _ _ _ _ _ _ _ (Nat.le_of_ble_eq_true rfl) (Nat.le_of_ble_eq_true rfl) he hP1 hS1 dX6_toss_45
    · have he := ite_f he hc
      refine lv_iload_n hx hb dX6_toss_21 rfl (lv_at hl 0 rfl) ?_
      exact hret _ _ _ _ _ _ _ (Nat.zero_le _) (Nat.zero_le _) he hP hS dX6_toss_22
theorem P_app {D : va_G} {a b : va_W} {H : Heap} (ha : va_P D vwCl a H) (hb : va_P D vwCl b H) : va_P D vwCl (a ++ b) H := fun i q hi => by
  by_cases h : i < a.length
  · rw [List.getElem?_append_left h] at hi; exact ha i q hi
  · rw [List.getElem?_append_right (Nat.le_of_not_lt h)] at hi; exact hb _ q hi
theorem P_l {D : va_G} {a b : va_W} {H : Heap} (h : va_P D vwCl (a ++ b) H) : va_P D vwCl a H := fun i q hi => h i q (by rw [List.getElem?_append_left (List.getElem?_eq_some_iff.mp hi).1]; exact hi)
theorem P_r {D : va_G} {a b : va_W} {H : Heap} (h : va_P D vwCl (a ++ b) H) : va_P D vwCl b H := fun i q hi => h (a.length + i) q (by rw [List.getElem?_append_right (Nat.le_add_right _ _), Nat.add_sub_cancel_left]; exact hi)
theorem wld_len {n : Nat} {ad : Nat → Nat} {f : Nat → va_E} : (wld n ad f).length = n := by simp [wld]
theorem D_wo {ad : Nat → Nat} (had : InjN 74 ad) {f : Nat → va_E} {o : Nat} {x : va_E} (ho : ¬ AW 74 ad o) : va_D (fun q => AW 74 ad q ∨ q = o) (wld 74 ad f ++ [(o, x)]) := by
  have key : ∀ (i : Nat) (q : Nat × va_E), (wld 74 ad f ++ [(o, x)])[i]? = some q → (i < 74 ∧ q.1 = ad i) ∨ (i = 74 ∧ q.1 = o) := by
    intro i q hi
    by_cases h : i < 74
    · rw [List.getElem?_append_left (by rw [wld_len]; exact h)] at hi
      obtain ⟨h1, rfl⟩ := wld_inv hi
      exact Or.inl ⟨h1, rfl⟩
    · rw [List.getElem?_append_right (by rw [wld_len]; omega), wld_len] at hi
      have h2 := (List.getElem?_eq_some_iff.mp hi).1
      simp at h2
      obtain rfl : i = 74 := by omega
      cases hi
      exact Or.inr ⟨rfl, rfl⟩
  refine ⟨fun i j p q hi hj e => ?_, fun i q hi => ?_⟩
  · rcases key i p hi with ⟨h1, h2⟩ | ⟨h1, h2⟩ <;> rcases key j q hj with ⟨h3, h4⟩ | ⟨h3, h4⟩
    · exact had i j h1 h3 (h2.symm.trans (e.trans h4))
    · exact absurd ⟨i, h1, (h4.symm.trans e.symm).trans h2⟩ ho
    · exact absurd ⟨j, h3, (h2.symm.trans e).trans h4⟩ ho
    · omega
  · rcases key i q hi with ⟨h1, h2⟩ | ⟨h1, h2⟩
    · exact Or.inl ⟨i, h1, h2⟩
    · exact Or.inr h2
/-- the law's own element -/
def AO (ad : Nat → Nat) (o : Nat) : Nat → Prop := fun q => AW 74 ad q ∨ q = o
def rm_L_element : Room := { frames := 7, cells := 1, slots := 6, locals := 105 }
theorem el_tab : tableOf [(0, 9, 12, 13), (0, 9, 16, 15)] = [⟨0, 9, 12, 13⟩, ⟨0, 9, 16, 15⟩] := rfl
def oW (k : Nat → ClassId) (o : Nat) (f : Nat → Int64) : va_W := [(o, .inl (k 3, 1, .inr (.inl f)))]
theorem c_L_element {l : Launch} (hfl : l.stackTraces = false) {D : va_G} {k : Nat → ClassId} {ad : Nat → Nat} (had : InjN 74 ad) (M : Mem) (a1 a2 : Int32) {o : Nat} (ho : ¬ AW 74 ad o) (f : Nat → Int64) : Met l yL_element (Cond.codeWith yL_element cL_element 5 (some .int) [(0, 9, 12, 13), (0, 9, 16, 15)] :: wsL_law) rm_L_element (va_Pc [.ref (ad 0), .int a1, .int a2, .ref o] (fun U => GE 74 ad D k (cC ad k M) U ∧ va_P D vwCl (oW k o f) U.heap)) (va_Qi (fun r (g : Nat → Int64) => r = eC M a1 a2 ∧ (r = 0 → g 0 = vC M a1 a2)) (fun g t => GW 74 ad D k (cC ad k M) t ∧ va_P D vwCl (oW k o g) t.heap) (AO ad o)) 1 6 (AO ad o) := by
  refine va_MetW (cc := cL_element) (maxL := 5) (ret := some .int) (hh := [(0, 9, 12, 13), (0, 9, 16, 15)]) (by decide) rfl ?_
  intro p e s m args below meth c s₁ B hml hv
  obtain ⟨rfl, ⟨⟨hP, hK⟩, hE⟩, hPo⟩ := hv
  have hr := B.returns
  have hts := atoms_spec (ws := Cond.codeWith yL_element cL_element 5 (some .int) [(0, 9, 12, 13), (0, 9, 16, 15)] :: wsL_law) B.pre
  have htab : c.exceptionTable.toList = [⟨0, 9, 12, 13⟩, ⟨0, 9, 16, 15⟩] := (vx_table (x := yL_element) B (hts _ List.mem_cons_self)).trans el_tab
  have hG : ∀ w ∈ wsL_law, w.before _ s = true := fun w h => hts w (List.mem_cons_of_mem _ h)
  have hown := findClass_of_methodNamed B.named
  have hlocks := B.notSynchronized
  have hx := B.exec
  have hb := B.bytes
  rw [lg_entry_eq]
  have hl := lv_entry [Value.ref (ad 0), .int a1, .int a2, .ref o] (n := 5) (Nat.le_of_ble_eq_true rfl)
  generalize (lg_sl [Value.ref (ad 0), .int a1, .int a2, .ref o] ++ List.replicate (5 - (lg_sl [Value.ref (ad 0), .int a1, .int a2, .ref o]).length) Slot.unset).toArray = ls at hl ⊢
  change W p l e rm_L_element s m #[Value.ref (ad 0), .int a1, .int a2, .ref o] below meth c s.heap [] 0 0 (MQ below _ #[Value.ref (ad 0), .int a1, .int a2, .ref o] s 1 6 (AO ad o)) (F0 m 0 ls [])
  have hS : va_S (AO ad o) s.heap s.heap [] := va_S.rf
  have hl : lv_has ls 5 [(0, .ref (ad 0)), (1, .int a1), (2, .int a2), (3, .ref o)] := hl
  have hret : ∀ (H : Heap) (locs : List Loc) (ls : Array Slot) (pc : Nat) (r : Int32) (g : Nat → Int64), r = eC M a1 a2 → (r = 0 → g 0 = vC M a1 a2) → va_P D vwCl (wld 74 ad (cC ad k M)) H → va_P D vwCl (oW k o g) H → va_S (AO ad o) s.heap H locs → decode cL_element pc = .ok (.ireturn, 1) → W p l e rm_L_element s m #[Value.ref (ad 0), .int a1, .int a2, .ref o] below meth c H locs 1 6 (MQ below (va_Qi (fun r (g : Nat → Int64) => r = eC M a1 a2 ∧ (r = 0 → g 0 = vC M a1 a2)) (fun g t => GW 74 ad D k (cC ad k M) t ∧ va_P D vwCl (oW k o g) t.heap) (AO ad o)) #[Value.ref (ad 0), .int a1, .int a2, .ref o] s 1 6 (AO ad o)) (F0 m pc ls [.int r]) := fun H locs ls pc r g h1 h2 hP hPo hS hd =>
    W.iret (v := r) hx hb hr (fun t ht hW => ⟨⟨r, g, rfl, ⟨h1, h2⟩, ⟨by rw [ht]; exact hP, va_K.moved hW.alike hK⟩, by rw [ht]; exact hPo⟩, hS.F ht⟩) hS.2.2 hd
  refine lv_aload_n hx hb dL_element_0 rfl (lv_at hl 3 rfl) ?_
  refine lv_iconst (v := 0) hx hb dL_element_1 (by decide) ?_
  refine lv_aload_n hx hb dL_element_2 rfl (lv_at hl 0 rfl) ?_
  refine lv_iload_n hx hb dL_element_3 rfl (lv_at hl 1 rfl) ?_
  refine lv_iload_n hx hb dL_element_4 rfl (lv_at hl 2 rfl) ?_
  refine vx_calll (A1 := AW 74 ad) (vx_runV (As := [.int a1, .int a2]) (rest := [.int 0, .ref o]) ⟨hx, hb, hml, hown, hG⟩ (c_X6_element hfl had M a1 a2) (cwV 2 hG (good_V gw_42_22 gm_X6_element) rfl rfl rfl gd_X6_element ⟨Nat.le_of_ble_eq_true rfl, Nat.le_of_ble_eq_true rfl⟩) ⟨GE_blind _, rX6 hK hP rfl, fun U hU hW => ⟨rfl, ⟨by rw [hU]; exact hP, va_K.moved hW.alike hK⟩, by rw [hU]; exact hE.warm hW⟩⟩ rfl rfl hl.1 rfl (lv_room (m := m) (pc := 5) (ls := ls) (rest := [.int 0, .ref o]) (Nat.le_of_ble_eq_true rfl)) dL_element_5 ⟨Nat.le_of_ble_eq_true rfl, Nat.le_of_ble_eq_true rfl⟩) hS (fun q _ h => Or.inl h) (fun _ h => Or.inl h) (fun q _ h => Or.inl h) (fun E ce q9 u t H1 locs1 ht ha hp hB hz1 hk1 hS1 hce hcv hcl => ?_) (fun r u t H1 locs1 ht ha hp hB hz1 hk1 hS1 => ?_)
  · subst hp
    obtain ⟨hc, hP1, -⟩ := hB
    rw [ht] at hP1
    have hPo1 : va_P D vwCl (oW k o f) H1 := hPo.kept fun i q hi => hk1 q.1 (vx_lt hPo hi) (by
      have : i < 1 := (List.getElem?_eq_some_iff.mp hi).1
      obtain rfl : i = 0 := by omega
      cases hi
      exact ho)
    rcases hc with ⟨rfl, hc⟩ | ⟨rfl, hc⟩
    · refine vx_catch (own := RL) (name := eIA) hown [] ⟨0, 9, 12, 13⟩ [⟨0, 9, 16, 15⟩] htab (fun z hz => absurd hz List.not_mem_nil) (by decide) (by decide) (hG _ gw_42_20) (va_Nw.use rfl hE.2.2.2.1.2.2.2.2.1) hce hcv hcl ?_
      refine lv_astore (lv' := [(4, .ref q9), (0, .ref (ad 0)), (1, .int a1), (2, .int a2), (3, .ref o)]) hx hb dL_element_12 hl (by decide) rfl (fun ls hl => ?_)
      refine lv_iconst (v := 1) hx hb dL_element_14 (by decide) ?_
      exact hret _ _ _ _ _ _ hc.symm (fun h => absurd h (by decide)) hP1 hPo1 hS1 dL_element_15
    · refine vx_catch (own := RL) (name := eIS) hown [⟨0, 9, 12, 13⟩] ⟨0, 9, 16, 15⟩ [] htab (fun z hz => Or.inr ?_) (by decide) (by decide) (hG _ gw_42_21) (va_Nw.use rfl hE.2.2.2.1.2.2.2.2.2.1) hce hcv hcl ?_
      · obtain rfl := List.mem_singleton.mp hz
        exact ⟨by decide, eIA, hG _ gw_42_20, hE.2.2.2.1.2.2.2.2.2.2⟩
      · refine lv_astore (lv' := [(4, .ref q9), (0, .ref (ad 0)), (1, .int a1), (2, .int a2), (3, .ref o)]) hx hb dL_element_16 hl (by decide) rfl (fun ls hl => ?_)
        refine lv_iconst (v := 2) hx hb dL_element_18 (by decide) ?_
        exact hret _ _ _ _ _ _ hc.symm (fun h => absurd h (by decide)) hP1 hPo1 hS1 dL_element_19
  · obtain ⟨rfl, hc, hv⟩ := hp
    obtain ⟨hP1, -⟩ := hB
    rw [ht] at hP1
    have hPo1 : va_P D vwCl (oW k o f) H1 := hPo.kept fun i q hi => hk1 q.1 (vx_lt hPo hi) (by
      have : i < 1 := (List.getElem?_eq_some_iff.mp hi).1
      obtain rfl : i = 0 := by omega
      cases hi
      exact ho)
    have e68 : (wld 74 ad (cC ad k u) ++ oW k o f)[74]? = some (o, .inl (k 3, 1, .inr (.inl f))) := by
      rw [List.getElem?_append_right (by rw [wld_len]; omega), wld_len]; rfl
    refine va_last hx hb hK (P_app hP1 hPo1) (D_wo had ho) hS1 74 3 e68 rfl (vin_I (by decide) (by decide)) dL_element_8 (fun H2 locs2 hP2 _ hS2 => ?_)
    have hset : (wld 74 ad (cC ad k u) ++ oW k o f).set 74 (o, .inl (k 3, 1, .inr (.inl (vp_updL f (0 : Int32).toNatClampNeg r)))) = wld 74 ad (cC ad k u) ++ oW k o (vp_updL f (0 : Int32).toNatClampNeg r) := by
      rw [List.set_append_right _ _ (by rw [wld_len]; omega), wld_len]; rfl
    rw [hset] at hP2
    refine lv_goto (tgt := 20) hx hb dL_element_9 (by decide) ?_
    refine lv_iconst (v := 0) hx hb dL_element_20 (by decide) ?_
    exact hret _ _ _ _ _ (vp_updL f (0 : Int32).toNatClampNeg r) hc.symm (fun _ => by rw [← hv]; exact pk_uLs) (P_l hP2) (P_r hP2) hS2 dL_element_21
