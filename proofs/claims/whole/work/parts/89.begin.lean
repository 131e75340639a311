-- @needs 88_start 87_env0
set_option maxRecDepth 100000
theorem D_two {A : Nat → Prop} {n n2 : Nat} {ad bd : Nat → Nat} {f g : Nat → va_E} (h1 : InjN n ad) (h2 : InjN n2 bd) (hd : ∀ i, i < n → ∀ j, j < n2 → ad i ≠ bd j) (ha : ∀ i, i < n → A (ad i)) (hb : ∀ j, j < n2 → A (bd j)) : va_D A (wld n ad f ++ wld n2 bd g) := by
  have key : ∀ (i : Nat) (q : Nat × va_E), (wld n ad f ++ wld n2 bd g)[i]? = some q → (i < n ∧ q.1 = ad i) ∨ (n ≤ i ∧ i - n < n2 ∧ q.1 = bd (i - n)) := by
    intro i q hi
    by_cases h : i < n
    · rw [List.getElem?_append_left (by rw [wld_len]; exact h)] at hi
      obtain ⟨h1, rfl⟩ := wld_inv hi
      exact Or.inl ⟨h1, rfl⟩
    · rw [List.getElem?_append_right (by rw [wld_len]; omega), wld_len] at hi
      obtain ⟨h2, rfl⟩ := wld_inv hi
      exact Or.inr ⟨by omega, h2, rfl⟩
  refine ⟨fun i j p q hi hj e => ?_, fun i q hi => ?_⟩
  · rcases key i p hi with ⟨a1, a2⟩ | ⟨a1, a2, a3⟩ <;> rcases key j q hj with ⟨b1, b2⟩ | ⟨b1, b2, b3⟩
    · exact h1 i j a1 b1 (a2.symm.trans (e.trans b2))
    · exact absurd (a2.symm.trans (e.trans b3)) (hd i a1 _ b2)
    · exact absurd (b2.symm.trans (e.symm.trans a3)) (hd j b1 _ a2)
    · have := h2 _ _ a2 b2 (a3.symm.trans (e.trans b3)); omega
  · rcases key i q hi with ⟨a1, a2⟩ | ⟨a1, a2, a3⟩
    · rw [a2]; exact ha i a1
    · rw [a3]; exact hb _ a2
theorem start_of {Core : Mem → Mem → Prop} (hsim : S_all Core) (h00 : Core MC0 MM0) (hI0 : MI MM0) (hN0 : SN (MM0 20)) {p : Program} {e : Env} {s : State} {m : MethodId} {below : List Frame} {meth : Method} {c : Code} (l : Launch) (hflags : l.flags = flags0) {b L : Nat} {xs : Nat → Int32} (hL : L ≤ 3072) (C0 : lw_At p s m meth c b L xs) : W p l e room_1 s m #[Value.ref b] below meth c s.heap [] 0 0 (lw_Z below #[Value.ref b] s) (entryFrame m ([Value.ref b] : List Value).toArray 8) := by
  obtain ⟨hx, hb, hr, hml, hown, hts, hX, hbl, hlocks, hgv⟩ := C0
  have hG : ∀ w ∈ wsL_law, w.before #[Value.ref b] s = true := fun w h => hts w (wsL_in w h)
  have hb : c.code = cL_law := hb
  have hown : s.vm.findClass RL = some m.cls := hown
  have hEN := e_EN hts
  have hEV := e_EV hts hgv
  obtain ⟨D, k, hK⟩ := st_K hG hEN.1 hEN.2.1
  have hA : ∀ q : Nat, s.heap.size ≤ q → Ah s q := fun _ h => h
  have hS : va_S (Ah s) s.heap s.heap [] := va_S.rf
  have hP : va_P D vwCl [] s.heap := fun k q h => by simp at h
  have hD : va_D (Ah s) [] := ⟨fun i j p q h => by simp at h, fun k q h => by simp at h⟩
  have hfl : l.stackTraces = false := by
    unfold Launch.stackTraces
    rw [hflags]; rfl
  rw [lg_entry_eq]
  have hl := lv_entry ([Value.ref b]) (n := 8) (Nat.le_of_ble_eq_true rfl)
  generalize (lg_sl ([Value.ref b]) ++ List.replicate (8 - (lg_sl ([Value.ref b])).length) Slot.unset).toArray = ls at hl ⊢
  have hl : lv_has ls 8 [(0, .ref b)] := hl
  refine n_O (k := k) (ci := 6) (fs := [.null, .null, .null, .null, .int 0, .null, .null, .null]) (C := RX6) (T := TX6) (N := 8) hx hb hG inlX6 tyX6 tyX6_ok hown gw_1_0 gw_1_1 gw_1_2 hK hP hD hS hA rfl (fun j hj => by rcases (show j = 0 ∨ j = 1 ∨ j = 2 ∨ j = 3 ∨ j = 4 ∨ j = 5 ∨ j = 6 ∨ j = 7 by omega) with rfl | rfl | rfl | rfl | rfl | rfl | rfl | rfl <;> rfl) 1 8 (Nat.le_of_ble_eq_true rfl) (Nat.le_of_ble_eq_true rfl) (Nat.le_of_ble_eq_true rfl) (Nat.le_of_ble_eq_true rfl) dL_law_0 (fun q H hP hD hS => ?_)
  have hP : va_P D vwCl [(q, .inr (6, [.null, .null, .null, .null, .int 0, .null, .null, .null]))] H := hP
  have hD : va_D (Ah s) [(q, .inr (6, [.null, .null, .null, .null, .int 0, .null, .null, .null]))] := hD
  refine lv_dup hx hb dL_law_3 rfl ?_
  have hqs : s.heap.size ≤ q := hD.2 0 _ rfl
  refine call_n [.ref q] 74 3208 hx hb hml hG hown hK hEN (B := B_X6 D k q) (rm := rn_X6) (mc := 73) (ms := 3200) (n_X6 (h0 := q)) gw_1_7 ⟨gw_1_8, gw_1_2, gw_1_9⟩ rfl (by decide +kernel) rfl rfl ⟨(Nat.le_of_ble_eq_true rfl), (Nat.le_of_ble_eq_true rfl)⟩ (Nat.le_of_ble_eq_true rfl) (Nat.le_of_ble_eq_true rfl) (Nat.le_of_ble_eq_true rfl) (Nat.le_of_ble_eq_true rfl) hP hD hS hA [0] rfl hl.1 rfl (Nat.le_of_ble_eq_true rfl) dL_law_4 (fun u t H1 locs1 ht hB hk1 hS => ?_)
  obtain ⟨ad, ha0, had, haA, hPc⟩ := hB
  rw [ht] at hPc
  have haS : ∀ i, i < 74 → s.heap.size ≤ ad i := fun i hi => by
    rcases haA i hi with ⟨j, e, he⟩ | h
    · have hj : j < 1 := (List.getElem?_eq_some_iff.mp he).1
      obtain rfl : j = 0 := by omega
      cases he
      exact hqs
    · have := hP.kept (fun _ _ _ => rfl)
      exact Nat.le_trans (Nat.le_trans hqs (Nat.le_of_lt (vx_lt hP (k := 0) rfl))) h
  refine va_forget (fun q hq => hS.2.2 q hq) ?_
  have hS : va_S (Ah s) s.heap H1 [] := ⟨hS.1, hS.2.1, fun _ h => absurd h List.not_mem_nil⟩
  subst ha0
  refine lv_astore_n (lv' := [(1, .ref (ad 0)), (0, .ref b)]) hx hb dL_law_7 rfl hl (by decide) rfl (fun ls hl => ?_)
  have hDc : va_D (Ah s) (wld 74 ad (cC ad k MC0)) := wld_D had haS
  have hai : ∀ i, i < 74 → ad i < H1.size := fun i hi => vx_lt hPc (wld_get hi)
  refine n_O (k := k) (ci := 7) (fs := [.int 0, .int 0, .int 0, .int 0, .int 0, .int 0, .null, .int 0, .int 0, .null, .null, .null, .null, .null, .null, .null, .null, .null, .null, .int 0, .null, .int 0, .int 0, .null, .null, .null, .null, .int 0, .null, .int 0, .int 0, .null, .null, .null, .null, .int 0, .int 0, .int 0, .null, .null, .int 0, .int 0, .null, .null, .null, .null, .null, .null, .null, .null]) (C := RX7) (T := TX7) (N := 50) hx hb hG inlX7 tyX7 tyX7_ok hown gw_1_3 gw_1_4 gw_1_5 hK hPc hDc hS hA rfl (fun j hj => by rcases (show j = 0 ∨ j = 1 ∨ j = 2 ∨ j = 3 ∨ j = 4 ∨ j = 5 ∨ j = 6 ∨ j = 7 ∨ j = 8 ∨ j = 9 ∨ j = 10 ∨ j = 11 ∨ j = 12 ∨ j = 13 ∨ j = 14 ∨ j = 15 ∨ j = 16 ∨ j = 17 ∨ j = 18 ∨ j = 19 ∨ j = 20 ∨ j = 21 ∨ j = 22 ∨ j = 23 ∨ j = 24 ∨ j = 25 ∨ j = 26 ∨ j = 27 ∨ j = 28 ∨ j = 29 ∨ j = 30 ∨ j = 31 ∨ j = 32 ∨ j = 33 ∨ j = 34 ∨ j = 35 ∨ j = 36 ∨ j = 37 ∨ j = 38 ∨ j = 39 ∨ j = 40 ∨ j = 41 ∨ j = 42 ∨ j = 43 ∨ j = 44 ∨ j = 45 ∨ j = 46 ∨ j = 47 ∨ j = 48 ∨ j = 49 by omega) with rfl | rfl | rfl | rfl | rfl | rfl | rfl | rfl | rfl | rfl | rfl | rfl | rfl | rfl | rfl | rfl | rfl | rfl | rfl | rfl | rfl | rfl | rfl | rfl | rfl | rfl | rfl | rfl | rfl | rfl | rfl | rfl | rfl | rfl | rfl | rfl | rfl | rfl | rfl | rfl | rfl | rfl | rfl | rfl | rfl | rfl | rfl | rfl | rfl | rfl <;> rfl) 75 3258 (Nat.le_of_ble_eq_true rfl) (Nat.le_of_ble_eq_true rfl) (Nat.le_of_ble_eq_true rfl) (Nat.le_of_ble_eq_true rfl) dL_law_8 (fun q2 H2 hP hD hS => ?_)
  have hPc := P_l hP
  have hPq : va_P D vwCl [(q2, .inr (7, [.int 0, .int 0, .int 0, .int 0, .int 0, .int 0, .null, .int 0, .int 0, .null, .null, .null, .null, .null, .null, .null, .null, .null, .null, .int 0, .null, .int 0, .int 0, .null, .null, .null, .null, .int 0, .null, .int 0, .int 0, .null, .null, .null, .null, .int 0, .int 0, .int 0, .null, .null, .int 0, .int 0, .null, .null, .null, .null, .null, .null, .null, .null]))] H2 := P_r hP
  have e68 : (wld 74 ad (cC ad k MC0) ++ [(q2, .inr (7, [.int 0, .int 0, .int 0, .int 0, .int 0, .int 0, .null, .int 0, .int 0, .null, .null, .null, .null, .null, .null, .null, .null, .null, .null, .int 0, .null, .int 0, .int 0, .null, .null, .null, .null, .int 0, .null, .int 0, .int 0, .null, .null, .null, .null, .int 0, .int 0, .int 0, .null, .null, .int 0, .int 0, .null, .null, .null, .null, .null, .null, .null, .null]))] : va_W)[74]? = some (q2, .inr (7, [.int 0, .int 0, .int 0, .int 0, .int 0, .int 0, .null, .int 0, .int 0, .null, .null, .null, .null, .null, .null, .null, .null, .null, .null, .int 0, .null, .int 0, .int 0, .null, .null, .null, .null, .int 0, .null, .int 0, .int 0, .null, .null, .null, .null, .int 0, .int 0, .int 0, .null, .null, .int 0, .int 0, .null, .null, .null, .null, .null, .null, .null, .null])) := by
    rw [List.getElem?_append_right (by rw [wld_len]; omega), wld_len]; rfl
  have hq2 : ∀ i, i < 74 → ad i ≠ q2 := fun i hi h => by
    have h9 := hD.1 i 74 _ _ (by rw [List.getElem?_append_left (by rw [wld_len]; exact hi)]; exact wld_get hi) e68 h
    omega
  have hai : ∀ i, i < 74 → ad i < H2.size := fun i hi => vx_lt hPc (wld_get hi)
  have hqs2 : s.heap.size ≤ q2 := hD.2 74 _ e68
  refine lv_dup hx hb dL_law_11 rfl ?_
  refine call_n [.ref q2] 105 5191 hx hb hml hG hown hK hEN (B := B_X7 D k q2) (rm := rn_X7) (mc := 30) (ms := 1933) (n_X7 (h0 := q2)) gw_4_6 ⟨gw_4_7, gw_1_5, gw_4_8⟩ rfl (by decide +kernel) rfl rfl ⟨(Nat.le_of_ble_eq_true rfl), (Nat.le_of_ble_eq_true rfl)⟩ (Nat.le_of_ble_eq_true rfl) (Nat.le_of_ble_eq_true rfl) (Nat.le_of_ble_eq_true rfl) (Nat.le_of_ble_eq_true rfl) hPq hD hS hA [74] (by simp only [List.map_cons, List.map_nil, e68]) hl.1 rfl (Nat.le_of_ble_eq_true rfl) dL_law_12 (fun u t H3 locs3 ht hB hk1 hS => ?_)
  obtain ⟨bd, hb0, hbd, hbA, hPm⟩ := hB
  rw [ht] at hPm
  have hb2 : ∀ j, j < 31 → bd j = q2 ∨ H2.size ≤ bd j := fun j hj => by
    rcases hbA j hj with ⟨i, e, he⟩ | h
    · have hi : i < 1 := (List.getElem?_eq_some_iff.mp he).1
      obtain rfl : i = 0 := by omega
      cases he
      exact Or.inl rfl
    · exact Or.inr h
  have hdis : ∀ i, i < 74 → ∀ j, j < 31 → ad i ≠ bd j := fun i hi j hj h => by
    rcases hb2 j hj with h2 | h2
    · exact hq2 i hi (h.trans h2)
    · have := hai i hi; omega
  have hPc : va_P D vwCl (wld 74 ad (cC ad k MC0)) H3 := hPc.kept fun i q hi => by
    obtain ⟨h1, rfl⟩ := wld_inv hi
    refine hk1 _ (hai i h1) fun h => ?_
    rcases h with ⟨j, e, he⟩ | h
    · have hj : j < 1 := (List.getElem?_eq_some_iff.mp he).1
      obtain rfl : j = 0 := by omega
      exact hq2 i h1 (congrArg Prod.fst (Option.some.inj he)).symm
    · exact absurd (hai i h1) (Nat.not_lt.mpr h)
  have hbS : ∀ j, j < 31 → s.heap.size ≤ bd j := fun j hj => by
    rcases hb2 j hj with h2 | h2
    · rw [h2]; exact hqs2
    · exact Nat.le_trans (Nat.le_of_lt (Nat.lt_of_le_of_lt hqs2 (vx_lt hPq (k := 0) rfl))) h2
  refine va_forget (fun q hq => hS.2.2 q hq) ?_
  have hS : va_S (Ah s) s.heap H3 [] := ⟨hS.1, hS.2.1, fun _ h => absurd h List.not_mem_nil⟩
  subst hb0
  refine lv_astore_n (lv' := [(2, .ref (bd 0)), (1, .ref (ad 0)), (0, .ref b)]) hx hb dL_law_15 rfl hl (by decide) rfl (fun ls hl => ?_)
  refine lv_iconst (v := 1) hx hb dL_law_16 (by decide) ?_
  refine n_L (k := k) hx hb hG hK (P_app hPc hPm) (D_two had hbd hdis haS hbS) hS hA 1 (by decide) (by decide) (Nat.le_of_ble_eq_true rfl) 106 5192 (Nat.le_of_ble_eq_true rfl) (Nat.le_of_ble_eq_true rfl) (Nat.le_of_ble_eq_true rfl) (Nat.le_of_ble_eq_true rfl) dL_law_17 (fun o H4 hP hD hS => ?_)
  have hPc := P_l (P_l hP)
  have hPm := P_r (P_l hP)
  have hPo : va_P D vwCl (oW k o fun _ => 0) H4 := P_r hP
  have hlen : (wld 74 ad (cC ad k MC0) ++ wld 31 bd (cM bd k MM0)).length = 105 := by rw [List.length_append, wld_len, wld_len]
  have e99 : ((wld 74 ad (cC ad k MC0) ++ wld 31 bd (cM bd k MM0)) ++ [(o, .inl (k 3, 1, .inr (.inl fun _ => 0)))] : va_W)[105]? = some (o, .inl (k 3, 1, .inr (.inl fun _ => 0))) := by
    rw [List.getElem?_append_right (by rw [hlen]; omega), hlen]; rfl
  have hoa : ∀ i, i < 74 → ad i ≠ o := fun i hi h => by
    have h9 := hD.1 i 105 _ _ (by rw [List.getElem?_append_left (by rw [hlen]; omega), List.getElem?_append_left (by rw [wld_len]; exact hi)]; exact wld_get hi) e99 h
    omega
  have hob : ∀ j, j < 31 → bd j ≠ o := fun j hj h => by
    have h9 := hD.1 (74 + j) 105 _ _ (by rw [List.getElem?_append_left (by rw [hlen]; omega), List.getElem?_append_right (by rw [wld_len]; omega), wld_len, Nat.add_sub_cancel_left]; exact wld_get hj) e99 h
    omega
  refine lv_astore_n (lv' := [(3, .ref o), (2, .ref (bd 0)), (1, .ref (ad 0)), (0, .ref b)]) hx hb dL_law_19 rfl hl (by decide) rfl (fun ls hl => ?_)
  refine lv_iconst (v := 0) hx hb dL_law_20 (by decide) ?_
  refine lv_istore (lv' := [(4, .int (nI (6 * 0))), (3, .ref o), (2, .ref (bd 0)), (1, .ref (ad 0)), (0, .ref b)]) hx hb dL_law_21 hl (by decide) rfl (fun ls hl => ?_)
  have X : LX p l s m meth c b L xs ad bd o D k := ⟨⟨hx, hb, hml, hown, hG, hX, hbl, hL⟩, ⟨hK, hEV, hfl⟩, ⟨had, hbd, fun q h => by obtain ⟨i, hi, rfl⟩ := h; exact haS i hi, fun q h => by obtain ⟨i, hi, rfl⟩ := h; exact hbS i hi, hD.2 105 _ e99⟩, fun j hj h => by obtain ⟨i, hi, h⟩ := h; exact hdis i hi j hj h.symm, fun j hj h => by obtain ⟨i, hi, h⟩ := h; exact hdis j hj i hi h, fun h => by obtain ⟨i, hi, h⟩ := h; exact hoa i hi h.symm, fun h => by obtain ⟨i, hi, h⟩ := h; exact hob i hi h.symm⟩
  exact law_loop X hr hlocks hsim 513 0 rfl (Nat.zero_le _) MC0 MM0 (fun _ => 0) H4 ls h00 hI0 hN0 hPc hPm hPo hS (lv_sub hl [4, 3, 2, 1, 0] rfl)
