-- @needs 85_skel
set_option maxRecDepth 100000
/-- all that the pure layer owes -/
def S_all (Core : Mem → Mem → Prop) : Prop := S_set Core ∧ S_fault Core ∧ S_law Core ∧ S_wind Core ∧ S_boat Core ∧ S_of Core ∧ S_badAir Core ∧ S_go Core ∧ S_turn Core ∧ S_anew Core ∧ S_place Core ∧ S_ends Core ∧ S_tacks Core ∧ S_best Core ∧ S_sides Core ∧ S_lead Core ∧ S_safe Core ∧ S_answer Core ∧ S_cover Core ∧ S_which Core ∧ S_read Core ∧ S_worth Core ∧ S_pairs Core ∧ S_image Core ∧ S_restore Core ∧ S_count Core ∧ S_keep Core ∧ S_row Core ∧ S_put Core ∧ S_element Core ∧ S_copy Core ∧ S_skill Core ∧ S_toss Core ∧ ∀ C R : Mem, Core C R → ∀ i : Nat, kShf i → 0 ≤ (C i 3).toInt ∧ (C i 3).toInt ≤ 100
theorem l_sw {x : Int32} (h0 : ¬ x.toInt < 0) (h1 : ¬ 32 < x.toInt) : ∃ n : Nat, n < 33 ∧ x.toInt = n := ⟨x.toInt.toNat, by omega, by omega⟩
theorem l_head {j L : Nat} (hL : L ≤ 3072) (hj : 6 * j ≤ L) (h : ¬ Int32.ofNat L - 6 < nI (6 * j)) : 6 * j + 6 ≤ L := by
  have h1 : (nI (6 * j)).toInt = (6 * j : Nat) := nI_toInt (by omega)
  have h2 : (Int32.ofNat L).toInt = (L : Nat) := nI_toInt (n := L) (by omega)
  have h3 : (Int32.ofNat L - 6).toInt = (L : Int) - 6 := by
    rw [Int32.toInt_sub, h2]
    have : ((L : Int) - (6 : Int32).toInt).bmod (2 ^ 32) = (L : Int) - 6 := by
      have h6 : (6 : Int32).toInt = 6 := rfl
      rw [h6]
      exact Int.bmod_eq_of_le (by omega) (by omega)
    exact this
  have h4 : ¬ (Int32.ofNat L - 6).toInt < (nI (6 * j)).toInt := fun q => h (Int32.lt_iff_toInt_lt.mpr q)
  omega
theorem law_sw {Core : Mem → Mem → Prop} {p : Program} {l : Launch} {e : Env} {s : State} {m : MethodId} {below : List Frame} {meth : Method} {c : Code} {b L : Nat} {xs : Nat → Int32} {ad bd : Nat → Nat} {o : Nat} {D : va_G} {k : Nat → ClassId} {Q : State → Prop} (X : LX p l s m meth c b L xs ad bd o D k) {j : Nat} (hj : 6 * j + 6 ≤ L) (hsim : S_all Core) (K : LG Core p l e s m below meth c b ad bd o D k Q j (106 + (j + 1)) (5192 + 6 * (j + 1)) 1451) (C R : Mem) (f : Nat → Int64) (H : Heap) (ls : Array Slot) (hC : Core C R) (hI : MI R) (hN : SN (R 20)) (hPc : va_P D vwCl (wld 74 ad (cC ad k C)) H) (hPm : va_P D vwCl (wld 31 bd (cM bd k R)) H) (hPo : va_P D vwCl (oW k o f) H) (hS : va_S (Ah s) s.heap H []) (hl : lv_has ls 8 [(0, .ref b), (1, .ref (ad 0)), (2, .ref (bd 0)), (3, .ref o), (4, .int (nI (6 * j)))]) (x : Int32) : W p l e room_1 s m #[Value.ref b] below meth c H [] (106 + j) (5192 + 6 * j) Q (F0 m 40 ls [.int x]) := by
  have hx := X.1.1
  have hb := X.1.2.1
  by_cases hn : x.toInt < 0 ∨ 32 < x.toInt
  · refine lv_tableOut (tgt := 1451) hx hb dL_law_40 hn (by decide) ?_
    exact W.widen (by omega) (by omega) (K C R f H ls hC hI hN hPc hPm hPo hS hl)
  · have h0 : ¬ x.toInt < 0 := fun h => hn (Or.inl h)
    have h1 : ¬ 32 < x.toInt := fun h => hn (Or.inr h)
    obtain ⟨n, hn33, hxn⟩ := l_sw h0 h1
    obtain ⟨h_set, h_fault, h_law, h_wind, h_boat, h_of, h_badAir, h_go, h_turn, h_anew, h_place, h_ends, h_tacks, h_best, h_sides, h_lead, h_safe, h_answer, h_cover, h_which, h_read, h_worth, h_pairs, h_image, h_restore, h_count, h_keep, h_row, h_put, h_element, h_copy, h_skill, h_toss, hcp⟩ := hsim
    have key : ∀ (off : Int) (tgt : Nat), (#[148, 185, 210, 235, 260, 337, 374, 399, 424, 449, 462, 487, 512, 577, 642, 655, 728, 789, 850, 911, 936, 973, 1010, 1023, 1036, 1049, 1074, 1123, 1172, 1221, 1288, 1361, 1386] : Array Int)[n]? = some off → ((40 : Nat) : Int) + off = (tgt : Int) → W p l e room_1 s m #[Value.ref b] below meth c H [] (106 + j) (5192 + 6 * j) Q (F0 m tgt ls []) → W p l e room_1 s m #[Value.ref b] below meth c H [] (106 + j) (5192 + 6 * j) Q (F0 m 40 ls [.int x]) := fun off tgt ho ht kk => lv_tableIn (tgt := tgt) (off := off) hx hb dL_law_40 h0 h1 (by rw [hxn, Int.sub_zero, Int.toNat_natCast]; exact ho) ht kk
    match n, hn33 with
    | 0, _ => exact key 148 188 rfl (by decide) (lc_set X hj h_set K C R f H ls hC hI hN hPc hPm hPo hS hl)
    | 1, _ => exact key 185 225 rfl (by decide) (lc_fault X hj h_fault K C R f H ls hC hI hN hPc hPm hPo hS hl)
    | 2, _ => exact key 210 250 rfl (by decide) (lc_law X hj h_law K C R f H ls hC hI hN hPc hPm hPo hS hl)
    | 3, _ => exact key 235 275 rfl (by decide) (lc_wind X hj h_wind K C R f H ls hC hI hN hPc hPm hPo hS hl)
    | 4, _ => exact key 260 300 rfl (by decide) (lc_boat X hj h_boat K C R f H ls hC hI hN hPc hPm hPo hS hl)
    | 5, _ => exact key 337 377 rfl (by decide) (lc_of X hj h_of K C R f H ls hC hI hN hPc hPm hPo hS hl)
    | 6, _ => exact key 374 414 rfl (by decide) (lc_badAir X hj h_badAir K C R f H ls hC hI hN hPc hPm hPo hS hl)
    | 7, _ => exact key 399 439 rfl (by decide) (lc_go X hj h_go K C R f H ls hC hI hN hPc hPm hPo hS hl)
    | 8, _ => exact key 424 464 rfl (by decide) (lc_turn X hj h_turn K C R f H ls hC hI hN hPc hPm hPo hS hl)
    | 9, _ => exact key 449 489 rfl (by decide) (lc_anew X hj h_anew K C R f H ls hC hI hN hPc hPm hPo hS hl)
    | 10, _ => exact key 462 502 rfl (by decide) (lc_place X hj h_place K C R f H ls hC hI hN hPc hPm hPo hS hl)
    | 11, _ => exact key 487 527 rfl (by decide) (lc_ends X hj h_ends K C R f H ls hC hI hN hPc hPm hPo hS hl)
    | 12, _ => exact key 512 552 rfl (by decide) (lc_tacks X hj h_tacks K C R f H ls hC hI hN hPc hPm hPo hS hl)
    | 13, _ => exact key 577 617 rfl (by decide) (lc_best X hj h_best K C R f H ls hC hI hN hPc hPm hPo hS hl)
    | 14, _ => exact key 642 682 rfl (by decide) (lc_sides X hj h_sides K C R f H ls hC hI hN hPc hPm hPo hS hl)
    | 15, _ => exact key 655 695 rfl (by decide) (lc_lead X hj h_lead K C R f H ls hC hI hN hPc hPm hPo hS hl)
    | 16, _ => exact key 728 768 rfl (by decide) (lc_safe X hj h_safe K C R f H ls hC hI hN hPc hPm hPo hS hl)
    | 17, _ => exact key 789 829 rfl (by decide) (lc_answer X hj h_answer K C R f H ls hC hI hN hPc hPm hPo hS hl)
    | 18, _ => exact key 850 890 rfl (by decide) (lc_cover X hj h_cover K C R f H ls hC hI hN hPc hPm hPo hS hl)
    | 19, _ => exact key 911 951 rfl (by decide) (lc_which X hj h_which K C R f H ls hC hI hN hPc hPm hPo hS hl)
    | 20, _ => exact key 936 976 rfl (by decide) (lc_read X hj h_read K C R f H ls hC hI hN hPc hPm hPo hS hl)
    | 21, _ => exact key 973 1013 rfl (by decide) (lc_worth X hj h_worth K C R f H ls hC hI hN hPc hPm hPo hS hl)
    | 22, _ => exact key 1010 1050 rfl (by decide) (lc_pairs X hj h_pairs K C R f H ls hC hI hN hPc hPm hPo hS hl)
    | 23, _ => exact key 1023 1063 rfl (by decide) (lc_image X hj h_image K C R f H ls hC hI hN hPc hPm hPo hS hl)
    | 24, _ => exact key 1036 1076 rfl (by decide) (lc_restore X hj h_restore K C R f H ls hC hI hN hPc hPm hPo hS hl)
    | 25, _ => exact key 1049 1089 rfl (by decide) (lc_count X hj h_count K C R f H ls hC hI hN hPc hPm hPo hS hl)
    | 26, _ => exact key 1074 1114 rfl (by decide) (lc_keep X hj h_keep K C R f H ls hC hI hN hPc hPm hPo hS hl)
    | 27, _ => exact key 1123 1163 rfl (by decide) (lc_row X hj h_row K C R f H ls hC hI hN hPc hPm hPo hS hl)
    | 28, _ => exact key 1172 1212 rfl (by decide) (lc_put X hj h_put K C R f H ls hC hI hN hPc hPm hPo hS hl)
    | 29, _ => exact key 1221 1261 rfl (by decide) (lc_element X hj h_element K C R f H ls hC hI hN hPc hPm hPo hS hl)
    | 30, _ => exact key 1288 1328 rfl (by decide) (lc_copy X hj h_copy hcp K C R f H ls hC hI hN hPc hPm hPo hS hl)
    | 31, _ => exact key 1361 1401 rfl (by decide) (lc_skill X hj h_skill K C R f H ls hC hI hN hPc hPm hPo hS hl)
    | 32, _ => exact key 1386 1426 rfl (by decide) (lc_toss X hj h_toss K C R f H ls hC hI hN hPc hPm hPo hS hl)
    | i + 33, h => exact absurd h (by omega)
theorem law_loop {Core : Mem → Mem → Prop} {p : Program} {l : Launch} {e : Env} {s : State} {m : MethodId} {below : List Frame} {meth : Method} {c : Code} {b L : Nat} {xs : Nat → Int32} {ad bd : Nat → Nat} {o : Nat} {D : va_G} {k : Nat → ClassId} (X : LX p l s m meth c b L xs ad bd o D k) (hr : meth.sig.returnType = ret) (hlocks : meth.locks = false) (hsim : S_all Core) : ∀ (n j : Nat), j + n = 513 → 6 * j ≤ L → LG Core p l e s m below meth c b ad bd o D k (lw_Z below #[Value.ref b] s) j (106 + j) (5192 + 6 * j) 23 := by
  intro n
  induction n with
  | zero =>
    intro j h1 h2
    have := X.1.2.2.2.2.2.2.2
    omega
  | succ n ih =>
    intro j h1 h2
    have X0 := X
    obtain ⟨⟨hx, hb, hml, hown, hG, hX, hbl, hL⟩, -⟩ := X0
    intro C R f H ls hC hI hN hPc hPm hPo hS hl
    refine lv_iload hx hb dL_law_23 (lv_at hl 4 rfl) ?_
    refine lv_aload_n hx hb dL_law_25 rfl (lv_at hl 0 rfl) ?_
    refine va_slen hx hb hX hbl (Nat.not_le.mpr hbl) hS dL_law_26 ?_
    refine lv_bipush (v := 6) hx hb dL_law_27 (by decide) ?_
    refine lv_isub hx hb dL_law_29 ?_
    refine lv_icmp_gt (tgt := 1457) hx hb dL_law_30 (by decide) (fun hc => ?_) (fun hc => ?_)
    · refine lv_iconst (v := 1) hx hb dL_law_1457 (by decide) ?_
      exact W.widen (show 106 + j ≤ 601024 by omega) (show 5192 + 6 * j ≤ 7293034 by omega) (lw_ret hx hb hr hlocks dL_law_1458)
    · have hj := l_head hL h2 hc
      refine lv_aload_n hx hb dL_law_33 rfl (lv_at hl 0 rfl) ?_
      refine lv_iload hx hb dL_law_34 (lv_at hl 4 rfl) ?_
      refine va_sld hx hb hX hbl (Nat.not_le.mpr hbl) hS (vp_in_nI (by omega) (by omega)) dL_law_36 ?_
      refine lv_bipush (v := 63) hx hb dL_law_37 (by decide) ?_
      refine lv_iand hx hb dL_law_39 ?_
      refine law_sw X hj hsim ?_ C R f H ls hC hI hN hPc hPm hPo hS hl _
      intro C R f H ls hC hI hN hPc hPm hPo hS hl
      refine lv_iinc (v := nI (6 * (j + 1))) (lv' := [(4, .int (nI (6 * (j + 1)))), (0, .ref b), (1, .ref (ad 0)), (2, .ref (bd 0)), (3, .ref o)]) hx hb dL_law_1451 hl (k := 4) rfl (by rw [show 6 * (j + 1) = 6 * j + 6 by omega, ← nI_add]; rfl) (by decide) rfl (fun ls hl => ?_)
      refine lv_goto (tgt := 23) hx hb dL_law_1454 (by decide) ?_
      exact ih (j + 1) (by omega) (by omega) C R f H ls hC hI hN hPc hPm hPo hS (lv_sub hl [1, 2, 3, 4, 0] rfl)
