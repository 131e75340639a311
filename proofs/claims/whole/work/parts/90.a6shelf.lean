/-! sailors and rows on shelves -/
theorem Core_S {C R C' R' : Mem} {d : Nat} (h : Core C R) (hd : d < 8) (hC : ∀ j q, ¬ (j = 44 + d ∨ j = 52 + d ∨ j = 60 + d) → C' j q = C j q) (hR : ∀ j q, ¬ (23 ≤ j ∧ j ≤ 28 ∧ q = d) → ¬ (j = 29 ∧ 100 * d ≤ q ∧ q < 100 * d + 100) → ¬ j = 30 → R' j q = R j q) (hS : SH1 C' R' d) : Core C' R' := by
  obtain ⟨e1, e2, e3, e4⟩ := h
  have hE : EqC R R' := fun j q hc => by rw [cry_iff] at hc; exact hR _ _ (by omega) (by omega) (by omega)
  have hl : lnO R' = lnO R := by unfold lnO; rw [hR _ _ (by omega) (by omega) (by omega)]
  have ht : R' 1 = R 1 := by funext q; exact hR _ _ (by omega) (by omega) (by omega)
  refine ⟨GS_C (GS_R e1 hE) (fun j q hc => hC _ _ (by unfold cel at hc; omega)), ?_, ⟨by rw [hC _ _ (by omega), hR _ _ (by omega) (by omega) (by omega)]; exact e3.1, fun g => ?_⟩, fun d' hd' => ?_⟩
  · rw [hl, ht]; exact WI_of e2 (hR _ _ (by omega) (by omega) (by omega)) (hR _ _ (by omega) (by omega) (by omega)) (fun q => hR _ _ (by omega) (by omega) (by omega))
  · rw [hR _ _ (by omega) (by omega) (by omega)] at g
    exact GS_C (GS_R (e3.2 g) (fun j q hc => hR 21 _ (by omega) (by omega) (by omega))) (fun j q hc => hC _ _ (by unfold cel at hc; omega))
  · by_cases e : d' = d
    · subst e; exact hS
    · exact SH_of (e4 d' hd') (fun j q p => hC _ _ (by omega)) (fun j p1 p2 => hR _ _ (by omega) (by omega) (by omega)) (fun k hk => hR _ _ (by omega) (by omega) (by omega))
theorem skill_eq {C : Mem} {b : Nat} {k f : Int32} (h0 : C b 0 = k) (h1 : C b 1 = f) (hk : 0 ≤ k.toInt ∧ k.toInt ≤ 7) : f_X4_skilled C b = f_X7_skillOf k f := by
  unfold f_X4_skilled f_X7_skillOf
  rw [h0, h1]
  obtain ⟨j, hj, rfl⟩ := of_rng (N := 7) hk.1 hk.2
  have : j = 0 ∨ j = 1 ∨ j = 2 ∨ j = 3 ∨ j = 4 ∨ j = 5 ∨ j = 6 ∨ j = 7 := by omega
  rcases this with rfl | rfl | rfl | rfl | rfl | rfl | rfl | rfl <;> rfl
theorem sailR_eq {C R : Mem} {d : Nat} (hd : d < 8) (h : C (44 + d) 0 = R 23 d) (hi : ¬ f_X7_in (nI d).toInt64 0 7 = 0) : f_X7_wrongSailor R (nI d) = f_X5_sailorRefusal C (44 + d) ∧ (f_X5_sailorRefusal C (44 + d) = 0 ∧ R 23 d = 1 ∨ f_X5_sailorRefusal C (44 + d) = -11 ∨ f_X5_sailorRefusal C (44 + d) = -12) := by
  unfold f_X7_wrongSailor f_X5_sailorRefusal
  simp only [bnd]
  rw [if_pos hi, nI_clamp (by omega), h]
  by_cases h0 : R 23 d = 0
  · rw [if_neg (not_not_intro h0), if_neg (not_not_intro h0)]; exact ⟨rfl, Or.inr (Or.inl rfl)⟩
  · rw [if_pos h0, if_pos h0]
    by_cases h2 : R 23 d = 1
    · rw [if_pos h2, if_neg (not_not_intro h2)]; exact ⟨rfl, Or.inl ⟨rfl, h2⟩⟩
    · rw [if_neg h2, if_pos h2]; exact ⟨rfl, Or.inr (Or.inr rfl)⟩
theorem sailR_no {R : Mem} {a : Int32} (hi : f_X7_in a.toInt64 0 7 = 0) : f_X7_wrongSailor R a = -1 := by
  unfold f_X7_wrongSailor
  simp only [bnd]
  rw [if_neg (not_not_intro hi)]
theorem sim_skill : S_skill Core := by
  intro C R a hC _ _
  have h19 := Core_19 hC 0
  refine ⟨?_, h19⟩
  unfold f_X6_skill f_X7_skill
  simp only [bnd]
  rcases shelf_cases a with ⟨d, hd, rfl, hs, hi⟩ | ⟨hs, hi⟩
  · rw [hs]
    have hS := h19.2.2.2 d hd
    obtain ⟨e1, e2⟩ := sailR_eq hd hS.1 hi
    show (if f_X5_sailorRefusal C (44 + d) = 0 then f_X4_skilled C (44 + d + 8) else -1000000000 + f_X5_sailorRefusal C (44 + d)) = _
    rw [e1]
    rcases e2 with ⟨e2, e3⟩ | e2 | e2
    · rw [e2, if_pos rfl, if_pos (show (0 : Int32) ≤ 0 by decide), nI_clamp (by omega)]
      obtain ⟨s0, s1, s2, s3, s4⟩ := hS.2.2.2.1 e3
      rw [show 44 + d + 8 = 52 + d by omega]
      exact skill_eq s0 s1 s3
    · rw [e2, if_neg (show ¬ (-11 : Int32) = 0 by decide), if_neg (show ¬ (0 : Int32) ≤ -11 by decide)]; decide
    · rw [e2, if_neg (show ¬ (-12 : Int32) = 0 by decide), if_neg (show ¬ (0 : Int32) ≤ -12 by decide)]; decide
  · rw [hs, sailR_no hi, if_neg (show ¬ (0 : Int32) ≤ -1 by decide)]
    show (-1000000001 : Int32) = -1 - 1000000000
    decide
theorem hasF_iff {C : Mem} {b : Nat} : f_X4_hasFailure C b = 0 ↔ C b 0 = 4 ∨ C b 1 ≤ 0 := by
  unfold f_X4_hasFailure
  simp only [bnd]
  by_cases h : C b 0 = 4
  · rw [if_pos h]; exact ⟨fun _ => Or.inl h, fun _ => rfl⟩
  · rw [if_neg h]
    by_cases h2 : C b 1 ≤ 0
    · rw [if_pos h2]; exact ⟨fun _ => Or.inr h2, fun _ => rfl⟩
    · rw [if_neg h2]; exact ⟨fun q => absurd q (by decide), fun q => (q.elim h h2).elim⟩
theorem sim_toss : S_toss Core := by
  intro C R a hC _ _
  have h19 := Core_19 hC 0
  unfold f_X6_toss f_X7_toss
  simp only [bnd]
  rcases shelf_cases a with ⟨d, hd, rfl, hs, hi⟩ | ⟨hs, hi⟩
  · rw [hs]
    have hS := h19.2.2.2 d hd
    obtain ⟨e1, e2⟩ := sailR_eq hd hS.1 hi
    show (if f_X5_sailorRefusal C (44 + d) = 0 then (if f_X4_hasFailure C (44 + d + 8) = 0 then -15 else f_X4_failureNumber C (44 + d + 8)) else f_X5_sailorRefusal C (44 + d)) = _ ∧ _
    rw [e1]
    rcases e2 with ⟨e2, e3⟩ | e2 | e2
    · rw [e2, if_pos rfl, if_pos (show (0 : Int32) ≤ 0 by decide), nI_clamp (by omega)]
      obtain ⟨s0, s1, s2, s3, s4⟩ := hS.2.2.2.1 e3
      rw [show 44 + d + 8 = 52 + d by omega]
      have hsk := skill_eq s0 s1 s3
      have hf := hasF_iff (C := C) (b := 52 + d)
      unfold f_X4_failureNumber
      rw [s0, s1] at hf
      rw [s0, s2, hsk]
      by_cases c4 : up2 R 0 19 0 24 d = 4
      · rw [if_pos (hf.mpr (Or.inl c4)), if_pos c4]; exact ⟨rfl, h19⟩
      · rw [if_neg c4]
        by_cases c0 : up2 R 0 19 0 25 d = 0
        · rw [if_pos (hf.mpr (Or.inr (by rw [c0]; decide))), if_neg (not_not_intro c0)]; exact ⟨rfl, h19⟩
        · rw [if_neg (fun q => (hf.mp q).elim c4 (fun q => c0 (by rw [eq_i, k0]; rw [le_i, k0] at q; omega))), if_pos c0]
          by_cases c3 : up2 R 0 19 0 24 d = 3
          · rw [if_pos c3, if_neg (not_not_intro c3)]; exact ⟨rfl, h19⟩
          · rw [if_neg c3, if_pos c3]
            by_cases c6 : up2 R 0 19 0 24 d = 6
            · rw [if_pos c6, if_neg (not_not_intro c6)]; exact ⟨rfl, h19⟩
            · rw [if_neg c6, if_pos c6]; exact ⟨rfl, h19⟩
    · rw [e2, if_neg (by decide), if_neg (by decide)]; exact ⟨rfl, h19⟩
    · rw [e2, if_neg (by decide), if_neg (by decide)]; exact ⟨rfl, h19⟩
  · rw [hs, sailR_no hi, if_neg (by decide)]
    exact ⟨rfl, h19⟩
theorem sgn3 (a b : Int32) : (f_J6_compare_7cf53 a b = 0 ∧ a = b ∧ lg_cmp a.toInt64 b.toInt64 = 0 ∧ lg_cmp b.toInt64 a.toInt64 = 0) ∨ (f_J6_compare_7cf53 a b = 1 ∧ ¬ lg_cmp a.toInt64 b.toInt64 ≤ 0 ∧ ¬ lg_cmp b.toInt64 a.toInt64 = 0) ∨ (f_J6_compare_7cf53 a b = -1 ∧ lg_cmp a.toInt64 b.toInt64 ≤ 0 ∧ ¬ 0 ≤ lg_cmp a.toInt64 b.toInt64 ∧ ¬ lg_cmp b.toInt64 a.toInt64 = 0) := by
  have g1 := @cmp_lt a.toInt64 b.toInt64
  have g2 := @cmp_gt a.toInt64 b.toInt64
  have g3 := @cmp_lt b.toInt64 a.toInt64
  have g4 := @cmp_gt b.toInt64 a.toInt64
  rw [toI64, toI64] at g1 g2 g3 g4
  rw [lt_i, k0] at g1 g2 g3 g4
  unfold f_J6_compare_7cf53
  simp only [bnd]
  by_cases h1 : b ≤ a
  · rw [if_pos h1]
    by_cases h2 : a = b
    · rw [if_neg (not_not_intro h2)]
      refine Or.inl ⟨rfl, h2, ?_, ?_⟩
      · subst h2; rw [eq_i, k0]; omega
      · subst h2; rw [eq_i, k0]; omega
    · rw [if_pos h2]
      rw [le_i] at h1
      rw [eq_i] at h2
      refine Or.inr (Or.inl ⟨rfl, ?_, ?_⟩)
      · rw [le_i, k0]; omega
      · rw [eq_i, k0]; omega
  · rw [if_neg h1]
    rw [le_i] at h1
    refine Or.inr (Or.inr ⟨rfl, ?_, ?_, ?_⟩)
    · rw [le_i, k0]; omega
    · rw [le_i, k0]; omega
    · rw [eq_i, k0]; omega
theorem swing_lp {C R : Mem} {d m : Nat} (hd : d < 8) (hm : m ≤ 100) (hc : C (44 + d) 3 = nI m) (hr : R 28 d = nI m) (he : ∀ k, k < 100 → C (60 + d) k = R 29 (100 * d + k)) : ∀ (c k f : Nat) (x y z : Int32), m ≤ c + (k + 1) → k ≤ 100 → c < f → (z = 0 ∨ z = 1 ∨ z = -1) →
    lp_X5_swing_9 f C (44 + d) x y z (nI (k + 1)) = lp_X7_which_28 f (nI d) R x y z (nI (k + 1)) := by
  intro c
  induction c with
  | zero =>
    intro k f x y z hk _ hf hz
    obtain ⟨f, rfl⟩ : ∃ x, f = x + 1 := ⟨f - 1, by omega⟩
    rw [lp_X5_swing_9, lp_X7_which_28, nI_clamp (n := d) (by omega), hc, hr, if_pos (nI_le (by omega) (by omega)), if_pos (nI_le (by omega) (by omega))]
  | succ c ih =>
    intro k f x y z hk hk1 hf hz
    obtain ⟨f, rfl⟩ : ∃ x, f = x + 1 := ⟨f - 1, by omega⟩
    rw [lp_X5_swing_9, lp_X7_which_28, nI_clamp (n := d) (by omega), hc, hr]
    by_cases hs : m ≤ k + 1
    · rw [if_pos (nI_le hs (by omega)), if_pos (nI_le hs (by omega))]
    · rw [if_neg (nI_ge (by omega) (by omega)), if_neg (nI_ge (by omega) (by omega)), if_neg (show ¬ (100 : Int32) ≤ nI (k + 1) from nI_ge (b := 100) (by omega) (by decide))]
      simp only [bnd, bnd2, bnd3]
      have i1 : (100 * nI d + nI (k + 1)).toNatClampNeg = 100 * d + (k + 1) := ix_row hd (by omega)
      have i2 : (100 * nI d + nI (k + 1) - 1).toNatClampNeg = 100 * d + k := by
        rw [show (100 : Int32) * nI d = nI (100 * d) from pk_mul 100 d, nI_add, show 100 * d + (k + 1) = (100 * d + k) + 1 by omega, nI_pred, nI_clamp (by omega)]
      rw [i1, i2, nI_clamp (by omega), nI_pred, nI_clamp (by omega), show 44 + d + 16 = 60 + d by omega, he _ (by omega), he _ (by omega), nI_1]
      have ih2 := fun x y z hz => ih (k + 1) f x y z (by omega) (by omega) (by omega) hz
      rcases sgn3 (R 29 (100 * d + (k + 1))) (R 29 (100 * d + k)) with ⟨s1, s2, s3, s4⟩ | ⟨s1, s2, s3⟩ | ⟨s1, s2, s3, s4⟩
      · rw [s1, if_pos rfl, s3, s4, if_pos rfl, if_pos rfl, if_pos (by decide), if_pos (by decide), Int32.add_zero, Int32.add_zero]
        exact ih2 _ _ _ hz
      · rw [s1, if_neg (by decide), if_neg s2, if_neg s3, if_neg s3]
        rw [ih2 _ _ _ (Or.inr (Or.inl rfl))]
        rcases hz with rfl | rfl | rfl <;> rfl
      · rw [s1, if_neg (by decide), if_pos s2, if_neg s3, if_neg s4, if_neg s4]
        rw [ih2 _ _ _ (Or.inr (Or.inr rfl))]
        rcases hz with rfl | rfl | rfl <;> rfl
theorem sim_which : S_which Core := by
  intro C R a hC _ _
  have h19 := Core_19 hC 0
  unfold f_X6_which f_X7_which
  simp only [bnd, bnd2]
  rcases shelf_cases a with ⟨d, hd, rfl, hs, hi⟩ | ⟨hs, hi⟩
  · rw [hs]
    have hS := h19.2.2.2 d hd
    obtain ⟨e1, e2⟩ := rowR_eq hd hS.1 hi
    show (if f_X5_rowRefusal C (44 + d) = 0 then f_X5_swing C (44 + d) else f_X5_rowRefusal C (44 + d)) = _ ∧ _
    rw [e1]
    rcases e2 with ⟨e2, e3⟩ | e2 | e2
    · rw [e2, if_pos rfl, if_pos (show (0 : Int32) ≤ 0 by decide)]
      obtain ⟨m, hm, m1, m2⟩ := sizeO hS e3
      refine ⟨?_, h19⟩
      have := swing_lp hd hm m2 m1 (fun k hk => ((hS.2.2.2.2 e3).2.2.2 k hk).1) 99 0 100 0 0 0 (by omega) (by omega) (by omega) (Or.inl rfl)
      unfold f_X5_swing
      simp only [bnd, bnd2]
      rw [show (1 : Int32) = nI (0 + 1) from rfl, this]
    · rw [e2, if_neg (by decide), if_neg (by decide)]; exact ⟨rfl, h19⟩
    · rw [e2, if_neg (by decide), if_neg (by decide)]; exact ⟨rfl, h19⟩
  · rw [hs, rowR_no hi, if_neg (by decide)]
    exact ⟨rfl, h19⟩
/-- a place of a row -/
theorem place_row {C R : Mem} {d m : Nat} (hm : m ≤ 100) (hc : C (44 + d) 3 = nI m) (hr : R 28 d = nI m) (a : Int32) : (f_X5_hasPlace C (44 + d) a = 0 ∧ f_X7_in a.toInt64 0 (R 28 d - 1).toInt64 = 0) ∨ (∃ k, k < m ∧ a = nI k ∧ ¬ f_X5_hasPlace C (44 + d) a = 0 ∧ ¬ f_X7_in a.toInt64 0 (R 28 d - 1).toInt64 = 0) := by
  have hi := inz (a := a) (lo := 0) (hi := (R 28 d - 1).toInt64)
  rw [show (0 : Int64).toInt = 0 by decide, toI64, hr, i_sub (by rw [nI_toInt (by omega), k1]; omega), nI_toInt (n := m) (by omega), k1] at hi
  rw [hr]
  unfold f_X5_hasPlace
  simp only [bnd]
  rw [hc]
  rcases pk_ix a (n := m) (by omega) with h | h | ⟨k, hk, rfl⟩
  · rw [if_pos h]
    rw [lt_i, k0] at h
    exact Or.inl ⟨rfl, hi.mpr (fun q => by omega)⟩
  · have h' := h
    rw [le_i, nI_toInt (by omega)] at h'
    rw [if_pos h, ite_self]
    exact Or.inl ⟨rfl, hi.mpr (fun q => by omega)⟩
  · rw [if_neg (nI_pos (by omega)), if_neg (nI_ge hk (by omega)), if_neg (show ¬ (100 : Int32) ≤ nI k from nI_ge (b := 100) (by omega) (by decide))]
    rw [nI_toInt (by omega)] at hi
    exact Or.inr ⟨k, hk, rfl, by decide, fun q => hi.mp q (by omega)⟩
theorem nar8 (x : Int32) : -128 ≤ x.toInt8.toInt32.toInt ∧ x.toInt8.toInt32.toInt ≤ 127 := by
  rw [Int8.toInt_toInt32]
  have h1 := Int8.le_toInt x.toInt8
  have h2 := Int8.toInt_lt x.toInt8
  omega
theorem i64i (x : Int32) : x.toInt64.toInt32 = x := Int32.toInt32_toInt64 x
theorem sim_put : S_put Core := by
  intro C R a a2 a3 hC _ _
  have h19 := Core_19 hC 0
  unfold f_X6_put f_X7_put
  simp only [bnd]
  rcases shelf_cases a with ⟨d, hd, rfl, hs, hi⟩ | ⟨hs, hi⟩
  · rw [hs]
    have hS := h19.2.2.2 d hd
    obtain ⟨e1, e2⟩ := rowR_eq hd hS.1 hi
    show (if f_X5_rowRefusal C (44 + d) = 0 then (if ¬ f_X5_hasPlace C (44 + d) a2 = 0 then (0, up2 C (44 + d + 16) a2.toNatClampNeg (f_X5_narrowed C (44 + d) a3)) else (-13, C)) else (f_X5_rowRefusal C (44 + d), C)).1 = _ ∧ Core (if f_X5_rowRefusal C (44 + d) = 0 then (if ¬ f_X5_hasPlace C (44 + d) a2 = 0 then (0, up2 C (44 + d + 16) a2.toNatClampNeg (f_X5_narrowed C (44 + d) a3)) else (-13, C)) else (f_X5_rowRefusal C (44 + d), C)).2 _
    rw [e1]
    rcases e2 with ⟨e2, e3⟩ | e2 | e2
    · rw [e2, if_pos rfl, if_pos (show (0 : Int32) ≤ 0 by decide)]
      obtain ⟨m, hm, m1, m2⟩ := sizeO hS e3
      rw [nI_clamp (n := d) (by omega)]
      rcases place_row hm m2 m1 a2 with ⟨p1, p2⟩ | ⟨k, hk, rfl, p1, p2⟩
      · rw [if_neg (not_not_intro p1), if_neg (not_not_intro p2)]; exact ⟨rfl, h19⟩
      · rw [if_pos p1, if_pos p2, nI_clamp (by omega), ix_row hd (by omega), show 44 + d + 16 = 60 + d by omega]
        refine ⟨rfl, ?_⟩
        show Core (up2 C (60 + d) k (f_X5_narrowed C (44 + d) a3)) (up2 (up2 R 0 19 0) 29 (100 * d + k) (f_X7_narrowed a3 (up2 R 0 19 0 27 d)).toInt32)
        obtain ⟨s0, s1, s2, s3⟩ := hS.2.2.2.2 e3
        have hn : f_X5_narrowed C (44 + d) a3 = (f_X7_narrowed a3 (up2 R 0 19 0 27 d)).toInt32 ∧ (up2 R 0 19 0 27 d = 0 → -128 ≤ (f_X5_narrowed C (44 + d) a3).toInt ∧ (f_X5_narrowed C (44 + d) a3).toInt ≤ 127) := by
          unfold f_X5_narrowed f_X7_narrowed
          simp only [bnd]
          rw [s0]
          by_cases c0 : up2 R 0 19 0 27 d = 0
          · rw [if_pos c0, if_neg (not_not_intro c0), i64i]; exact ⟨rfl, fun _ => nar8 a3⟩
          · rw [if_neg c0, if_pos c0]
            by_cases c1 : up2 R 0 19 0 27 d = 1
            · rw [if_pos c1, if_neg (not_not_intro c1), i64i]; exact ⟨rfl, fun q => absurd q c0⟩
            · rw [if_neg c1, if_pos c1, i64i]; exact ⟨rfl, fun q => absurd q c0⟩
        rw [← hn.1]
        have e27 : up2 (up2 R 0 19 0) 29 (100 * d + k) (f_X5_narrowed C (44 + d) a3) 27 d = up2 R 0 19 0 27 d := up2_n _ _ (by omega)
        refine Core_S h19 hd (fun j q p => up2_n _ _ (by omega)) (fun j q p1 p2 p3 => up2_n _ _ (by omega)) ?_
        obtain ⟨t0, t1, t2, t3, t4⟩ := hS
        refine ⟨by rw [up2_n _ _ (by omega), up2_n _ _ (by omega)]; exact t0, by rw [up2_n _ _ (by omega)]; exact t1, by rw [up2_n _ _ (by omega)]; exact t2, fun g => ?_, fun g => ⟨by rw [up2_n _ _ (by omega), up2_n _ _ (by omega)]; exact s0, by rw [up2_n _ _ (by omega)]; exact s1, by rw [up2_n _ _ (by omega), up2_n _ _ (by omega)]; exact s2, fun k' hk' => ?_⟩⟩
        · rw [up2_n _ _ (by omega), e3] at g; exact absurd g (by decide)
        · rw [e27]
          by_cases e : k' = k
          · subst e; rw [up2_s, up2_s]; exact ⟨rfl, hn.2⟩
          · rw [up2_n _ _ (by omega), up2_n _ _ (by omega)]; exact s3 k' hk'
    · rw [e2, if_neg (by decide), if_neg (by decide)]; exact ⟨rfl, h19⟩
    · rw [e2, if_neg (by decide), if_neg (by decide)]; exact ⟨rfl, h19⟩
  · rw [hs, rowR_no hi, if_neg (by decide)]
    exact ⟨rfl, h19⟩
theorem sim_element : S_element Core := by
  intro C R a a2 hC _ _
  unfold eC vC f_X7_element f_X7_thrown
  simp only [bnd]
  rcases shelf_cases a with ⟨d, hd, rfl, hs, hi⟩ | ⟨hs, hi⟩
  · rw [hs]
    have hS := hC.2.2.2 d hd
    obtain ⟨e1, e2⟩ := rowR_eq hd hS.1 hi
    rw [e1]
    show _ = (if C (44 + d) 0 = 2 then (if f_X5_hasPlace C (44 + d) a2 = 0 then 2 else 0) else 2) ∧ ((if C (44 + d) 0 = 2 then (if f_X5_hasPlace C (44 + d) a2 = 0 then 2 else 0) else 2) = 0 → (C (44 + d + 16) a2.toNatClampNeg).toInt64 = _) ∧ _
    rw [up2_s, hS.1]
    rcases e2 with ⟨e2, e3⟩ | e2 | e2
    · rw [e2, if_pos (show ¬ (0 : Int32) = -1 by decide), if_neg (show ¬ (0 : Int32) < 0 by decide), if_pos e3, nI_clamp (n := d) (by omega)]
      obtain ⟨m, hm, m1, m2⟩ := sizeO hS e3
      rcases place_row hm m2 m1 a2 with ⟨p1, p2⟩ | ⟨k, hk, rfl, p1, p2⟩
      · rw [if_pos p1, if_neg (not_not_intro p2)]; exact ⟨rfl, fun g => absurd g (by decide), Core_19 hC _⟩
      · rw [if_neg p1, if_pos p2, if_pos (show (0 : Int32) ≤ 0 by decide), nI_clamp (by omega), ix_row hd (by omega), show 44 + d + 16 = 60 + d by omega, up2_n _ _ (by omega)]
        exact ⟨rfl, fun _ => by rw [((hS.2.2.2.2 e3).2.2.2 k (by omega)).1], Core_19 hC _⟩
    · have h2 : ¬ R 23 d = 2 := fun q => by
        rw [← hS.1] at q
        unfold f_X5_rowRefusal at e2; simp only [bnd] at e2; rw [q] at e2; exact absurd e2 (by decide)
      rw [e2, if_neg h2, if_pos (show ¬ (-11 : Int32) = -1 by decide), if_pos (show (-11 : Int32) < 0 by decide)]
      exact ⟨rfl, fun g => absurd g (by decide), Core_19 hC _⟩
    · have h2 : ¬ R 23 d = 2 := fun q => by
        rw [← hS.1] at q
        unfold f_X5_rowRefusal at e2; simp only [bnd] at e2; rw [q] at e2; exact absurd e2 (by decide)
      rw [e2, if_neg h2, if_pos (show ¬ (-12 : Int32) = -1 by decide), if_pos (show (-12 : Int32) < 0 by decide)]
      exact ⟨rfl, fun g => absurd g (by decide), Core_19 hC _⟩
  · rw [hs, rowR_no hi, if_neg (show ¬ ¬ (-1 : Int32) = -1 by decide), up2_s]
    exact ⟨rfl, fun g => absurd (show (1 : Int32) = 0 from g) (by decide), Core_19 hC _⟩
