/-! copy -/
theorem copy1_lp {M : Mem} {d i N : Nat} (hd : d < 8) (hN : N + i ≤ 100) : (∀ k, k < N → lp_X7_copy_137 (N + 1) (nI d) (nI i) (nI N) M 0 30 k = M 29 (100 * d + i + k)) ∧ ∀ j q, ¬ j = 30 → lp_X7_copy_137 (N + 1) (nI d) (nI i) (nI N) M 0 j q = M j q := by
  obtain ⟨k1, k2⟩ := wr_lp (lp := fun f M v => lp_X7_copy_137 f (nI d) (nI i) (nI N) M v) (r := 30) (N := N) (f := N + 1) (ix := fun k => k) (val := fun X k => X 29 (100 * d + i + k)) (M := M) (fun _ => True) (by omega) trivial (fun f M k hk _ => by
      show lp_X7_copy_137 (f + 1) (nI d) (nI i) (nI N) M (nI k) = _
      rw [lp_X7_copy_137, if_neg (nI_ge hk (by omega))]
      simp only [bnd]
      rw [nI_1, nI_clamp (by omega), show (100 : Int32) * nI d = nI (100 * d) from pk_mul 100 d, nI_add, nI_add, nI_clamp (by omega), i64i]) (fun f M _ => by
      show lp_X7_copy_137 (f + 1) (nI d) (nI i) (nI N) M (nI N) = _
      rw [lp_X7_copy_137, if_pos (nI_le (Nat.le_refl _) (by omega))]) (fun _ _ _ _ => trivial) (fun k k' h => h) (fun X k hk h => h 29 _ (Or.inl (by decide)))
  exact ⟨k1, fun j q h => k2 j q (Or.inl h)⟩
theorem copy2_lp {M : Mem} {d i N : Nat} (hd : d < 8) (hN : N + i ≤ 100) : (∀ k, k < N → lp_X7_copy_174 (N + 1) (nI d) (nI i) (nI N) M 0 29 (100 * d + i + k) = M 30 k) ∧ ∀ j q, (¬ j = 29 ∨ ∀ k, k < N → ¬ q = 100 * d + i + k) → lp_X7_copy_174 (N + 1) (nI d) (nI i) (nI N) M 0 j q = M j q := by
  exact wr_lp (lp := fun f M v => lp_X7_copy_174 f (nI d) (nI i) (nI N) M v) (r := 29) (N := N) (f := N + 1) (ix := fun k => 100 * d + i + k) (val := fun X k => X 30 k) (M := M) (fun _ => True) (by omega) trivial (fun f M k hk _ => by
      show lp_X7_copy_174 (f + 1) (nI d) (nI i) (nI N) M (nI k) = _
      rw [lp_X7_copy_174, if_neg (nI_ge hk (by omega))]
      simp only [bnd]
      rw [nI_1, nI_clamp (by omega), show (100 : Int32) * nI d = nI (100 * d) from pk_mul 100 d, nI_add, nI_add, nI_clamp (by omega), i64i]) (fun f M _ => by
      show lp_X7_copy_174 (f + 1) (nI d) (nI i) (nI N) M (nI N) = _
      rw [lp_X7_copy_174, if_pos (nI_le (Nat.le_refl _) (by omega))]) (fun _ _ _ _ => trivial) (fun k k' h => by omega) (fun X k hk h => h 30 _ (Or.inl (by decide)))
theorem stretch_iff {C : Mem} {b m : Nat} (hm : m ≤ 100) (hc : C b 3 = nI m) (y a5 : Int32) : f_X5_hasStretch C b y a5 = 0 ↔ (y.toInt < 0 ∨ a5.toInt < 0 ∨ (m : Int) < y.toInt + a5.toInt) := by
  unfold f_X5_hasStretch
  simp only [bnd]
  rw [hc]
  have g0 : y < 0 ↔ y.toInt < 0 := by rw [lt_i, k0]
  have g5 : a5 < 0 ↔ a5.toInt < 0 := by rw [lt_i, k0]
  have g1 : nI m < y ↔ (m : Int) < y.toInt := by rw [lt_i, nI_toInt (by omega)]
  by_cases b0 : y < 0
  · rw [if_pos b0]; exact ⟨fun _ => Or.inl (g0.mp b0), fun _ => rfl⟩
  · rw [if_neg b0]; rw [g0] at b0
    by_cases b1 : nI m < y
    · rw [if_pos b1]; rw [g1] at b1; exact ⟨fun _ => by omega, fun _ => rfl⟩
    · rw [if_neg b1]; rw [g1] at b1
      by_cases b5 : a5 < 0
      · rw [if_pos b5]; exact ⟨fun _ => Or.inr (Or.inl (g5.mp b5)), fun _ => rfl⟩
      · rw [if_neg b5]; rw [g5] at b5
        have hsub : (nI m - y).toInt = m - y.toInt := by
          have := Int32.toInt_lt y
          rw [i_sub (by rw [nI_toInt (by omega)]; omega), nI_toInt (by omega)]
        have g2 : nI m - y < a5 ↔ (m : Int) - y.toInt < a5.toInt := by rw [lt_i, hsub]
        by_cases b2 : nI m - y < a5
        · rw [if_pos b2]; rw [g2] at b2; exact ⟨fun _ => by omega, fun _ => rfl⟩
        · rw [if_neg b2]; rw [g2] at b2; exact ⟨fun q => absurd q (by decide), fun q => by omega⟩
/-- what a copy does -/
theorem copy_core {C S : Mem} {d e i j0 N : Nat} (h19 : Core C S) (hd : d < 8) (he : e < 8) (c3 : S 23 d = 2) (c4 : S 23 e = 2) (c5 : S 27 d = S 27 e) (hi : N + i ≤ 100) (hj : N + j0 ≤ 100) :
    Core (cpM C (60 + d) (60 + e) (nI i) (nI j0) (nI N)) (lp_X7_copy_174 (N + 1) (nI e) (nI j0) (nI N) (lp_X7_copy_137 (N + 1) (nI d) (nI i) (nI N) S 0) 0) := by
  have hS := h19.2.2.2 d hd
  have hT := h19.2.2.2 e he
  obtain ⟨s0, s1, s2, s3⟩ := hS.2.2.2.2 c3
  obtain ⟨t0, t1, t2, t3⟩ := hT.2.2.2.2 c4
  obtain ⟨x1, x2⟩ := copy1_lp (M := S) (d := d) (i := i) (N := N) hd hi
  obtain ⟨y1, y2⟩ := copy2_lp (M := lp_X7_copy_137 (N + 1) (nI d) (nI i) (nI N) S 0) (d := e) (i := j0) (N := N) he hj
  generalize lp_X7_copy_174 (N + 1) (nI e) (nI j0) (nI N) (lp_X7_copy_137 (N + 1) (nI d) (nI i) (nI N) S 0) 0 = R2 at y1 y2 ⊢
  generalize lp_X7_copy_137 (N + 1) (nI d) (nI i) (nI N) S 0 = R1 at x1 x2 y1 y2
  have fr : ∀ j q, ¬ j = 29 → ¬ j = 30 → R2 j q = S j q := fun j q p1 p2 => by rw [y2 j q (Or.inl p1), x2 j q p2]
  refine Core_S h19 he (fun j q p => cpM_o (by omega)) (fun j q p1 p2 p3 => by
    rw [y2 j q (by
      by_cases e29 : j = 29
      · exact Or.inr (fun k hk => by omega)
      · exact Or.inl e29), x2 j q p3]) ?_
  obtain ⟨w0, w1, w2, w3, w4⟩ := hT
  unfold SH1
  rw [fr 23 e (by omega) (by omega), fr 24 e (by omega) (by omega), fr 25 e (by omega) (by omega), fr 26 e (by omega) (by omega), fr 27 e (by omega) (by omega), fr 28 e (by omega) (by omega), cpM_o (by omega), cpM_o (by omega), cpM_o (by omega), cpM_o (by omega), cpM_o (by omega), cpM_o (by omega)]
  refine ⟨w0, w1, w2, w3, fun _ => ⟨t0, t1, t2, fun k hk => ?_⟩⟩
  have ecp : cpM C (60 + d) (60 + e) (nI i) (nI j0) (nI N) (60 + e) k = if j0 ≤ k ∧ k < j0 + N then C (60 + d) (i + (k - j0)) else C (60 + e) k := by
    unfold cpM
    rw [if_pos rfl, nI_clamp (by omega), nI_clamp (by omega), nI_clamp (by omega)]
    by_cases g : j0 ≤ k ∧ k < j0 + N
    · rw [if_pos g, pk_cpy_in g.1 g.2]
    · rw [if_neg g, pk_cpy_out (by omega)]
  rw [ecp]
  by_cases g : j0 ≤ k ∧ k < j0 + N
  · have e1 : R2 29 (100 * e + k) = S 29 (100 * d + (i + (k - j0))) := by
      rw [show 100 * e + k = 100 * e + j0 + (k - j0) by omega, y1 _ (by omega), x1 _ (by omega), show 100 * d + i + (k - j0) = 100 * d + (i + (k - j0)) by omega]
    rw [if_pos g, e1, ← c5]
    exact s3 _ (by omega)
  · have e1 : R2 29 (100 * e + k) = S 29 (100 * e + k) := by
      rw [y2 29 _ (Or.inr (fun k' hk' => by omega)), x2 29 _ (by omega)]
    rw [if_neg g, e1]
    exact t3 k hk
theorem sim_copy : S_copy Core := by
  intro C R a a2 a3 a4 a5 hC _ _
  have h19 := Core_19 hC 0
  unfold f_X6_copy f_X7_copy
  simp only [bnd]
  generalize up2 R 0 19 0 = S at h19 ⊢
  rcases shelf_cases a with ⟨d, hd, rfl, hs, hi⟩ | ⟨hs, hi⟩
  · rw [hs, if_neg hi]
    dsimp only [oel]
    rcases shelf_cases a3 with ⟨e, he, rfl, ht, hj⟩ | ⟨ht, hj⟩
    · rw [ht, if_pos hj]
      dsimp only
      rw [nI_clamp (n := d) (by omega), nI_clamp (n := e) (by omega)]
      have hS := h19.2.2.2 d hd
      have hT := h19.2.2.2 e he
      rw [hS.1, hT.1]
      by_cases c1 : S 23 d = 0
      · rw [if_pos c1, if_pos c1]; exact ⟨rfl, h19⟩
      · rw [if_neg c1, if_neg c1]
        by_cases c2 : S 23 e = 0
        · rw [if_neg (not_not_intro c2), if_neg (not_not_intro c2)]; exact ⟨rfl, h19⟩
        · rw [if_pos c2, if_pos c2]
          by_cases c3 : S 23 d = 2
          · rw [if_neg (not_not_intro c3), if_neg (not_not_intro c3)]
            by_cases c4 : S 23 e = 2
            · rw [if_neg (not_not_intro c4), if_neg (not_not_intro c4)]
              obtain ⟨s0, s1, s2, s3⟩ := hS.2.2.2.2 c3
              obtain ⟨t0, t1, t2, t3⟩ := hT.2.2.2.2 c4
              rw [s0, t0]
              by_cases c5 : S 27 d = S 27 e
              · rw [if_pos c5, if_pos c5]
                obtain ⟨m, hm, m1, m2⟩ := sizeO hS c3
                obtain ⟨l, hl, l1, l2⟩ := sizeO hT c4
                have st1 := stretch_iff hm m2 a2 a5
                have st2 := stretch_iff hl l2 a4 a5
                rw [m1, l1]
                have n5 : a5 < 0 ↔ a5.toInt < 0 := by rw [lt_i, k0]
                have n2 : a2 < 0 ↔ a2.toInt < 0 := by rw [lt_i, k0]
                have n4 : a4 < 0 ↔ a4.toInt < 0 := by rw [lt_i, k0]
                by_cases b5 : a5 < 0
                · rw [if_pos b5, if_pos (st1.mpr (Or.inr (Or.inl (n5.mp b5))))]; exact ⟨rfl, h19⟩
                · rw [if_neg b5]; rw [n5] at b5
                  by_cases b2 : a2 < 0
                  · rw [if_pos b2, if_pos (st1.mpr (Or.inl (n2.mp b2)))]; exact ⟨rfl, h19⟩
                  · rw [if_neg b2]; rw [n2] at b2
                    by_cases b4 : a4 < 0
                    · rw [if_pos b4, if_neg (not_not_intro (st2.mpr (Or.inl (n4.mp b4)))), ite_self]; exact ⟨rfl, h19⟩
                    · rw [if_neg b4]; rw [n4] at b4
                      have hsub : ∀ x : Nat, x ≤ 100 → (nI x - a5).toInt = x - a5.toInt := fun x hx => by
                        have := Int32.toInt_lt a5
                        rw [i_sub (by rw [nI_toInt (by omega)]; omega), nI_toInt (by omega)]
                      have v1 : nI m - a5 < a2 ↔ (m : Int) < a2.toInt + a5.toInt := by rw [lt_i, hsub m hm]; omega
                      have v2 : a4 ≤ nI l - a5 ↔ ¬ (l : Int) < a4.toInt + a5.toInt := by rw [le_i, hsub l hl]; omega
                      by_cases b1 : (m : Int) < a2.toInt + a5.toInt
                      · rw [if_pos (st1.mpr (Or.inr (Or.inr b1))), if_pos (v1.mpr b1)]; exact ⟨rfl, h19⟩
                      · rw [if_neg (fun q => by have := st1.mp q; omega), if_neg (fun q => b1 (v1.mp q))]
                        by_cases b6 : (l : Int) < a4.toInt + a5.toInt
                        · rw [if_neg (not_not_intro (st2.mpr (Or.inr (Or.inr b6)))), if_neg (fun q => v2.mp q b6)]; exact ⟨rfl, h19⟩
                        · rw [if_pos (fun q => by have := st2.mp q; omega), if_pos (v2.mpr b6)]
                          obtain ⟨i, hi', rfl⟩ := of_rng (x := a2) (N := 100) (by omega) (by omega)
                          obtain ⟨j0, hj', rfl⟩ := of_rng (x := a4) (N := 100) (by omega) (by omega)
                          obtain ⟨N, hN', rfl⟩ := of_rng (x := a5) (N := 100) (by omega) (by omega)
                          rw [nI_toInt (by omega), nI_toInt (by omega)] at b1 b6
                          have efu : ((nI N).toInt - 0).toNat + 1 = N + 1 := by rw [nI_toInt (by omega)]; omega
                          rw [efu, show 44 + d + 16 = 60 + d by omega, show 44 + e + 16 = 60 + e by omega]
                          refine ⟨show nI N = nI N from rfl, ?_⟩
                          dsimp only
                          exact copy_core h19 hd he c3 c4 c5 (by omega) (by omega)
              · rw [if_neg c5, if_neg c5]; exact ⟨rfl, h19⟩
            · rw [if_pos c4, if_pos c4]; exact ⟨rfl, h19⟩
          · rw [if_pos c3, if_pos c3]; exact ⟨rfl, h19⟩
    · rw [ht, if_neg (not_not_intro hj)]; exact ⟨rfl, h19⟩
  · rw [hs, if_pos hi]
    dsimp only [oel]
    cases f_X6_shelfAt C a3 <;> exact ⟨rfl, h19⟩
