/-! who turns, both sides -/
theorem of_rng {x : Int32} {N : Nat} (h0 : 0 ≤ x.toInt) (h1 : x.toInt ≤ N) : ∃ f, f ≤ N ∧ x = nI f := by
  obtain ⟨j, hj, rfl⟩ := nI_of (x := x) (fun q => by have := lt_i.mp q; rw [k0] at this; omega)
  rw [nI_toInt hj] at h1
  exact ⟨j, by omega, rfl⟩
theorem canTurn_eq {C R : Mem} {b a i : Nat} (hi : i < 4) (hB : BX C R b i) (hd : C a 0 = R 0 0) : f_X1_canTurn C b a = f_X7_mayTurn R (nI i) := by
  obtain ⟨e3, e4, e5, e6, e7, e8, hx, hin⟩ := hB
  unfold f_X1_canTurn f_X7_mayTurn
  simp only [bnd]
  rw [nI_clamp (by omega), ← e6]
  have m := isInM hi hin
  have m2 := atM (R := R) hi
  by_cases h1 : C b 7 = -4
  · rw [if_neg (not_not_intro (isInC.mpr h1)), if_neg (not_not_intro (m.mpr (by rw [← e7]; exact h1)))]
    by_cases h2 : C b 6 = 0
    · rw [if_neg (not_not_intro h2), if_neg (not_not_intro h2)]
      by_cases h3 : C a 0 ≤ C b 4
      · rw [if_pos h3, if_pos (fun q => by
          have := m2.mp q
          rw [← hd, ← e4, lt_i] at this
          rw [le_i] at h3
          omega)]
      · rw [if_neg h3, if_neg (not_not_intro (m2.mpr (by
          rw [← hd, ← e4, lt_i]
          rw [le_i] at h3
          omega)))]
    · rw [if_pos h2, if_pos h2, ite_self]
  · rw [if_pos (fun q => h1 (isInC.mp q)), if_pos (fun q => h1 (by rw [e7]; exact m.mp q))]
theorem mul_m1 (x : Int32) : x * -1 = -x := by rw [Int32.mul_neg, Int32.mul_one]
theorem goesOut_eq {C R : Mem} {b i : Nat} (hi : i < 4) (hB : BX C R b i) : f_X1_goesOut C b = f_X7_isOut R (nI i) := by
  obtain ⟨e3, e4, e5, e6, e7, e8, hx, hin⟩ := hB
  unfold f_X1_goesOut f_X7_isOut
  simp only [bnd]
  rw [nI_clamp (by omega), e3]
  unfold bx at hx
  rcases WY0 e5 with ⟨w1, _, w2⟩ | ⟨w1, _, w2⟩
  · rw [if_pos w1, w2, mul_m1]
    have en := i_neg (a := R 6 i) (by omega)
    by_cases h : -200 < R 6 i
    · rw [if_pos h, if_pos]
      rw [lt_i, km200] at h
      rw [eq_i, en, k200]; omega
    · rw [if_neg h, if_neg]
      rw [lt_i, km200] at h
      rw [eq_i, en, k200]; omega
  · rw [if_neg w1, w2, Int32.mul_one]
    by_cases h : R 6 i < 200
    · rw [if_pos h, if_pos]
      rw [lt_i, k200] at h
      rw [eq_i, k200]; omega
    · rw [if_neg h, if_neg]
      rw [lt_i, k200] at h
      rw [eq_i, k200]; omega
theorem turnTime_eq {C R : Mem} {b i f : Nat} {s : Int32} (hi : i < 4) (hf : f ≤ 40) (e1 : C (b + 12) 1 = nI f) (e2 : R 5 i = nI f) (hs : s = R 0 7) : f_X1_turnsAt C b s = f_X7_isTurnTime R (nI i) := by
  unfold f_X1_turnsAt f_X7_isTurnTime
  simp only [bnd]
  rw [nI_clamp (by omega), e1, e2, hs]
  have h5 : 5 * nI f = nI (5 * f) := pk_mul 5 f
  rw [h5]
  by_cases h : f = 0
  · subst h; rw [if_pos (by decide)]
  · rw [if_neg (nI_nle (by omega) (by omega)), if_neg (nI_nle (by omega) (by omega))]
theorem headed_eq {C R : Mem} {b i f : Nat} {w : Int32} (hi : i < 4) (hB : BX C R b i) (hf : f ≤ 40) (e1 : C (b + 12) 1 = nI f) (e2 : R 5 i = nI f) (hw : w = R 17 (R 0 7).toNatClampNeg) : f_X1_isHeadedBy C b w = f_X7_isHeaded R (nI i) := by
  have e5 := hB.2.2.1
  unfold f_X1_isHeadedBy f_X7_isHeaded
  simp only [bnd]
  rw [nI_clamp (by omega), e1, e2, ← hw]
  have h5 : nI f / 5 = nI (f / 5) := pk_div (d := 5) (by omega) (by decide) (by decide)
  rw [h5, nI_1]
  have key : ∀ x : Int32, (x < nI (f / 5 + 1)) ↔ (x ≤ nI (f / 5)) := fun x => by
    rw [lt_i, le_i, nI_toInt (by omega), nI_toInt (by omega)]; omega
  have e : (if b01 (C b 5) = 0 then -(w / 5) else w / 5) = R 8 i * (w / 5) := by
    rcases WY0 e5 with ⟨w1, _, w2⟩ | ⟨w1, _, w2⟩
    · rw [if_pos w1, w2, Int32.neg_mul, Int32.one_mul]
    · rw [if_neg w1, w2, Int32.one_mul]
  rw [e]
  by_cases h : R 8 i * (w / 5) ≤ nI (f / 5)
  · rw [if_pos h, if_pos ((key _).mpr h)]
  · rw [if_neg h, if_neg (fun q => h ((key _).mp q))]
theorem xway {C R : Mem} {b i : Nat} (hB : BX C R b i) : (if b01 (C b 5) = 0 then -(C b 3) else C b 3) = R 6 i * R 8 i := by
  obtain ⟨e3, e4, e5, e6, e7, e8, hx, hin⟩ := hB
  rcases WY0 e5 with ⟨w1, _, w2⟩ | ⟨w1, _, w2⟩
  · rw [if_pos w1, w2, e3, mul_m1]
  · rw [if_neg w1, w2, e3, Int32.mul_one]
theorem side_eq {C R : Mem} {b i : Nat} (hi : i < 4) (hB : BX C R b i) (e1 : C (b + 12) 1 = R 5 i) : f_X1_isFarAside C b = f_X7_isSide R (nI i) := by
  have hw := xway hB
  unfold f_X1_isFarAside f_X7_isSide
  simp only [bnd]
  rw [nI_clamp (by omega), e1, hw]
theorem last_eq {C R : Mem} {b a i : Nat} (hi : i < 4) (hB : BX C R b i) (hd : C a 0 = R 0 0) : f_X1_isOnItsLast C b (C a 0) = f_X7_isLast R (nI i) := by
  obtain ⟨e3, e4, e5, e6, e7, e8, hx, hin⟩ := hB
  unfold f_X1_isOnItsLast f_X7_isLast
  simp only [bnd]
  rw [nI_clamp (by omega), e3, e4, hd, plainly_eq]
  unfold bx at hx
  have h : (if b01 (C b 5) = 0 then (if 0 ≤ R 6 i then (0 : Int32) else 1) else (if R 6 i ≤ 0 then 0 else 1)) = if R 6 i * R 8 i ≤ 0 then 0 else 1 := by
    rcases WY0 e5 with ⟨w1, _, w2⟩ | ⟨w1, _, w2⟩
    · rw [if_pos w1, w2, mul_m1]
      have en := i_neg (a := R 6 i) (by omega)
      by_cases h : 0 ≤ R 6 i
      · rw [if_pos h, if_pos]; rw [le_i, k0] at h ⊢; omega
      · rw [if_neg h, if_neg]; rw [le_i, k0] at h ⊢; omega
    · rw [if_neg w1, w2, Int32.mul_one]
  rw [h]
  by_cases h2 : R 6 i * R 8 i ≤ 0
  · rw [if_pos h2, if_pos rfl, if_pos h2]
  · rw [if_neg h2, if_neg (by decide), if_neg h2]
theorem cover_eq {C R : Mem} {o n i : Nat} (ho : 13 ≤ o ∧ o ≤ 15) (hn : n ≤ 4) (hi : i < n) (hX : ∀ i, i < n → BX C R (4 * (o + 3) - 45 + i) i) (h1 : C o 1 = nI n) (h8 : R 0 8 = nI n) (h2 : C (4 * (o + 3) - 45 + i + 12) 2 = nI i) : f_X3_hasToCover C o (4 * (o + 3) - 45 + i) = f_X7_isCovering R (nI i) := by
  unfold f_X3_hasToCover f_X7_isCovering
  simp only [bnd]
  rw [h2, h1, h8]
  have ej : ∃ j, j < n ∧ (if nI i ≤ 0 then nI n - 1 else nI i - 1) = nI j ∧ (if ¬ nI i = 0 then nI i - 1 else nI n - 1) = nI j := by
    by_cases e : i = 0
    · subst e
      obtain ⟨m, rfl⟩ : ∃ m, n = m + 1 := ⟨n - 1, by omega⟩
      exact ⟨m, by omega, by rw [if_pos (by decide), nI_pred], by rw [if_neg (by decide), nI_pred]⟩
    · obtain ⟨m, rfl⟩ : ∃ m, i = m + 1 := ⟨i - 1, by omega⟩
      exact ⟨m, by omega, by rw [if_neg (nI_nle (by omega) (by omega)), nI_pred], by rw [if_pos (nI_ne0 (by omega) (by omega)), nI_pred]⟩
  obtain ⟨j, hj, j1, j2⟩ := ej
  rw [j1, j2, if_neg (nI_pos (by omega)), if_neg (nI4 (by omega)), nI_clamp (by omega), nI_clamp (by omega)]
  obtain ⟨x3, x4, x5, _⟩ := hX j hj
  obtain ⟨y3, y4, y5, _⟩ := hX i hi
  have eji : (4 * (o + 3) - 45 + j = 4 * (o + 3) - 45 + i) ↔ nI j = nI i := by rw [nI_eq (by omega) (by omega)]; omega
  by_cases e : nI j = nI i
  · rw [if_pos e, if_neg (not_not_intro (eji.mpr e))]
  · rw [if_neg e, if_pos (fun q => e (eji.mp q)), x4, y4]
    have hw : b01 (C (4 * (o + 3) - 45 + j) 5) = b01 (C (4 * (o + 3) - 45 + i) 5) ↔ R 8 j = R 8 i := by
      rcases x5 with ⟨p, q⟩ | ⟨p, q⟩ <;> rcases y5 with ⟨r, s⟩ | ⟨r, s⟩ <;> rw [p, q, r, s] <;> decide
    by_cases h3 : R 8 j = R 8 i
    · rw [if_pos h3, if_pos (hw.mpr h3)]
    · rw [if_neg h3, if_neg (fun q => h3 (hw.mp q))]
theorem odd_nat (s e : Nat) (he : 0 < e) : s % (2 * e) = e ↔ s % e = 0 ∧ s / e % 2 = 1 := by
  have h1 : s % (2 * e) = s % e + e * (s / e % 2) := by rw [Nat.mul_comm 2 e, Nat.mod_mul]
  rw [h1]
  have h2 := Nat.mod_lt s he
  have h3 : s / e % 2 = 0 ∨ s / e % 2 = 1 := by omega
  rcases h3 with h3 | h3 <;> rw [h3]
  · constructor
    · intro h; omega
    · intro h; omega
  · rw [Nat.mul_one]
    constructor
    · intro h; exact ⟨by omega, rfl⟩
    · intro h; omega
theorem isTurn_iff {R : Mem} {i f s : Nat} (hi : i < 4) (hf : f ≤ 40) (hs : s ≤ 400) (e2 : R 5 i = nI f) (h7 : R 0 7 = nI s) : f_X7_isTurnTime R (nI i) = 0 ↔ (f = 0 ∨ ¬ s % (5 * f) = 0) := by
  unfold f_X7_isTurnTime
  simp only [bnd]
  rw [nI_clamp (by omega), e2, h7]
  have h5 : 5 * nI f = nI (5 * f) := pk_mul 5 f
  rw [h5]
  by_cases h : f = 0
  · rw [if_pos (by rw [h]; decide)]; exact ⟨fun _ => Or.inl h, fun _ => rfl⟩
  · have r2 : nI s - nI s / nI (5 * f) * nI (5 * f) = nI (s % (5 * f)) := pk_rem (by omega) (by omega) (by omega)
    have hlt := Nat.mod_lt s (show 0 < 5 * f by omega)
    have q2 : nI (s % (5 * f)) = 0 ↔ s % (5 * f) = 0 := nI_eq (b := 0) (by omega) (by omega)
    rw [if_neg (nI_nle (by omega) (by omega)), r2]
    by_cases c1 : s % (5 * f) = 0
    · rw [if_neg (not_not_intro (q2.mpr c1))]
      exact ⟨fun q => absurd q (by decide), fun q => by omega⟩
    · rw [if_pos (fun q => c1 (q2.mp q))]
      exact ⟨fun _ => Or.inr c1, fun _ => rfl⟩
theorem odd_eq {C R : Mem} {b i f s : Nat} (hi : i < 4) (hf : f ≤ 40) (hs : s ≤ 400) (e1 : C (b + 12) 1 = nI f) (e2 : R 5 i = nI f) (h7 : R 0 7 = nI s) :
    f_X1_turnsOddlyAt C b (nI s) = if f_X7_isTurnTime R (nI i) = 0 then 0 else if ¬ R 0 7 / (5 * R 5 i) - R 0 7 / (5 * R 5 i) / 2 * 2 = 1 then 0 else 1 := by
  have ht := isTurn_iff hi hf hs e2 h7
  unfold f_X1_turnsOddlyAt
  simp only [bnd]
  rw [e1, e2, h7]
  have h5 : 5 * nI f = nI (5 * f) := pk_mul 5 f
  have h10 : 2 * nI (5 * f) = nI (2 * (5 * f)) := pk_mul 2 (5 * f)
  rw [h5, h10]
  by_cases h : f = 0
  · rw [if_pos (ht.mpr (Or.inl h)), if_pos (by rw [h]; decide)]
  · have r1 : nI s - nI s / nI (2 * (5 * f)) * nI (2 * (5 * f)) = nI (s % (2 * (5 * f))) := pk_rem (by omega) (by omega) (by omega)
    have r3 : nI s / nI (5 * f) = nI (s / (5 * f)) := pk_div (by omega) (by omega) (by omega)
    have hlt := Nat.mod_lt s (show 0 < 5 * f by omega)
    have hlt2 := Nat.mod_lt s (show 0 < 2 * (5 * f) by omega)
    have hle : s / (5 * f) ≤ s := Nat.div_le_self _ _
    have r4 : nI (s / (5 * f)) - nI (s / (5 * f)) / 2 * 2 = nI (s / (5 * f) % 2) := pk_rem (d := 2) (by omega) (by decide) (by decide)
    rw [if_neg (nI_nle (by omega) (by omega)), r1, r3, r4]
    have key := odd_nat s (5 * f) (by omega)
    have q1 : nI (s % (2 * (5 * f))) = nI (5 * f) ↔ s % (2 * (5 * f)) = 5 * f := nI_eq (by omega) (by omega)
    have q3 : nI (s / (5 * f) % 2) = 1 ↔ s / (5 * f) % 2 = 1 := nI_eq (b := 1) (by omega) (by omega)
    by_cases c1 : s % (5 * f) = 0
    · rw [if_neg (fun q => (ht.mp q).elim h (fun q => q c1))]
      by_cases c2 : s / (5 * f) % 2 = 1
      · rw [if_neg (not_not_intro (q1.mpr (key.mpr ⟨c1, c2⟩))), if_neg (not_not_intro (q3.mpr c2))]
      · rw [if_pos (fun q => c2 (key.mp (q1.mp q)).2), if_pos (fun q => c2 (q3.mp q))]
    · rw [if_pos (ht.mpr (Or.inr c1)), if_pos (fun q => c1 (key.mp (q1.mp q)).1)]
theorem wants_N {C R : Mem} {o a n i s : Nat} {w : Int32} (hg : geo o a n) (h : RX none C R o a n) (hi : i < n) (hs : s ≤ 400) (h2 : C o 2 = nI s) (h7 : R 0 7 = nI s) (hw : w = R 17 s) (hbad : b01 (C (4 * (o + 3) - 45 + i) 9) = 0 ↔ ¬ BAD R n i) :
    f_X3_wantsToTurn C o (4 * (o + 3) - 45 + i) a w = 0 ↔ f_X7_turnsByKind R (nI i) = 0 := by
  obtain ⟨g1, g2, g3⟩ := hg
  have hin := RX_in h
  obtain ⟨e1, e8, ⟨d0, d1, d2, d3⟩, hall⟩ := h
  obtain ⟨hB, hS, hK⟩ := hall i hi
  obtain ⟨n0, n1, n2, n3⟩ := hK
  obtain ⟨f, hf, hff⟩ := of_rng (N := 40) n3.1 n3.2
  have hw' : w = R 17 (R 0 7).toNatClampNeg := by rw [h7, nI_clamp (by omega)]; exact hw
  have i4 : i < 4 := by omega
  have hb2 : b01 (C (4 * (o + 3) - 45 + i) 9) = 0 ↔ f_X7_isBad R (nI i) = 0 := by rw [hbad, isBad_iff g3 e8 hi hin]
  have a0 := turnTime_eq (s := C o 2) i4 hf (n1.trans hff) hff (h2.trans h7.symm)
  have a1 := headed_eq i4 hB hf (n1.trans hff) hff hw'
  have a5 := side_eq i4 hB n1
  have a6 := last_eq i4 hB d0
  have a3 := cover_eq g1 g3 hi (fun i hi => (hall i hi).1) e1 e8 hS.2.2.2
  have a4 := odd_eq (C := C) (b := 4 * (o + 3) - 45 + i) i4 hf hs (n1.trans hff) hff h7
  unfold f_X3_wantsToTurn f_X7_turnsByKind
  simp only [bnd]
  rw [nI_clamp (by omega), n0, a0, a1, a3, a5, a6, h2, a4, d3]
  have h7' : (7 : Int32).toInt = 7 := by decide
  by_cases c0 : R 2 i = 0
  · rw [if_pos c0, if_pos c0]
  · rw [if_neg c0, if_neg c0]
    by_cases c1 : R 2 i = 1
    · rw [if_pos c1, if_pos c1]
    · rw [if_neg c1, if_neg c1]
      by_cases c2 : R 2 i = 2
      · rw [if_pos c2, if_pos c2]; exact hb2
      · rw [if_neg c2, if_neg c2]
        by_cases c3 : R 2 i = 3
        · rw [if_pos c3, if_pos c3]
          by_cases hb : f_X7_isBad R (nI i) = 0
          · rw [if_neg (not_not_intro hb), if_neg (not_not_intro (hb2.mpr hb))]
          · rw [if_pos hb, if_pos (fun q => hb (hb2.mp q))]
        · rw [if_neg c3, if_neg c3]
          by_cases c4 : R 2 i = 4
          · rw [if_pos c4, if_pos c4]
          · rw [if_neg c4, if_neg c4]
            by_cases c5 : R 2 i = 5
            · rw [if_pos c5, if_pos c5]
            · rw [if_neg c5, if_neg c5]
              by_cases c6 : R 2 i = 6
              · rw [if_pos c6, if_pos c6]
              · rw [if_neg c6, if_neg c6]
                have c7 : R 2 i = 7 := by
                  rw [eq_i, h7']
                  rw [eq_i] at c0 c1 c2 c3 c4 c5 c6
                  have m2 : (2 : Int32).toInt = 2 := by decide
                  have m3 : (3 : Int32).toInt = 3 := by decide
                  have m4 : (4 : Int32).toInt = 4 := by decide
                  have m5 : (5 : Int32).toInt = 5 := by decide
                  have m6 : (6 : Int32).toInt = 6 := by decide
                  rw [k0] at c0
                  rw [k1] at c1
                  omega
                rw [if_pos c7, h7]
theorem bit_y : ∀ w : Fin 256, ∀ y : Fin 8, ((nI w.val) >>> (nI y.val &&& 31)) &&& 1 = nI (w.val / 2 ^ y.val % 2) := by decide +kernel
theorem bit_k : ∀ k : Fin 9, ∀ w : Fin 256, ∀ y : Fin 8, y.val < k.val → w.val % 2 ^ k.val / 2 ^ y.val % 2 = w.val / 2 ^ y.val % 2 := by decide +kernel
theorem wants_B {C R : Mem} {o a n i s m : Nat} {w : Int32} (hg : geo o a n) (h : RX (some m) C R o a n) (hi : i < n) (hs : s ≤ 400) (h2 : C o 2 = nI s) (h7 : R 0 7 = nI s) (hp : pre (some m) s) :
    f_X3_wantsToTurn C o (4 * (o + 3) - 45 + i) a w = 0 ↔ f_X7_isBitTime R (nI i) = 0 := by
  obtain ⟨g1, g2, g3⟩ := hg
  obtain ⟨e1, e8, ⟨d0, d1, d2, d3⟩, hall⟩ := h
  obtain ⟨hB, hS, hK⟩ := hall i hi
  -- what both sides' kinds and bits are
  have key : C (4 * (o + 3) - 45 + i + 12) 0 = 8 ∧ ∃ w0 w1 l, C (4 * (o + 3) - 45 + i + 12) 1 = nI w0 ∧ R 22 i = nI w1 ∧ w0 < 256 ∧ w1 < 256 ∧ R 0 40 = nI l ∧ l ≤ 8 ∧ (∀ y, l ≤ y → y < 8 → ¬ w0 / 2 ^ y % 2 = 1) ∧ (∀ y, y < l → s = 10 * (y + 1) → w0 / 2 ^ y % 2 = w1 / 2 ^ y % 2) := by
    rcases hK with ⟨_, n0, n1, n2, n3, n4, n5⟩ | ⟨h0, n0, n2, n3, w0, w1, v0, v1, n4, n5, n6⟩
    · refine ⟨n0, ?_⟩
      rcases n3 with rfl | rfl
      · obtain ⟨f, hf, hff⟩ := of_rng (N := 15) n4 (by omega)
        refine ⟨f, f, 4, n1.trans hff, hff, by omega, by omega, n2, by omega, fun y h1 h2 => ?_, fun _ _ _ => rfl⟩
        have : f / 2 ^ y = 0 := by
          have : y = 4 ∨ y = 5 ∨ y = 6 ∨ y = 7 := by omega
          rcases this with rfl | rfl | rfl | rfl <;> omega
        rw [this]; decide
      · obtain ⟨f, hf, hff⟩ := of_rng (N := 255) n4 (by omega)
        exact ⟨f, f, 8, n1.trans hff, hff, by omega, by omega, n2, by omega, fun y h1 h2 => by omega, fun _ _ _ => rfl⟩
    · refine ⟨n0, w0, w1, 8, n4, n5, v0, v1, n2, by omega, fun y h1 h2 => by omega, fun y hy hsy => ?_⟩
      have hlt := hp h0
      have q0 := bit_k ⟨m - 100, by omega⟩ ⟨w0, v0⟩ ⟨y, hy⟩ (show y < m - 100 by omega)
      have q1 := bit_k ⟨m - 100, by omega⟩ ⟨w1, v1⟩ ⟨y, hy⟩ (show y < m - 100 by omega)
      simp only at q0 q1
      rw [← q0, ← q1, n6]
  obtain ⟨n0, w0, w1, l, n1, n5, v0, v1, n2, l8, b0, b1⟩ := key
  unfold f_X3_wantsToTurn
  rw [n0, if_neg (by decide), if_neg (by decide), if_neg (by decide), if_neg (by decide), if_neg (by decide), if_neg (by decide), if_neg (by decide), if_neg (by decide)]
  unfold f_X1_turnsByBitsAt f_X7_isBitTime
  simp only [bnd]
  rw [nI_clamp (by omega), n1, n5, h2, h7, n2]
  have r1 : nI s / 10 = nI (s / 10) := pk_div (d := 10) (by omega) (by decide) (by decide)
  have r2 : nI s - nI s / 10 * 10 = nI (s % 10) := pk_rem (d := 10) (by omega) (by decide) (by decide)
  by_cases c : nI s - nI s / 10 * 10 = 0
  · rw [if_neg (not_not_intro c), if_neg (not_not_intro c), r1]
    rw [r2] at c
    have c10 : s % 10 = 0 := (nI_eq (b := 0) (by omega) (by omega)).mp c
    have hin : f_X7_in (nI (s / 10) - 1).toInt64 0 (nI l - 1).toInt64 = 0 ↔ ¬ (0 ≤ (nI (s / 10) - 1).toInt ∧ (nI (s / 10) - 1).toInt ≤ (l : Int) - 1) := by
      rw [inz, show (0 : Int64).toInt = 0 by decide, toI64, i_sub (a := nI l) (by rw [nI_toInt (by omega), k1]; omega), nI_toInt (n := l) (by omega), k1]
    have c1 : nI (s / 10) - 1 < 0 ↔ (nI (s / 10) - 1).toInt < 0 := by rw [lt_i, k0]
    by_cases d1 : nI (s / 10) - 1 < 0
    · rw [if_pos d1, if_pos (hin.mpr (fun q => by have := c1.mp d1; omega))]
    · rw [if_neg d1]
      obtain ⟨y, hy⟩ : ∃ y, s / 10 = y + 1 := by
        cases h10 : s / 10 with
        | zero => rw [h10] at d1; exact absurd (by decide) d1
        | succ y => exact ⟨y, rfl⟩
      rw [hy, nI_pred] at hin ⊢
      rw [nI_toInt (by omega)] at hin
      have c8 : (8 : Int32) ≤ nI y ↔ 8 ≤ y := nI_leI (a := 8) (by omega) (by omega)
      by_cases d2 : 8 ≤ y
      · rw [if_pos (c8.mpr d2), if_pos (hin.mpr (fun q => by omega))]
      · rw [if_neg (fun q => d2 (c8.mp q))]
        have t0 := bit_y ⟨w0, v0⟩ ⟨y, by omega⟩
        have t1 := bit_y ⟨w1, v1⟩ ⟨y, by omega⟩
        simp only at t0 t1
        rw [t0, t1]
        have e1 : ∀ z : Nat, nI (z % 2) = 1 ↔ z % 2 = 1 := fun z => nI_eq (b := 1) (by omega) (by omega)
        by_cases d3 : y < l
        · rw [if_neg (fun q => hin.mp q ⟨by omega, by omega⟩), b1 y d3 (by omega)]
        · rw [if_pos (hin.mpr (fun q => by omega)), if_pos (fun q => b0 y (by omega) (by omega) ((e1 _).mp q))]
  · rw [if_pos c, if_pos c]
