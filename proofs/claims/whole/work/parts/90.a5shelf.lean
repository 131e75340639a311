/-! shelves -/
theorem wr_lp {lp : Nat → Mem → Int32 → Mem} {r N f : Nat} {ix : Nat → Nat} {val : Mem → Nat → Int32} {M : Mem} (Q : Mem → Prop) (hf : N < f) (hQ0 : Q M) (hs : ∀ f M k, k < N → Q M → lp (f + 1) M (nI k) = lp f (up2 M r (ix k) (val M k)) (nI (k + 1))) (h0 : ∀ f M, Q M → lp (f + 1) M (nI N) = M) (hQ : ∀ M k, k < N → Q M → Q (up2 M r (ix k) (val M k)))
    (hix : ∀ k k', ix k = ix k' → k = k') (hv : ∀ X k, k < N → (∀ j q, (¬ j = r ∨ ∀ i, i < k → ¬ q = ix i) → X j q = M j q) → val X k = val M k) :
    (∀ k, k < N → lp f M 0 r (ix k) = val M k) ∧ ∀ j q, (¬ j = r ∨ ∀ k, k < N → ¬ q = ix k) → lp f M 0 j q = M j q := by
  have e : lp f M 0 = rep (fun k M => up2 M r (ix k) (val M k)) N M := lp_rep0 (Q := Q) hf hQ0 (fun f k M hk hq => hs f M k hk hq) h0 (fun k M hk hq => hQ M k hk hq)
  rw [e]
  have key := rep_ind (g := fun k M => up2 M r (ix k) (val M k)) (n := N) (M := M) (S := fun k X => (∀ i, i < k → X r (ix i) = val M i) ∧ ∀ j q, (¬ j = r ∨ ∀ i, i < k → ¬ q = ix i) → X j q = M j q) (fun k X hk hS => by
    obtain ⟨s1, s2⟩ := hS
    refine ⟨fun i hi => ?_, fun j q h => ?_⟩
    · show up2 X r (ix k) _ r (ix i) = _
      by_cases e : i = k
      · subst e; rw [up2_s]; exact hv X i hk s2
      · rw [up2_n _ _ (fun q => e (hix _ _ q.2))]; exact s1 i (by omega)
    · show up2 X r (ix k) _ j q = _
      rw [up2_n _ _ (fun p => h.elim (fun g => g p.1) (fun g => g k (by omega) p.2))]
      exact s2 j q (h.imp id (fun g i hi => g i (by omega)))) ⟨fun i hi => by omega, fun _ _ _ => rfl⟩ N (Nat.le_refl _)
  exact key
theorem ix_row {d k : Nat} (hd : d < 8) (hk : k < 200) : (100 * nI d + nI k).toNatClampNeg = 100 * d + k := by
  rw [show (100 : Int32) * nI d = nI (100 * d) from pk_mul 100 d, nI_add, nI_clamp (by omega)]
theorem shelf_cases (a : Int32) : (∃ d, d < 8 ∧ a = nI d ∧ (∀ M, f_X6_shelfAt M a = some (44 + d)) ∧ ¬ f_X7_in a.toInt64 0 7 = 0) ∨ ((∀ M, f_X6_shelfAt M a = none) ∧ f_X7_in a.toInt64 0 7 = 0) := by
  have hi := inz (a := a) (lo := 0) (hi := 7)
  rw [show (0 : Int64).toInt = 0 by decide, show (7 : Int64).toInt = 7 by decide] at hi
  rcases pk_ix a (n := 8) (by omega) with h | h | ⟨d, hd, rfl⟩
  · refine Or.inr ⟨fun M => ?_, hi.mpr (fun q => ?_)⟩
    · unfold f_X6_shelfAt; simp only [bnd]; rw [if_pos h]
    · rw [lt_i, k0] at h; omega
  · have h0 : ¬ a < 0 := fun q => by
      rw [lt_i, k0] at q
      rw [le_i, nI_toInt (by omega)] at h
      omega
    refine Or.inr ⟨fun M => ?_, hi.mpr (fun q => ?_)⟩
    · unfold f_X6_shelfAt; simp only [bnd]; rw [if_neg h0, if_pos (show (8 : Int32) ≤ a from h)]
    · rw [le_i, nI_toInt (by omega)] at h; omega
  · refine Or.inl ⟨d, hd, rfl, fun M => ?_, fun q => hi.mp q ?_⟩
    · unfold f_X6_shelfAt; simp only [bnd]
      rw [if_neg (nI_pos (by omega)), if_neg (show ¬ (8 : Int32) ≤ nI d from nI_ge (b := 8) hd (by decide)), nI_clamp (by omega)]
    · rw [nI_toInt (by omega)]; omega
theorem rowR_eq {C R : Mem} {d : Nat} (hd : d < 8) (h : C (44 + d) 0 = R 23 d) (hi : ¬ f_X7_in (nI d).toInt64 0 7 = 0) : f_X7_wrongRow R (nI d) = f_X5_rowRefusal C (44 + d) ∧ (f_X5_rowRefusal C (44 + d) = 0 ∧ R 23 d = 2 ∨ f_X5_rowRefusal C (44 + d) = -11 ∨ f_X5_rowRefusal C (44 + d) = -12) := by
  unfold f_X7_wrongRow f_X5_rowRefusal
  simp only [bnd]
  rw [if_pos hi, nI_clamp (by omega), h]
  by_cases h0 : R 23 d = 0
  · rw [if_neg (not_not_intro h0), if_neg (not_not_intro h0)]; exact ⟨rfl, Or.inr (Or.inl rfl)⟩
  · rw [if_pos h0, if_pos h0]
    by_cases h2 : R 23 d = 2
    · rw [if_pos h2, if_neg (not_not_intro h2)]; exact ⟨rfl, Or.inl ⟨rfl, h2⟩⟩
    · rw [if_neg h2, if_pos h2]; exact ⟨rfl, Or.inr (Or.inr rfl)⟩
theorem rowR_no {R : Mem} {a : Int32} (hi : f_X7_in a.toInt64 0 7 = 0) : f_X7_wrongRow R a = -1 := by
  unfold f_X7_wrongRow
  simp only [bnd]
  rw [if_neg (not_not_intro hi)]
theorem SH_19 {C R : Mem} {d : Nat} {v : Int32} (h : SH1 C R d) : SH1 C (up2 R 0 19 v) d := SH_of h (fun _ _ _ => rfl) (fun j p1 p2 => up2_n _ _ (by omega)) (fun k hk => up2_n _ _ (by omega))
/-- the signs of a text read -/
theorem read_ok {R : Mem} {d m : Nat} (hd : d < 8) (hm : m ≤ 100) (h28 : R 28 d = nI m) : (∀ k, k < m → f_X7_readText R (nI d) 12 k = ((R 29 (100 * d + k)).toInt64.toInt32) &&& 255) ∧ f_X7_readText R (nI d) 0 21 = nI m ∧ ∀ j q, ¬ j = 12 → ¬ (j = 0 ∧ q = 21) → f_X7_readText R (nI d) j q = R j q := by
  refine ⟨fun k hk => ?_, by rw [readText_21, nI_clamp (by omega)]; exact h28, fun j q h1 h2 => readText_row R _ h1 h2⟩
  unfold f_X7_readText
  simp only [bnd]
  rw [nI_clamp (by omega), h28]
  have key := wr_lp (lp := fun f M v => lp_X7_readText_12 f (nI d) M v) (r := 12) (N := m) (f := 101) (ix := fun k => k) (val := fun X k => ((X 29 (100 * d + k)).toInt64.toInt32) &&& 255) (M := up2 R 0 21 (nI m)) (fun M => M 0 21 = nI m) (by omega) (up2_s _ _ _ _) (fun f M k hk hQ => by
      show lp_X7_readText_12 (f + 1) (nI d) M (nI k) = _
      rw [lp_X7_readText_12, hQ, if_neg (nI_ge hk (by omega))]
      simp only [bnd]
      rw [nI_1, ix_row hd (by omega), nI_clamp (by omega)]) (fun f M hQ => by
      show lp_X7_readText_12 (f + 1) (nI d) M (nI m) = _
      rw [lp_X7_readText_12, hQ, if_pos (nI_le (Nat.le_refl _) (by omega))]) (fun M k hk hQ => by rw [up2_n _ _ (by omega)]; exact hQ) (fun k k' h => h) (fun X k hk h => by
      show ((X 29 (100 * d + k)).toInt64.toInt32) &&& 255 = _
      rw [h 29 (100 * d + k) (Or.inl (by decide))])
  have := key.1 k hk
  show lp_X7_readText_12 101 (nI d) (up2 R 0 21 (nI m)) 0 12 k = _
  rw [this]
  show ((up2 R 0 21 (nI m) 29 (100 * d + k)).toInt64.toInt32) &&& 255 = _
  rw [up2_n _ _ (by omega)]
theorem VL_nb {t : Nat → Int32} : ∀ (m k : Nat) (w : Bool) (d : Nat), VL t m k w d → ∀ j, k ≤ j → j < k + m → ¬ bad (t j) := by
  intro m
  induction m with
  | zero => intro k w d _ j h1 h2; omega
  | succ m ih =>
    intro k w d h j h1 h2
    by_cases e : j = k
    · subst e
      unfold VL at h
      rintro ⟨b1, b2, b3, b4, b5, b6, b7⟩
      rcases h with ⟨_, h, _⟩ | ⟨_, h, _⟩ | ⟨_, h, _⟩ | ⟨_, h, _⟩ | ⟨_, h, _⟩ | ⟨_, h, _⟩
      · exact b4 h
      · exact h.elim b6 b7
      · exact b1 h
      · exact b1 h
      · exact h.elim b2 b3
      · exact b5 h
    · unfold VL at h
      rcases h with ⟨_, _, _, h⟩ | ⟨_, _, h⟩ | ⟨_, _, h⟩ | ⟨_, _, _, h⟩ | ⟨_, _, h⟩ | ⟨_, _, _, h⟩
      all_goals exact ih _ _ _ h j (by omega) (by omega)
theorem fc_ge {C : Mem} {a n : Nat} (hn : n ≤ 100) : ∀ (c k f : Nat) (p q w : Int32), c + k = n → c < f → lp_X2_faultIn_10 f C a (nI n) p q w (nI k) = -4 ∨ 0 ≤ (lp_X2_faultIn_10 f C a (nI n) p q w (nI k)).toInt := by
  have hN : 0 ≤ (nI n).toInt := by rw [nI_toInt (by omega)]; omega
  intro c
  induction c with
  | zero =>
    intro k f p q w hk hf
    obtain ⟨f, rfl⟩ : ∃ x, f = x + 1 := ⟨f - 1, by omega⟩
    obtain rfl : k = n := by omega
    rw [fc_end (Or.inl (nI_le (Nat.le_refl _) (by omega)))]
    exact ite_P (P := fun x : Int32 => x = -4 ∨ 0 ≤ x.toInt) (fun _ => Or.inr hN) (fun _ => ite_P (P := fun x : Int32 => x = -4 ∨ 0 ≤ x.toInt) (fun _ => Or.inl rfl) (fun _ => Or.inr hN))
  | succ c ih =>
    intro k f p q w hk hf
    obtain ⟨f, rfl⟩ : ∃ x, f = x + 1 := ⟨f - 1, by omega⟩
    have h1 : ¬ nI n ≤ nI k := nI_ge (by omega) (by omega)
    have h2 : ¬ (100 : Int32) ≤ nI k := nI_ge (b := 100) (show k < 100 by omega) (by decide)
    have hK : 0 ≤ (nI k).toInt := by rw [nI_toInt (by omega)]; omega
    have ih := fun p q w => ih (k + 1) f p q w (by omega) (by omega)
    by_cases hw : w = 0
    · rw [fc_has h1 h2 hw, nI_1]
      exact ite_P (P := fun x : Int32 => x = -4 ∨ 0 ≤ x.toInt) (fun _ => ih _ _ _) (fun _ => ite_P (P := fun x : Int32 => x = -4 ∨ 0 ≤ x.toInt) (fun _ => ih _ _ _) (fun _ => ite_P (P := fun x : Int32 => x = -4 ∨ 0 ≤ x.toInt) (fun _ => ih _ _ _) (fun _ => Or.inr hK)))
    · rw [fc_wants h1 h2 hw, nI_1]
      exact ite_P (P := fun x : Int32 => x = -4 ∨ 0 ≤ x.toInt) (fun _ => ih _ _ _) (fun _ => ite_P (P := fun x : Int32 => x = -4 ∨ 0 ≤ x.toInt) (fun _ => ih _ _ _) (fun _ => Or.inr hK))
theorem fault_ge {C : Mem} {a n : Nat} (hn : n ≤ 100) : f_X2_faultIn C a (nI n) = -4 ∨ 0 ≤ (f_X2_faultIn C a (nI n)).toInt := fc_ge hn n 0 101 0 0 1 (by omega) (by omega)
/-- a text without fault has no number of more than three digits -/
theorem fc_D3 {C : Mem} {a n : Nat} (hn : n ≤ 100) : ∀ (m k f r qn : Nat) (p q w : Int32), m + k = n → m < f → q = nI qn → (w = 0 → r + qn ≤ 3) → (¬ w = 0 → r = 0) → lp_X2_faultIn_10 f C a (nI n) p q w (nI k) = -4 → D3 (C a) m k r := by
  intro m
  induction m with
  | zero => intro k f r qn p q w _ _ _ _ _ _; trivial
  | succ m ih =>
    intro k f r qn p q w hk hf hq h5 h6 h
    obtain ⟨f, rfl⟩ : ∃ x, f = x + 1 := ⟨f - 1, by omega⟩
    have h1 : ¬ nI n ≤ nI k := nI_ge (by omega) (by omega)
    have h2 : ¬ (100 : Int32) ≤ nI k := nI_ge (b := 100) (show k < 100 by omega) (by decide)
    have ek : (nI k).toNatClampNeg = k := nI_clamp (by omega)
    have hk4 : ¬ nI k = -4 := fun e => by
      have := congrArg Int32.toInt e
      rw [nI_toInt (by omega)] at this
      have : (-4 : Int32).toInt = -4 := by decide
      omega
    have go := fun r' qn' p' q' w' => ih (k + 1) f r' qn' p' q' w' (by omega) (by omega)
    by_cases hw : w = 0
    · have h5 := h5 hw
      rw [fc_has h1 h2 hw, ek, nI_1] at h
      by_cases hdx : dg (C a k)
      · have hdC : ¬ f_X2_isDigit (C a k) = 0 := fun g => dgC.mp g hdx
        have hno := dg_not hdx
        by_cases hq0 : q ≤ 0
        · rw [if_neg (fun g => g.2 hq0), if_neg (fun g => g.elim (fun g => g (sgC.mpr hno.1)) (fun g => g (pgC.mpr hno.2.1))), if_neg (fun g => hno.2.2.2.1 g.1)] at h
          exact absurd h hk4
        · rw [if_pos ⟨hdC, hq0⟩] at h
          cases qn with
          | zero => exact absurd (by rw [hq]; decide) hq0
          | succ qn =>
            have hq' : q + -1 = nI qn := by rw [hq, ← Int32.sub_eq_add_neg, nI_pred]
            unfold D3
            exact Or.inl ⟨hdx, by omega, go (r + 1) qn _ _ _ hq' (fun _ => by omega) (fun g => absurd hw g) h⟩
      · rw [if_neg (fun g => g.1 (dgC.mpr hdx))] at h
        unfold D3
        refine Or.inr ⟨hdx, ?_⟩
        by_cases hwk : ¬ f_X2_isSumSign (C a k) = 0 ∨ ¬ f_X2_isProductSign (C a k) = 0
        · rw [if_pos hwk] at h
          exact go 0 qn _ _ _ hq (fun g => absurd g (by decide)) (fun _ => rfl) h
        · rw [if_neg hwk] at h
          by_cases h41 : C a k = 41 ∧ ¬ p ≤ 0
          · rw [if_pos h41] at h
            exact go 0 0 _ _ _ nI_0.symm (fun _ => by omega) (fun g => absurd hw g) h
          · rw [if_neg h41] at h
            exact absurd h hk4
    · have r0 := h6 hw
      subst r0
      rw [fc_wants h1 h2 hw, ek, nI_1] at h
      by_cases hdx : dg (C a k)
      · have hdC : ¬ f_X2_isDigit (C a k) = 0 := fun g => dgC.mp g hdx
        rw [if_neg (fun g => (dg_not hdx).2.2.1 g.1), if_pos (Or.inl hdC), if_neg hdC] at h
        unfold D3
        refine Or.inl ⟨hdx, by omega, ?_⟩
        by_cases e48 : C a k = 48
        · rw [if_pos e48] at h
          exact go 1 0 _ _ _ nI_0.symm (fun _ => by omega) (fun g => absurd rfl g) h
        · rw [if_neg e48] at h
          exact go 1 2 _ _ _ rfl (fun _ => by omega) (fun g => absurd rfl g) h
      · unfold D3
        refine Or.inr ⟨hdx, ?_⟩
        by_cases h40 : C a k = 40 ∧ ¬ (6 : Int32) ≤ p
        · rw [if_pos h40] at h
          exact go 0 qn _ _ _ hq (fun g => absurd g hw) (fun _ => rfl) h
        · rw [if_neg h40] at h
          by_cases hts : ¬ f_X2_isDigit (C a k) = 0 ∨ C a k = 116 ∨ C a k = 115
          · rw [if_pos hts, if_pos (dgC.mpr hdx)] at h
            exact go 0 0 _ _ _ nI_0.symm (fun _ => by omega) (fun g => absurd rfl g) h
          · rw [if_neg hts] at h
            exact absurd h hk4
theorem fault_D3 {C : Mem} {a n : Nat} (hn : n ≤ 100) (h : f_X2_faultIn C a (nI n) = -4) : D3 (C a) n 0 0 := fc_D3 hn n 0 101 0 0 0 0 1 (by omega) (by omega) nI_0.symm (fun g => absurd g (by decide)) (fun _ => rfl) h
/-- the fault of a shelf's text -/
theorem faults {C R : Mem} {d m : Nat} (hd : d < 8) (h : SH1 C R d) (h2 : R 23 d = 2) (hs : R 27 d = 0) (hm : m ≤ 100) (h28 : R 28 d = nI m) :
    f_X2_faultIn C (60 + d) (nI m) = (f_X7_faultOf (f_X7_readText R (nI d))).1 ∧ (f_X2_faultIn C (60 + d) (nI m) = -4 → VL (f_X7_readText R (nI d) 12) m 0 true 0 ∧ ∀ j, j < m → C (60 + d) j = f_X7_readText R (nI d) 12 j) ∧ (∀ j q, ¬ (j = 0 ∧ q = 22) → (f_X7_faultOf (f_X7_readText R (nI d))).2 j q = f_X7_readText R (nI d) j q) := by
  obtain ⟨r1, r2, r3⟩ := read_ok hd hm h28
  have hsc : ∀ j, j < m → SC (C (60 + d) j) (f_X7_readText R (nI d) 12 j) := fun j hj => by
    obtain ⟨f1, f2⟩ := (h.2.2.2.2 h2).2.2.2 j (by omega)
    rw [r1 j hj, f1]
    exact SC_and (f2 hs)
  generalize f_X7_readText R (nI d) = R1 at r1 r2 r3 hsc ⊢
  obtain ⟨q1, q2⟩ := fault_eq (C := C) (R := R1) (a := 60 + d) hm hsc r2 m 101 101 0 (up2 R1 0 22 0) 0 0 1 0 0 (by omega) (by omega) (by omega) (fun j z hz => up2_n _ _ hz) rfl (by omega) (Or.inr ⟨rfl, rfl⟩) (fun g => absurd g (by decide)) (fun g => absurd g (by decide))
  unfold f_X2_faultIn f_X7_faultOf
  simp only [bnd]
  refine ⟨q1, fun g => ?_, fun j q hq => by rw [fv_frame _ _ _ _ _ _ _ _ hq, up2_n _ _ hq]⟩
  have hV := q2 g
  exact ⟨hV, fun j hj => (hsc j hj).resolve_right (fun e => VL_nb m 0 _ _ hV j (by omega) (by omega) e.2)⟩
theorem textR {C R : Mem} {d : Nat} (hd : d < 8) (h : SH1 C R d) (hi : ¬ f_X7_in (nI d).toInt64 0 7 = 0) : f_X7_wrongSort R (nI d) 0 = f_X5_textRefusal C (44 + d) ∧ (f_X5_textRefusal C (44 + d) = 0 ∧ R 23 d = 2 ∧ R 27 d = 0 ∨ f_X5_textRefusal C (44 + d) = -11 ∨ f_X5_textRefusal C (44 + d) = -12) := by
  obtain ⟨e1, e2⟩ := rowR_eq hd h.1 hi
  unfold f_X7_wrongSort f_X5_textRefusal
  simp only [bnd]
  rw [e1]
  rcases e2 with ⟨e2, e3⟩ | e2 | e2
  · rw [e2, if_pos (show (0 : Int32) ≤ 0 by decide), if_neg (show ¬ ¬ (0 : Int32) = 0 by decide), nI_clamp (by omega), (h.2.2.2.2 e3).1]
    by_cases c : R 27 d = 0
    · rw [if_pos c]; exact ⟨rfl, Or.inl ⟨rfl, e3, c⟩⟩
    · rw [if_neg c]; exact ⟨rfl, Or.inr (Or.inr rfl)⟩
  · rw [e2, if_neg (show ¬ (0 : Int32) ≤ -11 by decide), if_pos (show ¬ (-11 : Int32) = 0 by decide)]; exact ⟨rfl, Or.inr (Or.inl rfl)⟩
  · rw [e2, if_neg (show ¬ (0 : Int32) ≤ -12 by decide), if_pos (show ¬ (-12 : Int32) = 0 by decide)]; exact ⟨rfl, Or.inr (Or.inr rfl)⟩
theorem sizeO {C R : Mem} {d : Nat} (h : SH1 C R d) (h2 : R 23 d = 2) : ∃ m, m ≤ 100 ∧ R 28 d = nI m ∧ C (44 + d) 3 = nI m := by
  obtain ⟨m, hm, e⟩ := of_rng (N := 100) h.2.2.1.1 h.2.2.1.2
  exact ⟨m, hm, by rw [← (h.2.2.2.2 h2).2.2.1]; exact e, e⟩
theorem sim_fault : S_fault Core := by
  intro C R a hC _ _
  have h19 := Core_19 hC 0
  unfold f_X6_fault f_X7_fault
  simp only [bnd, bnd2]
  rcases shelf_cases a with ⟨d, hd, rfl, hs, hi⟩ | ⟨hs, hi⟩
  · rw [hs]
    have hS := SH_19 (v := 0) (hC.2.2.2 d hd)
    obtain ⟨e1, e2⟩ := textR hd hS hi
    show (if f_X5_textRefusal C (44 + d) = 0 then f_X2_faultIn C (44 + d + 16) (C (44 + d) 3) else f_X5_textRefusal C (44 + d)) = _ ∧ _
    rw [e1]
    rcases e2 with ⟨e2, e3, e4⟩ | e2 | e2
    · rw [e2, if_pos rfl, if_pos (by decide)]
      obtain ⟨m, hm, m1, m2⟩ := sizeO hS e3
      obtain ⟨f1, _, f3⟩ := faults hd hS e3 e4 hm m1
      obtain ⟨r1, r2, r3⟩ := read_ok hd hm m1
      rw [m2, show 44 + d + 16 = 60 + d by omega]
      refine ⟨f1, Core_R h19 (fun j q hc => ?_) (WI_of h19.2.1 ?_ ?_ (fun q => ?_)) ?_ (fun q => ?_) (fun j q p1 p2 => ?_)⟩
      · rw [cry_iff] at hc; rw [f3 _ _ (by omega), r3 _ _ (by omega) (by omega)]
      all_goals rw [f3 _ _ (by omega), r3 _ _ (by omega) (by omega)]
    · rw [e2, if_neg (by decide), if_neg (by decide)]; exact ⟨rfl, h19⟩
    · rw [e2, if_neg (by decide), if_neg (by decide)]; exact ⟨rfl, h19⟩
  · rw [hs]
    have : f_X7_wrongSort (up2 R 0 19 0) a 0 = -1 := by
      unfold f_X7_wrongSort; simp only [bnd]; rw [rowR_no hi, if_neg (by decide)]
    rw [this, if_neg (by decide)]
    exact ⟨rfl, h19⟩
theorem fill_ok {M : Mem} {a : Nat} {v : Int32} : (∀ k, k < nIA a → f_J7_fill_53178 M a v a k = v) ∧ ∀ j q, (¬ j = a ∨ nIA a ≤ q) → f_J7_fill_53178 M a v j q = M j q := by
  have hN : nIA a ≤ 401 := by unfold nIA; split <;> omega
  unfold f_J7_fill_53178
  simp only [bnd]
  rw [show ((nI (nIA a)).toInt - 0).toNat + 1 = nIA a + 1 by rw [nI_toInt (by omega)]; omega]
  obtain ⟨k1, k2⟩ := wr_lp (lp := fun f M w => lp_J7_fill_53178_5 f a v (nI (nIA a)) M w) (r := a) (N := nIA a) (f := nIA a + 1) (ix := fun k => k) (val := fun _ _ => v) (M := M) (fun _ => True) (by omega) trivial (fun f M k hk _ => by
      show lp_J7_fill_53178_5 (f + 1) a v (nI (nIA a)) M (nI k) = _
      rw [lp_J7_fill_53178_5, if_neg (nI_ge hk (by omega))]
      simp only [bnd]
      rw [nI_1, nI_clamp (by omega)]) (fun f M _ => by
      show lp_J7_fill_53178_5 (f + 1) a v (nI (nIA a)) M (nI (nIA a)) = _
      rw [lp_J7_fill_53178_5, if_pos (nI_le (Nat.le_refl _) (by omega))]) (fun _ _ _ _ => trivial) (fun k k' h => h) (fun _ _ _ _ => rfl)
  exact ⟨k1, fun j q h => k2 j q (h.imp id (fun g k hk e => by omega))⟩
theorem cpM_in {M : Mem} {a b n k : Nat} (hn : n ≤ 100) (hk : k < n) : cpM M a b 0 0 (nI n) b k = M a k := by
  unfold cpM
  rw [if_pos rfl, nI_clamp (by omega), show ((0 : Int32).toNatClampNeg) = 0 by decide, pk_cpy_in (by omega) (by omega)]
  rw [show 0 + (k - 0) = k by omega]
theorem cpM_o {M : Mem} {a b : Nat} {x y z : Int32} {j q : Nat} (h : ¬ j = b) : cpM M a b x y z j q = M j q := by
  unfold cpM; rw [if_neg h]
theorem takeN {n : Nat} (hn : n ≤ 100) : mx 0 (mn (nI n) 100) = nI n := by
  have k100 : (100 : Int32).toInt = 100 := by decide
  apply eq_i.mpr
  rw [mx_i, mn_i, nI_toInt (by omega), k100, k0]
  omega
/-- a law told -/
theorem tellLaw_ok {M : Mem} {o a n : Nat} {t : Nat → Int32} (ho : 1 ≤ o ∧ o ≤ 3) (ha : 60 ≤ a ∧ a ≤ 67) (hn : n ≤ 100) (ht : ∀ k, k < n → M a k = t k) (hV : OKL n t) : (∀ sd, M o 4 = sd → WL (f_X0_tellLaw M o a (nI n)) o n t sd) ∧ ∀ j q, ¬ (j = o + 3 ∧ (q = 1 ∨ q = 3)) → ¬ j = o + 9 → ¬ (j = o + 6 ∨ 68 ≤ j) → f_X0_tellLaw M o a (nI n) j q = M j q := by
  unfold f_X0_tellLaw
  simp only [bnd]
  obtain ⟨l1, l2⟩ := LW_tell (M := M) (o := o + 3) (a := a) hn (by omega) ht hV
  obtain ⟨f1, f2⟩ := fill_ok (M := f_X2_tell M (o + 3) a (nI n)) (a := o + 6) (v := 100)
  have hA : nIA (o + 6) = 401 := by unfold nIA; rw [if_pos (by omega)]
  refine ⟨fun sd h4 => ⟨LW_of l1 (f2 _ _ (Or.inl (by omega))) (fun q => f2 _ _ (Or.inl (by omega))), ?_, fun q hq => Or.inl (f1 q (by omega))⟩, fun j q h1 h2 h3 => ?_⟩
  · rw [f2 _ _ (Or.inl (by omega)), l2 _ _ (by omega) (by omega) (by omega)]; exact h4
  · rw [f2 _ _ (Or.inl (by omega)), l2 _ _ h1 (by omega) (by omega)]
theorem lawT_lp {M : Mem} {m : Nat} (hm : m ≤ 100) (h21 : M 0 21 = nI m) : (∀ k, k < m → lp_X7_law_48 101 M 0 1 k = M 12 k) ∧ ∀ j q, (¬ j = 1 ∨ m ≤ q) → lp_X7_law_48 101 M 0 j q = M j q := by
  obtain ⟨k1, k2⟩ := wr_lp (lp := fun f M v => lp_X7_law_48 f M v) (r := 1) (N := m) (f := 101) (ix := fun k => k) (val := fun X k => X 12 k) (M := M) (fun M => M 0 21 = nI m) (by omega) h21 (fun f M k hk hQ => by
      show lp_X7_law_48 (f + 1) M (nI k) = _
      rw [lp_X7_law_48, hQ, if_neg (nI_ge hk (by omega))]
      simp only [bnd]
      rw [nI_1, nI_clamp (by omega)]) (fun f M hQ => by
      show lp_X7_law_48 (f + 1) M (nI m) = _
      rw [lp_X7_law_48, hQ, if_pos (nI_le (Nat.le_refl _) (by omega))]) (fun M k hk hQ => by rw [up2_n _ _ (by omega)]; exact hQ) (fun k k' h => h) (fun X k hk h => h 12 k (Or.inl (by decide)))
  exact ⟨k1, fun j q h => k2 j q (h.imp id (fun g k hk e => by omega))⟩
theorem sim_law : S_law Core := by
  intro C R a hC _ _
  have h19 := Core_19 hC 0
  unfold f_X6_law f_X7_law
  simp only [bnd, bnd2]
  rcases shelf_cases a with ⟨d, hd, rfl, hs, hi⟩ | ⟨hs, hi⟩
  · rw [hs]
    have hS := SH_19 (v := 0) (hC.2.2.2 d hd)
    obtain ⟨e1, e2⟩ := textR hd hS hi
    show (if f_X5_textRefusal C (44 + d) = 0 then (if f_X2_faultIn C (44 + d + 16) (C (44 + d) 3) = -4 then (1, f_X0_tellLaw C 1 (44 + d + 16) (C (44 + d) 3)) else (-100 - f_X2_faultIn C (44 + d + 16) (C (44 + d) 3), C)) else (f_X5_textRefusal C (44 + d), C)).1 = _ ∧ Core (if f_X5_textRefusal C (44 + d) = 0 then (if f_X2_faultIn C (44 + d + 16) (C (44 + d) 3) = -4 then (1, f_X0_tellLaw C 1 (44 + d + 16) (C (44 + d) 3)) else (-100 - f_X2_faultIn C (44 + d + 16) (C (44 + d) 3), C)) else (f_X5_textRefusal C (44 + d), C)).2 _
    rw [e1]
    rcases e2 with ⟨e2, e3, e4⟩ | e2 | e2
    · rw [e2, if_pos rfl, if_pos (show (0 : Int32) ≤ 0 by decide)]
      obtain ⟨m, hm, m1, m2⟩ := sizeO hS e3
      obtain ⟨f1, f2, f3⟩ := faults hd hS e3 e4 hm m1
      obtain ⟨r1, r2, r3⟩ := read_ok hd hm m1
      rw [m2, show 44 + d + 16 = 60 + d by omega, ← f1]
      have hge := fault_ge (C := C) (a := 60 + d) hm
      have hD3 : f_X2_faultIn C (60 + d) (nI m) = -4 → D3 (C (60 + d)) m 0 0 := fault_D3 hm
      generalize f_X2_faultIn C (60 + d) (nI m) = y at f1 f2 hge hD3 ⊢
      generalize hR2 : (f_X7_faultOf (f_X7_readText (up2 R 0 19 0) (nI d))).2 = R2 at f3 ⊢
      generalize hR1 : f_X7_readText (up2 R 0 19 0) (nI d) = R1 at f1 f2 f3 r1 r2 r3 hR2
      have fr : ∀ j q, ¬ j = 12 → ¬ (j = 0 ∧ (q = 21 ∨ q = 22)) → R2 j q = up2 R 0 19 0 j q := fun j q p1 p2 => by rw [f3 _ _ (by omega), r3 _ _ p1 (by omega)]
      by_cases hy : y = -4
      · obtain ⟨g1, g2⟩ := f2 hy
        rw [if_pos hy, if_pos (by rw [hy]; decide)]
        have e21 : R2 0 21 = nI m := by rw [f3 _ _ (by omega)]; exact r2
        rw [e21]
        obtain ⟨l1, l2⟩ := lawT_lp (M := up2 R2 0 5 (nI m)) hm (by rw [up2_n _ _ (by omega)]; exact e21)
        generalize lp_X7_law_48 101 (up2 R2 0 5 (nI m)) 0 = R3 at l1 l2 ⊢
        have t1 : ∀ k, k < m → R3 1 k = R1 12 k := fun k hk => by rw [l1 k hk, up2_n _ _ (by omega), f3 _ _ (by omega)]
        have fr3 : ∀ j q, ¬ j = 12 → ¬ j = 1 → ¬ (j = 0 ∧ (q = 21 ∨ q = 22 ∨ q = 5)) → R3 j q = up2 R 0 19 0 j q := fun j q p1 p2 p3 => by rw [l2 _ _ (Or.inl p2), up2_n _ _ (by omega), fr _ _ p1 (by omega)]
        have hct : ∀ k, k < m → C (60 + d) k = up2 R3 0 29 0 1 k := fun k hk => by rw [up2_n _ _ (by omega), t1 k hk]; exact g2 k hk
        have hOK : OKL m (up2 R3 0 29 0 1) := Or.inr ⟨VL_congr m 0 true 0 (fun j hj => by rw [up2_n _ _ (by omega), t1 j (by omega)]) g1, D3_congr m 0 0 (fun j hj => hct j (by omega)) (hD3 hy)⟩
        obtain ⟨w1, w2⟩ := tellLaw_ok (M := C) (o := 1) (a := 60 + d) (n := m) (t := up2 R3 0 29 0 1) (by omega) (by omega) hm hct hOK
        generalize f_X0_tellLaw C 1 (60 + d) (nI m) = C2 at w1 w2 ⊢
        refine ⟨rfl, ?_⟩
        show Core C2 (up2 R3 0 29 0)
        obtain ⟨c1, c2, c3, c4⟩ := h19
        refine ⟨?_, fun g => absurd (by rw [up2_s]; decide) g, ⟨?_, fun g => ?_⟩, fun d' hd' => SH_of (c4 d' hd') (fun j q p => w2 _ _ (by omega) (by omega) (by omega)) (fun j p1 p2 => ?_) (fun k hk => ?_)⟩
        · obtain ⟨n, s, ln, x1, x2, x3, x4, x5, x6, x7, x8, x9⟩ := c1
          have hbt : ∀ j q, 2 ≤ j → j ≤ 11 → up2 R3 0 29 0 j q = up2 R 0 19 0 j q := fun j q p1 p2 => by rw [up2_n _ _ (by omega), fr3 _ _ (by omega) (by omega) (by omega)]
          have hf0 : ∀ q, q ≤ 4 ∨ q = 7 ∨ q = 8 → up2 R3 0 29 0 0 q = up2 R 0 19 0 0 q := fun q p => by rw [up2_n _ _ (by omega), fr3 _ _ (by omega) (by omega) (by omega)]
          refine ⟨n, s, m, x1, ?_, by rw [w2 _ _ (by omega) (by omega) (by omega)]; exact x3, by rw [hf0 _ (by omega)]; exact x4, x5, ⟨hm, ?_, fun _ _ => rfl⟩, hOK, ?_, ?_⟩
          · obtain ⟨y1, y2, y3, y4⟩ := x2
            refine ⟨by rw [w2 _ _ (by omega) (by omega) (by omega)]; exact y1, by rw [hf0 _ (by omega)]; exact y2, BY_of y3 (fun q hq => w2 _ _ (by omega) (by omega) (by omega)) (fun q hq => hf0 _ (by omega)), fun i hi => ?_⟩
            obtain ⟨b1, b2, b3⟩ := y4 i hi
            exact ⟨BX_of b1 (fun q p1 p2 => w2 _ _ (by omega) (by omega) (by omega)) (fun j p1 p2 => hbt _ _ (by omega) (by omega)), BS_of b2 (fun q p1 p2 => w2 _ _ (by omega) (by omega) (by omega)) (w2 _ _ (by omega) (by omega) (by omega)) (fun j p1 p2 => hbt _ _ (by omega) (by omega)), KN_of b3 (fun q p => w2 _ _ (by omega) (by omega) (by omega)) (fun j p => hbt _ _ (by omega) (by omega))⟩
          · rw [up2_n _ _ (by omega), l2 _ _ (Or.inl (by omega)), up2_s]
          · refine w1 _ ?_
            rw [hf0 _ (by omega)]; exact x8.2.1
          · obtain ⟨z1, z2⟩ := x9
            exact ⟨by rw [hf0 _ (by omega)]; exact z1, by rw [hf0 _ (by omega)]; exact z2⟩
        · rw [w2 _ _ (by omega) (by omega) (by omega), up2_n _ _ (by omega), fr3 _ _ (by omega) (by omega) (by omega)]; exact c3.1
        · rw [up2_n _ _ (by omega), fr3 _ _ (by omega) (by omega) (by omega)] at g
          refine GS_C (GS_R (c3.2 g) (fun j q hc => ?_)) (fun j q hc => w2 _ _ ?_ ?_ ?_)
          · show up2 R3 0 29 0 21 _ = up2 R 0 19 0 21 _
            rw [up2_n _ _ (by omega), fr3 _ _ (by omega) (by omega) (by omega)]
          · unfold cel at hc; omega
          · unfold cel at hc; omega
          · unfold cel at hc; omega
        · rw [up2_n _ _ (by omega), fr3 _ _ (by omega) (by omega) (by omega)]
        · rw [up2_n _ _ (by omega), fr3 _ _ (by omega) (by omega) (by omega)]
      · have hy0 : ¬ y < 0 := by
          rw [lt_i, k0]
          have := hge.resolve_left hy
          omega
        rw [if_neg hy, if_neg hy0]
        refine ⟨rfl, ?_⟩
        show Core C R2
        refine Core_R h19 (fun j q hc => ?_) (WI_of h19.2.1 ?_ ?_ (fun q => ?_)) ?_ (fun q => ?_) (fun j q p1 p2 => ?_)
        · rw [cry_iff] at hc; rw [fr _ _ (by omega) (by omega)]
        all_goals rw [fr _ _ (by omega) (by omega)]
    · rw [e2, if_neg (by decide), if_neg (by decide)]; exact ⟨rfl, h19⟩
    · rw [e2, if_neg (by decide), if_neg (by decide)]; exact ⟨rfl, h19⟩
  · rw [hs]
    have : f_X7_wrongSort (up2 R 0 19 0) a 0 = -1 := by
      unfold f_X7_wrongSort; simp only [bnd]; rw [rowR_no hi, if_neg (by decide)]
    rw [this, if_neg (by decide)]
    exact ⟨rfl, h19⟩
