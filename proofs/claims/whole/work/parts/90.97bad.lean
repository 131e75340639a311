/-! bad air, both sides -/
def rep (g : Nat → Mem → Mem) : Nat → Mem → Mem
  | 0, M => M
  | k + 1, M => g k (rep g k M)
theorem lp_rep {lp : Nat → Mem → Int32 → Mem} {g : Nat → Mem → Mem} {Q : Mem → Prop} {n : Nat} (h1 : ∀ f k M, k < n → Q M → lp (f + 1) M (nI k) = lp f (g k M) (nI (k + 1))) (h2 : ∀ f M, Q M → lp (f + 1) M (nI n) = M) (h3 : ∀ k M, k < n → Q M → Q (g k M)) :
    ∀ (c k f : Nat) (M : Mem), c + k = n → c < f → Q (rep g k M) → lp f (rep g k M) (nI k) = rep g n M ∧ Q (rep g n M) := by
  intro c
  induction c with
  | zero =>
    intro k f M hk hf hQ
    obtain ⟨f, rfl⟩ : ∃ f', f = f' + 1 := ⟨f - 1, by omega⟩
    obtain rfl : k = n := by omega
    exact ⟨h2 f _ hQ, hQ⟩
  | succ c ih =>
    intro k f M hk hf hQ
    obtain ⟨f, rfl⟩ : ∃ f', f = f' + 1 := ⟨f - 1, by omega⟩
    rw [h1 f k _ (by omega) hQ]
    exact ih (k + 1) f M (by omega) (by omega) (h3 k _ (by omega) hQ)
theorem lp_rep0 {lp : Nat → Mem → Int32 → Mem} {g : Nat → Mem → Mem} {Q : Mem → Prop} {n f : Nat} {M : Mem} (hn : n < f) (hQ : Q M) (h1 : ∀ f k M, k < n → Q M → lp (f + 1) M (nI k) = lp f (g k M) (nI (k + 1))) (h2 : ∀ f M, Q M → lp (f + 1) M (nI n) = M) (h3 : ∀ k M, k < n → Q M → Q (g k M)) :
    lp f M 0 = rep g n M := (lp_rep h1 h2 h3 n 0 f M (by omega) hn hQ).1
theorem rep_ind {g : Nat → Mem → Mem} {S : Nat → Mem → Prop} {n : Nat} (h : ∀ k M, k < n → S k M → S (k + 1) (g k M)) {M : Mem} (h0 : S 0 M) : ∀ k, k ≤ n → S k (rep g k M) := by
  intro k
  induction k with
  | zero => intro _; exact h0
  | succ k ih => intro hk; exact h k _ (by omega) (ih (by omega))
theorem rep_sim {g g' : Nat → Mem → Mem} {S : Nat → Mem → Mem → Prop} {n : Nat} (h : ∀ k M M', k < n → S k M M' → S (k + 1) (g k M) (g' k M')) {M M' : Mem} (h0 : S 0 M M') : ∀ k, k ≤ n → S k (rep g k M) (rep g' k M') := by
  intro k
  induction k with
  | zero => intro _; exact h0
  | succ k ih => intro hk; exact h k _ _ (by omega) (ih (by omega))
def FL (R : Mem) (o i : Nat) : Prop := R 10 o = -4 ∧ R 10 i = -4 ∧ (1 ≤ (R 7 o - R 7 i).toInt ∧ (R 7 o - R 7 i).toInt ≤ 20) ∧ (-6 ≤ (R 6 o - R 6 i).toInt ∧ (R 6 o - R 6 i).toInt ≤ 6)
def BAD (R : Mem) (n i : Nat) : Prop := ∃ o, o < n ∧ FL R o i
theorem fouls_eq {C R : Mem} {b b' i i' : Nat} (h : BX C R b i) (h' : BX C R b' i') : (f_X1_fouls C b b' = 0 ∧ ¬ FL R i i') ∨ (f_X1_fouls C b b' = 1 ∧ FL R i i') := by
  obtain ⟨x3, x4, _, _, x7, _, xb, _⟩ := h
  obtain ⟨y3, y4, _, _, y7, _, yb, _⟩ := h'
  unfold f_X1_fouls FL
  simp only [bnd]
  rw [x3, x4, x7, y3, y4, y7]
  unfold bx at xb yb
  have es : (R 6 i - R 6 i').toInt = (R 6 i).toInt - (R 6 i').toInt := i_sub (by omega)
  have ea := ab_I (x := R 6 i - R 6 i') (by rw [es]; omega)
  have k6 : (6 : Int32).toInt = 6 := by decide
  have k20 : (20 : Int32).toInt = 20 := by decide
  have c1 : R 7 i - R 7 i' < 1 ↔ (R 7 i - R 7 i').toInt < 1 := by rw [lt_i, k1]
  have c2 : 20 < R 7 i - R 7 i' ↔ 20 < (R 7 i - R 7 i').toInt := by rw [lt_i, k20]
  have c3 : 6 < ab (R 6 i - R 6 i') ↔ ¬ (-6 ≤ (R 6 i - R 6 i').toInt ∧ (R 6 i - R 6 i').toInt ≤ 6) := by
    rw [lt_i, k6, ea]
    split <;> omega
  by_cases h1 : R 10 i = -4
  · rw [if_neg (not_not_intro h1)]
    by_cases h2 : R 10 i' = -4
    · rw [if_neg (not_not_intro h2)]
      by_cases h3 : R 7 i - R 7 i' < 1
      · rw [if_pos h3]; rw [c1] at h3; exact Or.inl ⟨rfl, fun q => by omega⟩
      · rw [if_neg h3]; rw [c1] at h3
        by_cases h4 : 20 < R 7 i - R 7 i'
        · rw [if_pos h4]; rw [c2] at h4; exact Or.inl ⟨rfl, fun q => by omega⟩
        · rw [if_neg h4]; rw [c2] at h4
          by_cases h5 : 6 < ab (R 6 i - R 6 i')
          · rw [if_pos h5]; rw [c3] at h5; exact Or.inl ⟨rfl, fun q => h5 q.2.2.2⟩
          · rw [if_neg h5]; rw [c3] at h5; exact Or.inr ⟨rfl, h1, h2, by omega, Classical.not_not.mp h5⟩
    · rw [if_pos h2]; exact Or.inl ⟨rfl, fun q => h2 q.2.1⟩
  · rw [if_pos h1]; exact Or.inl ⟨rfl, fun q => h1 q.1⟩
theorem isBad_lp {R : Mem} {n i : Nat} (hn : n ≤ 4) (hb : R 0 8 = nI n) (hi : i < 4) (hin : ∀ o, o < n → R 10 o = -4 ∨ 0 ≤ (R 10 o).toInt) (hii : R 10 i = -4) : ∀ (c k f : Nat) (v : Int32), c + k = n → c < f → (v = 0 ∨ v = 1) →
    (lp_X7_isBad_4 f R (nI i) v (nI k) = 0 ↔ v = 0 ∧ ∀ o, k ≤ o → o < n → ¬ FL R o i) := by
  intro c
  induction c with
  | zero =>
    intro k f v hk hf hv
    obtain ⟨f, rfl⟩ : ∃ f', f = f' + 1 := ⟨f - 1, by omega⟩
    unfold lp_X7_isBad_4
    rw [if_pos (by rw [hb]; exact nI_le (by omega) (by omega))]
    exact ⟨fun h => ⟨h, fun o h1 h2 => by omega⟩, fun h => h.1⟩
  | succ c ih =>
    intro k f v hk hf hv
    obtain ⟨f, rfl⟩ : ∃ f', f = f' + 1 := ⟨f - 1, by omega⟩
    unfold lp_X7_isBad_4
    rw [if_neg (by rw [hb]; exact nI_ge (by omega) (by omega))]
    simp only [bnd]
    rw [nI_clamp (by omega), nI_clamp (by omega), nI_1]
    have hG : (if nI k = nI i then (0 : Int32) else if ¬ f_X7_isIn R (nI k) = 0 then 0 else if (if f_X7_in (R 7 k - R 7 i).toInt64 1 20 = 0 then (0 : Int32) else if f_X7_in (R 6 k - R 6 i).toInt64 (-6) 6 = 0 then 0 else 1) = 0 then 0 else 1) = 0 ↔ ¬ FL R k i := by
      by_cases e : k = i
      · subst e
        rw [if_pos rfl]
        refine ⟨fun _ q => ?_, fun _ => rfl⟩
        have := q.2.2.1.1
        rw [Int32.sub_self, k0] at this
        omega
      · have e' : ¬ nI k = nI i := fun q => by
          have := congrArg Int32.toInt q
          rw [nI_toInt (by omega), nI_toInt (by omega)] at this
          omega
        rw [if_neg e']
        have m1 := isInM (R := R) (i := k) (by omega) (hin k (by omega))
        by_cases h1 : R 10 k = -4
        · rw [if_neg (not_not_intro (m1.mpr h1))]
          have a1 := inz (a := R 7 k - R 7 i) (lo := 1) (hi := 20)
          have a2 := inz (a := R 6 k - R 6 i) (lo := -6) (hi := 6)
          rw [show (1 : Int64).toInt = 1 by decide, show (20 : Int64).toInt = 20 by decide] at a1
          rw [show (-6 : Int64).toInt = -6 by decide, show (6 : Int64).toInt = 6 by decide] at a2
          by_cases h2 : f_X7_in (R 7 k - R 7 i).toInt64 1 20 = 0
          · rw [if_pos h2, if_pos rfl]
            exact ⟨fun _ q => a1.mp h2 q.2.2.1, fun _ => rfl⟩
          · rw [if_neg h2]
            by_cases h3 : f_X7_in (R 6 k - R 6 i).toInt64 (-6) 6 = 0
            · rw [if_pos h3, if_pos rfl]
              exact ⟨fun _ q => a2.mp h3 q.2.2.2, fun _ => rfl⟩
            · rw [if_neg h3, if_neg (by decide)]
              exact ⟨fun q => absurd q (by decide), fun q => absurd ⟨h1, hii, Classical.not_not.mp (fun e => h2 (a1.mpr e)), Classical.not_not.mp (fun e => h3 (a2.mpr e))⟩ q⟩
        · rw [if_pos (fun q => h1 (m1.mp q))]
          exact ⟨fun _ q => h1 q.1, fun _ => rfl⟩
    have hv2 : ∀ x : Int32, (x = 0 ∨ x = 1) → ((if ¬ v = 0 then (1 : Int32) else x) = 0 ↔ v = 0 ∧ x = 0) ∧ ((if ¬ v = 0 then (1 : Int32) else x) = 0 ∨ (if ¬ v = 0 then (1 : Int32) else x) = 1) := by
      intro x hx
      rcases hv with rfl | rfl <;> rcases hx with rfl | rfl <;> decide
    have hx2 : ∀ (p q : Prop) [Decidable p] [Decidable q] (y : Int32), ((if p then (0 : Int32) else if ¬ q then 0 else if y = 0 then 0 else 1) = 0 ∨ (if p then (0 : Int32) else if ¬ q then 0 else if y = 0 then 0 else 1) = 1) := by
      intro p q _ _ y
      repeat' split
      all_goals first | exact Or.inl rfl | exact Or.inr rfl
    obtain ⟨w1, w2⟩ := hv2 _ (hx2 (nI k = nI i) (f_X7_isIn R (nI k) = 0) (if f_X7_in (R 7 k - R 7 i).toInt64 1 20 = 0 then (0 : Int32) else if f_X7_in (R 6 k - R 6 i).toInt64 (-6) 6 = 0 then 0 else 1))
    rw [ih (k + 1) f _ (by omega) (by omega) w2, w1, hG]
    constructor
    · rintro ⟨⟨p, q⟩, r⟩
      refine ⟨p, fun o h1 h2 => ?_⟩
      by_cases e : o = k
      · subst e; exact q
      · exact r o (by omega) h2
    · rintro ⟨p, q⟩
      exact ⟨⟨p, q k (by omega) (by omega)⟩, fun o h1 h2 => q o (by omega) h2⟩
theorem isBad_iff {R : Mem} {n i : Nat} (hn : n ≤ 4) (hb : R 0 8 = nI n) (hi : i < n) (hin : ∀ o, o < n → R 10 o = -4 ∨ 0 ≤ (R 10 o).toInt) : f_X7_isBad R (nI i) = 0 ↔ ¬ BAD R n i := by
  unfold f_X7_isBad BAD
  simp only [bnd]
  have m := isInM (R := R) (i := i) (by omega) (hin i hi)
  by_cases h : R 10 i = -4
  · have := isBad_lp hn hb (by omega) hin h n 0 5 0 (by omega) (by omega) (Or.inl rfl)
    rw [show nI 0 = (0 : Int32) from rfl] at this
    rw [if_neg (not_not_intro (m.mpr h))]
    constructor
    · intro q ⟨o, h1, h2⟩
      have q' : lp_X7_isBad_4 5 R (nI i) 0 0 = 0 := by
        by_cases e : lp_X7_isBad_4 5 R (nI i) 0 0 = 0
        · exact e
        · rw [if_neg e] at q; exact absurd q (by decide)
      exact (this.mp q').2 o (by omega) h1 h2
    · intro q
      rw [if_pos (this.mpr ⟨rfl, fun o _ h2 h3 => q ⟨o, h2, h3⟩⟩)]
  · rw [if_pos (fun q => h (m.mp q)), ite_self]
    exact ⟨fun _ ⟨o, _, q⟩ => h q.2.1, fun _ => rfl⟩
