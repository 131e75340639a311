/-! races gone on, both sides -/
def RUN (g : Option Nat) (C R : Mem) (o a n s ln : Nat) (t : Nat → Int32) (sd : Int32) : Prop := RX g C R o a n ∧ C o 2 = nI s ∧ R 0 7 = nI s ∧ s ≤ 400 ∧ WL C a ln t sd ∧ OKL ln t ∧ ∀ q, q ≤ 400 → R 17 q = Wv ln t (nI q) sd
theorem run_step {g : Option Nat} {C R : Mem} {o a n s ln : Nat} {t : Nat → Int32} {sd : Int32} (hg : geo o a n) (h : RUN g C R o a n s ln t sd) (hs : s < 400) (hp : pre g (s + 1)) : RUN g (stepC C o a) (refOn g R) o a n (s + 1) ln t sd ∧ FrC o a C (stepC C o a) ∧ FrR R (refOn g R) := by
  obtain ⟨h1, h2, h3, h4, h5, h6, h7⟩ := h
  obtain ⟨a1, a2, a3, a4, a5, a6⟩ := step_sim hg h1 hs h2 h3 h5 h6 h7 hp
  exact ⟨⟨a1, a2, a3, by omega, a4, h6, fun q hq => by rw [a6 17 q (by omega) (by omega) (by omega) (by omega)]; exact h7 q hq⟩, a5, a6⟩
theorem many_lp {g : Option Nat} {C R : Mem} {o a n : Nat} (hg : geo o a n) (h : RX g C R o a n) : ∀ (c k f : Nat) (v : Int32), c + k = n → c < f → ∃ m, m ≤ c ∧ lp_X3_howManyIn_4 f C o v (nI k) = v + nI m ∧ (m = c ↔ ∀ i, k ≤ i → i < n → ¬ R 10 i = -4) := by
  obtain ⟨⟨g1, g2⟩, ⟨g3, g4⟩, g5⟩ := hg
  intro c
  induction c with
  | zero =>
    intro k f v hk hf
    obtain ⟨f, rfl⟩ : ∃ f', f = f' + 1 := ⟨f - 1, by omega⟩
    obtain rfl : k = n := by omega
    refine ⟨0, Nat.le_refl _, ?_, ⟨fun _ i h1 h2 => by omega, fun _ => rfl⟩⟩
    rw [lp_X3_howManyIn_4, h.1, if_pos (nIstop g5), show nI 0 = (0 : Int32) from rfl, Int32.add_zero]
  | succ c ih =>
    intro k f v hk hf
    obtain ⟨f, rfl⟩ : ∃ f', f = f' + 1 := ⟨f - 1, by omega⟩
    rw [lp_X3_howManyIn_4, h.1, if_neg (nIgo g5 (by omega)), if_neg (nI4 (by omega))]
    simp only [bnd]
    rw [nI_clamp (by omega), nI_1]
    have e7 : C (4 * (o + 3) - 45 + k) 7 = R 10 k := (h.2.2.2 k (by omega)).1.2.2.2.2.1
    have hi := isInC (C := C) (b := 4 * (o + 3) - 45 + k)
    rw [e7] at hi
    obtain ⟨m, m1, m2, m3⟩ := ih (k + 1) f (v + if f_X1_isIn C (4 * (o + 3) - 45 + k) = 0 then 0 else 1) (by omega) (by omega)
    by_cases hk4 : R 10 k = -4
    · rw [if_pos (hi.mpr hk4)] at m2 ⊢
      refine ⟨m, by omega, by rw [m2, Int32.add_zero], ?_⟩
      exact ⟨fun q => by omega, fun q => absurd hk4 (q k (by omega) (by omega))⟩
    · rw [if_neg (fun q => hk4 (hi.mp q))] at m2 ⊢
      refine ⟨m + 1, by omega, by rw [m2, Int32.add_assoc, Int32.add_comm 1, nI_1], ?_⟩
      constructor
      · intro q i h1 h2
        by_cases e : i = k
        · subst e; exact hk4
        · exact m3.mp (by omega) i (by omega) h2
      · intro q; have := m3.mpr (fun i h1 h2 => q i (by omega) h2); omega
theorem ended_lp {R : Mem} {n : Nat} (hn : n ≤ 4) (h8 : R 0 8 = nI n) (hin : ∀ i, i < n → R 10 i = -4 ∨ 0 ≤ (R 10 i).toInt) : ∀ (c k f : Nat) (v : Int32), c + k = n → c < f → (v = 0 ∨ v = 1) → (lp_X7_isEnded_4 f R v (nI k) = 0 ↔ v = 0 ∨ ∃ i, k ≤ i ∧ i < n ∧ R 10 i = -4) := by
  intro c
  induction c with
  | zero =>
    intro k f v hk hf hv
    obtain ⟨f, rfl⟩ : ∃ f', f = f' + 1 := ⟨f - 1, by omega⟩
    obtain rfl : k = n := by omega
    rw [lp_X7_isEnded_4, h8, if_pos (nIstop hn)]
    exact ⟨fun h => Or.inl h, fun h => h.elim id (fun ⟨i, h1, h2, _⟩ => by omega)⟩
  | succ c ih =>
    intro k f v hk hf hv
    obtain ⟨f, rfl⟩ : ∃ f', f = f' + 1 := ⟨f - 1, by omega⟩
    rw [lp_X7_isEnded_4, h8, if_neg (nIgo hn (by omega))]
    simp only [bnd]
    rw [nI_1]
    have hi := isInM (R := R) (i := k) (by omega) (hin k (by omega))
    have split : (∃ i, k ≤ i ∧ i < n ∧ R 10 i = -4) ↔ R 10 k = -4 ∨ ∃ i, k + 1 ≤ i ∧ i < n ∧ R 10 i = -4 := by
      constructor
      · rintro ⟨i, h1, h2, h3⟩
        by_cases e : i = k
        · subst e; exact Or.inl h3
        · exact Or.inr ⟨i, by omega, h2, h3⟩
      · rintro (h | ⟨i, h1, h2, h3⟩)
        · exact ⟨k, Nat.le_refl _, by omega, h⟩
        · exact ⟨i, by omega, h2, h3⟩
    rw [split]
    rcases hv with rfl | rfl
    · rw [if_pos rfl, ih (k + 1) f 0 (by omega) (by omega) (Or.inl rfl)]
      exact ⟨fun _ => Or.inl rfl, fun _ => Or.inl rfl⟩
    · rw [if_neg (by decide)]
      by_cases hk4 : R 10 k = -4
      · rw [if_pos (hi.mpr hk4), ih (k + 1) f 0 (by omega) (by omega) (Or.inl rfl)]
        exact ⟨fun _ => Or.inr (Or.inl hk4), fun _ => Or.inl rfl⟩
      · rw [if_neg (fun q => hk4 (hi.mp q)), ih (k + 1) f 1 (by omega) (by omega) (Or.inr rfl)]
        constructor
        · rintro (h | h)
          · exact absurd h (by decide)
          · exact Or.inr (Or.inr h)
        · rintro (h | h | h)
          · exact absurd h (by decide)
          · exact absurd h hk4
          · exact Or.inr h
/-- not ended: some one is under way, and the last second hasn't come -/
def going (R : Mem) (n s : Nat) : Prop := s < 400 ∧ ∃ i, i < n ∧ R 10 i = -4
theorem ended_C {g : Option Nat} {C R : Mem} {o a n s : Nat} (hg : geo o a n) (h : RX g C R o a n) (h2 : C o 2 = nI s) (hs : s ≤ 400) (hn : 0 < n) : f_X3_hasEnded C o = 0 ↔ going R n s := by
  obtain ⟨m, m1, m2, m3⟩ := many_lp hg h n 0 5 0 (by omega) (by have := hg.2.2; omega)
  have g5 := hg.2.2
  have hm : f_X3_howManyIn C o = nI m := by
    unfold f_X3_howManyIn
    simp only [bnd]
    show lp_X3_howManyIn_4 5 C o 0 (nI 0) = nI m
    rw [m2, Int32.zero_add]
  unfold f_X3_hasEnded going
  simp only [bnd]
  rw [hm, h.1, h2]
  by_cases c1 : s = 400
  · subst c1; rw [if_pos (by decide)]; exact ⟨fun q => absurd q (by decide), fun q => by omega⟩
  · rw [if_neg (show ¬ (400 : Int32) ≤ nI s from nI_ge (b := 400) (by omega) (by decide)), if_neg (nI_nle hn (by omega))]
    by_cases c2 : m = n
    · rw [if_neg (not_not_intro ((nI_eq (by omega) (by omega)).mpr c2))]
      exact ⟨fun q => absurd q (by decide), fun ⟨_, i, h1, h2⟩ => absurd h2 (m3.mp (by omega) i (by omega) h1)⟩
    · rw [if_pos (fun q => c2 ((nI_eq (by omega) (by omega)).mp q))]
      refine ⟨fun _ => ⟨by omega, Classical.byContradiction fun q => c2 ?_⟩, fun _ => rfl⟩
      have := m3.mpr (fun i _ h2 h3 => q ⟨i, h2, h3⟩)
      omega
theorem ended_M {R : Mem} {n s : Nat} (hn : n ≤ 4) (h8 : R 0 8 = nI n) (hin : ∀ i, i < n → R 10 i = -4 ∨ 0 ≤ (R 10 i).toInt) (h7 : R 0 7 = nI s) (hs : s ≤ 400) : f_X7_isEnded R = 0 ↔ going R n s := by
  have e := ended_lp hn h8 hin n 0 5 1 (by omega) (by omega) (Or.inr rfl)
  unfold f_X7_isEnded going
  simp only [bnd]
  rw [show (0 : Int32) = nI 0 from rfl] at *
  by_cases c : lp_X7_isEnded_4 5 R 1 (nI 0) = nI 0
  · rw [if_neg (not_not_intro c), h7]
    obtain ⟨i, _, i2, i3⟩ := (e.mp c).resolve_left (by decide)
    by_cases c1 : s < 400
    · rw [if_pos (show nI s < (400 : Int32) from nI_lt (b := 400) c1 (by decide))]
      exact ⟨fun _ => ⟨c1, i, i2, i3⟩, fun _ => rfl⟩
    · rw [if_neg (show ¬ nI s < (400 : Int32) from nI_nlt (b := 400) (by omega) (by omega))]
      exact ⟨fun q => absurd q (by decide), fun q => absurd q.1 c1⟩
  · rw [if_pos c]
    exact ⟨fun q => absurd q (by decide), fun ⟨_, i, h1, h2⟩ => absurd (e.mpr (Or.inr ⟨i, by omega, h1, h2⟩)) c⟩
theorem run_C {g : Option Nat} {C R : Mem} {o a n s ln : Nat} {t : Nat → Int32} {sd : Int32} (hg : geo o a n) (hn : 0 < n) (h : RUN g C R o a n s ln t sd) : f_X3_hasEnded C o = 0 ↔ going R n s := ended_C hg h.1 h.2.1 h.2.2.2.1 hn
theorem run_M {g : Option Nat} {C R : Mem} {o a n s ln : Nat} {t : Nat → Int32} {sd : Int32} (hg : geo o a n) (h : RUN g C R o a n s ln t sd) : f_X7_isEnded R = 0 ↔ going R n s := ended_M hg.2.2 h.1.2.1 (RX_in h.1) h.2.2.1 h.2.2.2.1
theorem go_sim {C R : Mem} {o a n s ln N : Nat} {t : Nat → Int32} {sd : Int32} (hg : geo o a n) (hn : 0 < n) (hN : N < 2 ^ 31) : ∀ (c k f f' : Nat) (C R : Mem) (s : Nat), c + k = N → c < f → c < f' → RUN none C R o a n s ln t sd →
    ∃ s', RUN none (lp_X3_goOn_2 f o a (nI N) C (nI k)) (lp_X7_go_42 f' (nI N) R (nI k)) o a n s' ln t sd ∧ FrC o a C (lp_X3_goOn_2 f o a (nI N) C (nI k)) ∧ FrR R (lp_X7_go_42 f' (nI N) R (nI k)) := by
  intro c
  induction c with
  | zero =>
    intro k f f' C R s hk hf hf' h
    obtain ⟨f, rfl⟩ : ∃ x, f = x + 1 := ⟨f - 1, by omega⟩
    obtain ⟨f', rfl⟩ : ∃ x, f' = x + 1 := ⟨f' - 1, by omega⟩
    obtain rfl : k = N := by omega
    rw [goOn_eq, lp_X7_go_42, if_pos (nI_le (Nat.le_refl _) hN), if_pos (nI_le (Nat.le_refl _) hN)]
    exact ⟨s, h, FrC.rf, FrR.rf⟩
  | succ c ih =>
    intro k f f' C R s hk hf hf' h
    obtain ⟨f, rfl⟩ : ∃ x, f = x + 1 := ⟨f - 1, by omega⟩
    obtain ⟨f', rfl⟩ : ∃ x, f' = x + 1 := ⟨f' - 1, by omega⟩
    rw [goOn_eq, lp_X7_go_42, if_neg (nI_ge (by omega) hN), if_neg (nI_ge (by omega) hN)]
    have e1 := run_C hg hn h
    have e2 := run_M hg h
    by_cases hgo : going R n s
    · rw [if_neg (not_not_intro (e1.mpr hgo)), if_neg (not_not_intro (e2.mpr hgo))]
      try simp only [bnd]
      rw [nI_1]
      obtain ⟨p1, p2, p3⟩ := run_step hg h hgo.1 trivial
      obtain ⟨s', q1, q2, q3⟩ := ih (k + 1) f f' _ _ (s + 1) (by omega) (by omega) (by omega) p1
      exact ⟨s', q1, p2.tr q2, p3.tr q3⟩
    · rw [if_pos (fun q => hgo (e1.mp q)), if_pos (fun q => hgo (e2.mp q))]
      exact ⟨s, h, FrC.rf, FrR.rf⟩
def lpE (g : Option Nat) : Nat → Mem → Mem := match g with | none => lp_X7_raceToEnd_4 | some _ => lp_X7_secondsBy_24
theorem lpE_0 {g : Option Nat} {f : Nat} {R : Mem} (h : ¬ f_X7_isEnded R = 0) : lpE g (f + 1) R = R := by
  cases g with
  | none => show lp_X7_raceToEnd_4 (f + 1) R = R; rw [lp_X7_raceToEnd_4, if_pos h]
  | some m => show lp_X7_secondsBy_24 (f + 1) R = R; rw [lp_X7_secondsBy_24, if_pos h]
theorem lpE_s {g : Option Nat} {f : Nat} {R : Mem} (h : f_X7_isEnded R = 0) : lpE g (f + 1) R = lpE g f (refOn g R) := by
  cases g with
  | none => show lp_X7_raceToEnd_4 (f + 1) R = _; rw [lp_X7_raceToEnd_4, if_neg (not_not_intro h)]; rfl
  | some m => show lp_X7_secondsBy_24 (f + 1) R = _; rw [lp_X7_secondsBy_24, if_neg (not_not_intro h)]; rfl
theorem end_sim {g : Option Nat} {o a n ln : Nat} {t : Nat → Int32} {sd : Int32} (hg : geo o a n) (hn : 0 < n) (hp : ∀ s, pre g s) : ∀ (c k f f' s : Nat) (C R : Mem), c + s = 400 → c + k ≤ 400 → c < f → c < f' → RUN g C R o a n s ln t sd →
    ∃ s', RUN g (lp_X3_goOn_2 f o a 400 C (nI k)) (lpE g f' R) o a n s' ln t sd ∧ FrC o a C (lp_X3_goOn_2 f o a 400 C (nI k)) ∧ FrR R (lpE g f' R) ∧ ¬ going (lpE g f' R) n s' := by
  intro c
  induction c with
  | zero =>
    intro k f f' s C R hs hk hf hf' h
    obtain ⟨f, rfl⟩ : ∃ x, f = x + 1 := ⟨f - 1, by omega⟩
    obtain ⟨f', rfl⟩ : ∃ x, f' = x + 1 := ⟨f' - 1, by omega⟩
    have hgo : ¬ going R n s := fun q => by have := q.1; omega
    have e1 := run_C hg hn h
    have e2 := run_M hg h
    rw [lpE_0 (fun q => hgo (e2.mp q)), goOn_eq, if_pos (fun q => hgo (e1.mp q)), ite_self]
    exact ⟨s, h, FrC.rf, FrR.rf, hgo⟩
  | succ c ih =>
    intro k f f' s C R hs hk hf hf' h
    obtain ⟨f, rfl⟩ : ∃ x, f = x + 1 := ⟨f - 1, by omega⟩
    obtain ⟨f', rfl⟩ : ∃ x, f' = x + 1 := ⟨f' - 1, by omega⟩
    have e1 := run_C hg hn h
    have e2 := run_M hg h
    rw [goOn_eq, if_neg (show ¬ (400 : Int32) ≤ nI k from nI_ge (b := 400) (by omega) (by decide))]
    by_cases hgo : going R n s
    · rw [if_neg (not_not_intro (e1.mpr hgo)), lpE_s (e2.mpr hgo)]
      try simp only [bnd]
      rw [nI_1]
      obtain ⟨p1, p2, p3⟩ := run_step hg h hgo.1 (hp _)
      obtain ⟨s', q1, q2, q3, q4⟩ := ih (k + 1) f f' (s + 1) _ _ (by omega) (by omega) (by omega) (by omega) p1
      exact ⟨s', q1, p2.tr q2, p3.tr q3, q4⟩
    · rw [if_pos (fun q => hgo (e1.mp q)), lpE_0 (fun q => hgo (e2.mp q))]
      exact ⟨s, h, FrC.rf, FrR.rf, hgo⟩
theorem goOn_end {g : Option Nat} {C R : Mem} {o a n s ln : Nat} {t : Nat → Int32} {sd : Int32} (hg : geo o a n) (hn : 0 < n) (hp : ∀ s, pre g s) (h : RUN g C R o a n s ln t sd) :
    ∃ s', RUN g (f_X3_goOn C o a 400) (lpE g 401 R) o a n s' ln t sd ∧ FrC o a C (f_X3_goOn C o a 400) ∧ FrR R (lpE g 401 R) ∧ ¬ going (lpE g 401 R) n s' := by
  have hs := h.2.2.2.1
  exact end_sim hg hn hp (400 - s) 0 _ 401 s C R (by omega) (by omega) (by rw [show ((400 : Int32).toInt - 0).toNat + 1 = 401 by decide]; omega) (by omega) h
/-! places -/
theorem height_eq {C R : Mem} {b i : Nat} (hi : i < 4) (h : BX C R b i) : f_X1_height C b = f_X7_worthOf R (nI i) := by
  unfold f_X1_height f_X7_worthOf
  rw [nI_clamp (by omega), h.1, h.2.1, plainly_eq]
theorem ahead_eq {C R : Mem} {b b' i i' : Nat} (hi : i < 4) (hi' : i' < 4) (h : BX C R b i) (h' : BX C R b' i') (hb : C (b + 12) 2 = nI i) (hb' : C (b' + 12) 2 = nI i') : f_X1_isAheadOf C b b' = f_X7_isAhead R (nI i) (nI i') := by
  have e1 := height_eq hi h
  have e2 := height_eq hi' h'
  have m1 := isInM hi h.2.2.2.2.2.2.2
  have m2 := isInM hi' h'.2.2.2.2.2.2.2
  have x1 := isInC (C := C) (b := b)
  have x2 := isInC (C := C) (b := b')
  have hx1 : C b 7 = R 10 i := h.2.2.2.2.1
  have hx2 : C b' 7 = R 10 i' := h'.2.2.2.2.1
  rw [hx1] at x1
  rw [hx2] at x2
  have v1 : f_X1_isIn C b = f_X7_isIn R (nI i) := by
    have a1 : f_X1_isIn C b = 0 ∨ f_X1_isIn C b = 1 := by unfold f_X1_isIn; simp only [bnd]; split; exact Or.inl rfl; exact Or.inr rfl
    have a2 : f_X7_isIn R (nI i) = 0 ∨ f_X7_isIn R (nI i) = 1 := by unfold f_X7_isIn; simp only [bnd]; split; exact Or.inl rfl; exact Or.inr rfl
    rcases a1 with a1 | a1 <;> rcases a2 with a2 | a2
    · rw [a1, a2]
    · have := m1.mpr (x1.mp a1); rw [a2] at this; exact absurd this (by decide)
    · have := x1.mpr (m1.mp a2); rw [a1] at this; exact absurd this (by decide)
    · rw [a1, a2]
  have v2 : f_X1_isIn C b' = f_X7_isIn R (nI i') := by
    have a1 : f_X1_isIn C b' = 0 ∨ f_X1_isIn C b' = 1 := by unfold f_X1_isIn; simp only [bnd]; split; exact Or.inl rfl; exact Or.inr rfl
    have a2 : f_X7_isIn R (nI i') = 0 ∨ f_X7_isIn R (nI i') = 1 := by unfold f_X7_isIn; simp only [bnd]; split; exact Or.inl rfl; exact Or.inr rfl
    rcases a1 with a1 | a1 <;> rcases a2 with a2 | a2
    · rw [a1, a2]
    · have := m2.mpr (x2.mp a1); rw [a2] at this; exact absurd this (by decide)
    · have := x2.mpr (m2.mp a2); rw [a1] at this; exact absurd this (by decide)
    · rw [a1, a2]
  unfold f_X1_isAheadOf f_X7_isAhead
  simp only [bnd]
  rw [nI_clamp (by omega), nI_clamp (by omega), e1, e2, v1, v2, hb, hb', hx1, hx2]
  by_cases c : R 10 i = R 10 i'
  · rw [if_pos c]
    have hin : f_X7_isIn R (nI i) = f_X7_isIn R (nI i') := by
      unfold f_X7_isIn; simp only [bnd]; rw [nI_clamp (by omega), nI_clamp (by omega), c]
    rw [if_neg (not_not_intro hin)]
    by_cases c2 : f_X7_isIn R (nI i) = 0
    · rw [if_pos c2]
    · rw [if_neg c2]
  · rw [if_neg c]
    by_cases c3 : f_X7_isIn R (nI i) = f_X7_isIn R (nI i')
    · rw [if_neg (not_not_intro c3)]
      by_cases c2 : f_X7_isIn R (nI i) = 0
      · exact absurd ((m1.mp c2).trans (m2.mp (c3 ▸ c2)).symm) c
      · rw [if_neg c2, if_neg c2]
    · rw [if_pos c3]
theorem ahead_self {R : Mem} {i : Nat} (hi : i < 4) : f_X7_isAhead R (nI i) (nI i) = 0 := by
  unfold f_X7_isAhead
  simp only [bnd]
  rw [if_neg (not_not_intro trivial)]
  have h : nI i ≤ nI i := nI_le (Nat.le_refl _) (by omega)
  by_cases c : f_X7_isIn R (nI i) = 0
  · rw [if_pos c, if_pos trivial, if_pos h]
  · rw [if_neg c, if_pos trivial, if_pos trivial, if_pos h]
theorem place_lp {g : Option Nat} {C R : Mem} {o a n i : Nat} (hg : geo o a n) (h : RX g C R o a n) (hi : i < n) : ∀ (c k f f' : Nat) (v : Int32), c + k = n → c < f → c < f' → lp_X3_placeOf_4' f C o (4 * (o + 3) - 45 + i) v (nI k) = lp_X7_placeOf_4 f' R (nI i) v (nI k) := by
  obtain ⟨⟨g1, g2⟩, ⟨g3, g4⟩, g5⟩ := hg
  intro c
  induction c with
  | zero =>
    intro k f f' v hk hf hf'
    obtain ⟨f, rfl⟩ : ∃ x, f = x + 1 := ⟨f - 1, by omega⟩
    obtain ⟨f', rfl⟩ : ∃ x, f' = x + 1 := ⟨f' - 1, by omega⟩
    obtain rfl : k = n := by omega
    rw [lp_X3_placeOf_4', lp_X7_placeOf_4, h.1, h.2.1, if_pos (nIstop g5), if_pos (nIstop g5)]
  | succ c ih =>
    intro k f f' v hk hf hf'
    obtain ⟨f, rfl⟩ : ∃ x, f = x + 1 := ⟨f - 1, by omega⟩
    obtain ⟨f', rfl⟩ : ∃ x, f' = x + 1 := ⟨f' - 1, by omega⟩
    rw [lp_X3_placeOf_4', lp_X7_placeOf_4, h.1, h.2.1, if_neg (nIgo g5 (by omega)), if_neg (nIgo g5 (by omega)), if_neg (nI4 (by omega))]
    simp only [bnd]
    rw [nI_clamp (by omega), nI_1]
    obtain ⟨x1, x2, _⟩ := h.2.2.2 k (by omega)
    obtain ⟨y1, y2, _⟩ := h.2.2.2 i hi
    rw [ahead_eq (by omega) (by omega) x1 y1 x2.2.2.2 y2.2.2.2, ih (k + 1) f f' _ (by omega) (by omega) (by omega)]
    by_cases e : k = i
    · subst e; rw [ahead_self (by omega), if_pos rfl, if_pos rfl]
    · rw [if_neg (fun q => e ((nI_eq (by omega) (by omega)).mp q))]
theorem place_eq {g : Option Nat} {C R : Mem} {o a n i : Nat} (hg : geo o a n) (h : RX g C R o a n) (hi : i < n) : f_X3_placeOf C o (some (4 * (o + 3) - 45 + i)) = f_X7_placeOf R (nI i) := by
  unfold f_X3_placeOf f_X7_placeOf oel
  exact place_lp hg h hi n 0 5 5 1 (by omega) (by have := hg.2.2; omega) (by have := hg.2.2; omega)
