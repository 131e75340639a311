/-! what a lead is worth -/
theorem geo3 {n : Nat} (h : n ≤ 4) : geo 15 3 n := ⟨by omega, by omega, h⟩
/-- the class and the mind's own bay; the reference with another seed -/
def WC (C S Cx : Mem) : Prop := (∀ j q, ¬ (j = 3 ∨ j = 6 ∨ j = 9 ∨ j = 12 ∨ j = 15 ∨ 68 ≤ j) → ¬ (27 ≤ j ∧ j ≤ 30) → ¬ (39 ≤ j ∧ j ≤ 42) → Cx j q = C j q) ∧ (∀ q, q ≤ 3 → Cx 3 q = S 0 q) ∧ ∃ sd, WL Cx 3 (lnO S) (S 1) sd
def WR (S Sx : Mem) : Prop := (∀ k, Sx 20 k = f_X7_open S 20 k) ∧ Sx 0 35 = S 0 35 ∧ (∀ q, Sx 21 q = S 21 q) ∧ (∀ j q, 23 ≤ j → j ≤ 29 → Sx j q = S j q) ∧ WI Sx (lnO S) (S 1)
theorem WMS {C S Cx Sx : Mem} (h : Core C S) (hc : WC C S Cx) (hr : WR S Sx) : MS C S Cx Sx := by
  obtain ⟨c1, _, _⟩ := hc
  obtain ⟨r1, r2, r3, r4, r5⟩ := hr
  exact ⟨fun j q p1 p2 p3 _ _ => c1 j q p1 p2 p3, WL_of (Core_WL h).1 (c1 _ _ (by omega) (by omega) (by omega)) (fun q => c1 _ _ (by omega) (by omega) (by omega)) (c1 _ _ (by omega) (by omega) (by omega)) (fun q => c1 _ _ (by omega) (by omega) (by omega)), r1, r2, r3, r4, r5⟩
theorem gain_eq (y l d : Int32) : mx y (mn d (y + l)) = if (if y + l ≤ d then y + l else d) ≤ y then y else (if y + l ≤ d then y + l else d) := by
  apply eq_i.mpr
  rw [mx_i, mn_i]
  have e1 : (y + l ≤ d) ↔ (y + l).toInt ≤ d.toInt := le_i
  by_cases c1 : y + l ≤ d
  · rw [if_pos c1]; rw [e1] at c1
    by_cases c2 : y + l ≤ y
    · rw [if_pos c2]; rw [le_i] at c2; omega
    · rw [if_neg c2]; rw [le_i] at c2; omega
  · rw [if_neg c1]; rw [e1] at c1
    by_cases c2 : d ≤ y
    · rw [if_pos c2]; rw [le_i] at c2; omega
    · rw [if_neg c2]; rw [le_i] at c2; omega
/-- one race of it -/
theorem win_one {C S Cx Sx : Mem} (h : Core C S) (hc : WC C S Cx) (hr : WR S Sx) {n : Nat} (hn : S 0 8 = nI n) (hn2 : 2 ≤ n) (hn4 : n ≤ 4) {l : Int32} {k : Nat} (hk : k ≤ 20) (P : Mem → Mem → Int32 → Prop)
    (hP : P = fun S1 S2 y => S1 = up2 (f_X7_close Sx) 0 4 (nI k) ∧ y = (if (if (S1 7 0) + l ≤ S1 0 0 then (S1 7 0) + l else S1 0 0) ≤ S1 7 0 then S1 7 0 else (if (S1 7 0) + l ≤ S1 0 0 then (S1 7 0) + l else S1 0 0)) ∧ S2 = f_X7_raceToEnd (up2 S1 7 0 y)) : ∀ S1 S2 y, P S1 S2 y →
    (f_X6_firstWinsWith (f_X0_change Cx 3 4 (nI k)).2 l).1 = f_X7_isAhead S2 0 1 ∧ WC C S (f_X6_firstWinsWith (f_X0_change Cx 3 4 (nI k)).2 l).2 ∧ WR S S2 := by
  subst hP
  rintro S1 S2 y ⟨e1, e2, e3⟩
  obtain ⟨c1, c2, sd0, c3⟩ := hc
  obtain ⟨r1, r2, r3, r4, r5⟩ := hr
  obtain ⟨w1, w2, w3⟩ := Core_WL h
  -- the class: the seed changed, the race taken over
  obtain ⟨_, d2, d3, d4⟩ := change_ok (C := Cx) (o := 3) (k := 4) (v := nI k) (by omega) (by omega)
  rw [show nI 4 = (4 : Int32) from rfl] at d2 d3 d4
  generalize (f_X0_change Cx 3 4 (nI k)).2 = Cy at d2 d3 d4 ⊢
  have hWL : WL Cy 3 (lnO S) (S 1) (nI k) := ⟨LW_of c3.1 (d3 _ _ (by omega) (by omega)) (fun q => d3 _ _ (by omega) (by omega)), d2, fun q hq => Or.inl (d4 rfl q hq)⟩
  -- the reference: back to what was kept
  have cl : EqC S (f_X7_close Sx) := fun j q hcr => by rw [close_s hcr, r1, open_s hcr]
  have cn := fun j q => @close_n Sx j q
  have s1c : ∀ j q, cry j q → ¬ (j = 0 ∧ q = 4) → S1 j q = S j q := fun j q hcr p => by rw [e1, up2_n _ _ p]; exact cl j q hcr
  have s1n : ∀ j q, ¬ cry j q → ¬ (j = 0 ∧ 36 ≤ q ∧ q ≤ 38) → S1 j q = Sx j q := fun j q p1 p2 => by rw [e1, up2_n _ _ (by rw [cry_iff] at p1; omega)]; exact cn _ _ p1 p2
  have s14 : S1 0 4 = nI k := by rw [e1, up2_s]
  have hl1 : RW (up2 S1 7 0 y) (lnO S) (S 1) := ⟨w2.1, by rw [up2_n _ _ (by omega), s1c _ _ (cry_iff.mpr (by omega)) (by omega)]; exact w2.2.1, fun j hj => by rw [up2_n _ _ (by omega)]; exact s1c _ _ (cry_iff.mpr (by have := w2.1; omega)) (by omega)⟩
  have hWI1 : WI (up2 S1 7 0 y) (lnO S) (S 1) := WI_of r5 (by rw [up2_n _ _ (by omega)]; exact s1n _ _ (by rw [cry_iff]; omega) (by omega)) (by rw [up2_n _ _ (by omega)]; exact s1n _ _ (by rw [cry_iff]; omega) (by omega)) (fun q => by rw [up2_n _ _ (by omega)]; exact s1n _ _ (by rw [cry_iff]; omega) (by omega))
  obtain ⟨m1, m2, m3⟩ := layWinds_m hl1 w3 hWI1
  have e04 : up2 S1 7 0 y 0 4 = nI k := by rw [up2_n _ _ (by omega)]; exact s14
  rw [e04] at m1
  have eS2 : S2 = lpE none 401 (f_X7_layWinds (up2 S1 7 0 y)) := by rw [e3]; unfold f_X7_raceToEnd; simp only [bnd_nr]; rfl
  generalize f_X7_layWinds (up2 S1 7 0 y) = L at m1 m2 m3 eS2
  -- the relation of both races
  obtain ⟨n', s, ln, x1, x2, x3, x4, x5, x6, x7, x8, x9⟩ := h.1
  have hnn : n' = n := (nI_eq (by omega) (by omega)).mp (x2.2.1.symm.trans hn)
  subst hnn
  have hY : BY Cy S 3 := ⟨by rw [d3 _ _ (by omega) (by omega)]; exact c2 0 (by omega), by rw [d3 _ _ (by omega) (by omega)]; exact c2 1 (by omega), by rw [d3 _ _ (by omega) (by omega)]; exact c2 2 (by omega), by rw [d3 _ _ (by omega) (by omega)]; exact c2 3 (by omega)⟩
  -- the class's own race is as it was
  have hown : ∀ j q, j = 13 ∨ (19 ≤ j ∧ j ≤ 22) ∨ (31 ≤ j ∧ j ≤ 34) → Cy j q = C j q := fun j q p => by rw [d3 _ _ (by omega) (by omega)]; exact c1 _ _ (by omega) (by omega) (by omega)
  have hX13 : RX none Cy S 13 3 n' := by
    obtain ⟨q1, q2, q3, q4⟩ := x2
    refine ⟨by rw [hown _ _ (by omega)]; exact q1, q2, hY, fun i hi => ?_⟩
    obtain ⟨b1, b2, b3⟩ := q4 i hi
    exact ⟨BX_of b1 (fun q p1 p2 => hown _ _ (by omega)) (fun _ _ _ => rfl), BS_of b2 (fun q p1 p2 => hown _ _ (by omega)) (hown _ _ (by omega)) (fun _ _ _ => rfl), KN_of b3 (fun q p => hown _ _ (by omega)) (fun _ _ => rfl)⟩
  have hX15 := RX_take (C0 := Cy) (o := 15) (p := 13) (a := 3) (by omega) (by omega) (by omega) (by omega) x1 hX13 hY (fun _ _ _ => rfl)
  obtain ⟨t1, t2, t3, t4⟩ := raceTake_ok (C := Cy) (o := 15) (p := 13) (by omega) (by omega) (by omega)
  have g0 : f_X3_boatAt (f_X3_take Cy 15 13) 15 0 = some (4 * (15 + 3) - 45 + 0) := boatAt_some x1 hX15.1 (show 0 < n' by omega)
  have g1 : f_X3_boatAt (f_X3_take Cy 15 13) 15 1 = some (4 * (15 + 3) - 45 + 1) := boatAt_some x1 hX15.1 (show 1 < n' by omega)
  unfold f_X6_firstWinsWith f_X1_gain
  simp only [bnd_nr]
  rw [g0, g1]
  dsimp only [oel]
  generalize f_X3_take Cy 15 13 = Ct at hX15 t1 t2 t3 t4 g0 g1 ⊢
  -- the lead given
  have y7 : Ct (4 * (15 + 3) - 45 + 0) 4 = S1 7 0 := by rw [(hX15.2.2.2 0 (by omega)).1.2.1]; exact (s1c _ _ (cry_iff.mpr (by omega)) (by omega)).symm
  have yd : Ct 3 0 = S1 0 0 := by rw [hX15.2.2.1.1]; exact (s1c _ _ (cry_iff.mpr (by omega)) (by omega)).symm
  have eg : mx (Ct (4 * (15 + 3) - 45 + 0) 4) (mn (Ct 3 0) (Ct (4 * (15 + 3) - 45 + 0) 4 + l)) = y := by rw [y7, yd, gain_eq, e2]
  rw [eg]
  have hLS : ∀ j q, cry j q → ¬ (j = 7 ∧ q = 0) → ¬ (j = 0 ∧ q = 4) → L j q = S j q := fun j q hcr p1 p2 => by
    rw [m3 _ _ (by rw [cry_iff] at hcr; omega) (by rw [cry_iff] at hcr; omega), up2_n _ _ p1]; exact s1c _ _ hcr p2
  have hX : RX none (up2 Ct (4 * (15 + 3) - 45 + 0) 4 y) L 15 3 n' := by
    obtain ⟨u1, u2, u3, u4⟩ := hX15
    refine ⟨by rw [up2_n _ _ (by omega)]; exact u1, by rw [hLS _ _ (cry_iff.mpr (by omega)) (by omega) (by omega)]; exact u2, BY_of u3 (fun q hq => up2_n _ _ (by omega)) (fun q hq => hLS _ _ (cry_iff.mpr (by omega)) (by omega) (by omega)), fun i hi => ?_⟩
    obtain ⟨b1, b2, b3⟩ := u4 i hi
    refine ⟨?_, BS_of b2 (fun q p1 p2 => up2_n _ _ (by omega)) (up2_n _ _ (by omega)) (fun j p1 p2 => hLS _ _ (cry_iff.mpr (by omega)) (by omega) (by omega)), KN_of b3 (fun q p => up2_n _ _ (by omega)) (fun j p => hLS _ _ (cry_iff.mpr (by omega)) (by omega) (by omega))⟩
    obtain ⟨f3, f4, f5, f6, f7, f8, fx, fi⟩ := b1
    have rw6 := fun j (p : 6 ≤ j ∧ j ≤ 11) (p7 : ¬ (j = 7 ∧ i = 0)) => hLS j i (cry_iff.mpr (by omega)) p7 (by omega)
    refine ⟨by rw [up2_n _ _ (by omega), rw6 6 (by omega) (by omega)]; exact f3, ?_, by rw [up2_n _ _ (by omega), rw6 8 (by omega) (by omega)]; exact f5, by rw [up2_n _ _ (by omega), rw6 9 (by omega) (by omega)]; exact f6, by rw [up2_n _ _ (by omega), rw6 10 (by omega) (by omega)]; exact f7, by rw [up2_n _ _ (by omega), rw6 11 (by omega) (by omega)]; exact f8, by rw [rw6 6 (by omega) (by omega)]; exact fx, by rw [rw6 10 (by omega) (by omega)]; exact fi⟩
    by_cases e : i = 0
    · subst e
      rw [up2_s, m3 _ _ (by omega) (by omega), up2_s]
    · rw [up2_n _ _ (by omega), rw6 7 (by omega) (by omega)]; exact f4
  have hrun : RUN none (up2 Ct (4 * (15 + 3) - 45 + 0) 4 y) L 15 3 n' s (lnO S) (S 1) (nI k) := by
    refine ⟨hX, ?_, ?_, x5, ?_, w3, m1⟩
    · rw [up2_n _ _ (by omega), t2, hown _ _ (by omega)]; exact x3
    · rw [m3 _ _ (by omega) (by omega), up2_n _ _ (by omega), s1c _ _ (cry_iff.mpr (by omega)) (by omega)]; exact x4
    · exact WL_of hWL (by rw [up2_n _ _ (by omega)]; exact t4 _ _ (by omega) (by omega) (by omega)) (fun q => by rw [up2_n _ _ (by omega)]; exact t4 _ _ (by omega) (by omega) (by omega)) (by rw [up2_n _ _ (by omega)]; exact t4 _ _ (by omega) (by omega) (by omega)) (fun q => by rw [up2_n _ _ (by omega)]; exact t4 _ _ (by omega) (by omega) (by omega))
  obtain ⟨s', q1, q2, q3, _⟩ := goOn_end (g := none) (geo3 x1) (by omega) (fun _ => trivial) hrun
  rw [← eS2] at q1 q3
  generalize f_X3_goOn (up2 Ct (4 * (15 + 3) - 45 + 0) 4 y) 15 3 400 = Cf at q1 q2 ⊢
  obtain ⟨z1, z2, _⟩ := q1.1.2.2.2 0 (by omega)
  obtain ⟨v1, v2, _⟩ := q1.1.2.2.2 1 (by omega)
  have hah := ahead_eq (by omega) (by omega) z1 v1 z2.2.2.2 v2.2.2.2
  rw [show nI 0 = (0 : Int32) from rfl, show nI 1 = (1 : Int32) from rfl] at hah
  have frC : ∀ j q, ¬ (j = 3 ∨ j = 6 ∨ j = 9 ∨ j = 12 ∨ j = 15 ∨ 68 ≤ j) → ¬ (27 ≤ j ∧ j ≤ 30) → ¬ (39 ≤ j ∧ j ≤ 42) → Cf j q = C j q := fun j q p1 p2 p3 => by
    rw [q2 _ _ (by omega) (by omega) (by omega) (by omega), up2_n _ _ (by omega), t4 _ _ (by omega) (by omega) (by omega), d3 _ _ (by omega) (by omega)]; exact c1 j q p1 p2 p3
  have frS : ∀ j q, ¬ cry j q → ¬ (j = 0 ∧ (q = 7 ∨ q = 27 ∨ q = 29 ∨ q = 30 ∨ (36 ≤ q ∧ q ≤ 38))) → ¬ (13 ≤ j ∧ j ≤ 19) → ¬ (6 ≤ j ∧ j ≤ 11) → S2 j q = Sx j q := fun j q p1 p2 p3 p4 => by
    rw [q3 _ _ (by omega) p4 (by omega) (by omega), m3 _ _ (by omega) (by omega), up2_n _ _ (by omega)]; exact s1n _ _ p1 (by omega)
  refine ⟨hah, ⟨frC, fun q hq => ?_, nI k, q1.2.2.2.2.1⟩, ⟨fun k => ?_, ?_, fun q => ?_, fun j q p1 p2 => ?_, ?_⟩⟩
  · rw [q2 _ _ (by omega) (by omega) (by omega) (by omega), up2_n _ _ (by omega), t4 _ _ (by omega) (by omega) (by omega), d3 _ _ (by omega) (by omega)]; exact c2 q hq
  · rw [frS _ _ (by rw [cry_iff]; omega) (by omega) (by omega) (by omega)]; exact r1 k
  · rw [frS _ _ (by rw [cry_iff]; omega) (by omega) (by omega) (by omega)]; exact r2
  · rw [frS _ _ (by rw [cry_iff]; omega) (by omega) (by omega) (by omega)]; exact r3 q
  · rw [frS _ _ (by rw [cry_iff]; omega) (by omega) (by omega) (by omega)]; exact r4 j q p1 p2
  · exact WI_of m2 (q3 _ _ (by omega) (by omega) (by omega) (by omega)) (q3 _ _ (by omega) (by omega) (by omega) (by omega)) (fun q => q3 _ _ (by omega) (by omega) (by omega) (by omega))
theorem worth_lp {C S : Mem} (h : Core C S) {n : Nat} (hn : S 0 8 = nI n) (hn2 : 2 ≤ n) (hn4 : n ≤ 4) {l : Int32} {N : Nat} (hN : N ≤ 20) : ∀ (c k f f' : Nat) (Cx Sx : Mem) (v : Int32), c + k = N → c < f → c < f' → WC C S Cx → WR S Sx →
    (lp_X6_worth_53 f l (nI N) Cx v (nI k)).1 = (lp_X7_worth_51 f' l (nI N) Sx v (nI k)).1 ∧ WC C S (lp_X6_worth_53 f l (nI N) Cx v (nI k)).2 ∧ WR S (lp_X7_worth_51 f' l (nI N) Sx v (nI k)).2 := by
  intro c
  induction c with
  | zero =>
    intro k f f' Cx Sx v hk hf hf' hc hr
    obtain ⟨f, rfl⟩ : ∃ z, f = z + 1 := ⟨f - 1, by omega⟩
    obtain ⟨f', rfl⟩ : ∃ z, f' = z + 1 := ⟨f' - 1, by omega⟩
    obtain rfl : k = N := by omega
    rw [lp_X6_worth_53, lp_X7_worth_51, if_pos (nI_le (Nat.le_refl _) (by omega)), if_pos (nI_le (Nat.le_refl _) (by omega))]
    exact ⟨rfl, hc, hr⟩
  | succ c ih =>
    intro k f f' Cx Sx v hk hf hf' hc hr
    obtain ⟨f, rfl⟩ : ∃ z, f = z + 1 := ⟨f - 1, by omega⟩
    obtain ⟨f', rfl⟩ : ∃ z, f' = z + 1 := ⟨f' - 1, by omega⟩
    rw [lp_X6_worth_53, lp_X7_worth_51, if_neg (nI_ge (by omega) (by omega)), if_neg (nI_ge (by omega) (by omega))]
    simp only [bnd_nr, bnd2_nr]
    rw [show (0 : Int32).toNatClampNeg = 0 by decide]
    obtain ⟨p1, p2, p3⟩ := win_one h hc hr hn hn2 hn4 (l := l) (k := k) (by omega) _ rfl _ _ _ ⟨rfl, rfl, rfl⟩
    generalize f_X7_raceToEnd (up2 (up2 (f_X7_close Sx) 0 4 (nI k)) 7 0 _) = S2 at p1 p3 ⊢
    generalize f_X6_firstWinsWith (f_X0_change Cx 3 4 (nI k)).2 l = Q at p1 p2 ⊢
    rw [nI_1]
    have ev : (if Q.1 = 0 then v else v + 1) = v + (if f_X7_isAhead S2 0 1 = 0 then 0 else 1) := by
      rw [p1]
      by_cases q : f_X7_isAhead S2 0 1 = 0
      · rw [if_pos q, if_pos q, Int32.add_zero]
      · rw [if_neg q, if_neg q]
    rw [ev]
    exact ih (k + 1) f f' _ _ _ (by omega) (by omega) (by omega) p2 p3
theorem sim_worth : S_worth Core := by
  intro C R a1 a2 hC _ _
  have h19 := Core_19 hC 0
  unfold f_X6_worth f_X7_worth
  simp only [bnd_nr, bnd2_nr]
  generalize up2 R 0 19 0 = S at h19 ⊢
  rcases in_case a1 100 (by omega) 100 (by decide) with ⟨g1, g2⟩ | ⟨g1, l, hl, rfl⟩
  · rw [if_pos g1]
    rcases g2 with g2 | g2
    · rw [if_pos g2]; exact ⟨rfl, h19⟩
    · rw [le_i, nI_toInt (by omega)] at g2
      rw [if_neg (show ¬ a1 < 0 by rw [lt_i, k0]; omega), if_pos (show 100 < a1 by rw [lt_i, show (100 : Int32).toInt = 100 by decide]; omega)]; exact ⟨rfl, h19⟩
  · rw [if_neg g1, if_neg (nI_pos (by omega)), if_neg (show ¬ (100 : Int32) < nI l from nI_nlt (a := 100) hl (by decide))]
    have hi := inz (a := a2) (lo := 1) (hi := 20)
    rw [show (1 : Int64).toInt = 1 by decide, show (20 : Int64).toInt = 20 by decide] at hi
    by_cases c1 : a2 < 1
    · rw [if_pos c1]; rw [lt_i, k1] at c1
      rw [if_neg (not_not_intro (hi.mpr (fun q => by omega)))]; exact ⟨rfl, h19⟩
    · rw [if_neg c1]; rw [lt_i, k1] at c1
      by_cases c2 : a2 ≤ 20
      · rw [if_pos c2]; rw [le_i, show (20 : Int32).toInt = 20 by decide] at c2
        rw [if_pos (fun q => hi.mp q (by omega))]
        obtain ⟨n, s, ln, x1, x2, x3, x4, x5, x6, x7, x8, x9⟩ := id h19.1
        have hn0 : 2 ≤ C 13 1 ↔ 2 ≤ n := by rw [x2.1]; exact nI_leI (a := 2) (by omega) (by omega)
        have hm0 : 2 ≤ S 0 8 ↔ 2 ≤ n := by rw [x2.2.1]; exact nI_leI (a := 2) (by omega) (by omega)
        by_cases c3 : 2 ≤ n
        · rw [if_pos (hn0.mpr c3), if_pos (hm0.mpr c3)]
          obtain ⟨N, hN, rfl⟩ := of_rng (x := a2) (N := 20) (by omega) c2
          have efu : ((nI N).toInt - 0).toNat + 1 = N + 1 := by rw [nI_toInt (by omega)]; omega
          rw [efu]
          obtain ⟨w1, w2, w3⟩ := Core_WL h19
          obtain ⟨b1, b2, b3⟩ := bayTake_ok (C := C) (o := 3) (a := 1) (by omega) (by omega) (by omega) w1
          have hWC : WC C S (f_X0_take C 3 1) := by
            obtain ⟨q0, q1, q2, q3⟩ := x2.2.2.1
            refine ⟨fun j q p1 p2 p3 => b3 _ _ (by omega) (by omega) (by omega) (by omega), fun q hq => ?_, _, b1⟩
            rw [b2 q hq]
            have : q = 0 ∨ q = 1 ∨ q = 2 ∨ q = 3 := by omega
            rcases this with rfl | rfl | rfl | rfl
            · exact q0
            · exact q1
            · exact q2
            · exact q3
          have on := fun j q => @open_n S j q
          have hWR : WR S (f_X7_open S) := ⟨fun _ => rfl, on _ _ (by omega) (by omega), fun q => on _ _ (by omega) (by omega), fun j q p1 p2 => on _ _ (by omega) (by omega), WI_of h19.2.1 (on _ _ (by omega) (by omega)) (on _ _ (by omega) (by omega)) (fun q => on _ _ (by omega) (by omega))⟩
          obtain ⟨r1, r2, r3⟩ := worth_lp h19 x2.2.1 c3 x1 (l := nI l) hN N 0 (N + 1) (N + 1) _ _ 0 (by omega) (by omega) (by omega) hWC hWR
          rw [show nI 0 = (0 : Int32) from rfl] at r1 r2 r3
          have hB := MS_back h19 (WMS h19 r2 r3)
          generalize lp_X7_worth_51 (N + 1) (nI l) (nI N) (f_X7_open S) 0 0 = P at r1 hB ⊢
          generalize lp_X6_worth_53 (N + 1) (nI l) (nI N) (f_X0_take C 3 1) 0 0 = Q at r1 hB ⊢
          dsimp only
          exact ⟨r1, hB⟩
        · rw [if_neg (fun q => c3 (hn0.mp q)), if_neg (fun q => c3 (hm0.mp q))]; exact ⟨rfl, h19⟩
      · rw [if_neg c2]; rw [le_i, show (20 : Int32).toInt = 20 by decide] at c2
        rw [if_neg (not_not_intro (hi.mpr (fun q => by omega)))]; exact ⟨rfl, h19⟩
