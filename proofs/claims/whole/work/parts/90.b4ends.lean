/-! ends, pairs -/
/-- both sides in mind -/
def MS (C S Cx Sx : Mem) : Prop := (∀ j q, ¬ (j = 3 ∨ j = 6 ∨ j = 9 ∨ j = 12 ∨ j = 15 ∨ 68 ≤ j) → ¬ (27 ≤ j ∧ j ≤ 30) → ¬ (39 ≤ j ∧ j ≤ 42) → ¬ (j = 4 ∧ 2 ≤ q ∧ q ≤ 4) → ¬ (j = 7 ∨ 68 ≤ j) → Cx j q = C j q) ∧ WL Cx 1 (lnO S) (S 1) (S 0 4) ∧ (∀ k, Sx 20 k = f_X7_open S 20 k) ∧ Sx 0 35 = S 0 35 ∧ (∀ q, Sx 21 q = S 21 q) ∧ (∀ j q, 23 ≤ j → j ≤ 29 → Sx j q = S j q) ∧ WI Sx (lnO S) (S 1)
theorem MS_back {C S Cx Sx : Mem} (h : Core C S) (hM : MS C S Cx Sx) : Core Cx (f_X7_close Sx) := by
  obtain ⟨m1, m2, m3, m4, m5, m6, m7⟩ := hM
  exact mind_back h m3 m4 m5 m6 m7 m1 m2
theorem Core_WL {C S : Mem} (h : Core C S) : WL C 1 (lnO S) (S 1) (S 0 4) ∧ RW S (lnO S) (S 1) ∧ OKL (lnO S) (S 1) := by
  obtain ⟨n, s, l2, x1, x2, x3, x4, x5, x6, x7, x8, x9⟩ := h.1
  have hl : lnO S = l2 := by unfold lnO; rw [x6.2.1, nI_clamp (by have := x6.1; omega)]
  rw [hl]; exact ⟨x8, x6, x7⟩
/-- the reference opened and laid -/
theorem mind_lay {C S : Mem} (h : Core C S) : Core C (f_X7_layWinds (f_X7_open S)) ∧ (∀ q, q ≤ 400 → f_X7_layWinds (f_X7_open S) 17 q = Wv (lnO S) (S 1) (nI q) (S 0 4)) ∧ MS C S C (f_X7_layWinds (f_X7_open S)) ∧ ∀ j q, ¬ (j = 0 ∧ (q = 27 ∨ q = 29 ∨ q = 30 ∨ (36 ≤ q ∧ q ≤ 38))) → ¬ (13 ≤ j ∧ j ≤ 17) → ¬ j = 20 → f_X7_layWinds (f_X7_open S) j q = S j q := by
  have h1 := Core_open h
  obtain ⟨l1, l2, l3⟩ := Core_lay h1
  have on := fun j q => @open_n S j q
  have hfr : ∀ j q, ¬ (j = 0 ∧ (q = 27 ∨ q = 29 ∨ q = 30 ∨ (36 ≤ q ∧ q ≤ 38))) → ¬ (13 ≤ j ∧ j ≤ 17) → ¬ j = 20 → f_X7_layWinds (f_X7_open S) j q = S j q := fun j q p1 p2 p3 => by rw [l3 _ _ (by omega) p2, on _ _ (by omega) (by omega)]
  have hln : lnO (f_X7_open S) = lnO S := by unfold lnO; rw [on _ _ (by omega) (by omega)]
  have hrow : f_X7_open S 1 = S 1 := by funext q; exact on _ _ (by omega) (by omega)
  have h04 : f_X7_open S 0 4 = S 0 4 := on _ _ (by omega) (by omega)
  rw [hln, hrow, h04] at l2
  obtain ⟨w1, w2, w3⟩ := Core_WL h
  refine ⟨l1, l2, ⟨fun _ _ _ _ _ _ _ => rfl, w1, fun k => l3 _ _ (by omega) (by omega), hfr _ _ (by omega) (by omega) (by omega), fun q => hfr _ _ (by omega) (by omega) (by omega), fun j q p1 p2 => hfr _ _ (by omega) (by omega) (by omega), ?_⟩, hfr⟩
  have hw := l1.2.1
  have hl2 : lnO (f_X7_layWinds (f_X7_open S)) = lnO S := by unfold lnO; rw [hfr _ _ (by omega) (by omega) (by omega)]
  have hr2 : f_X7_layWinds (f_X7_open S) 1 = S 1 := by funext q; exact hfr _ _ (by omega) (by omega) (by omega)
  rw [hl2, hr2] at hw
  exact hw
/-- gone on in mind -/
theorem MS_run {C S Cx Sx Cy Sy : Mem} {t : Nat → Int32} {ln : Nat} {sd : Int32} {g : Option Nat} {n s : Nat} (h : MS C S Cx Sx) (hC : FrC 15 1 Cx Cy) (hR : FrR Sx Sy) (hr : RUN g Cy Sy 15 1 n s ln t sd) (e1 : ln = lnO S) (e2 : t = S 1) (e3 : sd = S 0 4) : MS C S Cy Sy := by
  obtain ⟨m1, m2, m3, m4, m5, m6, m7⟩ := h
  subst e1 e2 e3
  exact ⟨fun j q p1 p2 p3 p4 p5 => by rw [hC _ _ (by omega) (by omega) (by omega) (by omega)]; exact m1 j q p1 p2 p3 p4 p5, hr.2.2.2.2.1, fun k => by rw [hR _ _ (by omega) (by omega) (by omega) (by omega)]; exact m3 k, by rw [hR _ _ (by omega) (by omega) (by omega) (by omega)]; exact m4, fun q => by rw [hR _ _ (by omega) (by omega) (by omega) (by omega)]; exact m5 q, fun j q p1 p2 => by rw [hR _ _ (by omega) (by omega) (by omega) (by omega)]; exact m6 j q p1 p2,
    WI_of m7 (hR _ _ (by omega) (by omega) (by omega) (by omega)) (hR _ _ (by omega) (by omega) (by omega) (by omega)) (fun q => hR _ _ (by omega) (by omega) (by omega) (by omega))⟩
theorem geo15 {n : Nat} (h : n ≤ 4) : geo 15 1 n := ⟨by omega, by omega, h⟩
/-- the race taken over into mind, at the start of both -/
theorem mind_race {C S : Mem} (h : Core C S) : ∃ n s, n ≤ 4 ∧ C 13 1 = nI n ∧ S 0 8 = nI n ∧ RUN none (f_X3_take C 15 13) (f_X7_layWinds (f_X7_open S)) 15 1 n s (lnO S) (S 1) (S 0 4) ∧ MS C S (f_X3_take C 15 13) (f_X7_layWinds (f_X7_open S)) := by
  obtain ⟨l1, l2, l3, l4⟩ := mind_lay h
  generalize f_X7_layWinds (f_X7_open S) = S2 at l1 l2 l3 l4 ⊢
  obtain ⟨n, s, ln, x1, x2, x3, x4, x5, x6, x7, x8, x9⟩ := l1.1
  obtain ⟨w1, w2, w3⟩ := Core_WL h
  have hX := RX_take (C0 := C) (o := 15) (p := 13) (a := 1) (by omega) (by omega) (by omega) (by omega) x1 x2 x2.2.2.1 (fun _ _ _ => rfl)
  obtain ⟨t1, t2, t3, t4⟩ := raceTake_ok (C := C) (o := 15) (p := 13) (by omega) (by omega) (by omega)
  generalize f_X3_take C 15 13 = C1 at hX t1 t2 t3 t4 ⊢
  have hw : WL C1 1 (lnO S) (S 1) (S 0 4) := WL_of w1 (t4 _ _ (by omega) (by omega) (by omega)) (fun q => t4 _ _ (by omega) (by omega) (by omega)) (t4 _ _ (by omega) (by omega) (by omega)) (fun q => t4 _ _ (by omega) (by omega) (by omega))
  obtain ⟨m1, m2, m3⟩ := l3
  refine ⟨n, s, x1, x2.1, by rw [← l4 0 8 (by omega) (by omega) (by omega)]; exact x2.2.1, ⟨hX, t2.trans x3, x4, x5, hw, w3, l2⟩, ⟨fun j q p1 p2 p3 p4 p5 => t4 _ _ (by omega) (by omega) (by omega), hw, m3⟩⟩
theorem boatAt_some {C : Mem} {o n i : Nat} (hn : n ≤ 4) (h1 : C o 1 = nI n) (hi : i < n) : f_X3_boatAt C o (nI i) = some (4 * (o + 3) - 45 + i) := by
  unfold f_X3_boatAt
  simp only [bnd_nr]
  rw [h1, if_neg (nI_pos (by omega)), if_neg (nI_ge hi (by omega)), if_neg (nI4 (by omega)), nI_clamp (by omega)]
theorem end_mind {C S : Mem} (h : Core C S) (hn : ¬ S 0 8 = 0) : ∃ n s, n ≤ 4 ∧ 0 < n ∧ S 0 8 = nI n ∧ RUN none (f_X6_endInMind C) (f_X7_raceToEnd (f_X7_open S)) 15 1 n s (lnO S) (S 1) (S 0 4) ∧ Core (f_X6_endInMind C) (f_X7_close (f_X7_raceToEnd (f_X7_open S))) := by
  obtain ⟨n, s, x1, x2, x3, x4, x5⟩ := mind_race h
  have hn0 : 0 < n := by
    cases n with
    | zero => exact absurd x3 hn
    | succ n => omega
  obtain ⟨s', g1, g2, g3, _⟩ := goOn_end (g := none) (geo15 x1) hn0 (fun _ => trivial) x4
  have eC : f_X6_endInMind C = f_X3_goOn (f_X3_take C 15 13) 15 1 400 := by unfold f_X6_endInMind; simp only [bnd_nr]
  have eS : f_X7_raceToEnd (f_X7_open S) = lpE none 401 (f_X7_layWinds (f_X7_open S)) := by unfold f_X7_raceToEnd; simp only [bnd_nr]; rfl
  rw [eC, eS]
  exact ⟨n, s', x1, hn0, x3, g1, MS_back h (MS_run x5 g2 g3 g1 rfl rfl rfl)⟩
theorem sim_ends : S_ends Core := by
  intro C R a hC _ _
  have h19 := Core_19 hC 0
  unfold f_X6_ends f_X7_ends
  simp only [bnd_nr]
  generalize up2 R 0 19 0 = S at h19 ⊢
  obtain ⟨n, s, ln, x1, x2, _⟩ := h19.1
  rcases boat_cases x1 x2.1 x2.2.1 a with ⟨i, hi, rfl, b1, b2⟩ | ⟨b1, b2⟩
  · rw [b1, if_pos b2]
    dsimp only [oel]
    obtain ⟨n', s', z1, z2, z3, z4, z5⟩ := end_mind h19 (by rw [x2.2.1]; exact nI_ne0 (by omega) (by omega))
    have hnn : n' = n := (nI_eq (by omega) (by omega)).mp (z3.symm.trans x2.2.1)
    subst hnn
    generalize f_X6_endInMind C = C2 at z4 z5 ⊢
    generalize f_X7_raceToEnd (f_X7_open S) = S2 at z4 z5 ⊢
    rw [boatAt_some z1 z4.1.1 hi]
    dsimp only
    refine ⟨?_, z5⟩
    exact place_eq (geo15 z1) z4.1 hi
  · rw [b1, if_neg (not_not_intro b2)]; exact ⟨rfl, h19⟩
theorem sim_pairs : S_pairs Core := by
  intro C R hC _ _
  have h19 := Core_19 hC 0
  unfold f_X6_pairs f_X7_pairs
  simp only [bnd_nr]
  generalize up2 R 0 19 0 = S at h19 ⊢
  obtain ⟨n, s, ln, x1, x2, _⟩ := h19.1
  have c4 : C 13 1 = 4 ↔ n = 4 := by rw [x2.1]; exact nI_eq (b := 4) (by omega) (by omega)
  have r4 : 4 ≤ S 0 8 ↔ n = 4 := by rw [x2.2.1]; exact (nI_leI (a := 4) (by omega) (by omega)).trans (by omega)
  by_cases c : n = 4
  · rw [if_pos (c4.mpr c), if_pos (r4.mpr c)]
    obtain ⟨n', s', z1, z2, z3, z4, z5⟩ := end_mind h19 (by rw [x2.2.1]; exact nI_ne0 (by omega) (by omega))
    have hnn : n' = n := (nI_eq (by omega) (by omega)).mp (z3.symm.trans x2.2.1)
    subst hnn
    generalize f_X6_endInMind C = C2 at z4 z5 ⊢
    generalize f_X7_raceToEnd (f_X7_open S) = S2 at z4 z5 ⊢
    have p0 := place_eq (geo15 z1) z4.1 (show 0 < n' by omega)
    have p1 := place_eq (geo15 z1) z4.1 (show 1 < n' by omega)
    have q0 : f_X3_boatAt C2 15 0 = some (4 * (15 + 3) - 45 + 0) := boatAt_some z1 z4.1.1 (show 0 < n' by omega)
    have q1 : f_X3_boatAt C2 15 1 = some (4 * (15 + 3) - 45 + 1) := boatAt_some z1 z4.1.1 (show 1 < n' by omega)
    rw [q0, q1]
    dsimp only [oel]
    refine ⟨?_, z5⟩
    rw [p0, p1]; rfl
  · rw [if_neg (fun q => c (c4.mp q)), if_neg (fun q => c (r4.mp q))]; exact ⟨rfl, h19⟩
/-! read -/
theorem read_lp {C0 S0 : Mem} {d m i n ln : Nat} {t : Nat → Int32} {sd : Int32} (hd : d < 8) (hn : n ≤ 4) (hi : i < n) (hm : m ≤ 100) : ∀ (c k f f' : Nat) (C S : Mem) (s : Nat), c + k = m → c < f → c < f' → RUN none C S 15 1 n s ln t sd → SH1 C S d → S 23 d = 2 → C (44 + d) 3 = nI m → S 28 d = nI m →
    ∃ s', (lp_X6_firstNotSo_23' f (44 + d) (4 * (15 + 3) - 45 + i) C (nI k)).1 = (lp_X7_read_44 f' (nI i) (nI d) S (-4) (nI k)).1 ∧ RUN none (lp_X6_firstNotSo_23' f (44 + d) (4 * (15 + 3) - 45 + i) C (nI k)).2 (lp_X7_read_44 f' (nI i) (nI d) S (-4) (nI k)).2 15 1 n s' ln t sd ∧ FrC 15 1 C (lp_X6_firstNotSo_23' f (44 + d) (4 * (15 + 3) - 45 + i) C (nI k)).2 ∧ FrR S (lp_X7_read_44 f' (nI i) (nI d) S (-4) (nI k)).2 := by
  intro c
  induction c with
  | zero =>
    intro k f f' C S s hk hf hf' h hS h2 hc3 h28
    obtain ⟨f, rfl⟩ : ∃ x, f = x + 1 := ⟨f - 1, by omega⟩
    obtain ⟨f', rfl⟩ : ∃ x, f' = x + 1 := ⟨f' - 1, by omega⟩
    obtain rfl : k = m := by omega
    rw [lp_X6_firstNotSo_23', lp_X7_read_44, nI_clamp (n := d) (by omega), hc3, h28, if_pos (nI_le (Nat.le_refl _) (by omega)), if_pos (nI_le (Nat.le_refl _) (by omega))]
    exact ⟨s, rfl, h, FrC.rf, FrR.rf⟩
  | succ c ih =>
    intro k f f' C S s hk hf hf' h hS h2 hc3 h28
    obtain ⟨f, rfl⟩ : ∃ x, f = x + 1 := ⟨f - 1, by omega⟩
    obtain ⟨f', rfl⟩ : ∃ x, f' = x + 1 := ⟨f' - 1, by omega⟩
    rw [lp_X6_firstNotSo_23', lp_X7_read_44, nI_clamp (n := d) (by omega), hc3, h28, if_neg (nI_ge (by omega) (by omega)), if_neg (nI_ge (by omega) (by omega)), if_neg (show ¬ (0 : Int32) ≤ -4 by decide)]
    simp only [bnd_nr]
    rw [nI_1]
    -- one second more, if not ended
    have e1 := run_C (geo15 hn) (show 0 < n by omega) h
    have e2 := run_M (geo15 hn) h
    have step : ∃ s', RUN none (f_X3_goOn C 15 1 1) (if ¬ f_X7_isEnded S = 0 then S else f_X7_raceOn S) 15 1 n s' ln t sd ∧ FrC 15 1 C (f_X3_goOn C 15 1 1) ∧ FrR S (if ¬ f_X7_isEnded S = 0 then S else f_X7_raceOn S) := by
      unfold f_X3_goOn
      simp only [bnd_nr]
      rw [show ((1 : Int32).toInt - 0).toNat + 1 = 2 by decide, goOn_eq, if_neg (by decide)]
      by_cases hgo : going S n s
      · rw [if_neg (not_not_intro (e1.mpr hgo)), if_neg (not_not_intro (e2.mpr hgo))]
        rw [goOn_eq, if_pos (by decide)]
        obtain ⟨p1, p2, p3⟩ := run_step (geo15 hn) h hgo.1 trivial
        exact ⟨s + 1, p1, p2, p3⟩
      · rw [if_pos (fun q => hgo (e1.mp q)), if_pos (fun q => hgo (e2.mp q))]
        exact ⟨s, h, FrC.rf, FrR.rf⟩
    obtain ⟨s1, r1, r2, r3⟩ := step
    generalize f_X3_goOn C 15 1 1 = C1 at r1 r2 ⊢
    generalize (if ¬ f_X7_isEnded S = 0 then S else f_X7_raceOn S) = S1 at r1 r3 ⊢
    have hS1 : SH1 C1 S1 d := SH_of hS (fun j q p => r2 _ _ (by omega) (by omega) (by omega) (by omega)) (fun j p1 p2 => r3 _ _ (by omega) (by omega) (by omega) (by omega)) (fun k hk => r3 _ _ (by omega) (by omega) (by omega) (by omega))
    have h21 : S1 23 d = 2 := by rw [r3 _ _ (by omega) (by omega) (by omega) (by omega)]; exact h2
    have hc31 : C1 (44 + d) 3 = nI m := by rw [r2 _ _ (by omega) (by omega) (by omega) (by omega)]; exact hc3
    have h281 : S1 28 d = nI m := by rw [r3 _ _ (by omega) (by omega) (by omega) (by omega)]; exact h28
    obtain ⟨o0, o1, o2, o3⟩ := hS1.2.2.2.2 h21
    obtain ⟨el, _⟩ := o3 k (by omega)
    have hy : C1 (4 * (15 + 3) - 45 + i) 4 = S1 7 i := (r1.1.2.2.2 i hi).1.2.1
    rw [ix_row hd (by omega), nI_clamp (n := i) (by omega), nI_clamp (n := k) (by omega), show 44 + d + 16 = 60 + d by omega, el, hy]
    generalize hv : S1 29 (100 * d + k) = v
    have c0 : ∀ x y : Int32, lg_cmp x.toInt64 y.toInt64 = 0 ↔ x = y := fun x y => by
      have g1 := @cmp_lt x.toInt64 y.toInt64
      have g2 := @cmp_gt x.toInt64 y.toInt64
      rw [toI64, toI64] at g1 g2
      rw [lt_i, k0] at g1 g2
      rw [eq_i, eq_i, k0]
      omega
    have hplace : ¬ f_X5_hasPlace C1 (44 + d) (nI k) = 0 := by
      rcases place_row hm hc31 h281 (nI k) with ⟨p1, p2⟩ | ⟨_, _, _, p1, _⟩
      · exfalso
        unfold f_X5_hasPlace at p1; simp only [bnd_nr] at p1
        rw [hc31, if_neg (nI_pos (by omega)), if_neg (nI_ge (by omega) (by omega)), if_neg (show ¬ (100 : Int32) ≤ nI k from nI_ge (b := 100) (by omega) (by decide))] at p1
        exact absurd p1 (by decide)
      · exact p1
    -- what a row's sort tells nothing by
    have hsk : ∃ z : Int32, f_X7_skippedIn S1 (nI d) = z.toInt64 ∧ (f_X5_tellsAt C1 (44 + d) (nI k) = 0 ↔ v = z) := by
      unfold f_X7_skippedIn f_X5_tellsAt
      simp only [bnd_nr]
      rw [nI_clamp (n := d) (by omega), o0, nI_clamp (n := k) (by omega), show 44 + d + 16 = 60 + d by omega, el, hv]
      have tl : ∀ z : Int32, (if f_X5_hasPlace C1 (44 + d) (nI k) = 0 then (0 : Int32) else if v = z then 0 else 1) = 0 ↔ v = z := fun z => by
        rw [if_neg hplace]
        by_cases q : v = z
        · rw [if_pos q]; exact ⟨fun _ => q, fun _ => rfl⟩
        · rw [if_neg q]; exact ⟨fun q => absurd q (by decide), fun g => absurd g q⟩
      by_cases s0 : S1 27 d = 0
      · rw [if_neg (not_not_intro s0), if_pos s0]; exact ⟨-128, by decide, tl _⟩
      · rw [if_pos s0, if_neg s0]
        by_cases s1 : S1 27 d = 1
        · rw [if_neg (not_not_intro s1), if_pos s1]; exact ⟨-32768, by decide, tl _⟩
        · rw [if_pos s1, if_neg s1]; exact ⟨-2147483648, by decide, tl _⟩
    obtain ⟨z, z1, z2⟩ := hsk
    rw [z1]
    obtain ⟨s2, i1, i2, i3, i4⟩ := ih (k + 1) f f' C1 S1 s1 (by omega) (by omega) (by omega) r1 hS1 h21 hc31 h281
    by_cases b1 : v = z
    · rw [if_pos (z2.mpr b1), if_pos ((c0 v z).mpr b1)]
      exact ⟨s2, i1, i2, r2.tr i3, r3.tr i4⟩
    · rw [if_neg (fun q => b1 (z2.mp q)), if_neg (fun q => b1 ((c0 v z).mp q))]
      by_cases b2 : v = S1 7 i
      · rw [if_pos b2, if_pos ((c0 v _).mpr b2)]
        exact ⟨s2, i1, i2, r2.tr i3, r3.tr i4⟩
      · rw [if_neg b2, if_neg (fun q => b2 ((c0 v _).mp q))]
        -- found: the reference's loop stops at the next look
        have hstop : lp_X7_read_44 f' (nI i) (nI d) S1 (nI k) (nI (k + 1)) = (nI k, S1) := by
          cases f' with
          | zero => rfl
          | succ f' =>
            rw [lp_X7_read_44]
            by_cases q : S1 28 (nI d).toNatClampNeg ≤ nI (k + 1)
            · rw [if_pos q]
            · rw [if_neg q, if_pos (nI_pos' (by omega))]
        rw [hstop]
        exact ⟨s1, rfl, r1, r2, r3⟩
theorem sim_read : S_read Core := by
  intro C R a a2 hC _ _
  have h19 := Core_19 hC 0
  unfold f_X6_read f_X7_read
  simp only [bnd_nr, bnd2_nr]
  generalize up2 R 0 19 0 = S at h19 ⊢
  obtain ⟨n, s, ln, x1, x2, _⟩ := id h19.1
  rcases shelf_cases a2 with ⟨d, hd, rfl, hs, hi⟩ | ⟨hs, hi⟩
  · rw [hs]
    dsimp only [oel]
    rcases boat_cases x1 x2.1 x2.2.1 a with ⟨i, hii, rfl, b1, b2⟩ | ⟨b1, b2⟩
    · rw [b1]
      dsimp only
      have hS := h19.2.2.2 d hd
      obtain ⟨e1, e2⟩ := rowR_eq hd hS.1 hi
      rw [if_neg b2, e1]
      rcases e2 with ⟨e2, e3⟩ | e2 | e2
      · rw [e2, if_pos rfl, if_pos (show (0 : Int32) ≤ 0 by decide)]
        dsimp only
        obtain ⟨m, hm, m1, m2⟩ := sizeO hS e3
        obtain ⟨n', s', z1, z2, z3, z4, z5⟩ := mind_race h19
        have hnn : n' = n := (nI_eq (by omega) (by omega)).mp (z2.symm.trans x2.1)
        subst hnn
        obtain ⟨t1, t2, t3, t4⟩ := raceTake_ok (C := C) (o := 15) (p := 13) (by omega) (by omega) (by omega)
        obtain ⟨_, _, _, l4⟩ := mind_lay h19
        unfold f_X6_firstNotSo
        simp only [bnd_nr]
        generalize f_X3_take C 15 13 = C1 at z4 z5 t4 ⊢
        generalize f_X7_layWinds (f_X7_open S) = S1 at z4 z5 l4 ⊢
        rw [boatAt_some z1 z4.1.1 hii]
        dsimp only [oel]
        have hc3 : C1 (44 + d) 3 = nI m := by rw [t4 _ _ (by omega) (by omega) (by omega)]; exact m2
        rw [hc3, show (nI m).toInt.toNat + 1 = m + 1 by rw [nI_toInt (by omega)]; omega]
        obtain ⟨s2, r1, r2, r3, r4⟩ := read_lp (C0 := C) (S0 := S) hd z1 hii hm m 0 (m + 1) 101 C1 S1 s' (by omega) (by omega) (by omega) z4 (SH_of hS (fun j q p => t4 _ _ (by omega) (by omega) (by omega)) (fun j p1 p2 => l4 _ _ (by omega) (by omega) (by omega)) (fun k hk => l4 _ _ (by omega) (by omega) (by omega))) (by rw [l4 _ _ (by omega) (by omega) (by omega)]; exact e3) hc3 (by rw [l4 _ _ (by omega) (by omega) (by omega)]; exact m1)
        refine ⟨r1, ?_⟩
        exact MS_back h19 (MS_run z5 r3 r4 r2 rfl rfl rfl)
      · rw [e2, if_neg (by decide), if_neg (by decide)]; exact ⟨rfl, h19⟩
      · rw [e2, if_neg (by decide), if_neg (by decide)]; exact ⟨rfl, h19⟩
    · rw [b1, if_pos b2, if_neg (show ¬ (0 : Int32) ≤ -1 by decide)]; exact ⟨rfl, h19⟩
  · rw [hs]
    dsimp only [oel]
    have : (if f_X7_isBoat S a = 0 then (-1 : Int32) else f_X7_wrongRow S a2) = -1 := by rw [rowR_no hi, ite_self]
    rw [this, if_neg (by decide)]
    exact ⟨rfl, h19⟩
