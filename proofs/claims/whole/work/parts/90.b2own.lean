/-! set, go -/
theorem reach_lp {C S : Mem} {n : Nat} (x1 : n ≤ 4) (x2 : RX none C S 13 1 n) (a : Int32) : ∀ (c k f f' : Nat) (v : Int32), c + k = n → c < f → c < f' → (v = 0 ∨ v = 1) → (lp_X7_isSomeBeyond_4 f' S a v (nI k) = 0 ↔ v = 0 ∧ lp_X3_reaches_2 f C 13 a (nI k) = 0) := by
  intro c
  induction c with
  | zero =>
    intro k f f' v hk hf hf' hv
    obtain ⟨f, rfl⟩ : ∃ x, f = x + 1 := ⟨f - 1, by omega⟩
    obtain ⟨f', rfl⟩ : ∃ x, f' = x + 1 := ⟨f' - 1, by omega⟩
    obtain rfl : k = n := by omega
    rw [lp_X3_reaches_2, lp_X7_isSomeBeyond_4, x2.1, x2.2.1, if_pos (nIstop x1), if_pos (nIstop x1)]
    exact ⟨fun h => ⟨h, rfl⟩, fun h => h.1⟩
  | succ c ih =>
    intro k f f' v hk hf hf' hv
    obtain ⟨f, rfl⟩ : ∃ x, f = x + 1 := ⟨f - 1, by omega⟩
    obtain ⟨f', rfl⟩ : ∃ x, f' = x + 1 := ⟨f' - 1, by omega⟩
    rw [lp_X3_reaches_2, lp_X7_isSomeBeyond_4, x2.1, x2.2.1, if_neg (nIgo x1 (by omega)), if_neg (nIgo x1 (by omega)), if_neg (nI4 (by omega))]
    simp only [bnd_nr]
    rw [nI_1, nI_clamp (by omega), (x2.2.2.2 k (by omega)).1.2.1]
    have ih0 := ih (k + 1) f f' 0 (by omega) (by omega) (by omega) (Or.inl rfl)
    have ih1 := ih (k + 1) f f' 1 (by omega) (by omega) (by omega) (Or.inr rfl)
    rcases hv with rfl | rfl
    · rw [if_neg (show ¬ ¬ (0 : Int32) = 0 by decide)]
      by_cases c1 : S 7 k < a
      · rw [if_pos c1, if_pos c1]; exact ih0
      · rw [if_neg c1, if_neg c1]
        exact ⟨fun q => absurd (ih1.mp q).1 (by decide), fun q => absurd q.2 (by decide)⟩
    · rw [if_pos (show ¬ (1 : Int32) = 0 by decide)]
      exact ⟨fun q => absurd (ih1.mp q).1 (by decide), fun q => absurd q.1 (by decide)⟩
theorem lim_ok {k : Nat} (hk : k ≤ 4) : f_X7_leastOf (nI k) = lS k ∧ f_X7_mostOf (nI k) = mS k := by
  have : k = 0 ∨ k = 1 ∨ k = 2 ∨ k = 3 ∨ k = 4 := by omega
  rcases this with rfl | rfl | rfl | rfl | rfl <;> decide
theorem isSet_iff {k : Nat} (hk : k ≤ 4) (a : Int32) : f_X0_isSetting (nI k) a = 0 ↔ ¬ ((lS k).toInt ≤ a.toInt ∧ a.toInt ≤ (mS k).toInt) := by
  unfold f_X0_isSetting
  rw [if_neg (nI_pos (by omega)), if_neg (show ¬ (5 : Int32) ≤ nI k from nI_ge (b := 5) (by omega) (by decide)), if_neg (show ¬ (5 : Int32) ≤ nI k from nI_ge (b := 5) (by omega) (by decide)), nI_clamp (by omega)]
  by_cases h1 : a < lS k
  · rw [if_pos h1]; rw [lt_i] at h1; exact ⟨fun _ q => by omega, fun _ => rfl⟩
  · rw [if_neg h1]; rw [lt_i] at h1
    by_cases h2 : mS k < a
    · rw [if_pos h2]; rw [lt_i] at h2; exact ⟨fun _ q => by omega, fun _ => rfl⟩
    · rw [if_neg h2]; rw [lt_i] at h2; exact ⟨fun q => absurd q (by decide), fun q => by omega⟩
/-- the class's change of a setting -/
theorem change_ok {C : Mem} {o k : Nat} {v : Int32} (ho : 1 ≤ o ∧ o ≤ 3) (hk : k ≤ 4) : (f_X0_change C o (nI k) v).1 = C o k ∧ (f_X0_change C o (nI k) v).2 o k = v ∧ (∀ j q, ¬ (j = o ∧ q = k) → ¬ (k = 4 ∧ j = o + 6) → (f_X0_change C o (nI k) v).2 j q = C j q) ∧ (k = 4 → ∀ q, q ≤ 400 → (f_X0_change C o (nI k) v).2 (o + 6) q = 100) := by
  have hst : f_X0_setting C o (nI k) = C o k := by
    unfold f_X0_setting
    have : k = 0 ∨ k = 1 ∨ k = 2 ∨ k = 3 ∨ k = 4 := by omega
    rcases this with rfl | rfl | rfl | rfl | rfl
    · rw [if_pos (by decide)]
    · rw [if_neg (by decide), if_pos (by decide)]
    · rw [if_neg (by decide), if_neg (by decide), if_pos (by decide)]
    · rw [if_neg (by decide), if_neg (by decide), if_neg (by decide), if_pos (by decide)]
    · rw [if_neg (by decide), if_neg (by decide), if_neg (by decide), if_neg (by decide)]
  unfold f_X0_change
  simp only [bnd_nr]
  rw [hst]
  refine ⟨rfl, ?_⟩
  by_cases k4 : k = 4
  · subst k4
    rw [if_neg (show ¬ nI 4 = 0 by decide), if_neg (show ¬ nI 4 = 1 by decide), if_neg (show ¬ nI 4 = 2 by decide), if_neg (show ¬ nI 4 = 3 by decide)]
    obtain ⟨f1, f2⟩ := fill_ok (M := up2 C o 4 v) (a := o + 6) (v := 100)
    have hA : nIA (o + 6) = 401 := by unfold nIA; rw [if_pos (by omega)]
    rw [hA] at f1 f2
    exact ⟨by rw [f2 _ _ (Or.inl (by omega)), up2_s], fun j q h1 h2 => by rw [f2 _ _ (Or.inl (by omega)), up2_n _ _ h1], fun _ q hq => f1 q (by omega)⟩
  · have : k = 0 ∨ k = 1 ∨ k = 2 ∨ k = 3 := by omega
    rcases this with rfl | rfl | rfl | rfl
    · rw [if_pos (show nI 0 = 0 by decide)]
      exact ⟨up2_s _ _ _ _, fun j q h1 _ => up2_n _ _ h1, fun h => absurd h (by omega)⟩
    · rw [if_neg (show ¬ nI 1 = 0 by decide), if_pos (show nI 1 = 1 by decide)]
      exact ⟨up2_s _ _ _ _, fun j q h1 _ => up2_n _ _ h1, fun h => absurd h (by omega)⟩
    · rw [if_neg (show ¬ nI 2 = 0 by decide), if_neg (show ¬ nI 2 = 1 by decide), if_pos (show nI 2 = 2 by decide)]
      exact ⟨up2_s _ _ _ _, fun j q h1 _ => up2_n _ _ h1, fun h => absurd h (by omega)⟩
    · rw [if_neg (show ¬ nI 3 = 0 by decide), if_neg (show ¬ nI 3 = 1 by decide), if_neg (show ¬ nI 3 = 2 by decide), if_pos (show nI 3 = 3 by decide)]
      exact ⟨up2_s _ _ _ _, fun j q h1 _ => up2_n _ _ h1, fun h => absurd h (by omega)⟩
/-- the reference's -/
def chM (S : Mem) (a v : Int32) : Mem := up2 (up2 (up2 (up2 (up2 S 0 0 (if ¬ a = 0 then S 0 0 else v)) 0 1 (if ¬ a = 1 then (up2 S 0 0 (if ¬ a = 0 then S 0 0 else v)) 0 1 else v)) 0 2 (if ¬ a = 2 then (up2 (up2 S 0 0 (if ¬ a = 0 then S 0 0 else v)) 0 1 (if ¬ a = 1 then (up2 S 0 0 (if ¬ a = 0 then S 0 0 else v)) 0 1 else v)) 0 2 else v)) 0 3 (if ¬ a = 3 then (up2 (up2 (up2 S 0 0 (if ¬ a = 0 then S 0 0 else v)) 0 1 (if ¬ a = 1 then (up2 S 0 0 (if ¬ a = 0 then S 0 0 else v)) 0 1 else v)) 0 2 (if ¬ a = 2 then (up2 (up2 S 0 0 (if ¬ a = 0 then S 0 0 else v)) 0 1 (if ¬ a = 1 then (up2 S 0 0 (if ¬ a = 0 then S 0 0 else v)) 0 1 else v)) 0 2 else v)) 0 3 else v)) 0 4 (if ¬ a = 4 then (up2 (up2 (up2 (up2 S 0 0 (if ¬ a = 0 then S 0 0 else v)) 0 1 (if ¬ a = 1 then (up2 S 0 0 (if ¬ a = 0 then S 0 0 else v)) 0 1 else v)) 0 2 (if ¬ a = 2 then (up2 (up2 S 0 0 (if ¬ a = 0 then S 0 0 else v)) 0 1 (if ¬ a = 1 then (up2 S 0 0 (if ¬ a = 0 then S 0 0 else v)) 0 1 else v)) 0 2 else v)) 0 3 (if ¬ a = 3 then (up2 (up2 (up2 S 0 0 (if ¬ a = 0 then S 0 0 else v)) 0 1 (if ¬ a = 1 then (up2 S 0 0 (if ¬ a = 0 then S 0 0 else v)) 0 1 else v)) 0 2 (if ¬ a = 2 then (up2 (up2 S 0 0 (if ¬ a = 0 then S 0 0 else v)) 0 1 (if ¬ a = 1 then (up2 S 0 0 (if ¬ a = 0 then S 0 0 else v)) 0 1 else v)) 0 2 else v)) 0 3 else v)) 0 4 else v)
theorem chM_eq {S : Mem} {k : Nat} {v : Int32} (hk : k ≤ 4) : chM S (nI k) v = up2 S 0 k v := by
  have i0 : ∀ M : Mem, (if ¬ nI k = 0 then M 0 0 else v) = if k = 0 then v else M 0 0 := fun M => by
    have e : nI k = 0 ↔ k = 0 := nI_eq (b := 0) (by omega) (by omega)
    by_cases h : k = 0
    · rw [if_neg (not_not_intro (e.mpr h)), if_pos h]
    · rw [if_pos (fun q => h (e.mp q)), if_neg h]
  have i1 : ∀ (M : Mem) (j : Nat) (w : Int32), j < 5 → w = nI j → (if ¬ nI k = w then M 0 j else v) = if k = j then v else M 0 j := fun M j w hj hw => by
    have e : nI k = w ↔ k = j := by rw [hw]; exact nI_eq (by omega) (by omega)
    by_cases h : k = j
    · rw [if_neg (not_not_intro (e.mpr h)), if_pos h]
    · rw [if_pos (fun q => h (e.mp q)), if_neg h]
  unfold chM
  rw [i0 S, i1 _ 1 1 (by omega) (by decide), i1 _ 2 2 (by omega) (by decide), i1 _ 3 3 (by omega) (by decide), i1 _ 4 4 (by omega) (by decide)]
  have u : ∀ (M : Mem) (j : Nat), (if k = j then v else M 0 j) = (if k = j then v else M 0 j) := fun _ _ => rfl
  have st : ∀ (M : Mem) (j : Nat), up2 M 0 j (if k = j then v else M 0 j) = if k = j then up2 M 0 j v else M := fun M j => by
    by_cases h : k = j
    · rw [if_pos h, if_pos h]
    · rw [if_neg h, if_neg h, up2_id]
  rw [st, st, st, st, st]
  have : k = 0 ∨ k = 1 ∨ k = 2 ∨ k = 3 ∨ k = 4 := by omega
  rcases this with rfl | rfl | rfl | rfl | rfl
  · rw [if_neg (by decide), if_neg (by decide), if_neg (by decide), if_neg (by decide), if_pos rfl]
  · rw [if_neg (by decide), if_neg (by decide), if_neg (by decide), if_pos rfl, if_neg (by decide)]
  · rw [if_neg (by decide), if_neg (by decide), if_pos rfl, if_neg (by decide), if_neg (by decide)]
  · rw [if_neg (by decide), if_pos rfl, if_neg (by decide), if_neg (by decide), if_neg (by decide)]
  · rw [if_pos rfl, if_neg (by decide), if_neg (by decide), if_neg (by decide), if_neg (by decide)]
def wasM (S : Mem) (a : Int32) : Int32 := if ¬ a = 0 then (if ¬ a = 1 then (if ¬ a = 2 then (if ¬ a = 3 then S 0 4 else S 0 3) else S 0 2) else S 0 1) else S 0 0
theorem wasM_eq {S : Mem} {k : Nat} (hk : k ≤ 4) : wasM S (nI k) = S 0 k := by
  unfold wasM
  have : k = 0 ∨ k = 1 ∨ k = 2 ∨ k = 3 ∨ k = 4 := by omega
  rcases this with rfl | rfl | rfl | rfl | rfl
  · rw [if_neg (by decide)]
  · rw [if_pos (by decide), if_neg (by decide)]
  · rw [if_pos (by decide), if_pos (by decide), if_neg (by decide)]
  · rw [if_pos (by decide), if_pos (by decide), if_pos (by decide), if_neg (by decide)]
  · rw [if_pos (by decide), if_pos (by decide), if_pos (by decide), if_pos (by decide)]
theorem setM_eq {R : Mem} {a v : Int32} : f_X7_set R a v = (if f_X7_in a.toInt64 0 4 = 0 then (-1, up2 R 0 19 0) else (if ¬ f_X7_in v.toInt64 (f_X7_leastOf a).toInt64 (f_X7_mostOf a).toInt64 = 0 then (if ¬ a = 0 then (wasM (up2 R 0 19 0) a, chM (up2 R 0 19 0) a v) else (if f_X7_isSomeBeyond (up2 R 0 19 0) v = 0 then (wasM (up2 R 0 19 0) a, chM (up2 R 0 19 0) a v) else (-3, up2 R 0 19 0))) else (-1, up2 R 0 19 0))) := rfl
theorem set_core {C S : Mem} {k : Nat} {v : Int32} (h : Core C S) (hk : k ≤ 4) (hv : (lS k).toInt ≤ v.toInt ∧ v.toInt ≤ (mS k).toInt) : (f_X0_change C 1 (nI k) v).1 = S 0 k ∧ Core (f_X0_change C 1 (nI k) v).2 (up2 S 0 k v) := by
  obtain ⟨c1, c2, c3, c4⟩ := change_ok (C := C) (o := 1) (k := k) (v := v) (by omega) hk
  rw [c1]
  generalize (f_X0_change C 1 (nI k) v).2 = C2 at c2 c3 c4 ⊢
  obtain ⟨⟨n, s, ln, x1, x2, x3, x4, x5, x6, x7, x8, x9⟩, e2, e3, e4⟩ := h
  obtain ⟨y1, y2, ⟨b0, b1, b2, b3⟩, y4⟩ := x2
  have hold : C 1 k = S 0 k := by
    have : k = 0 ∨ k = 1 ∨ k = 2 ∨ k = 3 ∨ k = 4 := by omega
    rcases this with rfl | rfl | rfl | rfl | rfl
    · exact b0
    · exact b1
    · exact b2
    · exact b3
    · exact x8.2.1
  refine ⟨hold, ?_⟩
  have hrow : up2 S 0 k v 1 = S 1 := by funext q; exact up2_n _ _ (by omega)
  have hl : lnO (up2 S 0 k v) = lnO S := by unfold lnO; rw [up2_n _ _ (by omega)]
  have hb : ∀ q, q ≤ 4 → C 1 q = S 0 q → C2 1 q = up2 S 0 k v 0 q := fun q hq e => by
    by_cases h : q = k
    · subst h; rw [up2_s]; exact c2
    · rw [up2_n _ _ (by omega), c3 _ _ (by omega) (by omega)]; exact e
  refine ⟨⟨n, s, ln, x1, ⟨?_, ?_, ⟨hb 0 (by omega) b0, hb 1 (by omega) b1, hb 2 (by omega) b2, hb 3 (by omega) b3⟩, fun i hi => ?_⟩, ?_, ?_, x5, ⟨x6.1, ?_, fun _ _ => rfl⟩, ?_, ?_, ?_⟩, ?_, ⟨?_, fun g => ?_⟩, fun d hd => SH_of (e4 d hd) (fun j q p => c3 _ _ (by omega) (by omega)) (fun j p1 p2 => up2_n _ _ (by omega)) (fun k hk => up2_n _ _ (by omega))⟩
  · rw [c3 _ _ (by omega) (by omega)]; exact y1
  · rw [up2_n _ _ (by omega)]; exact y2
  · obtain ⟨z1, z2, z3⟩ := y4 i hi
    exact ⟨BX_of z1 (fun q p1 p2 => c3 _ _ (by omega) (by omega)) (fun j p1 p2 => up2_n _ _ (by omega)), BS_of z2 (fun q p1 p2 => c3 _ _ (by omega) (by omega)) (c3 _ _ (by omega) (by omega)) (fun j p1 p2 => up2_n _ _ (by omega)), KN_of z3 (fun q p => c3 _ _ (by omega) (by omega)) (fun j p => up2_n _ _ (by omega))⟩
  · rw [c3 _ _ (by omega) (by omega)]; exact x3
  · rw [up2_n _ _ (by omega)]; exact x4
  · rw [up2_n _ _ (by omega)]; exact x6.2.1
  · rw [hrow]; exact x7
  · rw [hrow]
    by_cases k4 : k = 4
    · subst k4
      rw [up2_s]
      obtain ⟨w123, _, _⟩ := x8
      exact ⟨LW_of w123 (c3 _ _ (by omega) (by omega)) (fun q => c3 _ _ (by omega) (by omega)), c2, fun q hq => Or.inl (c4 rfl q hq)⟩
    · rw [up2_n _ _ (by omega)]
      exact WL_of x8 (c3 _ _ (by omega) (by omega)) (fun q => c3 _ _ (by omega) (by omega)) (c3 _ _ (by omega) (by omega)) (fun q => c3 _ _ (by omega) (by omega))
  · obtain ⟨r1, r2⟩ := x9
    refine ⟨?_, ?_⟩
    · by_cases h : k = 0
      · subst h; rw [up2_s]; rw [show (lS 0).toInt = 40 by decide, show (mS 0).toInt = 400 by decide] at hv; exact hv
      · rw [up2_n _ _ (by omega)]; exact r1
    · by_cases h : k = 1
      · subst h; rw [up2_s]; rw [show (lS 1).toInt = 0 by decide, show (mS 1).toInt = 3 by decide] at hv; exact hv
      · rw [up2_n _ _ (by omega)]; exact r2
  · rw [hl, hrow]; exact WI_of e2 (up2_n _ _ (by omega)) (up2_n _ _ (by omega)) (fun q => up2_n _ _ (by omega))
  · rw [c3 _ _ (by omega) (by omega), up2_n _ _ (by omega)]; exact e3.1
  · rw [up2_n _ _ (by omega)] at g
    exact GS_C (GS_R (e3.2 g) (fun j q hc => up2_n _ _ (by omega))) (fun j q hc => c3 _ _ (by unfold cel at hc; omega) (by unfold cel at hc; omega))
theorem sim_set : S_set Core := by
  intro C R a1 a2 hC _ _
  have h19 := Core_19 hC 0
  rw [setM_eq]
  unfold f_X6_set
  generalize up2 R 0 19 0 = S at h19 ⊢
  rcases in_case a1 4 (by omega) 4 (by decide) with ⟨g1, g2⟩ | ⟨g1, k, hk, rfl⟩
  · rw [if_pos g1]
    have : f_X0_isSetting a1 a2 = 0 := by
      unfold f_X0_isSetting
      rcases g2 with g2 | g2
      · rw [if_pos g2]
      · have g3 : ¬ a1 < 0 := fun q => by
          rw [lt_i, k0] at q
          rw [le_i, nI_toInt (by omega)] at g2; omega
        rw [if_neg g3, if_pos (show 5 ≤ a1 from g2)]
    rw [if_neg (not_not_intro this)]; exact ⟨rfl, h19⟩
  · rw [if_neg g1]
    obtain ⟨l1, l2⟩ := lim_ok hk
    have hs := isSet_iff hk a2
    have hi := inz (a := a2) (lo := (f_X7_leastOf (nI k)).toInt64) (hi := (f_X7_mostOf (nI k)).toInt64)
    rw [toI64, toI64, l1, l2] at hi
    rw [l1, l2]
    by_cases hv : (lS k).toInt ≤ a2.toInt ∧ a2.toInt ≤ (mS k).toInt
    · rw [if_pos (fun q => hs.mp q hv), if_pos (fun q => hi.mp q hv), wasM_eq hk, chM_eq hk]
      have hsc := set_core h19 hk hv
      by_cases k0' : nI k = 0
      · rw [if_neg (not_not_intro k0'), if_neg (not_not_intro k0')]
        obtain ⟨n, s, ln, x1, x2, _⟩ := h19.1
        have hr := reach_lp x1 x2 a2 n 0 5 5 0 (by omega) (by omega) (by omega) (Or.inl rfl)
        have hr2 : f_X7_isSomeBeyond S a2 = 0 ↔ f_X3_reaches C 13 a2 = 0 := by
          unfold f_X7_isSomeBeyond f_X3_reaches
          simp only [bnd_nr]
          exact hr.trans ⟨fun q => q.2, fun q => ⟨rfl, q⟩⟩
        by_cases c : f_X3_reaches C 13 a2 = 0
        · rw [if_pos c, if_pos (hr2.mpr c)]; exact hsc
        · rw [if_neg c, if_neg (fun q => c (hr2.mp q))]; exact ⟨rfl, h19⟩
      · rw [if_pos k0', if_pos k0']; exact hsc
    · rw [if_neg (not_not_intro (hs.mpr hv)), if_neg (not_not_intro (hi.mpr hv))]; exact ⟨rfl, h19⟩
/-- the winds laid -/
theorem Core_lay {C S : Mem} (h : Core C S) : Core C (f_X7_layWinds S) ∧ (∀ q, q ≤ 400 → f_X7_layWinds S 17 q = Wv (lnO S) (S 1) (nI q) (S 0 4)) ∧ (∀ j q, ¬ (j = 0 ∧ (q = 27 ∨ q = 29 ∨ q = 30)) → ¬ (13 ≤ j ∧ j ≤ 17) → f_X7_layWinds S j q = S j q) := by
  obtain ⟨l1, l2⟩ := GS_ln h.1
  obtain ⟨m1, m2, m3⟩ := layWinds_m l1 l2 h.2.1
  exact ⟨Core_R h (fun j q hc => m3 _ _ (by rw [cry_iff] at hc; omega) (by rw [cry_iff] at hc; omega)) m2 (m3 _ _ (by omega) (by omega)) (fun q => m3 _ _ (by omega) (by omega)) (fun j q h1 h2 => m3 _ _ (by omega) (by omega)), m1, m3⟩
/-- the own race gone on -/
theorem Core_fin {C S C' S' : Mem} {n s : Nat} (h : Core C S) (hn : n ≤ 4) (hs : s ≤ 400) (hX : RX none C' S' 13 1 n) (h2 : C' 13 2 = nI s) (h7 : S' 0 7 = nI s)
    (hC : ∀ j q, ¬ (j = 13 ∧ q = 2) → ¬ (19 ≤ j ∧ j ≤ 22) → ¬ (j = 4 ∧ 2 ≤ q ∧ q ≤ 4) → ¬ (j = 7 ∨ 68 ≤ j) → C' j q = C j q) (hW : ∃ ln, RW S ln (S 1) ∧ WL C' 1 ln (S 1) (S 0 4))
    (hR : ∀ j q, ¬ (j = 0 ∧ q = 7) → ¬ (6 ≤ j ∧ j ≤ 11) → ¬ (18 ≤ j ∧ j ≤ 19) → S' j q = S j q) : Core C' S' := by
  obtain ⟨⟨n', s', ln, x1, x2, x3, x4, x5, x6, x7, x8, x9⟩, e2, e3, e4⟩ := h
  obtain ⟨ln2, w1, w2⟩ := hW
  have hll : ln2 = ln := (nI_eq (by have := w1.1; omega) (by have := x6.1; omega)).mp (w1.2.1.symm.trans x6.2.1)
  subst hll
  have hrow : S' 1 = S 1 := by funext q; exact hR _ _ (by omega) (by omega) (by omega)
  have hl : lnO S' = lnO S := by unfold lnO; rw [hR _ _ (by omega) (by omega) (by omega)]
  refine ⟨⟨n, s, ln2, hn, hX, h2, h7, hs, ⟨x6.1, by rw [hR _ _ (by omega) (by omega) (by omega)]; exact x6.2.1, fun _ _ => rfl⟩, by rw [hrow]; exact x7, by rw [hrow, hR 0 4 (by omega) (by omega) (by omega)]; exact w2, ?_⟩, ?_, ⟨?_, fun g => ?_⟩, fun d hd => SH_of (e4 d hd) (fun j q p => hC _ _ (by omega) (by omega) (by omega) (by omega)) (fun j p1 p2 => hR _ _ (by omega) (by omega) (by omega)) (fun k hk => hR _ _ (by omega) (by omega) (by omega))⟩
  · obtain ⟨r1, r2⟩ := x9
    exact ⟨by rw [hR _ _ (by omega) (by omega) (by omega)]; exact r1, by rw [hR _ _ (by omega) (by omega) (by omega)]; exact r2⟩
  · rw [hl, hrow]; exact WI_of e2 (hR _ _ (by omega) (by omega) (by omega)) (hR _ _ (by omega) (by omega) (by omega)) (fun q => hR _ _ (by omega) (by omega) (by omega))
  · rw [hC _ _ (by omega) (by omega) (by omega) (by omega), hR _ _ (by omega) (by omega) (by omega)]; exact e3.1
  · rw [hR _ _ (by omega) (by omega) (by omega)] at g
    exact GS_C (GS_R (e3.2 g) (fun j q hc => hR 21 _ (by omega) (by omega) (by omega))) (fun j q hc => hC _ _ (by unfold cel at hc; omega) (by unfold cel at hc; omega) (by unfold cel at hc; omega) (by unfold cel at hc; omega))
theorem sim_go : S_go Core := by
  intro C R a hC _ _
  have h19 := Core_19 hC 0
  unfold f_X6_go f_X7_go
  simp only [bnd_nr]
  generalize up2 R 0 19 0 = S at h19 ⊢
  have hi := inz (a := a) (lo := 1) (hi := 100)
  rw [show (1 : Int64).toInt = 1 by decide, show (100 : Int64).toInt = 100 by decide] at hi
  by_cases c1 : a < 1
  · rw [if_pos c1]; rw [lt_i, k1] at c1
    rw [if_neg (not_not_intro (hi.mpr (fun q => by omega)))]; exact ⟨rfl, h19⟩
  · rw [if_neg c1]; rw [lt_i, k1] at c1
    by_cases c2 : a ≤ 100
    · rw [if_pos c2]; rw [le_i, show (100 : Int32).toInt = 100 by decide] at c2
      rw [if_pos (fun q => hi.mp q (by omega))]
      obtain ⟨n, s, ln, x1, x2, x3, x4, x5, x6, x7, x8, x9⟩ := id h19.1
      have hn0 : C 13 1 = 0 ↔ n = 0 := by rw [x2.1]; exact nI_eq (b := 0) (by omega) (by omega)
      have hm0 : S 0 8 = 0 ↔ n = 0 := by rw [x2.2.1]; exact nI_eq (b := 0) (by omega) (by omega)
      by_cases c3 : n = 0
      · rw [if_pos (hn0.mpr c3), if_pos (hm0.mpr c3)]; exact ⟨rfl, h19⟩
      · rw [if_neg (fun q => c3 (hn0.mp q)), if_neg (fun q => c3 (hm0.mp q))]
        have e1 := ended_C (geo1 x1) x2 x3 x5 (by omega)
        have e2 := ended_M x1 x2.2.1 (RX_in x2) x4 x5
        by_cases hgo : going S n s
        · rw [if_pos (e1.mpr hgo), if_pos (e2.mpr hgo)]
          obtain ⟨N, hN, rfl⟩ := of_rng (x := a) (N := 100) (by omega) (by omega)
          obtain ⟨m1, m2, m3⟩ := Core_lay h19
          obtain ⟨n', s', ln', z1, z2, z3, z4, z5, z6, z7, z8, z9⟩ := id m1.1
          have hnn : n' = n := by
            have := z2.1.symm.trans x2.1
            exact (nI_eq (by omega) (by omega)).mp this
          subst hnn
          have hll : ln' = lnO S := by
            unfold lnO; rw [← m3 0 5 (by omega) (by omega), z6.2.1, nI_clamp (by have := z6.1; omega)]
          have hrun : RUN none C (f_X7_layWinds S) 13 1 n' s' ln' (f_X7_layWinds S 1) (f_X7_layWinds S 0 4) := ⟨z2, z3, z4, z5, z8, z7, fun q hq => by
            rw [m2 q hq, hll, m3 0 4 (by omega) (by omega)]
            exact (Wv_congr (by rw [← hll]; exact z6.1) (fun j hj => m3 _ _ (by omega) (by omega)) (GS_ln h19.1).2 _ _).symm⟩
          have efu : ((nI N).toInt - 0).toNat + 1 = N + 1 := by rw [nI_toInt (by omega)]; omega
          obtain ⟨s2, r1, r2, r3⟩ := go_sim (ln := ln') (t := f_X7_layWinds S 1) (sd := f_X7_layWinds S 0 4) (geo1 z1) (show 0 < n' by omega) (show N < 2 ^ 31 by omega) (C := C) (R := f_X7_layWinds S) (s := s') N 0 (N + 1) (N + 1) C (f_X7_layWinds S) s' (by omega) (by omega) (by omega) hrun
          unfold f_X3_goOn
          simp only [bnd_nr]
          rw [efu, show (0 : Int32) = nI 0 from rfl]
          generalize lp_X3_goOn_2 (N + 1) 13 1 (nI N) C (nI 0) = C2 at r1 r2 ⊢
          generalize lp_X7_go_42 (N + 1) (nI N) (f_X7_layWinds S) (nI 0) = S2 at r1 r3 ⊢
          obtain ⟨t1, t2, t3, t4, t5, t6, t7⟩ := r1
          refine ⟨t2.trans t3.symm, ?_⟩
          obtain ⟨⟨q1, q2, q3, q4, q5, q6, q7, q8, q9, q10, q11, q12⟩, p2, p3, p4⟩ := m1
          have hrow : S2 1 = f_X7_layWinds S 1 := by funext q; exact r3 _ _ (by omega) (by omega) (by omega) (by omega)
          refine Core_fin ⟨⟨q1, q2, q3, q4, q5, q6, q7, q8, q9, q10, q11, q12⟩, p2, p3, p4⟩ z1 t4 t1 t2 t3 (fun j q a1 a2 a3 a4 => r2 j q (by omega) (by omega) a3 (by omega)) ⟨ln', ?_, t5⟩ (fun j q a1 a2 a3 => r3 j q (by omega) (by omega) (by omega) (by omega))
          exact z6
        · rw [if_neg (fun q => hgo (e1.mp q)), if_neg (fun q => hgo (e2.mp q))]; exact ⟨rfl, h19⟩
    · rw [if_neg c2]; rw [le_i, show (100 : Int32).toInt = 100 by decide] at c2
      rw [if_neg (not_not_intro (hi.mpr (fun q => by omega)))]; exact ⟨rfl, h19⟩
