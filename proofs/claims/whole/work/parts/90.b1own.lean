/-! count, boat, set, go -/
theorem count_lp {C S : Mem} {n : Nat} (x1 : n ≤ 4) (x2 : RX none C S 13 1 n) (hb : ∀ i, i < n → (b01 (C (4 * (13 + 3) - 45 + i) 9) = 0 ↔ ¬ BAD S n i)) : ∀ (c k f1 f2 f3 f4 : Nat) (u v w : Int32), c + k = n → c < f1 → c < f2 → c < f3 → c < f4 →
    lp_X7_count_15 f1 S u v w (nI k) = (lp_X3_howManyIn_4 f2 C 13 u (nI k), lp_X3_allTurns_4 f3 C 13 v (nI k), lp_X3_howManyInBadAir_8 f4 13 C w (nI k)) := by
  intro c
  induction c with
  | zero =>
    intro k f1 f2 f3 f4 u v w hk h1 h2 h3 h4
    obtain ⟨f1, rfl⟩ : ∃ x, f1 = x + 1 := ⟨f1 - 1, by omega⟩
    obtain ⟨f2, rfl⟩ : ∃ x, f2 = x + 1 := ⟨f2 - 1, by omega⟩
    obtain ⟨f3, rfl⟩ : ∃ x, f3 = x + 1 := ⟨f3 - 1, by omega⟩
    obtain ⟨f4, rfl⟩ : ∃ x, f4 = x + 1 := ⟨f4 - 1, by omega⟩
    obtain rfl : k = n := by omega
    rw [lp_X7_count_15, lp_X3_howManyIn_4, lp_X3_allTurns_4, lp_X3_howManyInBadAir_8, x2.1, x2.2.1, if_pos (nIstop x1), if_pos (nIstop x1), if_pos (nIstop x1), if_pos (nIstop x1)]
  | succ c ih =>
    intro k f1 f2 f3 f4 u v w hk h1 h2 h3 h4
    obtain ⟨f1, rfl⟩ : ∃ x, f1 = x + 1 := ⟨f1 - 1, by omega⟩
    obtain ⟨f2, rfl⟩ : ∃ x, f2 = x + 1 := ⟨f2 - 1, by omega⟩
    obtain ⟨f3, rfl⟩ : ∃ x, f3 = x + 1 := ⟨f3 - 1, by omega⟩
    obtain ⟨f4, rfl⟩ : ∃ x, f4 = x + 1 := ⟨f4 - 1, by omega⟩
    rw [lp_X7_count_15, lp_X3_howManyIn_4, lp_X3_allTurns_4, lp_X3_howManyInBadAir_8, x2.1, x2.2.1, if_neg (nIgo x1 (by omega)), if_neg (nIgo x1 (by omega)), if_neg (nIgo x1 (by omega)), if_neg (nIgo x1 (by omega)), if_neg (nI4 (by omega)), if_neg (nI4 (by omega)), if_neg (nI4 (by omega))]
    simp only [bnd_nr]
    rw [nI_1, nI_clamp (by omega), ih (k + 1) f1 f2 f3 f4 _ _ _ (by omega) (by omega) (by omega) (by omega) (by omega)]
    have hB := (x2.2.2.2 k (by omega)).1
    have ei := isBad_iff x1 x2.2.1 (show k < n by omega) (RX_in x2)
    have ek := hb k (by omega)
    have m := isInM (R := S) (i := k) (by omega) hB.2.2.2.2.2.2.2
    have xc := isInC (C := C) (b := 4 * (13 + 3) - 45 + k)
    rw [hB.2.2.2.2.1] at xc
    have q1 : (if f_X7_isIn S (nI k) = 0 then (0 : Int32) else 1) = if f_X1_isIn C (4 * (13 + 3) - 45 + k) = 0 then 0 else 1 := by
      by_cases h : S 10 k = -4
      · rw [if_pos (m.mpr h), if_pos (xc.mpr h)]
      · rw [if_neg (fun q => h (m.mp q)), if_neg (fun q => h (xc.mp q))]
    have q2 : (if f_X7_isBad S (nI k) = 0 then (0 : Int32) else 1) = if b01 (C (4 * (13 + 3) - 45 + k) 9) = 0 then 0 else 1 := by
      by_cases h : BAD S n k
      · rw [if_neg (fun q => ei.mp q h), if_neg (fun q => ek.mp q h)]
      · rw [if_pos (ei.mpr h), if_pos (ek.mpr h)]
    rw [q1, q2, hB.2.2.2.2.2.1]
theorem sim_count : S_count Core := by
  intro C R a hC _ _
  have h19 := Core_19 hC 0
  unfold f_X6_count f_X7_count
  simp only [bnd_nr, bnd2_nr, bnd3_nr]
  generalize up2 R 0 19 0 = S at h19 ⊢
  obtain ⟨n, s, ln, x1, x2, x3, x4, x5, x6, x7, x8, x9⟩ := h19.1
  have hT := Core_tell h19 (geo1 x1) x2
  obtain ⟨t1, t2⟩ := tell_ok (geo1 x1) x2
  have hX2 : RX none (f_X3_tellBadAir C 13) S 13 1 n := RX_C (geo1 x1) x2 (fun j q h1 h2 h3 h4 => t1 j q (by omega))
  have key := count_lp x1 hX2 t2 n 0 5 5 5 5 0 0 0 (by omega) (by omega) (by omega) (by omega) (by omega)
  rw [show nI 0 = (0 : Int32) from rfl] at key
  -- what doesn't hang on the telling
  have l1 : ∀ (f : Nat) (v w : Int32), lp_X3_howManyIn_4 f (f_X3_tellBadAir C 13) 13 v w = lp_X3_howManyIn_4 f C 13 v w := by
    intro f
    induction f with
    | zero => intro v w; rfl
    | succ f ih =>
      intro v w
      rw [lp_X3_howManyIn_4, lp_X3_howManyIn_4, t1 _ _ (by omega)]
      by_cases c1 : C 13 1 ≤ w
      · rw [if_pos c1, if_pos c1]
      · rw [if_neg c1, if_neg c1]
        by_cases c2 : 4 ≤ w
        · rw [if_pos c2, if_pos c2]
        · rw [if_neg c2, if_neg c2]
          simp only [bnd_nr]
          have : f_X1_isIn (f_X3_tellBadAir C 13) (4 * (13 + 3) - 45 + w.toNatClampNeg) = f_X1_isIn C (4 * (13 + 3) - 45 + w.toNatClampNeg) := by
            unfold f_X1_isIn; rw [t1 _ _ (by omega)]
          rw [this, ih]
  have l2 : ∀ (f : Nat) (v w : Int32), lp_X3_allTurns_4 f (f_X3_tellBadAir C 13) 13 v w = lp_X3_allTurns_4 f C 13 v w := by
    intro f
    induction f with
    | zero => intro v w; rfl
    | succ f ih =>
      intro v w
      rw [lp_X3_allTurns_4, lp_X3_allTurns_4, t1 _ _ (by omega)]
      by_cases c1 : C 13 1 ≤ w
      · rw [if_pos c1, if_pos c1]
      · rw [if_neg c1, if_neg c1]
        by_cases c2 : 4 ≤ w
        · rw [if_pos c2, if_pos c2]
        · rw [if_neg c2, if_neg c2]
          simp only [bnd_nr]
          rw [t1 _ _ (by omega), ih]
  rw [l1, l2] at key
  rw [key]
  dsimp only
  unfold f_X3_howManyIn f_X3_allTurns f_X3_howManyInBadAir
  simp only [bnd_nr]
  by_cases c0 : a = 0
  · rw [if_pos c0, if_pos c0]; exact ⟨x2.1.trans x2.2.1.symm, h19⟩
  · rw [if_neg c0, if_neg c0]
    by_cases c1 : a = 1
    · rw [if_pos c1, if_pos c1]; exact ⟨x3.trans x4.symm, h19⟩
    · rw [if_neg c1, if_neg c1]
      by_cases c2 : a = 2
      · rw [if_pos c2, if_pos c2]; exact ⟨rfl, h19⟩
      · rw [if_neg c2, if_neg c2]
        by_cases c3 : a = 3
        · rw [if_pos c3, if_pos c3]; exact ⟨rfl, h19⟩
        · rw [if_neg c3, if_neg c3]
          by_cases c4 : a = 4
          · rw [if_pos c4, if_pos c4]; exact ⟨rfl, hT⟩
          · rw [if_neg c4, if_neg c4]
            by_cases c5 : a = 5
            · rw [if_pos c5, if_pos c5]; exact ⟨x2.2.2.1.1, h19⟩
            · rw [if_neg c5, if_neg c5]; exact ⟨rfl, h19⟩
/-! a boat comes to the start -/
theorem inBay_iff {x : Int32} : f_X6_isInBay x = 0 ↔ ¬ bx x := by
  unfold f_X6_isInBay bx
  simp only [bnd_nr]
  by_cases h1 : x < -200
  · rw [if_pos h1]; rw [lt_i, km200] at h1; exact ⟨fun _ q => by omega, fun _ => rfl⟩
  · rw [if_neg h1]; rw [lt_i, km200] at h1
    by_cases h2 : 200 < x
    · rw [if_pos h2]; rw [lt_i, k200] at h2; exact ⟨fun _ q => by omega, fun _ => rfl⟩
    · rw [if_neg h2]; rw [lt_i, k200] at h2; exact ⟨fun q => absurd q (by decide), fun q => by omega⟩
theorem isPlace_iff {x : Int32} : f_X7_isPlace x = 0 ↔ ¬ bx x := by
  unfold f_X7_isPlace bx
  rw [inz, show (-200 : Int64).toInt = -200 by decide, show (200 : Int64).toInt = 200 by decide]
theorem WY_of {w : Int32} (h : w = 0 ∨ w = 1) : WY w (if w = 0 then -1 else 1) := by
  rcases h with rfl | rfl
  · exact Or.inr ⟨rfl, rfl⟩
  · exact Or.inl ⟨rfl, rfl⟩
/-- one enters: the class -/
theorem enter_ok {C : Mem} {o n : Nat} {kd x rt fg : Int32} (ho : 13 ≤ o ∧ o ≤ 15) (hn : n < 4) (h1 : C o 1 = nI n) : (f_X3_enter C o kd x rt fg).1 = nI n ∧ (f_X3_enter C o kd x rt fg).2 = up2 (f_X1_beginAnew (up2 (up2 (up2 (up2 (up2 C (4 * (o + 3) - 45 + n + 12) 0 kd) (4 * (o + 3) - 45 + n + 12) 1 fg) (4 * (o + 3) - 45 + n + 12) 2 (nI n)) (4 * (o + 3) - 45 + n) 1 x) (4 * (o + 3) - 45 + n) 2 rt) (4 * (o + 3) - 45 + n)) o 1 (nI (n + 1)) := by
  unfold f_X3_enter f_X1_comeToStart f_X4_become
  have hf : f_X3_isFull C o = 0 := by
    unfold f_X3_isFull
    simp only [bnd_nr]
    rw [h1, if_pos (show nI n < (4 : Int32) from nI_lt (b := 4) hn (by decide))]
  rw [h1, if_neg (nI_pos (by omega)), if_pos hf, nI_clamp (by omega)]
  simp only [bnd_nr, bnd2_nr]
  have e1 : f_X1_beginAnew (up2 (up2 (up2 (up2 (up2 C (4 * (o + 3) - 45 + n + 12) 0 kd) (4 * (o + 3) - 45 + n + 12) 1 fg) (4 * (o + 3) - 45 + n + 12) 2 (nI n)) (4 * (o + 3) - 45 + n) 1 x) (4 * (o + 3) - 45 + n) 2 rt) (4 * (o + 3) - 45 + n) o 1 = nI n := by
    rw [anew1_fr (by omega), up2_n _ _ (by omega), up2_n _ _ (by omega), up2_n _ _ (by omega), up2_n _ _ (by omega), up2_n _ _ (by omega), h1]
  rw [e1, nI_1]
  refine ⟨?_, rfl⟩
  rw [up2_n _ _ (by omega), anew1_fr (by omega), up2_n _ _ (by omega), up2_n _ _ (by omega), up2_s]
theorem enter_fr {C : Mem} {o n : Nat} {kd x rt fg : Int32} (ho : 13 ≤ o ∧ o ≤ 15) (hn : n < 4) (h1 : C o 1 = nI n) {j q : Nat} (hj : ¬ (j = o ∧ q = 1)) (hj2 : ¬ j = 4 * (o + 3) - 45 + n) (hj3 : ¬ j = 4 * (o + 3) - 45 + n + 12) : (f_X3_enter C o kd x rt fg).2 j q = C j q := by
  rw [(enter_ok ho hn h1).2, up2_n _ _ hj, anew1_fr (by omega), up2_n _ _ (by omega), up2_n _ _ (by omega), up2_n _ _ (by omega), up2_n _ _ (by omega), up2_n _ _ (by omega)]
theorem enter_BS {C S : Mem} {o n : Nat} {kd x rt fg : Int32} (ho : 13 ≤ o ∧ o ≤ 15) (hn : n < 4) (h1 : C o 1 = nI n) (hx : bx x) (hr : rt = 0 ∨ rt = 1) (s3 : S 3 n = x) (s4 : S 4 n = if rt = 0 then -1 else 1) :
    BX (f_X3_enter C o kd x rt fg).2 (f_X7_begin S (nI n)) (4 * (o + 3) - 45 + n) n ∧ BS (f_X3_enter C o kd x rt fg).2 (f_X7_begin S (nI n)) (4 * (o + 3) - 45 + n) n ∧ (f_X3_enter C o kd x rt fg).2 (4 * (o + 3) - 45 + n + 12) 0 = kd ∧ (f_X3_enter C o kd x rt fg).2 (4 * (o + 3) - 45 + n + 12) 1 = fg := by
  rw [(enter_ok ho hn h1).2]
  generalize hM : up2 (up2 (up2 (up2 (up2 C (4 * (o + 3) - 45 + n + 12) 0 kd) (4 * (o + 3) - 45 + n + 12) 1 fg) (4 * (o + 3) - 45 + n + 12) 2 (nI n)) (4 * (o + 3) - 45 + n) 1 x) (4 * (o + 3) - 45 + n) 2 rt = M
  have m1 : M (4 * (o + 3) - 45 + n) 1 = x := by rw [← hM, up2_n _ _ (by omega), up2_s]
  have m2 : M (4 * (o + 3) - 45 + n) 2 = rt := by rw [← hM, up2_s]
  have m3 : M (4 * (o + 3) - 45 + n + 12) 2 = nI n := by rw [← hM, up2_n _ _ (by omega), up2_n _ _ (by omega), up2_s]
  have m4 : M (4 * (o + 3) - 45 + n + 12) 0 = kd := by rw [← hM, up2_n _ _ (by omega), up2_n _ _ (by omega), up2_n _ _ (by omega), up2_n _ _ (by omega), up2_s]
  have m5 : M (4 * (o + 3) - 45 + n + 12) 1 = fg := by rw [← hM, up2_n _ _ (by omega), up2_n _ _ (by omega), up2_n _ _ (by omega), up2_s]
  have hS0 : BS M S (4 * (o + 3) - 45 + n) n := ⟨m1.trans s3.symm, by rw [m2, s4]; exact WY_of hr, by rw [s3]; exact hx, m3⟩
  refine ⟨BX_of (begin_sim hn hS0) (fun q p1 p2 => up2_n _ _ (by omega)) (fun _ _ _ => rfl), BS_of hS0 (fun q p1 p2 => ?_) ?_ (fun j p1 p2 => begin_fr hn (by omega)), ?_, ?_⟩
  · rw [up2_n _ _ (by omega), anew1_fr (by omega)]
  · rw [up2_n _ _ (by omega), anew1_fr (by omega)]
  · rw [up2_n _ _ (by omega), anew1_fr (by omega)]; exact m4
  · rw [up2_n _ _ (by omega), anew1_fr (by omega)]; exact m5
/-- a boat more in both -/
theorem RX_more {g : Option Nat} {C S C' S' : Mem} {o a n : Nat} (ho : 13 ≤ o ∧ o ≤ 15) (ha : 1 ≤ a ∧ a ≤ 3) (hn : n < 4) (h : RX g C S o a n) (c1 : C' o 1 = nI (n + 1)) (c2 : S' 0 8 = nI (n + 1)) (hC : ∀ j q, ¬ (j = o ∧ q = 1) → ¬ j = 4 * (o + 3) - 45 + n → ¬ j = 4 * (o + 3) - 45 + n + 12 → C' j q = C j q)
    (hS : ∀ j q, ¬ (j = 0 ∧ q = 8) → ¬ (q = n ∧ (2 ≤ j ∧ j ≤ 11 ∨ j = 22)) → S' j q = S j q) (hb : BX C' S' (4 * (o + 3) - 45 + n) n ∧ BS C' S' (4 * (o + 3) - 45 + n) n ∧ KK g C' S' (4 * (o + 3) - 45 + n) n) : RX g C' S' o a (n + 1) := by
  obtain ⟨e1, e2, e3, e4⟩ := h
  refine ⟨c1, c2, BY_of e3 (fun q hq => hC _ _ (by omega) (by omega) (by omega)) (fun q hq => hS _ _ (by omega) (by omega)), fun i hi => ?_⟩
  by_cases e : i = n
  · subst e; exact hb
  · obtain ⟨b1, b2, b3⟩ := e4 i (by omega)
    exact ⟨BX_of b1 (fun q p1 p2 => hC _ _ (by omega) (by omega) (by omega)) (fun j p1 p2 => hS _ _ (by omega) (by omega)), BS_of b2 (fun q p1 p2 => hC _ _ (by omega) (by omega) (by omega)) (hC _ _ (by omega) (by omega) (by omega)) (fun j p1 p2 => hS _ _ (by omega) (by omega)),
      KK_of b3 (fun q p => hC _ _ (by omega) (by omega) (by omega)) (fun j p => hS _ _ (by omega) (by omega)) (hS _ _ (by omega) (by omega))⟩
theorem sim_boat : S_boat Core := by
  intro C R a1 a2 a3 a4 hC _ _ hr
  have h19 := Core_19 hC 0
  unfold f_X6_boat f_X7_boat
  simp only [bnd_nr, bnd2_nr]
  generalize up2 R 0 19 0 = S at h19 ⊢
  obtain ⟨n, s, ln, x1, x2, x3, x4, x5, x6, x7, x8, x9⟩ := h19.1
  rcases in_case a1 7 (by omega) 7 (by decide) with ⟨g1, g2⟩ | ⟨g1, k, hk, rfl⟩
  · rw [if_pos g1]
    rcases g2 with g2 | g2
    · rw [if_pos g2]; exact ⟨rfl, h19⟩
    · rw [le_i, nI_toInt (by omega)] at g2
      rw [if_neg (show ¬ a1 < 0 by rw [lt_i, k0]; omega), if_pos (show 7 < a1 by rw [lt_i, show (7 : Int32).toInt = 7 by decide]; omega)]; exact ⟨rfl, h19⟩
  · rw [if_neg g1, if_neg (nI_pos (by omega)), if_neg (show ¬ (7 : Int32) < nI k from nI_nlt (a := 7) hk (by decide))]
    by_cases hx : bx a2
    · rw [if_neg (fun q => inBay_iff.mp q hx), if_neg (fun q => isPlace_iff.mp q hx)]
      rcases in_case a4 40 (by omega) 40 (by decide) with ⟨f1, f2⟩ | ⟨f1, fg, hf, rfl⟩
      · rw [if_neg (not_not_intro f1)]
        rcases f2 with f2 | f2
        · rw [if_pos f2]; exact ⟨rfl, h19⟩
        · rw [le_i, nI_toInt (by omega)] at f2
          rw [if_neg (show ¬ a4 < 0 by rw [lt_i, k0]; omega), if_neg (show ¬ a4 ≤ 40 by rw [le_i, show (40 : Int32).toInt = 40 by decide]; omega)]; exact ⟨rfl, h19⟩
      · rw [if_pos f1, if_neg (nI_pos (by omega)), if_pos (show nI fg ≤ (40 : Int32) from nI_le (b := 40) hf (by decide))]
        have hfull : f_X3_isFull C 13 = 0 ↔ n < 4 := by
          unfold f_X3_isFull
          simp only [bnd_nr]
          rw [x2.1]
          by_cases c : n < 4
          · rw [if_pos (show nI n < (4 : Int32) from nI_lt (b := 4) c (by decide))]; exact ⟨fun _ => c, fun _ => rfl⟩
          · rw [if_neg (show ¬ nI n < (4 : Int32) from nI_nlt (b := 4) (by omega) (by omega))]; exact ⟨fun q => absurd q (by decide), fun q => absurd q c⟩
        have h84 : S 0 8 = 4 ↔ n = 4 := by rw [x2.2.1]; exact nI_eq (b := 4) (by omega) (by omega)
        by_cases c : n < 4
        · have n84 : ¬ S 0 8 = 4 := fun q => by have := h84.mp q; omega
          rw [if_pos (hfull.mpr c), if_neg n84]
          have h2 : C 13 2 ≤ 0 ↔ s = 0 := by rw [x3]; exact (nI_leI (b := 0) (by omega) (by omega)).trans (by omega)
          have h7 : S 0 7 ≤ 0 ↔ s = 0 := by rw [x4]; exact (nI_leI (b := 0) (by omega) (by omega)).trans (by omega)
          by_cases cs : s = 0
          · rw [if_pos (h2.mpr cs), if_pos (h7.mpr cs)]
            obtain ⟨n1, _⟩ := enter_ok (kd := nI k) (x := a2) (rt := a3) (fg := nI fg) (o := 13) (by omega) c x2.1
            have e8 : ∀ j q, ¬ (j = 0) → ∀ v, up2 S j q v 0 8 = nI n := fun j q hj v => by rw [up2_n _ _ (by omega)]; exact x2.2.1
            -- the reference's rows
            have r1 : (up2 S 2 (S 0 8).toNatClampNeg (nI k)) 0 8 = nI n := by rw [up2_n _ _ (by omega)]; exact x2.2.1
            have cl : (S 0 8).toNatClampNeg = n := by rw [x2.2.1, nI_clamp (by omega)]
            rw [cl]
            have cl2 : (up2 S 2 n (nI k) 0 8).toNatClampNeg = n := by rw [up2_n _ _ (by omega)]; exact cl
            rw [cl2]
            have cl3 : (up2 (up2 S 2 n (nI k)) 3 n a2 0 8).toNatClampNeg = n := by rw [up2_n _ _ (by omega)]; exact cl2
            rw [cl3]
            have cl4 : (up2 (up2 (up2 S 2 n (nI k)) 3 n a2) 4 n (if a3 = 0 then -1 else 1) 0 8).toNatClampNeg = n := by rw [up2_n _ _ (by omega)]; exact cl3
            rw [cl4]
            generalize hS1 : up2 (up2 (up2 (up2 S 2 n (nI k)) 3 n a2) 4 n (if a3 = 0 then -1 else 1)) 5 n (nI fg) = S1
            have s8 : S1 0 8 = nI n := by rw [← hS1, up2_n _ _ (by omega), up2_n _ _ (by omega), up2_n _ _ (by omega), up2_n _ _ (by omega)]; exact x2.2.1
            have s3 : S1 3 n = a2 := by rw [← hS1, up2_n _ _ (by omega), up2_n _ _ (by omega), up2_s]
            have s4 : S1 4 n = if a3 = 0 then -1 else 1 := by rw [← hS1, up2_n _ _ (by omega), up2_s]
            have s2 : S1 2 n = nI k := by rw [← hS1, up2_n _ _ (by omega), up2_n _ _ (by omega), up2_n _ _ (by omega), up2_s]
            have s5 : S1 5 n = nI fg := by rw [← hS1, up2_s]
            have sfr : ∀ j q, ¬ (q = n ∧ 2 ≤ j ∧ j ≤ 5) → S1 j q = S j q := fun j q p => by rw [← hS1, up2_n _ _ (by omega), up2_n _ _ (by omega), up2_n _ _ (by omega), up2_n _ _ (by omega)]
            rw [s8]
            obtain ⟨b1, b2, b3, b4⟩ := enter_BS (C := C) (S := S1) (kd := nI k) (fg := nI fg) (o := 13) (by omega) c x2.1 hx hr s3 s4
            have cfr := fun j q => @enter_fr C 13 n (nI k) a2 a3 (nI fg) (by omega) c x2.1 j q
            have c11 : (f_X3_enter C 13 (nI k) a2 a3 (nI fg)).2 13 1 = nI (n + 1) := by rw [(enter_ok (by omega) c x2.1).2, up2_s]
            have bfr := fun j q => @begin_fr S1 n c j q
            have b08 : f_X7_begin S1 (nI n) 0 8 = nI n := by rw [bfr _ _ (by omega)]; exact s8
            rw [b08, nI_1, up2_s, nI_pred]
            refine ⟨n1, ?_⟩
            dsimp only
            generalize (f_X3_enter C 13 (nI k) a2 a3 (nI fg)).2 = C2 at b1 b2 b3 b4 cfr c11 ⊢
            generalize f_X7_begin S1 (nI n) = S2 at b1 b2 bfr ⊢
            have hX : RX none C2 (up2 S2 0 8 (nI (n + 1))) 13 1 (n + 1) := RX_more (by omega) (by omega) c x2 c11 (up2_s _ _ _ _) (fun j q p1 p2 p3 => cfr j q p1 p2 p3) (fun j q p1 p2 => by rw [up2_n _ _ p1, bfr _ _ (by omega), sfr _ _ (by omega)])
              ⟨BX_of b1 (fun _ _ _ => rfl) (fun j p1 p2 => up2_n _ _ (by omega)), BS_of b2 (fun _ _ _ => rfl) rfl (fun j p1 p2 => up2_n _ _ (by omega)), by
                refine ⟨by rw [b3, up2_n _ _ (by omega), bfr _ _ (by omega), s2], by rw [b4, up2_n _ _ (by omega), bfr _ _ (by omega), s5], ?_, ?_⟩
                · rw [up2_n _ _ (by omega), bfr _ _ (by omega), s2, nI_toInt (by omega)]; omega
                · rw [up2_n _ _ (by omega), bfr _ _ (by omega), s5, nI_toInt (by omega)]; omega⟩
            refine Core_own h19 (by omega) x5 hX (by rw [cfr _ _ (by omega) (by omega) (by omega)]; exact x3) (by rw [up2_n _ _ (by omega), bfr _ _ (by omega), sfr _ _ (by omega)]; exact x4) (fun j q p1 p2 p3 p4 p5 => cfr j q (by omega) (by omega) (by omega)) (fun ln t sd _ h => WL_of h (cfr _ _ (by omega) (by omega) (by omega)) (fun q => cfr _ _ (by omega) (by omega) (by omega)) (cfr _ _ (by omega) (by omega) (by omega)) (fun q => cfr _ _ (by omega) (by omega) (by omega))) (fun j q p1 p2 p3 => by rw [up2_n _ _ (by omega), bfr _ _ (by omega), sfr _ _ (by omega)])
          · rw [if_neg (fun q => cs (h2.mp q)), if_neg (fun q => cs (h7.mp q)), if_pos n84]; exact ⟨rfl, h19⟩
        · have c4 : n = 4 := by omega
          rw [if_neg (fun q => c (hfull.mp q)), if_pos (h84.mpr c4), if_neg (not_not_intro (h84.mpr c4))]; exact ⟨rfl, h19⟩
    · rw [if_pos (inBay_iff.mpr hx), if_pos (isPlace_iff.mpr hx)]; exact ⟨rfl, h19⟩
