/-! taking races and bays over -/
theorem lawTake_ok {M : Mem} {o a n : Nat} {t : Nat → Int32} (ho : 4 ≤ o ∧ o ≤ 6) (ha : 4 ≤ a ∧ a ≤ 6) (hne : ¬ o = a) (hW : LW M a n t) : LW (f_X2_take M o a) o n t ∧ ∀ j q, ¬ (j = o ∧ q = 1) → ¬ j = o + 6 → f_X2_take M o a j q = M j q := by
  obtain ⟨e1, S, e2, e3, e4, e5⟩ := hW
  have e : f_X2_take M o a = cpM (up2 M o 1 (nI S.length)) (a + 6) (o + 6) 0 0 (nI S.length) := by
    unfold f_X2_take
    simp only [bnd_nr]
    rw [e3, takeN e2, up2_s]
  rw [e]
  refine ⟨⟨e1, S, e2, by rw [cpM_o (by omega), up2_s], SK_congr S (fun j hj => ?_) e4, e5⟩, fun j q h1 h2 => by rw [cpM_o h2, up2_n _ _ h1]⟩
  rw [cpM_in e2 hj, up2_n _ _ (by omega)]
theorem bayTake_ok {C : Mem} {o a n : Nat} {t : Nat → Int32} {s : Int32} (ho : 1 ≤ o ∧ o ≤ 3) (ha : 1 ≤ a ∧ a ≤ 3) (hne : ¬ o = a) (hW : WL C a n t s) : WL (f_X0_take C o a) o n t s ∧ (∀ q, q ≤ 3 → f_X0_take C o a o q = C a q) ∧ ∀ j q, ¬ (j = o ∧ q ≤ 4) → ¬ (j = o + 3 ∧ q = 1) → ¬ j = o + 9 → ¬ j = o + 6 → f_X0_take C o a j q = C j q := by
  unfold f_X0_take
  simp only [bnd_nr]
  generalize hM : up2 (up2 (up2 (up2 (up2 C o 0 (C a 0)) o 1 (up2 C o 0 (C a 0) a 1)) o 2 (up2 (up2 C o 0 (C a 0)) o 1 (up2 C o 0 (C a 0) a 1) a 2)) o 3 (up2 (up2 (up2 C o 0 (C a 0)) o 1 (up2 C o 0 (C a 0) a 1)) o 2 (up2 (up2 C o 0 (C a 0)) o 1 (up2 C o 0 (C a 0) a 1) a 2) a 3)) o 4 (up2 (up2 (up2 (up2 C o 0 (C a 0)) o 1 (up2 C o 0 (C a 0) a 1)) o 2 (up2 (up2 C o 0 (C a 0)) o 1 (up2 C o 0 (C a 0) a 1) a 2)) o 3 (up2 (up2 (up2 C o 0 (C a 0)) o 1 (up2 C o 0 (C a 0) a 1)) o 2 (up2 (up2 C o 0 (C a 0)) o 1 (up2 C o 0 (C a 0) a 1) a 2) a 3) a 4) = M
  have m0 : M o 0 = C a 0 := by rw [← hM, up2_n _ _ (by omega), up2_n _ _ (by omega), up2_n _ _ (by omega), up2_n _ _ (by omega), up2_s]
  have m1 : M o 1 = C a 1 := by rw [← hM, up2_n _ _ (by omega), up2_n _ _ (by omega), up2_n _ _ (by omega), up2_s, up2_n _ _ (by omega)]
  have m2 : M o 2 = C a 2 := by rw [← hM, up2_n _ _ (by omega), up2_n _ _ (by omega), up2_s, up2_n _ _ (by omega), up2_n _ _ (by omega)]
  have m3 : M o 3 = C a 3 := by rw [← hM, up2_n _ _ (by omega), up2_s, up2_n _ _ (by omega), up2_n _ _ (by omega), up2_n _ _ (by omega)]
  have m4 : M o 4 = C a 4 := by rw [← hM, up2_s, up2_n _ _ (by omega), up2_n _ _ (by omega), up2_n _ _ (by omega), up2_n _ _ (by omega)]
  have mf : ∀ j q, ¬ (j = o ∧ q ≤ 4) → M j q = C j q := fun j q h => by rw [← hM, up2_n _ _ (by omega), up2_n _ _ (by omega), up2_n _ _ (by omega), up2_n _ _ (by omega), up2_n _ _ (by omega)]
  have w := LW_of (M' := M) hW.1 (mf _ _ (by omega)) (fun q => mf _ _ (by omega))
  obtain ⟨l1, l2⟩ := lawTake_ok (M := M) (o := o + 3) (a := a + 3) (by omega) (by omega) (by omega) w
  obtain ⟨f1, f2⟩ := fill_ok (M := f_X2_take M (o + 3) (a + 3)) (a := o + 6) (v := 100)
  have hA : nIA (o + 6) = 401 := by unfold nIA; rw [if_pos (by omega)]
  have fr : ∀ j q, ¬ (j = o + 3 ∧ q = 1) → ¬ j = o + 9 → ¬ j = o + 6 → f_J7_fill_53178 (f_X2_take M (o + 3) (a + 3)) (o + 6) 100 j q = M j q := fun j q h1 h2 h3 => by rw [f2 _ _ (Or.inl h3), l2 _ _ h1 (by omega)]
  refine ⟨⟨LW_of l1 (f2 _ _ (Or.inl (by omega))) (fun q => f2 _ _ (Or.inl (by omega))), ?_, fun q hq => Or.inl (f1 q (by omega))⟩, fun q hq => ?_, fun j q h1 h2 h3 h4 => by rw [fr _ _ h2 h3 h4, mf _ _ h1]⟩
  · rw [fr _ _ (by omega) (by omega) (by omega)]; exact m4.trans hW.2.1
  rw [fr _ _ (by omega) (by omega) (by omega)]
  have : q = 0 ∨ q = 1 ∨ q = 2 ∨ q = 3 := by omega
  rcases this with rfl | rfl | rfl | rfl
  · exact m0
  · exact m1
  · exact m2
  · exact m3
theorem take1_ok {C : Mem} {b b' : Nat} (hb : 19 ≤ b ∧ b ≤ 30) (hb' : 19 ≤ b' ∧ b' ≤ 30) (hne : ¬ b = b') : (∀ q, q = 1 ∨ q = 3 ∨ q = 4 ∨ q = 6 ∨ q = 7 ∨ q = 8 → f_X1_take C b b' b q = C b' q) ∧ f_X1_take C b b' b 2 = b01 (C b' 2) ∧ f_X1_take C b b' b 5 = b01 (C b' 5) ∧ (∀ q, q ≤ 2 → f_X1_take C b b' (b + 12) q = C (b' + 12) q) ∧ ∀ j q, ¬ (j = b ∧ 1 ≤ q ∧ q ≤ 8) → ¬ (j = b + 12 ∧ q ≤ 2) → f_X1_take C b b' j q = C j q := by
  unfold f_X1_take f_X4_become
  simp only [bnd_nr]
  generalize hM : up2 (up2 (up2 C (b + 12) 0 (C (b' + 12) 0)) (b + 12) 1 (C (b' + 12) 1)) (b + 12) 2 (C (b' + 12) 2) = M
  have mf : ∀ j q, ¬ (j = b + 12 ∧ q ≤ 2) → M j q = C j q := fun j q h => by rw [← hM, up2_n _ _ (by omega), up2_n _ _ (by omega), up2_n _ _ (by omega)]
  have ms : ∀ q, q ≤ 2 → M (b + 12) q = C (b' + 12) q := fun q hq => by
    have : q = 0 ∨ q = 1 ∨ q = 2 := by omega
    rcases this with rfl | rfl | rfl
    · rw [← hM, up2_n _ _ (by omega), up2_n _ _ (by omega), up2_s]
    · rw [← hM, up2_n _ _ (by omega), up2_s]
    · rw [← hM, up2_s]
  have m' : ∀ q, M b' q = C b' q := fun q => mf _ _ (by omega)
  refine ⟨fun q hq => ?_, ?_, ?_, fun q hq => ?_, fun j q h1 h2 => ?_⟩
  · rcases hq with rfl | rfl | rfl | rfl | rfl | rfl
    · rw [up2_n _ _ (by omega), up2_n _ _ (by omega), up2_n _ _ (by omega), up2_n _ _ (by omega), up2_n _ _ (by omega), up2_n _ _ (by omega), up2_n _ _ (by omega), up2_s, m']
    · rw [up2_n _ _ (by omega), up2_n _ _ (by omega), up2_n _ _ (by omega), up2_n _ _ (by omega), up2_n _ _ (by omega), up2_s, up2_n _ _ (by omega), up2_n _ _ (by omega), m']
    · rw [up2_n _ _ (by omega), up2_n _ _ (by omega), up2_n _ _ (by omega), up2_n _ _ (by omega), up2_s, up2_n _ _ (by omega), up2_n _ _ (by omega), up2_n _ _ (by omega), m']
    · rw [up2_n _ _ (by omega), up2_n _ _ (by omega), up2_s, up2_n _ _ (by omega), up2_n _ _ (by omega), up2_n _ _ (by omega), up2_n _ _ (by omega), up2_n _ _ (by omega), m']
    · rw [up2_n _ _ (by omega), up2_s, up2_n _ _ (by omega), up2_n _ _ (by omega), up2_n _ _ (by omega), up2_n _ _ (by omega), up2_n _ _ (by omega), up2_n _ _ (by omega), m']
    · rw [up2_s, up2_n _ _ (by omega), up2_n _ _ (by omega), up2_n _ _ (by omega), up2_n _ _ (by omega), up2_n _ _ (by omega), up2_n _ _ (by omega), up2_n _ _ (by omega), m']
  · rw [up2_n _ _ (by omega), up2_n _ _ (by omega), up2_n _ _ (by omega), up2_n _ _ (by omega), up2_n _ _ (by omega), up2_n _ _ (by omega), up2_s, up2_n _ _ (by omega), m']
  · rw [up2_n _ _ (by omega), up2_n _ _ (by omega), up2_n _ _ (by omega), up2_s, up2_n _ _ (by omega), up2_n _ _ (by omega), up2_n _ _ (by omega), up2_n _ _ (by omega), m']
  · rw [up2_n _ _ (by omega), up2_n _ _ (by omega), up2_n _ _ (by omega), up2_n _ _ (by omega), up2_n _ _ (by omega), up2_n _ _ (by omega), up2_n _ _ (by omega), up2_n _ _ (by omega)]; exact ms q hq
  · rw [up2_n _ _ (by omega), up2_n _ _ (by omega), up2_n _ _ (by omega), up2_n _ _ (by omega), up2_n _ _ (by omega), up2_n _ _ (by omega), up2_n _ _ (by omega), up2_n _ _ (by omega)]; exact mf _ _ h2
/-- all that a race taken over is -/
theorem raceTake_ok {C : Mem} {o p : Nat} (ho : 13 ≤ o ∧ o ≤ 15) (hp : 13 ≤ p ∧ p ≤ 15) (hne : ¬ o = p) :
    f_X3_take C o p o 1 = C p 1 ∧ f_X3_take C o p o 2 = C p 2 ∧ (∀ i, i < 4 → (∀ q, q = 1 ∨ q = 3 ∨ q = 4 ∨ q = 6 ∨ q = 7 ∨ q = 8 → f_X3_take C o p (4 * (o + 3) - 45 + i) q = C (4 * (p + 3) - 45 + i) q) ∧ f_X3_take C o p (4 * (o + 3) - 45 + i) 2 = b01 (C (4 * (p + 3) - 45 + i) 2) ∧ f_X3_take C o p (4 * (o + 3) - 45 + i) 5 = b01 (C (4 * (p + 3) - 45 + i) 5) ∧ ∀ q, q ≤ 2 → f_X3_take C o p (4 * (o + 3) - 45 + i + 12) q = C (4 * (p + 3) - 45 + i + 12) q) ∧
    ∀ j q, ¬ (j = o ∧ (q = 1 ∨ q = 2)) → ¬ (4 * (o + 3) - 45 ≤ j ∧ j < 4 * (o + 3) - 45 + 4 ∧ 1 ≤ q ∧ q ≤ 8) → ¬ (4 * (o + 3) - 45 + 12 ≤ j ∧ j < 4 * (o + 3) - 45 + 16 ∧ q ≤ 2) → f_X3_take C o p j q = C j q := by
  unfold f_X3_take
  simp only [bnd_nr]
  generalize hM : up2 (up2 C o 1 (C p 1)) o 2 (up2 C o 1 (C p 1) p 2) = M
  have m1 : M o 1 = C p 1 := by rw [← hM, up2_n _ _ (by omega), up2_s]
  have m2 : M o 2 = C p 2 := by rw [← hM, up2_s, up2_n _ _ (by omega)]
  have mf : ∀ j q, ¬ (j = o ∧ (q = 1 ∨ q = 2)) → M j q = C j q := fun j q h => by rw [← hM, up2_n _ _ (by omega), up2_n _ _ (by omega)]
  have s1 : lp_X3_take_18 5 o p M 0 = rep (fun k X => f_X1_take X (4 * (o + 3) - 45 + k) (4 * (p + 3) - 45 + k)) 4 M := by
    refine lp_rep0 (lp := fun f M v => lp_X3_take_18 f o p M v) (Q := fun _ => True) (n := 4) (by omega) trivial ?_ ?_ ?_
    · intro f k M hk _
      rw [lp_X3_take_18, if_neg (nI4 hk), if_neg (nI4 hk)]
      simp only [bnd_nr]
      rw [nI_clamp (by omega), nI_1]
    · intro f M _
      rw [lp_X3_take_18, if_pos (by decide)]
    · intro k M _ _; trivial
  rw [s1]
  have key := rep_ind (g := fun k X => f_X1_take X (4 * (o + 3) - 45 + k) (4 * (p + 3) - 45 + k)) (n := 4) (M := M) (S := fun k X => (∀ i, i < k → (∀ q, q = 1 ∨ q = 3 ∨ q = 4 ∨ q = 6 ∨ q = 7 ∨ q = 8 → X (4 * (o + 3) - 45 + i) q = M (4 * (p + 3) - 45 + i) q) ∧ X (4 * (o + 3) - 45 + i) 2 = b01 (M (4 * (p + 3) - 45 + i) 2) ∧ X (4 * (o + 3) - 45 + i) 5 = b01 (M (4 * (p + 3) - 45 + i) 5) ∧ ∀ q, q ≤ 2 → X (4 * (o + 3) - 45 + i + 12) q = M (4 * (p + 3) - 45 + i + 12) q) ∧
    ∀ j q, ¬ (4 * (o + 3) - 45 ≤ j ∧ j < 4 * (o + 3) - 45 + 4 ∧ 1 ≤ q ∧ q ≤ 8) → ¬ (4 * (o + 3) - 45 + 12 ≤ j ∧ j < 4 * (o + 3) - 45 + 16 ∧ q ≤ 2) → X j q = M j q) (fun k X hk hS => by
    obtain ⟨z1, z2⟩ := hS
    obtain ⟨y1, y2, y3, y4, y5⟩ := take1_ok (C := X) (b := 4 * (o + 3) - 45 + k) (b' := 4 * (p + 3) - 45 + k) (by omega) (by omega) (by omega)
    refine ⟨fun i hi => ?_, fun j q h1 h2 => by
      show f_X1_take X _ _ j q = _
      rw [y5 _ _ (by omega) (by omega)]; exact z2 _ _ h1 h2⟩
    show (∀ q, _ → f_X1_take X (4 * (o + 3) - 45 + k) (4 * (p + 3) - 45 + k) (4 * (o + 3) - 45 + i) q = _) ∧ f_X1_take X (4 * (o + 3) - 45 + k) (4 * (p + 3) - 45 + k) (4 * (o + 3) - 45 + i) 2 = _ ∧ f_X1_take X (4 * (o + 3) - 45 + k) (4 * (p + 3) - 45 + k) (4 * (o + 3) - 45 + i) 5 = _ ∧ ∀ q, _ → f_X1_take X (4 * (o + 3) - 45 + k) (4 * (p + 3) - 45 + k) (4 * (o + 3) - 45 + i + 12) q = _
    by_cases e : i = k
    · subst e
      exact ⟨fun q hq => by rw [y1 q hq]; exact z2 _ _ (by omega) (by omega), by rw [y2, z2 _ _ (by omega) (by omega)], by rw [y3, z2 _ _ (by omega) (by omega)], fun q hq => by rw [y4 q hq]; exact z2 _ _ (by omega) (by omega)⟩
    · obtain ⟨v1, v2, v3, v4⟩ := z1 i (by omega)
      exact ⟨fun q hq => by rw [y5 _ _ (by omega) (by omega)]; exact v1 q hq, by rw [y5 _ _ (by omega) (by omega)]; exact v2, by rw [y5 _ _ (by omega) (by omega)]; exact v3, fun q hq => by rw [y5 _ _ (by omega) (by omega)]; exact v4 q hq⟩) ⟨fun i hi => by omega, fun _ _ _ _ => rfl⟩ 4 (Nat.le_refl _)
  generalize rep (fun k X => f_X1_take X (4 * (o + 3) - 45 + k) (4 * (p + 3) - 45 + k)) 4 M = X at key ⊢
  obtain ⟨z1, z2⟩ := key
  refine ⟨by rw [z2 _ _ (by omega) (by omega)]; exact m1, by rw [z2 _ _ (by omega) (by omega)]; exact m2, fun i hi => ?_, fun j q h1 h2 h3 => by rw [z2 _ _ h2 h3]; exact mf _ _ h1⟩
  obtain ⟨v1, v2, v3, v4⟩ := z1 i hi
  exact ⟨fun q hq => by rw [v1 q hq]; exact mf _ _ (by omega), by rw [v2, mf _ _ (by omega)], by rw [v3, mf _ _ (by omega)], fun q hq => by rw [v4 q hq]; exact mf _ _ (by omega)⟩
theorem WY_b {c w : Int32} (h : WY c w) : WY (b01 c) w := by
  rcases h with ⟨rfl, rfl⟩ | ⟨rfl, rfl⟩
  · exact Or.inl ⟨by decide, rfl⟩
  · exact Or.inr ⟨by decide, rfl⟩
theorem RX_take {C S C0 : Mem} {o p a a' n : Nat} (ho : 13 ≤ o ∧ o ≤ 15) (hp : 13 ≤ p ∧ p ≤ 15) (hne : ¬ o = p) (ha : a ≤ 12) (hn : n ≤ 4) (h : RX none C S p a' n) (hY : BY C0 S a) (h0 : ∀ j q, 13 ≤ j → C0 j q = C j q) : RX none (f_X3_take C0 o p) S o a n := by
  obtain ⟨t1, t2, t3, t4⟩ := raceTake_ok (C := C0) ho hp hne
  obtain ⟨e1, e2, e3, e4⟩ := h
  refine ⟨by rw [t1, h0 _ _ (by omega)]; exact e1, e2, BY_of hY (fun q hq => t4 _ _ (by omega) (by omega) (by omega)) (fun _ _ => rfl), fun i hi => ?_⟩
  obtain ⟨⟨b3, b4, b5, b6, b7, b8, bb, bi⟩, ⟨s1, s2, s3, s4⟩, n0, n1, n2, n3⟩ := e4 i hi
  obtain ⟨v1, v2, v3, v4⟩ := t3 i (by omega)
  refine ⟨⟨by rw [v1 3 (by omega), h0 _ _ (by omega)]; exact b3, by rw [v1 4 (by omega), h0 _ _ (by omega)]; exact b4, by rw [v3, h0 _ _ (by omega)]; exact WY_b b5, by rw [v1 6 (by omega), h0 _ _ (by omega)]; exact b6, by rw [v1 7 (by omega), h0 _ _ (by omega)]; exact b7, by rw [v1 8 (by omega), h0 _ _ (by omega)]; exact b8, bb, bi⟩,
    ⟨by rw [v1 1 (by omega), h0 _ _ (by omega)]; exact s1, by rw [v2, h0 _ _ (by omega)]; exact WY_b s2, s3, by rw [v4 2 (by omega), h0 _ _ (by omega)]; exact s4⟩, by rw [v4 0 (by omega), h0 _ _ (by omega)]; exact n0, by rw [v4 1 (by omega), h0 _ _ (by omega)]; exact n1, n2, n3⟩
theorem GS_copy {C S : Mem} {o p a a' : Nat} (ho : 13 ≤ o ∧ o ≤ 15) (hp : 13 ≤ p ∧ p ≤ 15) (hne : ¬ o = p) (ha : 1 ≤ a ∧ a ≤ 3) (ha' : 1 ≤ a' ∧ a' ≤ 3) (hna : ¬ a = a') (h : GS C S p a') :
    GS (f_X3_take (f_X0_take C a a') o p) S o a ∧ (∀ j q, ¬ (j = a ∨ j = a + 3 ∨ j = a + 6 ∨ j = a + 9 ∨ j = o) → ¬ (4 * (o + 3) - 45 ≤ j ∧ j < 4 * (o + 3) - 45 + 4) → ¬ (4 * (o + 3) - 45 + 12 ≤ j ∧ j < 4 * (o + 3) - 45 + 16) → f_X3_take (f_X0_take C a a') o p j q = C j q) ∧ f_X3_take (f_X0_take C a a') o p o 2 = C p 2 := by
  obtain ⟨n, s, ln, x1, x2, x3, x4, x5, x6, x7, x8, x9⟩ := h
  obtain ⟨w1, w2, w3⟩ := bayTake_ok (o := a) ha ha' hna x8
  generalize f_X0_take C a a' = C0 at w1 w2 w3 ⊢
  have hY : BY C0 S a := by
    obtain ⟨q0, q1, q2, q3⟩ := x2.2.2.1
    exact ⟨by rw [w2 0 (by omega)]; exact q0, by rw [w2 1 (by omega)]; exact q1, by rw [w2 2 (by omega)]; exact q2, by rw [w2 3 (by omega)]; exact q3⟩
  have hX := RX_take (C0 := C0) ho hp hne (show a ≤ 12 by omega) x1 x2 hY (fun j q h => w3 _ _ (by omega) (by omega) (by omega) (by omega))
  obtain ⟨t1, t2, t3, t4⟩ := raceTake_ok (C := C0) ho hp hne
  have e2 : f_X3_take C0 o p o 2 = C p 2 := by rw [t2]; exact w3 _ _ (by omega) (by omega) (by omega) (by omega)
  refine ⟨⟨n, s, ln, x1, hX, e2.trans x3, x4, x5, x6, x7, WL_of w1 (t4 _ _ (by omega) (by omega) (by omega)) (fun q => t4 _ _ (by omega) (by omega) (by omega)) (t4 _ _ (by omega) (by omega) (by omega)) (fun q => t4 _ _ (by omega) (by omega) (by omega)), x9⟩, fun j q h1 h2 h3 => by rw [t4 _ _ (by omega) (by omega) (by omega)]; exact w3 _ _ (by omega) (by omega) (by omega) (by omega), e2⟩
theorem sim_image : S_image Core := by
  intro C R hC _ _
  have h19 := Core_19 hC 0
  unfold f_X6_image f_X7_image
  simp only [bnd_nr]
  generalize up2 R 0 19 0 = S at h19 ⊢
  obtain ⟨e1, e2, e3, e4⟩ := h19
  obtain ⟨g1, g2, _⟩ := GS_copy (C := C) (S := S) (o := 14) (p := 13) (a := 2) (a' := 1) (by omega) (by omega) (by omega) (by omega) (by omega) (by omega) e1
  generalize f_X3_take (f_X0_take C 2 1) 14 13 = C2 at g1 g2 ⊢
  have tn := fun j q => @take_n (up2 S 0 35 1) 2 j q
  have ts := fun j q => @take_s (up2 S 0 35 1) 2 j q
  rw [kR2] at tn ts
  generalize f_X7_carryAll (up2 S 0 35 1) 2 1 = S2 at tn ts ⊢
  have f2 : ∀ j q, ¬ j = 21 → ¬ (j = 0 ∧ 35 ≤ q ∧ q ≤ 38) → S2 j q = S j q := fun j q p1 p2 => by rw [tn _ _ (by omega) (by omega), up2_n _ _ (by omega)]
  have fC : ∀ j q, ¬ (j = 0 ∧ q = 4) → up2 C2 0 4 1 j q = C2 j q := fun j q p => up2_n _ _ p
  have hE : EqC S S2 := fun j q hc => by rw [cry_iff] at hc; exact f2 _ _ (by omega) (by omega)
  refine ⟨?_, ?_⟩
  · show up2 C2 0 4 1 13 2 = S2 0 7
    rw [fC _ _ (by omega), g2 _ _ (by omega) (by omega) (by omega), f2 _ _ (by omega) (by omega)]
    obtain ⟨n, s, ln, x1, x2, x3, x4, _⟩ := e1
    exact x3.trans x4.symm
  · have hl : lnO S2 = lnO S := by unfold lnO; rw [f2 _ _ (by omega) (by omega)]
    have hrow : S2 1 = S 1 := by funext q; exact f2 _ _ (by omega) (by omega)
    refine ⟨GS_C (GS_R e1 hE) (fun j q hc => by rw [fC _ _ (by unfold cel at hc; omega)]; exact g2 _ _ (by unfold cel at hc; omega) (by unfold cel at hc; omega) (by unfold cel at hc; omega)), by rw [hl, hrow]; exact WI_of e2 (f2 _ _ (by omega) (by omega)) (f2 _ _ (by omega) (by omega)) (fun q => f2 _ _ (by omega) (by omega)), ⟨?_, fun _ => ?_⟩, fun d hd => SH_of (e4 d hd) (fun j q p => by rw [fC _ _ (by omega)]; exact g2 _ _ (by omega) (by omega) (by omega)) (fun j p1 p2 => f2 _ _ (by omega) (by omega)) (fun k hk => f2 _ _ (by omega) (by omega))⟩
    · rw [up2_s, tn _ _ (by omega) (by omega), up2_s]
    · refine GS_C (GS_R g1 (fun j q hc => ?_)) (fun j q hc => fC _ _ (by unfold cel at hc; omega))
      show S2 21 (ipos j q) = S j q
      rw [ts _ _ hc, up2_n _ _ (by rw [cry_iff] at hc; omega)]
theorem sim_restore : S_restore Core := by
  intro C R hC _ _
  have h19 := Core_19 hC 0
  unfold f_X6_restore f_X7_restore
  simp only [bnd_nr]
  generalize up2 R 0 19 0 = S at h19 ⊢
  obtain ⟨e1, e2, e3, e4⟩ := id h19
  by_cases c : b01 (S 0 35) = 0
  · rw [if_neg (not_not_intro (e3.1.mpr c)), if_neg (not_not_intro c)]; exact ⟨rfl, h19⟩
  · rw [if_pos (fun q => c (e3.1.mp q)), if_pos c]
    obtain ⟨g1, g2, g3⟩ := GS_copy (C := C) (S := UN (S 21)) (o := 13) (p := 14) (a := 1) (a' := 2) (by omega) (by omega) (by omega) (by omega) (by omega) (by omega) (e3.2 c)
    have tn := fun j q => @give_n S 2 j q
    have ts := fun j q => @give_s S 2 j q
    rw [kR2] at ts
    generalize f_X3_take (f_X0_take C 1 2) 13 14 = C2 at g1 g2 g3 ⊢
    generalize f_X7_carryAll S 2 0 = S2 at tn ts ⊢
    have f2 : ∀ j q, ¬ (j ≤ 11) → S2 j q = S j q := fun j q p1 => tn _ _ (by rw [cry_iff]; omega) (by omega)
    have hG : GS C2 (up2 S2 0 29 0) 13 1 := GS_R g1 (fun j q hc => by rw [up2_n _ _ (by rw [cry_iff] at hc; omega)]; exact ts _ _ hc)
    refine ⟨?_, ?_⟩
    · obtain ⟨n, s, ln, x1, x2, x3, x4, _⟩ := hG
      exact x3.trans x4.symm
    · dsimp only
      refine ⟨hG, fun g => absurd (by rw [up2_s]; decide) g, ⟨?_, fun _ => ?_⟩, fun d hd => SH_of (e4 d hd) (fun j q p => g2 _ _ (by omega) (by omega) (by omega)) (fun j p1 p2 => by rw [up2_n _ _ (by omega)]; exact f2 _ _ (by omega)) (fun k hk => by rw [up2_n _ _ (by omega)]; exact f2 _ _ (by omega))⟩
      · rw [g2 _ _ (by omega) (by omega) (by omega), up2_n _ _ (by omega), tn _ _ (by rw [cry_iff]; omega) (by omega)]; exact e3.1
      · refine GS_C (GS_R (e3.2 c) (fun j q hc => ?_)) (fun j q hc => g2 _ _ (by unfold cel at hc; omega) (by unfold cel at hc; omega) (by unfold cel at hc; omega))
        show up2 S2 0 29 0 21 (ipos j q) = S 21 (ipos j q)
        rw [up2_n _ _ (by omega)]; exact f2 _ _ (by omega)
/-! in mind -/
theorem open_n {M : Mem} {j q : Nat} (h : ¬ (j = 20 ∧ q < 148)) (h2 : ¬ (j = 0 ∧ 36 ≤ q ∧ q ≤ 38)) : f_X7_open M j q = M j q := by
  unfold f_X7_open; rw [bnd_nr]; exact take_n (by rw [kR1]; exact h) h2
theorem open_s {M : Mem} {j q : Nat} (h : cry j q) : f_X7_open M 20 (ipos j q) = M j q := by
  unfold f_X7_open; rw [bnd_nr]
  have := @take_s M 1 j q h
  rw [kR1] at this; exact this
theorem close_n {M : Mem} {j q : Nat} (h : ¬ cry j q) (h2 : ¬ (j = 0 ∧ 36 ≤ q ∧ q ≤ 38)) : f_X7_close M j q = M j q := by
  unfold f_X7_close; rw [bnd_nr]; exact give_n h h2
theorem close_s {M : Mem} {j q : Nat} (h : cry j q) : f_X7_close M j q = M 20 (ipos j q) := by
  unfold f_X7_close; rw [bnd_nr]
  have := @give_s M 1 j q h
  rw [kR1] at this; exact this
theorem Core_open {C S : Mem} (h : Core C S) : Core C (f_X7_open S) := Core_R h (fun j q hc => open_n (by rw [cry_iff] at hc; omega) (by rw [cry_iff] at hc; omega)) (WI_of h.2.1 (open_n (by omega) (by omega)) (open_n (by omega) (by omega)) (fun q => open_n (by omega) (by omega))) (open_n (by omega) (by omega)) (fun q => open_n (by omega) (by omega)) (fun j q p1 p2 => open_n (by omega) (by omega))
/-- back from the mind: what both may have changed there -/
theorem mind_back {C S C' S' : Mem} (h : Core C S) (h20 : ∀ k, S' 20 k = f_X7_open S 20 k) (h35 : S' 0 35 = S 0 35) (h21 : ∀ q, S' 21 q = S 21 q) (hsh : ∀ j q, 23 ≤ j → j ≤ 29 → S' j q = S j q) (hWI : WI S' (lnO S) (S 1))
    (hC : ∀ j q, ¬ (j = 3 ∨ j = 6 ∨ j = 9 ∨ j = 12 ∨ j = 15 ∨ 68 ≤ j) → ¬ (27 ≤ j ∧ j ≤ 30) → ¬ (39 ≤ j ∧ j ≤ 42) → ¬ (j = 4 ∧ 2 ≤ q ∧ q ≤ 4) → ¬ (j = 7 ∨ 68 ≤ j) → C' j q = C j q) (hW : WL C' 1 (lnO S) (S 1) (S 0 4)) : Core C' (f_X7_close S') := by
  have hE : EqC S (f_X7_close S') := fun j q hc => by rw [close_s hc, h20, open_s hc]
  have hCC : Core C' S := by
    refine Core_C h (GS_of h.1 (fun q p => hC _ _ (by omega) (by omega) (by omega) (by omega) (by omega)) (fun i q p1 p2 p3 => hC _ _ (by omega) (by omega) (by omega) (by omega) (by omega)) (fun i q p1 p2 => hC _ _ (by omega) (by omega) (by omega) (by omega) (by omega)) (fun q p => hC _ _ (by omega) (by omega) (by omega) (by omega) (by omega)) (fun _ _ _ => rfl) (fun ln t sd hO hw => ?_)) (hC _ _ (by omega) (by omega) (by omega) (by omega) (by omega)) (fun j q hc => hC _ _ (by unfold cel at hc; omega) (by unfold cel at hc; omega) (by unfold cel at hc; omega) (by unfold cel at hc; omega) (by unfold cel at hc; omega)) (fun j q p => hC _ _ (by omega) (by omega) (by omega) (by omega) (by omega))
    -- the law's world of the own bay
    obtain ⟨n, s, l2, x1, x2, x3, x4, x5, x6, x7, x8, x9⟩ := h.1
    have hl : lnO S = l2 := by unfold lnO; rw [x6.2.1, nI_clamp (by have := x6.1; omega)]
    have hsd : S 0 4 = sd := x8.2.1.symm.trans hw.2.1
    rw [hl, hsd] at hW
    refine ⟨LW_of hw.1 (hC _ _ (by omega) (by omega) (by omega) (by omega) (by omega)) (fun q => hC _ _ (by omega) (by omega) (by omega) (by omega) (by omega)), (hC _ _ (by omega) (by omega) (by omega) (by omega) (by omega)).trans hw.2.1, fun q hq => ?_⟩
    rcases hW.2.2 q hq with g | g
    · exact Or.inl g
    · right
      rw [g]
      exact (valueAt_c x8.1 (nI q) sd).1.symm.trans (valueAt_c hw.1 (nI q) sd).1
  refine Core_R hCC hE (WI_of hWI (close_n (by rw [cry_iff]; omega) (by omega)) (close_n (by rw [cry_iff]; omega) (by omega)) (fun q => close_n (by rw [cry_iff]; omega) (by omega))) ?_ (fun q => ?_) (fun j q p1 p2 => ?_)
  · rw [close_n (by rw [cry_iff]; omega) (by omega)]; exact h35
  · rw [close_n (by rw [cry_iff]; omega) (by omega)]; exact h21 q
  · rw [close_n (by rw [cry_iff]; omega) (by omega)]; exact hsh j q p1 p2
