/-! keep, row, copy -/
theorem boat_cases {C R : Mem} {o n : Nat} (hn : n ≤ 4) (h1 : C o 1 = nI n) (h8 : R 0 8 = nI n) (a : Int32) : (∃ i, i < n ∧ a = nI i ∧ f_X3_boatAt C o a = some (4 * (o + 3) - 45 + i) ∧ ¬ f_X7_isBoat R a = 0) ∨ (f_X3_boatAt C o a = none ∧ f_X7_isBoat R a = 0) := by
  have hi := inz (a := a) (lo := 0) (hi := (R 0 8 - 1).toInt64)
  rw [show (0 : Int64).toInt = 0 by decide, toI64, h8, i_sub (by rw [nI_toInt (by omega), k1]; omega), nI_toInt (n := n) (by omega), k1] at hi
  unfold f_X7_isBoat f_X3_boatAt
  simp only [bnd]
  rw [h8, h1]
  rcases pk_ix a (n := n) (by omega) with h | h | ⟨i, hin, rfl⟩
  · rw [if_pos h]
    rw [lt_i, k0] at h
    exact Or.inr ⟨rfl, hi.mpr (fun q => by omega)⟩
  · have h' := h
    rw [le_i, nI_toInt (by omega)] at h'
    rw [if_pos h, ite_self]
    exact Or.inr ⟨rfl, hi.mpr (fun q => by omega)⟩
  · rw [if_neg (nI_pos (by omega)), if_neg (nI_ge hin (by omega)), if_neg (nI4 (by omega)), nI_clamp (by omega)]
    rw [nI_toInt (by omega)] at hi
    exact Or.inl ⟨i, hin, rfl, rfl, fun q => hi.mp q (by omega)⟩
theorem in_case (a : Int32) (N : Nat) (hN : N < 1000) (hi : Int64) (hh : hi.toInt = N) : (f_X7_in a.toInt64 0 hi = 0 ∧ (a < 0 ∨ nI (N + 1) ≤ a)) ∨ (¬ f_X7_in a.toInt64 0 hi = 0 ∧ ∃ k, k ≤ N ∧ a = nI k) := by
  have h := inz (a := a) (lo := 0) (hi := hi)
  rw [show (0 : Int64).toInt = 0 by decide, hh] at h
  rcases pk_ix a (n := N + 1) (by omega) with g | g | ⟨k, hk, rfl⟩
  · refine Or.inl ⟨h.mpr (fun q => ?_), Or.inl g⟩
    rw [lt_i, k0] at g; omega
  · refine Or.inl ⟨h.mpr (fun q => ?_), Or.inr g⟩
    rw [le_i, nI_toInt (by omega)] at g; omega
  · rw [nI_toInt (by omega)] at h
    exact Or.inr ⟨fun q => h.mp q (by omega), k, by omega, rfl⟩
theorem bnd_go {α γ : Type} (x : α) (f : α → γ) : bnd x f = f x := rfl
theorem sim_keep : S_keep Core := by
  intro C R a a2 a3 hC _ _
  have h19 := Core_19 hC 0
  unfold f_X6_keep f_X7_keep f_X5_holdSailor f_X4_become
  simp only [bnd]
  generalize up2 R 0 19 0 = S at h19 ⊢
  rcases shelf_cases a with ⟨d, hd, rfl, hs, hi⟩ | ⟨hs, hi⟩
  · rw [hs, if_neg hi]
    have hS := h19.2.2.2 d hd
    rw [nI_clamp (n := d) (by omega)]
    dsimp only [oel]
    rcases in_case a2 1 (by omega) 1 (by decide) with ⟨g1, g2⟩ | ⟨g1, k, hk, rfl⟩
    · rw [if_pos g1]
      rcases g2 with g2 | g2
      · rw [if_pos g2]; exact ⟨rfl, h19⟩
      · have e0 : ¬ a2 < 0 := fun q => by
          rw [lt_i, k0] at q
          rw [le_i, nI_toInt (by omega)] at g2; omega
        have e1 : ¬ a2 ≤ 1 := fun q => by
          rw [le_i, k1] at q
          rw [le_i, nI_toInt (by omega)] at g2; omega
        rw [if_neg e0, if_neg e1]; exact ⟨rfl, h19⟩
    · rw [if_neg g1, if_neg (nI_pos (by omega)), if_pos (show nI k ≤ (1 : Int32) from nI_le (b := 1) (by omega) (by decide))]
      obtain ⟨t0, t1, t2, t3, t4⟩ := hS
      have : k = 0 ∨ k = 1 := by omega
      rcases this with rfl | rfl
      · rw [if_neg (show ¬ ¬ nI 0 = 0 by decide), if_pos (show ¬ nI 0 = (1 : Int32) by decide), if_pos (show ¬ nI 0 = (1 : Int32) by decide), if_pos (show ¬ nI 0 = (1 : Int32) by decide), if_pos (show ¬ nI 0 = (1 : Int32) by decide)]
        refine ⟨rfl, ?_⟩
        dsimp only
        refine Core_S h19 hd (fun j q p => up2_n _ _ (by omega)) (fun j q p1 p2 p3 => by rw [up2_n _ _ (by omega), up2_n _ _ (by omega), up2_n _ _ (by omega), up2_n _ _ (by omega)]) ?_
        have e23 : ∀ x y z : Int32, up2 (up2 (up2 (up2 S 23 d (nI 0)) 24 d x) 25 d y) 26 d z 23 d = nI 0 := fun x y z => by rw [up2_n _ _ (by omega), up2_n _ _ (by omega), up2_n _ _ (by omega), up2_s]
        refine ⟨by rw [e23, up2_s]; rfl, Or.inl (e23 _ _ _), by rw [up2_n _ _ (by omega)]; exact t2, fun g => ?_, fun g => ?_⟩
        · rw [e23] at g; exact absurd g (by decide)
        · rw [e23] at g; exact absurd g (by decide)
      · rw [if_pos (show ¬ nI 1 = 0 by decide), if_neg (show ¬ ¬ nI 1 = (1 : Int32) by decide)]
        obtain ⟨n, s, ln, x1, x2, _⟩ := h19.1
        rcases boat_cases x1 x2.1 x2.2.1 a3 with ⟨i, hi', rfl, b1, b2⟩ | ⟨b1, b2⟩
        · rw [b1, if_pos b2, nI_clamp (by omega)]
          dsimp only [oel]
          rw [if_neg (show ¬ ¬ nI 1 = (1 : Int32) by decide), if_neg (show ¬ ¬ nI 1 = (1 : Int32) by decide), if_neg (show ¬ ¬ nI 1 = (1 : Int32) by decide)]
          refine ⟨rfl, ?_⟩
          obtain ⟨_, y2, y3⟩ := x2.2.2.2 i hi'
          obtain ⟨z0, z1, z2, z3⟩ := y3
          have z4 := y2.2.2.2
          refine Core_S h19 hd (fun j q p => by rw [up2_n _ _ (by omega), up2_n _ _ (by omega), up2_n _ _ (by omega), up2_n _ _ (by omega)]) (fun j q p1 p2 p3 => by rw [up2_n _ _ (by omega), up2_n _ _ (by omega), up2_n _ _ (by omega), up2_n _ _ (by omega)]) ?_
          have e23 : ∀ x y z : Int32, up2 (up2 (up2 (up2 S 23 d (nI 1)) 24 d x) 25 d y) 26 d z 23 d = nI 1 := fun x y z => by rw [up2_n _ _ (by omega), up2_n _ _ (by omega), up2_n _ _ (by omega), up2_s]
          have q2 : up2 S 23 d (nI 1) 2 i = S 2 i := up2_n _ _ (by omega)
          have q5 : ∀ x, up2 (up2 S 23 d (nI 1)) 24 d x 5 i = S 5 i := fun x => by rw [up2_n _ _ (by omega), up2_n _ _ (by omega)]
          have c0 : up2 C (44 + d) 0 1 (4 * (13 + 3) - 45 + i + 12) 0 = S 2 i := by rw [up2_n _ _ (by omega)]; exact z0
          have c1 : up2 C (44 + d) 0 1 (4 * (13 + 3) - 45 + i + 12) 1 = S 5 i := by rw [up2_n _ _ (by omega)]; exact z1
          have c2 : up2 C (44 + d) 0 1 (4 * (13 + 3) - 45 + i + 12) 2 = nI i := by rw [up2_n _ _ (by omega)]; exact z4
          rw [q2, q5, c0, c1, c2, show 44 + d + 8 = 52 + d by omega]
          refine ⟨by rw [e23, up2_n _ _ (by omega), up2_n _ _ (by omega), up2_n _ _ (by omega), up2_s]; rfl, Or.inr (Or.inl (e23 _ _ _)), by rw [up2_n _ _ (by omega), up2_n _ _ (by omega), up2_n _ _ (by omega), up2_n _ _ (by omega)]; exact t2, fun g => ?_, fun g => ?_⟩
          · have e24 : ∀ y z : Int32, up2 (up2 (up2 (up2 S 23 d (nI 1)) 24 d (S 2 i)) 25 d y) 26 d z 24 d = S 2 i := fun y z => by rw [up2_n _ _ (by omega), up2_n _ _ (by omega), up2_s]
            have e25 : ∀ z : Int32, up2 (up2 (up2 (up2 S 23 d (nI 1)) 24 d (S 2 i)) 25 d (S 5 i)) 26 d z 25 d = S 5 i := fun z => by rw [up2_n _ _ (by omega), up2_s]
            rw [e24, e25, up2_s]
            exact ⟨by rw [up2_n _ _ (by omega), up2_n _ _ (by omega), up2_s], by rw [up2_n _ _ (by omega), up2_s], by rw [up2_s], z2, z3⟩
          · rw [e23] at g; exact absurd g (by decide)
        · rw [b1, if_neg (not_not_intro b2)]; exact ⟨rfl, h19⟩
  · rw [hs, if_pos hi]; exact ⟨rfl, h19⟩
theorem row0_lp {M : Mem} {d : Nat} (hd : d < 8) : (∀ k, k < 100 → lp_X7_row_68 101 (nI d) M 0 29 (100 * d + k) = 0) ∧ ∀ j q, (¬ j = 29 ∨ ∀ k, k < 100 → ¬ q = 100 * d + k) → lp_X7_row_68 101 (nI d) M 0 j q = M j q := by
  exact wr_lp (lp := fun f M v => lp_X7_row_68 f (nI d) M v) (r := 29) (N := 100) (f := 101) (ix := fun k => 100 * d + k) (val := fun _ _ => 0) (M := M) (fun _ => True) (by omega) trivial (fun f M k hk _ => by
      show lp_X7_row_68 (f + 1) (nI d) M (nI k) = _
      rw [lp_X7_row_68, if_neg (show ¬ (100 : Int32) ≤ nI k from nI_ge (b := 100) hk (by decide))]
      simp only [bnd]
      rw [nI_1, ix_row hd (by omega), show (0 : Int64).toInt32 = 0 by decide]) (fun f M _ => by
      show lp_X7_row_68 (f + 1) (nI d) M (nI 100) = _
      rw [lp_X7_row_68, if_pos (by decide)]) (fun _ _ _ _ => trivial) (fun k k' h => by omega) (fun _ _ _ _ => rfl)
theorem row_core {C S C2 R2 : Mem} {d k m : Nat} (h19 : Core C S) (hd : d < 8) (hk : k ≤ 2) (hm : m ≤ 100) (l1 : ∀ k, k < 100 → R2 29 (100 * d + k) = 0) (l2 : ∀ j q, (¬ j = 29 ∨ ∀ k, k < 100 → ¬ q = 100 * d + k) → R2 j q = up2 (up2 (up2 S 23 d 2) 27 d (nI k)) 28 d (nI m) j q)
    {a : Nat} (ha : a = 60 + d) (f1 : ∀ k, k < 100 → C2 a k = 0) (f2 : ∀ j q, (¬ j = a ∨ 100 ≤ q) → C2 j q = up2 (up2 (up2 C (44 + d) 0 2) (44 + d) 2 (nI k)) (44 + d) 3 (nI m) j q) : Core C2 R2 := by
  subst ha
  refine Core_S h19 hd (fun j q p => by rw [f2 _ _ (Or.inl (by omega)), up2_n _ _ (by omega), up2_n _ _ (by omega), up2_n _ _ (by omega)]) (fun j q p1 p2 p3 => by
    rw [l2 j q (by
      by_cases e : j = 29
      · exact Or.inr (fun k hk => by omega)
      · exact Or.inl e), up2_n _ _ (by omega), up2_n _ _ (by omega), up2_n _ _ (by omega)]) ?_
  have r23 : R2 23 d = 2 := by rw [l2 _ _ (Or.inl (by omega)), up2_n _ _ (by omega), up2_n _ _ (by omega), up2_s]
  have r27 : R2 27 d = nI k := by rw [l2 _ _ (Or.inl (by omega)), up2_n _ _ (by omega), up2_s]
  have r28 : R2 28 d = nI m := by rw [l2 _ _ (Or.inl (by omega)), up2_s]
  have c0 : C2 (44 + d) 0 = 2 := by rw [f2 _ _ (Or.inl (by omega)), up2_n _ _ (by omega), up2_n _ _ (by omega), up2_s]
  have c2' : C2 (44 + d) 2 = nI k := by rw [f2 _ _ (Or.inl (by omega)), up2_n _ _ (by omega), up2_s]
  have c3 : C2 (44 + d) 3 = nI m := by rw [f2 _ _ (Or.inl (by omega)), up2_s]
  have hm' := nI_toInt (n := m) (by omega)
  unfold SH1
  rw [r23, r27, r28, c0, c2', c3]
  refine ⟨rfl, Or.inr (Or.inr rfl), by rw [hm']; omega, fun g => absurd g (by decide), fun _ => ⟨rfl, ?_, rfl, fun k' hk' => ?_⟩⟩
  · have : k = 0 ∨ k = 1 ∨ k = 2 := by omega
    rcases this with rfl | rfl | rfl
    · exact Or.inl rfl
    · exact Or.inr (Or.inl rfl)
    · exact Or.inr (Or.inr rfl)
  · rw [f1 k' hk', l1 k' hk']
    exact ⟨rfl, fun _ => by decide⟩
theorem bnd_nr {α γ : Type} (x : α) (f : α → γ) : bnd x f = f x := Eq.trans (b := f x) rfl rfl
theorem holdRow_eq (C : Mem) (o a : Nat) (x y : Int32) (ha : o + 16 = a) : f_X5_holdRow C o x y = f_J7_fill_53178 (up2 (up2 (up2 C o 0 2) o 2 x) o 3 y) a 0 := by
  unfold f_X5_holdRow
  rw [ha]
  rw [bnd_nr, bnd_nr, bnd_nr, bnd_nr]
theorem nIA_hi {a : Nat} (h : ¬ a ≤ 9) : nIA a = 100 := by unfold nIA; rw [if_neg h]
theorem holdRow_ok {C : Mem} {d a : Nat} {x y : Int32} (ha : a = 60 + d) : (∀ k, k < 100 → f_X5_holdRow C (44 + d) x y a k = 0) ∧ ∀ j q, (¬ j = a ∨ 100 ≤ q) → f_X5_holdRow C (44 + d) x y j q = up2 (up2 (up2 C (44 + d) 0 2) (44 + d) 2 x) (44 + d) 3 y j q := by
  rw [holdRow_eq C (44 + d) a x y (by omega)]
  have hA := nIA_hi (a := a) (by omega)
  obtain ⟨f1, f2⟩ := fill_ok (M := up2 (up2 (up2 C (44 + d) 0 2) (44 + d) 2 x) (44 + d) 3 y) (a := a) (v := 0)
  rw [hA] at f1 f2
  exact ⟨f1, f2⟩
theorem sim_row : S_row Core := by
  intro C R a a2 a3 hC _ _
  have h19 := Core_19 hC 0
  unfold f_X6_row f_X7_row
  simp only [bnd_nr]
  generalize up2 R 0 19 0 = S at h19 ⊢
  rcases shelf_cases a with ⟨d, hd, rfl, hs, hi⟩ | ⟨hs, hi⟩
  · have hcl : (nI d).toNatClampNeg = d := nI_clamp (by omega)
    rw [hs, if_neg hi, hcl]
    dsimp only [oel]
    rcases in_case a2 2 (by omega) 2 (by decide) with ⟨g1, g2⟩ | ⟨g1, k, hk, rfl⟩
    · rw [if_pos g1]
      rcases g2 with g2 | g2
      · rw [if_pos g2]; exact ⟨rfl, h19⟩
      · have k2 : (2 : Int32).toInt = 2 := by decide
        have e0 : ¬ a2 < 0 := fun q => by
          rw [lt_i, k0] at q
          rw [le_i, nI_toInt (by omega)] at g2; omega
        have e1 : 2 < a2 := by
          rw [lt_i, k2]
          rw [le_i, nI_toInt (by omega)] at g2; omega
        rw [if_neg e0, if_pos e1]; exact ⟨rfl, h19⟩
    · rw [if_neg g1, if_neg (nI_pos (by omega)), if_neg (show ¬ (2 : Int32) < nI k from nI_nlt (a := 2) (by omega) (by decide))]
      by_cases c1 : a3 ≤ 100
      · rw [if_pos c1, if_pos c1]
        by_cases c2 : 0 ≤ a3
        · rw [if_pos c2, if_pos c2]
          rw [le_i, k0] at c2
          rw [le_i, show (100 : Int32).toInt = 100 by decide] at c1
          obtain ⟨m, hm, rfl⟩ := of_rng (N := 100) c2 c1
          obtain ⟨a, ha⟩ : ∃ a, a = 60 + d := ⟨_, rfl⟩
          obtain ⟨f1, f2⟩ := holdRow_ok (C := C) (x := nI k) (y := nI m) ha
          obtain ⟨l1, l2⟩ := row0_lp (M := up2 (up2 (up2 S 23 d 2) 27 d (nI k)) 28 d (nI m)) hd
          generalize f_X5_holdRow C (44 + d) (nI k) (nI m) = C2 at f1 f2 ⊢
          generalize lp_X7_row_68 101 (nI d) (up2 (up2 (up2 S 23 d 2) 27 d (nI k)) 28 d (nI m)) 0 = R2 at l1 l2 ⊢
          exact ⟨rfl, row_core h19 hd hk hm l1 l2 ha f1 f2⟩
        · rw [if_neg c2, if_neg c2]; exact ⟨rfl, h19⟩
      · rw [if_neg c1, if_neg c1]; exact ⟨rfl, h19⟩
  · rw [hs, if_pos hi]; exact ⟨rfl, h19⟩
