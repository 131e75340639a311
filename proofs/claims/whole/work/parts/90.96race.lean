/-! one boat's second, both sides -/
theorem i_add {a b : Int32} (h : -2147483648 ≤ a.toInt + b.toInt ∧ a.toInt + b.toInt < 2147483648) : (a + b).toInt = a.toInt + b.toInt := by
  rw [Int32.toInt_add]
  exact Int.bmod_eq_of_le (by omega) (by omega)
theorem i_sub {a b : Int32} (h : -2147483648 ≤ a.toInt - b.toInt ∧ a.toInt - b.toInt < 2147483648) : (a - b).toInt = a.toInt - b.toInt := by
  rw [Int32.toInt_sub]
  exact Int.bmod_eq_of_le (by omega) (by omega)
theorem i_neg {a : Int32} (h : -2147483648 < a.toInt) : (-a).toInt = -a.toInt := by
  have := Int32.toInt_lt a
  rw [Int32.toInt_neg]
  exact Int.bmod_eq_of_le (by omega) (by omega)
theorem i_mul {a b : Int32} (h : -2147483648 ≤ a.toInt * b.toInt ∧ a.toInt * b.toInt < 2147483648) : (a * b).toInt = a.toInt * b.toInt := by
  rw [Int32.toInt_mul]
  exact Int.bmod_eq_of_le (by omega) (by omega)
theorem k0 : (0 : Int32).toInt = 0 := by decide
theorem k1 : (1 : Int32).toInt = 1 := by decide
theorem k8 : (8 : Int32).toInt = 8 := by decide
theorem km8 : (-8 : Int32).toInt = -8 := by decide
theorem k200 : (200 : Int32).toInt = 200 := by decide
theorem km200 : (-200 : Int32).toInt = -200 := by decide
theorem km4 : (-4 : Int32).toInt = -4 := by decide
theorem ab_I {x : Int32} (h : -2147483648 < x.toInt) : (ab x).toInt = if 0 ≤ x.toInt then x.toInt else -x.toInt := by
  unfold ab
  have e : (0 ≤ x) ↔ 0 ≤ x.toInt := le_i
  have := Int32.toInt_lt x
  by_cases h0 : 0 ≤ x.toInt
  · rw [if_pos (e.mpr h0), if_pos h0]
  · rw [if_neg (fun q => h0 (e.mp q)), if_neg h0, i_sub (by rw [k0]; omega), k0]; omega
/-- right or not, and the way -/
def WY (c w : Int32) : Prop := (c = 1 ∧ w = 1) ∨ (c = 0 ∧ w = -1)
def bx (x : Int32) : Prop := -200 ≤ x.toInt ∧ x.toInt ≤ 200
theorem x_dist {x : Int32} (h : bx x) : (if x ≤ 0 then mn 0 (x + 8) else mx 0 (x - 8)) = (if x ≤ 8 then (if (-8) ≤ x then 0 else x + 8) else x - 8) ∧ bx (if x ≤ 0 then mn 0 (x + 8) else mx 0 (x - 8)) := by
  unfold bx at h ⊢
  have ea : (x + 8).toInt = x.toInt + 8 := by rw [i_add (by rw [k8]; omega), k8]
  have es : (x - 8).toInt = x.toInt - 8 := by rw [i_sub (by rw [k8]; omega), k8]
  have c1 : x ≤ 0 ↔ x.toInt ≤ 0 := le_i
  have c2 : x ≤ 8 ↔ x.toInt ≤ 8 := le_i
  have c3 : -8 ≤ x ↔ -8 ≤ x.toInt := le_i
  refine ⟨?_, ?_⟩
  · apply eq_i.mpr
    by_cases h1 : x.toInt ≤ 0
    · rw [if_pos (c1.mpr h1), if_pos (c2.mpr (by omega)), mn_i, ea, k0]
      by_cases h3 : -8 ≤ x.toInt
      · rw [if_pos (c3.mpr h3), k0]; omega
      · rw [if_neg (fun q => h3 (c3.mp q)), ea]; omega
    · rw [if_neg (fun q => h1 (c1.mp q)), mx_i, es, k0]
      by_cases h2 : x.toInt ≤ 8
      · rw [if_pos (c2.mpr h2), if_pos (c3.mpr (by omega)), k0]; omega
      · rw [if_neg (fun q => h2 (c2.mp q)), es]; omega
  · by_cases h1 : x.toInt ≤ 0
    · rw [if_pos (c1.mpr h1), mn_i, ea, k0]; omega
    · rw [if_neg (fun q => h1 (c1.mp q)), mx_i, es, k0]; omega
theorem x_right {x : Int32} (h : bx x) : mn 200 (x + 8) = (if x + 8 * 1 ≤ 200 then (if (-200) ≤ x + 8 * 1 then x + 8 * 1 else (-200)) else 200) ∧ bx (mn 200 (x + 8)) := by
  unfold bx at h ⊢
  have ea : (x + 8).toInt = x.toInt + 8 := by rw [i_add (by rw [k8]; omega), k8]
  have c1 : x + 8 ≤ 200 ↔ (x + 8).toInt ≤ 200 := le_i
  have c2 : -200 ≤ x + 8 ↔ -200 ≤ (x + 8).toInt := le_i
  rw [ea] at c1 c2
  rw [show (8 : Int32) * 1 = 8 by decide]
  refine ⟨?_, ?_⟩
  · apply eq_i.mpr
    rw [mn_i, ea, k200]
    by_cases h1 : x.toInt + 8 ≤ 200
    · rw [if_pos (c1.mpr h1), if_pos (c2.mpr (by omega)), ea]; omega
    · rw [if_neg (fun q => h1 (c1.mp q)), k200]; omega
  · rw [mn_i, ea, k200]; omega
theorem x_left {x : Int32} (h : bx x) : mx (-200) (x - 8) = (if x + 8 * -1 ≤ 200 then (if (-200) ≤ x + 8 * -1 then x + 8 * -1 else (-200)) else 200) ∧ bx (mx (-200) (x - 8)) := by
  unfold bx at h ⊢
  have es : (x - 8).toInt = x.toInt - 8 := by rw [i_sub (by rw [k8]; omega), k8]
  have c1 : x - 8 ≤ 200 ↔ (x - 8).toInt ≤ 200 := le_i
  have c2 : -200 ≤ x - 8 ↔ -200 ≤ (x - 8).toInt := le_i
  rw [es] at c1 c2
  rw [show (8 : Int32) * -1 = -8 by decide, ← Int32.sub_eq_add_neg]
  refine ⟨?_, ?_⟩
  · apply eq_i.mpr
    rw [mx_i, es, km200]
    rw [if_pos (c1.mpr (by omega))]
    by_cases h2 : -200 ≤ x.toInt - 8
    · rw [if_pos (c2.mpr h2), es]; omega
    · rw [if_neg (fun q => h2 (c2.mp q)), km200]; omega
  · rw [mx_i, es, km200]; omega
theorem mx0 (y : Int32) : mx 0 y = if 0 ≤ y then y else 0 := by
  apply eq_i.mpr
  rw [mx_i, k0]
  have c1 : (0 : Int32) ≤ y ↔ 0 ≤ y.toInt := le_i
  by_cases h : 0 ≤ y.toInt
  · rw [if_pos (c1.mpr h)]; omega
  · rw [if_neg (fun q => h (c1.mp q)), k0]; omega
theorem up_right (z b t : Int32) : (6 - z) - (b + t) = ((6 - 1 * z) - b) - t := by
  rw [Int32.one_mul, Int32.sub_sub (6 - z)]
theorem up_left (z b t : Int32) : (6 + z) - (b + t) = ((6 - -1 * z) - b) - t := by
  rw [Int32.neg_mul, Int32.one_mul, Int32.sub_neg, Int32.sub_sub]
/-- what moves of one boat -/
def BX (C R : Mem) (b i : Nat) : Prop := C b 3 = R 6 i ∧ C b 4 = R 7 i ∧ WY (C b 5) (R 8 i) ∧ C b 6 = R 9 i ∧ C b 7 = R 10 i ∧ C b 8 = R 11 i ∧ bx (R 6 i) ∧ (R 10 i = -4 ∨ 0 ≤ (R 10 i).toInt)
theorem ite_fr {p : Prop} [Decidable p] {A B : Mem} {j q : Nat} {v : Int32} (hA : A j q = v) (hB : B j q = v) : (if p then A else B) j q = v := by split <;> assumption
theorem ite_P {α : Type} {p : Prop} [Decidable p] {A B : α} {P : α → Prop} (hA : p → P A) (hB : ¬ p → P B) : P (if p then A else B) := by
  by_cases h : p
  · rw [if_pos h]; exact hA h
  · rw [if_neg h]; exact hB h
theorem bnd_P {α β : Type} {x : α} {f : α → β} {P : β → Prop} (Q : α → Prop) (h1 : Q x) (h2 : ∀ y, Q y → P (f y)) : P (bnd x f) := h2 x h1
theorem isInC {C : Mem} {b : Nat} : f_X1_isIn C b = 0 ↔ C b 7 = -4 := by
  unfold f_X1_isIn; simp only [bnd]; split <;> rename_i h <;> simp [h]
theorem isInM {R : Mem} {i : Nat} (hi : i < 4) (h : R 10 i = -4 ∨ 0 ≤ (R 10 i).toInt) : f_X7_isIn R (nI i) = 0 ↔ R 10 i = -4 := by
  unfold f_X7_isIn; simp only [bnd]
  rw [nI_clamp (by omega)]
  have c1 : R 10 i < 0 ↔ (R 10 i).toInt < 0 := lt_i
  constructor
  · intro q
    by_cases h1 : R 10 i < 0
    · exact h.resolve_right (fun q => by have := c1.mp h1; omega)
    · rw [if_neg h1] at q; exact absurd q (by decide)
  · intro q
    rw [if_pos (by rw [q]; decide)]
theorem atM {R : Mem} {i : Nat} (hi : i < 4) : f_X7_isAtDist R (nI i) = 0 ↔ R 7 i < R 0 0 := by
  unfold f_X7_isAtDist; simp only [bnd]
  rw [nI_clamp (by omega)]
  split <;> rename_i h <;> simp [h]
theorem tide_eq {C R : Mem} {a : Nat} (h1 : C a 1 = R 0 1) (h2 : C a 2 = R 0 2) (x : Int32) : f_X0_tideAt C a x = f_X7_tideAt R x := by
  unfold f_X0_tideAt f_X7_tideAt
  simp only [bnd]
  rw [plainly_eq, h1, h2]
theorem sail_fr {C : Mem} {b a : Nat} {w s : Int32} {j q : Nat} (h : ¬ (j = b ∧ 3 ≤ q ∧ q ≤ 7)) : f_X1_sail C b a w s j q = C j q := by
  unfold f_X1_sail
  refine ite_fr ?_ rfl
  refine bnd_P (P := fun X : Mem => X j q = C j q) (fun X => X j q = C j q) ?_ ?_
  · refine ite_fr (ite_fr ?_ ?_) ?_
    · simp only [bnd]; rw [up2_n _ _ (by omega), up2_n _ _ (by omega)]
    · simp only [bnd]; rw [up2_n _ _ (by omega), up2_n _ _ (by omega)]
    · simp only [bnd]; rw [up2_n _ _ (by omega)]
  · intro X hX
    simp only [bnd]
    refine ite_fr hX (ite_fr hX ?_)
    rw [up2_n _ _ (by omega)]; exact hX
theorem move_fr {R : Mem} {i : Nat} (hi : i < 4) {w : Int32} {j q : Nat} (h : ¬ (q = i ∧ 6 ≤ j ∧ j ≤ 11)) : f_X7_moveOne R (nI i) w j q = R j q := by
  unfold f_X7_moveOne
  rw [nI_clamp (by omega)]
  refine bnd_P (P := fun X : Mem => X j q = R j q) (fun _ => True) trivial ?_
  intro x _
  refine bnd_P (P := fun X : Mem => X j q = R j q) (fun X => X j q = R j q) ?_ ?_
  · refine ite_fr (ite_fr ?_ ?_) ?_
    · simp only [bnd]; rw [up2_n _ _ (by omega), up2_n _ _ (by omega)]
    · simp only [bnd]; rw [up2_n _ _ (by omega), up2_n _ _ (by omega)]
    · simp only [bnd]; rw [up2_n _ _ (by omega)]
  · intro X hX
    simp only [bnd]
    refine ite_fr hX (ite_fr hX ?_)
    rw [up2_n _ _ (by omega)]; exact hX
/-- the second phase: who came in -/
theorem in_sim {X Y : Mem} {b a i : Nat} {s : Int32} (hi : i < 4) (hab : a ≠ b) (hB : BX X Y b i) (hd : X a 0 = Y 0 0) (hs : s = Y 0 7 + 1) (hs0 : 0 ≤ s.toInt) :
    BX (if X b 4 < X a 0 then X else (if ¬ X b 3 = 0 then X else up2 X b 7 s)) (if ¬ Y 6 i = 0 then Y else (if f_X7_isAtDist Y (nI i) = 0 then Y else up2 Y 10 i (Y 0 7 + 1))) b i := by
  obtain ⟨e3, e4, e5, e6, e7, e8, hx, hin⟩ := hB
  by_cases h1 : X b 4 < X a 0
  · rw [if_pos h1]
    have h1' : f_X7_isAtDist Y (nI i) = 0 := (atM hi).mpr (by rw [← e4, ← hd]; exact h1)
    rw [if_pos h1', ite_self]
    exact ⟨e3, e4, e5, e6, e7, e8, hx, hin⟩
  · rw [if_neg h1]
    have h1' : ¬ f_X7_isAtDist Y (nI i) = 0 := fun q => h1 (by have := (atM hi).mp q; rw [e4, hd]; exact this)
    rw [if_neg h1', e3]
    by_cases h2 : Y 6 i = 0
    · rw [if_neg (not_not_intro h2), if_neg (not_not_intro h2)]
      refine ⟨by rw [up2_n _ _ (by omega), up2_n _ _ (by omega)]; exact e3, by rw [up2_n _ _ (by omega), up2_n _ _ (by omega)]; exact e4, by rw [up2_n _ _ (by omega), up2_n _ _ (by omega)]; exact e5, by rw [up2_n _ _ (by omega), up2_n _ _ (by omega)]; exact e6,
        by rw [up2_s, up2_s, hs], by rw [up2_n _ _ (by omega), up2_n _ _ (by omega)]; exact e8, by rw [up2_n _ _ (by omega)]; exact hx, by rw [up2_s, ← hs]; exact Or.inr hs0⟩
    · rw [if_pos h2, if_pos h2]
      exact ⟨e3, e4, e5, e6, e7, e8, hx, hin⟩
theorem WY0 {c w : Int32} (h : WY c w) : (b01 c = 0 ∧ c = 0 ∧ w = -1) ∨ (¬ b01 c = 0 ∧ c = 1 ∧ w = 1) := by
  rcases h with ⟨rfl, rfl⟩ | ⟨rfl, rfl⟩
  · exact Or.inr ⟨by decide, rfl, rfl⟩
  · exact Or.inl ⟨by decide, rfl, rfl⟩
theorem sail_two (C : Mem) (b a : Nat) (w s : Int32) : ∃ X : Mem, X = (if C b 4 < C a 0 then
(if C b 6 ≤ 0 then
(bnd (if b01 (C b 5) = 0 then
((6 + (w / 5)))
else ((6 - (w / 5)))) fun (t_11 : Int32) =>
bnd (if b01 (C b 9) = 0 then
(0)
else (2)) fun (t_14 : Int32) =>
bnd (t_11 - (t_14 + (f_X0_tideAt C a (C b 3)))) fun y_18 =>
bnd (up2 C b 4 ((C b 4) + (mx 0 y_18))) fun M_19 =>
bnd (if b01 (M_19 b 5) = 0 then
((mx (-200) ((M_19 b 3) - 8)))
else ((mn 200 ((M_19 b 3) + 8)))) fun (t_22 : Int32) =>
bnd (up2 M_19 b 3 t_22) fun M_23 =>
M_23)
else (bnd (up2 C b 6 ((C b 6) - 1)) fun M_24 =>
bnd (up2 M_24 b 4 (mx 0 ((M_24 b 4) - (f_X0_tideAt M_24 a (M_24 b 3))))) fun M_28 =>
M_28))
else (bnd (if C b 3 ≤ 0 then
((mn 0 ((C b 3) + 8)))
else ((mx 0 ((C b 3) - 8)))) fun (t_31 : Int32) =>
bnd (up2 C b 3 t_31) fun M_32 =>
M_32)) ∧ f_X1_sail C b a w s = if f_X1_isIn C b = 0 then (if X b 4 < X a 0 then X else (if ¬ X b 3 = 0 then X else up2 X b 7 s)) else C := ⟨_, rfl, rfl⟩
theorem move_two (R : Mem) (i : Nat) (hi : i < 4) (w : Int32) : ∃ Y : Mem, Y = (if f_X7_isAtDist R (nI i) = 0 then
(if R 9 i ≤ 0 then
(bnd (if ¬ R 18 i = 1 then
(0)
else (2)) fun (t_11 : Int32) =>
bnd (((6 - ((R 8 i) * (w / 5))) - t_11) - (f_X7_tideAt R (R 6 i))) fun y_15 =>
bnd ((R 6 i) + (8 * (R 8 i))) fun y_16 =>
bnd (if 0 ≤ y_15 then
(y_15)
else (0)) fun (t_19 : Int32) =>
bnd (up2 R 7 i ((R 7 i) + t_19)) fun M_20 =>
bnd (if y_16 ≤ 200 then
(if (-200) ≤ y_16 then
(y_16)
else ((-200)))
else (200)) fun (t_24 : Int32) =>
bnd (up2 M_20 6 i t_24) fun M_25 =>
M_25)
else (bnd ((R 7 i) - (f_X7_tideAt R (R 6 i))) fun y_29 =>
bnd (if 0 ≤ y_29 then
(y_29)
else (0)) fun (t_32 : Int32) =>
bnd (up2 R 7 i t_32) fun M_33 =>
bnd (up2 M_33 9 i ((M_33 9 i) - 1)) fun M_34 =>
M_34))
else (bnd (if R 6 i ≤ 8 then
(if (-8) ≤ R 6 i then
(0)
else ((R 6 i + 8)))
else ((R 6 i - 8))) fun (t_38 : Int32) =>
bnd (up2 R 6 i t_38) fun M_39 =>
M_39)) ∧ f_X7_moveOne R (nI i) w = (if ¬ Y 6 i = 0 then Y else (if f_X7_isAtDist Y (nI i) = 0 then Y else up2 Y 10 i (Y 0 7 + 1))) := by
  unfold f_X7_moveOne
  rw [nI_clamp (by omega)]
  exact ⟨_, rfl, rfl⟩
theorem sail_sim {C R : Mem} {b a i : Nat} {w s : Int32} (hi : i < 4) (hab : a ≠ b) (hB : BX C R b i) (hd : C a 0 = R 0 0) (h1 : C a 1 = R 0 1) (h2 : C a 2 = R 0 2) (hbad : b01 (C b 9) = R 18 i) (hs : s = R 0 7 + 1) (hs0 : 0 ≤ s.toInt) :
    BX (f_X1_sail C b a w s) (if ¬ f_X7_isIn R (nI i) = 0 then R else f_X7_moveOne R (nI i) w) b i := by
  have hB' := hB
  obtain ⟨e3, e4, e5, e6, e7, e8, hx, hin⟩ := hB
  obtain ⟨X, hX, hXs⟩ := sail_two C b a w s
  obtain ⟨Y, hY, hYs⟩ := move_two R i hi w
  rw [hXs, hYs]
  by_cases hii : C b 7 = -4
  · rw [if_pos (isInC.mpr hii), if_neg (not_not_intro ((isInM hi hin).mpr (by rw [← e7]; exact hii)))]
    have ht := tide_eq h1 h2
    by_cases hdd : C b 4 < C a 0
    · rw [if_pos hdd] at hX
      rw [if_pos ((atM hi).mpr (by rw [← e4, ← hd]; exact hdd))] at hY
      by_cases htu : C b 6 ≤ 0
      · rw [if_pos htu] at hX
        rw [if_pos (by rw [← e6]; exact htu)] at hY
        simp only [bnd] at hX hY
        have hb : (if b01 (C b 9) = 0 then (0 : Int32) else 2) = if ¬ R 18 i = 1 then 0 else 2 := by
          rw [← hbad]; unfold b01; split <;> simp
        rw [hb] at hX
        subst hX hY
        refine in_sim hi hab ⟨?_, ?_, ?_, ?_, ?_, ?_, ?_, ?_⟩ ?_ ?_ hs0
        · rcases WY0 e5 with ⟨w1, _, w2⟩ | ⟨w1, _, w2⟩
          · rw [up2_s, up2_s, up2_n _ _ (by omega), up2_n _ _ (by omega), if_pos w1, e3, w2]; exact (x_left hx).1
          · rw [up2_s, up2_s, up2_n _ _ (by omega), up2_n _ _ (by omega), if_neg w1, e3, w2]; exact (x_right hx).1
        · rw [up2_n _ _ (by omega), up2_s, up2_n _ _ (by omega), up2_s, e4, e3, ht, mx0]
          rcases WY0 e5 with ⟨w1, _, w2⟩ | ⟨w1, _, w2⟩
          · rw [if_pos w1, w2, up_left]
          · rw [if_neg w1, w2, up_right]
        · rw [up2_n _ _ (by omega), up2_n _ _ (by omega), up2_n _ _ (by omega), up2_n _ _ (by omega)]; exact e5
        · rw [up2_n _ _ (by omega), up2_n _ _ (by omega), up2_n _ _ (by omega), up2_n _ _ (by omega)]; exact e6
        · rw [up2_n _ _ (by omega), up2_n _ _ (by omega), up2_n _ _ (by omega), up2_n _ _ (by omega)]; exact e7
        · rw [up2_n _ _ (by omega), up2_n _ _ (by omega), up2_n _ _ (by omega), up2_n _ _ (by omega)]; exact e8
        · rw [up2_s]
          rcases WY0 e5 with ⟨w1, _, w2⟩ | ⟨w1, _, w2⟩
          · rw [w2, ← (x_left hx).1]; exact (x_left hx).2
          · rw [w2, ← (x_right hx).1]; exact (x_right hx).2
        · rw [up2_n _ _ (by omega), up2_n _ _ (by omega)]; exact hin
        · rw [up2_n _ _ (by omega), up2_n _ _ (by omega), up2_n _ _ (by omega), up2_n _ _ (by omega)]; exact hd
        · rw [up2_n _ _ (by omega), up2_n _ _ (by omega)]; exact hs
      · rw [if_neg htu] at hX
        rw [if_neg (by rw [← e6]; exact htu)] at hY
        simp only [bnd] at hX hY
        subst hX hY
        refine in_sim hi hab ⟨?_, ?_, ?_, ?_, ?_, ?_, ?_, ?_⟩ ?_ ?_ hs0
        · rw [up2_n _ _ (by omega), up2_n _ _ (by omega), up2_n _ _ (by omega), up2_n _ _ (by omega)]; exact e3
        · rw [up2_s, up2_n _ _ (by omega), up2_n _ _ (by omega), up2_n _ _ (by omega), up2_s, mx0, e4, e3,
            show f_X0_tideAt (up2 C b 6 (C b 6 - 1)) a (R 6 i) = f_X7_tideAt R (R 6 i) from tide_eq (by rw [up2_n _ _ (by omega)]; exact h1) (by rw [up2_n _ _ (by omega)]; exact h2) _]
        · rw [up2_n _ _ (by omega), up2_n _ _ (by omega), up2_n _ _ (by omega), up2_n _ _ (by omega)]; exact e5
        · rw [up2_n _ _ (by omega), up2_s, up2_s, up2_n _ _ (by omega), e6]
        · rw [up2_n _ _ (by omega), up2_n _ _ (by omega), up2_n _ _ (by omega), up2_n _ _ (by omega)]; exact e7
        · rw [up2_n _ _ (by omega), up2_n _ _ (by omega), up2_n _ _ (by omega), up2_n _ _ (by omega)]; exact e8
        · rw [up2_n _ _ (by omega), up2_n _ _ (by omega)]; exact hx
        · rw [up2_n _ _ (by omega), up2_n _ _ (by omega)]; exact hin
        · rw [up2_n _ _ (by omega), up2_n _ _ (by omega), up2_n _ _ (by omega), up2_n _ _ (by omega)]; exact hd
        · rw [up2_n _ _ (by omega), up2_n _ _ (by omega)]; exact hs
    · rw [if_neg hdd] at hX
      rw [if_neg (fun q => hdd (by have := (atM hi).mp q; rw [e4, hd]; exact this))] at hY
      simp only [bnd] at hX hY
      subst hX hY
      refine in_sim hi hab ⟨?_, ?_, ?_, ?_, ?_, ?_, ?_, ?_⟩ ?_ ?_ hs0
      · rw [up2_s, up2_s, e3]; exact (x_dist hx).1
      · rw [up2_n _ _ (by omega), up2_n _ _ (by omega)]; exact e4
      · rw [up2_n _ _ (by omega), up2_n _ _ (by omega)]; exact e5
      · rw [up2_n _ _ (by omega), up2_n _ _ (by omega)]; exact e6
      · rw [up2_n _ _ (by omega), up2_n _ _ (by omega)]; exact e7
      · rw [up2_n _ _ (by omega), up2_n _ _ (by omega)]; exact e8
      · rw [up2_s, ← (x_dist hx).1]; exact (x_dist hx).2
      · rw [up2_n _ _ (by omega)]; exact hin
      · rw [up2_n _ _ (by omega), up2_n _ _ (by omega)]; exact hd
      · rw [up2_n _ _ (by omega)]; exact hs
  · rw [if_neg (fun q => hii (isInC.mp q)), if_pos (fun q => hii (by rw [e7]; exact (isInM hi hin).mp q))]
    exact hB'
