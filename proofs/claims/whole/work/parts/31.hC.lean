-- @needs 30_fC
/-! what the contracts of the class need of its functions -/
theorem mx_I (x y : Int32) : (mx x y).toInt = max x.toInt y.toInt := by
  unfold mx; split
  · have := lt_I ‹_›; omega
  · have := nlt_I ‹_›; omega
theorem mn_I (x y : Int32) : (mn x y).toInt = min x.toInt y.toInt := by
  unfold mn; split
  · have := lt_I ‹_›; omega
  · have := nlt_I ‹_›; omega
theorem take_ok (a : Int32) : 0 ≤ (mx 0 (mn a 100)).toInt ∧ (mx 0 (mn a 100)).toInt ≤ 100 := by
  rw [mx_I, mn_I, show (100 : Int32).toInt = 100 from by decide, Int32.toInt_zero]; omega
theorem ne2_I {y : Int32} (h : 0 < y.toInt) : ¬ 2 * y = 0 := by
  intro q
  have h1 := congrArg Int32.toInt q
  have := Int32.toInt_le y
  rw [Int32.toInt_mul] at h1
  have h2 : Int.bmod (2 * y.toInt) (2^32) = 0 := h1
  have h3 : y.toInt ≤ 2147483647 := this
  have : Int.emod (2 * y.toInt) (2^32) = 2 * y.toInt := Int.emod_eq_of_lt (by omega) (by omega)
  unfold Int.bmod at h2
  simp only at h2
  have h4 : (2 * y.toInt) % (2^32) = 2 * y.toInt := this
  rw [show ((2 ^ 32 : Nat) : Int) = 2 ^ 32 from rfl, h4] at h2
  split at h2 <;> omega
/-- the law's steps: the waiting signs stay -/
theorem addStep_w {M : Mem} {o : Nat} {a : Int32} : f_X2_addStep M o a o 3 = M o 3 := by
  unfold f_X2_addStep
  simp only [bnd]
  split
  · rfl
  · split
    · rfl
    · rw [up2_n _ _ (by omega), up2_n _ _ (by omega)]
theorem stretch_ok {M : Mem} {o : Nat} {a n : Int32} (h : ¬ f_X5_hasStretch M o a n = 0) (hs : 0 ≤ (M o 3).toInt ∧ (M o 3).toInt ≤ 100) : 0 ≤ a.toInt ∧ 0 ≤ n.toInt ∧ a.toInt + n.toInt ≤ 100 := by
  unfold f_X5_hasStretch at h
  simp only [bnd] at h
  split at h
  · exact absurd rfl h
  · rename_i h1
    split at h
    · exact absurd rfl h
    · rename_i h2
      split at h
      · exact absurd rfl h
      · rename_i h3
        split at h
        · exact absurd rfl h
        · rename_i h4
          have h1 := nlt_I h1
          have h2 := nlt_I h2
          have h3 := nlt_I h3
          have h4 := nlt_I h4
          rw [Int32.toInt_sub] at h4
          rw [Int32.toInt_zero] at *
          have h5 : ((M o 3).toInt - a.toInt).bmod (2 ^ 32) = (M o 3).toInt - a.toInt := by rw [Int.bmod_eq_of_le] <;> omega
          rw [h5] at h4
          omega
theorem place_in {M : Mem} {o : Nat} {i : Int32} (hp : ¬ f_X5_hasPlace M o i = 0) : vp_in i 100 := by
  unfold f_X5_hasPlace at hp
  simp only [bnd] at hp
  split at hp
  · exact absurd rfl hp
  · rename_i h1
    split at hp
    · exact absurd rfl hp
    · split at hp
      · exact absurd rfl hp
      · rename_i h3
        have a1 := nlt_I h1
        have a3 := nle_I h3
        rw [Int32.toInt_zero] at a1
        exact vin_I a1 a3
theorem tells_in {M : Mem} {o : Nat} {i : Int32} (h : ¬ f_X5_tellsAt M o i = 0) : vp_in i 100 := by
  have hp : ¬ f_X5_hasPlace M o i = 0 := by
    intro q
    apply h
    unfold f_X5_tellsAt
    simp only [bnd, q, if_true]
    split
    · rfl
    · split <;> rfl
  exact place_in hp
/-! frames: which cells a function may change -/
def Fr (W : Nat → Prop) (M M' : Mem) : Prop := ∀ j, ¬ W j → M' j = M j
theorem Fr.rf {W : Nat → Prop} {M : Mem} : Fr W M M := fun _ _ => rfl
theorem Fr.tr {W : Nat → Prop} {M M1 M2 : Mem} (h : Fr W M M1) (h2 : Fr W M1 M2) : Fr W M M2 := fun j hj => (h2 j hj).trans (h j hj)
theorem Fr.up {W : Nat → Prop} {M : Mem} {i k : Nat} {v : Int32} (h : W i) : Fr W M (up2 M i k v) := fun j hj => up2_o M v (fun q => hj (q ▸ h))
theorem Fr.put {W : Nat → Prop} {M M1 : Mem} {i k : Nat} {v : Int32} (h : W i) (h1 : Fr W M M1) : Fr W M (up2 M1 i k v) := h1.tr (Fr.up h)
theorem Fr.mono {W W' : Nat → Prop} {M M' : Mem} (h : Fr W M M') (hw : ∀ j, W j → W' j) : Fr W' M M' := fun j hj => h j (fun q => hj (hw j q))
theorem Fr.upo {o : Nat} {M : Mem} {k : Nat} {v : Int32} : Fr (· = o) M (up2 M o k v) := Fr.up (W := (· = o)) rfl
theorem Fr.puto {o : Nat} {M M1 : Mem} {k : Nat} {v : Int32} (h1 : Fr (· = o) M M1) : Fr (· = o) M (up2 M1 o k v) := h1.tr Fr.upo
theorem Fr.ite {W : Nat → Prop} {c : Prop} [Decidable c] {M A B : Mem} (ha : Fr W M A) (hb : Fr W M B) : Fr W M (if c then A else B) := by
  split
  · exact ha
  · exact hb
theorem fr_value_lp : ∀ (n o : Nat) (a b : Int32) (M : Mem) (v w : Int32), Fr (· = o + 67) M (lp_X2_valueAt_5 n o a b M v w).2 := by
  intro n
  induction n with
  | zero => intro o a b M v w; exact Fr.rf
  | succ n ih =>
    intro o a b M v w
    have U : ∀ {k : Nat} {x : Int32}, Fr (· = o + 67) M (up2 M (o + 67) k x) := Fr.up (W := (· = o + 67)) rfl
    rw [lp_X2_valueAt_5]
    split
    · exact Fr.rf
    · split
      · exact Fr.rf
      · simp only [bnd, bnd2]
        repeat' split
        all_goals first | exact Fr.tr Fr.rf (ih _ _ _ _ _ _) | exact Fr.tr U (ih _ _ _ _ _ _)
theorem fr_valueAt (M : Mem) (o : Nat) (a b : Int32) : Fr (· = o + 67) M (f_X2_valueAt M o a b).2 := by
  unfold f_X2_valueAt
  simp only [bnd, bnd2]
  exact fr_value_lp _ _ _ _ _ _ _
abbrev WBay (b j : Nat) : Prop := j = b + 6 ∨ j = b + 70
abbrev WRace (o j : Nat) : Prop := j = o ∨ (4 * (o + 3) - 45 ≤ j ∧ j < 4 * (o + 3) - 45 + 4)
theorem fr_windAt (M : Mem) (o : Nat) (a : Int32) : Fr (WBay o) M (f_X0_windAt M o a).2 := by
  unfold f_X0_windAt
  split
  · exact Fr.rf
  · split
    · simp only [bnd, bnd2]
      split
      · exact Fr.rf
      · exact Fr.put (Or.inl rfl) ((fr_valueAt _ _ _ _).mono (fun j h => Or.inr (by omega)))
    · exact Fr.rf
theorem Fr.bd {α : Type} {W : Nat → Prop} {M : Mem} {x : α} {f : α → Mem} (h : ∀ y, Fr W M (f y)) : Fr W M (bnd x f) := h x
theorem Fr.bdM {W : Nat → Prop} {M x : Mem} {f : Mem → Mem} (hx : Fr W M x) (h : ∀ y, Fr W M y → Fr W M (f y)) : Fr W M (bnd x f) := h x hx
theorem fr_sail (M : Mem) (o a1 : Nat) (a2 a3 : Int32) : Fr (· = o) M (f_X1_sail M o a1 a2 a3) := by
  unfold f_X1_sail
  refine Fr.ite ?_ Fr.rf
  refine Fr.bdM ?_ (fun M1 h1 => ?_)
  · refine Fr.ite (Fr.ite ?_ ?_) ?_
    · refine Fr.bd fun t1 => Fr.bd fun t2 => Fr.bd fun t3 => ?_
      exact Fr.bdM Fr.upo fun M2 h2 => Fr.bd fun t4 => Fr.bdM (Fr.puto h2) fun M3 h3 => h3
    · exact Fr.bdM Fr.upo fun M2 h2 => Fr.bdM (Fr.puto h2) fun M3 h3 => h3
    · exact Fr.bd fun t => Fr.bdM Fr.upo fun M3 h3 => h3
  · refine Fr.bdM ?_ fun M2 h2 => h2
    exact Fr.ite h1 (Fr.ite h1 (Fr.bdM (Fr.puto h1) fun M3 h3 => h3))
theorem fr_comeAbout (M : Mem) (o : Nat) (a : Int32) : Fr (· = o) M (f_X1_comeAbout M o a) := by
  unfold f_X1_comeAbout
  simp only [bnd]
  exact Fr.puto (Fr.puto (Fr.upo))
/-- the number of a boat in its race: under the guard of the loops -/
theorem bo_in {v : Int32} {o : Nat} (h0 : 0 ≤ v.toInt) (h : ¬ (4 : Int32) ≤ v) : WRace o (4 * (o + 3) - 45 + v.toNatClampNeg) := by
  have h1 : v.toInt < 4 := nle_I h
  have h2 : (v.toNatClampNeg : Int) = v.toInt := Int.toNat_of_nonneg h0
  right
  omega
theorem nx0 {v : Int32} (h0 : 0 ≤ v.toInt) (h : ¬ (4 : Int32) ≤ v) : 0 ≤ (v + 1).toInt := inv0_I h0 (nle_I h) (by decide)
theorem fr_bad_in : ∀ (n o : Nat) (i : Int32) (M : Mem) (v : Int32), WRace o (4 * (o + 3) - 45 + i.toNatClampNeg) → Fr (WRace o) M (lp_X3_tellBadAir_31' n o i M v) := by
  intro n
  induction n with
  | zero => intro o i M v _; exact Fr.rf
  | succ n ih =>
    intro o i M v hi
    rw [lp_X3_tellBadAir_31']
    split
    · exact Fr.rf
    · split
      · exact Fr.rf
      · simp only [bnd]
        split
        · exact ih _ _ _ _ hi
        · exact (Fr.up hi).tr (ih _ _ _ _ hi)
theorem fr_bad_lp : ∀ (n o : Nat) (M : Mem) (v : Int32), 0 ≤ v.toInt → Fr (WRace o) M (lp_X3_tellBadAir_2 n o M v) := by
  intro n
  induction n with
  | zero => intro o M v _; exact Fr.rf
  | succ n ih =>
    intro o M v h0
    rw [lp_X3_tellBadAir_2]
    split
    · exact Fr.rf
    · split
      · exact Fr.rf
      · rename_i h4
        simp only [bnd]; exact ((Fr.up (bo_in h0 h4)).tr (fr_bad_in _ _ _ _ _ (bo_in h0 h4))).tr (ih _ _ _ (nx0 h0 h4))
theorem fr_bad (M : Mem) (o : Nat) : Fr (WRace o) M (f_X3_tellBadAir M o) := by
  unfold f_X3_tellBadAir; exact fr_bad_lp _ _ _ _ (by decide)
theorem fr_step17 : ∀ (n o a1 : Nat) (w : Int32) (M : Mem) (v : Int32), 0 ≤ v.toInt → Fr (WRace o) M (lp_X3_step_17 n o a1 w M v) := by
  intro n
  induction n with
  | zero => intro o a1 w M v _; exact Fr.rf
  | succ n ih =>
    intro o a1 w M v h0
    rw [lp_X3_step_17]
    split
    · exact Fr.rf
    · split
      · exact Fr.rf
      · rename_i h4
        simp only [bnd]; exact ((fr_sail _ _ _ _ _).mono (fun j h => h ▸ bo_in h0 h4)).tr (ih _ _ _ _ _ (nx0 h0 h4))
theorem fr_step65 : ∀ (n o a1 : Nat) (w : Int32) (M : Mem) (v : Int32), 0 ≤ v.toInt → Fr (WRace o) M (lp_X3_step_65 n o a1 w M v) := by
  intro n
  induction n with
  | zero => intro o a1 w M v _; exact Fr.rf
  | succ n ih =>
    intro o a1 w M v h0
    rw [lp_X3_step_65]
    split
    · exact Fr.rf
    · split
      · exact Fr.rf
      · rename_i h4
        simp only [bnd]; exact (Fr.up (bo_in h0 h4)).tr (ih _ _ _ _ _ (nx0 h0 h4))
theorem fr_step140 : ∀ (n o a1 : Nat) (M : Mem) (v : Int32), 0 ≤ v.toInt → Fr (WRace o) M (lp_X3_step_140 n o a1 M v) := by
  intro n
  induction n with
  | zero => intro o a1 M v _; exact Fr.rf
  | succ n ih =>
    intro o a1 M v h0
    rw [lp_X3_step_140]
    split
    · exact Fr.rf
    · split
      · exact Fr.rf
      · rename_i h4
        simp only [bnd]
        refine Fr.tr ?_ (ih _ _ _ _ (nx0 h0 h4))
        split
        · exact Fr.rf
        · exact (fr_comeAbout _ _ _).mono (fun j h => h ▸ bo_in h0 h4)
theorem fr_step (M : Mem) (o a1 : Nat) (a2 a3 : Int32) : Fr (WRace o) M (f_X3_step M o a1 a2 a3) := by
  unfold f_X3_step
  simp only [bnd]
  exact (((((fr_bad _ _).tr (Fr.up (Or.inl rfl))).tr (fr_step17 _ _ _ _ _ _ (by decide))).tr (fr_bad _ _)).tr (fr_step65 _ _ _ _ _ _ (by decide))).tr (fr_step140 _ _ _ _ _ (by decide))
theorem fr_goOn_lp : ∀ (n o a1 : Nat) (a2 : Int32) (M : Mem) (v : Int32), Fr (fun j => WRace o j ∨ WBay a1 j) M (lp_X3_goOn_2 n o a1 a2 M v) := by
  intro n
  induction n with
  | zero => intro o a1 a2 M v; exact Fr.rf
  | succ n ih =>
    intro o a1 a2 M v
    have R : ∀ {M M'}, Fr (WRace o) M M' → Fr (fun j => WRace o j ∨ WBay a1 j) M M' := fun h => h.mono (fun j q => Or.inl q)
    have B : ∀ {M M'}, Fr (WBay a1) M M' → Fr (fun j => WRace o j ∨ WBay a1 j) M M' := fun h => h.mono (fun j q => Or.inr q)
    rw [lp_X3_goOn_2]
    split
    · exact Fr.rf
    · split
      · exact Fr.rf
      · simp only [bnd, bnd2]; exact (((B (fr_windAt _ _ _)).tr (B (fr_windAt _ _ _))).tr (R (fr_step _ _ _ _ _))).tr (ih _ _ _ _ _)
theorem fr_goOn (M : Mem) (o a1 : Nat) (a2 : Int32) : Fr (fun j => WRace o j ∨ WBay a1 j) M (f_X3_goOn M o a1 a2) := by
  unfold f_X3_goOn; exact fr_goOn_lp _ _ _ _ _ _
theorem goOn_shf {M : Mem} {a : Nat} {n : Int32} (h : 43 ≤ a ∧ a ≤ 67) : f_X3_goOn M 15 1 n a = M a := fr_goOn M 15 1 n a (by omega)
theorem notFull {M : Mem} {o : Nat} (h : f_X3_isFull M o = 0) : (M o 1).toInt < 4 := by
  unfold f_X3_isFull at h
  simp only [bnd] at h
  split at h
  · exact lt_I ‹_›
  · exact absurd h (by decide)
