-- @needs 33_hM
/-! frames of the reference's races -/
abbrev WBo (j : Nat) : Prop := 6 ≤ j ∧ j ≤ 11 ∨ j = 18 ∨ j = 19
theorem fr_moveOne (M : Mem) (b w : Int32) : Fr WBo M (f_X7_moveOne M b w) := by
  unfold f_X7_moveOne
  refine Fr.bd fun y1 => ?_
  refine Fr.bdM ?_ fun M1 h1 => ?_
  · refine Fr.ite (Fr.ite ?_ ?_) ?_
    · refine Fr.bd fun _ => Fr.bd fun _ => Fr.bd fun _ => Fr.bd fun _ => ?_
      exact Fr.bdM (Fr.up (by decide)) fun M2 h2 => Fr.bd fun _ => Fr.bdM (Fr.put (by decide) h2) fun M3 h3 => h3
    · refine Fr.bd fun _ => Fr.bd fun _ => ?_
      exact Fr.bdM (Fr.up (by decide)) fun M2 h2 => Fr.bdM (Fr.put (by decide) h2) fun M3 h3 => h3
    · exact Fr.bd fun _ => Fr.bdM (Fr.up (by decide)) fun M3 h3 => h3
  · refine Fr.bdM ?_ fun M2 h2 => h2
    exact Fr.ite h1 (Fr.ite h1 (Fr.bdM (Fr.put (by decide) h1) fun M3 h3 => h3))
theorem fr_turnOne (M : Mem) (b : Int32) : Fr WBo M (f_X7_turnOne M b) := by
  unfold f_X7_turnOne
  exact Fr.bdM (Fr.up (by decide)) fun M1 h1 => Fr.bdM (Fr.put (by decide) h1) fun M2 h2 => Fr.bdM (Fr.put (by decide) h2) fun M3 h3 => h3
theorem fr_begin (M : Mem) (b : Int32) : Fr WBo M (f_X7_begin M b) := by
  unfold f_X7_begin
  exact Fr.bdM (Fr.up (by decide)) fun M1 h1 => Fr.bdM (Fr.put (by decide) h1) fun M2 h2 => Fr.bdM (Fr.put (by decide) h2) fun M3 h3 => Fr.bdM (Fr.put (by decide) h3) fun M4 h4 => Fr.bdM (Fr.put (by decide) h4) fun M5 h5 => Fr.bdM (Fr.put (by decide) h5) fun M6 h6 => h6
theorem fr_moveAll_2 : ∀ (n : Nat) (M : Mem) (v : Int32), Fr WBo M (lp_X7_moveAll_2 n M v) := by
  intro n
  induction n with
  | zero => intro M v; exact Fr.rf
  | succ n ih =>
    intro M v
    rw [lp_X7_moveAll_2]
    refine Fr.ite Fr.rf ?_
    exact Fr.bd fun t => Fr.bdM (Fr.up (by decide)) fun M1 h1 => Fr.bd fun y => h1.tr (ih _ _)
theorem fr_moveAll_37 : ∀ (n : Nat) (M : Mem) (v : Int32), Fr WBo M (lp_X7_moveAll_37 n M v) := by
  intro n
  induction n with
  | zero => intro M v; exact Fr.rf
  | succ n ih =>
    intro M v
    rw [lp_X7_moveAll_37]
    refine Fr.ite Fr.rf ?_
    refine Fr.bdM (Fr.ite Fr.rf (Fr.bdM (fr_moveOne _ _ _) fun M1 h1 => h1)) fun M2 h2 => Fr.bd fun y => h2.tr (ih _ _)
theorem fr_turnAll_2 : ∀ (n : Nat) (M : Mem) (v : Int32), Fr WBo M (lp_X7_turnAll_2 n M v) := by
  intro n
  induction n with
  | zero => intro M v; exact Fr.rf
  | succ n ih =>
    intro M v
    rw [lp_X7_turnAll_2]
    refine Fr.ite Fr.rf ?_
    refine Fr.bdM (Fr.ite Fr.rf (Fr.bdM (fr_turnOne _ _) fun M1 h1 => h1)) fun M2 h2 => Fr.bd fun y => h2.tr (ih _ _)
theorem fr_turnAll (M : Mem) : Fr WBo M (f_X7_turnAll M) := by
  unfold f_X7_turnAll; exact fr_turnAll_2 _ _ _
theorem fr_raceOn_6 : ∀ (n : Nat) (M : Mem) (v : Int32), Fr WBo M (lp_X7_raceOn_6 n M v) := by
  intro n
  induction n with
  | zero => intro M v; exact Fr.rf
  | succ n ih =>
    intro M v
    rw [lp_X7_raceOn_6]
    refine Fr.ite Fr.rf ?_
    exact Fr.bd fun t => Fr.bdM (Fr.up (by decide)) fun M1 h1 => Fr.bd fun y => h1.tr (ih _ _)
theorem fr_bitsOn_6 : ∀ (n : Nat) (M : Mem) (v : Int32), Fr WBo M (lp_X7_bitsOn_6 n M v) := by
  intro n
  induction n with
  | zero => intro M v; exact Fr.rf
  | succ n ih =>
    intro M v
    rw [lp_X7_bitsOn_6]
    refine Fr.ite Fr.rf ?_
    exact Fr.bd fun t => Fr.bdM (Fr.up (by decide)) fun M1 h1 => Fr.bd fun y => h1.tr (ih _ _)
theorem moveAll_row (M : Mem) : f_X7_moveAll M 0 = upd (M 0) 7 (M 0 7 + 1) := by
  unfold f_X7_moveAll
  have h1 := fr_moveAll_2 5 M 0
  have h2 := fr_moveAll_37 5 (lp_X7_moveAll_2 5 M 0) 0
  have e : lp_X7_moveAll_37 5 (lp_X7_moveAll_2 5 M 0) 0 0 = M 0 := (h2 0 (by decide)).trans (h1 0 (by decide))
  show up2 _ 0 7 _ 0 = _
  rw [up2_row, e]
theorem raceOn_row (M : Mem) : f_X7_raceOn M 0 = upd (M 0) 7 (M 0 7 + 1) := by
  unfold f_X7_raceOn
  show f_X7_turnAll (lp_X7_raceOn_6 5 (f_X7_moveAll M) 0) 0 = _
  rw [fr_turnAll _ 0 (by decide), fr_raceOn_6 5 _ 0 0 (by decide), moveAll_row]
theorem bitsOn_row (M : Mem) : f_X7_bitsOn M 0 = upd (M 0) 7 (M 0 7 + 1) := by
  unfold f_X7_bitsOn
  show f_X7_turnAll (lp_X7_bitsOn_6 5 (f_X7_moveAll M) 0) 0 = _
  rw [fr_turnAll _ 0 (by decide), fr_bitsOn_6 5 _ 0 0 (by decide), moveAll_row]
theorem raceOn_sec {M M' : Mem} (h : f_X7_raceOn M = M') : M' 0 7 = M 0 7 + 1 := by subst h; rw [raceOn_row]; simp [upd]
theorem bitsOn_sec {M M' : Mem} (h : f_X7_bitsOn M = M') : M' 0 7 = M 0 7 + 1 := by subst h; rw [bitsOn_row]; simp [upd]
theorem sl_moveOne_0_7 {M M' : Mem} {b w : Int32} (h : f_X7_moveOne M b w = M') : M' 0 7 = M 0 7 := by subst h; rw [fr_moveOne _ _ _ 0 (by decide)]
theorem sl_begin_0_8 {M M' : Mem} {b : Int32} (h : f_X7_begin M b = M') : M' 0 8 = M 0 8 := by subst h; rw [fr_begin _ _ 0 (by decide)]
/-! the carrying of the boats: 40 places -/
theorem cst {M : Mem} {i k : Nat} {v : Int32} (p : Int) (hi : i ≠ 0) (hp : (M 0 36).toInt = p ∧ 0 ≤ p ∧ p < 150) : ((up2 (f_X7_carry M v).2 i k (f_X7_carry M v).1) 0 36).toInt = p + 1 ∧ (up2 (f_X7_carry M v).2 i k (f_X7_carry M v).1) 0 38 = M 0 38 := by
  rcases h : f_X7_carry M v with ⟨r, M1⟩
  have := carry_at (by omega) h
  rw [up2_o _ _ (Ne.symm hi)]
  exact ⟨by rw [this.1]; omega, this.2⟩
theorem carryBoats_lp : ∀ (n : Nat) (M : Mem) (v : Int32), 0 ≤ v.toInt → v.toInt ≤ 4 → (M 0 36).toInt = 7 + 10 * v.toInt → (4 - v.toInt).toNat < n → ((lp_X7_carryBoats_2 n M v) 0 36).toInt = 47 ∧ (lp_X7_carryBoats_2 n M v) 0 38 = M 0 38 := by
  intro n
  induction n with
  | zero => intro M v _ _ _ h; exact absurd h (Nat.not_lt_zero _)
  | succ n ih =>
    intro M v h0 h4 hp hn
    rw [lp_X7_carryBoats_2]
    split
    · rename_i hc
      have := le_I hc
      have e4 : (4 : Int32).toInt = 4 := rfl
      exact ⟨by omega, rfl⟩
    · rename_i hc
      have hc : v.toInt < 4 := nle_I hc
      simp only [bnd, bnd2]
      have h1 := @cst M 2 v.toNatClampNeg (M 2 v.toNatClampNeg) _ (by decide) ⟨hp, by omega, by omega⟩
      generalize up2 (f_X7_carry M (M 2 v.toNatClampNeg)).2 2 v.toNatClampNeg (f_X7_carry M (M 2 v.toNatClampNeg)).1 = M1 at h1 ⊢
      have h2 := @cst M1 3 v.toNatClampNeg (M1 3 v.toNatClampNeg) _ (by decide) ⟨h1.1, by omega, by omega⟩
      generalize up2 (f_X7_carry M1 (M1 3 v.toNatClampNeg)).2 3 v.toNatClampNeg (f_X7_carry M1 (M1 3 v.toNatClampNeg)).1 = M2 at h2 ⊢
      have h3 := @cst M2 4 v.toNatClampNeg (M2 4 v.toNatClampNeg) _ (by decide) ⟨h2.1, by omega, by omega⟩
      generalize up2 (f_X7_carry M2 (M2 4 v.toNatClampNeg)).2 4 v.toNatClampNeg (f_X7_carry M2 (M2 4 v.toNatClampNeg)).1 = M3 at h3 ⊢
      have h4' := @cst M3 5 v.toNatClampNeg (M3 5 v.toNatClampNeg) _ (by decide) ⟨h3.1, by omega, by omega⟩
      generalize up2 (f_X7_carry M3 (M3 5 v.toNatClampNeg)).2 5 v.toNatClampNeg (f_X7_carry M3 (M3 5 v.toNatClampNeg)).1 = M4 at h4' ⊢
      have h5 := @cst M4 6 v.toNatClampNeg (M4 6 v.toNatClampNeg) _ (by decide) ⟨h4'.1, by omega, by omega⟩
      generalize up2 (f_X7_carry M4 (M4 6 v.toNatClampNeg)).2 6 v.toNatClampNeg (f_X7_carry M4 (M4 6 v.toNatClampNeg)).1 = M5 at h5 ⊢
      have h6 := @cst M5 7 v.toNatClampNeg (M5 7 v.toNatClampNeg) _ (by decide) ⟨h5.1, by omega, by omega⟩
      generalize up2 (f_X7_carry M5 (M5 7 v.toNatClampNeg)).2 7 v.toNatClampNeg (f_X7_carry M5 (M5 7 v.toNatClampNeg)).1 = M6 at h6 ⊢
      have h7 := @cst M6 8 v.toNatClampNeg (M6 8 v.toNatClampNeg) _ (by decide) ⟨h6.1, by omega, by omega⟩
      generalize up2 (f_X7_carry M6 (M6 8 v.toNatClampNeg)).2 8 v.toNatClampNeg (f_X7_carry M6 (M6 8 v.toNatClampNeg)).1 = M7 at h7 ⊢
      have h8 := @cst M7 9 v.toNatClampNeg (M7 9 v.toNatClampNeg) _ (by decide) ⟨h7.1, by omega, by omega⟩
      generalize up2 (f_X7_carry M7 (M7 9 v.toNatClampNeg)).2 9 v.toNatClampNeg (f_X7_carry M7 (M7 9 v.toNatClampNeg)).1 = M8 at h8 ⊢
      have h9 := @cst M8 10 v.toNatClampNeg (M8 10 v.toNatClampNeg) _ (by decide) ⟨h8.1, by omega, by omega⟩
      generalize up2 (f_X7_carry M8 (M8 10 v.toNatClampNeg)).2 10 v.toNatClampNeg (f_X7_carry M8 (M8 10 v.toNatClampNeg)).1 = M9 at h9 ⊢
      have h10 := @cst M9 11 v.toNatClampNeg (M9 11 v.toNatClampNeg) _ (by decide) ⟨h9.1, by omega, by omega⟩
      generalize up2 (f_X7_carry M9 (M9 11 v.toNatClampNeg)).2 11 v.toNatClampNeg (f_X7_carry M9 (M9 11 v.toNatClampNeg)).1 = M10 at h10 ⊢
      have e1 : (v + 1).toInt = v.toInt + 1 := inc_I hc (by decide)
      have := ih M10 (v + 1) (by omega) (by omega) (by omega) (by omega)
      refine ⟨this.1, ?_⟩
      rw [this.2, h10.2, h9.2, h8.2, h7.2, h6.2, h5.2, h4'.2, h3.2, h2.2, h1.2]
theorem carryBoats_at {M M' : Mem} (hp : (M 0 36).toInt = 7) (h : f_X7_carryBoats M = M') : (M' 0 36).toInt = (M 0 36).toInt + 40 ∧ M' 0 38 = M 0 38 := by
  subst h
  unfold f_X7_carryBoats
  have := carryBoats_lp 5 M 0 (by decide) (by decide) (by rw [hp]; decide) (by decide)
  exact ⟨by rw [show (bnd (lp_X7_carryBoats_2 5 M 0) fun M_1 => M_1) = lp_X7_carryBoats_2 5 M 0 from rfl, this.1, hp]; rfl, this.2⟩
