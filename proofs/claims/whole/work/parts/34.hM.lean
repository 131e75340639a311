-- @needs 33_hM
/-! frames of the reference's races -/
abbrev WBo (j : Nat) : Prop := 6 ≤ j ∧ j ≤ 11 ∨ j = 18 ∨ j = 19
theorem fr_moveOne (M : Mem) (b w : Int32) : Fr WBo M (f_X7_moveOne M b w) := by
  unfold f_X7_moveOne
  refine Fr.bd fun y1 => ?_
  refine Fr.bdM ?_ fun M1 h1 => ?_
  · refine Fr.ite (Fr.ite ?_ ?_) ?_
    · refine Fr.bd fun _ => Fr.bd fun _ => Fr.bd fun _ => Fr.bd fun _ => ?_
      exact Fr.bdM (Fr.up (by decide)) fun M2 h2 => Fr.bd fun _ => Fr.bdM (Fr.put (by decide) h2) fun M3 h3 => h3
    · refine Fr.bd fun _ => Fr.bd fun _ => ?_
      exact Fr.bdM (Fr.up (by decide)) fun M2 h2 => Fr.bdM (Fr.put (by decide) h2) fun M3 h3 => h3
    · exact Fr.bd fun _ => Fr.bdM (Fr.up (by decide)) fun M3 h3 => h3
  · refine Fr.bdM ?_ fun M2 h2 => h2
    exact Fr.ite h1 (Fr.ite h1 (Fr.bdM (Fr.put (by decide) h1) fun M3 h3 => h3))
theorem fr_turnOne (M : Mem) (b : Int32) : Fr WBo M (f_X7_turnOne M b) := by
  unfold f_X7_turnOne
  exact Fr.bdM (Fr.up (by decide)) fun M1 h1 => Fr.bdM (Fr.put (by decide) h1) fun M2 h2 => Fr.bdM (Fr.put (by decide) h2) fun M3 h3 => h3
theorem fr_begin (M : Mem) (b : Int32) : Fr WBo M (f_X7_begin M b) := by
  unfold f_X7_begin
  exact Fr.bdM (Fr.up (by decide)) fun M1 h1 => Fr.bdM (Fr.put (by decide) h1) fun M2 h2 => Fr.bdM (Fr.put (by decide) h2) fun M3 h3 => Fr.bdM (Fr.put (by decide) h3) fun M4 h4 => Fr.bdM (Fr.put (by decide) h4) fun M5 h5 => Fr.bdM (Fr.put (by decide) h5) fun M6 h6 => h6
theorem fr_moveAll_2 : ∀ (n : Nat) (M : Mem) (v : Int32), Fr WBo M (lp_X7_moveAll_2 n M v) := by
  intro n
  induction n with
  | zero => intro M v; exact Fr.rf
  | succ n ih =>
    intro M v
    rw [lp_X7_moveAll_2]
    refine Fr.ite Fr.rf ?_
    exact Fr.bd fun t => Fr.bdM (Fr.up (by decide)) fun M1 h1 => Fr.bd fun y => h1.tr (ih _ _)
theorem fr_moveAll_37 : ∀ (n : Nat) (M : Mem) (v : Int32), Fr WBo M (lp_X7_moveAll_37 n M v) := by
  intro n
  induction n with
  | zero => intro M v; exact Fr.rf
  | succ n ih =>
    intro M v
    rw [lp_X7_moveAll_37]
    refine Fr.ite Fr.rf ?_
    refine Fr.bdM (Fr.ite Fr.rf (Fr.bdM (fr_moveOne _ _ _) fun M1 h1 => h1)) fun M2 h2 => Fr.bd fun y => h2.tr (ih _ _)
theorem fr_turnAll_2 : ∀ (n : Nat) (M : Mem) (v : Int32), Fr WBo M (lp_X7_turnAll_2 n M v) := by
  intro n
  induction n with
  | zero => intro M v; exact Fr.rf
  | succ n ih =>
    intro M v
    rw [lp_X7_turnAll_2]
    refine Fr.ite Fr.rf ?_
    refine Fr.bdM (Fr.ite Fr.rf (Fr.bdM (fr_turnOne _ _) fun M1 h1 => h1)) fun M2 h2 => Fr.bd fun y => h2.tr (ih _ _)
theorem fr_turnAll (M : Mem) : Fr WBo M (f_X7_turnAll M) := by
  unfold f_X7_turnAll; exact fr_turnAll_2 _ _ _
theorem fr_raceOn_6 : ∀ (n : Nat) (M : Mem) (v : Int32), Fr WBo M (lp_X7_raceOn_6 n M v) := by
  intro n
  induction n with
  | zero => intro M v; exact Fr.rf
  | succ n ih =>
    intro M v
    rw [lp_X7_raceOn_6]
    refine Fr.ite Fr.rf ?_
    exact Fr.bd fun t => Fr.bdM (Fr.up (by decide)) fun M1 h1 => Fr.bd fun y => h1.tr (ih _ _)
theorem fr_bitsOn_6 : ∀ (n : Nat) (M : Mem) (v : Int32), Fr WBo M (lp_X7_bitsOn_6 n M v) := by
  intro n
  induction n with
  | zero => intro M v; exact Fr.rf
  | succ n ih =>
    intro M v
    rw [lp_X7_bitsOn_6]
    refine Fr.ite Fr.rf ?_
    exact Fr.bd fun t => Fr.bdM (Fr.up (by decide)) fun M1 h1 => Fr.bd fun y => h1.tr (ih _ _)
theorem moveAll_row (M : Mem) : f_X7_moveAll M 0 = upd (M 0) 7 (M 0 7 + 1) := by
  unfold f_X7_moveAll
  have h1 := fr_moveAll_2 5 M 0
  have h2 := fr_moveAll_37 5 (lp_X7_moveAll_2 5 M 0) 0
  have e : lp_X7_moveAll_37 5 (lp_X7_moveAll_2 5 M 0) 0 0 = M 0 := (h2 0 (by decide)).trans (h1 0 (by decide))
  show up2 _ 0 7 _ 0 = _
  rw [up2_row, e]
theorem raceOn_row (M : Mem) : f_X7_raceOn M 0 = upd (M 0) 7 (M 0 7 + 1) := by
  unfold f_X7_raceOn
  show f_X7_turnAll (lp_X7_raceOn_6 5 (f_X7_moveAll M) 0) 0 = _
  rw [fr_turnAll _ 0 (by decide), fr_raceOn_6 5 _ 0 0 (by decide), moveAll_row]
theorem bitsOn_row (M : Mem) : f_X7_bitsOn M 0 = upd (M 0) 7 (M 0 7 + 1) := by
  unfold f_X7_bitsOn
  show f_X7_turnAll (lp_X7_bitsOn_6 5 (f_X7_moveAll M) 0) 0 = _
  rw [fr_turnAll _ 0 (by decide), fr_bitsOn_6 5 _ 0 0 (by decide), moveAll_row]
theorem raceOn_sec {M M' : Mem} (h : f_X7_raceOn M = M') : M' 0 7 = M 0 7 + 1 := by subst h; rw [raceOn_row]; simp [upd]
theorem bitsOn_sec {M M' : Mem} (h : f_X7_bitsOn M = M') : M' 0 7 = M 0 7 + 1 := by subst h; rw [bitsOn_row]; simp [upd]
theorem sl_moveOne_0_7 {M M' : Mem} {b w : Int32} (h : f_X7_moveOne M b w = M') : M' 0 7 = M 0 7 := by subst h; rw [fr_moveOne _ _ _ 0 (by decide)]
theorem sl_begin_0_8 {M M' : Mem} {b : Int32} (h : f_X7_begin M b = M') : M' 0 8 = M 0 8 := by subst h; rw [fr_begin _ _ 0 (by decide)]
