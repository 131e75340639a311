-- @needs 37_fault 36_hM 35_carry 34_hM
/-! the pure layer: what both sides' small functions are -/
theorem cmp_lt {a b : Int64} : lg_cmp a b < 0 ↔ a.toInt < b.toInt := by
  unfold lg_cmp
  by_cases h1 : a > b
  · rw [if_pos h1]
    rw [gt_iff_lt, Int64.lt_iff_toInt_lt] at h1
    exact ⟨fun h => absurd h (by decide), fun h => by omega⟩
  · rw [if_neg h1]
    rw [gt_iff_lt, Int64.lt_iff_toInt_lt] at h1
    by_cases h2 : a = b
    · subst h2; rw [if_pos rfl]; exact ⟨fun h => absurd h (by decide), fun h => by omega⟩
    · rw [if_neg h2]
      have : ¬ a.toInt = b.toInt := fun h => h2 (Int64.toInt_inj.mp h)
      exact ⟨fun _ => by omega, fun _ => by decide⟩
theorem cmp_gt {a b : Int64} : 0 < lg_cmp a b ↔ b.toInt < a.toInt := by
  unfold lg_cmp
  by_cases h1 : a > b
  · rw [if_pos h1]
    rw [gt_iff_lt, Int64.lt_iff_toInt_lt] at h1
    exact ⟨fun _ => by omega, fun h => by decide⟩
  · rw [if_neg h1]
    rw [gt_iff_lt, Int64.lt_iff_toInt_lt] at h1
    by_cases h2 : a = b
    · subst h2; rw [if_pos rfl]; exact ⟨fun h => absurd h (by decide), fun h => by omega⟩
    · rw [if_neg h2]
      exact ⟨fun h => absurd h (by decide), fun h => by omega⟩
theorem in_eq (a : Int32) (lo hi : Int64) : f_X7_in a.toInt64 lo hi = if lo.toInt ≤ a.toInt ∧ a.toInt ≤ hi.toInt then 1 else 0 := by
  have e := toI64 a
  unfold f_X7_in
  simp only [bnd]
  by_cases h1 : lo.toInt ≤ a.toInt
  · rw [if_neg (fun h => by have := cmp_lt.mp h; omega)]
    by_cases h2 : a.toInt ≤ hi.toInt
    · rw [if_neg (fun h => by have := cmp_gt.mp h; omega), if_pos ⟨h1, h2⟩]
    · rw [if_pos (cmp_gt.mpr (by omega)), if_neg (fun h => h2 h.2)]
  · rw [if_pos (cmp_lt.mpr (by omega)), if_neg (fun h => h1 h.1)]
theorem le_i {a b : Int32} : a ≤ b ↔ a.toInt ≤ b.toInt := Int32.le_iff_toInt_le
theorem lt_i {a b : Int32} : a < b ↔ a.toInt < b.toInt := Int32.lt_iff_toInt_lt
theorem eq_i {a b : Int32} : a = b ↔ a.toInt = b.toInt := Int32.toInt_inj.symm
theorem inz {a : Int32} {lo hi : Int64} : f_X7_in a.toInt64 lo hi = 0 ↔ ¬ (lo.toInt ≤ a.toInt ∧ a.toInt ≤ hi.toInt) := by
  rw [in_eq]; split <;> simp_all
theorem up2_2 (M : Mem) (i k : Nat) (a b : Int32) : up2 (up2 M i k a) i k b = up2 M i k b := by
  funext j q; unfold up2; split <;> simp_all
theorem up2_id (M : Mem) (i k : Nat) : up2 M i k (M i k) = M := by
  funext j q; unfold up2; split
  · rename_i h; rw [h.1, h.2]
  · rfl
theorem plainly_eq (x : Int32) : f_X7_plainly x = ab x := by
  unfold f_X7_plainly ab; simp only [bnd]; split
  · rfl
  · simp
