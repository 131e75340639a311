/-! the start of both -/
theorem MM0_0 {j q : Nat} (h : ¬ (j = 0 ∧ (q = 0 ∨ q = 2 ∨ q = 3))) : MM0 j q = 0 := by
  unfold MM0
  by_cases h0 : j = 0
  · rw [if_pos h0, if_neg (by omega), if_neg (by omega), if_neg (by omega)]
  · rw [if_neg h0]
theorem MC0_0 {j q : Nat} (h : 10 ≤ j ∧ j ≤ 18 ∨ 31 ≤ j ∨ 4 ≤ j ∧ j ≤ 6 ∨ j = 0) : MC0 j q = 0 := by
  unfold MC0
  rw [if_neg (by omega), if_neg (by omega), if_neg (by omega)]
theorem core_0 : Core MC0 MM0 := by
  have hl : lnO MM0 = 0 := by unfold lnO; rw [MM0_0 (by omega)]; decide
  refine ⟨⟨0, 0, 0, by omega, ⟨MC0_0 (by omega), MM0_0 (by omega), ⟨by decide, by decide, by decide, by decide⟩, fun i hi => by omega⟩, MC0_0 (by omega), MM0_0 (by omega), by omega, ⟨by omega, MM0_0 (by omega), fun j hj => by omega⟩, Or.inl rfl, ⟨LW_0 (MC0_0 (by omega)), by decide, fun q hq => Or.inl ?_⟩, ?_⟩, fun g => absurd (by rw [MM0_0 (by omega)]; decide) g, ⟨?_, fun g => absurd (by rw [MM0_0 (by omega)]; decide) g⟩, fun d hd => ?_⟩
  · unfold MC0
    rw [if_neg (by omega), if_pos (by omega), if_pos (by omega)]
  · exact ⟨by decide, by decide⟩
  · rw [MC0_0 (by omega), MM0_0 (by omega)]
  · refine ⟨by rw [MC0_0 (by omega), MM0_0 (by omega)], Or.inl (MM0_0 (by omega)), by rw [MC0_0 (by omega)]; decide, fun g => ?_, fun g => ?_⟩
    · rw [MM0_0 (by omega)] at g; exact absurd g (by decide)
    · rw [MM0_0 (by omega)] at g; exact absurd g (by decide)
theorem lv_0 {t : Nat → Int32} {n : Int32} (h : n = 0) : LVt t n := by
  subst h
  refine ⟨by decide, fun k hk => ?_⟩
  rw [k0] at hk
  obtain rfl : k = 0 := by omega
  unfold dep
  omega
theorem mi_0 : MI MM0 := by
  refine ⟨by rw [MM0_0 (by omega)]; decide, by rw [MM0_0 (by omega)]; decide, by rw [MM0_0 (by omega)]; decide, fun d hd => by rw [MM0_0 (by omega)]; decide, lv_0 (MM0_0 (by omega)), Or.inl (MM0_0 (by omega))⟩
theorem sn_0 : SN (MM0 20) := by
  refine ⟨by rw [MM0_0 (by omega)]; decide, by rw [MM0_0 (by omega)]; decide, lv_0 (MM0_0 (by omega))⟩
