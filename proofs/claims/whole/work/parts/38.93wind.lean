/-! the winds: products, sums, levels -/
theorem Kp_Ka {d : Nat} {R R' : Mem} {v : Int32} (h : Ka d R R' v) (h0 : R 16 d = 0) : Kp d R R' v :=
  ⟨h.1, by rw [h.2.1, h0]; unfold jn; rw [if_neg (not_not_intro rfl)], fun j q h1 h2 h3 => h.2.2 j q h1 h2 (by omega)⟩
theorem jn_s {w p v : Int32} (h : pg w) : f_X2_joined w p v = jn w p v := jn_c h
theorem EL_pg {t : Nat → Int32} {m k d : Nat} (h : EL t (m + 1) k d) (hc : sg (t k) ∨ pg (t k)) : VL t m (k + 1) true d := by
  rcases VL_has h.1 with ⟨h1, _⟩ | ⟨_, h1⟩ | ⟨h1, _⟩
  · exact absurd h1 (h.2.resolve_left (by omega))
  · exact h1
  · rw [h1] at hc; exact absurd hc (by unfold sg pg; decide)
theorem EL_41 {t : Nat → Int32} {m k d : Nat} (h : EL t m k d) (h1 : m = 0 ∨ ¬ sg (t k)) (h2 : m = 0 ∨ ¬ pg (t k)) : m = 0 ∨ t k = 41 := by
  cases m with
  | zero => exact Or.inl rfl
  | succ m =>
    rcases VL_has h.1 with ⟨h3, _⟩ | ⟨h3, _⟩ | ⟨h3, _⟩
    · exact absurd h3 (h.2.resolve_left (by omega))
    · rcases h3 with h3 | h3
      · exact absurd h3 (h1.resolve_left (by omega))
      · exact absurd h3 (h2.resolve_left (by omega))
    · exact Or.inr h3
section PR
variable {fs : Mem → Nat → Int32 → Int32 × Mem} {o n : Nat} {t : Nat → Int32} {a1 a2 : Int32} {d : Nat}
theorem RW_a {R R' : Mem} {v : Int32} (h : RW R n t) (e : Ka d R R' v) : RW R' n t := RW_of (d := d) h fun j q h1 h2 => e.2.2 j q h1 (by omega) (by omega)
theorem RW_p {R R' : Mem} {v : Int32} (h : RW R n t) (e : Kp d R R' v) : RW R' n t := RW_of (d := d) h fun j q h1 h2 => e.2.2 j q h1 (by omega) (by omega)
theorem PQ_next {m k : Nat} {M R R' : Mem} (h : PQ o n t a1 a2 d (m + 1) k M R) (hR : RW R' n t) (hl : R' 0 27 = nI d) : PQ o n t a1 a2 d m (k + 1) (up2 M o 2 (M o 2 + 1)) R' := by
  obtain ⟨hmk, hW, hp, h3, h4, _, _⟩ := h
  exact ⟨by omega, LW_up hW _, by rw [up2_s]; exact pls _ hp, by rw [up2_n _ _ (by omega)]; exact h3, by rw [up2_n _ _ (by omega)]; exact h4, hR, hl⟩
theorem PQ_at {m k m' k' : Nat} {M R R' : Mem} (h : PQ o n t a1 a2 d m k M R) (hk : m' + k' = n) (hR : RW R' n t) (hl : R' 0 27 = nI d) : PQ o n t a1 a2 d m' k' (up2 M o 2 (nI k')) R' := by
  obtain ⟨hmk, hW, hp, h3, h4, _, _⟩ := h
  exact ⟨hk, LW_up hW _, up2_s _ _ _ _, by rw [up2_n _ _ (by omega)]; exact h3, by rw [up2_n _ _ (by omega)]; exact h4, hR, hl⟩
theorem PQ_fuel {m k : Nat} {M R : Mem} (h : PQ o n t a1 a2 d m k M R) : m < (100 - (M o 2).toInt).toNat + 1 := by
  obtain ⟨hmk, hW, hp, _⟩ := h
  have := hW.1
  rw [hp, nI_toInt (by omega)]
  omega
theorem prod_loop (hd : d ≤ 6) (hfs : d < 6 → FO fs o n t a1 a2 (d + 1)) : ∀ (f m k : Nat) (M R0 R : Mem) (v : Int32), m < f → PQ o n t a1 a2 d m k M R → EL t m k d → Kp d R0 R v →
    ∃ m' k' v' R', m' + k' = n ∧ k ≤ k' ∧ EL t m' k' d ∧ (m' = 0 ∨ ¬ pg (t k')) ∧ lp_X2_product_6 f fs o (nI d) M v = (v', up2 M o 2 (nI k')) ∧ Rk a1 a2 R k R' k' ∧ Kp d R0 R' v' := by
  intro f
  induction f with
  | zero => intro m k M R0 R v h; omega
  | succ f ih =>
    intro m k M R0 R v hf h hE hK
    have hp := h.2.2.1
    have hW := h.2.1
    have hR := h.2.2.2.2.2.1
    have hl := h.2.2.2.2.2.2
    have hn := h.1
    unfold lp_X2_product_6
    cases m with
    | zero =>
      rw [if_pos ((plc hW hp (by omega)).mpr (by omega))]
      exact ⟨0, k, v, R, by omega, Nat.le_refl _, hE, Or.inl rfl, by rw [← hp, up2_id], Rk.rf, hK⟩
    | succ m =>
      rw [if_neg (fun h => by have := (plc hW hp (by omega)).mp h; omega), nxt hW hp (by omega)]
      by_cases hc : pg (t k)
      · rw [if_neg (fun h => pgC.mp h hc)]
        simp only [bnd, bnd2]
        have hV := EL_pg hE (Or.inr hc)
        have hw := work_p (by omega) hl hc
        have hR1 : RW (f_X7_work R (t k)) n t := RW_of (d := d) hR fun j q h1 h2 => by rw [hw, up2_n _ _ (by omega)]
        have hl1 : f_X7_work R (t k) 0 27 = nI d := by rw [hw, up2_n _ _ (by omega)]; exact hl
        obtain ⟨m2, k2, u, R2, e1, e2, e3, e4, e5, e6⟩ := atom_ok hd hfs m (k + 1) _ _ (PQ_next h hR1 hl1) hV
        rw [e4, up2_2]
        dsimp only
        have hK2 : Kp d R0 R2 (jn (t k) v u) := by
          refine ⟨e6.1, ?_, fun j q h1 h2 h3 => ?_⟩
          · rw [e6.2.1, hw, up2_s, up2_n _ _ (by omega), hK.2.1]
          · rw [e6.2.2 j q h1 h2 (by omega), hw, up2_n _ _ (by omega), hK.2.2 j q h1 h2 h3]
        rw [jn_s hc]
        obtain ⟨m3, k3, v3, R3, g1, g2, g3, g4, g5, g6, g7⟩ := ih m2 k2 _ R0 R2 (jn (t k) v u) (by omega) (PQ_at h e1 (RW_a hR1 e6) e6.1) e3 hK2
        exact ⟨m3, k3, v3, R3, g1, by omega, g3, g4, by rw [g5, up2_2], (st_work hR (by omega) (Or.inr hc)).tr (e5.tr g6), g7⟩
      · rw [if_pos (pgC.mpr hc)]
        exact ⟨m + 1, k, v, R, by omega, Nat.le_refl _, hE, Or.inr hc, by rw [← hp, up2_id], Rk.rf, hK⟩
theorem prod_ok (hd : d ≤ 6) (hfs : d < 6 → FO fs o n t a1 a2 (d + 1)) {m k : Nat} {M R : Mem} (h : PQ o n t a1 a2 d m k M R) (hV : VL t m k true d) (h0 : R 16 d = 0) :
    ∃ m' k' v R', m' + k' = n ∧ k < k' ∧ EL t m' k' d ∧ (m' = 0 ∨ ¬ pg (t k')) ∧ f_X2_product fs M o (nI d) = (v, up2 M o 2 (nI k')) ∧ Rk a1 a2 R k R' k' ∧ Kp d R R' v := by
  obtain ⟨m2, k2, u, R2, e1, e2, e3, e4, e5, e6⟩ := atom_ok hd hfs m k M R h hV
  have h2 := PQ_at h e1 (RW_a h.2.2.2.2.2.1 e6) e6.1
  obtain ⟨m3, k3, v3, R3, g1, g2, g3, g4, g5, g6, g7⟩ := prod_loop hd hfs _ m2 k2 _ R R2 u (PQ_fuel h2) h2 e3 (Kp_Ka e6 h0)
  refine ⟨m3, k3, v3, R3, g1, by omega, g3, g4, ?_, e5.tr g6, g7⟩
  unfold f_X2_product
  simp only [bnd2]
  rw [e4]
  dsimp only
  rw [g5]
  dsimp only
  rw [up2_2]
theorem sum_loop (hd : d ≤ 6) (hfs : d < 6 → FO fs o n t a1 a2 (d + 1)) : ∀ (f m k : Nat) (M R0 R : Mem) (v : Int32), m < f → PQ o n t a1 a2 d m k M R → EL t m k d → (m = 0 ∨ ¬ pg (t k)) → Ks d R0 R v →
    ∃ m' k' v' R', m' + k' = n ∧ k ≤ k' ∧ EL t m' k' d ∧ (m' = 0 ∨ t k' = 41) ∧ lp_X2_sum_6 f fs o (nI d) M v = (v', up2 M o 2 (nI k')) ∧ Rk a1 a2 R k R' k' ∧ Ks d R0 R' v' := by
  intro f
  induction f with
  | zero => intro m k M R0 R v h; omega
  | succ f ih =>
    intro m k M R0 R v hf h hE hg hK
    have hp := h.2.2.1
    have hW := h.2.1
    have hR := h.2.2.2.2.2.1
    have hl := h.2.2.2.2.2.2
    have hn := h.1
    unfold lp_X2_sum_6
    cases m with
    | zero =>
      rw [if_pos ((plc hW hp (by omega)).mpr (by omega))]
      exact ⟨0, k, v, R, by omega, Nat.le_refl _, hE, Or.inl rfl, by rw [← hp, up2_id], Rk.rf, hK⟩
    | succ m =>
      rw [if_neg (fun h => by have := (plc hW hp (by omega)).mp h; omega), nxt hW hp (by omega)]
      by_cases hc : sg (t k)
      · rw [if_neg (fun h => sgC.mp h hc)]
        simp only [bnd, bnd2]
        have hV := EL_pg hE (Or.inl hc)
        have hw := work_s (by omega) hl hc
        rw [hK.2.1] at hw
        have hR1 : RW (f_X7_work R (t k)) n t := RW_of (d := d) hR fun j q h1 h2 => by rw [hw, up2_n _ _ (by omega), up2_n _ _ (by omega), up2_n _ _ (by omega)]
        have hl1 : f_X7_work R (t k) 0 27 = nI d := by rw [hw, up2_n _ _ (by omega), up2_n _ _ (by omega), up2_n _ _ (by omega)]; exact hl
        obtain ⟨m2, k2, u, R2, e1, e2, e3, e3', e4, e5, e6⟩ := prod_ok hd hfs (PQ_next h hR1 hl1) hV (by rw [hw, up2_s])
        rw [e4, up2_2]
        dsimp only
        have h13 : R2 13 d = v := by rw [e6.2.2 13 d (by omega) (by omega) (by omega), hw, up2_n _ _ (by omega), up2_n _ _ (by omega), up2_s]
        have h14 : R2 14 d = if t k = 43 then 1 else -1 := by rw [e6.2.2 14 d (by omega) (by omega) (by omega), hw, up2_n _ _ (by omega), up2_s]
        have hK2 : Ks d R0 R2 (if (if ¬ t k = 43 then (0 : Int32) else 1) = 0 then v - u else v + u) := by
          refine ⟨e6.1, ?_, fun j q h1 h2 => ?_⟩
          · rw [lsum_eq (by omega) e6.1, h13, h14, e6.2.1]
            by_cases hq : t k = 43
            · rw [if_pos hq, if_neg (not_not_intro hq), if_neg (by decide), if_neg (by decide)]
            · rw [if_neg hq, if_pos hq, if_pos (by decide), if_pos rfl]
          · rw [e6.2.2 j q h1 (by omega) (by omega), hw, up2_n _ _ (by omega), up2_n _ _ (by omega), up2_n _ _ (by omega), hK.2.2 j q h1 h2]
        obtain ⟨m3, k3, v3, R3, g1, g2, g3, g4, g5, g6, g7⟩ := ih m2 k2 _ R0 R2 _ (by omega) (PQ_at h e1 (RW_p hR1 e6) e6.1) e3 e3' hK2
        exact ⟨m3, k3, v3, R3, g1, by omega, g3, g4, by rw [g5, up2_2], (st_work hR (by omega) (Or.inl hc)).tr (e5.tr g6), g7⟩
      · rw [if_pos (sgC.mpr hc)]
        exact ⟨m + 1, k, v, R, by omega, Nat.le_refl _, hE, EL_41 hE (Or.inr hc) hg, by rw [← hp, up2_id], Rk.rf, hK⟩
theorem wsum_ok (hd : d ≤ 6) (hfs : d < 6 → FO fs o n t a1 a2 (d + 1)) : FO (f_X2_sum fs) o n t a1 a2 d := by
  intro m k M R h hV h13 h14 h16
  obtain ⟨m2, k2, u, R2, e1, e2, e3, e3', e4, e5, e6⟩ := prod_ok hd hfs h hV h16
  have h2 := PQ_at h e1 (RW_p h.2.2.2.2.2.1 e6) e6.1
  have hK : Ks d R R2 u := by
    refine ⟨e6.1, ?_, fun j q h1 h2 => e6.2.2 j q h1 (by omega) (by omega)⟩
    rw [lsum_eq (by omega) e6.1, e6.2.2 13 d (by omega) (by omega) (by omega), e6.2.2 14 d (by omega) (by omega) (by omega), h13, h14, e6.2.1, if_neg (by decide), Int32.zero_add]
  obtain ⟨m3, k3, v3, R3, g1, g2, g3, g4, g5, g6, g7⟩ := sum_loop hd hfs _ m2 k2 _ R R2 u (PQ_fuel h2) h2 e3 e3' hK
  refine ⟨m3, k3, v3, R3, g1, by omega, g3, g4, ?_, e5.tr g6, g7⟩
  unfold f_X2_sum
  simp only [bnd2]
  rw [e4]
  dsimp only
  rw [g5]
  dsimp only
  rw [up2_2]
end PR
theorem wfS_ok {o n : Nat} {t : Nat → Int32} {a1 a2 : Int32} : ∀ e d, d + e = 6 → FO (fS (e + 1)) o n t a1 a2 d := by
  intro e
  induction e with
  | zero => intro d hd; exact wsum_ok (by omega) (fun h => by omega)
  | succ e ih => intro d hd; exact wsum_ok (by omega) (fun _ => ih (d + 1) (by omega))
/-- what both sides' texts say -/
def clampv (y : Int32) : Int32 := mx (-40) (mn 40 y)
theorem mx_i (x y : Int32) : (mx x y).toInt = max x.toInt y.toInt := by
  unfold mx; split <;> rename_i h <;> rw [lt_i] at h <;> omega
theorem mn_i (x y : Int32) : (mn x y).toInt = min x.toInt y.toInt := by
  unfold mn; split <;> rename_i h <;> rw [lt_i] at h <;> omega
theorem clampv_eq (y : Int32) : (if (-40) ≤ y then (if y ≤ 40 then y else 40) else (-40)) = clampv y := by
  apply eq_i.mpr
  have k1 : (-40 : Int32).toInt = -40 := by decide
  have k2 : (40 : Int32).toInt = 40 := by decide
  unfold clampv
  rw [mx_i, mn_i, k1, k2]
  simp only [le_i, k1, k2]
  split
  · split
    · omega
    · rw [k2]; omega
  · rw [k1]; omega
