-- @needs 91_wind
/-- the reference's world of a law -/
def RW (R : Mem) (n : Nat) (t : Nat → Int32) : Prop := n ≤ 100 ∧ R 0 5 = nI n ∧ ∀ j, j < n → R 1 j = t j
/-- some rounds of its loop -/
def Rk (a1 a2 : Int32) (R : Mem) (k : Nat) (R' : Mem) (k' : Nat) : Prop := ∃ c, c + k ≤ k' ∧ ∀ f, lp_X7_windBy_20 (f + c) a1 a2 R (nI k) = lp_X7_windBy_20 f a1 a2 R' (nI k')
theorem Rk.tr {a1 a2 : Int32} {R R1 R2 : Mem} {k k1 k2 : Nat} (h1 : Rk a1 a2 R k R1 k1) (h2 : Rk a1 a2 R1 k1 R2 k2) : Rk a1 a2 R k R2 k2 := by
  obtain ⟨c1, e1, f1⟩ := h1
  obtain ⟨c2, e2, f2⟩ := h2
  exact ⟨c2 + c1, by omega, fun f => by rw [← Nat.add_assoc, f1, f2]⟩
theorem Rk.rf {a1 a2 : Int32} {R : Mem} {k : Nat} : Rk a1 a2 R k R k := ⟨0, by omega, fun f => rfl⟩
theorem Rk.one {a1 a2 : Int32} {R R' : Mem} {k k' : Nat} (hk : k < k') (h : ∀ f, lp_X7_windBy_20 (f + 1) a1 a2 R (nI k) = lp_X7_windBy_20 f a1 a2 R' (nI k')) : Rk a1 a2 R k R' k' := ⟨1, by omega, h⟩
def jn (w p v : Int32) : Int32 := if ¬ w = 0 then (if ¬ w = 42 then (if ¬ v = 0 then (if ¬ w = 47 then p - p / v * v else p / v) else 0) else p * v) else v
theorem jn_c {w p v : Int32} (h : pg w) : f_X2_joined w p v = jn w p v := by
  unfold f_X2_joined jn
  simp only [bnd]
  have : ¬ w = 0 := by rcases h with rfl | rfl | rfl <;> decide
  rw [if_pos this]
theorem atom_eq {R : Mem} {d : Nat} (hd : d ≤ 7) (h : R 0 27 = nI d) (v : Int32) : f_X7_atom R v = up2 R 15 d (jn (R 16 d) (R 15 d) v) := by
  unfold f_X7_atom jn
  simp only [bnd]
  rw [h, nI_clamp (by omega)]
theorem lsum_eq {R : Mem} {d : Nat} (hd : d ≤ 7) (h : R 0 27 = nI d) : f_X7_levelSum R = if R 14 d ≤ 0 then R 13 d - R 15 d else R 13 d + R 15 d := by
  unfold f_X7_levelSum
  simp only [bnd]
  rw [h, nI_clamp (by omega)]
theorem open_eq {R : Mem} {d : Nat} (hd : d ≤ 7) (h : R 0 27 = nI d) : f_X7_openLevel R = up2 (up2 (up2 R 13 d 0) 14 d 1) 16 d 0 := by
  unfold f_X7_openLevel
  simp only [bnd]
  rw [up2_o _ _ (by decide : (0 : Nat) ≠ 14), up2_o _ _ (by decide : (0 : Nat) ≠ 13), h, nI_clamp (by omega)]
theorem work_p {R : Mem} {d : Nat} (hd : d ≤ 7) (h : R 0 27 = nI d) {c : Int32} (hc : pg c) : f_X7_work R c = up2 R 16 d c := by
  unfold f_X7_work
  simp only [bnd]
  have h1 : ¬ c = 43 := by rcases hc with rfl | rfl | rfl <;> decide
  have h2 : ¬ c = 45 := by rcases hc with rfl | rfl | rfl <;> decide
  rw [if_neg h1, if_pos h2, h, nI_clamp (by omega)]
theorem work_s {R : Mem} {d : Nat} (hd : d ≤ 7) (h : R 0 27 = nI d) {c : Int32} (hc : sg c) : f_X7_work R c = up2 (up2 (up2 R 13 d (f_X7_levelSum R)) 14 d (if c = 43 then 1 else -1)) 16 d 0 := by
  unfold f_X7_work
  simp only [bnd]
  rcases hc with rfl | rfl
  · rw [if_pos rfl, if_neg (not_not_intro rfl), if_pos rfl, up2_o _ _ (by decide : (0 : Nat) ≠ 14), up2_o _ _ (by decide : (0 : Nat) ≠ 13), h, nI_clamp (by omega)]
  · rw [if_neg (by decide), if_neg (not_not_intro rfl), if_pos (by decide), if_neg (by decide), up2_o _ _ (by decide : (0 : Nat) ≠ 14), up2_o _ _ (by decide : (0 : Nat) ≠ 13), h, nI_clamp (by omega)]
section ST
variable {a1 a2 : Int32} {R : Mem} {n k : Nat} {t : Nat → Int32}
theorem rw_c (hW : RW R n t) (hk : k < n) : ¬ R 0 5 ≤ nI k ∧ R 1 (nI k).toNatClampNeg = t k := by
  have := hW.1
  rw [hW.2.1, nI_clamp (by omega)]
  exact ⟨nI_ge hk (by omega), hW.2.2 k hk⟩
theorem st_open (hW : RW R n t) (hk : k < n) (hc : t k = 40) : Rk a1 a2 R k (f_X7_openLevel (up2 R 0 27 (R 0 27 + 1))) (k + 1) := by
  obtain ⟨h1, h2⟩ := rw_c hW hk
  refine Rk.one (by omega) fun f => ?_
  rw [lp_X7_windBy_20, if_neg h1]
  simp only [bnd, bnd2]
  rw [h2, hc, if_neg (not_not_intro rfl), nI_1]
theorem st_close (hW : RW R n t) (hk : k < n) (hc : t k = 41) : Rk a1 a2 R k (f_X7_atom (up2 R 0 27 (R 0 27 - 1)) (f_X7_levelSum R)) (k + 1) := by
  obtain ⟨h1, h2⟩ := rw_c hW hk
  refine Rk.one (by omega) fun f => ?_
  rw [lp_X7_windBy_20, if_neg h1]
  simp only [bnd, bnd2]
  rw [h2, hc, if_pos (by decide), if_neg (not_not_intro rfl), nI_1]
theorem st_var (hW : RW R n t) (hk : k < n) (hc : t k = 116 ∨ t k = 115) : Rk a1 a2 R k (f_X7_atom R (if ¬ t k = 116 then a2 else a1)) (k + 1) := by
  obtain ⟨h1, h2⟩ := rw_c hW hk
  refine Rk.one (by omega) fun f => ?_
  rw [lp_X7_windBy_20, if_neg h1]
  simp only [bnd, bnd2]
  rw [h2]
  rcases hc with hc | hc
  · rw [hc, if_pos (by decide), if_pos (by decide), if_pos rfl, nI_1]
  · rw [hc, if_pos (by decide), if_pos (by decide), if_neg (by decide), if_neg (not_not_intro rfl), nI_1]
theorem st_work (hW : RW R n t) (hk : k < n) (hc : sg (t k) ∨ pg (t k)) : Rk a1 a2 R k (f_X7_work R (t k)) (k + 1) := by
  obtain ⟨h1, h2⟩ := rw_c hW hk
  refine Rk.one (by omega) fun f => ?_
  rw [lp_X7_windBy_20, if_neg h1]
  simp only [bnd, bnd2]
  rw [h2]
  have hn : ¬ dg (t k) := fun h => hc.elim (fun q => (dg_not h).1 q) (fun q => (dg_not h).2.1 q)
  have e : t k ≠ 40 ∧ t k ≠ 41 ∧ t k ≠ 116 ∧ t k ≠ 115 := by
    rcases hc with (h | h) | (h | h | h) <;> rw [h] <;> decide
  rw [if_pos e.1, if_pos e.2.1, if_neg e.2.2.1, if_pos e.2.2.2, if_pos (dgM.mpr hn), nI_1]
theorem whole_m (hW : RW R n t) : ∀ (f c k : Nat) (v : Int32), c < f → k + c ≤ n → (∀ j, j < c → dg (t (k + j))) → (k + c = n ∨ ¬ dg (t (k + c))) → lp_X7_windBy_150' f R (nI k) v = (nI (k + c), num t c k v) := by
  intro f
  induction f with
  | zero => intro c k v h; omega
  | succ f ih =>
    intro c k v hf hn hd he
    have hn100 := hW.1
    rw [lp_X7_windBy_150']
    cases c with
    | zero =>
      rw [Nat.add_zero] at he ⊢
      by_cases e : k = n
      · rw [if_pos (by rw [hW.2.1, e]; exact nI_le (Nat.le_refl _) (by omega))]; rfl
      · obtain ⟨h1, h2⟩ := rw_c hW (show k < n by omega)
        rw [if_neg h1, h2, if_pos (dgM.mpr (he.resolve_left e))]; rfl
    | succ c =>
      obtain ⟨h1, h2⟩ := rw_c hW (show k < n by omega)
      have h0 : dg (t k) := hd 0 (by omega)
      rw [if_neg h1, h2, if_neg (fun h => dgM.mp h h0)]
      simp only [bnd]
      rw [nI_1, ih c (k + 1) _ (by omega) (by omega) (fun j hj => by rw [show k + 1 + j = k + (j + 1) by omega]; exact hd (j + 1) (by omega)) (by rw [show k + 1 + c = k + (c + 1) by omega]; exact he), show k + 1 + c = k + (c + 1) by omega, Int32.mul_comm 10 v]; rfl
theorem st_num (hW : RW R n t) {c : Nat} (hk : k + (c + 1) ≤ n) (hd : ∀ j, j < c + 1 → dg (t (k + j))) (he : k + (c + 1) = n ∨ ¬ dg (t (k + (c + 1)))) : Rk a1 a2 R k (f_X7_atom R (num t (c + 1) k 0)) (k + (c + 1)) := by
  obtain ⟨h1, h2⟩ := rw_c hW (show k < n by omega)
  have hn := hW.1
  refine Rk.one (by omega) fun f => ?_
  rw [lp_X7_windBy_20, if_neg h1]
  simp only [bnd, bnd2]
  have h0 := hd 0 (by omega)
  rw [Nat.add_zero] at h0
  have e := dg_not h0
  rw [h2, if_pos e.2.2.1, if_pos e.2.2.2.1, if_neg e.2.2.2.2.1, if_pos e.2.2.2.2.2, if_neg (fun h => dgM.mp h h0), nI_1,
    whole_m hW 101 c (k + 1) _ (by omega) (by omega) (fun j hj => by rw [show k + 1 + j = k + (j + 1) by omega]; exact hd (j + 1) (by omega)) (by rw [show k + 1 + c = k + (c + 1) by omega]; exact he)]
  simp only []
  rw [show k + 1 + c = k + (c + 1) by omega, show num t (c + 1) k 0 = num t c (k + 1) (0 * 10 + t k - 48) from rfl, Int32.zero_mul, Int32.zero_add]
end ST
/-- an atom's effect -/
def Ka (d : Nat) (R R' : Mem) (v : Int32) : Prop := R' 0 27 = nI d ∧ R' 15 d = jn (R 16 d) (R 15 d) v ∧ ∀ j q, ¬ (j = 0 ∧ q = 27) → ¬ (13 ≤ j ∧ j ≤ 16 ∧ d < q) → ¬ (j = 15 ∧ q = d) → R' j q = R j q
/-- a product's -/
def Kp (d : Nat) (R R' : Mem) (v : Int32) : Prop := R' 0 27 = nI d ∧ R' 15 d = v ∧ ∀ j q, ¬ (j = 0 ∧ q = 27) → ¬ (13 ≤ j ∧ j ≤ 16 ∧ d < q) → ¬ ((j = 15 ∨ j = 16) ∧ q = d) → R' j q = R j q
/-- a sum's -/
def Ks (d : Nat) (R R' : Mem) (v : Int32) : Prop := R' 0 27 = nI d ∧ f_X7_levelSum R' = v ∧ ∀ j q, ¬ (j = 0 ∧ q = 27) → ¬ (13 ≤ j ∧ j ≤ 16 ∧ d ≤ q) → R' j q = R j q
theorem RW_of {R R' : Mem} {n d : Nat} {t : Nat → Int32} (h : RW R n t) (he : ∀ j q, ¬ (j = 0 ∧ q = 27) → ¬ (13 ≤ j ∧ j ≤ 16 ∧ d ≤ q) → R' j q = R j q) : RW R' n t := ⟨h.1, by rw [he _ _ (by omega) (by omega)]; exact h.2.1, fun j hj => by rw [he _ _ (by omega) (by omega)]; exact h.2.2 j hj⟩
/-- the class's place at k, the reference's level d there -/
def PQ (o n : Nat) (t : Nat → Int32) (a1 a2 : Int32) (d m k : Nat) (M R : Mem) : Prop := m + k = n ∧ LW M o n t ∧ M o 2 = nI k ∧ M o 3 = a1 ∧ M o 4 = a2 ∧ RW R n t ∧ R 0 27 = nI d
def FO (fs : Mem → Nat → Int32 → Int32 × Mem) (o n : Nat) (t : Nat → Int32) (a1 a2 : Int32) (d : Nat) : Prop := ∀ (m k : Nat) (M R : Mem), PQ o n t a1 a2 d m k M R → VL t m k true d → R 13 d = 0 → R 14 d = 1 → R 16 d = 0 →
  ∃ m' k' v R', m' + k' = n ∧ k < k' ∧ EL t m' k' d ∧ (m' = 0 ∨ t k' = 41) ∧ fs M o (nI d) = (v, up2 M o 2 (nI k')) ∧ Rk a1 a2 R k R' k' ∧ Ks d R R' v
theorem atom_ok {fs : Mem → Nat → Int32 → Int32 × Mem} {o n : Nat} {t : Nat → Int32} {a1 a2 : Int32} {d : Nat} (hd : d ≤ 6) (hfs : d < 6 → FO fs o n t a1 a2 (d + 1)) (m k : Nat) (M R : Mem) (h : PQ o n t a1 a2 d m k M R) (hV : VL t m k true d) :
    ∃ m' k' v R', m' + k' = n ∧ k < k' ∧ EL t m' k' d ∧ f_X2_atom fs M o (nI d) = (v, up2 M o 2 (nI k')) ∧ Rk a1 a2 R k R' k' ∧ Ka d R R' v := by
  obtain ⟨hmk, hW, hp, h3, h4, hR, hl⟩ := h
  have hn := hW.1
  cases m with
  | zero => exact (VL_want hV).elim
  | succ m =>
    have hkn : k < n := by omega
    unfold f_X2_atom
    simp only [bnd, bnd2]
    rw [nxt hW hp hkn]
    have hka : ∀ v, Ka d R (f_X7_atom R v) v := fun v => by
      rw [atom_eq (by omega) hl]
      exact ⟨by rw [up2_n _ _ (by omega)]; exact hl, up2_s _ _ _ _, fun j q _ _ h => up2_n _ _ h⟩
    rcases VL_atom hV with ⟨hc, hd6, hV'⟩ | ⟨hc, hV'⟩ | ⟨hc, hV'⟩
    · rw [if_pos (dgC.mpr (fun q => (dg_not q).2.2.1 hc)), hc, if_neg (not_not_intro rfl), if_neg (show ¬ (6 : Int32) ≤ nI d from nI_ge (b := 6) (a := d) hd6 (by decide)), nI_1]
      have hlev : f_X7_openLevel (up2 R 0 27 (R 0 27 + 1)) = up2 (up2 (up2 (up2 R 0 27 (R 0 27 + 1)) 13 (d + 1) 0) 14 (d + 1) 1) 16 (d + 1) 0 := open_eq (by omega) (by rw [up2_s, hl, nI_1])
      have hoff : ∀ j q, ¬ (j = 0 ∧ q = 27) → ¬ (13 ≤ j ∧ j ≤ 16 ∧ d + 1 ≤ q) → f_X7_openLevel (up2 R 0 27 (R 0 27 + 1)) j q = R j q := fun j q h1 h2 => by
        rw [hlev, up2_n _ _ (by omega), up2_n _ _ (by omega), up2_n _ _ (by omega), up2_n _ _ (by omega)]
      obtain ⟨m2, k2, v, R2, e1, e2, e3, e4, e5, e6, e7⟩ := hfs hd6 m (k + 1) (up2 M o 2 (M o 2 + 1)) (f_X7_openLevel (up2 R 0 27 (R 0 27 + 1)))
        ⟨by omega, LW_up hW _, by rw [up2_s]; exact pls _ hp, by rw [up2_n _ _ (by omega)]; exact h3, by rw [up2_n _ _ (by omega)]; exact h4, RW_of hR hoff, by rw [hlev, up2_n _ _ (by omega), up2_n _ _ (by omega), up2_n _ _ (by omega), up2_s, hl, nI_1]⟩ hV'
        (by rw [hlev, up2_n _ _ (by omega), up2_n _ _ (by omega), up2_s]) (by rw [hlev, up2_n _ _ (by omega), up2_s]) (by rw [hlev, up2_s])
      rw [e5]
      -- the closing sign
      have hm2 : m2 ≠ 0 := fun h => by
        subst h
        have := e3.1.2
        omega
      obtain ⟨m3, rfl⟩ := Nat.exists_eq_succ_of_ne_zero hm2
      have h41 := e4.resolve_left (by omega)
      have hV3 : VL t m3 (k2 + 1) false d := by
        rcases VL_has e3.1 with ⟨h1, _⟩ | ⟨h1, _⟩ | ⟨_, _, h1⟩
        · exact absurd h41 (dg_not h1).2.2.2.1
        · rw [h41] at h1; exact absurd h1 (by unfold sg pg; decide)
        · exact h1
      have hR2 : RW R2 n t := RW_of (RW_of hR hoff) e7.2.2
      have hst := st_close (a1 := a1) (a2 := a2) hR2 (show k2 < n by omega) h41
      rw [e7.2.1] at hst
      have hl2 : up2 R2 0 27 (R2 0 27 - 1) 0 27 = nI d := by rw [up2_s, e7.1]; exact nI_pred d
      refine ⟨m3, k2 + 1, v, _, by omega, by omega, EL_of hV3 (fun h => (dg_not h).2.2.2.1 h41), ?_, (st_open hR hkn hc).tr (e6.tr hst), ?_⟩
      · dsimp only
        rw [up2_s, nI_1, up2_2, up2_2]
      · rw [atom_eq (by omega) hl2]
        have e16 : ∀ j q, ¬ (j = 0 ∧ q = 27) → ¬ (13 ≤ j ∧ j ≤ 16 ∧ d < q) → up2 R2 0 27 (R2 0 27 - 1) j q = R j q := fun j q h1 h2 => by rw [up2_n _ _ h1, e7.2.2 _ _ h1 (by omega), hoff _ _ h1 (by omega)]
        refine ⟨by rw [up2_n _ _ (by omega)]; exact hl2, by rw [up2_s, e16 16 d (by omega) (by omega), e16 15 d (by omega) (by omega)], fun j q h1 h2 h3 => by rw [up2_n _ _ h3]; exact e16 _ _ h1 h2⟩
    · have hnd : ¬ dg (t k) := fun h => hc.elim (fun q => (dg_not h).2.2.2.2.1 q) (fun q => (dg_not h).2.2.2.2.2 q)
      have h40 : ¬ t k = 40 := by rcases hc with h | h <;> rw [h] <;> decide
      rw [if_pos (dgC.mpr hnd), if_pos h40]
      refine ⟨m, k + 1, if ¬ t k = 116 then a2 else a1, _, by omega, by omega, EL_of hV' hnd, ?_, st_var hR hkn hc, hka _⟩
      rw [up2_n _ _ (by omega), up2_n _ _ (by omega), h3, h4, hp, nI_1]
    · rw [if_neg (fun h => dgC.mp h hc)]
      have hm0 : (M o 2).toInt = k := by rw [hp]; exact nI_toInt (by omega)
      unfold f_X2_wholeNumber
      simp only [bnd2]
      -- the digits
      have key : ∃ c m', c + m' = m ∧ EL t m' (k + 1 + c) d ∧ (∀ j, j < c → dg (t (k + 1 + j))) ∧ lp_X2_wholeNumber_2 ((100 - (M o 2).toInt).toNat + 1) o M 0 = (num t (c + 1) k 0, up2 M o 2 (nI (k + (c + 1)))) := by
        rw [hm0]
        obtain ⟨f, hf⟩ : ∃ f, (100 - (k : Int)).toNat + 1 = f + 1 := ⟨_, rfl⟩
        rw [hf, lp_X2_wholeNumber_2, if_neg (fun h => by have := (plc hW hp (by omega)).mp h; omega), nxt hW hp hkn, if_neg (fun h => dgC.mp h hc)]
        simp only [bnd]
        obtain ⟨c, m', e1, e2, e3, e4⟩ := whole_c f m (k + 1) (up2 M o 2 (M o 2 + 1)) (0 * 10 + t k - 48) (by omega) (by omega) (LW_up hW _) (by rw [up2_s]; exact pls _ hp) hV' (Or.inr (Or.inr ⟨k, rfl, hc⟩))
        exact ⟨c, m', e1, e2, e3, by rw [e4, up2_2, show k + (c + 1) = k + 1 + c by omega]; rfl⟩
      obtain ⟨c, m', e1, e2, e3, e4⟩ := key
      rw [e4]
      have e5 : k + (c + 1) = k + 1 + c := by omega
      refine ⟨m', k + (c + 1), num t (c + 1) k 0, _, by omega, by omega, by rw [e5]; exact e2, rfl, st_num hR (by omega) (fun j hj => ?_) ?_, hka _⟩
      · cases j with
        | zero => exact hc
        | succ j => rw [show k + (j + 1) = k + 1 + j by omega]; exact e3 j (by omega)
      · rcases e2.2 with h | h
        · exact Or.inl (by omega)
        · exact Or.inr (by rw [e5]; exact h)
