/-! the winds' values -/
theorem val_core {R : Mem} {n : Nat} {t : Nat → Int32} {a1 a2 : Int32} (hR : RW R n t) (hn : n ≠ 0) (hV : VL t n 0 true 0) (hD : D3 t n 0 0) :
    ∃ v R', wev a1 a2 (wcomp t n) = [v] ∧ f_X7_windBy R a1 a2 = (clampv v, R') ∧ ∀ j q, ¬ (j = 0 ∧ q = 27) → ¬ (13 ≤ j ∧ j ≤ 16) → R' j q = R j q := by
  have hn100 := hR.1
  have h0 : up2 R 0 27 0 0 27 = nI 0 := up2_s _ _ _ _
  have ho := open_eq (d := 0) (by omega) h0
  have hoff : ∀ j q, ¬ (j = 0 ∧ q = 27) → ¬ (13 ≤ j ∧ j ≤ 16) → f_X7_openLevel (up2 R 0 27 0) j q = R j q := fun j q h1 h2 => by
    rw [ho, up2_n _ _ (by omega), up2_n _ _ (by omega), up2_n _ _ (by omega), up2_n _ _ (by omega)]
  have hR5 : RW (f_X7_openLevel (up2 R 0 27 0)) n t := RW_of (d := 0) hR fun j q h1 h2 => hoff j q h1 (by omega)
  have hl : f_X7_openLevel (up2 R 0 27 0) 0 27 = nI 0 := by rw [ho, up2_n _ _ (by omega), up2_n _ _ (by omega), up2_n _ _ (by omega), h0]
  obtain ⟨R', v, e1, e2, e3, e4, e5, e6⟩ := law_sim (a1 := a1) (a2 := a2) (n + 1) n 0 [] [] [] [] _ true 0 (by omega) rfl (by omega) hV hD hR5 hl ⟨rfl, rfl⟩
    (fun _ => Or.inl ⟨rfl, rfl, by rw [ho, up2_n _ _ (by omega), up2_n _ _ (by omega), up2_s], by rw [ho, up2_n _ _ (by omega), up2_s], by rw [ho, up2_s]⟩) (fun q => by cases q)
  refine ⟨v, R', e2, ?_, fun j q h1 h2 => by rw [e6 j q h1 h2, hoff j q h1 h2]⟩
  obtain ⟨c, c1, c2⟩ := e1
  have hlp : lp_X7_windBy_20 101 a1 a2 (f_X7_openLevel (up2 R 0 27 0)) 0 = R' := by
    have := c2 (100 - c + 1)
    rw [show 100 - c + 1 + c = 101 by omega] at this
    refine Eq.trans this ?_
    unfold lp_X7_windBy_20
    rw [if_pos (by rw [e5.2.1]; exact nI_le (Nat.le_refl _) (by omega))]
  unfold f_X7_windBy
  have : ¬ R 0 5 = 0 := by
    rw [hR.2.1]; exact nI_ne0 (by omega) (by omega)
  rw [if_pos this]
  simp only [bnd]
  rw [hlp, show f_X7_levelSum R' = v from (lsum_eq (by omega) e3).trans e4, clampv_eq]
/-- the empty memory that holds a text -/
def Rcan (n : Nat) (t : Nat → Int32) : Mem := fun j q => if j = 0 ∧ q = 5 then nI n else if j = 1 then t q else 0
/-- the wind of a text at a second with a seed -/
def Wv (n : Nat) (t : Nat → Int32) (a1 a2 : Int32) : Int32 := (f_X7_windBy (Rcan n t) a1 a2).1
def OKL (n : Nat) (t : Nat → Int32) : Prop := n = 0 ∨ (VL t n 0 true 0 ∧ D3 t n 0 0)
theorem Rcan_RW {n : Nat} {t : Nat → Int32} (h : n ≤ 100) : RW (Rcan n t) n t := ⟨h, rfl, fun j _ => rfl⟩
theorem windBy_m {R : Mem} {n : Nat} {t : Nat → Int32} (hR : RW R n t) (hV : OKL n t) (a1 a2 : Int32) :
    (f_X7_windBy R a1 a2).1 = Wv n t a1 a2 ∧ ∀ j q, ¬ (j = 0 ∧ q = 27) → ¬ (13 ≤ j ∧ j ≤ 16) → (f_X7_windBy R a1 a2).2 j q = R j q := by
  by_cases hn : n = 0
  · subst hn
    unfold Wv f_X7_windBy
    have h1 : R 0 5 = 0 := hR.2.1
    have h2 : Rcan 0 t 0 5 = 0 := rfl
    rw [if_neg (not_not_intro h1), if_neg (not_not_intro h2)]
    exact ⟨rfl, fun j q _ _ => rfl⟩
  · have hV := hV.resolve_left hn
    obtain ⟨v, R1, e1, e2, e3⟩ := val_core (a1 := a1) (a2 := a2) hR hn hV.1 hV.2
    obtain ⟨v', R2, g1, g2, g3⟩ := val_core (a1 := a1) (a2 := a2) (Rcan_RW hR.1) hn hV.1 hV.2
    have hv : v = v' := by have := e1.symm.trans g1; exact (List.cons.inj this).1
    unfold Wv
    rw [e2, g2, hv]
    exact ⟨rfl, e3⟩
/-- the class's world of a law: its steps -/
def LW (M : Mem) (o n : Nat) (t : Nat → Int32) : Prop := n ≤ 100 ∧ ∃ S : List Int32, S.length ≤ 100 ∧ M o 1 = nI S.length ∧ SK (M (o + 6)) S ∧ ∀ a1 a2, (∃ v, wev a1 a2 S = [v] ∧ clampv v = Wv n t a1 a2) ∨ (S = [] ∧ Wv n t a1 a2 = 0)
theorem Wv_0 {t : Nat → Int32} {a1 a2 : Int32} : Wv 0 t a1 a2 = 0 := by
  unfold Wv f_X7_windBy
  have h2 : Rcan 0 t 0 5 = 0 := rfl
  rw [if_neg (not_not_intro h2)]
theorem LW_0 {M : Mem} {o : Nat} {t : Nat → Int32} (h : M o 1 = 0) : LW M o 0 t := ⟨by omega, [], by decide, h, trivial, fun _ _ => Or.inr ⟨rfl, Wv_0⟩⟩
theorem LW_of {M M' : Mem} {o n : Nat} {t : Nat → Int32} (h : LW M o n t) (h1 : M' o 1 = M o 1) (h2 : ∀ q, M' (o + 6) q = M (o + 6) q) : LW M' o n t := by
  obtain ⟨e1, S, e2, e3, e4, e5⟩ := h
  exact ⟨e1, S, e2, h1.trans e3, SK_congr S (fun j _ => h2 j) e4, e5⟩
/-- the steps of another law are taken -/
theorem LW_take {M M' : Mem} {o o2 n : Nat} {t : Nat → Int32} (h : LW M o n t) (h1 : M' o2 1 = M o 1) (h2 : ∀ k q, q ≤ 100 → M o 1 = nI q → k < q → M' (o2 + 6) k = M (o + 6) k) : LW M' o2 n t := by
  obtain ⟨e1, S, e2, e3, e4, e5⟩ := h
  exact ⟨e1, S, e2, h1.trans e3, SK_congr S (fun j hj => h2 j S.length e2 e3 hj) e4, e5⟩
theorem LW_tell {M : Mem} {o a n : Nat} {t : Nat → Int32} (hn : n ≤ 100) (ha : ¬ a = o ∧ ¬ a = o + 6 ∧ ¬ a = o + 64) (ht : ∀ j, j < n → M a j = t j) (hV : OKL n t) : LW (f_X2_tell M o a (nI n)) o n t ∧ FT o M (f_X2_tell M o a (nI n)) := by
  obtain ⟨e1, e2, e3, e4⟩ := tell_comp hn ha ht
  refine ⟨⟨hn, wcomp t n, e3, e1, e2, fun a1 a2 => ?_⟩, e4⟩
  by_cases h0 : n = 0
  · subst h0; exact Or.inr ⟨rfl, Wv_0⟩
  · have hV := hV.resolve_left h0
    obtain ⟨v, R1, g1, g2, g3⟩ := val_core (a1 := a1) (a2 := a2) (Rcan_RW (t := t) hn) h0 hV.1 hV.2
    exact Or.inl ⟨v, g1, by unfold Wv; rw [g2]⟩
theorem valueAt_c {M : Mem} {o n : Nat} {t : Nat → Int32} (hM : LW M o n t) (a1 a2 : Int32) :
    clampv (f_X2_valueAt M o a1 a2).1 = Wv n t a1 a2 ∧ ∀ j q, ¬ j = o + 67 → (f_X2_valueAt M o a1 a2).2 j q = M j q := by
  obtain ⟨e1, S, e2, e3, e4, e5⟩ := hM
  obtain ⟨g1, g2, g3⟩ := valueAt_ev (a1 := a1) (a2 := a2) e3 e2 e4
  refine ⟨?_, g3⟩
  rcases e5 a1 a2 with ⟨v, h1, h2⟩ | ⟨h1, h2⟩
  · rw [g1 v h1]; exact h2
  · rw [g2 h1, h2]; decide
/-- the class's world of a bay's winds: o the bay -/
def WL (M : Mem) (o n : Nat) (t : Nat → Int32) (s : Int32) : Prop := LW M (o + 3) n t ∧ M o 4 = s ∧ ∀ q, q ≤ 400 → M (o + 6) q = 100 ∨ M (o + 6) q = Wv n t (nI q) s
theorem windAt_c {M : Mem} {o n : Nat} {t : Nat → Int32} {s : Int32} (h : WL M o n t s) (_ : OKL n t) {a : Int32} {q : Nat} (ha : a = nI q) (hq : q ≤ 400) :
    (f_X0_windAt M o a).1 = Wv n t a s ∧ WL (f_X0_windAt M o a).2 o n t s ∧ ∀ j p, ¬ (j = o + 3 ∧ 2 ≤ p ∧ p ≤ 4) → ¬ (j = o + 6 ∨ 68 ≤ j) → (f_X0_windAt M o a).2 j p = M j p := by
  obtain ⟨h1, h2, h3⟩ := h
  unfold f_X0_windAt
  have e0 : ¬ a < 0 := by rw [ha]; exact nI_pos (by omega)
  have e1 : a < 401 := by rw [ha]; exact nI_lt (b := 401) (by omega) (by decide)
  have e2 : a.toNatClampNeg = q := by rw [ha, nI_clamp (by omega)]
  rw [if_neg e0, if_pos e1, e2]
  by_cases hc : M (o + 6) q = 100
  · simp only [bnd, bnd2]
    rw [if_neg (not_not_intro hc)]
    obtain ⟨v1, v2⟩ := valueAt_c h1 a (M o 4)
    have hw : mx (-40) (mn 40 (f_X2_valueAt M (o + 3) a (M o 4)).1) = Wv n t a s := by rw [← h2]; exact v1
    rw [hw]
    refine ⟨up2_s _ _ _ _, ⟨LW_of h1 ?_ (fun j => ?_), ?_, fun p hp => ?_⟩, fun j p hj hj2 => ?_⟩
    · rw [up2_n _ _ (by omega), v2 _ _ (by omega)]
    · rw [up2_n _ _ (by omega), v2 _ _ (by omega)]
    · rw [up2_n _ _ (by omega), v2 _ _ (by omega)]; exact h2
    · by_cases hpq : p = q
      · subst hpq; right; rw [up2_s, ha]
      · rw [up2_n _ _ (by omega), v2 _ _ (by omega)]; exact h3 p hp
    · rw [up2_n _ _ (by omega), v2 _ _ (by omega)]
  · simp only [bnd]
    rw [if_pos hc]
    exact ⟨by rw [ha]; exact (h3 q hq).resolve_left hc, ⟨h1, h2, h3⟩, fun _ _ _ _ => rfl⟩
/-- the reference's winds -/
def WI (R : Mem) (n : Nat) (t : Nat → Int32) : Prop := ¬ b01 (R 0 29) = 0 → ∀ q, q ≤ 400 → R 17 q = Wv n t (nI q) (R 0 30)
theorem lay_loop {n : Nat} {t : Nat → Int32} (hV : OKL n t) : ∀ (f k : Nat) (R : Mem), 401 < f + k → k ≤ 401 → RW R n t → (∀ q, q < k → R 17 q = Wv n t (nI q) (R 0 4)) →
    (∀ q, q ≤ 400 → lp_X7_layWinds_20 f R (nI k) 17 q = Wv n t (nI q) (R 0 4)) ∧ ∀ j q, ¬ (j = 0 ∧ q = 27) → ¬ (13 ≤ j ∧ j ≤ 17) → lp_X7_layWinds_20 f R (nI k) j q = R j q := by
  intro f
  induction f with
  | zero => intro k R h1 h2; omega
  | succ f ih =>
    intro k R h1 h2 hR hq
    unfold lp_X7_layWinds_20
    by_cases hk : k = 401
    · subst hk
      rw [if_pos (by decide)]
      exact ⟨fun q h => hq q (by omega), fun _ _ _ _ => rfl⟩
    · rw [if_neg (show ¬ (400 : Int32) < nI k from nI_nlt (a := 400) (by omega) (by decide))]
      simp only [bnd, bnd2]
      obtain ⟨w1, w2⟩ := windBy_m hR hV (nI k) (R 0 4)
      rw [nI_clamp (by omega), nI_1]
      have hoff : ∀ j q, ¬ (j = 0 ∧ q = 27) → ¬ (13 ≤ j ∧ j ≤ 16) → ¬ (j = 17 ∧ q = k) → up2 (f_X7_windBy R (nI k) (R 0 4)).2 17 k (f_X7_windBy R (nI k) (R 0 4)).1 j q = R j q := fun j q h1 h2 h3 => by
        rw [up2_n _ _ h3, w2 j q h1 h2]
      have h04 := hoff 0 4 (by omega) (by omega) (by omega)
      obtain ⟨i1, i2⟩ := ih (k + 1) (up2 (f_X7_windBy R (nI k) (R 0 4)).2 17 k (f_X7_windBy R (nI k) (R 0 4)).1) (by omega) (by omega) ⟨hR.1, by rw [hoff _ _ (by omega) (by omega) (by omega)]; exact hR.2.1, fun j hj => by rw [hoff _ _ (by omega) (by omega) (by omega)]; exact hR.2.2 j hj⟩ (fun q h => by
        rw [h04]
        by_cases e : q = k
        · subst e; rw [up2_s, w1]
        · rw [hoff _ _ (by omega) (by omega) (by omega)]; exact hq q (by omega))
      rw [h04] at i1
      exact ⟨i1, fun j q g1 g2 => by rw [i2 j q g1 g2, hoff j q g1 (by omega) (by omega)]⟩
theorem lay_same : ∀ (f : Nat) (M : Mem) (v : Int32), lp_X7_layWinds_20' f M v = lp_X7_layWinds_20 f M v := by
  intro f
  induction f with
  | zero => intro M v; rfl
  | succ f ih => intro M v; unfold lp_X7_layWinds_20' lp_X7_layWinds_20; simp only [bnd, bnd2, ih]
theorem layWinds_m {R : Mem} {n : Nat} {t : Nat → Int32} (hR : RW R n t) (hV : OKL n t) (hW : WI R n t) :
    (∀ q, q ≤ 400 → f_X7_layWinds R 17 q = Wv n t (nI q) (R 0 4)) ∧ WI (f_X7_layWinds R) n t ∧ ∀ j q, ¬ (j = 0 ∧ (q = 27 ∨ q = 29 ∨ q = 30)) → ¬ (13 ≤ j ∧ j ≤ 17) → f_X7_layWinds R j q = R j q := by
  have key : ∀ (S : Mem), S = lp_X7_layWinds_20 402 R 0 → (∀ q, q ≤ 400 → up2 (up2 S 0 29 1) 0 30 (S 0 4) 17 q = Wv n t (nI q) (R 0 4)) ∧ WI (up2 (up2 S 0 29 1) 0 30 (S 0 4)) n t ∧ ∀ j q, ¬ (j = 0 ∧ (q = 27 ∨ q = 29 ∨ q = 30)) → ¬ (13 ≤ j ∧ j ≤ 17) → up2 (up2 S 0 29 1) 0 30 (S 0 4) j q = R j q := by
    intro S hS
    obtain ⟨i1, i2⟩ := lay_loop hV 402 0 R (by omega) (by omega) hR (fun q h => by omega)
    rw [show nI 0 = (0 : Int32) from rfl, ← hS] at i1 i2
    have h04 : S 0 4 = R 0 4 := i2 0 4 (by omega) (by omega)
    have c1 : ∀ q, q ≤ 400 → up2 (up2 S 0 29 1) 0 30 (S 0 4) 17 q = Wv n t (nI q) (R 0 4) := fun q h => by rw [up2_n _ _ (by omega), up2_n _ _ (by omega)]; exact i1 q h
    refine ⟨c1, fun _ q h => ?_, fun j q h1 h2 => ?_⟩
    · rw [c1 q h, up2_s, h04]
    · rw [up2_n _ _ (by omega), up2_n _ _ (by omega), i2 j q (by omega) h2]
  unfold f_X7_layWinds
  simp only [bnd]
  by_cases h1 : b01 (R 0 29) = 0
  · rw [if_pos h1]
    have := key _ rfl
    rw [show (up2 (lp_X7_layWinds_20 402 R 0) 0 29 1) 0 4 = lp_X7_layWinds_20 402 R 0 0 4 from up2_n _ _ (by omega)]
    exact this
  · rw [if_neg h1]
    by_cases h2 : R 0 30 = R 0 4
    · rw [if_pos h2]
      exact ⟨fun q h => by rw [← h2]; exact hW h1 q h, hW, fun _ _ _ _ => rfl⟩
    · rw [if_neg h2, lay_same]
      have := key _ rfl
      rw [show (up2 (lp_X7_layWinds_20 402 R 0) 0 29 1) 0 4 = lp_X7_layWinds_20 402 R 0 0 4 from up2_n _ _ (by omega)]
      exact this
