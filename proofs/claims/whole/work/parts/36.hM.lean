-- @needs 35_carry
theorem dep_congr {t t' : Nat → Int32} : ∀ k : Nat, (∀ j, j < k → t j = t' j) → dep t k = dep t' k := by
  intro k
  induction k with
  | zero => intro _; rfl
  | succ k ih => intro h; show dep t k + _ = dep t' k + _; rw [ih (fun j hj => h j (by omega)), h k (by omega)]
theorem LVt_congr {t t' : Nat → Int32} {n n' : Int32} (h : LVt t n) (hn : n' = n) (ht : ∀ j, j < 100 → t' j = t j) : LVt t' n' := by
  subst hn
  refine ⟨h.1, fun k hk => ?_⟩
  rw [dep_congr k (t' := t) (fun j hj => ht j (by have := h.1.2; omega))]
  exact h.2 k hk
theorem TK_row {t : Nat} {M0 : Mem} {j k : Nat} (hj : j ≠ t) (hk : ¬ (j = 0 ∧ k = 36)) : TK t M0 148 j k = M0 j k := by unfold TK; rw [if_neg (by omega), if_neg hk]
theorem TK_in {t : Nat} {M0 : Mem} {k : Nat} (hk : k < 148) : TK t M0 148 t k = M0 (pos k).1 (pos k).2 := by unfold TK; rw [if_pos ⟨rfl, hk⟩]
theorem M3_o {M : Mem} {a tk : Int32} {j k : Nat} (h : ¬ (j = 0 ∧ 36 ≤ k ∧ k ≤ 38)) : M3 M a tk j k = M j k := by unfold M3; rw [up2_n _ _ (by omega), up2_n _ _ (by omega), up2_n _ _ (by omega)]
theorem pos48 (j : Nat) : pos (48 + j) = (1, j) := pos_t
theorem SN_take {M0 : Mem} {t : Nat} (h1 : 0 ≤ (M0 0 8).toInt ∧ (M0 0 8).toInt ≤ 4) (h2 : 0 ≤ (M0 0 7).toInt ∧ (M0 0 7).toInt ≤ 400) (h3 : LVt (M0 1) (M0 0 5)) : SN (TK t M0 148 t) := by
  refine ⟨?_, ?_, ?_⟩
  · rw [TK_in (by decide)]; exact h1
  · rw [TK_in (by decide)]; exact h2
  · refine LVt_congr h3 ?_ fun j hj => ?_
    · rw [TK_in (by decide)]; rfl
    · show TK t M0 148 t (48 + j) = M0 1 j
      rw [TK_in (by omega), pos48]
theorem MI_TK {M : Mem} {t : Nat} {a tk : Int32} (hI : MI M) (ht : t = 20) : MI (TK t (M3 M a tk) 148) := by
  subst ht
  refine MI_of hI (fun k hk => ?_) ?_ ?_ ?_
  · rw [TK_row (by decide) (by omega), M3_o (by omega)]
  · funext k; rw [TK_row (by decide) (by omega), M3_o (by omega)]
  · funext k; rw [TK_row (by decide) (by omega), M3_o (by omega)]
  · funext k; rw [TK_row (by decide) (by omega), M3_o (by omega)]
theorem ti_open {M u : Mem} (hI : MI M) (h : f_X7_open M = u) : TI M u ∧ SN (u 20) := by
  have e : f_X7_open M = TK (kR 1) (M3 M 1 1) 148 := by unfold f_X7_open; rw [bnd_eq]; exact carryAll_take M 1 1 (by decide)
  rw [show kR 1 = 20 from rfl] at e
  rw [e] at h
  subst h
  have hs : SN (TK 20 (M3 M 1 1) 148 20) := by
    refine SN_take ?_ ?_ ?_
    · rw [M3_o (by omega)]; exact hI.1
    · rw [M3_o (by omega)]; exact hI.2.1
    · exact LVt_congr hI.2.2.2.2.1 (M3_o (by omega)) fun j _ => M3_o (by omega)
  exact ⟨⟨MI_TK hI rfl, fun _ => hs⟩, hs⟩
theorem GV_o {t : Nat} {M0 : Mem} {j k : Nat} (hi : ipos j k = 999) (hk : ¬ (j = 0 ∧ k = 36)) : GV t M0 148 j k = M0 j k := by unfold GV; rw [hi, if_neg (by omega), if_neg hk]
theorem GV_i {t : Nat} {M0 : Mem} {j k q : Nat} (hi : ipos j k = q) (hq : q < 148) : GV t M0 148 j k = M0 t q := by unfold GV; rw [hi, if_pos hq]
theorem ipos12 {j k : Nat} (h : 12 ≤ j) : ipos j k = 999 := by unfold ipos; rw [if_neg (by omega), if_neg (by omega), if_neg (by omega)]
theorem MI_GV {M : Mem} {t : Nat} {a : Int32} (hI : MI M) (ht : t = 20 ∨ t = 21) (hs : SN (M t)) : MI (GV t (M3 M a 0) 148) := by
  have ht12 : 12 ≤ t := by omega
  refine ⟨?_, ?_, ?_, ?_, ?_, ?_⟩
  · rw [GV_i (q := 6) rfl (by decide), M3_o (by omega)]; exact hs.1
  · rw [GV_i (q := 5) rfl (by decide), M3_o (by omega)]; exact hs.2.1
  · rw [GV_o rfl (by omega), M3_o (by omega)]; exact hI.2.2.1
  · intro d hd; rw [GV_o (ipos12 (by decide)) (by omega), M3_o (by omega)]; exact hI.2.2.2.1 d hd
  · refine LVt_congr hs.2.2 ?_ fun j hj => ?_
    · rw [GV_i (q := 47) rfl (by decide), M3_o (by omega)]
    · rw [GV_i (q := 48 + j) (by unfold ipos; rw [if_neg (by decide), if_pos rfl, if_pos hj]) (by omega), M3_o (by omega)]
  · rw [GV_o rfl (by omega), M3_o (by omega)]
    have e : GV t (M3 M a 0) 148 21 = M 21 := by funext k; rw [GV_o (ipos12 (by decide)) (by omega), M3_o (by omega)]
    rw [e]; exact hI.2.2.2.2.2
theorem GV_20 {M : Mem} {t : Nat} {a : Int32} : GV t (M3 M a 0) 148 20 = M 20 := by funext k; rw [GV_o (ipos12 (by decide)) (by omega), M3_o (by omega)]
theorem ti_close {M u : Mem} (hI : MI M) (hN : SN (M 20)) (h : f_X7_close M = u) : TI M u := by
  have e : f_X7_close M = GV (kR 1) (M3 M 1 0) 148 := by unfold f_X7_close; rw [bnd_eq]; exact carryAll_give M 1
  rw [show kR 1 = 20 from rfl] at e
  rw [e] at h
  subst h
  exact ⟨MI_GV hI (Or.inl rfl) hN, fun q => by rw [GV_20]; exact q⟩
theorem ti_image {M u : Mem} {r : Int32} (hI : MI M) (h : f_X7_image M = (r, u)) : TI M u := by
  obtain ⟨-, h⟩ := Prod.mk.inj (show (_, f_X7_carryAll (up2 (up2 M 0 19 0) 0 35 1) 2 1) = (r, u) from h)
  rw [carryAll_take _ _ _ (by decide)] at h
  have e0 : ∀ j k, ¬ (j = 0 ∧ (k = 19 ∨ k = 35)) → (up2 (up2 M 0 19 0) 0 35 1) j k = M j k := fun j k hk => by rw [up2_n _ _ (by omega), up2_n _ _ (by omega)]
  generalize up2 (up2 M 0 19 0) 0 35 1 = M2 at h e0
  have hk : kR 2 = 21 := rfl
  rw [hk] at h
  subst h
  have hs : SN (TK 21 (M3 M2 2 1) 148 21) := by
    refine SN_take ?_ ?_ ?_
    · rw [M3_o (by omega), e0 _ _ (by omega)]; exact hI.1
    · rw [M3_o (by omega), e0 _ _ (by omega)]; exact hI.2.1
    · exact LVt_congr hI.2.2.2.2.1 (by rw [M3_o (by omega), e0 _ _ (by omega)]) fun j _ => by rw [M3_o (by omega), e0 _ _ (by omega)]
  have er : ∀ j k, j ≠ 21 → ¬ (j = 0 ∧ (k = 19 ∨ 35 ≤ k)) → TK 21 (M3 M2 2 1) 148 j k = M j k := fun j k h1 h2 => by rw [TK_row h1 (by omega), M3_o (by omega), e0 _ _ (by omega)]
  refine ⟨⟨?_, ?_, ?_, ?_, ?_, Or.inr hs⟩, fun q => ?_⟩
  · rw [er _ _ (by decide) (by omega)]; exact hI.1
  · rw [er _ _ (by decide) (by omega)]; exact hI.2.1
  · rw [er _ _ (by decide) (by omega)]; exact hI.2.2.1
  · intro d hd; rw [er _ _ (by decide) (by omega)]; exact hI.2.2.2.1 d hd
  · exact LVt_congr hI.2.2.2.2.1 (er _ _ (by decide) (by omega)) fun j _ => er _ _ (by decide) (by omega)
  · have : TK 21 (M3 M2 2 1) 148 20 = M 20 := by funext k; exact er _ _ (by decide) (by omega)
    rw [this]; exact q
theorem ti_restore {M u : Mem} {r : Int32} (hI : MI M) (h : f_X7_restore M = (r, u)) : TI M u := by
  unfold f_X7_restore at h
  rw [bnd_eq] at h
  have h1 : TI M (up2 M 0 19 0) := TI_f (TI_rf hI) (by decide)
  split at h
  · rename_i hb
    have h35 : ¬ up2 M 0 19 0 0 35 = 0 := fun q => hb (by rw [q]; rfl)
    have hs : SN (up2 M 0 19 0 21) := h1.1.2.2.2.2.2.resolve_left h35
    obtain ⟨-, h⟩ := Prod.mk.inj (show (_, up2 (f_X7_carryAll (up2 M 0 19 0) 2 0) 0 29 0) = (r, u) from h)
    rw [carryAll_give] at h
    subst h
    have hk : kR 2 = 21 := rfl
    rw [hk]
    exact TI_f ⟨MI_GV h1.1 (Or.inr rfl) hs, fun q => by rw [GV_20]; exact h1.2 q⟩ (by decide)
  · obtain ⟨-, h⟩ := Prod.mk.inj h
    subst h
    exact h1
/-! the law's text is sound where no fault is -/
theorem fv_step {t : Nat → Int32} {k d d' : Int32} (h0 : 0 ≤ k.toInt) (hk : k.toInt < 100) (hd : d.toInt = dep t k.toNatClampNeg) (hb : 0 ≤ d.toInt ∧ d.toInt ≤ 6) (h40 : t k.toNatClampNeg = 40 → d' = d + 1 ∧ d.toInt < 6) (h41 : t k.toNatClampNeg = 41 → d' = d - 1 ∧ 0 < d.toInt) (hn : ¬ t k.toNatClampNeg = 40 → ¬ t k.toNatClampNeg = 41 → d' = d) :
    d'.toInt = dep t (k + 1).toNatClampNeg ∧ 0 ≤ d'.toInt ∧ d'.toInt ≤ 6 ∧ (k + 1).toNatClampNeg = k.toNatClampNeg + 1 ∧ (k + 1).toInt = k.toInt + 1 := by
  have e1 : (k + 1).toInt = k.toInt + 1 := inc_I hk (by decide)
  have e2 := tnc h0
  have e3 := tnc (v := k + 1) (by omega)
  have e4 : (k + 1).toNatClampNeg = k.toNatClampNeg + 1 := by omega
  have e5 : dep t (k + 1).toNatClampNeg = dep t k.toNatClampNeg + (if t k.toNatClampNeg = 40 then 1 else if t k.toNatClampNeg = 41 then -1 else 0) := by rw [e4]; rfl
  by_cases a : t k.toNatClampNeg = 40
  · obtain ⟨rfl, h6⟩ := h40 a
    rw [if_pos a] at e5
    rw [inc_I (N := 6) h6 (by decide)]
    omega
  · by_cases b : t k.toNatClampNeg = 41
    · obtain ⟨rfl, h6⟩ := h41 b
      rw [if_neg a, if_pos b] at e5
      rw [dec_I (by omega)]
      omega
    · rw [hn a b]
      rw [if_neg a, if_neg b] at e5
      omega
