/-! the fault of a text, both sides -/
theorem fc_end {n : Nat} {M : Mem} {a1 : Nat} {a2 p q w k : Int32} (h : a2 ≤ k ∨ 100 ≤ k) : lp_X2_faultIn_10 (n + 1) M a1 a2 p q w k = if ¬ w = 0 then a2 else if p ≤ 0 then -4 else a2 := by
  rw [lp_X2_faultIn_10]
  by_cases h1 : a2 ≤ k
  · rw [if_pos h1]; rfl
  · rw [if_neg h1, if_pos (h.resolve_left h1)]; rfl
theorem fc_wants {n : Nat} {M : Mem} {a1 : Nat} {a2 p q w k : Int32} (h : ¬ a2 ≤ k) (h' : ¬ 100 ≤ k) (hw : ¬ w = 0) :
    lp_X2_faultIn_10 (n + 1) M a1 a2 p q w k =
      (if M a1 k.toNatClampNeg = 40 ∧ ¬ (6 : Int32) ≤ p then lp_X2_faultIn_10 n M a1 a2 (p + 1) q w (k + 1)
       else if ¬ f_X2_isDigit (M a1 k.toNatClampNeg) = 0 ∨ M a1 k.toNatClampNeg = 116 ∨ M a1 k.toNatClampNeg = 115 then lp_X2_faultIn_10 n M a1 a2 p (if f_X2_isDigit (M a1 k.toNatClampNeg) = 0 then 0 else if M a1 k.toNatClampNeg = 48 then 0 else 2) 0 (k + 1)
       else k) := by
  have hcd : M a1 k.toNatClampNeg = 40 → f_X2_isDigit (M a1 k.toNatClampNeg) = 0 := fun e => by rw [e]; decide
  rw [lp_X2_faultIn_10, if_neg h, if_neg h']
  simp only [bnd, if_neg hw, not_true, not_false_eq_true, hw, if_true, if_false]
  generalize f_X2_isDigit (M a1 k.toNatClampNeg) = dv at hcd ⊢
  generalize M a1 k.toNatClampNeg = c at hcd ⊢
  by_cases h40 : c = 40
  · have hd := hcd h40
    have h116 : ¬ c = 116 := by rw [h40]; decide
    have h115 : ¬ c = 115 := by rw [h40]; decide
    by_cases h6 : 6 ≤ p
    · simp [hd, h40, h6]
    · simp [hd, h40, h6]
  · by_cases hd : dv = 0
    · by_cases h116 : c = 116
      · simp [hd, h116]
      · by_cases h115 : c = 115
        · simp [hd, h115]
        · simp [hd, h116, h115, h40]
    · simp [hd, h40]
theorem fc_has {n : Nat} {M : Mem} {a1 : Nat} {a2 p q w k : Int32} (h : ¬ a2 ≤ k) (h' : ¬ 100 ≤ k) (hw : w = 0) :
    lp_X2_faultIn_10 (n + 1) M a1 a2 p q w k =
      (if ¬ f_X2_isDigit (M a1 k.toNatClampNeg) = 0 ∧ ¬ q ≤ 0 then lp_X2_faultIn_10 n M a1 a2 p (q + -1) w (k + 1)
       else if ¬ f_X2_isSumSign (M a1 k.toNatClampNeg) = 0 ∨ ¬ f_X2_isProductSign (M a1 k.toNatClampNeg) = 0 then lp_X2_faultIn_10 n M a1 a2 p q 1 (k + 1)
       else if M a1 k.toNatClampNeg = 41 ∧ ¬ p ≤ 0 then lp_X2_faultIn_10 n M a1 a2 (p + -1) 0 w (k + 1)
       else k) := by
  rw [lp_X2_faultIn_10, if_neg h, if_neg h']
  simp only [bnd, if_pos hw, not_true, hw, if_true, if_false]
  generalize f_X2_isDigit (M a1 k.toNatClampNeg) = dv
  generalize f_X2_isSumSign (M a1 k.toNatClampNeg) = sv
  generalize f_X2_isProductSign (M a1 k.toNatClampNeg) = pv
  generalize M a1 k.toNatClampNeg = c
  by_cases hd : dv = 0 <;> by_cases hq : q ≤ 0 <;> by_cases hs : sv = 0 <;> by_cases hp : pv = 0 <;> by_cases h41 : c = 41 <;> by_cases hp0 : p ≤ 0 <;> simp [hd, hq, hs, hp, h41, hp0]
/-- a sign that no law has -/
def bad (c : Int32) : Prop := ¬ dg c ∧ ¬ sg c ∧ ¬ pg c ∧ c ≠ 40 ∧ c ≠ 41 ∧ c ≠ 116 ∧ c ≠ 115
def SC (a b : Int32) : Prop := a = b ∨ (bad a ∧ bad b)
theorem wk_iff {c : Int32} : fl_work c ↔ sg c ∨ pg c := by unfold fl_work sg pg; rw [or_assoc]
theorem SC_all : ∀ i : Fin 256, SC (Int32.ofInt ((i.val : Int) - 128)) ((Int32.ofInt ((i.val : Int) - 128)).toInt64.toInt32 &&& 255) := by
  unfold SC bad dg sg pg
  decide +kernel
theorem SC_and {x : Int32} (h : -128 ≤ x.toInt ∧ x.toInt ≤ 127) : SC x (x.toInt64.toInt32 &&& 255) := by
  have e := SC_all ⟨(x.toInt + 128).toNat, by omega⟩
  have : (((x.toInt + 128).toNat : Nat) : Int) - 128 = x.toInt := by omega
  simp only [this, Int32.ofInt_toInt] at e
  exact e
theorem fault_eq {C R : Mem} {a n : Nat} (hn : n ≤ 100) (hs : ∀ j, j < n → SC (C a j) (R 12 j)) (hz : R 0 21 = nI n) : ∀ (m f g k : Nat) (R' : Mem) (p q w ax : Int32) (d : Nat), m + k = n → m < f → m < g → (∀ j z, ¬ (j = 0 ∧ z = 22) → R' j z = R j z) → p = nI d → d ≤ 6 →
    (w = 0 ∨ (w = 1 ∧ ax = 0)) → (w = 0 → ax = 0 → q = 0) → (w = 0 → ¬ ax = 0 → ∃ k0, k = k0 + 1 ∧ dg (R 12 k0) ∧ ((q = 0 ∧ (R' 0 22 = 3 ∨ (R' 0 22 = 1 ∧ R 12 k0 = 48))) ∨ (q = 1 ∧ R' 0 22 = 2) ∨ (q = 2 ∧ R' 0 22 = 1 ∧ R 12 k0 ≠ 48))) →
    lp_X2_faultIn_10 f C a (nI n) p q w (nI k) = (lp_X7_faultOf_14 g R' w ax p (nI k)).1 ∧ (lp_X2_faultIn_10 f C a (nI n) p q w (nI k) = -4 → VL (R 12) m k (decide (w = 1)) d) := by
  intro m
  induction m with
  | zero =>
    intro f g k R' p q w ax d hm hf hg hfr hp hd hw hq hx
    obtain ⟨f, rfl⟩ : ∃ f', f = f' + 1 := ⟨f - 1, by omega⟩
    obtain ⟨g, rfl⟩ : ∃ g', g = g' + 1 := ⟨g - 1, by omega⟩
    obtain rfl : k = n := by omega
    have e21 : R' 0 21 = nI k := by rw [hfr 0 21 (by omega)]; exact hz
    have hk4 : ¬ nI k = -4 := fun e => by
      have := congrArg Int32.toInt e
      rw [nI_toInt (by omega)] at this
      have : (-4 : Int32).toInt = -4 := by decide
      omega
    rw [fc_end (Or.inl (nI_le (Nat.le_refl _) (by omega))), fl_end (by rw [e21]; exact nI_le (Nat.le_refl _) (by omega)), e21]
    refine ⟨rfl, fun h => ?_⟩
    rcases hw with hw | ⟨hw, _⟩
    · subst hw
      rw [if_neg (not_not_intro rfl)] at h
      by_cases hp0 : p ≤ 0
      · refine ⟨by decide, ?_⟩
        rw [hp] at hp0
        cases d with
        | zero => rfl
        | succ d => exact absurd hp0 (nI_ge (a := 0) (by omega) (by omega))
      · rw [if_neg hp0] at h; exact absurd h hk4
    · subst hw
      rw [if_pos (by decide)] at h; exact absurd h hk4
  | succ m ih =>
    intro f g k R' p q w ax d hm hf hg hfr hp hd hw hq hx
    obtain ⟨f, rfl⟩ : ∃ f', f = f' + 1 := ⟨f - 1, by omega⟩
    obtain ⟨g, rfl⟩ : ∃ g', g = g' + 1 := ⟨g - 1, by omega⟩
    have e21 : R' 0 21 = nI n := by rw [hfr 0 21 (by omega)]; exact hz
    have h1 : ¬ nI n ≤ nI k := nI_ge (by omega) (by omega)
    have h1' : ¬ R' 0 21 ≤ nI k := by rw [e21]; exact h1
    have h2 : ¬ (100 : Int32) ≤ nI k := nI_ge (b := 100) (show k < 100 by omega) (by decide)
    have hk4 : ¬ nI k = -4 := fun e => by
      have := congrArg Int32.toInt e
      rw [nI_toInt (by omega)] at this
      have : (-4 : Int32).toInt = -4 := by decide
      omega
    have ek : (nI k).toNatClampNeg = k := nI_clamp (by omega)
    have e12 : R' 12 k = R 12 k := hfr 12 k (by omega)
    have hsc := hs k (by omega)
    have hfr2 : ∀ v, ∀ j z, ¬ (j = 0 ∧ z = 22) → up2 R' 0 22 v j z = R j z := fun v j z h => by rw [up2_n _ _ h]; exact hfr j z h
    have hp6 : (6 : Int32) ≤ p ↔ d = 6 := by
      rw [hp]
      constructor
      · intro h; by_cases e : d = 6
        · exact e
        · exact absurd h (nI_ge (b := 6) (show d < 6 by omega) (by decide))
      · rintro rfl; decide
    have hp0 : p ≤ 0 ↔ d = 0 := by
      rw [hp]
      constructor
      · intro h; cases d with
        | zero => rfl
        | succ d => exact absurd h (nI_ge (a := 0) (by omega) (by omega))
      · rintro rfl; decide
    have step := fun f' g' R2 p2 q2 w2 ax2 d2 a1 a2 => ih f' g' (k + 1) R2 p2 q2 w2 ax2 d2 (by omega) a1 a2
    rcases hw with hw | ⟨hw, hax⟩
    · subst hw
      rw [fc_has h1 h2 rfl, ek, nI_1]
      by_cases hdx : dg (C a k)
      · have hcc : C a k = R 12 k := hsc.resolve_right (fun h => h.1.1 hdx)
        have hd' : dg (R 12 k) := hcc ▸ hdx
        have hdC : ¬ f_X2_isDigit (C a k) = 0 := fun h => dgC.mp h hdx
        have hdM : ¬ f_X7_in (R' 12 k).toInt64 48 57 = 0 := fun h => dgM.mp h (by rw [e12]; exact hd')
        have hno := dg_not hdx
        by_cases hax : ax = 0
        · have hq0 := hq rfl hax
          rw [if_neg (fun h => h.2 (by rw [hq0]; decide)), if_neg (fun h => h.elim (fun h => h (sgC.mpr hno.1)) (fun h => h (pgC.mpr hno.2.1))), if_neg (fun h => hno.2.2.2.1 h.1),
            fl_has h1' (Or.inr hax) rfl, ek, e12, ← hcc, if_neg (fun h => hno.2.2.2.1 h.1), if_neg (fun h => (wk_iff.mp h).elim hno.1 hno.2.1)]
          exact ⟨rfl, fun h => absurd h hk4⟩
        · obtain ⟨k0, hk0, hk0d, hst⟩ := hx rfl hax
          have hpv : (nI k - 1).toNatClampNeg = k0 := by rw [hk0, nI_pred]; exact nI_clamp (by omega)
          have e12' : R' 12 k0 = R 12 k0 := hfr 12 k0 (by omega)
          rw [fl_more h1' (by rw [ek]; exact hdM) hax, hpv, e12', nI_1]
          rcases hst with ⟨s1, s2⟩ | ⟨s1, s2⟩ | ⟨s1, s2, s3⟩
          · rw [if_neg (fun h => h.2 (by rw [s1]; decide)), if_neg (fun h => h.elim (fun h => h (sgC.mpr hno.1)) (fun h => h (pgC.mpr hno.2.1))), if_neg (fun h => hno.2.2.2.1 h.1), if_pos s2]
            exact ⟨rfl, fun h => absurd h hk4⟩
          · rw [if_pos ⟨hdC, by rw [s1]; decide⟩, if_neg (by rw [s2]; intro h; rcases h with h | h; exact absurd h (by decide); exact absurd h.1 (by decide))]
            obtain ⟨i1, i2⟩ := step f g (up2 R' 0 22 (R' 0 22 + 1)) p (q + -1) 0 ax d (by omega) (by omega) (hfr2 _) hp hd (Or.inl rfl) (fun _ h => absurd h hax) (fun _ _ => ⟨k, rfl, hd', Or.inl ⟨by rw [s1]; decide, Or.inl (by rw [up2_s, s2]; decide)⟩⟩)
            exact ⟨i1, fun h => by
              have := i2 h
              unfold VL
              exact Or.inr (Or.inr (Or.inr (Or.inl ⟨by decide, hd', ⟨k0, hk0, hk0d⟩, this⟩)))⟩
          · rw [if_pos ⟨hdC, by rw [s1]; decide⟩, if_neg (by rw [s2]; intro h; rcases h with h | h; exact absurd h (by decide); exact s3 h.2)]
            obtain ⟨i1, i2⟩ := step f g (up2 R' 0 22 (R' 0 22 + 1)) p (q + -1) 0 ax d (by omega) (by omega) (hfr2 _) hp hd (Or.inl rfl) (fun _ h => absurd h hax) (fun _ _ => ⟨k, rfl, hd', Or.inr (Or.inl ⟨by rw [s1]; decide, by rw [up2_s, s2]; decide⟩)⟩)
            exact ⟨i1, fun h => by
              have := i2 h
              unfold VL
              exact Or.inr (Or.inr (Or.inr (Or.inl ⟨by decide, hd', ⟨k0, hk0, hk0d⟩, this⟩)))⟩
      · have hdx' : ¬ dg (R 12 k) := fun h => by
          rcases hsc with e | e
          · exact hdx (e ▸ h)
          · exact e.2.1 h
        have hdM : f_X7_in (R' 12 k).toInt64 48 57 = 0 := dgM.mpr (by rw [e12]; exact hdx')
        rw [if_neg (fun h => h.1 (dgC.mpr hdx)), fl_has h1' (Or.inl (by rw [ek]; exact hdM)) rfl, ek, e12, nI_1]
        rcases hsc with hcc | ⟨b1, b2⟩
        · rw [← hcc]
          by_cases hwk : sg (C a k) ∨ pg (C a k)
          · rw [if_pos (hwk.imp (fun h e => sgC.mp e h) (fun h e => pgC.mp e h)), if_neg (fun h => by
              rcases hwk with (e | e) | (e | e | e) <;> rw [e] at h <;> exact absurd h.1 (by decide)), if_pos (wk_iff.mpr hwk), Int32.sub_zero]
            obtain ⟨i1, i2⟩ := step f g R' p q 1 0 d (by omega) (by omega) hfr hp hd (Or.inr ⟨rfl, rfl⟩) (fun h => absurd h (by decide)) (fun h => absurd h (by decide))
            exact ⟨i1, fun h => by
              have := i2 h
              unfold VL
              exact Or.inr (Or.inr (Or.inr (Or.inr (Or.inl ⟨by decide, by rw [← hcc]; exact hwk, this⟩))))⟩
          · rw [if_neg (fun h => hwk (h.imp (fun h => Classical.byContradiction fun e => h (sgC.mpr e)) (fun h => Classical.byContradiction fun e => h (pgC.mpr e))))]
            by_cases h41 : C a k = 41 ∧ ¬ p ≤ 0
            · rw [if_pos h41, if_pos h41]
              have hd0 : d ≠ 0 := fun e => h41.2 (hp0.mpr e)
              have hp' : p + -1 = nI (d - 1) := by
                obtain ⟨e, rfl⟩ : ∃ e, d = e + 1 := ⟨d - 1, by omega⟩
                rw [hp, ← Int32.sub_eq_add_neg, nI_pred]; rfl
              rw [Int32.sub_eq_add_neg]
              obtain ⟨i1, i2⟩ := step f g R' (p + -1) 0 0 0 (d - 1) (by omega) (by omega) hfr hp' (by omega) (Or.inl rfl) (fun _ _ => rfl) (fun _ h => absurd rfl h)
              exact ⟨i1, fun h => by
                have := i2 h
                unfold VL
                exact Or.inr (Or.inr (Or.inr (Or.inr (Or.inr ⟨by decide, by rw [← hcc]; exact h41.1, by omega, this⟩))))⟩
            · rw [if_neg h41, if_neg h41, if_neg (fun h => hwk (wk_iff.mp h))]
              exact ⟨rfl, fun h => absurd h hk4⟩
        · rw [if_neg (fun h => h.elim (fun h => h (sgC.mpr b1.2.1)) (fun h => h (pgC.mpr b1.2.2.1))), if_neg (fun h => b1.2.2.2.2.1 h.1), if_neg (fun h => b2.2.2.2.2.1 h.1), if_neg (fun h => (wk_iff.mp h).elim b2.2.1 b2.2.2.1)]
          exact ⟨rfl, fun h => absurd h hk4⟩
    · subst hw
      rw [fc_wants h1 h2 (by decide), fl_wants h1' (Or.inr hax) (by decide), ek, e12, nI_1]
      rcases hsc with hcc | ⟨b1, b2⟩
      · rw [← hcc]
        by_cases hdx : dg (C a k)
        · have hd' : dg (R 12 k) := hcc ▸ hdx
          have hdC : ¬ f_X2_isDigit (C a k) = 0 := fun h => dgC.mp h hdx
          have hdM : ¬ f_X7_in (C a k).toInt64 48 57 = 0 := fun h => dgM.mp h hdx
          have h40 := (dg_not hdx).2.2.1
          have h4 : ¬ (C a k = 40 ∧ ¬ (6 : Int32) ≤ p) := fun h => h40 h.1
          rw [if_neg h4, if_pos (Or.inl hdC), if_neg hdC, if_neg h4, if_pos (Or.inl hdM), if_neg hdM, Int32.add_zero]
          obtain ⟨i1, i2⟩ := step f g (up2 R' 0 22 1) p (if C a k = 48 then 0 else 2) 0 (f_X7_in (C a k).toInt64 48 57) d (by omega) (by omega) (hfr2 _) hp hd (Or.inl rfl) (fun _ h => absurd h hdM) (fun _ _ => ⟨k, rfl, hd', by
            rw [← hcc, up2_s]
            by_cases e48 : C a k = 48
            · rw [if_pos e48]; exact Or.inl ⟨rfl, Or.inr ⟨rfl, e48⟩⟩
            · rw [if_neg e48]; exact Or.inr (Or.inr ⟨rfl, rfl, e48⟩)⟩)
          exact ⟨i1, fun h => by
            have := i2 h
            unfold VL
            exact Or.inr (Or.inr (Or.inl ⟨by decide, hd', this⟩))⟩
        · have hd' : ¬ dg (R 12 k) := hcc ▸ hdx
          have hdC : f_X2_isDigit (C a k) = 0 := dgC.mpr hdx
          have hdM : f_X7_in (C a k).toInt64 48 57 = 0 := dgM.mpr hdx
          rw [if_pos hdC, if_pos hdM, hdC, hdM]
          by_cases h40 : C a k = 40 ∧ ¬ (6 : Int32) ≤ p
          · rw [if_pos h40, if_pos h40]
            have hd6 : d < 6 := by
              have : d ≠ 6 := fun e => h40.2 (hp6.mpr e)
              omega
            obtain ⟨i1, i2⟩ := step f g (up2 R' 0 22 0) (p + 1) q 1 0 (d + 1) (by omega) (by omega) (hfr2 _) (by rw [hp, nI_1]) (by omega) (Or.inr ⟨rfl, rfl⟩) (fun h => absurd h (by decide)) (fun h => absurd h (by decide))
            exact ⟨i1, fun h => by
              have := i2 h
              unfold VL
              exact Or.inl ⟨by decide, by rw [← hcc]; exact h40.1, hd6, this⟩⟩
          · rw [if_neg h40, if_neg h40]
            by_cases hts : C a k = 116 ∨ C a k = 115
            · rw [if_pos (Or.inr hts), if_pos (Or.inr hts), Int32.add_zero]
              obtain ⟨i1, i2⟩ := step f g (up2 R' 0 22 0) p 0 0 0 d (by omega) (by omega) (hfr2 _) hp hd (Or.inl rfl) (fun _ _ => rfl) (fun _ h => absurd rfl h)
              exact ⟨i1, fun h => by
                have := i2 h
                unfold VL
                exact Or.inr (Or.inl ⟨by decide, by rw [← hcc]; exact hts, this⟩)⟩
            · rw [if_neg (fun h => h.elim (fun h => h rfl) hts), if_neg (fun h => h.elim (fun h => h rfl) hts)]
              exact ⟨rfl, fun h => absurd h hk4⟩
      · rw [if_neg (fun h => b1.2.2.2.1 h.1), if_neg (fun h => h.elim (fun h => h (dgC.mpr b1.1)) (fun h => h.elim b1.2.2.2.2.2.1 b1.2.2.2.2.2.2)), if_neg (fun h => b2.2.2.2.1 h.1), if_neg (fun h => h.elim (fun h => h (dgM.mpr b2.1)) (fun h => h.elim b2.2.2.2.2.2.1 b2.2.2.2.2.2.2))]
        exact ⟨rfl, fun h => absurd h hk4⟩
