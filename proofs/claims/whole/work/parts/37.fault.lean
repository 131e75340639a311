-- @needs 36_hM
/-! the fault's loop, told plainly -/
abbrev fl_work (c : Int32) : Prop := c = 43 ∨ c = 45 ∨ c = 42 ∨ c = 47 ∨ c = 37
theorem fl_end {n : Nat} {M : Mem} {w a d k : Int32} (h : M 0 21 ≤ k) : lp_X7_faultOf_14 (n + 1) M w a d k = (if ¬ w = 0 then M 0 21 else if d ≤ 0 then -4 else M 0 21, M) := by
  rw [lp_X7_faultOf_14, if_pos h]; rfl
theorem fl_more {n : Nat} {M : Mem} {w a d k : Int32} (h : ¬ M 0 21 ≤ k) (hd : ¬ f_X7_in (M 12 k.toNatClampNeg).toInt64 48 57 = 0) (ha : ¬ a = 0) :
    lp_X7_faultOf_14 (n + 1) M w a d k = if M 0 22 = 3 ∨ (M 0 22 = 1 ∧ M 12 (k - 1).toNatClampNeg = 48) then (k, M) else lp_X7_faultOf_14 n (up2 M 0 22 (M 0 22 + 1)) w a d (k + 1) := by
  rw [lp_X7_faultOf_14, if_neg h]
  simp only [bnd, if_neg hd, if_neg ha]
  by_cases h3 : M 0 22 = 3
  · simp only [if_pos h3, h3, true_or, if_true]
  · by_cases h1 : M 0 22 = 1
    · by_cases h4 : M 12 (k - 1).toNatClampNeg = 48
      · simp [h1, h4]
      · simp [h1, h4]
    · simp [h3, h1]
theorem fl_wants {n : Nat} {M : Mem} {w a d k : Int32} (h : ¬ M 0 21 ≤ k) (hda : f_X7_in (M 12 k.toNatClampNeg).toInt64 48 57 = 0 ∨ a = 0) (hw : ¬ w = 0) :
    lp_X7_faultOf_14 (n + 1) M w a d k =
      (if M 12 k.toNatClampNeg = 40 ∧ ¬ (6 : Int32) ≤ d then lp_X7_faultOf_14 n (up2 M 0 22 (if f_X7_in (M 12 k.toNatClampNeg).toInt64 48 57 = 0 then 0 else 1)) 1 (f_X7_in (M 12 k.toNatClampNeg).toInt64 48 57) (d + 1) (k + 1)
       else if ¬ f_X7_in (M 12 k.toNatClampNeg).toInt64 48 57 = 0 ∨ M 12 k.toNatClampNeg = 116 ∨ M 12 k.toNatClampNeg = 115 then lp_X7_faultOf_14 n (up2 M 0 22 (if f_X7_in (M 12 k.toNatClampNeg).toInt64 48 57 = 0 then 0 else 1)) 0 (f_X7_in (M 12 k.toNatClampNeg).toInt64 48 57) (d + 0) (k + 1)
       else (k, M)) := by
  rw [lp_X7_faultOf_14, if_neg h]
  simp only [bnd]
  generalize f_X7_in (M 12 k.toNatClampNeg).toInt64 48 57 = dg at hda ⊢
  generalize M 12 k.toNatClampNeg = c
  have e1 : ¬ (1 : Int32) = 0 := by decide
  by_cases hd : dg = 0
  · by_cases h40 : c = 40
    · by_cases h6 : 6 ≤ d
      · simp [hd, hw, h40, h6]
      · simp [hd, hw, h40, h6]
    · by_cases h116 : c = 116
      · simp [hd, hw, h116]
      · by_cases h115 : c = 115
        · simp [hd, hw, h115]
        · simp [hd, hw, h116, h115, h40]
  · have ha : a = 0 := hda.resolve_left hd
    by_cases h40 : c = 40
    · by_cases h6 : 6 ≤ d
      · simp [hd, ha, hw, h40, h6]
      · simp [hd, ha, hw, h40, h6]
    · simp [hd, ha, hw, h40]
theorem fl_has {n : Nat} {M : Mem} {w a d k : Int32} (h : ¬ M 0 21 ≤ k) (hda : f_X7_in (M 12 k.toNatClampNeg).toInt64 48 57 = 0 ∨ a = 0) (hw : w = 0) :
    lp_X7_faultOf_14 (n + 1) M w a d k =
      (if M 12 k.toNatClampNeg = 41 ∧ ¬ d ≤ 0 then lp_X7_faultOf_14 n M 0 0 (d - 1) (k + 1)
       else if fl_work (M 12 k.toNatClampNeg) then lp_X7_faultOf_14 n M 1 0 (d - 0) (k + 1)
       else (k, M)) := by
  rw [lp_X7_faultOf_14, if_neg h]
  simp only [bnd]
  generalize f_X7_in (M 12 k.toNatClampNeg).toInt64 48 57 = dg at hda ⊢
  generalize M 12 k.toNatClampNeg = c
  by_cases h41 : c = 41
  · subst h41
    by_cases hd0 : d ≤ 0
    · by_cases hd : dg = 0
      · simp [hd, hw, hd0]
        intro q; exact absurd q (by decide)
      · simp [hd, hda.resolve_left hd, hw, hd0]
        intro q; exact absurd q (by decide)
    · by_cases hd : dg = 0
      · simp [hd, hw, hd0]
      · simp [hd, hda.resolve_left hd, hw, hd0]
  · by_cases hwk : c = 43 ∨ c = 45 ∨ c = 42 ∨ c = 47 ∨ c = 37
    · have ht : (if c = 43 then (1 : Int32) else if c = 45 then 1 else if c = 42 then 1 else if c = 47 then 1 else if ¬ c = 37 then 0 else 1) = 1 := by
        rcases hwk with rfl | rfl | rfl | rfl | rfl <;> decide
      by_cases hd : dg = 0
      · simp only [if_pos hd, if_pos hw, ht, if_pos h41]
        simp [hwk, h41]
      · simp only [if_neg hd, if_pos (hda.resolve_left hd), if_pos hw, ht, if_pos h41]
        simp [hwk, h41]
    · have ht : (if c = 43 then (1 : Int32) else if c = 45 then 1 else if c = 42 then 1 else if c = 47 then 1 else if ¬ c = 37 then 0 else 1) = 0 := by
        simp only [not_or] at hwk
        rw [if_neg hwk.1, if_neg hwk.2.1, if_neg hwk.2.2.1, if_neg hwk.2.2.2.1, if_pos hwk.2.2.2.2]
      by_cases hd : dg = 0
      · simp only [if_pos hd, if_pos hw, ht, if_pos h41]
        simp [hwk, h41]
      · simp only [if_neg hd, if_pos (hda.resolve_left hd), if_pos hw, ht, if_pos h41]
        simp [hwk, h41]
theorem fv_frame : ∀ (n : Nat) (M : Mem) (w a d k : Int32) (j q : Nat), ¬ (j = 0 ∧ q = 22) → (lp_X7_faultOf_14 n M w a d k).2 j q = M j q := by
  intro n
  induction n with
  | zero => intro M a b c d j k _; rfl
  | succ n ih =>
    intro M w a d k j q hq
    have leaf : ∀ (v w a d k : Int32), (lp_X7_faultOf_14 n (up2 M 0 22 v) w a d k).2 j q = M j q := fun v a b c d => (ih _ _ _ _ _ _ _ hq).trans (up2_n _ _ hq)
    by_cases hk : M 0 21 ≤ k
    · rw [fl_end hk]
    · by_cases hdm : ¬ f_X7_in (M 12 k.toNatClampNeg).toInt64 48 57 = 0 ∧ ¬ a = 0
      · rw [fl_more hk hdm.1 hdm.2]
        split
        · rfl
        · exact leaf _ _ _ _ _
      · have hda : f_X7_in (M 12 k.toNatClampNeg).toInt64 48 57 = 0 ∨ a = 0 := by
          by_cases hd : f_X7_in (M 12 k.toNatClampNeg).toInt64 48 57 = 0
          · exact Or.inl hd
          · exact Or.inr (Classical.byContradiction fun q => hdm ⟨hd, q⟩)
        by_cases hw : w = 0
        · rw [fl_has hk hda hw]
          split
          · exact ih _ _ _ _ _ _ _ hq
          · split
            · exact ih _ _ _ _ _ _ _ hq
            · rfl
        · rw [fl_wants hk hda hw]
          split
          · exact leaf _ _ _ _ _
          · split
            · exact leaf _ _ _ _ _
            · rfl
theorem in_dig {c : Int32} (h : ¬ f_X7_in c.toInt64 48 57 = 0) : ¬ c = 40 ∧ ¬ c = 41 := by
  have hi := in_I h
  have e0 : (48 : Int64).toInt = 48 := rfl
  refine ⟨fun q => ?_, fun q => ?_⟩
  · rw [q] at hi
    have : (40 : Int32).toInt = 40 := rfl
    omega
  · rw [q] at hi
    have : (41 : Int32).toInt = 41 := rfl
    omega
theorem fv : ∀ (n : Nat) (M : Mem) (w a d k : Int32), (M 0 21).toInt ≤ 100 → 0 ≤ k.toInt → d.toInt = dep (M 12) k.toNatClampNeg → (0 ≤ d.toInt ∧ d.toInt ≤ 6) → (∀ j : Nat, j ≤ k.toNatClampNeg → 0 ≤ dep (M 12) j ∧ dep (M 12) j ≤ 6) → (lp_X7_faultOf_14 n M w a d k).1 < 0 → ∀ j : Nat, (j : Int) ≤ (M 0 21).toInt → 0 ≤ dep (M 12) j ∧ dep (M 12) j ≤ 6 := by
  intro n
  induction n with
  | zero => intro M w a d k _ _ _ _ _ h; exact absurd (lt_I h) (by show ¬ ((0 : Int) < 0); omega)
  | succ n ih =>
    intro M w a d k h100 h0 hd hb hp h
    by_cases hk : M 0 21 ≤ k
    · intro j hj
      have := le_I hk
      have := tnc h0
      exact hp j (by omega)
    · have hk1 := nle_I hk
      have err : ¬ (k : Int32) < 0 := fun q => by have := lt_I q; rw [Int32.toInt_zero] at this; omega
      have go : ∀ (M' : Mem) (w' a' d' : Int32), M' 12 = M 12 → M' 0 21 = M 0 21 → (M 12 k.toNatClampNeg = 40 → d' = d + 1 ∧ d.toInt < 6) → (M 12 k.toNatClampNeg = 41 → d' = d - 1 ∧ 0 < d.toInt) → (¬ M 12 k.toNatClampNeg = 40 → ¬ M 12 k.toNatClampNeg = 41 → d' = d) → (lp_X7_faultOf_14 n M' w' a' d' (k + 1)).1 < 0 → ∀ j : Nat, (j : Int) ≤ (M 0 21).toInt → 0 ≤ dep (M 12) j ∧ dep (M 12) j ≤ 6 := by
        intro M' w' a' d' e12 e21 c1 c2 c3 hl
        have hs := fv_step h0 (by omega) hd hb c1 c2 c3
        have := ih M' w' a' d' (k + 1) (by rw [e21]; exact h100) (by omega) (by rw [e12]; exact hs.1) ⟨hs.2.1, hs.2.2.1⟩ (fun j hj => by
          rw [e12]
          by_cases hjk : j ≤ k.toNatClampNeg
          · exact hp j hjk
          · have : j = (k + 1).toNatClampNeg := by have := hs.2.2.2.1; omega
            rw [this, ← hs.1]; exact ⟨hs.2.1, hs.2.2.1⟩) hl
        rw [e12, e21] at this
        exact this
      have u12 : ∀ v, up2 M 0 22 v 12 = M 12 := fun v => up2_o _ _ (by decide)
      have u21 : ∀ v, up2 M 0 22 v 0 21 = M 0 21 := fun v => up2_n _ _ (by decide)
      by_cases hdm : ¬ f_X7_in (M 12 k.toNatClampNeg).toInt64 48 57 = 0 ∧ ¬ a = 0
      · rw [fl_more hk hdm.1 hdm.2] at h
        have hn := in_dig hdm.1
        split at h
        · exact absurd h err
        · exact go _ _ _ _ (u12 _) (u21 _) (fun q => absurd q hn.1) (fun q => absurd q hn.2) (fun _ _ => rfl) h
      · have hda : f_X7_in (M 12 k.toNatClampNeg).toInt64 48 57 = 0 ∨ a = 0 := by
          by_cases hd : f_X7_in (M 12 k.toNatClampNeg).toInt64 48 57 = 0
          · exact Or.inl hd
          · exact Or.inr (Classical.byContradiction fun q => hdm ⟨hd, q⟩)
        by_cases hw : w = 0
        · rw [fl_has hk hda hw] at h
          split at h
          · rename_i hc
            have := nle_I hc.2
            rw [Int32.toInt_zero] at this
            exact go _ _ _ _ rfl rfl (fun q => by rw [hc.1] at q; exact absurd q (by decide)) (fun _ => ⟨rfl, this⟩) (fun _ q => absurd hc.1 q) h
          · split at h
            · rename_i hwk
              refine go _ _ _ _ rfl rfl (fun q => ?_) (fun q => ?_) (fun _ _ => Int32.sub_zero d) h
              · rw [q] at hwk; exact absurd hwk (by decide)
              · rw [q] at hwk; exact absurd hwk (by decide)
            · exact absurd h err
        · rw [fl_wants hk hda hw] at h
          split at h
          · rename_i hc
            have h6 := nle_I hc.2
            have e6 : (6 : Int32).toInt = 6 := rfl
            exact go _ _ _ _ (u12 _) (u21 _) (fun _ => ⟨rfl, by omega⟩) (fun q => by rw [hc.1] at q; exact absurd q (by decide)) (fun q => absurd hc.1 q) h
          · rename_i hc1
            split at h
            · rename_i hc
              refine go _ _ _ _ (u12 _) (u21 _) (fun q => ?_) (fun q => ?_) (fun _ _ => Int32.add_zero d) h
              · rcases hc with hc | hc | hc
                · exact absurd q (in_dig hc).1
                · rw [q] at hc; exact absurd hc (by decide)
                · rw [q] at hc; exact absurd hc (by decide)
              · rcases hc with hc | hc | hc
                · exact absurd q (in_dig hc).2
                · rw [q] at hc; exact absurd hc (by decide)
                · rw [q] at hc; exact absurd hc (by decide)
            · exact absurd h err
theorem faultOf_valid {M : Mem} (hs : 0 ≤ (M 0 21).toInt ∧ (M 0 21).toInt ≤ 100) (h : (f_X7_faultOf M).1 < 0) : LVt (M 12) (M 0 21) := by
  have e12 : up2 M 0 22 0 12 = M 12 := up2_o _ _ (by decide)
  have e21 : up2 M 0 22 0 0 21 = M 0 21 := up2_n _ _ (by decide)
  have := fv 101 (up2 M 0 22 0) 1 0 0 0 (by rw [e21]; exact hs.2) (by decide) (by rfl) (by decide) (fun j hj => by
    have : j = 0 := by have : (0 : Int32).toNatClampNeg = 0 := rfl; omega
    subst this; exact ⟨Int.le_refl 0, show (0 : Int) ≤ 6 by decide⟩) h
  rw [e12, e21] at this
  exact ⟨hs, this⟩
theorem faultOf_frame (M : Mem) {j q : Nat} (h : ¬ (j = 0 ∧ q = 22)) : (f_X7_faultOf M).2 j q = M j q := by
  show (lp_X7_faultOf_14 101 (up2 M 0 22 0) 1 0 0 0).2 j q = _
  rw [fv_frame _ _ _ _ _ _ _ _ h, up2_n _ _ h]
/-! what law, fault do to the invariant -/
theorem readText_lp : ∀ (n : Nat) (a1 : Int32) (M : Mem) (v : Int32) (j q : Nat), j ≠ 12 → (lp_X7_readText_12 n a1 M v) j q = M j q := by
  intro n
  induction n with
  | zero => intro a M v j q _; rfl
  | succ n ih =>
    intro a M v j q hj
    rw [lp_X7_readText_12]
    split
    · rfl
    · simp only [bnd]
      rw [ih _ _ _ _ _ hj, up2_o _ _ hj]
theorem readText_row (M : Mem) (a : Int32) {j q : Nat} (hj : j ≠ 12) (h : ¬ (j = 0 ∧ q = 21)) : f_X7_readText M a j q = M j q := by
  unfold f_X7_readText
  simp only [bnd]
  rw [readText_lp _ _ _ _ _ _ hj, up2_n _ _ h]
theorem readText_21 (M : Mem) (a : Int32) : f_X7_readText M a 0 21 = M 28 a.toNatClampNeg := by
  unfold f_X7_readText
  simp only [bnd]
  rw [readText_lp _ _ _ _ _ _ (by decide), up2_s]
theorem law_lp : ∀ (n : Nat) (M : Mem) (v : Int32), 0 ≤ v.toInt → (M 0 21).toInt ≤ 100 → ((M 0 21).toInt - v.toInt).toNat < n → (∀ j q, j ≠ 1 → (lp_X7_law_48 n M v) j q = M j q) ∧ (∀ q : Nat, (q : Int) < (M 0 21).toInt → (lp_X7_law_48 n M v) 1 q = if (q : Int) < v.toInt then M 1 q else M 12 q) := by
  intro n
  induction n with
  | zero => intro M v _ _ h; exact absurd h (Nat.not_lt_zero _)
  | succ n ih =>
    intro M v h0 h1 hn
    rw [lp_X7_law_48]
    split
    · rename_i hc
      have := le_I hc
      exact ⟨fun _ _ _ => rfl, fun q hq => by rw [if_pos (by omega)]⟩
    · rename_i hc
      have hc := nle_I hc
      simp only [bnd]
      have e1 : (v + 1).toInt = v.toInt + 1 := inc_I (N := 100) (by omega) (by decide)
      have ev := tnc h0
      have := ih (up2 M 1 v.toNatClampNeg (M 12 v.toNatClampNeg)) (v + 1) (by omega) (by rw [up2_o _ _ (by decide)]; exact h1) (by rw [up2_o _ _ (by decide)]; omega)
      refine ⟨fun j q hj => by rw [this.1 j q hj, up2_o _ _ hj], fun q hq => ?_⟩
      rw [this.2 q (by rw [up2_o _ _ (by decide)]; exact hq), e1, up2_o _ _ (show (12 : Nat) ≠ 1 by decide)]
      by_cases hqv : q = v.toNatClampNeg
      · subst hqv
        rw [if_pos (by omega), if_neg (by omega), up2_s]
      · rw [up2_n _ _ (by omega)]
        by_cases h2 : (q : Int) < v.toInt
        · rw [if_pos h2, if_pos (by omega)]
        · rw [if_neg h2, if_neg (by omega)]
theorem ti_law {M u : Mem} {d r : Int32} (hI : MI M) (h : f_X7_law M d = (r, u)) : TI M u := by
  unfold f_X7_law at h
  rw [bnd_eq, bnd_eq] at h
  have h1 : TI M (up2 M 0 19 0) := TI_f (TI_rf hI) (by decide)
  generalize up2 M 0 19 0 = M1 at h h1
  split at h
  · rename_i h5
    have hd := wrongSort_in (nlt_of_le h5)
    rw [bnd_eq] at h
    have hdn : d.toNatClampNeg < 8 := by have := tnc hd.1; omega
    have hsz := h1.1.2.2.2.1 _ hdn
    have r21 := readText_21 M1 d
    have rrow : ∀ {j q : Nat}, j ≠ 12 → ¬ (j = 0 ∧ q = 21) → f_X7_readText M1 d j q = M1 j q := fun a b => readText_row M1 d a b
    generalize f_X7_readText M1 d = M9 at h r21 rrow
    have h9 : TI M M9 := by
      refine ⟨⟨?_, ?_, ?_, ?_, ?_, ?_⟩, fun q => ?_⟩
      · rw [rrow (by decide) (by omega)]; exact h1.1.1
      · rw [rrow (by decide) (by omega)]; exact h1.1.2.1
      · rw [r21]; exact hsz
      · intro q hq; rw [rrow (by decide) (by omega)]; exact h1.1.2.2.2.1 q hq
      · exact LVt_congr h1.1.2.2.2.2.1 (rrow (by decide) (by omega)) fun j _ => rrow (by decide) (by omega)
      · rw [rrow (by decide) (by omega), show M9 21 = M1 21 from funext fun k => rrow (by decide) (by omega)]; exact h1.1.2.2.2.2.2
      · rw [show M9 20 = M1 20 from funext fun k => rrow (by decide) (by omega)]; exact h1.2 q
    have hv := faultOf_valid (M := M9) h9.1.2.2.1
    have hf := fun {j q : Nat} => faultOf_frame (j := j) (q := q) M9
    rcases hr : f_X7_faultOf M9 with ⟨r11, M13⟩
    rw [hr] at h hv
    have hf : ∀ {j q : Nat}, ¬ (j = 0 ∧ q = 22) → M13 j q = M9 j q := fun hh => by have := hf hh; rw [hr] at this; exact this
    have h13 : TI M M13 := TI_to h9 (MI_of h9.1 (fun k hk => hf (by omega)) (funext fun k => hf (by omega)) (funext fun k => hf (by omega)) (funext fun k => hf (by omega))) (funext fun k => hf (by omega))
    dsimp only [bnd2] at h
    split at h
    · rename_i hneg
      have hL := hv hneg
      obtain ⟨-, h⟩ := Prod.mk.inj (show ((1 : Int32), up2 (lp_X7_law_48 101 (up2 M13 0 5 (M13 0 21)) 0) 0 29 0) = (r, u) from h)
      subst h
      have e21 : up2 M13 0 5 (M13 0 21) 0 21 = M13 0 21 := up2_n _ _ (by decide)
      have hb : (M13 0 21).toInt ≤ 100 := h13.1.2.2.1.2
      have hl := law_lp 101 (up2 M13 0 5 (M13 0 21)) 0 (by decide) (by rw [e21]; exact hb) (by rw [e21]; have := h13.1.2.2.1; rw [Int32.toInt_zero]; omega)
      rw [e21] at hl
      have hrow : ∀ j q, j ≠ 1 → ¬ (j = 0 ∧ (q = 5 ∨ q = 29)) → up2 (lp_X7_law_48 101 (up2 M13 0 5 (M13 0 21)) 0) 0 29 0 j q = M13 j q := fun j q a b => by rw [up2_n _ _ (by omega), hl.1 j q a, up2_n _ _ (by omega)]
      refine ⟨⟨?_, ?_, ?_, ?_, ?_, ?_⟩, fun q => ?_⟩
      · rw [hrow _ _ (by decide) (by omega)]; exact h13.1.1
      · rw [hrow _ _ (by decide) (by omega)]; exact h13.1.2.1
      · rw [hrow _ _ (by decide) (by omega)]; exact h13.1.2.2.1
      · intro q hq; rw [hrow _ _ (by decide) (by omega)]; exact h13.1.2.2.2.1 q hq
      · have e5 : up2 (lp_X7_law_48 101 (up2 M13 0 5 (M13 0 21)) 0) 0 29 0 0 5 = M13 0 21 := by rw [up2_n _ _ (by omega), hl.1 0 5 (by decide), up2_s]
        have e9 : M13 0 21 = M9 0 21 := hf (by omega)
        rw [e5]
        have hL' : LVt (M9 12) (M13 0 21) := by rw [e9]; exact hL
        refine ⟨hL'.1, fun k hk => ?_⟩
        rw [dep_congr k (t' := M9 12) (fun j hj => by
          rw [up2_o _ _ (by decide), hl.2 j (by omega), Int32.toInt_zero, if_neg (by omega), up2_o _ _ (by decide)]
          exact hf (by omega))]
        exact hL'.2 k hk
      · rw [hrow _ _ (by decide) (by omega), show up2 (lp_X7_law_48 101 (up2 M13 0 5 (M13 0 21)) 0) 0 29 0 21 = M13 21 from funext fun k => hrow _ _ (by decide) (by omega)]; exact h13.1.2.2.2.2.2
      · rw [show up2 (lp_X7_law_48 101 (up2 M13 0 5 (M13 0 21)) 0) 0 29 0 20 = M13 20 from funext fun k => hrow _ _ (by decide) (by omega)]; exact h13.2 q
    · obtain ⟨-, h⟩ := Prod.mk.inj h
      subst h
      exact h13
  · obtain ⟨-, h⟩ := Prod.mk.inj h
    subst h
    exact h1
theorem kvM_ref (ad : Nat → Nat) {a : Int32} (h : a = 1 ∨ a = 2) : ∃ r, kvM ad a = .ref (ad r) := by
  rcases h with rfl | rfl
  · exact ⟨20, rfl⟩
  · exact ⟨21, rfl⟩
theorem sub_I {a b : Int32} (ha : 0 ≤ a.toInt) (hb : 0 ≤ b.toInt) : (a - b).toInt = a.toInt - b.toInt := by
  have h1 : a.toInt ≤ 2147483647 := Int32.toInt_le a
  have h2 : b.toInt ≤ 2147483647 := Int32.toInt_le b
  rw [Int32.toInt_sub, Int.bmod_eq_of_le] <;> omega
theorem elem_in {M M' : Mem} {a1 a2 y t : Int32} (hI : MI M) (ey : y = f_X7_wrongRow M a1) (hr : (if ¬ y = (-1) then (if y < 0 then 2 else (if ¬ f_X7_in a2.toInt64 0 (((M 28 a1.toNatClampNeg) - 1).toInt64) = 0 then 0 else 2)) else 1) = t) (e : M' = up2 M 0 19 t) (h : M' 0 19 ≤ 0) : vp_in ((100 * a1) + a2) 800 := by
  rw [e, up2_s] at h
  split at hr
  · split at hr
    · rw [← hr] at h; exact absurd h (by decide)
    · rename_i h1
      rw [ey] at h1
      have hd := wrongRow_in h1
      split at hr
      · rename_i h2
        have hdn : a1.toNatClampNeg < 8 := by have := tnc hd.1; omega
        have hq := hI.2.2.2.1 _ hdn
        have := in_I1 (by omega) h2
        have e0 : (0 : Int64).toInt = 0 := rfl
        exact vin_row hd (by omega)
      · rw [← hr] at h; exact absurd h (by decide)
  · rw [← hr] at h; exact absurd h (by decide)
theorem sl_lay_0_7 {M M' : Mem} {a b c d : Int32} (h : f_X7_lay M a b c d = M') : M' 0 7 = M 0 7 := by
  subst h; unfold f_X7_lay; simp only [bnd]
  rw [fr_begin _ _ 0 (by decide), up2_o _ _ (by decide), up2_o _ _ (by decide), up2_o _ _ (by decide)]
theorem sl_bitsOn_0_7 {M M' : Mem} (h : f_X7_bitsOn M = M') : M' 0 7 = M 0 7 + 1 := bitsOn_sec h
theorem read_in {M : Mem} {b d t : Int32} (hb : 0 ≤ (M 0 8).toInt ∧ (M 0 8).toInt ≤ 4) (hr : (if f_X7_isBoat M b = 0 then (-1) else f_X7_wrongRow M d) = t) (h : 0 ≤ t) : (0 ≤ b.toInt ∧ b.toInt < 4) ∧ (0 ≤ d.toInt ∧ d.toInt < 8) := by
  split at hr
  · rw [← hr] at h; exact absurd h (by decide)
  · rename_i h1
    have := isBoat_in (by omega) h1
    rw [← hr] at h
    exact ⟨by omega, wrongRow_in (nlt_of_le h)⟩
