-- @needs 30_fC
/-! what the contracts of the class need of its functions -/
theorem mx_I (x y : Int32) : (mx x y).toInt = max x.toInt y.toInt := by
  unfold mx; split
  · have := lt_I ‹_›; omega
  · have := nlt_I ‹_›; omega
theorem mn_I (x y : Int32) : (mn x y).toInt = min x.toInt y.toInt := by
  unfold mn; split
  · have := lt_I ‹_›; omega
  · have := nlt_I ‹_›; omega
theorem take_ok (a : Int32) : 0 ≤ (mx 0 (mn a (mn 100 100))).toInt ∧ (mx 0 (mn a (mn 100 100))).toInt ≤ 100 := by
  rw [mx_I, mn_I, show (mn 100 100).toInt = 100 from by decide, Int32.toInt_zero]; omega
theorem ne2_I {y : Int32} (h : 0 < y.toInt) : ¬ 2 * y = 0 := by
  intro q
  have h1 := congrArg Int32.toInt q
  have := Int32.toInt_le y
  rw [Int32.toInt_mul] at h1
  have h2 : Int.bmod (2 * y.toInt) (2^32) = 0 := h1
  have h3 : y.toInt ≤ 2147483647 := this
  have : Int.emod (2 * y.toInt) (2^32) = 2 * y.toInt := Int.emod_eq_of_lt (by omega) (by omega)
  unfold Int.bmod at h2
  simp only at h2
  have h4 : (2 * y.toInt) % (2^32) = 2 * y.toInt := this
  rw [show ((2 ^ 32 : Nat) : Int) = 2 ^ 32 from rfl, h4] at h2
  split at h2 <;> omega
/-! the law's text is read from the left -/
theorem next_lt {M : Mem} {o : Nat} {c : Int32} (h : f_X2_next M o = c) (hc : ¬ c = 0) : 0 ≤ (M o 2).toInt ∧ (M o 2).toInt < 100 := by
  unfold f_X2_next at h
  simp only [bnd] at h
  split at h
  · exact absurd h.symm hc
  · rename_i h1
    split at h
    · exact absurd h.symm hc
    · split at h
      · exact absurd h.symm hc
      · rename_i h3
        have := nlt_I h1
        have := nle_I h3
        rw [Int32.toInt_zero] at *
        exact ⟨by omega, this⟩
theorem isDigit0 : f_X2_isDigit 0 = 0 := by decide
theorem isProductSign0 : f_X2_isProductSign 0 = 0 := by decide
theorem isSumSign0 : f_X2_isSumSign 0 = 0 := by decide
theorem digit_lt {M : Mem} {o : Nat} (h : ¬ f_X2_isDigit (f_X2_next M o) = 0) : 0 ≤ (M o 2).toInt ∧ (M o 2).toInt < 100 := next_lt rfl (fun q => h (by rw [q]; exact isDigit0))
theorem isProductSign_lt {M : Mem} {o : Nat} (h : ¬ f_X2_isProductSign (f_X2_next M o) = 0) : 0 ≤ (M o 2).toInt ∧ (M o 2).toInt < 100 := next_lt rfl (fun q => h (by rw [q]; exact isProductSign0))
theorem isSumSign_lt {M : Mem} {o : Nat} (h : ¬ f_X2_isSumSign (f_X2_next M o) = 0) : 0 ≤ (M o 2).toInt ∧ (M o 2).toInt < 100 := next_lt rfl (fun q => h (by rw [q]; exact isSumSign0))
/-- what a sum does to the place: it goes on, not far behind the text -/
def FSok (fs : Mem → Nat → Int32 → Int32 × Mem) (n : Nat) : Prop := ∀ (M : Mem) (o : Nat) (a1 : Int32), 7 ≤ a1.toInt + ((n : Nat) : Int) → a1.toInt ≤ 6 → (0 ≤ (M o 2).toInt ∧ (M o 2).toInt ≤ 600) →
  (M o 2).toInt ≤ ((fs M o a1).2 o 2).toInt ∧ ((fs M o a1).2 o 2).toInt ≤ max (M o 2).toInt 100 + 2 * ((n : Nat) : Int)
theorem whole_pl : ∀ (n o : Nat) (M : Mem) (v : Int32), 0 ≤ (M o 2).toInt → (M o 2).toInt ≤ ((lp_X2_wholeNumber_2 n o M v).2 o 2).toInt ∧ ((lp_X2_wholeNumber_2 n o M v).2 o 2).toInt ≤ max (M o 2).toInt 100 := by
  intro n
  induction n with
  | zero => intro o M v h0; rw [lp_X2_wholeNumber_2]; show _ ≤ (M o 2).toInt ∧ (M o 2).toInt ≤ _; omega
  | succ n ih =>
    intro o M v h0
    rw [lp_X2_wholeNumber_2]
    split
    · show _ ≤ (M o 2).toInt ∧ (M o 2).toInt ≤ _; omega
    · split
      · show _ ≤ (M o 2).toInt ∧ (M o 2).toInt ≤ _; omega
      · rename_i hd
        have hd := digit_lt hd
        simp only [bnd]
        have h2 : ((up2 M o 2 (M o 2 + 1)) o 2).toInt = (M o 2).toInt + 1 := by rw [up2_s, inc_I hd.2 (by decide)]
        have := ih o (up2 M o 2 (M o 2 + 1)) (v * 10 + f_X2_next M o - 48) (by omega)
        omega
theorem atom_pl {fs : Mem → Nat → Int32 → Int32 × Mem} {n : Nat} (hfs : FSok fs n) (hn : n ≤ 7) {M : Mem} {o : Nat} {a1 : Int32} (hd : 7 ≤ a1.toInt + ((n : Nat) : Int) + 1) (h6 : a1.toInt ≤ 6) (hlb : 0 ≤ (M o 2).toInt ∧ (M o 2).toInt ≤ 600) :
    (M o 2).toInt ≤ ((f_X2_atom fs M o a1).2 o 2).toInt ∧ ((f_X2_atom fs M o a1).2 o 2).toInt ≤ max (M o 2).toInt 100 + 2 * ((n : Nat) : Int) + 2 := by
  have hp : ((up2 M o 2 (M o 2 + 1)) o 2).toInt = (M o 2).toInt + 1 := by rw [up2_s, inc_I (N := 1000) (by omega) (by decide)]
  unfold f_X2_atom
  simp only [bnd, bnd2]
  split
  · split
    · show _ ≤ ((up2 M o 2 (M o 2 + 1)) o 2).toInt ∧ ((up2 M o 2 (M o 2 + 1)) o 2).toInt ≤ _; omega
    · rename_i h40
      split
      · show _ ≤ ((up2 M o 2 (M o 2 + 1)) o 2).toInt ∧ ((up2 M o 2 (M o 2 + 1)) o 2).toInt ≤ _; omega
      · rename_i h61
        have h40 : f_X2_next M o = 40 := Classical.byContradiction h40
        have hl := next_lt h40 (by decide)
        have q6 := nle_I h61
        have q7 : (6 : Int32).toInt = 6 := rfl
        have q8 : (a1 + 1).toInt = a1.toInt + 1 := inc_I (N := 6) (by omega) (by decide)
        have h := hfs (up2 M o 2 (M o 2 + 1)) o (a1 + 1) (by omega) (by omega) (by omega)
        dsimp only
        rw [up2_s, inc_I (N := 1000) (by omega) (by decide)]
        omega
  · unfold f_X2_wholeNumber
    simp only [bnd2]
    have := whole_pl ((100 - (M o 2).toInt).toNat + 1) o M 0 hlb.1
    omega
theorem atom_step {fs : Mem → Nat → Int32 → Int32 × Mem} {n : Nat} (hfs : FSok fs n) (hn : n ≤ 7) {M M2 : Mem} {o : Nat} {a1 r : Int32} (hd : 7 ≤ a1.toInt + ((n : Nat) : Int) + 1) (h6 : a1.toInt ≤ 6) (hl : 0 ≤ (M o 2).toInt ∧ (M o 2).toInt < 100) (hF : f_X2_atom fs (up2 M o 2 (M o 2 + 1)) o a1 = (r, M2)) :
    (M o 2).toInt + 1 ≤ (M2 o 2).toInt ∧ (M2 o 2).toInt ≤ 100 + 2 * ((n : Nat) : Int) + 2 := by
  have hp : ((up2 M o 2 (M o 2 + 1)) o 2).toInt = (M o 2).toInt + 1 := by rw [up2_s, inc_I hl.2 (by decide)]
  have h := atom_pl hfs hn (M := up2 M o 2 (M o 2 + 1)) (o := o) hd h6 (by omega)
  rw [hF] at h
  have h : _ ≤ (M2 o 2).toInt ∧ (M2 o 2).toInt ≤ _ := h
  omega
theorem product_lp {fs : Mem → Nat → Int32 → Int32 × Mem} {n : Nat} (hfs : FSok fs n) (hn : n ≤ 7) {o : Nat} {a1 : Int32} (hd : 7 ≤ a1.toInt + ((n : Nat) : Int) + 1) (h6 : a1.toInt ≤ 6) : ∀ (q : Nat) (M : Mem) (v : Int32), (M o 2).toInt ≤ ((lp_X2_product_6 q fs o a1 M v).2 o 2).toInt ∧ ((lp_X2_product_6 q fs o a1 M v).2 o 2).toInt ≤ max (M o 2).toInt (100 + 2 * ((n : Nat) : Int) + 2) := by
  intro q
  induction q with
  | zero => intro M v; rw [lp_X2_product_6]; show _ ≤ (M o 2).toInt ∧ (M o 2).toInt ≤ _; omega
  | succ q ih =>
    intro M v
    rw [lp_X2_product_6]
    split
    · show _ ≤ (M o 2).toInt ∧ (M o 2).toInt ≤ _; omega
    · split
      · show _ ≤ (M o 2).toInt ∧ (M o 2).toInt ≤ _; omega
      · rename_i hs
        have hs := isProductSign_lt hs
        simp only [bnd, bnd2]
        rcases hp : f_X2_atom fs (up2 M o 2 (M o 2 + 1)) o a1 with ⟨r, M2⟩
        have h1 := atom_step hfs hn hd h6 hs hp
        have h2 := ih M2 (f_X2_joined (f_X2_next M o) v r)
        dsimp only
        omega
theorem product_pl {fs : Mem → Nat → Int32 → Int32 × Mem} {n : Nat} (hfs : FSok fs n) (hn : n ≤ 7) {M : Mem} {o : Nat} {a1 : Int32} (hd : 7 ≤ a1.toInt + ((n : Nat) : Int) + 1) (h6 : a1.toInt ≤ 6) (hlb : 0 ≤ (M o 2).toInt ∧ (M o 2).toInt ≤ 600) :
    (M o 2).toInt ≤ ((f_X2_product fs M o a1).2 o 2).toInt ∧ ((f_X2_product fs M o a1).2 o 2).toInt ≤ max (M o 2).toInt 100 + 2 * ((n : Nat) : Int) + 2 := by
  unfold f_X2_product
  simp only [bnd2]
  have h1 := atom_pl hfs hn (M := M) (o := o) hd h6 hlb
  have h2 := product_lp hfs hn (o := o) hd h6 ((100 - ((f_X2_atom fs M o a1).2 o 2).toInt).toNat + 1) (f_X2_atom fs M o a1).2 (f_X2_atom fs M o a1).1
  omega
theorem product_step {fs : Mem → Nat → Int32 → Int32 × Mem} {n : Nat} (hfs : FSok fs n) (hn : n ≤ 7) {M M2 : Mem} {o : Nat} {a1 r : Int32} (hd : 7 ≤ a1.toInt + ((n : Nat) : Int) + 1) (h6 : a1.toInt ≤ 6) (hl : 0 ≤ (M o 2).toInt ∧ (M o 2).toInt < 100) (hF : f_X2_product fs (up2 M o 2 (M o 2 + 1)) o a1 = (r, M2)) :
    (M o 2).toInt + 1 ≤ (M2 o 2).toInt ∧ (M2 o 2).toInt ≤ 100 + 2 * ((n : Nat) : Int) + 2 := by
  have hp : ((up2 M o 2 (M o 2 + 1)) o 2).toInt = (M o 2).toInt + 1 := by rw [up2_s, inc_I hl.2 (by decide)]
  have h := product_pl hfs hn (M := up2 M o 2 (M o 2 + 1)) (o := o) hd h6 (by omega)
  rw [hF] at h
  have h : _ ≤ (M2 o 2).toInt ∧ (M2 o 2).toInt ≤ _ := h
  omega
theorem sum_lp {fs : Mem → Nat → Int32 → Int32 × Mem} {n : Nat} (hfs : FSok fs n) (hn : n ≤ 7) {o : Nat} {a1 : Int32} (hd : 7 ≤ a1.toInt + ((n : Nat) : Int) + 1) (h6 : a1.toInt ≤ 6) : ∀ (q : Nat) (M : Mem) (v : Int32), (M o 2).toInt ≤ ((lp_X2_sum_6 q fs o a1 M v).2 o 2).toInt ∧ ((lp_X2_sum_6 q fs o a1 M v).2 o 2).toInt ≤ max (M o 2).toInt (100 + 2 * ((n : Nat) : Int) + 2) := by
  intro q
  induction q with
  | zero => intro M v; rw [lp_X2_sum_6]; show _ ≤ (M o 2).toInt ∧ (M o 2).toInt ≤ _; omega
  | succ q ih =>
    intro M v
    rw [lp_X2_sum_6]
    split
    · show _ ≤ (M o 2).toInt ∧ (M o 2).toInt ≤ _; omega
    · split
      · show _ ≤ (M o 2).toInt ∧ (M o 2).toInt ≤ _; omega
      · rename_i hs
        have hs := isSumSign_lt hs
        simp only [bnd, bnd2]
        rcases hp : f_X2_product fs (up2 M o 2 (M o 2 + 1)) o a1 with ⟨r, M2⟩
        have h1 := product_step hfs hn hd h6 hs hp
        have h2 := fun v => ih M2 v
        dsimp only
        refine ⟨Int.le_trans ?_ (h2 _).1, Int.le_trans (h2 _).2 ?_⟩ <;> omega
theorem sum_ok {fs : Mem → Nat → Int32 → Int32 × Mem} {n : Nat} (hfs : FSok fs n) (hn : n ≤ 7) : FSok (f_X2_sum fs) (n + 1) := by
  intro M o a1 hd h6 hlb
  have hd : 7 ≤ a1.toInt + ((n : Nat) : Int) + 1 := by have := hd; push_cast at this; omega
  unfold f_X2_sum
  simp only [bnd2]
  have h1 := product_pl hfs hn (M := M) (o := o) hd h6 hlb
  have h2 := sum_lp hfs hn (o := o) hd h6 ((100 - ((f_X2_product fs M o a1).2 o 2).toInt).toNat + 1) (f_X2_product fs M o a1).2 (f_X2_product fs M o a1).1
  push_cast
  omega
theorem fS_ok : ∀ n : Nat, n ≤ 7 → FSok (fS n) n := by
  intro n
  induction n with
  | zero => intro _ M o a1 hd h6; exact absurd hd (by show ¬ (7 ≤ a1.toInt + ((0 : Nat) : Int)); omega)
  | succ n ih => intro hn; exact sum_ok (ih (by omega)) (by omega)
def rm_X2_sum (n : Nat) : Room := { frames := 3 * n + 2, cells := 0, slots := 0, locals := 100 * n + 100 }
/-- the contract of a sum, so many levels deep -/
def CS (l : Launch) (D : va_G) (k : Nat → ClassId) (ad : Nat → Nat) (fs : Mem → Nat → Int32 → Int32 × Mem) (n : Nat) : Prop := InjN 68 ad → ∀ (M : Mem) (o : Nat), kLaw o → ∀ a1 : Int32, 7 ≤ a1.toInt + ((n : Nat) : Int) → a1.toInt ≤ 6 → (0 ≤ (M o 2).toInt ∧ (M o 2).toInt ≤ 600) →
  Met l yX2_sum (Cond.code yX2_sum cX2_sum 5 (some .int) :: wsL_law) (rm_X2_sum n) (va_Pc [.ref (ad o), .int a1] (GW 68 ad D k (cC ad k M))) (va_Qi (fun r u => fs M o a1 = (r, u)) (fun u t => GW 68 ad D k (cC ad k u) t) (AW 68 ad)) 0 0 (AW 68 ad)
theorem stretch_ok {M : Mem} {o : Nat} {a n : Int32} (h : ¬ f_X5_hasStretch M o a n = 0) (hs : 0 ≤ (M o 3).toInt ∧ (M o 3).toInt ≤ 100) : 0 ≤ a.toInt ∧ 0 ≤ n.toInt ∧ a.toInt + n.toInt ≤ 100 := by
  unfold f_X5_hasStretch at h
  simp only [bnd] at h
  split at h
  · exact absurd rfl h
  · rename_i h1
    split at h
    · exact absurd rfl h
    · rename_i h2
      split at h
      · exact absurd rfl h
      · rename_i h3
        split at h
        · exact absurd rfl h
        · rename_i h4
          have h1 := nlt_I h1
          have h2 := nlt_I h2
          have h3 := nlt_I h3
          have h4 := nlt_I h4
          rw [Int32.toInt_sub] at h4
          rw [Int32.toInt_zero] at *
          have h5 : ((M o 3).toInt - a.toInt).bmod (2 ^ 32) = (M o 3).toInt - a.toInt := by rw [Int.bmod_eq_of_le] <;> omega
          rw [h5] at h4
          omega
theorem place_in {M : Mem} {o : Nat} {i : Int32} (hp : ¬ f_X5_hasPlace M o i = 0) : vp_in i 100 := by
  unfold f_X5_hasPlace at hp
  simp only [bnd] at hp
  split at hp
  · exact absurd rfl hp
  · rename_i h1
    split at hp
    · exact absurd rfl hp
    · split at hp
      · exact absurd rfl hp
      · rename_i h3
        have a1 := nlt_I h1
        have a3 := nle_I h3
        rw [Int32.toInt_zero] at a1
        exact vin_I a1 a3
theorem tells_in {M : Mem} {o : Nat} {i : Int32} (h : ¬ f_X5_tellsAt M o i = 0) : vp_in i 100 := by
  have hp : ¬ f_X5_hasPlace M o i = 0 := by
    intro q
    apply h
    unfold f_X5_tellsAt
    simp only [bnd, q, if_true]
    split
    · rfl
    · split <;> rfl
  exact place_in hp
/-! frames: which cells a function may change -/
def Fr (W : Nat → Prop) (M M' : Mem) : Prop := ∀ j, ¬ W j → M' j = M j
theorem Fr.rf {W : Nat → Prop} {M : Mem} : Fr W M M := fun _ _ => rfl
theorem Fr.tr {W : Nat → Prop} {M M1 M2 : Mem} (h : Fr W M M1) (h2 : Fr W M1 M2) : Fr W M M2 := fun j hj => (h2 j hj).trans (h j hj)
theorem Fr.up {W : Nat → Prop} {M : Mem} {i k : Nat} {v : Int32} (h : W i) : Fr W M (up2 M i k v) := fun j hj => up2_o M v (fun q => hj (q ▸ h))
theorem Fr.put {W : Nat → Prop} {M M1 : Mem} {i k : Nat} {v : Int32} (h : W i) (h1 : Fr W M M1) : Fr W M (up2 M1 i k v) := h1.tr (Fr.up h)
theorem Fr.mono {W W' : Nat → Prop} {M M' : Mem} (h : Fr W M M') (hw : ∀ j, W j → W' j) : Fr W' M M' := fun j hj => h j (fun q => hj (hw j q))
theorem Fr.upo {o : Nat} {M : Mem} {k : Nat} {v : Int32} : Fr (· = o) M (up2 M o k v) := Fr.up (W := (· = o)) rfl
theorem Fr.puto {o : Nat} {M M1 : Mem} {k : Nat} {v : Int32} (h1 : Fr (· = o) M M1) : Fr (· = o) M (up2 M1 o k v) := h1.tr Fr.upo
theorem fr_whole : ∀ (n o : Nat) (M : Mem) (v : Int32), Fr (· = o) M (lp_X2_wholeNumber_2 n o M v).2 := by
  intro n
  induction n with
  | zero => intro o M v; exact Fr.rf
  | succ n ih =>
    intro o M v
    rw [lp_X2_wholeNumber_2]
    split
    · exact Fr.rf
    · split
      · exact Fr.rf
      · simp only [bnd]; exact (Fr.upo).tr (ih _ _ _)
theorem fr_atom {fs : Mem → Nat → Int32 → Int32 × Mem} (hfs : ∀ M o a, Fr (· = o) M (fs M o a).2) (M : Mem) (o : Nat) (a : Int32) : Fr (· = o) M (f_X2_atom fs M o a).2 := by
  unfold f_X2_atom
  simp only [bnd, bnd2]
  split
  · split
    · exact Fr.upo
    · split
      · exact Fr.upo
      · exact Fr.puto ((Fr.upo).tr (hfs _ _ _))
  · unfold f_X2_wholeNumber; exact fr_whole _ _ _ _
theorem fr_product_lp {fs : Mem → Nat → Int32 → Int32 × Mem} (hfs : ∀ M o a, Fr (· = o) M (fs M o a).2) : ∀ (n o : Nat) (a : Int32) (M : Mem) (v : Int32), Fr (· = o) M (lp_X2_product_6 n fs o a M v).2 := by
  intro n
  induction n with
  | zero => intro o a M v; exact Fr.rf
  | succ n ih =>
    intro o a M v
    rw [lp_X2_product_6]
    split
    · exact Fr.rf
    · split
      · exact Fr.rf
      · simp only [bnd, bnd2]; exact ((Fr.upo).tr (fr_atom hfs _ _ _)).tr (ih _ _ _ _)
theorem fr_product {fs : Mem → Nat → Int32 → Int32 × Mem} (hfs : ∀ M o a, Fr (· = o) M (fs M o a).2) (M : Mem) (o : Nat) (a : Int32) : Fr (· = o) M (f_X2_product fs M o a).2 := by
  unfold f_X2_product
  simp only [bnd2]
  exact (fr_atom hfs _ _ _).tr (fr_product_lp hfs _ _ _ _ _)
theorem fr_sum_lp {fs : Mem → Nat → Int32 → Int32 × Mem} (hfs : ∀ M o a, Fr (· = o) M (fs M o a).2) : ∀ (n o : Nat) (a : Int32) (M : Mem) (v : Int32), Fr (· = o) M (lp_X2_sum_6 n fs o a M v).2 := by
  intro n
  induction n with
  | zero => intro o a M v; exact Fr.rf
  | succ n ih =>
    intro o a M v
    rw [lp_X2_sum_6]
    split
    · exact Fr.rf
    · split
      · exact Fr.rf
      · simp only [bnd, bnd2]; exact ((Fr.upo).tr (fr_product hfs _ _ _)).tr (ih _ _ _ _)
theorem fr_fS : ∀ (n : Nat) (M : Mem) (o : Nat) (a : Int32), Fr (· = o) M (fS n M o a).2 := by
  intro n
  induction n with
  | zero => intro M o a; exact Fr.rf
  | succ n ih =>
    intro M o a
    show Fr (· = o) M (f_X2_sum (fS n) M o a).2
    unfold f_X2_sum
    simp only [bnd2]
    exact (fr_product ih _ _ _).tr (fr_sum_lp ih _ _ _ _ _)
theorem fr_valueAt (M : Mem) (o : Nat) (a b : Int32) : Fr (· = o) M (f_X2_valueAt M o a b).2 := by
  unfold f_X2_valueAt
  split
  · generalize hf : fS 7 = F
    have hF : ∀ M o a, Fr (· = o) M (F M o a).2 := fun M o a => by rw [← hf]; exact fr_fS 7 M o a
    simp only [bnd, bnd2]; exact (Fr.puto (Fr.puto Fr.upo)).tr (hF _ _ _)
  · exact Fr.rf
abbrev WBay (b j : Nat) : Prop := j = b + 3 ∨ j = b + 6
abbrev WRace (o j : Nat) : Prop := j = o ∨ (4 * (o + 3) - 45 ≤ j ∧ j < 4 * (o + 3) - 45 + 4)
theorem fr_windAt (M : Mem) (o : Nat) (a : Int32) : Fr (WBay o) M (f_X0_windAt M o a).2 := by
  unfold f_X0_windAt
  split
  · exact Fr.rf
  · split
    · simp only [bnd, bnd2]
      split
      · exact Fr.rf
      · exact Fr.put (Or.inr rfl) ((fr_valueAt _ _ _ _).mono (fun j h => Or.inl h))
    · exact Fr.rf
theorem Fr.ite {W : Nat → Prop} {c : Prop} [Decidable c] {M A B : Mem} (ha : Fr W M A) (hb : Fr W M B) : Fr W M (if c then A else B) := by
  split
  · exact ha
  · exact hb
theorem Fr.bd {α : Type} {W : Nat → Prop} {M : Mem} {x : α} {f : α → Mem} (h : ∀ y, Fr W M (f y)) : Fr W M (bnd x f) := h x
theorem Fr.bdM {W : Nat → Prop} {M x : Mem} {f : Mem → Mem} (hx : Fr W M x) (h : ∀ y, Fr W M y → Fr W M (f y)) : Fr W M (bnd x f) := h x hx
theorem fr_sail (M : Mem) (o a1 : Nat) (a2 a3 : Int32) : Fr (· = o) M (f_X1_sail M o a1 a2 a3) := by
  unfold f_X1_sail
  refine Fr.ite ?_ Fr.rf
  refine Fr.bdM ?_ (fun M1 h1 => ?_)
  · refine Fr.ite (Fr.ite ?_ ?_) ?_
    · refine Fr.bd fun t1 => Fr.bd fun t2 => Fr.bd fun t3 => ?_
      exact Fr.bdM Fr.upo fun M2 h2 => Fr.bd fun t4 => Fr.bdM (Fr.puto h2) fun M3 h3 => h3
    · exact Fr.bdM Fr.upo fun M2 h2 => Fr.bdM (Fr.puto h2) fun M3 h3 => h3
    · exact Fr.bd fun t => Fr.bdM Fr.upo fun M3 h3 => h3
  · refine Fr.bdM ?_ fun M2 h2 => h2
    exact Fr.ite h1 (Fr.ite h1 (Fr.bdM (Fr.puto h1) fun M3 h3 => h3))
theorem fr_comeAbout (M : Mem) (o : Nat) (a : Int32) : Fr (· = o) M (f_X1_comeAbout M o a) := by
  unfold f_X1_comeAbout
  simp only [bnd]
  exact Fr.puto (Fr.puto (Fr.upo))
/-- the number of a boat in its race: under the guard of the loops -/
theorem bo_in {v : Int32} {o : Nat} (h0 : 0 ≤ v.toInt) (h : ¬ (4 : Int32) ≤ v) : WRace o (4 * (o + 3) - 45 + v.toNatClampNeg) := by
  have h1 : v.toInt < 4 := nle_I h
  have h2 : (v.toNatClampNeg : Int) = v.toInt := Int.toNat_of_nonneg h0
  right
  omega
theorem nx0 {v : Int32} (h0 : 0 ≤ v.toInt) (h : ¬ (4 : Int32) ≤ v) : 0 ≤ (v + 1).toInt := inv0_I h0 (nle_I h) (by decide)
theorem fr_bad_in : ∀ (n o : Nat) (i : Int32) (M : Mem) (v : Int32), WRace o (4 * (o + 3) - 45 + i.toNatClampNeg) → Fr (WRace o) M (lp_X3_tellBadAir_31' n o i M v) := by
  intro n
  induction n with
  | zero => intro o i M v _; exact Fr.rf
  | succ n ih =>
    intro o i M v hi
    rw [lp_X3_tellBadAir_31']
    split
    · exact Fr.rf
    · split
      · exact Fr.rf
      · simp only [bnd]; exact (Fr.up hi).tr (ih _ _ _ _ hi)
theorem fr_bad_lp : ∀ (n o : Nat) (M : Mem) (v : Int32), 0 ≤ v.toInt → Fr (WRace o) M (lp_X3_tellBadAir_2 n o M v) := by
  intro n
  induction n with
  | zero => intro o M v _; exact Fr.rf
  | succ n ih =>
    intro o M v h0
    rw [lp_X3_tellBadAir_2]
    split
    · exact Fr.rf
    · split
      · exact Fr.rf
      · rename_i h4
        simp only [bnd]; exact ((Fr.up (bo_in h0 h4)).tr (fr_bad_in _ _ _ _ _ (bo_in h0 h4))).tr (ih _ _ _ (nx0 h0 h4))
theorem fr_bad (M : Mem) (o : Nat) : Fr (WRace o) M (f_X3_tellBadAir M o) := by
  unfold f_X3_tellBadAir; exact fr_bad_lp _ _ _ _ (by decide)
theorem fr_step25 : ∀ (n o a1 : Nat) (w : Int32) (M : Mem) (v : Int32), 0 ≤ v.toInt → Fr (WRace o) M (lp_X3_step_25 n o a1 w M v) := by
  intro n
  induction n with
  | zero => intro o a1 w M v _; exact Fr.rf
  | succ n ih =>
    intro o a1 w M v h0
    rw [lp_X3_step_25]
    split
    · exact Fr.rf
    · split
      · exact Fr.rf
      · rename_i h4
        simp only [bnd]; exact ((fr_sail _ _ _ _ _).mono (fun j h => h ▸ bo_in h0 h4)).tr (ih _ _ _ _ _ (nx0 h0 h4))
theorem fr_step79 : ∀ (n o a1 : Nat) (w : Int32) (M : Mem) (v : Int32), 0 ≤ v.toInt → Fr (WRace o) M (lp_X3_step_79 n o a1 w M v) := by
  intro n
  induction n with
  | zero => intro o a1 w M v _; exact Fr.rf
  | succ n ih =>
    intro o a1 w M v h0
    rw [lp_X3_step_79]
    split
    · exact Fr.rf
    · split
      · exact Fr.rf
      · rename_i h4
        simp only [bnd]; exact (Fr.up (bo_in h0 h4)).tr (ih _ _ _ _ _ (nx0 h0 h4))
theorem fr_step154 : ∀ (n o a1 : Nat) (M : Mem) (v : Int32), 0 ≤ v.toInt → Fr (WRace o) M (lp_X3_step_154 n o a1 M v) := by
  intro n
  induction n with
  | zero => intro o a1 M v _; exact Fr.rf
  | succ n ih =>
    intro o a1 M v h0
    rw [lp_X3_step_154]
    split
    · exact Fr.rf
    · split
      · exact Fr.rf
      · rename_i h4
        simp only [bnd]
        refine Fr.tr ?_ (ih _ _ _ _ (nx0 h0 h4))
        split
        · exact Fr.rf
        · exact (fr_comeAbout _ _ _).mono (fun j h => h ▸ bo_in h0 h4)
theorem fr_step (M : Mem) (o a1 : Nat) : Fr (fun j => WRace o j ∨ WBay a1 j) M (f_X3_step M o a1) := by
  have R : ∀ {M M'}, Fr (WRace o) M M' → Fr (fun j => WRace o j ∨ WBay a1 j) M M' := fun h => h.mono (fun j q => Or.inl q)
  have B : ∀ {M M'}, Fr (WBay a1) M M' → Fr (fun j => WRace o j ∨ WBay a1 j) M M' := fun h => h.mono (fun j q => Or.inr q)
  unfold f_X3_step
  simp only [bnd, bnd2]
  exact ((((((R (fr_bad _ _)).tr (B (fr_windAt _ _ _))).tr (R (Fr.up (Or.inl rfl)))).tr (R (fr_step25 _ _ _ _ _ _ (by decide)))).tr (R (fr_bad _ _))).tr (B (fr_windAt _ _ _))).tr ((R (fr_step79 _ _ _ _ _ _ (by decide))).tr (R (fr_step154 _ _ _ _ _ (by decide))))
theorem fr_goOn_lp : ∀ (n o a1 : Nat) (a2 : Int32) (M : Mem) (v : Int32), Fr (fun j => WRace o j ∨ WBay a1 j) M (lp_X3_goOn_2 n o a1 a2 M v) := by
  intro n
  induction n with
  | zero => intro o a1 a2 M v; exact Fr.rf
  | succ n ih =>
    intro o a1 a2 M v
    rw [lp_X3_goOn_2]
    split
    · exact Fr.rf
    · split
      · exact Fr.rf
      · simp only [bnd]; exact (fr_step _ _ _).tr (ih _ _ _ _ _)
theorem fr_goOn (M : Mem) (o a1 : Nat) (a2 : Int32) : Fr (fun j => WRace o j ∨ WBay a1 j) M (f_X3_goOn M o a1 a2) := by
  unfold f_X3_goOn; exact fr_goOn_lp _ _ _ _ _ _
theorem goOn_shf {M : Mem} {a : Nat} {n : Int32} (h : 43 ≤ a) : f_X3_goOn M 15 1 n a = M a := fr_goOn M 15 1 n a (by omega)
theorem gm_X2_sum : Cond.instanceMethod yX2_sum ∈ wsL_law ∧ Cond.selects RX2 yX2_sum yX2_sum ∈ wsL_law ∧ Cond.initialized RX2 ∈ wsL_law ∧ Cond.code yX2_sum cX2_sum 5 (some .int) ∈ wsL_law := ⟨gw_11_23, gw_12_0, gw_2_14, gw_12_1⟩
theorem gd_X2_sum : yX2_sum.cls = RX2 ∧ yX2_sum.cls ≠ "java/lang/invoke/MethodHandle" ∧ yX2_sum.cls ≠ "java/lang/invoke/VarHandle" ∧ (parseMethodDescriptor yX2_sum.desc).map (fun d => d.parameters.length) = some 1 := by decide +kernel
theorem notFull {M : Mem} {o : Nat} (h : f_X3_isFull M o = 0) : (M o 1).toInt < 4 := by
  unfold f_X3_isFull at h
  simp only [bnd] at h
  split at h
  · exact lt_I ‹_›
  · exact absurd h (by decide)
