-- @needs 90_base
/-! the winds: the class reads a law by its grammar, the reference level by level -/
def dg (c : Int32) : Prop := 48 ≤ c.toInt ∧ c.toInt ≤ 57
theorem dgC {c : Int32} : f_X2_isDigit c = 0 ↔ ¬ dg c := by
  unfold f_X2_isDigit dg
  simp only [bnd]
  have e1 : c < 48 ↔ c.toInt < 48 := lt_i
  have e2 : 57 < c ↔ 57 < c.toInt := lt_i
  by_cases h1 : c < 48
  · rw [if_pos h1]; rw [e1] at h1; constructor <;> intro <;> first | rfl | omega
  · rw [if_neg h1]
    rw [e1] at h1
    by_cases h2 : 57 < c
    · rw [if_pos h2]; rw [e2] at h2; constructor <;> intro <;> first | rfl | omega
    · rw [if_neg h2]; rw [e2] at h2
      exact ⟨fun h => absurd h (by decide), fun h => by omega⟩
theorem dgM {c : Int32} : f_X7_in c.toInt64 48 57 = 0 ↔ ¬ dg c := inz
def sg (c : Int32) : Prop := c = 43 ∨ c = 45
def pg (c : Int32) : Prop := c = 42 ∨ c = 47 ∨ c = 37
theorem sgC {c : Int32} : f_X2_isSumSign c = 0 ↔ ¬ sg c := by
  unfold f_X2_isSumSign sg
  simp only [bnd]
  by_cases h1 : c = 43
  · simp [h1]
  · by_cases h2 : c = 45 <;> simp [h1, h2]
theorem pgC {c : Int32} : f_X2_isProductSign c = 0 ↔ ¬ pg c := by
  unfold f_X2_isProductSign pg
  simp only [bnd]
  by_cases h1 : c = 42
  · simp [h1]
  · by_cases h2 : c = 47
    · simp [h1, h2]
    · by_cases h3 : c = 37 <;> simp [h1, h2, h3]
/-- the rest of a text, m signs from k on, can go on so and ends well: w an atom is wanted, d so many are open -/
def VL (t : Nat → Int32) : Nat → Nat → Bool → Nat → Prop
  | 0, _, w, d => w = false ∧ d = 0
  | m + 1, k, w, d =>
    (w = true ∧ t k = 40 ∧ d < 6 ∧ VL t m (k + 1) true (d + 1)) ∨ (w = true ∧ (t k = 116 ∨ t k = 115) ∧ VL t m (k + 1) false d) ∨ (w = true ∧ dg (t k) ∧ VL t m (k + 1) false d) ∨
    (w = false ∧ dg (t k) ∧ (∃ k0, k = k0 + 1 ∧ dg (t k0)) ∧ VL t m (k + 1) false d) ∨ (w = false ∧ (sg (t k) ∨ pg (t k)) ∧ VL t m (k + 1) true d) ∨ (w = false ∧ t k = 41 ∧ 0 < d ∧ VL t m (k + 1) false (d - 1))
theorem VL_congr {t t' : Nat → Int32} : ∀ (m k : Nat) (w : Bool) (d : Nat), (∀ j, j < k + m → t j = t' j) → VL t m k w d → VL t' m k w d := by
  intro m
  induction m with
  | zero => intro k w d _ h; exact h
  | succ m ih =>
    intro k w d he h
    have e : t k = t' k := he k (by omega)
    have ih2 := fun w d => ih (k + 1) w d (fun j hj => he j (by omega))
    unfold VL at h ⊢
    rw [← e]
    rcases h with ⟨a, b, c, h⟩ | ⟨a, b, h⟩ | ⟨a, b, h⟩ | ⟨a, b, ⟨k0, c1, c2⟩, h⟩ | ⟨a, b, h⟩ | ⟨a, b, c, h⟩
    · exact Or.inl ⟨a, b, c, ih2 _ _ h⟩
    · exact Or.inr (Or.inl ⟨a, b, ih2 _ _ h⟩)
    · exact Or.inr (Or.inr (Or.inl ⟨a, b, ih2 _ _ h⟩))
    · exact Or.inr (Or.inr (Or.inr (Or.inl ⟨a, b, ⟨k0, c1, by rw [← he k0 (by omega)]; exact c2⟩, ih2 _ _ h⟩)))
    · exact Or.inr (Or.inr (Or.inr (Or.inr (Or.inl ⟨a, b, ih2 _ _ h⟩))))
    · exact Or.inr (Or.inr (Or.inr (Or.inr (Or.inr ⟨a, b, c, ih2 _ _ h⟩))))
theorem VL_atom {t : Nat → Int32} {m k d : Nat} (h : VL t (m + 1) k true d) : (t k = 40 ∧ d < 6 ∧ VL t m (k + 1) true (d + 1)) ∨ ((t k = 116 ∨ t k = 115) ∧ VL t m (k + 1) false d) ∨ (dg (t k) ∧ VL t m (k + 1) false d) := by
  unfold VL at h
  rcases h with ⟨a, b, c, h⟩ | ⟨a, b, h⟩ | ⟨a, b, h⟩ | ⟨a, _⟩ | ⟨a, _⟩ | ⟨a, _⟩
  · exact Or.inl ⟨b, c, h⟩
  · exact Or.inr (Or.inl ⟨b, h⟩)
  · exact Or.inr (Or.inr ⟨b, h⟩)
  all_goals cases a
theorem VL_has {t : Nat → Int32} {m k d : Nat} (h : VL t (m + 1) k false d) : (dg (t k) ∧ (∃ k0, k = k0 + 1 ∧ dg (t k0)) ∧ VL t m (k + 1) false d) ∨ ((sg (t k) ∨ pg (t k)) ∧ VL t m (k + 1) true d) ∨ (t k = 41 ∧ 0 < d ∧ VL t m (k + 1) false (d - 1)) := by
  unfold VL at h
  rcases h with ⟨a, _⟩ | ⟨a, _⟩ | ⟨a, _⟩ | ⟨_, b, c, h⟩ | ⟨_, b, h⟩ | ⟨_, b, c, h⟩
  · cases a
  · cases a
  · cases a
  · exact Or.inl ⟨b, c, h⟩
  · exact Or.inr (Or.inl ⟨b, h⟩)
  · exact Or.inr (Or.inr ⟨b, c, h⟩)
theorem VL_want {t : Nat → Int32} {k d : Nat} (h : VL t 0 k true d) : False := by cases h.1
theorem dg_not {c : Int32} (h : dg c) : ¬ sg c ∧ ¬ pg c ∧ c ≠ 40 ∧ c ≠ 41 ∧ c ≠ 116 ∧ c ≠ 115 := by
  unfold dg at h
  unfold sg pg
  refine ⟨?_, ?_, ?_, ?_, ?_, ?_⟩
  · rintro (rfl | rfl) <;> exact absurd h (by decide)
  · rintro (rfl | rfl | rfl) <;> exact absurd h (by decide)
  all_goals rintro rfl; exact absurd h (by decide)
/-- a place where a number can't go on -/
def EL (t : Nat → Int32) (m k d : Nat) : Prop := VL t m k false d ∧ (m = 0 ∨ ¬ dg (t k))
theorem EL_of {t : Nat → Int32} {m k d : Nat} (h : VL t m (k + 1) false d) (hk : ¬ dg (t k)) : EL t m (k + 1) d := by
  refine ⟨h, ?_⟩
  cases m with
  | zero => exact Or.inl rfl
  | succ m =>
    refine Or.inr fun hd => ?_
    rcases VL_has h with ⟨_, ⟨k0, e, h0⟩, _⟩ | ⟨h1, _⟩ | ⟨h1, _⟩
    · obtain rfl : k = k0 := by omega
      exact hk h0
    · rcases h1 with h1 | h1
      · exact (dg_not hd).1 h1
      · exact (dg_not hd).2.1 h1
    · exact (dg_not hd).2.2.2.1 h1
/-- the class's world of a law: only the place moves -/
def LW (M : Mem) (o n : Nat) (t : Nat → Int32) : Prop := n ≤ 100 ∧ M o 1 = nI n ∧ ∀ j, j < n → M (o + 6) j = t j
theorem LW_up {M : Mem} {o n : Nat} {t : Nat → Int32} (h : LW M o n t) (v : Int32) : LW (up2 M o 2 v) o n t := ⟨h.1, by rw [up2_n _ _ (by omega)]; exact h.2.1, fun j hj => by rw [up2_n _ _ (by omega)]; exact h.2.2 j hj⟩
theorem nxt {M : Mem} {o n k : Nat} {t : Nat → Int32} (h : LW M o n t) (hk : M o 2 = nI k) (hkn : k < n) : f_X2_next M o = t k := by
  have hn := h.1
  unfold f_X2_next
  simp only [bnd]
  rw [hk, h.2.1, if_neg (nI_pos (by omega)), if_neg (nI_ge hkn (by omega)), if_neg (show ¬ (100 : Int32) ≤ nI k from nI_ge (b := 100) (show k < 100 by omega) (by decide)), nI_clamp (by omega)]
  exact h.2.2 k hkn
theorem plc {M : Mem} {o n k : Nat} {t : Nat → Int32} (h : LW M o n t) (hk : M o 2 = nI k) (hkn : k ≤ n) : (M o 1 ≤ M o 2) ↔ n = k := by
  have hn := h.1
  rw [hk, h.2.1]
  constructor
  · intro h
    by_cases e : n = k
    · exact e
    · exact absurd h (nI_ge (by omega) (by omega))
  · rintro rfl; exact nI_le (Nat.le_refl _) (by omega)
theorem pls {k : Nat} (v : Int32) (h : v = nI k) : v + 1 = nI (k + 1) := by rw [h, nI_1]
/-- the digits of a number -/
def num (t : Nat → Int32) : Nat → Nat → Int32 → Int32
  | 0, _, v => v
  | m + 1, k, v => num t m (k + 1) (v * 10 + t k - 48)
/-- the class reads on -/
theorem whole_c {o n : Nat} {t : Nat → Int32} {d : Nat} : ∀ (f m k : Nat) (M : Mem) (v : Int32), m < f → m + k = n → LW M o n t → M o 2 = nI k → VL t m k false d → (m = 0 ∨ ¬ dg (t k) ∨ ∃ k0, k = k0 + 1 ∧ dg (t k0)) →
    ∃ c m', c + m' = m ∧ EL t m' (k + c) d ∧ (∀ j, j < c → dg (t (k + j))) ∧ lp_X2_wholeNumber_2 f o M v = (num t c k v, up2 M o 2 (nI (k + c))) := by
  intro f
  induction f with
  | zero => intro m k M v h; omega
  | succ f ih =>
    intro m k M v hf hm hW hk hV hd
    unfold lp_X2_wholeNumber_2
    cases m with
    | zero =>
      rw [if_pos ((plc hW hk (by omega)).mpr (by omega))]
      refine ⟨0, 0, rfl, ⟨hV, Or.inl rfl⟩, fun j hj => by omega, ?_⟩
      rw [Nat.add_zero, ← hk, up2_id]; rfl
    | succ m =>
      rw [if_neg (fun h => by have := (plc hW hk (by omega)).mp h; omega), nxt hW hk (by omega)]
      by_cases hdk : dg (t k)
      · rw [if_neg (fun h => dgC.mp h hdk)]
        simp only [bnd]
        rcases VL_has hV with ⟨_, _, hV'⟩ | ⟨h1, _⟩ | ⟨h1, _⟩
        · obtain ⟨c, m', e1, e2, e3, e4⟩ := ih m (k + 1) (up2 M o 2 (M o 2 + 1)) (v * 10 + t k - 48) (by omega) (by omega) (LW_up hW _) (by rw [up2_s]; exact pls _ hk) hV' (Or.inr (Or.inr ⟨k, rfl, hdk⟩))
          refine ⟨c + 1, m', by omega, by rw [show k + (c + 1) = k + 1 + c by omega]; exact e2, fun j hj => ?_, ?_⟩
          · cases j with
            | zero => exact hdk
            | succ j => rw [show k + (j + 1) = k + 1 + j by omega]; exact e3 j (by omega)
          · rw [e4, up2_2, show k + (c + 1) = k + 1 + c by omega]; rfl
        · rcases h1 with h1 | h1
          · exact absurd h1 (dg_not hdk).1
          · exact absurd h1 (dg_not hdk).2.1
        · exact absurd h1 (dg_not hdk).2.2.2.1
      · rw [if_pos (dgC.mpr hdk)]
        refine ⟨0, m + 1, by omega, ⟨hV, Or.inr hdk⟩, fun j hj => by omega, ?_⟩
        rw [Nat.add_zero, ← hk, up2_id]; rfl
