-- @needs 90_base
/-! the winds: the class reads a law by its grammar, the reference level by level -/
def dg (c : Int32) : Prop := 48 ≤ c.toInt ∧ c.toInt ≤ 57
theorem dgC {c : Int32} : f_X2_isDigit c = 0 ↔ ¬ dg c := by
  unfold f_X2_isDigit dg
  simp only [bnd]
  have e1 : c < 48 ↔ c.toInt < 48 := lt_i
  have e2 : 57 < c ↔ 57 < c.toInt := lt_i
  by_cases h1 : c < 48
  · rw [if_pos h1]; rw [e1] at h1; constructor <;> intro <;> first | rfl | omega
  · rw [if_neg h1]
    rw [e1] at h1
    by_cases h2 : 57 < c
    · rw [if_pos h2]; rw [e2] at h2; constructor <;> intro <;> first | rfl | omega
    · rw [if_neg h2]; rw [e2] at h2
      exact ⟨fun h => absurd h (by decide), fun h => by omega⟩
theorem dgM {c : Int32} : f_X7_in c.toInt64 48 57 = 0 ↔ ¬ dg c := inz
def sg (c : Int32) : Prop := c = 43 ∨ c = 45
def pg (c : Int32) : Prop := c = 42 ∨ c = 47 ∨ c = 37
theorem sgC {c : Int32} : f_X2_isSumSign c = 0 ↔ ¬ sg c := by
  unfold f_X2_isSumSign sg
  simp only [bnd]
  by_cases h1 : c = 43
  · simp [h1]
  · by_cases h2 : c = 45 <;> simp [h1, h2]
theorem pgC {c : Int32} : f_X2_isProductSign c = 0 ↔ ¬ pg c := by
  unfold f_X2_isProductSign pg
  simp only [bnd]
  by_cases h1 : c = 42
  · simp [h1]
  · by_cases h2 : c = 47
    · simp [h1, h2]
    · by_cases h3 : c = 37 <;> simp [h1, h2, h3]
/-- the rest of a text, m signs from k on, can go on so and ends well: w an atom is wanted, d so many are open -/
def VL (t : Nat → Int32) : Nat → Nat → Bool → Nat → Prop
  | 0, _, w, d => w = false ∧ d = 0
  | m + 1, k, w, d =>
    (w = true ∧ t k = 40 ∧ d < 6 ∧ VL t m (k + 1) true (d + 1)) ∨ (w = true ∧ (t k = 116 ∨ t k = 115) ∧ VL t m (k + 1) false d) ∨ (w = true ∧ dg (t k) ∧ VL t m (k + 1) false d) ∨
    (w = false ∧ dg (t k) ∧ (∃ k0, k = k0 + 1 ∧ dg (t k0)) ∧ VL t m (k + 1) false d) ∨ (w = false ∧ (sg (t k) ∨ pg (t k)) ∧ VL t m (k + 1) true d) ∨ (w = false ∧ t k = 41 ∧ 0 < d ∧ VL t m (k + 1) false (d - 1))
theorem VL_congr {t t' : Nat → Int32} : ∀ (m k : Nat) (w : Bool) (d : Nat), (∀ j, j < k + m → t j = t' j) → VL t m k w d → VL t' m k w d := by
  intro m
  induction m with
  | zero => intro k w d _ h; exact h
  | succ m ih =>
    intro k w d he h
    have e : t k = t' k := he k (by omega)
    have ih2 := fun w d => ih (k + 1) w d (fun j hj => he j (by omega))
    unfold VL at h ⊢
    rw [← e]
    rcases h with ⟨a, b, c, h⟩ | ⟨a, b, h⟩ | ⟨a, b, h⟩ | ⟨a, b, ⟨k0, c1, c2⟩, h⟩ | ⟨a, b, h⟩ | ⟨a, b, c, h⟩
    · exact Or.inl ⟨a, b, c, ih2 _ _ h⟩
    · exact Or.inr (Or.inl ⟨a, b, ih2 _ _ h⟩)
    · exact Or.inr (Or.inr (Or.inl ⟨a, b, ih2 _ _ h⟩))
    · exact Or.inr (Or.inr (Or.inr (Or.inl ⟨a, b, ⟨k0, c1, by rw [← he k0 (by omega)]; exact c2⟩, ih2 _ _ h⟩)))
    · exact Or.inr (Or.inr (Or.inr (Or.inr (Or.inl ⟨a, b, ih2 _ _ h⟩))))
    · exact Or.inr (Or.inr (Or.inr (Or.inr (Or.inr ⟨a, b, c, ih2 _ _ h⟩))))
theorem VL_atom {t : Nat → Int32} {m k d : Nat} (h : VL t (m + 1) k true d) : (t k = 40 ∧ d < 6 ∧ VL t m (k + 1) true (d + 1)) ∨ ((t k = 116 ∨ t k = 115) ∧ VL t m (k + 1) false d) ∨ (dg (t k) ∧ VL t m (k + 1) false d) := by
  unfold VL at h
  rcases h with ⟨a, b, c, h⟩ | ⟨a, b, h⟩ | ⟨a, b, h⟩ | ⟨a, _⟩ | ⟨a, _⟩ | ⟨a, _⟩
  · exact Or.inl ⟨b, c, h⟩
  · exact Or.inr (Or.inl ⟨b, h⟩)
  · exact Or.inr (Or.inr ⟨b, h⟩)
  all_goals cases a
theorem VL_has {t : Nat → Int32} {m k d : Nat} (h : VL t (m + 1) k false d) : (dg (t k) ∧ (∃ k0, k = k0 + 1 ∧ dg (t k0)) ∧ VL t m (k + 1) false d) ∨ ((sg (t k) ∨ pg (t k)) ∧ VL t m (k + 1) true d) ∨ (t k = 41 ∧ 0 < d ∧ VL t m (k + 1) false (d - 1)) := by
  unfold VL at h
  rcases h with ⟨a, _⟩ | ⟨a, _⟩ | ⟨a, _⟩ | ⟨_, b, c, h⟩ | ⟨_, b, h⟩ | ⟨_, b, c, h⟩
  · cases a
  · cases a
  · cases a
  · exact Or.inl ⟨b, c, h⟩
  · exact Or.inr (Or.inl ⟨b, h⟩)
  · exact Or.inr (Or.inr ⟨b, c, h⟩)
theorem VL_want {t : Nat → Int32} {k d : Nat} (h : VL t 0 k true d) : False := by cases h.1
theorem dg_not {c : Int32} (h : dg c) : ¬ sg c ∧ ¬ pg c ∧ c ≠ 40 ∧ c ≠ 41 ∧ c ≠ 116 ∧ c ≠ 115 := by
  unfold dg at h
  unfold sg pg
  refine ⟨?_, ?_, ?_, ?_, ?_, ?_⟩
  · rintro (rfl | rfl) <;> exact absurd h (by decide)
  · rintro (rfl | rfl | rfl) <;> exact absurd h (by decide)
  all_goals rintro rfl; exact absurd h (by decide)
/-- a place where a number can't go on -/
def EL (t : Nat → Int32) (m k d : Nat) : Prop := VL t m k false d ∧ (m = 0 ∨ ¬ dg (t k))
theorem EL_of {t : Nat → Int32} {m k d : Nat} (h : VL t m (k + 1) false d) (hk : ¬ dg (t k)) : EL t m (k + 1) d := by
  refine ⟨h, ?_⟩
  cases m with
  | zero => exact Or.inl rfl
  | succ m =>
    refine Or.inr fun hd => ?_
    rcases VL_has h with ⟨_, ⟨k0, e, h0⟩, _⟩ | ⟨h1, _⟩ | ⟨h1, _⟩
    · obtain rfl : k = k0 := by omega
      exact hk h0
    · rcases h1 with h1 | h1
      · exact (dg_not hd).1 h1
      · exact (dg_not hd).2.1 h1
    · exact (dg_not hd).2.2.2.1 h1
/-- no number has more than three digits: r of them stand before k -/
def D3 (t : Nat → Int32) : Nat → Nat → Nat → Prop
  | 0, _, _ => True
  | m + 1, k, r => (dg (t k) ∧ r < 3 ∧ D3 t m (k + 1) (r + 1)) ∨ (¬ dg (t k) ∧ D3 t m (k + 1) 0)
theorem D3_congr {t t' : Nat → Int32} : ∀ (m k r : Nat), (∀ j, j < k + m → t j = t' j) → D3 t m k r → D3 t' m k r := by
  intro m
  induction m with
  | zero => intro k r _ _; trivial
  | succ m ih =>
    intro k r he h
    have e : t k = t' k := he k (by omega)
    have ih2 := fun r => ih (k + 1) r (fun j hj => he j (by omega))
    unfold D3 at h ⊢
    rw [← e]
    rcases h with ⟨a, b, h⟩ | ⟨a, h⟩
    · exact Or.inl ⟨a, b, ih2 _ h⟩
    · exact Or.inr ⟨a, ih2 _ h⟩
theorem D3_0 {t : Nat → Int32} {m k r : Nat} (h : D3 t m k r) (hd : m = 0 ∨ ¬ dg (t k)) : D3 t m k 0 := by
  cases m with
  | zero => trivial
  | succ m =>
    unfold D3 at h ⊢
    rcases h with ⟨a, _⟩ | h
    · exact absurd a (hd.resolve_left (by omega))
    · exact Or.inr h
/-- the digits of a number -/
def num (t : Nat → Int32) : Nat → Nat → Int32 → Int32
  | 0, _, v => v
  | m + 1, k, v => num t m (k + 1) (v * 10 + t k - 48)
theorem wdigs {t : Nat → Int32} {d : Nat} : ∀ (m k r : Nat), VL t m k false d → (m = 0 ∨ ¬ dg (t k) ∨ ∃ k0, k = k0 + 1 ∧ dg (t k0)) → D3 t m k r → r ≤ 3 →
    ∃ c m', c + m' = m ∧ EL t m' (k + c) d ∧ (∀ j, j < c → dg (t (k + j))) ∧ c + r ≤ 3 ∧ D3 t m' (k + c) 0 := by
  intro m
  induction m with
  | zero => intro k r hV _ _ hr; exact ⟨0, 0, rfl, ⟨hV, Or.inl rfl⟩, fun j hj => by omega, by omega, trivial⟩
  | succ m ih =>
    intro k r hV hd hD hr
    by_cases hdk : dg (t k)
    · unfold D3 at hD
      rcases hD with ⟨_, hr3, hD'⟩ | ⟨hD', _⟩
      · rcases VL_has hV with ⟨_, _, hV'⟩ | ⟨h1, _⟩ | ⟨h1, _⟩
        · obtain ⟨c, m', e1, e2, e3, e4, e5⟩ := ih (k + 1) (r + 1) hV' (Or.inr (Or.inr ⟨k, rfl, hdk⟩)) hD' (by omega)
          refine ⟨c + 1, m', by omega, by rw [show k + (c + 1) = k + 1 + c by omega]; exact e2, fun j hj => ?_, by omega, by rw [show k + (c + 1) = k + 1 + c by omega]; exact e5⟩
          cases j with
          | zero => exact hdk
          | succ j => rw [show k + (j + 1) = k + 1 + j by omega]; exact e3 j (by omega)
        · rcases h1 with h1 | h1
          · exact absurd h1 (dg_not hdk).1
          · exact absurd h1 (dg_not hdk).2.1
        · exact absurd h1 (dg_not hdk).2.2.2.1
      · exact absurd hdk hD'
    · exact ⟨0, m + 1, by omega, ⟨hV, Or.inr hdk⟩, fun j hj => by omega, by omega, D3_0 hD (Or.inr hdk)⟩
theorem dgv {v c : Int32} {b : Int} (h0 : 0 ≤ v.toInt) (hb : v.toInt < b) (hb2 : b ≤ 100) (hc : dg c) : 0 ≤ (v * 10 + c - 48).toInt ∧ (v * 10 + c - 48).toInt < 10 * b := by
  unfold dg at hc
  have k10 : (10 : Int32).toInt = 10 := rfl
  have k48 : (48 : Int32).toInt = 48 := rfl
  have e1 : (v * 10).toInt = v.toInt * 10 := by
    rw [Int32.toInt_mul, k10, Int.bmod_eq_of_le] <;> omega
  have e2 : (v * 10 + c).toInt = v.toInt * 10 + c.toInt := by
    rw [Int32.toInt_add, e1, Int.bmod_eq_of_le] <;> omega
  have e3 : (v * 10 + c - 48).toInt = v.toInt * 10 + c.toInt - 48 := by
    rw [Int32.toInt_sub, e2, k48, Int.bmod_eq_of_le] <;> omega
  rw [e3]
  omega
theorem num_in {t : Nat → Int32} {c k : Nat} (hc : c ≤ 3) (hd : ∀ j, j < c → dg (t (k + j))) : 0 ≤ (num t c k 0).toInt := by
  have k0 : (0 : Int32).toInt = 0 := rfl
  have h1 := fun (h : 0 < c) => dgv (v := 0) (b := 1) (by omega) (by omega) (by omega) (hd 0 h)
  rcases (show c = 0 ∨ c = 1 ∨ c = 2 ∨ c = 3 by omega) with rfl | rfl | rfl | rfl
  · show 0 ≤ (0 : Int32).toInt; omega
  · exact (h1 (by omega)).1
  · have h1 := h1 (by omega)
    exact (dgv h1.1 h1.2 (by omega) (hd 1 (by omega))).1
  · have h1 := h1 (by omega)
    have h2 := dgv h1.1 h1.2 (by omega) (hd 1 (by omega))
    exact (dgv h2.1 h2.2 (by omega) (hd 2 (by omega))).1
/-! the class's steps: told once, worked out often -/
/-- a stack in a row of cells: the newest first -/
def SK (P : Nat → Int32) : List Int32 → Prop
  | [] => True
  | x :: r => P r.length = x ∧ SK P r
theorem SK_congr {P P' : Nat → Int32} : ∀ (K : List Int32), (∀ j, j < K.length → P' j = P j) → SK P K → SK P' K := by
  intro K
  induction K with
  | nil => intro _ _; trivial
  | cons x r ih =>
    intro h h1
    exact ⟨by rw [h r.length (by rw [List.length_cons]; omega)]; exact h1.1, ih (fun j hj => h j (by rw [List.length_cons]; omega)) h1.2⟩
def pop2 (c : Int32) : List Int32 → List Int32
  | [] => []
  | [x] => [x]
  | b :: a :: r => f_X2_joined c a b :: r
/-- one step worked out, at the second a1 with the seed a2 -/
def evS (a1 a2 : Int32) (K : List Int32) (x : Int32) : List Int32 := if (-2) ≤ x then (if x < 0 then (if ¬ x = (-1) then a2 else a1) else x) :: K else pop2 (-x) K
def wev (a1 a2 : Int32) : List Int32 → List Int32
  | [] => []
  | x :: S => evS a1 a2 (wev a1 a2 S) x
theorem pop2_len (c : Int32) (K : List Int32) : (pop2 c K).length ≤ K.length := by
  match K with
  | [] => exact Nat.le_refl _
  | [_] => exact Nat.le_refl _
  | _ :: _ :: _ => exact Nat.le_succ _
theorem evS_len (a1 a2 x : Int32) (K : List Int32) : (evS a1 a2 K x).length ≤ K.length + 1 := by
  unfold evS
  split
  · exact Nat.le_refl _
  · exact Nat.le_succ_of_le (pop2_len _ K)
theorem ev_len (a1 a2 : Int32) : ∀ S : List Int32, (wev a1 a2 S).length ≤ S.length := by
  intro S
  induction S with
  | nil => exact Nat.le_refl _
  | cons x S ih => exact Nat.le_trans (evS_len a1 a2 x _) (Nat.succ_le_succ ih)
theorem val_step {o i L : Nat} {a1 a2 x : Int32} {K : List Int32} {M : Mem} (f : Nat) (hL : M o 1 = nI L) (hi : i < L) (h100 : L ≤ 100) (hx : M (o + 6) i = x) (hK : K.length ≤ i) (hs : SK (M (o + 67)) K) :
    ∃ M', lp_X2_valueAt_5 (f + 1) o a1 a2 M (nI K.length) (nI i) = lp_X2_valueAt_5 f o a1 a2 M' (nI (evS a1 a2 K x).length) (nI (i + 1)) ∧ SK (M' (o + 67)) (evS a1 a2 K x) ∧ ∀ j q, ¬ j = o + 67 → M' j q = M j q := by
  have hg : ¬ M o 1 ≤ nI i := by rw [hL]; exact nI_ge hi (by omega)
  have hg2 : ¬ (100 : Int32) ≤ nI i := nI_ge (b := 100) (show i < 100 by omega) (by decide)
  have hk : ¬ (100 : Int32) ≤ nI K.length := nI_ge (b := 100) (show K.length < 100 by omega) (by decide)
  have hk2 : ¬ (100 : Int32) < nI K.length := nI_nlt (a := 100) (by omega) (by decide)
  have hc : (nI i).toNatClampNeg = i := nI_clamp (by omega)
  have hcK : (nI K.length).toNatClampNeg = K.length := nI_clamp (by omega)
  rw [lp_X2_valueAt_5, if_neg hg, if_neg hg2]
  simp only [bnd, bnd2]
  rw [hc, hx, nI_1 i]
  by_cases h1 : (-2 : Int32) ≤ x
  · have h2 : ¬ x < (-2) := fun h => by rw [le_i] at h1; rw [lt_i] at h; omega
    have e : evS a1 a2 K x = (if x < 0 then (if ¬ x = (-1) then a2 else a1) else x) :: K := by unfold evS; rw [if_pos h1]
    rw [e, if_pos h1, if_neg h2, if_neg hk, hcK]
    obtain ⟨y, hy⟩ : ∃ y, y = (if x < 0 then (if ¬ x = (-1) then a2 else a1) else x) := ⟨_, rfl⟩
    rw [← hy]
    refine ⟨up2 M (o + 67) K.length y, ?_, ⟨up2_s _ _ _ _, SK_congr K (fun j hj => up2_n _ _ (by omega)) hs⟩, fun j q h => up2_n _ _ (by omega)⟩
    dsimp only
    rw [nI_1 K.length]
    rfl
  · have h2 : x < (-2) := by rw [le_i] at h1; rw [lt_i]; omega
    have e : evS a1 a2 K x = pop2 (-x) K := by unfold evS; rw [if_neg h1]
    rw [e, if_neg h1]
    match K, hK, hs, hk, hk2, hcK with
    | [], _, hs, _, _, _ =>
      rw [if_pos (show nI ([] : List Int32).length < 2 by decide), if_pos h2]
      exact ⟨M, rfl, hs, fun _ _ _ => rfl⟩
    | [b], _, hs, _, _, _ =>
      rw [if_pos (show nI [b].length < 2 by show nI 1 < 2; decide), if_pos h2]
      exact ⟨M, rfl, hs, fun _ _ _ => rfl⟩
    | b :: a :: r, hK, hs, hk, hk2, hcK =>
      have hlen : (b :: a :: r).length = r.length + 1 + 1 := rfl
      rw [hlen] at hK hk hk2 hcK ⊢
      have hb : M (o + 67) (r.length + 1) = b := hs.1
      have ha : M (o + 67) r.length = a := hs.2.1
      have ey : nI (r.length + 1 + 1) + (-1) = nI (r.length + 1) := by rw [← Int32.sub_eq_add_neg, nI_pred]
      rw [if_neg (show ¬ nI (r.length + 1 + 1) < 2 from nI_nlt (b := 2) (by omega) (by omega)), if_neg hk2]
      dsimp only
      rw [ey, nI_pred, nI_clamp (show r.length < 2 ^ 31 by omega), nI_clamp (show r.length + 1 < 2 ^ 31 by omega), ha, hb]
      exact ⟨up2 M (o + 67) r.length (f_X2_joined (-x) a b), rfl, ⟨up2_s _ _ _ _, SK_congr r (fun j hj => up2_n _ _ (by omega)) hs.2.2⟩, fun j q h => up2_n _ _ (by omega)⟩
theorem val_all {o L : Nat} {a1 a2 : Int32} (h100 : L ≤ 100) : ∀ (S : List Int32) (f : Nat) (M : Mem), M o 1 = nI L → S.length ≤ L → SK (M (o + 6)) S →
    ∃ M', lp_X2_valueAt_5 (f + S.length) o a1 a2 M 0 0 = lp_X2_valueAt_5 f o a1 a2 M' (nI (wev a1 a2 S).length) (nI S.length) ∧ SK (M' (o + 67)) (wev a1 a2 S) ∧ ∀ j q, ¬ j = o + 67 → M' j q = M j q := by
  intro S
  induction S with
  | nil => intro f M _ _ _; exact ⟨M, by show lp_X2_valueAt_5 f o a1 a2 M 0 0 = lp_X2_valueAt_5 f o a1 a2 M (nI 0) (nI 0); rw [nI_0], trivial, fun _ _ _ => rfl⟩
  | cons x S ih =>
    intro f M hL hl hS
    have hl' : S.length < L := hl
    obtain ⟨M1, e1, e2, e3⟩ := ih (f + 1) M hL (by omega) hS.2
    obtain ⟨M2, g1, g2, g3⟩ := val_step (i := S.length) (L := L) (x := x) f (by rw [e3 _ _ (by omega)]; exact hL) hl' h100 (by rw [e3 _ _ (by omega)]; exact hS.1) (ev_len a1 a2 S) e2
    refine ⟨M2, ?_, g2, fun j q h => (g3 j q h).trans (e3 j q h)⟩
    rw [show f + (x :: S).length = f + 1 + S.length from by rw [List.length_cons]; omega, e1]
    exact g1
theorem valueAt_ev {M : Mem} {o : Nat} {S : List Int32} {a1 a2 : Int32} (hL : M o 1 = nI S.length) (h100 : S.length ≤ 100) (hS : SK (M (o + 6)) S) : (∀ v, wev a1 a2 S = [v] → (f_X2_valueAt M o a1 a2).1 = v) ∧ (S = [] → (f_X2_valueAt M o a1 a2).1 = 0) ∧ ∀ j q, ¬ j = o + 67 → (f_X2_valueAt M o a1 a2).2 j q = M j q := by
  obtain ⟨M1, e1, e2, e3⟩ := val_all (a1 := a1) (a2 := a2) h100 S (101 - S.length) M hL (Nat.le_refl _) hS
  rw [show 101 - S.length + S.length = 101 by omega] at e1
  obtain ⟨f, hf⟩ : ∃ f, 101 - S.length = f + 1 := ⟨100 - S.length, by omega⟩
  have e4 : lp_X2_valueAt_5 101 o a1 a2 M 0 0 = (nI (wev a1 a2 S).length, M1) := by
    rw [e1, hf, lp_X2_valueAt_5, if_pos (by rw [e3 _ _ (by omega), hL]; exact nI_le (Nat.le_refl _) (by omega))]
  have e5 : f_X2_valueAt M o a1 a2 = (if ¬ nI (wev a1 a2 S).length = 0 then M1 (o + 67) 0 else 0, M1) := by
    unfold f_X2_valueAt
    simp only [bnd, bnd2]
    rw [e4]
    rfl
  rw [e5]
  refine ⟨fun v h => ?_, fun h => ?_, e3⟩
  · rw [h] at e2 ⊢
    show (if ¬ nI 1 = 0 then M1 (o + 67) 0 else 0) = v
    rw [if_pos (by decide)]
    exact e2.1
  · subst h
    show (if ¬ nI 0 = 0 then M1 (o + 67) 0 else 0) = 0
    rw [if_neg (by decide)]
/-! a text is told -/
def CS (M : Mem) (o : Nat) (S W : List Int32) : Prop := M o 1 = nI S.length ∧ SK (M (o + 6)) S ∧ M o 3 = nI W.length ∧ SK (M (o + 64)) W
/-- what the telling leaves -/
def FT (o : Nat) (M M' : Mem) : Prop := ∀ j q, ¬ (j = o ∧ (q = 1 ∨ q = 3)) → ¬ j = o + 6 → ¬ j = o + 64 → M' j q = M j q
theorem FT.rf {o : Nat} {M : Mem} : FT o M M := fun _ _ _ _ _ => rfl
theorem FT.tr {o : Nat} {M M1 M2 : Mem} (h : FT o M M1) (h1 : FT o M1 M2) : FT o M M2 := fun j q a b c => (h1 j q a b c).trans (h j q a b c)
theorem addStep_ok {M : Mem} {o : Nat} {S W : List Int32} {x : Int32} (h : CS M o S W) (hl : S.length < 100) : CS (f_X2_addStep M o x) o (x :: S) W ∧ FT o M (f_X2_addStep M o x) := by
  obtain ⟨h1, h2, h3, h4⟩ := h
  have e : f_X2_addStep M o x = up2 (up2 M (o + 6) S.length x) o 1 (nI (S.length + 1)) := by
    unfold f_X2_addStep
    simp only [bnd]
    rw [h1, if_neg (nI_pos (by omega)), if_neg (show ¬ (100 : Int32) ≤ nI S.length from nI_ge (b := 100) hl (by decide)), nI_clamp (by omega), up2_n _ _ (by omega), h1, nI_1]
  rw [e]
  refine ⟨⟨up2_s _ _ _ _, ⟨?_, SK_congr S (fun j hj => ?_) h2⟩, ?_, SK_congr W (fun j _ => ?_) h4⟩, fun j q p1 p2 p3 => ?_⟩
  · rw [up2_n _ _ (by omega)]; exact up2_s _ _ _ _
  · rw [up2_n _ _ (by omega), up2_n _ _ (by omega)]
  · rw [up2_n _ _ (by omega), up2_n _ _ (by omega)]; exact h3
  · rw [up2_n _ _ (by omega), up2_n _ _ (by omega)]
  · rw [up2_n _ _ (by omega), up2_n _ _ (by omega)]
/-- the waiting signs that join at least so tightly become steps -/
def popW (l : Int32) : List Int32 → List Int32 → List Int32 × List Int32
  | [], S => ([], S)
  | c :: W, S => if f_X2_tightness c < l then (c :: W, S) else popW l W (-c :: S)
theorem popW_len (l : Int32) : ∀ W S : List Int32, (popW l W S).1.length + (popW l W S).2.length = W.length + S.length := by
  intro W
  induction W with
  | nil => intro S; rfl
  | cons c W ih =>
    intro S
    rw [popW]
    split
    · rfl
    · rw [ih (-c :: S), List.length_cons, List.length_cons]; omega
theorem ends_lp {o : Nat} {l : Int32} : ∀ (W : List Int32) (f : Nat) (S : List Int32) (M : Mem), W.length < f → S.length + W.length ≤ 100 → CS M o S W →
    CS (lp_X2_endWaits_0 f o l M) o (popW l W S).2 (popW l W S).1 ∧ FT o M (lp_X2_endWaits_0 f o l M) := by
  intro W
  induction W with
  | nil =>
    intro f S M hf hb h
    obtain ⟨f, rfl⟩ : ∃ f', f = f' + 1 := ⟨f - 1, by omega⟩
    have hw : M o 3 = nI 0 := h.2.2.1
    rw [lp_X2_endWaits_0, if_pos (by rw [hw]; decide)]
    exact ⟨h, FT.rf⟩
  | cons c W ih =>
    intro f S M hf hb h
    rw [List.length_cons] at hf hb
    obtain ⟨f, rfl⟩ : ∃ f', f = f' + 1 := ⟨f - 1, by omega⟩
    have hw : M o 3 = nI (W.length + 1) := h.2.2.1
    have g1 : ¬ M o 3 ≤ 0 := by rw [hw]; exact nI_nle (by omega) (by omega)
    have g2 : ¬ (100 : Int32) < M o 3 := by rw [hw]; exact nI_nlt (a := 100) (by omega) (by decide)
    have g3 : M (o + 64) ((M o 3) - 1).toNatClampNeg = c := by rw [hw, nI_pred, nI_clamp (by omega)]; exact h.2.2.2.1
    rw [lp_X2_endWaits_0, if_neg g1, if_neg g2, g3]
    by_cases ht : f_X2_tightness c < l
    · have e : popW l (c :: W) S = (c :: W, S) := by rw [popW, if_pos ht]
      rw [if_pos ht, e]
      exact ⟨h, FT.rf⟩
    · have e : popW l (c :: W) S = popW l W (-c :: S) := by rw [popW, if_neg ht]
      have m1 : up2 M o 3 (M o 3 - 1) = up2 M o 3 (nI W.length) := by rw [hw, nI_pred]
      have m2 : (up2 M o 3 (nI W.length)) (o + 64) W.length = c := by rw [up2_n _ _ (by omega)]; exact h.2.2.2.1
      rw [if_neg ht, e]
      simp only [bnd]
      rw [m1, up2_s, nI_clamp (by omega), m2]
      have hC1 : CS (up2 M o 3 (nI W.length)) o S W := ⟨by rw [up2_n _ _ (by omega)]; exact h.1, SK_congr S (fun j _ => up2_n _ _ (by omega)) h.2.1, up2_s _ _ _ _, SK_congr W (fun j _ => up2_n _ _ (by omega)) h.2.2.2.2⟩
      have hF1 : FT o M (up2 M o 3 (nI W.length)) := fun j q p1 p2 p3 => up2_n _ _ (by omega)
      obtain ⟨a1, a2⟩ := addStep_ok (x := -c) hC1 (by omega)
      obtain ⟨b1, b2⟩ := ih f (-c :: S) _ (by omega) (by rw [List.length_cons]; omega) a1
      exact ⟨b1, (hF1.tr a2).tr b2⟩
theorem endWaits_ok {M : Mem} {o : Nat} {S W : List Int32} {l : Int32} (h : CS M o S W) (hb : S.length + W.length ≤ 100) : CS (f_X2_endWaits M o l) o (popW l W S).2 (popW l W S).1 ∧ FT o M (f_X2_endWaits M o l) := by
  unfold f_X2_endWaits
  simp only [bnd]
  rw [h.2.2.1, nI_toInt (by omega)]
  exact ends_lp W _ S M (by omega) hb h
/-- a sign is told -/
def tg (c : Int32) (S W : List Int32) : List Int32 × List Int32 :=
  if ¬ c = 41 then (if c = 40 then (S, c :: W) else ((popW (f_X2_tightness c) W S).2, c :: (popW (f_X2_tightness c) W S).1)) else ((popW 1 W S).2, (popW 1 W S).1.tail)
/-- a sign is put behind the waiting ones -/
def psh (o : Nat) (c : Int32) (M : Mem) : Mem := if M o 3 < 0 then M else if 100 ≤ M o 3 then M else up2 (up2 M (o + 64) (M o 3).toNatClampNeg c) o 3 ((up2 M (o + 64) (M o 3).toNatClampNeg c) o 3 + 1)
theorem push_ok {M : Mem} {o : Nat} {S W : List Int32} {c : Int32} (h : CS M o S W) (hl : W.length < 100) : CS (psh o c M) o S (c :: W) ∧ FT o M (psh o c M) := by
  obtain ⟨h1, h2, h3, h4⟩ := h
  have e : psh o c M = up2 (up2 M (o + 64) W.length c) o 3 (nI (W.length + 1)) := by
    unfold psh
    rw [h3, if_neg (nI_pos (by omega)), if_neg (show ¬ (100 : Int32) ≤ nI W.length from nI_ge (b := 100) hl (by decide)), nI_clamp (by omega), up2_n _ _ (by omega), h3, nI_1]
  rw [e]
  refine ⟨⟨?_, SK_congr S (fun j hj => ?_) h2, up2_s _ _ _ _, ⟨?_, SK_congr W (fun j hj => ?_) h4⟩⟩, fun j q p1 p2 p3 => ?_⟩
  · rw [up2_n _ _ (by omega), up2_n _ _ (by omega)]; exact h1
  · rw [up2_n _ _ (by omega), up2_n _ _ (by omega)]
  · rw [up2_n _ _ (by omega)]; exact up2_s _ _ _ _
  · rw [up2_n _ _ (by omega), up2_n _ _ (by omega)]
  · rw [up2_n _ _ (by omega), up2_n _ _ (by omega)]
theorem tellS_41 {M : Mem} {o : Nat} {c : Int32} (h : c = 41) : f_X2_tellSign M o c = up2 (f_X2_endWaits M o 1) o 3 (mx 0 ((f_X2_endWaits M o 1) o 3 - 1)) := by
  unfold f_X2_tellSign
  rw [if_neg (not_not_intro h)]
  rfl
theorem tellS_40 {M : Mem} {o : Nat} {c : Int32} (h : ¬ c = 41) (h1 : c = 40) : f_X2_tellSign M o c = psh o c M := by
  unfold f_X2_tellSign
  rw [if_pos h, if_pos h1]
  rfl
theorem tellS_s {M : Mem} {o : Nat} {c : Int32} (h : ¬ c = 41) (h1 : ¬ c = 40) : f_X2_tellSign M o c = psh o c (f_X2_endWaits M o (f_X2_tightness c)) := by
  unfold f_X2_tellSign
  rw [if_pos h, if_neg h1]
  rfl
theorem mx_nI {n : Nat} (h : n < 2 ^ 31) : mx 0 (nI n) = nI n := by
  unfold mx
  split
  · rfl
  · rename_i q
    cases n with
    | zero => rfl
    | succ n => exact absurd (nI_lt (a := 0) (show 0 < n + 1 by omega) h) q
theorem tellSign_ok {M : Mem} {o : Nat} {S W : List Int32} {c : Int32} (h : CS M o S W) (hb : S.length + W.length < 100) :
    CS (f_X2_tellSign M o c) o (tg c S W).1 (tg c S W).2 ∧ FT o M (f_X2_tellSign M o c) ∧ (tg c S W).1.length + (tg c S W).2.length ≤ S.length + W.length + 1 := by
  unfold tg
  by_cases h41 : c = 41
  · rw [tellS_41 h41, if_neg (not_not_intro h41)]
    obtain ⟨e1, e2⟩ := endWaits_ok (l := 1) h (by omega)
    have hl := popW_len 1 W S
    generalize f_X2_endWaits M o 1 = M1 at e1 e2 ⊢
    generalize popW 1 W S = p at e1 hl ⊢
    obtain ⟨W1, S1⟩ := p
    dsimp only at e1 hl ⊢
    obtain ⟨c1, c2, c3, c4⟩ := e1
    have em : mx 0 (M1 o 3 - 1) = nI W1.tail.length := by
      rw [c3]
      match W1, hl with
      | [], _ => decide
      | x :: W2, hl =>
        rw [List.length_cons] at hl
        show mx 0 (nI (W2.length + 1) - 1) = nI W2.length
        rw [nI_pred, mx_nI (by omega)]
    rw [em]
    refine ⟨⟨by rw [up2_n _ _ (by omega)]; exact c1, SK_congr S1 (fun j _ => up2_n _ _ (by omega)) c2, up2_s _ _ _ _, SK_congr _ (fun j _ => up2_n _ _ (by omega)) ?_⟩, e2.tr (fun j q p1 p2 p3 => up2_n _ _ (by omega)), by rw [List.length_tail]; omega⟩
    match W1, c4 with
    | [], _ => trivial
    | x :: W2, c4 => exact c4.2
  · rw [if_pos h41]
    by_cases h40 : c = 40
    · rw [tellS_40 h41 h40, if_pos h40]
      obtain ⟨e1, e2⟩ := push_ok (c := c) h (by omega)
      exact ⟨e1, e2, by dsimp only; rw [List.length_cons]; omega⟩
    · rw [tellS_s h41 h40, if_neg h40]
      obtain ⟨e1, e2⟩ := endWaits_ok (l := f_X2_tightness c) h (by omega)
      have hl := popW_len (f_X2_tightness c) W S
      obtain ⟨g1, g2⟩ := push_ok (c := c) e1 (by omega)
      exact ⟨g1, e2.tr g2, by dsimp only; rw [List.length_cons]; omega⟩
/-- the telling: the steps and the waiting signs behind m signs from k on -/
def wcp (t : Nat → Int32) : Nat → Nat → List Int32 → List Int32 → Int32 → List Int32 × List Int32
  | 0, _, S, W, _ => (S, W)
  | m + 1, k, S, W, v =>
    if f_X2_isDigit (t k) = 0 then
      (if t k = 116 then wcp t m (k + 1) (-1 :: S) W v else if t k = 115 then wcp t m (k + 1) (-2 :: S) W v else wcp t m (k + 1) (tg (t k) S W).1 (tg (t k) S W).2 v)
    else if m = 0 then wcp t m (k + 1) ((v * 10 + t k - 48) :: S) W 0
    else if f_X2_isDigit (t (k + 1)) = 0 then wcp t m (k + 1) ((v * 10 + t k - 48) :: S) W 0
    else wcp t m (k + 1) S W (v * 10 + t k - 48)
theorem wcp_s {t : Nat → Int32} {m k : Nat} {S W : List Int32} {v : Int32} : wcp t (m + 1) k S W v =
    if f_X2_isDigit (t k) = 0 then
      (if t k = 116 then wcp t m (k + 1) (-1 :: S) W v else if t k = 115 then wcp t m (k + 1) (-2 :: S) W v else wcp t m (k + 1) (tg (t k) S W).1 (tg (t k) S W).2 v)
    else if m = 0 then wcp t m (k + 1) ((v * 10 + t k - 48) :: S) W 0
    else if f_X2_isDigit (t (k + 1)) = 0 then wcp t m (k + 1) ((v * 10 + t k - 48) :: S) W 0
    else wcp t m (k + 1) S W (v * 10 + t k - 48) := by
  rw [wcp]
theorem tell_lp {o a n : Nat} {t : Nat → Int32} (hn : n ≤ 100) (ha : ¬ a = o ∧ ¬ a = o + 6 ∧ ¬ a = o + 64) : ∀ (m f k : Nat) (S W : List Int32) (v : Int32) (M : Mem), m < f → m + k = n → S.length + W.length ≤ k → CS M o S W → (∀ j, j < n → M a j = t j) →
    CS (lp_X2_tell_15 f o a (nI n) M v (nI k)) o (wcp t m k S W v).1 (wcp t m k S W v).2 ∧ FT o M (lp_X2_tell_15 f o a (nI n) M v (nI k)) ∧ (wcp t m k S W v).1.length + (wcp t m k S W v).2.length ≤ n := by
  intro m
  induction m with
  | zero =>
    intro f k S W v M hf hk hb h ht
    obtain ⟨f, rfl⟩ : ∃ f', f = f' + 1 := ⟨f - 1, by omega⟩
    obtain rfl : k = n := by omega
    rw [lp_X2_tell_15, if_pos (nI_le (Nat.le_refl _) (by omega))]
    exact ⟨h, FT.rf, hb⟩
  | succ m ih =>
    intro f k S W v M hf hk hb h ht
    obtain ⟨f, rfl⟩ : ∃ f', f = f' + 1 := ⟨f - 1, by omega⟩
    have go : ∀ (S' W' : List Int32) (v' : Int32) (M' : Mem), S'.length + W'.length ≤ k + 1 → CS M' o S' W' → FT o M M' →
        CS (lp_X2_tell_15 f o a (nI n) M' v' (nI (k + 1))) o (wcp t m (k + 1) S' W' v').1 (wcp t m (k + 1) S' W' v').2 ∧ FT o M (lp_X2_tell_15 f o a (nI n) M' v' (nI (k + 1))) ∧ (wcp t m (k + 1) S' W' v').1.length + (wcp t m (k + 1) S' W' v').2.length ≤ n := fun S' W' v' M' h1 h2 h3 => by
      obtain ⟨g1, g2, g3⟩ := ih f (k + 1) S' W' v' M' (by omega) (by omega) h1 h2 (fun j hj => by rw [h3 _ _ (by omega) ha.2.1 ha.2.2]; exact ht j hj)
      exact ⟨g1, h3.tr g2, g3⟩
    rw [lp_X2_tell_15, if_neg (nI_ge (by omega) (by omega)), if_neg (show ¬ (100 : Int32) ≤ nI k from nI_ge (b := 100) (show k < 100 by omega) (by decide))]
    simp only [bnd, bnd2]
    rw [nI_clamp (show k < 2 ^ 31 by omega), ht k (by omega), nI_1 k]
    by_cases hd : f_X2_isDigit (t k) = 0
    · rw [if_pos hd]
      by_cases h116 : t k = 116
      · have e : wcp t (m + 1) k S W v = wcp t m (k + 1) (-1 :: S) W v := by rw [wcp_s, if_pos hd, if_pos h116]
        rw [e, if_pos h116, if_neg (not_not_intro h116)]
        obtain ⟨a1, a2⟩ := addStep_ok (x := -1) h (by omega)
        exact go _ _ _ _ (by rw [List.length_cons]; omega) a1 a2
      · rw [if_neg h116]
        by_cases h115 : t k = 115
        · have e : wcp t (m + 1) k S W v = wcp t m (k + 1) (-2 :: S) W v := by rw [wcp_s, if_pos hd, if_neg h116, if_pos h115]
          rw [e, if_neg (not_not_intro h115), if_pos h116]
          obtain ⟨a1, a2⟩ := addStep_ok (x := -2) h (by omega)
          exact go _ _ _ _ (by rw [List.length_cons]; omega) a1 a2
        · have e : wcp t (m + 1) k S W v = wcp t m (k + 1) (tg (t k) S W).1 (tg (t k) S W).2 v := by rw [wcp_s, if_pos hd, if_neg h116, if_neg h115]
          rw [e, if_pos h115]
          obtain ⟨a1, a2, a3⟩ := tellSign_ok (c := t k) h (by omega)
          exact go _ _ _ _ (by omega) a1 a2
    · rw [if_neg hd]
      obtain ⟨a1, a2⟩ := addStep_ok (x := v * 10 + t k - 48) h (by omega)
      cases m with
      | zero =>
        have e : wcp t (0 + 1) k S W v = wcp t 0 (k + 1) ((v * 10 + t k - 48) :: S) W 0 := by rw [wcp_s, if_neg hd, if_pos rfl]
        rw [e, if_pos (show nI n ≤ nI (k + 1) from nI_le (by omega) (by omega))]
        exact go _ _ _ _ (by rw [List.length_cons]; omega) a1 a2
      | succ m =>
        rw [if_neg (show ¬ nI n ≤ nI (k + 1) from nI_ge (by omega) (by omega)), if_neg (show ¬ (100 : Int32) ≤ nI (k + 1) from nI_ge (b := 100) (show k + 1 < 100 by omega) (by decide)), nI_clamp (show k + 1 < 2 ^ 31 by omega), ht (k + 1) (by omega)]
        by_cases hd2 : f_X2_isDigit (t (k + 1)) = 0
        · have e : wcp t (m + 1 + 1) k S W v = wcp t (m + 1) (k + 1) ((v * 10 + t k - 48) :: S) W 0 := by rw [wcp_s, if_neg hd, if_neg (show ¬ m + 1 = 0 by omega), if_pos hd2]
          rw [e, if_neg (not_not_intro hd2)]
          exact go _ _ _ _ (by rw [List.length_cons]; omega) a1 a2
        · have e : wcp t (m + 1 + 1) k S W v = wcp t (m + 1) (k + 1) S W (v * 10 + t k - 48) := by rw [wcp_s, if_neg hd, if_neg (show ¬ m + 1 = 0 by omega), if_neg hd2]
          rw [e, if_pos hd2]
          exact go _ _ _ _ (by omega) h FT.rf
/-- the steps of a text -/
def wcomp (t : Nat → Int32) (n : Nat) : List Int32 := (popW 1 (wcp t n 0 [] [] 0).2 (wcp t n 0 [] [] 0).1).2
theorem tell_comp {M : Mem} {o a n : Nat} {t : Nat → Int32} (hn : n ≤ 100) (ha : ¬ a = o ∧ ¬ a = o + 6 ∧ ¬ a = o + 64) (ht : ∀ j, j < n → M a j = t j) :
    f_X2_tell M o a (nI n) o 1 = nI (wcomp t n).length ∧ SK (f_X2_tell M o a (nI n) (o + 6)) (wcomp t n) ∧ (wcomp t n).length ≤ 100 ∧ FT o M (f_X2_tell M o a (nI n)) := by
  have hF : FT o M (up2 (up2 M o 1 0) o 3 0) := fun j q p1 p2 p3 => by rw [up2_n _ _ (by omega), up2_n _ _ (by omega)]
  have h0 : CS (up2 (up2 M o 1 0) o 3 0) o [] [] := ⟨by rw [up2_n _ _ (by omega)]; exact up2_s _ _ _ _, trivial, up2_s _ _ _ _, trivial⟩
  obtain ⟨g1, g2, g3⟩ := tell_lp (t := t) hn ha n 101 0 [] [] 0 _ (by omega) (by omega) (Nat.le_refl _) h0 (fun j hj => by rw [hF _ _ (by omega) ha.2.1 ha.2.2]; exact ht j hj)
  have hl := popW_len 1 (wcp t n 0 [] [] 0).2 (wcp t n 0 [] [] 0).1
  obtain ⟨b1, b2⟩ := endWaits_ok (l := 1) g1 (by omega)
  have e : f_X2_tell M o a (nI n) = f_X2_endWaits (lp_X2_tell_15 101 o a (nI n) (up2 (up2 M o 1 0) o 3 0) 0 (nI 0)) o 1 := by
    unfold f_X2_tell; simp only [bnd]; rw [nI_0]
  rw [e]
  exact ⟨b1.1, b1.2.1, by unfold wcomp; omega, (hF.tr g2).tr b2⟩
