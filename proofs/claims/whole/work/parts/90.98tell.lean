/-! races, both sides -/
def KN (C R : Mem) (b i : Nat) : Prop := C (b + 12) 0 = R 2 i ∧ C (b + 12) 1 = R 5 i ∧ (0 ≤ (R 2 i).toInt ∧ (R 2 i).toInt ≤ 7) ∧ (0 ≤ (R 5 i).toInt ∧ (R 5 i).toInt ≤ 40)
def KB (m : Nat) (C R : Mem) (b i : Nat) : Prop := C (b + 12) 0 = 8 ∧ C (b + 12) 1 = R 22 i ∧ R 0 40 = nI m ∧ (m = 4 ∨ m = 8) ∧ 0 ≤ (R 22 i).toInt ∧ (R 22 i).toInt < 2 ^ m
/-- the figures told agree as far as k bits go -/
def KP (k : Nat) (C R : Mem) (b i : Nat) : Prop := C (b + 12) 0 = 8 ∧ R 0 40 = nI 8 ∧ k ≤ 8 ∧ ∃ w0 w, w0 < 256 ∧ w < 256 ∧ C (b + 12) 1 = nI w0 ∧ R 22 i = nI w ∧ w0 % 2 ^ k = w % 2 ^ k
def KK (g : Option Nat) (C R : Mem) (b i : Nat) : Prop := match g with
  | none => KN C R b i
  | some m => (m < 100 ∧ KB m C R b i) ∨ (100 ≤ m ∧ KP (m - 100) C R b i)
/-- so far two such go alike -/
def pre (g : Option Nat) (s : Nat) : Prop := match g with
  | none => True
  | some m => 100 ≤ m → s < 10 * (m - 100 + 1)
def BS (C R : Mem) (b i : Nat) : Prop := C b 1 = R 3 i ∧ WY (C b 2) (R 4 i) ∧ bx (R 3 i) ∧ C (b + 12) 2 = nI i
def BY (C R : Mem) (a : Nat) : Prop := C a 0 = R 0 0 ∧ C a 1 = R 0 1 ∧ C a 2 = R 0 2 ∧ C a 3 = R 0 3
def RX (g : Option Nat) (C R : Mem) (o a n : Nat) : Prop := C o 1 = nI n ∧ R 0 8 = nI n ∧ BY C R a ∧ ∀ i, i < n → BX C R ((4 * (o + 3) - 45 + i)) i ∧ BS C R ((4 * (o + 3) - 45 + i)) i ∧ KK g C R ((4 * (o + 3) - 45 + i)) i
def geo (o a n : Nat) : Prop := (13 ≤ o ∧ o ≤ 15) ∧ (1 ≤ a ∧ a ≤ 3) ∧ n ≤ 4
theorem BX_of {C R C' R' : Mem} {b i : Nat} (h : BX C R b i) (hC : ∀ q, 3 ≤ q → q ≤ 8 → C' b q = C b q) (hR : ∀ j, 6 ≤ j → j ≤ 11 → R' j i = R j i) : BX C' R' b i := by
  obtain ⟨e3, e4, e5, e6, e7, e8, hx, hin⟩ := h
  exact ⟨by rw [hC _ (by omega) (by omega), hR _ (by omega) (by omega)]; exact e3, by rw [hC _ (by omega) (by omega), hR _ (by omega) (by omega)]; exact e4, by rw [hC _ (by omega) (by omega), hR _ (by omega) (by omega)]; exact e5,
    by rw [hC _ (by omega) (by omega), hR _ (by omega) (by omega)]; exact e6, by rw [hC _ (by omega) (by omega), hR _ (by omega) (by omega)]; exact e7, by rw [hC _ (by omega) (by omega), hR _ (by omega) (by omega)]; exact e8, by rw [hR _ (by omega) (by omega)]; exact hx, by rw [hR _ (by omega) (by omega)]; exact hin⟩
theorem BS_of {C R C' R' : Mem} {b i : Nat} (h : BS C R b i) (hC : ∀ q, 1 ≤ q → q ≤ 2 → C' b q = C b q) (hC2 : C' (b + 12) 2 = C (b + 12) 2) (hR : ∀ j, 3 ≤ j → j ≤ 4 → R' j i = R j i) : BS C' R' b i := by
  obtain ⟨e1, e2, e3, e4⟩ := h
  exact ⟨by rw [hC _ (by omega) (by omega), hR _ (by omega) (by omega)]; exact e1, by rw [hC _ (by omega) (by omega), hR _ (by omega) (by omega)]; exact e2, by rw [hR _ (by omega) (by omega)]; exact e3, by rw [hC2]; exact e4⟩
theorem KK_of {g : Option Nat} {C R C' R' : Mem} {b i : Nat} (h : KK g C R b i) (hC : ∀ q, q ≤ 1 → C' (b + 12) q = C (b + 12) q) (hR : ∀ j, j = 2 ∨ j = 5 ∨ j = 22 → R' j i = R j i) (hm : R' 0 40 = R 0 40) : KK g C' R' b i := by
  cases g with
  | none =>
    obtain ⟨e1, e2, e3, e4⟩ := h
    exact ⟨by rw [hC _ (by omega), hR _ (by omega)]; exact e1, by rw [hC _ (by omega), hR _ (by omega)]; exact e2, by rw [hR _ (by omega)]; exact e3, by rw [hR _ (by omega)]; exact e4⟩
  | some m =>
    rcases h with ⟨h0, e1, e2, e3, e4, e5⟩ | ⟨h0, e1, e2, e3, w0, w, e4, e5, e6, e7, e8⟩
    · exact Or.inl ⟨h0, by rw [hC _ (by omega)]; exact e1, by rw [hC _ (by omega), hR _ (by omega)]; exact e2, by rw [hm]; exact e3, e4, by rw [hR _ (by omega)]; exact e5⟩
    · exact Or.inr ⟨h0, by rw [hC _ (by omega)]; exact e1, by rw [hm]; exact e2, e3, w0, w, e4, e5, by rw [hC _ (by omega)]; exact e6, by rw [hR _ (by omega)]; exact e7, e8⟩
theorem BY_of {C R C' R' : Mem} {a : Nat} (h : BY C R a) (hC : ∀ q, q ≤ 3 → C' a q = C a q) (hR : ∀ q, q ≤ 3 → R' 0 q = R 0 q) : BY C' R' a := by
  obtain ⟨e1, e2, e3, e4⟩ := h
  exact ⟨by rw [hC _ (by omega), hR _ (by omega)]; exact e1, by rw [hC _ (by omega), hR _ (by omega)]; exact e2, by rw [hC _ (by omega), hR _ (by omega)]; exact e3, by rw [hC _ (by omega), hR _ (by omega)]; exact e4⟩
/-- what a step leaves, for the class: the race's second, its boats' moving fields, the bay's law's places and its winds may change -/
def FrC (o a : Nat) (C C' : Mem) : Prop := ∀ j q, ¬ (j = o ∧ q = 2) → ¬ ((4 * (o + 3) - 45 + 0) ≤ j ∧ j < (4 * (o + 3) - 45 + 4) ∧ 3 ≤ q ∧ q ≤ 10) → ¬ (j = a + 3 ∧ 2 ≤ q ∧ q ≤ 4) → ¬ (j = a + 6 ∨ 68 ≤ j) → C' j q = C j q
def FrR (R R' : Mem) : Prop := ∀ j q, ¬ (j = 0 ∧ q = 7) → ¬ (6 ≤ j ∧ j ≤ 11) → ¬ j = 18 → ¬ j = 19 → R' j q = R j q
theorem FrC.rf {o a : Nat} {C : Mem} : FrC o a C C := fun _ _ _ _ _ _ => rfl
theorem FrR.rf {R : Mem} : FrR R R := fun _ _ _ _ _ _ => rfl
theorem FrC.tr {o a : Nat} {C C1 C2 : Mem} (h : FrC o a C C1) (h1 : FrC o a C1 C2) : FrC o a C C2 := fun j q a b c d => (h1 j q a b c d).trans (h j q a b c d)
theorem FrR.tr {R R1 R2 : Mem} (h : FrR R R1) (h1 : FrR R1 R2) : FrR R R2 := fun j q a b c d => (h1 j q a b c d).trans (h j q a b c d)
/-- one boat of both changed -/
theorem RX_one {g : Option Nat} {C R C' R' : Mem} {o a n k : Nat} (hg : geo o a n) (h : RX g C R o a n) (hC : ∀ j q, ¬ (j = (4 * (o + 3) - 45 + k) ∧ 3 ≤ q ∧ q ≤ 10) → C' j q = C j q) (hR : ∀ j q, ¬ (q = k ∧ 6 ≤ j ∧ j ≤ 11) → ¬ j = 18 → ¬ j = 19 → R' j q = R j q) (hk : k < n) (hB : BX C' R' ((4 * (o + 3) - 45 + k)) k) : RX g C' R' o a n := by
  obtain ⟨⟨g1, g2⟩, ⟨g3, g4⟩, g5⟩ := hg
  obtain ⟨e1, e2, e3, e4⟩ := h
  refine ⟨by rw [hC _ _ (by omega)]; exact e1, by rw [hR _ _ (by omega) (by omega) (by omega)]; exact e2, BY_of e3 (fun q hq => hC _ _ (by omega)) (fun q hq => hR _ _ (by omega) (by omega) (by omega)), fun i hi => ?_⟩
  obtain ⟨b1, b2, b3⟩ := e4 i hi
  refine ⟨?_, BS_of b2 (fun q h1 h2 => hC _ _ (by omega)) (hC _ _ (by omega)) (fun j h1 h2 => hR _ _ (by omega) (by omega) (by omega)), KK_of b3 (fun q hq => hC _ _ (by omega)) (fun j hj => hR _ _ (by omega) (by omega) (by omega)) (hR _ _ (by omega) (by omega) (by omega))⟩
  by_cases e : i = k
  · subst e; exact hB
  · exact BX_of b1 (fun q h1 h2 => hC _ _ (by omega)) (fun j h1 h2 => hR _ _ (by omega) (by omega) (by omega))
/-- the class's other fields changed -/
theorem RX_C {g : Option Nat} {C R C' : Mem} {o a n : Nat} (hg : geo o a n) (h : RX g C R o a n) (hC : ∀ j q, ¬ (j = o ∧ q = 2) → ¬ ((4 * (o + 3) - 45 + 0) ≤ j ∧ j < (4 * (o + 3) - 45 + 4) ∧ 9 ≤ q ∧ q ≤ 10) → ¬ (j = a + 3 ∧ 2 ≤ q ∧ q ≤ 4) → ¬ (j = a + 6 ∨ 68 ≤ j) → C' j q = C j q) : RX g C' R o a n := by
  obtain ⟨⟨g1, g2⟩, ⟨g3, g4⟩, g5⟩ := hg
  obtain ⟨e1, e2, e3, e4⟩ := h
  refine ⟨by rw [hC _ _ (by omega) (by omega) (by omega) (by omega)]; exact e1, e2, BY_of e3 (fun q hq => hC _ _ (by omega) (by omega) (by omega) (by omega)) (fun _ _ => rfl), fun i hi => ?_⟩
  obtain ⟨b1, b2, b3⟩ := e4 i hi
  exact ⟨BX_of b1 (fun q h1 h2 => hC _ _ (by omega) (by omega) (by omega) (by omega)) (fun _ _ _ => rfl), BS_of b2 (fun q h1 h2 => hC _ _ (by omega) (by omega) (by omega) (by omega)) (hC _ _ (by omega) (by omega) (by omega) (by omega)) (fun _ _ _ => rfl), KK_of b3 (fun q hq => hC _ _ (by omega) (by omega) (by omega) (by omega)) (fun _ _ => rfl) rfl⟩
/-- the reference's other rows changed -/
theorem RX_R {g : Option Nat} {C R R' : Mem} {o a n : Nat} (h : RX g C R o a n) (hR : ∀ j q, ¬ (j = 0 ∧ q = 7) → ¬ j = 18 → ¬ j = 19 → R' j q = R j q) : RX g C R' o a n := by
  obtain ⟨e1, e2, e3, e4⟩ := h
  refine ⟨e1, by rw [hR _ _ (by omega) (by omega) (by omega)]; exact e2, BY_of e3 (fun _ _ => rfl) (fun q hq => hR _ _ (by omega) (by omega) (by omega)), fun i hi => ?_⟩
  obtain ⟨b1, b2, b3⟩ := e4 i hi
  exact ⟨BX_of b1 (fun _ _ _ => rfl) (fun j h1 h2 => hR _ _ (by omega) (by omega) (by omega)), BS_of b2 (fun _ _ _ => rfl) rfl (fun j h1 h2 => hR _ _ (by omega) (by omega) (by omega)), KK_of b3 (fun _ _ => rfl) (fun j hj => hR _ _ (by omega) (by omega) (by omega)) (hR _ _ (by omega) (by omega) (by omega))⟩
theorem RX_in {g : Option Nat} {C R : Mem} {o a n : Nat} (h : RX g C R o a n) : ∀ i, i < n → R 10 i = -4 ∨ 0 ≤ (R 10 i).toInt := fun i hi => (h.2.2.2 i hi).1.2.2.2.2.2.2.2
/-- the class tells bad air -/
def tell1 (o v k : Nat) (M : Mem) : Mem := if f_X1_fouls M (4 * (o + 3) - 45 + k) (4 * (o + 3) - 45 + v) = 0 then M else up2 M (4 * (o + 3) - 45 + v) 9 1
def tell2 (o n v : Nat) (M : Mem) : Mem := rep (tell1 o v) n (up2 M (4 * (o + 3) - 45 + v) 9 0)
theorem nI4 {k : Nat} (h : k < 4) : ¬ (4 : Int32) ≤ nI k := nI_ge (b := 4) h (by decide)
theorem nIstop {n : Nat} (h : n ≤ 4) : nI n ≤ nI n := nI_le (Nat.le_refl _) (by omega)
theorem nIgo {k n : Nat} (h : n ≤ 4) (hk : k < n) : ¬ nI n ≤ nI k := nI_ge hk (by omega)
theorem tell1_rep {o a n v : Nat} (hg : geo o a n) (hv : v < n) (M : Mem) (hM : M o 1 = nI n) : lp_X3_tellBadAir_31' 5 o (nI v) M 0 = rep (tell1 o v) n M := by
  obtain ⟨⟨g1, g2⟩, ⟨g3, g4⟩, g5⟩ := hg
  refine lp_rep0 (lp := fun f M w => lp_X3_tellBadAir_31' f o (nI v) M w) (Q := fun M => M o 1 = nI n) (by omega) hM ?_ ?_ ?_
  · intro f k M hk hQ
    rw [lp_X3_tellBadAir_31', hQ, if_neg (nIgo g5 hk), if_neg (nI4 (by omega))]
    simp only [bnd]
    rw [nI_clamp (by omega), nI_clamp (by omega), nI_1]
    rfl
  · intro f M hQ
    rw [lp_X3_tellBadAir_31', hQ, if_pos (nIstop g5)]
  · intro k M hk hQ
    show tell1 o v k M o 1 = _
    unfold tell1
    split
    · exact hQ
    · rw [up2_n _ _ (by omega)]; exact hQ
theorem tell1_only {o n v : Nat} {M : Mem} : ∀ k, ∀ j q, ¬ (j = (4 * (o + 3) - 45 + v) ∧ q = 9) → rep (tell1 o v) k M j q = M j q := by
  intro k
  induction k with
  | zero => intro j q _; rfl
  | succ k ih =>
    intro j q h
    show tell1 o v k (rep (tell1 o v) k M) j q = _
    unfold tell1
    split
    · exact ih j q h
    · rw [up2_n _ _ h]; exact ih j q h
theorem tell2_rep {o a n : Nat} (hg : geo o a n) (M : Mem) (hM : M o 1 = nI n) : f_X3_tellBadAir M o = rep (tell2 o n) n M := by
  have hg' := hg
  obtain ⟨⟨g1, g2⟩, ⟨g3, g4⟩, g5⟩ := hg
  unfold f_X3_tellBadAir
  simp only [bnd]
  refine lp_rep0 (lp := fun f M w => lp_X3_tellBadAir_2 f o M w) (Q := fun M => M o 1 = nI n) (by omega) hM ?_ ?_ ?_
  · intro f k M hk hQ
    rw [lp_X3_tellBadAir_2, hQ, if_neg (nIgo g5 hk), if_neg (nI4 (by omega))]
    simp only [bnd]
    rw [nI_clamp (by omega), nI_1, tell1_rep hg' hk _ (by rw [up2_n _ _ (by omega)]; exact hQ)]
    rfl
  · intro f M hQ
    rw [lp_X3_tellBadAir_2, hQ, if_pos (nIstop g5)]
  · intro k M hk hQ
    show rep (tell1 o k) n _ o 1 = _
    rw [tell1_only (n := n) _ _ _ (by omega), up2_n _ _ (by omega)]; exact hQ
theorem tell1_val {g : Option Nat} {C R : Mem} {o a n v : Nat} (hg : geo o a n) (h : RX g C R o a n) (hv : v < n) : b01 (tell2 o n v C (4 * (o + 3) - 45 + v) 9) = 0 ↔ ¬ BAD R n v := by
  have hg' := hg
  obtain ⟨⟨g1, g2⟩, ⟨g3, g4⟩, g5⟩ := hg
  have key : ∀ k, k ≤ n → (b01 (rep (tell1 o v) k (up2 C (4 * (o + 3) - 45 + v) 9 0) (4 * (o + 3) - 45 + v) 9) = 0 ↔ ∀ j, j < k → ¬ FL R j v) := by
    intro k
    induction k with
    | zero => intro _; refine ⟨fun _ j hj => by omega, fun _ => ?_⟩; show b01 (up2 C (4 * (o + 3) - 45 + v) 9 0 (4 * (o + 3) - 45 + v) 9) = 0; rw [up2_s]; rfl
    | succ k ih =>
      intro hk
      have ih := ih (by omega)
      have hX : ∀ i, i < n → BX (rep (tell1 o v) k (up2 C (4 * (o + 3) - 45 + v) 9 0)) R ((4 * (o + 3) - 45 + i)) i := fun i hi => BX_of (h.2.2.2 i hi).1 (fun q h1 h2 => by rw [tell1_only (n := n) _ _ _ (by omega), up2_n _ _ (by omega)]) (fun _ _ _ => rfl)
      have hf := fouls_eq (hX k (by omega)) (hX v hv)
      have es : rep (tell1 o v) (k + 1) (up2 C (4 * (o + 3) - 45 + v) 9 0) = tell1 o v k (rep (tell1 o v) k (up2 C (4 * (o + 3) - 45 + v) 9 0)) := rfl
      rw [es]
      generalize rep (tell1 o v) k (up2 C (4 * (o + 3) - 45 + v) 9 0) = X at ih hf ⊢
      unfold tell1
      rcases hf with ⟨q1, q2⟩ | ⟨q1, q2⟩
      · rw [if_pos q1, ih]
        constructor
        · intro p j hj
          by_cases e : j = k
          · subst e; exact q2
          · exact p j (by omega)
        · exact fun p j hj => p j (by omega)
      · rw [if_neg (by rw [q1]; decide), up2_s]
        exact ⟨fun q => absurd q (by decide), fun p => absurd q2 (p k (by omega))⟩
  unfold tell2
  rw [key n (Nat.le_refl _)]
  unfold BAD
  exact ⟨fun p ⟨j, h1, h2⟩ => p j h1 h2, fun p j h1 h2 => p ⟨j, h1, h2⟩⟩
theorem tell_ok {g : Option Nat} {C R : Mem} {o a n : Nat} (hg : geo o a n) (h : RX g C R o a n) : (∀ j q, ¬ ((4 * (o + 3) - 45 + 0) ≤ j ∧ j < (4 * (o + 3) - 45 + n) ∧ q = 9) → f_X3_tellBadAir C o j q = C j q) ∧ (∀ i, i < n → (b01 (f_X3_tellBadAir C o ((4 * (o + 3) - 45 + i)) 9) = 0 ↔ ¬ BAD R n i)) := by
  have hg' := hg
  obtain ⟨⟨g1, g2⟩, ⟨g3, g4⟩, g5⟩ := hg
  rw [tell2_rep hg' C h.1]
  have key := rep_ind (g := tell2 o n) (n := n) (M := C) (S := fun k M => (∀ j q, ¬ ((4 * (o + 3) - 45 + 0) ≤ j ∧ j < (4 * (o + 3) - 45 + k) ∧ q = 9) → M j q = C j q) ∧ (∀ i, i < k → (b01 (M ((4 * (o + 3) - 45 + i)) 9) = 0 ↔ ¬ BAD R n i))) (fun k M hk hS => by
    obtain ⟨s1, s2⟩ := hS
    have hon : ∀ j q, ¬ (j = (4 * (o + 3) - 45 + k) ∧ q = 9) → tell2 o n k M j q = M j q := fun j q hj => by
      unfold tell2; rw [tell1_only (n := n) _ _ _ hj, up2_n _ _ hj]
    have hRM : RX g M R o a n := RX_C hg' h (fun j q h1 h2 h3 h4 => s1 j q (by omega))
    refine ⟨fun j q hj => by rw [hon j q (by omega)]; exact s1 j q (by omega), fun i hi => ?_⟩
    by_cases e : i = k
    · subst e; exact tell1_val hg' hRM hk
    · rw [hon _ _ (by omega)]; exact s2 i (by omega)) ⟨fun _ _ _ => rfl, fun i hi => by omega⟩ n (Nat.le_refl _)
  exact key
