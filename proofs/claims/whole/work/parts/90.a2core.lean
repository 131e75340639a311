/-! the relation of both memories -/
theorem pos_ipos {j q : Nat} (h : ipos j q < 148) : pos (ipos j q) = (j, q) := by
  unfold ipos at h ⊢
  by_cases h0 : j = 0
  · subst h0
    rw [if_pos rfl] at h ⊢
    by_cases h1 : q < 5
    · rw [if_pos h1]; unfold pos; rw [if_pos h1]
    · rw [if_neg h1] at h ⊢
      by_cases h2 : q = 7
      · subst h2; rfl
      · rw [if_neg h2] at h ⊢
        by_cases h3 : q = 8
        · subst h3; rfl
        · rw [if_neg h3] at h ⊢
          by_cases h4 : q = 5
          · subst h4; rfl
          · rw [if_neg h4] at h; omega
  · rw [if_neg h0] at h ⊢
    by_cases h1 : j = 1
    · subst h1
      rw [if_pos rfl] at h ⊢
      by_cases h2 : q < 100
      · rw [if_pos h2, pos_t]
      · rw [if_neg h2] at h; omega
    · rw [if_neg h1] at h ⊢
      by_cases h2 : j < 12
      · rw [if_pos h2] at h ⊢
        by_cases h3 : q < 4
        · rw [if_pos h3, pos_b h3 (by omega)]
          rw [show 2 + (j - 2) = j by omega]
        · rw [if_neg h3] at h; omega
      · rw [if_neg h2] at h; omega
def cry (j q : Nat) : Prop := ipos j q < 148
theorem cry_iff {j q : Nat} : cry j q ↔ (j = 0 ∧ (q ≤ 5 ∨ q = 7 ∨ q = 8)) ∨ (j = 1 ∧ q < 100) ∨ (2 ≤ j ∧ j ≤ 11 ∧ q < 4) := by
  unfold cry ipos
  by_cases h0 : j = 0
  · subst h0
    rw [if_pos rfl]
    by_cases h1 : q < 5
    · rw [if_pos h1]; exact ⟨fun _ => by omega, fun _ => by omega⟩
    · rw [if_neg h1]
      by_cases h2 : q = 7
      · rw [if_pos h2]; exact ⟨fun _ => by omega, fun _ => by omega⟩
      · rw [if_neg h2]
        by_cases h3 : q = 8
        · rw [if_pos h3]; exact ⟨fun _ => by omega, fun _ => by omega⟩
        · rw [if_neg h3]
          by_cases h4 : q = 5
          · rw [if_pos h4]; exact ⟨fun _ => by omega, fun _ => by omega⟩
          · rw [if_neg h4]; exact ⟨fun _ => by omega, fun _ => by omega⟩
  · rw [if_neg h0]
    by_cases h1 : j = 1
    · rw [if_pos h1]
      by_cases h2 : q < 100
      · rw [if_pos h2]; exact ⟨fun _ => by omega, fun _ => by omega⟩
      · rw [if_neg h2]; exact ⟨fun _ => by omega, fun _ => by omega⟩
    · rw [if_neg h1]
      by_cases h2 : j < 12
      · rw [if_pos h2]
        by_cases h3 : q < 4
        · rw [if_pos h3]; exact ⟨fun _ => by omega, fun _ => by omega⟩
        · rw [if_neg h3]; exact ⟨fun _ => by omega, fun _ => by omega⟩
      · rw [if_neg h2]; exact ⟨fun _ => by omega, fun _ => by omega⟩
def EqC (R R' : Mem) : Prop := ∀ j q, cry j q → R' j q = R j q
/-- a snapshot laid out -/
def UN (t : Nat → Int32) : Mem := fun j q => t (ipos j q)
theorem M3_n {M : Mem} {a tk : Int32} {j q : Nat} (h : ¬ (j = 0 ∧ 36 ≤ q ∧ q ≤ 38)) : M3 M a tk j q = M j q := by
  unfold M3
  rw [up2_n _ _ (by omega), up2_n _ _ (by omega), up2_n _ _ (by omega)]
theorem take_n {M : Mem} {a : Int32} {j q : Nat} (h : ¬ (j = kR a ∧ q < 148)) (h2 : ¬ (j = 0 ∧ 36 ≤ q ∧ q ≤ 38)) : f_X7_carryAll M a 1 j q = M j q := by
  rw [carryAll_take M a 1 (by decide)]
  unfold TK
  rw [if_neg h, if_neg (by omega)]
  exact M3_n h2
theorem take_s {M : Mem} {a : Int32} {j q : Nat} (h : cry j q) : f_X7_carryAll M a 1 (kR a) (ipos j q) = M j q := by
  rw [carryAll_take M a 1 (by decide)]
  unfold TK
  rw [if_pos ⟨rfl, h⟩, pos_ipos h]
  refine M3_n ?_
  rw [cry_iff] at h
  omega
theorem give_n {M : Mem} {a : Int32} {j q : Nat} (h : ¬ cry j q) (h2 : ¬ (j = 0 ∧ 36 ≤ q ∧ q ≤ 38)) : f_X7_carryAll M a 0 j q = M j q := by
  rw [carryAll_give M a]
  unfold GV
  rw [if_neg (show ¬ ipos j q < 148 from h), if_neg (by omega)]
  exact M3_n h2
theorem give_s {M : Mem} {a : Int32} {j q : Nat} (h : cry j q) : f_X7_carryAll M a 0 j q = M (kR a) (ipos j q) := by
  rw [carryAll_give M a]
  unfold GV
  rw [if_pos (show ipos j q < 148 from h)]
  refine M3_n ?_
  have := kR_or a
  omega
theorem Wv_congr {n : Nat} {t t' : Nat → Int32} (hn : n ≤ 100) (ht : ∀ j, j < n → t' j = t j) (hV : OKL n t) (a1 a2 : Int32) : Wv n t' a1 a2 = Wv n t a1 a2 :=
  (windBy_m (R := Rcan n t') ⟨hn, rfl, ht⟩ hV a1 a2).1
theorem OKL_congr {n : Nat} {t t' : Nat → Int32} (ht : ∀ j, j < n → t' j = t j) (h : OKL n t) : OKL n t' := h.imp id (fun h => ⟨VL_congr n 0 true 0 (fun j hj => (ht j (by omega)).symm) h.1, D3_congr n 0 0 (fun j hj => (ht j (by omega)).symm) h.2⟩)
theorem WL_t {C : Mem} {a n : Nat} {t t' : Nat → Int32} {s : Int32} (ht : ∀ j, j < n → t' j = t j) (hV : OKL n t) (h : WL C a n t s) : WL C a n t' s := by
  obtain ⟨⟨e1, S, e2, e3, e4, e5⟩, f1, f2⟩ := h
  exact ⟨⟨e1, S, e2, e3, e4, fun a1 a2 => by rw [Wv_congr e1 ht hV]; exact e5 a1 a2⟩, f1, fun q hq => by rw [Wv_congr e1 ht hV]; exact f2 q hq⟩
def RNG (R : Mem) : Prop := (40 ≤ (R 0 0).toInt ∧ (R 0 0).toInt ≤ 400) ∧ (0 ≤ (R 0 1).toInt ∧ (R 0 1).toInt ≤ 3)
def GS (C R : Mem) (o a : Nat) : Prop := ∃ n s ln, n ≤ 4 ∧ RX none C R o a n ∧ C o 2 = nI s ∧ R 0 7 = nI s ∧ s ≤ 400 ∧ RW R ln (R 1) ∧ OKL ln (R 1) ∧ WL C a ln (R 1) (R 0 4) ∧ RNG R
theorem KN_of {C R C' R' : Mem} {b i : Nat} (h : KN C R b i) (hC : ∀ q, q ≤ 1 → C' (b + 12) q = C (b + 12) q) (hR : ∀ j, j = 2 ∨ j = 5 → R' j i = R j i) : KN C' R' b i := by
  obtain ⟨e1, e2, e3, e4⟩ := h
  exact ⟨by rw [hC _ (by omega), hR _ (by omega)]; exact e1, by rw [hC _ (by omega), hR _ (by omega)]; exact e2, by rw [hR _ (by omega)]; exact e3, by rw [hR _ (by omega)]; exact e4⟩
theorem RXn_of {C R C' R' : Mem} {o a n : Nat} (hn : n ≤ 4) (h : RX none C R o a n) (h1 : C' o 1 = C o 1) (hb : ∀ i q, i < 4 → 1 ≤ q → q ≤ 8 → C' (4 * (o + 3) - 45 + i) q = C (4 * (o + 3) - 45 + i) q) (hs : ∀ i q, i < 4 → q ≤ 2 → C' (4 * (o + 3) - 45 + i + 12) q = C (4 * (o + 3) - 45 + i + 12) q)
    (ha : ∀ q, q ≤ 3 → C' a q = C a q) (hR : EqC R R') : RX none C' R' o a n := by
  obtain ⟨e1, e2, e3, e4⟩ := h
  refine ⟨by rw [h1]; exact e1, by rw [hR _ _ (cry_iff.mpr (by omega))]; exact e2, BY_of e3 ha (fun q hq => hR _ _ (cry_iff.mpr (by omega))), fun i hi => ?_⟩
  obtain ⟨b1, b2, b3⟩ := e4 i hi
  exact ⟨BX_of b1 (fun q p1 p2 => hb i q (by omega) (by omega) p2) (fun j p1 p2 => hR _ _ (cry_iff.mpr (by omega))), BS_of b2 (fun q p1 p2 => hb i q (by omega) (by omega) (by omega)) (hs i 2 (by omega) (by omega)) (fun j p1 p2 => hR _ _ (cry_iff.mpr (by omega))),
    KN_of b3 (fun q p => hs i q (by omega) (by omega)) (fun j p => hR _ _ (cry_iff.mpr (by omega)))⟩
theorem GS_of {C R C' R' : Mem} {o a : Nat} (h : GS C R o a) (h1 : ∀ q, q = 1 ∨ q = 2 → C' o q = C o q) (hb : ∀ i q, i < 4 → 1 ≤ q → q ≤ 8 → C' (4 * (o + 3) - 45 + i) q = C (4 * (o + 3) - 45 + i) q) (hs : ∀ i q, i < 4 → q ≤ 2 → C' (4 * (o + 3) - 45 + i + 12) q = C (4 * (o + 3) - 45 + i + 12) q)
    (ha : ∀ q, q ≤ 3 → C' a q = C a q) (hR : EqC R R') (hW : ∀ ln t sd, OKL ln t → WL C a ln t sd → WL C' a ln t sd) : GS C' R' o a := by
  obtain ⟨n, s, ln, g1, g2, g3, g4, g5, g6, g7, g8, g9⟩ := h
  have ht : ∀ j, j < ln → R' 1 j = R 1 j := fun j hj => hR _ _ (cry_iff.mpr (by have := g6.1; omega))
  refine ⟨n, s, ln, g1, RXn_of g1 g2 (h1 1 (by omega)) hb hs ha hR, by rw [h1 2 (by omega)]; exact g3, by rw [hR _ _ (cry_iff.mpr (by omega))]; exact g4, g5, ⟨g6.1, by rw [hR _ _ (cry_iff.mpr (by omega))]; exact g6.2.1, fun j _ => rfl⟩, OKL_congr ht g7, ?_, ?_⟩
  · rw [hR 0 4 (cry_iff.mpr (by omega))]
    exact WL_t ht g7 (hW _ _ _ g7 g8)
  · obtain ⟨r1, r2⟩ := g9
    exact ⟨by rw [hR _ _ (cry_iff.mpr (by omega))]; exact r1, by rw [hR _ _ (cry_iff.mpr (by omega))]; exact r2⟩
theorem GS_R {C R R' : Mem} {o a : Nat} (h : GS C R o a) (hR : EqC R R') : GS C R' o a := GS_of h (fun _ _ => rfl) (fun _ _ _ _ _ => rfl) (fun _ _ _ _ => rfl) (fun _ _ => rfl) hR (fun _ _ _ _ h => h)
/-- the class's cells of a race and its bay -/
def cel (o a j q : Nat) : Prop := (j = o ∧ (q = 1 ∨ q = 2)) ∨ (4 * (o + 3) - 45 ≤ j ∧ j < 4 * (o + 3) - 45 + 4 ∧ 1 ≤ q ∧ q ≤ 8) ∨ (4 * (o + 3) - 45 + 12 ≤ j ∧ j < 4 * (o + 3) - 45 + 16 ∧ q ≤ 2) ∨ (j = a ∧ q ≤ 4) ∨ (j = a + 3 ∧ q = 1) ∨ j = a + 9 ∨ j = a + 6
theorem GS_C {C R C' : Mem} {o a : Nat} (h : GS C R o a) (hC : ∀ j q, cel o a j q → C' j q = C j q) : GS C' R o a :=
  GS_of h (fun q p => hC _ _ (by unfold cel; omega)) (fun i q p1 p2 p3 => hC _ _ (by unfold cel; omega)) (fun i q p1 p2 => hC _ _ (by unfold cel; omega)) (fun q p => hC _ _ (by unfold cel; omega)) (fun _ _ _ => rfl)
    (fun ln t sd _ h => WL_of h (hC _ _ (by unfold cel; omega)) (fun q => hC _ _ (by unfold cel; omega)) (hC _ _ (by unfold cel; omega)) (fun q => hC _ _ (by unfold cel; omega)))
def SH1 (C R : Mem) (d : Nat) : Prop := C (44 + d) 0 = R 23 d ∧ (R 23 d = 0 ∨ R 23 d = 1 ∨ R 23 d = 2) ∧ (0 ≤ (C (44 + d) 3).toInt ∧ (C (44 + d) 3).toInt ≤ 100) ∧
  (R 23 d = 1 → C (52 + d) 0 = R 24 d ∧ C (52 + d) 1 = R 25 d ∧ C (52 + d) 2 = R 26 d ∧ (0 ≤ (R 24 d).toInt ∧ (R 24 d).toInt ≤ 7) ∧ (0 ≤ (R 25 d).toInt ∧ (R 25 d).toInt ≤ 40)) ∧
  (R 23 d = 2 → C (44 + d) 2 = R 27 d ∧ (R 27 d = 0 ∨ R 27 d = 1 ∨ R 27 d = 2) ∧ C (44 + d) 3 = R 28 d ∧ ∀ k, k < 100 → C (60 + d) k = R 29 (100 * d + k) ∧ (R 27 d = 0 → -128 ≤ (R 29 (100 * d + k)).toInt ∧ (R 29 (100 * d + k)).toInt ≤ 127))
theorem SH_of {C R C' R' : Mem} {d : Nat} (h : SH1 C R d) (hC : ∀ j q, j = 44 + d ∨ j = 52 + d ∨ j = 60 + d → C' j q = C j q) (hR : ∀ j, 23 ≤ j → j ≤ 28 → R' j d = R j d) (hR2 : ∀ k, k < 100 → R' 29 (100 * d + k) = R 29 (100 * d + k)) : SH1 C' R' d := by
  obtain ⟨e1, e2, e3, e4, e5⟩ := h
  have r23 := hR 23 (by omega) (by omega)
  have r24 := hR 24 (by omega) (by omega)
  have r25 := hR 25 (by omega) (by omega)
  have r26 := hR 26 (by omega) (by omega)
  have r27 := hR 27 (by omega) (by omega)
  have r28 := hR 28 (by omega) (by omega)
  unfold SH1
  rw [r23, r24, r25, r26, r27, r28, hC (44 + d) 0 (by omega), hC (44 + d) 2 (by omega), hC (44 + d) 3 (by omega), hC (52 + d) 0 (by omega), hC (52 + d) 1 (by omega), hC (52 + d) 2 (by omega)]
  refine ⟨e1, e2, e3, e4, fun h2 => ?_⟩
  obtain ⟨f1, f2, f3, f4⟩ := e5 h2
  exact ⟨f1, f2, f3, fun k hk => by rw [hC (60 + d) k (by omega), hR2 k hk]; exact f4 k hk⟩
def IMG (C R : Mem) : Prop := (b01 (C 0 4) = 0 ↔ b01 (R 0 35) = 0) ∧ (¬ b01 (R 0 35) = 0 → GS C (UN (R 21)) 14 2)
def lnO (R : Mem) : Nat := (R 0 5).toNatClampNeg
def Core (C R : Mem) : Prop := GS C R 13 1 ∧ WI R (lnO R) (R 1) ∧ IMG C R ∧ ∀ d, d < 8 → SH1 C R d
theorem WI_of {R R' : Mem} {n : Nat} {t : Nat → Int32} (h : WI R n t) (h1 : R' 0 29 = R 0 29) (h2 : R' 0 30 = R 0 30) (h3 : ∀ q, R' 17 q = R 17 q) : WI R' n t := fun g q hq => by rw [h2, h3]; exact h (by rw [← h1]; exact g) q hq
theorem GS_ln {C R : Mem} {o a : Nat} (h : GS C R o a) : RW R (lnO R) (R 1) ∧ OKL (lnO R) (R 1) := by
  obtain ⟨n, s, ln, g1, g2, g3, g4, g5, g6, g7, g8, g9⟩ := h
  have : lnO R = ln := by unfold lnO; rw [g6.2.1, nI_clamp (by have := g6.1; omega)]
  rw [this]
  exact ⟨g6, g7⟩
/-- the reference changed where it doesn't matter -/
theorem Core_R {C R R' : Mem} (h : Core C R) (hR : EqC R R') (hW : WI R' (lnO R) (R 1)) (h35 : R' 0 35 = R 0 35) (h21 : ∀ q, R' 21 q = R 21 q) (hS : ∀ j q, 23 ≤ j → j ≤ 29 → R' j q = R j q) : Core C R' := by
  obtain ⟨e1, e2, e3, e4⟩ := h
  have hl : lnO R' = lnO R := by unfold lnO; rw [hR _ _ (cry_iff.mpr (by omega))]
  obtain ⟨l1, l2⟩ := GS_ln e1
  refine ⟨GS_R e1 hR, fun g q hq => ?_, ⟨by rw [h35]; exact e3.1, fun g => ?_⟩, fun d hd => SH_of (e4 d hd) (fun _ _ _ => rfl) (fun j p1 p2 => hS _ _ p1 (by omega)) (fun k hk => hS _ _ (by omega) (by omega))⟩
  · rw [hl, Wv_congr l1.1 (fun j hj => hR _ _ (cry_iff.mpr (by have := l1.1; omega))) l2]
    exact hW g q hq
  · rw [h35] at g
    exact GS_R (e3.2 g) (fun j q hc => h21 _)
theorem Core_19 {C R : Mem} (h : Core C R) (v : Int32) : Core C (up2 R 0 19 v) := Core_R h (fun j q hc => up2_n _ _ (by rw [cry_iff] at hc; omega)) (WI_of h.2.1 (up2_n _ _ (by omega)) (up2_n _ _ (by omega)) (fun q => up2_n _ _ (by omega))) (up2_n _ _ (by omega)) (fun q => up2_n _ _ (by omega)) (fun j q p1 p2 => up2_n _ _ (by omega))
/-- the class changed in its own race and bay, or in mind -/
theorem Core_C {C R C' : Mem} (h : Core C R) (hG : GS C' R 13 1) (h4 : C' 0 4 = C 0 4) (hi : ∀ j q, cel 14 2 j q → C' j q = C j q) (hS : ∀ j q, 44 ≤ j ∧ j ≤ 67 → C' j q = C j q) : Core C' R := by
  obtain ⟨e1, e2, e3, e4⟩ := h
  exact ⟨hG, e2, ⟨by rw [h4]; exact e3.1, fun g => GS_C (e3.2 g) hi⟩, fun d hd => SH_of (e4 d hd) (fun j q p => hS _ _ (by omega)) (fun _ _ _ => rfl) (fun _ _ => rfl)⟩
theorem kR1 : kR 1 = 20 := by decide
theorem kR2 : kR 2 = 21 := by decide
