/-! a second, both sides -/
theorem about_fr {C : Mem} {b : Nat} {c : Int32} {j q : Nat} (h : ¬ (j = b ∧ 3 ≤ q ∧ q ≤ 8)) : f_X1_comeAbout C b c j q = C j q := by
  unfold f_X1_comeAbout
  simp only [bnd]
  rw [up2_n _ _ (by omega), up2_n _ _ (by omega), up2_n _ _ (by omega)]
theorem turnOne_fr {R : Mem} {i : Nat} (hi : i < 4) {j q : Nat} (h : ¬ (q = i ∧ 6 ≤ j ∧ j ≤ 11)) : f_X7_turnOne R (nI i) j q = R j q := by
  unfold f_X7_turnOne
  simp only [bnd]
  rw [nI_clamp (by omega), up2_n _ _ (by omega), up2_n _ _ (by omega), up2_n _ _ (by omega)]
theorem about_sim {C R : Mem} {b i : Nat} {c : Int32} (hi : i < 4) (hB : BX C R b i) (hc : c = R 0 3) : BX (f_X1_comeAbout C b c) (f_X7_turnOne R (nI i)) b i := by
  obtain ⟨e3, e4, e5, e6, e7, e8, hx, hin⟩ := hB
  unfold f_X1_comeAbout f_X7_turnOne
  simp only [bnd]
  rw [nI_clamp (by omega)]
  refine ⟨?_, ?_, ?_, ?_, ?_, ?_, ?_, ?_⟩
  · rw [up2_n _ _ (by omega), up2_n _ _ (by omega), up2_n _ _ (by omega), up2_n _ _ (by omega), up2_n _ _ (by omega), up2_n _ _ (by omega)]; exact e3
  · rw [up2_n _ _ (by omega), up2_n _ _ (by omega), up2_n _ _ (by omega), up2_n _ _ (by omega), up2_n _ _ (by omega), up2_n _ _ (by omega)]; exact e4
  · rw [up2_n _ _ (by omega), up2_n _ _ (by omega), up2_s, up2_n _ _ (by omega), up2_n _ _ (by omega), up2_s]
    rcases WY0 e5 with ⟨w1, _, w2⟩ | ⟨w1, _, w2⟩
    · rw [if_neg (not_not_intro w1), w2]; exact Or.inl ⟨rfl, by decide⟩
    · rw [if_pos w1, w2]; exact Or.inr ⟨rfl, rfl⟩
  · rw [up2_n _ _ (by omega), up2_s, up2_n _ _ (by omega), up2_s, up2_n _ _ (by omega)]; exact hc
  · rw [up2_n _ _ (by omega), up2_n _ _ (by omega), up2_n _ _ (by omega), up2_n _ _ (by omega), up2_n _ _ (by omega), up2_n _ _ (by omega)]; exact e7
  · rw [up2_s, up2_s, up2_n _ _ (by omega), up2_n _ _ (by omega), up2_n _ _ (by omega), up2_n _ _ (by omega), e8]
  · rw [up2_n _ _ (by omega), up2_n _ _ (by omega), up2_n _ _ (by omega)]; exact hx
  · rw [up2_n _ _ (by omega), up2_n _ _ (by omega), up2_n _ _ (by omega)]; exact hin
/-! the reference's loops -/
def gB (k : Nat) (M : Mem) : Mem := up2 M 18 k (if f_X7_isBad M (nI k) = 0 then 0 else 1)
def gM (k : Nat) (M : Mem) : Mem := if ¬ f_X7_isIn M (nI k) = 0 then M else f_X7_moveOne M (nI k) (M 17 (M 0 7).toNatClampNeg)
theorem gM_fr {M : Mem} {k : Nat} (hk : k < 4) {j q : Nat} (h : ¬ (q = k ∧ 6 ≤ j ∧ j ≤ 11)) : gM k M j q = M j q := by
  unfold gM
  exact ite_fr rfl (move_fr hk h)
theorem moveAll_rep {R : Mem} {n : Nat} (hn : n ≤ 4) (h8 : R 0 8 = nI n) : f_X7_moveAll R = up2 (rep gM n (rep gB n R)) 0 7 ((rep gM n (rep gB n R)) 0 7 + 1) := by
  have s1 : lp_X7_moveAll_2 5 R 0 = rep gB n R := by
    refine lp_rep0 (lp := fun f M w => lp_X7_moveAll_2 f M w) (Q := fun M => M 0 8 = nI n) (by omega) h8 ?_ ?_ ?_
    · intro f k M hk hQ
      rw [lp_X7_moveAll_2, hQ, if_neg (nIgo hn hk)]
      simp only [bnd]
      rw [nI_clamp (by omega), nI_1]
      rfl
    · intro f M hQ
      rw [lp_X7_moveAll_2, hQ, if_pos (nIstop hn)]
    · intro k M hk hQ
      show up2 M _ _ _ 0 8 = _
      rw [up2_n _ _ (by omega)]; exact hQ
  have q1 : (rep gB n R) 0 8 = nI n := (rep_ind (g := gB) (n := n) (M := R) (S := fun k M => M 0 8 = nI n) (fun k M _ hS => by show up2 M _ _ _ 0 8 = _; rw [up2_n _ _ (by omega)]; exact hS) h8 n (Nat.le_refl _))
  have s2 : lp_X7_moveAll_37 5 (rep gB n R) 0 = rep gM n (rep gB n R) := by
    refine lp_rep0 (lp := fun f M w => lp_X7_moveAll_37 f M w) (Q := fun M => M 0 8 = nI n) (by omega) q1 ?_ ?_ ?_
    · intro f k M hk hQ
      rw [lp_X7_moveAll_37, hQ, if_neg (nIgo hn hk)]
      simp only [bnd]
      rw [nI_1]
      rfl
    · intro f M hQ
      rw [lp_X7_moveAll_37, hQ, if_pos (nIstop hn)]
    · intro k M hk hQ
      show gM k M 0 8 = _
      rw [gM_fr (by omega) (by omega)]; exact hQ
  unfold f_X7_moveAll
  simp only [bnd]
  rw [s1, s2]
theorem BAD_congr {M R : Mem} {n i : Nat} (h : ∀ j q, j = 6 ∨ j = 7 ∨ j = 10 → M j q = R j q) : BAD M n i ↔ BAD R n i := by
  unfold BAD FL
  have e6 : ∀ q, M 6 q = R 6 q := fun q => h 6 q (by omega)
  have e7 : ∀ q, M 7 q = R 7 q := fun q => h 7 q (by omega)
  have e10 : ∀ q, M 10 q = R 10 q := fun q => h 10 q (by omega)
  simp only [e6, e7, e10]
theorem gB_ok {R : Mem} {n : Nat} (hn : n ≤ 4) (h8 : R 0 8 = nI n) (hin : ∀ i, i < n → R 10 i = -4 ∨ 0 ≤ (R 10 i).toInt) :
    (∀ j q, ¬ j = 18 → rep gB n R j q = R j q) ∧ ∀ i, i < n → (rep gB n R 18 i = 0 ∧ ¬ BAD R n i) ∨ (rep gB n R 18 i = 1 ∧ BAD R n i) := by
  have key := rep_ind (g := gB) (n := n) (M := R) (S := fun k M => (∀ j q, ¬ j = 18 → M j q = R j q) ∧ ∀ i, i < k → (M 18 i = 0 ∧ ¬ BAD R n i) ∨ (M 18 i = 1 ∧ BAD R n i)) (fun k M hk hS => by
    obtain ⟨s1, s2⟩ := hS
    have hb := isBad_iff (R := M) (i := k) hn (by rw [s1 _ _ (by omega)]; exact h8) hk (fun o ho => by rw [s1 _ _ (by omega)]; exact hin o ho)
    rw [BAD_congr (R := R) (fun j q hj => s1 j q (by omega))] at hb
    refine ⟨fun j q hj => by show up2 M _ _ _ j q = _; rw [up2_n _ _ (by omega)]; exact s1 j q hj, fun i hi => ?_⟩
    show (up2 M _ _ _ 18 i = 0 ∧ _) ∨ (up2 M _ _ _ 18 i = 1 ∧ _)
    by_cases e : i = k
    · subst e
      rw [up2_s]
      by_cases hz : f_X7_isBad M (nI i) = 0
      · rw [if_pos hz]; exact Or.inl ⟨rfl, hb.mp hz⟩
      · rw [if_neg hz]; exact Or.inr ⟨rfl, Classical.not_not.mp (fun q => hz (hb.mpr q))⟩
    · rw [up2_n _ _ (by omega)]; exact s2 i (by omega)) ⟨fun _ _ _ => rfl, fun i hi => by omega⟩ n (Nat.le_refl _)
  exact key
/-! the class's loops -/
def gS (o a : Nat) (w : Int32) (k : Nat) (M : Mem) : Mem := f_X1_sail M (4 * (o + 3) - 45 + k) a w (M o 2)
theorem sail_rep {C : Mem} {o a n : Nat} {w : Int32} (hg : geo o a n) (h1 : C o 1 = nI n) : lp_X3_step_17 5 o a w C 0 = rep (gS o a w) n C := by
  obtain ⟨⟨g1, g2⟩, ⟨g3, g4⟩, g5⟩ := hg
  refine lp_rep0 (lp := fun f M v => lp_X3_step_17 f o a w M v) (Q := fun M => M o 1 = nI n) (by omega) h1 ?_ ?_ ?_
  · intro f k M hk hQ
    rw [lp_X3_step_17, hQ, if_neg (nIgo g5 hk), if_neg (nI4 (by omega))]
    simp only [bnd]
    rw [nI_clamp (by omega), nI_1]
    rfl
  · intro f M hQ
    rw [lp_X3_step_17, hQ, if_pos (nIstop g5)]
  · intro k M hk hQ
    show f_X1_sail M _ _ _ _ o 1 = _
    rw [sail_fr (by omega)]; exact hQ
def tC (o a : Nat) (w : Int32) (k : Nat) (M : Mem) : Int32 := if f_X1_canTurn M (4 * (o + 3) - 45 + k) a = 0 then 0 else (if ¬ f_X1_goesOut M (4 * (o + 3) - 45 + k) = 0 then 1 else (if f_X3_wantsToTurn M o (4 * (o + 3) - 45 + k) a w = 0 then 0 else 1))
def gW (o a : Nat) (w : Int32) (k : Nat) (M : Mem) : Mem := up2 M (4 * (o + 3) - 45 + k) 10 (tC o a w k M)
theorem will_rep {C : Mem} {o a n : Nat} {w : Int32} (hg : geo o a n) (h1 : C o 1 = nI n) : lp_X3_step_65 5 o a w C 0 = rep (gW o a w) n C := by
  obtain ⟨⟨g1, g2⟩, ⟨g3, g4⟩, g5⟩ := hg
  refine lp_rep0 (lp := fun f M v => lp_X3_step_65 f o a w M v) (Q := fun M => M o 1 = nI n) (by omega) h1 ?_ ?_ ?_
  · intro f k M hk hQ
    rw [lp_X3_step_65, hQ, if_neg (nIgo g5 hk), if_neg (nI4 (by omega))]
    simp only [bnd]
    rw [nI_clamp (by omega), nI_1]
    rfl
  · intro f M hQ
    rw [lp_X3_step_65, hQ, if_pos (nIstop g5)]
  · intro k M hk hQ
    show up2 M _ _ _ o 1 = _
    rw [up2_n _ _ (by omega)]; exact hQ
def gA (o a : Nat) (k : Nat) (M : Mem) : Mem := if b01 (M (4 * (o + 3) - 45 + k) 10) = 0 then M else f_X1_comeAbout M (4 * (o + 3) - 45 + k) (M a 3)
theorem about_rep {C : Mem} {o a n : Nat} (hg : geo o a n) (h1 : C o 1 = nI n) : lp_X3_step_140 5 o a C 0 = rep (gA o a) n C := by
  obtain ⟨⟨g1, g2⟩, ⟨g3, g4⟩, g5⟩ := hg
  refine lp_rep0 (lp := fun f M v => lp_X3_step_140 f o a M v) (Q := fun M => M o 1 = nI n) (by omega) h1 ?_ ?_ ?_
  · intro f k M hk hQ
    rw [lp_X3_step_140, hQ, if_neg (nIgo g5 hk), if_neg (nI4 (by omega))]
    simp only [bnd]
    rw [nI_clamp (by omega), nI_1]
    rfl
  · intro f M hQ
    rw [lp_X3_step_140, hQ, if_pos (nIstop g5)]
  · intro k M hk hQ
    show gA o a k M o 1 = _
    unfold gA
    refine ite_fr hQ ?_
    rw [about_fr (by omega)]; exact hQ
/-! the reference's turns -/
def tM (g : Option Nat) (k : Nat) (M : Mem) : Int32 := if f_X7_mayTurn M (nI k) = 0 then 0 else (if ¬ f_X7_isOut M (nI k) = 0 then 1 else (if (match g with | none => f_X7_turnsByKind M (nI k) | some _ => f_X7_isBitTime M (nI k)) = 0 then 0 else 1))
def gN (g : Option Nat) (k : Nat) (M : Mem) : Mem := up2 M 19 k (tM g k M)
def lpT (g : Option Nat) : Nat → Mem → Int32 → Mem := match g with | none => lp_X7_raceOn_6 | some _ => lp_X7_bitsOn_6
theorem willM_rep {g : Option Nat} {R : Mem} {n : Nat} (hn : n ≤ 4) (h8 : R 0 8 = nI n) : lpT g 5 R 0 = rep (gN g) n R := by
  refine lp_rep0 (lp := fun f M v => lpT g f M v) (Q := fun M => M 0 8 = nI n) (by omega) h8 ?_ ?_ ?_
  · intro f k M hk hQ
    cases g with
    | none =>
      show lp_X7_raceOn_6 (f + 1) M (nI k) = lp_X7_raceOn_6 f (gN none k M) (nI (k + 1))
      rw [lp_X7_raceOn_6, hQ, if_neg (nIgo hn hk)]
      simp only [bnd]
      rw [nI_clamp (by omega), nI_1]
      rfl
    | some m =>
      show lp_X7_bitsOn_6 (f + 1) M (nI k) = lp_X7_bitsOn_6 f (gN (some m) k M) (nI (k + 1))
      rw [lp_X7_bitsOn_6, hQ, if_neg (nIgo hn hk)]
      simp only [bnd]
      rw [nI_clamp (by omega), nI_1]
      rfl
  · intro f M hQ
    cases g with
    | none =>
      show lp_X7_raceOn_6 (f + 1) M (nI n) = M
      rw [lp_X7_raceOn_6, hQ, if_pos (nIstop hn)]
    | some m =>
      show lp_X7_bitsOn_6 (f + 1) M (nI n) = M
      rw [lp_X7_bitsOn_6, hQ, if_pos (nIstop hn)]
  · intro k M hk hQ
    show up2 M _ _ _ 0 8 = _
    rw [up2_n _ _ (by omega)]; exact hQ
def gZ (k : Nat) (M : Mem) : Mem := if ¬ M 19 k = 1 then M else f_X7_turnOne M (nI k)
theorem turnAll_rep {R : Mem} {n : Nat} (hn : n ≤ 4) (h8 : R 0 8 = nI n) : f_X7_turnAll R = rep gZ n R := by
  unfold f_X7_turnAll
  simp only [bnd]
  refine lp_rep0 (lp := fun f M v => lp_X7_turnAll_2 f M v) (Q := fun M => M 0 8 = nI n) (by omega) h8 ?_ ?_ ?_
  · intro f k M hk hQ
    rw [lp_X7_turnAll_2, hQ, if_neg (nIgo hn hk)]
    simp only [bnd]
    rw [nI_clamp (by omega), nI_1]
    rfl
  · intro f M hQ
    rw [lp_X7_turnAll_2, hQ, if_pos (nIstop hn)]
  · intro k M hk hQ
    show gZ k M 0 8 = _
    unfold gZ
    refine ite_fr hQ ?_
    rw [turnOne_fr (by omega) (by omega)]; exact hQ
def refOn (g : Option Nat) (R : Mem) : Mem := match g with | none => f_X7_raceOn R | some _ => f_X7_bitsOn R
theorem refOn_eq {g : Option Nat} {R : Mem} : refOn g R = f_X7_turnAll (lpT g 5 (f_X7_moveAll R) 0) := by cases g <;> rfl
/-! the simulation -/
theorem sails_sim {g : Option Nat} {C R : Mem} {o a n s : Nat} {w : Int32} (hg : geo o a n) (h : RX g C R o a n) (hs : s < 400) (h2 : C o 2 = nI (s + 1)) (h7 : R 0 7 = nI s) (hw : w = R 17 s) (hbad : ∀ i, i < n → b01 (C (4 * (o + 3) - 45 + i) 9) = R 18 i) :
    RX g (rep (gS o a w) n C) (rep gM n R) o a n ∧ (∀ j q, ¬ (4 * (o + 3) - 45 ≤ j ∧ j < 4 * (o + 3) - 45 + n ∧ 3 ≤ q ∧ q ≤ 7) → rep (gS o a w) n C j q = C j q) ∧ (∀ j q, ¬ (6 ≤ j ∧ j ≤ 11) → rep gM n R j q = R j q) := by
  have hg' := hg
  obtain ⟨⟨g1, g2⟩, ⟨g3, g4⟩, g5⟩ := hg
  have key := rep_sim (g := gS o a w) (g' := gM) (n := n) (M := C) (M' := R) (S := fun k X Y => RX g X Y o a n ∧ (∀ j q, ¬ (4 * (o + 3) - 45 ≤ j ∧ j < 4 * (o + 3) - 45 + n ∧ 3 ≤ q ∧ q ≤ 7) → X j q = C j q) ∧ (∀ j q, ¬ (6 ≤ j ∧ j ≤ 11) → Y j q = R j q)) (fun k X Y hk hS => by
    obtain ⟨s1, s2, s3⟩ := hS
    have eX : ∀ j q, ¬ (j = 4 * (o + 3) - 45 + k ∧ 3 ≤ q ∧ q ≤ 7) → gS o a w k X j q = X j q := fun j q h => sail_fr h
    have eY : ∀ j q, ¬ (q = k ∧ 6 ≤ j ∧ j ≤ 11) → gM k Y j q = Y j q := fun j q h => gM_fr (by omega) h
    refine ⟨RX_one hg' s1 (fun j q h => eX j q (by omega)) (fun j q h _ _ => eY j q h) hk ?_, fun j q hj => by rw [eX j q (by omega)]; exact s2 j q hj, fun j q hj => by rw [eY j q (by omega)]; exact s3 j q hj⟩
    have hy7 : Y 0 7 = nI s := by rw [s3 _ _ (by omega)]; exact h7
    have hx2 : X o 2 = nI (s + 1) := by rw [s2 _ _ (by omega)]; exact h2
    have hww : Y 17 (Y 0 7).toNatClampNeg = w := by rw [hy7, nI_clamp (by omega), s3 _ _ (by omega)]; exact hw.symm
    show BX (f_X1_sail X _ a w (X o 2)) (gM k Y) _ k
    unfold gM
    rw [hww]
    obtain ⟨q0, q1, q2, q3⟩ := s1.2.2.1
    exact sail_sim (by omega) (by omega) (s1.2.2.2 k hk).1 q0 q1 q2 (by rw [s2 _ _ (by omega), s3 _ _ (by omega)]; exact hbad k hk) (by rw [hx2, hy7, nI_1]) (by rw [hx2, nI_toInt (by omega)]; omega)) ⟨h, fun _ _ _ => rfl, fun _ _ _ => rfl⟩ n (Nat.le_refl _)
  exact key
theorem t_eq {g : Option Nat} {C R : Mem} {o a n k s : Nat} {w : Int32} (hg : geo o a n) (h : RX g C R o a n) (hk : k < n) (hs : s ≤ 400) (h2 : C o 2 = nI s) (h7 : R 0 7 = nI s) (hw : w = R 17 s) (hbad : b01 (C (4 * (o + 3) - 45 + k) 9) = 0 ↔ ¬ BAD R n k) (hp : pre g s) : tC o a w k C = tM g k R := by
  have hB := (h.2.2.2 k hk).1
  have k4 : k < 4 := Nat.lt_of_lt_of_le hk hg.2.2
  unfold tC tM
  rw [canTurn_eq k4 hB h.2.2.1.1, goesOut_eq k4 hB]
  have hz : ∀ x y : Int32, (x = 0 ↔ y = 0) → (if x = 0 then (0 : Int32) else 1) = if y = 0 then 0 else 1 := fun x y e => by
    by_cases hx : x = 0
    · rw [if_pos hx, if_pos (e.mp hx)]
    · rw [if_neg hx, if_neg (fun q => hx (e.mpr q))]
  cases g with
  | none => rw [hz _ _ (wants_N hg h hk hs h2 h7 hw hbad)]
  | some m => rw [hz _ _ (wants_B hg h hk hs h2 h7 hp)]
theorem t01 {g : Option Nat} {k : Nat} {M : Mem} : tM g k M = 0 ∨ tM g k M = 1 := by
  unfold tM
  refine ite_P (P := fun x : Int32 => x = 0 ∨ x = 1) (fun _ => Or.inl rfl) (fun _ => ite_P (P := fun x : Int32 => x = 0 ∨ x = 1) (fun _ => Or.inr rfl) (fun _ => ite_P (P := fun x : Int32 => x = 0 ∨ x = 1) (fun _ => Or.inl rfl) (fun _ => Or.inr rfl)))
theorem wills_sim {g : Option Nat} {C R : Mem} {o a n s : Nat} {w : Int32} (hg : geo o a n) (h : RX g C R o a n) (hs : s ≤ 400) (h2 : C o 2 = nI s) (h7 : R 0 7 = nI s) (hw : w = R 17 s) (hbad : ∀ i, i < n → (b01 (C (4 * (o + 3) - 45 + i) 9) = 0 ↔ ¬ BAD R n i)) (hp : pre g s) :
    (∀ j q, ¬ (4 * (o + 3) - 45 ≤ j ∧ j < 4 * (o + 3) - 45 + n ∧ q = 10) → rep (gW o a w) n C j q = C j q) ∧ (∀ j q, ¬ j = 19 → rep (gN g) n R j q = R j q) ∧ ∀ i, i < n → (b01 (rep (gW o a w) n C (4 * (o + 3) - 45 + i) 10) = 0 ↔ ¬ rep (gN g) n R 19 i = 1) := by
  have hg' := hg
  obtain ⟨⟨g1, g2⟩, ⟨g3, g4⟩, g5⟩ := hg
  have key := rep_sim (g := gW o a w) (g' := gN g) (n := n) (M := C) (M' := R) (S := fun k X Y => (∀ j q, ¬ (4 * (o + 3) - 45 ≤ j ∧ j < 4 * (o + 3) - 45 + n ∧ q = 10) → X j q = C j q) ∧ (∀ j q, ¬ j = 19 → Y j q = R j q) ∧ ∀ i, i < k → (b01 (X (4 * (o + 3) - 45 + i) 10) = 0 ↔ ¬ Y 19 i = 1)) (fun k X Y hk hS => by
    obtain ⟨s1, s2, s3⟩ := hS
    have hXY : RX g X Y o a n := RX_R (RX_C hg' h (fun j q a b c d => s1 j q (by omega))) (fun j q a b c => s2 j q c)
    have ht := t_eq (w := w) hg' hXY hk hs (by rw [s1 _ _ (by omega)]; exact h2) (by rw [s2 _ _ (by omega)]; exact h7) (hw.trans (s2 17 s (by omega)).symm) (by rw [s1 _ _ (by omega), BAD_congr (R := R) (fun j q hj => s2 j q (by omega))]; exact hbad k hk) hp
    refine ⟨fun j q hj => by show up2 X _ _ _ j q = _; rw [up2_n _ _ (by omega)]; exact s1 j q hj, fun j q hj => by show up2 Y _ _ _ j q = _; rw [up2_n _ _ (by omega)]; exact s2 j q hj, fun i hi => ?_⟩
    show b01 (up2 X _ _ _ _ 10) = 0 ↔ ¬ up2 Y _ _ _ 19 i = 1
    by_cases e : i = k
    · subst e
      rw [up2_s, up2_s, ht]
      rcases t01 (g := g) (k := i) (M := Y) with q | q <;> rw [q] <;> decide
    · rw [up2_n _ _ (by omega), up2_n _ _ (by omega)]; exact s3 i (by omega)) ⟨fun _ _ _ => rfl, fun _ _ _ => rfl, fun i hi => by omega⟩ n (Nat.le_refl _)
  exact key
theorem abouts_sim {g : Option Nat} {C R : Mem} {o a n : Nat} (hg : geo o a n) (h : RX g C R o a n) (ht : ∀ i, i < n → (b01 (C (4 * (o + 3) - 45 + i) 10) = 0 ↔ ¬ R 19 i = 1)) :
    RX g (rep (gA o a) n C) (rep gZ n R) o a n ∧ (∀ j q, ¬ (4 * (o + 3) - 45 ≤ j ∧ j < 4 * (o + 3) - 45 + n ∧ 3 ≤ q ∧ q ≤ 8) → rep (gA o a) n C j q = C j q) ∧ (∀ j q, ¬ (6 ≤ j ∧ j ≤ 11) → rep gZ n R j q = R j q) := by
  have hg' := hg
  obtain ⟨⟨g1, g2⟩, ⟨g3, g4⟩, g5⟩ := hg
  have key := rep_sim (g := gA o a) (g' := gZ) (n := n) (M := C) (M' := R) (S := fun k X Y => RX g X Y o a n ∧ (∀ j q, ¬ (4 * (o + 3) - 45 ≤ j ∧ j < 4 * (o + 3) - 45 + n ∧ 3 ≤ q ∧ q ≤ 8) → X j q = C j q) ∧ (∀ j q, ¬ (6 ≤ j ∧ j ≤ 11) → Y j q = R j q)) (fun k X Y hk hS => by
    obtain ⟨s1, s2, s3⟩ := hS
    have hb : b01 (X (4 * (o + 3) - 45 + k) 10) = 0 ↔ ¬ Y 19 k = 1 := by rw [s2 _ _ (by omega), s3 _ _ (by omega)]; exact ht k hk
    show RX g (gA o a k X) (gZ k Y) o a n ∧ (∀ j q, _ → gA o a k X j q = C j q) ∧ (∀ j q, _ → gZ k Y j q = R j q)
    unfold gA gZ
    by_cases hc : b01 (X (4 * (o + 3) - 45 + k) 10) = 0
    · rw [if_pos hc, if_pos (hb.mp hc)]; exact ⟨s1, s2, s3⟩
    · rw [if_neg hc, if_neg (fun q => hc (hb.mpr q))]
      refine ⟨RX_one hg' s1 (fun j q h => about_fr (by omega)) (fun j q h _ _ => turnOne_fr (by omega) h) hk (about_sim (by omega) (s1.2.2.2 k hk).1 s1.2.2.1.2.2.2), fun j q hj => by rw [about_fr (by omega)]; exact s2 j q hj, fun j q hj => by rw [turnOne_fr (by omega) (by omega)]; exact s3 j q hj⟩) ⟨h, fun _ _ _ => rfl, fun _ _ _ => rfl⟩ n (Nat.le_refl _)
  exact key
theorem WL_of {C C' : Mem} {a n : Nat} {t : Nat → Int32} {s : Int32} (h : WL C a n t s) (h1 : C' (a + 3) 1 = C (a + 3) 1) (h2 : ∀ q, C' (a + 9) q = C (a + 9) q) (h3 : C' a 4 = C a 4) (h4 : ∀ q, C' (a + 6) q = C (a + 6) q) : WL C' a n t s := by
  obtain ⟨e1, e4, e5⟩ := h
  exact ⟨LW_of e1 h1 (fun q => by rw [show a + 3 + 6 = a + 9 by omega]; exact h2 q), by rw [h3]; exact e4, fun q hq => by rw [h4]; exact e5 q hq⟩
/-- a second of the class: both winds, then the step -/
def stepC (C : Mem) (o a : Nat) : Mem := f_X3_step (f_X0_windAt (f_X0_windAt C a (C o 2)).2 a ((f_X0_windAt C a (C o 2)).2 o 2 + 1)).2 o a (f_X0_windAt C a (C o 2)).1 (f_X0_windAt (f_X0_windAt C a (C o 2)).2 a ((f_X0_windAt C a (C o 2)).2 o 2 + 1)).1
theorem goOn_eq {n o a1 : Nat} {a2 v : Int32} {M : Mem} : lp_X3_goOn_2 (n + 1) o a1 a2 M v = if a2 ≤ v then M else if ¬ f_X3_hasEnded M o = 0 then M else lp_X3_goOn_2 n o a1 a2 (stepC M o a1) (v + 1) := by
  rw [lp_X3_goOn_2]
  unfold stepC
  simp only [bnd, bnd2]
theorem step_sim {g : Option Nat} {C R : Mem} {o a n s ln : Nat} {t : Nat → Int32} {sd : Int32} (hg : geo o a n) (h : RX g C R o a n) (hs : s < 400) (h2 : C o 2 = nI s) (h7 : R 0 7 = nI s) (hW : WL C a ln t sd) (hL : OKL ln t) (hR : ∀ q, q ≤ 400 → R 17 q = Wv ln t (nI q) sd) (hp : pre g (s + 1)) :
    RX g (stepC C o a) (refOn g R) o a n ∧ stepC C o a o 2 = nI (s + 1) ∧ refOn g R 0 7 = nI (s + 1) ∧ WL (stepC C o a) a ln t sd ∧ FrC o a C (stepC C o a) ∧ FrR R (refOn g R) := by
  have hg' := hg
  obtain ⟨⟨g1, g2⟩, ⟨g3, g4⟩, g5⟩ := hg
  have h8 := h.2.1
  -- both winds
  obtain ⟨w1, w2, w3⟩ := windAt_c hW hL (a := C o 2) (q := s) h2 (by omega)
  generalize hC6 : f_X0_windAt C a (C o 2) = P6 at w1 w2 w3
  obtain ⟨r4, C6⟩ := P6
  dsimp only at w1 w2 w3
  have e6 : C6 o 2 = nI s := by rw [w3 _ _ (by omega) (by omega)]; exact h2
  obtain ⟨v1, v2, v3⟩ := windAt_c w2 hL (a := C6 o 2 + 1) (q := s + 1) (by rw [e6, nI_1]) (by omega)
  generalize hC0 : f_X0_windAt C6 a (C6 o 2 + 1) = P0 at v1 v2 v3
  obtain ⟨r32, C0⟩ := P0
  dsimp only at v1 v2 v3
  have rx0 : RX g C0 R o a n := RX_C hg' (RX_C hg' h (fun j q _ _ h3 h4 => w3 j q h3 h4)) (fun j q _ _ h3 h4 => v3 j q h3 h4)
  have e0 : C0 o 2 = nI s := by rw [v3 _ _ (by omega) (by omega)]; exact e6
  -- the first telling
  obtain ⟨a1, a2⟩ := tell_ok hg' rx0
  generalize hC3 : f_X3_tellBadAir C0 o = C3 at a1 a2
  have rx3 : RX g C3 R o a n := RX_C hg' rx0 (fun j q h1 h2 h3 h4 => a1 j q (by omega))
  have e3 : C3 o 2 = nI s := by rw [a1 _ _ (by omega)]; exact e0
  have rx7 : RX g (up2 C3 o 2 (C3 o 2 + 1)) R o a n := RX_C hg' rx3 (fun j q h1 h2 h3 h4 => up2_n _ _ h1)
  -- the reference's bads
  obtain ⟨b1, b2⟩ := gB_ok g5 h8 (RX_in h)
  have rxB : RX g (up2 C3 o 2 (C3 o 2 + 1)) (rep gB n R) o a n := RX_R rx7 (fun j q _ h _ => b1 j q h)
  have hr4 : r4 = rep gB n R 17 s := by rw [b1 _ _ (by omega), hR s (by omega), w1, h2]
  obtain ⟨c1, c2, c3⟩ := sails_sim (w := r4) hg' rxB hs (by rw [up2_s, e3, nI_1]) (by rw [b1 _ _ (by omega)]; exact h7) hr4 (fun i hi => by
    rw [up2_n _ _ (by omega)]
    have hb : ∀ x, b01 x = 0 ∨ b01 x = 1 := fun x => by unfold b01; split; exact Or.inl rfl; exact Or.inr rfl
    rcases b2 i hi with ⟨q1, q2⟩ | ⟨q1, q2⟩
    · rw [q1]; exact (a2 i hi).mpr q2
    · rw [q1]; exact (hb _).resolve_left (fun q => (a2 i hi).mp q q2))
  have hstep1 : lp_X3_step_17 5 o a r4 (up2 C3 o 2 (C3 o 2 + 1)) 0 = rep (gS o a r4) n (up2 C3 o 2 (C3 o 2 + 1)) := sail_rep hg' rx7.1
  generalize hC28 : rep (gS o a r4) n (up2 C3 o 2 (C3 o 2 + 1)) = C28 at c1 c2 hstep1
  generalize hRm : rep gM n (rep gB n R) = Rm at c1 c3
  have em : f_X7_moveAll R = up2 Rm 0 7 (Rm 0 7 + 1) := by rw [moveAll_rep g5 h8, hRm]
  have hm7 : Rm 0 7 = nI s := by rw [c3 _ _ (by omega), b1 _ _ (by omega)]; exact h7
  rw [hm7, nI_1] at em
  have rxm : RX g C28 (up2 Rm 0 7 (nI (s + 1))) o a n := RX_R c1 (fun j q h _ _ => up2_n _ _ h)
  have e28 : C28 o 2 = nI (s + 1) := by rw [c2 _ _ (by omega), up2_s, e3, nI_1]
  -- the second telling
  obtain ⟨d1, d2⟩ := tell_ok hg' rxm
  generalize hC31 : f_X3_tellBadAir C28 o = C31 at d1 d2
  have e31 : C31 o 2 = nI (s + 1) := by rw [d1 _ _ (by omega)]; exact e28
  have rx31 : RX g C31 (up2 Rm 0 7 (nI (s + 1))) o a n := RX_C hg' rxm (fun j q h1 h2 h3 h4 => d1 j q (by omega))
  have hr32 : r32 = up2 Rm 0 7 (nI (s + 1)) 17 (s + 1) := by rw [up2_n _ _ (by omega), c3 _ _ (by omega), b1 _ _ (by omega), hR _ (by omega), v1, e6, nI_1]
  obtain ⟨f1, f2, f3⟩ := wills_sim hg' rx31 (by omega) e31 (up2_s _ _ _ _) hr32 (fun i hi => d2 i hi) hp
  have hstep2 : lp_X3_step_65 5 o a r32 C31 0 = rep (gW o a r32) n C31 := will_rep hg' rx31.1
  generalize hC85 : rep (gW o a r32) n C31 = C85 at f1 f3 hstep2
  have hstepM : lpT g 5 (up2 Rm 0 7 (nI (s + 1))) 0 = rep (gN g) n (up2 Rm 0 7 (nI (s + 1))) := willM_rep g5 rx31.2.1
  generalize hRw : rep (gN g) n (up2 Rm 0 7 (nI (s + 1))) = Rw at f2 f3 hstepM
  have rx85 : RX g C85 Rw o a n := RX_R (RX_C hg' rx31 (fun j q h1 h2 h3 h4 => f1 j q (by omega))) (fun j q _ _ h => f2 j q h)
  obtain ⟨i1, i2, i3⟩ := abouts_sim hg' rx85 f3
  have hCs : stepC C o a = rep (gA o a) n C85 := by
    unfold stepC
    rw [hC6]
    dsimp only
    rw [hC0]
    dsimp only
    unfold f_X3_step
    simp only [bnd]
    rw [hC3, hstep1, hC31, hstep2]
    exact about_rep hg' rx85.1
  have hRs : refOn g R = rep gZ n Rw := by
    rw [refOn_eq, em, hstepM]
    exact turnAll_rep g5 rx85.2.1
  rw [hCs, hRs]
  have fr1 : ∀ j q, ¬ (j = o ∧ q = 2) → ¬ (4 * (o + 3) - 45 ≤ j ∧ j < 4 * (o + 3) - 45 + 4 ∧ 3 ≤ q ∧ q ≤ 10) → ¬ (j = a + 3 ∧ 2 ≤ q ∧ q ≤ 4) → ¬ (j = a + 6 ∨ 68 ≤ j) → rep (gA o a) n C85 j q = C j q := fun j q x1 x2 x3 x4 => by
    rw [i2 j q (by omega), f1 j q (by omega), d1 j q (by omega), c2 j q (by omega), up2_n _ _ x1, a1 j q (by omega), v3 j q x3 x4, w3 j q x3 x4]
  have fr2 : ∀ j q, ¬ (j = o ∧ q = 2) → ¬ (4 * (o + 3) - 45 ≤ j ∧ j < 4 * (o + 3) - 45 + 4 ∧ 3 ≤ q ∧ q ≤ 10) → rep (gA o a) n C85 j q = C0 j q := fun j q x1 x2 => by
    rw [i2 j q (by omega), f1 j q (by omega), d1 j q (by omega), c2 j q (by omega), up2_n _ _ x1, a1 j q (by omega)]
  refine ⟨i1, ?_, ?_, ?_, fun j q x1 x2 x3 x4 => fr1 j q x1 (by omega) x3 x4, fun j q x1 x2 x3 x4 => ?_⟩
  · rw [i2 _ _ (by omega), f1 _ _ (by omega)]; exact e31
  · rw [i3 _ _ (by omega), f2 _ _ (by omega)]; exact up2_s _ _ _ _
  · exact WL_of v2 (fr2 _ _ (by omega) (by omega)) (fun q => fr2 _ _ (by omega) (by omega)) (fr2 _ _ (by omega) (by omega)) (fun q => fr2 _ _ (by omega) (by omega))
  · rw [i3 j q x2, f2 j q x4, up2_n _ _ x1, c3 j q x2, b1 j q x3]
