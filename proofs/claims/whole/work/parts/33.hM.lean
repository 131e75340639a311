-- @needs 32_fM 31_hC
/-! the reference: what its contracts need of its functions -/
/-- how deep a text is at a place -/
def dep (t : Nat → Int32) : Nat → Int
  | 0 => 0
  | k + 1 => dep t k + (if t k = 40 then 1 else if t k = 41 then -1 else 0)
def LVt (t : Nat → Int32) (n : Int32) : Prop := (0 ≤ n.toInt ∧ n.toInt ≤ 100) ∧ ∀ k : Nat, (k : Int) ≤ n.toInt → 0 ≤ dep t k ∧ dep t k ≤ 6
/-- a snapshot: kept and imaged -/
def SN (t : Nat → Int32) : Prop := (0 ≤ (t 6).toInt ∧ (t 6).toInt ≤ 4) ∧ (0 ≤ (t 5).toInt ∧ (t 5).toInt ≤ 400) ∧ LVt (fun j => t (48 + j)) (t 47)
def MI (M : Mem) : Prop := (0 ≤ (M 0 8).toInt ∧ (M 0 8).toInt ≤ 4) ∧ (0 ≤ (M 0 7).toInt ∧ (M 0 7).toInt ≤ 400) ∧ (0 ≤ (M 0 21).toInt ∧ (M 0 21).toInt ≤ 100) ∧ (∀ d : Nat, d < 8 → 0 ≤ (M 28 d).toInt ∧ (M 28 d).toInt ≤ 100) ∧ LVt (M 1) (M 0 5) ∧ (M 0 35 = 0 ∨ SN (M 21))
/-- the invariant; and if kept was a snapshot, it is one -/
def TI (M0 M : Mem) : Prop := MI M ∧ (SN (M0 20) → SN (M 20))
theorem TI_rf {M : Mem} (h : MI M) : TI M M := ⟨h, id⟩
theorem TI_tr {M0 M M1 : Mem} (h : TI M0 M) (h1 : TI M M1) : TI M0 M1 := ⟨h1.1, fun q => h1.2 (h.2 q)⟩
theorem TI_to {M0 M M1 : Mem} (h : TI M0 M) (h1 : MI M1) (e : M1 20 = M 20) : TI M0 M1 := ⟨h1, fun q => by rw [e]; exact h.2 q⟩
theorem MI_of {M M1 : Mem} (h : MI M) (h0 : ∀ k, k = 5 ∨ k = 7 ∨ k = 8 ∨ k = 21 ∨ k = 35 → M1 0 k = M 0 k) (h1 : M1 1 = M 1) (h28 : M1 28 = M 28) (h21 : M1 21 = M 21) : MI M1 := by
  obtain ⟨a, b, c, d, e, f⟩ := h
  refine ⟨?_, ?_, ?_, ?_, ?_, ?_⟩
  · rw [h0 8 (by simp)]; exact a
  · rw [h0 7 (by simp)]; exact b
  · rw [h0 21 (by simp)]; exact c
  · rw [h28]; exact d
  · rw [h1, h0 5 (by simp)]; exact e
  · rw [h0 35 (by simp), h21]; exact f
def irF (k : Nat) : Bool := k != 5 && k != 7 && k != 8 && k != 21 && k != 35
def irA (i : Nat) : Bool := i != 0 && i != 1 && i != 20 && i != 21 && i != 28
theorem TI_f {M0 M : Mem} {k : Nat} {v : Int32} (h : TI M0 M) (hk : irF k = true) : TI M0 (up2 M 0 k v) := by
  simp only [irF, Bool.and_eq_true, bne_iff_ne] at hk
  exact TI_to h (MI_of h.1 (fun q hq => up2_n _ _ (by omega)) (up2_o _ _ (by decide)) (up2_o _ _ (by decide)) (up2_o _ _ (by decide))) (up2_o _ _ (by decide))
theorem TI_a {M0 M : Mem} {i k : Nat} {v : Int32} (h : TI M0 M) (hk : irA i = true) : TI M0 (up2 M i k v) := by
  simp only [irA, Bool.and_eq_true, bne_iff_ne] at hk
  exact TI_to h (MI_of h.1 (fun q hq => up2_n _ _ (by omega)) (up2_o _ _ (by omega)) (up2_o _ _ (by omega)) (up2_o _ _ (by omega))) (up2_o _ _ (by omega))
theorem TI_boats {M0 M : Mem} {v : Int32} (h : TI M0 M) (hv : 0 ≤ v.toInt ∧ v.toInt ≤ 4) : TI M0 (up2 M 0 8 v) := by
  obtain ⟨a, b, c, d, e, f⟩ := h.1
  refine TI_to h ⟨?_, ?_, ?_, ?_, ?_, ?_⟩ (up2_o _ _ (by decide))
  · rw [up2_s]; exact hv
  · rw [up2_n _ _ (by decide)]; exact b
  · rw [up2_n _ _ (by decide)]; exact c
  · rw [up2_o _ _ (by decide)]; exact d
  · rw [up2_o _ _ (by decide), up2_n _ _ (by decide)]; exact e
  · rw [up2_n _ _ (by decide), up2_o _ _ (by decide)]; exact f
theorem TI_second {M0 M : Mem} {v : Int32} (h : TI M0 M) (hv : 0 ≤ v.toInt ∧ v.toInt ≤ 400) : TI M0 (up2 M 0 7 v) := by
  obtain ⟨a, b, c, d, e, f⟩ := h.1
  refine TI_to h ⟨?_, ?_, ?_, ?_, ?_, ?_⟩ (up2_o _ _ (by decide))
  · rw [up2_n _ _ (by decide)]; exact a
  · rw [up2_s]; exact hv
  · rw [up2_n _ _ (by decide)]; exact c
  · rw [up2_o _ _ (by decide)]; exact d
  · rw [up2_o _ _ (by decide), up2_n _ _ (by decide)]; exact e
  · rw [up2_n _ _ (by decide), up2_o _ _ (by decide)]; exact f
theorem TI_size {M0 M : Mem} {v : Int32} (h : TI M0 M) (hv : 0 ≤ v.toInt ∧ v.toInt ≤ 100) : TI M0 (up2 M 0 21 v) := by
  obtain ⟨a, b, c, d, e, f⟩ := h.1
  refine TI_to h ⟨?_, ?_, ?_, ?_, ?_, ?_⟩ (up2_o _ _ (by decide))
  · rw [up2_n _ _ (by decide)]; exact a
  · rw [up2_n _ _ (by decide)]; exact b
  · rw [up2_s]; exact hv
  · rw [up2_o _ _ (by decide)]; exact d
  · rw [up2_o _ _ (by decide), up2_n _ _ (by decide)]; exact e
  · rw [up2_n _ _ (by decide), up2_o _ _ (by decide)]; exact f
theorem TI_rows {M0 M : Mem} {k : Nat} {v : Int32} (h : TI M0 M) (hv : 0 ≤ v.toInt ∧ v.toInt ≤ 100) : TI M0 (up2 M 28 k v) := by
  obtain ⟨a, b, c, d, e, f⟩ := h.1
  refine TI_to h ⟨?_, ?_, ?_, ?_, ?_, ?_⟩ (up2_o _ _ (by decide))
  · rw [up2_o _ _ (by decide)]; exact a
  · rw [up2_o _ _ (by decide)]; exact b
  · rw [up2_o _ _ (by decide)]; exact c
  · intro q hq
    by_cases hqk : q = k
    · subst hqk; rw [up2_s]; exact hv
    · rw [up2_n _ _ (by omega)]; exact d q hq
  · rw [up2_o _ _ (by decide), up2_o _ _ (by decide)]; exact e
  · rw [up2_o _ _ (by decide), up2_o _ _ (by decide)]; exact f
theorem bnd_lt {a b c : Int} (h : a < b) (h2 : b ≤ c) : a < c := by omega
/-! what a call's answer tells -/
theorem toI64 (x : Int32) : x.toInt64.toInt = x.toInt := Int32.toInt_toInt64 x
theorem in_I {a : Int32} {lo hi : Int64} (h : ¬ f_X7_in a.toInt64 lo hi = 0) : lo.toInt ≤ a.toInt ∧ a.toInt ≤ hi.toInt := by
  unfold f_X7_in at h
  simp only [bnd] at h
  split at h
  · exact absurd rfl h
  · rename_i h1
    split at h
    · exact absurd rfl h
    · rename_i h2
      unfold lg_cmp at h1 h2
      have e := toI64 a
      constructor
      · by_cases q : lo.toInt ≤ a.toInt
        · exact q
        · exfalso; apply h1
          have a1 : ¬ a.toInt64 > lo := by rw [gt_iff_lt, Int64.lt_iff_toInt_lt, e]; omega
          have a2 : ¬ a.toInt64 = lo := fun q2 => by rw [← q2, e] at q; omega
          rw [if_neg a1, if_neg a2]; decide
      · by_cases q : a.toInt ≤ hi.toInt
        · exact q
        · exfalso; apply h2
          have a1 : a.toInt64 > hi := by rw [gt_iff_lt, Int64.lt_iff_toInt_lt, e]; omega
          rw [if_pos a1]; decide
theorem in_I1 {a x : Int32} {lo : Int64} (hx : -2147483648 < x.toInt) (h : ¬ f_X7_in a.toInt64 lo ((x - 1).toInt64) = 0) : lo.toInt ≤ a.toInt ∧ a.toInt < x.toInt := by
  have := in_I h
  rw [toI64, dec_I hx] at this
  omega
theorem isBoat_in {M : Mem} {a : Int32} (hx : -2147483648 < (M 0 8).toInt) (h : ¬ f_X7_isBoat M a = 0) : 0 ≤ a.toInt ∧ a.toInt < (M 0 8).toInt := in_I1 hx h
theorem isEnded_lt {M : Mem} (h : f_X7_isEnded M = 0) : (M 0 7).toInt < 400 := by
  unfold f_X7_isEnded at h
  simp only [bnd] at h
  split at h
  · exact absurd h (by decide)
  · split at h
    · exact lt_I ‹_›
    · exact absurd h (by decide)
theorem wrongRow_in {M : Mem} {d : Int32} (h : ¬ f_X7_wrongRow M d < 0) : 0 ≤ d.toInt ∧ d.toInt < 8 := by
  unfold f_X7_wrongRow at h
  simp only [bnd] at h
  split at h
  · rename_i h1
    have := in_I h1
    have e0 : (0 : Int64).toInt = 0 := rfl
    have e7 : (7 : Int64).toInt = 7 := rfl
    omega
  · exact absurd (by decide) h
theorem nlt_of_le {x : Int32} (h : 0 ≤ x) : ¬ x < 0 := fun q => by
  have a := le_I h
  have b := lt_I q
  omega
theorem wrongSailor_in {M : Mem} {d : Int32} (h : ¬ f_X7_wrongSailor M d < 0) : 0 ≤ d.toInt ∧ d.toInt < 8 := by
  unfold f_X7_wrongSailor at h
  simp only [bnd] at h
  split at h
  · rename_i h1
    have := in_I h1
    have e0 : (0 : Int64).toInt = 0 := rfl
    have e7 : (7 : Int64).toInt = 7 := rfl
    omega
  · exact absurd (by decide) h
theorem wrongSort_in {M : Mem} {d k : Int32} (h : ¬ f_X7_wrongSort M d k < 0) : 0 ≤ d.toInt ∧ d.toInt < 8 := by
  unfold f_X7_wrongSort at h
  simp only [bnd] at h
  split at h
  · exact wrongRow_in (nlt_of_le ‹_›)
  · exact wrongRow_in h
theorem ne5_I {y : Int32} (h : 0 < y.toInt) : ¬ 5 * y = 0 := by
  intro q
  have h1 := congrArg Int32.toInt q
  have h3 : y.toInt ≤ 2147483647 := Int32.toInt_le y
  rw [Int32.toInt_mul] at h1
  have h2 : Int.bmod (5 * y.toInt) (2^32) = 0 := h1
  have h4 : ((2 ^ 32 : Nat) : Int) ∣ 5 * y.toInt := Int.dvd_of_bmod_eq_zero h2
  have h5 : (4294967296 : Int) ∣ 5 * y.toInt := h4
  omega
theorem ttime_nz {M : Mem} {b : Int32} (h : ¬ f_X7_isTurnTime M b = 0) : ¬ 5 * (M 5 b.toNatClampNeg) = 0 := by
  unfold f_X7_isTurnTime at h
  simp only [bnd] at h
  split at h
  · exact absurd rfl h
  · rename_i h1
    have := nle_I h1
    rw [Int32.toInt_zero] at this
    exact ne5_I this
theorem cov_in {a b t : Int32} (ha : 0 ≤ a.toInt ∧ a.toInt < 4) (hb : b.toInt ≤ 4) (hab : a.toInt < b.toInt) (h : (if ¬ a = 0 then a - 1 else b - 1) = t) : vp_in t 4 := by
  subst h
  by_cases h0 : a = 0
  · rw [if_neg (fun q => q h0)]
    exact vin_I (by rw [dec_I (by omega)]; omega) (by rw [dec_I (by omega)]; omega)
  · rw [if_pos h0]
    have := ne_I h0
    rw [Int32.toInt_zero] at this
    exact vin_I (by rw [dec_I (by omega)]; omega) (by rw [dec_I (by omega)]; omega)
theorem mul100 {d : Int32} (hd : 0 ≤ d.toInt ∧ d.toInt < 8) : (100 * d).toInt = 100 * d.toInt := by
  rw [Int32.toInt_mul]
  show (100 * d.toInt).bmod _ = _
  rw [Int.bmod_eq_of_le] <;> omega
theorem add_I {a b : Int32} (h1 : -2147483648 ≤ a.toInt + b.toInt) (h2 : a.toInt + b.toInt ≤ 2147483647) : (a + b).toInt = a.toInt + b.toInt := by
  rw [Int32.toInt_add, Int.bmod_eq_of_le] <;> omega
theorem vin_row {d k : Int32} (hd : 0 ≤ d.toInt ∧ d.toInt < 8) (hk : 0 ≤ k.toInt ∧ k.toInt < 100) : vp_in ((100 * d) + k) 800 := by
  have := mul100 hd
  have e : ((100 * d) + k).toInt = 100 * d.toInt + k.toInt := by rw [add_I (by omega) (by omega), this]
  exact vin_I (by omega) (by omega)
theorem vin_row1 {d k : Int32} (hd : 0 ≤ d.toInt ∧ d.toInt < 8) (hk : 1 ≤ k.toInt ∧ k.toInt < 100) : vp_in (((100 * d) + k) - 1) 800 := by
  have := mul100 hd
  have e : ((100 * d) + k).toInt = 100 * d.toInt + k.toInt := by rw [add_I (by omega) (by omega), this]
  have e2 : (((100 * d) + k) - 1).toInt = 100 * d.toInt + k.toInt - 1 := by rw [dec_I (by omega), e]
  exact vin_I (by omega) (by omega)
theorem vin_row2 {d i k : Int32} (hd : 0 ≤ d.toInt ∧ d.toInt < 8) (hk : 0 ≤ i.toInt ∧ 0 ≤ k.toInt ∧ i.toInt + k.toInt < 100) : vp_in (((100 * d) + i) + k) 800 := by
  have := mul100 hd
  have e : ((100 * d) + i).toInt = 100 * d.toInt + i.toInt := by rw [add_I (by omega) (by omega), this]
  have e2 : (((100 * d) + i) + k).toInt = 100 * d.toInt + i.toInt + k.toInt := by rw [add_I (by omega) (by omega), e]
  exact vin_I (by omega) (by omega)
theorem rt64 (x : Int32) : x.toInt64.toInt32.toInt64 = x.toInt64 := by simp
theorem narrowed_ok (a s : Int32) : (f_X7_narrowed a s).toInt32.toInt64 = f_X7_narrowed a s := by
  unfold f_X7_narrowed
  simp only [bnd]
  split
  · split <;> exact rt64 _
  · exact rt64 _
theorem br_k {P : Prop} (x : Int32) (h : x = 1 ∨ x = 2) (a : x = 1 → P) (b : x = 2 → P) : P := h.elim a b
theorem kvM_1 {ad : Nat → Nat} {x : Int32} (h : x = 1) : kvM ad x = .ref (ad 20) := by rw [h]; rfl
theorem kvM_2 {ad : Nat → Nat} {x : Int32} (h : x = 2) : kvM ad x = .ref (ad 21) := by rw [h]; rfl
theorem carry_at {M M' : Mem} {v r : Int32} (hp : 0 ≤ (M 0 36).toInt ∧ (M 0 36).toInt < 150) (h : f_X7_carry M v = (r, M')) : (M' 0 36).toInt = (M 0 36).toInt + 1 ∧ M' 0 38 = M 0 38 := by
  have hi : (M 0 36 + 1).toInt = (M 0 36).toInt + 1 := inc_I hp.2 (by decide)
  unfold f_X7_carry at h
  simp only [bnd] at h
  have key : ∀ M1 : Mem, M1 0 = M 0 → ∀ r' : Int32, (r', up2 M1 0 36 (M1 0 36 + 1)) = (r, M') → (M' 0 36).toInt = (M 0 36).toInt + 1 ∧ M' 0 38 = M 0 38 := by
    intro M1 h1 r' h
    obtain ⟨-, rfl⟩ := Prod.mk.inj h
    rw [up2_s, up2_n _ _ (by decide), h1]
    exact ⟨hi, rfl⟩
  split at h
  · split at h
    · exact key _ rfl _ h
    · exact key _ rfl _ h
  · split at h
    · split at h
      · exact key _ (up2_o _ _ (by decide)) _ h
      · exact key _ (up2_o _ _ (by decide)) _ h
    · split at h
      · exact key _ (up2_o _ _ (by decide)) _ h
      · exact key _ (up2_o _ _ (by decide)) _ h
/-! the windows of the law's reading -/
theorem openLevel_row {M M' : Mem} (h : f_X7_openLevel M = M') : M' 0 = M 0 ∧ M' 1 = M 1 := by
  subst h; unfold f_X7_openLevel; simp only [bnd]
  constructor <;> rw [up2_o _ _ (by decide), up2_o _ _ (by decide), up2_o _ _ (by decide)]
theorem atom_row {M M' : Mem} {v : Int32} (h : f_X7_atom M v = M') : M' 0 = M 0 ∧ M' 1 = M 1 := by
  subst h; unfold f_X7_atom; simp only [bnd]
  constructor <;> rw [up2_o _ _ (by decide)]
theorem work_row {M M' : Mem} {v : Int32} (h : f_X7_work M v = M') : M' 0 = M 0 ∧ M' 1 = M 1 := by
  subst h; unfold f_X7_work; simp only [bnd]
  constructor <;> (repeat' split) <;> (repeat rw [up2_o _ _ (by decide)])
def WB (M Mh : Mem) (v : Int32) : Prop := Mh 1 = M 1 ∧ Mh 0 5 = M 0 5 ∧ (Mh 0 27).toInt = dep (M 1) v.toNatClampNeg ∧ 0 ≤ v.toInt ∧ v.toInt ≤ (M 0 5).toInt
theorem WB_row {M Mh M2 : Mem} {v : Int32} (h : WB M Mh v) (hr : M2 0 = Mh 0 ∧ M2 1 = Mh 1) : WB M M2 v := by
  obtain ⟨a, b, c, d⟩ := h
  exact ⟨hr.2.trans a, by rw [hr.1]; exact b, by rw [hr.1]; exact c, d⟩
theorem wb_atom {M Mh M2 : Mem} {v x : Int32} (h : WB M Mh v) (hF : f_X7_atom Mh x = M2) : WB M M2 v := WB_row h (atom_row hF)
theorem wb_work {M Mh M2 : Mem} {v x : Int32} (h : WB M Mh v) (hF : f_X7_work Mh x = M2) : WB M M2 v := WB_row h (work_row hF)
theorem wb_0 {M M2 : Mem} (hI : MI M) (hF : f_X7_openLevel (up2 M 0 27 0) = M2) : WB M M2 0 := by
  have hr := openLevel_row hF
  refine ⟨?_, ?_, ?_, by decide, hI.2.2.2.2.1.1.1⟩
  · rw [hr.2, up2_o _ _ (by decide)]
  · rw [hr.1, up2_n _ _ (by decide)]
  · rw [hr.1, up2_s]; rfl
theorem wb_guard {M Mh : Mem} {v : Int32} (hw : WB M Mh v) (h : ¬ Mh 0 5 ≤ v) : v.toInt < (M 0 5).toInt := by
  have := nle_I h
  rw [hw.2.1] at this
  exact this
theorem wb_in {M Mh : Mem} {v : Int32} (hI : MI M) (hw : WB M Mh v) (h : ¬ Mh 0 5 ≤ v) : vp_in v 100 := by
  have := wb_guard hw h
  have h2 := hI.2.2.2.2.1.1.2
  exact vin_I hw.2.2.2.1 (by omega)
theorem tnc {v : Int32} (h : 0 ≤ v.toInt) : (v.toNatClampNeg : Int) = v.toInt := Int.toNat_of_nonneg h
theorem wb_lev {M Mh : Mem} {v : Int32} (hI : MI M) (hw : WB M Mh v) : 0 ≤ (Mh 0 27).toInt ∧ (Mh 0 27).toInt < 8 := by
  have h := hI.2.2.2.2.1.2 v.toNatClampNeg (by rw [tnc hw.2.2.2.1]; exact hw.2.2.2.2)
  rw [hw.2.2.1]
  omega
theorem wb_next {M Mh : Mem} {v : Int32} (hI : MI M) (hw : WB M Mh v) (h : ¬ Mh 0 5 ≤ v) : (v + 1).toInt = v.toInt + 1 ∧ (v + 1).toNatClampNeg = v.toNatClampNeg + 1 ∧ (v + 1).toInt ≤ (M 0 5).toInt ∧ 0 ≤ dep (M 1) (v.toNatClampNeg + 1) ∧ dep (M 1) (v.toNatClampNeg + 1) ≤ 6 := by
  have hg := wb_guard hw h
  have h2 := hI.2.2.2.2.1.1.2
  have h0 := hw.2.2.2.1
  have e1 : (v + 1).toInt = v.toInt + 1 := inc_I (N := 100) (by omega) (by decide)
  have e2 := tnc h0
  have e3 := tnc (v := v + 1) (by omega)
  have hd := hI.2.2.2.2.1.2 (v.toNatClampNeg + 1) (by push_cast; omega)
  exact ⟨e1, by omega, by omega, hd.1, hd.2⟩
theorem wb_open {M Mh M1 : Mem} {v : Int32} (hI : MI M) (hw : WB M Mh v) (h : ¬ Mh 0 5 ≤ v) (hc : Mh 1 v.toNatClampNeg = 40) (e : M1 = up2 Mh 0 27 ((Mh 0 27) + 1)) : (0 ≤ (M1 0 27).toInt ∧ (M1 0 27).toInt < 8) ∧ ∀ {M2 : Mem}, f_X7_openLevel M1 = M2 → WB M M2 (v + 1) := by
  have hn := wb_next hI hw h
  have hl := wb_lev hI hw
  have hc : M 1 v.toNatClampNeg = 40 := by rw [← hw.1]; exact hc
  have hd : dep (M 1) (v.toNatClampNeg + 1) = dep (M 1) v.toNatClampNeg + 1 := by simp [dep, hc]
  have e1 : (M1 0 27).toInt = (Mh 0 27).toInt + 1 := by rw [e, up2_s, inc_I (N := 8) hl.2 (by decide)]
  have e2 := hw.2.2.1
  have hn5 := hn.2.2.2
  refine ⟨by omega, fun {M2} hF => ?_⟩
  have hr := openLevel_row hF
  refine ⟨?_, ?_, ?_, ?_, hn.2.2.1⟩
  · rw [hr.2, e, up2_o _ _ (by decide)]; exact hw.1
  · rw [hr.1, e, up2_n _ _ (by decide)]; exact hw.2.1
  · rw [hr.1, hn.2.1, hd]; omega
  · have := hw.2.2.2.1; omega
theorem wb_close {M Mh M1 : Mem} {v : Int32} (hI : MI M) (hw : WB M Mh v) (h : ¬ Mh 0 5 ≤ v) (hc : Mh 1 v.toNatClampNeg = 41) (e : M1 = up2 Mh 0 27 ((Mh 0 27) - 1)) : (0 ≤ (M1 0 27).toInt ∧ (M1 0 27).toInt < 8) ∧ ∀ {M2 : Mem} {x : Int32}, f_X7_atom M1 x = M2 → WB M M2 (v + 1) := by
  have hn := wb_next hI hw h
  have hl := wb_lev hI hw
  have hc : M 1 v.toNatClampNeg = 41 := by rw [← hw.1]; exact hc
  have hd : dep (M 1) (v.toNatClampNeg + 1) = dep (M 1) v.toNatClampNeg - 1 := by simp [dep, hc]; omega
  have e1 : (M1 0 27).toInt = (Mh 0 27).toInt - 1 := by rw [e, up2_s, dec_I (by omega)]
  have e2 := hw.2.2.1
  have hn5 := hn.2.2.2
  refine ⟨by omega, fun {M2 x} hF => ?_⟩
  have hr := atom_row hF
  refine ⟨?_, ?_, ?_, ?_, hn.2.2.1⟩
  · rw [hr.2, e, up2_o _ _ (by decide)]; exact hw.1
  · rw [hr.1, e, up2_n _ _ (by decide)]; exact hw.2.1
  · rw [hr.1, hn.2.1, hd]; omega
  · have := hw.2.2.2.1; omega
theorem wb_same {M Mh : Mem} {v : Int32} (hI : MI M) (hw : WB M Mh v) (h : ¬ Mh 0 5 ≤ v) (h40 : ¬ Mh 1 v.toNatClampNeg = 40) (h41 : ¬ Mh 1 v.toNatClampNeg = 41) : WB M Mh (v + 1) := by
  have hn := wb_next hI hw h
  rw [hw.1] at h40 h41
  have hd : dep (M 1) (v.toNatClampNeg + 1) = dep (M 1) v.toNatClampNeg := by simp [dep, h40, h41]
  have h0 := hw.2.2.2.1
  exact ⟨hw.1, hw.2.1, by rw [hn.2.1, hd]; exact hw.2.2.1, by omega, hn.2.2.1⟩
theorem wb_dig {M Mh : Mem} {v : Int32} (hI : MI M) (hw : WB M Mh v) (h : ¬ Mh 0 5 ≤ v) (hd : ¬ f_X7_in (Mh 1 v.toNatClampNeg).toInt64 48 57 = 0) : WB M Mh (v + 1) := by
  have hi := in_I hd
  have e0 : (48 : Int64).toInt = 48 := rfl
  refine wb_same hI hw h (fun q => ?_) (fun q => ?_)
  · rw [q] at hi
    have : (40 : Int32).toInt = 40 := rfl
    omega
  · rw [q] at hi
    have : (41 : Int32).toInt = 41 := rfl
    omega
