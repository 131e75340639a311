/-! the best turns: tacks, best, sides -/
def Eb (v : Nat → Nat) (w : Nat) : Nat := 256 * v w + w
def Mn (v : Nat → Nat) : Nat → Nat
  | 0 => Eb v 0
  | n + 1 => min (Mn v n) (Eb v n)
theorem Mn_le {v : Nat → Nat} : ∀ n w, w < n → Mn v n ≤ Eb v w := by
  intro n
  induction n with
  | zero => intro w h; omega
  | succ n ih =>
    intro w h
    show min (Mn v n) (Eb v n) ≤ _
    by_cases e : w = n
    · subst e; omega
    · have := ih w (by omega); omega
theorem Mn_mem {v : Nat → Nat} : ∀ n, ∃ b, (b < n ∨ b = 0) ∧ Mn v n = Eb v b := by
  intro n
  induction n with
  | zero => exact ⟨0, Or.inr rfl, rfl⟩
  | succ n ih =>
    obtain ⟨b, h1, h2⟩ := ih
    show ∃ b, _ ∧ min (Mn v n) (Eb v n) = _
    by_cases e : Mn v n ≤ Eb v n
    · exact ⟨b, by omega, by rw [← h2]; omega⟩
    · exact ⟨n, by omega, by omega⟩
theorem Mn_const {v : Nat → Nat} (n : Nat) : ∀ c, (∀ w, n ≤ w → w < n + c → Mn v n ≤ Eb v w) → Mn v (n + c) = Mn v n := by
  intro c
  induction c with
  | zero => intro _; rfl
  | succ c ih =>
    intro h
    show min (Mn v (n + c)) (Eb v (n + c)) = _
    rw [ih (fun w h1 h2 => h w h1 (by omega))]
    have := h (n + c) (by omega) (by omega)
    omega
/-- the values by bits: whoever asks -/
theorem vals {C S : Mem} (h : Core C S) {x rt : Int32} (hx : bx x) (hrt : rt = 0 ∨ rt = 1) : ∃ v : Nat → Nat, (∀ w, w < 256 → v w ≤ 400) ∧ (∀ Cx w, GC C S Cx → w < 256 → (f_X6_secondsAlone Cx x rt (nI w)).1 = nI (v w) ∧ GC C S (f_X6_secondsAlone Cx x rt (nI w)).2) ∧ (∀ Sx w, GR S Sx → w < 256 → (f_X7_secondsBy Sx x rt (nI w)).1 = nI (v w) ∧ GR S (f_X7_secondsBy Sx x rt (nI w)).2 ∧ (f_X7_secondsBy Sx x rt (nI w)).2 0 41 = Sx 0 41) ∧
    ∀ k w0 w1, k ≤ 8 → w0 < 256 → w1 < 256 → w0 % 2 ^ k = w1 % 2 ^ k → v w1 < 10 * (k + 1) → v w0 = v w1 := by
  have hc := GC_0 h
  have hr := GR_0 h
  generalize f_X7_layWinds (f_X7_open S) = S2 at hr
  refine ⟨fun w => ((f_X7_secondsBy S2 x rt (nI w)).1).toNatClampNeg, fun w hw => ?_, fun Cx w hcx hw => ?_, fun Sx w hrx hw => ?_, fun k w0 w1 hk h0 h1 he hlt => ?_⟩
  · obtain ⟨v, a1, a2, a3, _⟩ := ref_val h hc hr hx hrt hw
    show ((f_X7_secondsBy S2 x rt (nI w)).1).toNatClampNeg ≤ 400
    rw [a3, nI_clamp (by omega)]; exact a1
  · obtain ⟨v, a1, a2, a3, a4, a5, _⟩ := ref_val h hcx hr hx hrt hw
    show _ = nI ((f_X7_secondsBy S2 x rt (nI w)).1).toNatClampNeg ∧ _
    rw [a3, nI_clamp (by omega)]; exact ⟨a2, a5⟩
  · obtain ⟨v, a1, a2, a3, a4, a5, a6, a7⟩ := ref_val h hc hrx hx hrt hw
    obtain ⟨v', b1, b2, b3, _⟩ := ref_val h hc hr hx hrt hw
    show _ = nI ((f_X7_secondsBy S2 x rt (nI w)).1).toNatClampNeg ∧ _
    rw [b3, nI_clamp (by omega), a3]
    exact ⟨a2.symm.trans b2, a6, a7⟩
  · obtain ⟨v0, a1, a2, a3, _⟩ := ref_val h hc hr hx hrt h0
    obtain ⟨v1, b1, b2, b3, b4, _⟩ := ref_val h hc hr hx hrt h1
    have hlt' : ((f_X7_secondsBy S2 x rt (nI w1)).1).toNatClampNeg < 10 * (k + 1) := hlt
    show ((f_X7_secondsBy S2 x rt (nI w0)).1).toNatClampNeg = ((f_X7_secondsBy S2 x rt (nI w1)).1).toNatClampNeg
    rw [b3, nI_clamp (by omega)] at hlt' ⊢
    rw [a3, nI_clamp (by omega)]
    have := solo_pre h hc hr hx hrt h0 h1 hk he b4 hlt'
    exact (nI_eq (by omega) (by omega)).mp (a2.symm.trans this)
theorem nIe {a b : Nat} (h : a = b) : nI a = nI b := by rw [h]
theorem mnN {a b : Nat} (ha : a < 2 ^ 31) (hb : b < 2 ^ 31) : mn (nI a) (nI b) = nI (min a b) := by
  apply eq_i.mpr
  rw [mn_i, nI_toInt ha, nI_toInt hb, nI_toInt (by omega)]
  omega
theorem sh1 : ∀ k : Fin 8, 1 <<< (nI k.val &&& 31) = nI (2 ^ k.val) ∧ 2 <<< (nI k.val &&& 31) = nI (2 ^ (k.val + 1)) := by decide +kernel
theorem best_in {C S : Mem} {x rt : Int32} {v : Nat → Nat} (hv : ∀ w, w < 256 → v w ≤ 400) (hc : ∀ Cx w, GC C S Cx → w < 256 → (f_X6_secondsAlone Cx x rt (nI w)).1 = nI (v w) ∧ GC C S (f_X6_secondsAlone Cx x rt (nI w)).2) {k : Nat} (hk : k < 8) : ∀ (c w f : Nat) (Cx : Mem), c + w = 2 ^ (k + 1) → w ≤ 256 → c < f → GC C S Cx → Mn v w < 2 ^ 30 →
    (lp_X6_bestAlone_46' f x rt (nI k) Cx (nI (Mn v w)) (nI w)).1 = nI (Mn v (2 ^ (k + 1))) ∧ GC C S (lp_X6_bestAlone_46' f x rt (nI k) Cx (nI (Mn v w)) (nI w)).2 := by
  have h2 := (sh1 ⟨k, hk⟩).2
  have hp : 2 ^ (k + 1) ≤ 256 := by
    have : (2 : Nat) ^ (k + 1) ≤ 2 ^ 8 := Nat.pow_le_pow_right (by omega) (by omega)
    exact this
  simp only at h2
  intro c
  induction c with
  | zero =>
    intro w f Cx hw _ hf hg _
    obtain ⟨f, rfl⟩ : ∃ y, f = y + 1 := ⟨f - 1, by omega⟩
    have e : w = 2 ^ (k + 1) := by omega
    rw [lp_X6_bestAlone_46', h2, if_pos (nI_le (by omega) (by omega)), ← e]
    exact ⟨rfl, hg⟩
  | succ c ih =>
    intro w f Cx hw hw2 hf hg hM
    obtain ⟨f, rfl⟩ : ∃ y, f = y + 1 := ⟨f - 1, by omega⟩
    rw [lp_X6_bestAlone_46', h2, if_neg (nI_ge (by omega) (by omega))]
    simp only [bnd_nr, bnd2_nr]
    obtain ⟨q1, q2⟩ := hc Cx w hg (by omega)
    have hvw := hv w (by omega)
    have e : mn (nI (Mn v w)) ((f_X6_secondsAlone Cx x rt (nI w)).1 * 256 + nI w) = nI (Mn v (w + 1)) := by
      rw [q1, show (256 : Int32) = nI 256 by decide, pk_mul, nI_add, mnN (by omega) (by omega), Nat.mul_comm (v w) 256]; rfl
    rw [e, nI_1]
    refine ih (w + 1) f _ (by omega) (by omega) (by omega) q2 ?_
    show min (Mn v w) (Eb v w) < 2 ^ 30
    omega
theorem Mn_bound {v : Nat → Nat} (hv : ∀ w, w < 256 → v w ≤ 400) {n : Nat} (hn : n ≤ 256) : Mn v n < 110000 := by
  obtain ⟨b, h1, h2⟩ := Mn_mem (v := v) n
  rw [h2]
  have := hv b (by omega)
  unfold Eb
  omega
theorem best_out {C S : Mem} {x rt : Int32} {v : Nat → Nat} (hv : ∀ w, w < 256 → v w ≤ 400) (hc : ∀ Cx w, GC C S Cx → w < 256 → (f_X6_secondsAlone Cx x rt (nI w)).1 = nI (v w) ∧ GC C S (f_X6_secondsAlone Cx x rt (nI w)).2) (hp : ∀ k w0 w1, k ≤ 8 → w0 < 256 → w1 < 256 → w0 % 2 ^ k = w1 % 2 ^ k → v w1 < 10 * (k + 1) → v w0 = v w1) :
    ∀ (c k f : Nat) (Cx : Mem), c + k = 8 → c < f → GC C S Cx → (lp_X6_bestAlone_15 f x rt Cx (nI (Mn v (2 ^ k))) (nI k)).1 = nI (Mn v 256) ∧ GC C S (lp_X6_bestAlone_15 f x rt Cx (nI (Mn v (2 ^ k))) (nI k)).2 := by
  intro c
  induction c with
  | zero =>
    intro k f Cx hk hf hg
    obtain ⟨f, rfl⟩ : ∃ y, f = y + 1 := ⟨f - 1, by omega⟩
    obtain rfl : k = 8 := by omega
    rw [lp_X6_bestAlone_15, if_pos (show (8 : Int32) ≤ nI 8 by decide)]
    exact ⟨rfl, hg⟩
  | succ c ih =>
    intro k f Cx hk hf hg
    obtain ⟨f, rfl⟩ : ∃ y, f = y + 1 := ⟨f - 1, by omega⟩
    have hk8 : k < 8 := by omega
    have hpk : 2 ^ k ≤ 128 := by
      have : (2 : Nat) ^ k ≤ 2 ^ 7 := Nat.pow_le_pow_right (by omega) (by omega)
      exact this
    have hpos : 0 < 2 ^ k := Nat.pow_pos (by omega)
    have hpp : 2 ^ (k + 1) = 2 * 2 ^ k := by rw [Nat.pow_succ, Nat.mul_comm]
    have hb := Mn_bound hv (show 2 ^ k ≤ 256 by omega)
    rw [lp_X6_bestAlone_15, if_neg (show ¬ (8 : Int32) ≤ nI k from nI_ge (b := 8) hk8 (by decide))]
    have e1 : (nI k + 1) * 10 = nI ((k + 1) * 10) := by rw [nI_1]; exact pk_mul (k + 1) 10
    have e2 : nI (Mn v (2 ^ k)) / 256 = nI (Mn v (2 ^ k) / 256) := pk_div (d := 256) (by omega) (by decide) (by decide)
    rw [e1, e2]
    by_cases hlt : (k + 1) * 10 < Mn v (2 ^ k) / 256
    · rw [if_pos (nI_lt hlt (by omega))]
      simp only [bnd_nr, bnd2_nr]
      obtain ⟨s1, s2⟩ := sh1 ⟨k, hk8⟩
      simp only at s1 s2
      rw [s1, s2, nI_toInt (by omega), nI_toInt (by omega), nI_1]
      obtain ⟨r1, r2⟩ := best_in hv hc hk8 (2 ^ k) (2 ^ k) (((2 ^ (k + 1) : Nat) : Int) - ((2 ^ k : Nat) : Int)).toNat.succ Cx (by omega) (by omega) (by omega) hg (by omega)
      rw [show (((2 ^ (k + 1) : Nat) : Int) - ((2 ^ k : Nat) : Int)).toNat + 1 = (((2 ^ (k + 1) : Nat) : Int) - ((2 ^ k : Nat) : Int)).toNat.succ from rfl, r1]
      exact ih (k + 1) f _ (by omega) (by omega) r2
    · rw [if_neg (nI_nlt (by omega) (by omega))]
      -- no later turn can make it better
      have hconst : Mn v 256 = Mn v (2 ^ k) := by
        have := Mn_const (v := v) (2 ^ k) (256 - 2 ^ k) (fun w h1 h2 => by
          have hw : w < 256 := by omega
          by_cases hvw : v w < 10 * (k + 1)
          · have hm : w % 2 ^ k < 2 ^ k := Nat.mod_lt _ hpos
            have := hp k (w % 2 ^ k) w (by omega) (by omega) hw (Nat.mod_mod _ _) hvw
            have h3 := Mn_le (v := v) (2 ^ k) (w % 2 ^ k) hm
            unfold Eb at h3 ⊢
            rw [this] at h3
            omega
          · obtain ⟨b, b1, b2⟩ := Mn_mem (v := v) (2 ^ k)
            rw [b2] at hlt ⊢
            unfold Eb at hlt ⊢
            omega)
        rw [← this]
        congr 1
        omega
      rw [hconst]
      exact ⟨rfl, hg⟩
theorem bestAlone_ok {C S Cx : Mem} {x rt : Int32} {v : Nat → Nat} (hv : ∀ w, w < 256 → v w ≤ 400) (hc : ∀ Cx w, GC C S Cx → w < 256 → (f_X6_secondsAlone Cx x rt (nI w)).1 = nI (v w) ∧ GC C S (f_X6_secondsAlone Cx x rt (nI w)).2) (hp : ∀ k w0 w1, k ≤ 8 → w0 < 256 → w1 < 256 → w0 % 2 ^ k = w1 % 2 ^ k → v w1 < 10 * (k + 1) → v w0 = v w1) (hg : GC C S Cx) :
    (f_X6_bestAlone Cx x rt).1 = nI (Mn v 256) ∧ GC C S (f_X6_bestAlone Cx x rt).2 := by
  unfold f_X6_bestAlone
  simp only [bnd_nr, bnd2_nr]
  obtain ⟨q1, q2⟩ := hc Cx 0 hg (by omega)
  rw [show nI 0 = (0 : Int32) from rfl] at q1 q2
  have e0 : Mn v (2 ^ 0) = 256 * v 0 := by
    show min (Eb v 0) (Eb v 0) = _
    unfold Eb; omega
  have e : (f_X6_secondsAlone Cx x rt 0).1 * 256 = nI (Mn v (2 ^ 0)) := by
    rw [q1, e0, Nat.mul_comm]; exact pk_mul (v 0) 256
  rw [e]
  exact best_out hv hc hp 8 0 9 _ (by omega) (by omega) q2
theorem bestM_lp {S : Mem} {x rt : Int32} {v : Nat → Nat} (hv : ∀ w, w < 256 → v w ≤ 400) (hr : ∀ Sx w, GR S Sx → w < 256 → (f_X7_secondsBy Sx x rt (nI w)).1 = nI (v w) ∧ GR S (f_X7_secondsBy Sx x rt (nI w)).2 ∧ (f_X7_secondsBy Sx x rt (nI w)).2 0 41 = Sx 0 41) :
    ∀ (c w f : Nat) (Sx : Mem) (y : Int32), c + w = 256 → c < f → GR S Sx → (w = 0 ∧ y = 999 ∨ 0 < w ∧ y = nI (Mn v w / 256) ∧ Sx 0 41 = nI (Mn v w % 256)) → (lp_X7_bestSeconds_7 f x rt Sx y (nI w)).1 = nI (Mn v 256 / 256) ∧ (lp_X7_bestSeconds_7 f x rt Sx y (nI w)).2 0 41 = nI (Mn v 256 % 256) ∧ GR S (lp_X7_bestSeconds_7 f x rt Sx y (nI w)).2 := by
  intro c
  induction c with
  | zero =>
    intro w f Sx y hw hf hg hy
    obtain ⟨f, rfl⟩ : ∃ z, f = z + 1 := ⟨f - 1, by omega⟩
    obtain rfl : w = 256 := by omega
    rw [lp_X7_bestSeconds_7, if_pos (show (256 : Int32) ≤ nI 256 by decide)]
    obtain ⟨_, y1, y2⟩ := hy.resolve_left (by omega)
    exact ⟨y1, y2, hg⟩
  | succ c ih =>
    intro w f Sx y hw hf hg hy
    obtain ⟨f, rfl⟩ : ∃ z, f = z + 1 := ⟨f - 1, by omega⟩
    rw [lp_X7_bestSeconds_7, if_neg (show ¬ (256 : Int32) ≤ nI w from nI_ge (b := 256) (by omega) (by decide))]
    simp only [bnd_nr, bnd2_nr]
    obtain ⟨q1, q2, q3⟩ := hr Sx w hg (by omega)
    rw [q1, q3, nI_1]
    have hvw := hv w (by omega)
    have hg2 : ∀ z, GR S (up2 (f_X7_secondsBy Sx x rt (nI w)).2 0 41 z) := fun z => GR_of q2 (fun j q p1 p2 p3 p4 => up2_n _ _ (by omega))
    refine ih (w + 1) f _ _ (by omega) (by omega) (hg2 _) (Or.inr ⟨by omega, ?_⟩)
    have eM : Mn v (w + 1) = min (Mn v w) (256 * v w + w) := rfl
    rw [up2_s]
    rcases hy with ⟨rfl, rfl⟩ | ⟨hw0, rfl, hy2⟩
    · have hle : ¬ (999 : Int32) ≤ nI (v 0) := nI_ge (b := 999) (by omega) (by decide)
      have e1 : Mn v (0 + 1) = 256 * v 0 + 0 := by rw [eM]; show min (256 * v 0 + 0) (256 * v 0 + 0) = _; omega
      rw [if_neg hle, if_neg hle, e1]
      exact ⟨nIe (by omega), nIe (by omega)⟩
    · have hb := Mn_bound hv (show w ≤ 256 by omega)
      obtain ⟨b, b1, b2⟩ := Mn_mem (v := v) w
      unfold Eb at b2
      have hle : nI (Mn v w / 256) ≤ nI (v w) ↔ Mn v w / 256 ≤ v w := nI_leI (by omega) (by omega)
      by_cases hc : Mn v w / 256 ≤ v w
      · rw [if_pos (hle.mpr hc), if_pos (hle.mpr hc), hy2]
        have : Mn v (w + 1) = Mn v w := by rw [eM]; omega
        rw [this]; exact ⟨rfl, rfl⟩
      · rw [if_neg (fun q => hc (hle.mp q)), if_neg (fun q => hc (hle.mp q))]
        have : Mn v (w + 1) = 256 * v w + w := by rw [eM]; omega
        rw [this]
        exact ⟨nIe (by omega), nIe (by omega)⟩
theorem bestM_ok {S Sx : Mem} {x rt : Int32} {v : Nat → Nat} (hv : ∀ w, w < 256 → v w ≤ 400) (hr : ∀ Sx w, GR S Sx → w < 256 → (f_X7_secondsBy Sx x rt (nI w)).1 = nI (v w) ∧ GR S (f_X7_secondsBy Sx x rt (nI w)).2 ∧ (f_X7_secondsBy Sx x rt (nI w)).2 0 41 = Sx 0 41) (hg : GR S Sx) :
    (f_X7_bestSeconds Sx x rt).1 = nI (Mn v 256 / 256) ∧ (f_X7_bestSeconds Sx x rt).2 0 41 = nI (Mn v 256 % 256) ∧ GR S (f_X7_bestSeconds Sx x rt).2 := by
  unfold f_X7_bestSeconds
  simp only [bnd2_nr]
  have := bestM_lp hv hr 256 0 257 Sx 999 (by omega) (by omega) hg (Or.inl ⟨rfl, rfl⟩)
  rw [show nI 0 = (0 : Int32) from rfl] at this
  exact this
theorem sim_tacks : S_tacks Core := by
  intro C R a1 a2 a3 hC _ _ hrt
  have h19 := Core_19 hC 0
  unfold f_X6_tacks f_X7_tacks
  simp only [bnd_nr, bnd2_nr]
  generalize up2 R 0 19 0 = S at h19 ⊢
  by_cases hx : bx a1
  · rw [if_neg (fun q => inBay_iff.mp q hx), if_neg (fun q => isPlace_iff.mp q hx)]
    rcases in_case a3 255 (by omega) 255 (by decide) with ⟨g1, g2⟩ | ⟨g1, w, hw, rfl⟩
    · rw [if_neg (not_not_intro g1)]
      rcases g2 with g2 | g2
      · rw [if_pos g2]; exact ⟨rfl, h19⟩
      · rw [le_i, nI_toInt (by omega)] at g2
        rw [if_neg (show ¬ a3 < 0 by rw [lt_i, k0]; omega), if_neg (show ¬ a3 < 256 by rw [lt_i, show (256 : Int32).toInt = 256 by decide]; omega)]; exact ⟨rfl, h19⟩
    · rw [if_pos g1, if_neg (nI_pos (by omega)), if_pos (show nI w < (256 : Int32) from nI_lt (b := 256) (by omega) (by decide))]
      obtain ⟨v, b1, b2, b3, _, b5, b6, _⟩ := ref_val h19 (GC_0 h19) (GR_0 h19) hx hrt (show w < 256 by omega)
      generalize f_X7_secondsBy (f_X7_layWinds (f_X7_open S)) a1 a2 (nI w) = P at b3 b6 ⊢
      generalize f_X6_secondsAlone C a1 a2 (nI w) = Q at b2 b5 ⊢
      have hB := MS_back h19 (MS_of b5 b6)
      dsimp only
      exact ⟨b2.trans b3.symm, hB⟩
  · rw [if_pos (inBay_iff.mpr hx), if_pos (isPlace_iff.mpr hx)]; exact ⟨rfl, h19⟩
theorem sim_best : S_best Core := by
  intro C R a1 a2 a3 hC _ _ hrt
  have h19 := Core_19 hC 0
  unfold f_X6_best f_X7_best
  simp only [bnd_nr, bnd2_nr]
  generalize up2 R 0 19 0 = S at h19 ⊢
  by_cases hx : bx a1
  · rw [if_neg (fun q => inBay_iff.mp q hx), if_neg (fun q => isPlace_iff.mp q hx)]
    rcases in_case a3 1 (by omega) 1 (by decide) with ⟨g1, g2⟩ | ⟨g1, w, hw, rfl⟩
    · rw [if_neg (not_not_intro g1)]
      rcases g2 with g2 | g2
      · rw [if_pos g2]; exact ⟨rfl, h19⟩
      · rw [le_i, nI_toInt (by omega)] at g2
        rw [if_neg (show ¬ a3 < 0 by rw [lt_i, k0]; omega), if_neg (show ¬ a3 ≤ 1 by rw [le_i, k1]; omega)]; exact ⟨rfl, h19⟩
    · rw [if_pos g1, if_neg (nI_pos (by omega)), if_pos (show nI w ≤ (1 : Int32) from nI_le (b := 1) hw (by decide))]
      obtain ⟨v, v1, v2, v3, v4⟩ := vals h19 hx hrt
      obtain ⟨b1, b2⟩ := bestAlone_ok v1 v2 v4 (GC_0 h19)
      obtain ⟨c1, c2, c3⟩ := bestM_ok v1 v3 (GR_0 h19)
      generalize f_X7_bestSeconds (f_X7_layWinds (f_X7_open S)) a1 a2 = P at c1 c2 c3 ⊢
      generalize f_X6_bestAlone C a1 a2 = Q at b1 b2 ⊢
      have hM := Mn_bound v1 (show 256 ≤ 256 by omega)
      have hB := MS_back h19 (MS_of b2 c3)
      dsimp only
      refine ⟨?_, hB⟩
      have d1 : Q.1 / 256 = nI (Mn v 256 / 256) := by rw [b1]; exact pk_div (d := 256) (by omega) (by decide) (by decide)
      have d2 : Q.1 - Q.1 / 256 * 256 = nI (Mn v 256 % 256) := by rw [b1]; exact pk_rem (d := 256) (by omega) (by decide) (by decide)
      have d3 : f_X7_close P.2 0 41 = nI (Mn v 256 % 256) := by rw [close_n (by rw [cry_iff]; omega) (by omega)]; exact c2
      rw [d2, d1, c1]
      have e01 : w = 0 ∨ w = 1 := by omega
      rcases e01 with rfl | rfl
      · rw [if_neg (show ¬ ¬ nI 0 = 0 by decide), if_neg (show ¬ ¬ nI 0 = 0 by decide), d3]
      · rw [if_pos (show ¬ nI 1 = 0 by decide), if_pos (show ¬ nI 1 = 0 by decide)]
  · rw [if_pos (inBay_iff.mpr hx), if_pos (isPlace_iff.mpr hx)]; exact ⟨rfl, h19⟩
theorem from_ok {C S Cx Sx : Mem} {x : Int32} (h : Core C S) (hx : bx x) (hc : GC C S Cx) (hr : GR S Sx) :
    (mn (f_X6_bestAlone Cx x 0).1 (f_X6_bestAlone (f_X6_bestAlone Cx x 0).2 x 1).1) / 256 = (f_X7_bestFrom Sx x).1 ∧ GC C S (f_X6_bestAlone (f_X6_bestAlone Cx x 0).2 x 1).2 ∧ GR S (f_X7_bestFrom Sx x).2 := by
  obtain ⟨v, v1, v2, v3, v4⟩ := vals h hx (rt := 0) (Or.inl rfl)
  obtain ⟨u, u1, u2, u3, u4⟩ := vals h hx (rt := 1) (Or.inr rfl)
  obtain ⟨a1, a2⟩ := bestAlone_ok v1 v2 v4 hc
  obtain ⟨b1, b2⟩ := bestAlone_ok u1 u2 u4 a2
  obtain ⟨c1, _, c3⟩ := bestM_ok u1 u3 hr
  obtain ⟨d1, _, d3⟩ := bestM_ok v1 v3 c3
  have hM := Mn_bound v1 (show 256 ≤ 256 by omega)
  have hN := Mn_bound u1 (show 256 ≤ 256 by omega)
  unfold f_X7_bestFrom
  simp only [bnd_nr, bnd2_nr]
  rw [a1, b1, c1, d1, mnN (by omega) (by omega)]
  refine ⟨?_, b2, d3⟩
  rw [show nI (min (Mn v 256) (Mn u 256)) / 256 = nI (min (Mn v 256) (Mn u 256) / 256) from pk_div (d := 256) (by omega) (by decide) (by decide)]
  have e : nI (Mn v 256 / 256) ≤ nI (Mn u 256 / 256) ↔ Mn v 256 / 256 ≤ Mn u 256 / 256 := nI_leI (by omega) (by omega)
  by_cases q : Mn v 256 / 256 ≤ Mn u 256 / 256
  · rw [if_pos (e.mpr q)]; exact nIe (by omega)
  · rw [if_neg (fun g => q (e.mp g))]; exact nIe (by omega)
theorem sim_sides : S_sides Core := by
  intro C R hC _ _
  have h19 := Core_19 hC 0
  unfold f_X6_sides f_X7_sides
  simp only [bnd_nr, bnd2_nr]
  generalize up2 R 0 19 0 = S at h19 ⊢
  obtain ⟨a1, a2, a3⟩ := from_ok (x := 100) h19 (by unfold bx; decide) (GC_0 h19) (GR_0 h19)
  obtain ⟨b1, b2, b3⟩ := from_ok (x := -100) h19 (by unfold bx; decide) a2 a3
  rw [a1, b1]
  have hB := MS_back h19 (MS_of b2 b3)
  exact ⟨rfl, hB⟩
