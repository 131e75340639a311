/-! lead, cover, answer, safe -/
theorem isGame_eq {x1 x2 a3 : Int32} : (f_X6_isGame x1 x2 a3 = 0 ∧ f_X7_isGame x1 x2 a3 = 0) ∨ (¬ f_X6_isGame x1 x2 a3 = 0 ∧ ¬ f_X7_isGame x1 x2 a3 = 0 ∧ bx x1 ∧ bx x2 ∧ ∃ k, k < 4 ∧ a3 = nI k) := by
  unfold f_X6_isGame f_X7_isGame
  simp only [bnd_nr]
  by_cases h1 : bx x1
  · rw [if_neg (fun q => inBay_iff.mp q h1), if_neg (fun q => isPlace_iff.mp q h1)]
    by_cases h2 : bx x2
    · rw [if_neg (fun q => inBay_iff.mp q h2), if_neg (fun q => isPlace_iff.mp q h2)]
      rcases in_case a3 3 (by omega) 3 (by decide) with ⟨g1, g2⟩ | ⟨g1, k, hk, rfl⟩
      · left
        rw [if_pos g1]
        rcases g2 with g2 | g2
        · rw [if_pos g2]; exact ⟨rfl, rfl⟩
        · rw [le_i, nI_toInt (by omega)] at g2
          rw [if_neg (show ¬ a3 < 0 by rw [lt_i, k0]; omega), if_pos (show 3 < a3 by rw [lt_i, show (3 : Int32).toInt = 3 by decide]; omega)]; exact ⟨rfl, rfl⟩
      · right
        rw [if_neg g1, if_neg (nI_pos (by omega)), if_neg (show ¬ (3 : Int32) < nI k from nI_nlt (a := 3) hk (by decide))]
        exact ⟨by decide, by decide, h1, h2, k, by omega, rfl⟩
    · left; rw [if_pos (inBay_iff.mpr h2), if_pos (isPlace_iff.mpr h2)]; exact ⟨rfl, rfl⟩
  · left; rw [if_pos (inBay_iff.mpr h1), if_pos (isPlace_iff.mpr h1)]; exact ⟨rfl, rfl⟩
theorem bits_eq {a : Int32} : (f_X6_isGameBits a = 0 ∧ f_X7_in a.toInt64 0 15 = 0) ∨ (¬ f_X6_isGameBits a = 0 ∧ ¬ f_X7_in a.toInt64 0 15 = 0 ∧ ∃ w, w < 16 ∧ a = nI w) := by
  unfold f_X6_isGameBits
  simp only [bnd_nr]
  rcases in_case a 15 (by omega) 15 (by decide) with ⟨g1, g2⟩ | ⟨g1, k, hk, rfl⟩
  · left
    refine ⟨?_, g1⟩
    rcases g2 with g2 | g2
    · rw [if_pos g2]
    · rw [le_i, nI_toInt (by omega)] at g2
      rw [if_neg (show ¬ a < 0 by rw [lt_i, k0]; omega), if_pos (show 16 ≤ a by rw [le_i, show (16 : Int32).toInt = 16 by decide]; omega)]
  · right
    rw [if_neg (nI_pos (by omega)), if_neg (show ¬ (16 : Int32) ≤ nI k from nI_ge (b := 16) (by omega) (by decide))]
    exact ⟨by decide, g1, k, by omega, rfl⟩
theorem sim_lead : S_lead Core := by
  intro C R a1 a2 a3 a4 a5 hC _ _
  have h19 := Core_19 hC 0
  unfold f_X6_lead f_X7_lead
  simp only [bnd_nr, bnd2_nr]
  generalize up2 R 0 19 0 = S at h19 ⊢
  rcases @isGame_eq a1 a2 a3 with ⟨g1, g2⟩ | ⟨g1, g2, x1, x2, k, hk, rfl⟩
  · rw [if_pos g1, if_pos g2]; exact ⟨rfl, h19⟩
  · rw [if_neg g1, if_neg g2]
    rcases @bits_eq a4 with ⟨b1, b2⟩ | ⟨b1, b2, w, hw, rfl⟩
    · rw [if_pos b1, if_pos b2]; exact ⟨rfl, h19⟩
    · rw [if_neg b1, if_neg b2]
      rcases @bits_eq a5 with ⟨c1, c2⟩ | ⟨c1, c2, u, hu, rfl⟩
      · rw [if_neg (not_not_intro c1), if_neg (not_not_intro c2)]; exact ⟨rfl, h19⟩
      · rw [if_pos c1, if_pos c2]
        obtain ⟨v1, v2, v3, v4⟩ := game_val h19 (GC_0 h19) (GR_0 h19) x1 x2 hk hw hu
        generalize f_X7_leadBy (f_X7_layWinds (f_X7_open S)) a1 a2 (nI k) (nI w) (nI u) = P at v1 v2 v4 ⊢
        generalize f_X6_gameLead C a1 a2 (nI k) (nI w) (nI u) = Q at v1 v3 ⊢
        have hB := MS_back h19 (MS_of v3 v4)
        dsimp only
        exact ⟨v1, hB⟩
theorem sim_cover : S_cover Core := by
  intro C R a1 a2 a3 a4 hC _ _
  have h19 := Core_19 hC 0
  unfold f_X6_cover f_X7_cover f_X7_lead
  simp only [bnd_nr, bnd2_nr]
  generalize up2 R 0 19 0 = S at h19 ⊢
  rcases @isGame_eq a1 a2 a3 with ⟨g1, g2⟩ | ⟨g1, g2, x1, x2, k, hk, rfl⟩
  · rw [if_pos g1, if_pos g2]; exact ⟨rfl, h19⟩
  · rw [if_neg g1, if_neg g2]
    rcases @bits_eq a4 with ⟨b1, b2⟩ | ⟨b1, b2, w, hw, rfl⟩
    · rw [if_neg (not_not_intro b1), if_pos b2]; exact ⟨rfl, h19⟩
    · rw [if_pos b1, if_neg b2, if_pos b2]
      obtain ⟨v1, v2, v3, v4⟩ := game_val h19 (GC_0 h19) (GR_0 h19) x1 x2 hk hw hw
      generalize f_X7_leadBy (f_X7_layWinds (f_X7_open S)) a1 a2 (nI k) (nI w) (nI w) = P at v1 v2 v4 ⊢
      generalize f_X6_gameLead C a1 a2 (nI k) (nI w) (nI w) = Q at v1 v3 ⊢
      have hB := MS_back h19 (MS_of v3 v4)
      dsimp only
      exact ⟨v1, hB⟩
/-- the leads: whoever asks -/
theorem leads {C S : Mem} (h : Core C S) {x1 x2 : Int32} (hx1 : bx x1) (hx2 : bx x2) {k : Nat} (hk : k < 4) : ∃ l : Nat → Nat → Int32, (∀ b o, b < 16 → o < 16 → -1000 ≤ (l b o).toInt ∧ (l b o).toInt ≤ 1000) ∧ (∀ Cx b o, GC C S Cx → b < 16 → o < 16 → (f_X6_gameLead Cx x1 x2 (nI k) (nI b) (nI o)).1 = l b o ∧ GC C S (f_X6_gameLead Cx x1 x2 (nI k) (nI b) (nI o)).2) ∧
    ∀ Sx b o, GR S Sx → b < 16 → o < 16 → (f_X7_leadBy Sx x1 x2 (nI k) (nI b) (nI o)).1 = l b o ∧ GR S (f_X7_leadBy Sx x1 x2 (nI k) (nI b) (nI o)).2 := by
  have hc := GC_0 h
  have hr := GR_0 h
  generalize f_X7_layWinds (f_X7_open S) = S2 at hr
  refine ⟨fun b o => (f_X7_leadBy S2 x1 x2 (nI k) (nI b) (nI o)).1, fun b o hb ho => (game_val h hc hr hx1 hx2 hk hb ho).2.1, fun Cx b o hcx hb ho => ?_, fun Sx b o hrx hb ho => ?_⟩
  · obtain ⟨v1, _, v3, _⟩ := game_val h hcx hr hx1 hx2 hk hb ho
    exact ⟨v1, v3⟩
  · obtain ⟨v1, _, _, v4⟩ := game_val h hc hrx hx1 hx2 hk hb ho
    obtain ⟨u1, _, _, _⟩ := game_val h hc hr hx1 hx2 hk hb ho
    exact ⟨v1.symm.trans u1, v4⟩
/-- the worst of so many answers, told with its bits -/
def Wn (l : Nat → Int32) : Nat → Int
  | 0 => 16 * (l 0).toInt
  | n + 1 => min (Wn l n) (16 * (l n).toInt + n)
theorem Wn_b {l : Nat → Int32} (hl : ∀ o, o < 16 → -1000 ≤ (l o).toInt ∧ (l o).toInt ≤ 1000) : ∀ n, n ≤ 16 → -16000 ≤ Wn l n ∧ Wn l n ≤ 16000 := by
  intro n
  induction n with
  | zero => intro _; have := hl 0 (by omega); show -16000 ≤ 16 * (l 0).toInt ∧ _; show _ ∧ 16 * (l 0).toInt ≤ 16000; omega
  | succ n ih =>
    intro hn
    have := ih (by omega)
    have h2 := hl n (by omega)
    show -16000 ≤ min (Wn l n) (16 * (l n).toInt + n) ∧ min (Wn l n) (16 * (l n).toInt + n) ≤ 16000
    omega
theorem Wn_mod {l : Nat → Int32} : ∀ n, 0 < n → n ≤ 16 → 0 ≤ Wn l n % 16 ∧ Wn l n % 16 < n := by
  intro n
  induction n with
  | zero => intro h; omega
  | succ n ih =>
    intro _ hn
    show 0 ≤ min (Wn l n) (16 * (l n).toInt + n) % 16 ∧ min (Wn l n) (16 * (l n).toInt + n) % 16 < ((n + 1 : Nat) : Int)
    by_cases h0 : n = 0
    · subst h0
      have : Wn l 0 = 16 * (l 0).toInt := rfl
      rw [this]; omega
    · have := ih (by omega) (by omega)
      by_cases h : Wn l n ≤ 16 * (l n).toInt + n
      · rw [show min (Wn l n) (16 * (l n).toInt + n) = Wn l n by omega]; omega
      · rw [show min (Wn l n) (16 * (l n).toInt + n) = 16 * (l n).toInt + n by omega]; omega
theorem enc {L : Int32} {n : Nat} (h : -1000 ≤ L.toInt ∧ L.toInt ≤ 1000) (hn : n < 16) : (L * 16 + nI n).toInt = 16 * L.toInt + n := by
  have k16 : (16 : Int32).toInt = 16 := by decide
  have e : (L * 16).toInt = 16 * L.toInt := by rw [i_mul (by rw [k16]; omega), k16]; omega
  rw [i_add (by rw [e, nI_toInt (by omega)]; omega), e, nI_toInt (by omega)]
theorem worst_lp {C S : Mem} {x1 x2 : Int32} {k b : Nat} {l : Nat → Nat → Int32} (hb : b < 16) (hl : ∀ b o, b < 16 → o < 16 → -1000 ≤ (l b o).toInt ∧ (l b o).toInt ≤ 1000) (hc : ∀ Cx b o, GC C S Cx → b < 16 → o < 16 → (f_X6_gameLead Cx x1 x2 (nI k) (nI b) (nI o)).1 = l b o ∧ GC C S (f_X6_gameLead Cx x1 x2 (nI k) (nI b) (nI o)).2) :
    ∀ (c n f : Nat) (Cx : Mem) (y : Int32), c + n = 16 → c < f → GC C S Cx → y.toInt = Wn (l b) n → (lp_X6_worstGame_18 f x1 x2 (nI k) (nI b) Cx y (nI n)).1.toInt = Wn (l b) 16 ∧ GC C S (lp_X6_worstGame_18 f x1 x2 (nI k) (nI b) Cx y (nI n)).2 := by
  intro c
  induction c with
  | zero =>
    intro n f Cx y hn hf hg hy
    obtain ⟨f, rfl⟩ : ∃ z, f = z + 1 := ⟨f - 1, by omega⟩
    obtain rfl : n = 16 := by omega
    rw [lp_X6_worstGame_18, if_pos (show (16 : Int32) ≤ nI 16 by decide)]
    exact ⟨hy, hg⟩
  | succ c ih =>
    intro n f Cx y hn hf hg hy
    obtain ⟨f, rfl⟩ : ∃ z, f = z + 1 := ⟨f - 1, by omega⟩
    rw [lp_X6_worstGame_18, if_neg (show ¬ (16 : Int32) ≤ nI n from nI_ge (b := 16) (by omega) (by decide))]
    simp only [bnd_nr, bnd2_nr]
    obtain ⟨q1, q2⟩ := hc Cx b n hg hb (by omega)
    rw [q1, nI_1]
    refine ih (n + 1) f _ _ (by omega) (by omega) q2 ?_
    rw [mn_i, hy, enc (hl b n hb (by omega)) (by omega)]
    rfl
theorem worst_ok {C S Cx : Mem} {x1 x2 : Int32} {k b : Nat} {l : Nat → Nat → Int32} (hb : b < 16) (hl : ∀ b o, b < 16 → o < 16 → -1000 ≤ (l b o).toInt ∧ (l b o).toInt ≤ 1000) (hc : ∀ Cx b o, GC C S Cx → b < 16 → o < 16 → (f_X6_gameLead Cx x1 x2 (nI k) (nI b) (nI o)).1 = l b o ∧ GC C S (f_X6_gameLead Cx x1 x2 (nI k) (nI b) (nI o)).2) (hg : GC C S Cx) :
    (f_X6_worstGame Cx x1 x2 (nI k) (nI b)).1.toInt = Wn (l b) 16 ∧ GC C S (f_X6_worstGame Cx x1 x2 (nI k) (nI b)).2 := by
  unfold f_X6_worstGame
  simp only [bnd_nr, bnd2_nr]
  obtain ⟨q1, q2⟩ := hc Cx b 0 hg hb (by omega)
  rw [show nI 0 = (0 : Int32) from rfl] at q1 q2
  have h0 := hl b 0 hb (by omega)
  have e1 : Wn (l b) 1 = 16 * (l b 0).toInt := by show min (16 * (l b 0).toInt) (16 * (l b 0).toInt + ((0 : Nat) : Int)) = _; omega
  have e : ((f_X6_gameLead Cx x1 x2 (nI k) (nI b) 0).1 * 16).toInt = Wn (l b) 1 := by
    rw [q1, e1]
    have := enc h0 (show 0 < 16 by omega)
    rw [show nI 0 = (0 : Int32) from rfl, Int32.add_zero] at this
    rw [this]; omega
  exact worst_lp hb hl hc 15 1 16 _ _ (by omega) (by omega) q2 e
theorem tdiv_c {a : Int32} (h : -16000 ≤ a.toInt ∧ a.toInt ≤ 16000) : (a / 16).toInt = a.toInt.tdiv 16 := by
  rw [Int32.toInt_div, show (16 : Int32).toInt = 16 by decide]
  refine Int.bmod_eq_of_le ?_ ?_
  · have := Int.mul_tdiv_add_tmod a.toInt 16
    have h1 := Int.tmod_lt_of_pos a.toInt (show (0 : Int) < 16 by omega)
    have h2 : -16 < a.toInt.tmod 16 := Int.lt_tmod_of_pos a.toInt (by omega)
    omega
  · have := Int.mul_tdiv_add_tmod a.toInt 16
    have h1 := Int.tmod_lt_of_pos a.toInt (show (0 : Int) < 16 by omega)
    have h2 : -16 < a.toInt.tmod 16 := Int.lt_tmod_of_pos a.toInt (by omega)
    omega
theorem xor_sgn (a : Int32) : (0 ≤ a ^^^ 16) ↔ 0 ≤ a.toInt := by
  have e : ∀ x : Int32, (0 ≤ x) ↔ x.toBitVec.msb = false := fun x => by
    rw [le_i, k0, ← Int32.toInt_toBitVec, BitVec.toInt_eq_msb_cond]
    have := x.toBitVec.isLt
    by_cases q : x.toBitVec.msb
    · rw [if_pos q, q]; exact ⟨fun z => by omega, fun z => absurd z (by decide)⟩
    · rw [if_neg q]; exact ⟨fun _ => by simpa using q, fun _ => by omega⟩
  have e2 : (0 ≤ a) ↔ 0 ≤ a.toInt := by rw [le_i, k0]
  rw [← e2, e, e, Int32.toBitVec_xor, BitVec.msb_xor, show (16 : Int32).toBitVec.msb = false by decide, Bool.xor_false]
theorem floors {a : Int32} (h : -16000 ≤ a.toInt ∧ a.toInt ≤ 16000) : (f_J9_floorDiv_7cf53 a 16).toInt = a.toInt / 16 ∧ (f_J9_floorMod_7cf53 a 16).toInt = a.toInt % 16 := by
  have k16 : (16 : Int32).toInt = 16 := by decide
  have hd := tdiv_c h
  have t0 := Int.mul_tdiv_add_tmod a.toInt 16
  have t1 := Int.tmod_lt_of_pos a.toInt (show (0 : Int) < 16 by omega)
  have t2 : -16 < a.toInt.tmod 16 := Int.lt_tmod_of_pos a.toInt (by omega)
  have tn : 0 ≤ a.toInt → 0 ≤ a.toInt.tmod 16 := fun q => Int.tmod_nonneg _ q
  have tp : a.toInt < 0 → a.toInt.tmod 16 ≤ 0 := fun q => by
    have := Int.tmod_nonneg (a := -a.toInt) 16 (by omega)
    rw [Int.neg_tmod] at this
    omega
  have hm : (a / 16 * 16).toInt = a.toInt - a.toInt.tmod 16 := by rw [i_mul (by rw [k16, hd]; omega), k16, hd]; omega
  have hr : (a - a / 16 * 16).toInt = a.toInt.tmod 16 := by rw [i_sub (by rw [hm]; omega), hm]; omega
  have hx := xor_sgn a
  unfold f_J9_floorDiv_7cf53 f_J9_floorMod_7cf53
  simp only [bnd_nr]
  by_cases c : 0 ≤ a.toInt
  · rw [if_pos (hx.mpr c), if_pos (hx.mpr c), hd, hr]
    have := tn c
    exact ⟨by omega, by omega⟩
  · have := tp (by omega)
    rw [if_neg (fun q => c (hx.mp q)), if_neg (fun q => c (hx.mp q))]
    have i1 : a / 16 * 16 = a ↔ a.toInt.tmod 16 = 0 := by rw [eq_i, hm]; omega
    have i2 : a - a / 16 * 16 = 0 ↔ a.toInt.tmod 16 = 0 := by rw [eq_i, hr, k0]
    by_cases z : a.toInt.tmod 16 = 0
    · rw [if_pos (i1.mpr z), if_pos (i2.mpr z), hd, hr]
      exact ⟨by omega, by omega⟩
    · rw [if_neg (fun q => z (i1.mp q)), if_neg (fun q => z (i2.mp q)), i_sub (by rw [hd, k1]; omega), hd, k1, i_add (by rw [hr, k16]; omega), hr, k16]
      exact ⟨by omega, by omega⟩
theorem leastM_lp {S : Mem} {x1 x2 : Int32} {k b : Nat} {l : Nat → Nat → Int32} (hb : b < 16) (hl : ∀ b o, b < 16 → o < 16 → -1000 ≤ (l b o).toInt ∧ (l b o).toInt ≤ 1000) (hr : ∀ Sx b o, GR S Sx → b < 16 → o < 16 → (f_X7_leadBy Sx x1 x2 (nI k) (nI b) (nI o)).1 = l b o ∧ GR S (f_X7_leadBy Sx x1 x2 (nI k) (nI b) (nI o)).2) :
    ∀ (c n f : Nat) (Sx : Mem) (y z : Int32), c + n = 16 → c < f → GR S Sx → (n = 0 ∧ z.toInt = 1000000000 ∨ 0 < n ∧ z.toInt = Wn (l b) n / 16 ∧ y.toInt = Wn (l b) n % 16) →
      (lp_X7_answer_48 f x1 x2 (nI k) (nI b) Sx y z (nI n)).1.toInt = Wn (l b) 16 % 16 ∧ GR S (lp_X7_answer_48 f x1 x2 (nI k) (nI b) Sx y z (nI n)).2 ∧ (lp_X7_safe_63'' f x1 x2 (nI k) (nI b) Sx z (nI n)).1.toInt = Wn (l b) 16 / 16 ∧ GR S (lp_X7_safe_63'' f x1 x2 (nI k) (nI b) Sx z (nI n)).2 := by
  intro c
  induction c with
  | zero =>
    intro n f Sx y z hn hf hg hz
    obtain ⟨f, rfl⟩ : ∃ z, f = z + 1 := ⟨f - 1, by omega⟩
    obtain rfl : n = 16 := by omega
    obtain ⟨_, z1, z2⟩ := hz.resolve_left (by omega)
    rw [lp_X7_answer_48, lp_X7_safe_63'', if_pos (show (16 : Int32) ≤ nI 16 by decide), if_pos (show (16 : Int32) ≤ nI 16 by decide)]
    exact ⟨z2, hg, z1, hg⟩
  | succ c ih =>
    intro n f Sx y z hn hf hg hz
    obtain ⟨f, rfl⟩ : ∃ z, f = z + 1 := ⟨f - 1, by omega⟩
    rw [lp_X7_answer_48, lp_X7_safe_63'', if_neg (show ¬ (16 : Int32) ≤ nI n from nI_ge (b := 16) (by omega) (by decide)), if_neg (show ¬ (16 : Int32) ≤ nI n from nI_ge (b := 16) (by omega) (by decide))]
    simp only [bnd_nr, bnd2_nr]
    obtain ⟨q1, q2⟩ := hr Sx b n hg hb (by omega)
    rw [q1, nI_1]
    have hb2 := hl b n hb (by omega)
    refine ih (n + 1) f _ _ _ (by omega) (by omega) q2 (Or.inr ⟨by omega, ?_⟩)
    have eW : Wn (l b) (n + 1) = min (Wn (l b) n) (16 * (l b n).toInt + n) := rfl
    have hle : z ≤ l b n ↔ z.toInt ≤ (l b n).toInt := le_i
    have hnn : (nI n).toInt = n := nI_toInt (by omega)
    rcases hz with ⟨rfl, z1⟩ | ⟨h0, z1, z2⟩
    · rw [if_neg (fun q => by have := hle.mp q; omega), if_neg (fun q => by have := hle.mp q; omega)]
      have e0 : Wn (l b) 0 = 16 * (l b 0).toInt := rfl
      rw [eW, e0, hnn]; omega
    · have hm := Wn_mod (l := l b) n h0 (by omega)
      by_cases q : z.toInt ≤ (l b n).toInt
      · rw [if_pos (hle.mpr q), if_pos (hle.mpr q), eW]; omega
      · rw [if_neg (fun g => q (hle.mp g)), if_neg (fun g => q (hle.mp g)), eW, hnn]; omega
theorem sim_answer : S_answer Core := by
  intro C R a1 a2 a3 a4 hC _ _
  have h19 := Core_19 hC 0
  unfold f_X6_answer f_X7_answer
  simp only [bnd_nr, bnd2_nr]
  generalize up2 R 0 19 0 = S at h19 ⊢
  rcases @isGame_eq a1 a2 a3 with ⟨g1, g2⟩ | ⟨g1, g2, x1, x2, k, hk, rfl⟩
  · rw [if_pos g1, if_pos g2]; exact ⟨rfl, h19⟩
  · rw [if_neg g1, if_neg g2]
    rcases @bits_eq a4 with ⟨b1, b2⟩ | ⟨b1, b2, w, hw, rfl⟩
    · rw [if_neg (not_not_intro b1), if_neg (not_not_intro b2)]; exact ⟨rfl, h19⟩
    · rw [if_pos b1, if_pos b2]
      obtain ⟨l, l1, l2, l3⟩ := leads h19 x1 x2 hk
      obtain ⟨p1, p2⟩ := worst_ok hw l1 l2 (GC_0 h19)
      obtain ⟨r1, r2, _, _⟩ := leastM_lp hw l1 l3 16 0 17 (f_X7_layWinds (f_X7_open S)) 0 1000000000 (by omega) (by omega) (GR_0 h19) (Or.inl ⟨rfl, by decide⟩)
      rw [show nI 0 = (0 : Int32) from rfl] at r1 r2
      generalize lp_X7_answer_48 17 a1 a2 (nI k) (nI w) (f_X7_layWinds (f_X7_open S)) 0 1000000000 0 = P at r1 r2 ⊢
      generalize f_X6_worstGame C a1 a2 (nI k) (nI w) = Q at p1 p2 ⊢
      have hB := MS_back h19 (MS_of p2 r2)
      dsimp only
      refine ⟨?_, hB⟩
      have hbd := Wn_b (l1 w · hw) 16 (by omega)
      rw [eq_i, (floors (by rw [p1]; exact hbd)).2, p1, r1]
/-- the surest of so many bits -/
def Sf (m : Nat → Int) : Nat → Int × Nat
  | 0 => (m 0, 0)
  | n + 1 => if (Sf m n).1 < m n then (m n, n) else Sf m n
theorem safeC_lp {C S : Mem} {x1 x2 : Int32} {k : Nat} {l : Nat → Nat → Int32} (hl : ∀ b o, b < 16 → o < 16 → -1000 ≤ (l b o).toInt ∧ (l b o).toInt ≤ 1000) (hc : ∀ Cx b o, GC C S Cx → b < 16 → o < 16 → (f_X6_gameLead Cx x1 x2 (nI k) (nI b) (nI o)).1 = l b o ∧ GC C S (f_X6_gameLead Cx x1 x2 (nI k) (nI b) (nI o)).2) :
    ∀ (c n f : Nat) (Cx : Mem) (y z : Int32), c + n = 16 → c < f → GC C S Cx → z.toInt = (Sf (fun b => Wn (l b) 16 / 16) n).1 → y = nI (Sf (fun b => Wn (l b) 16 / 16) n).2 →
      (lp_X6_safe_44 f x1 x2 (nI k) Cx y z (nI n)).1 = nI (Sf (fun b => Wn (l b) 16 / 16) 16).2 ∧ (lp_X6_safe_44 f x1 x2 (nI k) Cx y z (nI n)).2.1.toInt = (Sf (fun b => Wn (l b) 16 / 16) 16).1 ∧ GC C S (lp_X6_safe_44 f x1 x2 (nI k) Cx y z (nI n)).2.2 := by
  intro c
  induction c with
  | zero =>
    intro n f Cx y z hn hf hg hz hy
    obtain ⟨f, rfl⟩ : ∃ z, f = z + 1 := ⟨f - 1, by omega⟩
    obtain rfl : n = 16 := by omega
    rw [lp_X6_safe_44, if_pos (show (16 : Int32) ≤ nI 16 by decide)]
    exact ⟨hy, hz, hg⟩
  | succ c ih =>
    intro n f Cx y z hn hf hg hz hy
    obtain ⟨f, rfl⟩ : ∃ z, f = z + 1 := ⟨f - 1, by omega⟩
    rw [lp_X6_safe_44, if_neg (show ¬ (16 : Int32) ≤ nI n from nI_ge (b := 16) (by omega) (by decide))]
    simp only [bnd_nr, bnd2_nr]
    have hn16 : n < 16 := by omega
    obtain ⟨p1, p2⟩ := worst_ok (x1 := x1) (x2 := x2) (k := k) hn16 hl hc hg
    have hbd := Wn_b (hl n · hn16) 16 (by omega)
    have hfl := (floors (a := (f_X6_worstGame Cx x1 x2 (nI k) (nI n)).1) (by rw [p1]; exact hbd)).1
    rw [p1] at hfl
    rw [nI_1]
    generalize f_J9_floorDiv_7cf53 (f_X6_worstGame Cx x1 x2 (nI k) (nI n)).1 16 = u at hfl
    have hle : u ≤ z ↔ Wn (l n) 16 / 16 ≤ (Sf (fun b => Wn (l b) 16 / 16) n).1 := by rw [le_i, hfl, hz]
    have eS : Sf (fun b => Wn (l b) 16 / 16) (n + 1) = if (Sf (fun b => Wn (l b) 16 / 16) n).1 < Wn (l n) 16 / 16 then (Wn (l n) 16 / 16, n) else Sf (fun b => Wn (l b) 16 / 16) n := rfl
    by_cases q : u ≤ z
    · rw [if_pos q]
      refine ih (n + 1) f _ _ _ (by omega) (by omega) p2 ?_ ?_
      · rw [eS, if_neg (by have := hle.mp q; omega)]; exact hz
      · rw [eS, if_neg (by have := hle.mp q; omega)]; exact hy
    · rw [if_neg q]
      have hq : (Sf (fun b => Wn (l b) 16 / 16) n).1 < Wn (l n) 16 / 16 := by
        have : ¬ Wn (l n) 16 / 16 ≤ (Sf (fun b => Wn (l b) 16 / 16) n).1 := fun g => q (hle.mpr g)
        omega
      refine ih (n + 1) f _ _ _ (by omega) (by omega) p2 ?_ ?_
      · rw [eS, if_pos hq]; exact hfl
      · rw [eS, if_pos hq]
theorem safeM_lp {S : Mem} {x1 x2 : Int32} {k : Nat} {l : Nat → Nat → Int32} (hl : ∀ b o, b < 16 → o < 16 → -1000 ≤ (l b o).toInt ∧ (l b o).toInt ≤ 1000) (hr : ∀ Sx b o, GR S Sx → b < 16 → o < 16 → (f_X7_leadBy Sx x1 x2 (nI k) (nI b) (nI o)).1 = l b o ∧ GR S (f_X7_leadBy Sx x1 x2 (nI k) (nI b) (nI o)).2) :
    ∀ (c n f : Nat) (Sx : Mem) (y z : Int32), c + n = 16 → c < f → GR S Sx → (n = 0 ∧ z.toInt = -1000000000 ∨ 0 < n ∧ z.toInt = (Sf (fun b => Wn (l b) 16 / 16) n).1 ∧ y = nI (Sf (fun b => Wn (l b) 16 / 16) n).2) →
      (lp_X7_safe_48 f x1 x2 (nI k) Sx y z (nI n)).1 = nI (Sf (fun b => Wn (l b) 16 / 16) 16).2 ∧ (lp_X7_safe_48 f x1 x2 (nI k) Sx y z (nI n)).2.1.toInt = (Sf (fun b => Wn (l b) 16 / 16) 16).1 ∧ GR S (lp_X7_safe_48 f x1 x2 (nI k) Sx y z (nI n)).2.2 := by
  intro c
  induction c with
  | zero =>
    intro n f Sx y z hn hf hg hz
    obtain ⟨f, rfl⟩ : ∃ z, f = z + 1 := ⟨f - 1, by omega⟩
    obtain rfl : n = 16 := by omega
    obtain ⟨_, z1, z2⟩ := hz.resolve_left (by omega)
    rw [lp_X7_safe_48, if_pos (show (16 : Int32) ≤ nI 16 by decide)]
    exact ⟨z2, z1, hg⟩
  | succ c ih =>
    intro n f Sx y z hn hf hg hz
    obtain ⟨f, rfl⟩ : ∃ z, f = z + 1 := ⟨f - 1, by omega⟩
    rw [lp_X7_safe_48, if_neg (show ¬ (16 : Int32) ≤ nI n from nI_ge (b := 16) (by omega) (by decide))]
    simp only [bnd_nr, bnd2_nr]
    have hn16 : n < 16 := by omega
    obtain ⟨_, _, r1, r2⟩ := leastM_lp (x1 := x1) (x2 := x2) (k := k) (l := l) hn16 hl hr 16 0 17 Sx 0 1000000000 (by omega) (by omega) hg (Or.inl ⟨rfl, by decide⟩)
    rw [show nI 0 = (0 : Int32) from rfl] at r1 r2
    have hbd := Wn_b (hl n · hn16) 16 (by omega)
    generalize lp_X7_safe_63'' 17 x1 x2 (nI k) (nI n) Sx 1000000000 0 = P at r1 r2 ⊢
    rw [nI_1]
    have eS : Sf (fun b => Wn (l b) 16 / 16) (n + 1) = if (Sf (fun b => Wn (l b) 16 / 16) n).1 < Wn (l n) 16 / 16 then (Wn (l n) 16 / 16, n) else Sf (fun b => Wn (l b) 16 / 16) n := rfl
    have hle : P.1 ≤ z ↔ Wn (l n) 16 / 16 ≤ z.toInt := by rw [le_i, r1]
    refine ih (n + 1) f _ _ _ (by omega) (by omega) r2 (Or.inr ⟨by omega, ?_⟩)
    rcases hz with ⟨rfl, z1⟩ | ⟨h0, z1, z2⟩
    · have q : ¬ P.1 ≤ z := fun g => by have := hle.mp g; omega
      rw [if_neg q, if_neg q]
      have e1 : Sf (fun b => Wn (l b) 16 / 16) (0 + 1) = (Wn (l 0) 16 / 16, 0) := by
        rw [eS]
        have : Sf (fun b => Wn (l b) 16 / 16) 0 = (Wn (l 0) 16 / 16, 0) := rfl
        rw [this, ite_self]
      rw [e1]
      exact ⟨r1, rfl⟩
    · by_cases q : P.1 ≤ z
      · rw [if_pos q, if_pos q]
        have hq := hle.mp q
        rw [eS, if_neg (by omega)]
        exact ⟨z1, z2⟩
      · rw [if_neg q, if_neg q]
        have hq : ¬ Wn (l n) 16 / 16 ≤ z.toInt := fun g => q (hle.mpr g)
        rw [eS, if_pos (by omega)]
        exact ⟨r1, rfl⟩
theorem sim_safe : S_safe Core := by
  intro C R a1 a2 a3 a4 hC _ _
  have h19 := Core_19 hC 0
  unfold f_X6_safe f_X7_safe
  simp only [bnd_nr, bnd2_nr, bnd3_nr]
  generalize up2 R 0 19 0 = S at h19 ⊢
  rcases @isGame_eq a1 a2 a3 with ⟨g1, g2⟩ | ⟨g1, g2, x1, x2, k, hk, rfl⟩
  · rw [if_pos g1, if_pos g2]; exact ⟨rfl, h19⟩
  · rw [if_neg g1, if_neg g2]
    rcases in_case a4 1 (by omega) 1 (by decide) with ⟨b1, b2⟩ | ⟨b1, w, hw, rfl⟩
    · rw [if_neg (not_not_intro b1)]
      rcases b2 with b2 | b2
      · rw [if_pos b2]; exact ⟨rfl, h19⟩
      · rw [le_i, nI_toInt (by omega)] at b2
        rw [if_neg (show ¬ a4 < 0 by rw [lt_i, k0]; omega), if_neg (show ¬ a4 ≤ 1 by rw [le_i, k1]; omega)]; exact ⟨rfl, h19⟩
    · rw [if_pos b1, if_neg (nI_pos (by omega)), if_pos (show nI w ≤ (1 : Int32) from nI_le (b := 1) hw (by decide))]
      obtain ⟨l, l1, l2, l3⟩ := leads h19 x1 x2 hk
      obtain ⟨p1, p2⟩ := worst_ok (show 0 < 16 by omega) l1 l2 (GC_0 h19)
      rw [show nI 0 = (0 : Int32) from rfl] at p1 p2
      have hbd := Wn_b (l1 0 · (by omega)) 16 (by omega)
      have hfl := (floors (a := (f_X6_worstGame C a1 a2 (nI k) 0).1) (by rw [p1]; exact hbd)).1
      rw [p1] at hfl
      have eS1 : Sf (fun b => Wn (l b) 16 / 16) 1 = (Wn (l 0) 16 / 16, 0) := by
        show (if (Wn (l 0) 16 / 16) < Wn (l 0) 16 / 16 then _ else _) = _
        rw [if_neg (by omega)]; rfl
      obtain ⟨s1, s2, s3⟩ := safeC_lp (x1 := a1) (x2 := a2) (k := k) l1 l2 15 1 16 (f_X6_worstGame C a1 a2 (nI k) 0).2 0 (f_J9_floorDiv_7cf53 (f_X6_worstGame C a1 a2 (nI k) 0).1 16) (by omega) (by omega) p2 (by rw [eS1]; exact hfl) (by rw [eS1]; rfl)
      obtain ⟨t1, t2, t3⟩ := safeM_lp (x1 := a1) (x2 := a2) (k := k) l1 l3 16 0 17 (f_X7_layWinds (f_X7_open S)) 0 (-1000000000) (by omega) (by omega) (GR_0 h19) (Or.inl ⟨rfl, by decide⟩)
      rw [show nI 1 = (1 : Int32) from rfl] at s1 s2 s3
      rw [show nI 0 = (0 : Int32) from rfl] at t1 t2 t3
      generalize lp_X7_safe_48 17 a1 a2 (nI k) (f_X7_layWinds (f_X7_open S)) 0 (-1000000000) 0 = P at t1 t2 t3 ⊢
      generalize lp_X6_safe_44 16 a1 a2 (nI k) (f_X6_worstGame C a1 a2 (nI k) 0).2 0 (f_J9_floorDiv_7cf53 (f_X6_worstGame C a1 a2 (nI k) 0).1 16) 1 = Q at s1 s2 s3 ⊢
      have hB := MS_back h19 (MS_of s3 t3)
      have e21 : Q.2.1 = P.2.1 := eq_i.mpr (s2.trans t2.symm)
      dsimp only
      refine ⟨?_, hB⟩
      rw [s1, t1, e21]
