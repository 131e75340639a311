-- @needs 34_hM
/-! the carrying of the bay and the boats: 148 places -/
theorem bnd_eq {α γ : Type} (x : α) (f : α → γ) : bnd x f = f x := rfl
def cs (M : Mem) (i k : Nat) : Mem := up2 (f_X7_carry M (M i k)).2 i k (f_X7_carry M (M i k)).1
theorem cs_fold {γ : Type} (M : Mem) (i k : Nat) (g : Mem → γ) : (bnd2 (f_X7_carry M (M i k)) fun r M1 => bnd (up2 M1 i k r) g) = g (cs M i k) := rfl
def pos (q : Nat) : Nat × Nat := if q < 5 then (0, q) else if q = 5 then (0, 7) else if q = 6 then (0, 8) else if q < 47 then (2 + (q - 7) % 10, (q - 7) / 10) else if q = 47 then (0, 5) else (1, q - 48)
theorem pos_b {b c : Nat} (hb : b < 4) (hc : c < 10) : pos (7 + 10 * b + c) = (2 + c, b) := by
  unfold pos
  rw [if_neg (by omega), if_neg (by omega), if_neg (by omega), if_pos (by omega)]
  rw [show 7 + 10 * b + c - 7 = c + 10 * b by omega, Nat.add_mul_mod_self_left, Nat.mod_eq_of_lt hc, Nat.add_mul_div_left _ _ (by decide), Nat.div_eq_of_lt hc, Nat.zero_add]
theorem pos_t {k : Nat} : pos (48 + k) = (1, k) := by
  unfold pos
  rw [if_neg (by omega), if_neg (by omega), if_neg (by omega), if_neg (by omega), if_neg (by omega)]
  rw [show 48 + k - 48 = k by omega]
theorem nIc {n : Nat} (h : n < 1000) : (nI n).toNatClampNeg = n := nI_clamp (by omega)
theorem boats_fold {S : Nat → Mem} (hs : ∀ q i k, 7 ≤ q → q < 47 → pos q = (i, k) → cs (S q) i k = S (q + 1)) : ∀ (n b : Nat), b ≤ 4 → 4 - b < n → lp_X7_carryBoats_2 n (S (7 + 10 * b)) (nI b) = S 47 := by
  intro n
  induction n with
  | zero => intro b _ h; exact absurd h (Nat.not_lt_zero _)
  | succ n ih =>
    intro b hb hn
    rw [lp_X7_carryBoats_2]
    by_cases h4 : b = 4
    · subst h4; rw [if_pos (by decide)]
    · have hb4 : b < 4 := by omega
      have hne : ¬ (4 : Int32) ≤ nI b := fun q => by
        have q1 : (4 : Int32).toInt ≤ (nI b).toInt := le_I q
        rw [nI_toInt (by omega)] at q1
        have q2 : (4 : Int32).toInt = 4 := rfl
        omega
      rw [if_neg hne]
      have st : ∀ c : Nat, c < 10 → cs (S (7 + 10 * b + c)) (2 + c) b = S (7 + 10 * b + (c + 1)) := fun c hc => hs _ _ _ (by omega) (by omega) (pos_b hb4 hc)
      rw [nIc (by omega)]
      rw [cs_fold, show 7 + 10 * b = 7 + 10 * b + 0 from rfl, st 0 (by decide), cs_fold, st 1 (by decide), cs_fold, st 2 (by decide), cs_fold, st 3 (by decide), cs_fold, st 4 (by decide), cs_fold, st 5 (by decide), cs_fold, st 6 (by decide), cs_fold, st 7 (by decide), cs_fold, st 8 (by decide), cs_fold, st 9 (by decide)]
      rw [bnd_eq, ← nI_succ]
      have := ih (b + 1) (by omega) (by omega)
      rw [show 7 + 10 * (b + 1) = 7 + 10 * b + (9 + 1) by omega] at this
      exact this
theorem text_fold {S : Nat → Mem} (hs : ∀ q i k, q < 148 → pos q = (i, k) → cs (S q) i k = S (q + 1)) : ∀ (n k : Nat), k ≤ 100 → 100 - k < n → lp_X7_carryAll_117 n (S (48 + k)) (nI k) = S 148 := by
  intro n
  induction n with
  | zero => intro b _ h; exact absurd h (Nat.not_lt_zero _)
  | succ n ih =>
    intro k hk hn
    rw [lp_X7_carryAll_117]
    by_cases h4 : k = 100
    · subst h4; rw [if_pos (by decide)]
    · have hk4 : k < 100 := by omega
      have hne : ¬ (100 : Int32) ≤ nI k := fun q => by
        have q1 : (100 : Int32).toInt ≤ (nI k).toInt := le_I q
        rw [nI_toInt (by omega)] at q1
        have q2 : (100 : Int32).toInt = 100 := rfl
        omega
      rw [if_neg hne, nIc (by omega), cs_fold, hs _ _ _ (by omega) pos_t, bnd_eq, ← nI_succ]
      exact ih (k + 1) (by omega) (by omega)
set_option maxRecDepth 20000 in
theorem carryAll_fold {S : Nat → Mem} (hs : ∀ q i k, q < 148 → pos q = (i, k) → cs (S q) i k = S (q + 1)) {M : Mem} {a tk : Int32} (h0 : up2 (up2 (up2 M 0 38 a) 0 37 tk) 0 36 0 = S 0) : f_X7_carryAll M a tk = S 148 := by
  have hb : ∀ X : Mem, f_X7_carryBoats X = lp_X7_carryBoats_2 5 X 0 := fun _ => rfl
  have hB : f_X7_carryBoats (S (6 + 1)) = S 47 := by
    rw [hb]
    have := boats_fold (fun q i k _ h2 => hs q i k (by omega)) 5 0 (by decide) (by decide)
    rw [show nI 0 = 0 from rfl] at this
    exact this
  have hT : lp_X7_carryAll_117 101 (S (47 + 1)) 0 = S 148 := by
    have := text_fold hs 101 0 (by decide) (by decide)
    rw [show nI 0 = 0 from rfl] at this
    exact this
  unfold f_X7_carryAll
  rw [bnd_eq, bnd_eq, bnd_eq, h0]
  rw [cs_fold, hs 0 0 0 (by decide) rfl, cs_fold, hs 1 0 1 (by decide) rfl, cs_fold, hs 2 0 2 (by decide) rfl, cs_fold, hs 3 0 3 (by decide) rfl, cs_fold, hs 4 0 4 (by decide) rfl, cs_fold, hs 5 0 7 (by decide) rfl, cs_fold, hs 6 0 8 (by decide) rfl]
  rw [bnd_eq, hB]
  rw [cs_fold, hs 47 0 5 (by decide) rfl, bnd_eq]
  exact hT
/-- the row that keptIn is -/
def kR (a : Int32) : Nat := if a = 1 then 20 else 21
theorem kR_or (a : Int32) : kR a = 20 ∨ kR a = 21 := by unfold kR; split <;> simp
theorem nI_m1 (n : Nat) : nI (n + 1) - 1 = nI n := by rw [nI_succ, Int32.add_sub_cancel]
theorem carry_take {M : Mem} {v : Int32} {p : Nat} (hp : p < 148) (h36 : M 0 36 = nI p) (h37 : ¬ M 0 37 = 0) : f_X7_carry M v = (v, up2 (up2 M (kR (M 0 38)) p v) 0 36 (nI (p + 1))) := by
  have hb : ¬ b01 (M 0 37) = 0 := by unfold b01; rw [if_neg h37]; decide
  unfold f_X7_carry kR
  simp only [bnd, if_neg hb, h36, nIc (show p < 1000 by omega)]
  by_cases h1 : M 0 38 = 1
  · simp only [if_pos h1]
    rw [if_pos (by rw [up2_n _ _ (by decide), up2_o _ _ (by decide)]; exact h1)]
    simp only [up2_o M v (show (0 : Nat) ≠ 20 by decide), h36, ← nI_succ, up2_s, nI_m1, nIc (show p < 1000 by omega)]
    rw [up2_o _ _ (by decide), up2_s]
  · simp only [if_neg h1]
    rw [if_neg (by rw [up2_n _ _ (by decide), up2_o _ _ (by decide)]; exact h1)]
    simp only [up2_o M v (show (0 : Nat) ≠ 21 by decide), h36, ← nI_succ, up2_s, nI_m1, nIc (show p < 1000 by omega)]
    rw [up2_o _ _ (by decide), up2_s]
theorem carry_give {M : Mem} {v : Int32} {p : Nat} (hp : p < 148) (h36 : M 0 36 = nI p) (h37 : M 0 37 = 0) : f_X7_carry M v = (M (kR (M 0 38)) p, up2 M 0 36 (nI (p + 1))) := by
  have hb : b01 (M 0 37) = 0 := by unfold b01; rw [if_pos h37]
  unfold f_X7_carry kR
  simp only [bnd, if_pos hb, h36, ← nI_succ, up2_s, nI_m1, nIc (show p < 1000 by omega)]
  by_cases h1 : M 0 38 = 1
  · rw [if_pos (by rw [up2_n _ _ (by decide)]; exact h1), if_pos h1, up2_o _ _ (by decide)]
  · rw [if_neg (by rw [up2_n _ _ (by decide)]; exact h1), if_neg h1, up2_o _ _ (by decide)]
theorem pos_ne {q i k : Nat} (hq : q < 148) (h : pos q = (i, k)) : (i = 0 ∧ k < 9) ∨ (0 < i ∧ i < 12) := by
  unfold pos at h
  split at h
  · obtain ⟨rfl, rfl⟩ := Prod.mk.inj h; omega
  · split at h
    · obtain ⟨rfl, rfl⟩ := Prod.mk.inj h; omega
    · split at h
      · obtain ⟨rfl, rfl⟩ := Prod.mk.inj h; omega
      · split at h
        · obtain ⟨rfl, rfl⟩ := Prod.mk.inj h; have := Nat.mod_lt (q - 7) (show 0 < 10 by decide); omega
        · split at h
          · obtain ⟨rfl, rfl⟩ := Prod.mk.inj h; omega
          · obtain ⟨rfl, rfl⟩ := Prod.mk.inj h; omega
/-- so much taken -/
def TK (t : Nat) (M0 : Mem) (q : Nat) : Mem := fun j k => if j = t ∧ k < q then M0 (pos k).1 (pos k).2 else if j = 0 ∧ k = 36 then nI q else M0 j k
theorem TK_step {t : Nat} {M0 : Mem} (h37 : ¬ M0 0 37 = 0) (ht : t = kR (M0 0 38)) : ∀ q i k, q < 148 → pos q = (i, k) → cs (TK t M0 q) i k = TK t M0 (q + 1) := by
  intro q i k hq hp
  have t0 : t = 20 ∨ t = 21 := by rw [ht]; exact kR_or _
  have e36 : TK t M0 q 0 36 = nI q := by unfold TK; rw [if_neg (by omega), if_pos ⟨rfl, rfl⟩]
  have e37 : TK t M0 q 0 37 = M0 0 37 := by unfold TK; rw [if_neg (by omega), if_neg (by omega)]
  have e38 : TK t M0 q 0 38 = M0 0 38 := by unfold TK; rw [if_neg (by omega), if_neg (by omega)]
  have hpn := pos_ne hq hp
  have eik : TK t M0 q i k = M0 i k := by unfold TK; rw [if_neg (by omega), if_neg (by omega)]
  unfold cs
  rw [carry_take hq e36 (by rw [e37]; exact h37), e38, ← ht]
  dsimp only
  funext j r
  by_cases h1 : j = i ∧ r = k
  · obtain ⟨rfl, rfl⟩ := h1
    rw [up2_s, eik]
    unfold TK
    rw [if_neg (by omega), if_neg (by omega)]
  · rw [up2_n _ _ h1]
    by_cases h2 : j = 0 ∧ r = 36
    · obtain ⟨rfl, rfl⟩ := h2
      rw [up2_s]; unfold TK
      rw [if_neg (by omega), if_pos ⟨rfl, rfl⟩]
    · rw [up2_n _ _ h2]
      by_cases h3 : j = t ∧ r = q
      · obtain ⟨rfl, rfl⟩ := h3
        rw [up2_s, eik]; unfold TK
        rw [if_pos ⟨rfl, by omega⟩, hp]
      · rw [up2_n _ _ h3]
        unfold TK
        by_cases h4 : j = t ∧ r < q
        · rw [if_pos h4, if_pos ⟨h4.1, by omega⟩]
        · rw [if_neg h4, if_neg h2, if_neg (show ¬ (j = t ∧ r < q + 1) by omega), if_neg h2]
/-- where a place of the memory is kept -/
def ipos (j k : Nat) : Nat := if j = 0 then (if k < 5 then k else if k = 7 then 5 else if k = 8 then 6 else if k = 5 then 47 else 999) else if j = 1 then (if k < 100 then 48 + k else 999) else if j < 12 then (if k < 4 then 7 + 10 * k + (j - 2) else 999) else 999
theorem ipos_pos {q i k : Nat} (hq : q < 148) (h : pos q = (i, k)) : ipos i k = q := by
  unfold pos at h
  split at h
  · obtain ⟨rfl, rfl⟩ := Prod.mk.inj h; unfold ipos; rw [if_pos rfl, if_pos (by omega)]
  · split at h
    · obtain ⟨rfl, rfl⟩ := Prod.mk.inj h; rename_i h5; subst h5; rfl
    · split at h
      · obtain ⟨rfl, rfl⟩ := Prod.mk.inj h; rename_i h6; subst h6; rfl
      · split at h
        · obtain ⟨rfl, rfl⟩ := Prod.mk.inj h
          have h1 := Nat.mod_lt (q - 7) (show 0 < 10 by decide)
          have h2 := Nat.div_add_mod (q - 7) 10
          unfold ipos
          rw [if_neg (by omega), if_neg (by omega), if_pos (by omega), if_pos (by omega)]
          omega
        · split at h
          · obtain ⟨rfl, rfl⟩ := Prod.mk.inj h; rename_i h6; subst h6; rfl
          · obtain ⟨rfl, rfl⟩ := Prod.mk.inj h
            unfold ipos
            rw [if_neg (by omega), if_pos rfl, if_pos (by omega)]
            omega
theorem ipos_inj {q i k j r : Nat} (hq : q < 148) (h : pos q = (i, k)) (h2 : ipos j r = q) : j = i ∧ r = k := by
  have h3 := ipos_pos hq h
  have hp := pos_ne hq h
  unfold ipos at h2 h3
  split at h2
  · split at h3
    · (repeat' split at h2) <;> (repeat' split at h3) <;> omega
    · split at h3
      · (repeat' split at h2) <;> (repeat' split at h3) <;> omega
      · (repeat' split at h2) <;> (repeat' split at h3) <;> omega
  · split at h2
    · split at h3
      · (repeat' split at h2) <;> (repeat' split at h3) <;> omega
      · (repeat' split at h2) <;> (repeat' split at h3) <;> omega
    · (repeat' split at h2) <;> (repeat' split at h3) <;> omega
/-- so much given back -/
def GV (t : Nat) (M0 : Mem) (q : Nat) : Mem := fun j k => if ipos j k < q then M0 t (ipos j k) else if j = 0 ∧ k = 36 then nI q else M0 j k
theorem GV_step {t : Nat} {M0 : Mem} (h37 : M0 0 37 = 0) (ht : t = kR (M0 0 38)) : ∀ q i k, q < 148 → pos q = (i, k) → cs (GV t M0 q) i k = GV t M0 (q + 1) := by
  intro q i k hq hp
  have t0 : t = 20 ∨ t = 21 := by rw [ht]; exact kR_or _
  have i36 : ipos 0 36 = 999 := rfl
  have i37 : ipos 0 37 = 999 := rfl
  have i38 : ipos 0 38 = 999 := rfl
  have e36 : GV t M0 q 0 36 = nI q := by unfold GV; rw [i36, if_neg (by omega), if_pos ⟨rfl, rfl⟩]
  have e37 : GV t M0 q 0 37 = M0 0 37 := by unfold GV; rw [i37, if_neg (by omega), if_neg (by omega)]
  have e38 : GV t M0 q 0 38 = M0 0 38 := by unfold GV; rw [i38, if_neg (by omega), if_neg (by omega)]
  have et : GV t M0 q t q = M0 t q := by
    have : ipos t q = 999 := by rcases t0 with h | h <;> (rw [h]; rfl)
    unfold GV; rw [this, if_neg (by omega), if_neg (by omega)]
  unfold cs
  rw [carry_give hq e36 (by rw [e37]; exact h37), e38, ← ht, et]
  dsimp only
  funext j r
  by_cases h1 : j = i ∧ r = k
  · obtain ⟨rfl, rfl⟩ := h1
    rw [up2_s]
    unfold GV
    rw [ipos_pos hq hp, if_pos (by omega)]
  · rw [up2_n _ _ h1]
    have hne : ipos j r ≠ q := fun e => h1 (ipos_inj hq hp e)
    by_cases h2 : j = 0 ∧ r = 36
    · obtain ⟨rfl, rfl⟩ := h2
      rw [up2_s]; unfold GV
      rw [i36, if_neg (by omega), if_pos ⟨rfl, rfl⟩]
    · rw [up2_n _ _ h2]
      unfold GV
      by_cases h4 : ipos j r < q
      · rw [if_pos h4, if_pos (by omega)]
      · rw [if_neg h4, if_neg h2, if_neg (show ¬ ipos j r < q + 1 by omega), if_neg h2]
def M3 (M : Mem) (a tk : Int32) : Mem := up2 (up2 (up2 M 0 38 a) 0 37 tk) 0 36 0
theorem carryAll_take (M : Mem) (a tk : Int32) (h : ¬ tk = 0) : f_X7_carryAll M a tk = TK (kR a) (M3 M a tk) 148 := by
  have e37 : M3 M a tk 0 37 = tk := by unfold M3; rw [up2_n _ _ (by decide), up2_s]
  have e38 : M3 M a tk 0 38 = a := by unfold M3; rw [up2_n _ _ (by decide), up2_n _ _ (by decide), up2_s]
  refine carryAll_fold (TK_step (by rw [e37]; exact h) (by rw [e38])) ?_
  funext j r
  unfold TK
  rw [if_neg (by omega)]
  by_cases h2 : j = 0 ∧ r = 36
  · obtain ⟨rfl, rfl⟩ := h2; rw [up2_s, if_pos ⟨rfl, rfl⟩]; rfl
  · rw [if_neg h2]; rfl
theorem carryAll_give (M : Mem) (a : Int32) : f_X7_carryAll M a 0 = GV (kR a) (M3 M a 0) 148 := by
  have e37 : M3 M a 0 0 37 = 0 := by unfold M3; rw [up2_n _ _ (by decide), up2_s]
  have e38 : M3 M a 0 0 38 = a := by unfold M3; rw [up2_n _ _ (by decide), up2_n _ _ (by decide), up2_s]
  refine carryAll_fold (GV_step e37 (by rw [e38])) ?_
  funext j r
  unfold GV
  rw [if_neg (by omega)]
  by_cases h2 : j = 0 ∧ r = 36
  · obtain ⟨rfl, rfl⟩ := h2; rw [up2_s, if_pos ⟨rfl, rfl⟩]; rfl
  · rw [if_neg h2]; rfl
def It (M : Mem) : Nat → Mem
  | 0 => M
  | c + 1 => cs (It M c) (pos (7 + c)).1 (pos (7 + c)).2
theorem It_at {M : Mem} (hp : (M 0 36).toInt = 7) : ∀ c : Nat, c ≤ 40 → ((It M c) 0 36).toInt = 7 + c ∧ (It M c) 0 38 = M 0 38 := by
  intro c
  induction c with
  | zero => intro _; exact ⟨hp, rfl⟩
  | succ c ih =>
    intro hc
    have h := ih (by omega)
    show ((cs (It M c) (pos (7 + c)).1 (pos (7 + c)).2) 0 36).toInt = _ ∧ (cs (It M c) (pos (7 + c)).1 (pos (7 + c)).2) 0 38 = _
    have hpn := pos_ne (q := 7 + c) (by omega) (show pos (7 + c) = ((pos (7 + c)).1, (pos (7 + c)).2) from rfl)
    generalize (pos (7 + c)).1 = i at hpn ⊢
    generalize (pos (7 + c)).2 = k at hpn ⊢
    unfold cs
    rcases hr : f_X7_carry (It M c) (It M c i k) with ⟨r, M1⟩
    have := carry_at (by omega) hr
    dsimp only
    rw [up2_n _ _ (by omega), up2_n _ _ (by omega)]
    push_cast
    exact ⟨by omega, this.2.trans h.2⟩
theorem carryBoats_It (M : Mem) : f_X7_carryBoats M = It M 40 := by
  have hs : ∀ q i k, 7 ≤ q → q < 47 → pos q = (i, k) → cs ((fun q => It M (q - 7)) q) i k = (fun q => It M (q - 7)) (q + 1) := by
    intro q i k h7 _ hp
    show cs (It M (q - 7)) i k = It M (q + 1 - 7)
    rw [show q + 1 - 7 = (q - 7) + 1 by omega]
    show _ = cs (It M (q - 7)) (pos (7 + (q - 7))).1 (pos (7 + (q - 7))).2
    rw [show 7 + (q - 7) = q by omega, hp]
  unfold f_X7_carryBoats
  rw [bnd_eq]
  exact boats_fold hs 5 0 (by decide) (by decide)
theorem carryBoats_at {M M' : Mem} (hp : (M 0 36).toInt = 7) (h : f_X7_carryBoats M = M') : (M' 0 36).toInt = (M 0 36).toInt + 40 ∧ M' 0 38 = M 0 38 := by
  rw [← h, carryBoats_It, hp]
  exact It_at hp 40 (by decide)
