-- @needs 91_wind
/-- the reference's world of a law -/
def RW (R : Mem) (n : Nat) (t : Nat → Int32) : Prop := n ≤ 100 ∧ R 0 5 = nI n ∧ ∀ j, j < n → R 1 j = t j
/-- some rounds of its loop -/
def Rk (a1 a2 : Int32) (R : Mem) (k : Nat) (R' : Mem) (k' : Nat) : Prop := ∃ c, c + k ≤ k' ∧ ∀ f, lp_X7_windBy_20 (f + c) a1 a2 R (nI k) = lp_X7_windBy_20 f a1 a2 R' (nI k')
theorem Rk.tr {a1 a2 : Int32} {R R1 R2 : Mem} {k k1 k2 : Nat} (h1 : Rk a1 a2 R k R1 k1) (h2 : Rk a1 a2 R1 k1 R2 k2) : Rk a1 a2 R k R2 k2 := by
  obtain ⟨c1, e1, f1⟩ := h1
  obtain ⟨c2, e2, f2⟩ := h2
  exact ⟨c2 + c1, by omega, fun f => by rw [← Nat.add_assoc, f1, f2]⟩
theorem Rk.rf {a1 a2 : Int32} {R : Mem} {k : Nat} : Rk a1 a2 R k R k := ⟨0, by omega, fun f => rfl⟩
theorem Rk.one {a1 a2 : Int32} {R R' : Mem} {k k' : Nat} (hk : k < k') (h : ∀ f, lp_X7_windBy_20 (f + 1) a1 a2 R (nI k) = lp_X7_windBy_20 f a1 a2 R' (nI k')) : Rk a1 a2 R k R' k' := ⟨1, by omega, h⟩
def jn (w p v : Int32) : Int32 := if ¬ w = 0 then (if ¬ w = 42 then (if ¬ v = 0 then (if ¬ w = 47 then p - p / v * v else p / v) else 0) else p * v) else v
theorem jd_pg {w p v : Int32} (h : pg w) : f_X2_joined w p v = jn w p v := by
  unfold f_X2_joined jn
  simp only [bnd]
  rcases h with rfl | rfl | rfl
  · rw [if_pos (show (42 : Int32) = 42 from rfl), if_pos (show ¬ (42 : Int32) = 0 by decide), if_neg (show ¬ ¬ (42 : Int32) = 42 by decide)]
  · rw [if_neg (show ¬ (47 : Int32) = 42 by decide), if_neg (show ¬ (47 : Int32) = 43 by decide), if_neg (show ¬ (47 : Int32) = 45 by decide), if_pos (show (47 : Int32) = 47 from rfl), if_pos (show ¬ (47 : Int32) = 0 by decide), if_pos (show ¬ (47 : Int32) = 42 by decide), if_neg (show ¬ ¬ (47 : Int32) = 47 by decide)]
  · rw [if_neg (show ¬ (37 : Int32) = 42 by decide), if_neg (show ¬ (37 : Int32) = 43 by decide), if_neg (show ¬ (37 : Int32) = 45 by decide), if_neg (show ¬ (37 : Int32) = 47 by decide), if_pos (show ¬ (37 : Int32) = 0 by decide), if_pos (show ¬ (37 : Int32) = 42 by decide), if_pos (show ¬ (37 : Int32) = 47 by decide)]
theorem jd_sg {w p v : Int32} (h : sg w) : f_X2_joined w p v = if w = 43 then p + v else p - v := by
  unfold f_X2_joined
  simp only [bnd]
  rcases h with rfl | rfl
  · rw [if_neg (show ¬ (43 : Int32) = 42 by decide), if_pos (show (43 : Int32) = 43 from rfl), if_pos (show (43 : Int32) = 43 from rfl)]
  · rw [if_neg (show ¬ (45 : Int32) = 42 by decide), if_neg (show ¬ (45 : Int32) = 43 by decide), if_pos (show (45 : Int32) = 45 from rfl), if_neg (show ¬ (45 : Int32) = 43 by decide)]
theorem atom_eq {R : Mem} {d : Nat} (hd : d ≤ 7) (h : R 0 27 = nI d) (v : Int32) : f_X7_atom R v = up2 R 15 d (jn (R 16 d) (R 15 d) v) := by
  unfold f_X7_atom jn
  simp only [bnd]
  rw [h, nI_clamp (by omega)]
theorem lsum_eq {R : Mem} {d : Nat} (hd : d ≤ 7) (h : R 0 27 = nI d) : f_X7_levelSum R = if R 14 d ≤ 0 then R 13 d - R 15 d else R 13 d + R 15 d := by
  unfold f_X7_levelSum
  simp only [bnd]
  rw [h, nI_clamp (by omega)]
theorem open_eq {R : Mem} {d : Nat} (hd : d ≤ 7) (h : R 0 27 = nI d) : f_X7_openLevel R = up2 (up2 (up2 R 13 d 0) 14 d 1) 16 d 0 := by
  unfold f_X7_openLevel
  simp only [bnd]
  rw [up2_o _ _ (by decide : (0 : Nat) ≠ 14), up2_o _ _ (by decide : (0 : Nat) ≠ 13), h, nI_clamp (by omega)]
theorem work_p {R : Mem} {d : Nat} (hd : d ≤ 7) (h : R 0 27 = nI d) {c : Int32} (hc : pg c) : f_X7_work R c = up2 R 16 d c := by
  unfold f_X7_work
  simp only [bnd]
  have h1 : ¬ c = 43 := by rcases hc with rfl | rfl | rfl <;> decide
  have h2 : ¬ c = 45 := by rcases hc with rfl | rfl | rfl <;> decide
  rw [if_neg h1, if_pos h2, h, nI_clamp (by omega)]
theorem work_s {R : Mem} {d : Nat} (hd : d ≤ 7) (h : R 0 27 = nI d) {c : Int32} (hc : sg c) : f_X7_work R c = up2 (up2 (up2 R 13 d (f_X7_levelSum R)) 14 d (if c = 43 then 1 else -1)) 16 d 0 := by
  unfold f_X7_work
  simp only [bnd]
  rcases hc with rfl | rfl
  · rw [if_pos rfl, if_neg (not_not_intro rfl), if_pos rfl, up2_o _ _ (by decide : (0 : Nat) ≠ 14), up2_o _ _ (by decide : (0 : Nat) ≠ 13), h, nI_clamp (by omega)]
  · rw [if_neg (by decide), if_neg (not_not_intro rfl), if_pos (by decide), if_neg (by decide), up2_o _ _ (by decide : (0 : Nat) ≠ 14), up2_o _ _ (by decide : (0 : Nat) ≠ 13), h, nI_clamp (by omega)]
section ST
variable {a1 a2 : Int32} {R : Mem} {n k : Nat} {t : Nat → Int32}
theorem rw_c (hW : RW R n t) (hk : k < n) : ¬ R 0 5 ≤ nI k ∧ R 1 (nI k).toNatClampNeg = t k := by
  have := hW.1
  rw [hW.2.1, nI_clamp (by omega)]
  exact ⟨nI_ge hk (by omega), hW.2.2 k hk⟩
theorem st_open (hW : RW R n t) (hk : k < n) (hc : t k = 40) : Rk a1 a2 R k (f_X7_openLevel (up2 R 0 27 (R 0 27 + 1))) (k + 1) := by
  obtain ⟨h1, h2⟩ := rw_c hW hk
  refine Rk.one (by omega) fun f => ?_
  rw [lp_X7_windBy_20, if_neg h1]
  simp only [bnd, bnd2]
  rw [h2, hc, if_neg (not_not_intro rfl), nI_1]
theorem st_close (hW : RW R n t) (hk : k < n) (hc : t k = 41) : Rk a1 a2 R k (f_X7_atom (up2 R 0 27 (R 0 27 - 1)) (f_X7_levelSum R)) (k + 1) := by
  obtain ⟨h1, h2⟩ := rw_c hW hk
  refine Rk.one (by omega) fun f => ?_
  rw [lp_X7_windBy_20, if_neg h1]
  simp only [bnd, bnd2]
  rw [h2, hc, if_pos (by decide), if_neg (not_not_intro rfl), nI_1]
theorem st_var (hW : RW R n t) (hk : k < n) (hc : t k = 116 ∨ t k = 115) : Rk a1 a2 R k (f_X7_atom R (if ¬ t k = 116 then a2 else a1)) (k + 1) := by
  obtain ⟨h1, h2⟩ := rw_c hW hk
  refine Rk.one (by omega) fun f => ?_
  rw [lp_X7_windBy_20, if_neg h1]
  simp only [bnd, bnd2]
  rw [h2]
  rcases hc with hc | hc
  · rw [hc, if_pos (by decide), if_pos (by decide), if_pos rfl, nI_1]
  · rw [hc, if_pos (by decide), if_pos (by decide), if_neg (by decide), if_neg (not_not_intro rfl), nI_1]
theorem st_work (hW : RW R n t) (hk : k < n) (hc : sg (t k) ∨ pg (t k)) : Rk a1 a2 R k (f_X7_work R (t k)) (k + 1) := by
  obtain ⟨h1, h2⟩ := rw_c hW hk
  refine Rk.one (by omega) fun f => ?_
  rw [lp_X7_windBy_20, if_neg h1]
  simp only [bnd, bnd2]
  rw [h2]
  have hn : ¬ dg (t k) := fun h => hc.elim (fun q => (dg_not h).1 q) (fun q => (dg_not h).2.1 q)
  have e : t k ≠ 40 ∧ t k ≠ 41 ∧ t k ≠ 116 ∧ t k ≠ 115 := by
    rcases hc with (h | h) | (h | h | h) <;> rw [h] <;> decide
  rw [if_pos e.1, if_pos e.2.1, if_neg e.2.2.1, if_pos e.2.2.2, if_pos (dgM.mpr hn), nI_1]
theorem whole_m (hW : RW R n t) : ∀ (f c k : Nat) (v : Int32), c < f → k + c ≤ n → (∀ j, j < c → dg (t (k + j))) → (k + c = n ∨ ¬ dg (t (k + c))) → lp_X7_windBy_150' f R (nI k) v = (nI (k + c), num t c k v) := by
  intro f
  induction f with
  | zero => intro c k v h; omega
  | succ f ih =>
    intro c k v hf hn hd he
    have hn100 := hW.1
    rw [lp_X7_windBy_150']
    cases c with
    | zero =>
      rw [Nat.add_zero] at he ⊢
      by_cases e : k = n
      · rw [if_pos (by rw [hW.2.1, e]; exact nI_le (Nat.le_refl _) (by omega))]; rfl
      · obtain ⟨h1, h2⟩ := rw_c hW (show k < n by omega)
        rw [if_neg h1, h2, if_pos (dgM.mpr (he.resolve_left e))]; rfl
    | succ c =>
      obtain ⟨h1, h2⟩ := rw_c hW (show k < n by omega)
      have h0 : dg (t k) := hd 0 (by omega)
      rw [if_neg h1, h2, if_neg (fun h => dgM.mp h h0)]
      simp only [bnd]
      rw [nI_1, ih c (k + 1) _ (by omega) (by omega) (fun j hj => by rw [show k + 1 + j = k + (j + 1) by omega]; exact hd (j + 1) (by omega)) (by rw [show k + 1 + c = k + (c + 1) by omega]; exact he), show k + 1 + c = k + (c + 1) by omega, Int32.mul_comm 10 v]; rfl
theorem st_num (hW : RW R n t) {c : Nat} (hk : k + (c + 1) ≤ n) (hd : ∀ j, j < c + 1 → dg (t (k + j))) (he : k + (c + 1) = n ∨ ¬ dg (t (k + (c + 1)))) : Rk a1 a2 R k (f_X7_atom R (num t (c + 1) k 0)) (k + (c + 1)) := by
  obtain ⟨h1, h2⟩ := rw_c hW (show k < n by omega)
  have hn := hW.1
  refine Rk.one (by omega) fun f => ?_
  rw [lp_X7_windBy_20, if_neg h1]
  simp only [bnd, bnd2]
  have h0 := hd 0 (by omega)
  rw [Nat.add_zero] at h0
  have e := dg_not h0
  rw [h2, if_pos e.2.2.1, if_pos e.2.2.2.1, if_neg e.2.2.2.2.1, if_pos e.2.2.2.2.2, if_neg (fun h => dgM.mp h h0), nI_1,
    whole_m hW 101 c (k + 1) _ (by omega) (by omega) (fun j hj => by rw [show k + 1 + j = k + (j + 1) by omega]; exact hd (j + 1) (by omega)) (by rw [show k + 1 + c = k + (c + 1) by omega]; exact he)]
  simp only []
  rw [show k + 1 + c = k + (c + 1) by omega, show num t (c + 1) k 0 = num t c (k + 1) (0 * 10 + t k - 48) from rfl, Int32.zero_mul, Int32.zero_add]
end ST
theorem RW_of {R R' : Mem} {n d : Nat} {t : Nat → Int32} (h : RW R n t) (he : ∀ j q, ¬ (j = 0 ∧ q = 27) → ¬ (13 ≤ j ∧ j ≤ 16 ∧ d ≤ q) → R' j q = R j q) : RW R' n t := ⟨h.1, by rw [he _ _ (by omega) (by omega)]; exact h.2.1, fun j hj => by rw [he _ _ (by omega) (by omega)]; exact h.2.2 j hj⟩
/-! levels: the class's waiting signs W and parts K above W0 and K0, the reference's row e -/
def sgC2 (c : Int32) : Int32 := if c = 43 then 1 else -1
/-- an atom is wanted -/
def LQ (R : Mem) (e : Nat) (W K W0 K0 : List Int32) : Prop :=
  (W = W0 ∧ K = K0 ∧ R 13 e = 0 ∧ R 14 e = 1 ∧ R 16 e = 0) ∨
  (∃ c x, pg c ∧ W = c :: W0 ∧ K = x :: K0 ∧ R 13 e = 0 ∧ R 14 e = 1 ∧ R 15 e = x ∧ R 16 e = c) ∨
  (∃ c x, sg c ∧ W = c :: W0 ∧ K = x :: K0 ∧ R 13 e = x ∧ R 14 e = sgC2 c ∧ R 16 e = 0) ∨
  (∃ c x c' y, sg c ∧ pg c' ∧ W = c' :: c :: W0 ∧ K = y :: x :: K0 ∧ R 13 e = x ∧ R 14 e = sgC2 c ∧ R 15 e = y ∧ R 16 e = c')
/-- an atom stands on top -/
def HQ (R : Mem) (e : Nat) (W K W0 K0 : List Int32) : Prop :=
  (∃ v, W = W0 ∧ K = v :: K0 ∧ R 13 e = 0 ∧ R 14 e = 1 ∧ R 15 e = v) ∨
  (∃ c x v, pg c ∧ W = c :: W0 ∧ K = v :: x :: K0 ∧ R 13 e = 0 ∧ R 14 e = 1 ∧ R 15 e = jn c x v) ∨
  (∃ c x v, sg c ∧ W = c :: W0 ∧ K = v :: x :: K0 ∧ R 13 e = x ∧ R 14 e = sgC2 c ∧ R 15 e = v) ∨
  (∃ c x c' y v, sg c ∧ pg c' ∧ W = c' :: c :: W0 ∧ K = v :: y :: x :: K0 ∧ R 13 e = x ∧ R 14 e = sgC2 c ∧ R 15 e = jn c' y v)
/-- the levels below -/
def ENs (R : Mem) : Nat → List Int32 → List Int32 → Prop
  | 0, W, K => W = [] ∧ K = []
  | e + 1, W, K => ∃ W1 W2 K2, W = 40 :: W1 ∧ LQ R e W1 K W2 K2 ∧ ENs R e W2 K2
theorem LQ_congr {R R' : Mem} {e : Nat} {W K W0 K0 : List Int32} (he : ∀ j, 13 ≤ j → j ≤ 16 → R' j e = R j e) (h : LQ R e W K W0 K0) : LQ R' e W K W0 K0 := by
  unfold LQ at h ⊢
  rw [he 13 (by omega) (by omega), he 14 (by omega) (by omega), he 15 (by omega) (by omega), he 16 (by omega) (by omega)]
  exact h
theorem ENs_congr {R R' : Mem} : ∀ (d : Nat) (W K : List Int32), (∀ j q, 13 ≤ j → j ≤ 16 → q < d → R' j q = R j q) → ENs R d W K → ENs R' d W K := by
  intro d
  induction d with
  | zero => intro W K _ h; exact h
  | succ d ih =>
    intro W K he h
    obtain ⟨W1, W2, K2, h1, h2, h3⟩ := h
    exact ⟨W1, W2, K2, h1, LQ_congr (fun j p1 p2 => he j d p1 p2 (by omega)) h2, ih _ _ (fun j q p1 p2 p3 => he j q p1 p2 (by omega)) h3⟩
theorem ENs_head {R : Mem} {d : Nat} {W K : List Int32} (h : ENs R d W K) : W = [] ∨ ∃ W1, W = 40 :: W1 := by
  cases d with
  | zero => exact Or.inl h.1
  | succ d => obtain ⟨W1, W2, K2, h1, _⟩ := h; exact Or.inr ⟨W1, h1⟩
theorem jn_0 {p v : Int32} : jn 0 p v = v := by unfold jn; rw [if_neg (not_not_intro rfl)]
theorem LQ_atom {R R' : Mem} {e : Nat} {W K W0 K0 : List Int32} {v : Int32} (h : LQ R e W K W0 K0) (h13 : R' 13 e = R 13 e) (h14 : R' 14 e = R 14 e) (h15 : R' 15 e = jn (R 16 e) (R 15 e) v) : HQ R' e W (v :: K) W0 K0 := by
  unfold HQ
  rw [h13, h14, h15]
  rcases h with ⟨rfl, rfl, p1, p2, p3⟩ | ⟨c, x, hc, rfl, rfl, p1, p2, p3, p4⟩ | ⟨c, x, hc, rfl, rfl, p1, p2, p3⟩ | ⟨c, x, c', y, hc, hc', rfl, rfl, p1, p2, p3, p4⟩
  · exact Or.inl ⟨v, rfl, rfl, p1, p2, by rw [p3, jn_0]⟩
  · exact Or.inr (Or.inl ⟨c, x, v, hc, rfl, rfl, p1, p2, by rw [p3, p4]⟩)
  · exact Or.inr (Or.inr (Or.inl ⟨c, x, v, hc, rfl, rfl, p1, p2, by rw [p3, jn_0]⟩))
  · exact Or.inr (Or.inr (Or.inr ⟨c, x, c', y, v, hc, hc', rfl, rfl, p1, p2, by rw [p3, p4]⟩))
theorem tight_pg {c : Int32} (h : pg c) : f_X2_tightness c = 2 := by rcases h with rfl | rfl | rfl <;> decide
theorem tight_sg {c : Int32} (h : sg c) : f_X2_tightness c = 1 := by rcases h with rfl | rfl <;> decide
theorem pop_end {l : Int32} (hl : 0 < l) {W0 S : List Int32} (h : W0 = [] ∨ ∃ W1, W0 = 40 :: W1) : popW l W0 S = (W0, S) := by
  rcases h with rfl | ⟨W1, rfl⟩
  · rfl
  · rw [popW, if_pos (by rw [show f_X2_tightness 40 = 0 by decide]; exact hl)]
theorem ev_join {a1 a2 c a b : Int32} {S r : List Int32} (hc : sg c ∨ pg c) (h : wev a1 a2 S = b :: a :: r) : wev a1 a2 (-c :: S) = f_X2_joined c a b :: r := by
  show evS a1 a2 (wev a1 a2 S) (-c) = _
  rw [h]
  unfold evS
  rw [if_neg (show ¬ (-2 : Int32) ≤ -c by rcases hc with (rfl | rfl) | (rfl | rfl | rfl) <;> decide), Int32.neg_neg]
  rfl
theorem popW_go {l c : Int32} {W S : List Int32} (h : ¬ f_X2_tightness c < l) : popW l (c :: W) S = popW l W (-c :: S) := by rw [popW, if_neg h]
theorem popW_st {l c : Int32} {W S : List Int32} (h : f_X2_tightness c < l) : popW l (c :: W) S = (c :: W, S) := by rw [popW, if_pos h]
/-- a product's sign comes -/
theorem HQ_2 {R : Mem} {e : Nat} {W K W0 K0 S : List Int32} {a1 a2 : Int32} (h : HQ R e W K W0 K0) (hK : wev a1 a2 S = K) (h0 : W0 = [] ∨ ∃ W1, W0 = 40 :: W1) :
    ∀ c, pg c → LQ (up2 R 16 e c) e (c :: (popW 2 W S).1) (wev a1 a2 (popW 2 W S).2) W0 K0 := by
  intro c hc
  have u13 : up2 R 16 e c 13 e = R 13 e := up2_n _ _ (by omega)
  have u14 : up2 R 16 e c 14 e = R 14 e := up2_n _ _ (by omega)
  have u15 : up2 R 16 e c 15 e = R 15 e := up2_n _ _ (by omega)
  have u16 : up2 R 16 e c 16 e = c := up2_s _ _ _ _
  have n2 : ∀ c, pg c → ¬ f_X2_tightness c < 2 := fun c h => by rw [tight_pg h]; decide
  have l1 : ∀ c, sg c → f_X2_tightness c < 2 := fun c h => by rw [tight_sg h]; decide
  unfold LQ
  rw [u13, u14, u15, u16]
  rcases h with ⟨v, rfl, rfl, p1, p2, p3⟩ | ⟨d, x, v, hd, rfl, rfl, p1, p2, p3⟩ | ⟨d, x, v, hd, rfl, rfl, p1, p2, p3⟩ | ⟨d, x, d', y, v, hd, hd', rfl, rfl, p1, p2, p3⟩
  · rw [pop_end (by decide) h0]
    exact Or.inr (Or.inl ⟨c, v, hc, rfl, hK, p1, p2, p3, rfl⟩)
  · rw [popW_go (n2 d hd), pop_end (by decide) h0]
    exact Or.inr (Or.inl ⟨c, jn d x v, hc, rfl, by show wev a1 a2 (-d :: S) = _; rw [ev_join (Or.inr hd) hK, jd_pg hd], p1, p2, p3, rfl⟩)
  · rw [popW_st (l1 d hd)]
    exact Or.inr (Or.inr (Or.inr ⟨d, x, c, v, hd, hc, rfl, hK, p1, p2, p3, rfl⟩))
  · rw [popW_go (n2 d' hd'), popW_st (l1 d hd)]
    exact Or.inr (Or.inr (Or.inr ⟨d, x, c, jn d' y v, hd, hc, rfl, by show wev a1 a2 (-d' :: S) = _; rw [ev_join (Or.inr hd') hK, jd_pg hd'], p1, p2, p3, rfl⟩))
/-- what a level comes to -/
def wlv (R : Mem) (e : Nat) : Int32 := if R 14 e ≤ 0 then R 13 e - R 15 e else R 13 e + R 15 e
theorem wlv_1 {R : Mem} {e : Nat} (h13 : R 13 e = 0) (h14 : R 14 e = 1) : wlv R e = R 15 e := by
  unfold wlv; rw [h13, h14, if_neg (by decide), Int32.zero_add]
theorem wlv_s {R : Mem} {e : Nat} {c : Int32} (h14 : R 14 e = sgC2 c) : wlv R e = if c = 43 then R 13 e + R 15 e else R 13 e - R 15 e := by
  unfold wlv
  rw [h14]
  unfold sgC2
  by_cases h : c = 43
  · rw [if_pos h, if_pos h, if_neg (by decide)]
  · rw [if_neg h, if_neg h, if_pos (by decide)]
/-- a sum's sign, a closing bracket or the end comes -/
theorem HQ_1 {R : Mem} {e : Nat} {W K W0 K0 S : List Int32} {a1 a2 : Int32} (h : HQ R e W K W0 K0) (hK : wev a1 a2 S = K) (h0 : W0 = [] ∨ ∃ W1, W0 = 40 :: W1) :
    (popW 1 W S).1 = W0 ∧ wev a1 a2 (popW 1 W S).2 = wlv R e :: K0 := by
  have n2 : ∀ c, pg c → ¬ f_X2_tightness c < 1 := fun c h => by rw [tight_pg h]; decide
  have n1 : ∀ c, sg c → ¬ f_X2_tightness c < 1 := fun c h => by rw [tight_sg h]; decide
  rcases h with ⟨v, rfl, rfl, p1, p2, p3⟩ | ⟨d, x, v, hd, rfl, rfl, p1, p2, p3⟩ | ⟨d, x, v, hd, rfl, rfl, p1, p2, p3⟩ | ⟨d, x, d', y, v, hd, hd', rfl, rfl, p1, p2, p3⟩
  · rw [pop_end (by decide) h0, wlv_1 p1 p2, p3]
    exact ⟨rfl, hK⟩
  · rw [popW_go (n2 d hd), pop_end (by decide) h0, wlv_1 p1 p2, p3]
    exact ⟨rfl, by show wev a1 a2 (-d :: S) = _; rw [ev_join (Or.inr hd) hK, jd_pg hd]⟩
  · rw [popW_go (n1 d hd), pop_end (by decide) h0, wlv_s p2, p1, p3]
    exact ⟨rfl, by show wev a1 a2 (-d :: S) = _; rw [ev_join (Or.inl hd) hK, jd_sg hd]⟩
  · have e1 := ev_join (Or.inr hd') hK
    rw [popW_go (n2 d' hd'), popW_go (n1 d hd), pop_end (by decide) h0, wlv_s p2, p1, p3]
    exact ⟨rfl, by show wev a1 a2 (-d :: -d' :: S) = _; rw [ev_join (Or.inl hd) e1, jd_sg hd, jd_pg hd']⟩
