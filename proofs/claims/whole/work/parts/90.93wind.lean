/-! the winds: a text gone through by both -/
theorem isd {c : Int32} (h : ¬ dg c) : f_X2_isDigit c = 0 := dgC.mpr h
theorem isd' {c : Int32} (h : dg c) : ¬ f_X2_isDigit c = 0 := fun q => dgC.mp q h
theorem cp_digs {t : Nat → Int32} : ∀ (c m' k : Nat) (S W : List Int32) (v : Int32), (∀ j, j < c + 1 → dg (t (k + j))) → (m' = 0 ∨ ¬ dg (t (k + (c + 1)))) →
    wcp t (c + 1 + m') k S W v = wcp t m' (k + (c + 1)) (num t (c + 1) k v :: S) W 0 := by
  intro c
  induction c with
  | zero =>
    intro m' k S W v hd he
    have h0 : dg (t k) := hd 0 (by omega)
    have he : m' = 0 ∨ ¬ dg (t (k + 1)) := he
    rw [show 0 + 1 + m' = m' + 1 by omega, wcp_s, if_neg (isd' h0)]
    show _ = wcp t m' (k + 1) ((v * 10 + t k - 48) :: S) W 0
    rcases he with he | he
    · rw [if_pos he]
    · rw [if_pos (isd he), ite_self]
  | succ c ih =>
    intro m' k S W v hd he
    have h0 : dg (t k) := hd 0 (by omega)
    have h1 : dg (t (k + 1)) := hd 1 (by omega)
    rw [show c + 1 + 1 + m' = c + 1 + m' + 1 by omega, wcp_s, if_neg (isd' h0), if_neg (show ¬ c + 1 + m' = 0 by omega), if_neg (isd' h1),
      ih m' (k + 1) S W _ (fun j hj => by rw [show k + 1 + j = k + (j + 1) by omega]; exact hd (j + 1) (by omega)) (by rw [show k + 1 + (c + 1) = k + (c + 1 + 1) by omega]; exact he), show k + 1 + (c + 1) = k + (c + 1 + 1) by omega]
    rfl
theorem ev_var {a1 a2 x v : Int32} {S : List Int32} (h : (-2 : Int32) ≤ x) (hv : (if x < 0 then (if ¬ x = (-1) then a2 else a1) else x) = v) : wev a1 a2 (x :: S) = v :: wev a1 a2 S := by
  show evS a1 a2 (wev a1 a2 S) x = _
  unfold evS
  rw [if_pos h, hv]
section PR
variable {n : Nat} {t : Nat → Int32} {a1 a2 : Int32}
def END (n : Nat) (t : Nat → Int32) (a1 a2 : Int32) (R : Mem) (k : Nat) (q : List Int32 × List Int32) : Prop :=
  ∃ R' v, Rk a1 a2 R k R' n ∧ wev a1 a2 (popW 1 q.2 q.1).2 = [v] ∧ R' 0 27 = nI 0 ∧ wlv R' 0 = v ∧ RW R' n t ∧ ∀ j q, ¬ (j = 0 ∧ q = 27) → ¬ (13 ≤ j ∧ j ≤ 16) → R' j q = R j q
theorem END_tr {R R1 : Mem} {k k1 : Nat} {q : List Int32 × List Int32} (h : Rk a1 a2 R k R1 k1) (hf : ∀ j q, ¬ (j = 0 ∧ q = 27) → ¬ (13 ≤ j ∧ j ≤ 16) → R1 j q = R j q) (h1 : END n t a1 a2 R1 k1 q) : END n t a1 a2 R k q := by
  obtain ⟨R', v, e1, e2, e3, e4, e5, e6⟩ := h1
  exact ⟨R', v, h.tr e1, e2, e3, e4, e5, fun j q p1 p2 => (e6 j q p1 p2).trans (hf j q p1 p2)⟩
theorem law_sim : ∀ (f m k : Nat) (S W W0 K0 : List Int32) (R : Mem) (w : Bool) (d : Nat), m < f → m + k = n → d ≤ 6 → VL t m k w d → D3 t m k 0 → RW R n t → R 0 27 = nI d → ENs R d W0 K0 →
    (w = true → LQ R d W (wev a1 a2 S) W0 K0) → (w = false → HQ R d W (wev a1 a2 S) W0 K0 ∧ (m = 0 ∨ ¬ dg (t k))) → END n t a1 a2 R k (wcp t m k S W 0) := by
  intro f
  induction f with
  | zero => intro m k S W W0 K0 R w d h; omega
  | succ f ih =>
    intro m k S W W0 K0 R w d hf hmk hd hV hD hR hl hE hw hh
    have hn := hR.1
    have h0 := ENs_head hE
    cases w with
    | true =>
      have hq := hw rfl
      cases m with
      | zero => exact (VL_want hV).elim
      | succ m =>
        have hkn : k < n := by omega
        -- an atom's value v, told up to k1
        have atom : ∀ (v : Int32) (S1 : List Int32) (m1 k1 : Nat), m1 < f → m1 + k1 = n → wev a1 a2 S1 = v :: wev a1 a2 S → EL t m1 k1 d → D3 t m1 k1 0 → Rk a1 a2 R k (f_X7_atom R v) k1 → END n t a1 a2 R k (wcp t m1 k1 S1 W 0) := fun v S1 m1 k1 g1 g2 g3 g4 g5 g6 => by
          have ea := atom_eq (by omega) hl v
          have hfr : ∀ j q, ¬ (j = 0 ∧ q = 27) → ¬ (13 ≤ j ∧ j ≤ 16 ∧ d ≤ q) → f_X7_atom R v j q = R j q := fun j q p1 p2 => by rw [ea, up2_n _ _ (by omega)]
          refine END_tr g6 (fun j q p1 p2 => hfr j q p1 (by omega)) (ih m1 k1 S1 W W0 K0 _ false d g1 g2 hd g4.1 g5 (RW_of hR hfr) (by rw [ea, up2_n _ _ (by omega)]; exact hl) (ENs_congr d W0 K0 (fun j q p1 p2 p3 => hfr j q (by omega) (by omega)) hE) (fun q => by cases q) (fun _ => ⟨?_, g4.2⟩))
          rw [g3]
          exact LQ_atom hq (by rw [ea, up2_n _ _ (by omega)]) (by rw [ea, up2_n _ _ (by omega)]) (by rw [ea, up2_s])
        rcases VL_atom hV with ⟨hc, hd6, hV'⟩ | ⟨hc, hV'⟩ | ⟨hc, hV'⟩
        · have hnd : ¬ dg (t k) := fun h => (dg_not h).2.2.1 hc
          have hlev : f_X7_openLevel (up2 R 0 27 (R 0 27 + 1)) = up2 (up2 (up2 (up2 R 0 27 (R 0 27 + 1)) 13 (d + 1) 0) 14 (d + 1) 1) 16 (d + 1) 0 := open_eq (by omega) (by rw [up2_s, hl, nI_1])
          have hoff : ∀ j q, ¬ (j = 0 ∧ q = 27) → ¬ (13 ≤ j ∧ j ≤ 16 ∧ d + 1 ≤ q) → f_X7_openLevel (up2 R 0 27 (R 0 27 + 1)) j q = R j q := fun j q h1 h2 => by
            rw [hlev, up2_n _ _ (by omega), up2_n _ _ (by omega), up2_n _ _ (by omega), up2_n _ _ (by omega)]
          have e : wcp t (m + 1) k S W 0 = wcp t m (k + 1) S (40 :: W) 0 := by
            rw [wcp_s, if_pos (isd hnd), hc, if_neg (by decide), if_neg (by decide)]
            unfold tg
            rw [if_pos (by decide), if_pos rfl]
            first | done | rfl
          rw [e]
          refine END_tr (st_open hR hkn hc) (fun j q p1 p2 => hoff j q p1 (by omega)) (ih m (k + 1) S (40 :: W) (40 :: W) (wev a1 a2 S) _ true (d + 1) (by omega) (by omega) (by omega) hV' ?_ (RW_of hR hoff) ?_ ?_ (fun _ => Or.inl ⟨rfl, rfl, ?_, ?_, ?_⟩) (fun q => by cases q))
          · unfold D3 at hD
            rcases hD with ⟨h1, _⟩ | ⟨_, h1⟩
            · exact absurd h1 hnd
            · exact h1
          · rw [hlev, up2_n _ _ (by omega), up2_n _ _ (by omega), up2_n _ _ (by omega), up2_s, hl, nI_1]
          · exact ⟨W, W0, K0, rfl, LQ_congr (fun j p1 p2 => hoff j d (by omega) (by omega)) hq, ENs_congr d W0 K0 (fun j q p1 p2 p3 => hoff j q (by omega) (by omega)) hE⟩
          · rw [hlev, up2_n _ _ (by omega), up2_n _ _ (by omega), up2_s]
          · rw [hlev, up2_n _ _ (by omega), up2_s]
          · rw [hlev, up2_s]
        · have hnd : ¬ dg (t k) := fun h => hc.elim (fun q => (dg_not h).2.2.2.2.1 q) (fun q => (dg_not h).2.2.2.2.2 q)
          have hD' : D3 t m (k + 1) 0 := by
            unfold D3 at hD
            rcases hD with ⟨h1, _⟩ | ⟨_, h1⟩
            · exact absurd h1 hnd
            · exact h1
          have hs := st_var (a1 := a1) (a2 := a2) hR hkn hc
          by_cases h116 : t k = 116
          · have e : wcp t (m + 1) k S W 0 = wcp t m (k + 1) (-1 :: S) W 0 := by rw [wcp_s, if_pos (isd hnd), if_pos h116]
            rw [e]
            rw [if_neg (not_not_intro h116)] at hs
            exact atom a1 _ m (k + 1) (by omega) (by omega) (ev_var (by decide) (by rw [if_pos (by decide), if_neg (not_not_intro rfl)])) (EL_of hV' hnd) hD' hs
          · have h115 : t k = 115 := hc.resolve_left h116
            have e : wcp t (m + 1) k S W 0 = wcp t m (k + 1) (-2 :: S) W 0 := by rw [wcp_s, if_pos (isd hnd), if_neg h116, if_pos h115]
            rw [e]
            rw [if_pos h116] at hs
            exact atom a2 _ m (k + 1) (by omega) (by omega) (ev_var (by decide) (by rw [if_pos (by decide), if_pos (by decide)])) (EL_of hV' hnd) hD' hs
        · have hD' : D3 t m (k + 1) 1 := by
            unfold D3 at hD
            rcases hD with ⟨_, _, h1⟩ | ⟨h1, _⟩
            · exact h1
            · exact absurd hc h1
          obtain ⟨c, m', e1, e2, e3, e4, e5⟩ := wdigs m (k + 1) 1 hV' (Or.inr (Or.inr ⟨k, rfl, hc⟩)) hD' (by omega)
          have e6 : k + (c + 1) = k + 1 + c := by omega
          have hdg : ∀ j, j < c + 1 → dg (t (k + j)) := fun j hj => by
            cases j with
            | zero => exact hc
            | succ j => rw [show k + (j + 1) = k + 1 + j by omega]; exact e3 j (by omega)
          have hend : m' = 0 ∨ ¬ dg (t (k + (c + 1))) := by rw [e6]; exact e2.2
          have e : wcp t (m + 1) k S W 0 = wcp t m' (k + (c + 1)) (num t (c + 1) k 0 :: S) W 0 := by
            rw [show m + 1 = c + 1 + m' by omega]; exact cp_digs c m' k S W 0 hdg hend
          have hN := num_in (c := c + 1) (k := k) (by omega) hdg
          have k0 : (0 : Int32).toInt = 0 := rfl
          rw [e]
          refine atom (num t (c + 1) k 0) _ m' (k + (c + 1)) (by omega) (by omega) (ev_var ?_ ?_) (by rw [e6]; exact e2) (by rw [e6]; exact e5) (st_num hR (by omega) hdg ?_)
          · rw [le_i, show (-2 : Int32).toInt = -2 by decide]; omega
          · rw [if_neg (by rw [lt_i]; omega)]
          · rcases hend with h | h
            · exact Or.inl (by omega)
            · exact Or.inr h
    | false =>
      obtain ⟨hq, hnd⟩ := hh rfl
      obtain ⟨q1, q2⟩ := HQ_1 (S := S) (a1 := a1) (a2 := a2) hq rfl h0
      cases m with
      | zero =>
        obtain rfl : k = n := by omega
        have hd0 : d = 0 := hV.2
        subst hd0
        obtain ⟨_, rfl⟩ := hE
        exact ⟨R, wlv R 0, Rk.rf, q2, hl, rfl, hR, fun _ _ _ _ => rfl⟩
      | succ m =>
        have hkn : k < n := by omega
        have hnd : ¬ dg (t k) := hnd.resolve_left (by omega)
        have hD' : D3 t m (k + 1) 0 := by
          unfold D3 at hD
          rcases hD with ⟨h1, _⟩ | ⟨_, h1⟩
          · exact absurd h1 hnd
          · exact h1
        rcases VL_has hV with ⟨h1, _⟩ | ⟨hc, hV'⟩ | ⟨hc, hd0, hV'⟩
        · exact absurd h1 hnd
        · have hcn : ¬ t k = 116 ∧ ¬ t k = 115 ∧ ¬ t k = 41 ∧ ¬ t k = 40 := by
            rcases hc with (h | h) | (h | h | h) <;> rw [h] <;> decide
          have e : wcp t (m + 1) k S W 0 = wcp t m (k + 1) (popW (f_X2_tightness (t k)) W S).2 (t k :: (popW (f_X2_tightness (t k)) W S).1) 0 := by
            rw [wcp_s, if_pos (isd hnd), if_neg hcn.1, if_neg hcn.2.1]
            unfold tg
            rw [if_pos hcn.2.2.1, if_neg hcn.2.2.2]
            first | done | rfl
          rw [e]
          rcases hc with hc | hc
          · rw [tight_sg hc]
            have hwk := work_s (by omega) hl hc
            have hfr : ∀ j q, ¬ (j = 0 ∧ q = 27) → ¬ (13 ≤ j ∧ j ≤ 16 ∧ d ≤ q) → f_X7_work R (t k) j q = R j q := fun j q p1 p2 => by rw [hwk, up2_n _ _ (by omega), up2_n _ _ (by omega), up2_n _ _ (by omega)]
            refine END_tr (st_work hR hkn (Or.inl hc)) (fun j q p1 p2 => hfr j q p1 (by omega)) (ih m (k + 1) _ _ W0 K0 _ true d (by omega) (by omega) hd hV' hD' (RW_of hR hfr) (by rw [hwk, up2_n _ _ (by omega), up2_n _ _ (by omega), up2_n _ _ (by omega)]; exact hl) (ENs_congr d W0 K0 (fun j q p1 p2 p3 => hfr j q (by omega) (by omega)) hE) (fun _ => Or.inr (Or.inr (Or.inl ⟨t k, wlv R d, hc, by rw [q1], q2, ?_, ?_, ?_⟩))) (fun q => by cases q))
            · rw [hwk, up2_n _ _ (by omega), up2_n _ _ (by omega), up2_s, lsum_eq (by omega) hl]; rfl
            · rw [hwk, up2_n _ _ (by omega), up2_s]; rfl
            · rw [hwk, up2_s]
          · rw [tight_pg hc]
            have hwk := work_p (by omega) hl hc
            have hfr : ∀ j q, ¬ (j = 0 ∧ q = 27) → ¬ (13 ≤ j ∧ j ≤ 16 ∧ d ≤ q) → f_X7_work R (t k) j q = R j q := fun j q p1 p2 => by rw [hwk, up2_n _ _ (by omega)]
            refine END_tr (st_work hR hkn (Or.inr hc)) (fun j q p1 p2 => hfr j q p1 (by omega)) (ih m (k + 1) _ _ W0 K0 _ true d (by omega) (by omega) hd hV' hD' (RW_of hR hfr) (by rw [hwk, up2_n _ _ (by omega)]; exact hl) (ENs_congr d W0 K0 (fun j q p1 p2 p3 => hfr j q (by omega) (by omega)) hE) (fun _ => ?_) (fun q => by cases q))
            rw [hwk]
            exact HQ_2 hq rfl h0 (t k) hc
        · obtain ⟨e, rfl⟩ : ∃ e, d = e + 1 := ⟨d - 1, by omega⟩
          obtain ⟨W1, W2, K2, w1, w2, w3⟩ := hE
          subst w1
          have ec : wcp t (m + 1) k S W 0 = wcp t m (k + 1) (popW 1 W S).2 W1 0 := by
            rw [wcp_s, if_pos (isd hnd), hc, if_neg (by decide), if_neg (by decide)]
            unfold tg
            rw [if_neg (not_not_intro rfl), q1]
            first | done | rfl
          rw [ec]
          have hst := st_close (a1 := a1) (a2 := a2) hR hkn hc
          have hl2 : up2 R 0 27 (R 0 27 - 1) 0 27 = nI e := by rw [up2_s, hl]; exact nI_pred e
          have ls : f_X7_levelSum R = wlv R (e + 1) := lsum_eq (by omega) hl
          rw [ls] at hst
          have ea := atom_eq (by omega) hl2 (wlv R (e + 1))
          have hfr : ∀ j q, ¬ (j = 0 ∧ q = 27) → ¬ (j = 15 ∧ q = e) → f_X7_atom (up2 R 0 27 (R 0 27 - 1)) (wlv R (e + 1)) j q = R j q := fun j q p1 p2 => by rw [ea, up2_n _ _ (by omega), up2_n _ _ (by omega)]
          refine END_tr hst (fun j q p1 p2 => hfr j q p1 (by omega)) (ih m (k + 1) _ W1 W2 K2 _ false e (by omega) (by omega) (by omega) hV' hD' (RW_of (d := 0) hR (fun j q p1 p2 => hfr j q p1 (by omega))) (by rw [ea, up2_n _ _ (by omega)]; exact hl2) (ENs_congr e W2 K2 (fun j q p1 p2 p3 => hfr j q (by omega) (by omega)) w3) (fun q => by cases q) (fun _ => ⟨?_, (EL_of hV' hnd).2⟩))
          rw [q2]
          refine LQ_atom w2 (hfr _ _ (by omega) (by omega)) (hfr _ _ (by omega) (by omega)) ?_
          rw [ea, up2_s, up2_n _ _ (by omega), up2_n _ _ (by omega)]
end PR
/-- what both sides' texts say -/
def clampv (y : Int32) : Int32 := mx (-40) (mn 40 y)
theorem mx_i (x y : Int32) : (mx x y).toInt = max x.toInt y.toInt := by
  unfold mx; split <;> rename_i h <;> rw [lt_i] at h <;> omega
theorem mn_i (x y : Int32) : (mn x y).toInt = min x.toInt y.toInt := by
  unfold mn; split <;> rename_i h <;> rw [lt_i] at h <;> omega
theorem clampv_eq (y : Int32) : (if (-40) ≤ y then (if y ≤ 40 then y else 40) else (-40)) = clampv y := by
  apply eq_i.mpr
  have k1 : (-40 : Int32).toInt = -40 := by decide
  have k2 : (40 : Int32).toInt = 40 := by decide
  unfold clampv
  rw [mx_i, mn_i, k1, k2]
  simp only [le_i, k1, k2]
  split
  · split
    · omega
    · rw [k2]; omega
  · rw [k1]; omega
