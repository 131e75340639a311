/-! games of two, both sides -/
def cls2 (Cx : Mem) (x1 x2 r1 r2 b1 b2 : Int32) : Mem := (f_X3_enter (f_X3_enter (f_X3_clear Cx 15) 15 8 x1 r1 b1).2 15 8 x2 r2 b2).2
def ref2 (Sx : Mem) (x1 x2 r1 r2 b1 b2 : Int32) : Mem := f_X7_lay (f_X7_lay (up2 (up2 (up2 Sx 0 8 2) 0 7 0) 0 40 4) (nI 0) x1 r1 b1) (nI 1) x2 r2 b2
theorem cls2_fr {Cx : Mem} {x1 x2 r1 r2 b1 b2 : Int32} {j q : Nat} (h : ¬ (j = 15 ∧ (q = 1 ∨ q = 2))) (h2 : ¬ (j = 27 ∨ j = 28)) (h3 : ¬ (j = 39 ∨ j = 40)) : cls2 Cx x1 x2 r1 r2 b1 b2 j q = Cx j q := by
  unfold cls2
  have c1 : (f_X3_enter (f_X3_clear Cx 15) 15 8 x1 r1 b1).2 15 1 = nI 1 := by rw [(enter_ok (n := 0) (by omega) (by omega) clear_1.1).2, up2_s]
  rw [enter_fr (n := 1) (by omega) (by omega) c1 (by omega) (by omega) (by omega), enter_fr (n := 0) (by omega) (by omega) clear_1.1 (by omega) (by omega) (by omega), clear_fr h]
theorem ref2_fr {Sx : Mem} {x1 x2 r1 r2 b1 b2 : Int32} {j q : Nat} (h : ¬ (j = 0 ∧ (q = 7 ∨ q = 8 ∨ q = 40))) (h2 : ¬ (3 ≤ j ∧ j ≤ 11)) (h3 : ¬ j = 22) : ref2 Sx x1 x2 r1 r2 b1 b2 j q = Sx j q := by
  unfold ref2
  rw [lay_fr (by omega) (by omega), lay_fr (by omega) (by omega), up2_n _ _ (by omega), up2_n _ _ (by omega), up2_n _ _ (by omega)]
theorem two_start {C S Cx Sx : Mem} (h : Core C S) (hc : GC C S Cx) (hr : GR S Sx) {x1 x2 r1 r2 : Int32} (hx1 : bx x1) (hx2 : bx x2) (hr1 : r1 = 0 ∨ r1 = 1) (hr2 : r2 = 0 ∨ r2 = 1) {b1 b2 : Nat} (h1 : b1 < 16) (h2 : b2 < 16) :
    RUN (some 4) (cls2 Cx x1 x2 r1 r2 (nI b1) (nI b2)) (ref2 Sx x1 x2 r1 r2 (nI b1) (nI b2)) 15 1 2 0 (lnO S) (S 1) (S 0 4) ∧ ∀ i, i < 2 → ref2 Sx x1 x2 r1 r2 (nI b1) (nI b2) 7 i = 0 := by
  obtain ⟨cl1, cl2⟩ := clear_1 (C := Cx)
  generalize hB : up2 (up2 (up2 Sx 0 8 2) 0 7 0) 0 40 4 = B
  have B8 : B 0 8 = nI 2 := by rw [← hB, up2_n _ _ (by omega), up2_n _ _ (by omega), up2_s]; rfl
  have B7 : B 0 7 = nI 0 := by rw [← hB, up2_n _ _ (by omega), up2_s]; rfl
  have B40 : B 0 40 = nI 4 := by rw [← hB, up2_s]; rfl
  generalize hA : up2 (up2 (up2 B 3 0 x1) 4 0 (if r1 = 0 then -1 else 1)) 22 0 (nI b1) = A
  have hL1 : f_X7_lay B (nI 0) x1 r1 (nI b1) = f_X7_begin A (nI 0) := by rw [lay_eq (by omega), hA]
  have a3 : A 3 0 = x1 := by rw [← hA, up2_n _ _ (by omega), up2_n _ _ (by omega), up2_s]
  have a4 : A 4 0 = if r1 = 0 then -1 else 1 := by rw [← hA, up2_n _ _ (by omega), up2_s]
  have a22 : A 22 0 = nI b1 := by rw [← hA, up2_s]
  have afr : ∀ q, A 0 q = B 0 q := fun q => by rw [← hA, up2_n _ _ (by omega), up2_n _ _ (by omega), up2_n _ _ (by omega)]
  obtain ⟨e1, e2, e3, e4⟩ := enter_BS (C := f_X3_clear Cx 15) (S := A) (o := 15) (n := 0) (kd := 8) (x := x1) (rt := r1) (fg := nI b1) (by omega) (by omega) cl1 hx1 hr1 a3 a4
  have ent1 := enter_ok (C := f_X3_clear Cx 15) (o := 15) (n := 0) (kd := 8) (x := x1) (rt := r1) (fg := nI b1) (by omega) (by omega) cl1
  have c11 : (f_X3_enter (f_X3_clear Cx 15) 15 8 x1 r1 (nI b1)).2 15 1 = nI 1 := by rw [ent1.2, up2_s]
  have c12 : (f_X3_enter (f_X3_clear Cx 15) 15 8 x1 r1 (nI b1)).2 15 2 = nI 0 := by rw [enter_fr (n := 0) (by omega) (by omega) cl1 (by omega) (by omega) (by omega)]; exact cl2
  have bfr := fun j q => @begin_fr A 0 (by omega) j q
  have beg7 : ∀ (M : Mem) (i : Nat), i < 4 → f_X7_begin M (nI i) 7 i = 0 := fun M i hi => by
    unfold f_X7_begin
    simp only [bnd_nr]
    rw [nI_clamp (by omega), up2_n _ _ (by omega), up2_n _ _ (by omega), up2_n _ _ (by omega), up2_n _ _ (by omega), up2_s]
  have y0 := beg7 A 0 (by omega)
  generalize f_X7_begin A (nI 0) = R1 at e1 e2 bfr hL1 y0
  generalize hC1 : (f_X3_enter (f_X3_clear Cx 15) 15 8 x1 r1 (nI b1)).2 = C1 at e1 e2 e3 e4 c11 c12
  generalize hA2 : up2 (up2 (up2 R1 3 1 x2) 4 1 (if r2 = 0 then -1 else 1)) 22 1 (nI b2) = A2
  have hL2 : f_X7_lay R1 (nI 1) x2 r2 (nI b2) = f_X7_begin A2 (nI 1) := by rw [lay_eq (by omega), hA2]
  have d3 : A2 3 1 = x2 := by rw [← hA2, up2_n _ _ (by omega), up2_n _ _ (by omega), up2_s]
  have d4 : A2 4 1 = if r2 = 0 then -1 else 1 := by rw [← hA2, up2_n _ _ (by omega), up2_s]
  have d22 : A2 22 1 = nI b2 := by rw [← hA2, up2_s]
  have dfr : ∀ j q, ¬ (q = 1 ∧ (j = 3 ∨ j = 4 ∨ j = 22)) → A2 j q = R1 j q := fun j q p => by rw [← hA2, up2_n _ _ (by omega), up2_n _ _ (by omega), up2_n _ _ (by omega)]
  obtain ⟨f1, f2, f3, f4⟩ := enter_BS (C := C1) (S := A2) (o := 15) (n := 1) (kd := 8) (x := x2) (rt := r2) (fg := nI b2) (by omega) (by omega) c11 hx2 hr2 d3 d4
  have ent2 := enter_ok (C := C1) (o := 15) (n := 1) (kd := 8) (x := x2) (rt := r2) (fg := nI b2) (by omega) (by omega) c11
  have efr := fun j q => @enter_fr C1 15 1 8 x2 r2 (nI b2) (by omega) (by omega) c11 j q
  have b2fr := fun j q => @begin_fr A2 1 (by omega) j q
  have y1 := beg7 A2 1 (by omega)
  have hR : ref2 Sx x1 x2 r1 r2 (nI b1) (nI b2) = f_X7_begin A2 (nI 1) := by unfold ref2; rw [hB, hL1, hL2]
  have hCC : cls2 Cx x1 x2 r1 r2 (nI b1) (nI b2) = (f_X3_enter C1 15 8 x2 r2 (nI b2)).2 := by unfold cls2; rw [hC1]
  have fC := fun j q => @cls2_fr Cx x1 x2 r1 r2 (nI b1) (nI b2) j q
  have fR := fun j q => @ref2_fr Sx x1 x2 r1 r2 (nI b1) (nI b2) j q
  rw [hR] at fR ⊢
  rw [hCC] at fC ⊢
  have c21 : (f_X3_enter C1 15 8 x2 r2 (nI b2)).2 15 1 = nI 2 := by rw [ent2.2, up2_s]
  have c22 : (f_X3_enter C1 15 8 x2 r2 (nI b2)).2 15 2 = nI 0 := by rw [efr _ _ (by omega) (by omega) (by omega)]; exact c12
  generalize (f_X3_enter C1 15 8 x2 r2 (nI b2)).2 = C2 at f1 f2 f3 f4 efr c21 c22 fC ⊢
  generalize f_X7_begin A2 (nI 1) = R2 at f1 f2 b2fr y1 fR ⊢
  have rfr : ∀ q, R2 0 q = B 0 q := fun q => by rw [b2fr _ _ (by omega), dfr _ _ (by omega), bfr _ _ (by omega), afr]
  have r40 : R2 0 40 = nI 4 := by rw [rfr]; exact B40
  have r220 : R2 22 0 = nI b1 := by rw [b2fr _ _ (by omega), dfr _ _ (by omega), bfr _ _ (by omega)]; exact a22
  have r221 : R2 22 1 = nI b2 := by rw [b2fr _ _ (by omega)]; exact d22
  have hby := GBY h hc hr
  have hX : RX (some 4) C2 R2 15 1 2 := by
    refine ⟨c21, by rw [rfr]; exact B8, BY_of hby (fun q hq => fC _ _ (by omega) (by omega) (by omega)) (fun q hq => fR _ _ (by omega) (by omega) (by omega)), fun i hi => ?_⟩
    have : i = 0 ∨ i = 1 := by omega
    rcases this with rfl | rfl
    · refine ⟨BX_of e1 (fun q p1 p2 => efr _ _ (by omega) (by omega) (by omega)) (fun j p1 p2 => by rw [b2fr _ _ (by omega), dfr _ _ (by omega)]), BS_of e2 (fun q p1 p2 => efr _ _ (by omega) (by omega) (by omega)) (efr _ _ (by omega) (by omega) (by omega)) (fun j p1 p2 => by rw [b2fr _ _ (by omega), dfr _ _ (by omega)]), Or.inl ⟨by omega, by rw [efr _ _ (by omega) (by omega) (by omega)]; exact e3, by rw [efr _ _ (by omega) (by omega) (by omega), r220]; exact e4, r40, Or.inl rfl, by rw [r220, nI_toInt (by omega)]; omega, by rw [r220, nI_toInt (by omega)]; omega⟩⟩
    · exact ⟨f1, f2, Or.inl ⟨by omega, f3, by rw [r221]; exact f4, r40, Or.inl rfl, by rw [r221, nI_toInt (by omega)]; omega, by rw [r221, nI_toInt (by omega)]; omega⟩⟩
  refine ⟨⟨hX, c22, by rw [rfr]; exact B7, by omega, WL_of hc.2 (fC _ _ (by omega) (by omega) (by omega)) (fun q => fC _ _ (by omega) (by omega) (by omega)) (fC _ _ (by omega) (by omega) (by omega)) (fun q => fC _ _ (by omega) (by omega) (by omega)), (Core_WL h).2.2, fun q hq => by rw [fR _ _ (by omega) (by omega) (by omega)]; exact hr.2.2.2.2.2.1 q hq⟩, fun i hi => ?_⟩
  have : i = 0 ∨ i = 1 := by omega
  rcases this with rfl | rfl
  · rw [b2fr _ _ (by omega), dfr _ _ (by omega)]; exact y0
  · exact y1
/-! how far up one may be -/
def yb (y : Int32) : Prop := 0 ≤ y.toInt ∧ y.toInt ≤ 414
theorem w5 : ∀ n : Fin 81, -8 ≤ (Int32.ofInt ((n.val : Int) - 40) / 5).toInt ∧ (Int32.ofInt ((n.val : Int) - 40) / 5).toInt ≤ 8 := by decide +kernel
theorem wd5 {w : Int32} (h : -40 ≤ w.toInt ∧ w.toInt ≤ 40) : -8 ≤ (w / 5).toInt ∧ (w / 5).toInt ≤ 8 := by
  have := w5 ⟨(w.toInt + 40).toNat, by omega⟩
  have e : (((w.toInt + 40).toNat : Nat) : Int) - 40 = w.toInt := by omega
  simp only [e, Int32.ofInt_toInt] at this
  exact this
theorem t5 : ∀ n : Fin 4, 0 ≤ (nI n.val / 2).toInt ∧ (nI n.val / 2).toInt ≤ 3 := by decide +kernel
theorem move_y {R : Mem} {i : Nat} (hi : i < 4) {w : Int32} (hd : (R 0 0).toInt ≤ 400) (ht : 0 ≤ (R 0 1).toInt ∧ (R 0 1).toInt ≤ 3) (hw : -40 ≤ w.toInt ∧ w.toInt ≤ 40) (hway : R 8 i = 1 ∨ R 8 i = -1) (hy : yb (R 7 i)) : yb (f_X7_moveOne R (nI i) w 7 i) := by
  obtain ⟨Y, hY, hYs⟩ := move_two R i hi w
  have tide : ∀ x, 0 ≤ (f_X7_tideAt R x).toInt ∧ (f_X7_tideAt R x).toInt ≤ 3 := fun x => by
    unfold f_X7_tideAt
    simp only [bnd_nr]
    obtain ⟨t, h3, e⟩ := of_rng (N := 3) ht.1 ht.2
    have := t5 ⟨t, by omega⟩
    simp only at this
    refine ite_P (P := fun z : Int32 => 0 ≤ z.toInt ∧ z.toInt ≤ 3) (fun _ => ?_) (fun _ => ht)
    rw [e]; exact this
  unfold yb at hy ⊢
  have y7 : 0 ≤ (Y 7 i).toInt ∧ (Y 7 i).toInt ≤ 414 := by
    rw [hY]
    by_cases c1 : f_X7_isAtDist R (nI i) = 0
    · have hlt := (atM hi).mp c1
      rw [lt_i] at hlt
      rw [if_pos c1]
      by_cases c2 : R 9 i ≤ 0
      · rw [if_pos c2]
        simp only [bnd_nr]
        rw [up2_n _ _ (by omega), up2_s]
        have hz := wd5 hw
        have h5 := tide (R 6 i)
        generalize f_X7_tideAt R (R 6 i) = t at h5
        generalize w / 5 = z at hz
        have hb : ∀ p : Prop, ∀ [Decidable p], ((if p then (0 : Int32) else 2).toInt = 0 ∨ (if p then (0 : Int32) else 2).toInt = 2) := fun p _ => by by_cases q : p; rw [if_pos q]; exact Or.inl (by decide); rw [if_neg q]; exact Or.inr (by decide)
        have hb := hb (¬ R 18 i = 1)
        generalize (if ¬ R 18 i = 1 then (0 : Int32) else 2) = b at hb
        have k6 : (6 : Int32).toInt = 6 := by decide
        have hm : (R 8 i * z).toInt = z.toInt ∨ (R 8 i * z).toInt = -z.toInt := by
          rcases hway with q | q
          · left; rw [q, Int32.one_mul]
          · right; rw [q, Int32.neg_mul, Int32.one_mul, i_neg (by omega)]
        generalize R 8 i * z = u at hm
        have e1 : (6 - u).toInt = 6 - u.toInt := by rw [i_sub (by rw [k6]; omega), k6]
        have e2 : (6 - u - b).toInt = 6 - u.toInt - b.toInt := by rw [i_sub (by omega), e1]
        have e3 : (6 - u - b - t).toInt = 6 - u.toInt - b.toInt - t.toInt := by rw [i_sub (by omega), e2]
        by_cases c3 : 0 ≤ 6 - u - b - t
        · rw [if_pos c3]; rw [le_i, k0] at c3
          rw [i_add (by omega), e3]; omega
        · rw [if_neg c3, Int32.add_zero]; exact hy
      · rw [if_neg c2]
        simp only [bnd_nr]
        rw [up2_n _ _ (by omega), up2_s]
        have h5 := tide (R 6 i)
        have e1 : (R 7 i - f_X7_tideAt R (R 6 i)).toInt = (R 7 i).toInt - (f_X7_tideAt R (R 6 i)).toInt := i_sub (by omega)
        by_cases c3 : 0 ≤ R 7 i - f_X7_tideAt R (R 6 i)
        · rw [if_pos c3]; rw [le_i, k0] at c3; omega
        · rw [if_neg c3, k0]; omega
    · rw [if_neg c1]
      simp only [bnd_nr]
      rw [up2_n _ _ (by omega)]; exact hy
  rw [hYs]
  refine ite_P (P := fun Z : Mem => 0 ≤ (Z 7 i).toInt ∧ (Z 7 i).toInt ≤ 414) (fun _ => y7) (fun _ => ite_P (P := fun Z : Mem => 0 ≤ (Z 7 i).toInt ∧ (Z 7 i).toInt ≤ 414) (fun _ => y7) (fun _ => ?_))
  rw [up2_n _ _ (by omega)]; exact y7
theorem refOn_y {g : Option Nat} {R : Mem} {n s : Nat} (hn : n ≤ 4) (h8 : R 0 8 = nI n) (h7 : R 0 7 = nI s) (hs : s ≤ 400) (hin : ∀ i, i < n → R 10 i = -4 ∨ 0 ≤ (R 10 i).toInt) (hd : (R 0 0).toInt ≤ 400) (ht : 0 ≤ (R 0 1).toInt ∧ (R 0 1).toInt ≤ 3) (hw : -40 ≤ (R 17 s).toInt ∧ (R 17 s).toInt ≤ 40)
    (hway : ∀ i, i < n → R 8 i = 1 ∨ R 8 i = -1) (hy : ∀ i, i < n → yb (R 7 i)) : ∀ i, i < n → yb (refOn g R 7 i) := by
  obtain ⟨b1, b2⟩ := gB_ok hn h8 hin
  have km := rep_ind (g := gM) (n := n) (M := rep gB n R) (S := fun k M => (∀ j q, ¬ (q < k ∧ 6 ≤ j ∧ j ≤ 11) → M j q = rep gB n R j q) ∧ ∀ i, i < n → yb (M 7 i)) (fun k M hk hS => by
    obtain ⟨s1, s2⟩ := hS
    refine ⟨fun j q h => by rw [gM_fr (by omega) (by omega)]; exact s1 _ _ (by omega), fun i hi => ?_⟩
    by_cases e : i = k
    · subst e
      unfold gM
      refine ite_P (P := fun Z : Mem => yb (Z 7 i)) (fun _ => s2 i hi) (fun _ => ?_)
      refine move_y (by omega) ?_ ?_ ?_ ?_ (s2 i hi)
      · rw [s1 _ _ (by omega), b1 _ _ (by omega)]; exact hd
      · rw [s1 _ _ (by omega), b1 _ _ (by omega)]; exact ht
      · rw [s1 0 7 (by omega), b1 0 7 (by omega), h7, nI_clamp (by omega), s1 _ _ (by omega), b1 _ _ (by omega)]; exact hw
      · rw [s1 _ _ (by omega), b1 _ _ (by omega)]; exact hway i hi
    · rw [gM_fr (by omega) (by omega)]; exact s2 i hi) ⟨fun _ _ _ => rfl, fun i hi => by rw [b1 _ _ (by omega)]; exact hy i hi⟩ n (Nat.le_refl _)
  obtain ⟨k1', k2⟩ := km
  have em := moveAll_rep hn h8
  generalize rep gM n (rep gB n R) = Rm at k1' k2 em
  have h8m : up2 Rm 0 7 (Rm 0 7 + 1) 0 8 = nI n := by rw [up2_n _ _ (by omega), k1' _ _ (by omega), b1 _ _ (by omega)]; exact h8
  have ew : lpT g 5 (up2 Rm 0 7 (Rm 0 7 + 1)) 0 = rep (gN g) n (up2 Rm 0 7 (Rm 0 7 + 1)) := willM_rep hn h8m
  have wfr := rep_ind (g := gN g) (n := n) (M := up2 Rm 0 7 (Rm 0 7 + 1)) (S := fun k M => ∀ j q, ¬ j = 19 → M j q = up2 Rm 0 7 (Rm 0 7 + 1) j q) (fun k M hk hS j q hj => by
    show up2 M _ _ _ j q = _
    rw [up2_n _ _ (by omega)]; exact hS j q hj) (fun _ _ _ => rfl) n (Nat.le_refl _)
  generalize rep (gN g) n (up2 Rm 0 7 (Rm 0 7 + 1)) = Rw at ew wfr
  have h8w : Rw 0 8 = nI n := by rw [wfr _ _ (by omega)]; exact h8m
  have zfr := rep_ind (g := gZ) (n := n) (M := Rw) (S := fun k M => ∀ j q, ¬ (j = 8 ∨ j = 9 ∨ j = 11) → M j q = Rw j q) (fun k M hk hS j q hj => by
    unfold gZ
    refine ite_fr (hS j q hj) ?_
    unfold f_X7_turnOne
    simp only [bnd_nr]
    rw [up2_n _ _ (by omega), up2_n _ _ (by omega), up2_n _ _ (by omega)]; exact hS j q hj) (fun _ _ _ => rfl) n (Nat.le_refl _)
  intro i hi
  rw [refOn_eq, em, ew, turnAll_rep hn h8w, zfr _ _ (by omega), wfr _ _ (by omega), up2_n _ _ (by omega)]
  exact k2 i hi
/-- all in: nothing more goes on -/
theorem still {g : Option Nat} {R : Mem} {n : Nat} (hn : n ≤ 4) (h8 : R 0 8 = nI n) (hin : ∀ i, i < n → ¬ R 10 i = -4 ∧ 0 ≤ (R 10 i).toInt) : ∀ j q, ¬ (j = 0 ∧ q = 7) → ¬ j = 18 → ¬ j = 19 → refOn g R j q = R j q := by
  have hin' : ∀ i, i < n → R 10 i = -4 ∨ 0 ≤ (R 10 i).toInt := fun i hi => Or.inr (hin i hi).2
  obtain ⟨b1, b2⟩ := gB_ok hn h8 hin'
  have nin : ∀ (M : Mem) (k : Nat), k < n → M 10 k = R 10 k → ¬ f_X7_isIn M (nI k) = 0 := fun M k hk e q => (hin k hk).1 (by
    have := (isInM (R := M) (i := k) (by omega) (by rw [e]; exact hin' k hk)).mp q
    rw [← e]; exact this)
  have km := rep_ind (g := gM) (n := n) (M := rep gB n R) (S := fun k M => M = rep gB n R) (fun k M hk hS => by
    subst hS
    unfold gM
    rw [if_pos (nin _ k hk (b1 _ _ (by omega)))]) rfl n (Nat.le_refl _)
  have em := moveAll_rep hn h8
  rw [km] at em
  generalize rep gB n R = Rb at b1 em
  generalize Rb 0 7 + 1 = t at em
  have h8m : up2 Rb 0 7 t 0 8 = nI n := by rw [up2_n _ _ (by omega), b1 _ _ (by omega)]; exact h8
  have ew : lpT g 5 (up2 Rb 0 7 t) 0 = rep (gN g) n (up2 Rb 0 7 t) := willM_rep hn h8m
  have wfr := rep_ind (g := gN g) (n := n) (M := up2 Rb 0 7 t) (S := fun k M => (∀ j q, ¬ j = 19 → M j q = up2 Rb 0 7 t j q) ∧ ∀ i, i < k → M 19 i = 0) (fun k M hk hS => by
    obtain ⟨s1, s2⟩ := hS
    refine ⟨fun j q hj => by show up2 M _ _ _ j q = _; rw [up2_n _ _ (by omega)]; exact s1 j q hj, fun i hi => ?_⟩
    show up2 M 19 k (tM g k M) 19 i = 0
    by_cases e : i = k
    · subst e
      rw [up2_s]
      unfold tM
      have hm : f_X7_mayTurn M (nI i) = 0 := by
        unfold f_X7_mayTurn
        simp only [bnd_nr]
        rw [if_pos (nin M i hk (by rw [s1 _ _ (by omega), up2_n _ _ (by omega), b1 _ _ (by omega)]))]
      rw [if_pos hm]
    · rw [up2_n _ _ (by omega)]; exact s2 i (by omega)) ⟨fun _ _ _ => rfl, fun i hi => by omega⟩ n (Nat.le_refl _)
  generalize rep (gN g) n (up2 Rb 0 7 t) = Rw at ew wfr
  have h8w : Rw 0 8 = nI n := by rw [wfr.1 _ _ (by omega)]; exact h8m
  have zfr := rep_ind (g := gZ) (n := n) (M := Rw) (S := fun k M => M = Rw) (fun k M hk hS => by
    subst hS
    unfold gZ
    rw [if_pos (by rw [wfr.2 k hk]; decide)]) rfl n (Nat.le_refl _)
  intro j q p1 p2 p3
  rw [refOn_eq, em, ew, turnAll_rep hn h8w, zfr, wfr.1 _ _ p3, up2_n _ _ p1, b1 _ _ p2]
theorem still_lp {R : Mem} {n : Nat} (hn : n ≤ 4) : ∀ (c k f : Nat) (R : Mem), c + k = 60 → c < f → R 0 8 = nI n → (∀ i, i < n → ¬ R 10 i = -4 ∧ 0 ≤ (R 10 i).toInt) → ∀ j q, ¬ (j = 0 ∧ q = 7) → ¬ j = 18 → ¬ j = 19 → lp_X7_leadBy_58 f R (nI k) j q = R j q := by
  intro c
  induction c with
  | zero =>
    intro k f R hk hf h8 hin j q p1 p2 p3
    obtain ⟨f, rfl⟩ : ∃ z, f = z + 1 := ⟨f - 1, by omega⟩
    obtain rfl : k = 60 := by omega
    rw [lp_X7_leadBy_58, if_pos (show (60 : Int32) ≤ nI 60 by decide)]
  | succ c ih =>
    intro k f R hk hf h8 hin j q p1 p2 p3
    obtain ⟨f, rfl⟩ : ∃ z, f = z + 1 := ⟨f - 1, by omega⟩
    rw [lp_X7_leadBy_58, if_neg (show ¬ (60 : Int32) ≤ nI k from nI_ge (b := 60) (by omega) (by decide))]
    simp only [bnd_nr]
    rw [nI_1]
    have hst := still (g := some 4) hn h8 hin
    have e : f_X7_bitsOn R = refOn (some 4) R := rfl
    rw [e]
    rw [ih (k + 1) f (refOn (some 4) R) (by omega) (by omega) (by rw [hst _ _ (by omega) (by omega) (by omega)]; exact h8) (fun i hi => by rw [hst _ _ (by omega) (by omega) (by omega)]; exact hin i hi) j q p1 p2 p3, hst _ _ p1 p2 p3]
theorem game_lp {ln : Nat} {t : Nat → Int32} {sd : Int32} : ∀ (c k f f' : Nat) (C R : Mem), c + k = 60 → c < f → c < f' → RUN (some 4) C R 15 1 2 k ln t sd → RNG R → (∀ i, i < 2 → yb (R 7 i)) →
    (∀ i, i < 2 → BX (lp_X3_goOn_2 f 15 1 60 C (nI k)) (lp_X7_leadBy_58 f' R (nI k)) (4 * (15 + 3) - 45 + i) i ∧ yb (lp_X7_leadBy_58 f' R (nI k) 7 i)) ∧ FrC 15 1 C (lp_X3_goOn_2 f 15 1 60 C (nI k)) ∧ FrR R (lp_X7_leadBy_58 f' R (nI k)) ∧ WL (lp_X3_goOn_2 f 15 1 60 C (nI k)) 1 ln t sd := by
  intro c
  induction c with
  | zero =>
    intro k f f' C R hk hf hf' h hn hy
    obtain ⟨f, rfl⟩ : ∃ z, f = z + 1 := ⟨f - 1, by omega⟩
    obtain ⟨f', rfl⟩ : ∃ z, f' = z + 1 := ⟨f' - 1, by omega⟩
    obtain rfl : k = 60 := by omega
    rw [goOn_eq, lp_X7_leadBy_58, if_pos (show (60 : Int32) ≤ nI 60 by decide), if_pos (show (60 : Int32) ≤ nI 60 by decide)]
    exact ⟨fun i hi => ⟨(h.1.2.2.2 i hi).1, hy i hi⟩, FrC.rf, FrR.rf, h.2.2.2.2.1⟩
  | succ c ih =>
    intro k f f' C R hk hf hf' h hn hy
    obtain ⟨f, rfl⟩ : ∃ z, f = z + 1 := ⟨f - 1, by omega⟩
    have e1 := run_C (geo15 (n := 2) (by omega)) (by omega) h
    rw [goOn_eq, if_neg (show ¬ (60 : Int32) ≤ nI k from nI_ge (b := 60) (by omega) (by decide))]
    by_cases hgo : going R 2 k
    · obtain ⟨f', rfl⟩ : ∃ z, f' = z + 1 := ⟨f' - 1, by omega⟩
      rw [if_neg (not_not_intro (e1.mpr hgo)), lp_X7_leadBy_58, if_neg (show ¬ (60 : Int32) ≤ nI k from nI_ge (b := 60) (by omega) (by decide))]
      simp only [bnd_nr]
      rw [nI_1]
      have e : f_X7_bitsOn R = refOn (some 4) R := rfl
      rw [e]
      obtain ⟨p1, p2, p3⟩ := run_step (geo15 (n := 2) (by omega)) h hgo.1 (fun q => absurd q (by omega))
      have hwv : -40 ≤ (R 17 k).toInt ∧ (R 17 k).toInt ≤ 40 := by
        rw [h.2.2.2.2.2.2 k (by omega)]
        obtain ⟨z, hz⟩ : ∃ z, Wv ln t (nI k) sd = clampv z := ⟨_, (valueAt_c h.2.2.2.2.1.1 (nI k) sd).1.symm⟩
        rw [hz]
        unfold clampv
        rw [mx_i, mn_i, show (-40 : Int32).toInt = -40 by decide, show (40 : Int32).toInt = 40 by decide]
        omega
      have hy2 := refOn_y (g := some 4) (n := 2) (s := k) (by omega) h.1.2.1 h.2.2.1 (by omega) (RX_in h.1) hn.1.2 hn.2 hwv (fun i hi => by
        have := (h.1.2.2.2 i hi).1.2.2.1
        exact this.imp (fun q => q.2) (fun q => q.2)) hy
      obtain ⟨q1, q2, q3, q4⟩ := ih (k + 1) f f' _ _ (by omega) (by omega) (by omega) p1 (by
        obtain ⟨a1, a2⟩ := hn
        exact ⟨by rw [p3 _ _ (by omega) (by omega) (by omega) (by omega)]; exact a1, by rw [p3 _ _ (by omega) (by omega) (by omega) (by omega)]; exact a2⟩) hy2
      exact ⟨q1, p2.tr q2, p3.tr q3, q4⟩
    · rw [if_pos (fun q => hgo (e1.mp q))]
      have hall : ∀ i, i < 2 → ¬ R 10 i = -4 ∧ 0 ≤ (R 10 i).toInt := fun i hi => by
        have h4 : ¬ R 10 i = -4 := fun q => hgo ⟨by omega, i, hi, q⟩
        exact ⟨h4, (RX_in h.1 i hi).resolve_left h4⟩
      have hst := still_lp (R := R) (n := 2) (by omega) (c + 1) k f' R hk hf' h.1.2.1 hall
      exact ⟨fun i hi => ⟨BX_of (h.1.2.2.2 i hi).1 (fun _ _ _ => rfl) (fun j p1 p2 => hst _ _ (by omega) (by omega) (by omega)), by rw [hst _ _ (by omega) (by omega) (by omega)]; exact hy i hi⟩, FrC.rf, fun j q p1 p2 p3 p4 => hst _ _ p1 p3 p4, h.2.2.2.2.1⟩
theorem ways_eq : ∀ k : Fin 4, (if nI k.val &&& 1 = 0 then (0 : Int32) else 1) = (if ¬ nI k.val &&& 1 = 1 then (0 : Int32) else 1) ∧ (if nI k.val &&& 2 = 0 then (0 : Int32) else 1) = (if ¬ nI k.val &&& 2 = 2 then (0 : Int32) else 1) := by decide +kernel
theorem lead_cls {Cx : Mem} {x1 x2 a3 b1 b2 : Int32} : f_X6_gameLead Cx x1 x2 a3 b1 b2 = (f_X3_leadOfFirst (f_X3_goOn (cls2 Cx x1 x2 (if a3 &&& 1 = 0 then 0 else 1) (if a3 &&& 2 = 0 then 0 else 1) b1 b2) 15 1 60) 15 (f_X3_goOn (cls2 Cx x1 x2 (if a3 &&& 1 = 0 then 0 else 1) (if a3 &&& 2 = 0 then 0 else 1) b1 b2) 15 1 60 1 0), f_X3_goOn (cls2 Cx x1 x2 (if a3 &&& 1 = 0 then 0 else 1) (if a3 &&& 2 = 0 then 0 else 1) b1 b2) 15 1 60) := by
  unfold f_X6_gameLead cls2
  simp only [bnd_nr, bnd2_nr]
theorem lead_ref {Sx : Mem} {x1 x2 a3 b1 b2 : Int32} : f_X7_leadBy Sx x1 x2 a3 b1 b2 = (f_X7_countsAs (lp_X7_leadBy_58 61 (ref2 Sx x1 x2 (if ¬ a3 &&& 1 = 1 then 0 else 1) (if ¬ a3 &&& 2 = 2 then 0 else 1) b1 b2) 0) 0 - f_X7_countsAs (lp_X7_leadBy_58 61 (ref2 Sx x1 x2 (if ¬ a3 &&& 1 = 1 then 0 else 1) (if ¬ a3 &&& 2 = 2 then 0 else 1) b1 b2) 0) 1, lp_X7_leadBy_58 61 (ref2 Sx x1 x2 (if ¬ a3 &&& 1 = 1 then 0 else 1) (if ¬ a3 &&& 2 = 2 then 0 else 1) b1 b2) 0) := by
  unfold f_X7_leadBy ref2
  simp only [bnd_nr]
  rw [show nI 0 = (0 : Int32) from rfl, show nI 1 = (1 : Int32) from rfl]
theorem h2b : ∀ n : Fin 201, 0 ≤ (nI n.val / 2).toInt ∧ (nI n.val / 2).toInt ≤ 100 := by decide +kernel
theorem counts_eq {C R : Mem} {b i : Nat} {d : Int32} (hi : i < 4) (hB : BX C R b i) (hd : d = R 0 0) (hr : RNG R) (hy : yb (R 7 i)) : (if f_X1_isIn C b = 0 then f_X1_height C b else d) = f_X7_countsAs R (nI i) ∧ -100 ≤ (f_X7_countsAs R (nI i)).toInt ∧ (f_X7_countsAs R (nI i)).toInt ≤ 414 := by
  have m := isInM hi hB.2.2.2.2.2.2.2
  have xc := isInC (C := C) (b := b)
  rw [hB.2.2.2.2.1] at xc
  have hh := height_eq hi hB
  unfold f_X7_countsAs
  simp only [bnd_nr]
  have hw : -100 ≤ (f_X7_worthOf R (nI i)).toInt ∧ (f_X7_worthOf R (nI i)).toInt ≤ 414 := by
    unfold f_X7_worthOf
    rw [nI_clamp (by omega), plainly_eq]
    have hx := hB.2.2.2.2.2.2.1
    unfold bx at hx
    unfold yb at hy
    have ea := ab_I (x := R 6 i) (by omega)
    have hr2 : 0 ≤ (ab (R 6 i)).toInt ∧ (ab (R 6 i)).toInt ≤ ((200 : Nat) : Int) := by rw [ea]; split <;> omega
    obtain ⟨z, hz, ez⟩ := of_rng hr2.1 hr2.2
    have := h2b ⟨z, by omega⟩
    simp only at this
    rw [ez, i_sub (by omega)]
    omega
  by_cases c : R 10 i = -4
  · rw [if_pos (xc.mpr c), if_pos (m.mpr c)]; exact ⟨hh, hw⟩
  · rw [if_neg (fun q => c (xc.mp q)), if_neg (fun q => c (m.mp q))]
    have := hr.1
    exact ⟨hd, by omega, by omega⟩
theorem game_val {C S Cx Sx : Mem} (h : Core C S) (hc : GC C S Cx) (hr : GR S Sx) {x1 x2 : Int32} (hx1 : bx x1) (hx2 : bx x2) {k b1 b2 : Nat} (hk : k < 4) (h1 : b1 < 16) (h2 : b2 < 16) :
    (f_X6_gameLead Cx x1 x2 (nI k) (nI b1) (nI b2)).1 = (f_X7_leadBy Sx x1 x2 (nI k) (nI b1) (nI b2)).1 ∧ (-1000 ≤ (f_X7_leadBy Sx x1 x2 (nI k) (nI b1) (nI b2)).1.toInt ∧ (f_X7_leadBy Sx x1 x2 (nI k) (nI b1) (nI b2)).1.toInt ≤ 1000) ∧ GC C S (f_X6_gameLead Cx x1 x2 (nI k) (nI b1) (nI b2)).2 ∧ GR S (f_X7_leadBy Sx x1 x2 (nI k) (nI b1) (nI b2)).2 := by
  obtain ⟨w1, w2⟩ := ways_eq ⟨k, hk⟩
  simp only at w1 w2
  rw [lead_cls, lead_ref, ← w1, ← w2]
  have r01 : ∀ p : Prop, ∀ [Decidable p], (if p then (0 : Int32) else 1) = 0 ∨ (if p then (0 : Int32) else 1) = 1 := fun p _ => by by_cases q : p; rw [if_pos q]; exact Or.inl rfl; rw [if_neg q]; exact Or.inr rfl
  have q1 := r01 (nI k &&& 1 = 0)
  have q2 := r01 (nI k &&& 2 = 0)
  generalize (if nI k &&& 1 = 0 then (0 : Int32) else 1) = t1 at q1
  generalize (if nI k &&& 2 = 0 then (0 : Int32) else 1) = t2 at q2
  obtain ⟨r0, ry⟩ := two_start h hc hr hx1 hx2 q1 q2 h1 h2
  have fC := fun j q => @cls2_fr Cx x1 x2 t1 t2 (nI b1) (nI b2) j q
  have fR := fun j q => @ref2_fr Sx x1 x2 t1 t2 (nI b1) (nI b2) j q
  generalize cls2 Cx x1 x2 t1 t2 (nI b1) (nI b2) = C1 at r0 fC ⊢
  generalize ref2 Sx x1 x2 t1 t2 (nI b1) (nI b2) = S1 at r0 ry fR ⊢
  have hrng : RNG S1 := by
    obtain ⟨_, _, _, _, _, _, _, _, _, _, _, a1, a2⟩ := h.1
    exact ⟨by rw [fR _ _ (by omega) (by omega) (by omega), hr.2.2.2.2.2.2 0 (by omega)]; exact a1, by rw [fR _ _ (by omega) (by omega) (by omega), hr.2.2.2.2.2.2 1 (by omega)]; exact a2⟩
  obtain ⟨g1, g2, g3, g4⟩ := game_lp 60 0 61 61 C1 S1 (by omega) (by omega) (by omega) r0 hrng (fun i hi => by rw [ry i hi]; unfold yb; decide)
  have eg : f_X3_goOn C1 15 1 60 = lp_X3_goOn_2 61 15 1 60 C1 (nI 0) := by
    unfold f_X3_goOn
    rw [bnd_nr, show ((60 : Int32).toInt - 0).toNat + 1 = 61 by decide, show nI 0 = (0 : Int32) from rfl]
  rw [eg, show (lp_X7_leadBy_58 61 S1 0) = lp_X7_leadBy_58 61 S1 (nI 0) by rw [show nI 0 = (0 : Int32) from rfl]]
  have hby := r0.1.2.2.1.1
  generalize lp_X3_goOn_2 61 15 1 60 C1 (nI 0) = C2 at g1 g2 g4 ⊢
  generalize lp_X7_leadBy_58 61 S1 (nI 0) = S2 at g1 g3 ⊢
  have hrng2 : RNG S2 := ⟨by rw [g3 _ _ (by omega) (by omega) (by omega) (by omega)]; exact hrng.1, by rw [g3 _ _ (by omega) (by omega) (by omega) (by omega)]; exact hrng.2⟩
  have hd : C2 1 0 = S2 0 0 := by rw [g2 _ _ (by omega) (by omega) (by omega) (by omega), g3 _ _ (by omega) (by omega) (by omega) (by omega)]; exact hby
  obtain ⟨a1, a2⟩ := counts_eq (by omega) (g1 0 (by omega)).1 hd hrng2 (g1 0 (by omega)).2
  obtain ⟨c1, c2⟩ := counts_eq (by omega) (g1 1 (by omega)).1 hd hrng2 (g1 1 (by omega)).2
  rw [show nI 0 = (0 : Int32) from rfl] at a1 a2
  rw [show nI 1 = (1 : Int32) from rfl] at c1 c2
  have hGC : GC C S C2 := GC_of hc (fun j q p1 p2 p3 p4 p5 => by rw [g2 _ _ (by omega) (by omega) (by omega) (by omega), fC _ _ (by omega) (by omega) (by omega)]) g4
  have hGR : GR S S2 := GR_of hr (fun j q p1 p2 p3 p4 => by rw [g3 _ _ (by omega) (by omega) (by omega) (by omega), fR _ _ (by omega) (by omega) (by omega)])
  have hl : f_X3_leadOfFirst C2 15 (C2 1 0) = f_X7_countsAs S2 0 - f_X7_countsAs S2 1 := by
    have hn2 : C2 15 1 = nI 2 := by rw [g2 _ _ (by omega) (by omega) (by omega) (by omega)]; exact r0.1.1
    have b0 : f_X3_boatAt C2 15 0 = some (4 * (15 + 3) - 45 + 0) := by
      unfold f_X3_boatAt
      simp only [bnd_nr]
      rw [hn2, if_neg (by decide), if_neg (by decide), if_neg (by decide)]
      rfl
    have b1 : f_X3_boatAt C2 15 1 = some (4 * (15 + 3) - 45 + 1) := by
      unfold f_X3_boatAt
      simp only [bnd_nr]
      rw [hn2, if_neg (by decide), if_neg (by decide), if_neg (by decide)]
      rfl
    have e : f_X3_leadOfFirst C2 15 (C2 1 0) = (if f_X1_isIn C2 (4 * (15 + 3) - 45 + 0) = 0 then f_X1_height C2 (4 * (15 + 3) - 45 + 0) else C2 1 0) - (if f_X1_isIn C2 (4 * (15 + 3) - 45 + 1) = 0 then f_X1_height C2 (4 * (15 + 3) - 45 + 1) else C2 1 0) := by
      unfold f_X3_leadOfFirst
      rw [b0, b1]
      rfl
    rw [e, a1, c1]
  refine ⟨hl, ?_, hGC, hGR⟩
  show -1000 ≤ (f_X7_countsAs S2 0 - f_X7_countsAs S2 1).toInt ∧ (f_X7_countsAs S2 0 - f_X7_countsAs S2 1).toInt ≤ 1000
  rw [i_sub (by omega)]
  omega
