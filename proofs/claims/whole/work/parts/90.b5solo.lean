/-! alone: one boat by bits, both sides -/
def GC (C S Cx : Mem) : Prop := (∀ j q, ¬ (j = 3 ∨ j = 6 ∨ j = 9 ∨ j = 12 ∨ j = 15 ∨ 68 ≤ j) → ¬ (27 ≤ j ∧ j ≤ 30) → ¬ (39 ≤ j ∧ j ≤ 42) → ¬ (j = 4 ∧ 2 ≤ q ∧ q ≤ 4) → ¬ (j = 7 ∨ 68 ≤ j) → Cx j q = C j q) ∧ WL Cx 1 (lnO S) (S 1) (S 0 4)
def GR (S Sx : Mem) : Prop := (∀ k, Sx 20 k = f_X7_open S 20 k) ∧ Sx 0 35 = S 0 35 ∧ (∀ q, Sx 21 q = S 21 q) ∧ (∀ j q, 23 ≤ j → j ≤ 29 → Sx j q = S j q) ∧ WI Sx (lnO S) (S 1) ∧ (∀ q, q ≤ 400 → Sx 17 q = Wv (lnO S) (S 1) (nI q) (S 0 4)) ∧ ∀ q, q ≤ 3 → Sx 0 q = S 0 q
theorem MS_of {C S Cx Sx : Mem} (h : GC C S Cx) (h' : GR S Sx) : MS C S Cx Sx := ⟨h.1, h.2, h'.1, h'.2.1, h'.2.2.1, h'.2.2.2.1, h'.2.2.2.2.1⟩
theorem GC_0 {C S : Mem} (h : Core C S) : GC C S C := ⟨fun _ _ _ _ _ _ _ => rfl, (Core_WL h).1⟩
theorem GR_0 {C S : Mem} (h : Core C S) : GR S (f_X7_layWinds (f_X7_open S)) := by
  obtain ⟨l1, l2, ⟨m1, m2, m3, m4, m5, m6, m7⟩, l4⟩ := mind_lay h
  exact ⟨m3, m4, m5, m6, m7, l2, fun q hq => l4 _ _ (by omega) (by omega) (by omega)⟩
theorem GR_of {S Sx Sy : Mem} (h : GR S Sx) (hR : ∀ j q, ¬ (j = 0 ∧ (q = 7 ∨ q = 8 ∨ q = 40 ∨ q = 41)) → ¬ (3 ≤ j ∧ j ≤ 11) → ¬ (18 ≤ j ∧ j ≤ 19) → ¬ j = 22 → Sy j q = Sx j q) : GR S Sy := by
  obtain ⟨h1, h2, h3, h4, h5, h6, h7⟩ := h
  exact ⟨fun k => by rw [hR _ _ (by omega) (by omega) (by omega) (by omega)]; exact h1 k, by rw [hR _ _ (by omega) (by omega) (by omega) (by omega)]; exact h2, fun q => by rw [hR _ _ (by omega) (by omega) (by omega) (by omega)]; exact h3 q, fun j q p1 p2 => by rw [hR _ _ (by omega) (by omega) (by omega) (by omega)]; exact h4 j q p1 p2,
    WI_of h5 (hR _ _ (by omega) (by omega) (by omega) (by omega)) (hR _ _ (by omega) (by omega) (by omega) (by omega)) (fun q => hR _ _ (by omega) (by omega) (by omega) (by omega)), fun q hq => by rw [hR _ _ (by omega) (by omega) (by omega) (by omega)]; exact h6 q hq, fun q hq => by rw [hR _ _ (by omega) (by omega) (by omega) (by omega)]; exact h7 q hq⟩
theorem GC_of {C S Cx Cy : Mem} (h : GC C S Cx) (hC : ∀ j q, ¬ (j = 3 ∨ j = 6 ∨ j = 9 ∨ j = 12 ∨ j = 15 ∨ 68 ≤ j) → ¬ (27 ≤ j ∧ j ≤ 30) → ¬ (39 ≤ j ∧ j ≤ 42) → ¬ (j = 4 ∧ 2 ≤ q ∧ q ≤ 4) → ¬ (j = 7 ∨ 68 ≤ j) → Cy j q = Cx j q) (hW : WL Cy 1 (lnO S) (S 1) (S 0 4)) : GC C S Cy := ⟨fun j q p1 p2 p3 p4 p5 => (hC j q p1 p2 p3 p4 p5).trans (h.1 j q p1 p2 p3 p4 p5), hW⟩
theorem GBY {C S Cx Sx : Mem} (h : Core C S) (hc : GC C S Cx) (hr : GR S Sx) : BY Cx Sx 1 := by
  obtain ⟨n, s, ln, x1, x2, _⟩ := h.1
  obtain ⟨b0, b1, b2, b3⟩ := x2.2.2.1
  have e : ∀ q, Cx 1 q = C 1 q := fun q => hc.1 _ _ (by omega) (by omega) (by omega) (by omega) (by omega)
  exact ⟨by rw [e, hr.2.2.2.2.2.2 0 (by omega)]; exact b0, by rw [e, hr.2.2.2.2.2.2 1 (by omega)]; exact b1, by rw [e, hr.2.2.2.2.2.2 2 (by omega)]; exact b2, by rw [e, hr.2.2.2.2.2.2 3 (by omega)]; exact b3⟩
theorem lay_eq {M : Mem} {i : Nat} (hi : i < 4) {x rt b : Int32} : f_X7_lay M (nI i) x rt b = f_X7_begin (up2 (up2 (up2 M 3 i x) 4 i (if rt = 0 then -1 else 1)) 22 i b) (nI i) := by
  unfold f_X7_lay
  simp only [bnd_nr]
  rw [nI_clamp (by omega)]
theorem lay_fr {M : Mem} {i : Nat} (hi : i < 4) {x rt b : Int32} {j q : Nat} (h : ¬ (q = i ∧ (3 ≤ j ∧ j ≤ 11 ∨ j = 22))) : f_X7_lay M (nI i) x rt b j q = M j q := by
  rw [lay_eq hi, begin_fr hi (by omega), up2_n _ _ (by omega), up2_n _ _ (by omega), up2_n _ _ (by omega)]
theorem clear_fr {C : Mem} {j q : Nat} (h : ¬ (j = 15 ∧ (q = 1 ∨ q = 2))) : f_X3_clear C 15 j q = C j q := by
  unfold f_X3_clear
  simp only [bnd_nr]
  rw [up2_n _ _ (by omega), up2_n _ _ (by omega)]
theorem clear_1 {C : Mem} : f_X3_clear C 15 15 1 = nI 0 ∧ f_X3_clear C 15 15 2 = nI 0 := by
  unfold f_X3_clear
  simp only [bnd_nr]
  exact ⟨by rw [up2_n _ _ (by omega), up2_s]; rfl, by rw [up2_s]; rfl⟩
/-- how the bits told to both hang together -/
def md (m w0 w1 : Nat) : Prop := (m = 8 ∧ w0 = w1) ∨ (∃ k, k ≤ 8 ∧ m = 100 + k ∧ w0 % 2 ^ k = w1 % 2 ^ k)
def cls1 (Cx : Mem) (x rt b : Int32) : Mem := (f_X3_enter (f_X3_clear Cx 15) 15 8 x rt b).2
def ref1 (Sx : Mem) (x rt b : Int32) : Mem := f_X7_lay (up2 (up2 (up2 Sx 0 8 1) 0 7 0) 0 40 8) (nI 0) x rt b
theorem cls1_fr {Cx : Mem} {x rt b : Int32} {j q : Nat} (h : ¬ (j = 15 ∧ (q = 1 ∨ q = 2))) (h2 : ¬ j = 27) (h3 : ¬ j = 39) : cls1 Cx x rt b j q = Cx j q := by
  unfold cls1
  rw [enter_fr (n := 0) (by omega) (by omega) clear_1.1 (by omega) (by omega) (by omega), clear_fr h]
theorem ref1_fr {Sx : Mem} {x rt b : Int32} {j q : Nat} (h : ¬ (j = 0 ∧ (q = 7 ∨ q = 8 ∨ q = 40))) (h2 : ¬ (3 ≤ j ∧ j ≤ 11)) (h3 : ¬ j = 22) : ref1 Sx x rt b j q = Sx j q := by
  unfold ref1
  rw [lay_fr (by omega) (by omega), up2_n _ _ (by omega), up2_n _ _ (by omega), up2_n _ _ (by omega)]
theorem solo_start {C S Cx Sx : Mem} (h : Core C S) (hc : GC C S Cx) (hr : GR S Sx) {x rt : Int32} (hx : bx x) (hrt : rt = 0 ∨ rt = 1) {m w0 w1 : Nat} (h0 : w0 < 256) (h1 : w1 < 256) (hm : md m w0 w1) :
    RUN (some m) (cls1 Cx x rt (nI w0)) (ref1 Sx x rt (nI w1)) 15 1 1 0 (lnO S) (S 1) (S 0 4) ∧ ref1 Sx x rt (nI w1) 10 0 = -4 := by
  obtain ⟨cl1, cl2⟩ := clear_1 (C := Cx)
  have ent := enter_ok (C := f_X3_clear Cx 15) (o := 15) (n := 0) (kd := 8) (x := x) (rt := rt) (fg := nI w0) (by omega) (by omega) cl1
  generalize hA : up2 (up2 (up2 (up2 (up2 (up2 Sx 0 8 1) 0 7 0) 0 40 8) 3 0 x) 4 0 (if rt = 0 then -1 else 1)) 22 0 (nI w1) = A
  have a3 : A 3 0 = x := by rw [← hA, up2_n _ _ (by omega), up2_n _ _ (by omega), up2_s]
  have a4 : A 4 0 = if rt = 0 then -1 else 1 := by rw [← hA, up2_n _ _ (by omega), up2_s]
  have a22 : A 22 0 = nI w1 := by rw [← hA, up2_s]
  have a40 : A 0 40 = nI 8 := by rw [← hA, up2_n _ _ (by omega), up2_n _ _ (by omega), up2_n _ _ (by omega), up2_s]; rfl
  have a8 : A 0 8 = nI 1 := by rw [← hA, up2_n _ _ (by omega), up2_n _ _ (by omega), up2_n _ _ (by omega), up2_n _ _ (by omega), up2_n _ _ (by omega), up2_s]; rfl
  have a7 : A 0 7 = nI 0 := by rw [← hA, up2_n _ _ (by omega), up2_n _ _ (by omega), up2_n _ _ (by omega), up2_n _ _ (by omega), up2_s]; rfl
  have hL : ref1 Sx x rt (nI w1) = f_X7_begin A (nI 0) := by unfold ref1; rw [lay_eq (by omega), hA]
  have hby := GBY h hc hr
  obtain ⟨e1, e2, e3, e4⟩ := enter_BS (C := f_X3_clear Cx 15) (S := A) (o := 15) (n := 0) (kd := 8) (x := x) (rt := rt) (fg := nI w0) (by omega) (by omega) cl1 hx hrt a3 a4
  have fC := fun j q => @cls1_fr Cx x rt (nI w0) j q
  have fR := fun j q => @ref1_fr Sx x rt (nI w1) j q
  have bfr := fun j q => @begin_fr A 0 (by omega) j q
  have c1 : cls1 Cx x rt (nI w0) 15 1 = nI 1 := by unfold cls1; rw [ent.2, up2_s]
  have c2 : cls1 Cx x rt (nI w0) 15 2 = nI 0 := by unfold cls1; rw [ent.2, up2_n _ _ (by omega), anew1_fr (by omega), up2_n _ _ (by omega), up2_n _ _ (by omega), up2_n _ _ (by omega), up2_n _ _ (by omega), up2_n _ _ (by omega)]; exact cl2
  rw [← hL] at e1 e2 bfr
  have hk : KK (some m) (cls1 Cx x rt (nI w0)) (ref1 Sx x rt (nI w1)) (4 * (15 + 3) - 45 + 0) 0 := by
    have v22 : ref1 Sx x rt (nI w1) 22 0 = nI w1 := by rw [bfr _ _ (by omega)]; exact a22
    have v40 : ref1 Sx x rt (nI w1) 0 40 = nI 8 := by rw [bfr _ _ (by omega)]; exact a40
    rcases hm with ⟨rfl, rfl⟩ | ⟨k, hk, rfl, hw⟩
    · exact Or.inl ⟨by omega, e3, e4.trans v22.symm, v40, Or.inr rfl, by rw [v22, nI_toInt (by omega)]; omega, by rw [v22, nI_toInt (by omega)]; omega⟩
    · rw [show (100 + k : Nat) = 100 + k from rfl]
      exact Or.inr ⟨by omega, e3, v40, by omega, w0, w1, h0, h1, e4, v22, by rw [show 100 + k - 100 = k by omega]; exact hw⟩
  have hX : RX (some m) (cls1 Cx x rt (nI w0)) (ref1 Sx x rt (nI w1)) 15 1 1 := by
    refine ⟨c1, by rw [bfr _ _ (by omega)]; exact a8, BY_of hby (fun q hq => fC _ _ (by omega) (by omega) (by omega)) (fun q hq => fR _ _ (by omega) (by omega) (by omega)), fun i hi => ?_⟩
    obtain rfl : i = 0 := by omega
    exact ⟨e1, e2, hk⟩
  refine ⟨⟨hX, c2, by rw [bfr _ _ (by omega)]; exact a7, by omega, WL_of hc.2 (fC _ _ (by omega) (by omega) (by omega)) (fun q => fC _ _ (by omega) (by omega) (by omega)) (fC _ _ (by omega) (by omega) (by omega)) (fun q => fC _ _ (by omega) (by omega) (by omega)), (Core_WL h).2.2, fun q hq => by rw [fR _ _ (by omega) (by omega) (by omega)]; exact hr.2.2.2.2.2.1 q hq⟩, ?_⟩
  rw [hL]
  unfold f_X7_begin
  simp only [bnd_nr]
  rw [nI_clamp (by omega), up2_n _ _ (by omega), up2_s]
/-! the reference alone: who comes in does so at the second that is -/
theorem move_10 {R : Mem} {i j : Nat} (hi : i < 4) {w : Int32} : f_X7_moveOne R (nI i) w 10 j = R 10 j ∨ f_X7_moveOne R (nI i) w 10 j = R 0 7 + 1 := by
  obtain ⟨Y, hY, hYs⟩ := move_two R i hi w
  have y10 : Y 10 j = R 10 j ∧ Y 0 7 = R 0 7 := by
    rw [hY]
    refine ⟨ite_fr (ite_fr ?_ ?_) ?_, ite_fr (ite_fr ?_ ?_) ?_⟩
    all_goals simp only [bnd_nr]
    · rw [up2_n _ _ (by omega), up2_n _ _ (by omega)]
    · rw [up2_n _ _ (by omega), up2_n _ _ (by omega)]
    · rw [up2_n _ _ (by omega)]
    · rw [up2_n _ _ (by omega), up2_n _ _ (by omega)]
    · rw [up2_n _ _ (by omega), up2_n _ _ (by omega)]
    · rw [up2_n _ _ (by omega)]
  rw [hYs]
  refine ite_P (P := fun Z : Mem => Z 10 j = R 10 j ∨ Z 10 j = R 0 7 + 1) (fun _ => Or.inl y10.1) (fun _ => ite_P (P := fun Z : Mem => Z 10 j = R 10 j ∨ Z 10 j = R 0 7 + 1) (fun _ => Or.inl y10.1) (fun _ => ?_))
  by_cases e : j = i
  · subst e; right; rw [up2_s, y10.2]
  · left; rw [up2_n _ _ (by omega)]; exact y10.1
theorem refOn_10 {g : Option Nat} {R : Mem} {n s : Nat} (hn : n ≤ 4) (h8 : R 0 8 = nI n) (h7 : R 0 7 = nI s) (hin : ∀ i, i < n → R 10 i = -4 ∨ 0 ≤ (R 10 i).toInt) :
    refOn g R 0 7 = nI (s + 1) ∧ refOn g R 0 8 = nI n ∧ ∀ i, refOn g R 10 i = R 10 i ∨ refOn g R 10 i = nI (s + 1) := by
  obtain ⟨b1, b2⟩ := gB_ok hn h8 hin
  have km := rep_ind (g := gM) (n := n) (M := rep gB n R) (S := fun k M => M 0 7 = nI s ∧ M 0 8 = nI n ∧ ∀ i, M 10 i = R 10 i ∨ M 10 i = nI (s + 1)) (fun k M hk hS => by
    obtain ⟨s1, s2, s3⟩ := hS
    refine ⟨by rw [gM_fr (by omega) (by omega)]; exact s1, by rw [gM_fr (by omega) (by omega)]; exact s2, fun i => ?_⟩
    unfold gM
    refine ite_P (P := fun Z : Mem => Z 10 i = R 10 i ∨ Z 10 i = nI (s + 1)) (fun _ => s3 i) (fun _ => ?_)
    rcases move_10 (R := M) (i := k) (j := i) (by omega) (w := M 17 (M 0 7).toNatClampNeg) with q | q
    · rw [q]; exact s3 i
    · rw [q, s1, nI_1]; exact Or.inr rfl) ⟨by rw [b1 _ _ (by omega)]; exact h7, by rw [b1 _ _ (by omega)]; exact h8, fun i => Or.inl (b1 _ _ (by omega))⟩ n (Nat.le_refl _)
  obtain ⟨k1', k2, k3⟩ := km
  have em : f_X7_moveAll R = up2 (rep gM n (rep gB n R)) 0 7 (nI (s + 1)) := by rw [moveAll_rep hn h8, k1', nI_1]
  generalize rep gM n (rep gB n R) = Rm at k1' k2 k3 em
  have h8m : up2 Rm 0 7 (nI (s + 1)) 0 8 = nI n := by rw [up2_n _ _ (by omega)]; exact k2
  have ew : lpT g 5 (up2 Rm 0 7 (nI (s + 1))) 0 = rep (gN g) n (up2 Rm 0 7 (nI (s + 1))) := willM_rep hn h8m
  have wfr := rep_ind (g := gN g) (n := n) (M := up2 Rm 0 7 (nI (s + 1))) (S := fun k M => ∀ j q, ¬ j = 19 → M j q = up2 Rm 0 7 (nI (s + 1)) j q) (fun k M hk hS j q hj => by
    show up2 M _ _ _ j q = _
    rw [up2_n _ _ (by omega)]; exact hS j q hj) (fun _ _ _ => rfl) n (Nat.le_refl _)
  generalize rep (gN g) n (up2 Rm 0 7 (nI (s + 1))) = Rw at ew wfr
  have h8w : Rw 0 8 = nI n := by rw [wfr _ _ (by omega)]; exact h8m
  have zfr := rep_ind (g := gZ) (n := n) (M := Rw) (S := fun k M => ∀ j q, ¬ (j = 8 ∨ j = 9 ∨ j = 11) → M j q = Rw j q) (fun k M hk hS j q hj => by
    unfold gZ
    refine ite_fr (hS j q hj) ?_
    unfold f_X7_turnOne
    simp only [bnd_nr]
    rw [up2_n _ _ (by omega), up2_n _ _ (by omega), up2_n _ _ (by omega)]; exact hS j q hj) (fun _ _ _ => rfl) n (Nat.le_refl _)
  rw [refOn_eq, em, ew, turnAll_rep hn h8w]
  exact ⟨by rw [zfr _ _ (by omega), wfr _ _ (by omega), up2_s], by rw [zfr _ _ (by omega)]; exact h8w, fun i => by rw [zfr _ _ (by omega), wfr _ _ (by omega), up2_n _ _ (by omega)]; exact k3 i⟩
theorem lpE_in {g : Option Nat} : ∀ (f : Nat) (R : Mem) (s : Nat), R 0 8 = nI 1 → R 0 7 = nI s → s ≤ 400 → (R 10 0 = -4 ∨ R 10 0 = nI s) → ∃ s2, s ≤ s2 ∧ s2 ≤ 400 ∧ lpE g f R 0 7 = nI s2 ∧ (lpE g f R 10 0 = -4 ∨ lpE g f R 10 0 = nI s2) := by
  intro f
  induction f with
  | zero =>
    intro R s h8 h7 hs h10
    have e : lpE g 0 R = R := by cases g <;> rfl
    rw [e]
    exact ⟨s, Nat.le_refl _, hs, h7, h10⟩
  | succ f ih =>
    intro R s h8 h7 hs h10
    have hin : ∀ i, i < 1 → R 10 i = -4 ∨ 0 ≤ (R 10 i).toInt := fun i hi => by
      obtain rfl : i = 0 := by omega
      exact h10.imp id (fun q => by rw [q, nI_toInt (by omega)]; omega)
    have e := ended_M (n := 1) (by omega) h8 hin h7 hs
    by_cases hgo : going R 1 s
    · rw [lpE_s (e.mpr hgo)]
      obtain ⟨r1, r2, r3⟩ := refOn_10 (g := g) (n := 1) (by omega) h8 h7 hin
      obtain ⟨hlt, i, hi, h4⟩ := hgo
      obtain rfl : i = 0 := by omega
      obtain ⟨s2, q1, q2, q3, q4⟩ := ih (refOn g R) (s + 1) r2 r1 (by omega) (by
        rcases r3 0 with q | q
        · left; rw [q]; exact h4
        · right; exact q)
      exact ⟨s2, by omega, q2, q3, q4⟩
    · rw [lpE_0 (fun q => hgo (e.mp q))]
      exact ⟨s, Nat.le_refl _, hs, h7, h10⟩
/-- the reference's value -/
theorem secBy_eq {Sx : Mem} {x rt b : Int32} : f_X7_secondsBy Sx x rt b = (if f_X7_isIn (lp_X7_secondsBy_24 401 (ref1 Sx x rt b)) 0 = 0 then 400 else lp_X7_secondsBy_24 401 (ref1 Sx x rt b) 10 0, lp_X7_secondsBy_24 401 (ref1 Sx x rt b)) := by
  unfold f_X7_secondsBy ref1
  simp only [bnd_nr]
  rw [show (0 : Int32).toNatClampNeg = 0 by decide, show nI 0 = (0 : Int32) from rfl]
theorem alone_eq {Cx : Mem} {x rt b : Int32} : f_X6_secondsAlone Cx x rt b = (f_X3_goOn (cls1 Cx x rt b) 15 1 400 15 2, f_X3_goOn (cls1 Cx x rt b) 15 1 400) := by
  unfold f_X6_secondsAlone cls1
  simp only [bnd_nr, bnd2_nr]
theorem ref_val {C S Cx Sx : Mem} (h : Core C S) (hc : GC C S Cx) (hr : GR S Sx) {x rt : Int32} (hx : bx x) (hrt : rt = 0 ∨ rt = 1) {w : Nat} (hw : w < 256) : ∃ v, v ≤ 400 ∧ (f_X6_secondsAlone Cx x rt (nI w)).1 = nI v ∧ (f_X7_secondsBy Sx x rt (nI w)).1 = nI v ∧ lpE (some 8) 401 (ref1 Sx x rt (nI w)) 0 7 = nI v ∧
    GC C S (f_X6_secondsAlone Cx x rt (nI w)).2 ∧ GR S (f_X7_secondsBy Sx x rt (nI w)).2 ∧ (f_X7_secondsBy Sx x rt (nI w)).2 0 41 = Sx 0 41 := by
  obtain ⟨r0, r10⟩ := solo_start h hc hr hx hrt (m := 8) hw hw (Or.inl ⟨rfl, rfl⟩)
  obtain ⟨s', g1, g2, g3, g4⟩ := goOn_end (g := some 8) (geo15 (n := 1) (by omega)) (by omega) (fun s q => absurd q (by omega)) r0
  obtain ⟨s2, q1, q2, q3, q4⟩ := lpE_in (g := some 8) 401 (ref1 Sx x rt (nI w)) 0 r0.1.2.1 r0.2.2.1 (by omega) (Or.inl r10)
  have hs : s' = s2 := (nI_eq (by have := g1.2.2.2.1; omega) (by omega)).mp (g1.2.2.1.symm.trans q3)
  subst hs
  rw [secBy_eq, alone_eq]
  have eL : lpE (some 8) 401 (ref1 Sx x rt (nI w)) = lp_X7_secondsBy_24 401 (ref1 Sx x rt (nI w)) := rfl
  have fC := fun j q => @cls1_fr Cx x rt (nI w) j q
  have fR := fun j q => @ref1_fr Sx x rt (nI w) j q
  rw [eL] at g1 g3 g4 q3 q4 ⊢
  generalize lp_X7_secondsBy_24 401 (ref1 Sx x rt (nI w)) = S2 at g1 g3 g4 q3 q4 ⊢
  generalize f_X3_goOn (cls1 Cx x rt (nI w)) 15 1 400 = C2 at g1 g2 ⊢
  have m := isInM (R := S2) (i := 0) (by omega) (RX_in g1.1 0 (by omega))
  rw [show nI 0 = (0 : Int32) from rfl] at m
  have hGC : GC C S C2 := GC_of hc (fun j q p1 p2 p3 p4 p5 => by rw [g2 _ _ (by omega) (by omega) (by omega) (by omega), fC _ _ (by omega) (by omega) (by omega)]) g1.2.2.2.2.1
  have hGR : GR S S2 := GR_of hr (fun j q p1 p2 p3 p4 => by rw [g3 _ _ (by omega) (by omega) (by omega) (by omega), fR _ _ (by omega) (by omega) (by omega)])
  have h41 : S2 0 41 = Sx 0 41 := by rw [g3 _ _ (by omega) (by omega) (by omega) (by omega), fR _ _ (by omega) (by omega) (by omega)]
  refine ⟨s', q2, g1.2.1, ?_, q3, hGC, hGR, h41⟩
  show (if f_X7_isIn S2 0 = 0 then (400 : Int32) else S2 10 0) = nI s'
  by_cases c : S2 10 0 = -4
  · rw [if_pos (m.mpr c)]
    have : s' = 400 := by
      have : ¬ s' < 400 := fun q => g4 ⟨q, 0, by omega, c⟩
      omega
    rw [this]; decide
  · rw [if_neg (fun q => c (m.mp q))]; exact q4.resolve_left c
/-- bits agreeing so far: the same, if in before the next turn -/
theorem pre_lp {o ln k : Nat} {t : Nat → Int32} {sd : Int32} (hk : k ≤ 8) : ∀ (c s f f' : Nat) (C R : Mem), c + s + 1 = 10 * (k + 1) → 400 < f + s → RUN (some (100 + k)) C R 15 1 1 s ln t sd → (R 10 0 = -4 ∨ R 10 0 = nI s) → ∀ v, lpE (some 8) f' R 0 7 = nI v → v < 10 * (k + 1) → f ≤ f' → lp_X3_goOn_2 f 15 1 400 C (nI s) 15 2 = nI v := by
  intro c
  induction c with
  | zero =>
    intro s f f' C R hs hf h h10 v hv hvT hff
    obtain ⟨f, rfl⟩ : ∃ x, f = x + 1 := ⟨f - 1, by omega⟩
    obtain ⟨f', rfl⟩ : ∃ x, f' = x + 1 := ⟨f' - 1, by omega⟩
    have e1 := run_C (geo15 (n := 1) (by omega)) (by omega) h
    have e2 := run_M (geo15 (n := 1) (by omega)) h
    rw [goOn_eq, if_neg (show ¬ (400 : Int32) ≤ nI s from nI_ge (b := 400) (by omega) (by decide))]
    by_cases hgo : going R 1 s
    · exfalso
      rw [lpE_s (e2.mpr hgo)] at hv
      obtain ⟨r1, r2, r3⟩ := refOn_10 (g := some 8) (n := 1) (by omega) h.1.2.1 h.2.2.1 (RX_in h.1)
      obtain ⟨hlt, i, hi, h4⟩ := hgo
      obtain rfl : i = 0 := by omega
      obtain ⟨s2, q1, q2, q3, q4⟩ := lpE_in (g := some 8) f' (refOn (some 8) R) (s + 1) r2 r1 (by omega) (by
        rcases r3 0 with q | q
        · left; rw [q]; exact h4
        · right; exact q)
      have : s2 = v := (nI_eq (by omega) (by omega)).mp (q3.symm.trans hv)
      omega
    · rw [if_pos (fun q => hgo (e1.mp q))]
      rw [lpE_0 (fun q => hgo (e2.mp q)), h.2.2.1] at hv
      rw [h.2.1]; exact hv
  | succ c ih =>
    intro s f f' C R hs hf h h10 v hv hvT hff
    obtain ⟨f, rfl⟩ : ∃ x, f = x + 1 := ⟨f - 1, by omega⟩
    obtain ⟨f', rfl⟩ : ∃ x, f' = x + 1 := ⟨f' - 1, by omega⟩
    have e1 := run_C (geo15 (n := 1) (by omega)) (by omega) h
    have e2 := run_M (geo15 (n := 1) (by omega)) h
    rw [goOn_eq, if_neg (show ¬ (400 : Int32) ≤ nI s from nI_ge (b := 400) (by omega) (by decide))]
    by_cases hgo : going R 1 s
    · rw [if_neg (not_not_intro (e1.mpr hgo))]
      rw [nI_1]
      rw [lpE_s (e2.mpr hgo)] at hv
      obtain ⟨p1, p2, p3⟩ := run_step (geo15 (n := 1) (by omega)) h hgo.1 (fun _ => by omega)
      obtain ⟨r1, r2, r3⟩ := refOn_10 (g := some 8) (n := 1) (by omega) h.1.2.1 h.2.2.1 (RX_in h.1)
      obtain ⟨hlt, i, hi, h4⟩ := hgo
      obtain rfl : i = 0 := by omega
      exact ih (s + 1) f f' _ _ (by omega) (by omega) p1 (by
        rcases r3 0 with q | q
        · left; exact q.trans h4
        · right; exact q) v hv hvT (by omega)
    · rw [if_pos (fun q => hgo (e1.mp q))]
      rw [lpE_0 (fun q => hgo (e2.mp q)), h.2.2.1] at hv
      rw [h.2.1]; exact hv
theorem solo_pre {C S Cx Sx : Mem} (h : Core C S) (hc : GC C S Cx) (hr : GR S Sx) {x rt : Int32} (hx : bx x) (hrt : rt = 0 ∨ rt = 1) {w0 w1 k v : Nat} (h0 : w0 < 256) (h1 : w1 < 256) (hk : k ≤ 8) (hw : w0 % 2 ^ k = w1 % 2 ^ k) (hv : lpE (some 8) 401 (ref1 Sx x rt (nI w1)) 0 7 = nI v) (hvT : v < 10 * (k + 1)) : (f_X6_secondsAlone Cx x rt (nI w0)).1 = nI v := by
  obtain ⟨r0, r10⟩ := solo_start h hc hr hx hrt (m := 100 + k) h0 h1 (Or.inr ⟨k, hk, rfl, hw⟩)
  have key := pre_lp (o := 15) hk (10 * (k + 1) - 1) 0 401 401 _ _ (by omega) (by omega) r0 (Or.inl r10) v hv hvT (Nat.le_refl _)
  rw [show nI 0 = (0 : Int32) from rfl] at key
  rw [alone_eq]
  dsimp only
  unfold f_X3_goOn
  rw [bnd_nr, show ((400 : Int32).toInt - 0).toNat + 1 = 401 by decide]
  exact key
