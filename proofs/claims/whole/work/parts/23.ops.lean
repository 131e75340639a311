-- @needs 21_cells
def mx (x y : Int32) : Int32 := if x < y then y else x
def mn (x y : Int32) : Int32 := if y < x then y else x
def ab (x : Int32) : Int32 := if 0 ≤ x then x else 0 - x
/-- a null or a cell's number -/
def oel {γ : Type} (x : Option Nat) (a : γ) (f : Nat → γ) : γ := match x with
  | none => a
  | some i => f i
theorem oel_n {γ : Type} {x : Option Nat} {a : γ} {f : Nat → γ} {V : γ} (h : oel x a f = V) (e : x = none) : a = V := by subst e; exact h
theorem oel_s {γ : Type} {x : Option Nat} {a : γ} {f : Nat → γ} {V : γ} (h : oel x a f = V) {i : Nat} (e : x = some i) : f i = V := by subst e; exact h
theorem inv0_I {i : Int32} {N : Int} (h0 : 0 ≤ i.toInt) (h : i.toInt < N) (hN : N ≤ 2147483647) : 0 ≤ (i + 1).toInt := by rw [inc_I h hN]; omega
theorem mu0 {a n : Nat} (h : a < 0) : False := Nat.not_lt_zero _ h
abbrev kA100 (i : Nat) : Prop := (10 ≤ i ∧ i ≤ 12) ∨ (60 ≤ i ∧ i ≤ 67)
abbrev kIA (i : Nat) : Prop := (7 ≤ i ∧ i ≤ 12) ∨ (60 ≤ i ∧ i ≤ 67)
def nIA (i : Nat) : Nat := if i ≤ 9 then 401 else 100
theorem kA_txt {i : Nat} (h : kTxt i) : kA100 i := Or.inl h
theorem kA_elm {i : Nat} (h : kElm i) : kA100 i := Or.inr h
theorem kI_win {i : Nat} (h : kWin i) : kIA i := Or.inl (by omega)
theorem kI_elm {i : Nat} (h : kElm i) : kIA i := Or.inr h
theorem cC_kA {ad : Nat → Nat} {k : Nat → ClassId} {M : Mem} {i : Nat} (h : kA100 i) : cC ad k M i = .inl (k 0, 100, .inl (M i)) := by
  rcases h with h | h
  · exact cC_kTxt h
  · exact cC_kElm h
theorem cC_kI {ad : Nat → Nat} {k : Nat → ClassId} {M : Mem} {i : Nat} (h : kIA i) : cC ad k M i = .inl (k 0, nIA i, .inl (M i)) := by
  rcases h with h | h
  · by_cases h9 : i ≤ 9
    · rw [cC_kWin (by omega)]; simp [nIA, h9]
    · rw [cC_kTxt (by omega)]; simp [nIA, h9]
  · rw [cC_kElm h]; simp [nIA, show ¬ i ≤ 9 by omega]
/-- a stretch of an array, copied -/
def cpM (M : Mem) (a b : Nat) (sp dp n : Int32) : Mem := fun j => if j = b then va_cpy (M a) (M b) sp.toNatClampNeg dp.toNatClampNeg n.toNatClampNeg else M j
section CF
variable {p : Program} {l : Launch} {e : Env} {R : Room} {s : State} {m : MethodId} {args : Array Value} {below : List Frame} {meth : Method} {c : Code} {H : Heap} {locs : List Loc} {cells slots : Nat} {Q : State → Prop}
variable {cc : ByteArray} {pc : Nat} {ls : Array Slot} {rest : List Value} {D : va_G} {A : Nat → Prop} {H0 : Heap} {ad : Nat → Nat} {k : Nat → ClassId} {M : Mem} {own : String} {index : Nat} {i nL : Nat}
theorem al_kA100 (hx : p.tables.exec = Jvm.exec) (hb : c.code = cc) (hK : va_K D vwCl (tysC k) s) (hP : va_P D vwCl (wld 74 ad (cC ad k M)) H) (ho : kA100 i) {x : Int32} (hin : vp_in x 100) (hdg : decode cc pc = .ok (.iaload, 1)) (kk : W p l e R s m args below meth c H locs cells slots Q (F0 m (pc + 1) ls (.int (M i x.toNatClampNeg) :: rest))) : W p l e R s m args below meth c H locs cells slots Q (F0 m pc ls (.int x :: .ref (ad i) :: rest)) :=
  w_iald hx hb hK hP (i := i) (by omega) (cC_kA ho) hin hdg kk
theorem an_kA100 (hx : p.tables.exec = Jvm.exec) (hb : c.code = cc) (hK : va_K D vwCl (tysC k) s) (hP : va_P D vwCl (wld 74 ad (cC ad k M)) H) (ho : kA100 i) (hdg : decode cc pc = .ok (.arraylength, 1)) (kk : W p l e R s m args below meth c H locs cells slots Q (F0 m (pc + 1) ls (.int 100 :: rest))) : W p l e R s m args below meth c H locs cells slots Q (F0 m pc ls (.ref (ad i) :: rest)) :=
  w_alen hx hb hK hP (i := i) (by omega) 0 (cC_kA ho) (ty := .int) rfl (by rfl) hdg kk
theorem an_kIA (hx : p.tables.exec = Jvm.exec) (hb : c.code = cc) (hK : va_K D vwCl (tysC k) s) (hP : va_P D vwCl (wld 74 ad (cC ad k M)) H) (ho : kIA i) (hdg : decode cc pc = .ok (.arraylength, 1)) (kk : W p l e R s m args below meth c H locs cells slots Q (F0 m (pc + 1) ls (.int (nI (nIA i)) :: rest))) : W p l e R s m args below meth c H locs cells slots Q (F0 m pc ls (.ref (ad i) :: rest)) :=
  w_alen hx hb hK hP (i := i) (by omega) 0 (cC_kI ho) (ty := .int) rfl (by rfl) hdg kk
theorem as_kIA (hx : p.tables.exec = Jvm.exec) (hb : c.code = cc) (hK : va_K D vwCl (tysC k) s) (hP : va_P D vwCl (wld 74 ad (cC ad k M)) H) (had : InjN 74 ad) (hA : ∀ i, i < 74 → A (ad i)) (hS : va_S A H0 H locs) (ho : kIA i) {x v : Int32} (hin : vp_in x (nIA i)) (hdg : decode cc pc = .ok (.iastore, 1)) (kk : ∀ (H1 : Heap) (locs1 : List Loc), va_P D vwCl (wld 74 ad (cC ad k (up2 M i x.toNatClampNeg v))) H1 → va_S A H0 H1 locs1 → W p l e R s m args below meth c H1 locs1 cells slots Q (F0 m (pc + 1) ls rest)) : W p l e R s m args below meth c H locs cells slots Q (F0 m pc ls (.int v :: .int x :: .ref (ad i) :: rest)) :=
  w_iast hx hb hK hP had hA hS (i := i) (by omega) (cC_kI ho) hin (fun q hq => by
    by_cases h : q = i
    · subst h; rw [if_pos rfl, cC_kI ho, up2_row]
    · rw [if_neg h]; exact cC_congr (up2_o M v h)) hdg kk
theorem nIA_le (i : Nat) : nIA i ≤ 401 := by unfold nIA; split <;> omega
theorem w_max (hx : p.tables.exec = Jvm.exec) (hb : c.code = cc) (hml : c.maxLocals = nL) (hG : ∀ w ∈ wsL_law, w.before args s = true) (hown : s.vm.findClass own = some m.cls) (hlink : Cond.methodLink own index Lib.Math.max.name ∈ wsL_law) (hf : 1 ≤ R.frames) (hl : (rest.map fun v => v.category).sum + 13 ≤ R.locals) (hls : ls.size = nL) (hc : cells ≤ R.cells ∧ slots ≤ R.slots) {x y : Int32} (hdg : decode cc pc = .ok (.invokestatic index, 3)) (kk : W p l e R s m args below meth c H locs cells slots Q (F0 m (pc + 3) ls (.int (mx x y) :: rest))) : W p l e R s m args below meth c H locs cells slots Q (F0 m pc ls (.int y :: .int x :: rest)) :=
  va_mmax hx hb (hml.trans hls.symm) hown (hG _ hlink) (hG _ gw_10_23) (hG _ gw_11_0) (hG _ gw_11_1) hf hl hc.1 hc.2 hdg kk
theorem w_min (hx : p.tables.exec = Jvm.exec) (hb : c.code = cc) (hml : c.maxLocals = nL) (hG : ∀ w ∈ wsL_law, w.before args s = true) (hown : s.vm.findClass own = some m.cls) (hlink : Cond.methodLink own index Lib.Math.min.name ∈ wsL_law) (hf : 1 ≤ R.frames) (hl : (rest.map fun v => v.category).sum + 13 ≤ R.locals) (hls : ls.size = nL) (hc : cells ≤ R.cells ∧ slots ≤ R.slots) {x y : Int32} (hdg : decode cc pc = .ok (.invokestatic index, 3)) (kk : W p l e R s m args below meth c H locs cells slots Q (F0 m (pc + 3) ls (.int (mn x y) :: rest))) : W p l e R s m args below meth c H locs cells slots Q (F0 m pc ls (.int y :: .int x :: rest)) :=
  va_mmin hx hb (hml.trans hls.symm) hown (hG _ hlink) (hG _ gw_12_1) (hG _ gw_11_0) (hG _ gw_12_2) hf hl hc.1 hc.2 hdg kk
theorem w_abs (hx : p.tables.exec = Jvm.exec) (hb : c.code = cc) (hml : c.maxLocals = nL) (hG : ∀ w ∈ wsL_law, w.before args s = true) (hown : s.vm.findClass own = some m.cls) (hlink : Cond.methodLink own index Lib.Math.abs.name ∈ wsL_law) (hf : 1 ≤ R.frames) (hl : (rest.map fun v => v.category).sum + 13 ≤ R.locals) (hls : ls.size = nL) (hc : cells ≤ R.cells ∧ slots ≤ R.slots) {x : Int32} (hdg : decode cc pc = .ok (.invokestatic index, 3)) (kk : W p l e R s m args below meth c H locs cells slots Q (F0 m (pc + 3) ls (.int (ab x) :: rest))) : W p l e R s m args below meth c H locs cells slots Q (F0 m pc ls (.int x :: rest)) :=
  va_mabs hx hb (hml.trans hls.symm) hown (hG _ hlink) (hG _ gw_17_11) (hG _ gw_11_0) (hG _ gw_17_12) hf hl hc.1 hc.2 hdg kk
theorem w_copy (hx : p.tables.exec = Jvm.exec) (hb : c.code = cc) (hml : c.maxLocals = nL) (hG : ∀ w ∈ wsL_law, w.before args s = true) (hown : s.vm.findClass own = some m.cls) (hlink : Cond.methodLink own index arraycopyName ∈ wsL_law) (hK : va_K D vwCl (tysC k) s) (hP : va_P D vwCl (wld 74 ad (cC ad k M)) H) (had : InjN 74 ad) (hA : ∀ i, i < 74 → A (ad i)) (hS : va_S A H0 H locs) {i j : Nat} (hi : kA100 i) (hj : kA100 j) {sp dp n : Int32} (h1 : 0 ≤ sp.toInt) (h2 : 0 ≤ dp.toInt) (h3 : 0 ≤ n.toInt) (h4 : sp.toInt + n.toInt ≤ 100) (h5 : dp.toInt + n.toInt ≤ 100)
    (hf : 1 ≤ R.frames) (hl : (rest.map fun v => v.category).sum + (nativeFrameWords "java/lang/System" "arraycopy" 5 + 11) ≤ R.locals) (hls : ls.size = nL) (hdg : decode cc pc = .ok (.invokestatic index, 3))
    (kk : ∀ (H1 : Heap) (locs1 : List Loc), va_P D vwCl (wld 74 ad (cC ad k (cpM M i j sp dp n))) H1 → va_S A H0 H1 locs1 → W p l e R s m args below meth c H1 locs1 cells slots Q (F0 m (pc + 3) ls rest)) : W p l e R s m args below meth c H locs cells slots Q (F0 m pc ls (.int n :: .int dp :: .ref (ad j) :: .int sp :: .ref (ad i) :: rest)) := by
  have nn : ∀ z : Int32, 0 ≤ z.toInt → ¬ z < 0 := fun z h q => by
    have := Int32.lt_iff_toInt_lt.mp q
    rw [Int32.toInt_zero] at this
    omega
  have nt : ∀ z : Int32, 0 ≤ z.toInt → (z.toNatClampNeg : Int) = z.toInt := fun z h => Int.toNat_of_nonneg h
  have a1 := nt sp h1
  have a2 := nt dp h2
  have a3 := nt n h3
  refine va_copyi hx hb (hml.trans hls.symm) hown (hG _ hlink) (hG _ gw_38_4) (hG _ gw_38_5) (hG _ gw_38_6) hK hP (wld_D had hA) hS i j 0 0 (wld_get' (by omega) (cC_kA hi)) (wld_get' (by omega) (cC_kA hj)) rfl rfl rfl (nn sp h1) (nn dp h2) (nn n h3) (by omega) (by omega) (fun _ _ => rfl) hf hl hdg (fun H1 locs1 hP1 _ hS1 => kk H1 locs1 ?_ hS1)
  rw [wld_set (g := cC ad k (cpM M i j sp dp n)) (fun q hq => by
    by_cases h : q = j
    · subst h; rw [if_pos rfl, cC_kA hj]; simp [cpM]
    · rw [if_neg h]; exact cC_congr (by simp [cpM, h]))] at hP1
  exact hP1
end CF
