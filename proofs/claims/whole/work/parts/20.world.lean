-- @needs 00_tables 05_excs 10_names
/-! ===== worlds by numbers: cell i of n lies at ad i; refs never change, the ints lie in a memory M ===== -/
abbrev Mem : Type := Nat → Nat → Int32
def up2 (M : Mem) (i k : Nat) (v : Int32) : Mem := fun j q => if j = i ∧ q = k then v else M j q
theorem up2_s (M : Mem) (i k : Nat) (v : Int32) : up2 M i k v i k = v := by simp [up2]
theorem up2_n (M : Mem) {i k j q : Nat} (v : Int32) (h : ¬ (j = i ∧ q = k)) : up2 M i k v j q = M j q := by simp [up2, h]
theorem up2_o (M : Mem) {i k j : Nat} (v : Int32) (h : j ≠ i) : up2 M i k v j = M j := by funext q; simp [up2, h]
theorem up2_row (M : Mem) (i k : Nat) (v : Int32) : up2 M i k v i = upd (M i) k v := by
  funext q
  by_cases h : q = k
  · subst h; simp [up2, upd]
  · simp [up2, upd, h]
def b01 (v : Int32) : Int32 := if v = 0 then 0 else 1
theorem b01_of {v : Int32} (h : v = 0 ∨ v = 1) : b01 v = v := by rcases h with rfl | rfl <;> decide
theorem b01_or (v : Int32) : b01 v = 0 ∨ b01 v = 1 := by unfold b01; split <;> simp
def wld (n : Nat) (ad : Nat → Nat) (f : Nat → va_E) : va_W := (List.range n).map (fun i => (ad i, f i))
theorem wld_get {n : Nat} {ad : Nat → Nat} {f : Nat → va_E} {i : Nat} (h : i < n) : (wld n ad f)[i]? = some (ad i, f i) := by simp [wld, h]
theorem wld_get' {n : Nat} {ad : Nat → Nat} {f : Nat → va_E} {i : Nat} {e : va_E} (h : i < n) (he : f i = e) : (wld n ad f)[i]? = some (ad i, e) := by rw [← he]; exact wld_get h
theorem wld_inv {n : Nat} {ad : Nat → Nat} {f : Nat → va_E} {k : Nat} {q : Nat × va_E} (h : (wld n ad f)[k]? = some q) : k < n ∧ q = (ad k, f k) := by
  have hk : k < n := by
    have := (List.getElem?_eq_some_iff.mp h).1
    simpa [wld] using this
  rw [wld_get hk] at h
  exact ⟨hk, (Option.some.inj h).symm⟩
theorem wld_set {n : Nat} {ad : Nat → Nat} {f g : Nat → va_E} {i : Nat} {e : va_E} (hg : ∀ j, j < n → g j = if j = i then e else f j) : (wld n ad f).set i (ad i, e) = wld n ad g := by
  apply List.ext_getElem?
  intro j
  by_cases hj : j < n
  · rw [wld_get hj, hg j hj]
    by_cases hji : j = i
    · subst hji
      rw [List.getElem?_set_self (by simpa [wld] using hj)]
      simp
    · rw [List.getElem?_set_ne (Ne.symm hji), wld_get hj]
      simp [hji]
  · rw [List.getElem?_eq_none (by simp [wld]; omega), List.getElem?_eq_none (by simp [wld]; omega)]
abbrev InjN (n : Nat) (ad : Nat → Nat) : Prop := ∀ i j : Nat, i < n → j < n → ad i = ad j → i = j
theorem wld_D {n : Nat} {ad : Nat → Nat} {f : Nat → va_E} {A : Nat → Prop} (hi : InjN n ad) (hA : ∀ i, i < n → A (ad i)) : va_D A (wld n ad f) := by
  refine ⟨fun i j p q h1 h2 h3 => ?_, fun k q h => ?_⟩
  · obtain ⟨a1, rfl⟩ := wld_inv h1
    obtain ⟨a2, rfl⟩ := wld_inv h2
    exact hi i j a1 a2 h3
  · obtain ⟨a1, rfl⟩ := wld_inv h
    exact hA k a1
/-- the cells of a world, as a frame -/
def AW (n : Nat) (ad : Nat → Nat) : Nat → Prop := fun q => ∃ i, i < n ∧ q = ad i
theorem AW_in {n : Nat} {ad : Nat → Nat} (i : Nat) (h : i < n) : AW n ad (ad i) := ⟨i, h, rfl⟩
abbrev tysC (k : Nat → ClassId) : List (ClassId × FieldType) := [(k 0, .int), (k 1, .object "WindBay$Boat"), (k 2, .object "WindBay$Shelf"), (k 3, .long)]
/-- a method's world -/
def GW (n : Nat) (ad : Nat → Nat) (D : va_G) (k : Nat → ClassId) (f : Nat → va_E) : State → Prop := fun U => va_P D vwCl (wld n ad f) U.heap ∧ va_K D vwCl (tysC k) U
theorem GW_blind {n : Nat} {ad : Nat → Nat} {D : va_G} {k : Nat → ClassId} {f : Nat → va_E} (av : List Value) : FrameBlind (va_Pc av (GW n ad D k f)) := by
  intro a U g mk q
  obtain ⟨q0, qP, qK⟩ := q
  exact ⟨q0, qP, va_K.moved (u := U) (U := U.calling g mk a) (Vm.Alike.refl U.vm) qK⟩
theorem allG : wsL_law.all goodWord = true := by decide +kernel
theorem goodG {w : Cond} (h : w ∈ wsL_law) : goodWord w = true := List.all_eq_true.mp allG w h
theorem good_G {ws : List Cond} (h : ∀ w ∈ ws, w ∈ wsL_law) : GoodIn wsL_law ws := fun w hw => ⟨h w hw, good_of_word (goodG (h w hw))⟩
theorem good_V {own C : String} {idx : Nat} {y : MethodName} {b : ByteArray} {n : Nat} {ret : Option FieldType} (h1 : Cond.methodLink own idx y ∈ wsL_law) (h2 : Cond.instanceMethod y ∈ wsL_law ∧ Cond.selects C y y ∈ wsL_law ∧ Cond.initialized C ∈ wsL_law ∧ Cond.code y b n ret ∈ wsL_law) : GoodIn wsL_law (wsV own idx C y (Cond.code y b n ret :: wsL_law)) := by
  refine good_G fun w hw => ?_
  unfold wsV at hw
  simp only [List.cons_append, List.nil_append, List.mem_cons] at hw
  rcases hw with rfl | rfl | rfl | rfl | rfl | hw
  · exact h1
  · exact h2.1
  · exact h2.2.1
  · exact h2.2.2.1
  · exact h2.2.2.2
  · exact hw
theorem good_S {own : String} {idx : Nat} {y : MethodName} {b : ByteArray} {n : Nat} {ret : Option FieldType} (h1 : Cond.methodLink own idx y ∈ wsL_law) (h2 : Cond.static y ∈ wsL_law ∧ Cond.initialized y.cls ∈ wsL_law ∧ Cond.code y b n ret ∈ wsL_law) : GoodIn wsL_law (va_wsS own idx y (Cond.code y b n ret :: wsL_law)) := by
  refine good_G fun w hw => ?_
  unfold va_wsS at hw
  simp only [List.cons_append, List.nil_append, List.mem_cons] at hw
  rcases hw with rfl | rfl | rfl | rfl | hw
  · exact h1
  · exact h2.1
  · exact h2.2.1
  · exact h2.2.2
  · exact hw
theorem good_code {y : MethodName} {b : ByteArray} {n : Nat} {ret : Option FieldType} (h : Cond.code y b n ret ∈ wsL_law) : GoodIn wsL_law (Cond.code y b n ret :: wsL_law) := good_G fun w hw => by
  rcases List.mem_cons.mp hw with rfl | hw
  · exact h
  · exact hw
section WG
variable {p : Program} {l : Launch} {e : Env} {R : Room} {s : State} {m : MethodId} {args : Array Value} {below : List Frame} {meth : Method} {c : Code} {H : Heap} {locs : List Loc} {cells slots : Nat} {Q : State → Prop}
variable {cc : ByteArray} {pc : Nat} {ls : Array Slot} {rest : List Value} {D : va_G} {A : Nat → Prop} {H0 : Heap} {n : Nat} {ad : Nat → Nat} {k : Nat → ClassId} {f : Nat → va_E}
theorem w_get (hx : p.tables.exec = Jvm.exec) (hb : c.code = cc) (hG : ∀ w ∈ wsL_law, w.before args s = true) {own C : String} {T : u_T} {N ci index : Nat} (hin : ∀ w ∈ u_ws C T N, w ∈ wsL_law) (ho : s.vm.findClass own = some m.cls) (hK : va_K D vwCl (tysC k) s) (hP : va_P D vwCl (wld n ad f) H) {i : Nat} (hi : i < n) {fs : List Value} (he : f i = .inr (ci, fs)) (hc : vwCl[ci]? = some (C, T, N)) (j : Nat) (hj : j < N) (hlink : Cond.fieldLink own index (T j).1 (T j).2.1 (T j).2.2.1 ∈ wsL_law) {v : Value} (hv : fs[j]? = some v) (hdg : decode cc pc = .ok (.getfield index, 3))
    (kk : W p l e R s m args below meth c H locs cells slots Q (F0 m (pc + 3) ls (v :: rest))) : W p l e R s m args below meth c H locs cells slots Q (F0 m pc ls (.ref (ad i) :: rest)) :=
  va_get (D := D) (ci := ci) (C := C) (T := T) (N := N) hx hb hG hin ho hK hP i (wld_get' hi he) hc j hj (hG _ hlink) (fun _ h => h) hv hdg kk
theorem w_put (hx : p.tables.exec = Jvm.exec) (hb : c.code = cc) (hG : ∀ w ∈ wsL_law, w.before args s = true) {own C : String} {T : u_T} {N ci index : Nat} (hin : ∀ w ∈ u_ws C T N, w ∈ wsL_law) (ty0 : Nat → FieldType) (hty : ∀ j, j < N → parseFieldDescriptor (T j).2.2.1 = some (ty0 j)) (hnm : ∀ a, a < N → ∀ b, b < N → a ≠ b → (T a).2.1 ≠ (T b).2.1) (ho : s.vm.findClass own = some m.cls) (hK : va_K D vwCl (tysC k) s) (hP : va_P D vwCl (wld n ad f) H) (hi0 : InjN n ad) (hA : ∀ i, i < n → A (ad i)) (hS : va_S A H0 H locs) {i : Nat} (hi : i < n) {fs : List Value} (he : f i = .inr (ci, fs)) (hc : vwCl[ci]? = some (C, T, N)) (j : Nat) (hj : j < N) (hlink : Cond.fieldLink own index (T j).1 (T j).2.1 (T j).2.2.1 ∈ wsL_law) (hfin : (T j).2.2.2 = false) {v : Value} (hn : narrow (ty0 j) v = v) (hfit : fits (ty0 j) v = true) (hl : j < fs.length) {g : Nat → va_E} (hg : ∀ q, q < n → g q = if q = i then .inr (ci, fs.set j v) else f q)
    (hdg : decode cc pc = .ok (.putfield index, 3)) (kk : ∀ (H1 : Heap) (locs1 : List Loc), va_P D vwCl (wld n ad g) H1 → va_S A H0 H1 locs1 → W p l e R s m args below meth c H1 locs1 cells slots Q (F0 m (pc + 3) ls rest)) : W p l e R s m args below meth c H locs cells slots Q (F0 m pc ls (v :: .ref (ad i) :: rest)) :=
  va_put (D := D) (ci := ci) (C := C) (T := T) (N := N) hx hb hG hin ty0 hty hnm ho hK hP (wld_D hi0 hA) hS i (wld_get' hi he) hc j hj (hG _ hlink) (fun _ h => h) hfin (hty j hj) hn hfit hl hdg (fun H1 locs1 hP1 _ hS1 => kk H1 locs1 (by rw [wld_set hg] at hP1; exact hP1) hS1)
theorem w_iald (hx : p.tables.exec = Jvm.exec) (hb : c.code = cc) (hK : va_K D vwCl (tysC k) s) (hP : va_P D vwCl (wld n ad f) H) {i : Nat} (hi : i < n) {N : Nat} {g : Nat → Int32} (he : f i = .inl (k 0, N, .inl g)) {x : Int32} (hin : vp_in x N) (hdg : decode cc pc = .ok (.iaload, 1))
    (kk : W p l e R s m args below meth c H locs cells slots Q (F0 m (pc + 1) ls (.int (g x.toNatClampNeg) :: rest))) : W p l e R s m args below meth c H locs cells slots Q (F0 m pc ls (.int x :: .ref (ad i) :: rest)) :=
  va_iald hx hb hK hP i 0 (wld_get' hi he) rfl hin hdg kk
theorem w_iast (hx : p.tables.exec = Jvm.exec) (hb : c.code = cc) (hK : va_K D vwCl (tysC k) s) (hP : va_P D vwCl (wld n ad f) H) (hi0 : InjN n ad) (hA : ∀ i, i < n → A (ad i)) (hS : va_S A H0 H locs) {i : Nat} (hi : i < n) {N : Nat} {g : Nat → Int32} (he : f i = .inl (k 0, N, .inl g)) {x v : Int32} (hin : vp_in x N) {f1 : Nat → va_E} (hg : ∀ q, q < n → f1 q = if q = i then .inl (k 0, N, .inl (upd g x.toNatClampNeg v)) else f q) (hdg : decode cc pc = .ok (.iastore, 1))
    (kk : ∀ (H1 : Heap) (locs1 : List Loc), va_P D vwCl (wld n ad f1) H1 → va_S A H0 H1 locs1 → W p l e R s m args below meth c H1 locs1 cells slots Q (F0 m (pc + 1) ls rest)) : W p l e R s m args below meth c H locs cells slots Q (F0 m pc ls (.int v :: .int x :: .ref (ad i) :: rest)) :=
  va_iast hx hb hK hP (wld_D hi0 hA) hS i 0 (wld_get' hi he) rfl hin hdg (fun H1 locs1 hP1 _ hS1 => kk H1 locs1 (by rw [wld_set hg] at hP1; exact hP1) hS1)
theorem w_lald (hx : p.tables.exec = Jvm.exec) (hb : c.code = cc) (hK : va_K D vwCl (tysC k) s) (hP : va_P D vwCl (wld n ad f) H) {i : Nat} (hi : i < n) {N : Nat} {g : Nat → Int64} (he : f i = .inl (k 3, N, .inr (.inl g))) {x : Int32} (hin : vp_in x N) (hdg : decode cc pc = .ok (.laload, 1))
    (kk : W p l e R s m args below meth c H locs cells slots Q (F0 m (pc + 1) ls (.long (g x.toNatClampNeg) :: rest))) : W p l e R s m args below meth c H locs cells slots Q (F0 m pc ls (.int x :: .ref (ad i) :: rest)) :=
  va_lald hx hb hK hP i 3 (wld_get' hi he) rfl hin hdg kk
theorem w_last (hx : p.tables.exec = Jvm.exec) (hb : c.code = cc) (hK : va_K D vwCl (tysC k) s) (hP : va_P D vwCl (wld n ad f) H) (hi0 : InjN n ad) (hA : ∀ i, i < n → A (ad i)) (hS : va_S A H0 H locs) {i : Nat} (hi : i < n) {N : Nat} {g : Nat → Int64} (he : f i = .inl (k 3, N, .inr (.inl g))) {x : Int32} {v : Int64} (hin : vp_in x N) {f1 : Nat → va_E} (hg : ∀ q, q < n → f1 q = if q = i then .inl (k 3, N, .inr (.inl (vp_updL g x.toNatClampNeg v))) else f q) (hdg : decode cc pc = .ok (.lastore, 1))
    (kk : ∀ (H1 : Heap) (locs1 : List Loc), va_P D vwCl (wld n ad f1) H1 → va_S A H0 H1 locs1 → W p l e R s m args below meth c H1 locs1 cells slots Q (F0 m (pc + 1) ls rest)) : W p l e R s m args below meth c H locs cells slots Q (F0 m pc ls (.long v :: .int x :: .ref (ad i) :: rest)) :=
  va_last hx hb hK hP (wld_D hi0 hA) hS i 3 (wld_get' hi he) rfl hin hdg (fun H1 locs1 hP1 _ hS1 => kk H1 locs1 (by rw [wld_set hg] at hP1; exact hP1) hS1)
theorem w_aald (hx : p.tables.exec = Jvm.exec) (hb : c.code = cc) (hK : va_K D vwCl (tysC k) s) (hP : va_P D vwCl (wld n ad f) H) {i : Nat} (hi : i < n) (t0 : Nat) {cA : ClassId} {C : String} (ht : (tysC k)[t0]? = some (cA, .object C)) {N : Nat} {g : Nat → Nat} (he : f i = .inl (cA, N, .inr (.inr (.inr (.inr fun j => some (g j)))))) {x : Int32} (hin : vp_in x N) (hdg : decode cc pc = .ok (.aaload, 1))
    (kk : W p l e R s m args below meth c H locs cells slots Q (F0 m (pc + 1) ls (.ref (g x.toNatClampNeg) :: rest))) : W p l e R s m args below meth c H locs cells slots Q (F0 m pc ls (.int x :: .ref (ad i) :: rest)) :=
  va_aldq hx hb hK hP i t0 (wld_get' hi he) ht hin hdg kk
theorem w_alen (hx : p.tables.exec = Jvm.exec) (hb : c.code = cc) (hK : va_K D vwCl (tysC k) s) (hP : va_P D vwCl (wld n ad f) H) {i : Nat} (hi : i < n) (t0 : Nat) {cA : ClassId} {x : vp_A} (he : f i = .inl (cA, x)) {ty : FieldType} (ht : (tysC k)[t0]? = some (cA, ty)) {v : Int32} (hv : Int32.ofNat x.1 = v) (hdg : decode cc pc = .ok (.arraylength, 1))
    (kk : W p l e R s m args below meth c H locs cells slots Q (F0 m (pc + 1) ls (.int v :: rest))) : W p l e R s m args below meth c H locs cells slots Q (F0 m pc ls (.ref (ad i) :: rest)) :=
  va_alen hx hb hK hP i t0 (wld_get' hi he) ht hv hdg kk
theorem w_recv (hK : va_K D vwCl (tysC k) s) (hP : va_P D vwCl (wld n ad f) H) {i ci : Nat} {fs : List Value} {q : vw_C} (hi : i < n) (he : f i = .inr (ci, fs)) (hc : vwCl[ci]? = some q) : ∃ cell : Cell, H[ad i]? = some cell ∧ cell.vm.isStatics = false ∧ s.vm.findClass q.1 = some cell.cls :=
  va_recv hK hP hc (wld_get' hi he)
theorem call_i {n : Nat} {ad : Nat → Nat} {A0 : Nat → Prop} {g : Mem → Nat → va_E} {M : Mem} {F : Int32 → Mem → Prop} {own C : String} {idx nL maxL np : Nat} {y : MethodName} {bytes : ByteArray} {rty : Option FieldType} {rm : Room} {o : Nat} {st0 : List Value} (As rest : List Value) (hx : p.tables.exec = Jvm.exec) (hb : c.code = cc) (hml : c.maxLocals = nL) (hG : ∀ w ∈ wsL_law, w.before args s = true) (hown : s.vm.findClass own = some m.cls) (hK : va_K D vwCl (tysC k) s)
    (hM : Met l y (Cond.code y bytes maxL rty :: wsL_law) rm (va_Pc (.ref (ad o) :: As) (GW n ad D k (g M))) (va_Qi F (fun u t => GW n ad D k (g u) t) (AW n ad)) 0 0 (AW n ad))
    (h1 : Cond.methodLink own idx y ∈ wsL_law) (h2 : Cond.instanceMethod y ∈ wsL_law ∧ Cond.selects C y y ∈ wsL_law ∧ Cond.initialized C ∈ wsL_law ∧ Cond.code y bytes maxL rty ∈ wsL_law) (hd : y.cls = C ∧ y.cls ≠ "java/lang/invoke/MethodHandle" ∧ y.cls ≠ "java/lang/invoke/VarHandle" ∧ (parseMethodDescriptor y.desc).map (fun d => d.parameters.length) = some np)
    (hrc : rm.cells = 0) (hrs : rm.slots = 0) (hR : rm.frames + 1 ≤ R.frames ∧ 8 + (maxL + 11) + rm.locals ≤ R.locals) (hcs : cells ≤ R.cells ∧ slots ≤ R.slots) (hrecv : ∃ cell : Cell, H[ad o]? = some cell ∧ cell.vm.isStatics = false ∧ s.vm.findClass C = some cell.cls) (hP : va_P D vwCl (wld n ad (g M)) H) (hA0 : ∀ q, AW n ad q → A0 q) (hS : va_S A0 H0 H locs)
    (hn : As.length = np) (hl : ls.size = nL) (hst : st0 = As.reverse ++ .ref (ad o) :: rest) (hrm : (rest.map fun v => v.category).sum ≤ 8) (hdg : decode cc pc = .ok (.invokevirtual idx, 3))
    (kk : ∀ (r : Int32) (u : Mem) (H1 : Heap) (locs1 : List Loc), F r u → va_P D vwCl (wld n ad (g u)) H1 → va_S A0 H0 H1 locs1 → W p l e R s m args below meth c H1 locs1 cells slots Q (F0 m (pc + 3) ls (.int r :: rest))) : W p l e R s m args below meth c H locs cells slots Q (F0 m pc ls st0) := by
  refine va_calli (va_runV (As := As) (rest := rest) ⟨hx, hb, hml, hown, hG⟩ hM (cwV np hG (good_V h1 h2) rfl hrc hrs hd hR) ⟨GW_blind _, hrecv, fun U hU hW => ⟨rfl, by rw [hU]; exact hP, va_K.moved hW.alike hK⟩⟩ rfl hn hl hst (lv_room hrm) hdg hcs) hS (fun q _ h => hA0 q h) hA0 (fun r u t H1 locs1 ht hvm hw hB _ _ hS1 => ?_)
  obtain ⟨hP1, hK1⟩ := hB
  rw [ht] at hP1
  exact kk r u H1 locs1 hw hP1 hS1
theorem call_v {n : Nat} {ad : Nat → Nat} {A0 : Nat → Prop} {g : Mem → Nat → va_E} {M : Mem} {F : Mem → Prop} {own C : String} {idx nL maxL np : Nat} {y : MethodName} {bytes : ByteArray} {rty : Option FieldType} {rm : Room} {o : Nat} {st0 : List Value} (As rest : List Value) (hx : p.tables.exec = Jvm.exec) (hb : c.code = cc) (hml : c.maxLocals = nL) (hG : ∀ w ∈ wsL_law, w.before args s = true) (hown : s.vm.findClass own = some m.cls) (hK : va_K D vwCl (tysC k) s)
    (hM : Met l y (Cond.code y bytes maxL rty :: wsL_law) rm (va_Pc (.ref (ad o) :: As) (GW n ad D k (g M))) (va_Qv F (fun u t => GW n ad D k (g u) t) (AW n ad)) 0 0 (AW n ad))
    (h1 : Cond.methodLink own idx y ∈ wsL_law) (h2 : Cond.instanceMethod y ∈ wsL_law ∧ Cond.selects C y y ∈ wsL_law ∧ Cond.initialized C ∈ wsL_law ∧ Cond.code y bytes maxL rty ∈ wsL_law) (hd : y.cls = C ∧ y.cls ≠ "java/lang/invoke/MethodHandle" ∧ y.cls ≠ "java/lang/invoke/VarHandle" ∧ (parseMethodDescriptor y.desc).map (fun d => d.parameters.length) = some np)
    (hrc : rm.cells = 0) (hrs : rm.slots = 0) (hR : rm.frames + 1 ≤ R.frames ∧ 8 + (maxL + 11) + rm.locals ≤ R.locals) (hcs : cells ≤ R.cells ∧ slots ≤ R.slots) (hrecv : ∃ cell : Cell, H[ad o]? = some cell ∧ cell.vm.isStatics = false ∧ s.vm.findClass C = some cell.cls) (hP : va_P D vwCl (wld n ad (g M)) H) (hA0 : ∀ q, AW n ad q → A0 q) (hS : va_S A0 H0 H locs)
    (hn : As.length = np) (hl : ls.size = nL) (hst : st0 = As.reverse ++ .ref (ad o) :: rest) (hrm : (rest.map fun v => v.category).sum ≤ 8) (hdg : decode cc pc = .ok (.invokevirtual idx, 3))
    (kk : ∀ (u : Mem) (H1 : Heap) (locs1 : List Loc), F u → va_P D vwCl (wld n ad (g u)) H1 → va_S A0 H0 H1 locs1 → W p l e R s m args below meth c H1 locs1 cells slots Q (F0 m (pc + 3) ls rest)) : W p l e R s m args below meth c H locs cells slots Q (F0 m pc ls st0) := by
  refine va_callv (va_runV (As := As) (rest := rest) ⟨hx, hb, hml, hown, hG⟩ hM (cwV np hG (good_V h1 h2) rfl hrc hrs hd hR) ⟨GW_blind _, hrecv, fun U hU hW => ⟨rfl, by rw [hU]; exact hP, va_K.moved hW.alike hK⟩⟩ rfl hn hl hst (lv_room hrm) hdg hcs) hS (fun q _ h => hA0 q h) hA0 (fun u t H1 locs1 ht hvm hw hB _ _ hS1 => ?_)
  obtain ⟨hP1, hK1⟩ := hB
  rw [ht] at hP1
  exact kk u H1 locs1 hw hP1 hS1
theorem call_l {n : Nat} {ad : Nat → Nat} {A0 : Nat → Prop} {g : Mem → Nat → va_E} {M : Mem} {F : Int64 → Mem → Prop} {own C : String} {idx nL maxL np : Nat} {y : MethodName} {bytes : ByteArray} {rty : Option FieldType} {rm : Room} {o : Nat} {st0 : List Value} (As rest : List Value) (hx : p.tables.exec = Jvm.exec) (hb : c.code = cc) (hml : c.maxLocals = nL) (hG : ∀ w ∈ wsL_law, w.before args s = true) (hown : s.vm.findClass own = some m.cls) (hK : va_K D vwCl (tysC k) s)
    (hM : Met l y (Cond.code y bytes maxL rty :: wsL_law) rm (va_Pc (.ref (ad o) :: As) (GW n ad D k (g M))) (va_Ql F (fun u t => GW n ad D k (g u) t) (AW n ad)) 0 0 (AW n ad))
    (h1 : Cond.methodLink own idx y ∈ wsL_law) (h2 : Cond.instanceMethod y ∈ wsL_law ∧ Cond.selects C y y ∈ wsL_law ∧ Cond.initialized C ∈ wsL_law ∧ Cond.code y bytes maxL rty ∈ wsL_law) (hd : y.cls = C ∧ y.cls ≠ "java/lang/invoke/MethodHandle" ∧ y.cls ≠ "java/lang/invoke/VarHandle" ∧ (parseMethodDescriptor y.desc).map (fun d => d.parameters.length) = some np)
    (hrc : rm.cells = 0) (hrs : rm.slots = 0) (hR : rm.frames + 1 ≤ R.frames ∧ 8 + (maxL + 11) + rm.locals ≤ R.locals) (hcs : cells ≤ R.cells ∧ slots ≤ R.slots) (hrecv : ∃ cell : Cell, H[ad o]? = some cell ∧ cell.vm.isStatics = false ∧ s.vm.findClass C = some cell.cls) (hP : va_P D vwCl (wld n ad (g M)) H) (hA0 : ∀ q, AW n ad q → A0 q) (hS : va_S A0 H0 H locs)
    (hn : As.length = np) (hl : ls.size = nL) (hst : st0 = As.reverse ++ .ref (ad o) :: rest) (hrm : (rest.map fun v => v.category).sum ≤ 8) (hdg : decode cc pc = .ok (.invokevirtual idx, 3))
    (kk : ∀ (r : Int64) (u : Mem) (H1 : Heap) (locs1 : List Loc), F r u → va_P D vwCl (wld n ad (g u)) H1 → va_S A0 H0 H1 locs1 → W p l e R s m args below meth c H1 locs1 cells slots Q (F0 m (pc + 3) ls (.long r :: rest))) : W p l e R s m args below meth c H locs cells slots Q (F0 m pc ls st0) := by
  refine va_calll (va_runV (As := As) (rest := rest) ⟨hx, hb, hml, hown, hG⟩ hM (cwV np hG (good_V h1 h2) rfl hrc hrs hd hR) ⟨GW_blind _, hrecv, fun U hU hW => ⟨rfl, by rw [hU]; exact hP, va_K.moved hW.alike hK⟩⟩ rfl hn hl hst (lv_room hrm) hdg hcs) hS (fun q _ h => hA0 q h) hA0 (fun r u t H1 locs1 ht hvm hw hB _ _ hS1 => ?_)
  obtain ⟨hP1, hK1⟩ := hB
  rw [ht] at hP1
  exact kk r u H1 locs1 hw hP1 hS1
theorem call_e {n : Nat} {ad : Nat → Nat} {A0 : Nat → Prop} {g : Mem → Nat → va_E} {M : Mem} {F : Option Nat → Mem → Prop} {own C : String} {idx nL maxL np : Nat} {y : MethodName} {bytes : ByteArray} {rty : Option FieldType} {rm : Room} {o : Nat} {st0 : List Value} (As rest : List Value) (hx : p.tables.exec = Jvm.exec) (hb : c.code = cc) (hml : c.maxLocals = nL) (hG : ∀ w ∈ wsL_law, w.before args s = true) (hown : s.vm.findClass own = some m.cls) (hK : va_K D vwCl (tysC k) s)
    (hM : Met l y (Cond.code y bytes maxL rty :: wsL_law) rm (va_Pc (.ref (ad o) :: As) (GW n ad D k (g M))) (va_Qe ad F (fun u t => GW n ad D k (g u) t) (AW n ad)) 0 0 (AW n ad))
    (h1 : Cond.methodLink own idx y ∈ wsL_law) (h2 : Cond.instanceMethod y ∈ wsL_law ∧ Cond.selects C y y ∈ wsL_law ∧ Cond.initialized C ∈ wsL_law ∧ Cond.code y bytes maxL rty ∈ wsL_law) (hd : y.cls = C ∧ y.cls ≠ "java/lang/invoke/MethodHandle" ∧ y.cls ≠ "java/lang/invoke/VarHandle" ∧ (parseMethodDescriptor y.desc).map (fun d => d.parameters.length) = some np)
    (hrc : rm.cells = 0) (hrs : rm.slots = 0) (hR : rm.frames + 1 ≤ R.frames ∧ 8 + (maxL + 11) + rm.locals ≤ R.locals) (hcs : cells ≤ R.cells ∧ slots ≤ R.slots) (hrecv : ∃ cell : Cell, H[ad o]? = some cell ∧ cell.vm.isStatics = false ∧ s.vm.findClass C = some cell.cls) (hP : va_P D vwCl (wld n ad (g M)) H) (hA0 : ∀ q, AW n ad q → A0 q) (hS : va_S A0 H0 H locs)
    (hn : As.length = np) (hl : ls.size = nL) (hst : st0 = As.reverse ++ .ref (ad o) :: rest) (hrm : (rest.map fun v => v.category).sum ≤ 8) (hdg : decode cc pc = .ok (.invokevirtual idx, 3))
    (kk : ∀ (r : Option Nat) (u : Mem) (H1 : Heap) (locs1 : List Loc), F r u → va_P D vwCl (wld n ad (g u)) H1 → va_S A0 H0 H1 locs1 → W p l e R s m args below meth c H1 locs1 cells slots Q (F0 m (pc + 3) ls (va_re ad r :: rest))) : W p l e R s m args below meth c H locs cells slots Q (F0 m pc ls st0) := by
  refine va_calle (va_runV (As := As) (rest := rest) ⟨hx, hb, hml, hown, hG⟩ hM (cwV np hG (good_V h1 h2) rfl hrc hrs hd hR) ⟨GW_blind _, hrecv, fun U hU hW => ⟨rfl, by rw [hU]; exact hP, va_K.moved hW.alike hK⟩⟩ rfl hn hl hst (lv_room hrm) hdg hcs) hS (fun q _ h => hA0 q h) hA0 (fun r u t H1 locs1 ht hvm hw hB _ _ hS1 => ?_)
  obtain ⟨hP1, hK1⟩ := hB
  rw [ht] at hP1
  exact kk r u H1 locs1 hw hP1 hS1
theorem callS_i {n : Nat} {ad : Nat → Nat} {A0 : Nat → Prop} {g : Mem → Nat → va_E} {M : Mem} {F : Int32 → Mem → Prop} {own : String} {idx nL maxL np : Nat} {y : MethodName} {bytes : ByteArray} {rty : Option FieldType} {rm : Room} {st0 : List Value} (As rest : List Value) (hx : p.tables.exec = Jvm.exec) (hb : c.code = cc) (hml : c.maxLocals = nL) (hG : ∀ w ∈ wsL_law, w.before args s = true) (hown : s.vm.findClass own = some m.cls) (hK : va_K D vwCl (tysC k) s)
    (hM : Met l y (Cond.code y bytes maxL rty :: wsL_law) rm (va_Pc As (GW n ad D k (g M))) (va_Qi F (fun u t => GW n ad D k (g u) t) (AW n ad)) 0 0 (AW n ad))
    (h1 : Cond.methodLink own idx y ∈ wsL_law) (h2 : Cond.static y ∈ wsL_law ∧ Cond.initialized y.cls ∈ wsL_law ∧ Cond.code y bytes maxL rty ∈ wsL_law) (hd : y.cls ≠ "java/lang/invoke/MethodHandle" ∧ y.cls ≠ "java/lang/invoke/VarHandle" ∧ (parseMethodDescriptor y.desc).map (fun d => d.parameters.length) = some np)
    (hrc : rm.cells = 0) (hrs : rm.slots = 0) (hR : rm.frames + 1 ≤ R.frames ∧ 8 + (maxL + 11) + rm.locals ≤ R.locals) (hcs : cells ≤ R.cells ∧ slots ≤ R.slots) (hP : va_P D vwCl (wld n ad (g M)) H) (hA0 : ∀ q, AW n ad q → A0 q) (hS : va_S A0 H0 H locs)
    (hn : As.length = np) (hl : ls.size = nL) (hst : st0 = As.reverse ++ rest) (hrm : (rest.map fun v => v.category).sum ≤ 8) (hdg : decode cc pc = .ok (.invokestatic idx, 3))
    (kk : ∀ (r : Int32) (u : Mem) (H1 : Heap) (locs1 : List Loc), F r u → va_P D vwCl (wld n ad (g u)) H1 → va_S A0 H0 H1 locs1 → W p l e R s m args below meth c H1 locs1 cells slots Q (F0 m (pc + 3) ls (.int r :: rest))) : W p l e R s m args below meth c H locs cells slots Q (F0 m pc ls st0) := by
  refine va_calli (va_runS (As := As) (rest := rest) ⟨hx, hb, hml, hown, hG⟩ hM (va_cwS np hG (good_S h1 h2) rfl hrc hrs hd hR) ⟨GW_blind _, fun U hU hW => ⟨rfl, by rw [hU]; exact hP, va_K.moved hW.alike hK⟩⟩ rfl hn hl hst (lv_room hrm) hdg hcs) hS (fun q _ h => hA0 q h) hA0 (fun r u t H1 locs1 ht hvm hw hB _ _ hS1 => ?_)
  obtain ⟨hP1, hK1⟩ := hB
  rw [ht] at hP1
  exact kk r u H1 locs1 hw hP1 hS1
theorem callS_v {n : Nat} {ad : Nat → Nat} {A0 : Nat → Prop} {g : Mem → Nat → va_E} {M : Mem} {F : Mem → Prop} {own : String} {idx nL maxL np : Nat} {y : MethodName} {bytes : ByteArray} {rty : Option FieldType} {rm : Room} {st0 : List Value} (As rest : List Value) (hx : p.tables.exec = Jvm.exec) (hb : c.code = cc) (hml : c.maxLocals = nL) (hG : ∀ w ∈ wsL_law, w.before args s = true) (hown : s.vm.findClass own = some m.cls) (hK : va_K D vwCl (tysC k) s)
    (hM : Met l y (Cond.code y bytes maxL rty :: wsL_law) rm (va_Pc As (GW n ad D k (g M))) (va_Qv F (fun u t => GW n ad D k (g u) t) (AW n ad)) 0 0 (AW n ad))
    (h1 : Cond.methodLink own idx y ∈ wsL_law) (h2 : Cond.static y ∈ wsL_law ∧ Cond.initialized y.cls ∈ wsL_law ∧ Cond.code y bytes maxL rty ∈ wsL_law) (hd : y.cls ≠ "java/lang/invoke/MethodHandle" ∧ y.cls ≠ "java/lang/invoke/VarHandle" ∧ (parseMethodDescriptor y.desc).map (fun d => d.parameters.length) = some np)
    (hrc : rm.cells = 0) (hrs : rm.slots = 0) (hR : rm.frames + 1 ≤ R.frames ∧ 8 + (maxL + 11) + rm.locals ≤ R.locals) (hcs : cells ≤ R.cells ∧ slots ≤ R.slots) (hP : va_P D vwCl (wld n ad (g M)) H) (hA0 : ∀ q, AW n ad q → A0 q) (hS : va_S A0 H0 H locs)
    (hn : As.length = np) (hl : ls.size = nL) (hst : st0 = As.reverse ++ rest) (hrm : (rest.map fun v => v.category).sum ≤ 8) (hdg : decode cc pc = .ok (.invokestatic idx, 3))
    (kk : ∀ (u : Mem) (H1 : Heap) (locs1 : List Loc), F u → va_P D vwCl (wld n ad (g u)) H1 → va_S A0 H0 H1 locs1 → W p l e R s m args below meth c H1 locs1 cells slots Q (F0 m (pc + 3) ls rest)) : W p l e R s m args below meth c H locs cells slots Q (F0 m pc ls st0) := by
  refine va_callv (va_runS (As := As) (rest := rest) ⟨hx, hb, hml, hown, hG⟩ hM (va_cwS np hG (good_S h1 h2) rfl hrc hrs hd hR) ⟨GW_blind _, fun U hU hW => ⟨rfl, by rw [hU]; exact hP, va_K.moved hW.alike hK⟩⟩ rfl hn hl hst (lv_room hrm) hdg hcs) hS (fun q _ h => hA0 q h) hA0 (fun u t H1 locs1 ht hvm hw hB _ _ hS1 => ?_)
  obtain ⟨hP1, hK1⟩ := hB
  rw [ht] at hP1
  exact kk u H1 locs1 hw hP1 hS1
theorem callS_l {n : Nat} {ad : Nat → Nat} {A0 : Nat → Prop} {g : Mem → Nat → va_E} {M : Mem} {F : Int64 → Mem → Prop} {own : String} {idx nL maxL np : Nat} {y : MethodName} {bytes : ByteArray} {rty : Option FieldType} {rm : Room} {st0 : List Value} (As rest : List Value) (hx : p.tables.exec = Jvm.exec) (hb : c.code = cc) (hml : c.maxLocals = nL) (hG : ∀ w ∈ wsL_law, w.before args s = true) (hown : s.vm.findClass own = some m.cls) (hK : va_K D vwCl (tysC k) s)
    (hM : Met l y (Cond.code y bytes maxL rty :: wsL_law) rm (va_Pc As (GW n ad D k (g M))) (va_Ql F (fun u t => GW n ad D k (g u) t) (AW n ad)) 0 0 (AW n ad))
    (h1 : Cond.methodLink own idx y ∈ wsL_law) (h2 : Cond.static y ∈ wsL_law ∧ Cond.initialized y.cls ∈ wsL_law ∧ Cond.code y bytes maxL rty ∈ wsL_law) (hd : y.cls ≠ "java/lang/invoke/MethodHandle" ∧ y.cls ≠ "java/lang/invoke/VarHandle" ∧ (parseMethodDescriptor y.desc).map (fun d => d.parameters.length) = some np)
    (hrc : rm.cells = 0) (hrs : rm.slots = 0) (hR : rm.frames + 1 ≤ R.frames ∧ 8 + (maxL + 11) + rm.locals ≤ R.locals) (hcs : cells ≤ R.cells ∧ slots ≤ R.slots) (hP : va_P D vwCl (wld n ad (g M)) H) (hA0 : ∀ q, AW n ad q → A0 q) (hS : va_S A0 H0 H locs)
    (hn : As.length = np) (hl : ls.size = nL) (hst : st0 = As.reverse ++ rest) (hrm : (rest.map fun v => v.category).sum ≤ 8) (hdg : decode cc pc = .ok (.invokestatic idx, 3))
    (kk : ∀ (r : Int64) (u : Mem) (H1 : Heap) (locs1 : List Loc), F r u → va_P D vwCl (wld n ad (g u)) H1 → va_S A0 H0 H1 locs1 → W p l e R s m args below meth c H1 locs1 cells slots Q (F0 m (pc + 3) ls (.long r :: rest))) : W p l e R s m args below meth c H locs cells slots Q (F0 m pc ls st0) := by
  refine va_calll (va_runS (As := As) (rest := rest) ⟨hx, hb, hml, hown, hG⟩ hM (va_cwS np hG (good_S h1 h2) rfl hrc hrs hd hR) ⟨GW_blind _, fun U hU hW => ⟨rfl, by rw [hU]; exact hP, va_K.moved hW.alike hK⟩⟩ rfl hn hl hst (lv_room hrm) hdg hcs) hS (fun q _ h => hA0 q h) hA0 (fun r u t H1 locs1 ht hvm hw hB _ _ hS1 => ?_)
  obtain ⟨hP1, hK1⟩ := hB
  rw [ht] at hP1
  exact kk r u H1 locs1 hw hP1 hS1
theorem callS_e {n : Nat} {ad : Nat → Nat} {A0 : Nat → Prop} {g : Mem → Nat → va_E} {M : Mem} {F : Option Nat → Mem → Prop} {own : String} {idx nL maxL np : Nat} {y : MethodName} {bytes : ByteArray} {rty : Option FieldType} {rm : Room} {st0 : List Value} (As rest : List Value) (hx : p.tables.exec = Jvm.exec) (hb : c.code = cc) (hml : c.maxLocals = nL) (hG : ∀ w ∈ wsL_law, w.before args s = true) (hown : s.vm.findClass own = some m.cls) (hK : va_K D vwCl (tysC k) s)
    (hM : Met l y (Cond.code y bytes maxL rty :: wsL_law) rm (va_Pc As (GW n ad D k (g M))) (va_Qe ad F (fun u t => GW n ad D k (g u) t) (AW n ad)) 0 0 (AW n ad))
    (h1 : Cond.methodLink own idx y ∈ wsL_law) (h2 : Cond.static y ∈ wsL_law ∧ Cond.initialized y.cls ∈ wsL_law ∧ Cond.code y bytes maxL rty ∈ wsL_law) (hd : y.cls ≠ "java/lang/invoke/MethodHandle" ∧ y.cls ≠ "java/lang/invoke/VarHandle" ∧ (parseMethodDescriptor y.desc).map (fun d => d.parameters.length) = some np)
    (hrc : rm.cells = 0) (hrs : rm.slots = 0) (hR : rm.frames + 1 ≤ R.frames ∧ 8 + (maxL + 11) + rm.locals ≤ R.locals) (hcs : cells ≤ R.cells ∧ slots ≤ R.slots) (hP : va_P D vwCl (wld n ad (g M)) H) (hA0 : ∀ q, AW n ad q → A0 q) (hS : va_S A0 H0 H locs)
    (hn : As.length = np) (hl : ls.size = nL) (hst : st0 = As.reverse ++ rest) (hrm : (rest.map fun v => v.category).sum ≤ 8) (hdg : decode cc pc = .ok (.invokestatic idx, 3))
    (kk : ∀ (r : Option Nat) (u : Mem) (H1 : Heap) (locs1 : List Loc), F r u → va_P D vwCl (wld n ad (g u)) H1 → va_S A0 H0 H1 locs1 → W p l e R s m args below meth c H1 locs1 cells slots Q (F0 m (pc + 3) ls (va_re ad r :: rest))) : W p l e R s m args below meth c H locs cells slots Q (F0 m pc ls st0) := by
  refine va_calle (va_runS (As := As) (rest := rest) ⟨hx, hb, hml, hown, hG⟩ hM (va_cwS np hG (good_S h1 h2) rfl hrc hrs hd hR) ⟨GW_blind _, fun U hU hW => ⟨rfl, by rw [hU]; exact hP, va_K.moved hW.alike hK⟩⟩ rfl hn hl hst (lv_room hrm) hdg hcs) hS (fun q _ h => hA0 q h) hA0 (fun r u t H1 locs1 ht hvm hw hB _ _ hS1 => ?_)
  obtain ⟨hP1, hK1⟩ := hB
  rw [ht] at hP1
  exact kk r u H1 locs1 hw hP1 hS1
end WG
/-! ===== a method from its entry ===== -/
theorem met_i {l : Launch} {y : MethodName} {cc : ByteArray} {maxL n : Nat} {ad : Nat → Nat} {D : va_G} {k : Nat → ClassId} {g : Mem → Nat → va_E} {M : Mem} {rm : Room} {As : List Value} {F : Int32 → Mem → Prop} (hy : plainFor y = true) (hle : (lg_sl As).length ≤ maxL)
    (walk : ∀ (p : Program) (e : Env) (s : State) (m : MethodId) (args : Array Value) (below : List Frame) (meth : Method) (c : Code) (Q : State → Prop) (ls : Array Slot), p.tables.exec = Jvm.exec → c.code = cc → c.maxLocals = maxL → (∀ w ∈ wsL_law, w.before args s = true) → s.vm.findClass y.cls = some m.cls → va_K D vwCl (tysC k) s →
      (∀ (H : Heap) (locs : List Loc) (ls : Array Slot) (pc : Nat) (r : Int32) (u : Mem), F r u → va_P D vwCl (wld n ad (g u)) H → va_S (AW n ad) s.heap H locs → decode cc pc = .ok (.ireturn, 1) → W p l e rm s m args below meth c H locs 0 0 Q (F0 m pc ls [.int r])) →
      va_P D vwCl (wld n ad (g M)) s.heap → va_S (AW n ad) s.heap s.heap [] → lv_has ls maxL (lv_args 0 As) → W p l e rm s m args below meth c s.heap [] 0 0 Q (F0 m 0 ls [])) :
    Met l y (Cond.code y cc maxL (some .int) :: wsL_law) rm (va_Pc As (GW n ad D k (g M))) (va_Qi F (fun u t => GW n ad D k (g u) t) (AW n ad)) 0 0 (AW n ad) := by
  refine va_MetF (cc := cc) (maxL := maxL) (ret := (some .int)) hy rfl ?_
  intro p e s m args below meth c s₁ B hml hv
  obtain ⟨rfl, hP, hK⟩ := hv
  have hr := B.returns
  have hts := atoms_spec (ws := Cond.code y cc maxL (some .int) :: wsL_law) B.pre
  have hlocks := B.notSynchronized
  rw [lg_entry_eq]
  exact walk p e s m _ below meth c _ _ B.exec B.bytes hml (fun w h => hts w (List.mem_cons_of_mem _ h)) (findClass_of_methodNamed B.named) hK (fun H locs ls pc r u hF hP1 hS1 hdg => W.iret (v := r) B.exec B.bytes hr (fun t ht hW => ⟨⟨r, u, rfl, hF, by rw [ht]; exact hP1, va_K.moved hW.alike hK⟩, hS1.F ht⟩) hS1.2.2 hdg) hP va_S.rf (lv_entry As hle)
theorem met_z {l : Launch} {y : MethodName} {cc : ByteArray} {maxL n : Nat} {ad : Nat → Nat} {D : va_G} {k : Nat → ClassId} {g : Mem → Nat → va_E} {M : Mem} {rm : Room} {As : List Value} {ty : FieldType} {F : Int32 → Mem → Prop} (hy : plainFor y = true) (hle : (lg_sl As).length ≤ maxL)
    (walk : ∀ (p : Program) (e : Env) (s : State) (m : MethodId) (args : Array Value) (below : List Frame) (meth : Method) (c : Code) (Q : State → Prop) (ls : Array Slot), p.tables.exec = Jvm.exec → c.code = cc → c.maxLocals = maxL → (∀ w ∈ wsL_law, w.before args s = true) → s.vm.findClass y.cls = some m.cls → va_K D vwCl (tysC k) s →
      (∀ (H : Heap) (locs : List Loc) (ls : Array Slot) (pc : Nat) (r : Int32) (u : Mem), F r u → narrow ty (.int r) = .int r → va_P D vwCl (wld n ad (g u)) H → va_S (AW n ad) s.heap H locs → decode cc pc = .ok (.ireturn, 1) → W p l e rm s m args below meth c H locs 0 0 Q (F0 m pc ls [.int r])) →
      va_P D vwCl (wld n ad (g M)) s.heap → va_S (AW n ad) s.heap s.heap [] → lv_has ls maxL (lv_args 0 As) → W p l e rm s m args below meth c s.heap [] 0 0 Q (F0 m 0 ls [])) :
    Met l y (Cond.code y cc maxL (some ty) :: wsL_law) rm (va_Pc As (GW n ad D k (g M))) (va_Qi F (fun u t => GW n ad D k (g u) t) (AW n ad)) 0 0 (AW n ad) := by
  refine va_MetF (cc := cc) (maxL := maxL) (ret := (some ty)) hy rfl ?_
  intro p e s m args below meth c s₁ B hml hv
  obtain ⟨rfl, hP, hK⟩ := hv
  have hr := B.returns
  have hts := atoms_spec (ws := Cond.code y cc maxL (some ty) :: wsL_law) B.pre
  have hlocks := B.notSynchronized
  rw [lg_entry_eq]
  exact walk p e s m _ below meth c _ _ B.exec B.bytes hml (fun w h => hts w (List.mem_cons_of_mem _ h)) (findClass_of_methodNamed B.named) hK (fun H locs ls pc r u hF hnn hP1 hS1 hdg => W.zret (v := r) B.exec B.bytes hr hnn (fun t ht hW => ⟨⟨r, u, rfl, hF, by rw [ht]; exact hP1, va_K.moved hW.alike hK⟩, hS1.F ht⟩) hS1.2.2 hdg) hP va_S.rf (lv_entry As hle)
theorem met_v {l : Launch} {y : MethodName} {cc : ByteArray} {maxL n : Nat} {ad : Nat → Nat} {D : va_G} {k : Nat → ClassId} {g : Mem → Nat → va_E} {M : Mem} {rm : Room} {As : List Value} {F : Mem → Prop} (hy : plainFor y = true) (hle : (lg_sl As).length ≤ maxL)
    (walk : ∀ (p : Program) (e : Env) (s : State) (m : MethodId) (args : Array Value) (below : List Frame) (meth : Method) (c : Code) (Q : State → Prop) (ls : Array Slot), p.tables.exec = Jvm.exec → c.code = cc → c.maxLocals = maxL → (∀ w ∈ wsL_law, w.before args s = true) → s.vm.findClass y.cls = some m.cls → va_K D vwCl (tysC k) s →
      (∀ (H : Heap) (locs : List Loc) (ls : Array Slot) (pc : Nat) (u : Mem), F u → va_P D vwCl (wld n ad (g u)) H → va_S (AW n ad) s.heap H locs → decode cc pc = .ok (.return_, 1) → W p l e rm s m args below meth c H locs 0 0 Q (F0 m pc ls [])) →
      va_P D vwCl (wld n ad (g M)) s.heap → va_S (AW n ad) s.heap s.heap [] → lv_has ls maxL (lv_args 0 As) → W p l e rm s m args below meth c s.heap [] 0 0 Q (F0 m 0 ls [])) :
    Met l y (Cond.code y cc maxL none :: wsL_law) rm (va_Pc As (GW n ad D k (g M))) (va_Qv F (fun u t => GW n ad D k (g u) t) (AW n ad)) 0 0 (AW n ad) := by
  refine va_MetF (cc := cc) (maxL := maxL) (ret := none) hy rfl ?_
  intro p e s m args below meth c s₁ B hml hv
  obtain ⟨rfl, hP, hK⟩ := hv
  have hr := B.returns
  have hts := atoms_spec (ws := Cond.code y cc maxL none :: wsL_law) B.pre
  have hlocks := B.notSynchronized
  rw [lg_entry_eq]
  exact walk p e s m _ below meth c _ _ B.exec B.bytes hml (fun w h => hts w (List.mem_cons_of_mem _ h)) (findClass_of_methodNamed B.named) hK (fun H locs ls pc u hF hP1 hS1 hdg => W.vret B.exec B.bytes hr (fun t ht hW => ⟨⟨u, rfl, hF, by rw [ht]; exact hP1, va_K.moved hW.alike hK⟩, hS1.F ht⟩) hS1.2.2 hdg) hP va_S.rf (lv_entry As hle)
theorem met_l {l : Launch} {y : MethodName} {cc : ByteArray} {maxL n : Nat} {ad : Nat → Nat} {D : va_G} {k : Nat → ClassId} {g : Mem → Nat → va_E} {M : Mem} {rm : Room} {As : List Value} {F : Int64 → Mem → Prop} (hy : plainFor y = true) (hle : (lg_sl As).length ≤ maxL)
    (walk : ∀ (p : Program) (e : Env) (s : State) (m : MethodId) (args : Array Value) (below : List Frame) (meth : Method) (c : Code) (Q : State → Prop) (ls : Array Slot), p.tables.exec = Jvm.exec → c.code = cc → c.maxLocals = maxL → (∀ w ∈ wsL_law, w.before args s = true) → s.vm.findClass y.cls = some m.cls → va_K D vwCl (tysC k) s →
      (∀ (H : Heap) (locs : List Loc) (ls : Array Slot) (pc : Nat) (r : Int64) (u : Mem), F r u → va_P D vwCl (wld n ad (g u)) H → va_S (AW n ad) s.heap H locs → decode cc pc = .ok (.lreturn, 1) → W p l e rm s m args below meth c H locs 0 0 Q (F0 m pc ls [.long r])) →
      va_P D vwCl (wld n ad (g M)) s.heap → va_S (AW n ad) s.heap s.heap [] → lv_has ls maxL (lv_args 0 As) → W p l e rm s m args below meth c s.heap [] 0 0 Q (F0 m 0 ls [])) :
    Met l y (Cond.code y cc maxL (some .long) :: wsL_law) rm (va_Pc As (GW n ad D k (g M))) (va_Ql F (fun u t => GW n ad D k (g u) t) (AW n ad)) 0 0 (AW n ad) := by
  refine va_MetF (cc := cc) (maxL := maxL) (ret := (some .long)) hy rfl ?_
  intro p e s m args below meth c s₁ B hml hv
  obtain ⟨rfl, hP, hK⟩ := hv
  have hr := B.returns
  have hts := atoms_spec (ws := Cond.code y cc maxL (some .long) :: wsL_law) B.pre
  have hlocks := B.notSynchronized
  rw [lg_entry_eq]
  exact walk p e s m _ below meth c _ _ B.exec B.bytes hml (fun w h => hts w (List.mem_cons_of_mem _ h)) (findClass_of_methodNamed B.named) hK (fun H locs ls pc r u hF hP1 hS1 hdg => W.lret (v := r) B.exec B.bytes hr (fun t ht hW => ⟨⟨r, u, rfl, hF, by rw [ht]; exact hP1, va_K.moved hW.alike hK⟩, hS1.F ht⟩) hS1.2.2 hdg) hP va_S.rf (lv_entry As hle)
theorem met_e {l : Launch} {y : MethodName} {cc : ByteArray} {maxL n : Nat} {ad : Nat → Nat} {D : va_G} {k : Nat → ClassId} {g : Mem → Nat → va_E} {M : Mem} {rm : Room} {As : List Value} {rt : FieldType} (hrt : (∃ n, rt = .object n) ∨ ∃ t, rt = .array t) {F : Option Nat → Mem → Prop} (hy : plainFor y = true) (hle : (lg_sl As).length ≤ maxL)
    (walk : ∀ (p : Program) (e : Env) (s : State) (m : MethodId) (args : Array Value) (below : List Frame) (meth : Method) (c : Code) (Q : State → Prop) (ls : Array Slot), p.tables.exec = Jvm.exec → c.code = cc → c.maxLocals = maxL → (∀ w ∈ wsL_law, w.before args s = true) → s.vm.findClass y.cls = some m.cls → va_K D vwCl (tysC k) s →
      (∀ (H : Heap) (locs : List Loc) (ls : Array Slot) (pc : Nat) (r : Option Nat) (u : Mem), F r u → va_P D vwCl (wld n ad (g u)) H → va_S (AW n ad) s.heap H locs → decode cc pc = .ok (.areturn, 1) → W p l e rm s m args below meth c H locs 0 0 Q (F0 m pc ls [va_re ad r])) →
      va_P D vwCl (wld n ad (g M)) s.heap → va_S (AW n ad) s.heap s.heap [] → lv_has ls maxL (lv_args 0 As) → W p l e rm s m args below meth c s.heap [] 0 0 Q (F0 m 0 ls [])) :
    Met l y (Cond.code y cc maxL (some rt) :: wsL_law) rm (va_Pc As (GW n ad D k (g M))) (va_Qe ad F (fun u t => GW n ad D k (g u) t) (AW n ad)) 0 0 (AW n ad) := by
  refine va_MetF (cc := cc) (maxL := maxL) (ret := (some rt)) hy rfl ?_
  intro p e s m args below meth c s₁ B hml hv
  obtain ⟨rfl, hP, hK⟩ := hv
  have hr := B.returns
  have hts := atoms_spec (ws := Cond.code y cc maxL (some rt) :: wsL_law) B.pre
  have hlocks := B.notSynchronized
  rw [lg_entry_eq]
  exact walk p e s m _ below meth c _ _ B.exec B.bytes hml (fun w h => hts w (List.mem_cons_of_mem _ h)) (findClass_of_methodNamed B.named) hK (fun H locs ls pc r u hF hP1 hS1 hdg => W.aret (v := va_re ad r) B.exec B.bytes hr hrt (va_re_or ad r) (fun t ht hW => ⟨⟨r, u, rfl, hF, by rw [ht]; exact hP1, va_K.moved hW.alike hK⟩, hS1.F ht⟩) hS1.2.2 hdg) hP va_S.rf (lv_entry As hle)
theorem nz01 {r : Int32} (h : r = 0 ∨ r = 1) : narrow .boolean (.int r) = .int r := by rcases h with rfl | rfl <;> rfl
theorem fz01 {r : Int32} (h : r = 0 ∨ r = 1) : fits .boolean (.int r) = true := by rcases h with rfl | rfl <;> decide
theorem ior01 {a b : Int32} (ha : a = 0 ∨ a = 1) (hb : b = 0 ∨ b = 1) : a ||| b = 0 ∨ a ||| b = 1 := by rcases ha with rfl | rfl <;> rcases hb with rfl | rfl <;> decide
def bnd {α γ : Type} (x : α) (f : α → γ) : γ := f x
def bnd2 {α β γ : Type} (x : α × β) (f : α → β → γ) : γ := f x.1 x.2
def bnd3 {α β δ γ : Type} (x : α × β × δ) (f : α → β → δ → γ) : γ := f x.1 x.2.1 x.2.2
def bnd4 {α β δ ε γ : Type} (x : α × β × δ × ε) (f : α → β → δ → ε → γ) : γ := f x.1 x.2.1 x.2.2.1 x.2.2.2
def bnd5 {α β δ ε ζ γ : Type} (x : α × β × δ × ε × ζ) (f : α → β → δ → ε → ζ → γ) : γ := f x.1 x.2.1 x.2.2.1 x.2.2.2.1 x.2.2.2.2
theorem bnd_at {α γ : Type} {x : α} {f : α → γ} {V : γ} (h : bnd x f = V) {a : α} (e : a = x) : f a = V := by rw [e]; exact h
theorem bnd_ex {α γ : Type} {x : α} {f : α → γ} {V : γ} (h : bnd x f = V) : ∃ a, x = a ∧ f a = V := ⟨x, rfl, h⟩
theorem bnd2_ex {α β γ : Type} {x : α × β} {f : α → β → γ} {V : γ} (h : bnd2 x f = V) : ∃ a b, x = (a, b) ∧ f a b = V := ⟨x.1, x.2, rfl, h⟩
theorem bnd3_ex {α β δ γ : Type} {x : α × β × δ} {f : α → β → δ → γ} {V : γ} (h : bnd3 x f = V) : ∃ a b d, x = (a, b, d) ∧ f a b d = V := ⟨x.1, x.2.1, x.2.2, rfl, h⟩
theorem bnd4_ex {α β δ ε γ : Type} {x : α × β × δ × ε} {f : α → β → δ → ε → γ} {V : γ} (h : bnd4 x f = V) : ∃ a b d e, x = (a, b, d, e) ∧ f a b d e = V := ⟨x.1, x.2.1, x.2.2.1, x.2.2.2, rfl, h⟩
theorem bnd5_ex {α β δ ε ζ γ : Type} {x : α × β × δ × ε × ζ} {f : α → β → δ → ε → ζ → γ} {V : γ} (h : bnd5 x f = V) : ∃ a b d e z, x = (a, b, d, e, z) ∧ f a b d e z = V := ⟨x.1, x.2.1, x.2.2.1, x.2.2.2.1, x.2.2.2.2, rfl, h⟩
theorem bnd2_at {α β γ : Type} {x : α × β} {f : α → β → γ} {V : γ} (h : bnd2 x f = V) {a : α} {b : β} (e : x = (a, b)) : f a b = V := by subst e; exact h
theorem ite_t {α : Type} {c : Prop} [Decidable c] {a b V : α} (h : (if c then a else b) = V) (hc : c) : a = V := by rw [if_pos hc] at h; exact h
theorem ite_f {α : Type} {c : Prop} [Decidable c] {a b V : α} (h : (if c then a else b) = V) (hc : ¬ c) : b = V := by rw [if_neg hc] at h; exact h
theorem lt_I {x y : Int32} (h : x < y) : x.toInt < y.toInt := Int32.lt_iff_toInt_lt.mp h
theorem le_I {x y : Int32} (h : x ≤ y) : x.toInt ≤ y.toInt := Int32.le_iff_toInt_le.mp h
theorem nlt_I {x y : Int32} (h : ¬ x < y) : y.toInt ≤ x.toInt := by rw [Int32.lt_iff_toInt_lt] at h; omega
theorem nle_I {x y : Int32} (h : ¬ x ≤ y) : y.toInt < x.toInt := by rw [Int32.le_iff_toInt_le] at h; omega
theorem ne_I {x y : Int32} (h : ¬ x = y) : x.toInt ≠ y.toInt := fun q => h (Int32.toInt_inj.mp q)
theorem inc_I {i : Int32} {N : Int} (h : i.toInt < N) (hN : N ≤ 2147483647) : (i + 1).toInt = i.toInt + 1 := by
  have : -2147483648 ≤ i.toInt := Int32.le_toInt i
  rw [Int32.toInt_add]
  show (i.toInt + 1).bmod _ = _
  rw [Int.bmod_eq_of_le] <;> omega
theorem dec_I {i : Int32} (h : -2147483648 < i.toInt) : (i - 1).toInt = i.toInt - 1 := by
  have : i.toInt ≤ 2147483647 := Int32.toInt_le i
  rw [Int32.toInt_sub]
  show (i.toInt - 1).bmod _ = _
  rw [Int.bmod_eq_of_le] <;> omega
theorem mu_I {i : Int32} {N : Int} {n : Nat} (hf : (N - i.toInt).toNat < n + 1) (h : i.toInt < N) (hN : N ≤ 2147483647) : (N - (i + 1).toInt).toNat < n := by
  rw [inc_I h hN]; omega
theorem vin_I {x : Int32} {n : Nat} (h0 : 0 ≤ x.toInt) (h1 : x.toInt < n) : vp_in x n := vp_in_iff.mpr ⟨h0, h1⟩
