-- @needs 23_ops 12_dec 13_dec 14_dec 15_dec
/-! making cells: the array classes are known ahead -/
theorem cA_I {s : State} {D : va_G} {k : Nat → ClassId} {cA : ClassId} (hK : va_K D vwCl (tysC k) s) (h : va_RA s cA .int) : cA = k 0 := by
  have h1 := va_nm_int (hK.2 0 (k 0, .int) rfl).2
  have h2 := va_nm_int h
  exact Option.some.inj (h2.symm.trans h1)
theorem cA_L {s : State} {D : va_G} {k : Nat → ClassId} {cA : ClassId} (hK : va_K D vwCl (tysC k) s) (h : va_RA s cA .long) : cA = k 3 := by
  have h1 := va_nm_long (hK.2 3 (k 3, .long) rfl).2
  have h2 := va_nm_long h
  exact Option.some.inj (h2.symm.trans h1)
theorem cA_o {s : State} {D : va_G} {k : Nat → ClassId} {cA : ClassId} {C : String} (i : Nat) (hi : (tysC k)[i]? = some (k i, .object C)) (hK : va_K D vwCl (tysC k) s) (h : va_RA s cA (.object C)) : cA = k i := by
  obtain ⟨kA, comp, -, -, -, h1⟩ := (hK.2 i _ hi).2
  obtain ⟨kA', comp', -, -, -, h2⟩ := h
  exact Option.some.inj (h2.symm.trans h1)
section CT
variable {p : Program} {l : Launch} {e : Env} {R : Room} {s : State} {m : MethodId} {args : Array Value} {below : List Frame} {meth : Method} {c : Code} {H : Heap} {locs : List Loc} {cells slots : Nat} {Q : State → Prop}
variable {cc : ByteArray} {pc : Nat} {ls : Array Slot} {rest : List Value} {D : va_G} {A : Nat → Prop} {H0 : Heap} {k : Nat → ClassId} {ws : va_W} {own : String} {index : Nat}
theorem n_I (hx : p.tables.exec = Jvm.exec) (hb : c.code = cc) (hG : ∀ w ∈ wsL_law, w.before args s = true) (hK : va_K D vwCl (tysC k) s) (hP : va_P D vwCl ws H) (hD : va_D A ws) (hS : va_S A H0 H locs) (hA : ∀ q, H0.size ≤ q → A q) {n : Int32} (N : Nat) (hn : ¬ n < 0) (hN : n.toNatClampNeg = N) (hby : N * 4 ≤ 536870912) (C2 S2 : Nat) (h1 : cells + 1 ≤ C2) (h2 : slots + N ≤ S2) (h3 : C2 ≤ R.cells) (h4 : S2 ≤ R.slots) (hdg : decode cc pc = .ok (.newarray .int, 2))
    (kk : ∀ (q : Nat) (H1 : Heap), va_P D vwCl (ws ++ [(q, .inl (k 0, N, .inl fun _ => 0))]) H1 → va_D A (ws ++ [(q, .inl (k 0, N, .inl fun _ => 0))]) → va_S A H0 H1 locs → W p l e R s m args below meth c H1 locs C2 S2 Q (F0 m (pc + 2) ls (.ref q :: rest))) : W p l e R s m args below meth c H locs cells slots Q (F0 m pc ls (.int n :: rest)) := by
  refine va_newa (atype := .int) (ty := .int) (a0 := (N, .inl fun _ => 0)) hx hb (hG _ gw_2_16) rfl hK hP hD hS hA (fun _ => rfl) hn hN hby (Nat.le_trans h1 h3) (Nat.le_trans h2 h4) hdg (fun q cA H1 hK1 hP1 hD1 hS1 => ?_)
  obtain rfl := cA_I hK (hK1.2 4 (cA, .int) rfl).2
  exact W.widen h1 h2 (kk q H1 hP1 hD1 hS1)
theorem n_L (hx : p.tables.exec = Jvm.exec) (hb : c.code = cc) (hG : ∀ w ∈ wsL_law, w.before args s = true) (hK : va_K D vwCl (tysC k) s) (hP : va_P D vwCl ws H) (hD : va_D A ws) (hS : va_S A H0 H locs) (hA : ∀ q, H0.size ≤ q → A q) {n : Int32} (N : Nat) (hn : ¬ n < 0) (hN : n.toNatClampNeg = N) (hby : N * 8 ≤ 536870912) (C2 S2 : Nat) (h1 : cells + 1 ≤ C2) (h2 : slots + N ≤ S2) (h3 : C2 ≤ R.cells) (h4 : S2 ≤ R.slots) (hdg : decode cc pc = .ok (.newarray .long, 2))
    (kk : ∀ (q : Nat) (H1 : Heap), va_P D vwCl (ws ++ [(q, .inl (k 3, N, .inr (.inl fun _ => 0)))]) H1 → va_D A (ws ++ [(q, .inl (k 3, N, .inr (.inl fun _ => 0)))]) → va_S A H0 H1 locs → W p l e R s m args below meth c H1 locs C2 S2 Q (F0 m (pc + 2) ls (.ref q :: rest))) : W p l e R s m args below meth c H locs cells slots Q (F0 m pc ls (.int n :: rest)) := by
  refine va_newa (atype := .long) (ty := .long) (a0 := (N, .inr (.inl fun _ => 0))) hx hb (hG _ gw_1_6) rfl hK hP hD hS hA (fun _ => rfl) hn hN hby (Nat.le_trans h1 h3) (Nat.le_trans h2 h4) hdg (fun q cA H1 hK1 hP1 hD1 hS1 => ?_)
  obtain rfl := cA_L hK (hK1.2 4 (cA, .long) rfl).2
  exact W.widen h1 h2 (kk q H1 hP1 hD1 hS1)
theorem n_Q {C : String} (i : Nat) (hi : (tysC k)[i]? = some (k i, .object C)) (hx : p.tables.exec = Jvm.exec) (hb : c.code = cc) (hG : ∀ w ∈ wsL_law, w.before args s = true) (hown : s.vm.findClass own = some m.cls) (hcl : Cond.classLink own index C ∈ wsL_law) (hO : va_AO C s) (hK : va_K D vwCl (tysC k) s) (hP : va_P D vwCl ws H) (hD : va_D A ws) (hS : va_S A H0 H locs) (hA : ∀ q, H0.size ≤ q → A q) {n : Int32} (N : Nat) (hn : ¬ n < 0) (hN : n.toNatClampNeg = N) (hby : N * 4 ≤ 536870912) (C2 S2 : Nat) (h1 : cells + 1 ≤ C2) (h2 : slots + N ≤ S2) (h3 : C2 ≤ R.cells) (h4 : S2 ≤ R.slots) (hdg : decode cc pc = .ok (.anewarray index, 3))
    (kk : ∀ (q : Nat) (H1 : Heap), va_P D vwCl (ws ++ [(q, .inl (k i, N, .inr (.inr (.inr (.inr fun _ => none)))))]) H1 → va_D A (ws ++ [(q, .inl (k i, N, .inr (.inr (.inr (.inr fun _ => none)))))]) → va_S A H0 H1 locs → W p l e R s m args below meth c H1 locs C2 S2 Q (F0 m (pc + 3) ls (.ref q :: rest))) : W p l e R s m args below meth c H locs cells slots Q (F0 m pc ls (.int n :: rest)) := by
  refine va_newq hx hb hown (hG _ hcl) hO hK hP hD hS hA hn hN hby (Nat.le_trans h1 h3) (Nat.le_trans h2 h4) hdg (fun q cA H1 hK1 hP1 hD1 hS1 => ?_)
  obtain rfl := cA_o i hi hK (hK1.2 4 (cA, .object C) rfl).2
  exact W.widen h1 h2 (kk q H1 hP1 hD1 hS1)
theorem n_O {C : String} {T : u_T} {N ci : Nat} (hx : p.tables.exec = Jvm.exec) (hb : c.code = cc) (hG : ∀ w ∈ wsL_law, w.before args s = true) (hin : ∀ w ∈ u_ws C T N, w ∈ wsL_law) (ty : Nat → FieldType) (hty : ∀ j, j < N → parseFieldDescriptor (T j).2.2.1 = some (ty j)) (hown : s.vm.findClass own = some m.cls) (hcl : Cond.classLink own index C ∈ wsL_law) (hin2 : Cond.instantiable C N ∈ wsL_law) (hini : Cond.initialized C ∈ wsL_law) (hK : va_K D vwCl (tysC k) s) (hP : va_P D vwCl ws H) (hD : va_D A ws) (hS : va_S A H0 H locs) (hA : ∀ q, H0.size ≤ q → A q) (hc : vwCl[ci]? = some (C, T, N)) {fs : List Value} (hfs : ∀ j, j < N → defaultValue (ty j) = vp_V fs j) (C2 S2 : Nat) (h1 : cells + 1 ≤ C2) (h2 : slots + N ≤ S2) (h3 : C2 ≤ R.cells) (h4 : S2 ≤ R.slots) (hdg : decode cc pc = .ok (.new index, 3))
    (kk : ∀ (q : Nat) (H1 : Heap), va_P D vwCl (ws ++ [(q, .inr (ci, fs))]) H1 → va_D A (ws ++ [(q, .inr (ci, fs))]) → va_S A H0 H1 locs → W p l e R s m args below meth c H1 locs C2 S2 Q (F0 m (pc + 3) ls (.ref q :: rest))) : W p l e R s m args below meth c H locs cells slots Q (F0 m pc ls rest) :=
  va_new hx hb hG hin ty hty hown (hG _ hcl) (hG _ hin2) (hG _ hini) hK hP hD hS hA hc hfs (Nat.le_trans h1 h3) (Nat.le_trans h2 h4) hdg (fun q H1 hP1 hD1 hS1 => W.widen h1 h2 (kk q H1 hP1 hD1 hS1))
end CT
/-- the links between nest mates -/
def NW (U : State) : Prop := (va_Nw (.methodLinkNest RX0 23 yX2_init RX6) U ∧ va_Nw (.methodLinkNest RX3 17 yX1_init RX6) U ∧ va_Nw (.methodLinkNest RX1 11 yX4_init RX6) U ∧ va_Nw (.methodLinkNest RX6 41 yX5_init RX6) U ∧ va_Nw (.methodLinkNest RX5 17 yX4_init RX6) U) ∧ va_Nw (.fieldLinkNest RX0 38 RX6 "LEAST_SETTING" "[I" RX6) U ∧ va_Nw (.fieldLinkNest RX0 41 RX6 "MOST_SETTING" "[I" RX6) U
theorem NW.same {u U : State} (h : u.vm = U.vm) (n : NW u) : NW U := ⟨⟨n.1.1.same rfl h, n.1.2.1.same rfl h, n.1.2.2.1.same rfl h, n.1.2.2.2.1.same rfl h, n.1.2.2.2.2.same rfl h⟩, n.2.1.same rfl h, n.2.2.same rfl h⟩
theorem NW.warm {s U : State} (h : s.WarmedH U.vm) (n : NW s) : NW U := ⟨⟨va_Nw.warmM h n.1.1, va_Nw.warmM h n.1.2.1, va_Nw.warmM h n.1.2.2.1, va_Nw.warmM h n.1.2.2.2.1, va_Nw.warmM h n.1.2.2.2.2⟩, va_Nw.warmF h n.2.1, va_Nw.warmF h n.2.2⟩
def EN (U : State) : Prop := va_AO "WindBay$Boat" U ∧ va_AO "WindBay$Shelf" U ∧ NW U
theorem EN.warm {s U : State} (h : s.WarmedH U.vm) (n : EN s) : EN U := ⟨va_AO.moved h.alike n.1, va_AO.moved h.alike n.2.1, n.2.2.warm h⟩
theorem EN.calling {U : State} {g mk} {a : Array Value} (n : EN U) : EN (U.calling g mk a) := ⟨va_AO.moved (u := U) (U := U.calling g mk a) (Vm.Alike.refl U.vm) n.1, va_AO.moved (u := U) (U := U.calling g mk a) (Vm.Alike.refl U.vm) n.2.1, n.2.2.same rfl⟩
/-- a constructor's world -/
def GN (D : va_G) (k : Nat → ClassId) (ws : va_W) : State → Prop := fun U => va_P D vwCl ws U.heap ∧ va_K D vwCl (tysC k) U ∧ EN U
theorem GN_blind {D : va_G} {k : Nat → ClassId} {ws : va_W} {sz : Nat} (av : List Value) : FrameBlind (va_Pc av (fun U => U.heap.size = sz ∧ GN D k ws U)) := by
  intro a U g mk q
  obtain ⟨q0, qz, qP, qK, qE⟩ := q
  exact ⟨q0, qz, qP, va_K.moved (u := U) (U := U.calling g mk a) (Vm.Alike.refl U.vm) qK, qE.calling⟩
/-- what a constructor leaves: cells in its own part -/
def BN (D : va_G) (A : Nat → Prop) (ws : va_W) (t : State) : Prop := va_P D vwCl ws t.heap ∧ va_D A ws
section CT2
variable {p : Program} {l : Launch} {e : Env} {R : Room} {s : State} {m : MethodId} {args : Array Value} {below : List Frame} {meth : Method} {c : Code} {H : Heap} {locs : List Loc} {cells slots : Nat} {Q : State → Prop}
variable {cc : ByteArray} {pc : Nat} {ls : Array Slot} {rest : List Value} {D : va_G} {A : Nat → Prop} {H0 : Heap} {k : Nat → ClassId} {ws : va_W} {own : String} {index : Nat}
theorem met_n {S : Type} {y : MethodName} {cA : ByteArray} {maxL h0 sz mc ms : Nat} {rm : Room} {ws : va_W} {B : S → (Nat → Prop) → State → Prop} (hy : plainFor y = true) (hle : (lg_sl [Value.ref h0]).length ≤ maxL)
    (walk : ∀ (p : Program) (e : Env) (s : State) (m : MethodId) (args : Array Value) (below : List Frame) (meth : Method) (c : Code) (Q : State → Prop) (ls : Array Slot) (A : Nat → Prop), p.tables.exec = Jvm.exec → c.code = cA → c.maxLocals = maxL → (∀ w ∈ wsL_law, w.before args s = true) → s.vm.findClass y.cls = some m.cls → va_K D vwCl (tysC k) s → EN s → (y.name = "<init>" → meth.name = "<init>") →
      (∀ (H : Heap) (locs : List Loc) (ls : Array Slot) (pc : Nat) (u : S), (∀ t : State, t.heap = H → B u A t) → va_S A s.heap H locs → decode cA pc = .ok (.return_, 1) → W p l e rm s m args below meth c H locs mc ms Q (F0 m pc ls [])) →
      va_P D vwCl ws s.heap → va_D A ws → (∀ q, s.heap.size ≤ q → A q) → va_S A s.heap s.heap [] → lv_has ls maxL [(0, .ref h0)] → W p l e rm s m args below meth c s.heap [] 0 0 Q (F0 m 0 ls [])) (hD0 : va_D (fun _ => True) ws) :
    Met l y (Cond.code y cA maxL none :: wsL_law) rm (va_Pc [.ref h0] (fun U => U.heap.size = sz ∧ GN D k ws U)) (va_Qv (fun _ : S => True) (fun u t => B u (va_A ws sz) t) (va_A ws sz)) mc ms (va_A ws sz) := by
  refine va_MetF (cc := cA) (maxL := maxL) (ret := none) hy rfl ?_
  intro p e s m args below meth c s₁ B1 hml hv
  obtain ⟨rfl, hsz, hP, hK, hE⟩ := hv
  subst hsz
  have hr := B1.returns
  have hts := atoms_spec (ws := Cond.code y cA maxL none :: wsL_law) B1.pre
  have hlocks := B1.notSynchronized
  rw [lg_entry_eq]
  exact walk p e s m _ below meth c _ _ (va_A ws s.heap.size) B1.exec B1.bytes hml (fun w h => hts w (List.mem_cons_of_mem _ h)) (findClass_of_methodNamed B1.named) hK hE (fun h => (name_of_methodNamed B1.named B1.method).1.trans h) (fun H locs ls pc u hB hS1 hdg => W.vret B1.exec B1.bytes hr (fun t ht hW => ⟨⟨u, rfl, trivial, hB t ht⟩, hS1.F ht⟩) hS1.2.2 hdg) hP hD0.self (fun q h => Or.inr h) va_S.rf (lv_entry [.ref h0] hle)
end CT2
section CT3
variable {p : Program} {l : Launch} {e : Env} {R : Room} {s : State} {m : MethodId} {args : Array Value} {below : List Frame} {meth : Method} {c : Code} {H : Heap} {locs : List Loc} {cells slots : Nat} {Q : State → Prop}
variable {cc : ByteArray} {pc : Nat} {ls : Array Slot} {D : va_G} {A : Nat → Prop} {H0 : Heap} {k : Nat → ClassId} {ws wc : va_W} {own : String} {index : Nat}
theorem call_n {S : Type} {B : S → (Nat → Prop) → State → Prop} {y : MethodName} {bytes : ByteArray} {maxL nL mc ms b : Nat} {rm : Room} {st0 : List Value} (rest : List Value) (C2 S2 : Nat) (hx : p.tables.exec = Jvm.exec) (hb : c.code = cc) (hml : c.maxLocals = nL) (hG : ∀ w ∈ wsL_law, w.before args s = true) (hown : s.vm.findClass own = some m.cls) (hK : va_K D vwCl (tysC k) s) (hE : EN s)
    (hM : Met l y (Cond.code y bytes maxL none :: wsL_law) rm (va_Pc [.ref b] (fun U => U.heap.size = H.size ∧ GN D k wc U)) (va_Qv (fun _ : S => True) (fun u t => B u (va_A wc H.size) t) (va_A wc H.size)) mc ms (va_A wc H.size))
    (h1 : Cond.methodLink own index y ∈ wsL_law) (h2 : Cond.instanceMethod y ∈ wsL_law ∧ Cond.initialized y.cls ∈ wsL_law ∧ Cond.code y bytes maxL none ∈ wsL_law) (hy : y.name = "<init>") (hd : y.cls ≠ "java/lang/invoke/MethodHandle" ∧ y.cls ≠ "java/lang/invoke/VarHandle" ∧ (parseMethodDescriptor y.desc).map (fun d => d.parameters.length) = some 0)
    (hrc : rm.cells = mc) (hrs : rm.slots = ms) (hR : rm.frames + 1 ≤ R.frames ∧ 8 + (maxL + 11) + rm.locals ≤ R.locals) (h3 : cells + mc ≤ C2) (h4 : slots + ms ≤ S2) (h5 : C2 ≤ R.cells) (h6 : S2 ≤ R.slots) (hPc : va_P D vwCl wc H) (hD : va_D A ws) (hS : va_S A H0 H locs) (hA : ∀ q, H0.size ≤ q → A q) (isC : List Nat) (hC : isC.map (fun i => ws[i]?) = wc.map some)
    (hl : ls.size = nL) (hst : st0 = .ref b :: rest) (hrm : (rest.map fun v => v.category).sum ≤ 8) (hdg : decode cc pc = .ok (.invokespecial index, 3))
    (kk : ∀ (u : S) (t : State) (H1 : Heap) (locs1 : List Loc), t.heap = H1 → B u (va_A wc H.size) t → (∀ q : Nat, q < H.size → ¬ va_A wc H.size q → H1[q]? = H[q]?) → va_S A H0 H1 locs1 → W p l e R s m args below meth c H1 locs1 C2 S2 Q (F0 m (pc + 3) ls rest)) : W p l e R s m args below meth c H locs cells slots Q (F0 m pc ls st0) := by
  have hF := va_free hD hS hA isC hC
  refine va_callv (va_runI (As := []) (rest := rest) ⟨hx, hb, hml, hown, hG⟩ hM (cwI 0 hG (good_code h2.2.2) rfl hrc hrs (hG _ h2.2.1) (hG _ h1) (hG _ h2.1) hy hd hR) ⟨GN_blind _, fun U hU hW => ⟨rfl, by rw [hU], by rw [hU]; exact hPc, va_K.moved hW.alike hK, hE.warm hW⟩⟩ rfl rfl hl hst (lv_room hrm) hdg ⟨Nat.le_trans h3 h5, Nat.le_trans h4 h6⟩) hS (fun q _ h => hF q h) hF (fun u t H1 locs1 ht hvm _ hB hz1 hk1 hS1 => ?_)
  exact W.widen h3 h4 (kk u t H1 locs1 ht hB hk1 hS1)
theorem call_nN {S : Type} {B : S → (Nat → Prop) → State → Prop} {y : MethodName} {bytes : ByteArray} {maxL nL mc ms b : Nat} {rm : Room} {st0 : List Value} (rest : List Value) (C2 S2 : Nat) (hx : p.tables.exec = Jvm.exec) (hb : c.code = cc) (hml : c.maxLocals = nL) (hG : ∀ w ∈ wsL_law, w.before args s = true) (hown : s.vm.findClass own = some m.cls) (hK : va_K D vwCl (tysC k) s) (hE : EN s)
    (hM : Met l y (Cond.code y bytes maxL none :: wsL_law) rm (va_Pc [.ref b] (fun U => U.heap.size = H.size ∧ GN D k wc U)) (va_Qv (fun _ : S => True) (fun u t => B u (va_A wc H.size) t) (va_A wc H.size)) mc ms (va_A wc H.size))
    {host : String} (h1 : va_Nw (.methodLinkNest own index y host) s) (h2 : Cond.instanceMethod y ∈ wsL_law ∧ Cond.initialized y.cls ∈ wsL_law ∧ Cond.code y bytes maxL none ∈ wsL_law) (hy : y.name = "<init>") (hd : y.cls ≠ "java/lang/invoke/MethodHandle" ∧ y.cls ≠ "java/lang/invoke/VarHandle" ∧ (parseMethodDescriptor y.desc).map (fun d => d.parameters.length) = some 0)
    (hrc : rm.cells = mc) (hrs : rm.slots = ms) (hR : rm.frames + 1 ≤ R.frames ∧ 8 + (maxL + 11) + rm.locals ≤ R.locals) (h3 : cells + mc ≤ C2) (h4 : slots + ms ≤ S2) (h5 : C2 ≤ R.cells) (h6 : S2 ≤ R.slots) (hPc : va_P D vwCl wc H) (hD : va_D A ws) (hS : va_S A H0 H locs) (hA : ∀ q, H0.size ≤ q → A q) (isC : List Nat) (hC : isC.map (fun i => ws[i]?) = wc.map some)
    (hl : ls.size = nL) (hst : st0 = .ref b :: rest) (hrm : (rest.map fun v => v.category).sum ≤ 8) (hdg : decode cc pc = .ok (.invokespecial index, 3))
    (kk : ∀ (u : S) (t : State) (H1 : Heap) (locs1 : List Loc), t.heap = H1 → B u (va_A wc H.size) t → (∀ q : Nat, q < H.size → ¬ va_A wc H.size q → H1[q]? = H[q]?) → va_S A H0 H1 locs1 → W p l e R s m args below meth c H1 locs1 C2 S2 Q (F0 m (pc + 3) ls rest)) : W p l e R s m args below meth c H locs cells slots Q (F0 m pc ls st0) := by
  have hF := va_free hD hS hA isC hC
  refine va_callv (va_runIN (As := []) (rest := rest) ⟨hx, hb, hml, hown, hG⟩ hM ⟨va_cnB 0 hG (good_code h2.2.2) rfl hrc hrs h1 (hG _ h2.2.1) hd hR, hy, hG _ h2.1⟩ ⟨GN_blind _, fun U hU hW => ⟨rfl, by rw [hU], by rw [hU]; exact hPc, va_K.moved hW.alike hK, hE.warm hW⟩⟩ rfl rfl hl hst (lv_room hrm) hdg ⟨Nat.le_trans h3 h5, Nat.le_trans h4 h6⟩) hS (fun q _ h => hF q h) hF (fun u t H1 locs1 ht hvm _ hB hz1 hk1 hS1 => ?_)
  exact W.widen h3 h4 (kk u t H1 locs1 ht hB hk1 hS1)
/-- fill, over one row -/
theorem fill_walk {a N : Nat} {f : Nat → Int32} {v : Int32} (hN : N < 2 ^ 31) (hx : p.tables.exec = Jvm.exec) (hb : c.code = cJ7_fill_53178) (hK : va_K D vwCl (tysC k) s)
    (hret : ∀ (H : Heap) (locs : List Loc) (ls : Array Slot), va_P D vwCl [(a, .inl (k 0, N, .inl (fun q => if q < N then v else f q)))] H → va_D A [(a, .inl (k 0, N, .inl (fun q => if q < N then v else f q)))] → va_S A H0 H locs → W p l e R s m args below meth c H locs 0 0 Q (F0 m 20 ls []))
    (hP : va_P D vwCl [(a, .inl (k 0, N, .inl f))] H) (hD : va_D A [(a, .inl (k 0, N, .inl f))]) (hS : va_S A H0 H locs) (hl : lv_has ls 4 [(0, .ref a), (1, .int v)]) : W p l e R s m args below meth c H locs 0 0 Q (F0 m 0 ls []) := by
  have lp : ∀ (n j : Nat), j + n = N + 1 → j ≤ N → ∀ (H : Heap) (locs : List Loc) (ls : Array Slot), va_P D vwCl [(a, .inl (k 0, N, .inl (fun q => if q < j then v else f q)))] H → va_D A [(a, .inl (k 0, N, .inl (fun q => if q < j then v else f q)))] → va_S A H0 H locs → lv_has ls 4 [(0, .ref a), (1, .int v), (2, .int (nI j)), (3, .int (nI N))] → W p l e R s m args below meth c H locs 0 0 Q (F0 m 5 ls []) := by
    intro n
    induction n with
    | zero => intro j h1 h2; omega
    | succ n ih =>
      intro j h1 h2 H locs ls hP hD hS hl
      refine lv_iload_n hx hb dJ7_fill_53178_5 rfl (lv_at hl 2 rfl) ?_
      refine lv_iload_n hx hb dJ7_fill_53178_6 rfl (lv_at hl 3 rfl) ?_
      refine lv_icmp_ge (tgt := 20) hx hb dJ7_fill_53178_7 (by decide) (fun hc => ?_) (fun hc => ?_)
      · have hj : j = N := by
          by_cases q : j < N
          · exact absurd hc (nI_ge q hN)
          · omega
        subst hj
        exact hret _ _ _ hP hD hS
      · have hj : j < N := by
          by_cases q : j < N
          · exact q
          · exact absurd (nI_le (by omega) (by omega)) hc
        refine lv_aload_n hx hb dJ7_fill_53178_10 rfl (lv_at hl 0 rfl) ?_
        refine lv_iload_n hx hb dJ7_fill_53178_11 rfl (lv_at hl 2 rfl) ?_
        refine lv_iload_n hx hb dJ7_fill_53178_12 rfl (lv_at hl 1 rfl) ?_
        refine va_iast hx hb hK hP hD hS 0 0 rfl rfl (vp_in_nI hj hN) dJ7_fill_53178_13 (fun H locs hP hD hS => ?_)
        have e : upd (fun q => if q < j then v else f q) (nI j).toNatClampNeg v = fun q => if q < j + 1 then v else f q := by
          rw [nI_clamp (by omega)]
          funext q
          by_cases h : q = j
          · subst h; simp [upd]
          · by_cases h3 : q < j
            · simp [upd, h, h3, show q < j + 1 by omega]
            · simp [upd, h, h3, show ¬ q < j + 1 by omega]
        rw [e] at hP hD
        have hP : va_P D vwCl [(a, .inl (k 0, N, .inl (fun q => if q < j + 1 then v else f q)))] H := hP
        have hD : va_D A [(a, .inl (k 0, N, .inl (fun q => if q < j + 1 then v else f q)))] := hD
        refine lv_iinc (v := nI (j + 1)) (lv' := [(2, .int (nI (j + 1))), (0, .ref a), (1, .int v), (3, .int (nI N))]) hx hb dJ7_fill_53178_14 hl (k := 2) rfl (nI_succ j).symm (by decide) rfl (fun ls hl => ?_)
        refine lv_goto (tgt := 5) hx hb dJ7_fill_53178_17 (by decide) ?_
        exact ih (j + 1) (by omega) hj _ _ _ hP hD hS (lv_sub hl [1, 2, 0, 3] rfl)
  refine lv_iconst (v := 0) hx hb dJ7_fill_53178_0 (by decide) ?_
  refine lv_istore_n (lv' := [(2, .int 0), (0, .ref a), (1, .int v)]) hx hb dJ7_fill_53178_1 rfl hl (by decide) rfl (fun ls hl => ?_)
  refine lv_aload_n hx hb dJ7_fill_53178_2 rfl (lv_at hl 1 rfl) ?_
  refine va_alen (v := nI N) (ty := .int) hx hb hK hP 0 0 rfl rfl rfl dJ7_fill_53178_3 ?_
  refine lv_istore_n (lv' := [(3, .int (nI N)), (2, .int 0), (0, .ref a), (1, .int v)]) hx hb dJ7_fill_53178_4 rfl hl (by decide) rfl (fun ls hl => ?_)
  have e0 : (fun q => if q < 0 then v else f q) = f := by funext q; simp
  exact lp (N + 1) 0 (by omega) (Nat.zero_le _) _ _ _ (by rw [e0]; exact hP) (by rw [e0]; exact hD) hS (lv_sub hl [2, 3, 1, 0] rfl)
end CT3
theorem D1 {A : Nat → Prop} {a : Nat} {e : va_E} (h : A a) : va_D A [(a, e)] := ⟨fun i j p q h1 h2 _ => by
    have a1 := (List.getElem?_eq_some_iff.mp h1).1
    have a2 := (List.getElem?_eq_some_iff.mp h2).1
    simp at a1 a2
    omega, fun k q hk => by
    have a1 := (List.getElem?_eq_some_iff.mp hk).1
    simp at a1
    subst a1
    cases hk
    exact h⟩
theorem c_fill {l : Launch} {D : va_G} {k : Nat → ClassId} {a sz N : Nat} {f : Nat → Int32} {v : Int32} (hN : N < 2 ^ 31) : Met l yJ7_fill_53178 (Cond.code yJ7_fill_53178 cJ7_fill_53178 4 none :: wsL_law) { frames := 0, cells := 0, slots := 0, locals := 0 } (va_Pc [.ref a, .int v] (fun U => U.heap.size = sz ∧ GN D k [(a, .inl (k 0, N, .inl f))] U)) (va_Qv (fun _ : Unit => True) (fun _ t => BN D (va_A [(a, .inl (k 0, N, .inl f))] sz) [(a, .inl (k 0, N, .inl (fun q => if q < N then v else f q)))] t) (va_A [(a, .inl (k 0, N, .inl f))] sz)) 0 0 (va_A [(a, .inl (k 0, N, .inl f))] sz) := by
  refine va_MetF (cc := cJ7_fill_53178) (maxL := 4) (ret := none) (plainFor_of_name (by decide)) rfl ?_
  intro p e s m args below meth c s₁ B1 hml hv
  obtain ⟨rfl, hsz, hP, hK, hE⟩ := hv
  subst hsz
  have hr := B1.returns
  have hlocks := B1.notSynchronized
  rw [lg_entry_eq]
  exact fill_walk hN B1.exec B1.bytes hK (fun H locs ls hP hD hS => W.vret B1.exec B1.bytes hr (fun t ht hW => ⟨⟨(), rfl, trivial, by rw [ht]; exact hP, hD⟩, hS.F ht⟩) hS.2.2 dJ7_fill_53178_20) hP (D1 (Or.inl ⟨0, _, rfl⟩)) va_S.rf (lv_entry ([.ref a, .int v]) (Nat.le_of_ble_eq_true rfl))
section CT4
variable {p : Program} {l : Launch} {e : Env} {R : Room} {s : State} {m : MethodId} {args : Array Value} {below : List Frame} {meth : Method} {c : Code} {H : Heap} {locs : List Loc} {cells slots : Nat} {Q : State → Prop}
variable {cc : ByteArray} {pc : Nat} {ls : Array Slot} {rest : List Value} {D : va_G} {A : Nat → Prop} {H0 : Heap} {k : Nat → ClassId} {ws : va_W} {own : String} {index : Nat}
theorem call_f {a N nL : Nat} {f : Nat → Int32} {v : Int32} (hN : N < 2 ^ 31) (hx : p.tables.exec = Jvm.exec) (hb : c.code = cc) (hml : c.maxLocals = nL) (hG : ∀ w ∈ wsL_law, w.before args s = true) (hown : s.vm.findClass own = some m.cls) (hK : va_K D vwCl (tysC k) s) (hE : EN s)
    (h1 : Cond.methodLink own index yJ7_fill_53178 ∈ wsL_law) (hPc : va_P D vwCl [(a, .inl (k 0, N, .inl f))] H) (hD : va_D A ws) (hS : va_S A H0 H locs) (hA : ∀ q, H0.size ≤ q → A q) (isC : List Nat) (hC : isC.map (fun i => ws[i]?) = [some (a, .inl (k 0, N, .inl f))]) (hl : ls.size = nL) (hf : 1 ≤ R.frames) (hlo : 23 ≤ R.locals) (hcR : cells ≤ R.cells) (hsR : slots ≤ R.slots) (hdg : decode cc pc = .ok (.invokestatic index, 3))
    (kk : ∀ (t : State) (H1 : Heap) (locs1 : List Loc), t.heap = H1 → BN D (va_A [(a, .inl (k 0, N, .inl f))] H.size) [(a, .inl (k 0, N, .inl (fun q => if q < N then v else f q)))] t → (∀ q : Nat, q < H.size → ¬ va_A [(a, .inl (k 0, N, .inl f))] H.size q → H1[q]? = H[q]?) → va_S A H0 H1 locs1 → W p l e R s m args below meth c H1 locs1 cells slots Q (F0 m (pc + 3) ls [])) : W p l e R s m args below meth c H locs cells slots Q (F0 m pc ls [.int v, .ref a]) := by
  have hF := va_free (wc := [(a, .inl (k 0, N, .inl f))]) hD hS hA isC hC
  refine va_callv (va_runS (As := [.ref a, .int v]) (rest := []) ⟨hx, hb, hml, hown, hG⟩ (c_fill hN) (va_cwS 2 hG (good_S h1 ⟨gw_3_1, gw_3_2, gw_3_3⟩) rfl rfl rfl (by decide +kernel) ⟨hf, hlo⟩) ⟨GN_blind _, fun U hU hW => ⟨rfl, by rw [hU], by rw [hU]; exact hPc, va_K.moved hW.alike hK, hE.warm hW⟩⟩ rfl rfl hl rfl (lv_room (Nat.le_of_ble_eq_true rfl)) hdg ⟨hcR, hsR⟩) hS (fun q _ h => hF q h) hF (fun u t H1 locs1 ht hvm _ hB hz1 hk1 hS1 => ?_)
  exact kk t H1 locs1 ht hB hk1 hS1
end CT4
theorem va_at_refs {D : va_G} {cA : ClassId} {n a : Nat} {f g : Nat → Option Nat} {H : Heap} (h : va_at D vwCl (a, .inl (cA, n, .inr (.inr (.inr (.inr f))))) H) (hfg : ∀ j, j < n → f j = g j) : va_at D vwCl (a, .inl (cA, n, .inr (.inr (.inr (.inr g))))) H := by
  show H[a]? = some (vp_cell cA _)
  have h : H[a]? = some (vp_cell cA _) := h
  rw [h, vp_cell_q, vp_cell_q]
  have : (fun j : Fin n => va_rf (f j)) = fun j : Fin n => va_rf (g j) := funext fun j => by rw [hfg j j.2]
  unfold arrV
  first | rw [this] | (congr 2; simp only [this]) | simp only [this]
