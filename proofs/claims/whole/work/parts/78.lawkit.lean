-- @needs 56_throws 76_cM 60_cM
/-! the law's level -/
def Ah (s : State) : Nat → Prop := fun q => s.heap.size ≤ q
section LK
variable {p : Program} {l : Launch} {e : Env} {R : Room} {s : State} {m : MethodId} {args : Array Value} {below : List Frame} {meth : Method} {c : Code} {H : Heap} {cells slots : Nat} {Q : State → Prop}
variable {cc : ByteArray} {pc : Nat} {ls : Array Slot} {rest : List Value} {D : va_G} {k : Nat → ClassId}
theorem lcall_i {n : Nat} {ad : Nat → Nat} {g : Mem → Nat → va_E} {M : Mem} {F : Int32 → Mem → Prop} {own C : String} {idx nL maxL np : Nat} {y : MethodName} {bytes : ByteArray} {rty : Option FieldType} {rm : Room} {o : Nat} {st0 : List Value} (As rest : List Value) (hx : p.tables.exec = Jvm.exec) (hb : c.code = cc) (hml : c.maxLocals = nL) (hG : ∀ w ∈ wsL_law, w.before args s = true) (hown : s.vm.findClass own = some m.cls) (hK : va_K D vwCl (tysC k) s)
    (hM : Met l y (Cond.code y bytes maxL rty :: wsL_law) rm (va_Pc (.ref (ad o) :: As) (GW n ad D k (g M))) (va_Qi F (fun u t => GW n ad D k (g u) t) (AW n ad)) 0 0 (AW n ad))
    (h1 : Cond.methodLink own idx y ∈ wsL_law) (h2 : Cond.instanceMethod y ∈ wsL_law ∧ Cond.selects C y y ∈ wsL_law ∧ Cond.initialized C ∈ wsL_law ∧ Cond.code y bytes maxL rty ∈ wsL_law) (hd : y.cls = C ∧ y.cls ≠ "java/lang/invoke/MethodHandle" ∧ y.cls ≠ "java/lang/invoke/VarHandle" ∧ (parseMethodDescriptor y.desc).map (fun d => d.parameters.length) = some np)
    (hrc : rm.cells = 0) (hrs : rm.slots = 0) (hR : rm.frames + 1 ≤ R.frames ∧ 8 + (maxL + 11) + rm.locals ≤ R.locals) (hcs : cells ≤ R.cells ∧ slots ≤ R.slots) (hrecv : ∃ cell : Cell, H[ad o]? = some cell ∧ cell.vm.isStatics = false ∧ s.vm.findClass C = some cell.cls) (hP : va_P D vwCl (wld n ad (g M)) H) (hA0 : ∀ q, AW n ad q → Ah s q) (hS : va_S (Ah s) s.heap H [])
    (hn : As.length = np) (hl : ls.size = nL) (hst : st0 = As.reverse ++ .ref (ad o) :: rest) (hrm : (rest.map fun v => v.category).sum ≤ 8) (hdg : decode cc pc = .ok (.invokevirtual idx, 3))
    (kk : ∀ (r : Int32) (u : Mem) (H1 : Heap), F r u → va_P D vwCl (wld n ad (g u)) H1 → (∀ q : Nat, q < H.size → ¬ AW n ad q → H1[q]? = H[q]?) → va_S (Ah s) s.heap H1 [] → W p l e R s m args below meth c H1 [] cells slots Q (F0 m (pc + 3) ls (.int r :: rest))) : W p l e R s m args below meth c H [] cells slots Q (F0 m pc ls st0) := by
  refine va_calli (va_runV (As := As) (rest := rest) ⟨hx, hb, hml, hown, hG⟩ hM (cwV np hG (good_V h1 h2) rfl hrc hrs hd hR) ⟨GW_blind _, hrecv, fun U hU hW => ⟨rfl, by rw [hU]; exact hP, va_K.moved hW.alike hK⟩⟩ rfl hn hl hst (lv_room hrm) hdg hcs) hS (fun q _ h => hA0 q h) hA0 (fun r u t H1 locs1 ht hvm hw hB _ hk1 hS1 => ?_)
  obtain ⟨hP1, hK1⟩ := hB
  rw [ht] at hP1
  exact va_forget (fun q hq => hS1.2.2 q hq) (kk r u H1 hw hP1 hk1 ⟨hS1.1, hS1.2.1, fun _ h => absurd h List.not_mem_nil⟩)
theorem lcall_iE {n : Nat} {ad : Nat → Nat} {g : Mem → Nat → va_E} {M : Mem} {F : Int32 → Mem → Prop} {own C : String} {idx nL maxL np : Nat} {y : MethodName} {bytes : ByteArray} {rty : Option FieldType} {rm : Room} {o : Nat} {st0 : List Value} (As rest : List Value) (hx : p.tables.exec = Jvm.exec) (hb : c.code = cc) (hml : c.maxLocals = nL) (hG : ∀ w ∈ wsL_law, w.before args s = true) (hown : s.vm.findClass own = some m.cls) (hK : va_K D vwCl (tysC k) s)
    (hE : EV (AW n ad) s H) (hM : Met l y (Cond.code y bytes maxL rty :: wsL_law) rm (va_Pc (.ref (ad o) :: As) (GE n ad D k (g M))) (va_Qi F (fun u t => GW n ad D k (g u) t) (AW n ad)) 0 0 (AW n ad))
    (h1 : Cond.methodLink own idx y ∈ wsL_law) (h2 : Cond.instanceMethod y ∈ wsL_law ∧ Cond.selects C y y ∈ wsL_law ∧ Cond.initialized C ∈ wsL_law ∧ Cond.code y bytes maxL rty ∈ wsL_law) (hd : y.cls = C ∧ y.cls ≠ "java/lang/invoke/MethodHandle" ∧ y.cls ≠ "java/lang/invoke/VarHandle" ∧ (parseMethodDescriptor y.desc).map (fun d => d.parameters.length) = some np)
    (hrc : rm.cells = 0) (hrs : rm.slots = 0) (hR : rm.frames + 1 ≤ R.frames ∧ 8 + (maxL + 11) + rm.locals ≤ R.locals) (hcs : cells ≤ R.cells ∧ slots ≤ R.slots) (hrecv : ∃ cell : Cell, H[ad o]? = some cell ∧ cell.vm.isStatics = false ∧ s.vm.findClass C = some cell.cls) (hP : va_P D vwCl (wld n ad (g M)) H) (hA0 : ∀ q, AW n ad q → Ah s q) (hS : va_S (Ah s) s.heap H [])
    (hn : As.length = np) (hl : ls.size = nL) (hst : st0 = As.reverse ++ .ref (ad o) :: rest) (hrm : (rest.map fun v => v.category).sum ≤ 8) (hdg : decode cc pc = .ok (.invokevirtual idx, 3))
    (kk : ∀ (r : Int32) (u : Mem) (H1 : Heap), F r u → va_P D vwCl (wld n ad (g u)) H1 → (∀ q : Nat, q < H.size → ¬ AW n ad q → H1[q]? = H[q]?) → va_S (Ah s) s.heap H1 [] → W p l e R s m args below meth c H1 [] cells slots Q (F0 m (pc + 3) ls (.int r :: rest))) : W p l e R s m args below meth c H [] cells slots Q (F0 m pc ls st0) := by
  refine va_calli (va_runV (As := As) (rest := rest) ⟨hx, hb, hml, hown, hG⟩ hM (cwV np hG (good_V h1 h2) rfl hrc hrs hd hR) ⟨GE_blind _, hrecv, fun U hU hW => ⟨rfl, ⟨by rw [hU]; exact hP, va_K.moved hW.alike hK⟩, by rw [hU]; exact hE.warm hW⟩⟩ rfl hn hl hst (lv_room hrm) hdg hcs) hS (fun q _ h => hA0 q h) hA0 (fun r u t H1 locs1 ht hvm hw hB _ hk1 hS1 => ?_)
  obtain ⟨hP1, hK1⟩ := hB
  rw [ht] at hP1
  exact va_forget (fun q hq => hS1.2.2 q hq) (kk r u H1 hw hP1 hk1 ⟨hS1.1, hS1.2.1, fun _ h => absurd h List.not_mem_nil⟩)
theorem lcall_l {n : Nat} {ad : Nat → Nat} {g : Mem → Nat → va_E} {M : Mem} {F : Int64 → Mem → Prop} {own C : String} {idx nL maxL np : Nat} {y : MethodName} {bytes : ByteArray} {rty : Option FieldType} {rm : Room} {o : Nat} {st0 : List Value} (As rest : List Value) (hx : p.tables.exec = Jvm.exec) (hb : c.code = cc) (hml : c.maxLocals = nL) (hG : ∀ w ∈ wsL_law, w.before args s = true) (hown : s.vm.findClass own = some m.cls) (hK : va_K D vwCl (tysC k) s)
    (hM : Met l y (Cond.code y bytes maxL rty :: wsL_law) rm (va_Pc (.ref (ad o) :: As) (GW n ad D k (g M))) (va_Ql F (fun u t => GW n ad D k (g u) t) (AW n ad)) 0 0 (AW n ad))
    (h1 : Cond.methodLink own idx y ∈ wsL_law) (h2 : Cond.instanceMethod y ∈ wsL_law ∧ Cond.selects C y y ∈ wsL_law ∧ Cond.initialized C ∈ wsL_law ∧ Cond.code y bytes maxL rty ∈ wsL_law) (hd : y.cls = C ∧ y.cls ≠ "java/lang/invoke/MethodHandle" ∧ y.cls ≠ "java/lang/invoke/VarHandle" ∧ (parseMethodDescriptor y.desc).map (fun d => d.parameters.length) = some np)
    (hrc : rm.cells = 0) (hrs : rm.slots = 0) (hR : rm.frames + 1 ≤ R.frames ∧ 8 + (maxL + 11) + rm.locals ≤ R.locals) (hcs : cells ≤ R.cells ∧ slots ≤ R.slots) (hrecv : ∃ cell : Cell, H[ad o]? = some cell ∧ cell.vm.isStatics = false ∧ s.vm.findClass C = some cell.cls) (hP : va_P D vwCl (wld n ad (g M)) H) (hA0 : ∀ q, AW n ad q → Ah s q) (hS : va_S (Ah s) s.heap H [])
    (hn : As.length = np) (hl : ls.size = nL) (hst : st0 = As.reverse ++ .ref (ad o) :: rest) (hrm : (rest.map fun v => v.category).sum ≤ 8) (hdg : decode cc pc = .ok (.invokevirtual idx, 3))
    (kk : ∀ (r : Int64) (u : Mem) (H1 : Heap), F r u → va_P D vwCl (wld n ad (g u)) H1 → (∀ q : Nat, q < H.size → ¬ AW n ad q → H1[q]? = H[q]?) → va_S (Ah s) s.heap H1 [] → W p l e R s m args below meth c H1 [] cells slots Q (F0 m (pc + 3) ls (.long r :: rest))) : W p l e R s m args below meth c H [] cells slots Q (F0 m pc ls st0) := by
  refine va_calll (va_runV (As := As) (rest := rest) ⟨hx, hb, hml, hown, hG⟩ hM (cwV np hG (good_V h1 h2) rfl hrc hrs hd hR) ⟨GW_blind _, hrecv, fun U hU hW => ⟨rfl, by rw [hU]; exact hP, va_K.moved hW.alike hK⟩⟩ rfl hn hl hst (lv_room hrm) hdg hcs) hS (fun q _ h => hA0 q h) hA0 (fun r u t H1 locs1 ht hvm hw hB _ hk1 hS1 => ?_)
  obtain ⟨hP1, hK1⟩ := hB
  rw [ht] at hP1
  exact va_forget (fun q hq => hS1.2.2 q hq) (kk r u H1 hw hP1 hk1 ⟨hS1.1, hS1.2.1, fun _ h => absurd h List.not_mem_nil⟩)
theorem good_VW {own C : String} {idx : Nat} {y : MethodName} {b : ByteArray} {n : Nat} {ret : Option FieldType} {hh : List (Nat × Nat × Nat × Nat)} (h1 : Cond.methodLink own idx y ∈ wsL_law) (h2 : Cond.instanceMethod y ∈ wsL_law ∧ Cond.selects C y y ∈ wsL_law ∧ Cond.initialized C ∈ wsL_law ∧ Cond.codeWith y b n ret hh ∈ wsL_law) : GoodIn wsL_law (wsV own idx C y (Cond.codeWith y b n ret hh :: wsL_law)) := by
  refine good_G fun w hw => ?_
  unfold wsV at hw
  simp only [List.cons_append, List.nil_append, List.mem_cons] at hw
  rcases hw with rfl | rfl | rfl | rfl | rfl | hw
  · exact h1
  · exact h2.1
  · exact h2.2.1
  · exact h2.2.2.1
  · exact h2.2.2.2
  · exact hw
theorem good_SW {own : String} {idx : Nat} {y : MethodName} {b : ByteArray} {n : Nat} {ret : Option FieldType} {hh : List (Nat × Nat × Nat × Nat)} (h1 : Cond.methodLink own idx y ∈ wsL_law) (h2 : Cond.static y ∈ wsL_law ∧ Cond.initialized y.cls ∈ wsL_law ∧ Cond.codeWith y b n ret hh ∈ wsL_law) : GoodIn wsL_law (va_wsS own idx y (Cond.codeWith y b n ret hh :: wsL_law)) := by
  refine good_G fun w hw => ?_
  unfold va_wsS at hw
  simp only [List.cons_append, List.nil_append, List.mem_cons] at hw
  rcases hw with rfl | rfl | rfl | rfl | hw
  · exact h1
  · exact h2.1
  · exact h2.2.1
  · exact h2.2.2
  · exact hw
/-- an int of the script -/
theorem l_ld {b L : Nat} {xs : Nat → Int32} {j o : Nat} {lv : List (Nat × Value)} {nL i0 i4 : Nat} (hx : p.tables.exec = Jvm.exec) (hb : c.code = cc) (hX : va_X b L xs s s.heap) (hbl : b < s.heap.size) (hS : va_S (Ah s) s.heap H []) (hl : lv_has ls nL lv) (h0 : lv[i0]? = some (0, .ref b)) (h4 : lv[i4]? = some (4, .int (nI j))) (hj : j + o < L) (hL : L ≤ 3072) {v : Int32} {vi : Int} (hv : nI o = v) (hvi : Int32.ofInt vi = v)
    (d0 : decode cc pc = .ok (.aload_n 0, 1)) (d1 : decode cc (pc + 1) = .ok (.iload 4, 2)) (d2 : decode cc (pc + 3) = .ok (.iconst vi, 1)) (d3 : decode cc (pc + 4) = .ok (.iadd, 1)) (d4 : decode cc (pc + 5) = .ok (.iaload, 1))
    (kk : W p l e R s m args below meth c H [] cells slots Q (F0 m (pc + 6) ls (.int (xs (j + o)) :: rest))) : W p l e R s m args below meth c H [] cells slots Q (F0 m pc ls rest) := by
  refine lv_aload_n hx hb d0 rfl (lv_at hl i0 h0) ?_
  refine lv_iload hx hb d1 (lv_at hl i4 h4) ?_
  refine lv_iconst (v := v) hx hb d2 hvi ?_
  refine lv_iadd hx hb d3 ?_
  rw [← hv, nI_add]
  refine va_sld hx hb hX hbl (Nat.not_le.mpr hbl) hS (vp_in_nI hj (by omega)) d4 ?_
  rw [nI_clamp (by omega)]
  exact kk
theorem l_kept {n : Nat} {ad : Nat → Nat} {ws : va_W} {H1 : Heap} (h : va_P D vwCl ws H) (hk : ∀ q : Nat, q < H.size → ¬ AW n ad q → H1[q]? = H[q]?) (hd : ∀ (i : Nat) (q : Nat × va_E), ws[i]? = some q → ¬ AW n ad q.1) : va_P D vwCl ws H1 := h.kept fun i q hi => hk q.1 (vx_lt h hi) (hd i q hi)
end LK
