-- @needs 54_env
theorem xA0 : ∀ w ∈ (vx_atS RX6 243 eIA ["java/lang/RuntimeException", "java/lang/Exception"]).filter (fun w => !goodWord w), w ∈ ([.declares yRE, .declares yEX, .declares yTH, .castable eIA eIA] : List Cond) := by decide +kernel
theorem xA1 : ∀ w ∈ (vx_atS RX6 250 eIS ["java/lang/RuntimeException", "java/lang/Exception"]).filter (fun w => !goodWord w), w ∈ ([.declares yRE, .declares yEX, .declares yTH, .castable eIS eIS] : List Cond) := by decide +kernel
theorem xA2 : ∀ w ∈ (vx_atS RX4 29 eIS ["java/lang/RuntimeException", "java/lang/Exception"]).filter (fun w => !goodWord w), w ∈ ([.declares yRE, .declares yEX, .declares yTH, .castable eIS eIS] : List Cond) := by decide +kernel
theorem xG0 : ∀ w ∈ Cond.classLink RX6 239 eIA :: Cond.initialized eIA :: vx_atS RX6 243 eIA ["java/lang/RuntimeException", "java/lang/Exception"], vx_ot w = true := by decide +kernel
theorem xG1 : ∀ w ∈ Cond.classLink RX6 246 eIS :: Cond.initialized eIS :: vx_atS RX6 250 eIS ["java/lang/RuntimeException", "java/lang/Exception"], vx_ot w = true := by decide +kernel
theorem xG2 : ∀ w ∈ Cond.classLink RX4 25 eIS :: Cond.initialized eIS :: vx_atS RX4 29 eIS ["java/lang/RuntimeException", "java/lang/Exception"], vx_ot w = true := by decide +kernel
theorem xL0 : ∀ w ∈ (vx_atS RX6 243 eIA ["java/lang/RuntimeException", "java/lang/Exception"]).filter goodWord, w ∈ wsL_law := fun w h => by
  unfold wsL_law
  exact List.mem_append_left _ (List.mem_append_left _ (List.mem_append_right _ h))
theorem xL1 : ∀ w ∈ (vx_atS RX6 250 eIS ["java/lang/RuntimeException", "java/lang/Exception"]).filter goodWord, w ∈ wsL_law := fun w h => by
  unfold wsL_law
  exact List.mem_append_left _ (List.mem_append_right _ h)
theorem xL2 : ∀ w ∈ (vx_atS RX4 29 eIS ["java/lang/RuntimeException", "java/lang/Exception"]).filter goodWord, w ∈ wsL_law := fun w h => by
  unfold wsL_law
  exact List.mem_append_right _ h
section TW
variable {p : Program} {l : Launch} {e : Env} {R : Room} {s : State} {m : MethodId} {args : Array Value} {below : List Frame} {meth : Method} {c : Code} {H : Heap} {locs : List Loc} {cells slots : Nat}
variable {cc : ByteArray} {pc : Nat} {ls : Array Slot} {D : va_G} {ad : Nat → Nat} {k : Nat → ClassId} {M : Mem}
theorem fit_names : ∀ n ∈ (["java/lang/RuntimeException", "java/lang/Exception"] : List String), Bundle.fit n = true := by decide +kernel
/-- a throw out of the class's world -/
theorem tw {SX : Type} {px : SX → Prop} {BX : String → SX → State → Prop} {Qc : Array Value → State → Outcome → State → Prop} {own cls text : String} {ik is ic mc ms : Nat} (hx : p.tables.exec = Jvm.exec) (hb : c.code = cc) (hfl : l.stackTraces = false) (hown : s.vm.findClass own = some m.cls) (hcls : Bundle.fit cls = true) (hG : ∀ w ∈ wsL_law, w.before args s = true) (hK : va_K D vwCl (tysC k) s) (hEV : EV (AW 74 ad) s s.heap)
    (hk : Cond.classLink own ik cls ∈ wsL_law) (hini : Cond.initialized cls ∈ wsL_law) (hstr : ∃ q, vk_R own is text q s) (hL : ∀ w ∈ (vx_atS own ic cls ["java/lang/RuntimeException", "java/lang/Exception"]).filter goodWord, w ∈ wsL_law) (hB : ∀ w ∈ (vx_atS own ic cls ["java/lang/RuntimeException", "java/lang/Exception"]).filter (fun w => !goodWord w), w ∈ ([.declares yRE, .declares yEX, .declares yTH, .castable cls cls] : List Cond)) (hca : va_Nw (.castable cls cls) s)
    (hgood : ∀ w ∈ Cond.classLink own ik cls :: Cond.initialized cls :: vx_atS own ic cls ["java/lang/RuntimeException", "java/lang/Exception"], vx_ot w = true) (hS : va_S (AW 74 ad) s.heap H locs) (hP : va_P D vwCl (wld 74 ad (cC ad k M)) H) (hsize : ls.size = c.maxLocals)
    (d0 : decode cc pc = .ok (.new ik, 3)) (d3 : decode cc (pc + 3) = .ok (.dup, 1)) (d4 : decode cc (pc + 4) = .ok (.ldc is, 2)) (d6 : decode cc (pc + 6) = .ok (.invokespecial ic, 3)) (d9 : decode cc (pc + 9) = .ok (.athrow, 1))
    (hout : ∀ x ∈ c.exceptionTable.toList, covers x (pc + 9) = false) (hf : 5 < R.frames) (hl : 82 ≤ R.locals) (hc : cells + 1 ≤ R.cells) (hs : slots + 6 ≤ R.slots) (hlocks : meth.locks = false) (hc2 : cells + 1 ≤ mc) (hs2 : slots + 6 ≤ ms)
    (hend : ∀ t : State, va_P D vwCl (wld 74 ad (cC ad k M)) t.heap → va_K D vwCl (tysC k) t → ∃ u, px u ∧ BX cls u t) : W p l e R s m args below meth c H locs cells slots (vx_MQ below Qc (vx_X px BX (AW 74 ad)) args s mc ms (AW 74 ad)) (F0 m pc ls []) := by
  obtain ⟨sa, hstr⟩ := hstr
  have hV := hEV.2.2.2.1.2
  refine vx_throwS (names := ["java/lang/RuntimeException", "java/lang/Exception"]) hx hb hfl hown hcls fit_names (hG _ hk) (hG _ hini) hstr (vx_hat (fun w h => hG w (hL w h)) hB (vx_c (va_Nw.use rfl hV.1) (vx_c (va_Nw.use rfl hV.2.1) (vx_c (va_Nw.use rfl hV.2.2.1) (vx_c (va_Nw.use rfl hca) vx_n))))) hgood hEV.2.1 hEV.2.2.1 hS hsize d0 d3 d4 d6 d9 hout hf hl hc hs hlocks (fun t ha hz hq => ?_) hS.2.2 hc2 hs2
  have hPt : va_P D vwCl (wld 74 ad (cC ad k M)) t.heap := hP.kept fun i q hi => hq q.1 (vx_lt hP hi)
  obtain ⟨u, hu, hb⟩ := hend t hPt (va_K.moved ha hK)
  exact ⟨u, hu, hb, Nat.le_trans hS.1 hz, fun q h1 h2 => by rw [hq q (Nat.lt_of_lt_of_le h1 hS.1)]; exact hS.2.1 q h1 h2⟩
end TW
