-- @needs 26_ctorC 27_ctorM 40_cC 50_cC 52_cC 31_hC
/-! what rides along besides the world: the class's two static rows, what a throw needs -/
def SS (A : Nat → Prop) (U : State) (H : Heap) : Prop := (∃ t, va_Z RX6 "LEAST_SETTING" "[I" (.ref t) A U H ∧ va_T .int t 5 (fun j => .int (lS j)) A U H) ∧ ∃ t, va_Z RX6 "MOST_SETTING" "[I" (.ref t) A U H ∧ va_T .int t 5 (fun j => .int (mS j)) A U H
abbrev eIA : String := "java/lang/IllegalArgumentException"
abbrev eIS : String := "java/lang/IllegalStateException"
def yRE : MethodName := ⟨"java/lang/RuntimeException", "<init>", "(Ljava/lang/String;)V"⟩
def yEX : MethodName := ⟨"java/lang/Exception", "<init>", "(Ljava/lang/String;)V"⟩
def yTH : MethodName := ⟨"java/lang/Throwable", "<init>", "(Ljava/lang/String;)V"⟩
/-- what the tables and the constants say -/
def VS (U : State) : Prop := (NW U ∧ va_Nw (.declares yRE) U ∧ va_Nw (.declares yEX) U ∧ va_Nw (.declares yTH) U ∧ va_Nw (.castable eIA eIA) U ∧ va_Nw (.castable eIS eIS) U ∧ va_Nc eIS eIA U) ∧ (∃ q, vk_R RX4 27 "a FAILURE" q U) ∧ (∃ q, vk_R RX6 241 "no such SHELF" q U) ∧ (∃ q, vk_R RX6 248 "no ROW" q U) ∧ ∃ q, vk_R RX6 251 "no such place" q U
def EV (A : Nat → Prop) (U : State) (H : Heap) : Prop := SS A U H ∧ vx_Zq Bundle.tN "UNASSIGNED_STACK" Bundle.steD A U H ∧ vx_Zq Bundle.tN "SUPPRESSED_SENTINEL" Bundle.listD A U H ∧ VS U
theorem VS.warm {s U : State} (h : s.WarmedH U.vm) : VS s → VS U
  | ⟨⟨n, d1, d2, d3, c1, c2, c3⟩, ⟨a, ha⟩, ⟨b, hb⟩, ⟨c, hc⟩, ⟨d, hd⟩⟩ => ⟨⟨n.warm h, va_Nw.warmD h d1, va_Nw.warmD h d2, va_Nw.warmD h d3, va_Nw.warmC h c1, va_Nw.warmC h c2, va_Nc.moved h.alike c3⟩, ⟨a, vk_R.warm h ha⟩, ⟨b, vk_R.warm h hb⟩, ⟨c, vk_R.warm h hc⟩, ⟨d, vk_R.warm h hd⟩⟩
theorem VS.same {u U : State} (h : U.vm = u.vm) : VS u → VS U
  | ⟨⟨n, d1, d2, d3, c1, c2, c3⟩, ⟨a, ha⟩, ⟨b, hb⟩, ⟨c, hc⟩, ⟨d, hd⟩⟩ => ⟨⟨n.same h.symm, d1.same rfl h.symm, d2.same rfl h.symm, d3.same rfl h.symm, c1.same rfl h.symm, c2.same rfl h.symm, va_Nc.moved (u := u) (U := U) (by rw [h]; exact Vm.Alike.refl _) c3⟩, ⟨a, vk_R.same h ha⟩, ⟨b, vk_R.same h hb⟩, ⟨c, vk_R.same h hc⟩, ⟨d, vk_R.same h hd⟩⟩
theorem SS.moved {A : Nat → Prop} {u U : State} {H : Heap} (h : u.vm.Alike U.vm) : SS A u H → SS A U H
  | ⟨⟨a, a1, a2⟩, ⟨b, b1, b2⟩⟩ => ⟨⟨a, a1.moved h, a2.moved h⟩, ⟨b, b1.moved h, b2.moved h⟩⟩
theorem EV.warm {A : Nat → Prop} {s U : State} {H : Heap} (h : s.WarmedH U.vm) (v : EV A s H) : EV A U H := ⟨v.1.moved h.alike, v.2.1.moved h.alike, v.2.2.1.moved h.alike, v.2.2.2.warm h⟩
theorem EV.calling {A : Nat → Prop} {U : State} {H : Heap} {g mk} {a : Array Value} (v : EV A U H) : EV A (U.calling g mk a) H := ⟨v.1.moved (u := U) (U := U.calling g mk a) (Vm.Alike.refl U.vm), v.2.1.moved (u := U) (U := U.calling g mk a) (Vm.Alike.refl U.vm), v.2.2.1.moved (u := U) (U := U.calling g mk a) (Vm.Alike.refl U.vm), v.2.2.2.same (u := U) (U := U.calling g mk a) rfl⟩
theorem EV.kept {A : Nat → Prop} {U : State} {H H1 : Heap} (hq : ∀ a : Nat, a < H.size → ¬ A a → H1[a]? = H[a]?) : EV A U H → EV A U H1
  | ⟨⟨⟨a, a1, a2⟩, ⟨b, b1, b2⟩⟩, x, y, z⟩ => ⟨⟨⟨a, a1.kept hq, a2.kept hq⟩, ⟨b, b1.kept hq, b2.kept hq⟩⟩, x.kept hq, y.kept hq, z⟩
theorem EV.narrow {A B : Nat → Prop} {U : State} {H : Heap} (h : ∀ q, B q → A q) : EV A U H → EV B U H
  | ⟨⟨⟨a, a1, a2⟩, ⟨b, b1, b2⟩⟩, x, y, z⟩ => ⟨⟨⟨a, a1.narrow h, a2.narrow h⟩, ⟨b, b1.narrow h, b2.narrow h⟩⟩, x.narrow h, y.narrow h, z⟩
/-- a method's world, with what rides along -/
def GE (n : Nat) (ad : Nat → Nat) (D : va_G) (k : Nat → ClassId) (f : Nat → va_E) : State → Prop := fun U => GW n ad D k f U ∧ EV (AW n ad) U U.heap
theorem GE_blind {n : Nat} {ad : Nat → Nat} {D : va_G} {k : Nat → ClassId} {f : Nat → va_E} (av : List Value) : FrameBlind (va_Pc av (GE n ad D k f)) := by
  intro a U g mk q
  obtain ⟨q0, ⟨qP, qK⟩, qE⟩ := q
  exact ⟨q0, ⟨qP, va_K.moved (u := U) (U := U.calling g mk a) (Vm.Alike.refl U.vm) qK⟩, qE.calling⟩
theorem met_iE {l : Launch} {y : MethodName} {cc : ByteArray} {maxL n : Nat} {ad : Nat → Nat} {D : va_G} {k : Nat → ClassId} {g : Mem → Nat → va_E} {M : Mem} {rm : Room} {As : List Value} {ty : FieldType} {F : Int32 → Mem → Prop} (hy : plainFor y = true) (hle : (lg_sl As).length ≤ maxL)
    (walk : ∀ (p : Program) (e : Env) (s : State) (m : MethodId) (args : Array Value) (below : List Frame) (meth : Method) (c : Code) (Q : State → Prop) (ls : Array Slot), p.tables.exec = Jvm.exec → c.code = cc → c.maxLocals = maxL → (∀ w ∈ wsL_law, w.before args s = true) → s.vm.findClass y.cls = some m.cls → va_K D vwCl (tysC k) s → EV (AW n ad) s s.heap →
      (∀ (H : Heap) (locs : List Loc) (ls : Array Slot) (pc : Nat) (r : Int32) (u : Mem), F r u → narrow ty (.int r) = .int r → va_P D vwCl (wld n ad (g u)) H → va_S (AW n ad) s.heap H locs → decode cc pc = .ok (.ireturn, 1) → W p l e rm s m args below meth c H locs 0 0 Q (F0 m pc ls [.int r])) →
      va_P D vwCl (wld n ad (g M)) s.heap → va_S (AW n ad) s.heap s.heap [] → lv_has ls maxL (lv_args 0 As) → W p l e rm s m args below meth c s.heap [] 0 0 Q (F0 m 0 ls [])) :
    Met l y (Cond.code y cc maxL (some ty) :: wsL_law) rm (va_Pc As (GE n ad D k (g M))) (va_Qi F (fun u t => GW n ad D k (g u) t) (AW n ad)) 0 0 (AW n ad) := by
  refine va_MetF (cc := cc) (maxL := maxL) (ret := (some ty)) hy rfl ?_
  intro p e s m args below meth c s₁ B hml hv
  obtain ⟨rfl, ⟨hP, hK⟩, hE⟩ := hv
  have hr := B.returns
  have hts := atoms_spec (ws := Cond.code y cc maxL (some ty) :: wsL_law) B.pre
  have hlocks := B.notSynchronized
  rw [lg_entry_eq]
  exact walk p e s m _ below meth c _ _ B.exec B.bytes hml (fun w h => hts w (List.mem_cons_of_mem _ h)) (findClass_of_methodNamed B.named) hK hE (fun H locs ls pc r u hF hn hP1 hS1 hdg => W.zret (v := r) B.exec B.bytes hr hn (fun t ht hW => ⟨⟨r, u, rfl, hF, by rw [ht]; exact hP1, va_K.moved hW.alike hK⟩, hS1.F ht⟩) hS1.2.2 hdg) hP va_S.rf (lv_entry As hle)
section CE
variable {p : Program} {l : Launch} {e : Env} {R : Room} {s : State} {m : MethodId} {args : Array Value} {below : List Frame} {meth : Method} {c : Code} {H : Heap} {locs : List Loc} {cells slots : Nat} {Q : State → Prop}
variable {cc : ByteArray} {pc : Nat} {ls : Array Slot} {rest : List Value} {D : va_G} {A : Nat → Prop} {H0 : Heap} {k : Nat → ClassId}
theorem call_iE {n : Nat} {ad : Nat → Nat} {A0 : Nat → Prop} {g : Mem → Nat → va_E} {M : Mem} {F : Int32 → Mem → Prop} {own C : String} {idx nL maxL np : Nat} {y : MethodName} {bytes : ByteArray} {rty : Option FieldType} {rm : Room} {o : Nat} {st0 : List Value} (As rest : List Value) (hx : p.tables.exec = Jvm.exec) (hb : c.code = cc) (hml : c.maxLocals = nL) (hG : ∀ w ∈ wsL_law, w.before args s = true) (hown : s.vm.findClass own = some m.cls) (hK : va_K D vwCl (tysC k) s)
    (hE : EV (AW n ad) s H) (hM : Met l y (Cond.code y bytes maxL rty :: wsL_law) rm (va_Pc (.ref (ad o) :: As) (GE n ad D k (g M))) (va_Qi F (fun u t => GW n ad D k (g u) t) (AW n ad)) 0 0 (AW n ad))
    (h1 : Cond.methodLink own idx y ∈ wsL_law) (h2 : Cond.instanceMethod y ∈ wsL_law ∧ Cond.selects C y y ∈ wsL_law ∧ Cond.initialized C ∈ wsL_law ∧ Cond.code y bytes maxL rty ∈ wsL_law) (hd : y.cls = C ∧ y.cls ≠ "java/lang/invoke/MethodHandle" ∧ y.cls ≠ "java/lang/invoke/VarHandle" ∧ (parseMethodDescriptor y.desc).map (fun d => d.parameters.length) = some np)
    (hrc : rm.cells = 0) (hrs : rm.slots = 0) (hR : rm.frames + 1 ≤ R.frames ∧ 8 + (maxL + 11) + rm.locals ≤ R.locals) (hcs : cells ≤ R.cells ∧ slots ≤ R.slots) (hrecv : ∃ cell : Cell, H[ad o]? = some cell ∧ cell.vm.isStatics = false ∧ s.vm.findClass C = some cell.cls) (hP : va_P D vwCl (wld n ad (g M)) H) (hA0 : ∀ q, AW n ad q → A0 q) (hS : va_S A0 H0 H locs)
    (hn : As.length = np) (hl : ls.size = nL) (hst : st0 = As.reverse ++ .ref (ad o) :: rest) (hrm : (rest.map fun v => v.category).sum ≤ 8) (hdg : decode cc pc = .ok (.invokevirtual idx, 3))
    (kk : ∀ (r : Int32) (u : Mem) (H1 : Heap) (locs1 : List Loc), F r u → va_P D vwCl (wld n ad (g u)) H1 → va_S A0 H0 H1 locs1 → W p l e R s m args below meth c H1 locs1 cells slots Q (F0 m (pc + 3) ls (.int r :: rest))) : W p l e R s m args below meth c H locs cells slots Q (F0 m pc ls st0) := by
  refine va_calli (va_runV (As := As) (rest := rest) ⟨hx, hb, hml, hown, hG⟩ hM (cwV np hG (good_V h1 h2) rfl hrc hrs hd hR) ⟨GE_blind _, hrecv, fun U hU hW => ⟨rfl, ⟨by rw [hU]; exact hP, va_K.moved hW.alike hK⟩, by rw [hU]; exact hE.warm hW⟩⟩ rfl hn hl hst (lv_room hrm) hdg hcs) hS (fun q _ h => hA0 q h) hA0 (fun r u t H1 locs1 ht hvm hw hB _ _ hS1 => ?_)
  obtain ⟨hP1, hK1⟩ := hB
  rw [ht] at hP1
  exact kk r u H1 locs1 hw hP1 hS1
theorem callS_iE {n : Nat} {ad : Nat → Nat} {A0 : Nat → Prop} {g : Mem → Nat → va_E} {M : Mem} {F : Int32 → Mem → Prop} {own : String} {idx nL maxL np : Nat} {y : MethodName} {bytes : ByteArray} {rty : Option FieldType} {rm : Room} {st0 : List Value} (As rest : List Value) (hx : p.tables.exec = Jvm.exec) (hb : c.code = cc) (hml : c.maxLocals = nL) (hG : ∀ w ∈ wsL_law, w.before args s = true) (hown : s.vm.findClass own = some m.cls) (hK : va_K D vwCl (tysC k) s)
    (hE : EV (AW n ad) s H) (hM : Met l y (Cond.code y bytes maxL rty :: wsL_law) rm (va_Pc As (GE n ad D k (g M))) (va_Qi F (fun u t => GW n ad D k (g u) t) (AW n ad)) 0 0 (AW n ad))
    (h1 : Cond.methodLink own idx y ∈ wsL_law) (h2 : Cond.static y ∈ wsL_law ∧ Cond.initialized y.cls ∈ wsL_law ∧ Cond.code y bytes maxL rty ∈ wsL_law) (hd : y.cls ≠ "java/lang/invoke/MethodHandle" ∧ y.cls ≠ "java/lang/invoke/VarHandle" ∧ (parseMethodDescriptor y.desc).map (fun d => d.parameters.length) = some np)
    (hrc : rm.cells = 0) (hrs : rm.slots = 0) (hR : rm.frames + 1 ≤ R.frames ∧ 8 + (maxL + 11) + rm.locals ≤ R.locals) (hcs : cells ≤ R.cells ∧ slots ≤ R.slots) (hP : va_P D vwCl (wld n ad (g M)) H) (hA0 : ∀ q, AW n ad q → A0 q) (hS : va_S A0 H0 H locs)
    (hn : As.length = np) (hl : ls.size = nL) (hst : st0 = As.reverse ++ rest) (hrm : (rest.map fun v => v.category).sum ≤ 8) (hdg : decode cc pc = .ok (.invokestatic idx, 3))
    (kk : ∀ (r : Int32) (u : Mem) (H1 : Heap) (locs1 : List Loc), F r u → va_P D vwCl (wld n ad (g u)) H1 → va_S A0 H0 H1 locs1 → W p l e R s m args below meth c H1 locs1 cells slots Q (F0 m (pc + 3) ls (.int r :: rest))) : W p l e R s m args below meth c H locs cells slots Q (F0 m pc ls st0) := by
  refine va_calli (va_runS (As := As) (rest := rest) ⟨hx, hb, hml, hown, hG⟩ hM (va_cwS np hG (good_S h1 h2) rfl hrc hrs hd hR) ⟨GE_blind _, fun U hU hW => ⟨rfl, ⟨by rw [hU]; exact hP, va_K.moved hW.alike hK⟩, by rw [hU]; exact hE.warm hW⟩⟩ rfl hn hl hst (lv_room hrm) hdg hcs) hS (fun q _ h => hA0 q h) hA0 (fun r u t H1 locs1 ht hvm hw hB _ _ hS1 => ?_)
  obtain ⟨hP1, hK1⟩ := hB
  rw [ht] at hP1
  exact kk r u H1 locs1 hw hP1 hS1
end CE
theorem lS_at {i : Int32} : (fun j => Value.int (lS j)) i.toNatClampNeg = .int (lS i.toNatClampNeg) := rfl
def rm_X0_isSetting : Room := { frames := 0, cells := 0, slots := 0, locals := 0 }
theorem gm_X0_isSetting : Cond.static yX0_isSetting ∈ wsL_law ∧ Cond.initialized yX0_isSetting.cls ∈ wsL_law ∧ Cond.code yX0_isSetting cX0_isSetting 2 (some .boolean) ∈ wsL_law := ⟨gw_6_1, gw_1_15, gw_6_2⟩
theorem gd_X0_isSetting : yX0_isSetting.cls ≠ "java/lang/invoke/MethodHandle" ∧ yX0_isSetting.cls ≠ "java/lang/invoke/VarHandle" ∧ (parseMethodDescriptor yX0_isSetting.desc).map (fun d => d.parameters.length) = some 2 := by decide +kernel
set_option maxRecDepth 100000 in
theorem c_X0_isSetting {l : Launch} {D : va_G} {k : Nat → ClassId} {ad : Nat → Nat} (M : Mem) (a1 a2 : Int32) : Met l yX0_isSetting (Cond.code yX0_isSetting cX0_isSetting 2 (some .boolean) :: wsL_law) rm_X0_isSetting (va_Pc [.int a1, .int a2] (GE 74 ad D k (cC ad k M))) (va_Qi (fun r u => (r = 0 ∨ r = 1) ∧ f_X0_isSetting a1 a2 = r ∧ u = M) (fun u t => GW 74 ad D k (cC ad k u) t) (AW 74 ad)) 0 0 (AW 74 ad) := by
  refine met_iE (g := cC ad k) (M := M) (plainFor_of_name (by decide)) (Nat.le_of_ble_eq_true rfl) ?_
  intro p e s m args below meth c Q ls hx hb hml hG hown hK hE hret hP hS hl
  have hl : lv_has ls 2 [(0, .int a1), (1, .int a2)] := hl
  obtain ⟨⟨⟨tl, hz1, ht1⟩, ⟨tm, hz2, ht2⟩⟩, -, -, ⟨hN, -⟩, -⟩ := hE
  obtain ⟨V, hV⟩ : ∃ V, f_X0_isSetting a1 a2 = V := ⟨_, rfl⟩
  have he := hV
  unfold f_X0_isSetting at he
  have z0 : ∀ (V0 : 0 = V), W p l e rm_X0_isSetting s m args below meth c s.heap [] 0 0 Q (F0 m 42 ls []) := fun V0 => by
    refine lv_iconst (v := 0) hx hb dX0_isSetting_42 (by decide) ?_
    exact hret _ _ _ _ _ _ ⟨Or.inl rfl, hV.trans V0.symm, rfl⟩ (nz01 (Or.inl rfl)) hP hS dX0_isSetting_43
  refine lv_iload_n hx hb dX0_isSetting_0 rfl (lv_at hl 0 rfl) ?_
  refine lv_if_lt (tgt := 42) hx hb dX0_isSetting_1 (by decide) (fun hc => z0 (ite_t he hc)) (fun hc1 => ?_)
  have he := ite_f he hc1
  refine lv_iload_n hx hb dX0_isSetting_4 rfl (lv_at hl 0 rfl) ?_
  refine va_getsN hx hb hz1 hS hown (va_Nw.use rfl hN.2.1) (fun _ h => h) dX0_isSetting_5 ?_
  refine va_tlen hx hb ht1 hS (v := 5) rfl dX0_isSetting_8 ?_
  refine lv_icmp_ge (tgt := 42) hx hb dX0_isSetting_9 (by decide) (fun hc => z0 (ite_t he hc)) (fun hc2 => ?_)
  have he := ite_f he hc2
  have hin : vp_in a1 5 := vin_I (by have q0 : 0 ≤ a1.toInt := nlt_I hc1; exact q0) (by have q1 : a1.toInt < 5 := nle_I hc2; omega)
  refine lv_iload_n hx hb dX0_isSetting_12 rfl (lv_at hl 0 rfl) ?_
  refine va_getsN hx hb hz2 hS hown (va_Nw.use rfl hN.2.2) (fun _ h => h) dX0_isSetting_13 ?_
  refine va_tlen hx hb ht2 hS (v := 5) rfl dX0_isSetting_16 ?_
  refine lv_icmp_ge (tgt := 42) hx hb dX0_isSetting_17 (by decide) (fun hc => z0 (ite_t he hc)) (fun hc3 => ?_)
  have he := ite_f he hc3
  refine lv_iload_n hx hb dX0_isSetting_20 rfl (lv_at hl 1 rfl) ?_
  refine va_getsN hx hb hz1 hS hown (va_Nw.use rfl hN.2.1) (fun _ h => h) dX0_isSetting_21 ?_
  refine lv_iload_n hx hb dX0_isSetting_24 rfl (lv_at hl 0 rfl) ?_
  refine va_ti hx hb ht1 hS hin (v := .int (lS a1.toNatClampNeg)) rfl dX0_isSetting_25 ?_
  refine lv_icmp_lt (tgt := 42) hx hb dX0_isSetting_26 (by decide) (fun hc => z0 (ite_t he hc)) (fun hc4 => ?_)
  have he := ite_f he hc4
  refine lv_iload_n hx hb dX0_isSetting_29 rfl (lv_at hl 1 rfl) ?_
  refine va_getsN hx hb hz2 hS hown (va_Nw.use rfl hN.2.2) (fun _ h => h) dX0_isSetting_30 ?_
  refine lv_iload_n hx hb dX0_isSetting_33 rfl (lv_at hl 0 rfl) ?_
  refine va_ti hx hb ht2 hS hin (v := .int (mS a1.toNatClampNeg)) rfl dX0_isSetting_34 ?_
  refine lv_icmp_gt (tgt := 42) hx hb dX0_isSetting_35 (by decide) (fun hc => z0 (ite_t he hc)) (fun hc5 => ?_)
  have he := ite_f he hc5
  refine lv_iconst (v := 1) hx hb dX0_isSetting_38 (by decide) ?_
  refine lv_goto (tgt := 43) hx hb dX0_isSetting_39 (by decide) ?_
  exact hret _ _ _ _ _ _ ⟨Or.inr rfl, hV.trans he.symm, rfl⟩ (nz01 (Or.inr rfl)) hP hS dX0_isSetting_43
def rm_X6_set : Room := { frames := 2, cells := 0, slots := 0, locals := 60 }
theorem gd_X6_set : yX6_set.cls = RX6 ∧ yX6_set.cls ≠ "java/lang/invoke/MethodHandle" ∧ yX6_set.cls ≠ "java/lang/invoke/VarHandle" ∧ (parseMethodDescriptor yX6_set.desc).map (fun d => d.parameters.length) = some 2 := by decide +kernel
set_option maxRecDepth 100000 in
theorem c_X6_set {l : Launch} {D : va_G} {k : Nat → ClassId} {ad : Nat → Nat} (had : InjN 74 ad) (M : Mem) (a1 a2 : Int32) : Met l yX6_set (Cond.code yX6_set cX6_set 3 (some .int) :: wsL_law) rm_X6_set (va_Pc [.ref (ad 0), .int a1, .int a2] (GE 74 ad D k (cC ad k M))) (va_Qi (fun r u => f_X6_set M a1 a2 = (r, u)) (fun u t => GW 74 ad D k (cC ad k u) t) (AW 74 ad)) 0 0 (AW 74 ad) := by
  refine met_iE (g := cC ad k) (M := M) (plainFor_of_name (by decide)) (Nat.le_of_ble_eq_true rfl) ?_
  intro p e s m args below meth c Q ls hx hb hml hG hown hK hE hret hP hS hl
  have hl : lv_has ls 3 [(0, .ref (ad 0)), (1, .int a1), (2, .int a2)] := hl
  obtain ⟨V, hV⟩ : ∃ V, f_X6_set M a1 a2 = V := ⟨_, rfl⟩
  have he := hV
  unfold f_X6_set at he
  have ch : ∀ (H : Heap) (locs : List Loc), f_X0_change M 1 a1 a2 = V → va_P D vwCl (wld 74 ad (cC ad k M)) H → va_S (AW 74 ad) s.heap H locs → W p l e rm_X6_set s m args below meth c H locs 0 0 Q (F0 m 28 ls []) := fun H locs he hP hS => by
    refine lv_aload_n hx hb dX6_set_28 rfl (lv_at hl 0 rfl) ?_
    refine gX6_0 hx hb hG hown hK hP rfl gw_1_16 dX6_set_29 ?_
    refine lv_iload_n hx hb dX6_set_32 rfl (lv_at hl 1 rfl) ?_
    refine lv_iload_n hx hb dX6_set_33 rfl (lv_at hl 2 rfl) ?_
    refine call_i [.int a1, .int a2] [] hx hb hml hG hown hK (c_X0_change had M 1 (by decide) a1 a2) gw_6_9 gm_X0_change gd_X0_change rfl rfl ⟨Nat.le_of_ble_eq_true rfl, Nat.le_of_ble_eq_true rfl⟩ ⟨Nat.le_refl _, Nat.le_refl _⟩ (rX0 hK hP (by decide)) hP (fun _ h => h) hS rfl hl.1 rfl (Nat.le_of_ble_eq_true rfl) dX6_set_34 (fun r u H locs hF hP hS => ?_)
    exact hret _ _ _ _ _ _ (hV.trans (he.symm.trans hF)) rfl hP hS dX6_set_37
  refine lv_iload_n hx hb dX6_set_0 rfl (lv_at hl 1 rfl) ?_
  refine lv_iload_n hx hb dX6_set_1 rfl (lv_at hl 2 rfl) ?_
  refine callS_iE [.int a1, .int a2] [] hx hb hml hG hown hK (hE.kept hS.2.1) (c_X0_isSetting M a1 a2) gw_6_0 gm_X0_isSetting gd_X0_isSetting rfl rfl ⟨Nat.le_of_ble_eq_true rfl, Nat.le_of_ble_eq_true rfl⟩ ⟨Nat.le_refl _, Nat.le_refl _⟩ hP (fun _ h => h) hS rfl hl.1 rfl (Nat.le_of_ble_eq_true rfl) dX6_set_2 (fun r u H locs hF hP hS => ?_)
  obtain ⟨-, hF, hu⟩ := hF; rw [hu] at hP; subst hF
  refine lv_if_ne (tgt := 10) hx hb dX6_set_5 (by decide) (fun hc => ?_) (fun hc => ?_)
  · have he := ite_t he hc
    refine lv_iload_n hx hb dX6_set_10 rfl (lv_at hl 1 rfl) ?_
    refine lv_if_ne (tgt := 28) hx hb dX6_set_11 (by decide) (fun hc => ?_) (fun hc => ?_)
    · exact ch _ _ (ite_t he hc) hP hS
    · have he := ite_f he (not_not_intro hc)
      refine lv_aload_n hx hb dX6_set_14 rfl (lv_at hl 0 rfl) ?_
      refine gX6_1 hx hb hG hown hK hP rfl gw_1_20 dX6_set_15 ?_
      refine lv_iload_n hx hb dX6_set_18 rfl (lv_at hl 2 rfl) ?_
      refine call_i [.int a2] [] hx hb hml hG hown hK (c_X3_reaches had M 13 (by decide) a2) gw_6_3 gm_X3_reaches gd_X3_reaches rfl rfl ⟨Nat.le_of_ble_eq_true rfl, Nat.le_of_ble_eq_true rfl⟩ ⟨Nat.le_refl _, Nat.le_refl _⟩ (rX3 hK hP (by decide)) hP (fun _ h => h) hS rfl hl.1 rfl (Nat.le_of_ble_eq_true rfl) dX6_set_19 (fun r u H locs hF hP hS => ?_)
      obtain ⟨-, hF, hu⟩ := hF; rw [hu] at hP; subst hF
      refine lv_if_eq (tgt := 28) hx hb dX6_set_22 (by decide) (fun hc => ?_) (fun hc => ?_)
      · exact ch _ _ (ite_t he hc) hP hS
      · have he := ite_f he hc
        refine lv_bipush (v := -3) hx hb dX6_set_25 (by decide) ?_
        exact hret _ _ _ _ _ _ (hV.trans he.symm) rfl hP hS dX6_set_27
  · have he := ite_f he (not_not_intro hc)
    refine lv_iconst (v := -1) hx hb dX6_set_8 (by decide) ?_
    exact hret _ _ _ _ _ _ (hV.trans he.symm) rfl hP hS dX6_set_9
