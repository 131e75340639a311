-- @needs 80_sim 78_lawkit 
set_option maxRecDepth 100000
/-- what stays through the law -/
def LX (p : Program) (l : Launch) (s : State) (m : MethodId) (meth : Method) (c : Code) (b L : Nat) (xs : Nat → Int32) (ad bd : Nat → Nat) (o : Nat) (D : va_G) (k : Nat → ClassId) : Prop :=
  (p.tables.exec = Jvm.exec ∧ c.code = cL_law ∧ c.maxLocals = 8 ∧ s.vm.findClass RL = some m.cls ∧ (∀ w ∈ wsL_law, w.before #[Value.ref b] s = true) ∧ va_X b L xs s s.heap ∧ b < s.heap.size ∧ L ≤ 3072) ∧
  (va_K D vwCl (tysC k) s ∧ EV (Ah s) s s.heap ∧ l.stackTraces = false) ∧
  (InjN 74 ad ∧ InjN 31 bd ∧ (∀ q, AW 74 ad q → Ah s q) ∧ (∀ q, AW 31 bd q → Ah s q) ∧ Ah s o) ∧
  (∀ j, j < 31 → ¬ AW 74 ad (bd j)) ∧ (∀ j, j < 74 → ¬ AW 31 bd (ad j)) ∧ ¬ AW 74 ad o ∧ ¬ AW 31 bd o
/-- from a place of the law on -/
def LG (Core : Mem → Mem → Prop) (p : Program) (l : Launch) (e : Env) (s : State) (m : MethodId) (below : List Frame) (meth : Method) (c : Code) (b : Nat) (ad bd : Nat → Nat) (o : Nat) (D : va_G) (k : Nat → ClassId) (Q : State → Prop) (j cells slots pc : Nat) : Prop :=
  ∀ (C R : Mem) (f : Nat → Int64) (H : Heap) (ls : Array Slot), Core C R → MI R → SN (R 20) → va_P D vwCl (wld 74 ad (cC ad k C)) H → va_P D vwCl (wld 31 bd (cM bd k R)) H → va_P D vwCl (oW k o f) H → va_S (Ah s) s.heap H [] → lv_has ls 8 [(0, .ref b), (1, .ref (ad 0)), (2, .ref (bd 0)), (3, .ref o), (4, .int (nI (6 * j)))] → W p l e room_1 s m #[Value.ref b] below meth c H [] cells slots Q (F0 m pc ls [])
theorem l_d {n n2 : Nat} {ad bd : Nat → Nat} {f : Nat → va_E} (h : ∀ j, j < n2 → ¬ AW n ad (bd j)) : ∀ (i : Nat) (q : Nat × va_E), (wld n2 bd f)[i]? = some q → ¬ AW n ad q.1 := fun i q hi => by
  obtain ⟨h1, rfl⟩ := wld_inv hi
  exact h i h1
theorem l_do {n : Nat} {ad : Nat → Nat} {k : Nat → ClassId} {o : Nat} {f : Nat → Int64} (h : ¬ AW n ad o) : ∀ (i : Nat) (q : Nat × va_E), (oW k o f)[i]? = some q → ¬ AW n ad q.1 := fun i q hi => by
  have : i < 1 := (List.getElem?_eq_some_iff.mp hi).1
  obtain rfl : i = 0 := by omega
  cases hi
  exact h
