-- @needs 56_throws 79_lawin 85_skel
set_option maxRecDepth 100000
theorem e_stat {s : State} {b : Addr} (hs : ∀ t ∈ lw_tbl, t.before #[Value.ref b] s = true) (n : String) (f : Nat → Int32) (hl : Cond.laysStatic RX6 n "[I" ∈ lw_tbl) (hini : Cond.initialized RX6 ∈ lw_tbl)
    (h1 : (Cond.arrayOf (.static RX6 n "[I") .int).before #[Value.ref b] s = true) (h2 : (Cond.eq (.length (.static RX6 n "[I")) (.int 5)).before #[Value.ref b] s = true) (h3 : ∀ j, j < 5 → (Cond.eq (.elem (.static RX6 n "[I") (.int (Int32.ofNat j))) (.int (f j))).before #[Value.ref b] s = true) : ∃ t, va_Z RX6 n "[I" (.ref t) (Ah s) s s.heap ∧ va_T .int t 5 (fun j => .int (f j)) (Ah s) s s.heap := by
  have hA : ∀ a : Nat, a < s.heap.size → ¬ Ah s a := fun a h => Nat.not_le.mpr h
  obtain ⟨t, e, hT⟩ := va_Tof (A := Ah s) (N := 5) (f := fun j => .int (f j)) (by decide) h1 (va_eqt h2) (fun j hj => va_eqt (h3 j hj)) hA
  exact ⟨t, va_Zref (hs _ hl) (hs _ hini) e hA, hT⟩
theorem e_str {s : State} {b : Addr} {own tx : String} {i : Nat} (h1 : (Cond.stringRef own i tx).before #[Value.ref b] s = true) (h2 : (Cond.exactly (.string own i) "java/lang/String").before #[Value.ref b] s = true) : ∃ q, vk_R own i tx q s := by
  obtain ⟨a, -, -, -, e, -⟩ := Cond.exactly_spec h2
  exact ⟨a, vk_R.of h1 e⟩
theorem e_EN {s : State} {b : Addr} (hs : ∀ t ∈ lw_tbl, t.before #[Value.ref b] s = true) : EN s :=
  ⟨va_AO.of (hs _ (by decide +kernel)), va_AO.of (hs _ (by decide +kernel)), ⟨va_Nw.of rfl (hs _ (by decide +kernel)), va_Nw.of rfl (hs _ (by decide +kernel)), va_Nw.of rfl (hs _ (by decide +kernel)), va_Nw.of rfl (hs _ (by decide +kernel)), va_Nw.of rfl (hs _ (by decide +kernel))⟩, va_Nw.of rfl (hs _ (by decide +kernel)), va_Nw.of rfl (hs _ (by decide +kernel))⟩
theorem e_EV {s : State} {b : Addr} (hs : ∀ t ∈ lw_tbl, t.before #[Value.ref b] s = true) (hgv : (Jvm.Cond.and given_1 narrow_1).before #[Value.ref b] s = true) : EV (Ah s) s s.heap := by
  have hA : ∀ a : Nat, a < s.heap.size → ¬ Ah s a := fun a h => Nat.not_le.mpr h
  have hg := flat_of_before _ hgv
  refine ⟨⟨e_stat hs "LEAST_SETTING" lS (by decide +kernel) (by decide +kernel) (hg _ (by decide +kernel)) (hg _ (by decide +kernel)) (fun j hj => ?_), e_stat hs "MOST_SETTING" mS (by decide +kernel) (by decide +kernel) (hg _ (by decide +kernel)) (hg _ (by decide +kernel)) (fun j hj => ?_)⟩,
    vx_Zqof (hs _ (by decide +kernel)) (hs _ (by decide +kernel)) (hg _ (by decide +kernel)) hA, vx_Zqof (hs _ (by decide +kernel)) (hs _ (by decide +kernel)) (hg _ (by decide +kernel)) hA,
    ⟨(e_EN hs).2.2, va_Nw.of rfl (hs _ (by decide +kernel)), va_Nw.of rfl (hs _ (by decide +kernel)), va_Nw.of rfl (hs _ (by decide +kernel)), va_Nw.of rfl (hs _ (by decide +kernel)), va_Nw.of rfl (hs _ (by decide +kernel)), va_Nc.of (args := #[Value.ref b]) (hg _ (by decide +kernel))⟩,
    e_str (hs _ (by decide +kernel)) (hg _ (by decide +kernel)), e_str (hs _ (by decide +kernel)) (hg _ (by decide +kernel)), e_str (hs _ (by decide +kernel)) (hg _ (by decide +kernel)), e_str (hs _ (by decide +kernel)) (hg _ (by decide +kernel))⟩
  · rcases (show j = 0 ∨ j = 1 ∨ j = 2 ∨ j = 3 ∨ j = 4 by omega) with rfl | rfl | rfl | rfl | rfl <;> exact hg _ (by decide +kernel)
  · rcases (show j = 0 ∨ j = 1 ∨ j = 2 ∨ j = 3 ∨ j = 4 by omega) with rfl | rfl | rfl | rfl | rfl <;> exact hg _ (by decide +kernel)
