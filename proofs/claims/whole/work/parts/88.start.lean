-- @needs 86_loop 79_lawin
set_option maxRecDepth 100000
theorem st_arr {s : State} {args : Array Value} {ty : FieldType} (hn : ∀ C, ty ≠ .object C) (h : (Cond.arrayClass ty).before args s = true) : ∃ cA, ArrOfT s cA ty ∧ va_RA s cA ty := by
  obtain ⟨c, k, comp, h1, h2, h3⟩ := Cond.arrayClass_spec h
  refine ⟨c, fun n z => ⟨fun k h => (by cases h), k, h2, comp, h3⟩, ?_⟩
  unfold va_RA
  split
  · rename_i C; exact absurd rfl (hn C)
  · exact h1
theorem st_obj {s : State} {C : String} (h : va_AO C s) : ∃ cA, ArrOfT s cA (.object C) ∧ va_RA s cA (.object C) := by
  obtain ⟨comp, c, k, h1, -, h3, h4, h5⟩ := Cond.arrayOver_spec h
  exact ⟨c, fun n z => ⟨fun k h => (by cases h), k, h3, comp, h4⟩, k, comp, h3, h4, h1, h5⟩
theorem st_K {s : State} {args : Array Value} (hG : ∀ w ∈ wsL_law, w.before args s = true) (hB : va_AO "WindBay$Boat" s) (hSf : va_AO "WindBay$Shelf" s) : ∃ (D : va_G) (k : Nat → ClassId), va_K D vwCl (tysC k) s := by
  obtain ⟨c0, i0, h0⟩ := u_known (C := RX0) (T := TX0) (N := 7) (n := 7) hG inlX0 (hG _ gw_1_14)
  obtain ⟨c1, i1, h1⟩ := u_known (C := RX1) (T := TX1) (N := 11) (n := 11) hG inlX1 (hG _ gw_3_10)
  obtain ⟨c2, i2, h2⟩ := u_known (C := RX2) (T := TX2) (N := 5) (n := 5) hG inlX2 (hG _ gw_2_13)
  obtain ⟨c3, i3, h3⟩ := u_known (C := RX3) (T := TX3) (N := 3) (n := 3) hG inlX3 (hG _ gw_1_18)
  obtain ⟨c4, i4, h4⟩ := u_known (C := RX4) (T := TX4) (N := 3) (n := 3) hG inlX4 (hG _ gw_3_16)
  obtain ⟨c5, i5, h5⟩ := u_known (C := RX5) (T := TX5) (N := 5) (n := 5) hG inlX5 (hG _ gw_2_3)
  obtain ⟨c6, i6, h6⟩ := u_known (C := RX6) (T := TX6) (N := 8) (n := 8) hG inlX6 (hG _ gw_1_1)
  obtain ⟨c7, i7, h7⟩ := u_known (C := RX7) (T := TX7) (N := 50) (n := 50) hG inlX7 (hG _ gw_1_4)
  obtain ⟨a0, p0, q0⟩ := st_arr (ty := .int) (fun C h => by cases h) (hG _ gw_2_16)
  obtain ⟨a1, p1, q1⟩ := st_obj hB
  obtain ⟨a2, p2, q2⟩ := st_obj hSf
  obtain ⟨a3, p3, q3⟩ := st_arr (ty := .long) (fun C h => by cases h) (hG _ gw_1_6)
  refine ⟨(fun c => match c with | 0 => c0 | 1 => c1 | 2 => c2 | 3 => c3 | 4 => c4 | 5 => c5 | 6 => c6 | _ => c7, fun c => match c with | 0 => i0 | 1 => i1 | 2 => i2 | 3 => i3 | 4 => i4 | 5 => i5 | 6 => i6 | _ => i7), fun i => match i with | 0 => a0 | 1 => a1 | 2 => a2 | _ => a3, fun c q hq => ?_, fun i q hq => ?_⟩
  · match c, hq with
    | 0, hq => cases hq; exact h0
    | 1, hq => cases hq; exact h1
    | 2, hq => cases hq; exact h2
    | 3, hq => cases hq; exact h3
    | 4, hq => cases hq; exact h4
    | 5, hq => cases hq; exact h5
    | 6, hq => cases hq; exact h6
    | 7, hq => cases hq; exact h7
    | c + 8, hq => exact absurd (List.getElem?_eq_some_iff.mp hq).1 (by show ¬ c + 8 < 8; omega)
  · match i, hq with
    | 0, hq => cases hq; exact ⟨p0, q0⟩
    | 1, hq => cases hq; exact ⟨p1, q1⟩
    | 2, hq => cases hq; exact ⟨p2, q2⟩
    | 3, hq => cases hq; exact ⟨p3, q3⟩
    | i + 4, hq => exact absurd (List.getElem?_eq_some_iff.mp hq).1 (by show ¬ i + 4 < 4; omega)
