/-! functions of both sides that the throws and the setting speak of -/
def lS (j : Nat) : Int32 := if j = 0 then 40 else 0
def mS (j : Nat) : Int32 := if j = 0 then 400 else if j = 1 then 3 else if j = 2 then 200 else if j = 3 then 9 else 999
def f_X0_isSetting (a1 a2 : Int32) : Int32 := if a1 < 0 then 0 else if 5 ≤ a1 then 0 else if 5 ≤ a1 then 0 else if a2 < lS a1.toNatClampNeg then 0 else if mS a1.toNatClampNeg < a2 then 0 else 1
def f_X6_set (M : Mem) (a1 a2 : Int32) : Int32 × Mem := if ¬ f_X0_isSetting a1 a2 = 0 then (if ¬ a1 = 0 then f_X0_change M 1 a1 a2 else if f_X3_reaches M 13 a2 = 0 then f_X0_change M 1 a1 a2 else (-3, M)) else (-1, M)
def eC (M : Mem) (a1 a2 : Int32) : Int32 := oel (f_X6_shelfAt M a1) 1 fun b => if M b 0 = 2 then (if f_X5_hasPlace M b a2 = 0 then 2 else 0) else 2
def vC (M : Mem) (a1 a2 : Int32) : Int64 := oel (f_X6_shelfAt M a1) 0 fun b => (M (b + 16) a2.toNatClampNeg).toInt64
def f_X6_toss (M : Mem) (a1 : Int32) : Int32 := oel (f_X6_shelfAt M a1) (-1) fun b => if f_X5_sailorRefusal M b = 0 then (if f_X4_hasFailure M (b + 8) = 0 then -15 else f_X4_failureNumber M (b + 8)) else f_X5_sailorRefusal M b
/-! what the pure layer owes, a law each -/
def S_set (Core : Mem → Mem → Prop) : Prop := ∀ (C R : Mem) (a1 a2 : Int32), Core C R → MI R → SN (R 20) → (f_X6_set C a1 a2).1 = (f_X7_set R a1 a2).1 ∧ Core (f_X6_set C a1 a2).2 (f_X7_set R a1 a2).2
def S_fault (Core : Mem → Mem → Prop) : Prop := ∀ (C R : Mem) (a1 : Int32), Core C R → MI R → SN (R 20) → f_X6_fault C a1 = (f_X7_fault R a1).1 ∧ Core C (f_X7_fault R a1).2
def S_law (Core : Mem → Mem → Prop) : Prop := ∀ (C R : Mem) (a1 : Int32), Core C R → MI R → SN (R 20) → (f_X6_law C a1).1 = (f_X7_law R a1).1 ∧ Core (f_X6_law C a1).2 (f_X7_law R a1).2
def S_wind (Core : Mem → Mem → Prop) : Prop := ∀ (C R : Mem) (a1 : Int32), Core C R → MI R → SN (R 20) → (f_X6_wind C a1).1 = (f_X7_wind R a1).1 ∧ Core (f_X6_wind C a1).2 (f_X7_wind R a1).2
def S_boat (Core : Mem → Mem → Prop) : Prop := ∀ (C R : Mem) (a1 a2 a3 a4 : Int32), Core C R → MI R → SN (R 20) → (a3 = 0 ∨ a3 = 1) → (f_X6_boat C a1 a2 a3 a4).1 = (f_X7_boat R a1 a2 a3 a4).1 ∧ Core (f_X6_boat C a1 a2 a3 a4).2 (f_X7_boat R a1 a2 a3 a4).2
def S_of (Core : Mem → Mem → Prop) : Prop := ∀ (C R : Mem) (a1 a2 : Int32), Core C R → MI R → SN (R 20) → f_X6_of C a1 a2 = (f_X7_of R a1 a2).1 ∧ Core C (f_X7_of R a1 a2).2
def S_badAir (Core : Mem → Mem → Prop) : Prop := ∀ (C R : Mem) (a1 : Int32), Core C R → MI R → SN (R 20) → (f_X6_badAir C a1).1 = (f_X7_badAir R a1).1 ∧ Core (f_X6_badAir C a1).2 (f_X7_badAir R a1).2
def S_go (Core : Mem → Mem → Prop) : Prop := ∀ (C R : Mem) (a1 : Int32), Core C R → MI R → SN (R 20) → (f_X6_go C a1).1 = (f_X7_go R a1).1 ∧ Core (f_X6_go C a1).2 (f_X7_go R a1).2
def S_turn (Core : Mem → Mem → Prop) : Prop := ∀ (C R : Mem) (a1 : Int32), Core C R → MI R → SN (R 20) → (f_X6_turn C a1).1 = (f_X7_turn R a1).1 ∧ Core (f_X6_turn C a1).2 (f_X7_turn R a1).2
def S_anew (Core : Mem → Mem → Prop) : Prop := ∀ (C R : Mem), Core C R → MI R → SN (R 20) → (f_X6_anew C).1 = (f_X7_anew R).1 ∧ Core (f_X6_anew C).2 (f_X7_anew R).2
def S_place (Core : Mem → Mem → Prop) : Prop := ∀ (C R : Mem) (a1 : Int32), Core C R → MI R → SN (R 20) → f_X6_place C a1 = (f_X7_place R a1).1 ∧ Core C (f_X7_place R a1).2
def S_ends (Core : Mem → Mem → Prop) : Prop := ∀ (C R : Mem) (a1 : Int32), Core C R → MI R → SN (R 20) → (f_X6_ends C a1).1 = (f_X7_ends R a1).1 ∧ Core (f_X6_ends C a1).2 (f_X7_ends R a1).2
def S_tacks (Core : Mem → Mem → Prop) : Prop := ∀ (C R : Mem) (a1 a2 a3 : Int32), Core C R → MI R → SN (R 20) → (a2 = 0 ∨ a2 = 1) → (f_X6_tacks C a1 a2 a3).1 = (f_X7_tacks R a1 a2 a3).1 ∧ Core (f_X6_tacks C a1 a2 a3).2 (f_X7_tacks R a1 a2 a3).2
def S_best (Core : Mem → Mem → Prop) : Prop := ∀ (C R : Mem) (a1 a2 a3 : Int32), Core C R → MI R → SN (R 20) → (a2 = 0 ∨ a2 = 1) → (f_X6_best C a1 a2 a3).1 = (f_X7_best R a1 a2 a3).1 ∧ Core (f_X6_best C a1 a2 a3).2 (f_X7_best R a1 a2 a3).2
def S_sides (Core : Mem → Mem → Prop) : Prop := ∀ (C R : Mem), Core C R → MI R → SN (R 20) → (f_X6_sides C).1 = (f_X7_sides R).1 ∧ Core (f_X6_sides C).2 (f_X7_sides R).2
def S_lead (Core : Mem → Mem → Prop) : Prop := ∀ (C R : Mem) (a1 a2 a3 a4 a5 : Int32), Core C R → MI R → SN (R 20) → (f_X6_lead C a1 a2 a3 a4 a5).1 = (f_X7_lead R a1 a2 a3 a4 a5).1 ∧ Core (f_X6_lead C a1 a2 a3 a4 a5).2 (f_X7_lead R a1 a2 a3 a4 a5).2
def S_safe (Core : Mem → Mem → Prop) : Prop := ∀ (C R : Mem) (a1 a2 a3 a4 : Int32), Core C R → MI R → SN (R 20) → (f_X6_safe C a1 a2 a3 a4).1 = (f_X7_safe R a1 a2 a3 a4).1 ∧ Core (f_X6_safe C a1 a2 a3 a4).2 (f_X7_safe R a1 a2 a3 a4).2
def S_answer (Core : Mem → Mem → Prop) : Prop := ∀ (C R : Mem) (a1 a2 a3 a4 : Int32), Core C R → MI R → SN (R 20) → (f_X6_answer C a1 a2 a3 a4).1 = (f_X7_answer R a1 a2 a3 a4).1 ∧ Core (f_X6_answer C a1 a2 a3 a4).2 (f_X7_answer R a1 a2 a3 a4).2
def S_cover (Core : Mem → Mem → Prop) : Prop := ∀ (C R : Mem) (a1 a2 a3 a4 : Int32), Core C R → MI R → SN (R 20) → (f_X6_cover C a1 a2 a3 a4).1 = (f_X7_cover R a1 a2 a3 a4).1 ∧ Core (f_X6_cover C a1 a2 a3 a4).2 (f_X7_cover R a1 a2 a3 a4).2
def S_which (Core : Mem → Mem → Prop) : Prop := ∀ (C R : Mem) (a1 : Int32), Core C R → MI R → SN (R 20) → f_X6_which C a1 = (f_X7_which R a1).1 ∧ Core C (f_X7_which R a1).2
def S_read (Core : Mem → Mem → Prop) : Prop := ∀ (C R : Mem) (a1 a2 : Int32), Core C R → MI R → SN (R 20) → (f_X6_read C a1 a2).1 = (f_X7_read R a1 a2).1 ∧ Core (f_X6_read C a1 a2).2 (f_X7_read R a1 a2).2
def S_worth (Core : Mem → Mem → Prop) : Prop := ∀ (C R : Mem) (a1 a2 : Int32), Core C R → MI R → SN (R 20) → (f_X6_worth C a1 a2).1 = (f_X7_worth R a1 a2).1 ∧ Core (f_X6_worth C a1 a2).2 (f_X7_worth R a1 a2).2
def S_pairs (Core : Mem → Mem → Prop) : Prop := ∀ (C R : Mem), Core C R → MI R → SN (R 20) → (f_X6_pairs C).1 = (f_X7_pairs R).1 ∧ Core (f_X6_pairs C).2 (f_X7_pairs R).2
def S_image (Core : Mem → Mem → Prop) : Prop := ∀ (C R : Mem), Core C R → MI R → SN (R 20) → (f_X6_image C).1 = (f_X7_image R).1 ∧ Core (f_X6_image C).2 (f_X7_image R).2
def S_restore (Core : Mem → Mem → Prop) : Prop := ∀ (C R : Mem), Core C R → MI R → SN (R 20) → (f_X6_restore C).1 = (f_X7_restore R).1 ∧ Core (f_X6_restore C).2 (f_X7_restore R).2
def S_count (Core : Mem → Mem → Prop) : Prop := ∀ (C R : Mem) (a1 : Int32), Core C R → MI R → SN (R 20) → (f_X6_count C a1).1 = (f_X7_count R a1).1 ∧ Core (f_X6_count C a1).2 (f_X7_count R a1).2
def S_keep (Core : Mem → Mem → Prop) : Prop := ∀ (C R : Mem) (a1 a2 a3 : Int32), Core C R → MI R → SN (R 20) → (f_X6_keep C a1 a2 a3).1 = (f_X7_keep R a1 a2 a3).1 ∧ Core (f_X6_keep C a1 a2 a3).2 (f_X7_keep R a1 a2 a3).2
def S_row (Core : Mem → Mem → Prop) : Prop := ∀ (C R : Mem) (a1 a2 a3 : Int32), Core C R → MI R → SN (R 20) → (f_X6_row C a1 a2 a3).1 = (f_X7_row R a1 a2 a3).1 ∧ Core (f_X6_row C a1 a2 a3).2 (f_X7_row R a1 a2 a3).2
def S_put (Core : Mem → Mem → Prop) : Prop := ∀ (C R : Mem) (a1 a2 a3 : Int32), Core C R → MI R → SN (R 20) → (f_X6_put C a1 a2 a3).1 = (f_X7_put R a1 a2 a3).1 ∧ Core (f_X6_put C a1 a2 a3).2 (f_X7_put R a1 a2 a3).2
def S_element (Core : Mem → Mem → Prop) : Prop := ∀ (C R : Mem) (a1 a2 : Int32), Core C R → MI R → SN (R 20) → f_X7_thrown (f_X7_element R a1 a2).2 = eC C a1 a2 ∧ (eC C a1 a2 = 0 → vC C a1 a2 = (f_X7_element R a1 a2).1) ∧ Core C (f_X7_element R a1 a2).2
def S_copy (Core : Mem → Mem → Prop) : Prop := ∀ (C R : Mem) (a1 a2 a3 a4 a5 : Int32), Core C R → MI R → SN (R 20) → (f_X6_copy C a1 a2 a3 a4 a5).1 = (f_X7_copy R a1 a2 a3 a4 a5).1 ∧ Core (f_X6_copy C a1 a2 a3 a4 a5).2 (f_X7_copy R a1 a2 a3 a4 a5).2
def S_skill (Core : Mem → Mem → Prop) : Prop := ∀ (C R : Mem) (a1 : Int32), Core C R → MI R → SN (R 20) → f_X6_skill C a1 = (f_X7_skill R a1).1 ∧ Core C (f_X7_skill R a1).2
def S_toss (Core : Mem → Mem → Prop) : Prop := ∀ (C R : Mem) (a1 : Int32), Core C R → MI R → SN (R 20) → f_X6_toss C a1 = (f_X7_toss R a1).1 ∧ Core C (f_X7_toss R a1).2
