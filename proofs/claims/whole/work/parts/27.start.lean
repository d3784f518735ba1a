/-! what holds at the law's entry: array classes, the two static rows -/
theorem kt_prim {args : Array Value} {s : State} {ty : FieldType} (hp : ty = .int ∨ ty = .boolean) (h : (Cond.arrayClass ty).before args s = true) : ∃ cA : ClassId, ArrOfT s cA ty ∧ va_RA s cA ty := by
  obtain ⟨c, k, comp, h1, h2, h3⟩ := Cond.arrayClass_spec h
  refine ⟨c, fun n z => ⟨fun k h => (by cases h), k, h2, comp, h3⟩, ?_⟩
  rcases hp with rfl | rfl
  · exact h1
  · exact h1
theorem kt_obj {args : Array Value} {s : State} {C : String} (h : (Cond.arrayOver (.object C)).before args s = true) : ∃ cA : ClassId, ArrOfT s cA (.object C) ∧ va_RA s cA (.object C) := by
  obtain ⟨comp, c, k, hcomp, hidx, hk, hkind, hname⟩ := Cond.arrayOver_spec h
  exact ⟨c, fun n z => ⟨fun k h => (by cases h), k, hk, comp, hkind⟩, k, comp, hk, hkind, hcomp, hname⟩
set_option maxRecDepth 100000 in
theorem st_E {args : Array Value} {s : State} {A : Nat → Prop} (hgv : (Jvm.Cond.and given_1 narrow_1).before args s = true) (hl : (Cond.laysStatic "RobotWorld" "EAST_BY" "[I").before args s = true) (hini : (Cond.initialized "RobotWorld").before args s = true) (hA : ∀ a : Nat, a < s.heap.size → ¬ A a) : ∃ t : Nat, va_Z RX3 "EAST_BY" "[I" (.ref t) A s s.heap ∧ va_T .int t 4 (fun i => .int (eB i)) A s s.heap := by
  have hs := flat_of_before _ hgv
  obtain ⟨t, h1, h2⟩ := va_Tof (tm := .static "RobotWorld" "EAST_BY" "[I") (N := 4) (f := fun i => .int (eB i)) (by decide) (hs (.arrayOf (.static "RobotWorld" "EAST_BY" "[I") .int) (by decide +kernel)) (va_eqt (hs (.eq (.length (.static "RobotWorld" "EAST_BY" "[I")) (.int 4)) (by decide +kernel))) (fun j hj => by
    rcases (show j = 0 ∨ j = 1 ∨ j = 2 ∨ j = 3 by omega) with rfl | rfl | rfl | rfl
    · exact va_eqt (hs (.eq (.elem (.static "RobotWorld" "EAST_BY" "[I") (.int 0)) (.int 0)) (by decide +kernel))
    · exact va_eqt (hs (.eq (.elem (.static "RobotWorld" "EAST_BY" "[I") (.int 1)) (.int 1)) (by decide +kernel))
    · exact va_eqt (hs (.eq (.elem (.static "RobotWorld" "EAST_BY" "[I") (.int 2)) (.int 0)) (by decide +kernel))
    · exact va_eqt (hs (.eq (.elem (.static "RobotWorld" "EAST_BY" "[I") (.int 3)) (.int (-1))) (by decide +kernel))) hA
  exact ⟨t, va_Zref hl hini h1 hA, h2⟩
set_option maxRecDepth 100000 in
theorem st_S {args : Array Value} {s : State} {A : Nat → Prop} (hgv : (Jvm.Cond.and given_1 narrow_1).before args s = true) (hl : (Cond.laysStatic "RobotWorld" "SOUTH_BY" "[I").before args s = true) (hini : (Cond.initialized "RobotWorld").before args s = true) (hA : ∀ a : Nat, a < s.heap.size → ¬ A a) : ∃ t : Nat, va_Z RX3 "SOUTH_BY" "[I" (.ref t) A s s.heap ∧ va_T .int t 4 (fun i => .int (sB i)) A s s.heap := by
  have hs := flat_of_before _ hgv
  obtain ⟨t, h1, h2⟩ := va_Tof (tm := .static "RobotWorld" "SOUTH_BY" "[I") (N := 4) (f := fun i => .int (sB i)) (by decide) (hs (.arrayOf (.static "RobotWorld" "SOUTH_BY" "[I") .int) (by decide +kernel)) (va_eqt (hs (.eq (.length (.static "RobotWorld" "SOUTH_BY" "[I")) (.int 4)) (by decide +kernel))) (fun j hj => by
    rcases (show j = 0 ∨ j = 1 ∨ j = 2 ∨ j = 3 by omega) with rfl | rfl | rfl | rfl
    · exact va_eqt (hs (.eq (.elem (.static "RobotWorld" "SOUTH_BY" "[I") (.int 0)) (.int (-1))) (by decide +kernel))
    · exact va_eqt (hs (.eq (.elem (.static "RobotWorld" "SOUTH_BY" "[I") (.int 1)) (.int 0)) (by decide +kernel))
    · exact va_eqt (hs (.eq (.elem (.static "RobotWorld" "SOUTH_BY" "[I") (.int 2)) (.int 1)) (by decide +kernel))
    · exact va_eqt (hs (.eq (.elem (.static "RobotWorld" "SOUTH_BY" "[I") (.int 3)) (.int 0)) (by decide +kernel))) hA
  exact ⟨t, va_Zref hl hini h1 hA, h2⟩
/-- the class's numbers and the reference's: brought to their bounds alike -/
theorem bd_e (k : CK) (M : Mem) (v : Int32) (N : Nat) (hN : 1 ≤ N) (hN2 : N < 2 ^ 31) : ∃ a : Nat, f_X3_bounded k M v (nI N) = nI a ∧ 1 ≤ a ∧ a ≤ N := by
  have h1 : nI 1 = (1 : Int32) := rfl
  unfold f_X3_bounded
  rw [← h1]
  by_cases c1 : nI N < v
  · rw [if_pos c1]
    by_cases c2 : nI 1 < nI N
    · rw [if_pos c2]
      exact ⟨N, rfl, hN, Nat.le_refl N⟩
    · rw [if_neg c2]
      exact ⟨1, rfl, Nat.le_refl 1, hN⟩
  · rw [if_neg c1]
    by_cases c2 : nI 1 < v
    · rw [if_pos c2]
      have h0 : ¬ v < 0 := fun q => absurd (Int32.lt_trans (Int32.lt_trans c2 q) (by decide : (0 : Int32) < nI 1)) (Int32.lt_irrefl _)
      obtain ⟨j, hj, rfl⟩ := nI_of h0
      exact ⟨j, rfl, by have := (nI_ltI (by omega) hj).mp c2; omega, by
        rcases Nat.lt_or_ge N j with q | q
        · exact absurd (nI_lt q hj) c1
        · exact q⟩
    · rw [if_neg c2]
      exact ⟨1, rfl, Nat.le_refl 1, hN⟩
