/-! what holds at the law's entry: array classes, the two static rows -/
theorem kt_prim {args : Array Value} {s : State} {ty : FieldType} (hp : ty = .int ∨ ty = .boolean) (h : (Cond.arrayClass ty).before args s = true) : ∃ cA : ClassId, ArrOfT s cA ty ∧ va_RA s cA ty := by
  obtain ⟨c, k, comp, h1, h2, h3⟩ := Cond.arrayClass_spec h
  refine ⟨c, fun n z => ⟨fun k h => (by cases h), k, h2, comp, h3⟩, ?_⟩
  rcases hp with rfl | rfl
  · exact h1
  · exact h1
theorem kt_obj {args : Array Value} {s : State} {C : String} (h : (Cond.arrayOver (.object C)).before args s = true) : ∃ cA : ClassId, ArrOfT s cA (.object C) ∧ va_RA s cA (.object C) := by
  obtain ⟨comp, c, k, hcomp, hidx, hk, hkind, hname⟩ := Cond.arrayOver_spec h
  exact ⟨c, fun n z => ⟨fun k h => (by cases h), k, hk, comp, hkind⟩, k, comp, hk, hkind, hcomp, hname⟩
set_option maxRecDepth 100000 in
theorem st_E {args : Array Value} {s : State} {A : Nat → Prop} (hgv : (Jvm.Cond.and given_1 narrow_1).before args s = true) (hl : (Cond.laysStatic "RobotWorld" "EAST_BY" "[I").before args s = true) (hini : (Cond.initialized "RobotWorld").before args s = true) (hA : ∀ a : Nat, a < s.heap.size → ¬ A a) : ∃ t : Nat, va_Z RX3 "EAST_BY" "[I" (.ref t) A s s.heap ∧ va_T .int t 4 (fun i => .int (eB i)) A s s.heap := by
  have hs := flat_of_before _ hgv
  obtain ⟨t, h1, h2⟩ := va_Tof (tm := .static "RobotWorld" "EAST_BY" "[I") (N := 4) (f := fun i => .int (eB i)) (by decide) (hs (.arrayOf (.static "RobotWorld" "EAST_BY" "[I") .int) (by decide +kernel)) (va_eqt (hs (.eq (.length (.static "RobotWorld" "EAST_BY" "[I")) (.int 4)) (by decide +kernel))) (fun j hj => by
    rcases (show j = 0 ∨ j = 1 ∨ j = 2 ∨ j = 3 by omega) with rfl | rfl | rfl | rfl
    · exact va_eqt (hs (.eq (.elem (.static "RobotWorld" "EAST_BY" "[I") (.int 0)) (.int 0)) (by decide +kernel))
    · exact va_eqt (hs (.eq (.elem (.static "RobotWorld" "EAST_BY" "[I") (.int 1)) (.int 1)) (by decide +kernel))
    · exact va_eqt (hs (.eq (.elem (.static "RobotWorld" "EAST_BY" "[I") (.int 2)) (.int 0)) (by decide +kernel))
    · exact va_eqt (hs (.eq (.elem (.static "RobotWorld" "EAST_BY" "[I") (.int 3)) (.int (-1))) (by decide +kernel))) hA
  exact ⟨t, va_Zref hl hini h1 hA, h2⟩
set_option maxRecDepth 100000 in
theorem st_S {args : Array Value} {s : State} {A : Nat → Prop} (hgv : (Jvm.Cond.and given_1 narrow_1).before args s = true) (hl : (Cond.laysStatic "RobotWorld" "SOUTH_BY" "[I").before args s = true) (hini : (Cond.initialized "RobotWorld").before args s = true) (hA : ∀ a : Nat, a < s.heap.size → ¬ A a) : ∃ t : Nat, va_Z RX3 "SOUTH_BY" "[I" (.ref t) A s s.heap ∧ va_T .int t 4 (fun i => .int (sB i)) A s s.heap := by
  have hs := flat_of_before _ hgv
  obtain ⟨t, h1, h2⟩ := va_Tof (tm := .static "RobotWorld" "SOUTH_BY" "[I") (N := 4) (f := fun i => .int (sB i)) (by decide) (hs (.arrayOf (.static "RobotWorld" "SOUTH_BY" "[I") .int) (by decide +kernel)) (va_eqt (hs (.eq (.length (.static "RobotWorld" "SOUTH_BY" "[I")) (.int 4)) (by decide +kernel))) (fun j hj => by
    rcases (show j = 0 ∨ j = 1 ∨ j = 2 ∨ j = 3 by omega) with rfl | rfl | rfl | rfl
    · exact va_eqt (hs (.eq (.elem (.static "RobotWorld" "SOUTH_BY" "[I") (.int 0)) (.int (-1))) (by decide +kernel))
    · exact va_eqt (hs (.eq (.elem (.static "RobotWorld" "SOUTH_BY" "[I") (.int 1)) (.int 0)) (by decide +kernel))
    · exact va_eqt (hs (.eq (.elem (.static "RobotWorld" "SOUTH_BY" "[I") (.int 2)) (.int 1)) (by decide +kernel))
    · exact va_eqt (hs (.eq (.elem (.static "RobotWorld" "SOUTH_BY" "[I") (.int 3)) (.int 0)) (by decide +kernel))) hA
  exact ⟨t, va_Zref hl hini h1 hA, h2⟩
/-- the class's numbers and the reference's: brought to their bounds alike -/
theorem bd_e (k : CK) (M : Mem) (v : Int32) (N : Nat) (hN : 1 ≤ N) (hN2 : N < 2 ^ 31) : ∃ a : Nat, f_X3_bounded k M v (nI N) = nI a ∧ 1 ≤ a ∧ a ≤ N := by
  have h1 : nI 1 = (1 : Int32) := rfl
  unfold f_X3_bounded
  rw [← h1]
  by_cases c1 : nI N < v
  · rw [if_pos c1]
    by_cases c2 : nI 1 < nI N
    · rw [if_pos c2]
      exact ⟨N, rfl, hN, Nat.le_refl N⟩
    · rw [if_neg c2]
      exact ⟨1, rfl, Nat.le_refl 1, hN⟩
  · rw [if_neg c1]
    by_cases c2 : nI 1 < v
    · rw [if_pos c2]
      have h0 : ¬ v < 0 := fun q => Int32.lt_irrefl (Int32.lt_trans (Int32.lt_trans c2 q) (by decide : (0 : Int32) < nI 1))
      obtain ⟨j, hj, rfl⟩ := nI_of h0
      exact ⟨j, rfl, by have := (nI_ltI (by omega) hj).mp c2; omega, by
        rcases Nat.lt_or_ge N j with q | q
        · exact absurd (nI_lt q hj) c1
        · exact q⟩
    · rw [if_neg c2]
      exact ⟨1, rfl, Nat.le_refl 1, hN⟩
theorem nr_e (k : MK) (k2 : CK) (M M2 : Mem) (v : Int32) (N : Nat) (hN : 1 ≤ N) (hN2 : N < 2 ^ 31) : f_X4_near k M v 1 (nI N) = f_X3_bounded k2 M2 v (nI N) := by
  have h1 : nI 1 = (1 : Int32) := rfl
  have h2 : nI 1 ≤ nI N := nI_le hN hN2
  unfold f_X4_near f_X3_bounded
  rw [← h1]
  by_cases c1 : nI N < v
  · rw [if_pos c1, if_pos (Int32.le_trans h2 (Int32.le_of_lt c1)), if_neg (Int32.not_le.mpr c1)]
    by_cases c2 : nI 1 < nI N
    · rw [if_pos c2]
    · rw [if_neg c2]
      exact Int32.le_antisymm (Int32.not_lt.mp c2) h2
  · rw [if_neg c1]
    by_cases c2 : nI 1 < v
    · rw [if_pos c2, if_pos (Int32.le_of_lt c2), if_pos (Int32.not_lt.mp c1)]
    · rw [if_neg c2]
      by_cases c3 : nI 1 ≤ v
      · rw [if_pos c3, if_pos (Int32.not_lt.mp c1)]
        exact Int32.le_antisymm (Int32.not_lt.mp c2) c3
      · rw [if_neg c3]
section LW
variable {p : Program} {l : Launch} {e : Env} {R : Room} {s : State} {m : MethodId} {args : Array Value} {below : List Frame} {meth : Method} {c : Code} {H : Heap} {locs : List Loc} {cells slots : Nat} {Q : State → Prop}
variable {cc : ByteArray} {pc : Nat} {ls : Array Slot} {D : va_G} {cl : List vw_C} {A : Nat → Prop} {ws : va_W}
/-- the law's call of cell -/
theorem lx_cell {b L : Nat} {xs : Nat → Int32} (hL : L < 2 ^ 31) (j : Int32) (hj : ¬ j < 0) (rest : List Value) {bytes : ByteArray} {index maxL nL : Nat} {Ts : List Cond} {own : String} {ret : Option FieldType} (S9 : CallFix p m c cc nL s args Ts own) (cw : CallB R s args own index yL_cell bytes maxL ret wsL_cell (rmK 0 0) 0 0 2 ∧ (Cond.static yL_cell).before args s = true) (hX : va_X b L xs s s.heap) (hbl : b < s.heap.size) (hbA : ¬ A b) (hP : va_P D cl ws H) (hS : va_S A s.heap H locs) (hsz : ls.size = nL) (hr8 : (rest.map fun v => v.category).sum ≤ 8) (hdg : decode cc pc = .ok (.invokestatic index, 3)) (hf : cells ≤ R.cells ∧ slots ≤ R.slots)
    (kk : ∀ (H1 : Heap) (locs1 : List Loc), va_P D cl ws H1 → va_S A s.heap H1 locs1 → W p l e R s m args below meth c H1 locs1 cells slots Q (F0 m (pc + 3) ls (.int (cellF L xs j) :: rest))) : W p l e R s m args below meth c H locs cells slots Q (F0 m pc ls (.int j :: .ref b :: rest)) := by
  refine va_calli (va_runS (As := [.ref b, .int j]) (rest := rest) S9 (c_L_cell l b L xs hL j hj) cw ⟨fun a U g mk q => ?_, fun U hU hW => ⟨rfl, ?_, ?_⟩⟩ rfl rfl hsz rfl (lv_room hr8) hdg hf) hS (fun q _ h => absurd h (fun z => z)) (fun q h => absurd h (fun z => z)) (fun r u t H1 locs1 ht _ hw _ hz hk1 hS1 => ?_)
  · obtain ⟨q0, q1, q2⟩ := q
    exact ⟨q0, va_X.moved (u := U) (U := U.calling g mk a) (Vm.Alike.refl U.vm) q1, q2⟩
  · rw [hU]
    exact (hX.kept (hS.2.1 b hbl hbA)).moved hW.alike
  · rw [hU]
    exact Nat.lt_of_lt_of_le hbl hS.1
  · have hw' : r = cellF L xs j := hw
    rw [hw']
    exact kk H1 locs1 (hP.kept (fun k q hq => hk1 q.1 ((hP k q hq).lt) (fun z => z))) hS1
/-- a constructor's call, what stands behind it told by the contract -/
theorem lx_I3 {S : Type} {B : S → State → Prop} {wr : va_W} {b : Nat} {e0 : va_E} {X : State → Prop} {cI cR cZ : ClassId} {bytes : ByteArray} {index n maxL nL mc ms : Nat} {y : MethodName} {wm Ts : List Cond} {rm : Room} {own : String} (As rest : List Value) (S9 : CallFix p m c cc nL s args Ts own) (hXb : ∀ (a : Array Value) (U : State) (g : JFrame) (mk : MethodId), X U → X (U.calling g mk a)) (hX : ∀ U : State, U.heap = H → s.WarmedH U.vm → X U)
    (hM : Met l y wm rm (va_Pc (.ref b :: As) (fun U => lOK D cI cR cZ H.size [(b, e0)] U ∧ X U)) (va_Qv (fun _ : S => True) B (va_A [(b, e0)] H.size)) mc ms (va_A [(b, e0)] H.size)) (cw : CallB R s args own index y bytes maxL none wm rm mc ms n ∧ y.name = "<init>" ∧ (Cond.instanceMethod y).before args s = true) (hK : va_K D vwCl (K3 cI cR cZ) s) (hP : va_P D vwCl (wr ++ [(b, e0)]) H) (hD : va_D A (wr ++ [(b, e0)])) (hA : ∀ q, s.heap.size ≤ q → A q) (hS : va_S A s.heap H locs) (hn : As.length = n) (hsz : ls.size = nL) {st : List Value} (hst : st = As.reverse ++ .ref b :: rest) (hr8 : (rest.map fun v => v.category).sum ≤ 8) (hdg : decode cc pc = .ok (.invokespecial index, 3)) (hf : cells + mc ≤ R.cells ∧ slots + ms ≤ R.slots)
    (kk : ∀ (u : S) (t : State) (H1 : Heap) (locs1 : List Loc), t.heap = H1 → B u t → H.size ≤ H1.size → (∀ q : Nat, q < H.size → ¬ va_A [(b, e0)] H.size q → H1[q]? = H[q]?) → (∀ q, va_A [(b, e0)] H.size q → A q) → va_S A s.heap H1 locs1 → W p l e R s m args below meth c H1 locs1 (cells + mc) (slots + ms) Q (F0 m (pc + 3) ls rest)) : W p l e R s m args below meth c H locs cells slots Q (F0 m pc ls st) := by
  subst hst
  have hPc : va_P D vwCl [(b, e0)] H := fun k q hq => hP (wr.length + k) q (by rw [List.getElem?_append_right (by omega)]; simpa using hq)
  have hDc : va_D A [(b, e0)] := by
    refine ⟨fun i j x z hx hz _ => ?_, fun k q hq => hD.2 (wr.length + k) q (by rw [List.getElem?_append_right (by omega)]; simpa using hq)⟩
    have h1 := (List.getElem?_eq_some_iff.mp hx).1
    have h2 := (List.getElem?_eq_some_iff.mp hz).1
    simp at h1 h2
    omega
  have hF : ∀ q, va_A [(b, e0)] H.size q → A q := by
    intro q h
    rcases h with ⟨k, e1, h⟩ | h
    · exact hDc.2 k (q, e1) h
    · exact hA q (Nat.le_trans hS.1 h)
  refine va_callv (va_runI (As := As) (rest := rest) S9 hM cw ⟨fun a U g mk q => ?_, fun U hU hW => ⟨rfl, ⟨by rw [hU], by rw [hU]; exact hPc, va_K.moved hW.alike hK, hDc.weaken (fun _ _ _ _ => trivial)⟩, hX U hU hW⟩⟩ rfl hn hsz rfl (lv_room hr8) hdg hf) hS (fun q _ h => hF q h) hF (fun u t H1 locs1 ht _ _ hB hz hk1 hS1 => kk u t H1 locs1 ht hB hz hk1 hF hS1)
  obtain ⟨q0, ⟨q1, qP, qK, qD⟩, q9⟩ := q
  exact ⟨q0, ⟨q1, qP, va_K.moved (u := U) (U := U.calling g mk a) (Vm.Alike.refl U.vm) qK, qD⟩, hXb a U g mk q9⟩
end LW
