/-! THE TWO SIDE BY SIDE. SimR: the class's memory M and the reference's N hold the same world (its last part is still to be said) -/
def SimX (k : CK) (q : MK) (M N : Mem) : Prop := (k.2.1 0 = q.2.1 0 ∧ k.2.1 2 = q.2.1 3 ∧ k.2.1 3 = q.2.1 4 ∧ M 0 1 0 = nI (q.2.1 1) ∧ M 0 1 1 = nI (q.2.1 2)) ∧ (M 0 0 2 = N 0 0 20 ∧ M 0 0 3 = N 0 0 19)
def SimR (k : CK) (q : MK) (M N : Mem) : Prop := cI k M ∧ mI q N ∧ SimX k q M N
theorem sim_init_ {k : CK} {q : MK} {M N : Mem} (h : SimR k q M N) : SimR k q (f_X3_init_ k M) (f_X4_init_ q N) := sorry
theorem sim_setWall {k : CK} {q : MK} {M N : Mem} (h : SimR k q M N) (x y z : Int32) (hz : z = 0 ∨ z = 1) : (f_X3_setWall k M x y z).1 = (f_X4_setWall q N x y z).1 ∧ SimR k q (f_X3_setWall k M x y z).2 (f_X4_setWall q N x y z).2 := sorry
theorem sim_putItem {k : CK} {q : MK} {M N : Mem} (h : SimR k q M N) (x y : Int32) : (f_X3_putItem k M x y).1 = (f_X4_putItem q N x y).1 ∧ SimR k q (f_X3_putItem k M x y).2 (f_X4_putItem q N x y).2 := sorry
theorem sim_spawn {k : CK} {q : MK} {M N : Mem} (h : SimR k q M N) (x y : Int32) : (f_X3_spawn k M x y).1 = (f_X4_spawn q N x y).1 ∧ SimR k q (f_X3_spawn k M x y).2 (f_X4_spawn q N x y).2 := sorry
theorem sim_load {k : CK} {q : MK} {M N : Mem} (h : SimR k q M N) (x y : Int32) : (f_X3_load k M x y).1 = (f_X4_load q N x y).1 ∧ SimR k q (f_X3_load k M x y).2 (f_X4_load q N x y).2 := sorry
theorem sim_startRobot {k : CK} {q : MK} {M N : Mem} (h : SimR k q M N) (x : Int32) : (f_X3_startRobot k M x).1 = (f_X4_startRobot q N x).1 ∧ SimR k q (f_X3_startRobot k M x).2 (f_X4_startRobot q N x).2 := sorry
theorem sim_tick {k : CK} {q : MK} {M N : Mem} (h : SimR k q M N) : (f_X3_tick k M).1 = (f_X4_tick q N).1 ∧ SimR k q (f_X3_tick k M).2 (f_X4_tick q N).2 := sorry
theorem sim_runTicks {k : CK} {q : MK} {M N : Mem} (h : SimR k q M N) (x : Int32) : (f_X3_runTicks k M x).1 = (f_X4_runTicks q N x).1 ∧ SimR k q (f_X3_runTicks k M x).2 (f_X4_runTicks q N x).2 := sorry
theorem sim_kill {k : CK} {q : MK} {M N : Mem} (h : SimR k q M N) (x : Int32) : (f_X3_kill k M x).1 = (f_X4_kill q N x).1 ∧ SimR k q (f_X3_kill k M x).2 (f_X4_kill q N x).2 := sorry
theorem sim_robotX {k : CK} {q : MK} {M N : Mem} (h : SimR k q M N) (x : Int32) : f_X3_robotX k M x = f_X4_robotX q N x := sorry
theorem sim_robotY {k : CK} {q : MK} {M N : Mem} (h : SimR k q M N) (x : Int32) : f_X3_robotY k M x = f_X4_robotY q N x := sorry
theorem sim_robotState {k : CK} {q : MK} {M N : Mem} (h : SimR k q M N) (x : Int32) : f_X3_robotState k M x = f_X4_robotState q N x := sorry
theorem sim_reg {k : CK} {q : MK} {M N : Mem} (h : SimR k q M N) (x y : Int32) : f_X3_reg k M x y = f_X4_reg q N x y := sorry
theorem sim_at {k : CK} {q : MK} {M N : Mem} (h : SimR k q M N) (x y : Int32) : f_X3_at k M x y = f_X4_at q N x y := sorry
theorem sim_pathLength {k : CK} {q : MK} {M N : Mem} (h : SimR k q M N) (x y z w : Int32) : (f_X3_pathLength k M x y z w).1 = (f_X4_pathLength q N x y z w).1 ∧ SimR k q (f_X3_pathLength k M x y z w).2 (f_X4_pathLength q N x y z w).2 := sorry
theorem sim_now {k : CK} {q : MK} {M N : Mem} (h : SimR k q M N) : f_X3_now k M = f_X4_now q N := sorry
theorem sim_setClock {k : CK} {q : MK} {M N : Mem} (h : SimR k q M N) (x : Int32) : SimR k q (f_X3_setClock k M x) (f_X4_setClock q N x) := sorry
/-- the two side by side in one heap -/
theorem keep2 {w w2 : WG} {N : Mem} {H H1 : Heap} (hQ : wP w2 N H) (hdis : ∀ a, wA w2 a → ¬ wA w a) (hk : ∀ a : Nat, a < H.size → ¬ wA w a → H1[a]? = H[a]?) : wP w2 N H1 := by
  intro t x hx
  have h1 := hQ t x hx
  refine h1.kept (hk x.1 h1.lt (hdis _ ?_))
  simp only [wW, pool, List.getElem?_map] at hx
  cases hy : (wI w2)[t]? with
  | none => rw [hy] at hx; cases hx
  | some y =>
    rw [hy] at hx
    cases hx
    exact ⟨y.1, y.2, List.mem_of_getElem? hy, rfl⟩
