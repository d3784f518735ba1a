/-- by program, from the bytecode of RobotWorld$Land.contentOf -/
def f_X1_contentOf (k : CK) (M : Mem) (p1 : Int32) (p2 : Int32) : Int32 :=
  if (f_X1_isInside k M p1 p2) = 0 then
    (-2)
  else
    (M 0 2 ((p2 * (M 0 1 0)) + p1).toNatClampNeg)
set_option maxHeartbeats 4000000 in
set_option maxRecDepth 100000 in
theorem c_X1_contentOf (l : Launch) (k : CK) (M : Mem) (p1 : Int32) (p2 : Int32) (hI : cI k M) : Met l yX1_contentOf wsX1_contentOf (rmK 1 22) (wPc (cw k) M [.ref (k.1 0 1), .int p1, .int p2]) (wQi (cw k) (fun r u => r = (f_X1_contentOf k M p1 p2) ∧ u = M)) 0 0 (wA (cw k)) := by
  refine wx_met (cc := cX1_contentOf) (maxL := 3) (ret := (some .int)) (by decide) rfl (Nat.le_of_ble_eq_true rfl) ?_
  intro p e s m below meth c ls hx hb hr hml hts hown hlocks hP hK hD hZ hS hl
  have hown : s.vm.findClass RX1 = some m.cls := hown
  have hl : lv_has ls 3 [(0, .ref (k.1 0 1)), (1, .int p1), (2, .int p2)] := hl
  have hiX1 : ∀ x ∈ u_ws RX1 TX1 6, x ∈ wsX1_contentOf := by decide +kernel
  have hf18 := hts (.fieldLink RX1 18 "RobotWorld$Land" "contents" "[I") (by decide +kernel)
  have hf9 := hts (.fieldLink RX1 9 "RobotWorld$Land" "width" "I") (by decide +kernel)
  refine lv_aload_n hx hb dX1_contentOf_0 rfl (lv_at hl 0 rfl) ?_
  refine lv_iload_n hx hb dX1_contentOf_1 rfl (lv_at hl 1 rfl) ?_
  refine lv_iload_n hx hb dX1_contentOf_2 rfl (lv_at hl 2 rfl) ?_
  refine wx_Vi (w := (cw k)) (f_X1_isInside k M p1 p2) M [.int p1, .int p2] [] (cZok k) ⟨hx, hb, hml, hown, hts⟩ (c_X1_isInside l k M p1 p2 ) (cwV 2 hts gX1_contentOf_X1_isInside rfl rfl rfl (by decide +kernel) ⟨by decide, by decide⟩) (wx_recv (w := (cw k)) (g := 0) (j := 1) hK hP (cIx_0 (by decide)) rfl rfl) hP hK hD hZ hS rfl hl.1 rfl (Nat.le_of_ble_eq_true rfl) dX1_contentOf_3 ⟨by decide, by decide⟩ (fun H locs hP hS => ?_)
  refine lv_if_eq (tgt := 25) hx hb dX1_contentOf_6 (by decide) (fun c_6 => ?_) (fun c_6 => ?_)
  · refine lv_bipush (v := (-2)) hx hb dX1_contentOf_25 (by decide) ?_
    have e9 : f_X1_contentOf k M p1 p2 = (-2) := (by unfold f_X1_contentOf; rw [if_pos c_6])
    exact wx_iret hx hb hr hlocks hP hS rfl ⟨e9.symm, rfl⟩ dX1_contentOf_27
  · refine lv_aload_n hx hb dX1_contentOf_9 rfl (lv_at hl 0 rfl) ?_
    refine wx_get (w := (cw k)) (g := 0) (j := 1) hx hb hts hiX1 hown hK hP (cIx_0 (by decide)) rfl rfl 2 (by decide) hf18 rfl dX1_contentOf_10 ?_
    refine lv_iload_n hx hb dX1_contentOf_13 rfl (lv_at hl 2 rfl) ?_
    refine lv_aload_n hx hb dX1_contentOf_14 rfl (lv_at hl 0 rfl) ?_
    refine wx_get (w := (cw k)) (g := 0) (j := 1) hx hb hts hiX1 hown hK hP (cIx_0 (by decide)) rfl rfl 0 (by decide) hf9 rfl dX1_contentOf_15 ?_
    refine lv_imul hx hb dX1_contentOf_18 ?_
    refine lv_iload_n hx hb dX1_contentOf_19 rfl (lv_at hl 1 rfl) ?_
    refine lv_iadd hx hb dX1_contentOf_20 ?_
    refine wx_iald (w := (cw k)) (g := 0) (j := 2) hx hb hK hP (cIx_0 (by decide)) 0 rfl rfl (ins_sq hI c_6) dX1_contentOf_21 ?_
    refine lv_goto (tgt := 27) hx hb dX1_contentOf_22 (by decide) ?_
    have e9 : f_X1_contentOf k M p1 p2 = (M 0 2 ((p2 * (M 0 1 0)) + p1).toNatClampNeg) := (by unfold f_X1_contentOf; rw [if_neg c_6])
    exact wx_iret hx hb hr hlocks hP hS rfl ⟨e9.symm, rfl⟩ dX1_contentOf_27
/-- by program, from the bytecode of RobotWorld$Land.stepsOf -/
def f_X1_stepsOf (k : CK) (M : Mem) (p1 : Int32) (p2 : Int32) : Int32 :=
  if (f_X1_isInside k M p1 p2) = 0 then
    (-1)
  else
    (M 0 3 ((p2 * (M 0 1 0)) + p1).toNatClampNeg)
set_option maxHeartbeats 4000000 in
set_option maxRecDepth 100000 in
theorem c_X1_stepsOf (l : Launch) (k : CK) (M : Mem) (p1 : Int32) (p2 : Int32) (hI : cI k M) : Met l yX1_stepsOf wsX1_stepsOf (rmK 1 22) (wPc (cw k) M [.ref (k.1 0 1), .int p1, .int p2]) (wQi (cw k) (fun r u => r = (f_X1_stepsOf k M p1 p2) ∧ u = M)) 0 0 (wA (cw k)) := by
  refine wx_met (cc := cX1_stepsOf) (maxL := 3) (ret := (some .int)) (by decide) rfl (Nat.le_of_ble_eq_true rfl) ?_
  intro p e s m below meth c ls hx hb hr hml hts hown hlocks hP hK hD hZ hS hl
  have hown : s.vm.findClass RX1 = some m.cls := hown
  have hl : lv_has ls 3 [(0, .ref (k.1 0 1)), (1, .int p1), (2, .int p2)] := hl
  have hiX1 : ∀ x ∈ u_ws RX1 TX1 6, x ∈ wsX1_stepsOf := by decide +kernel
  have hf22 := hts (.fieldLink RX1 22 "RobotWorld$Land" "steps" "[I") (by decide +kernel)
  have hf9 := hts (.fieldLink RX1 9 "RobotWorld$Land" "width" "I") (by decide +kernel)
  refine lv_aload_n hx hb dX1_stepsOf_0 rfl (lv_at hl 0 rfl) ?_
  refine lv_iload_n hx hb dX1_stepsOf_1 rfl (lv_at hl 1 rfl) ?_
  refine lv_iload_n hx hb dX1_stepsOf_2 rfl (lv_at hl 2 rfl) ?_
  refine wx_Vi (w := (cw k)) (f_X1_isInside k M p1 p2) M [.int p1, .int p2] [] (cZok k) ⟨hx, hb, hml, hown, hts⟩ (c_X1_isInside l k M p1 p2 ) (cwV 2 hts gX1_stepsOf_X1_isInside rfl rfl rfl (by decide +kernel) ⟨by decide, by decide⟩) (wx_recv (w := (cw k)) (g := 0) (j := 1) hK hP (cIx_0 (by decide)) rfl rfl) hP hK hD hZ hS rfl hl.1 rfl (Nat.le_of_ble_eq_true rfl) dX1_stepsOf_3 ⟨by decide, by decide⟩ (fun H locs hP hS => ?_)
  refine lv_if_eq (tgt := 25) hx hb dX1_stepsOf_6 (by decide) (fun c_6 => ?_) (fun c_6 => ?_)
  · refine lv_iconst (v := (-1)) hx hb dX1_stepsOf_25 (by decide) ?_
    have e9 : f_X1_stepsOf k M p1 p2 = (-1) := (by unfold f_X1_stepsOf; rw [if_pos c_6])
    exact wx_iret hx hb hr hlocks hP hS rfl ⟨e9.symm, rfl⟩ dX1_stepsOf_26
  · refine lv_aload_n hx hb dX1_stepsOf_9 rfl (lv_at hl 0 rfl) ?_
    refine wx_get (w := (cw k)) (g := 0) (j := 1) hx hb hts hiX1 hown hK hP (cIx_0 (by decide)) rfl rfl 3 (by decide) hf22 rfl dX1_stepsOf_10 ?_
    refine lv_iload_n hx hb dX1_stepsOf_13 rfl (lv_at hl 2 rfl) ?_
    refine lv_aload_n hx hb dX1_stepsOf_14 rfl (lv_at hl 0 rfl) ?_
    refine wx_get (w := (cw k)) (g := 0) (j := 1) hx hb hts hiX1 hown hK hP (cIx_0 (by decide)) rfl rfl 0 (by decide) hf9 rfl dX1_stepsOf_15 ?_
    refine lv_imul hx hb dX1_stepsOf_18 ?_
    refine lv_iload_n hx hb dX1_stepsOf_19 rfl (lv_at hl 1 rfl) ?_
    refine lv_iadd hx hb dX1_stepsOf_20 ?_
    refine wx_iald (w := (cw k)) (g := 0) (j := 3) hx hb hK hP (cIx_0 (by decide)) 0 rfl rfl (ins_sq hI c_6) dX1_stepsOf_21 ?_
    refine lv_goto (tgt := 26) hx hb dX1_stepsOf_22 (by decide) ?_
    have e9 : f_X1_stepsOf k M p1 p2 = (M 0 3 ((p2 * (M 0 1 0)) + p1).toNatClampNeg) := (by unfold f_X1_stepsOf; rw [if_neg c_6])
    exact wx_iret hx hb hr hlocks hP hS rfl ⟨e9.symm, rfl⟩ dX1_stepsOf_26
/-- by program, from the bytecode of RobotWorld$Land.changeWall -/
def f_X1_changeWall (k : CK) (M : Mem) (p1 : Int32) (p2 : Int32) (p3 : Int32) : Mem :=
  if (f_X1_isInside k M p1 p2) = 0 then
    M
  else
    if p3 = 0 then
      if (M 0 2 ((p2 * (M 0 1 0)) + p1).toNatClampNeg) = (-1) then
        (mu (mu M 0 2 ((p2 * (M 0 1 0)) + p1).toNatClampNeg 0) 0 1 5 (-1))
      else
        (mu M 0 1 5 (-1))
    else
      (mu (mu M 0 2 ((p2 * (M 0 1 0)) + p1).toNatClampNeg (-1)) 0 1 5 (-1))
set_option maxHeartbeats 4000000 in
set_option maxRecDepth 100000 in
theorem c_X1_changeWall (l : Launch) (k : CK) (M : Mem) (p1 : Int32) (p2 : Int32) (p3 : Int32) (hI : cI k M) : Met l yX1_changeWall wsX1_changeWall (rmK 1 22) (wPc (cw k) M [.ref (k.1 0 1), .int p1, .int p2, .int p3]) (wQv (cw k) (fun u => u = f_X1_changeWall k M p1 p2 p3)) 0 0 (wA (cw k)) := by
  refine wx_met (cc := cX1_changeWall) (maxL := 5) (ret := none) (by decide) rfl (Nat.le_of_ble_eq_true rfl) ?_
  intro p e s m below meth c ls hx hb hr hml hts hown hlocks hP hK hD hZ hS hl
  have hown : s.vm.findClass RX1 = some m.cls := hown
  have hl : lv_has ls 5 [(0, .ref (k.1 0 1)), (1, .int p1), (2, .int p2), (3, .int p3)] := hl
  have hiX1 : ∀ x ∈ u_ws RX1 TX1 6, x ∈ wsX1_changeWall := by decide +kernel
  have hf18 := hts (.fieldLink RX1 18 "RobotWorld$Land" "contents" "[I") (by decide +kernel)
  have hf28 := hts (.fieldLink RX1 28 "RobotWorld$Land" "goal" "I") (by decide +kernel)
  have hf9 := hts (.fieldLink RX1 9 "RobotWorld$Land" "width" "I") (by decide +kernel)
  refine lv_aload_n hx hb dX1_changeWall_0 rfl (lv_at hl 0 rfl) ?_
  refine lv_iload_n hx hb dX1_changeWall_1 rfl (lv_at hl 1 rfl) ?_
  refine lv_iload_n hx hb dX1_changeWall_2 rfl (lv_at hl 2 rfl) ?_
  refine wx_Vi (w := (cw k)) (f_X1_isInside k M p1 p2) M [.int p1, .int p2] [] (cZok k) ⟨hx, hb, hml, hown, hts⟩ (c_X1_isInside l k M p1 p2 ) (cwV 2 hts gX1_changeWall_X1_isInside rfl rfl rfl (by decide +kernel) ⟨by decide, by decide⟩) (wx_recv (w := (cw k)) (g := 0) (j := 1) hK hP (cIx_0 (by decide)) rfl rfl) hP hK hD hZ hS rfl hl.1 rfl (Nat.le_of_ble_eq_true rfl) dX1_changeWall_3 ⟨by decide, by decide⟩ (fun H locs hP hS => ?_)
  refine lv_if_ne (tgt := 10) hx hb dX1_changeWall_6 (by decide) (fun c_6 => ?_) (fun c_6 => ?_)
  · refine lv_iload_n hx hb dX1_changeWall_10 rfl (lv_at hl 2 rfl) ?_
    refine lv_aload_n hx hb dX1_changeWall_11 rfl (lv_at hl 0 rfl) ?_
    refine wx_get (w := (cw k)) (g := 0) (j := 1) hx hb hts hiX1 hown hK hP (cIx_0 (by decide)) rfl rfl 0 (by decide) hf9 rfl dX1_changeWall_12 ?_
    refine lv_imul hx hb dX1_changeWall_15 ?_
    refine lv_iload_n hx hb dX1_changeWall_16 rfl (lv_at hl 1 rfl) ?_
    refine lv_iadd hx hb dX1_changeWall_17 ?_
    refine lv_istore (lv' := [(4, .int ((p2 * (M 0 1 0)) + p1)), (0, .ref (k.1 0 1)), (1, .int p1), (2, .int p2), (3, .int p3)]) hx hb dX1_changeWall_18 hl (by decide) rfl (fun ls hl => ?_)
    refine lv_iload_n hx hb dX1_changeWall_20 rfl (lv_at hl 4 rfl) ?_
    refine lv_if_eq (tgt := 35) hx hb dX1_changeWall_21 (by decide) (fun c_21 => ?_) (fun c_21 => ?_)
    · refine lv_aload_n hx hb dX1_changeWall_35 rfl (lv_at hl 1 rfl) ?_
      refine wx_get (w := (cw k)) (g := 0) (j := 1) hx hb hts hiX1 hown hK hP (cIx_0 (by decide)) rfl rfl 2 (by decide) hf18 rfl dX1_changeWall_36 ?_
      refine lv_iload hx hb dX1_changeWall_39 (lv_at hl 0 rfl) ?_
      refine wx_iald (w := (cw k)) (g := 0) (j := 2) hx hb hK hP (cIx_0 (by decide)) 0 rfl rfl (ins_sq hI c_6) dX1_changeWall_41 ?_
      refine lv_iconst (v := (-1)) hx hb dX1_changeWall_42 (by decide) ?_
      refine lv_icmp_ne (tgt := 54) hx hb dX1_changeWall_43 (by decide) (fun c_43 => ?_) (fun c_43 => ?_)
      · refine lv_aload_n hx hb dX1_changeWall_54 rfl (lv_at hl 1 rfl) ?_
        refine lv_iconst (v := (-1)) hx hb dX1_changeWall_55 (by decide) ?_
        refine wx_put (w := (cw k)) (g := 0) (j := 1) hx hb hts hiX1 tyX1 tyX1_ok nmX1 hown hK hP hD hS (cIx_0 (by decide)) rfl rfl 5 (by decide) hf28 rfl (by decide +kernel) rfl (Nat.le_of_ble_eq_true rfl) dX1_changeWall_56 (fun H locs hP hS => ?_)
        have e9 : f_X1_changeWall k M p1 p2 p3 = (mu M 0 1 5 (-1)) := (by unfold f_X1_changeWall; rw [if_neg c_6, if_pos c_21, if_neg c_43])
        exact wx_vret hx hb hr hlocks hP hS e9.symm dX1_changeWall_59
      · refine lv_aload_n hx hb dX1_changeWall_46 rfl (lv_at hl 1 rfl) ?_
        refine wx_get (w := (cw k)) (g := 0) (j := 1) hx hb hts hiX1 hown hK hP (cIx_0 (by decide)) rfl rfl 2 (by decide) hf18 rfl dX1_changeWall_47 ?_
        refine lv_iload hx hb dX1_changeWall_50 (lv_at hl 0 rfl) ?_
        refine lv_iconst (v := 0) hx hb dX1_changeWall_52 (by decide) ?_
        refine wx_iast (w := (cw k)) (g := 0) (j := 2) hx hb hK hP hD hS (cIx_0 (by decide)) 0 (fun _ => rfl) rfl (ins_sq hI c_6) dX1_changeWall_53 (fun H locs hP hS => ?_)
        refine lv_aload_n hx hb dX1_changeWall_54 rfl (lv_at hl 1 rfl) ?_
        refine lv_iconst (v := (-1)) hx hb dX1_changeWall_55 (by decide) ?_
        refine wx_put (w := (cw k)) (g := 0) (j := 1) hx hb hts hiX1 tyX1 tyX1_ok nmX1 hown hK hP hD hS (cIx_0 (by decide)) rfl rfl 5 (by decide) hf28 rfl (by decide +kernel) rfl (Nat.le_of_ble_eq_true rfl) dX1_changeWall_56 (fun H locs hP hS => ?_)
        have e9 : f_X1_changeWall k M p1 p2 p3 = (mu (mu M 0 2 ((p2 * (M 0 1 0)) + p1).toNatClampNeg 0) 0 1 5 (-1)) := (by unfold f_X1_changeWall; rw [if_neg c_6, if_pos c_21, if_pos c_43])
        exact wx_vret hx hb hr hlocks hP hS e9.symm dX1_changeWall_59
    · refine lv_aload_n hx hb dX1_changeWall_24 rfl (lv_at hl 1 rfl) ?_
      refine wx_get (w := (cw k)) (g := 0) (j := 1) hx hb hts hiX1 hown hK hP (cIx_0 (by decide)) rfl rfl 2 (by decide) hf18 rfl dX1_changeWall_25 ?_
      refine lv_iload hx hb dX1_changeWall_28 (lv_at hl 0 rfl) ?_
      refine lv_iconst (v := (-1)) hx hb dX1_changeWall_30 (by decide) ?_
      refine wx_iast (w := (cw k)) (g := 0) (j := 2) hx hb hK hP hD hS (cIx_0 (by decide)) 0 (fun _ => rfl) rfl (ins_sq hI c_6) dX1_changeWall_31 (fun H locs hP hS => ?_)
      refine lv_goto (tgt := 54) hx hb dX1_changeWall_32 (by decide) ?_
      refine lv_aload_n hx hb dX1_changeWall_54 rfl (lv_at hl 1 rfl) ?_
      refine lv_iconst (v := (-1)) hx hb dX1_changeWall_55 (by decide) ?_
      refine wx_put (w := (cw k)) (g := 0) (j := 1) hx hb hts hiX1 tyX1 tyX1_ok nmX1 hown hK hP hD hS (cIx_0 (by decide)) rfl rfl 5 (by decide) hf28 rfl (by decide +kernel) rfl (Nat.le_of_ble_eq_true rfl) dX1_changeWall_56 (fun H locs hP hS => ?_)
      have e9 : f_X1_changeWall k M p1 p2 p3 = (mu (mu M 0 2 ((p2 * (M 0 1 0)) + p1).toNatClampNeg (-1)) 0 1 5 (-1)) := (by unfold f_X1_changeWall; rw [if_neg c_6, if_neg c_21])
      exact wx_vret hx hb hr hlocks hP hS e9.symm dX1_changeWall_59
  · have e9 : f_X1_changeWall k M p1 p2 p3 = M := (by unfold f_X1_changeWall; rw [if_pos c_6])
    exact wx_vret hx hb hr hlocks hP hS e9.symm dX1_changeWall_9
theorem cI_changeWall {k : CK} {M : Mem} {x y z : Int32} (hI : cI k M) : cI k (f_X1_changeWall k M x y z) := by
  unfold f_X1_changeWall
  repeat' split
  all_goals first | exact hI | exact cI_mu (cI_mu hI (by omega) (by omega) (by omega)) (by omega) (by omega) (by omega) | exact cI_mu hI (by omega) (by omega) (by omega)
/-- by program, from the bytecode of RobotWorld$Land.addItem -/
def f_X1_addItem (k : CK) (M : Mem) (p1 : Int32) (p2 : Int32) : Int32 × Mem :=
  if (f_X1_isOpen k M p1 p2) = 0 then
    (0, M)
  else
    if (M 0 2 ((p2 * (M 0 1 0)) + p1).toNatClampNeg) < 99 then
      (1, (mu M 0 2 ((p2 * (M 0 1 0)) + p1).toNatClampNeg ((M 0 2 ((p2 * (M 0 1 0)) + p1).toNatClampNeg) + 1)))
    else
      (0, M)
set_option maxHeartbeats 4000000 in
set_option maxRecDepth 100000 in
theorem c_X1_addItem (l : Launch) (k : CK) (M : Mem) (p1 : Int32) (p2 : Int32) (hI : cI k M) : Met l yX1_addItem wsX1_addItem (rmK 1 22) (wPc (cw k) M [.ref (k.1 0 1), .int p1, .int p2]) (wQi (cw k) (fun r u => r = (f_X1_addItem k M p1 p2).1 ∧ u = (f_X1_addItem k M p1 p2).2)) 0 0 (wA (cw k)) := by
  refine wx_met (cc := cX1_addItem) (maxL := 4) (ret := (some .boolean)) (by decide) rfl (Nat.le_of_ble_eq_true rfl) ?_
  intro p e s m below meth c ls hx hb hr hml hts hown hlocks hP hK hD hZ hS hl
  have hown : s.vm.findClass RX1 = some m.cls := hown
  have hl : lv_has ls 4 [(0, .ref (k.1 0 1)), (1, .int p1), (2, .int p2)] := hl
  have hiX1 : ∀ x ∈ u_ws RX1 TX1 6, x ∈ wsX1_addItem := by decide +kernel
  have hf18 := hts (.fieldLink RX1 18 "RobotWorld$Land" "contents" "[I") (by decide +kernel)
  have hf9 := hts (.fieldLink RX1 9 "RobotWorld$Land" "width" "I") (by decide +kernel)
  refine lv_aload_n hx hb dX1_addItem_0 rfl (lv_at hl 0 rfl) ?_
  refine lv_iload_n hx hb dX1_addItem_1 rfl (lv_at hl 1 rfl) ?_
  refine lv_iload_n hx hb dX1_addItem_2 rfl (lv_at hl 2 rfl) ?_
  refine wx_Vi (w := (cw k)) (f_X1_isOpen k M p1 p2) M [.int p1, .int p2] [] (cZok k) ⟨hx, hb, hml, hown, hts⟩ (c_X1_isOpen l k M p1 p2 hI) (cwV 2 hts gX1_addItem_X1_isOpen rfl rfl rfl (by decide +kernel) ⟨by decide, by decide⟩) (wx_recv (w := (cw k)) (g := 0) (j := 1) hK hP (cIx_0 (by decide)) rfl rfl) hP hK hD hZ hS rfl hl.1 rfl (Nat.le_of_ble_eq_true rfl) dX1_addItem_3 ⟨by decide, by decide⟩ (fun H locs hP hS => ?_)
  refine lv_if_ne (tgt := 11) hx hb dX1_addItem_6 (by decide) (fun c_6 => ?_) (fun c_6 => ?_)
  · refine lv_iload_n hx hb dX1_addItem_11 rfl (lv_at hl 2 rfl) ?_
    refine lv_aload_n hx hb dX1_addItem_12 rfl (lv_at hl 0 rfl) ?_
    refine wx_get (w := (cw k)) (g := 0) (j := 1) hx hb hts hiX1 hown hK hP (cIx_0 (by decide)) rfl rfl 0 (by decide) hf9 rfl dX1_addItem_13 ?_
    refine lv_imul hx hb dX1_addItem_16 ?_
    refine lv_iload_n hx hb dX1_addItem_17 rfl (lv_at hl 1 rfl) ?_
    refine lv_iadd hx hb dX1_addItem_18 ?_
    refine lv_istore_n (lv' := [(3, .int ((p2 * (M 0 1 0)) + p1)), (0, .ref (k.1 0 1)), (1, .int p1), (2, .int p2)]) hx hb dX1_addItem_19 rfl hl (by decide) rfl (fun ls hl => ?_)
    refine lv_aload_n hx hb dX1_addItem_20 rfl (lv_at hl 1 rfl) ?_
    refine wx_get (w := (cw k)) (g := 0) (j := 1) hx hb hts hiX1 hown hK hP (cIx_0 (by decide)) rfl rfl 2 (by decide) hf18 rfl dX1_addItem_21 ?_
    refine lv_iload_n hx hb dX1_addItem_24 rfl (lv_at hl 0 rfl) ?_
    refine wx_iald (w := (cw k)) (g := 0) (j := 2) hx hb hK hP (cIx_0 (by decide)) 0 rfl rfl (opn_sq hI c_6) dX1_addItem_25 ?_
    refine lv_bipush (v := 99) hx hb dX1_addItem_26 (by decide) ?_
    refine lv_icmp_lt (tgt := 33) hx hb dX1_addItem_28 (by decide) (fun c_28 => ?_) (fun c_28 => ?_)
    · refine lv_aload_n hx hb dX1_addItem_33 rfl (lv_at hl 1 rfl) ?_
      refine wx_get (w := (cw k)) (g := 0) (j := 1) hx hb hts hiX1 hown hK hP (cIx_0 (by decide)) rfl rfl 2 (by decide) hf18 rfl dX1_addItem_34 ?_
      refine lv_iload_n hx hb dX1_addItem_37 rfl (lv_at hl 0 rfl) ?_
      refine lv_dup2_11 hx hb dX1_addItem_38 rfl rfl ?_
      refine wx_iald (w := (cw k)) (g := 0) (j := 2) hx hb hK hP (cIx_0 (by decide)) 0 rfl rfl (opn_sq hI c_6) dX1_addItem_39 ?_
      refine lv_iconst (v := 1) hx hb dX1_addItem_40 (by decide) ?_
      refine lv_iadd hx hb dX1_addItem_41 ?_
      refine wx_iast (w := (cw k)) (g := 0) (j := 2) hx hb hK hP hD hS (cIx_0 (by decide)) 0 (fun _ => rfl) rfl (opn_sq hI c_6) dX1_addItem_42 (fun H locs hP hS => ?_)
      refine lv_iconst (v := 1) hx hb dX1_addItem_43 (by decide) ?_
      have e9 : f_X1_addItem k M p1 p2 = (1, (mu M 0 2 ((p2 * (M 0 1 0)) + p1).toNatClampNeg ((M 0 2 ((p2 * (M 0 1 0)) + p1).toNatClampNeg) + 1))) := (by unfold f_X1_addItem; rw [if_neg c_6, if_pos c_28])
      exact wx_iret hx hb hr hlocks hP hS (by decide) ⟨by rw [e9], by rw [e9]⟩ dX1_addItem_44
    · refine lv_iconst (v := 0) hx hb dX1_addItem_31 (by decide) ?_
      have e9 : f_X1_addItem k M p1 p2 = (0, M) := (by unfold f_X1_addItem; rw [if_neg c_6, if_neg c_28])
      exact wx_iret hx hb hr hlocks hP hS (by decide) ⟨by rw [e9], by rw [e9]⟩ dX1_addItem_32
  · refine lv_iconst (v := 0) hx hb dX1_addItem_9 (by decide) ?_
    have e9 : f_X1_addItem k M p1 p2 = (0, M) := (by unfold f_X1_addItem; rw [if_pos c_6])
    exact wx_iret hx hb hr hlocks hP hS (by decide) ⟨by rw [e9], by rw [e9]⟩ dX1_addItem_10
theorem cI_addItem {k : CK} {M : Mem} {x y : Int32} (hI : cI k M) : cI k (f_X1_addItem k M x y).2 := by
  unfold f_X1_addItem
  repeat' split
  all_goals first | exact hI | exact cI_mu hI (by omega) (by omega) (by omega)
theorem bz0 : narrow .boolean (.int 0) = .int 0 := by decide
theorem bz1 : narrow .boolean (.int 1) = .int 1 := by decide
theorem bz_addItem {k : CK} {M : Mem} {x y : Int32} : narrow .boolean (.int (f_X1_addItem k M x y).1) = .int (f_X1_addItem k M x y).1 := by
  unfold f_X1_addItem
  repeat' split
  all_goals first | exact bz0 | exact bz1
/-- by program, from the bytecode of RobotWorld$Land.removeItem -/
def f_X1_removeItem (k : CK) (M : Mem) (p1 : Int32) (p2 : Int32) : Int32 × Mem :=
  if (f_X1_isOpen k M p1 p2) = 0 then
    (0, M)
  else
    if 0 < (M 0 2 ((p2 * (M 0 1 0)) + p1).toNatClampNeg) then
      (1, (mu M 0 2 ((p2 * (M 0 1 0)) + p1).toNatClampNeg ((M 0 2 ((p2 * (M 0 1 0)) + p1).toNatClampNeg) - 1)))
    else
      (0, M)
set_option maxHeartbeats 4000000 in
set_option maxRecDepth 100000 in
theorem c_X1_removeItem (l : Launch) (k : CK) (M : Mem) (p1 : Int32) (p2 : Int32) (hI : cI k M) : Met l yX1_removeItem wsX1_removeItem (rmK 1 22) (wPc (cw k) M [.ref (k.1 0 1), .int p1, .int p2]) (wQi (cw k) (fun r u => r = (f_X1_removeItem k M p1 p2).1 ∧ u = (f_X1_removeItem k M p1 p2).2)) 0 0 (wA (cw k)) := by
  refine wx_met (cc := cX1_removeItem) (maxL := 4) (ret := (some .boolean)) (by decide) rfl (Nat.le_of_ble_eq_true rfl) ?_
  intro p e s m below meth c ls hx hb hr hml hts hown hlocks hP hK hD hZ hS hl
  have hown : s.vm.findClass RX1 = some m.cls := hown
  have hl : lv_has ls 4 [(0, .ref (k.1 0 1)), (1, .int p1), (2, .int p2)] := hl
  have hiX1 : ∀ x ∈ u_ws RX1 TX1 6, x ∈ wsX1_removeItem := by decide +kernel
  have hf18 := hts (.fieldLink RX1 18 "RobotWorld$Land" "contents" "[I") (by decide +kernel)
  have hf9 := hts (.fieldLink RX1 9 "RobotWorld$Land" "width" "I") (by decide +kernel)
  refine lv_aload_n hx hb dX1_removeItem_0 rfl (lv_at hl 0 rfl) ?_
  refine lv_iload_n hx hb dX1_removeItem_1 rfl (lv_at hl 1 rfl) ?_
  refine lv_iload_n hx hb dX1_removeItem_2 rfl (lv_at hl 2 rfl) ?_
  refine wx_Vi (w := (cw k)) (f_X1_isOpen k M p1 p2) M [.int p1, .int p2] [] (cZok k) ⟨hx, hb, hml, hown, hts⟩ (c_X1_isOpen l k M p1 p2 hI) (cwV 2 hts gX1_removeItem_X1_isOpen rfl rfl rfl (by decide +kernel) ⟨by decide, by decide⟩) (wx_recv (w := (cw k)) (g := 0) (j := 1) hK hP (cIx_0 (by decide)) rfl rfl) hP hK hD hZ hS rfl hl.1 rfl (Nat.le_of_ble_eq_true rfl) dX1_removeItem_3 ⟨by decide, by decide⟩ (fun H locs hP hS => ?_)
  refine lv_if_ne (tgt := 11) hx hb dX1_removeItem_6 (by decide) (fun c_6 => ?_) (fun c_6 => ?_)
  · refine lv_iload_n hx hb dX1_removeItem_11 rfl (lv_at hl 2 rfl) ?_
    refine lv_aload_n hx hb dX1_removeItem_12 rfl (lv_at hl 0 rfl) ?_
    refine wx_get (w := (cw k)) (g := 0) (j := 1) hx hb hts hiX1 hown hK hP (cIx_0 (by decide)) rfl rfl 0 (by decide) hf9 rfl dX1_removeItem_13 ?_
    refine lv_imul hx hb dX1_removeItem_16 ?_
    refine lv_iload_n hx hb dX1_removeItem_17 rfl (lv_at hl 1 rfl) ?_
    refine lv_iadd hx hb dX1_removeItem_18 ?_
    refine lv_istore_n (lv' := [(3, .int ((p2 * (M 0 1 0)) + p1)), (0, .ref (k.1 0 1)), (1, .int p1), (2, .int p2)]) hx hb dX1_removeItem_19 rfl hl (by decide) rfl (fun ls hl => ?_)
    refine lv_aload_n hx hb dX1_removeItem_20 rfl (lv_at hl 1 rfl) ?_
    refine wx_get (w := (cw k)) (g := 0) (j := 1) hx hb hts hiX1 hown hK hP (cIx_0 (by decide)) rfl rfl 2 (by decide) hf18 rfl dX1_removeItem_21 ?_
    refine lv_iload_n hx hb dX1_removeItem_24 rfl (lv_at hl 0 rfl) ?_
    refine wx_iald (w := (cw k)) (g := 0) (j := 2) hx hb hK hP (cIx_0 (by decide)) 0 rfl rfl (opn_sq hI c_6) dX1_removeItem_25 ?_
    refine lv_if_gt (tgt := 31) hx hb dX1_removeItem_26 (by decide) (fun c_26 => ?_) (fun c_26 => ?_)
    · refine lv_aload_n hx hb dX1_removeItem_31 rfl (lv_at hl 1 rfl) ?_
      refine wx_get (w := (cw k)) (g := 0) (j := 1) hx hb hts hiX1 hown hK hP (cIx_0 (by decide)) rfl rfl 2 (by decide) hf18 rfl dX1_removeItem_32 ?_
      refine lv_iload_n hx hb dX1_removeItem_35 rfl (lv_at hl 0 rfl) ?_
      refine lv_dup2_11 hx hb dX1_removeItem_36 rfl rfl ?_
      refine wx_iald (w := (cw k)) (g := 0) (j := 2) hx hb hK hP (cIx_0 (by decide)) 0 rfl rfl (opn_sq hI c_6) dX1_removeItem_37 ?_
      refine lv_iconst (v := 1) hx hb dX1_removeItem_38 (by decide) ?_
      refine lv_isub hx hb dX1_removeItem_39 ?_
      refine wx_iast (w := (cw k)) (g := 0) (j := 2) hx hb hK hP hD hS (cIx_0 (by decide)) 0 (fun _ => rfl) rfl (opn_sq hI c_6) dX1_removeItem_40 (fun H locs hP hS => ?_)
      refine lv_iconst (v := 1) hx hb dX1_removeItem_41 (by decide) ?_
      have e9 : f_X1_removeItem k M p1 p2 = (1, (mu M 0 2 ((p2 * (M 0 1 0)) + p1).toNatClampNeg ((M 0 2 ((p2 * (M 0 1 0)) + p1).toNatClampNeg) - 1))) := (by unfold f_X1_removeItem; rw [if_neg c_6, if_pos c_26])
      exact wx_iret hx hb hr hlocks hP hS (by decide) ⟨by rw [e9], by rw [e9]⟩ dX1_removeItem_42
    · refine lv_iconst (v := 0) hx hb dX1_removeItem_29 (by decide) ?_
      have e9 : f_X1_removeItem k M p1 p2 = (0, M) := (by unfold f_X1_removeItem; rw [if_neg c_6, if_neg c_26])
      exact wx_iret hx hb hr hlocks hP hS (by decide) ⟨by rw [e9], by rw [e9]⟩ dX1_removeItem_30
  · refine lv_iconst (v := 0) hx hb dX1_removeItem_9 (by decide) ?_
    have e9 : f_X1_removeItem k M p1 p2 = (0, M) := (by unfold f_X1_removeItem; rw [if_pos c_6])
    exact wx_iret hx hb hr hlocks hP hS (by decide) ⟨by rw [e9], by rw [e9]⟩ dX1_removeItem_10
theorem cI_removeItem {k : CK} {M : Mem} {x y : Int32} (hI : cI k M) : cI k (f_X1_removeItem k M x y).2 := by
  unfold f_X1_removeItem
  repeat' split
  all_goals first | exact hI | exact cI_mu hI (by omega) (by omega) (by omega)
/-- by program, from the bytecode of RobotWorld$Land.clear -/
def f_X1_clear (k : CK) (M : Mem)  : Mem :=
  (mu (mr M 0 2 (fillF (M 0 2) (k.2.1 1) 0)) 0 1 5 (-1))
set_option maxHeartbeats 4000000 in
set_option maxRecDepth 100000 in
theorem c_X1_clear (l : Launch) (k : CK) (M : Mem)  (hI : cI k M) : Met l yX1_clear wsX1_clear (rmK 1 23) (wPc (cw k) M [.ref (k.1 0 1)]) (wQv (cw k) (fun u => u = f_X1_clear k M)) 0 0 (wA (cw k)) := by
  refine wx_met (cc := cX1_clear) (maxL := 1) (ret := none) (by decide) rfl (Nat.le_of_ble_eq_true rfl) ?_
  intro p e s m below meth c ls hx hb hr hml hts hown hlocks hP hK hD hZ hS hl
  have hown : s.vm.findClass RX1 = some m.cls := hown
  have hl : lv_has ls 1 [(0, .ref (k.1 0 1))] := hl
  have hiX1 : ∀ x ∈ u_ws RX1 TX1 6, x ∈ wsX1_clear := by decide +kernel
  have hf18 := hts (.fieldLink RX1 18 "RobotWorld$Land" "contents" "[I") (by decide +kernel)
  have hf28 := hts (.fieldLink RX1 28 "RobotWorld$Land" "goal" "I") (by decide +kernel)
  refine lv_aload_n hx hb dX1_clear_0 rfl (lv_at hl 0 rfl) ?_
  refine wx_get (w := (cw k)) (g := 0) (j := 1) hx hb hts hiX1 hown hK hP (cIx_0 (by decide)) rfl rfl 2 (by decide) hf18 rfl dX1_clear_1 ?_
  refine lv_iconst (v := 0) hx hb dX1_clear_4 (by decide) ?_
  refine wx_Sv (w := (cw k)) (mr M 0 2 (fillF (M 0 2) (k.2.1 1) 0)) [.ref (k.1 0 2), .int 0] [] (cZok k) ⟨hx, hb, hml, hown, hts⟩ (c_J7_fill l k M 0 2 (k.2.1 1) 0 (cIx_0 (by decide)) (fun _ => rfl) (cI_w hI)) (va_cwS 2 hts gX1_clear_J7_fill_53178 rfl rfl rfl (by decide +kernel) ⟨by decide, by decide⟩) hP hK hD hZ hS rfl hl.1 rfl (Nat.le_of_ble_eq_true rfl) dX1_clear_5 ⟨by decide, by decide⟩ (fun H locs hP hS => ?_)
  refine lv_aload_n hx hb dX1_clear_8 rfl (lv_at hl 0 rfl) ?_
  refine lv_iconst (v := (-1)) hx hb dX1_clear_9 (by decide) ?_
  refine wx_put (w := (cw k)) (g := 0) (j := 1) hx hb hts hiX1 tyX1 tyX1_ok nmX1 hown hK hP hD hS (cIx_0 (by decide)) rfl rfl 5 (by decide) hf28 rfl (by decide +kernel) rfl (Nat.le_of_ble_eq_true rfl) dX1_clear_10 (fun H locs hP hS => ?_)
  have e9 : f_X1_clear k M = (mu (mr M 0 2 (fillF (M 0 2) (k.2.1 1) 0)) 0 1 5 (-1)) := rfl
  exact wx_vret hx hb hr hlocks hP hS e9.symm dX1_clear_13
theorem cI_clear {k : CK} {M : Mem} (hI : cI k M) : cI k (f_X1_clear k M) := by
  unfold f_X1_clear
  exact cI_mu (cI_mr hI (by omega) (by omega) (by omega)) (by omega) (by omega) (by omega)
/-- by program, from the bytecode of RobotWorld.isNumber -/
def f_X3_isNumber (k : CK) (M : Mem) (p1 : Int32) : Int32 :=
  if p1 < 0 then
    0
  else
    if (nI (k.2.1 0)) ≤ p1 then
      0
    else
      1
set_option maxHeartbeats 4000000 in
set_option maxRecDepth 100000 in
theorem c_X3_isNumber (l : Launch) (k : CK) (M : Mem) (p1 : Int32)  : Met l yX3_isNumber wsX3_isNumber (rmK 0 0) (wPc (cw k) M [.ref (k.1 0 0), .int p1]) (wQi (cw k) (fun r u => r = (f_X3_isNumber k M p1) ∧ u = M)) 0 0 (wA (cw k)) := by
  refine wx_met (cc := cX3_isNumber) (maxL := 2) (ret := (some .boolean)) (by decide) rfl (Nat.le_of_ble_eq_true rfl) ?_
  intro p e s m below meth c ls hx hb hr hml hts hown hlocks hP hK hD hZ hS hl
  have hown : s.vm.findClass RX3 = some m.cls := hown
  have hl : lv_has ls 2 [(0, .ref (k.1 0 0)), (1, .int p1)] := hl
  have hiX3 : ∀ x ∈ u_ws RX3 TX3 4, x ∈ wsX3_isNumber := by decide +kernel
  have hf24 := hts (.fieldLink RX3 24 "RobotWorld" "robots" "[LRobotWorld$Robot;") (by decide +kernel)
  refine lv_iload_n hx hb dX3_isNumber_0 rfl (lv_at hl 1 rfl) ?_
  refine lv_if_lt (tgt := 17) hx hb dX3_isNumber_1 (by decide) (fun c_1 => ?_) (fun c_1 => ?_)
  · refine lv_iconst (v := 0) hx hb dX3_isNumber_17 (by decide) ?_
    have e9 : f_X3_isNumber k M p1 = 0 := (by unfold f_X3_isNumber; rw [if_pos c_1])
    exact wx_iret hx hb hr hlocks hP hS (by decide) ⟨e9.symm, rfl⟩ dX3_isNumber_18
  · refine lv_iload_n hx hb dX3_isNumber_4 rfl (lv_at hl 1 rfl) ?_
    refine lv_aload_n hx hb dX3_isNumber_5 rfl (lv_at hl 0 rfl) ?_
    refine wx_get (w := (cw k)) (g := 0) (j := 0) hx hb hts hiX3 hown hK hP (cIx_0 (by decide)) rfl rfl 1 (by decide) hf24 rfl dX3_isNumber_6 ?_
    refine wx_alen (w := (cw k)) (g := 0) (j := 5) hx hb hK hP (cIx_0 (by decide)) 1 rfl rfl dX3_isNumber_9 ?_
    refine lv_icmp_ge (tgt := 17) hx hb dX3_isNumber_10 (by decide) (fun c_10 => ?_) (fun c_10 => ?_)
    · refine lv_iconst (v := 0) hx hb dX3_isNumber_17 (by decide) ?_
      have e9 : f_X3_isNumber k M p1 = 0 := (by unfold f_X3_isNumber; rw [if_neg c_1, if_pos c_10])
      exact wx_iret hx hb hr hlocks hP hS (by decide) ⟨e9.symm, rfl⟩ dX3_isNumber_18
    · refine lv_iconst (v := 1) hx hb dX3_isNumber_13 (by decide) ?_
      refine lv_goto (tgt := 18) hx hb dX3_isNumber_14 (by decide) ?_
      have e9 : f_X3_isNumber k M p1 = 1 := (by unfold f_X3_isNumber; rw [if_neg c_1, if_neg c_10])
      exact wx_iret hx hb hr hlocks hP hS (by decide) ⟨e9.symm, rfl⟩ dX3_isNumber_18
theorem num_in {k : CK} {M : Mem} {x : Int32} (hI : cI k M) (h : ¬ f_X3_isNumber k M x = 0) : vp_in x (k.2.1 0) := by
  unfold f_X3_isNumber at h
  repeat (split at h; exact absurd rfl h)
  rename_i a b
  exact vin a b (cI_n hI)
theorem num_0 {k : CK} {M : Mem} (hI : cI k M) : vp_in (0 : Int32) (k.2.1 0) := by
  rw [← nI_0]
  exact vp_in_nI (by have := hI.2.1.1; omega) (cI_n hI)
/-- by program, from the bytecode of RobotWorld.robotOf -/
def f_X3_robotOf (k : CK) (M : Mem) (p1 : Int32) : Option Nat :=
  if (f_X3_isNumber k M p1) = 0 then
    none
  else
    if (M (p1.toNatClampNeg + 1) 0 4) = 0 then
      none
    else
      (some p1.toNatClampNeg)
set_option maxHeartbeats 4000000 in
set_option maxRecDepth 100000 in
theorem c_X3_robotOf (l : Launch) (k : CK) (M : Mem) (p1 : Int32) (hI : cI k M) : Met l yX3_robotOf wsX3_robotOf (rmK 1 21) (wPc (cw k) M [.ref (k.1 0 0), .int p1]) (wQq (cw k) (fun r u => r = (f_X3_robotOf k M p1).map (fun i => wAd (cw k) (i + 1) 0) ∧ u = M)) 0 0 (wA (cw k)) := by
  refine wx_met (cc := cX3_robotOf) (maxL := 2) (ret := (some (.object "RobotWorld$Robot"))) (by decide) rfl (Nat.le_of_ble_eq_true rfl) ?_
  intro p e s m below meth c ls hx hb hr hml hts hown hlocks hP hK hD hZ hS hl
  have hown : s.vm.findClass RX3 = some m.cls := hown
  have hl : lv_has ls 2 [(0, .ref (k.1 0 0)), (1, .int p1)] := hl
  have hiX2 : ∀ x ∈ u_ws RX2 TX2 12, x ∈ wsX3_robotOf := by decide +kernel
  have hiX3 : ∀ x ∈ u_ws RX3 TX3 4, x ∈ wsX3_robotOf := by decide +kernel
  have hf24 := hts (.fieldLink RX3 24 "RobotWorld" "robots" "[LRobotWorld$Robot;") (by decide +kernel)
  have hf52 := hts (.fieldLink RX3 52 "RobotWorld$Robot" "state" "I") (by decide +kernel)
  refine lv_aload_n hx hb dX3_robotOf_0 rfl (lv_at hl 0 rfl) ?_
  refine lv_iload_n hx hb dX3_robotOf_1 rfl (lv_at hl 1 rfl) ?_
  refine wx_Vi (w := (cw k)) (f_X3_isNumber k M p1) M [.int p1] [] (cZok k) ⟨hx, hb, hml, hown, hts⟩ (c_X3_isNumber l k M p1 ) (cwV 1 hts gX3_robotOf_X3_isNumber rfl rfl rfl (by decide +kernel) ⟨by decide, by decide⟩) (wx_recv (w := (cw k)) (g := 0) (j := 0) hK hP (cIx_0 (by decide)) rfl rfl) hP hK hD hZ hS rfl hl.1 rfl (Nat.le_of_ble_eq_true rfl) dX3_robotOf_2 ⟨by decide, by decide⟩ (fun H locs hP hS => ?_)
  refine lv_if_eq (tgt := 29) hx hb dX3_robotOf_5 (by decide) (fun c_5 => ?_) (fun c_5 => ?_)
  · refine lv_null hx hb dX3_robotOf_29 ?_
    have e9 : f_X3_robotOf k M p1 = none := (by unfold f_X3_robotOf; rw [if_pos c_5])
    exact wx_aret none hx hb hr (Or.inl ⟨_, rfl⟩) hlocks hP hS ⟨by rw [e9]; rfl, rfl⟩ dX3_robotOf_30
  · refine lv_aload_n hx hb dX3_robotOf_8 rfl (lv_at hl 0 rfl) ?_
    refine wx_get (w := (cw k)) (g := 0) (j := 0) hx hb hts hiX3 hown hK hP (cIx_0 (by decide)) rfl rfl 1 (by decide) hf24 rfl dX3_robotOf_9 ?_
    refine lv_iload_n hx hb dX3_robotOf_12 rfl (lv_at hl 1 rfl) ?_
    refine wx_aald (w := (cw k)) (g := 0) (j := 5) hx hb hK hP (cIx_0 (by decide)) 1 rfl rfl (num_in hI c_5) rfl dX3_robotOf_13 ?_
    refine wx_get (w := (cw k)) (g := (p1.toNatClampNeg + 1)) (j := 0) hx hb hts hiX2 hown hK hP (cIx_r (vp_lt (num_in hI c_5)) (by decide)) rfl rfl 4 (by decide) hf52 rfl dX3_robotOf_14 ?_
    refine lv_if_eq (tgt := 29) hx hb dX3_robotOf_17 (by decide) (fun c_17 => ?_) (fun c_17 => ?_)
    · refine lv_null hx hb dX3_robotOf_29 ?_
      have e9 : f_X3_robotOf k M p1 = none := (by unfold f_X3_robotOf; rw [if_neg c_5, if_pos c_17])
      exact wx_aret none hx hb hr (Or.inl ⟨_, rfl⟩) hlocks hP hS ⟨by rw [e9]; rfl, rfl⟩ dX3_robotOf_30
    · refine lv_aload_n hx hb dX3_robotOf_20 rfl (lv_at hl 0 rfl) ?_
      refine wx_get (w := (cw k)) (g := 0) (j := 0) hx hb hts hiX3 hown hK hP (cIx_0 (by decide)) rfl rfl 1 (by decide) hf24 rfl dX3_robotOf_21 ?_
      refine lv_iload_n hx hb dX3_robotOf_24 rfl (lv_at hl 1 rfl) ?_
      refine wx_aald (w := (cw k)) (g := 0) (j := 5) hx hb hK hP (cIx_0 (by decide)) 1 rfl rfl (num_in hI c_5) rfl dX3_robotOf_25 ?_
      refine lv_goto (tgt := 30) hx hb dX3_robotOf_26 (by decide) ?_
      have e9 : f_X3_robotOf k M p1 = (some p1.toNatClampNeg) := (by unfold f_X3_robotOf; rw [if_neg c_5, if_neg c_17])
      exact wx_aret (some (k.1 (p1.toNatClampNeg + 1) 0)) hx hb hr (Or.inl ⟨_, rfl⟩) hlocks hP hS ⟨by rw [e9]; rfl, rfl⟩ dX3_robotOf_30
theorem robotOf_lt {k : CK} {M : Mem} {x : Int32} {i : Nat} (hI : cI k M) (h : f_X3_robotOf k M x = some i) : i < k.2.1 0 := by
  unfold f_X3_robotOf at h
  split at h
  · cases h
  · rename_i c
    split at h
    · cases h
    · cases h
      exact vp_lt (num_in hI c)
/-- by program: the loop at 2 of RobotWorld.robotOn -/
def f_X3_robotOn_L2 (k : CK) (p1 : Int32) (p2 : Int32) : Nat → Int32 → Mem → Option Nat
  | 0, _, M => none
  | n + 1, x, M =>
    if (nI (k.2.1 0)) ≤ x then
      none
    else
      if (M (x.toNatClampNeg + 1) 0 4) = 0 then
        f_X3_robotOn_L2 k p1 p2 n (x + 1) M
      else
        if (M (x.toNatClampNeg + 1) 0 5) = p1 then
          if (M (x.toNatClampNeg + 1) 0 6) = p2 then
            (some x.toNatClampNeg)
          else
            f_X3_robotOn_L2 k p1 p2 n (x + 1) M
        else
          f_X3_robotOn_L2 k p1 p2 n (x + 1) M
set_option maxHeartbeats 4000000 in
set_option maxRecDepth 100000 in
theorem lp_X3_robotOn_L2 {p : Program} {l : Launch} {e : Env} {s : State} {m : MethodId} {args : Array Value} {below : List Frame} {meth : Method} {c : Code} (k : CK) (p1 : Int32) (p2 : Int32)  (hx : p.tables.exec = Jvm.exec) (hb : c.code = cX3_robotOn) (hr : meth.sig.returnType = (some (.object "RobotWorld$Robot"))) (hml : c.maxLocals = 5) (hts : ∀ x ∈ wsX3_robotOn, x.before args s = true) (hown : s.vm.findClass RX3 = some m.cls) (hlocks : meth.locks = false) (hK : va_K (wD (cw k)) vwCl (wT (cw k)) s) {M0 : Mem} (hD : va_D (wA (cw k)) (wW (cw k) M0)) (hZ : wZ (cw k) (wA (cw k)) s s.heap)  : ∀ (n : Nat) (x : Int32) (M : Mem) (H : Heap) (locs : List Loc) (ls : Array Slot), cI k M ∧ lpI (k.2.1 0) n x → wP (cw k) M H → va_S (wA (cw k)) s.heap H locs → lv_has ls 5 [(3, .int x), (0, .ref (k.1 0 0)), (1, .int p1), (2, .int p2)] → ∀ (post : Option Nat → Mem → Prop), post ((f_X3_robotOn_L2 k p1 p2 n x M).map (fun i => wAd (cw k) (i + 1) 0)) M → W p l e (rmK 0 0) s m args below meth c H locs 0 0 (MQ below (wQq (cw k) post) args s 0 0 (wA (cw k))) (F0 m 2 ls []) := by
  have hiX2 : ∀ x ∈ u_ws RX2 TX2 12, x ∈ wsX3_robotOn := by decide +kernel
  have hiX3 : ∀ x ∈ u_ws RX3 TX3 4, x ∈ wsX3_robotOn := by decide +kernel
  have hf101 := hts (.fieldLink RX3 101 "RobotWorld$Robot" "y" "I") (by decide +kernel)
  have hf24 := hts (.fieldLink RX3 24 "RobotWorld" "robots" "[LRobotWorld$Robot;") (by decide +kernel)
  have hf52 := hts (.fieldLink RX3 52 "RobotWorld$Robot" "state" "I") (by decide +kernel)
  have hf98 := hts (.fieldLink RX3 98 "RobotWorld$Robot" "x" "I") (by decide +kernel)
  intro n
  induction n with
  | zero =>
    intro x M H locs ls hinv
    exact absurd hinv (fun h => lpI_z h.2)
  | succ n ih =>
    intro x M H locs ls hinv hP hS hl post hpo
    refine lv_iload_n hx hb dX3_robotOn_2 rfl (lv_at hl 0 rfl) ?_
    refine lv_aload_n hx hb dX3_robotOn_3 rfl (lv_at hl 1 rfl) ?_
    refine wx_get (w := (cw k)) (g := 0) (j := 0) hx hb hts hiX3 hown hK hP (cIx_0 (by decide)) rfl rfl 1 (by decide) hf24 rfl dX3_robotOn_4 ?_
    refine wx_alen (w := (cw k)) (g := 0) (j := 5) hx hb hK hP (cIx_0 (by decide)) 1 rfl rfl dX3_robotOn_7 ?_
    refine lv_icmp_ge (tgt := 54) hx hb dX3_robotOn_8 (by decide) (fun c_8 => ?_) (fun c_8 => ?_)
    · refine lv_null hx hb dX3_robotOn_54 ?_
      have e9 : f_X3_robotOn_L2 k p1 p2 (n + 1) x M = none := (by rw [f_X3_robotOn_L2]; rw [if_pos c_8])
      exact wx_aret none hx hb hr (Or.inl ⟨_, rfl⟩) hlocks hP hS (by rw [e9] at hpo; exact hpo) dX3_robotOn_55
    · refine lv_aload_n hx hb dX3_robotOn_11 rfl (lv_at hl 1 rfl) ?_
      refine wx_get (w := (cw k)) (g := 0) (j := 0) hx hb hts hiX3 hown hK hP (cIx_0 (by decide)) rfl rfl 1 (by decide) hf24 rfl dX3_robotOn_12 ?_
      refine lv_iload_n hx hb dX3_robotOn_15 rfl (lv_at hl 0 rfl) ?_
      refine wx_aald (w := (cw k)) (g := 0) (j := 5) hx hb hK hP (cIx_0 (by decide)) 1 rfl rfl (lpI_in hinv.2 c_8 (cI_n hinv.1)) rfl dX3_robotOn_16 ?_
      refine lv_astore (lv' := [(4, .ref (k.1 (x.toNatClampNeg + 1) 0)), (3, .int x), (0, .ref (k.1 0 0)), (1, .int p1), (2, .int p2)]) hx hb dX3_robotOn_17 hl (by decide) rfl (fun ls hl => ?_)
      refine lv_aload hx hb dX3_robotOn_19 (lv_at hl 0 rfl) ?_
      refine wx_get (w := (cw k)) (g := (x.toNatClampNeg + 1)) (j := 0) hx hb hts hiX2 hown hK hP (cIx_r (vp_lt (lpI_in hinv.2 c_8 (cI_n hinv.1))) (by decide)) rfl rfl 4 (by decide) hf52 rfl dX3_robotOn_21 ?_
      refine lv_if_eq (tgt := 48) hx hb dX3_robotOn_24 (by decide) (fun c_24 => ?_) (fun c_24 => ?_)
      · refine lv_iinc (v := (x + 1)) (lv' := [(3, .int (x + 1)), (4, .ref (k.1 (x.toNatClampNeg + 1) 0)), (0, .ref (k.1 0 0)), (1, .int p1), (2, .int p2)]) hx hb dX3_robotOn_48 hl (k := 1) rfl rfl (by decide) rfl (fun ls hl => ?_)
        refine lv_goto (tgt := 2) hx hb dX3_robotOn_51 (by decide) ?_
        have e9 : f_X3_robotOn_L2 k p1 p2 (n + 1) x M = f_X3_robotOn_L2 k p1 p2 n (x + 1) M := (by rw [f_X3_robotOn_L2]; rw [if_neg c_8, if_pos c_24])
        exact ih (x + 1) M _ _ ls (⟨hinv.1, lpI_s hinv.2 c_8 (cI_n hinv.1)⟩) hP hS (lv_sub hl [0, 2, 3, 4] rfl) _ (by rw [e9] at hpo; exact hpo)
      · refine lv_aload hx hb dX3_robotOn_27 (lv_at hl 0 rfl) ?_
        refine wx_get (w := (cw k)) (g := (x.toNatClampNeg + 1)) (j := 0) hx hb hts hiX2 hown hK hP (cIx_r (vp_lt (lpI_in hinv.2 c_8 (cI_n hinv.1))) (by decide)) rfl rfl 5 (by decide) hf98 rfl dX3_robotOn_29 ?_
        refine lv_iload_n hx hb dX3_robotOn_32 rfl (lv_at hl 3 rfl) ?_
        refine lv_icmp_ne (tgt := 48) hx hb dX3_robotOn_33 (by decide) (fun c_33 => ?_) (fun c_33 => ?_)
        · refine lv_iinc (v := (x + 1)) (lv' := [(3, .int (x + 1)), (4, .ref (k.1 (x.toNatClampNeg + 1) 0)), (0, .ref (k.1 0 0)), (1, .int p1), (2, .int p2)]) hx hb dX3_robotOn_48 hl (k := 1) rfl rfl (by decide) rfl (fun ls hl => ?_)
          refine lv_goto (tgt := 2) hx hb dX3_robotOn_51 (by decide) ?_
          have e9 : f_X3_robotOn_L2 k p1 p2 (n + 1) x M = f_X3_robotOn_L2 k p1 p2 n (x + 1) M := (by rw [f_X3_robotOn_L2]; rw [if_neg c_8, if_neg c_24, if_neg c_33])
          exact ih (x + 1) M _ _ ls (⟨hinv.1, lpI_s hinv.2 c_8 (cI_n hinv.1)⟩) hP hS (lv_sub hl [0, 2, 3, 4] rfl) _ (by rw [e9] at hpo; exact hpo)
        · refine lv_aload hx hb dX3_robotOn_36 (lv_at hl 0 rfl) ?_
          refine wx_get (w := (cw k)) (g := (x.toNatClampNeg + 1)) (j := 0) hx hb hts hiX2 hown hK hP (cIx_r (vp_lt (lpI_in hinv.2 c_8 (cI_n hinv.1))) (by decide)) rfl rfl 6 (by decide) hf101 rfl dX3_robotOn_38 ?_
          refine lv_iload_n hx hb dX3_robotOn_41 rfl (lv_at hl 4 rfl) ?_
          refine lv_icmp_ne (tgt := 48) hx hb dX3_robotOn_42 (by decide) (fun c_42 => ?_) (fun c_42 => ?_)
          · refine lv_iinc (v := (x + 1)) (lv' := [(3, .int (x + 1)), (4, .ref (k.1 (x.toNatClampNeg + 1) 0)), (0, .ref (k.1 0 0)), (1, .int p1), (2, .int p2)]) hx hb dX3_robotOn_48 hl (k := 1) rfl rfl (by decide) rfl (fun ls hl => ?_)
            refine lv_goto (tgt := 2) hx hb dX3_robotOn_51 (by decide) ?_
            have e9 : f_X3_robotOn_L2 k p1 p2 (n + 1) x M = f_X3_robotOn_L2 k p1 p2 n (x + 1) M := (by rw [f_X3_robotOn_L2]; rw [if_neg c_8, if_neg c_24, if_pos c_33, if_neg c_42])
            exact ih (x + 1) M _ _ ls (⟨hinv.1, lpI_s hinv.2 c_8 (cI_n hinv.1)⟩) hP hS (lv_sub hl [0, 2, 3, 4] rfl) _ (by rw [e9] at hpo; exact hpo)
          · refine lv_aload hx hb dX3_robotOn_45 (lv_at hl 0 rfl) ?_
            have e9 : f_X3_robotOn_L2 k p1 p2 (n + 1) x M = (some x.toNatClampNeg) := (by rw [f_X3_robotOn_L2]; rw [if_neg c_8, if_neg c_24, if_pos c_33, if_pos c_42])
            exact wx_aret (some (k.1 (x.toNatClampNeg + 1) 0)) hx hb hr (Or.inl ⟨_, rfl⟩) hlocks hP hS (by rw [e9] at hpo; exact hpo) dX3_robotOn_47
/-- by program, from the bytecode of RobotWorld.robotOn -/
def f_X3_robotOn (k : CK) (M : Mem) (p1 : Int32) (p2 : Int32) : Option Nat :=
  f_X3_robotOn_L2 k p1 p2 (k.2.1 0 + 1) 0 M
set_option maxHeartbeats 4000000 in
set_option maxRecDepth 100000 in
theorem c_X3_robotOn (l : Launch) (k : CK) (M : Mem) (p1 : Int32) (p2 : Int32) (hI : cI k M) : Met l yX3_robotOn wsX3_robotOn (rmK 0 0) (wPc (cw k) M [.ref (k.1 0 0), .int p1, .int p2]) (wQq (cw k) (fun r u => r = (f_X3_robotOn k M p1 p2).map (fun i => wAd (cw k) (i + 1) 0) ∧ u = M)) 0 0 (wA (cw k)) := by
  refine wx_met (cc := cX3_robotOn) (maxL := 5) (ret := (some (.object "RobotWorld$Robot"))) (by decide) rfl (Nat.le_of_ble_eq_true rfl) ?_
  intro p e s m below meth c ls hx hb hr hml hts hown hlocks hP hK hD hZ hS hl
  have hown : s.vm.findClass RX3 = some m.cls := hown
  have hl : lv_has ls 5 [(0, .ref (k.1 0 0)), (1, .int p1), (2, .int p2)] := hl
  refine lv_iconst (v := 0) hx hb dX3_robotOn_0 (by decide) ?_
  refine lv_istore_n (lv' := [(3, .int 0), (0, .ref (k.1 0 0)), (1, .int p1), (2, .int p2)]) hx hb dX3_robotOn_1 rfl hl (by decide) rfl (fun ls hl => ?_)
  have e9 : f_X3_robotOn k M p1 p2 = f_X3_robotOn_L2 k p1 p2 (k.2.1 0 + 1) 0 M := rfl
  exact lp_X3_robotOn_L2 k p1 p2 hx hb hr hml hts hown hlocks hK hD hZ (k.2.1 0 + 1) 0 M _ _ ls (⟨hI, lpI_i _⟩) hP hS (lv_sub hl [0, 1, 2, 3] rfl) _ ⟨by rw [e9], rfl⟩
theorem robotOn_L_lt {k : CK} {p1 p2 : Int32} : ∀ (n : Nat) (x : Int32) (M : Mem) (i : Nat), cI k M → lpI (k.2.1 0) n x → f_X3_robotOn_L2 k p1 p2 n x M = some i → i < k.2.1 0 := by
  intro n
  induction n with
  | zero => intro x M i hI h; exact absurd h lpI_z
  | succ n ih =>
    intro x M i hI hl h
    unfold f_X3_robotOn_L2 at h
    split at h
    · cases h
    · rename_i c
      have hs := lpI_s hl c (cI_n hI)
      split at h
      · exact ih _ M i hI hs h
      · split at h
        · split at h
          · cases h
            exact vp_lt (lpI_in hl c (cI_n hI))
          · exact ih _ M i hI hs h
        · exact ih _ M i hI hs h
theorem robotOn_lt {k : CK} {M : Mem} {x y : Int32} {i : Nat} (hI : cI k M) (h : f_X3_robotOn k M x y = some i) : i < k.2.1 0 := robotOn_L_lt _ _ M i hI (lpI_i _) h
/-- by program: the loop at 7 of RobotWorld.nextReady -/
def f_X3_nextReady_L7 (k : CK)  : Nat → Int32 → Int32 → Mem → Option Nat
  | 0, _, _, M => none
  | n + 1, y, x, M =>
    if (nI (k.2.1 0)) ≤ x then
      none
    else
      if (f_X3_isNumber k M (y + 1)) = 0 then
        if (M ((0 : Int32).toNatClampNeg + 1) 0 4) = 2 then
          (some ((0 : Int32).toNatClampNeg))
        else
          f_X3_nextReady_L7 k n 0 (x + 1) M
      else
        if (M ((y + 1).toNatClampNeg + 1) 0 4) = 2 then
          (some ((y + 1).toNatClampNeg))
        else
          f_X3_nextReady_L7 k n (y + 1) (x + 1) M
set_option maxHeartbeats 4000000 in
set_option maxRecDepth 100000 in
theorem lp_X3_nextReady_L7 {p : Program} {l : Launch} {e : Env} {s : State} {m : MethodId} {args : Array Value} {below : List Frame} {meth : Method} {c : Code} (k : CK)   (hx : p.tables.exec = Jvm.exec) (hb : c.code = cX3_nextReady) (hr : meth.sig.returnType = (some (.object "RobotWorld$Robot"))) (hml : c.maxLocals = 3) (hts : ∀ x ∈ wsX3_nextReady, x.before args s = true) (hown : s.vm.findClass RX3 = some m.cls) (hlocks : meth.locks = false) (hK : va_K (wD (cw k)) vwCl (wT (cw k)) s) {M0 : Mem} (hD : va_D (wA (cw k)) (wW (cw k) M0)) (hZ : wZ (cw k) (wA (cw k)) s s.heap)  : ∀ (n : Nat) (y : Int32) (x : Int32) (M : Mem) (H : Heap) (locs : List Loc) (ls : Array Slot), cI k M ∧ lpI (k.2.1 0) n x → wP (cw k) M H → va_S (wA (cw k)) s.heap H locs → lv_has ls 3 [(2, .int x), (1, .int y), (0, .ref (k.1 0 0))] → ∀ (post : Option Nat → Mem → Prop), post ((f_X3_nextReady_L7 k n y x M).map (fun i => wAd (cw k) (i + 1) 0)) M → W p l e (rmK 1 21) s m args below meth c H locs 0 0 (MQ below (wQq (cw k) post) args s 0 0 (wA (cw k))) (F0 m 7 ls []) := by
  have hiX2 : ∀ x ∈ u_ws RX2 TX2 12, x ∈ wsX3_nextReady := by decide +kernel
  have hiX3 : ∀ x ∈ u_ws RX3 TX3 4, x ∈ wsX3_nextReady := by decide +kernel
  have hf24 := hts (.fieldLink RX3 24 "RobotWorld" "robots" "[LRobotWorld$Robot;") (by decide +kernel)
  have hf52 := hts (.fieldLink RX3 52 "RobotWorld$Robot" "state" "I") (by decide +kernel)
  intro n
  induction n with
  | zero =>
    intro y x M H locs ls hinv
    exact absurd hinv (fun h => lpI_z h.2)
  | succ n ih =>
    intro y x M H locs ls hinv hP hS hl post hpo
    refine lv_iload_n hx hb dX3_nextReady_7 rfl (lv_at hl 0 rfl) ?_
    refine lv_aload_n hx hb dX3_nextReady_8 rfl (lv_at hl 2 rfl) ?_
    refine wx_get (w := (cw k)) (g := 0) (j := 0) hx hb hts hiX3 hown hK hP (cIx_0 (by decide)) rfl rfl 1 (by decide) hf24 rfl dX3_nextReady_9 ?_
    refine wx_alen (w := (cw k)) (g := 0) (j := 5) hx hb hK hP (cIx_0 (by decide)) 1 rfl rfl dX3_nextReady_12 ?_
    refine lv_icmp_ge (tgt := 60) hx hb dX3_nextReady_13 (by decide) (fun c_13 => ?_) (fun c_13 => ?_)
    · refine lv_null hx hb dX3_nextReady_60 ?_
      have e9 : f_X3_nextReady_L7 k (n + 1) y x M = none := (by rw [f_X3_nextReady_L7]; rw [if_pos c_13])
      exact wx_aret none hx hb hr (Or.inl ⟨_, rfl⟩) hlocks hP hS (by rw [e9] at hpo; exact hpo) dX3_nextReady_61
    · refine lv_aload_n hx hb dX3_nextReady_16 rfl (lv_at hl 2 rfl) ?_
      refine lv_iload_n hx hb dX3_nextReady_17 rfl (lv_at hl 1 rfl) ?_
      refine lv_iconst (v := 1) hx hb dX3_nextReady_18 (by decide) ?_
      refine lv_iadd hx hb dX3_nextReady_19 ?_
      refine wx_Vi (w := (cw k)) (f_X3_isNumber k M (y + 1)) M [.int (y + 1)] [] (cZok k) ⟨hx, hb, hml, hown, hts⟩ (c_X3_isNumber l k M (y + 1) ) (cwV 1 hts gX3_nextReady_X3_isNumber rfl rfl rfl (by decide +kernel) ⟨by decide, by decide⟩) (wx_recv (w := (cw k)) (g := 0) (j := 0) hK hP (cIx_0 (by decide)) rfl rfl) hP hK hD hZ hS rfl hl.1 rfl (Nat.le_of_ble_eq_true rfl) dX3_nextReady_20 ⟨by decide, by decide⟩ (fun H locs hP hS => ?_)
      refine lv_if_eq (tgt := 32) hx hb dX3_nextReady_23 (by decide) (fun c_23 => ?_) (fun c_23 => ?_)
      · refine lv_iconst (v := 0) hx hb dX3_nextReady_32 (by decide) ?_
        refine lv_istore_n (lv' := [(1, .int 0), (2, .int x), (0, .ref (k.1 0 0))]) hx hb dX3_nextReady_33 rfl hl (by decide) rfl (fun ls hl => ?_)
        refine lv_aload_n hx hb dX3_nextReady_34 rfl (lv_at hl 2 rfl) ?_
        refine wx_get (w := (cw k)) (g := 0) (j := 0) hx hb hts hiX3 hown hK hP (cIx_0 (by decide)) rfl rfl 1 (by decide) hf24 rfl dX3_nextReady_35 ?_
        refine lv_iload_n hx hb dX3_nextReady_38 rfl (lv_at hl 0 rfl) ?_
        refine wx_aald (w := (cw k)) (g := 0) (j := 5) hx hb hK hP (cIx_0 (by decide)) 1 rfl rfl (by first | exact num_in hinv.1 c_23 | exact num_0 hinv.1) rfl dX3_nextReady_39 ?_
        refine wx_get (w := (cw k)) (g := ((0 : Int32).toNatClampNeg + 1)) (j := 0) hx hb hts hiX2 hown hK hP (cIx_r (vp_lt (by first | exact num_in hinv.1 c_23 | exact num_0 hinv.1)) (by decide)) rfl rfl 4 (by decide) hf52 rfl dX3_nextReady_40 ?_
        refine lv_iconst (v := 2) hx hb dX3_nextReady_43 (by decide) ?_
        refine lv_icmp_ne (tgt := 54) hx hb dX3_nextReady_44 (by decide) (fun c_44 => ?_) (fun c_44 => ?_)
        · refine lv_iinc (v := (x + 1)) (lv' := [(2, .int (x + 1)), (1, .int 0), (0, .ref (k.1 0 0))]) hx hb dX3_nextReady_54 hl (k := 1) rfl rfl (by decide) rfl (fun ls hl => ?_)
          refine lv_goto (tgt := 7) hx hb dX3_nextReady_57 (by decide) ?_
          have e9 : f_X3_nextReady_L7 k (n + 1) y x M = f_X3_nextReady_L7 k n 0 (x + 1) M := (by rw [f_X3_nextReady_L7]; rw [if_neg c_13, if_pos c_23, if_neg c_44])
          exact ih 0 (x + 1) M _ _ ls (⟨hinv.1, lpI_s hinv.2 c_13 (cI_n hinv.1)⟩) hP hS (lv_sub hl [0, 1, 2] rfl) _ (by rw [e9] at hpo; exact hpo)
        · refine lv_aload_n hx hb dX3_nextReady_47 rfl (lv_at hl 2 rfl) ?_
          refine wx_get (w := (cw k)) (g := 0) (j := 0) hx hb hts hiX3 hown hK hP (cIx_0 (by decide)) rfl rfl 1 (by decide) hf24 rfl dX3_nextReady_48 ?_
          refine lv_iload_n hx hb dX3_nextReady_51 rfl (lv_at hl 0 rfl) ?_
          refine wx_aald (w := (cw k)) (g := 0) (j := 5) hx hb hK hP (cIx_0 (by decide)) 1 rfl rfl (by first | exact num_in hinv.1 c_23 | exact num_0 hinv.1) rfl dX3_nextReady_52 ?_
          have e9 : f_X3_nextReady_L7 k (n + 1) y x M = (some ((0 : Int32).toNatClampNeg)) := (by rw [f_X3_nextReady_L7]; rw [if_neg c_13, if_pos c_23, if_pos c_44])
          exact wx_aret (some (k.1 ((0 : Int32).toNatClampNeg + 1) 0)) hx hb hr (Or.inl ⟨_, rfl⟩) hlocks hP hS (by rw [e9] at hpo; exact hpo) dX3_nextReady_53
      · refine lv_iload_n hx hb dX3_nextReady_26 rfl (lv_at hl 1 rfl) ?_
        refine lv_iconst (v := 1) hx hb dX3_nextReady_27 (by decide) ?_
        refine lv_iadd hx hb dX3_nextReady_28 ?_
        refine lv_goto (tgt := 33) hx hb dX3_nextReady_29 (by decide) ?_
        refine lv_istore_n (lv' := [(1, .int (y + 1)), (2, .int x), (0, .ref (k.1 0 0))]) hx hb dX3_nextReady_33 rfl hl (by decide) rfl (fun ls hl => ?_)
        refine lv_aload_n hx hb dX3_nextReady_34 rfl (lv_at hl 2 rfl) ?_
        refine wx_get (w := (cw k)) (g := 0) (j := 0) hx hb hts hiX3 hown hK hP (cIx_0 (by decide)) rfl rfl 1 (by decide) hf24 rfl dX3_nextReady_35 ?_
        refine lv_iload_n hx hb dX3_nextReady_38 rfl (lv_at hl 0 rfl) ?_
        refine wx_aald (w := (cw k)) (g := 0) (j := 5) hx hb hK hP (cIx_0 (by decide)) 1 rfl rfl (by first | exact num_in hinv.1 c_23 | exact num_0 hinv.1) rfl dX3_nextReady_39 ?_
        refine wx_get (w := (cw k)) (g := ((y + 1).toNatClampNeg + 1)) (j := 0) hx hb hts hiX2 hown hK hP (cIx_r (vp_lt (by first | exact num_in hinv.1 c_23 | exact num_0 hinv.1)) (by decide)) rfl rfl 4 (by decide) hf52 rfl dX3_nextReady_40 ?_
        refine lv_iconst (v := 2) hx hb dX3_nextReady_43 (by decide) ?_
        refine lv_icmp_ne (tgt := 54) hx hb dX3_nextReady_44 (by decide) (fun c_44 => ?_) (fun c_44 => ?_)
        · refine lv_iinc (v := (x + 1)) (lv' := [(2, .int (x + 1)), (1, .int (y + 1)), (0, .ref (k.1 0 0))]) hx hb dX3_nextReady_54 hl (k := 1) rfl rfl (by decide) rfl (fun ls hl => ?_)
          refine lv_goto (tgt := 7) hx hb dX3_nextReady_57 (by decide) ?_
          have e9 : f_X3_nextReady_L7 k (n + 1) y x M = f_X3_nextReady_L7 k n (y + 1) (x + 1) M := (by rw [f_X3_nextReady_L7]; rw [if_neg c_13, if_neg c_23, if_neg c_44])
          exact ih (y + 1) (x + 1) M _ _ ls (⟨hinv.1, lpI_s hinv.2 c_13 (cI_n hinv.1)⟩) hP hS (lv_sub hl [0, 1, 2] rfl) _ (by rw [e9] at hpo; exact hpo)
        · refine lv_aload_n hx hb dX3_nextReady_47 rfl (lv_at hl 2 rfl) ?_
          refine wx_get (w := (cw k)) (g := 0) (j := 0) hx hb hts hiX3 hown hK hP (cIx_0 (by decide)) rfl rfl 1 (by decide) hf24 rfl dX3_nextReady_48 ?_
          refine lv_iload_n hx hb dX3_nextReady_51 rfl (lv_at hl 0 rfl) ?_
          refine wx_aald (w := (cw k)) (g := 0) (j := 5) hx hb hK hP (cIx_0 (by decide)) 1 rfl rfl (by first | exact num_in hinv.1 c_23 | exact num_0 hinv.1) rfl dX3_nextReady_52 ?_
          have e9 : f_X3_nextReady_L7 k (n + 1) y x M = (some ((y + 1).toNatClampNeg)) := (by rw [f_X3_nextReady_L7]; rw [if_neg c_13, if_neg c_23, if_pos c_44])
          exact wx_aret (some (k.1 ((y + 1).toNatClampNeg + 1) 0)) hx hb hr (Or.inl ⟨_, rfl⟩) hlocks hP hS (by rw [e9] at hpo; exact hpo) dX3_nextReady_53
/-- by program, from the bytecode of RobotWorld.nextReady -/
def f_X3_nextReady (k : CK) (M : Mem)  : Option Nat :=
  f_X3_nextReady_L7 k (k.2.1 0 + 1) (M 0 0 3) 0 M
set_option maxHeartbeats 4000000 in
set_option maxRecDepth 100000 in
theorem c_X3_nextReady (l : Launch) (k : CK) (M : Mem)  (hI : cI k M) : Met l yX3_nextReady wsX3_nextReady (rmK 1 21) (wPc (cw k) M [.ref (k.1 0 0)]) (wQq (cw k) (fun r u => r = (f_X3_nextReady k M).map (fun i => wAd (cw k) (i + 1) 0) ∧ u = M)) 0 0 (wA (cw k)) := by
  refine wx_met (cc := cX3_nextReady) (maxL := 3) (ret := (some (.object "RobotWorld$Robot"))) (by decide) rfl (Nat.le_of_ble_eq_true rfl) ?_
  intro p e s m below meth c ls hx hb hr hml hts hown hlocks hP hK hD hZ hS hl
  have hown : s.vm.findClass RX3 = some m.cls := hown
  have hl : lv_has ls 3 [(0, .ref (k.1 0 0))] := hl
  have hiX3 : ∀ x ∈ u_ws RX3 TX3 4, x ∈ wsX3_nextReady := by decide +kernel
  have hf77 := hts (.fieldLink RX3 77 "RobotWorld" "lastRan" "I") (by decide +kernel)
  refine lv_aload_n hx hb dX3_nextReady_0 rfl (lv_at hl 0 rfl) ?_
  refine wx_get (w := (cw k)) (g := 0) (j := 0) hx hb hts hiX3 hown hK hP (cIx_0 (by decide)) rfl rfl 3 (by decide) hf77 rfl dX3_nextReady_1 ?_
  refine lv_istore_n (lv' := [(1, .int (M 0 0 3)), (0, .ref (k.1 0 0))]) hx hb dX3_nextReady_4 rfl hl (by decide) rfl (fun ls hl => ?_)
  refine lv_iconst (v := 0) hx hb dX3_nextReady_5 (by decide) ?_
  refine lv_istore_n (lv' := [(2, .int 0), (1, .int (M 0 0 3)), (0, .ref (k.1 0 0))]) hx hb dX3_nextReady_6 rfl hl (by decide) rfl (fun ls hl => ?_)
  have e9 : f_X3_nextReady k M = f_X3_nextReady_L7 k (k.2.1 0 + 1) (M 0 0 3) 0 M := rfl
  exact lp_X3_nextReady_L7 k hx hb hr hml hts hown hlocks hK hD hZ (k.2.1 0 + 1) (M 0 0 3) 0 M _ _ ls (⟨hI, lpI_i _⟩) hP hS (lv_sub hl [0, 1, 2] rfl) _ ⟨by rw [e9], rfl⟩
theorem nextReady_L_lt {k : CK} : ∀ (n : Nat) (y x : Int32) (M : Mem) (i : Nat), cI k M → lpI (k.2.1 0) n x → f_X3_nextReady_L7 k n y x M = some i → i < k.2.1 0 := by
  intro n
  induction n with
  | zero => intro y x M i hI h; exact absurd h lpI_z
  | succ n ih =>
    intro y x M i hI hl h
    unfold f_X3_nextReady_L7 at h
    split at h
    · cases h
    · rename_i c
      have hs := lpI_s hl c (cI_n hI)
      split at h
      · split at h
        · cases h
          exact vp_lt (num_0 hI)
        · exact ih _ _ M i hI hs h
      · rename_i c2
        split at h
        · cases h
          exact vp_lt (num_in hI c2)
        · exact ih _ _ M i hI hs h
theorem nextReady_lt {k : CK} {M : Mem} {i : Nat} (hI : cI k M) (h : f_X3_nextReady k M = some i) : i < k.2.1 0 := nextReady_L_lt _ _ _ M i hI (lpI_i _) h
/-- by program: the loop at 9 of RobotWorld.startOver -/
def f_X3_startOver_L9 (k : CK)  : Nat → Int32 → Mem → Mem
  | 0, _, M => M
  | n + 1, x, M =>
    if (nI (k.2.1 0)) ≤ x then
      M
    else
      f_X3_startOver_L9 k n (x + 1) (mu M (x.toNatClampNeg + 1) 0 4 0)
set_option maxHeartbeats 4000000 in
set_option maxRecDepth 100000 in
theorem lp_X3_startOver_L9 {p : Program} {l : Launch} {e : Env} {s : State} {m : MethodId} {args : Array Value} {below : List Frame} {meth : Method} {c : Code} {Q : State → Prop} (k : CK)   (hx : p.tables.exec = Jvm.exec) (hb : c.code = cX3_startOver) (hr : meth.sig.returnType = none) (hml : c.maxLocals = 2) (hts : ∀ x ∈ wsX3_startOver, x.before args s = true) (hown : s.vm.findClass RX3 = some m.cls) (hlocks : meth.locks = false) (hK : va_K (wD (cw k)) vwCl (wT (cw k)) s) {M0 : Mem} (hD : va_D (wA (cw k)) (wW (cw k) M0)) (hZ : wZ (cw k) (wA (cw k)) s s.heap)  : ∀ (n : Nat) (x : Int32) (M : Mem) (H : Heap) (locs : List Loc) (ls : Array Slot), cI k M ∧ lpI (k.2.1 0) n x → wP (cw k) M H → va_S (wA (cw k)) s.heap H locs → lv_has ls 2 [(1, .int x), (0, .ref (k.1 0 0))] → (∀ (H : Heap) (locs : List Loc) (ls : Array Slot), wP (cw k) (f_X3_startOver_L9 k n x M) H → va_S (wA (cw k)) s.heap H locs → lv_has ls 2 [(0, .ref (k.1 0 0))] → W p l e (rmK 2 43) s m args below meth c H locs 0 0 Q (F0 m 34 ls [])) → W p l e (rmK 2 43) s m args below meth c H locs 0 0 Q (F0 m 9 ls []) := by
  have hiX2 : ∀ x ∈ u_ws RX2 TX2 12, x ∈ wsX3_startOver := by decide +kernel
  have hiX3 : ∀ x ∈ u_ws RX3 TX3 4, x ∈ wsX3_startOver := by decide +kernel
  have hf24 := hts (.fieldLink RX3 24 "RobotWorld" "robots" "[LRobotWorld$Robot;") (by decide +kernel)
  have hf52 := hts (.fieldLink RX3 52 "RobotWorld$Robot" "state" "I") (by decide +kernel)
  intro n
  induction n with
  | zero =>
    intro x M H locs ls hinv
    exact absurd hinv (fun h => lpI_z h.2)
  | succ n ih =>
    intro x M H locs ls hinv hP hS hl kk
    refine lv_iload_n hx hb dX3_startOver_9 rfl (lv_at hl 0 rfl) ?_
    refine lv_aload_n hx hb dX3_startOver_10 rfl (lv_at hl 1 rfl) ?_
    refine wx_get (w := (cw k)) (g := 0) (j := 0) hx hb hts hiX3 hown hK hP (cIx_0 (by decide)) rfl rfl 1 (by decide) hf24 rfl dX3_startOver_11 ?_
    refine wx_alen (w := (cw k)) (g := 0) (j := 5) hx hb hK hP (cIx_0 (by decide)) 1 rfl rfl dX3_startOver_14 ?_
    refine lv_icmp_ge (tgt := 34) hx hb dX3_startOver_15 (by decide) (fun c_15 => ?_) (fun c_15 => ?_)
    · have e9 : f_X3_startOver_L9 k (n + 1) x M = M := (by rw [f_X3_startOver_L9]; rw [if_pos c_15])
      rw [e9] at kk
      exact kk _ _ ls hP hS (lv_sub hl [1] rfl)
    · refine lv_aload_n hx hb dX3_startOver_18 rfl (lv_at hl 1 rfl) ?_
      refine wx_get (w := (cw k)) (g := 0) (j := 0) hx hb hts hiX3 hown hK hP (cIx_0 (by decide)) rfl rfl 1 (by decide) hf24 rfl dX3_startOver_19 ?_
      refine lv_iload_n hx hb dX3_startOver_22 rfl (lv_at hl 0 rfl) ?_
      refine wx_aald (w := (cw k)) (g := 0) (j := 5) hx hb hK hP (cIx_0 (by decide)) 1 rfl rfl (lpI_in hinv.2 c_15 (cI_n hinv.1)) rfl dX3_startOver_23 ?_
      refine lv_iconst (v := 0) hx hb dX3_startOver_24 (by decide) ?_
      refine wx_put (w := (cw k)) (g := (x.toNatClampNeg + 1)) (j := 0) hx hb hts hiX2 tyX2 tyX2_ok nmX2 hown hK hP hD hS (cIx_r (vp_lt (lpI_in hinv.2 c_15 (cI_n hinv.1))) (by decide)) rfl rfl 4 (by decide) hf52 rfl (by decide +kernel) rfl (Nat.le_of_ble_eq_true rfl) dX3_startOver_25 (fun H locs hP hS => ?_)
      refine lv_iinc (v := (x + 1)) (lv' := [(1, .int (x + 1)), (0, .ref (k.1 0 0))]) hx hb dX3_startOver_28 hl (k := 0) rfl rfl (by decide) rfl (fun ls hl => ?_)
      refine lv_goto (tgt := 9) hx hb dX3_startOver_31 (by decide) ?_
      have e9 : f_X3_startOver_L9 k (n + 1) x M = f_X3_startOver_L9 k n (x + 1) (mu M (x.toNatClampNeg + 1) 0 4 0) := (by rw [f_X3_startOver_L9]; rw [if_neg c_15])
      exact ih (x + 1) (mu M (x.toNatClampNeg + 1) 0 4 0) _ _ ls (⟨cI_mu hinv.1 (by omega) (by omega) (by omega), lpI_s hinv.2 c_15 (cI_n hinv.1)⟩) hP hS (lv_sub hl [0, 1] rfl) (by rw [e9] at kk; exact kk)
/-- by program, from the bytecode of RobotWorld.startOver -/
def f_X3_startOver (k : CK) (M : Mem)  : Mem :=
  (mu (mu (f_X3_startOver_L9 k (k.2.1 0 + 1) 0 (f_X1_clear k M)) 0 0 2 0) 0 0 3 ((nI (k.2.1 0)) - 1))
set_option maxHeartbeats 4000000 in
set_option maxRecDepth 100000 in
theorem c_X3_startOver (l : Launch) (k : CK) (M : Mem)  (hI : cI k M) : Met l yX3_startOver wsX3_startOver (rmK 2 43) (wPc (cw k) M [.ref (k.1 0 0)]) (wQv (cw k) (fun u => u = f_X3_startOver k M)) 0 0 (wA (cw k)) := by
  refine wx_met (cc := cX3_startOver) (maxL := 2) (ret := none) (by decide) rfl (Nat.le_of_ble_eq_true rfl) ?_
  intro p e s m below meth c ls hx hb hr hml hts hown hlocks hP hK hD hZ hS hl
  have hown : s.vm.findClass RX3 = some m.cls := hown
  have hl : lv_has ls 2 [(0, .ref (k.1 0 0))] := hl
  have hiX3 : ∀ x ∈ u_ws RX3 TX3 4, x ∈ wsX3_startOver := by decide +kernel
  have hf18 := hts (.fieldLink RX3 18 "RobotWorld" "land" "LRobotWorld$Land;") (by decide +kernel)
  have hf24 := hts (.fieldLink RX3 24 "RobotWorld" "robots" "[LRobotWorld$Robot;") (by decide +kernel)
  have hf77 := hts (.fieldLink RX3 77 "RobotWorld" "lastRan" "I") (by decide +kernel)
  have hf88 := hts (.fieldLink RX3 88 "RobotWorld" "clock" "I") (by decide +kernel)
  refine lv_aload_n hx hb dX3_startOver_0 rfl (lv_at hl 0 rfl) ?_
  refine wx_get (w := (cw k)) (g := 0) (j := 0) hx hb hts hiX3 hown hK hP (cIx_0 (by decide)) rfl rfl 0 (by decide) hf18 rfl dX3_startOver_1 ?_
  refine wx_Vv (w := (cw k)) (f_X1_clear k M) [] [] (cZok k) ⟨hx, hb, hml, hown, hts⟩ (c_X1_clear l k M  hI) (cwV 0 hts gX3_startOver_X1_clear rfl rfl rfl (by decide +kernel) ⟨by decide, by decide⟩) (wx_recv (w := (cw k)) (g := 0) (j := 1) hK hP (cIx_0 (by decide)) rfl rfl) hP hK hD hZ hS rfl hl.1 rfl (Nat.le_of_ble_eq_true rfl) dX3_startOver_4 ⟨by decide, by decide⟩ (fun H locs hP hS => ?_)
  refine lv_iconst (v := 0) hx hb dX3_startOver_7 (by decide) ?_
  refine lv_istore_n (lv' := [(1, .int 0), (0, .ref (k.1 0 0))]) hx hb dX3_startOver_8 rfl hl (by decide) rfl (fun ls hl => ?_)
  refine lp_X3_startOver_L9 k hx hb hr hml hts hown hlocks hK hD hZ (k.2.1 0 + 1) 0 (f_X1_clear k M) _ _ ls (⟨cI_clear hI, lpI_i _⟩) hP hS (lv_sub hl [0, 1] rfl) (fun H locs ls hP hS hl => ?_)
  refine lv_aload_n hx hb dX3_startOver_34 rfl (lv_at hl 0 rfl) ?_
  refine lv_iconst (v := 0) hx hb dX3_startOver_35 (by decide) ?_
  refine wx_put (w := (cw k)) (g := 0) (j := 0) hx hb hts hiX3 tyX3 tyX3_ok nmX3 hown hK hP hD hS (cIx_0 (by decide)) rfl rfl 2 (by decide) hf88 rfl (by decide +kernel) rfl (Nat.le_of_ble_eq_true rfl) dX3_startOver_36 (fun H locs hP hS => ?_)
  refine lv_aload_n hx hb dX3_startOver_39 rfl (lv_at hl 0 rfl) ?_
  refine lv_aload_n hx hb dX3_startOver_40 rfl (lv_at hl 0 rfl) ?_
  refine wx_get (w := (cw k)) (g := 0) (j := 0) hx hb hts hiX3 hown hK hP (cIx_0 (by decide)) rfl rfl 1 (by decide) hf24 rfl dX3_startOver_41 ?_
  refine wx_alen (w := (cw k)) (g := 0) (j := 5) hx hb hK hP (cIx_0 (by decide)) 1 rfl rfl dX3_startOver_44 ?_
  refine lv_iconst (v := 1) hx hb dX3_startOver_45 (by decide) ?_
  refine lv_isub hx hb dX3_startOver_46 ?_
  refine wx_put (w := (cw k)) (g := 0) (j := 0) hx hb hts hiX3 tyX3 tyX3_ok nmX3 hown hK hP hD hS (cIx_0 (by decide)) rfl rfl 3 (by decide) hf77 rfl (by decide +kernel) rfl (Nat.le_of_ble_eq_true rfl) dX3_startOver_47 (fun H locs hP hS => ?_)
  have e9 : f_X3_startOver k M = (mu (mu (f_X3_startOver_L9 k (k.2.1 0 + 1) 0 (f_X1_clear k M)) 0 0 2 0) 0 0 3 ((nI (k.2.1 0)) - 1)) := rfl
  exact wx_vret hx hb hr hlocks hP hS e9.symm dX3_startOver_50
/-- by program, from the bytecode of RobotWorld.init_ -/
def f_X3_init_ (k : CK) (M : Mem)  : Mem :=
  (f_X3_startOver k M)
set_option maxHeartbeats 4000000 in
set_option maxRecDepth 100000 in
theorem c_X3_init_ (l : Launch) (k : CK) (M : Mem)  (hI : cI k M) : Met l yX3_init_ wsX3_init_ (rmK 3 64) (wPc (cw k) M [.ref (k.1 0 0)]) (wQv (cw k) (fun u => u = f_X3_init_ k M)) 0 0 (wA (cw k)) := by
  refine wx_met (cc := cX3_init_) (maxL := 1) (ret := none) (by decide) rfl (Nat.le_of_ble_eq_true rfl) ?_
  intro p e s m below meth c ls hx hb hr hml hts hown hlocks hP hK hD hZ hS hl
  have hown : s.vm.findClass RX3 = some m.cls := hown
  have hl : lv_has ls 1 [(0, .ref (k.1 0 0))] := hl
  refine lv_aload_n hx hb dX3_init__0 rfl (lv_at hl 0 rfl) ?_
  refine wx_Vv (w := (cw k)) (f_X3_startOver k M) [] [] (cZok k) ⟨hx, hb, hml, hown, hts⟩ (c_X3_startOver l k M  hI) (cwV 0 hts gX3_init__X3_startOver rfl rfl rfl (by decide +kernel) ⟨by decide, by decide⟩) (wx_recv (w := (cw k)) (g := 0) (j := 0) hK hP (cIx_0 (by decide)) rfl rfl) hP hK hD hZ hS rfl hl.1 rfl (Nat.le_of_ble_eq_true rfl) dX3_init__1 ⟨by decide, by decide⟩ (fun H locs hP hS => ?_)
  have e9 : f_X3_init_ k M = (f_X3_startOver k M) := rfl
  exact wx_vret hx hb hr hlocks hP hS e9.symm dX3_init__4
/-- by program, from the bytecode of RobotWorld.setWall -/
def f_X3_setWall (k : CK) (M : Mem) (p1 : Int32) (p2 : Int32) (p3 : Int32) : Int32 × Mem :=
  if (f_X1_isInside k M p1 p2) = 0 then
    (0, M)
  else
    match (f_X3_robotOn k M p1 p2) with
    | none =>
      (1, (f_X1_changeWall k M p1 p2 p3))
    | some i_15 =>
      (0, M)
set_option maxHeartbeats 4000000 in
set_option maxRecDepth 100000 in
theorem c_X3_setWall (l : Launch) (k : CK) (M : Mem) (p1 : Int32) (p2 : Int32) (p3 : Int32) (hI : cI k M) : Met l yX3_setWall wsX3_setWall (rmK 2 46) (wPc (cw k) M [.ref (k.1 0 0), .int p1, .int p2, .int p3]) (wQi (cw k) (fun r u => r = (f_X3_setWall k M p1 p2 p3).1 ∧ u = (f_X3_setWall k M p1 p2 p3).2)) 0 0 (wA (cw k)) := by
  refine wx_met (cc := cX3_setWall) (maxL := 4) (ret := (some .boolean)) (by decide) rfl (Nat.le_of_ble_eq_true rfl) ?_
  intro p e s m below meth c ls hx hb hr hml hts hown hlocks hP hK hD hZ hS hl
  have hown : s.vm.findClass RX3 = some m.cls := hown
  have hl : lv_has ls 4 [(0, .ref (k.1 0 0)), (1, .int p1), (2, .int p2), (3, .int p3)] := hl
  have hiX3 : ∀ x ∈ u_ws RX3 TX3 4, x ∈ wsX3_setWall := by decide +kernel
  have hf18 := hts (.fieldLink RX3 18 "RobotWorld" "land" "LRobotWorld$Land;") (by decide +kernel)
  refine lv_aload_n hx hb dX3_setWall_0 rfl (lv_at hl 0 rfl) ?_
  refine wx_get (w := (cw k)) (g := 0) (j := 0) hx hb hts hiX3 hown hK hP (cIx_0 (by decide)) rfl rfl 0 (by decide) hf18 rfl dX3_setWall_1 ?_
  refine lv_iload_n hx hb dX3_setWall_4 rfl (lv_at hl 1 rfl) ?_
  refine lv_iload_n hx hb dX3_setWall_5 rfl (lv_at hl 2 rfl) ?_
  refine wx_Vi (w := (cw k)) (f_X1_isInside k M p1 p2) M [.int p1, .int p2] [] (cZok k) ⟨hx, hb, hml, hown, hts⟩ (c_X1_isInside l k M p1 p2 ) (cwV 2 hts gX3_setWall_X1_isInside rfl rfl rfl (by decide +kernel) ⟨by decide, by decide⟩) (wx_recv (w := (cw k)) (g := 0) (j := 1) hK hP (cIx_0 (by decide)) rfl rfl) hP hK hD hZ hS rfl hl.1 rfl (Nat.le_of_ble_eq_true rfl) dX3_setWall_6 ⟨by decide, by decide⟩ (fun H locs hP hS => ?_)
  refine lv_if_eq (tgt := 21) hx hb dX3_setWall_9 (by decide) (fun c_9 => ?_) (fun c_9 => ?_)
  · refine lv_iconst (v := 0) hx hb dX3_setWall_21 (by decide) ?_
    have e9 : f_X3_setWall k M p1 p2 p3 = (0, M) := (by unfold f_X3_setWall; rw [if_pos c_9])
    exact wx_iret hx hb hr hlocks hP hS (by decide) ⟨by rw [e9], by rw [e9]⟩ dX3_setWall_22
  · refine lv_aload_n hx hb dX3_setWall_12 rfl (lv_at hl 0 rfl) ?_
    refine lv_iload_n hx hb dX3_setWall_13 rfl (lv_at hl 1 rfl) ?_
    refine lv_iload_n hx hb dX3_setWall_14 rfl (lv_at hl 2 rfl) ?_
    refine wx_Vq (w := (cw k)) (f_X3_robotOn k M p1 p2) [.int p1, .int p2] [] (cZok k) ⟨hx, hb, hml, hown, hts⟩ (c_X3_robotOn l k M p1 p2 hI) (cwV 2 hts gX3_setWall_X3_robotOn rfl rfl rfl (by decide +kernel) ⟨by decide, by decide⟩) (wx_recv (w := (cw k)) (g := 0) (j := 0) hK hP (cIx_0 (by decide)) rfl rfl) hP hK hD hZ hS rfl hl.1 rfl (Nat.le_of_ble_eq_true rfl) dX3_setWall_15 ⟨by decide, by decide⟩ (fun H locs q_15 hP hS => ?_) (fun i_15 H locs q_15 hP hS => ?_)
    · refine lv_ifnullN (tgt := 23) hx hb dX3_setWall_18 (by decide) ?_
      refine lv_aload_n hx hb dX3_setWall_23 rfl (lv_at hl 0 rfl) ?_
      refine wx_get (w := (cw k)) (g := 0) (j := 0) hx hb hts hiX3 hown hK hP (cIx_0 (by decide)) rfl rfl 0 (by decide) hf18 rfl dX3_setWall_24 ?_
      refine lv_iload_n hx hb dX3_setWall_27 rfl (lv_at hl 1 rfl) ?_
      refine lv_iload_n hx hb dX3_setWall_28 rfl (lv_at hl 2 rfl) ?_
      refine lv_iload_n hx hb dX3_setWall_29 rfl (lv_at hl 3 rfl) ?_
      refine wx_Vv (w := (cw k)) (f_X1_changeWall k M p1 p2 p3) [.int p1, .int p2, .int p3] [] (cZok k) ⟨hx, hb, hml, hown, hts⟩ (c_X1_changeWall l k M p1 p2 p3 hI) (cwV 3 hts gX3_setWall_X1_changeWall rfl rfl rfl (by decide +kernel) ⟨by decide, by decide⟩) (wx_recv (w := (cw k)) (g := 0) (j := 1) hK hP (cIx_0 (by decide)) rfl rfl) hP hK hD hZ hS rfl hl.1 rfl (Nat.le_of_ble_eq_true rfl) dX3_setWall_30 ⟨by decide, by decide⟩ (fun H locs hP hS => ?_)
      refine lv_iconst (v := 1) hx hb dX3_setWall_33 (by decide) ?_
      have e9 : f_X3_setWall k M p1 p2 p3 = (1, (f_X1_changeWall k M p1 p2 p3)) := (by unfold f_X3_setWall; rw [if_neg c_9]; simp only [q_15])
      exact wx_iret hx hb hr hlocks hP hS (by decide) ⟨by rw [e9], by rw [e9]⟩ dX3_setWall_34
    · refine lv_ifnull hx hb dX3_setWall_18 ?_
      refine lv_iconst (v := 0) hx hb dX3_setWall_21 (by decide) ?_
      have e9 : f_X3_setWall k M p1 p2 p3 = (0, M) := (by unfold f_X3_setWall; rw [if_neg c_9]; simp only [q_15])
      exact wx_iret hx hb hr hlocks hP hS (by decide) ⟨by rw [e9], by rw [e9]⟩ dX3_setWall_22
/-- by program, from the bytecode of RobotWorld.putItem -/
def f_X3_putItem (k : CK) (M : Mem) (p1 : Int32) (p2 : Int32) : Int32 × Mem :=
  ((f_X1_addItem k M p1 p2).1, (f_X1_addItem k M p1 p2).2)
set_option maxHeartbeats 4000000 in
set_option maxRecDepth 100000 in
theorem c_X3_putItem (l : Launch) (k : CK) (M : Mem) (p1 : Int32) (p2 : Int32) (hI : cI k M) : Met l yX3_putItem wsX3_putItem (rmK 2 45) (wPc (cw k) M [.ref (k.1 0 0), .int p1, .int p2]) (wQi (cw k) (fun r u => r = (f_X3_putItem k M p1 p2).1 ∧ u = (f_X3_putItem k M p1 p2).2)) 0 0 (wA (cw k)) := by
  refine wx_met (cc := cX3_putItem) (maxL := 3) (ret := (some .boolean)) (by decide) rfl (Nat.le_of_ble_eq_true rfl) ?_
  intro p e s m below meth c ls hx hb hr hml hts hown hlocks hP hK hD hZ hS hl
  have hown : s.vm.findClass RX3 = some m.cls := hown
  have hl : lv_has ls 3 [(0, .ref (k.1 0 0)), (1, .int p1), (2, .int p2)] := hl
  have hiX3 : ∀ x ∈ u_ws RX3 TX3 4, x ∈ wsX3_putItem := by decide +kernel
  have hf18 := hts (.fieldLink RX3 18 "RobotWorld" "land" "LRobotWorld$Land;") (by decide +kernel)
  refine lv_aload_n hx hb dX3_putItem_0 rfl (lv_at hl 0 rfl) ?_
  refine wx_get (w := (cw k)) (g := 0) (j := 0) hx hb hts hiX3 hown hK hP (cIx_0 (by decide)) rfl rfl 0 (by decide) hf18 rfl dX3_putItem_1 ?_
  refine lv_iload_n hx hb dX3_putItem_4 rfl (lv_at hl 1 rfl) ?_
  refine lv_iload_n hx hb dX3_putItem_5 rfl (lv_at hl 2 rfl) ?_
  refine wx_Vi (w := (cw k)) ((f_X1_addItem k M p1 p2).1) ((f_X1_addItem k M p1 p2).2) [.int p1, .int p2] [] (cZok k) ⟨hx, hb, hml, hown, hts⟩ (c_X1_addItem l k M p1 p2 hI) (cwV 2 hts gX3_putItem_X1_addItem rfl rfl rfl (by decide +kernel) ⟨by decide, by decide⟩) (wx_recv (w := (cw k)) (g := 0) (j := 1) hK hP (cIx_0 (by decide)) rfl rfl) hP hK hD hZ hS rfl hl.1 rfl (Nat.le_of_ble_eq_true rfl) dX3_putItem_6 ⟨by decide, by decide⟩ (fun H locs hP hS => ?_)
  have e9 : f_X3_putItem k M p1 p2 = ((f_X1_addItem k M p1 p2).1, (f_X1_addItem k M p1 p2).2) := rfl
  exact wx_iret hx hb hr hlocks hP hS bz_addItem ⟨by rw [e9], by rw [e9]⟩ dX3_putItem_9
/-- by program: the loop at 29 of RobotWorld.spawn -/
def f_X3_spawn_L29 (k : CK) (p1 : Int32) (p2 : Int32) : Nat → Int32 → Mem → Int32 × Mem
  | 0, _, M => (0, M)
  | n + 1, x, M =>
    if (nI (k.2.1 0)) ≤ x then
      ((-3), M)
    else
      if (M (x.toNatClampNeg + 1) 0 4) = 0 then
        (x, (f_X2_appear k M x.toNatClampNeg p1 p2))
      else
        f_X3_spawn_L29 k p1 p2 n (x + 1) M
set_option maxHeartbeats 4000000 in
set_option maxRecDepth 100000 in
theorem lp_X3_spawn_L29 {p : Program} {l : Launch} {e : Env} {s : State} {m : MethodId} {args : Array Value} {below : List Frame} {meth : Method} {c : Code} (k : CK) (p1 : Int32) (p2 : Int32)  (hx : p.tables.exec = Jvm.exec) (hb : c.code = cX3_spawn) (hr : meth.sig.returnType = (some .int)) (hml : c.maxLocals = 4) (hts : ∀ x ∈ wsX3_spawn, x.before args s = true) (hown : s.vm.findClass RX3 = some m.cls) (hlocks : meth.locks = false) (hK : va_K (wD (cw k)) vwCl (wT (cw k)) s) {M0 : Mem} (hD : va_D (wA (cw k)) (wW (cw k) M0)) (hZ : wZ (cw k) (wA (cw k)) s s.heap)  : ∀ (n : Nat) (x : Int32) (M : Mem) (H : Heap) (locs : List Loc) (ls : Array Slot), cI k M ∧ lpI (k.2.1 0) n x → wP (cw k) M H → va_S (wA (cw k)) s.heap H locs → lv_has ls 4 [(3, .int x), (0, .ref (k.1 0 0)), (1, .int p1), (2, .int p2)] → ∀ (post : Int32 → Mem → Prop), post (f_X3_spawn_L29 k p1 p2 n x M).1 (f_X3_spawn_L29 k p1 p2 n x M).2 → W p l e (rmK 2 45) s m args below meth c H locs 0 0 (MQ below (wQi (cw k) post) args s 0 0 (wA (cw k))) (F0 m 29 ls []) := by
  have hiX2 : ∀ x ∈ u_ws RX2 TX2 12, x ∈ wsX3_spawn := by decide +kernel
  have hiX3 : ∀ x ∈ u_ws RX3 TX3 4, x ∈ wsX3_spawn := by decide +kernel
  have hf24 := hts (.fieldLink RX3 24 "RobotWorld" "robots" "[LRobotWorld$Robot;") (by decide +kernel)
  have hf52 := hts (.fieldLink RX3 52 "RobotWorld$Robot" "state" "I") (by decide +kernel)
  intro n
  induction n with
  | zero =>
    intro x M H locs ls hinv
    exact absurd hinv (fun h => lpI_z h.2)
  | succ n ih =>
    intro x M H locs ls hinv hP hS hl post hpo
    refine lv_iload_n hx hb dX3_spawn_29 rfl (lv_at hl 0 rfl) ?_
    refine lv_aload_n hx hb dX3_spawn_30 rfl (lv_at hl 1 rfl) ?_
    refine wx_get (w := (cw k)) (g := 0) (j := 0) hx hb hts hiX3 hown hK hP (cIx_0 (by decide)) rfl rfl 1 (by decide) hf24 rfl dX3_spawn_31 ?_
    refine wx_alen (w := (cw k)) (g := 0) (j := 5) hx hb hK hP (cIx_0 (by decide)) 1 rfl rfl dX3_spawn_34 ?_
    refine lv_icmp_ge (tgt := 69) hx hb dX3_spawn_35 (by decide) (fun c_35 => ?_) (fun c_35 => ?_)
    · refine lv_bipush (v := (-3)) hx hb dX3_spawn_69 (by decide) ?_
      have e9 : f_X3_spawn_L29 k p1 p2 (n + 1) x M = ((-3), M) := (by rw [f_X3_spawn_L29]; rw [if_pos c_35])
      exact wx_iret hx hb hr hlocks hP hS rfl (by rw [e9] at hpo; exact hpo) dX3_spawn_71
    · refine lv_aload_n hx hb dX3_spawn_38 rfl (lv_at hl 1 rfl) ?_
      refine wx_get (w := (cw k)) (g := 0) (j := 0) hx hb hts hiX3 hown hK hP (cIx_0 (by decide)) rfl rfl 1 (by decide) hf24 rfl dX3_spawn_39 ?_
      refine lv_iload_n hx hb dX3_spawn_42 rfl (lv_at hl 0 rfl) ?_
      refine wx_aald (w := (cw k)) (g := 0) (j := 5) hx hb hK hP (cIx_0 (by decide)) 1 rfl rfl (lpI_in hinv.2 c_35 (cI_n hinv.1)) rfl dX3_spawn_43 ?_
      refine wx_get (w := (cw k)) (g := (x.toNatClampNeg + 1)) (j := 0) hx hb hts hiX2 hown hK hP (cIx_r (vp_lt (lpI_in hinv.2 c_35 (cI_n hinv.1))) (by decide)) rfl rfl 4 (by decide) hf52 rfl dX3_spawn_44 ?_
      refine lv_if_ne (tgt := 63) hx hb dX3_spawn_47 (by decide) (fun c_47 => ?_) (fun c_47 => ?_)
      · refine lv_iinc (v := (x + 1)) (lv' := [(3, .int (x + 1)), (0, .ref (k.1 0 0)), (1, .int p1), (2, .int p2)]) hx hb dX3_spawn_63 hl (k := 0) rfl rfl (by decide) rfl (fun ls hl => ?_)
        refine lv_goto (tgt := 29) hx hb dX3_spawn_66 (by decide) ?_
        have e9 : f_X3_spawn_L29 k p1 p2 (n + 1) x M = f_X3_spawn_L29 k p1 p2 n (x + 1) M := (by rw [f_X3_spawn_L29]; rw [if_neg c_35, if_neg c_47])
        exact ih (x + 1) M _ _ ls (⟨hinv.1, lpI_s hinv.2 c_35 (cI_n hinv.1)⟩) hP hS (lv_sub hl [0, 1, 2, 3] rfl) _ (by rw [e9] at hpo; exact hpo)
      · refine lv_aload_n hx hb dX3_spawn_50 rfl (lv_at hl 1 rfl) ?_
        refine wx_get (w := (cw k)) (g := 0) (j := 0) hx hb hts hiX3 hown hK hP (cIx_0 (by decide)) rfl rfl 1 (by decide) hf24 rfl dX3_spawn_51 ?_
        refine lv_iload_n hx hb dX3_spawn_54 rfl (lv_at hl 0 rfl) ?_
        refine wx_aald (w := (cw k)) (g := 0) (j := 5) hx hb hK hP (cIx_0 (by decide)) 1 rfl rfl (lpI_in hinv.2 c_35 (cI_n hinv.1)) rfl dX3_spawn_55 ?_
        refine lv_iload_n hx hb dX3_spawn_56 rfl (lv_at hl 2 rfl) ?_
        refine lv_iload_n hx hb dX3_spawn_57 rfl (lv_at hl 3 rfl) ?_
        refine wx_Vv (w := (cw k)) (f_X2_appear k M x.toNatClampNeg p1 p2) [.int p1, .int p2] [] (cZok k) ⟨hx, hb, hml, hown, hts⟩ (c_X2_appear l k M x.toNatClampNeg p1 p2 ((vp_lt (lpI_in hinv.2 c_35 (cI_n hinv.1)))) ) (cwV 2 hts gX3_spawn_X2_appear rfl rfl rfl (by decide +kernel) ⟨by decide, by decide⟩) (wx_recv (w := (cw k)) (g := (x.toNatClampNeg + 1)) (j := 0) hK hP (cIx_r (vp_lt (lpI_in hinv.2 c_35 (cI_n hinv.1))) (by decide)) rfl rfl) hP hK hD hZ hS rfl hl.1 rfl (Nat.le_of_ble_eq_true rfl) dX3_spawn_58 ⟨by decide, by decide⟩ (fun H locs hP hS => ?_)
        refine lv_iload_n hx hb dX3_spawn_61 rfl (lv_at hl 0 rfl) ?_
        have e9 : f_X3_spawn_L29 k p1 p2 (n + 1) x M = (x, (f_X2_appear k M x.toNatClampNeg p1 p2)) := (by rw [f_X3_spawn_L29]; rw [if_neg c_35, if_pos c_47])
        exact wx_iret hx hb hr hlocks hP hS rfl (by rw [e9] at hpo; exact hpo) dX3_spawn_62
/-- by program, from the bytecode of RobotWorld.spawn -/
def f_X3_spawn (k : CK) (M : Mem) (p1 : Int32) (p2 : Int32) : Int32 × Mem :=
  if (f_X1_isOpen k M p1 p2) = 0 then
    ((-2), M)
  else
    match (f_X3_robotOn k M p1 p2) with
    | none =>
      f_X3_spawn_L29 k p1 p2 (k.2.1 0 + 1) 0 M
    | some i_18 =>
      ((-4), M)
set_option maxHeartbeats 4000000 in
set_option maxRecDepth 100000 in
theorem c_X3_spawn (l : Launch) (k : CK) (M : Mem) (p1 : Int32) (p2 : Int32) (hI : cI k M) : Met l yX3_spawn wsX3_spawn (rmK 2 45) (wPc (cw k) M [.ref (k.1 0 0), .int p1, .int p2]) (wQi (cw k) (fun r u => r = (f_X3_spawn k M p1 p2).1 ∧ u = (f_X3_spawn k M p1 p2).2)) 0 0 (wA (cw k)) := by
  refine wx_met (cc := cX3_spawn) (maxL := 4) (ret := (some .int)) (by decide) rfl (Nat.le_of_ble_eq_true rfl) ?_
  intro p e s m below meth c ls hx hb hr hml hts hown hlocks hP hK hD hZ hS hl
  have hown : s.vm.findClass RX3 = some m.cls := hown
  have hl : lv_has ls 4 [(0, .ref (k.1 0 0)), (1, .int p1), (2, .int p2)] := hl
  have hiX3 : ∀ x ∈ u_ws RX3 TX3 4, x ∈ wsX3_spawn := by decide +kernel
  have hf18 := hts (.fieldLink RX3 18 "RobotWorld" "land" "LRobotWorld$Land;") (by decide +kernel)
  refine lv_aload_n hx hb dX3_spawn_0 rfl (lv_at hl 0 rfl) ?_
  refine wx_get (w := (cw k)) (g := 0) (j := 0) hx hb hts hiX3 hown hK hP (cIx_0 (by decide)) rfl rfl 0 (by decide) hf18 rfl dX3_spawn_1 ?_
  refine lv_iload_n hx hb dX3_spawn_4 rfl (lv_at hl 1 rfl) ?_
  refine lv_iload_n hx hb dX3_spawn_5 rfl (lv_at hl 2 rfl) ?_
  refine wx_Vi (w := (cw k)) (f_X1_isOpen k M p1 p2) M [.int p1, .int p2] [] (cZok k) ⟨hx, hb, hml, hown, hts⟩ (c_X1_isOpen l k M p1 p2 hI) (cwV 2 hts gX3_spawn_X1_isOpen rfl rfl rfl (by decide +kernel) ⟨by decide, by decide⟩) (wx_recv (w := (cw k)) (g := 0) (j := 1) hK hP (cIx_0 (by decide)) rfl rfl) hP hK hD hZ hS rfl hl.1 rfl (Nat.le_of_ble_eq_true rfl) dX3_spawn_6 ⟨by decide, by decide⟩ (fun H locs hP hS => ?_)
  refine lv_if_ne (tgt := 15) hx hb dX3_spawn_9 (by decide) (fun c_9 => ?_) (fun c_9 => ?_)
  · refine lv_aload_n hx hb dX3_spawn_15 rfl (lv_at hl 0 rfl) ?_
    refine lv_iload_n hx hb dX3_spawn_16 rfl (lv_at hl 1 rfl) ?_
    refine lv_iload_n hx hb dX3_spawn_17 rfl (lv_at hl 2 rfl) ?_
    refine wx_Vq (w := (cw k)) (f_X3_robotOn k M p1 p2) [.int p1, .int p2] [] (cZok k) ⟨hx, hb, hml, hown, hts⟩ (c_X3_robotOn l k M p1 p2 hI) (cwV 2 hts gX3_spawn_X3_robotOn rfl rfl rfl (by decide +kernel) ⟨by decide, by decide⟩) (wx_recv (w := (cw k)) (g := 0) (j := 0) hK hP (cIx_0 (by decide)) rfl rfl) hP hK hD hZ hS rfl hl.1 rfl (Nat.le_of_ble_eq_true rfl) dX3_spawn_18 ⟨by decide, by decide⟩ (fun H locs q_18 hP hS => ?_) (fun i_18 H locs q_18 hP hS => ?_)
    · refine lv_ifnullN (tgt := 27) hx hb dX3_spawn_21 (by decide) ?_
      refine lv_iconst (v := 0) hx hb dX3_spawn_27 (by decide) ?_
      refine lv_istore_n (lv' := [(3, .int 0), (0, .ref (k.1 0 0)), (1, .int p1), (2, .int p2)]) hx hb dX3_spawn_28 rfl hl (by decide) rfl (fun ls hl => ?_)
      have e9 : f_X3_spawn k M p1 p2 = f_X3_spawn_L29 k p1 p2 (k.2.1 0 + 1) 0 M := (by unfold f_X3_spawn; rw [if_neg c_9]; simp only [q_18])
      exact lp_X3_spawn_L29 k p1 p2 hx hb hr hml hts hown hlocks hK hD hZ (k.2.1 0 + 1) 0 M _ _ ls (⟨hI, lpI_i _⟩) hP hS (lv_sub hl [0, 1, 2, 3] rfl) _ ⟨by rw [e9], by rw [e9]⟩
    · refine lv_ifnull hx hb dX3_spawn_21 ?_
      refine lv_bipush (v := (-4)) hx hb dX3_spawn_24 (by decide) ?_
      have e9 : f_X3_spawn k M p1 p2 = ((-4), M) := (by unfold f_X3_spawn; rw [if_neg c_9]; simp only [q_18])
      exact wx_iret hx hb hr hlocks hP hS rfl ⟨by rw [e9], by rw [e9]⟩ dX3_spawn_26
  · refine lv_bipush (v := (-2)) hx hb dX3_spawn_12 (by decide) ?_
    have e9 : f_X3_spawn k M p1 p2 = ((-2), M) := (by unfold f_X3_spawn; rw [if_pos c_9])
    exact wx_iret hx hb hr hlocks hP hS rfl ⟨by rw [e9], by rw [e9]⟩ dX3_spawn_14
/-- by program, from the bytecode of RobotWorld.load -/
def f_X3_load (k : CK) (M : Mem) (p1 : Int32) (p2 : Int32) : Int32 × Mem :=
  match (f_X3_robotOf k M p1) with
  | none =>
    (0, M)
  | some i_2 =>
    if (M (i_2 + 1) 0 4) = 1 then
      if (f_X2_addWord k M i_2 p2).1 = 0 then
        (0, (f_X2_addWord k M i_2 p2).2)
      else
        (1, (f_X2_addWord k M i_2 p2).2)
    else
      (0, M)
set_option maxHeartbeats 4000000 in
set_option maxRecDepth 100000 in
theorem c_X3_load (l : Launch) (k : CK) (M : Mem) (p1 : Int32) (p2 : Int32) (hI : cI k M) : Met l yX3_load wsX3_load (rmK 2 42) (wPc (cw k) M [.ref (k.1 0 0), .int p1, .int p2]) (wQi (cw k) (fun r u => r = (f_X3_load k M p1 p2).1 ∧ u = (f_X3_load k M p1 p2).2)) 0 0 (wA (cw k)) := by
  refine wx_met (cc := cX3_load) (maxL := 4) (ret := (some .boolean)) (by decide) rfl (Nat.le_of_ble_eq_true rfl) ?_
  intro p e s m below meth c ls hx hb hr hml hts hown hlocks hP hK hD hZ hS hl
  have hown : s.vm.findClass RX3 = some m.cls := hown
  have hl : lv_has ls 4 [(0, .ref (k.1 0 0)), (1, .int p1), (2, .int p2)] := hl
  have hiX2 : ∀ x ∈ u_ws RX2 TX2 12, x ∈ wsX3_load := by decide +kernel
  have hf52 := hts (.fieldLink RX3 52 "RobotWorld$Robot" "state" "I") (by decide +kernel)
  refine lv_aload_n hx hb dX3_load_0 rfl (lv_at hl 0 rfl) ?_
  refine lv_iload_n hx hb dX3_load_1 rfl (lv_at hl 1 rfl) ?_
  refine wx_Vq (w := (cw k)) (f_X3_robotOf k M p1) [.int p1] [] (cZok k) ⟨hx, hb, hml, hown, hts⟩ (c_X3_robotOf l k M p1 hI) (cwV 1 hts gX3_load_X3_robotOf rfl rfl rfl (by decide +kernel) ⟨by decide, by decide⟩) (wx_recv (w := (cw k)) (g := 0) (j := 0) hK hP (cIx_0 (by decide)) rfl rfl) hP hK hD hZ hS rfl hl.1 rfl (Nat.le_of_ble_eq_true rfl) dX3_load_2 ⟨by decide, by decide⟩ (fun H locs q_2 hP hS => ?_) (fun i_2 H locs q_2 hP hS => ?_)
  · refine lv_astore_nN (lv' := [(3, .null), (0, .ref (k.1 0 0)), (1, .int p1), (2, .int p2)]) hx hb dX3_load_5 rfl hl (by decide) rfl (fun ls hl => ?_)
    refine lv_aload_nN hx hb dX3_load_6 rfl (lv_at hl 0 rfl) ?_
    refine lv_ifnullN (tgt := 30) hx hb dX3_load_7 (by decide) ?_
    refine lv_iconst (v := 0) hx hb dX3_load_30 (by decide) ?_
    have e9 : f_X3_load k M p1 p2 = (0, M) := (by unfold f_X3_load; simp only [q_2])
    exact wx_iret hx hb hr hlocks hP hS (by decide) ⟨by rw [e9], by rw [e9]⟩ dX3_load_31
  · refine lv_astore_n (lv' := [(3, .ref (k.1 (i_2 + 1) 0)), (0, .ref (k.1 0 0)), (1, .int p1), (2, .int p2)]) hx hb dX3_load_5 rfl hl (by decide) rfl (fun ls hl => ?_)
    refine lv_aload_n hx hb dX3_load_6 rfl (lv_at hl 0 rfl) ?_
    refine lv_ifnull hx hb dX3_load_7 ?_
    refine lv_aload_n hx hb dX3_load_10 rfl (lv_at hl 0 rfl) ?_
    refine wx_get (w := (cw k)) (g := (i_2 + 1)) (j := 0) hx hb hts hiX2 hown hK hP (cIx_r (robotOf_lt hI q_2) (by decide)) rfl rfl 4 (by decide) hf52 rfl dX3_load_11 ?_
    refine lv_iconst (v := 1) hx hb dX3_load_14 (by decide) ?_
    refine lv_icmp_ne (tgt := 30) hx hb dX3_load_15 (by decide) (fun c_15 => ?_) (fun c_15 => ?_)
    · refine lv_iconst (v := 0) hx hb dX3_load_30 (by decide) ?_
      have e9 : f_X3_load k M p1 p2 = (0, M) := (by unfold f_X3_load; simp only [q_2]; rw [if_neg c_15])
      exact wx_iret hx hb hr hlocks hP hS (by decide) ⟨by rw [e9], by rw [e9]⟩ dX3_load_31
    · refine lv_aload_n hx hb dX3_load_18 rfl (lv_at hl 0 rfl) ?_
      refine lv_iload_n hx hb dX3_load_19 rfl (lv_at hl 3 rfl) ?_
      refine wx_Vi (w := (cw k)) ((f_X2_addWord k M i_2 p2).1) ((f_X2_addWord k M i_2 p2).2) [.int p2] [] (cZok k) ⟨hx, hb, hml, hown, hts⟩ (c_X2_addWord l k M i_2 p2 ((robotOf_lt hI q_2)) hI) (cwV 1 hts gX3_load_X2_addWord rfl rfl rfl (by decide +kernel) ⟨by decide, by decide⟩) (wx_recv (w := (cw k)) (g := (i_2 + 1)) (j := 0) hK hP (cIx_r (robotOf_lt hI q_2) (by decide)) rfl rfl) hP hK hD hZ hS rfl hl.1 rfl (Nat.le_of_ble_eq_true rfl) dX3_load_20 ⟨by decide, by decide⟩ (fun H locs hP hS => ?_)
      refine lv_if_eq (tgt := 30) hx hb dX3_load_23 (by decide) (fun c_23 => ?_) (fun c_23 => ?_)
      · refine lv_iconst (v := 0) hx hb dX3_load_30 (by decide) ?_
        have e9 : f_X3_load k M p1 p2 = (0, (f_X2_addWord k M i_2 p2).2) := (by unfold f_X3_load; simp only [q_2]; rw [if_pos c_15, if_pos c_23])
        exact wx_iret hx hb hr hlocks hP hS (by decide) ⟨by rw [e9], by rw [e9]⟩ dX3_load_31
      · refine lv_iconst (v := 1) hx hb dX3_load_26 (by decide) ?_
        refine lv_goto (tgt := 31) hx hb dX3_load_27 (by decide) ?_
        have e9 : f_X3_load k M p1 p2 = (1, (f_X2_addWord k M i_2 p2).2) := (by unfold f_X3_load; simp only [q_2]; rw [if_pos c_15, if_neg c_23])
        exact wx_iret hx hb hr hlocks hP hS (by decide) ⟨by rw [e9], by rw [e9]⟩ dX3_load_31
/-- by program, from the bytecode of RobotWorld.startRobot -/
def f_X3_startRobot (k : CK) (M : Mem) (p1 : Int32) : Int32 × Mem :=
  match (f_X3_robotOf k M p1) with
  | none =>
    ((-2), M)
  | some i_2 =>
    if (M (i_2 + 1) 0 4) = 1 then
      (1, (mu M (i_2 + 1) 0 4 2))
    else
      ((-2), M)
set_option maxHeartbeats 4000000 in
set_option maxRecDepth 100000 in
theorem c_X3_startRobot (l : Launch) (k : CK) (M : Mem) (p1 : Int32) (hI : cI k M) : Met l yX3_startRobot wsX3_startRobot (rmK 2 42) (wPc (cw k) M [.ref (k.1 0 0), .int p1]) (wQi (cw k) (fun r u => r = (f_X3_startRobot k M p1).1 ∧ u = (f_X3_startRobot k M p1).2)) 0 0 (wA (cw k)) := by
  refine wx_met (cc := cX3_startRobot) (maxL := 3) (ret := (some .int)) (by decide) rfl (Nat.le_of_ble_eq_true rfl) ?_
  intro p e s m below meth c ls hx hb hr hml hts hown hlocks hP hK hD hZ hS hl
  have hown : s.vm.findClass RX3 = some m.cls := hown
  have hl : lv_has ls 3 [(0, .ref (k.1 0 0)), (1, .int p1)] := hl
  have hiX2 : ∀ x ∈ u_ws RX2 TX2 12, x ∈ wsX3_startRobot := by decide +kernel
  have hf52 := hts (.fieldLink RX3 52 "RobotWorld$Robot" "state" "I") (by decide +kernel)
  refine lv_aload_n hx hb dX3_startRobot_0 rfl (lv_at hl 0 rfl) ?_
  refine lv_iload_n hx hb dX3_startRobot_1 rfl (lv_at hl 1 rfl) ?_
  refine wx_Vq (w := (cw k)) (f_X3_robotOf k M p1) [.int p1] [] (cZok k) ⟨hx, hb, hml, hown, hts⟩ (c_X3_robotOf l k M p1 hI) (cwV 1 hts gX3_startRobot_X3_robotOf rfl rfl rfl (by decide +kernel) ⟨by decide, by decide⟩) (wx_recv (w := (cw k)) (g := 0) (j := 0) hK hP (cIx_0 (by decide)) rfl rfl) hP hK hD hZ hS rfl hl.1 rfl (Nat.le_of_ble_eq_true rfl) dX3_startRobot_2 ⟨by decide, by decide⟩ (fun H locs q_2 hP hS => ?_) (fun i_2 H locs q_2 hP hS => ?_)
  · refine lv_astore_nN (lv' := [(2, .null), (0, .ref (k.1 0 0)), (1, .int p1)]) hx hb dX3_startRobot_5 rfl hl (by decide) rfl (fun ls hl => ?_)
    refine lv_aload_nN hx hb dX3_startRobot_6 rfl (lv_at hl 0 rfl) ?_
    refine lv_ifnullN (tgt := 18) hx hb dX3_startRobot_7 (by decide) ?_
    refine lv_bipush (v := (-2)) hx hb dX3_startRobot_18 (by decide) ?_
    have e9 : f_X3_startRobot k M p1 = ((-2), M) := (by unfold f_X3_startRobot; simp only [q_2])
    exact wx_iret hx hb hr hlocks hP hS rfl ⟨by rw [e9], by rw [e9]⟩ dX3_startRobot_20
  · refine lv_astore_n (lv' := [(2, .ref (k.1 (i_2 + 1) 0)), (0, .ref (k.1 0 0)), (1, .int p1)]) hx hb dX3_startRobot_5 rfl hl (by decide) rfl (fun ls hl => ?_)
    refine lv_aload_n hx hb dX3_startRobot_6 rfl (lv_at hl 0 rfl) ?_
    refine lv_ifnull hx hb dX3_startRobot_7 ?_
    refine lv_aload_n hx hb dX3_startRobot_10 rfl (lv_at hl 0 rfl) ?_
    refine wx_get (w := (cw k)) (g := (i_2 + 1)) (j := 0) hx hb hts hiX2 hown hK hP (cIx_r (robotOf_lt hI q_2) (by decide)) rfl rfl 4 (by decide) hf52 rfl dX3_startRobot_11 ?_
    refine lv_iconst (v := 1) hx hb dX3_startRobot_14 (by decide) ?_
    refine lv_icmp_eq (tgt := 21) hx hb dX3_startRobot_15 (by decide) (fun c_15 => ?_) (fun c_15 => ?_)
    · refine lv_aload_n hx hb dX3_startRobot_21 rfl (lv_at hl 0 rfl) ?_
      refine lv_iconst (v := 2) hx hb dX3_startRobot_22 (by decide) ?_
      refine wx_put (w := (cw k)) (g := (i_2 + 1)) (j := 0) hx hb hts hiX2 tyX2 tyX2_ok nmX2 hown hK hP hD hS (cIx_r (robotOf_lt hI q_2) (by decide)) rfl rfl 4 (by decide) hf52 rfl (by decide +kernel) rfl (Nat.le_of_ble_eq_true rfl) dX3_startRobot_23 (fun H locs hP hS => ?_)
      refine lv_iconst (v := 1) hx hb dX3_startRobot_26 (by decide) ?_
      have e9 : f_X3_startRobot k M p1 = (1, (mu M (i_2 + 1) 0 4 2)) := (by unfold f_X3_startRobot; simp only [q_2]; rw [if_pos c_15])
      exact wx_iret hx hb hr hlocks hP hS rfl ⟨by rw [e9], by rw [e9]⟩ dX3_startRobot_27
    · refine lv_bipush (v := (-2)) hx hb dX3_startRobot_18 (by decide) ?_
      have e9 : f_X3_startRobot k M p1 = ((-2), M) := (by unfold f_X3_startRobot; simp only [q_2]; rw [if_neg c_15])
      exact wx_iret hx hb hr hlocks hP hS rfl ⟨by rw [e9], by rw [e9]⟩ dX3_startRobot_20
/-- a counter against an int -/
def lpQ (p : Int32) (n : Nat) (x : Int32) : Prop := ∃ a : Nat, x = nI a ∧ a ≤ p.toNatClampNeg ∧ p.toNatClampNeg < a + n
theorem lpQ_z {p x : Int32} : ¬ lpQ p 0 x := fun ⟨_, _, h1, h2⟩ => by omega
theorem lpQ_i (p : Int32) : lpQ p (p.toNatClampNeg + 1) 0 := ⟨0, nI_0.symm, by omega, by omega⟩
theorem lpQ_s {p x : Int32} {n : Nat} (h : lpQ p (n + 1) x) (c : ¬ p ≤ x) : lpQ p n (x + 1) := by
  obtain ⟨a, rfl, h1, h2⟩ := h
  have hp : ¬ p < 0 := by
    intro q
    have h3 : p.toNatClampNeg = 0 := by
      have h5 := Int32.lt_iff_toInt_lt.mp q
      have h6 : (0 : Int32).toInt = 0 := by decide
      have h7 : p.toNatClampNeg = p.toInt.toNat := rfl
      omega
    have h4 : a = 0 := by omega
    subst h4
    exact c (by rw [nI_0]; exact Int32.le_of_lt q)
  obtain ⟨j, hj, rfl⟩ := nI_of hp
  rw [nI_clamp hj] at h1 h2
  have h5 : a < j := by
    rcases Nat.lt_or_ge a j with q | q
    · exact q
    · exact absurd (nI_le q (by omega)) c
  exact ⟨a + 1, nI_1 a, by rw [nI_clamp hj]; omega, by rw [nI_clamp hj]; omega⟩
/-- by program: the loop at 21 of RobotWorld.kill -/
def f_X3_kill_L21 (k : CK) (i : Nat) (p3 : Int32) : Nat → Int32 → Mem → Mem
  | 0, _, M => M
  | n + 1, x, M =>
    if p3 ≤ x then
      M
    else
      f_X3_kill_L21 k i p3 n (x + 1) (f_X1_addItem k M (M (i + 1) 0 5) (M (i + 1) 0 6)).2
set_option maxHeartbeats 4000000 in
set_option maxRecDepth 100000 in
theorem lp_X3_kill_L21 {p : Program} {l : Launch} {e : Env} {s : State} {m : MethodId} {args : Array Value} {below : List Frame} {meth : Method} {c : Code} {Q : State → Prop} (k : CK) (i : Nat) (p3 : Int32) (hi : i < k.2.1 0) (hx : p.tables.exec = Jvm.exec) (hb : c.code = cX3_kill) (hr : meth.sig.returnType = (some .int)) (hml : c.maxLocals = 5) (hts : ∀ x ∈ wsX3_kill, x.before args s = true) (hown : s.vm.findClass RX3 = some m.cls) (hlocks : meth.locks = false) (hK : va_K (wD (cw k)) vwCl (wT (cw k)) s) {M0 : Mem} (hD : va_D (wA (cw k)) (wW (cw k) M0)) (hZ : wZ (cw k) (wA (cw k)) s s.heap)  : ∀ (n : Nat) (x : Int32) (M : Mem) (H : Heap) (locs : List Loc) (ls : Array Slot), cI k M ∧ lpQ p3 n x → wP (cw k) M H → va_S (wA (cw k)) s.heap H locs → lv_has ls 5 [(4, .int x), (3, .int p3), (2, .ref (k.1 (i + 1) 0)), (0, .ref (k.1 0 0))] → (∀ (H : Heap) (locs : List Loc) (ls : Array Slot), wP (cw k) (f_X3_kill_L21 k i p3 n x M) H → va_S (wA (cw k)) s.heap H locs → lv_has ls 5 [(0, .ref (k.1 0 0)), (2, .ref (k.1 (i + 1) 0)), (3, .int p3)] → W p l e (rmK 2 45) s m args below meth c H locs 0 0 Q (F0 m 49 ls [])) → W p l e (rmK 2 45) s m args below meth c H locs 0 0 Q (F0 m 21 ls []) := by
  have hiX2 : ∀ x ∈ u_ws RX2 TX2 12, x ∈ wsX3_kill := by decide +kernel
  have hiX3 : ∀ x ∈ u_ws RX3 TX3 4, x ∈ wsX3_kill := by decide +kernel
  have hf101 := hts (.fieldLink RX3 101 "RobotWorld$Robot" "y" "I") (by decide +kernel)
  have hf18 := hts (.fieldLink RX3 18 "RobotWorld" "land" "LRobotWorld$Land;") (by decide +kernel)
  have hf98 := hts (.fieldLink RX3 98 "RobotWorld$Robot" "x" "I") (by decide +kernel)
  intro n
  induction n with
  | zero =>
    intro x M H locs ls hinv
    exact absurd hinv (fun h => lpQ_z h.2)
  | succ n ih =>
    intro x M H locs ls hinv hP hS hl kk
    refine lv_iload hx hb dX3_kill_21 (lv_at hl 0 rfl) ?_
    refine lv_iload_n hx hb dX3_kill_23 rfl (lv_at hl 1 rfl) ?_
    refine lv_icmp_ge (tgt := 49) hx hb dX3_kill_24 (by decide) (fun c_24 => ?_) (fun c_24 => ?_)
    · have e9 : f_X3_kill_L21 k i p3 (n + 1) x M = M := (by rw [f_X3_kill_L21]; rw [if_pos c_24])
      rw [e9] at kk
      exact kk _ _ ls hP hS (lv_sub hl [3, 2, 1] rfl)
    · refine lv_aload_n hx hb dX3_kill_27 rfl (lv_at hl 3 rfl) ?_
      refine wx_get (w := (cw k)) (g := 0) (j := 0) hx hb hts hiX3 hown hK hP (cIx_0 (by decide)) rfl rfl 0 (by decide) hf18 rfl dX3_kill_28 ?_
      refine lv_aload_n hx hb dX3_kill_31 rfl (lv_at hl 2 rfl) ?_
      refine wx_get (w := (cw k)) (g := (i + 1)) (j := 0) hx hb hts hiX2 hown hK hP (cIx_r hi (by decide)) rfl rfl 5 (by decide) hf98 rfl dX3_kill_32 ?_
      refine lv_aload_n hx hb dX3_kill_35 rfl (lv_at hl 2 rfl) ?_
      refine wx_get (w := (cw k)) (g := (i + 1)) (j := 0) hx hb hts hiX2 hown hK hP (cIx_r hi (by decide)) rfl rfl 6 (by decide) hf101 rfl dX3_kill_36 ?_
      refine wx_Vi (w := (cw k)) ((f_X1_addItem k M (M (i + 1) 0 5) (M (i + 1) 0 6)).1) ((f_X1_addItem k M (M (i + 1) 0 5) (M (i + 1) 0 6)).2) [.int (M (i + 1) 0 5), .int (M (i + 1) 0 6)] [] (cZok k) ⟨hx, hb, hml, hown, hts⟩ (c_X1_addItem l k M (M (i + 1) 0 5) (M (i + 1) 0 6) hinv.1) (cwV 2 hts gX3_kill_X1_addItem rfl rfl rfl (by decide +kernel) ⟨by decide, by decide⟩) (wx_recv (w := (cw k)) (g := 0) (j := 1) hK hP (cIx_0 (by decide)) rfl rfl) hP hK hD hZ hS rfl hl.1 rfl (Nat.le_of_ble_eq_true rfl) dX3_kill_39 ⟨by decide, by decide⟩ (fun H locs hP hS => ?_)
      refine lv_pop hx hb dX3_kill_42 rfl ?_
      refine lv_iinc (v := (x + 1)) (lv' := [(4, .int (x + 1)), (3, .int p3), (2, .ref (k.1 (i + 1) 0)), (0, .ref (k.1 0 0))]) hx hb dX3_kill_43 hl (k := 0) rfl rfl (by decide) rfl (fun ls hl => ?_)
      refine lv_goto (tgt := 21) hx hb dX3_kill_46 (by decide) ?_
      have e9 : f_X3_kill_L21 k i p3 (n + 1) x M = f_X3_kill_L21 k i p3 n (x + 1) (f_X1_addItem k M (M (i + 1) 0 5) (M (i + 1) 0 6)).2 := (by rw [f_X3_kill_L21]; rw [if_neg c_24])
      exact ih (x + 1) (f_X1_addItem k M (M (i + 1) 0 5) (M (i + 1) 0 6)).2 _ _ ls (⟨cI_addItem hinv.1, lpQ_s hinv.2 c_24⟩) hP hS (lv_sub hl [0, 1, 2, 3] rfl) (by rw [e9] at kk; exact kk)
/-- by program, from the bytecode of RobotWorld.kill -/
def f_X3_kill (k : CK) (M : Mem) (p1 : Int32) : Int32 × Mem :=
  match (f_X3_robotOf k M p1) with
  | none =>
    ((-2), M)
  | some i_2 =>
    ((M (i_2 + 1) 0 10), (mu (f_X3_kill_L21 k i_2 (M (i_2 + 1) 0 10) ((M (i_2 + 1) 0 10).toNatClampNeg + 1) 0 M) (i_2 + 1) 0 4 0))
set_option maxHeartbeats 4000000 in
set_option maxRecDepth 100000 in
theorem c_X3_kill (l : Launch) (k : CK) (M : Mem) (p1 : Int32) (hI : cI k M) : Met l yX3_kill wsX3_kill (rmK 2 45) (wPc (cw k) M [.ref (k.1 0 0), .int p1]) (wQi (cw k) (fun r u => r = (f_X3_kill k M p1).1 ∧ u = (f_X3_kill k M p1).2)) 0 0 (wA (cw k)) := by
  refine wx_met (cc := cX3_kill) (maxL := 5) (ret := (some .int)) (by decide) rfl (Nat.le_of_ble_eq_true rfl) ?_
  intro p e s m below meth c ls hx hb hr hml hts hown hlocks hP hK hD hZ hS hl
  have hown : s.vm.findClass RX3 = some m.cls := hown
  have hl : lv_has ls 5 [(0, .ref (k.1 0 0)), (1, .int p1)] := hl
  have hiX2 : ∀ x ∈ u_ws RX2 TX2 12, x ∈ wsX3_kill := by decide +kernel
  have hf52 := hts (.fieldLink RX3 52 "RobotWorld$Robot" "state" "I") (by decide +kernel)
  have hf95 := hts (.fieldLink RX3 95 "RobotWorld$Robot" "carried" "I") (by decide +kernel)
  refine lv_aload_n hx hb dX3_kill_0 rfl (lv_at hl 0 rfl) ?_
  refine lv_iload_n hx hb dX3_kill_1 rfl (lv_at hl 1 rfl) ?_
  refine wx_Vq (w := (cw k)) (f_X3_robotOf k M p1) [.int p1] [] (cZok k) ⟨hx, hb, hml, hown, hts⟩ (c_X3_robotOf l k M p1 hI) (cwV 1 hts gX3_kill_X3_robotOf rfl rfl rfl (by decide +kernel) ⟨by decide, by decide⟩) (wx_recv (w := (cw k)) (g := 0) (j := 0) hK hP (cIx_0 (by decide)) rfl rfl) hP hK hD hZ hS rfl hl.1 rfl (Nat.le_of_ble_eq_true rfl) dX3_kill_2 ⟨by decide, by decide⟩ (fun H locs q_2 hP hS => ?_) (fun i_2 H locs q_2 hP hS => ?_)
  · refine lv_astore_nN (lv' := [(2, .null), (0, .ref (k.1 0 0)), (1, .int p1)]) hx hb dX3_kill_5 rfl hl (by decide) rfl (fun ls hl => ?_)
    refine lv_aload_nN hx hb dX3_kill_6 rfl (lv_at hl 0 rfl) ?_
    refine lv_ifnonnullN hx hb dX3_kill_7 ?_
    refine lv_bipush (v := (-2)) hx hb dX3_kill_10 (by decide) ?_
    have e9 : f_X3_kill k M p1 = ((-2), M) := (by unfold f_X3_kill; simp only [q_2])
    exact wx_iret hx hb hr hlocks hP hS rfl ⟨by rw [e9], by rw [e9]⟩ dX3_kill_12
  · refine lv_astore_n (lv' := [(2, .ref (k.1 (i_2 + 1) 0)), (0, .ref (k.1 0 0)), (1, .int p1)]) hx hb dX3_kill_5 rfl hl (by decide) rfl (fun ls hl => ?_)
    refine lv_aload_n hx hb dX3_kill_6 rfl (lv_at hl 0 rfl) ?_
    refine lv_ifnonnull (tgt := 13) hx hb dX3_kill_7 (by decide) ?_
    refine lv_aload_n hx hb dX3_kill_13 rfl (lv_at hl 0 rfl) ?_
    refine wx_get (w := (cw k)) (g := (i_2 + 1)) (j := 0) hx hb hts hiX2 hown hK hP (cIx_r (robotOf_lt hI q_2) (by decide)) rfl rfl 10 (by decide) hf95 rfl dX3_kill_14 ?_
    refine lv_istore_n (lv' := [(3, .int (M (i_2 + 1) 0 10)), (2, .ref (k.1 (i_2 + 1) 0)), (0, .ref (k.1 0 0)), (1, .int p1)]) hx hb dX3_kill_17 rfl hl (by decide) rfl (fun ls hl => ?_)
    refine lv_iconst (v := 0) hx hb dX3_kill_18 (by decide) ?_
    refine lv_istore (lv' := [(4, .int 0), (3, .int (M (i_2 + 1) 0 10)), (2, .ref (k.1 (i_2 + 1) 0)), (0, .ref (k.1 0 0)), (1, .int p1)]) hx hb dX3_kill_19 hl (by decide) rfl (fun ls hl => ?_)
    refine lp_X3_kill_L21 k i_2 (M (i_2 + 1) 0 10) ((robotOf_lt hI q_2)) hx hb hr hml hts hown hlocks hK hD hZ ((M (i_2 + 1) 0 10).toNatClampNeg + 1) 0 M _ _ ls (⟨hI, lpQ_i _⟩) hP hS (lv_sub hl [0, 1, 2, 3] rfl) (fun H locs ls hP hS hl => ?_)
    refine lv_aload_n hx hb dX3_kill_49 rfl (lv_at hl 1 rfl) ?_
    refine lv_iconst (v := 0) hx hb dX3_kill_50 (by decide) ?_
    refine wx_put (w := (cw k)) (g := (i_2 + 1)) (j := 0) hx hb hts hiX2 tyX2 tyX2_ok nmX2 hown hK hP hD hS (cIx_r (robotOf_lt hI q_2) (by decide)) rfl rfl 4 (by decide) hf52 rfl (by decide +kernel) rfl (Nat.le_of_ble_eq_true rfl) dX3_kill_51 (fun H locs hP hS => ?_)
    refine lv_iload_n hx hb dX3_kill_54 rfl (lv_at hl 2 rfl) ?_
    have e9 : f_X3_kill k M p1 = ((M (i_2 + 1) 0 10), (mu (f_X3_kill_L21 k i_2 (M (i_2 + 1) 0 10) ((M (i_2 + 1) 0 10).toNatClampNeg + 1) 0 M) (i_2 + 1) 0 4 0)) := (by unfold f_X3_kill; simp only [q_2])
    exact wx_iret hx hb hr hlocks hP hS rfl ⟨by rw [e9], by rw [e9]⟩ dX3_kill_55
/-- by program, from the bytecode of RobotWorld.robotX -/
def f_X3_robotX (k : CK) (M : Mem) (p1 : Int32) : Int32 :=
  match (f_X3_robotOf k M p1) with
  | none =>
    (-1)
  | some i_2 =>
    (M (i_2 + 1) 0 5)
set_option maxHeartbeats 4000000 in
set_option maxRecDepth 100000 in
theorem c_X3_robotX (l : Launch) (k : CK) (M : Mem) (p1 : Int32) (hI : cI k M) : Met l yX3_robotX wsX3_robotX (rmK 2 42) (wPc (cw k) M [.ref (k.1 0 0), .int p1]) (wQi (cw k) (fun r u => r = (f_X3_robotX k M p1) ∧ u = M)) 0 0 (wA (cw k)) := by
  refine wx_met (cc := cX3_robotX) (maxL := 3) (ret := (some .int)) (by decide) rfl (Nat.le_of_ble_eq_true rfl) ?_
  intro p e s m below meth c ls hx hb hr hml hts hown hlocks hP hK hD hZ hS hl
  have hown : s.vm.findClass RX3 = some m.cls := hown
  have hl : lv_has ls 3 [(0, .ref (k.1 0 0)), (1, .int p1)] := hl
  have hiX2 : ∀ x ∈ u_ws RX2 TX2 12, x ∈ wsX3_robotX := by decide +kernel
  have hf98 := hts (.fieldLink RX3 98 "RobotWorld$Robot" "x" "I") (by decide +kernel)
  refine lv_aload_n hx hb dX3_robotX_0 rfl (lv_at hl 0 rfl) ?_
  refine lv_iload_n hx hb dX3_robotX_1 rfl (lv_at hl 1 rfl) ?_
  refine wx_Vq (w := (cw k)) (f_X3_robotOf k M p1) [.int p1] [] (cZok k) ⟨hx, hb, hml, hown, hts⟩ (c_X3_robotOf l k M p1 hI) (cwV 1 hts gX3_robotX_X3_robotOf rfl rfl rfl (by decide +kernel) ⟨by decide, by decide⟩) (wx_recv (w := (cw k)) (g := 0) (j := 0) hK hP (cIx_0 (by decide)) rfl rfl) hP hK hD hZ hS rfl hl.1 rfl (Nat.le_of_ble_eq_true rfl) dX3_robotX_2 ⟨by decide, by decide⟩ (fun H locs q_2 hP hS => ?_) (fun i_2 H locs q_2 hP hS => ?_)
  · refine lv_astore_nN (lv' := [(2, .null), (0, .ref (k.1 0 0)), (1, .int p1)]) hx hb dX3_robotX_5 rfl hl (by decide) rfl (fun ls hl => ?_)
    refine lv_aload_nN hx hb dX3_robotX_6 rfl (lv_at hl 0 rfl) ?_
    refine lv_ifnonnullN hx hb dX3_robotX_7 ?_
    refine lv_iconst (v := (-1)) hx hb dX3_robotX_10 (by decide) ?_
    refine lv_goto (tgt := 18) hx hb dX3_robotX_11 (by decide) ?_
    have e9 : f_X3_robotX k M p1 = (-1) := (by unfold f_X3_robotX; simp only [q_2])
    exact wx_iret hx hb hr hlocks hP hS rfl ⟨e9.symm, rfl⟩ dX3_robotX_18
  · refine lv_astore_n (lv' := [(2, .ref (k.1 (i_2 + 1) 0)), (0, .ref (k.1 0 0)), (1, .int p1)]) hx hb dX3_robotX_5 rfl hl (by decide) rfl (fun ls hl => ?_)
    refine lv_aload_n hx hb dX3_robotX_6 rfl (lv_at hl 0 rfl) ?_
    refine lv_ifnonnull (tgt := 14) hx hb dX3_robotX_7 (by decide) ?_
    refine lv_aload_n hx hb dX3_robotX_14 rfl (lv_at hl 0 rfl) ?_
    refine wx_get (w := (cw k)) (g := (i_2 + 1)) (j := 0) hx hb hts hiX2 hown hK hP (cIx_r (robotOf_lt hI q_2) (by decide)) rfl rfl 5 (by decide) hf98 rfl dX3_robotX_15 ?_
    have e9 : f_X3_robotX k M p1 = (M (i_2 + 1) 0 5) := (by unfold f_X3_robotX; simp only [q_2])
    exact wx_iret hx hb hr hlocks hP hS rfl ⟨e9.symm, rfl⟩ dX3_robotX_18
/-- by program, from the bytecode of RobotWorld.robotY -/
def f_X3_robotY (k : CK) (M : Mem) (p1 : Int32) : Int32 :=
  match (f_X3_robotOf k M p1) with
  | none =>
    (-1)
  | some i_2 =>
    (M (i_2 + 1) 0 6)
set_option maxHeartbeats 4000000 in
set_option maxRecDepth 100000 in
theorem c_X3_robotY (l : Launch) (k : CK) (M : Mem) (p1 : Int32) (hI : cI k M) : Met l yX3_robotY wsX3_robotY (rmK 2 42) (wPc (cw k) M [.ref (k.1 0 0), .int p1]) (wQi (cw k) (fun r u => r = (f_X3_robotY k M p1) ∧ u = M)) 0 0 (wA (cw k)) := by
  refine wx_met (cc := cX3_robotY) (maxL := 3) (ret := (some .int)) (by decide) rfl (Nat.le_of_ble_eq_true rfl) ?_
  intro p e s m below meth c ls hx hb hr hml hts hown hlocks hP hK hD hZ hS hl
  have hown : s.vm.findClass RX3 = some m.cls := hown
  have hl : lv_has ls 3 [(0, .ref (k.1 0 0)), (1, .int p1)] := hl
  have hiX2 : ∀ x ∈ u_ws RX2 TX2 12, x ∈ wsX3_robotY := by decide +kernel
  have hf101 := hts (.fieldLink RX3 101 "RobotWorld$Robot" "y" "I") (by decide +kernel)
  refine lv_aload_n hx hb dX3_robotY_0 rfl (lv_at hl 0 rfl) ?_
  refine lv_iload_n hx hb dX3_robotY_1 rfl (lv_at hl 1 rfl) ?_
  refine wx_Vq (w := (cw k)) (f_X3_robotOf k M p1) [.int p1] [] (cZok k) ⟨hx, hb, hml, hown, hts⟩ (c_X3_robotOf l k M p1 hI) (cwV 1 hts gX3_robotY_X3_robotOf rfl rfl rfl (by decide +kernel) ⟨by decide, by decide⟩) (wx_recv (w := (cw k)) (g := 0) (j := 0) hK hP (cIx_0 (by decide)) rfl rfl) hP hK hD hZ hS rfl hl.1 rfl (Nat.le_of_ble_eq_true rfl) dX3_robotY_2 ⟨by decide, by decide⟩ (fun H locs q_2 hP hS => ?_) (fun i_2 H locs q_2 hP hS => ?_)
  · refine lv_astore_nN (lv' := [(2, .null), (0, .ref (k.1 0 0)), (1, .int p1)]) hx hb dX3_robotY_5 rfl hl (by decide) rfl (fun ls hl => ?_)
    refine lv_aload_nN hx hb dX3_robotY_6 rfl (lv_at hl 0 rfl) ?_
    refine lv_ifnonnullN hx hb dX3_robotY_7 ?_
    refine lv_iconst (v := (-1)) hx hb dX3_robotY_10 (by decide) ?_
    refine lv_goto (tgt := 18) hx hb dX3_robotY_11 (by decide) ?_
    have e9 : f_X3_robotY k M p1 = (-1) := (by unfold f_X3_robotY; simp only [q_2])
    exact wx_iret hx hb hr hlocks hP hS rfl ⟨e9.symm, rfl⟩ dX3_robotY_18
  · refine lv_astore_n (lv' := [(2, .ref (k.1 (i_2 + 1) 0)), (0, .ref (k.1 0 0)), (1, .int p1)]) hx hb dX3_robotY_5 rfl hl (by decide) rfl (fun ls hl => ?_)
    refine lv_aload_n hx hb dX3_robotY_6 rfl (lv_at hl 0 rfl) ?_
    refine lv_ifnonnull (tgt := 14) hx hb dX3_robotY_7 (by decide) ?_
    refine lv_aload_n hx hb dX3_robotY_14 rfl (lv_at hl 0 rfl) ?_
    refine wx_get (w := (cw k)) (g := (i_2 + 1)) (j := 0) hx hb hts hiX2 hown hK hP (cIx_r (robotOf_lt hI q_2) (by decide)) rfl rfl 6 (by decide) hf101 rfl dX3_robotY_15 ?_
    have e9 : f_X3_robotY k M p1 = (M (i_2 + 1) 0 6) := (by unfold f_X3_robotY; simp only [q_2])
    exact wx_iret hx hb hr hlocks hP hS rfl ⟨e9.symm, rfl⟩ dX3_robotY_18
/-- by program, from the bytecode of RobotWorld.robotState -/
def f_X3_robotState (k : CK) (M : Mem) (p1 : Int32) : Int32 :=
  if (f_X3_isNumber k M p1) = 0 then
    (-1)
  else
    (M (p1.toNatClampNeg + 1) 0 4)
set_option maxHeartbeats 4000000 in
set_option maxRecDepth 100000 in
theorem c_X3_robotState (l : Launch) (k : CK) (M : Mem) (p1 : Int32) (hI : cI k M) : Met l yX3_robotState wsX3_robotState (rmK 1 21) (wPc (cw k) M [.ref (k.1 0 0), .int p1]) (wQi (cw k) (fun r u => r = (f_X3_robotState k M p1) ∧ u = M)) 0 0 (wA (cw k)) := by
  refine wx_met (cc := cX3_robotState) (maxL := 2) (ret := (some .int)) (by decide) rfl (Nat.le_of_ble_eq_true rfl) ?_
  intro p e s m below meth c ls hx hb hr hml hts hown hlocks hP hK hD hZ hS hl
  have hown : s.vm.findClass RX3 = some m.cls := hown
  have hl : lv_has ls 2 [(0, .ref (k.1 0 0)), (1, .int p1)] := hl
  have hiX2 : ∀ x ∈ u_ws RX2 TX2 12, x ∈ wsX3_robotState := by decide +kernel
  have hiX3 : ∀ x ∈ u_ws RX3 TX3 4, x ∈ wsX3_robotState := by decide +kernel
  have hf24 := hts (.fieldLink RX3 24 "RobotWorld" "robots" "[LRobotWorld$Robot;") (by decide +kernel)
  have hf52 := hts (.fieldLink RX3 52 "RobotWorld$Robot" "state" "I") (by decide +kernel)
  refine lv_aload_n hx hb dX3_robotState_0 rfl (lv_at hl 0 rfl) ?_
  refine lv_iload_n hx hb dX3_robotState_1 rfl (lv_at hl 1 rfl) ?_
  refine wx_Vi (w := (cw k)) (f_X3_isNumber k M p1) M [.int p1] [] (cZok k) ⟨hx, hb, hml, hown, hts⟩ (c_X3_isNumber l k M p1 ) (cwV 1 hts gX3_robotState_X3_isNumber rfl rfl rfl (by decide +kernel) ⟨by decide, by decide⟩) (wx_recv (w := (cw k)) (g := 0) (j := 0) hK hP (cIx_0 (by decide)) rfl rfl) hP hK hD hZ hS rfl hl.1 rfl (Nat.le_of_ble_eq_true rfl) dX3_robotState_2 ⟨by decide, by decide⟩ (fun H locs hP hS => ?_)
  refine lv_if_eq (tgt := 20) hx hb dX3_robotState_5 (by decide) (fun c_5 => ?_) (fun c_5 => ?_)
  · refine lv_iconst (v := (-1)) hx hb dX3_robotState_20 (by decide) ?_
    have e9 : f_X3_robotState k M p1 = (-1) := (by unfold f_X3_robotState; rw [if_pos c_5])
    exact wx_iret hx hb hr hlocks hP hS rfl ⟨e9.symm, rfl⟩ dX3_robotState_21
  · refine lv_aload_n hx hb dX3_robotState_8 rfl (lv_at hl 0 rfl) ?_
    refine wx_get (w := (cw k)) (g := 0) (j := 0) hx hb hts hiX3 hown hK hP (cIx_0 (by decide)) rfl rfl 1 (by decide) hf24 rfl dX3_robotState_9 ?_
    refine lv_iload_n hx hb dX3_robotState_12 rfl (lv_at hl 1 rfl) ?_
    refine wx_aald (w := (cw k)) (g := 0) (j := 5) hx hb hK hP (cIx_0 (by decide)) 1 rfl rfl (num_in hI c_5) rfl dX3_robotState_13 ?_
    refine wx_get (w := (cw k)) (g := (p1.toNatClampNeg + 1)) (j := 0) hx hb hts hiX2 hown hK hP (cIx_r (vp_lt (num_in hI c_5)) (by decide)) rfl rfl 4 (by decide) hf52 rfl dX3_robotState_14 ?_
    refine lv_goto (tgt := 21) hx hb dX3_robotState_17 (by decide) ?_
    have e9 : f_X3_robotState k M p1 = (M (p1.toNatClampNeg + 1) 0 4) := (by unfold f_X3_robotState; rw [if_neg c_5])
    exact wx_iret hx hb hr hlocks hP hS rfl ⟨e9.symm, rfl⟩ dX3_robotState_21
/-- by program, from the bytecode of RobotWorld.reg -/
def f_X3_reg (k : CK) (M : Mem) (p1 : Int32) (p2 : Int32) : Int32 :=
  match (f_X3_robotOf k M p1) with
  | none =>
    0
  | some i_2 =>
    (f_X2_show k M i_2 p2)
set_option maxHeartbeats 4000000 in
set_option maxRecDepth 100000 in
theorem c_X3_reg (l : Launch) (k : CK) (M : Mem) (p1 : Int32) (p2 : Int32) (hI : cI k M) : Met l yX3_reg wsX3_reg (rmK 2 42) (wPc (cw k) M [.ref (k.1 0 0), .int p1, .int p2]) (wQi (cw k) (fun r u => r = (f_X3_reg k M p1 p2) ∧ u = M)) 0 0 (wA (cw k)) := by
  refine wx_met (cc := cX3_reg) (maxL := 4) (ret := (some .int)) (by decide) rfl (Nat.le_of_ble_eq_true rfl) ?_
  intro p e s m below meth c ls hx hb hr hml hts hown hlocks hP hK hD hZ hS hl
  have hown : s.vm.findClass RX3 = some m.cls := hown
  have hl : lv_has ls 4 [(0, .ref (k.1 0 0)), (1, .int p1), (2, .int p2)] := hl
  refine lv_aload_n hx hb dX3_reg_0 rfl (lv_at hl 0 rfl) ?_
  refine lv_iload_n hx hb dX3_reg_1 rfl (lv_at hl 1 rfl) ?_
  refine wx_Vq (w := (cw k)) (f_X3_robotOf k M p1) [.int p1] [] (cZok k) ⟨hx, hb, hml, hown, hts⟩ (c_X3_robotOf l k M p1 hI) (cwV 1 hts gX3_reg_X3_robotOf rfl rfl rfl (by decide +kernel) ⟨by decide, by decide⟩) (wx_recv (w := (cw k)) (g := 0) (j := 0) hK hP (cIx_0 (by decide)) rfl rfl) hP hK hD hZ hS rfl hl.1 rfl (Nat.le_of_ble_eq_true rfl) dX3_reg_2 ⟨by decide, by decide⟩ (fun H locs q_2 hP hS => ?_) (fun i_2 H locs q_2 hP hS => ?_)
  · refine lv_astore_nN (lv' := [(3, .null), (0, .ref (k.1 0 0)), (1, .int p1), (2, .int p2)]) hx hb dX3_reg_5 rfl hl (by decide) rfl (fun ls hl => ?_)
    refine lv_aload_nN hx hb dX3_reg_6 rfl (lv_at hl 0 rfl) ?_
    refine lv_ifnonnullN hx hb dX3_reg_7 ?_
    refine lv_iconst (v := 0) hx hb dX3_reg_10 (by decide) ?_
    refine lv_goto (tgt := 19) hx hb dX3_reg_11 (by decide) ?_
    have e9 : f_X3_reg k M p1 p2 = 0 := (by unfold f_X3_reg; simp only [q_2])
    exact wx_iret hx hb hr hlocks hP hS rfl ⟨e9.symm, rfl⟩ dX3_reg_19
  · refine lv_astore_n (lv' := [(3, .ref (k.1 (i_2 + 1) 0)), (0, .ref (k.1 0 0)), (1, .int p1), (2, .int p2)]) hx hb dX3_reg_5 rfl hl (by decide) rfl (fun ls hl => ?_)
    refine lv_aload_n hx hb dX3_reg_6 rfl (lv_at hl 0 rfl) ?_
    refine lv_ifnonnull (tgt := 14) hx hb dX3_reg_7 (by decide) ?_
    refine lv_aload_n hx hb dX3_reg_14 rfl (lv_at hl 0 rfl) ?_
    refine lv_iload_n hx hb dX3_reg_15 rfl (lv_at hl 3 rfl) ?_
    refine wx_Vi (w := (cw k)) (f_X2_show k M i_2 p2) M [.int p2] [] (cZok k) ⟨hx, hb, hml, hown, hts⟩ (c_X2_show l k M i_2 p2 ((robotOf_lt hI q_2)) ) (cwV 1 hts gX3_reg_X2_show rfl rfl rfl (by decide +kernel) ⟨by decide, by decide⟩) (wx_recv (w := (cw k)) (g := (i_2 + 1)) (j := 0) hK hP (cIx_r (robotOf_lt hI q_2) (by decide)) rfl rfl) hP hK hD hZ hS rfl hl.1 rfl (Nat.le_of_ble_eq_true rfl) dX3_reg_16 ⟨by decide, by decide⟩ (fun H locs hP hS => ?_)
    have e9 : f_X3_reg k M p1 p2 = (f_X2_show k M i_2 p2) := (by unfold f_X3_reg; simp only [q_2])
    exact wx_iret hx hb hr hlocks hP hS rfl ⟨e9.symm, rfl⟩ dX3_reg_19
/-- by program, from the bytecode of RobotWorld.at -/
def f_X3_at (k : CK) (M : Mem) (p1 : Int32) (p2 : Int32) : Int32 :=
  match (f_X3_robotOn k M p1 p2) with
  | none =>
    (f_X1_contentOf k M p1 p2)
  | some i_3 =>
    ((f_X1_contentOf k M p1 p2) + (256 * ((M (i_3 + 1) 0 0) + 1)))
set_option maxHeartbeats 4000000 in
set_option maxRecDepth 100000 in
theorem c_X3_at (l : Launch) (k : CK) (M : Mem) (p1 : Int32) (p2 : Int32) (hI : cI k M) : Met l yX3_at wsX3_at (rmK 2 44) (wPc (cw k) M [.ref (k.1 0 0), .int p1, .int p2]) (wQi (cw k) (fun r u => r = (f_X3_at k M p1 p2) ∧ u = M)) 0 0 (wA (cw k)) := by
  refine wx_met (cc := cX3_at) (maxL := 5) (ret := (some .int)) (by decide) rfl (Nat.le_of_ble_eq_true rfl) ?_
  intro p e s m below meth c ls hx hb hr hml hts hown hlocks hP hK hD hZ hS hl
  have hown : s.vm.findClass RX3 = some m.cls := hown
  have hl : lv_has ls 5 [(0, .ref (k.1 0 0)), (1, .int p1), (2, .int p2)] := hl
  have hiX2 : ∀ x ∈ u_ws RX2 TX2 12, x ∈ wsX3_at := by decide +kernel
  have hiX3 : ∀ x ∈ u_ws RX3 TX3 4, x ∈ wsX3_at := by decide +kernel
  have hf18 := hts (.fieldLink RX3 18 "RobotWorld" "land" "LRobotWorld$Land;") (by decide +kernel)
  have hf74 := hts (.fieldLink RX3 74 "RobotWorld$Robot" "number" "I") (by decide +kernel)
  refine lv_aload_n hx hb dX3_at_0 rfl (lv_at hl 0 rfl) ?_
  refine lv_iload_n hx hb dX3_at_1 rfl (lv_at hl 1 rfl) ?_
  refine lv_iload_n hx hb dX3_at_2 rfl (lv_at hl 2 rfl) ?_
  refine wx_Vq (w := (cw k)) (f_X3_robotOn k M p1 p2) [.int p1, .int p2] [] (cZok k) ⟨hx, hb, hml, hown, hts⟩ (c_X3_robotOn l k M p1 p2 hI) (cwV 2 hts gX3_at_X3_robotOn rfl rfl rfl (by decide +kernel) ⟨by decide, by decide⟩) (wx_recv (w := (cw k)) (g := 0) (j := 0) hK hP (cIx_0 (by decide)) rfl rfl) hP hK hD hZ hS rfl hl.1 rfl (Nat.le_of_ble_eq_true rfl) dX3_at_3 ⟨by decide, by decide⟩ (fun H locs q_3 hP hS => ?_) (fun i_3 H locs q_3 hP hS => ?_)
  · refine lv_astore_nN (lv' := [(3, .null), (0, .ref (k.1 0 0)), (1, .int p1), (2, .int p2)]) hx hb dX3_at_6 rfl hl (by decide) rfl (fun ls hl => ?_)
    refine lv_aload_n hx hb dX3_at_7 rfl (lv_at hl 1 rfl) ?_
    refine wx_get (w := (cw k)) (g := 0) (j := 0) hx hb hts hiX3 hown hK hP (cIx_0 (by decide)) rfl rfl 0 (by decide) hf18 rfl dX3_at_8 ?_
    refine lv_iload_n hx hb dX3_at_11 rfl (lv_at hl 2 rfl) ?_
    refine lv_iload_n hx hb dX3_at_12 rfl (lv_at hl 3 rfl) ?_
    refine wx_Vi (w := (cw k)) (f_X1_contentOf k M p1 p2) M [.int p1, .int p2] [] (cZok k) ⟨hx, hb, hml, hown, hts⟩ (c_X1_contentOf l k M p1 p2 hI) (cwV 2 hts gX3_at_X1_contentOf rfl rfl rfl (by decide +kernel) ⟨by decide, by decide⟩) (wx_recv (w := (cw k)) (g := 0) (j := 1) hK hP (cIx_0 (by decide)) rfl rfl) hP hK hD hZ hS rfl hl.1 rfl (Nat.le_of_ble_eq_true rfl) dX3_at_13 ⟨by decide, by decide⟩ (fun H locs hP hS => ?_)
    refine lv_istore (lv' := [(4, .int (f_X1_contentOf k M p1 p2)), (3, .null), (0, .ref (k.1 0 0)), (1, .int p1), (2, .int p2)]) hx hb dX3_at_16 hl (by decide) rfl (fun ls hl => ?_)
    refine lv_aload_nN hx hb dX3_at_18 rfl (lv_at hl 1 rfl) ?_
    refine lv_ifnonnullN hx hb dX3_at_19 ?_
    refine lv_iload hx hb dX3_at_22 (lv_at hl 0 rfl) ?_
    refine lv_goto (tgt := 40) hx hb dX3_at_24 (by decide) ?_
    have e9 : f_X3_at k M p1 p2 = (f_X1_contentOf k M p1 p2) := (by unfold f_X3_at; simp only [q_3])
    exact wx_iret hx hb hr hlocks hP hS rfl ⟨e9.symm, rfl⟩ dX3_at_40
  · refine lv_astore_n (lv' := [(3, .ref (k.1 (i_3 + 1) 0)), (0, .ref (k.1 0 0)), (1, .int p1), (2, .int p2)]) hx hb dX3_at_6 rfl hl (by decide) rfl (fun ls hl => ?_)
    refine lv_aload_n hx hb dX3_at_7 rfl (lv_at hl 1 rfl) ?_
    refine wx_get (w := (cw k)) (g := 0) (j := 0) hx hb hts hiX3 hown hK hP (cIx_0 (by decide)) rfl rfl 0 (by decide) hf18 rfl dX3_at_8 ?_
    refine lv_iload_n hx hb dX3_at_11 rfl (lv_at hl 2 rfl) ?_
    refine lv_iload_n hx hb dX3_at_12 rfl (lv_at hl 3 rfl) ?_
    refine wx_Vi (w := (cw k)) (f_X1_contentOf k M p1 p2) M [.int p1, .int p2] [] (cZok k) ⟨hx, hb, hml, hown, hts⟩ (c_X1_contentOf l k M p1 p2 hI) (cwV 2 hts gX3_at_X1_contentOf rfl rfl rfl (by decide +kernel) ⟨by decide, by decide⟩) (wx_recv (w := (cw k)) (g := 0) (j := 1) hK hP (cIx_0 (by decide)) rfl rfl) hP hK hD hZ hS rfl hl.1 rfl (Nat.le_of_ble_eq_true rfl) dX3_at_13 ⟨by decide, by decide⟩ (fun H locs hP hS => ?_)
    refine lv_istore (lv' := [(4, .int (f_X1_contentOf k M p1 p2)), (3, .ref (k.1 (i_3 + 1) 0)), (0, .ref (k.1 0 0)), (1, .int p1), (2, .int p2)]) hx hb dX3_at_16 hl (by decide) rfl (fun ls hl => ?_)
    refine lv_aload_n hx hb dX3_at_18 rfl (lv_at hl 1 rfl) ?_
    refine lv_ifnonnull (tgt := 27) hx hb dX3_at_19 (by decide) ?_
    refine lv_iload hx hb dX3_at_27 (lv_at hl 0 rfl) ?_
    refine lv_sipush (v := 256) hx hb dX3_at_29 (by decide) ?_
    refine lv_aload_n hx hb dX3_at_32 rfl (lv_at hl 1 rfl) ?_
    refine wx_get (w := (cw k)) (g := (i_3 + 1)) (j := 0) hx hb hts hiX2 hown hK hP (cIx_r (robotOn_lt hI q_3) (by decide)) rfl rfl 0 (by decide) hf74 rfl dX3_at_33 ?_
    refine lv_iconst (v := 1) hx hb dX3_at_36 (by decide) ?_
    refine lv_iadd hx hb dX3_at_37 ?_
    refine lv_imul hx hb dX3_at_38 ?_
    refine lv_iadd hx hb dX3_at_39 ?_
    have e9 : f_X3_at k M p1 p2 = ((f_X1_contentOf k M p1 p2) + (256 * ((M (i_3 + 1) 0 0) + 1))) := (by unfold f_X3_at; simp only [q_3])
    exact wx_iret hx hb hr hlocks hP hS rfl ⟨e9.symm, rfl⟩ dX3_at_40
/-- by program, from the bytecode of RobotWorld.now -/
def f_X3_now (k : CK) (M : Mem)  : Int32 :=
  (M 0 0 2)
set_option maxHeartbeats 4000000 in
set_option maxRecDepth 100000 in
theorem c_X3_now (l : Launch) (k : CK) (M : Mem)   : Met l yX3_now wsX3_now (rmK 0 0) (wPc (cw k) M [.ref (k.1 0 0)]) (wQi (cw k) (fun r u => r = (f_X3_now k M) ∧ u = M)) 0 0 (wA (cw k)) := by
  refine wx_met (cc := cX3_now) (maxL := 1) (ret := (some .int)) (by decide) rfl (Nat.le_of_ble_eq_true rfl) ?_
  intro p e s m below meth c ls hx hb hr hml hts hown hlocks hP hK hD hZ hS hl
  have hown : s.vm.findClass RX3 = some m.cls := hown
  have hl : lv_has ls 1 [(0, .ref (k.1 0 0))] := hl
  have hiX3 : ∀ x ∈ u_ws RX3 TX3 4, x ∈ wsX3_now := by decide +kernel
  have hf88 := hts (.fieldLink RX3 88 "RobotWorld" "clock" "I") (by decide +kernel)
  refine lv_aload_n hx hb dX3_now_0 rfl (lv_at hl 0 rfl) ?_
  refine wx_get (w := (cw k)) (g := 0) (j := 0) hx hb hts hiX3 hown hK hP (cIx_0 (by decide)) rfl rfl 2 (by decide) hf88 rfl dX3_now_1 ?_
  have e9 : f_X3_now k M = (M 0 0 2) := rfl
  exact wx_iret hx hb hr hlocks hP hS rfl ⟨e9.symm, rfl⟩ dX3_now_4
/-- by program, from the bytecode of RobotWorld.setClock -/
def f_X3_setClock (k : CK) (M : Mem) (p1 : Int32) : Mem :=
  (mu M 0 0 2 p1)
set_option maxHeartbeats 4000000 in
set_option maxRecDepth 100000 in
theorem c_X3_setClock (l : Launch) (k : CK) (M : Mem) (p1 : Int32)  : Met l yX3_setClock wsX3_setClock (rmK 0 0) (wPc (cw k) M [.ref (k.1 0 0), .int p1]) (wQv (cw k) (fun u => u = f_X3_setClock k M p1)) 0 0 (wA (cw k)) := by
  refine wx_met (cc := cX3_setClock) (maxL := 2) (ret := none) (by decide) rfl (Nat.le_of_ble_eq_true rfl) ?_
  intro p e s m below meth c ls hx hb hr hml hts hown hlocks hP hK hD hZ hS hl
  have hown : s.vm.findClass RX3 = some m.cls := hown
  have hl : lv_has ls 2 [(0, .ref (k.1 0 0)), (1, .int p1)] := hl
  have hiX3 : ∀ x ∈ u_ws RX3 TX3 4, x ∈ wsX3_setClock := by decide +kernel
  have hf88 := hts (.fieldLink RX3 88 "RobotWorld" "clock" "I") (by decide +kernel)
  refine lv_aload_n hx hb dX3_setClock_0 rfl (lv_at hl 0 rfl) ?_
  refine lv_iload_n hx hb dX3_setClock_1 rfl (lv_at hl 1 rfl) ?_
  refine wx_put (w := (cw k)) (g := 0) (j := 0) hx hb hts hiX3 tyX3 tyX3_ok nmX3 hown hK hP hD hS (cIx_0 (by decide)) rfl rfl 2 (by decide) hf88 rfl (by decide +kernel) rfl (Nat.le_of_ble_eq_true rfl) dX3_setClock_2 (fun H locs hP hS => ?_)
  have e9 : f_X3_setClock k M p1 = (mu M 0 0 2 p1) := rfl
  exact wx_vret hx hb hr hlocks hP hS e9.symm dX3_setClock_5
/-- by program, from the bytecode of RobotWorld.go -/
def f_X3_go (k : CK) (M : Mem) (i : Nat) (p1 : Int32) : Int32 × Mem :=
  if (f_X1_isOpen k M ((M (i + 1) 0 5) + (eB p1.toNatClampNeg)) ((M (i + 1) 0 6) + (sB p1.toNatClampNeg))) = 0 then
    (0, M)
  else
    match (f_X3_robotOn k M ((M (i + 1) 0 5) + (eB p1.toNatClampNeg)) ((M (i + 1) 0 6) + (sB p1.toNatClampNeg))) with
    | none =>
      (1, (mu (mu M (i + 1) 0 5 ((M (i + 1) 0 5) + (eB p1.toNatClampNeg))) (i + 1) 0 6 ((M (i + 1) 0 6) + (sB p1.toNatClampNeg))))
    | some i_42 =>
      (2, M)
set_option maxHeartbeats 4000000 in
set_option maxRecDepth 100000 in
theorem c_X3_go (l : Launch) (k : CK) (M : Mem) (i : Nat) (p1 : Int32) (hi : i < k.2.1 0) (hI : cI k M) (h4 : vp_in p1 4) : Met l yX3_go wsX3_go (rmK 1 24) (wPc (cw k) M [.ref (k.1 0 0), .ref (k.1 (i + 1) 0), .int p1]) (wQi (cw k) (fun r u => r = (f_X3_go k M i p1).1 ∧ u = (f_X3_go k M i p1).2)) 0 0 (wA (cw k)) := by
  refine wx_met (cc := cX3_go) (maxL := 5) (ret := (some .int)) (by decide) rfl (Nat.le_of_ble_eq_true rfl) ?_
  intro p e s m below meth c ls hx hb hr hml hts hown hlocks hP hK hD hZ hS hl
  have hown : s.vm.findClass RX3 = some m.cls := hown
  have hl : lv_has ls 5 [(0, .ref (k.1 0 0)), (1, .ref (k.1 (i + 1) 0)), (2, .int p1)] := hl
  have hiX2 : ∀ x ∈ u_ws RX2 TX2 12, x ∈ wsX3_go := by decide +kernel
  have hiX3 : ∀ x ∈ u_ws RX3 TX3 4, x ∈ wsX3_go := by decide +kernel
  have hf101 := hts (.fieldLink RX3 101 "RobotWorld$Robot" "y" "I") (by decide +kernel)
  have hf18 := hts (.fieldLink RX3 18 "RobotWorld" "land" "LRobotWorld$Land;") (by decide +kernel)
  have hf98 := hts (.fieldLink RX3 98 "RobotWorld$Robot" "x" "I") (by decide +kernel)
  obtain ⟨z1, z2, z3, z4, z5, z6, z7, z8, z9⟩ := (show cZ k (wA (cw k)) s s.heap from hZ)
  refine lv_aload_n hx hb dX3_go_0 rfl (lv_at hl 1 rfl) ?_
  refine wx_get (w := (cw k)) (g := (i + 1)) (j := 0) hx hb hts hiX2 hown hK hP (cIx_r hi (by decide)) rfl rfl 5 (by decide) hf98 rfl dX3_go_1 ?_
  refine va_gets hx hb z1 hS hown (hts (.fieldLink RX3 182 RX3 "EAST_BY" "[I") (by decide +kernel)) (fun _ h9 => h9) dX3_go_4 ?_
  refine lv_iload_n hx hb dX3_go_7 rfl (lv_at hl 2 rfl) ?_
  refine va_ti hx hb z2 hS (h4) rfl dX3_go_8 ?_
  refine lv_iadd hx hb dX3_go_9 ?_
  refine lv_istore_n (lv' := [(3, .int ((M (i + 1) 0 5) + (eB p1.toNatClampNeg))), (0, .ref (k.1 0 0)), (1, .ref (k.1 (i + 1) 0)), (2, .int p1)]) hx hb dX3_go_10 rfl hl (by decide) rfl (fun ls hl => ?_)
  refine lv_aload_n hx hb dX3_go_11 rfl (lv_at hl 2 rfl) ?_
  refine wx_get (w := (cw k)) (g := (i + 1)) (j := 0) hx hb hts hiX2 hown hK hP (cIx_r hi (by decide)) rfl rfl 6 (by decide) hf101 rfl dX3_go_12 ?_
  refine va_gets hx hb z3 hS hown (hts (.fieldLink RX3 185 RX3 "SOUTH_BY" "[I") (by decide +kernel)) (fun _ h9 => h9) dX3_go_15 ?_
  refine lv_iload_n hx hb dX3_go_18 rfl (lv_at hl 3 rfl) ?_
  refine va_ti hx hb z4 hS (h4) rfl dX3_go_19 ?_
  refine lv_iadd hx hb dX3_go_20 ?_
  refine lv_istore (lv' := [(4, .int ((M (i + 1) 0 6) + (sB p1.toNatClampNeg))), (3, .int ((M (i + 1) 0 5) + (eB p1.toNatClampNeg))), (0, .ref (k.1 0 0)), (1, .ref (k.1 (i + 1) 0)), (2, .int p1)]) hx hb dX3_go_21 hl (by decide) rfl (fun ls hl => ?_)
  refine lv_aload_n hx hb dX3_go_23 rfl (lv_at hl 2 rfl) ?_
  refine wx_get (w := (cw k)) (g := 0) (j := 0) hx hb hts hiX3 hown hK hP (cIx_0 (by decide)) rfl rfl 0 (by decide) hf18 rfl dX3_go_24 ?_
  refine lv_iload_n hx hb dX3_go_27 rfl (lv_at hl 1 rfl) ?_
  refine lv_iload hx hb dX3_go_28 (lv_at hl 0 rfl) ?_
  refine wx_Vi (w := (cw k)) (f_X1_isOpen k M ((M (i + 1) 0 5) + (eB p1.toNatClampNeg)) ((M (i + 1) 0 6) + (sB p1.toNatClampNeg))) M [.int ((M (i + 1) 0 5) + (eB p1.toNatClampNeg)), .int ((M (i + 1) 0 6) + (sB p1.toNatClampNeg))] [] (cZok k) ⟨hx, hb, hml, hown, hts⟩ (c_X1_isOpen l k M ((M (i + 1) 0 5) + (eB p1.toNatClampNeg)) ((M (i + 1) 0 6) + (sB p1.toNatClampNeg)) hI) (cwV 2 hts gX3_go_X1_isOpen rfl rfl rfl (by decide +kernel) ⟨by decide, by decide⟩) (wx_recv (w := (cw k)) (g := 0) (j := 1) hK hP (cIx_0 (by decide)) rfl rfl) hP hK hD hZ hS rfl hl.1 rfl (Nat.le_of_ble_eq_true rfl) dX3_go_30 ⟨by decide, by decide⟩ (fun H locs hP hS => ?_)
  refine lv_if_ne (tgt := 38) hx hb dX3_go_33 (by decide) (fun c_33 => ?_) (fun c_33 => ?_)
  · refine lv_aload_n hx hb dX3_go_38 rfl (lv_at hl 2 rfl) ?_
    refine lv_iload_n hx hb dX3_go_39 rfl (lv_at hl 1 rfl) ?_
    refine lv_iload hx hb dX3_go_40 (lv_at hl 0 rfl) ?_
    refine wx_Vq (w := (cw k)) (f_X3_robotOn k M ((M (i + 1) 0 5) + (eB p1.toNatClampNeg)) ((M (i + 1) 0 6) + (sB p1.toNatClampNeg))) [.int ((M (i + 1) 0 5) + (eB p1.toNatClampNeg)), .int ((M (i + 1) 0 6) + (sB p1.toNatClampNeg))] [] (cZok k) ⟨hx, hb, hml, hown, hts⟩ (c_X3_robotOn l k M ((M (i + 1) 0 5) + (eB p1.toNatClampNeg)) ((M (i + 1) 0 6) + (sB p1.toNatClampNeg)) hI) (cwV 2 hts gX3_go_X3_robotOn rfl rfl rfl (by decide +kernel) ⟨by decide, by decide⟩) (wx_recv (w := (cw k)) (g := 0) (j := 0) hK hP (cIx_0 (by decide)) rfl rfl) hP hK hD hZ hS rfl hl.1 rfl (Nat.le_of_ble_eq_true rfl) dX3_go_42 ⟨by decide, by decide⟩ (fun H locs q_42 hP hS => ?_) (fun i_42 H locs q_42 hP hS => ?_)
    · refine lv_ifnullN (tgt := 50) hx hb dX3_go_45 (by decide) ?_
      refine lv_aload_n hx hb dX3_go_50 rfl (lv_at hl 3 rfl) ?_
      refine lv_iload_n hx hb dX3_go_51 rfl (lv_at hl 1 rfl) ?_
      refine wx_put (w := (cw k)) (g := (i + 1)) (j := 0) hx hb hts hiX2 tyX2 tyX2_ok nmX2 hown hK hP hD hS (cIx_r hi (by decide)) rfl rfl 5 (by decide) hf98 rfl (by decide +kernel) rfl (Nat.le_of_ble_eq_true rfl) dX3_go_52 (fun H locs hP hS => ?_)
      refine lv_aload_n hx hb dX3_go_55 rfl (lv_at hl 3 rfl) ?_
      refine lv_iload hx hb dX3_go_56 (lv_at hl 0 rfl) ?_
      refine wx_put (w := (cw k)) (g := (i + 1)) (j := 0) hx hb hts hiX2 tyX2 tyX2_ok nmX2 hown hK hP hD hS (cIx_r hi (by decide)) rfl rfl 6 (by decide) hf101 rfl (by decide +kernel) rfl (Nat.le_of_ble_eq_true rfl) dX3_go_58 (fun H locs hP hS => ?_)
      refine lv_iconst (v := 1) hx hb dX3_go_61 (by decide) ?_
      have e9 : f_X3_go k M i p1 = (1, (mu (mu M (i + 1) 0 5 ((M (i + 1) 0 5) + (eB p1.toNatClampNeg))) (i + 1) 0 6 ((M (i + 1) 0 6) + (sB p1.toNatClampNeg)))) := (by unfold f_X3_go; rw [if_neg c_33]; simp only [q_42])
      exact wx_iret hx hb hr hlocks hP hS rfl ⟨by rw [e9], by rw [e9]⟩ dX3_go_62
    · refine lv_ifnull hx hb dX3_go_45 ?_
      refine lv_iconst (v := 2) hx hb dX3_go_48 (by decide) ?_
      have e9 : f_X3_go k M i p1 = (2, M) := (by unfold f_X3_go; rw [if_neg c_33]; simp only [q_42])
      exact wx_iret hx hb hr hlocks hP hS rfl ⟨by rw [e9], by rw [e9]⟩ dX3_go_49
  · refine lv_iconst (v := 0) hx hb dX3_go_36 (by decide) ?_
    have e9 : f_X3_go k M i p1 = (0, M) := (by unfold f_X3_go; rw [if_pos c_33])
    exact wx_iret hx hb hr hlocks hP hS rfl ⟨by rw [e9], by rw [e9]⟩ dX3_go_37
theorem cI_go {k : CK} {M : Mem} {i : Nat} {x : Int32} (hI : cI k M) : cI k (f_X3_go k M i x).2 := by
  unfold f_X3_go
  split
  · exact hI
  · split
    · exact cI_mu (cI_mu hI (by omega) (by omega) (by omega)) (by omega) (by omega) (by omega)
    · exact hI
/-- by program, from the bytecode of RobotWorld.look -/
def f_X3_look (k : CK) (M : Mem) (i : Nat) (p1 : Int32) : Int32 :=
  (f_X3_at k M ((M (i + 1) 0 5) + (eB p1.toNatClampNeg)) ((M (i + 1) 0 6) + (sB p1.toNatClampNeg)))
set_option maxHeartbeats 4000000 in
set_option maxRecDepth 100000 in
theorem c_X3_look (l : Launch) (k : CK) (M : Mem) (i : Nat) (p1 : Int32) (hi : i < k.2.1 0) (hI : cI k M) (h4 : vp_in p1 4) : Met l yX3_look wsX3_look (rmK 3 68) (wPc (cw k) M [.ref (k.1 0 0), .ref (k.1 (i + 1) 0), .int p1]) (wQi (cw k) (fun r u => r = (f_X3_look k M i p1) ∧ u = M)) 0 0 (wA (cw k)) := by
  refine wx_met (cc := cX3_look) (maxL := 3) (ret := (some .int)) (by decide) rfl (Nat.le_of_ble_eq_true rfl) ?_
  intro p e s m below meth c ls hx hb hr hml hts hown hlocks hP hK hD hZ hS hl
  have hown : s.vm.findClass RX3 = some m.cls := hown
  have hl : lv_has ls 3 [(0, .ref (k.1 0 0)), (1, .ref (k.1 (i + 1) 0)), (2, .int p1)] := hl
  have hiX2 : ∀ x ∈ u_ws RX2 TX2 12, x ∈ wsX3_look := by decide +kernel
  have hf101 := hts (.fieldLink RX3 101 "RobotWorld$Robot" "y" "I") (by decide +kernel)
  have hf98 := hts (.fieldLink RX3 98 "RobotWorld$Robot" "x" "I") (by decide +kernel)
  obtain ⟨z1, z2, z3, z4, z5, z6, z7, z8, z9⟩ := (show cZ k (wA (cw k)) s s.heap from hZ)
  refine lv_aload_n hx hb dX3_look_0 rfl (lv_at hl 0 rfl) ?_
  refine lv_aload_n hx hb dX3_look_1 rfl (lv_at hl 1 rfl) ?_
  refine wx_get (w := (cw k)) (g := (i + 1)) (j := 0) hx hb hts hiX2 hown hK hP (cIx_r hi (by decide)) rfl rfl 5 (by decide) hf98 rfl dX3_look_2 ?_
  refine va_gets hx hb z1 hS hown (hts (.fieldLink RX3 182 RX3 "EAST_BY" "[I") (by decide +kernel)) (fun _ h9 => h9) dX3_look_5 ?_
  refine lv_iload_n hx hb dX3_look_8 rfl (lv_at hl 2 rfl) ?_
  refine va_ti hx hb z2 hS (h4) rfl dX3_look_9 ?_
  refine lv_iadd hx hb dX3_look_10 ?_
  refine lv_aload_n hx hb dX3_look_11 rfl (lv_at hl 1 rfl) ?_
  refine wx_get (w := (cw k)) (g := (i + 1)) (j := 0) hx hb hts hiX2 hown hK hP (cIx_r hi (by decide)) rfl rfl 6 (by decide) hf101 rfl dX3_look_12 ?_
  refine va_gets hx hb z3 hS hown (hts (.fieldLink RX3 185 RX3 "SOUTH_BY" "[I") (by decide +kernel)) (fun _ h9 => h9) dX3_look_15 ?_
  refine lv_iload_n hx hb dX3_look_18 rfl (lv_at hl 2 rfl) ?_
  refine va_ti hx hb z4 hS (h4) rfl dX3_look_19 ?_
  refine lv_iadd hx hb dX3_look_20 ?_
  refine wx_Vi (w := (cw k)) (f_X3_at k M ((M (i + 1) 0 5) + (eB p1.toNatClampNeg)) ((M (i + 1) 0 6) + (sB p1.toNatClampNeg))) M [.int ((M (i + 1) 0 5) + (eB p1.toNatClampNeg)), .int ((M (i + 1) 0 6) + (sB p1.toNatClampNeg))] [] (cZok k) ⟨hx, hb, hml, hown, hts⟩ (c_X3_at l k M ((M (i + 1) 0 5) + (eB p1.toNatClampNeg)) ((M (i + 1) 0 6) + (sB p1.toNatClampNeg)) hI) (cwV 2 hts gX3_look_X3_at rfl rfl rfl (by decide +kernel) ⟨by decide, by decide⟩) (wx_recv (w := (cw k)) (g := 0) (j := 0) hK hP (cIx_0 (by decide)) rfl rfl) hP hK hD hZ hS rfl hl.1 rfl (Nat.le_of_ble_eq_true rfl) dX3_look_21 ⟨by decide, by decide⟩ (fun H locs hP hS => ?_)
  have e9 : f_X3_look k M i p1 = (f_X3_at k M ((M (i + 1) 0 5) + (eB p1.toNatClampNeg)) ((M (i + 1) 0 6) + (sB p1.toNatClampNeg))) := rfl
  exact wx_iret hx hb hr hlocks hP hS rfl ⟨e9.symm, rfl⟩ dX3_look_24
/-- by program, from the bytecode of RobotWorld.take -/
def f_X3_take (k : CK) (M : Mem) (i : Nat) : Int32 × Mem :=
  if 9 ≤ (M (i + 1) 0 10) then
    (0, M)
  else
    if (f_X1_removeItem k M (M (i + 1) 0 5) (M (i + 1) 0 6)).1 = 0 then
      (0, (f_X1_removeItem k M (M (i + 1) 0 5) (M (i + 1) 0 6)).2)
    else
      (1, (mu (f_X1_removeItem k M (M (i + 1) 0 5) (M (i + 1) 0 6)).2 (i + 1) 0 10 (((f_X1_removeItem k M (M (i + 1) 0 5) (M (i + 1) 0 6)).2 (i + 1) 0 10) + 1)))
set_option maxHeartbeats 4000000 in
set_option maxRecDepth 100000 in
theorem c_X3_take (l : Launch) (k : CK) (M : Mem) (i : Nat) (hi : i < k.2.1 0) (hI : cI k M) : Met l yX3_take wsX3_take (rmK 2 45) (wPc (cw k) M [.ref (k.1 0 0), .ref (k.1 (i + 1) 0)]) (wQi (cw k) (fun r u => r = (f_X3_take k M i).1 ∧ u = (f_X3_take k M i).2)) 0 0 (wA (cw k)) := by
  refine wx_met (cc := cX3_take) (maxL := 2) (ret := (some .int)) (by decide) rfl (Nat.le_of_ble_eq_true rfl) ?_
  intro p e s m below meth c ls hx hb hr hml hts hown hlocks hP hK hD hZ hS hl
  have hown : s.vm.findClass RX3 = some m.cls := hown
  have hl : lv_has ls 2 [(0, .ref (k.1 0 0)), (1, .ref (k.1 (i + 1) 0))] := hl
  have hiX2 : ∀ x ∈ u_ws RX2 TX2 12, x ∈ wsX3_take := by decide +kernel
  have hiX3 : ∀ x ∈ u_ws RX3 TX3 4, x ∈ wsX3_take := by decide +kernel
  have hf101 := hts (.fieldLink RX3 101 "RobotWorld$Robot" "y" "I") (by decide +kernel)
  have hf18 := hts (.fieldLink RX3 18 "RobotWorld" "land" "LRobotWorld$Land;") (by decide +kernel)
  have hf95 := hts (.fieldLink RX3 95 "RobotWorld$Robot" "carried" "I") (by decide +kernel)
  have hf98 := hts (.fieldLink RX3 98 "RobotWorld$Robot" "x" "I") (by decide +kernel)
  refine lv_aload_n hx hb dX3_take_0 rfl (lv_at hl 1 rfl) ?_
  refine wx_get (w := (cw k)) (g := (i + 1)) (j := 0) hx hb hts hiX2 hown hK hP (cIx_r hi (by decide)) rfl rfl 10 (by decide) hf95 rfl dX3_take_1 ?_
  refine lv_bipush (v := 9) hx hb dX3_take_4 (by decide) ?_
  refine lv_icmp_ge (tgt := 27) hx hb dX3_take_6 (by decide) (fun c_6 => ?_) (fun c_6 => ?_)
  · refine lv_iconst (v := 0) hx hb dX3_take_27 (by decide) ?_
    have e9 : f_X3_take k M i = (0, M) := (by unfold f_X3_take; rw [if_pos c_6])
    exact wx_iret hx hb hr hlocks hP hS rfl ⟨by rw [e9], by rw [e9]⟩ dX3_take_28
  · refine lv_aload_n hx hb dX3_take_9 rfl (lv_at hl 0 rfl) ?_
    refine wx_get (w := (cw k)) (g := 0) (j := 0) hx hb hts hiX3 hown hK hP (cIx_0 (by decide)) rfl rfl 0 (by decide) hf18 rfl dX3_take_10 ?_
    refine lv_aload_n hx hb dX3_take_13 rfl (lv_at hl 1 rfl) ?_
    refine wx_get (w := (cw k)) (g := (i + 1)) (j := 0) hx hb hts hiX2 hown hK hP (cIx_r hi (by decide)) rfl rfl 5 (by decide) hf98 rfl dX3_take_14 ?_
    refine lv_aload_n hx hb dX3_take_17 rfl (lv_at hl 1 rfl) ?_
    refine wx_get (w := (cw k)) (g := (i + 1)) (j := 0) hx hb hts hiX2 hown hK hP (cIx_r hi (by decide)) rfl rfl 6 (by decide) hf101 rfl dX3_take_18 ?_
    refine wx_Vi (w := (cw k)) ((f_X1_removeItem k M (M (i + 1) 0 5) (M (i + 1) 0 6)).1) ((f_X1_removeItem k M (M (i + 1) 0 5) (M (i + 1) 0 6)).2) [.int (M (i + 1) 0 5), .int (M (i + 1) 0 6)] [] (cZok k) ⟨hx, hb, hml, hown, hts⟩ (c_X1_removeItem l k M (M (i + 1) 0 5) (M (i + 1) 0 6) hI) (cwV 2 hts gX3_take_X1_removeItem rfl rfl rfl (by decide +kernel) ⟨by decide, by decide⟩) (wx_recv (w := (cw k)) (g := 0) (j := 1) hK hP (cIx_0 (by decide)) rfl rfl) hP hK hD hZ hS rfl hl.1 rfl (Nat.le_of_ble_eq_true rfl) dX3_take_21 ⟨by decide, by decide⟩ (fun H locs hP hS => ?_)
    refine lv_if_ne (tgt := 29) hx hb dX3_take_24 (by decide) (fun c_24 => ?_) (fun c_24 => ?_)
    · refine lv_aload_n hx hb dX3_take_29 rfl (lv_at hl 1 rfl) ?_
      refine lv_dup hx hb dX3_take_30 rfl ?_
      refine wx_get (w := (cw k)) (g := (i + 1)) (j := 0) hx hb hts hiX2 hown hK hP (cIx_r hi (by decide)) rfl rfl 10 (by decide) hf95 rfl dX3_take_31 ?_
      refine lv_iconst (v := 1) hx hb dX3_take_34 (by decide) ?_
      refine lv_iadd hx hb dX3_take_35 ?_
      refine wx_put (w := (cw k)) (g := (i + 1)) (j := 0) hx hb hts hiX2 tyX2 tyX2_ok nmX2 hown hK hP hD hS (cIx_r hi (by decide)) rfl rfl 10 (by decide) hf95 rfl (by decide +kernel) rfl (Nat.le_of_ble_eq_true rfl) dX3_take_36 (fun H locs hP hS => ?_)
      refine lv_iconst (v := 1) hx hb dX3_take_39 (by decide) ?_
      have e9 : f_X3_take k M i = (1, (mu (f_X1_removeItem k M (M (i + 1) 0 5) (M (i + 1) 0 6)).2 (i + 1) 0 10 (((f_X1_removeItem k M (M (i + 1) 0 5) (M (i + 1) 0 6)).2 (i + 1) 0 10) + 1))) := (by unfold f_X3_take; rw [if_neg c_6, if_neg c_24])
      exact wx_iret hx hb hr hlocks hP hS rfl ⟨by rw [e9], by rw [e9]⟩ dX3_take_40
    · refine lv_iconst (v := 0) hx hb dX3_take_27 (by decide) ?_
      have e9 : f_X3_take k M i = (0, (f_X1_removeItem k M (M (i + 1) 0 5) (M (i + 1) 0 6)).2) := (by unfold f_X3_take; rw [if_neg c_6, if_pos c_24])
      exact wx_iret hx hb hr hlocks hP hS rfl ⟨by rw [e9], by rw [e9]⟩ dX3_take_28
theorem cI_take {k : CK} {M : Mem} {i : Nat} (hI : cI k M) : cI k (f_X3_take k M i).2 := by
  unfold f_X3_take
  split
  · exact hI
  · split
    · exact cI_removeItem hI
    · exact cI_mu (cI_removeItem hI) (by omega) (by omega) (by omega)
/-- by program, from the bytecode of RobotWorld.lay -/
def f_X3_lay (k : CK) (M : Mem) (i : Nat) : Int32 × Mem :=
  if (M (i + 1) 0 10) ≤ 0 then
    (0, M)
  else
    if (f_X1_addItem k M (M (i + 1) 0 5) (M (i + 1) 0 6)).1 = 0 then
      (0, (f_X1_addItem k M (M (i + 1) 0 5) (M (i + 1) 0 6)).2)
    else
      (1, (mu (f_X1_addItem k M (M (i + 1) 0 5) (M (i + 1) 0 6)).2 (i + 1) 0 10 (((f_X1_addItem k M (M (i + 1) 0 5) (M (i + 1) 0 6)).2 (i + 1) 0 10) - 1)))
set_option maxHeartbeats 4000000 in
set_option maxRecDepth 100000 in
theorem c_X3_lay (l : Launch) (k : CK) (M : Mem) (i : Nat) (hi : i < k.2.1 0) (hI : cI k M) : Met l yX3_lay wsX3_lay (rmK 2 45) (wPc (cw k) M [.ref (k.1 0 0), .ref (k.1 (i + 1) 0)]) (wQi (cw k) (fun r u => r = (f_X3_lay k M i).1 ∧ u = (f_X3_lay k M i).2)) 0 0 (wA (cw k)) := by
  refine wx_met (cc := cX3_lay) (maxL := 2) (ret := (some .int)) (by decide) rfl (Nat.le_of_ble_eq_true rfl) ?_
  intro p e s m below meth c ls hx hb hr hml hts hown hlocks hP hK hD hZ hS hl
  have hown : s.vm.findClass RX3 = some m.cls := hown
  have hl : lv_has ls 2 [(0, .ref (k.1 0 0)), (1, .ref (k.1 (i + 1) 0))] := hl
  have hiX2 : ∀ x ∈ u_ws RX2 TX2 12, x ∈ wsX3_lay := by decide +kernel
  have hiX3 : ∀ x ∈ u_ws RX3 TX3 4, x ∈ wsX3_lay := by decide +kernel
  have hf101 := hts (.fieldLink RX3 101 "RobotWorld$Robot" "y" "I") (by decide +kernel)
  have hf18 := hts (.fieldLink RX3 18 "RobotWorld" "land" "LRobotWorld$Land;") (by decide +kernel)
  have hf95 := hts (.fieldLink RX3 95 "RobotWorld$Robot" "carried" "I") (by decide +kernel)
  have hf98 := hts (.fieldLink RX3 98 "RobotWorld$Robot" "x" "I") (by decide +kernel)
  refine lv_aload_n hx hb dX3_lay_0 rfl (lv_at hl 1 rfl) ?_
  refine wx_get (w := (cw k)) (g := (i + 1)) (j := 0) hx hb hts hiX2 hown hK hP (cIx_r hi (by decide)) rfl rfl 10 (by decide) hf95 rfl dX3_lay_1 ?_
  refine lv_if_le (tgt := 25) hx hb dX3_lay_4 (by decide) (fun c_4 => ?_) (fun c_4 => ?_)
  · refine lv_iconst (v := 0) hx hb dX3_lay_25 (by decide) ?_
    have e9 : f_X3_lay k M i = (0, M) := (by unfold f_X3_lay; rw [if_pos c_4])
    exact wx_iret hx hb hr hlocks hP hS rfl ⟨by rw [e9], by rw [e9]⟩ dX3_lay_26
  · refine lv_aload_n hx hb dX3_lay_7 rfl (lv_at hl 0 rfl) ?_
    refine wx_get (w := (cw k)) (g := 0) (j := 0) hx hb hts hiX3 hown hK hP (cIx_0 (by decide)) rfl rfl 0 (by decide) hf18 rfl dX3_lay_8 ?_
    refine lv_aload_n hx hb dX3_lay_11 rfl (lv_at hl 1 rfl) ?_
    refine wx_get (w := (cw k)) (g := (i + 1)) (j := 0) hx hb hts hiX2 hown hK hP (cIx_r hi (by decide)) rfl rfl 5 (by decide) hf98 rfl dX3_lay_12 ?_
    refine lv_aload_n hx hb dX3_lay_15 rfl (lv_at hl 1 rfl) ?_
    refine wx_get (w := (cw k)) (g := (i + 1)) (j := 0) hx hb hts hiX2 hown hK hP (cIx_r hi (by decide)) rfl rfl 6 (by decide) hf101 rfl dX3_lay_16 ?_
    refine wx_Vi (w := (cw k)) ((f_X1_addItem k M (M (i + 1) 0 5) (M (i + 1) 0 6)).1) ((f_X1_addItem k M (M (i + 1) 0 5) (M (i + 1) 0 6)).2) [.int (M (i + 1) 0 5), .int (M (i + 1) 0 6)] [] (cZok k) ⟨hx, hb, hml, hown, hts⟩ (c_X1_addItem l k M (M (i + 1) 0 5) (M (i + 1) 0 6) hI) (cwV 2 hts gX3_lay_X1_addItem rfl rfl rfl (by decide +kernel) ⟨by decide, by decide⟩) (wx_recv (w := (cw k)) (g := 0) (j := 1) hK hP (cIx_0 (by decide)) rfl rfl) hP hK hD hZ hS rfl hl.1 rfl (Nat.le_of_ble_eq_true rfl) dX3_lay_19 ⟨by decide, by decide⟩ (fun H locs hP hS => ?_)
    refine lv_if_ne (tgt := 27) hx hb dX3_lay_22 (by decide) (fun c_22 => ?_) (fun c_22 => ?_)
    · refine lv_aload_n hx hb dX3_lay_27 rfl (lv_at hl 1 rfl) ?_
      refine lv_dup hx hb dX3_lay_28 rfl ?_
      refine wx_get (w := (cw k)) (g := (i + 1)) (j := 0) hx hb hts hiX2 hown hK hP (cIx_r hi (by decide)) rfl rfl 10 (by decide) hf95 rfl dX3_lay_29 ?_
      refine lv_iconst (v := 1) hx hb dX3_lay_32 (by decide) ?_
      refine lv_isub hx hb dX3_lay_33 ?_
      refine wx_put (w := (cw k)) (g := (i + 1)) (j := 0) hx hb hts hiX2 tyX2 tyX2_ok nmX2 hown hK hP hD hS (cIx_r hi (by decide)) rfl rfl 10 (by decide) hf95 rfl (by decide +kernel) rfl (Nat.le_of_ble_eq_true rfl) dX3_lay_34 (fun H locs hP hS => ?_)
      refine lv_iconst (v := 1) hx hb dX3_lay_37 (by decide) ?_
      have e9 : f_X3_lay k M i = (1, (mu (f_X1_addItem k M (M (i + 1) 0 5) (M (i + 1) 0 6)).2 (i + 1) 0 10 (((f_X1_addItem k M (M (i + 1) 0 5) (M (i + 1) 0 6)).2 (i + 1) 0 10) - 1))) := (by unfold f_X3_lay; rw [if_neg c_4, if_neg c_22])
      exact wx_iret hx hb hr hlocks hP hS rfl ⟨by rw [e9], by rw [e9]⟩ dX3_lay_38
    · refine lv_iconst (v := 0) hx hb dX3_lay_25 (by decide) ?_
      have e9 : f_X3_lay k M i = (0, (f_X1_addItem k M (M (i + 1) 0 5) (M (i + 1) 0 6)).2) := (by unfold f_X3_lay; rw [if_neg c_4, if_pos c_22])
      exact wx_iret hx hb hr hlocks hP hS rfl ⟨by rw [e9], by rw [e9]⟩ dX3_lay_26
theorem cI_lay {k : CK} {M : Mem} {i : Nat} (hI : cI k M) : cI k (f_X3_lay k M i).2 := by
  unfold f_X3_lay
  split
  · exact hI
  · split
    · exact cI_addItem hI
    · exact cI_mu (cI_addItem hI) (by omega) (by omega) (by omega)
/-- by program, from the bytecode of RobotWorld.send -/
def f_X3_send (k : CK) (M : Mem) (p1 : Int32) (p2 : Int32) : Int32 × Mem :=
  match (f_X3_robotOf k M p1) with
  | none =>
    (0, M)
  | some i_2 =>
    if (f_X2_takesMail k M i_2) = 0 then
      (0, M)
    else
      if (f_X0_add k M i_2 p2).1 = 0 then
        (0, (f_X0_add k M i_2 p2).2)
      else
        if ((f_X0_add k M i_2 p2).2 (i_2 + 1) 0 4) = 4 then
          (1, (mu (f_X0_add k M i_2 p2).2 (i_2 + 1) 0 4 2))
        else
          (1, (f_X0_add k M i_2 p2).2)
set_option maxHeartbeats 4000000 in
set_option maxRecDepth 100000 in
theorem c_X3_send (l : Launch) (k : CK) (M : Mem) (p1 : Int32) (p2 : Int32) (hI : cI k M) : Met l yX3_send wsX3_send (rmK 2 42) (wPc (cw k) M [.ref (k.1 0 0), .int p1, .int p2]) (wQi (cw k) (fun r u => r = (f_X3_send k M p1 p2).1 ∧ u = (f_X3_send k M p1 p2).2)) 0 0 (wA (cw k)) := by
  refine wx_met (cc := cX3_send) (maxL := 4) (ret := (some .int)) (by decide) rfl (Nat.le_of_ble_eq_true rfl) ?_
  intro p e s m below meth c ls hx hb hr hml hts hown hlocks hP hK hD hZ hS hl
  have hown : s.vm.findClass RX3 = some m.cls := hown
  have hl : lv_has ls 4 [(0, .ref (k.1 0 0)), (1, .int p1), (2, .int p2)] := hl
  have hiX2 : ∀ x ∈ u_ws RX2 TX2 12, x ∈ wsX3_send := by decide +kernel
  have hf197 := hts (.fieldLink RX3 197 "RobotWorld$Robot" "box" "LRobotWorld$Box;") (by decide +kernel)
  have hf52 := hts (.fieldLink RX3 52 "RobotWorld$Robot" "state" "I") (by decide +kernel)
  refine lv_aload_n hx hb dX3_send_0 rfl (lv_at hl 0 rfl) ?_
  refine lv_iload_n hx hb dX3_send_1 rfl (lv_at hl 1 rfl) ?_
  refine wx_Vq (w := (cw k)) (f_X3_robotOf k M p1) [.int p1] [] (cZok k) ⟨hx, hb, hml, hown, hts⟩ (c_X3_robotOf l k M p1 hI) (cwV 1 hts gX3_send_X3_robotOf rfl rfl rfl (by decide +kernel) ⟨by decide, by decide⟩) (wx_recv (w := (cw k)) (g := 0) (j := 0) hK hP (cIx_0 (by decide)) rfl rfl) hP hK hD hZ hS rfl hl.1 rfl (Nat.le_of_ble_eq_true rfl) dX3_send_2 ⟨by decide, by decide⟩ (fun H locs q_2 hP hS => ?_) (fun i_2 H locs q_2 hP hS => ?_)
  · refine lv_astore_nN (lv' := [(3, .null), (0, .ref (k.1 0 0)), (1, .int p1), (2, .int p2)]) hx hb dX3_send_5 rfl hl (by decide) rfl (fun ls hl => ?_)
    refine lv_aload_nN hx hb dX3_send_6 rfl (lv_at hl 0 rfl) ?_
    refine lv_ifnullN (tgt := 28) hx hb dX3_send_7 (by decide) ?_
    refine lv_iconst (v := 0) hx hb dX3_send_28 (by decide) ?_
    have e9 : f_X3_send k M p1 p2 = (0, M) := (by unfold f_X3_send; simp only [q_2])
    exact wx_iret hx hb hr hlocks hP hS rfl ⟨by rw [e9], by rw [e9]⟩ dX3_send_29
  · refine lv_astore_n (lv' := [(3, .ref (k.1 (i_2 + 1) 0)), (0, .ref (k.1 0 0)), (1, .int p1), (2, .int p2)]) hx hb dX3_send_5 rfl hl (by decide) rfl (fun ls hl => ?_)
    refine lv_aload_n hx hb dX3_send_6 rfl (lv_at hl 0 rfl) ?_
    refine lv_ifnull hx hb dX3_send_7 ?_
    refine lv_aload_n hx hb dX3_send_10 rfl (lv_at hl 0 rfl) ?_
    refine wx_Vi (w := (cw k)) (f_X2_takesMail k M i_2) M [] [] (cZok k) ⟨hx, hb, hml, hown, hts⟩ (c_X2_takesMail l k M i_2 ((robotOf_lt hI q_2)) ) (cwV 0 hts gX3_send_X2_takesMail rfl rfl rfl (by decide +kernel) ⟨by decide, by decide⟩) (wx_recv (w := (cw k)) (g := (i_2 + 1)) (j := 0) hK hP (cIx_r (robotOf_lt hI q_2) (by decide)) rfl rfl) hP hK hD hZ hS rfl hl.1 rfl (Nat.le_of_ble_eq_true rfl) dX3_send_11 ⟨by decide, by decide⟩ (fun H locs hP hS => ?_)
    refine lv_if_eq (tgt := 28) hx hb dX3_send_14 (by decide) (fun c_14 => ?_) (fun c_14 => ?_)
    · refine lv_iconst (v := 0) hx hb dX3_send_28 (by decide) ?_
      have e9 : f_X3_send k M p1 p2 = (0, M) := (by unfold f_X3_send; simp only [q_2]; rw [if_pos c_14])
      exact wx_iret hx hb hr hlocks hP hS rfl ⟨by rw [e9], by rw [e9]⟩ dX3_send_29
    · refine lv_aload_n hx hb dX3_send_17 rfl (lv_at hl 0 rfl) ?_
      refine wx_get (w := (cw k)) (g := (i_2 + 1)) (j := 0) hx hb hts hiX2 hown hK hP (cIx_r (robotOf_lt hI q_2) (by decide)) rfl rfl 3 (by decide) hf197 rfl dX3_send_18 ?_
      refine lv_iload_n hx hb dX3_send_21 rfl (lv_at hl 3 rfl) ?_
      refine wx_Vi (w := (cw k)) ((f_X0_add k M i_2 p2).1) ((f_X0_add k M i_2 p2).2) [.int p2] [] (cZok k) ⟨hx, hb, hml, hown, hts⟩ (c_X0_add l k M i_2 p2 ((robotOf_lt hI q_2)) hI) (cwV 1 hts gX3_send_X0_add rfl rfl rfl (by decide +kernel) ⟨by decide, by decide⟩) (wx_recv (w := (cw k)) (g := (i_2 + 1)) (j := 3) hK hP (cIx_r (robotOf_lt hI q_2) (by decide)) rfl rfl) hP hK hD hZ hS rfl hl.1 rfl (Nat.le_of_ble_eq_true rfl) dX3_send_22 ⟨by decide, by decide⟩ (fun H locs hP hS => ?_)
      refine lv_if_ne (tgt := 30) hx hb dX3_send_25 (by decide) (fun c_25 => ?_) (fun c_25 => ?_)
      · refine lv_aload_n hx hb dX3_send_30 rfl (lv_at hl 0 rfl) ?_
        refine wx_get (w := (cw k)) (g := (i_2 + 1)) (j := 0) hx hb hts hiX2 hown hK hP (cIx_r (robotOf_lt hI q_2) (by decide)) rfl rfl 4 (by decide) hf52 rfl dX3_send_31 ?_
        refine lv_iconst (v := 4) hx hb dX3_send_34 (by decide) ?_
        refine lv_icmp_ne (tgt := 43) hx hb dX3_send_35 (by decide) (fun c_35 => ?_) (fun c_35 => ?_)
        · refine lv_iconst (v := 1) hx hb dX3_send_43 (by decide) ?_
          have e9 : f_X3_send k M p1 p2 = (1, (f_X0_add k M i_2 p2).2) := (by unfold f_X3_send; simp only [q_2]; rw [if_neg c_14, if_neg c_25, if_neg c_35])
          exact wx_iret hx hb hr hlocks hP hS rfl ⟨by rw [e9], by rw [e9]⟩ dX3_send_44
        · refine lv_aload_n hx hb dX3_send_38 rfl (lv_at hl 0 rfl) ?_
          refine lv_iconst (v := 2) hx hb dX3_send_39 (by decide) ?_
          refine wx_put (w := (cw k)) (g := (i_2 + 1)) (j := 0) hx hb hts hiX2 tyX2 tyX2_ok nmX2 hown hK hP hD hS (cIx_r (robotOf_lt hI q_2) (by decide)) rfl rfl 4 (by decide) hf52 rfl (by decide +kernel) rfl (Nat.le_of_ble_eq_true rfl) dX3_send_40 (fun H locs hP hS => ?_)
          refine lv_iconst (v := 1) hx hb dX3_send_43 (by decide) ?_
          have e9 : f_X3_send k M p1 p2 = (1, (mu (f_X0_add k M i_2 p2).2 (i_2 + 1) 0 4 2)) := (by unfold f_X3_send; simp only [q_2]; rw [if_neg c_14, if_neg c_25, if_pos c_35])
          exact wx_iret hx hb hr hlocks hP hS rfl ⟨by rw [e9], by rw [e9]⟩ dX3_send_44
      · refine lv_iconst (v := 0) hx hb dX3_send_28 (by decide) ?_
        have e9 : f_X3_send k M p1 p2 = (0, (f_X0_add k M i_2 p2).2) := (by unfold f_X3_send; simp only [q_2]; rw [if_neg c_14, if_pos c_25])
        exact wx_iret hx hb hr hlocks hP hS rfl ⟨by rw [e9], by rw [e9]⟩ dX3_send_29
theorem cI_send {k : CK} {M : Mem} {x y : Int32} (hI : cI k M) : cI k (f_X3_send k M x y).2 := by
  unfold f_X3_send
  split
  · exact hI
  · rename_i i h
    have hi := robotOf_lt hI h
    split
    · exact hI
    · split
      · exact cI_add hI hi
      · split
        · exact cI_mu (cI_add hI hi) (by omega) (by omega) (by omega)
        · exact cI_add hI hi
/-- by program, from the bytecode of RobotWorld.receive -/
def f_X3_receive (k : CK) (M : Mem) (i : Nat) (p1 : Int32) : Int32 × Mem :=
  if (M (i + 1) 3 1) = 0 then
    (0, (mu M (i + 1) 0 4 4))
  else
    (1, (mu (f_X0_removeFirst k M i).2 (i + 1) 2 p1.toNatClampNeg ((f_X0_removeFirst k M i).1)))
set_option maxHeartbeats 4000000 in
set_option maxRecDepth 100000 in
theorem c_X3_receive (l : Launch) (k : CK) (M : Mem) (i : Nat) (p1 : Int32) (hi : i < k.2.1 0) (hI : cI k M) (h8 : vp_in p1 8) : Met l yX3_receive wsX3_receive (rmK 2 61) (wPc (cw k) M [.ref (k.1 (i + 1) 0), .int p1]) (wQi (cw k) (fun r u => r = (f_X3_receive k M i p1).1 ∧ u = (f_X3_receive k M i p1).2)) 0 0 (wA (cw k)) := by
  refine wx_met (cc := cX3_receive) (maxL := 2) (ret := (some .boolean)) (by decide) rfl (Nat.le_of_ble_eq_true rfl) ?_
  intro p e s m below meth c ls hx hb hr hml hts hown hlocks hP hK hD hZ hS hl
  have hown : s.vm.findClass RX3 = some m.cls := hown
  have hl : lv_has ls 2 [(0, .ref (k.1 (i + 1) 0)), (1, .int p1)] := hl
  have hiX0 : ∀ x ∈ u_ws RX0 TX0 2, x ∈ wsX3_receive := by decide +kernel
  have hiX2 : ∀ x ∈ u_ws RX2 TX2 12, x ∈ wsX3_receive := by decide +kernel
  have hf136 := hts (.fieldLink RX3 136 "RobotWorld$Robot" "registers" "[I") (by decide +kernel)
  have hf197 := hts (.fieldLink RX3 197 "RobotWorld$Robot" "box" "LRobotWorld$Box;") (by decide +kernel)
  have hf206 := hts (.fieldLink RX3 206 "RobotWorld$Box" "count" "I") (by decide +kernel)
  have hf52 := hts (.fieldLink RX3 52 "RobotWorld$Robot" "state" "I") (by decide +kernel)
  refine lv_aload_n hx hb dX3_receive_0 rfl (lv_at hl 0 rfl) ?_
  refine wx_get (w := (cw k)) (g := (i + 1)) (j := 0) hx hb hts hiX2 hown hK hP (cIx_r hi (by decide)) rfl rfl 3 (by decide) hf197 rfl dX3_receive_1 ?_
  refine wx_get (w := (cw k)) (g := (i + 1)) (j := 3) hx hb hts hiX0 hown hK hP (cIx_r hi (by decide)) rfl rfl 1 (by decide) hf206 rfl dX3_receive_4 ?_
  refine lv_if_ne (tgt := 17) hx hb dX3_receive_7 (by decide) (fun c_7 => ?_) (fun c_7 => ?_)
  · refine lv_aload_n hx hb dX3_receive_17 rfl (lv_at hl 0 rfl) ?_
    refine wx_get (w := (cw k)) (g := (i + 1)) (j := 0) hx hb hts hiX2 hown hK hP (cIx_r hi (by decide)) rfl rfl 2 (by decide) hf136 rfl dX3_receive_18 ?_
    refine lv_iload_n hx hb dX3_receive_21 rfl (lv_at hl 1 rfl) ?_
    refine lv_aload_n hx hb dX3_receive_22 rfl (lv_at hl 0 rfl) ?_
    refine wx_get (w := (cw k)) (g := (i + 1)) (j := 0) hx hb hts hiX2 hown hK hP (cIx_r hi (by decide)) rfl rfl 3 (by decide) hf197 rfl dX3_receive_23 ?_
    refine wx_Vi (w := (cw k)) ((f_X0_removeFirst k M i).1) ((f_X0_removeFirst k M i).2) [] [.int p1, .ref (k.1 (i + 1) 2)] (cZok k) ⟨hx, hb, hml, hown, hts⟩ (c_X0_removeFirst l k M i (hi) hI) (cwV 0 hts gX3_receive_X0_removeFirst rfl rfl rfl (by decide +kernel) ⟨by decide, by decide⟩) (wx_recv (w := (cw k)) (g := (i + 1)) (j := 3) hK hP (cIx_r hi (by decide)) rfl rfl) hP hK hD hZ hS rfl hl.1 rfl (Nat.le_of_ble_eq_true rfl) dX3_receive_26 ⟨by decide, by decide⟩ (fun H locs hP hS => ?_)
    refine wx_iast (w := (cw k)) (g := (i + 1)) (j := 2) hx hb hK hP hD hS (cIx_r hi (by decide)) 0 (fun _ => rfl) rfl (h8) dX3_receive_29 (fun H locs hP hS => ?_)
    refine lv_iconst (v := 1) hx hb dX3_receive_30 (by decide) ?_
    have e9 : f_X3_receive k M i p1 = (1, (mu (f_X0_removeFirst k M i).2 (i + 1) 2 p1.toNatClampNeg ((f_X0_removeFirst k M i).1))) := (by unfold f_X3_receive; rw [if_neg c_7])
    exact wx_iret hx hb hr hlocks hP hS (by decide) ⟨by rw [e9], by rw [e9]⟩ dX3_receive_31
  · refine lv_aload_n hx hb dX3_receive_10 rfl (lv_at hl 0 rfl) ?_
    refine lv_iconst (v := 4) hx hb dX3_receive_11 (by decide) ?_
    refine wx_put (w := (cw k)) (g := (i + 1)) (j := 0) hx hb hts hiX2 tyX2 tyX2_ok nmX2 hown hK hP hD hS (cIx_r hi (by decide)) rfl rfl 4 (by decide) hf52 rfl (by decide +kernel) rfl (Nat.le_of_ble_eq_true rfl) dX3_receive_12 (fun H locs hP hS => ?_)
    refine lv_iconst (v := 0) hx hb dX3_receive_15 (by decide) ?_
    have e9 : f_X3_receive k M i p1 = (0, (mu M (i + 1) 0 4 4)) := (by unfold f_X3_receive; rw [if_pos c_7])
    exact wx_iret hx hb hr hlocks hP hS (by decide) ⟨by rw [e9], by rw [e9]⟩ dX3_receive_16
theorem cI_receive {k : CK} {M : Mem} {i : Nat} {x : Int32} (hI : cI k M) : cI k (f_X3_receive k M i x).2 := by
  unfold f_X3_receive
  split
  · exact cI_mu hI (by omega) (by omega) (by omega)
  · exact cI_mu (cI_removeFirst hI) (by omega) (by omega) (by omega)
