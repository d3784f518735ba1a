/-- by program, from the bytecode of RobotWorld.opOf -/
def f_X3_opOf (k : CK) (M : Mem) (p1 : Int32) : Int32 :=
  (p1 &&& 255)
set_option maxHeartbeats 4000000 in
set_option maxRecDepth 100000 in
theorem c_X3_opOf (l : Launch) (k : CK) (M : Mem) (p1 : Int32)  : Met l yX3_opOf wsX3_opOf (rmK 0 0) (wPc (cw k) M [.int p1]) (wQi (cw k) (fun r u => r = (f_X3_opOf k M p1) ∧ u = M)) 0 0 (wA (cw k)) := by
  refine wx_met (cc := cX3_opOf) (maxL := 1) (ret := (some .int)) (by decide) rfl (Nat.le_of_ble_eq_true rfl) ?_
  intro p e s m below meth c ls hx hb hr hml hts hown hlocks hP hK hD hZ hS hl
  have hown : s.vm.findClass RX3 = some m.cls := hown
  have hl : lv_has ls 1 [(0, .int p1)] := hl
  refine lv_iload_n hx hb dX3_opOf_0 rfl (lv_at hl 0 rfl) ?_
  refine lv_sipush (v := 255) hx hb dX3_opOf_1 (by decide) ?_
  refine lv_iand hx hb dX3_opOf_4 ?_
  have e9 : f_X3_opOf k M p1 = (p1 &&& 255) := rfl
  exact wx_iret hx hb hr hlocks hP hS rfl ⟨e9.symm, rfl⟩ dX3_opOf_5
/-- by program, from the bytecode of RobotWorld.rOf -/
def f_X3_rOf (k : CK) (M : Mem) (p1 : Int32) : Int32 :=
  ((p1 >>> (8 &&& 31)) &&& 15)
set_option maxHeartbeats 4000000 in
set_option maxRecDepth 100000 in
theorem c_X3_rOf (l : Launch) (k : CK) (M : Mem) (p1 : Int32)  : Met l yX3_rOf wsX3_rOf (rmK 0 0) (wPc (cw k) M [.int p1]) (wQi (cw k) (fun r u => r = (f_X3_rOf k M p1) ∧ u = M)) 0 0 (wA (cw k)) := by
  refine wx_met (cc := cX3_rOf) (maxL := 1) (ret := (some .int)) (by decide) rfl (Nat.le_of_ble_eq_true rfl) ?_
  intro p e s m below meth c ls hx hb hr hml hts hown hlocks hP hK hD hZ hS hl
  have hown : s.vm.findClass RX3 = some m.cls := hown
  have hl : lv_has ls 1 [(0, .int p1)] := hl
  refine lv_iload_n hx hb dX3_rOf_0 rfl (lv_at hl 0 rfl) ?_
  refine lv_bipush (v := 8) hx hb dX3_rOf_1 (by decide) ?_
  refine lv_ishr hx hb dX3_rOf_3 ?_
  refine lv_bipush (v := 15) hx hb dX3_rOf_4 (by decide) ?_
  refine lv_iand hx hb dX3_rOf_6 ?_
  have e9 : f_X3_rOf k M p1 = ((p1 >>> (8 &&& 31)) &&& 15) := rfl
  exact wx_iret hx hb hr hlocks hP hS rfl ⟨e9.symm, rfl⟩ dX3_rOf_7
/-- by program, from the bytecode of RobotWorld.sOf -/
def f_X3_sOf (k : CK) (M : Mem) (p1 : Int32) : Int32 :=
  ((p1 >>> (12 &&& 31)) &&& 15)
set_option maxHeartbeats 4000000 in
set_option maxRecDepth 100000 in
theorem c_X3_sOf (l : Launch) (k : CK) (M : Mem) (p1 : Int32)  : Met l yX3_sOf wsX3_sOf (rmK 0 0) (wPc (cw k) M [.int p1]) (wQi (cw k) (fun r u => r = (f_X3_sOf k M p1) ∧ u = M)) 0 0 (wA (cw k)) := by
  refine wx_met (cc := cX3_sOf) (maxL := 1) (ret := (some .int)) (by decide) rfl (Nat.le_of_ble_eq_true rfl) ?_
  intro p e s m below meth c ls hx hb hr hml hts hown hlocks hP hK hD hZ hS hl
  have hown : s.vm.findClass RX3 = some m.cls := hown
  have hl : lv_has ls 1 [(0, .int p1)] := hl
  refine lv_iload_n hx hb dX3_sOf_0 rfl (lv_at hl 0 rfl) ?_
  refine lv_bipush (v := 12) hx hb dX3_sOf_1 (by decide) ?_
  refine lv_ishr hx hb dX3_sOf_3 ?_
  refine lv_bipush (v := 15) hx hb dX3_sOf_4 (by decide) ?_
  refine lv_iand hx hb dX3_sOf_6 ?_
  have e9 : f_X3_sOf k M p1 = ((p1 >>> (12 &&& 31)) &&& 15) := rfl
  exact wx_iret hx hb hr hlocks hP hS rfl ⟨e9.symm, rfl⟩ dX3_sOf_7
/-- by program, from the bytecode of RobotWorld.calculated -/
def f_X3_calculated (k : CK) (M : Mem) (p1 : Int32) (p2 : Int32) (p3 : Int32) (p4 : Int32) : Int32 :=
  if p1 = 1 then
    p4
  else
    if p1 = 2 then
      p3
    else
      if p1 = 3 then
        (p2 + p3)
      else
        if p1 = 4 then
          (p2 - p3)
        else
          if p1 = 5 then
            (p2 * p3)
          else
            if p1 = 6 then
              (p2 / p3)
            else
              if p1 = 7 then
                (p2 - p2 / p3 * p3)
              else
                if p1 = 8 then
                  if p3 ≤ p2 then
                    0
                  else
                    1
                else
                  if p1 = 9 then
                    if p2 = p3 then
                      1
                    else
                      0
                  else
                    p2
set_option maxHeartbeats 4000000 in
set_option maxRecDepth 100000 in
theorem c_X3_calculated (l : Launch) (k : CK) (M : Mem) (p1 : Int32) (p2 : Int32) (p3 : Int32) (p4 : Int32) (hdv : p1 = 6 ∨ p1 = 7 → ¬ p3 = 0) : Met l yX3_calculated wsX3_calculated (rmK 0 0) (wPc (cw k) M [.int p1, .int p2, .int p3, .int p4]) (wQi (cw k) (fun r u => r = (f_X3_calculated k M p1 p2 p3 p4) ∧ u = M)) 0 0 (wA (cw k)) := by
  refine wx_met (cc := cX3_calculated) (maxL := 4) (ret := (some .int)) (by decide) rfl (Nat.le_of_ble_eq_true rfl) ?_
  intro p e s m below meth c ls hx hb hr hml hts hown hlocks hP hK hD hZ hS hl
  have hown : s.vm.findClass RX3 = some m.cls := hown
  have hl : lv_has ls 4 [(0, .int p1), (1, .int p2), (2, .int p3), (3, .int p4)] := hl
  refine lv_iload_n hx hb dX3_calculated_0 rfl (lv_at hl 0 rfl) ?_
  by_cases e_1_1 : p1 = 1
  · refine lv_tableIn (tgt := 52) hx hb dX3_calculated_1 (by rw [e_1_1]; decide) (by rw [e_1_1]; decide) (by rw [e_1_1]; rfl) (by decide) ?_
    refine lv_iload_n hx hb dX3_calculated_52 rfl (lv_at hl 3 rfl) ?_
    refine lv_goto (tgt := 117) hx hb dX3_calculated_53 (by decide) ?_
    have e9 : f_X3_calculated k M p1 p2 p3 p4 = p4 := (by unfold f_X3_calculated; rw [if_pos e_1_1])
    exact wx_iret hx hb hr hlocks hP hS rfl ⟨e9.symm, rfl⟩ dX3_calculated_117
  by_cases e_1_2 : p1 = 2
  · refine lv_tableIn (tgt := 56) hx hb dX3_calculated_1 (by rw [e_1_2]; decide) (by rw [e_1_2]; decide) (by rw [e_1_2]; rfl) (by decide) ?_
    refine lv_iload_n hx hb dX3_calculated_56 rfl (lv_at hl 2 rfl) ?_
    refine lv_goto (tgt := 117) hx hb dX3_calculated_57 (by decide) ?_
    have e9 : f_X3_calculated k M p1 p2 p3 p4 = p3 := (by unfold f_X3_calculated; rw [if_neg e_1_1, if_pos e_1_2])
    exact wx_iret hx hb hr hlocks hP hS rfl ⟨e9.symm, rfl⟩ dX3_calculated_117
  by_cases e_1_3 : p1 = 3
  · refine lv_tableIn (tgt := 60) hx hb dX3_calculated_1 (by rw [e_1_3]; decide) (by rw [e_1_3]; decide) (by rw [e_1_3]; rfl) (by decide) ?_
    refine lv_iload_n hx hb dX3_calculated_60 rfl (lv_at hl 1 rfl) ?_
    refine lv_iload_n hx hb dX3_calculated_61 rfl (lv_at hl 2 rfl) ?_
    refine lv_iadd hx hb dX3_calculated_62 ?_
    refine lv_goto (tgt := 117) hx hb dX3_calculated_63 (by decide) ?_
    have e9 : f_X3_calculated k M p1 p2 p3 p4 = (p2 + p3) := (by unfold f_X3_calculated; rw [if_neg e_1_1, if_neg e_1_2, if_pos e_1_3])
    exact wx_iret hx hb hr hlocks hP hS rfl ⟨e9.symm, rfl⟩ dX3_calculated_117
  by_cases e_1_4 : p1 = 4
  · refine lv_tableIn (tgt := 66) hx hb dX3_calculated_1 (by rw [e_1_4]; decide) (by rw [e_1_4]; decide) (by rw [e_1_4]; rfl) (by decide) ?_
    refine lv_iload_n hx hb dX3_calculated_66 rfl (lv_at hl 1 rfl) ?_
    refine lv_iload_n hx hb dX3_calculated_67 rfl (lv_at hl 2 rfl) ?_
    refine lv_isub hx hb dX3_calculated_68 ?_
    refine lv_goto (tgt := 117) hx hb dX3_calculated_69 (by decide) ?_
    have e9 : f_X3_calculated k M p1 p2 p3 p4 = (p2 - p3) := (by unfold f_X3_calculated; rw [if_neg e_1_1, if_neg e_1_2, if_neg e_1_3, if_pos e_1_4])
    exact wx_iret hx hb hr hlocks hP hS rfl ⟨e9.symm, rfl⟩ dX3_calculated_117
  by_cases e_1_5 : p1 = 5
  · refine lv_tableIn (tgt := 72) hx hb dX3_calculated_1 (by rw [e_1_5]; decide) (by rw [e_1_5]; decide) (by rw [e_1_5]; rfl) (by decide) ?_
    refine lv_iload_n hx hb dX3_calculated_72 rfl (lv_at hl 1 rfl) ?_
    refine lv_iload_n hx hb dX3_calculated_73 rfl (lv_at hl 2 rfl) ?_
    refine lv_imul hx hb dX3_calculated_74 ?_
    refine lv_goto (tgt := 117) hx hb dX3_calculated_75 (by decide) ?_
    have e9 : f_X3_calculated k M p1 p2 p3 p4 = (p2 * p3) := (by unfold f_X3_calculated; rw [if_neg e_1_1, if_neg e_1_2, if_neg e_1_3, if_neg e_1_4, if_pos e_1_5])
    exact wx_iret hx hb hr hlocks hP hS rfl ⟨e9.symm, rfl⟩ dX3_calculated_117
  by_cases e_1_6 : p1 = 6
  · refine lv_tableIn (tgt := 78) hx hb dX3_calculated_1 (by rw [e_1_6]; decide) (by rw [e_1_6]; decide) (by rw [e_1_6]; rfl) (by decide) ?_
    refine lv_iload_n hx hb dX3_calculated_78 rfl (lv_at hl 1 rfl) ?_
    refine lv_iload_n hx hb dX3_calculated_79 rfl (lv_at hl 2 rfl) ?_
    refine lv_idiv hx hb dX3_calculated_80 (hdv (Or.inl e_1_6)) ?_
    refine lv_goto (tgt := 117) hx hb dX3_calculated_81 (by decide) ?_
    have e9 : f_X3_calculated k M p1 p2 p3 p4 = (p2 / p3) := (by unfold f_X3_calculated; rw [if_neg e_1_1, if_neg e_1_2, if_neg e_1_3, if_neg e_1_4, if_neg e_1_5, if_pos e_1_6])
    exact wx_iret hx hb hr hlocks hP hS rfl ⟨e9.symm, rfl⟩ dX3_calculated_117
  by_cases e_1_7 : p1 = 7
  · refine lv_tableIn (tgt := 84) hx hb dX3_calculated_1 (by rw [e_1_7]; decide) (by rw [e_1_7]; decide) (by rw [e_1_7]; rfl) (by decide) ?_
    refine lv_iload_n hx hb dX3_calculated_84 rfl (lv_at hl 1 rfl) ?_
    refine lv_iload_n hx hb dX3_calculated_85 rfl (lv_at hl 2 rfl) ?_
    refine lv_irem hx hb dX3_calculated_86 (hdv (Or.inr e_1_7)) ?_
    refine lv_goto (tgt := 117) hx hb dX3_calculated_87 (by decide) ?_
    have e9 : f_X3_calculated k M p1 p2 p3 p4 = (p2 - p2 / p3 * p3) := (by unfold f_X3_calculated; rw [if_neg e_1_1, if_neg e_1_2, if_neg e_1_3, if_neg e_1_4, if_neg e_1_5, if_neg e_1_6, if_pos e_1_7])
    exact wx_iret hx hb hr hlocks hP hS rfl ⟨e9.symm, rfl⟩ dX3_calculated_117
  by_cases e_1_8 : p1 = 8
  · refine lv_tableIn (tgt := 90) hx hb dX3_calculated_1 (by rw [e_1_8]; decide) (by rw [e_1_8]; decide) (by rw [e_1_8]; rfl) (by decide) ?_
    refine lv_iload_n hx hb dX3_calculated_90 rfl (lv_at hl 1 rfl) ?_
    refine lv_iload_n hx hb dX3_calculated_91 rfl (lv_at hl 2 rfl) ?_
    refine lv_icmp_ge (tgt := 99) hx hb dX3_calculated_92 (by decide) (fun c_92 => ?_) (fun c_92 => ?_)
    · refine lv_iconst (v := 0) hx hb dX3_calculated_99 (by decide) ?_
      refine lv_goto (tgt := 117) hx hb dX3_calculated_100 (by decide) ?_
      have e9 : f_X3_calculated k M p1 p2 p3 p4 = 0 := (by unfold f_X3_calculated; rw [if_neg e_1_1, if_neg e_1_2, if_neg e_1_3, if_neg e_1_4, if_neg e_1_5, if_neg e_1_6, if_neg e_1_7, if_pos e_1_8, if_pos c_92])
      exact wx_iret hx hb hr hlocks hP hS rfl ⟨e9.symm, rfl⟩ dX3_calculated_117
    · refine lv_iconst (v := 1) hx hb dX3_calculated_95 (by decide) ?_
      refine lv_goto (tgt := 117) hx hb dX3_calculated_96 (by decide) ?_
      have e9 : f_X3_calculated k M p1 p2 p3 p4 = 1 := (by unfold f_X3_calculated; rw [if_neg e_1_1, if_neg e_1_2, if_neg e_1_3, if_neg e_1_4, if_neg e_1_5, if_neg e_1_6, if_neg e_1_7, if_pos e_1_8, if_neg c_92])
      exact wx_iret hx hb hr hlocks hP hS rfl ⟨e9.symm, rfl⟩ dX3_calculated_117
  by_cases e_1_9 : p1 = 9
  · refine lv_tableIn (tgt := 103) hx hb dX3_calculated_1 (by rw [e_1_9]; decide) (by rw [e_1_9]; decide) (by rw [e_1_9]; rfl) (by decide) ?_
    refine lv_iload_n hx hb dX3_calculated_103 rfl (lv_at hl 1 rfl) ?_
    refine lv_iload_n hx hb dX3_calculated_104 rfl (lv_at hl 2 rfl) ?_
    refine lv_icmp_ne (tgt := 112) hx hb dX3_calculated_105 (by decide) (fun c_105 => ?_) (fun c_105 => ?_)
    · refine lv_iconst (v := 0) hx hb dX3_calculated_112 (by decide) ?_
      refine lv_goto (tgt := 117) hx hb dX3_calculated_113 (by decide) ?_
      have e9 : f_X3_calculated k M p1 p2 p3 p4 = 0 := (by unfold f_X3_calculated; rw [if_neg e_1_1, if_neg e_1_2, if_neg e_1_3, if_neg e_1_4, if_neg e_1_5, if_neg e_1_6, if_neg e_1_7, if_neg e_1_8, if_pos e_1_9, if_neg c_105])
      exact wx_iret hx hb hr hlocks hP hS rfl ⟨e9.symm, rfl⟩ dX3_calculated_117
    · refine lv_iconst (v := 1) hx hb dX3_calculated_108 (by decide) ?_
      refine lv_goto (tgt := 117) hx hb dX3_calculated_109 (by decide) ?_
      have e9 : f_X3_calculated k M p1 p2 p3 p4 = 1 := (by unfold f_X3_calculated; rw [if_neg e_1_1, if_neg e_1_2, if_neg e_1_3, if_neg e_1_4, if_neg e_1_5, if_neg e_1_6, if_neg e_1_7, if_neg e_1_8, if_pos e_1_9, if_pos c_105])
      exact wx_iret hx hb hr hlocks hP hS rfl ⟨e9.symm, rfl⟩ dX3_calculated_117
  have hdf : p1.toInt < 1 ∨ 9 < p1.toInt := by have n0 := lv_neT e_1_1 (a := 1) (by decide); have n1 := lv_neT e_1_2 (a := 2) (by decide); have n2 := lv_neT e_1_3 (a := 3) (by decide); have n3 := lv_neT e_1_4 (a := 4) (by decide); have n4 := lv_neT e_1_5 (a := 5) (by decide); have n5 := lv_neT e_1_6 (a := 6) (by decide); have n6 := lv_neT e_1_7 (a := 7) (by decide); have n7 := lv_neT e_1_8 (a := 8) (by decide); have n8 := lv_neT e_1_9 (a := 9) (by decide);  omega
  refine lv_tableOut (tgt := 116) hx hb dX3_calculated_1 hdf (by decide) ?_
  refine lv_iload_n hx hb dX3_calculated_116 rfl (lv_at hl 1 rfl) ?_
  have e9 : f_X3_calculated k M p1 p2 p3 p4 = p2 := (by unfold f_X3_calculated; rw [if_neg e_1_1, if_neg e_1_2, if_neg e_1_3, if_neg e_1_4, if_neg e_1_5, if_neg e_1_6, if_neg e_1_7, if_neg e_1_8, if_neg e_1_9])
  exact wx_iret hx hb hr hlocks hP hS rfl ⟨e9.symm, rfl⟩ dX3_calculated_117
/-- by program, from the bytecode of RobotWorld.bounded -/
def f_X3_bounded (k : CK) (M : Mem) (p1 : Int32) (p2 : Int32) : Int32 :=
  (if 1 < (if p2 < p1 then p2 else p1) then (if p2 < p1 then p2 else p1) else 1)
set_option maxHeartbeats 4000000 in
set_option maxRecDepth 100000 in
theorem c_X3_bounded (l : Launch) (k : CK) (M : Mem) (p1 : Int32) (p2 : Int32)  : Met l yX3_bounded wsX3_bounded (rmK 1 14) (wPc (cw k) M [.int p1, .int p2]) (wQi (cw k) (fun r u => r = (f_X3_bounded k M p1 p2) ∧ u = M)) 0 0 (wA (cw k)) := by
  refine wx_met (cc := cX3_bounded) (maxL := 2) (ret := (some .int)) (by decide) rfl (Nat.le_of_ble_eq_true rfl) ?_
  intro p e s m below meth c ls hx hb hr hml hts hown hlocks hP hK hD hZ hS hl
  have hown : s.vm.findClass RX3 = some m.cls := hown
  have hl : lv_has ls 2 [(0, .int p1), (1, .int p2)] := hl
  refine lv_iconst (v := 1) hx hb dX3_bounded_0 (by decide) ?_
  refine lv_iload_n hx hb dX3_bounded_1 rfl (lv_at hl 0 rfl) ?_
  refine lv_iload_n hx hb dX3_bounded_2 rfl (lv_at hl 1 rfl) ?_
  refine va_mmin hx hb (by rw [hml]; exact hl.1.symm) hown (hts (.methodLink RX3 118 Lib.Math.min.name) (by decide +kernel)) (hts (.static Lib.Math.min.name) (by decide +kernel)) (hts (.initialized "java/lang/Math") (by decide +kernel)) (hts (.code Lib.Math.min.name Lib.Math.min.code 2 (some .int)) (by decide +kernel)) (by decide) (by decide) (by decide) (by decide) dX3_bounded_3 ?_
  refine va_mmax hx hb (by rw [hml]; exact hl.1.symm) hown (hts (.methodLink RX3 123 Lib.Math.max.name) (by decide +kernel)) (hts (.static Lib.Math.max.name) (by decide +kernel)) (hts (.initialized "java/lang/Math") (by decide +kernel)) (hts (.code Lib.Math.max.name Lib.Math.max.code 2 (some .int)) (by decide +kernel)) (by decide) (by decide) (by decide) (by decide) dX3_bounded_6 ?_
  have e9 : f_X3_bounded k M p1 p2 = (if 1 < (if p2 < p1 then p2 else p1) then (if p2 < p1 then p2 else p1) else 1) := rfl
  exact wx_iret hx hb hr hlocks hP hS rfl ⟨e9.symm, rfl⟩ dX3_bounded_9
/-- by program, from the bytecode of RobotWorld$Land.isInside -/
def f_X1_isInside (k : CK) (M : Mem) (p1 : Int32) (p2 : Int32) : Int32 :=
  if p1 < 0 then
    0
  else
    if (M 0 1 0) ≤ p1 then
      0
    else
      if p2 < 0 then
        0
      else
        if (M 0 1 1) ≤ p2 then
          0
        else
          1
set_option maxHeartbeats 4000000 in
set_option maxRecDepth 100000 in
theorem c_X1_isInside (l : Launch) (k : CK) (M : Mem) (p1 : Int32) (p2 : Int32)  : Met l yX1_isInside wsX1_isInside (rmK 0 0) (wPc (cw k) M [.ref (k.1 0 1), .int p1, .int p2]) (wQi (cw k) (fun r u => r = (f_X1_isInside k M p1 p2) ∧ u = M)) 0 0 (wA (cw k)) := by
  refine wx_met (cc := cX1_isInside) (maxL := 3) (ret := (some .boolean)) (by decide) rfl (Nat.le_of_ble_eq_true rfl) ?_
  intro p e s m below meth c ls hx hb hr hml hts hown hlocks hP hK hD hZ hS hl
  have hown : s.vm.findClass RX1 = some m.cls := hown
  have hl : lv_has ls 3 [(0, .ref (k.1 0 1)), (1, .int p1), (2, .int p2)] := hl
  have hiX1 : ∀ x ∈ u_ws RX1 TX1 6, x ∈ wsX1_isInside := by decide +kernel
  have hf15 := hts (.fieldLink RX1 15 "RobotWorld$Land" "height" "I") (by decide +kernel)
  have hf9 := hts (.fieldLink RX1 9 "RobotWorld$Land" "width" "I") (by decide +kernel)
  refine lv_iload_n hx hb dX1_isInside_0 rfl (lv_at hl 1 rfl) ?_
  refine lv_if_lt (tgt := 28) hx hb dX1_isInside_1 (by decide) (fun c_1 => ?_) (fun c_1 => ?_)
  · refine lv_iconst (v := 0) hx hb dX1_isInside_28 (by decide) ?_
    have e9 : f_X1_isInside k M p1 p2 = 0 := (by unfold f_X1_isInside; rw [if_pos c_1])
    exact wx_iret hx hb hr hlocks hP hS (by decide) ⟨e9.symm, rfl⟩ dX1_isInside_29
  · refine lv_iload_n hx hb dX1_isInside_4 rfl (lv_at hl 1 rfl) ?_
    refine lv_aload_n hx hb dX1_isInside_5 rfl (lv_at hl 0 rfl) ?_
    refine wx_get (w := (cw k)) (g := 0) (j := 1) hx hb hts hiX1 hown hK hP (cIx_0 (by decide)) rfl rfl 0 (by decide) hf9 rfl dX1_isInside_6 ?_
    refine lv_icmp_ge (tgt := 28) hx hb dX1_isInside_9 (by decide) (fun c_9 => ?_) (fun c_9 => ?_)
    · refine lv_iconst (v := 0) hx hb dX1_isInside_28 (by decide) ?_
      have e9 : f_X1_isInside k M p1 p2 = 0 := (by unfold f_X1_isInside; rw [if_neg c_1, if_pos c_9])
      exact wx_iret hx hb hr hlocks hP hS (by decide) ⟨e9.symm, rfl⟩ dX1_isInside_29
    · refine lv_iload_n hx hb dX1_isInside_12 rfl (lv_at hl 2 rfl) ?_
      refine lv_if_lt (tgt := 28) hx hb dX1_isInside_13 (by decide) (fun c_13 => ?_) (fun c_13 => ?_)
      · refine lv_iconst (v := 0) hx hb dX1_isInside_28 (by decide) ?_
        have e9 : f_X1_isInside k M p1 p2 = 0 := (by unfold f_X1_isInside; rw [if_neg c_1, if_neg c_9, if_pos c_13])
        exact wx_iret hx hb hr hlocks hP hS (by decide) ⟨e9.symm, rfl⟩ dX1_isInside_29
      · refine lv_iload_n hx hb dX1_isInside_16 rfl (lv_at hl 2 rfl) ?_
        refine lv_aload_n hx hb dX1_isInside_17 rfl (lv_at hl 0 rfl) ?_
        refine wx_get (w := (cw k)) (g := 0) (j := 1) hx hb hts hiX1 hown hK hP (cIx_0 (by decide)) rfl rfl 1 (by decide) hf15 rfl dX1_isInside_18 ?_
        refine lv_icmp_ge (tgt := 28) hx hb dX1_isInside_21 (by decide) (fun c_21 => ?_) (fun c_21 => ?_)
        · refine lv_iconst (v := 0) hx hb dX1_isInside_28 (by decide) ?_
          have e9 : f_X1_isInside k M p1 p2 = 0 := (by unfold f_X1_isInside; rw [if_neg c_1, if_neg c_9, if_neg c_13, if_pos c_21])
          exact wx_iret hx hb hr hlocks hP hS (by decide) ⟨e9.symm, rfl⟩ dX1_isInside_29
        · refine lv_iconst (v := 1) hx hb dX1_isInside_24 (by decide) ?_
          refine lv_goto (tgt := 29) hx hb dX1_isInside_25 (by decide) ?_
          have e9 : f_X1_isInside k M p1 p2 = 1 := (by unfold f_X1_isInside; rw [if_neg c_1, if_neg c_9, if_neg c_13, if_neg c_21])
          exact wx_iret hx hb hr hlocks hP hS (by decide) ⟨e9.symm, rfl⟩ dX1_isInside_29
theorem ins_of {k : CK} {M : Mem} {x y : Int32} (h : ¬ f_X1_isInside k M x y = 0) : ¬ x < 0 ∧ ¬ M 0 1 0 ≤ x ∧ ¬ y < 0 ∧ ¬ M 0 1 1 ≤ y := by
  unfold f_X1_isInside at h
  repeat (split at h; exact absurd rfl h)
  rename_i a b c d
  exact ⟨a, b, c, d⟩
theorem ins_sq {k : CK} {M : Mem} {x y : Int32} (hI : cI k M) (h : ¬ f_X1_isInside k M x y = 0) : vp_in (y * M 0 1 0 + x) (k.2.1 1) := by
  obtain ⟨a, b, c, d⟩ := ins_of h
  exact cI_sq hI a b c d
/-- by program, from the bytecode of RobotWorld$Land.isOpen -/
def f_X1_isOpen (k : CK) (M : Mem) (p1 : Int32) (p2 : Int32) : Int32 :=
  if p1 < 0 then
    0
  else
    if (M 0 1 0) ≤ p1 then
      0
    else
      if p2 < 0 then
        0
      else
        if (M 0 1 1) ≤ p2 then
          0
        else
          if (M 0 2 ((p2 * (M 0 1 0)) + p1).toNatClampNeg) = (-1) then
            0
          else
            1
set_option maxHeartbeats 4000000 in
set_option maxRecDepth 100000 in
theorem c_X1_isOpen (l : Launch) (k : CK) (M : Mem) (p1 : Int32) (p2 : Int32) (hI : cI k M) : Met l yX1_isOpen wsX1_isOpen (rmK 0 0) (wPc (cw k) M [.ref (k.1 0 1), .int p1, .int p2]) (wQi (cw k) (fun r u => r = (f_X1_isOpen k M p1 p2) ∧ u = M)) 0 0 (wA (cw k)) := by
  refine wx_met (cc := cX1_isOpen) (maxL := 3) (ret := (some .boolean)) (by decide) rfl (Nat.le_of_ble_eq_true rfl) ?_
  intro p e s m below meth c ls hx hb hr hml hts hown hlocks hP hK hD hZ hS hl
  have hown : s.vm.findClass RX1 = some m.cls := hown
  have hl : lv_has ls 3 [(0, .ref (k.1 0 1)), (1, .int p1), (2, .int p2)] := hl
  have hiX1 : ∀ x ∈ u_ws RX1 TX1 6, x ∈ wsX1_isOpen := by decide +kernel
  have hf15 := hts (.fieldLink RX1 15 "RobotWorld$Land" "height" "I") (by decide +kernel)
  have hf18 := hts (.fieldLink RX1 18 "RobotWorld$Land" "contents" "[I") (by decide +kernel)
  have hf9 := hts (.fieldLink RX1 9 "RobotWorld$Land" "width" "I") (by decide +kernel)
  refine lv_iload_n hx hb dX1_isOpen_0 rfl (lv_at hl 1 rfl) ?_
  refine lv_if_lt (tgt := 45) hx hb dX1_isOpen_1 (by decide) (fun c_1 => ?_) (fun c_1 => ?_)
  · refine lv_iconst (v := 0) hx hb dX1_isOpen_45 (by decide) ?_
    have e9 : f_X1_isOpen k M p1 p2 = 0 := (by unfold f_X1_isOpen; rw [if_pos c_1])
    exact wx_iret hx hb hr hlocks hP hS (by decide) ⟨e9.symm, rfl⟩ dX1_isOpen_46
  · refine lv_iload_n hx hb dX1_isOpen_4 rfl (lv_at hl 1 rfl) ?_
    refine lv_aload_n hx hb dX1_isOpen_5 rfl (lv_at hl 0 rfl) ?_
    refine wx_get (w := (cw k)) (g := 0) (j := 1) hx hb hts hiX1 hown hK hP (cIx_0 (by decide)) rfl rfl 0 (by decide) hf9 rfl dX1_isOpen_6 ?_
    refine lv_icmp_ge (tgt := 45) hx hb dX1_isOpen_9 (by decide) (fun c_9 => ?_) (fun c_9 => ?_)
    · refine lv_iconst (v := 0) hx hb dX1_isOpen_45 (by decide) ?_
      have e9 : f_X1_isOpen k M p1 p2 = 0 := (by unfold f_X1_isOpen; rw [if_neg c_1, if_pos c_9])
      exact wx_iret hx hb hr hlocks hP hS (by decide) ⟨e9.symm, rfl⟩ dX1_isOpen_46
    · refine lv_iload_n hx hb dX1_isOpen_12 rfl (lv_at hl 2 rfl) ?_
      refine lv_if_lt (tgt := 45) hx hb dX1_isOpen_13 (by decide) (fun c_13 => ?_) (fun c_13 => ?_)
      · refine lv_iconst (v := 0) hx hb dX1_isOpen_45 (by decide) ?_
        have e9 : f_X1_isOpen k M p1 p2 = 0 := (by unfold f_X1_isOpen; rw [if_neg c_1, if_neg c_9, if_pos c_13])
        exact wx_iret hx hb hr hlocks hP hS (by decide) ⟨e9.symm, rfl⟩ dX1_isOpen_46
      · refine lv_iload_n hx hb dX1_isOpen_16 rfl (lv_at hl 2 rfl) ?_
        refine lv_aload_n hx hb dX1_isOpen_17 rfl (lv_at hl 0 rfl) ?_
        refine wx_get (w := (cw k)) (g := 0) (j := 1) hx hb hts hiX1 hown hK hP (cIx_0 (by decide)) rfl rfl 1 (by decide) hf15 rfl dX1_isOpen_18 ?_
        refine lv_icmp_ge (tgt := 45) hx hb dX1_isOpen_21 (by decide) (fun c_21 => ?_) (fun c_21 => ?_)
        · refine lv_iconst (v := 0) hx hb dX1_isOpen_45 (by decide) ?_
          have e9 : f_X1_isOpen k M p1 p2 = 0 := (by unfold f_X1_isOpen; rw [if_neg c_1, if_neg c_9, if_neg c_13, if_pos c_21])
          exact wx_iret hx hb hr hlocks hP hS (by decide) ⟨e9.symm, rfl⟩ dX1_isOpen_46
        · refine lv_aload_n hx hb dX1_isOpen_24 rfl (lv_at hl 0 rfl) ?_
          refine wx_get (w := (cw k)) (g := 0) (j := 1) hx hb hts hiX1 hown hK hP (cIx_0 (by decide)) rfl rfl 2 (by decide) hf18 rfl dX1_isOpen_25 ?_
          refine lv_iload_n hx hb dX1_isOpen_28 rfl (lv_at hl 2 rfl) ?_
          refine lv_aload_n hx hb dX1_isOpen_29 rfl (lv_at hl 0 rfl) ?_
          refine wx_get (w := (cw k)) (g := 0) (j := 1) hx hb hts hiX1 hown hK hP (cIx_0 (by decide)) rfl rfl 0 (by decide) hf9 rfl dX1_isOpen_30 ?_
          refine lv_imul hx hb dX1_isOpen_33 ?_
          refine lv_iload_n hx hb dX1_isOpen_34 rfl (lv_at hl 1 rfl) ?_
          refine lv_iadd hx hb dX1_isOpen_35 ?_
          refine wx_iald (w := (cw k)) (g := 0) (j := 2) hx hb hK hP (cIx_0 (by decide)) 0 rfl rfl (cI_sq hI c_1 c_9 c_13 c_21) dX1_isOpen_36 ?_
          refine lv_iconst (v := (-1)) hx hb dX1_isOpen_37 (by decide) ?_
          refine lv_icmp_eq (tgt := 45) hx hb dX1_isOpen_38 (by decide) (fun c_38 => ?_) (fun c_38 => ?_)
          · refine lv_iconst (v := 0) hx hb dX1_isOpen_45 (by decide) ?_
            have e9 : f_X1_isOpen k M p1 p2 = 0 := (by unfold f_X1_isOpen; rw [if_neg c_1, if_neg c_9, if_neg c_13, if_neg c_21, if_pos c_38])
            exact wx_iret hx hb hr hlocks hP hS (by decide) ⟨e9.symm, rfl⟩ dX1_isOpen_46
          · refine lv_iconst (v := 1) hx hb dX1_isOpen_41 (by decide) ?_
            refine lv_goto (tgt := 46) hx hb dX1_isOpen_42 (by decide) ?_
            have e9 : f_X1_isOpen k M p1 p2 = 1 := (by unfold f_X1_isOpen; rw [if_neg c_1, if_neg c_9, if_neg c_13, if_neg c_21, if_neg c_38])
            exact wx_iret hx hb hr hlocks hP hS (by decide) ⟨e9.symm, rfl⟩ dX1_isOpen_46
theorem opn_of {k : CK} {M : Mem} {x y : Int32} (h : ¬ f_X1_isOpen k M x y = 0) : ¬ x < 0 ∧ ¬ M 0 1 0 ≤ x ∧ ¬ y < 0 ∧ ¬ M 0 1 1 ≤ y ∧ ¬ M 0 2 (y * M 0 1 0 + x).toNatClampNeg = -1 := by
  unfold f_X1_isOpen at h
  repeat (split at h; exact absurd rfl h)
  rename_i a b c d e
  exact ⟨a, b, c, d, e⟩
theorem opn_sq {k : CK} {M : Mem} {x y : Int32} (hI : cI k M) (h : ¬ f_X1_isOpen k M x y = 0) : vp_in (y * M 0 1 0 + x) (k.2.1 1) := by
  obtain ⟨a, b, c, d, -⟩ := opn_of h
  exact cI_sq hI a b c d
/-- by program, from the bytecode of RobotWorld$Box.add -/
def f_X0_add (k : CK) (M : Mem) (i : Nat) (p1 : Int32) : Int32 × Mem :=
  if (M (i + 1) 3 1) < (nI (k.2.1 3)) then
    (1, (mu (mu M (i + 1) 4 (M (i + 1) 3 1).toNatClampNeg p1) (i + 1) 3 1 (((mu M (i + 1) 4 (M (i + 1) 3 1).toNatClampNeg p1) (i + 1) 3 1) + 1)))
  else
    (0, M)
set_option maxHeartbeats 4000000 in
set_option maxRecDepth 100000 in
theorem c_X0_add (l : Launch) (k : CK) (M : Mem) (i : Nat) (p1 : Int32) (hi : i < k.2.1 0) (hI : cI k M) : Met l yX0_add wsX0_add (rmK 0 0) (wPc (cw k) M [.ref (k.1 (i + 1) 3), .int p1]) (wQi (cw k) (fun r u => r = (f_X0_add k M i p1).1 ∧ u = (f_X0_add k M i p1).2)) 0 0 (wA (cw k)) := by
  refine wx_met (cc := cX0_add) (maxL := 2) (ret := (some .boolean)) (by decide) rfl (Nat.le_of_ble_eq_true rfl) ?_
  intro p e s m below meth c ls hx hb hr hml hts hown hlocks hP hK hD hZ hS hl
  have hown : s.vm.findClass RX0 = some m.cls := hown
  have hl : lv_has ls 2 [(0, .ref (k.1 (i + 1) 3)), (1, .int p1)] := hl
  have hiX0 : ∀ x ∈ u_ws RX0 TX0 2, x ∈ wsX0_add := by decide +kernel
  have hf13 := hts (.fieldLink RX0 13 "RobotWorld$Box" "count" "I") (by decide +kernel)
  have hf7 := hts (.fieldLink RX0 7 "RobotWorld$Box" "numbers" "[I") (by decide +kernel)
  refine lv_aload_n hx hb dX0_add_0 rfl (lv_at hl 0 rfl) ?_
  refine wx_get (w := (cw k)) (g := (i + 1)) (j := 3) hx hb hts hiX0 hown hK hP (cIx_r hi (by decide)) rfl rfl 1 (by decide) hf13 rfl dX0_add_1 ?_
  refine lv_aload_n hx hb dX0_add_4 rfl (lv_at hl 0 rfl) ?_
  refine wx_get (w := (cw k)) (g := (i + 1)) (j := 3) hx hb hts hiX0 hown hK hP (cIx_r hi (by decide)) rfl rfl 0 (by decide) hf7 rfl dX0_add_5 ?_
  refine wx_alen (w := (cw k)) (g := (i + 1)) (j := 4) hx hb hK hP (cIx_r hi (by decide)) 0 rfl rfl dX0_add_8 ?_
  refine lv_icmp_lt (tgt := 14) hx hb dX0_add_9 (by decide) (fun c_9 => ?_) (fun c_9 => ?_)
  · refine lv_aload_n hx hb dX0_add_14 rfl (lv_at hl 0 rfl) ?_
    refine wx_get (w := (cw k)) (g := (i + 1)) (j := 3) hx hb hts hiX0 hown hK hP (cIx_r hi (by decide)) rfl rfl 0 (by decide) hf7 rfl dX0_add_15 ?_
    refine lv_aload_n hx hb dX0_add_18 rfl (lv_at hl 0 rfl) ?_
    refine wx_get (w := (cw k)) (g := (i + 1)) (j := 3) hx hb hts hiX0 hown hK hP (cIx_r hi (by decide)) rfl rfl 1 (by decide) hf13 rfl dX0_add_19 ?_
    refine lv_iload_n hx hb dX0_add_22 rfl (lv_at hl 1 rfl) ?_
    refine wx_iast (w := (cw k)) (g := (i + 1)) (j := 4) hx hb hK hP hD hS (cIx_r hi (by decide)) 0 (fun _ => rfl) rfl (vinL (cI_c hI hi) c_9 (cI_m hI)) dX0_add_23 (fun H locs hP hS => ?_)
    refine lv_aload_n hx hb dX0_add_24 rfl (lv_at hl 0 rfl) ?_
    refine lv_dup hx hb dX0_add_25 rfl ?_
    refine wx_get (w := (cw k)) (g := (i + 1)) (j := 3) hx hb hts hiX0 hown hK hP (cIx_r hi (by decide)) rfl rfl 1 (by decide) hf13 rfl dX0_add_26 ?_
    refine lv_iconst (v := 1) hx hb dX0_add_29 (by decide) ?_
    refine lv_iadd hx hb dX0_add_30 ?_
    refine wx_put (w := (cw k)) (g := (i + 1)) (j := 3) hx hb hts hiX0 tyX0 tyX0_ok nmX0 hown hK hP hD hS (cIx_r hi (by decide)) rfl rfl 1 (by decide) hf13 rfl (by decide +kernel) rfl (Nat.le_of_ble_eq_true rfl) dX0_add_31 (fun H locs hP hS => ?_)
    refine lv_iconst (v := 1) hx hb dX0_add_34 (by decide) ?_
    have e9 : f_X0_add k M i p1 = (1, (mu (mu M (i + 1) 4 (M (i + 1) 3 1).toNatClampNeg p1) (i + 1) 3 1 (((mu M (i + 1) 4 (M (i + 1) 3 1).toNatClampNeg p1) (i + 1) 3 1) + 1))) := (by unfold f_X0_add; rw [if_pos c_9])
    exact wx_iret hx hb hr hlocks hP hS (by decide) ⟨by rw [e9], by rw [e9]⟩ dX0_add_35
  · refine lv_iconst (v := 0) hx hb dX0_add_12 (by decide) ?_
    have e9 : f_X0_add k M i p1 = (0, M) := (by unfold f_X0_add; rw [if_neg c_9])
    exact wx_iret hx hb hr hlocks hP hS (by decide) ⟨by rw [e9], by rw [e9]⟩ dX0_add_13
theorem cI_add {k : CK} {M : Mem} {i : Nat} {x : Int32} (hI : cI k M) (hi : i < k.2.1 0) : cI k (f_X0_add k M i x).2 := by
  unfold f_X0_add
  split
  · rename_i c
    refine cI_mu3 (cI_mu hI (by omega) (by omega) (by omega)) ?_
    obtain ⟨j, hj, e⟩ := nI_of (cI_c hI hi)
    rw [mu_at, if_neg (by omega), e]
    rw [e] at c
    have h1 := (nI_ltI hj (cI_m hI)).mp c
    have h2 := cI_m hI
    rw [nI_1]
    exact nI_pos (by omega)
  · exact hI
theorem rf0 {k : CK} {M : Mem} (h : cI k M) : vp_in (0 : Int32) (k.2.1 3) := by
  rw [← nI_0]
  exact vp_in_nI (by have := h.2.2.2.1.1; omega) (cI_m h)
theorem rf_a {x : Int32} {N : Nat} (c : ¬ x ≤ 0) (c2 : x ≤ nI N) (hN : N < 2 ^ 31) : ∃ a : Nat, a + 1 ≤ N ∧ x - 1 = nI a := by
  have h0 : ¬ x < 0 := fun q => c (Int32.le_of_lt q)
  obtain ⟨j, hj, rfl⟩ := nI_of h0
  have h1 : j ≤ N := (nI_leI hj hN).mp c2
  cases j with
  | zero => exact absurd (by rw [nI_0]; exact Int32.le_refl 0) c
  | succ a => exact ⟨a, h1, nI_pred a⟩
theorem rf_r (M : Mem) (g : Nat) (v : Int32) : mu M g 3 1 v g 3 1 = v := by simp [mu_at]
theorem rf1 {M : Mem} {g : Nat} {x : Int32} {N : Nat} (c : ¬ x ≤ 0) (c2 : x ≤ nI N) (hN : N < 2 ^ 31) : ¬ mu M g 3 1 (x - 1) g 3 1 < 0 := by
  obtain ⟨a, h1, h2⟩ := rf_a c c2 hN
  rw [rf_r, h2]
  exact nI_pos (by omega)
theorem rf2 {M : Mem} {g : Nat} {x : Int32} {N : Nat} (c : ¬ x ≤ 0) (c2 : x ≤ nI N) (hN : N < 2 ^ 31) : (1 : Int32).toNatClampNeg + (mu M g 3 1 (x - 1) g 3 1).toNatClampNeg ≤ N := by
  obtain ⟨a, h1, h2⟩ := rf_a c c2 hN
  rw [rf_r, h2, nI_clamp (by omega), show (1 : Int32).toNatClampNeg = 1 from by decide]
  omega
theorem rf3 {M : Mem} {g : Nat} {x : Int32} {N : Nat} (c : ¬ x ≤ 0) (c2 : x ≤ nI N) (hN : N < 2 ^ 31) : (0 : Int32).toNatClampNeg + (mu M g 3 1 (x - 1) g 3 1).toNatClampNeg ≤ N := by
  obtain ⟨a, h1, h2⟩ := rf_a c c2 hN
  rw [rf_r, h2, nI_clamp (by omega), show (0 : Int32).toNatClampNeg = 0 from by decide]
  omega
/-- by program, from the bytecode of RobotWorld$Box.removeFirst -/
def f_X0_removeFirst (k : CK) (M : Mem) (i : Nat) : Int32 × Mem :=
  if (M (i + 1) 3 1) ≤ 0 then
    (0, M)
  else
    if (M (i + 1) 3 1) ≤ (nI (k.2.1 3)) then
      ((M (i + 1) 4 (0 : Int32).toNatClampNeg), (mr (mu M (i + 1) 3 1 ((M (i + 1) 3 1) - 1)) (i + 1) 4 (va_cpy ((mu M (i + 1) 3 1 ((M (i + 1) 3 1) - 1)) (i + 1) 4) ((mu M (i + 1) 3 1 ((M (i + 1) 3 1) - 1)) (i + 1) 4) (1 : Int32).toNatClampNeg (0 : Int32).toNatClampNeg ((mu M (i + 1) 3 1 ((M (i + 1) 3 1) - 1)) (i + 1) 3 1).toNatClampNeg)))
    else
      (0, M)
set_option maxHeartbeats 4000000 in
set_option maxRecDepth 100000 in
theorem c_X0_removeFirst (l : Launch) (k : CK) (M : Mem) (i : Nat) (hi : i < k.2.1 0) (hI : cI k M) : Met l yX0_removeFirst wsX0_removeFirst (rmK 1 40) (wPc (cw k) M [.ref (k.1 (i + 1) 3)]) (wQi (cw k) (fun r u => r = (f_X0_removeFirst k M i).1 ∧ u = (f_X0_removeFirst k M i).2)) 0 0 (wA (cw k)) := by
  refine wx_met (cc := cX0_removeFirst) (maxL := 2) (ret := (some .int)) (by decide) rfl (Nat.le_of_ble_eq_true rfl) ?_
  intro p e s m below meth c ls hx hb hr hml hts hown hlocks hP hK hD hZ hS hl
  have hown : s.vm.findClass RX0 = some m.cls := hown
  have hl : lv_has ls 2 [(0, .ref (k.1 (i + 1) 3))] := hl
  have hiX0 : ∀ x ∈ u_ws RX0 TX0 2, x ∈ wsX0_removeFirst := by decide +kernel
  have hf13 := hts (.fieldLink RX0 13 "RobotWorld$Box" "count" "I") (by decide +kernel)
  have hf7 := hts (.fieldLink RX0 7 "RobotWorld$Box" "numbers" "[I") (by decide +kernel)
  refine lv_aload_n hx hb dX0_removeFirst_0 rfl (lv_at hl 0 rfl) ?_
  refine wx_get (w := (cw k)) (g := (i + 1)) (j := 3) hx hb hts hiX0 hown hK hP (cIx_r hi (by decide)) rfl rfl 1 (by decide) hf13 rfl dX0_removeFirst_1 ?_
  refine lv_if_le (tgt := 19) hx hb dX0_removeFirst_4 (by decide) (fun c_4 => ?_) (fun c_4 => ?_)
  · refine lv_iconst (v := 0) hx hb dX0_removeFirst_19 (by decide) ?_
    have e9 : f_X0_removeFirst k M i = (0, M) := (by unfold f_X0_removeFirst; rw [if_pos c_4])
    exact wx_iret hx hb hr hlocks hP hS rfl ⟨by rw [e9], by rw [e9]⟩ dX0_removeFirst_20
  · refine lv_aload_n hx hb dX0_removeFirst_7 rfl (lv_at hl 0 rfl) ?_
    refine wx_get (w := (cw k)) (g := (i + 1)) (j := 3) hx hb hts hiX0 hown hK hP (cIx_r hi (by decide)) rfl rfl 1 (by decide) hf13 rfl dX0_removeFirst_8 ?_
    refine lv_aload_n hx hb dX0_removeFirst_11 rfl (lv_at hl 0 rfl) ?_
    refine wx_get (w := (cw k)) (g := (i + 1)) (j := 3) hx hb hts hiX0 hown hK hP (cIx_r hi (by decide)) rfl rfl 0 (by decide) hf7 rfl dX0_removeFirst_12 ?_
    refine wx_alen (w := (cw k)) (g := (i + 1)) (j := 4) hx hb hK hP (cIx_r hi (by decide)) 0 rfl rfl dX0_removeFirst_15 ?_
    refine lv_icmp_le (tgt := 21) hx hb dX0_removeFirst_16 (by decide) (fun c_16 => ?_) (fun c_16 => ?_)
    · refine lv_aload_n hx hb dX0_removeFirst_21 rfl (lv_at hl 0 rfl) ?_
      refine wx_get (w := (cw k)) (g := (i + 1)) (j := 3) hx hb hts hiX0 hown hK hP (cIx_r hi (by decide)) rfl rfl 0 (by decide) hf7 rfl dX0_removeFirst_22 ?_
      refine lv_iconst (v := 0) hx hb dX0_removeFirst_25 (by decide) ?_
      refine wx_iald (w := (cw k)) (g := (i + 1)) (j := 4) hx hb hK hP (cIx_r hi (by decide)) 0 rfl rfl (rf0 hI) dX0_removeFirst_26 ?_
      refine lv_istore_n (lv' := [(1, .int (M (i + 1) 4 (0 : Int32).toNatClampNeg)), (0, .ref (k.1 (i + 1) 3))]) hx hb dX0_removeFirst_27 rfl hl (by decide) rfl (fun ls hl => ?_)
      refine lv_aload_n hx hb dX0_removeFirst_28 rfl (lv_at hl 1 rfl) ?_
      refine lv_dup hx hb dX0_removeFirst_29 rfl ?_
      refine wx_get (w := (cw k)) (g := (i + 1)) (j := 3) hx hb hts hiX0 hown hK hP (cIx_r hi (by decide)) rfl rfl 1 (by decide) hf13 rfl dX0_removeFirst_30 ?_
      refine lv_iconst (v := 1) hx hb dX0_removeFirst_33 (by decide) ?_
      refine lv_isub hx hb dX0_removeFirst_34 ?_
      refine wx_put (w := (cw k)) (g := (i + 1)) (j := 3) hx hb hts hiX0 tyX0 tyX0_ok nmX0 hown hK hP hD hS (cIx_r hi (by decide)) rfl rfl 1 (by decide) hf13 rfl (by decide +kernel) rfl (Nat.le_of_ble_eq_true rfl) dX0_removeFirst_35 (fun H locs hP hS => ?_)
      refine lv_aload_n hx hb dX0_removeFirst_38 rfl (lv_at hl 1 rfl) ?_
      refine wx_get (w := (cw k)) (g := (i + 1)) (j := 3) hx hb hts hiX0 hown hK hP (cIx_r hi (by decide)) rfl rfl 0 (by decide) hf7 rfl dX0_removeFirst_39 ?_
      refine lv_iconst (v := 1) hx hb dX0_removeFirst_42 (by decide) ?_
      refine lv_aload_n hx hb dX0_removeFirst_43 rfl (lv_at hl 1 rfl) ?_
      refine wx_get (w := (cw k)) (g := (i + 1)) (j := 3) hx hb hts hiX0 hown hK hP (cIx_r hi (by decide)) rfl rfl 0 (by decide) hf7 rfl dX0_removeFirst_44 ?_
      refine lv_iconst (v := 0) hx hb dX0_removeFirst_47 (by decide) ?_
      refine lv_aload_n hx hb dX0_removeFirst_48 rfl (lv_at hl 1 rfl) ?_
      refine wx_get (w := (cw k)) (g := (i + 1)) (j := 3) hx hb hts hiX0 hown hK hP (cIx_r hi (by decide)) rfl rfl 1 (by decide) hf13 rfl dX0_removeFirst_49 ?_
      refine wx_copy (w := (cw k)) (g := (i + 1)) (j := 4) hx hb (by rw [hml]; exact hl.1.symm) hown (hts (.methodLink RX0 17 arraycopyName) (by decide +kernel)) (hts (.native arraycopyName) (by decide +kernel)) (hts (.static arraycopyName) (by decide +kernel)) (hts (.initialized "java/lang/System") (by decide +kernel)) hK hP hD hS (cIx_r hi (by decide)) 0 (fun _ => rfl) rfl (by decide) (by decide) (rf1 c_4 c_16 (cI_m hI)) (rf2 c_4 c_16 (cI_m hI)) (rf3 c_4 c_16 (cI_m hI)) (by decide) (by decide) dX0_removeFirst_52 (fun H locs hP hS => ?_)
      refine lv_iload_n hx hb dX0_removeFirst_55 rfl (lv_at hl 0 rfl) ?_
      have e9 : f_X0_removeFirst k M i = ((M (i + 1) 4 (0 : Int32).toNatClampNeg), (mr (mu M (i + 1) 3 1 ((M (i + 1) 3 1) - 1)) (i + 1) 4 (va_cpy ((mu M (i + 1) 3 1 ((M (i + 1) 3 1) - 1)) (i + 1) 4) ((mu M (i + 1) 3 1 ((M (i + 1) 3 1) - 1)) (i + 1) 4) (1 : Int32).toNatClampNeg (0 : Int32).toNatClampNeg ((mu M (i + 1) 3 1 ((M (i + 1) 3 1) - 1)) (i + 1) 3 1).toNatClampNeg))) := (by unfold f_X0_removeFirst; rw [if_neg c_4, if_pos c_16])
      exact wx_iret hx hb hr hlocks hP hS rfl ⟨by rw [e9], by rw [e9]⟩ dX0_removeFirst_56
    · refine lv_iconst (v := 0) hx hb dX0_removeFirst_19 (by decide) ?_
      have e9 : f_X0_removeFirst k M i = (0, M) := (by unfold f_X0_removeFirst; rw [if_neg c_4, if_neg c_16])
      exact wx_iret hx hb hr hlocks hP hS rfl ⟨by rw [e9], by rw [e9]⟩ dX0_removeFirst_20
theorem cI_removeFirst {k : CK} {M : Mem} {i : Nat} (hI : cI k M) : cI k (f_X0_removeFirst k M i).2 := by
  unfold f_X0_removeFirst
  split
  · exact hI
  · rename_i c
    split
    · rename_i c2
      obtain ⟨a, h1, h2⟩ := rf_a c c2 (cI_m hI)
      refine cI_mr (cI_mu3 hI ?_) (by omega) (by omega) (by omega)
      rw [h2]
      have := cI_m hI
      exact nI_pos (by omega)
    · exact hI
/-- by program, from the bytecode of RobotWorld$Robot.addWord -/
def f_X2_addWord (k : CK) (M : Mem) (i : Nat) (p1 : Int32) : Int32 × Mem :=
  if (M (i + 1) 0 8) < (nI (k.2.1 2)) then
    (1, (mu (mu M (i + 1) 1 (M (i + 1) 0 8).toNatClampNeg p1) (i + 1) 0 8 (((mu M (i + 1) 1 (M (i + 1) 0 8).toNatClampNeg p1) (i + 1) 0 8) + 1)))
  else
    (0, M)
set_option maxHeartbeats 4000000 in
set_option maxRecDepth 100000 in
theorem c_X2_addWord (l : Launch) (k : CK) (M : Mem) (i : Nat) (p1 : Int32) (hi : i < k.2.1 0) (hI : cI k M) : Met l yX2_addWord wsX2_addWord (rmK 0 0) (wPc (cw k) M [.ref (k.1 (i + 1) 0), .int p1]) (wQi (cw k) (fun r u => r = (f_X2_addWord k M i p1).1 ∧ u = (f_X2_addWord k M i p1).2)) 0 0 (wA (cw k)) := by
  refine wx_met (cc := cX2_addWord) (maxL := 2) (ret := (some .boolean)) (by decide) rfl (Nat.le_of_ble_eq_true rfl) ?_
  intro p e s m below meth c ls hx hb hr hml hts hown hlocks hP hK hD hZ hS hl
  have hown : s.vm.findClass RX2 = some m.cls := hown
  have hl : lv_has ls 2 [(0, .ref (k.1 (i + 1) 0)), (1, .int p1)] := hl
  have hiX2 : ∀ x ∈ u_ws RX2 TX2 12, x ∈ wsX2_addWord := by decide +kernel
  have hf15 := hts (.fieldLink RX2 15 "RobotWorld$Robot" "program" "[I") (by decide +kernel)
  have hf43 := hts (.fieldLink RX2 43 "RobotWorld$Robot" "words" "I") (by decide +kernel)
  refine lv_aload_n hx hb dX2_addWord_0 rfl (lv_at hl 0 rfl) ?_
  refine wx_get (w := (cw k)) (g := (i + 1)) (j := 0) hx hb hts hiX2 hown hK hP (cIx_r hi (by decide)) rfl rfl 8 (by decide) hf43 rfl dX2_addWord_1 ?_
  refine lv_aload_n hx hb dX2_addWord_4 rfl (lv_at hl 0 rfl) ?_
  refine wx_get (w := (cw k)) (g := (i + 1)) (j := 0) hx hb hts hiX2 hown hK hP (cIx_r hi (by decide)) rfl rfl 1 (by decide) hf15 rfl dX2_addWord_5 ?_
  refine wx_alen (w := (cw k)) (g := (i + 1)) (j := 1) hx hb hK hP (cIx_r hi (by decide)) 0 rfl rfl dX2_addWord_8 ?_
  refine lv_icmp_lt (tgt := 14) hx hb dX2_addWord_9 (by decide) (fun c_9 => ?_) (fun c_9 => ?_)
  · refine lv_aload_n hx hb dX2_addWord_14 rfl (lv_at hl 0 rfl) ?_
    refine wx_get (w := (cw k)) (g := (i + 1)) (j := 0) hx hb hts hiX2 hown hK hP (cIx_r hi (by decide)) rfl rfl 1 (by decide) hf15 rfl dX2_addWord_15 ?_
    refine lv_aload_n hx hb dX2_addWord_18 rfl (lv_at hl 0 rfl) ?_
    refine wx_get (w := (cw k)) (g := (i + 1)) (j := 0) hx hb hts hiX2 hown hK hP (cIx_r hi (by decide)) rfl rfl 8 (by decide) hf43 rfl dX2_addWord_19 ?_
    refine lv_iload_n hx hb dX2_addWord_22 rfl (lv_at hl 1 rfl) ?_
    refine wx_iast (w := (cw k)) (g := (i + 1)) (j := 1) hx hb hK hP hD hS (cIx_r hi (by decide)) 0 (fun _ => rfl) rfl (vinL (cI_p hI hi) c_9 (cI_l hI)) dX2_addWord_23 (fun H locs hP hS => ?_)
    refine lv_aload_n hx hb dX2_addWord_24 rfl (lv_at hl 0 rfl) ?_
    refine lv_dup hx hb dX2_addWord_25 rfl ?_
    refine wx_get (w := (cw k)) (g := (i + 1)) (j := 0) hx hb hts hiX2 hown hK hP (cIx_r hi (by decide)) rfl rfl 8 (by decide) hf43 rfl dX2_addWord_26 ?_
    refine lv_iconst (v := 1) hx hb dX2_addWord_29 (by decide) ?_
    refine lv_iadd hx hb dX2_addWord_30 ?_
    refine wx_put (w := (cw k)) (g := (i + 1)) (j := 0) hx hb hts hiX2 tyX2 tyX2_ok nmX2 hown hK hP hD hS (cIx_r hi (by decide)) rfl rfl 8 (by decide) hf43 rfl (by decide +kernel) rfl (Nat.le_of_ble_eq_true rfl) dX2_addWord_31 (fun H locs hP hS => ?_)
    refine lv_iconst (v := 1) hx hb dX2_addWord_34 (by decide) ?_
    have e9 : f_X2_addWord k M i p1 = (1, (mu (mu M (i + 1) 1 (M (i + 1) 0 8).toNatClampNeg p1) (i + 1) 0 8 (((mu M (i + 1) 1 (M (i + 1) 0 8).toNatClampNeg p1) (i + 1) 0 8) + 1))) := (by unfold f_X2_addWord; rw [if_pos c_9])
    exact wx_iret hx hb hr hlocks hP hS (by decide) ⟨by rw [e9], by rw [e9]⟩ dX2_addWord_35
  · refine lv_iconst (v := 0) hx hb dX2_addWord_12 (by decide) ?_
    have e9 : f_X2_addWord k M i p1 = (0, M) := (by unfold f_X2_addWord; rw [if_neg c_9])
    exact wx_iret hx hb hr hlocks hP hS (by decide) ⟨by rw [e9], by rw [e9]⟩ dX2_addWord_13
/-- by program, from the bytecode of RobotWorld$Robot.takesMail -/
def f_X2_takesMail (k : CK) (M : Mem) (i : Nat) : Int32 :=
  if (M (i + 1) 0 4) = 2 then
    1
  else
    if (M (i + 1) 0 4) = 3 then
      1
    else
      if (M (i + 1) 0 4) = 4 then
        1
      else
        0
set_option maxHeartbeats 4000000 in
set_option maxRecDepth 100000 in
theorem c_X2_takesMail (l : Launch) (k : CK) (M : Mem) (i : Nat) (hi : i < k.2.1 0)  : Met l yX2_takesMail wsX2_takesMail (rmK 0 0) (wPc (cw k) M [.ref (k.1 (i + 1) 0)]) (wQi (cw k) (fun r u => r = (f_X2_takesMail k M i) ∧ u = M)) 0 0 (wA (cw k)) := by
  refine wx_met (cc := cX2_takesMail) (maxL := 1) (ret := (some .boolean)) (by decide) rfl (Nat.le_of_ble_eq_true rfl) ?_
  intro p e s m below meth c ls hx hb hr hml hts hown hlocks hP hK hD hZ hS hl
  have hown : s.vm.findClass RX2 = some m.cls := hown
  have hl : lv_has ls 1 [(0, .ref (k.1 (i + 1) 0))] := hl
  have hiX2 : ∀ x ∈ u_ws RX2 TX2 12, x ∈ wsX2_takesMail := by decide +kernel
  have hf37 := hts (.fieldLink RX2 37 "RobotWorld$Robot" "state" "I") (by decide +kernel)
  refine lv_aload_n hx hb dX2_takesMail_0 rfl (lv_at hl 0 rfl) ?_
  refine wx_get (w := (cw k)) (g := (i + 1)) (j := 0) hx hb hts hiX2 hown hK hP (cIx_r hi (by decide)) rfl rfl 4 (by decide) hf37 rfl dX2_takesMail_1 ?_
  refine lv_iconst (v := 2) hx hb dX2_takesMail_4 (by decide) ?_
  refine lv_icmp_eq (tgt := 24) hx hb dX2_takesMail_5 (by decide) (fun c_5 => ?_) (fun c_5 => ?_)
  · refine lv_iconst (v := 1) hx hb dX2_takesMail_24 (by decide) ?_
    refine lv_goto (tgt := 29) hx hb dX2_takesMail_25 (by decide) ?_
    have e9 : f_X2_takesMail k M i = 1 := (by unfold f_X2_takesMail; rw [if_pos c_5])
    exact wx_iret hx hb hr hlocks hP hS (by decide) ⟨e9.symm, rfl⟩ dX2_takesMail_29
  · refine lv_aload_n hx hb dX2_takesMail_8 rfl (lv_at hl 0 rfl) ?_
    refine wx_get (w := (cw k)) (g := (i + 1)) (j := 0) hx hb hts hiX2 hown hK hP (cIx_r hi (by decide)) rfl rfl 4 (by decide) hf37 rfl dX2_takesMail_9 ?_
    refine lv_iconst (v := 3) hx hb dX2_takesMail_12 (by decide) ?_
    refine lv_icmp_eq (tgt := 24) hx hb dX2_takesMail_13 (by decide) (fun c_13 => ?_) (fun c_13 => ?_)
    · refine lv_iconst (v := 1) hx hb dX2_takesMail_24 (by decide) ?_
      refine lv_goto (tgt := 29) hx hb dX2_takesMail_25 (by decide) ?_
      have e9 : f_X2_takesMail k M i = 1 := (by unfold f_X2_takesMail; rw [if_neg c_5, if_pos c_13])
      exact wx_iret hx hb hr hlocks hP hS (by decide) ⟨e9.symm, rfl⟩ dX2_takesMail_29
    · refine lv_aload_n hx hb dX2_takesMail_16 rfl (lv_at hl 0 rfl) ?_
      refine wx_get (w := (cw k)) (g := (i + 1)) (j := 0) hx hb hts hiX2 hown hK hP (cIx_r hi (by decide)) rfl rfl 4 (by decide) hf37 rfl dX2_takesMail_17 ?_
      refine lv_iconst (v := 4) hx hb dX2_takesMail_20 (by decide) ?_
      refine lv_icmp_ne (tgt := 28) hx hb dX2_takesMail_21 (by decide) (fun c_21 => ?_) (fun c_21 => ?_)
      · refine lv_iconst (v := 0) hx hb dX2_takesMail_28 (by decide) ?_
        have e9 : f_X2_takesMail k M i = 0 := (by unfold f_X2_takesMail; rw [if_neg c_5, if_neg c_13, if_neg c_21])
        exact wx_iret hx hb hr hlocks hP hS (by decide) ⟨e9.symm, rfl⟩ dX2_takesMail_29
      · refine lv_iconst (v := 1) hx hb dX2_takesMail_24 (by decide) ?_
        refine lv_goto (tgt := 29) hx hb dX2_takesMail_25 (by decide) ?_
        have e9 : f_X2_takesMail k M i = 1 := (by unfold f_X2_takesMail; rw [if_neg c_5, if_neg c_13, if_pos c_21])
        exact wx_iret hx hb hr hlocks hP hS (by decide) ⟨e9.symm, rfl⟩ dX2_takesMail_29
/-- by program, from the bytecode of RobotWorld$Robot.fallAsleep -/
def f_X2_fallAsleep (k : CK) (M : Mem) (i : Nat) (p1 : Int32) : Mem :=
  if p1 ≤ 0 then
    M
  else
    (mu (mu M (i + 1) 0 4 3) (i + 1) 0 11 p1)
set_option maxHeartbeats 4000000 in
set_option maxRecDepth 100000 in
theorem c_X2_fallAsleep (l : Launch) (k : CK) (M : Mem) (i : Nat) (p1 : Int32) (hi : i < k.2.1 0)  : Met l yX2_fallAsleep wsX2_fallAsleep (rmK 0 0) (wPc (cw k) M [.ref (k.1 (i + 1) 0), .int p1]) (wQv (cw k) (fun u => u = f_X2_fallAsleep k M i p1)) 0 0 (wA (cw k)) := by
  refine wx_met (cc := cX2_fallAsleep) (maxL := 2) (ret := none) (by decide) rfl (Nat.le_of_ble_eq_true rfl) ?_
  intro p e s m below meth c ls hx hb hr hml hts hown hlocks hP hK hD hZ hS hl
  have hown : s.vm.findClass RX2 = some m.cls := hown
  have hl : lv_has ls 2 [(0, .ref (k.1 (i + 1) 0)), (1, .int p1)] := hl
  have hiX2 : ∀ x ∈ u_ws RX2 TX2 12, x ∈ wsX2_fallAsleep := by decide +kernel
  have hf37 := hts (.fieldLink RX2 37 "RobotWorld$Robot" "state" "I") (by decide +kernel)
  have hf52 := hts (.fieldLink RX2 52 "RobotWorld$Robot" "sleepLeft" "I") (by decide +kernel)
  refine lv_iload_n hx hb dX2_fallAsleep_0 rfl (lv_at hl 1 rfl) ?_
  refine lv_if_le (tgt := 14) hx hb dX2_fallAsleep_1 (by decide) (fun c_1 => ?_) (fun c_1 => ?_)
  · have e9 : f_X2_fallAsleep k M i p1 = M := (by unfold f_X2_fallAsleep; rw [if_pos c_1])
    exact wx_vret hx hb hr hlocks hP hS e9.symm dX2_fallAsleep_14
  · refine lv_aload_n hx hb dX2_fallAsleep_4 rfl (lv_at hl 0 rfl) ?_
    refine lv_iconst (v := 3) hx hb dX2_fallAsleep_5 (by decide) ?_
    refine wx_put (w := (cw k)) (g := (i + 1)) (j := 0) hx hb hts hiX2 tyX2 tyX2_ok nmX2 hown hK hP hD hS (cIx_r hi (by decide)) rfl rfl 4 (by decide) hf37 rfl (by decide +kernel) rfl (Nat.le_of_ble_eq_true rfl) dX2_fallAsleep_6 (fun H locs hP hS => ?_)
    refine lv_aload_n hx hb dX2_fallAsleep_9 rfl (lv_at hl 0 rfl) ?_
    refine lv_iload_n hx hb dX2_fallAsleep_10 rfl (lv_at hl 1 rfl) ?_
    refine wx_put (w := (cw k)) (g := (i + 1)) (j := 0) hx hb hts hiX2 tyX2 tyX2_ok nmX2 hown hK hP hD hS (cIx_r hi (by decide)) rfl rfl 11 (by decide) hf52 rfl (by decide +kernel) rfl (Nat.le_of_ble_eq_true rfl) dX2_fallAsleep_11 (fun H locs hP hS => ?_)
    have e9 : f_X2_fallAsleep k M i p1 = (mu (mu M (i + 1) 0 4 3) (i + 1) 0 11 p1) := (by unfold f_X2_fallAsleep; rw [if_neg c_1])
    exact wx_vret hx hb hr hlocks hP hS e9.symm dX2_fallAsleep_14
theorem cI_fallAsleep {k : CK} {M : Mem} {i : Nat} {x : Int32} (hI : cI k M) : cI k (f_X2_fallAsleep k M i x) := by
  unfold f_X2_fallAsleep
  repeat' split
  all_goals first | exact hI | exact cI_mu (cI_mu hI (by omega) (by omega) (by omega)) (by omega) (by omega) (by omega) | exact cI_mu hI (by omega) (by omega) (by omega)
/-- by program, from the bytecode of RobotWorld$Robot.sleepOn -/
def f_X2_sleepOn (k : CK) (M : Mem) (i : Nat) : Mem :=
  if (M (i + 1) 0 4) = 3 then
    if (M (i + 1) 0 11) ≤ 0 then
      (mu M (i + 1) 0 4 2)
    else
      (mu M (i + 1) 0 11 ((M (i + 1) 0 11) - 1))
  else
    M
set_option maxHeartbeats 4000000 in
set_option maxRecDepth 100000 in
theorem c_X2_sleepOn (l : Launch) (k : CK) (M : Mem) (i : Nat) (hi : i < k.2.1 0)  : Met l yX2_sleepOn wsX2_sleepOn (rmK 0 0) (wPc (cw k) M [.ref (k.1 (i + 1) 0)]) (wQv (cw k) (fun u => u = f_X2_sleepOn k M i)) 0 0 (wA (cw k)) := by
  refine wx_met (cc := cX2_sleepOn) (maxL := 1) (ret := none) (by decide) rfl (Nat.le_of_ble_eq_true rfl) ?_
  intro p e s m below meth c ls hx hb hr hml hts hown hlocks hP hK hD hZ hS hl
  have hown : s.vm.findClass RX2 = some m.cls := hown
  have hl : lv_has ls 1 [(0, .ref (k.1 (i + 1) 0))] := hl
  have hiX2 : ∀ x ∈ u_ws RX2 TX2 12, x ∈ wsX2_sleepOn := by decide +kernel
  have hf37 := hts (.fieldLink RX2 37 "RobotWorld$Robot" "state" "I") (by decide +kernel)
  have hf52 := hts (.fieldLink RX2 52 "RobotWorld$Robot" "sleepLeft" "I") (by decide +kernel)
  refine lv_aload_n hx hb dX2_sleepOn_0 rfl (lv_at hl 0 rfl) ?_
  refine wx_get (w := (cw k)) (g := (i + 1)) (j := 0) hx hb hts hiX2 hown hK hP (cIx_r hi (by decide)) rfl rfl 4 (by decide) hf37 rfl dX2_sleepOn_1 ?_
  refine lv_iconst (v := 3) hx hb dX2_sleepOn_4 (by decide) ?_
  refine lv_icmp_eq (tgt := 9) hx hb dX2_sleepOn_5 (by decide) (fun c_5 => ?_) (fun c_5 => ?_)
  · refine lv_aload_n hx hb dX2_sleepOn_9 rfl (lv_at hl 0 rfl) ?_
    refine wx_get (w := (cw k)) (g := (i + 1)) (j := 0) hx hb hts hiX2 hown hK hP (cIx_r hi (by decide)) rfl rfl 11 (by decide) hf52 rfl dX2_sleepOn_10 ?_
    refine lv_if_le (tgt := 29) hx hb dX2_sleepOn_13 (by decide) (fun c_13 => ?_) (fun c_13 => ?_)
    · refine lv_aload_n hx hb dX2_sleepOn_29 rfl (lv_at hl 0 rfl) ?_
      refine lv_iconst (v := 2) hx hb dX2_sleepOn_30 (by decide) ?_
      refine wx_put (w := (cw k)) (g := (i + 1)) (j := 0) hx hb hts hiX2 tyX2 tyX2_ok nmX2 hown hK hP hD hS (cIx_r hi (by decide)) rfl rfl 4 (by decide) hf37 rfl (by decide +kernel) rfl (Nat.le_of_ble_eq_true rfl) dX2_sleepOn_31 (fun H locs hP hS => ?_)
      have e9 : f_X2_sleepOn k M i = (mu M (i + 1) 0 4 2) := (by unfold f_X2_sleepOn; rw [if_pos c_5, if_pos c_13])
      exact wx_vret hx hb hr hlocks hP hS e9.symm dX2_sleepOn_34
    · refine lv_aload_n hx hb dX2_sleepOn_16 rfl (lv_at hl 0 rfl) ?_
      refine lv_dup hx hb dX2_sleepOn_17 rfl ?_
      refine wx_get (w := (cw k)) (g := (i + 1)) (j := 0) hx hb hts hiX2 hown hK hP (cIx_r hi (by decide)) rfl rfl 11 (by decide) hf52 rfl dX2_sleepOn_18 ?_
      refine lv_iconst (v := 1) hx hb dX2_sleepOn_21 (by decide) ?_
      refine lv_isub hx hb dX2_sleepOn_22 ?_
      refine wx_put (w := (cw k)) (g := (i + 1)) (j := 0) hx hb hts hiX2 tyX2 tyX2_ok nmX2 hown hK hP hD hS (cIx_r hi (by decide)) rfl rfl 11 (by decide) hf52 rfl (by decide +kernel) rfl (Nat.le_of_ble_eq_true rfl) dX2_sleepOn_23 (fun H locs hP hS => ?_)
      refine lv_goto (tgt := 34) hx hb dX2_sleepOn_26 (by decide) ?_
      have e9 : f_X2_sleepOn k M i = (mu M (i + 1) 0 11 ((M (i + 1) 0 11) - 1)) := (by unfold f_X2_sleepOn; rw [if_pos c_5, if_neg c_13])
      exact wx_vret hx hb hr hlocks hP hS e9.symm dX2_sleepOn_34
  · have e9 : f_X2_sleepOn k M i = M := (by unfold f_X2_sleepOn; rw [if_neg c_5])
    exact wx_vret hx hb hr hlocks hP hS e9.symm dX2_sleepOn_8
theorem cI_sleepOn {k : CK} {M : Mem} {i : Nat} (hI : cI k M) : cI k (f_X2_sleepOn k M i) := by
  unfold f_X2_sleepOn
  repeat' split
  all_goals first | exact hI | exact cI_mu hI (by omega) (by omega) (by omega)
/-- by program, from the bytecode of RobotWorld$Robot.show -/
def f_X2_show (k : CK) (M : Mem) (i : Nat) (p1 : Int32) : Int32 :=
  if p1 < 0 then
    if p1 = 8 then
      (M (i + 1) 0 7)
    else
      if p1 = 9 then
        (M (i + 1) 0 10)
      else
        if p1 = 10 then
          (M (i + 1) 3 1)
        else
          if p1 = 11 then
            (M (i + 1) 0 8)
          else
            if p1 = 12 then
              (M (i + 1) 0 9)
            else
              if p1 = 13 then
                (M (i + 1) 0 11)
              else
                0
  else
    if (nI 8) ≤ p1 then
      if p1 = 8 then
        (M (i + 1) 0 7)
      else
        if p1 = 9 then
          (M (i + 1) 0 10)
        else
          if p1 = 10 then
            (M (i + 1) 3 1)
          else
            if p1 = 11 then
              (M (i + 1) 0 8)
            else
              if p1 = 12 then
                (M (i + 1) 0 9)
              else
                if p1 = 13 then
                  (M (i + 1) 0 11)
                else
                  0
    else
      (M (i + 1) 2 p1.toNatClampNeg)
set_option maxHeartbeats 4000000 in
set_option maxRecDepth 100000 in
theorem c_X2_show (l : Launch) (k : CK) (M : Mem) (i : Nat) (p1 : Int32) (hi : i < k.2.1 0)  : Met l yX2_show wsX2_show (rmK 0 0) (wPc (cw k) M [.ref (k.1 (i + 1) 0), .int p1]) (wQi (cw k) (fun r u => r = (f_X2_show k M i p1) ∧ u = M)) 0 0 (wA (cw k)) := by
  refine wx_met (cc := cX2_show) (maxL := 2) (ret := (some .int)) (by decide) rfl (Nat.le_of_ble_eq_true rfl) ?_
  intro p e s m below meth c ls hx hb hr hml hts hown hlocks hP hK hD hZ hS hl
  have hown : s.vm.findClass RX2 = some m.cls := hown
  have hl : lv_has ls 2 [(0, .ref (k.1 (i + 1) 0)), (1, .int p1)] := hl
  have hiX0 : ∀ x ∈ u_ws RX0 TX0 2, x ∈ wsX2_show := by decide +kernel
  have hiX2 : ∀ x ∈ u_ws RX2 TX2 12, x ∈ wsX2_show := by decide +kernel
  have hf19 := hts (.fieldLink RX2 19 "RobotWorld$Robot" "registers" "[I") (by decide +kernel)
  have hf27 := hts (.fieldLink RX2 27 "RobotWorld$Robot" "box" "LRobotWorld$Box;") (by decide +kernel)
  have hf40 := hts (.fieldLink RX2 40 "RobotWorld$Robot" "place" "I") (by decide +kernel)
  have hf43 := hts (.fieldLink RX2 43 "RobotWorld$Robot" "words" "I") (by decide +kernel)
  have hf46 := hts (.fieldLink RX2 46 "RobotWorld$Robot" "wordsDone" "I") (by decide +kernel)
  have hf49 := hts (.fieldLink RX2 49 "RobotWorld$Robot" "carried" "I") (by decide +kernel)
  have hf52 := hts (.fieldLink RX2 52 "RobotWorld$Robot" "sleepLeft" "I") (by decide +kernel)
  have hf61 := hts (.fieldLink RX2 61 "RobotWorld$Box" "count" "I") (by decide +kernel)
  refine lv_iload_n hx hb dX2_show_0 rfl (lv_at hl 1 rfl) ?_
  refine lv_if_lt (tgt := 20) hx hb dX2_show_1 (by decide) (fun c_1 => ?_) (fun c_1 => ?_)
  · refine lv_iload_n hx hb dX2_show_20 rfl (lv_at hl 1 rfl) ?_
    by_cases e_21_8 : p1 = 8
    · refine lv_tableIn (tgt := 60) hx hb dX2_show_21 (by rw [e_21_8]; decide) (by rw [e_21_8]; decide) (by rw [e_21_8]; rfl) (by decide) ?_
      refine lv_aload_n hx hb dX2_show_60 rfl (lv_at hl 0 rfl) ?_
      refine wx_get (w := (cw k)) (g := (i + 1)) (j := 0) hx hb hts hiX2 hown hK hP (cIx_r hi (by decide)) rfl rfl 7 (by decide) hf40 rfl dX2_show_61 ?_
      refine lv_goto (tgt := 106) hx hb dX2_show_64 (by decide) ?_
      have e9 : f_X2_show k M i p1 = (M (i + 1) 0 7) := (by unfold f_X2_show; rw [if_pos c_1, if_pos e_21_8])
      exact wx_iret hx hb hr hlocks hP hS rfl ⟨e9.symm, rfl⟩ dX2_show_106
    by_cases e_21_9 : p1 = 9
    · refine lv_tableIn (tgt := 67) hx hb dX2_show_21 (by rw [e_21_9]; decide) (by rw [e_21_9]; decide) (by rw [e_21_9]; rfl) (by decide) ?_
      refine lv_aload_n hx hb dX2_show_67 rfl (lv_at hl 0 rfl) ?_
      refine wx_get (w := (cw k)) (g := (i + 1)) (j := 0) hx hb hts hiX2 hown hK hP (cIx_r hi (by decide)) rfl rfl 10 (by decide) hf49 rfl dX2_show_68 ?_
      refine lv_goto (tgt := 106) hx hb dX2_show_71 (by decide) ?_
      have e9 : f_X2_show k M i p1 = (M (i + 1) 0 10) := (by unfold f_X2_show; rw [if_pos c_1, if_neg e_21_8, if_pos e_21_9])
      exact wx_iret hx hb hr hlocks hP hS rfl ⟨e9.symm, rfl⟩ dX2_show_106
    by_cases e_21_10 : p1 = 10
    · refine lv_tableIn (tgt := 74) hx hb dX2_show_21 (by rw [e_21_10]; decide) (by rw [e_21_10]; decide) (by rw [e_21_10]; rfl) (by decide) ?_
      refine lv_aload_n hx hb dX2_show_74 rfl (lv_at hl 0 rfl) ?_
      refine wx_get (w := (cw k)) (g := (i + 1)) (j := 0) hx hb hts hiX2 hown hK hP (cIx_r hi (by decide)) rfl rfl 3 (by decide) hf27 rfl dX2_show_75 ?_
      refine wx_get (w := (cw k)) (g := (i + 1)) (j := 3) hx hb hts hiX0 hown hK hP (cIx_r hi (by decide)) rfl rfl 1 (by decide) hf61 rfl dX2_show_78 ?_
      refine lv_goto (tgt := 106) hx hb dX2_show_81 (by decide) ?_
      have e9 : f_X2_show k M i p1 = (M (i + 1) 3 1) := (by unfold f_X2_show; rw [if_pos c_1, if_neg e_21_8, if_neg e_21_9, if_pos e_21_10])
      exact wx_iret hx hb hr hlocks hP hS rfl ⟨e9.symm, rfl⟩ dX2_show_106
    by_cases e_21_11 : p1 = 11
    · refine lv_tableIn (tgt := 84) hx hb dX2_show_21 (by rw [e_21_11]; decide) (by rw [e_21_11]; decide) (by rw [e_21_11]; rfl) (by decide) ?_
      refine lv_aload_n hx hb dX2_show_84 rfl (lv_at hl 0 rfl) ?_
      refine wx_get (w := (cw k)) (g := (i + 1)) (j := 0) hx hb hts hiX2 hown hK hP (cIx_r hi (by decide)) rfl rfl 8 (by decide) hf43 rfl dX2_show_85 ?_
      refine lv_goto (tgt := 106) hx hb dX2_show_88 (by decide) ?_
      have e9 : f_X2_show k M i p1 = (M (i + 1) 0 8) := (by unfold f_X2_show; rw [if_pos c_1, if_neg e_21_8, if_neg e_21_9, if_neg e_21_10, if_pos e_21_11])
      exact wx_iret hx hb hr hlocks hP hS rfl ⟨e9.symm, rfl⟩ dX2_show_106
    by_cases e_21_12 : p1 = 12
    · refine lv_tableIn (tgt := 91) hx hb dX2_show_21 (by rw [e_21_12]; decide) (by rw [e_21_12]; decide) (by rw [e_21_12]; rfl) (by decide) ?_
      refine lv_aload_n hx hb dX2_show_91 rfl (lv_at hl 0 rfl) ?_
      refine wx_get (w := (cw k)) (g := (i + 1)) (j := 0) hx hb hts hiX2 hown hK hP (cIx_r hi (by decide)) rfl rfl 9 (by decide) hf46 rfl dX2_show_92 ?_
      refine lv_goto (tgt := 106) hx hb dX2_show_95 (by decide) ?_
      have e9 : f_X2_show k M i p1 = (M (i + 1) 0 9) := (by unfold f_X2_show; rw [if_pos c_1, if_neg e_21_8, if_neg e_21_9, if_neg e_21_10, if_neg e_21_11, if_pos e_21_12])
      exact wx_iret hx hb hr hlocks hP hS rfl ⟨e9.symm, rfl⟩ dX2_show_106
    by_cases e_21_13 : p1 = 13
    · refine lv_tableIn (tgt := 98) hx hb dX2_show_21 (by rw [e_21_13]; decide) (by rw [e_21_13]; decide) (by rw [e_21_13]; rfl) (by decide) ?_
      refine lv_aload_n hx hb dX2_show_98 rfl (lv_at hl 0 rfl) ?_
      refine wx_get (w := (cw k)) (g := (i + 1)) (j := 0) hx hb hts hiX2 hown hK hP (cIx_r hi (by decide)) rfl rfl 11 (by decide) hf52 rfl dX2_show_99 ?_
      refine lv_goto (tgt := 106) hx hb dX2_show_102 (by decide) ?_
      have e9 : f_X2_show k M i p1 = (M (i + 1) 0 11) := (by unfold f_X2_show; rw [if_pos c_1, if_neg e_21_8, if_neg e_21_9, if_neg e_21_10, if_neg e_21_11, if_neg e_21_12, if_pos e_21_13])
      exact wx_iret hx hb hr hlocks hP hS rfl ⟨e9.symm, rfl⟩ dX2_show_106
    have hdf : p1.toInt < 8 ∨ 13 < p1.toInt := by have n0 := lv_neT e_21_8 (a := 8) (by decide); have n1 := lv_neT e_21_9 (a := 9) (by decide); have n2 := lv_neT e_21_10 (a := 10) (by decide); have n3 := lv_neT e_21_11 (a := 11) (by decide); have n4 := lv_neT e_21_12 (a := 12) (by decide); have n5 := lv_neT e_21_13 (a := 13) (by decide);  omega
    refine lv_tableOut (tgt := 105) hx hb dX2_show_21 hdf (by decide) ?_
    refine lv_iconst (v := 0) hx hb dX2_show_105 (by decide) ?_
    have e9 : f_X2_show k M i p1 = 0 := (by unfold f_X2_show; rw [if_pos c_1, if_neg e_21_8, if_neg e_21_9, if_neg e_21_10, if_neg e_21_11, if_neg e_21_12, if_neg e_21_13])
    exact wx_iret hx hb hr hlocks hP hS rfl ⟨e9.symm, rfl⟩ dX2_show_106
  · refine lv_iload_n hx hb dX2_show_4 rfl (lv_at hl 1 rfl) ?_
    refine lv_aload_n hx hb dX2_show_5 rfl (lv_at hl 0 rfl) ?_
    refine wx_get (w := (cw k)) (g := (i + 1)) (j := 0) hx hb hts hiX2 hown hK hP (cIx_r hi (by decide)) rfl rfl 2 (by decide) hf19 rfl dX2_show_6 ?_
    refine wx_alen (w := (cw k)) (g := (i + 1)) (j := 2) hx hb hK hP (cIx_r hi (by decide)) 0 rfl rfl dX2_show_9 ?_
    refine lv_icmp_ge (tgt := 20) hx hb dX2_show_10 (by decide) (fun c_10 => ?_) (fun c_10 => ?_)
    · refine lv_iload_n hx hb dX2_show_20 rfl (lv_at hl 1 rfl) ?_
      by_cases e_21_8 : p1 = 8
      · refine lv_tableIn (tgt := 60) hx hb dX2_show_21 (by rw [e_21_8]; decide) (by rw [e_21_8]; decide) (by rw [e_21_8]; rfl) (by decide) ?_
        refine lv_aload_n hx hb dX2_show_60 rfl (lv_at hl 0 rfl) ?_
        refine wx_get (w := (cw k)) (g := (i + 1)) (j := 0) hx hb hts hiX2 hown hK hP (cIx_r hi (by decide)) rfl rfl 7 (by decide) hf40 rfl dX2_show_61 ?_
        refine lv_goto (tgt := 106) hx hb dX2_show_64 (by decide) ?_
        have e9 : f_X2_show k M i p1 = (M (i + 1) 0 7) := (by unfold f_X2_show; rw [if_neg c_1, if_pos c_10, if_pos e_21_8])
        exact wx_iret hx hb hr hlocks hP hS rfl ⟨e9.symm, rfl⟩ dX2_show_106
      by_cases e_21_9 : p1 = 9
      · refine lv_tableIn (tgt := 67) hx hb dX2_show_21 (by rw [e_21_9]; decide) (by rw [e_21_9]; decide) (by rw [e_21_9]; rfl) (by decide) ?_
        refine lv_aload_n hx hb dX2_show_67 rfl (lv_at hl 0 rfl) ?_
        refine wx_get (w := (cw k)) (g := (i + 1)) (j := 0) hx hb hts hiX2 hown hK hP (cIx_r hi (by decide)) rfl rfl 10 (by decide) hf49 rfl dX2_show_68 ?_
        refine lv_goto (tgt := 106) hx hb dX2_show_71 (by decide) ?_
        have e9 : f_X2_show k M i p1 = (M (i + 1) 0 10) := (by unfold f_X2_show; rw [if_neg c_1, if_pos c_10, if_neg e_21_8, if_pos e_21_9])
        exact wx_iret hx hb hr hlocks hP hS rfl ⟨e9.symm, rfl⟩ dX2_show_106
      by_cases e_21_10 : p1 = 10
      · refine lv_tableIn (tgt := 74) hx hb dX2_show_21 (by rw [e_21_10]; decide) (by rw [e_21_10]; decide) (by rw [e_21_10]; rfl) (by decide) ?_
        refine lv_aload_n hx hb dX2_show_74 rfl (lv_at hl 0 rfl) ?_
        refine wx_get (w := (cw k)) (g := (i + 1)) (j := 0) hx hb hts hiX2 hown hK hP (cIx_r hi (by decide)) rfl rfl 3 (by decide) hf27 rfl dX2_show_75 ?_
        refine wx_get (w := (cw k)) (g := (i + 1)) (j := 3) hx hb hts hiX0 hown hK hP (cIx_r hi (by decide)) rfl rfl 1 (by decide) hf61 rfl dX2_show_78 ?_
        refine lv_goto (tgt := 106) hx hb dX2_show_81 (by decide) ?_
        have e9 : f_X2_show k M i p1 = (M (i + 1) 3 1) := (by unfold f_X2_show; rw [if_neg c_1, if_pos c_10, if_neg e_21_8, if_neg e_21_9, if_pos e_21_10])
        exact wx_iret hx hb hr hlocks hP hS rfl ⟨e9.symm, rfl⟩ dX2_show_106
      by_cases e_21_11 : p1 = 11
      · refine lv_tableIn (tgt := 84) hx hb dX2_show_21 (by rw [e_21_11]; decide) (by rw [e_21_11]; decide) (by rw [e_21_11]; rfl) (by decide) ?_
        refine lv_aload_n hx hb dX2_show_84 rfl (lv_at hl 0 rfl) ?_
        refine wx_get (w := (cw k)) (g := (i + 1)) (j := 0) hx hb hts hiX2 hown hK hP (cIx_r hi (by decide)) rfl rfl 8 (by decide) hf43 rfl dX2_show_85 ?_
        refine lv_goto (tgt := 106) hx hb dX2_show_88 (by decide) ?_
        have e9 : f_X2_show k M i p1 = (M (i + 1) 0 8) := (by unfold f_X2_show; rw [if_neg c_1, if_pos c_10, if_neg e_21_8, if_neg e_21_9, if_neg e_21_10, if_pos e_21_11])
        exact wx_iret hx hb hr hlocks hP hS rfl ⟨e9.symm, rfl⟩ dX2_show_106
      by_cases e_21_12 : p1 = 12
      · refine lv_tableIn (tgt := 91) hx hb dX2_show_21 (by rw [e_21_12]; decide) (by rw [e_21_12]; decide) (by rw [e_21_12]; rfl) (by decide) ?_
        refine lv_aload_n hx hb dX2_show_91 rfl (lv_at hl 0 rfl) ?_
        refine wx_get (w := (cw k)) (g := (i + 1)) (j := 0) hx hb hts hiX2 hown hK hP (cIx_r hi (by decide)) rfl rfl 9 (by decide) hf46 rfl dX2_show_92 ?_
        refine lv_goto (tgt := 106) hx hb dX2_show_95 (by decide) ?_
        have e9 : f_X2_show k M i p1 = (M (i + 1) 0 9) := (by unfold f_X2_show; rw [if_neg c_1, if_pos c_10, if_neg e_21_8, if_neg e_21_9, if_neg e_21_10, if_neg e_21_11, if_pos e_21_12])
        exact wx_iret hx hb hr hlocks hP hS rfl ⟨e9.symm, rfl⟩ dX2_show_106
      by_cases e_21_13 : p1 = 13
      · refine lv_tableIn (tgt := 98) hx hb dX2_show_21 (by rw [e_21_13]; decide) (by rw [e_21_13]; decide) (by rw [e_21_13]; rfl) (by decide) ?_
        refine lv_aload_n hx hb dX2_show_98 rfl (lv_at hl 0 rfl) ?_
        refine wx_get (w := (cw k)) (g := (i + 1)) (j := 0) hx hb hts hiX2 hown hK hP (cIx_r hi (by decide)) rfl rfl 11 (by decide) hf52 rfl dX2_show_99 ?_
        refine lv_goto (tgt := 106) hx hb dX2_show_102 (by decide) ?_
        have e9 : f_X2_show k M i p1 = (M (i + 1) 0 11) := (by unfold f_X2_show; rw [if_neg c_1, if_pos c_10, if_neg e_21_8, if_neg e_21_9, if_neg e_21_10, if_neg e_21_11, if_neg e_21_12, if_pos e_21_13])
        exact wx_iret hx hb hr hlocks hP hS rfl ⟨e9.symm, rfl⟩ dX2_show_106
      have hdf : p1.toInt < 8 ∨ 13 < p1.toInt := by have n0 := lv_neT e_21_8 (a := 8) (by decide); have n1 := lv_neT e_21_9 (a := 9) (by decide); have n2 := lv_neT e_21_10 (a := 10) (by decide); have n3 := lv_neT e_21_11 (a := 11) (by decide); have n4 := lv_neT e_21_12 (a := 12) (by decide); have n5 := lv_neT e_21_13 (a := 13) (by decide);  omega
      refine lv_tableOut (tgt := 105) hx hb dX2_show_21 hdf (by decide) ?_
      refine lv_iconst (v := 0) hx hb dX2_show_105 (by decide) ?_
      have e9 : f_X2_show k M i p1 = 0 := (by unfold f_X2_show; rw [if_neg c_1, if_pos c_10, if_neg e_21_8, if_neg e_21_9, if_neg e_21_10, if_neg e_21_11, if_neg e_21_12, if_neg e_21_13])
      exact wx_iret hx hb hr hlocks hP hS rfl ⟨e9.symm, rfl⟩ dX2_show_106
    · refine lv_aload_n hx hb dX2_show_13 rfl (lv_at hl 0 rfl) ?_
      refine wx_get (w := (cw k)) (g := (i + 1)) (j := 0) hx hb hts hiX2 hown hK hP (cIx_r hi (by decide)) rfl rfl 2 (by decide) hf19 rfl dX2_show_14 ?_
      refine lv_iload_n hx hb dX2_show_17 rfl (lv_at hl 1 rfl) ?_
      refine wx_iald (w := (cw k)) (g := (i + 1)) (j := 2) hx hb hK hP (cIx_r hi (by decide)) 0 rfl rfl (vin c_1 c_10 (by decide)) dX2_show_18 ?_
      have e9 : f_X2_show k M i p1 = (M (i + 1) 2 p1.toNatClampNeg) := (by unfold f_X2_show; rw [if_neg c_1, if_neg c_10])
      exact wx_iret hx hb hr hlocks hP hS rfl ⟨e9.symm, rfl⟩ dX2_show_19
/-- by program, from the bytecode of RobotWorld$Robot.appear -/
def f_X2_appear (k : CK) (M : Mem) (i : Nat) (p1 : Int32) (p2 : Int32) : Mem :=
  (mu (mr (mu (mu (mu (mu (mu (mu (mu (mu M (i + 1) 0 5 p1) (i + 1) 0 6 p2) (i + 1) 0 4 1) (i + 1) 0 7 0) (i + 1) 0 8 0) (i + 1) 0 9 0) (i + 1) 0 10 0) (i + 1) 0 11 0) (i + 1) 2 (fillF ((mu (mu (mu (mu (mu (mu (mu (mu M (i + 1) 0 5 p1) (i + 1) 0 6 p2) (i + 1) 0 4 1) (i + 1) 0 7 0) (i + 1) 0 8 0) (i + 1) 0 9 0) (i + 1) 0 10 0) (i + 1) 0 11 0) (i + 1) 2) 8 0)) (i + 1) 3 1 0)
set_option maxHeartbeats 4000000 in
set_option maxRecDepth 100000 in
theorem c_X2_appear (l : Launch) (k : CK) (M : Mem) (i : Nat) (p1 : Int32) (p2 : Int32) (hi : i < k.2.1 0)  : Met l yX2_appear wsX2_appear (rmK 1 23) (wPc (cw k) M [.ref (k.1 (i + 1) 0), .int p1, .int p2]) (wQv (cw k) (fun u => u = f_X2_appear k M i p1 p2)) 0 0 (wA (cw k)) := by
  refine wx_met (cc := cX2_appear) (maxL := 3) (ret := none) (by decide) rfl (Nat.le_of_ble_eq_true rfl) ?_
  intro p e s m below meth c ls hx hb hr hml hts hown hlocks hP hK hD hZ hS hl
  have hown : s.vm.findClass RX2 = some m.cls := hown
  have hl : lv_has ls 3 [(0, .ref (k.1 (i + 1) 0)), (1, .int p1), (2, .int p2)] := hl
  have hiX0 : ∀ x ∈ u_ws RX0 TX0 2, x ∈ wsX2_appear := by decide +kernel
  have hiX2 : ∀ x ∈ u_ws RX2 TX2 12, x ∈ wsX2_appear := by decide +kernel
  have hf19 := hts (.fieldLink RX2 19 "RobotWorld$Robot" "registers" "[I") (by decide +kernel)
  have hf27 := hts (.fieldLink RX2 27 "RobotWorld$Robot" "box" "LRobotWorld$Box;") (by decide +kernel)
  have hf31 := hts (.fieldLink RX2 31 "RobotWorld$Robot" "x" "I") (by decide +kernel)
  have hf34 := hts (.fieldLink RX2 34 "RobotWorld$Robot" "y" "I") (by decide +kernel)
  have hf37 := hts (.fieldLink RX2 37 "RobotWorld$Robot" "state" "I") (by decide +kernel)
  have hf40 := hts (.fieldLink RX2 40 "RobotWorld$Robot" "place" "I") (by decide +kernel)
  have hf43 := hts (.fieldLink RX2 43 "RobotWorld$Robot" "words" "I") (by decide +kernel)
  have hf46 := hts (.fieldLink RX2 46 "RobotWorld$Robot" "wordsDone" "I") (by decide +kernel)
  have hf49 := hts (.fieldLink RX2 49 "RobotWorld$Robot" "carried" "I") (by decide +kernel)
  have hf52 := hts (.fieldLink RX2 52 "RobotWorld$Robot" "sleepLeft" "I") (by decide +kernel)
  have hf61 := hts (.fieldLink RX2 61 "RobotWorld$Box" "count" "I") (by decide +kernel)
  refine lv_aload_n hx hb dX2_appear_0 rfl (lv_at hl 0 rfl) ?_
  refine lv_iload_n hx hb dX2_appear_1 rfl (lv_at hl 1 rfl) ?_
  refine wx_put (w := (cw k)) (g := (i + 1)) (j := 0) hx hb hts hiX2 tyX2 tyX2_ok nmX2 hown hK hP hD hS (cIx_r hi (by decide)) rfl rfl 5 (by decide) hf31 rfl (by decide +kernel) rfl (Nat.le_of_ble_eq_true rfl) dX2_appear_2 (fun H locs hP hS => ?_)
  refine lv_aload_n hx hb dX2_appear_5 rfl (lv_at hl 0 rfl) ?_
  refine lv_iload_n hx hb dX2_appear_6 rfl (lv_at hl 2 rfl) ?_
  refine wx_put (w := (cw k)) (g := (i + 1)) (j := 0) hx hb hts hiX2 tyX2 tyX2_ok nmX2 hown hK hP hD hS (cIx_r hi (by decide)) rfl rfl 6 (by decide) hf34 rfl (by decide +kernel) rfl (Nat.le_of_ble_eq_true rfl) dX2_appear_7 (fun H locs hP hS => ?_)
  refine lv_aload_n hx hb dX2_appear_10 rfl (lv_at hl 0 rfl) ?_
  refine lv_iconst (v := 1) hx hb dX2_appear_11 (by decide) ?_
  refine wx_put (w := (cw k)) (g := (i + 1)) (j := 0) hx hb hts hiX2 tyX2 tyX2_ok nmX2 hown hK hP hD hS (cIx_r hi (by decide)) rfl rfl 4 (by decide) hf37 rfl (by decide +kernel) rfl (Nat.le_of_ble_eq_true rfl) dX2_appear_12 (fun H locs hP hS => ?_)
  refine lv_aload_n hx hb dX2_appear_15 rfl (lv_at hl 0 rfl) ?_
  refine lv_iconst (v := 0) hx hb dX2_appear_16 (by decide) ?_
  refine wx_put (w := (cw k)) (g := (i + 1)) (j := 0) hx hb hts hiX2 tyX2 tyX2_ok nmX2 hown hK hP hD hS (cIx_r hi (by decide)) rfl rfl 7 (by decide) hf40 rfl (by decide +kernel) rfl (Nat.le_of_ble_eq_true rfl) dX2_appear_17 (fun H locs hP hS => ?_)
  refine lv_aload_n hx hb dX2_appear_20 rfl (lv_at hl 0 rfl) ?_
  refine lv_iconst (v := 0) hx hb dX2_appear_21 (by decide) ?_
  refine wx_put (w := (cw k)) (g := (i + 1)) (j := 0) hx hb hts hiX2 tyX2 tyX2_ok nmX2 hown hK hP hD hS (cIx_r hi (by decide)) rfl rfl 8 (by decide) hf43 rfl (by decide +kernel) rfl (Nat.le_of_ble_eq_true rfl) dX2_appear_22 (fun H locs hP hS => ?_)
  refine lv_aload_n hx hb dX2_appear_25 rfl (lv_at hl 0 rfl) ?_
  refine lv_iconst (v := 0) hx hb dX2_appear_26 (by decide) ?_
  refine wx_put (w := (cw k)) (g := (i + 1)) (j := 0) hx hb hts hiX2 tyX2 tyX2_ok nmX2 hown hK hP hD hS (cIx_r hi (by decide)) rfl rfl 9 (by decide) hf46 rfl (by decide +kernel) rfl (Nat.le_of_ble_eq_true rfl) dX2_appear_27 (fun H locs hP hS => ?_)
  refine lv_aload_n hx hb dX2_appear_30 rfl (lv_at hl 0 rfl) ?_
  refine lv_iconst (v := 0) hx hb dX2_appear_31 (by decide) ?_
  refine wx_put (w := (cw k)) (g := (i + 1)) (j := 0) hx hb hts hiX2 tyX2 tyX2_ok nmX2 hown hK hP hD hS (cIx_r hi (by decide)) rfl rfl 10 (by decide) hf49 rfl (by decide +kernel) rfl (Nat.le_of_ble_eq_true rfl) dX2_appear_32 (fun H locs hP hS => ?_)
  refine lv_aload_n hx hb dX2_appear_35 rfl (lv_at hl 0 rfl) ?_
  refine lv_iconst (v := 0) hx hb dX2_appear_36 (by decide) ?_
  refine wx_put (w := (cw k)) (g := (i + 1)) (j := 0) hx hb hts hiX2 tyX2 tyX2_ok nmX2 hown hK hP hD hS (cIx_r hi (by decide)) rfl rfl 11 (by decide) hf52 rfl (by decide +kernel) rfl (Nat.le_of_ble_eq_true rfl) dX2_appear_37 (fun H locs hP hS => ?_)
  refine lv_aload_n hx hb dX2_appear_40 rfl (lv_at hl 0 rfl) ?_
  refine wx_get (w := (cw k)) (g := (i + 1)) (j := 0) hx hb hts hiX2 hown hK hP (cIx_r hi (by decide)) rfl rfl 2 (by decide) hf19 rfl dX2_appear_41 ?_
  refine lv_iconst (v := 0) hx hb dX2_appear_44 (by decide) ?_
  refine wx_Sv (w := (cw k)) (mr (mu (mu (mu (mu (mu (mu (mu (mu M (i + 1) 0 5 p1) (i + 1) 0 6 p2) (i + 1) 0 4 1) (i + 1) 0 7 0) (i + 1) 0 8 0) (i + 1) 0 9 0) (i + 1) 0 10 0) (i + 1) 0 11 0) (i + 1) 2 (fillF ((mu (mu (mu (mu (mu (mu (mu (mu M (i + 1) 0 5 p1) (i + 1) 0 6 p2) (i + 1) 0 4 1) (i + 1) 0 7 0) (i + 1) 0 8 0) (i + 1) 0 9 0) (i + 1) 0 10 0) (i + 1) 0 11 0) (i + 1) 2) 8 0)) [.ref (k.1 (i + 1) 2), .int 0] [] (cZok k) ⟨hx, hb, hml, hown, hts⟩ (c_J7_fill l k (mu (mu (mu (mu (mu (mu (mu (mu M (i + 1) 0 5 p1) (i + 1) 0 6 p2) (i + 1) 0 4 1) (i + 1) 0 7 0) (i + 1) 0 8 0) (i + 1) 0 9 0) (i + 1) 0 10 0) (i + 1) 0 11 0) (i + 1) 2 8 0 (cIx_r hi (by decide)) (fun _ => rfl) (by decide)) (va_cwS 2 hts gX2_appear_J7_fill_53178 rfl rfl rfl (by decide +kernel) ⟨by decide, by decide⟩) hP hK hD hZ hS rfl hl.1 rfl (Nat.le_of_ble_eq_true rfl) dX2_appear_45 ⟨by decide, by decide⟩ (fun H locs hP hS => ?_)
  refine lv_aload_n hx hb dX2_appear_48 rfl (lv_at hl 0 rfl) ?_
  refine wx_get (w := (cw k)) (g := (i + 1)) (j := 0) hx hb hts hiX2 hown hK hP (cIx_r hi (by decide)) rfl rfl 3 (by decide) hf27 rfl dX2_appear_49 ?_
  refine lv_iconst (v := 0) hx hb dX2_appear_52 (by decide) ?_
  refine wx_put (w := (cw k)) (g := (i + 1)) (j := 3) hx hb hts hiX0 tyX0 tyX0_ok nmX0 hown hK hP hD hS (cIx_r hi (by decide)) rfl rfl 1 (by decide) hf61 rfl (by decide +kernel) rfl (Nat.le_of_ble_eq_true rfl) dX2_appear_53 (fun H locs hP hS => ?_)
  have e9 : f_X2_appear k M i p1 p2 = (mu (mr (mu (mu (mu (mu (mu (mu (mu (mu M (i + 1) 0 5 p1) (i + 1) 0 6 p2) (i + 1) 0 4 1) (i + 1) 0 7 0) (i + 1) 0 8 0) (i + 1) 0 9 0) (i + 1) 0 10 0) (i + 1) 0 11 0) (i + 1) 2 (fillF ((mu (mu (mu (mu (mu (mu (mu (mu M (i + 1) 0 5 p1) (i + 1) 0 6 p2) (i + 1) 0 4 1) (i + 1) 0 7 0) (i + 1) 0 8 0) (i + 1) 0 9 0) (i + 1) 0 10 0) (i + 1) 0 11 0) (i + 1) 2) 8 0)) (i + 1) 3 1 0) := rfl
  exact wx_vret hx hb hr hlocks hP hS e9.symm dX2_appear_56
theorem rOf_e (k : CK) (M : Mem) (x : Int32) : ∃ j : Nat, j < 16 ∧ f_X3_rOf k M x = nI j := pk_andE _ 4 (by decide)
theorem sOf_e (k : CK) (M : Mem) (x : Int32) : ∃ j : Nat, j < 16 ∧ f_X3_sOf k M x = nI j := pk_andE _ 4 (by decide)
theorem opOf_e (k : CK) (M : Mem) (x : Int32) : ∃ j : Nat, j < 256 ∧ f_X3_opOf k M x = nI j := pk_andE _ 8 (by decide)
theorem in8 {y : Int32} (h : ∃ j : Nat, j < 16 ∧ y = nI j) (c : y < 8) : vp_in y 8 := by
  obtain ⟨j, h1, rfl⟩ := h
  refine vp_in_nI ?_ (by decide)
  exact (nI_ltI (a := j) (b := 8) (by omega) (by decide)).mp c
/-- by program, from the bytecode of RobotWorld$Robot.mustFail -/
def f_X2_mustFail (k : CK) (M : Mem) (i : Nat) : Int32 :=
  if (M (i + 1) 0 7) < 0 then
    1
  else
    if (M (i + 1) 0 8) ≤ (M (i + 1) 0 7) then
      1
    else
      if (M (i + 1) 0 7) < (nI (k.2.1 2)) then
        if 24 < (f_X3_opOf k M (M (i + 1) 1 (M (i + 1) 0 7).toNatClampNeg)) then
          1
        else
          if 8 ≤ (f_X3_rOf k M (M (i + 1) 1 (M (i + 1) 0 7).toNatClampNeg)) then
            1
          else
            if (f_X3_sOf k M (M (i + 1) 1 (M (i + 1) 0 7).toNatClampNeg)) < 8 then
              if (f_X3_opOf k M (M (i + 1) 1 (M (i + 1) 0 7).toNatClampNeg)) = 6 then
                if (M (i + 1) 2 (f_X3_sOf k M (M (i + 1) 1 (M (i + 1) 0 7).toNatClampNeg)).toNatClampNeg) = 0 then
                  1
                else
                  0
              else
                if (f_X3_opOf k M (M (i + 1) 1 (M (i + 1) 0 7).toNatClampNeg)) = 7 then
                  if (M (i + 1) 2 (f_X3_sOf k M (M (i + 1) 1 (M (i + 1) 0 7).toNatClampNeg)).toNatClampNeg) = 0 then
                    1
                  else
                    0
                else
                  0
            else
              1
      else
        1
set_option maxHeartbeats 4000000 in
set_option maxRecDepth 100000 in
theorem c_X2_mustFail (l : Launch) (k : CK) (M : Mem) (i : Nat) (hi : i < k.2.1 0) (hI : cI k M) : Met l yX2_mustFail wsX2_mustFail (rmK 1 20) (wPc (cw k) M [.ref (k.1 (i + 1) 0)]) (wQi (cw k) (fun r u => r = (f_X2_mustFail k M i) ∧ u = M)) 0 0 (wA (cw k)) := by
  refine wx_met (cc := cX2_mustFail) (maxL := 4) (ret := (some .boolean)) (by decide) rfl (Nat.le_of_ble_eq_true rfl) ?_
  intro p e s m below meth c ls hx hb hr hml hts hown hlocks hP hK hD hZ hS hl
  have hown : s.vm.findClass RX2 = some m.cls := hown
  have hl : lv_has ls 4 [(0, .ref (k.1 (i + 1) 0))] := hl
  have hiX2 : ∀ x ∈ u_ws RX2 TX2 12, x ∈ wsX2_mustFail := by decide +kernel
  have hf15 := hts (.fieldLink RX2 15 "RobotWorld$Robot" "program" "[I") (by decide +kernel)
  have hf19 := hts (.fieldLink RX2 19 "RobotWorld$Robot" "registers" "[I") (by decide +kernel)
  have hf40 := hts (.fieldLink RX2 40 "RobotWorld$Robot" "place" "I") (by decide +kernel)
  have hf43 := hts (.fieldLink RX2 43 "RobotWorld$Robot" "words" "I") (by decide +kernel)
  obtain ⟨z1, z2, z3, z4, z5, z6, z7, z8, z9⟩ := (show cZ k (wA (cw k)) s s.heap from hZ)
  refine lv_aload_n hx hb dX2_mustFail_0 rfl (lv_at hl 0 rfl) ?_
  refine wx_get (w := (cw k)) (g := (i + 1)) (j := 0) hx hb hts hiX2 hown hK hP (cIx_r hi (by decide)) rfl rfl 7 (by decide) hf40 rfl dX2_mustFail_1 ?_
  refine lv_if_lt (tgt := 30) hx hb dX2_mustFail_4 (by decide) (fun c_4 => ?_) (fun c_4 => ?_)
  · refine lv_iconst (v := 1) hx hb dX2_mustFail_30 (by decide) ?_
    have e9 : f_X2_mustFail k M i = 1 := (by unfold f_X2_mustFail; rw [if_pos c_4])
    exact wx_iret hx hb hr hlocks hP hS (by decide) ⟨e9.symm, rfl⟩ dX2_mustFail_31
  · refine lv_aload_n hx hb dX2_mustFail_7 rfl (lv_at hl 0 rfl) ?_
    refine wx_get (w := (cw k)) (g := (i + 1)) (j := 0) hx hb hts hiX2 hown hK hP (cIx_r hi (by decide)) rfl rfl 7 (by decide) hf40 rfl dX2_mustFail_8 ?_
    refine lv_aload_n hx hb dX2_mustFail_11 rfl (lv_at hl 0 rfl) ?_
    refine wx_get (w := (cw k)) (g := (i + 1)) (j := 0) hx hb hts hiX2 hown hK hP (cIx_r hi (by decide)) rfl rfl 8 (by decide) hf43 rfl dX2_mustFail_12 ?_
    refine lv_icmp_ge (tgt := 30) hx hb dX2_mustFail_15 (by decide) (fun c_15 => ?_) (fun c_15 => ?_)
    · refine lv_iconst (v := 1) hx hb dX2_mustFail_30 (by decide) ?_
      have e9 : f_X2_mustFail k M i = 1 := (by unfold f_X2_mustFail; rw [if_neg c_4, if_pos c_15])
      exact wx_iret hx hb hr hlocks hP hS (by decide) ⟨e9.symm, rfl⟩ dX2_mustFail_31
    · refine lv_aload_n hx hb dX2_mustFail_18 rfl (lv_at hl 0 rfl) ?_
      refine wx_get (w := (cw k)) (g := (i + 1)) (j := 0) hx hb hts hiX2 hown hK hP (cIx_r hi (by decide)) rfl rfl 7 (by decide) hf40 rfl dX2_mustFail_19 ?_
      refine lv_aload_n hx hb dX2_mustFail_22 rfl (lv_at hl 0 rfl) ?_
      refine wx_get (w := (cw k)) (g := (i + 1)) (j := 0) hx hb hts hiX2 hown hK hP (cIx_r hi (by decide)) rfl rfl 1 (by decide) hf15 rfl dX2_mustFail_23 ?_
      refine wx_alen (w := (cw k)) (g := (i + 1)) (j := 1) hx hb hK hP (cIx_r hi (by decide)) 0 rfl rfl dX2_mustFail_26 ?_
      refine lv_icmp_lt (tgt := 32) hx hb dX2_mustFail_27 (by decide) (fun c_27 => ?_) (fun c_27 => ?_)
      · refine lv_aload_n hx hb dX2_mustFail_32 rfl (lv_at hl 0 rfl) ?_
        refine wx_get (w := (cw k)) (g := (i + 1)) (j := 0) hx hb hts hiX2 hown hK hP (cIx_r hi (by decide)) rfl rfl 1 (by decide) hf15 rfl dX2_mustFail_33 ?_
        refine lv_aload_n hx hb dX2_mustFail_36 rfl (lv_at hl 0 rfl) ?_
        refine wx_get (w := (cw k)) (g := (i + 1)) (j := 0) hx hb hts hiX2 hown hK hP (cIx_r hi (by decide)) rfl rfl 7 (by decide) hf40 rfl dX2_mustFail_37 ?_
        refine wx_iald (w := (cw k)) (g := (i + 1)) (j := 1) hx hb hK hP (cIx_r hi (by decide)) 0 rfl rfl (vinL c_4 c_27 (cI_l hI)) dX2_mustFail_40 ?_
        refine lv_istore_n (lv' := [(1, .int (M (i + 1) 1 (M (i + 1) 0 7).toNatClampNeg)), (0, .ref (k.1 (i + 1) 0))]) hx hb dX2_mustFail_41 rfl hl (by decide) rfl (fun ls hl => ?_)
        refine lv_iload_n hx hb dX2_mustFail_42 rfl (lv_at hl 0 rfl) ?_
        refine wx_Ni (w := (cw k)) (f_X3_opOf k M (M (i + 1) 1 (M (i + 1) 0 7).toNatClampNeg)) M [.int (M (i + 1) 1 (M (i + 1) 0 7).toNatClampNeg)] [] (cZok k) ⟨hx, hb, hml, hown, hts⟩ (c_X3_opOf l k M (M (i + 1) 1 (M (i + 1) 0 7).toNatClampNeg) ) ⟨va_cnB 1 hts gX2_mustFail_X3_opOf_n64 rfl rfl rfl z7 (hts (.initialized RX3) (by decide +kernel)) (by decide +kernel) ⟨by decide, by decide⟩, hts (.static yX3_opOf) (by decide +kernel), trivial⟩ hP hK hD hZ hS rfl hl.1 rfl (Nat.le_of_ble_eq_true rfl) dX2_mustFail_43 ⟨by decide, by decide⟩ (fun H locs hP hS => ?_)
        refine lv_istore_n (lv' := [(2, .int (f_X3_opOf k M (M (i + 1) 1 (M (i + 1) 0 7).toNatClampNeg))), (1, .int (M (i + 1) 1 (M (i + 1) 0 7).toNatClampNeg)), (0, .ref (k.1 (i + 1) 0))]) hx hb dX2_mustFail_46 rfl hl (by decide) rfl (fun ls hl => ?_)
        refine lv_iload_n hx hb dX2_mustFail_47 rfl (lv_at hl 1 rfl) ?_
        refine wx_Ni (w := (cw k)) (f_X3_sOf k M (M (i + 1) 1 (M (i + 1) 0 7).toNatClampNeg)) M [.int (M (i + 1) 1 (M (i + 1) 0 7).toNatClampNeg)] [] (cZok k) ⟨hx, hb, hml, hown, hts⟩ (c_X3_sOf l k M (M (i + 1) 1 (M (i + 1) 0 7).toNatClampNeg) ) ⟨va_cnB 1 hts gX2_mustFail_X3_sOf_n68 rfl rfl rfl z8 (hts (.initialized RX3) (by decide +kernel)) (by decide +kernel) ⟨by decide, by decide⟩, hts (.static yX3_sOf) (by decide +kernel), trivial⟩ hP hK hD hZ hS rfl hl.1 rfl (Nat.le_of_ble_eq_true rfl) dX2_mustFail_48 ⟨by decide, by decide⟩ (fun H locs hP hS => ?_)
        refine lv_istore_n (lv' := [(3, .int (f_X3_sOf k M (M (i + 1) 1 (M (i + 1) 0 7).toNatClampNeg))), (2, .int (f_X3_opOf k M (M (i + 1) 1 (M (i + 1) 0 7).toNatClampNeg))), (1, .int (M (i + 1) 1 (M (i + 1) 0 7).toNatClampNeg)), (0, .ref (k.1 (i + 1) 0))]) hx hb dX2_mustFail_51 rfl hl (by decide) rfl (fun ls hl => ?_)
        refine lv_iload_n hx hb dX2_mustFail_52 rfl (lv_at hl 1 rfl) ?_
        refine lv_bipush (v := 24) hx hb dX2_mustFail_53 (by decide) ?_
        refine lv_icmp_gt (tgt := 73) hx hb dX2_mustFail_55 (by decide) (fun c_55 => ?_) (fun c_55 => ?_)
        · refine lv_iconst (v := 1) hx hb dX2_mustFail_73 (by decide) ?_
          have e9 : f_X2_mustFail k M i = 1 := (by unfold f_X2_mustFail; rw [if_neg c_4, if_neg c_15, if_pos c_27, if_pos c_55])
          exact wx_iret hx hb hr hlocks hP hS (by decide) ⟨e9.symm, rfl⟩ dX2_mustFail_74
        · refine lv_iload_n hx hb dX2_mustFail_58 rfl (lv_at hl 2 rfl) ?_
          refine wx_Ni (w := (cw k)) (f_X3_rOf k M (M (i + 1) 1 (M (i + 1) 0 7).toNatClampNeg)) M [.int (M (i + 1) 1 (M (i + 1) 0 7).toNatClampNeg)] [] (cZok k) ⟨hx, hb, hml, hown, hts⟩ (c_X3_rOf l k M (M (i + 1) 1 (M (i + 1) 0 7).toNatClampNeg) ) ⟨va_cnB 1 hts gX2_mustFail_X3_rOf_n71 rfl rfl rfl z9 (hts (.initialized RX3) (by decide +kernel)) (by decide +kernel) ⟨by decide, by decide⟩, hts (.static yX3_rOf) (by decide +kernel), trivial⟩ hP hK hD hZ hS rfl hl.1 rfl (Nat.le_of_ble_eq_true rfl) dX2_mustFail_59 ⟨by decide, by decide⟩ (fun H locs hP hS => ?_)
          refine lv_bipush (v := 8) hx hb dX2_mustFail_62 (by decide) ?_
          refine lv_icmp_ge (tgt := 73) hx hb dX2_mustFail_64 (by decide) (fun c_64 => ?_) (fun c_64 => ?_)
          · refine lv_iconst (v := 1) hx hb dX2_mustFail_73 (by decide) ?_
            have e9 : f_X2_mustFail k M i = 1 := (by unfold f_X2_mustFail; rw [if_neg c_4, if_neg c_15, if_pos c_27, if_neg c_55, if_pos c_64])
            exact wx_iret hx hb hr hlocks hP hS (by decide) ⟨e9.symm, rfl⟩ dX2_mustFail_74
          · refine lv_iload_n hx hb dX2_mustFail_67 rfl (lv_at hl 0 rfl) ?_
            refine lv_bipush (v := 8) hx hb dX2_mustFail_68 (by decide) ?_
            refine lv_icmp_lt (tgt := 75) hx hb dX2_mustFail_70 (by decide) (fun c_70 => ?_) (fun c_70 => ?_)
            · refine lv_iload_n hx hb dX2_mustFail_75 rfl (lv_at hl 1 rfl) ?_
              refine lv_bipush (v := 6) hx hb dX2_mustFail_76 (by decide) ?_
              refine lv_icmp_eq (tgt := 87) hx hb dX2_mustFail_78 (by decide) (fun c_78 => ?_) (fun c_78 => ?_)
              · refine lv_aload_n hx hb dX2_mustFail_87 rfl (lv_at hl 3 rfl) ?_
                refine wx_get (w := (cw k)) (g := (i + 1)) (j := 0) hx hb hts hiX2 hown hK hP (cIx_r hi (by decide)) rfl rfl 2 (by decide) hf19 rfl dX2_mustFail_88 ?_
                refine lv_iload_n hx hb dX2_mustFail_91 rfl (lv_at hl 0 rfl) ?_
                refine wx_iald (w := (cw k)) (g := (i + 1)) (j := 2) hx hb hK hP (cIx_r hi (by decide)) 0 rfl rfl (in8 (sOf_e k M _) c_70) dX2_mustFail_92 ?_
                refine lv_if_ne (tgt := 100) hx hb dX2_mustFail_93 (by decide) (fun c_93 => ?_) (fun c_93 => ?_)
                · refine lv_iconst (v := 0) hx hb dX2_mustFail_100 (by decide) ?_
                  have e9 : f_X2_mustFail k M i = 0 := (by unfold f_X2_mustFail; rw [if_neg c_4, if_neg c_15, if_pos c_27, if_neg c_55, if_neg c_64, if_pos c_70, if_pos c_78, if_neg c_93])
                  exact wx_iret hx hb hr hlocks hP hS (by decide) ⟨e9.symm, rfl⟩ dX2_mustFail_101
                · refine lv_iconst (v := 1) hx hb dX2_mustFail_96 (by decide) ?_
                  refine lv_goto (tgt := 101) hx hb dX2_mustFail_97 (by decide) ?_
                  have e9 : f_X2_mustFail k M i = 1 := (by unfold f_X2_mustFail; rw [if_neg c_4, if_neg c_15, if_pos c_27, if_neg c_55, if_neg c_64, if_pos c_70, if_pos c_78, if_pos c_93])
                  exact wx_iret hx hb hr hlocks hP hS (by decide) ⟨e9.symm, rfl⟩ dX2_mustFail_101
              · refine lv_iload_n hx hb dX2_mustFail_81 rfl (lv_at hl 1 rfl) ?_
                refine lv_bipush (v := 7) hx hb dX2_mustFail_82 (by decide) ?_
                refine lv_icmp_ne (tgt := 100) hx hb dX2_mustFail_84 (by decide) (fun c_84 => ?_) (fun c_84 => ?_)
                · refine lv_iconst (v := 0) hx hb dX2_mustFail_100 (by decide) ?_
                  have e9 : f_X2_mustFail k M i = 0 := (by unfold f_X2_mustFail; rw [if_neg c_4, if_neg c_15, if_pos c_27, if_neg c_55, if_neg c_64, if_pos c_70, if_neg c_78, if_neg c_84])
                  exact wx_iret hx hb hr hlocks hP hS (by decide) ⟨e9.symm, rfl⟩ dX2_mustFail_101
                · refine lv_aload_n hx hb dX2_mustFail_87 rfl (lv_at hl 3 rfl) ?_
                  refine wx_get (w := (cw k)) (g := (i + 1)) (j := 0) hx hb hts hiX2 hown hK hP (cIx_r hi (by decide)) rfl rfl 2 (by decide) hf19 rfl dX2_mustFail_88 ?_
                  refine lv_iload_n hx hb dX2_mustFail_91 rfl (lv_at hl 0 rfl) ?_
                  refine wx_iald (w := (cw k)) (g := (i + 1)) (j := 2) hx hb hK hP (cIx_r hi (by decide)) 0 rfl rfl (in8 (sOf_e k M _) c_70) dX2_mustFail_92 ?_
                  refine lv_if_ne (tgt := 100) hx hb dX2_mustFail_93 (by decide) (fun c_93 => ?_) (fun c_93 => ?_)
                  · refine lv_iconst (v := 0) hx hb dX2_mustFail_100 (by decide) ?_
                    have e9 : f_X2_mustFail k M i = 0 := (by unfold f_X2_mustFail; rw [if_neg c_4, if_neg c_15, if_pos c_27, if_neg c_55, if_neg c_64, if_pos c_70, if_neg c_78, if_pos c_84, if_neg c_93])
                    exact wx_iret hx hb hr hlocks hP hS (by decide) ⟨e9.symm, rfl⟩ dX2_mustFail_101
                  · refine lv_iconst (v := 1) hx hb dX2_mustFail_96 (by decide) ?_
                    refine lv_goto (tgt := 101) hx hb dX2_mustFail_97 (by decide) ?_
                    have e9 : f_X2_mustFail k M i = 1 := (by unfold f_X2_mustFail; rw [if_neg c_4, if_neg c_15, if_pos c_27, if_neg c_55, if_neg c_64, if_pos c_70, if_neg c_78, if_pos c_84, if_pos c_93])
                    exact wx_iret hx hb hr hlocks hP hS (by decide) ⟨e9.symm, rfl⟩ dX2_mustFail_101
            · refine lv_iconst (v := 1) hx hb dX2_mustFail_73 (by decide) ?_
              have e9 : f_X2_mustFail k M i = 1 := (by unfold f_X2_mustFail; rw [if_neg c_4, if_neg c_15, if_pos c_27, if_neg c_55, if_neg c_64, if_neg c_70])
              exact wx_iret hx hb hr hlocks hP hS (by decide) ⟨e9.symm, rfl⟩ dX2_mustFail_74
      · refine lv_iconst (v := 1) hx hb dX2_mustFail_30 (by decide) ?_
        have e9 : f_X2_mustFail k M i = 1 := (by unfold f_X2_mustFail; rw [if_neg c_4, if_neg c_15, if_neg c_27])
        exact wx_iret hx hb hr hlocks hP hS (by decide) ⟨e9.symm, rfl⟩ dX2_mustFail_31
