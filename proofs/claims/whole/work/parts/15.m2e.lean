/-- by program, from the bytecode of RobotWorldModel.way -/
def f_X4_way (k : MK) (M : Mem) (p1 : Int32) (p2 : Int32) (p3 : Int32) : Int32 × Mem :=
  if 0 < (f_X4_pathLength k M (M 0 4 p1.toNatClampNeg) (M 0 5 p1.toNatClampNeg) p2 p3).1 then
    f_X4_way_L42 k p1 ((f_X4_pathLength k M (M 0 4 p1.toNatClampNeg) (M 0 5 p1.toNatClampNeg) p2 p3).1) (k.2.1 5) 0 0 (f_X4_pathLength k M (M 0 4 p1.toNatClampNeg) (M 0 5 p1.toNatClampNeg) p2 p3).2
  else
    if 0 ≤ (f_X4_pathLength k M (M 0 4 p1.toNatClampNeg) (M 0 5 p1.toNatClampNeg) p2 p3).1 then
      (4, (f_X4_pathLength k M (M 0 4 p1.toNatClampNeg) (M 0 5 p1.toNatClampNeg) p2 p3).2)
    else
      ((-1), (f_X4_pathLength k M (M 0 4 p1.toNatClampNeg) (M 0 5 p1.toNatClampNeg) p2 p3).2)
set_option maxHeartbeats 4000000 in
set_option maxRecDepth 100000 in
theorem c_X4_way (l : Launch) (k : MK) (M : Mem) (p1 : Int32) (p2 : Int32) (p3 : Int32) (hI : mI k M) (h1 : vp_in p1 (k.2.1 0)) (h3 : 0 < M 0 3 p1.toNatClampNeg) : Met l yX4_way wsX4_way (rmK 6 144) (wPc (mw k) M [.ref (k.1 0 0), .int p1, .int p2, .int p3]) (wQi (mw k) (fun r u => r = (f_X4_way k M p1 p2 p3).1 ∧ u = (f_X4_way k M p1 p2 p3).2)) 0 0 (wA (mw k)) := by
  refine wx_met (cc := cX4_way) (maxL := 9) (ret := (some .int)) (by decide) rfl (Nat.le_of_ble_eq_true rfl) ?_
  intro p e s m below meth c ls hx hb hr hml hts hown hlocks hP hK hD hZ hS hl
  have hown : s.vm.findClass RX4 = some m.cls := hown
  have hl : lv_has ls 9 [(0, .ref (k.1 0 0)), (1, .int p1), (2, .int p2), (3, .int p3)] := hl
  have hiX4 : ∀ x ∈ u_ws RX4 TX4 22, x ∈ wsX4_way := by decide +kernel
  have hf20 := hts (.fieldLink RX4 20 "RobotWorldModel" "xs" "[I") (by decide +kernel)
  have hf23 := hts (.fieldLink RX4 23 "RobotWorldModel" "ys" "[I") (by decide +kernel)
  refine lv_aload_n hx hb dX4_way_0 rfl (lv_at hl 0 rfl) ?_
  refine lv_aload_n hx hb dX4_way_1 rfl (lv_at hl 0 rfl) ?_
  refine wx_get (w := (mw k)) (g := 0) (j := 0) hx hb hts hiX4 hown hK hP (mIx_0 (by decide)) rfl rfl 8 (by decide) hf20 rfl dX4_way_2 ?_
  refine lv_iload_n hx hb dX4_way_5 rfl (lv_at hl 1 rfl) ?_
  refine wx_iald (w := (mw k)) (g := 0) (j := 4) hx hb hK hP (mIx_0 (by decide)) 0 rfl rfl (m8 hI h1) dX4_way_6 ?_
  refine lv_aload_n hx hb dX4_way_7 rfl (lv_at hl 0 rfl) ?_
  refine wx_get (w := (mw k)) (g := 0) (j := 0) hx hb hts hiX4 hown hK hP (mIx_0 (by decide)) rfl rfl 9 (by decide) hf23 rfl dX4_way_8 ?_
  refine lv_iload_n hx hb dX4_way_11 rfl (lv_at hl 1 rfl) ?_
  refine wx_iald (w := (mw k)) (g := 0) (j := 5) hx hb hK hP (mIx_0 (by decide)) 0 rfl rfl (m8 hI h1) dX4_way_12 ?_
  refine lv_iload_n hx hb dX4_way_13 rfl (lv_at hl 2 rfl) ?_
  refine lv_iload_n hx hb dX4_way_14 rfl (lv_at hl 3 rfl) ?_
  refine wx_Vi (w := (mw k)) ((f_X4_pathLength k M (M 0 4 p1.toNatClampNeg) (M 0 5 p1.toNatClampNeg) p2 p3).1) ((f_X4_pathLength k M (M 0 4 p1.toNatClampNeg) (M 0 5 p1.toNatClampNeg) p2 p3).2) [.int (M 0 4 p1.toNatClampNeg), .int (M 0 5 p1.toNatClampNeg), .int p2, .int p3] [] (mZok k) ⟨hx, hb, hml, hown, hts⟩ (c_X4_pathLength l k M (M 0 4 p1.toNatClampNeg) (M 0 5 p1.toNatClampNeg) p2 p3 hI) (cwV 4 hts gX4_way_X4_pathLength rfl rfl rfl (by decide +kernel) ⟨by decide, by decide⟩) (wx_recv (w := (mw k)) (g := 0) (j := 0) hK hP (mIx_0 (by decide)) rfl rfl) hP hK hD hZ hS rfl hl.1 rfl (Nat.le_of_ble_eq_true rfl) dX4_way_15 ⟨by decide, by decide⟩ (fun H locs hP hS => ?_)
  refine lv_istore (lv' := [(4, .int ((f_X4_pathLength k M (M 0 4 p1.toNatClampNeg) (M 0 5 p1.toNatClampNeg) p2 p3).1)), (0, .ref (k.1 0 0)), (1, .int p1), (2, .int p2), (3, .int p3)]) hx hb dX4_way_18 hl (by decide) rfl (fun ls hl => ?_)
  refine lv_iload hx hb dX4_way_20 (lv_at hl 0 rfl) ?_
  refine lv_if_gt (tgt := 36) hx hb dX4_way_22 (by decide) (fun c_22 => ?_) (fun c_22 => ?_)
  · refine lv_iconst (v := 0) hx hb dX4_way_36 (by decide) ?_
    refine lv_istore (lv' := [(5, .int 0), (4, .int ((f_X4_pathLength k M (M 0 4 p1.toNatClampNeg) (M 0 5 p1.toNatClampNeg) p2 p3).1)), (0, .ref (k.1 0 0)), (1, .int p1), (2, .int p2), (3, .int p3)]) hx hb dX4_way_37 hl (by decide) rfl (fun ls hl => ?_)
    refine lv_iconst (v := 0) hx hb dX4_way_39 (by decide) ?_
    refine lv_istore (lv' := [(6, .int 0), (5, .int 0), (4, .int ((f_X4_pathLength k M (M 0 4 p1.toNatClampNeg) (M 0 5 p1.toNatClampNeg) p2 p3).1)), (0, .ref (k.1 0 0)), (1, .int p1), (2, .int p2), (3, .int p3)]) hx hb dX4_way_40 hl (by decide) rfl (fun ls hl => ?_)
    have e9 : f_X4_way k M p1 p2 p3 = f_X4_way_L42 k p1 ((f_X4_pathLength k M (M 0 4 p1.toNatClampNeg) (M 0 5 p1.toNatClampNeg) p2 p3).1) (k.2.1 5) 0 0 (f_X4_pathLength k M (M 0 4 p1.toNatClampNeg) (M 0 5 p1.toNatClampNeg) p2 p3).2 := (by unfold f_X4_way; rw [if_pos c_22])
    exact lp_X4_way_L42 k p1 ((f_X4_pathLength k M (M 0 4 p1.toNatClampNeg) (M 0 5 p1.toNatClampNeg) p2 p3).1) hx hb hr hml hts hown hlocks hK hD hZ (k.2.1 5) 0 0 (f_X4_pathLength k M (M 0 4 p1.toNatClampNeg) (M 0 5 p1.toNatClampNeg) p2 p3).2 _ _ ls (⟨mI_pathLength hI, h1⟩) (okw hI h1 h3 c_22) hP hS (lv_sub hl [0, 1, 2, 3, 4] rfl) _ ⟨by rw [e9], by rw [e9]⟩
  · refine lv_iload hx hb dX4_way_25 (lv_at hl 0 rfl) ?_
    refine lv_if_ge (tgt := 34) hx hb dX4_way_27 (by decide) (fun c_27 => ?_) (fun c_27 => ?_)
    · refine lv_iconst (v := 4) hx hb dX4_way_34 (by decide) ?_
      have e9 : f_X4_way k M p1 p2 p3 = (4, (f_X4_pathLength k M (M 0 4 p1.toNatClampNeg) (M 0 5 p1.toNatClampNeg) p2 p3).2) := (by unfold f_X4_way; rw [if_neg c_22, if_pos c_27])
      exact wx_iret hx hb hr hlocks hP hS rfl ⟨by rw [e9], by rw [e9]⟩ dX4_way_35
    · refine lv_iconst (v := (-1)) hx hb dX4_way_30 (by decide) ?_
      refine lv_goto (tgt := 35) hx hb dX4_way_31 (by decide) ?_
      have e9 : f_X4_way k M p1 p2 p3 = ((-1), (f_X4_pathLength k M (M 0 4 p1.toNatClampNeg) (M 0 5 p1.toNatClampNeg) p2 p3).2) := (by unfold f_X4_way; rw [if_neg c_22, if_neg c_27])
      exact wx_iret hx hb hr hlocks hP hS rfl ⟨by rw [e9], by rw [e9]⟩ dX4_way_35
theorem way_L_M {k : MK} {p1 p4 : Int32} : ∀ (n : Nat) (x f : Int32) (M : Mem), (f_X4_way_L42 k p1 p4 n x f M).2 = M := by
  intro n
  induction n with
  | zero => intro x f M; rfl
  | succ n ih =>
    intro x f M
    rw [f_X4_way_L42]
    split
    · split
      · exact ih _ _ M
      · split
        · exact ih _ _ M
        · exact ih _ _ M
    · rfl
theorem mI_way {k : MK} {M : Mem} {x y z : Int32} (hI : mI k M) : mI k (f_X4_way k M x y z).2 := by
  unfold f_X4_way
  split
  · rw [way_L_M]
    exact mI_pathLength hI
  · split
    · show mI k (f_X4_pathLength k M (M 0 4 x.toNatClampNeg) (M 0 5 x.toNatClampNeg) y z).2
      exact mI_pathLength hI
    · show mI k (f_X4_pathLength k M (M 0 4 x.toNatClampNeg) (M 0 5 x.toNatClampNeg) y z).2
      exact mI_pathLength hI
theorem m_bx {k : MK} {M : Mem} {x : Int32} (hI : mI k M) (hx : vp_in x (k.2.1 0)) (c : ¬ M 0 0 4 ≤ M 0 12 x.toNatClampNeg) : vp_in (16 * x + M 0 12 x.toNatClampNeg) 128 := by
  have h7 := (hI.2.2.2 _ (vp_lt hx)).2.1
  obtain ⟨⟨e0, e1, e2, e3, e4⟩, ⟨b1, b2, b3, b4, b5, b6, b7, b8, b9, b10⟩, -⟩ := hI
  obtain ⟨a, ha, ea⟩ := h7
  rw [ea, e4] at c
  rw [ea]
  have hne : a < k.2.1 4 := by
    rcases Nat.lt_or_ge a (k.2.1 4) with q | q
    · exact q
    · exact absurd (nI_le q (by omega)) c
  obtain ⟨i, hi, rfl⟩ := vp_in_of hx (by omega)
  rw [show (16 : Int32) = nI 16 from rfl, pk_mul, nI_add]
  exact vp_in_nI (by omega) (by omega)
/-- by program, from the bytecode of RobotWorldModel.send -/
def f_X4_send (k : MK) (M : Mem) (p1 : Int32) (p2 : Int32) : Int32 × Mem :=
  if (f_X4_isRobot k M p1) = 0 then
    (0, M)
  else
    if (f_X4_in k M (M 0 3 p1.toNatClampNeg) 2 4) = 0 then
      (0, M)
    else
      if (M 0 0 4) ≤ (M 0 12 p1.toNatClampNeg) then
        (0, M)
      else
        if ((mu (mu M 0 11 ((16 * p1) + (M 0 12 p1.toNatClampNeg)).toNatClampNeg p2) 0 12 p1.toNatClampNeg (((mu M 0 11 ((16 * p1) + (M 0 12 p1.toNatClampNeg)).toNatClampNeg p2) 0 12 p1.toNatClampNeg) + 1)) 0 3 p1.toNatClampNeg) = 4 then
          (1, (mu (mu (mu M 0 11 ((16 * p1) + (M 0 12 p1.toNatClampNeg)).toNatClampNeg p2) 0 12 p1.toNatClampNeg (((mu M 0 11 ((16 * p1) + (M 0 12 p1.toNatClampNeg)).toNatClampNeg p2) 0 12 p1.toNatClampNeg) + 1)) 0 3 p1.toNatClampNeg 2))
        else
          (1, (mu (mu (mu M 0 11 ((16 * p1) + (M 0 12 p1.toNatClampNeg)).toNatClampNeg p2) 0 12 p1.toNatClampNeg (((mu M 0 11 ((16 * p1) + (M 0 12 p1.toNatClampNeg)).toNatClampNeg p2) 0 12 p1.toNatClampNeg) + 1)) 0 3 p1.toNatClampNeg ((mu (mu M 0 11 ((16 * p1) + (M 0 12 p1.toNatClampNeg)).toNatClampNeg p2) 0 12 p1.toNatClampNeg (((mu M 0 11 ((16 * p1) + (M 0 12 p1.toNatClampNeg)).toNatClampNeg p2) 0 12 p1.toNatClampNeg) + 1)) 0 3 p1.toNatClampNeg)))
set_option maxHeartbeats 4000000 in
set_option maxRecDepth 100000 in
theorem c_X4_send (l : Launch) (k : MK) (M : Mem) (p1 : Int32) (p2 : Int32) (hI : mI k M) : Met l yX4_send wsX4_send (rmK 2 43) (wPc (mw k) M [.ref (k.1 0 0), .int p1, .int p2]) (wQi (mw k) (fun r u => r = (f_X4_send k M p1 p2).1 ∧ u = (f_X4_send k M p1 p2).2)) 0 0 (wA (mw k)) := by
  refine wx_met (cc := cX4_send) (maxL := 4) (ret := (some .boolean)) (by decide) rfl (Nat.le_of_ble_eq_true rfl) ?_
  intro p e s m below meth c ls hx hb hr hml hts hown hlocks hP hK hD hZ hS hl
  have hown : s.vm.findClass RX4 = some m.cls := hown
  have hl : lv_has ls 4 [(0, .ref (k.1 0 0)), (1, .int p1), (2, .int p2)] := hl
  have hiX4 : ∀ x ∈ u_ws RX4 TX4 22, x ∈ wsX4_send := by decide +kernel
  have hf17 := hts (.fieldLink RX4 17 "RobotWorldModel" "state" "[I") (by decide +kernel)
  have hf41 := hts (.fieldLink RX4 41 "RobotWorldModel" "box" "[I") (by decide +kernel)
  have hf44 := hts (.fieldLink RX4 44 "RobotWorldModel" "boxed" "[I") (by decide +kernel)
  have hf73 := hts (.fieldLink RX4 73 "RobotWorldModel" "mails" "I") (by decide +kernel)
  refine lv_aload_n hx hb dX4_send_0 rfl (lv_at hl 0 rfl) ?_
  refine lv_iload_n hx hb dX4_send_1 rfl (lv_at hl 1 rfl) ?_
  refine wx_Vi (w := (mw k)) (f_X4_isRobot k M p1) M [.int p1] [] (mZok k) ⟨hx, hb, hml, hown, hts⟩ (c_X4_isRobot l k M p1 hI) (cwV 1 hts gX4_send_X4_isRobot rfl rfl rfl (by decide +kernel) ⟨by decide, by decide⟩) (wx_recv (w := (mw k)) (g := 0) (j := 0) hK hP (mIx_0 (by decide)) rfl rfl) hP hK hD hZ hS rfl hl.1 rfl (Nat.le_of_ble_eq_true rfl) dX4_send_2 ⟨by decide, by decide⟩ (fun H locs hP hS => ?_)
  refine lv_if_eq (tgt := 39) hx hb dX4_send_5 (by decide) (fun c_5 => ?_) (fun c_5 => ?_)
  · refine lv_iconst (v := 0) hx hb dX4_send_39 (by decide) ?_
    refine lv_istore_n (lv' := [(3, .int 0), (0, .ref (k.1 0 0)), (1, .int p1), (2, .int p2)]) hx hb dX4_send_40 rfl hl (by decide) rfl (fun ls hl => ?_)
    refine lv_iload_n hx hb dX4_send_41 rfl (lv_at hl 0 rfl) ?_
    refine lv_if_eq (tgt := 98) hx hb dX4_send_42 (by decide) (fun _ => ?_) (fun h9 => absurd h9 (by decide))
    refine lv_iload_n hx hb dX4_send_98 rfl (lv_at hl 0 rfl) ?_
    have e9 : f_X4_send k M p1 p2 = (0, M) := (by unfold f_X4_send; rw [if_pos c_5])
    exact wx_iret hx hb hr hlocks hP hS (by decide) ⟨by rw [e9], by rw [e9]⟩ dX4_send_99
  · refine lv_aload_n hx hb dX4_send_8 rfl (lv_at hl 0 rfl) ?_
    refine wx_get (w := (mw k)) (g := 0) (j := 0) hx hb hts hiX4 hown hK hP (mIx_0 (by decide)) rfl rfl 7 (by decide) hf17 rfl dX4_send_9 ?_
    refine lv_iload_n hx hb dX4_send_12 rfl (lv_at hl 1 rfl) ?_
    refine wx_iald (w := (mw k)) (g := 0) (j := 3) hx hb hK hP (mIx_0 (by decide)) 0 rfl rfl (m8 hI (m_rob hI c_5).1) dX4_send_13 ?_
    refine lv_iconst (v := 2) hx hb dX4_send_14 (by decide) ?_
    refine lv_iconst (v := 4) hx hb dX4_send_15 (by decide) ?_
    refine wx_Si (w := (mw k)) (f_X4_in k M (M 0 3 p1.toNatClampNeg) 2 4) M [.int (M 0 3 p1.toNatClampNeg), .int 2, .int 4] [] (mZok k) ⟨hx, hb, hml, hown, hts⟩ (c_X4_in l k M (M 0 3 p1.toNatClampNeg) 2 4 ) (va_cwS 3 hts gX4_send_X4_in rfl rfl rfl (by decide +kernel) ⟨by decide, by decide⟩) hP hK hD hZ hS rfl hl.1 rfl (Nat.le_of_ble_eq_true rfl) dX4_send_16 ⟨by decide, by decide⟩ (fun H locs hP hS => ?_)
    refine lv_if_eq (tgt := 39) hx hb dX4_send_19 (by decide) (fun c_19 => ?_) (fun c_19 => ?_)
    · refine lv_iconst (v := 0) hx hb dX4_send_39 (by decide) ?_
      refine lv_istore_n (lv' := [(3, .int 0), (0, .ref (k.1 0 0)), (1, .int p1), (2, .int p2)]) hx hb dX4_send_40 rfl hl (by decide) rfl (fun ls hl => ?_)
      refine lv_iload_n hx hb dX4_send_41 rfl (lv_at hl 0 rfl) ?_
      refine lv_if_eq (tgt := 98) hx hb dX4_send_42 (by decide) (fun _ => ?_) (fun h9 => absurd h9 (by decide))
      refine lv_iload_n hx hb dX4_send_98 rfl (lv_at hl 0 rfl) ?_
      have e9 : f_X4_send k M p1 p2 = (0, M) := (by unfold f_X4_send; rw [if_neg c_5, if_pos c_19])
      exact wx_iret hx hb hr hlocks hP hS (by decide) ⟨by rw [e9], by rw [e9]⟩ dX4_send_99
    · refine lv_aload_n hx hb dX4_send_22 rfl (lv_at hl 0 rfl) ?_
      refine wx_get (w := (mw k)) (g := 0) (j := 0) hx hb hts hiX4 hown hK hP (mIx_0 (by decide)) rfl rfl 16 (by decide) hf44 rfl dX4_send_23 ?_
      refine lv_iload_n hx hb dX4_send_26 rfl (lv_at hl 1 rfl) ?_
      refine wx_iald (w := (mw k)) (g := 0) (j := 12) hx hb hK hP (mIx_0 (by decide)) 0 rfl rfl (m8 hI (m_rob hI c_5).1) dX4_send_27 ?_
      refine lv_aload_n hx hb dX4_send_28 rfl (lv_at hl 0 rfl) ?_
      refine wx_get (w := (mw k)) (g := 0) (j := 0) hx hb hts hiX4 hown hK hP (mIx_0 (by decide)) rfl rfl 4 (by decide) hf73 rfl dX4_send_29 ?_
      refine lv_icmp_ge (tgt := 39) hx hb dX4_send_32 (by decide) (fun c_32 => ?_) (fun c_32 => ?_)
      · refine lv_iconst (v := 0) hx hb dX4_send_39 (by decide) ?_
        refine lv_istore_n (lv' := [(3, .int 0), (0, .ref (k.1 0 0)), (1, .int p1), (2, .int p2)]) hx hb dX4_send_40 rfl hl (by decide) rfl (fun ls hl => ?_)
        refine lv_iload_n hx hb dX4_send_41 rfl (lv_at hl 0 rfl) ?_
        refine lv_if_eq (tgt := 98) hx hb dX4_send_42 (by decide) (fun _ => ?_) (fun h9 => absurd h9 (by decide))
        refine lv_iload_n hx hb dX4_send_98 rfl (lv_at hl 0 rfl) ?_
        have e9 : f_X4_send k M p1 p2 = (0, M) := (by unfold f_X4_send; rw [if_neg c_5, if_neg c_19, if_pos c_32])
        exact wx_iret hx hb hr hlocks hP hS (by decide) ⟨by rw [e9], by rw [e9]⟩ dX4_send_99
      · refine lv_iconst (v := 1) hx hb dX4_send_35 (by decide) ?_
        refine lv_goto (tgt := 40) hx hb dX4_send_36 (by decide) ?_
        refine lv_istore_n (lv' := [(3, .int 1), (0, .ref (k.1 0 0)), (1, .int p1), (2, .int p2)]) hx hb dX4_send_40 rfl hl (by decide) rfl (fun ls hl => ?_)
        refine lv_iload_n hx hb dX4_send_41 rfl (lv_at hl 0 rfl) ?_
        refine lv_if_eq (tgt := 98) hx hb dX4_send_42 (by decide) (fun h9 => absurd h9 (by decide)) (fun _ => ?_)
        refine lv_aload_n hx hb dX4_send_45 rfl (lv_at hl 1 rfl) ?_
        refine wx_get (w := (mw k)) (g := 0) (j := 0) hx hb hts hiX4 hown hK hP (mIx_0 (by decide)) rfl rfl 15 (by decide) hf41 rfl dX4_send_46 ?_
        refine lv_bipush (v := 16) hx hb dX4_send_49 (by decide) ?_
        refine lv_iload_n hx hb dX4_send_51 rfl (lv_at hl 2 rfl) ?_
        refine lv_imul hx hb dX4_send_52 ?_
        refine lv_aload_n hx hb dX4_send_53 rfl (lv_at hl 1 rfl) ?_
        refine wx_get (w := (mw k)) (g := 0) (j := 0) hx hb hts hiX4 hown hK hP (mIx_0 (by decide)) rfl rfl 16 (by decide) hf44 rfl dX4_send_54 ?_
        refine lv_iload_n hx hb dX4_send_57 rfl (lv_at hl 2 rfl) ?_
        refine wx_iald (w := (mw k)) (g := 0) (j := 12) hx hb hK hP (mIx_0 (by decide)) 0 rfl rfl (m8 hI (m_rob hI c_5).1) dX4_send_58 ?_
        refine lv_iadd hx hb dX4_send_59 ?_
        refine lv_iload_n hx hb dX4_send_60 rfl (lv_at hl 3 rfl) ?_
        refine wx_iast (w := (mw k)) (g := 0) (j := 11) hx hb hK hP hD hS (mIx_0 (by decide)) 0 (fun _ => rfl) rfl (m_bx hI (m_rob hI c_5).1 c_32) dX4_send_61 (fun H locs hP hS => ?_)
        refine lv_aload_n hx hb dX4_send_62 rfl (lv_at hl 1 rfl) ?_
        refine wx_get (w := (mw k)) (g := 0) (j := 0) hx hb hts hiX4 hown hK hP (mIx_0 (by decide)) rfl rfl 16 (by decide) hf44 rfl dX4_send_63 ?_
        refine lv_iload_n hx hb dX4_send_66 rfl (lv_at hl 2 rfl) ?_
        refine lv_dup2_11 hx hb dX4_send_67 rfl rfl ?_
        refine wx_iald (w := (mw k)) (g := 0) (j := 12) hx hb hK hP (mIx_0 (by decide)) 0 rfl rfl (m8 hI (m_rob hI c_5).1) dX4_send_68 ?_
        refine lv_iconst (v := 1) hx hb dX4_send_69 (by decide) ?_
        refine lv_iadd hx hb dX4_send_70 ?_
        refine wx_iast (w := (mw k)) (g := 0) (j := 12) hx hb hK hP hD hS (mIx_0 (by decide)) 0 (fun _ => rfl) rfl (m8 hI (m_rob hI c_5).1) dX4_send_71 (fun H locs hP hS => ?_)
        refine lv_aload_n hx hb dX4_send_72 rfl (lv_at hl 1 rfl) ?_
        refine wx_get (w := (mw k)) (g := 0) (j := 0) hx hb hts hiX4 hown hK hP (mIx_0 (by decide)) rfl rfl 7 (by decide) hf17 rfl dX4_send_73 ?_
        refine lv_iload_n hx hb dX4_send_76 rfl (lv_at hl 2 rfl) ?_
        refine lv_aload_n hx hb dX4_send_77 rfl (lv_at hl 1 rfl) ?_
        refine wx_get (w := (mw k)) (g := 0) (j := 0) hx hb hts hiX4 hown hK hP (mIx_0 (by decide)) rfl rfl 7 (by decide) hf17 rfl dX4_send_78 ?_
        refine lv_iload_n hx hb dX4_send_81 rfl (lv_at hl 2 rfl) ?_
        refine wx_iald (w := (mw k)) (g := 0) (j := 3) hx hb hK hP (mIx_0 (by decide)) 0 rfl rfl (m8 hI (m_rob hI c_5).1) dX4_send_82 ?_
        refine lv_iconst (v := 4) hx hb dX4_send_83 (by decide) ?_
        refine lv_icmp_ne (tgt := 91) hx hb dX4_send_84 (by decide) (fun c_84 => ?_) (fun c_84 => ?_)
        · refine lv_aload_n hx hb dX4_send_91 rfl (lv_at hl 1 rfl) ?_
          refine wx_get (w := (mw k)) (g := 0) (j := 0) hx hb hts hiX4 hown hK hP (mIx_0 (by decide)) rfl rfl 7 (by decide) hf17 rfl dX4_send_92 ?_
          refine lv_iload_n hx hb dX4_send_95 rfl (lv_at hl 2 rfl) ?_
          refine wx_iald (w := (mw k)) (g := 0) (j := 3) hx hb hK hP (mIx_0 (by decide)) 0 rfl rfl (m8 hI (m_rob hI c_5).1) dX4_send_96 ?_
          refine wx_iast (w := (mw k)) (g := 0) (j := 3) hx hb hK hP hD hS (mIx_0 (by decide)) 0 (fun _ => rfl) rfl (m8 hI (m_rob hI c_5).1) dX4_send_97 (fun H locs hP hS => ?_)
          refine lv_iload_n hx hb dX4_send_98 rfl (lv_at hl 0 rfl) ?_
          have e9 : f_X4_send k M p1 p2 = (1, (mu (mu (mu M 0 11 ((16 * p1) + (M 0 12 p1.toNatClampNeg)).toNatClampNeg p2) 0 12 p1.toNatClampNeg (((mu M 0 11 ((16 * p1) + (M 0 12 p1.toNatClampNeg)).toNatClampNeg p2) 0 12 p1.toNatClampNeg) + 1)) 0 3 p1.toNatClampNeg ((mu (mu M 0 11 ((16 * p1) + (M 0 12 p1.toNatClampNeg)).toNatClampNeg p2) 0 12 p1.toNatClampNeg (((mu M 0 11 ((16 * p1) + (M 0 12 p1.toNatClampNeg)).toNatClampNeg p2) 0 12 p1.toNatClampNeg) + 1)) 0 3 p1.toNatClampNeg))) := (by unfold f_X4_send; rw [if_neg c_5, if_neg c_19, if_neg c_32, if_neg c_84])
          exact wx_iret hx hb hr hlocks hP hS (by decide) ⟨by rw [e9], by rw [e9]⟩ dX4_send_99
        · refine lv_iconst (v := 2) hx hb dX4_send_87 (by decide) ?_
          refine lv_goto (tgt := 97) hx hb dX4_send_88 (by decide) ?_
          refine wx_iast (w := (mw k)) (g := 0) (j := 3) hx hb hK hP hD hS (mIx_0 (by decide)) 0 (fun _ => rfl) rfl (m8 hI (m_rob hI c_5).1) dX4_send_97 (fun H locs hP hS => ?_)
          refine lv_iload_n hx hb dX4_send_98 rfl (lv_at hl 0 rfl) ?_
          have e9 : f_X4_send k M p1 p2 = (1, (mu (mu (mu M 0 11 ((16 * p1) + (M 0 12 p1.toNatClampNeg)).toNatClampNeg p2) 0 12 p1.toNatClampNeg (((mu M 0 11 ((16 * p1) + (M 0 12 p1.toNatClampNeg)).toNatClampNeg p2) 0 12 p1.toNatClampNeg) + 1)) 0 3 p1.toNatClampNeg 2)) := (by unfold f_X4_send; rw [if_neg c_5, if_neg c_19, if_neg c_32, if_pos c_84])
          exact wx_iret hx hb hr hlocks hP hS (by decide) ⟨by rw [e9], by rw [e9]⟩ dX4_send_99
theorem mI_send {k : MK} {M : Mem} {p1 p2 : Int32} (hI : mI k M) : mI k (f_X4_send k M p1 p2).2 := by
  unfold f_X4_send
  split
  · exact hI
  · rename_i c5
    obtain ⟨h1, h2⟩ := m_rob hI c5
    split
    · exact hI
    · split
      · exact hI
      · rename_i c32
        have key : mI k (mu (mu M 0 11 (16 * p1 + M 0 12 p1.toNatClampNeg).toNatClampNeg p2) 0 12 p1.toNatClampNeg ((mu M 0 11 (16 * p1 + M 0 12 p1.toNatClampNeg).toNatClampNeg p2) 0 12 p1.toNatClampNeg + 1)) := by
          obtain ⟨a, ha, ea⟩ := (hI.2.2.2 _ (vp_lt h1)).2.1
          have e : mu M 0 11 (16 * p1 + M 0 12 p1.toNatClampNeg).toNatClampNeg p2 0 12 p1.toNatClampNeg = nI a := by rw [mu_at, if_neg (by omega)]; exact ea
          rw [e, nI_1]
          refine mI_bxd (mI_box hI) ?_
          rw [ea, hI.1.2.2.2.2] at c32
          rcases Nat.lt_or_ge a (k.2.1 4) with q | q
          · omega
          · exact absurd (nI_le q (by have := hI.2.1.2.2.2.2.2.2.2.2.2.1; omega)) c32
        split
        · exact mI_st key (fun _ => by rw [mu_at, if_neg (by omega), mu_at, if_neg (by omega)]; exact h2)
        · exact mI_st key (fun _ => by rw [mu_at, if_neg (by omega), mu_at, if_neg (by omega)]; exact h2)
theorem rc_0 {k : MK} {M : Mem} {x : Int32} (hI : mI k M) (hx : vp_in x (k.2.1 0)) : vp_in (16 * x) 128 := by
  obtain ⟨-, ⟨b1, b2, b3, b4, b5, b6, b7, b8, b9, b10⟩, -⟩ := hI
  obtain ⟨i, hi, rfl⟩ := vp_in_of hx (by omega)
  rw [show (16 : Int32) = nI 16 from rfl, pk_mul]
  exact vp_in_nI (by omega) (by omega)
def rcB (M : Mem) (p : Int32) : Prop := ∃ b : Nat, b ≤ 15 ∧ M 0 12 p.toNatClampNeg = nI b
theorem rcB_s {M : Mem} {p : Int32} {q : Nat} {v : Int32} (h : rcB M p) : rcB (mu M 0 11 q v) p := by
  obtain ⟨b, h1, h2⟩ := h
  exact ⟨b, h1, by rw [mu_at, if_neg (by omega)]; exact h2⟩
theorem rcB_0 {k : MK} {M : Mem} {x v : Int32} {q : Nat} (hI : mI k M) (hx : vp_in x (k.2.1 0)) (c : ¬ M 0 12 x.toNatClampNeg = 0) : rcB (mu (mu M 0 8 q v) 0 12 x.toNatClampNeg (mu M 0 8 q v 0 12 x.toNatClampNeg - 1)) x := by
  obtain ⟨a, ha, ea⟩ := (hI.2.2.2 _ (vp_lt hx)).2.1
  obtain ⟨-, ⟨b1, b2, b3, b4, b5, b6, b7, b8, b9, b10⟩, -⟩ := hI
  have e : mu M 0 8 q v 0 12 x.toNatClampNeg = nI a := by rw [mu_at, if_neg (by omega)]; exact ea
  cases a with
  | zero => exact absurd (by rw [ea, nI_0]) c
  | succ a => exact ⟨a, by omega, by rw [mu_at, if_pos ⟨rfl, rfl, rfl⟩, e, nI_pred]⟩
theorem rc_e {k : MK} {M : Mem} {p1 x : Int32} {n : Nat} (h : mI k M ∧ vp_in p1 (k.2.1 0) ∧ lpI 16 n x ∧ rcB M p1) (c : ¬ M 0 12 p1.toNatClampNeg ≤ x) : ∃ i a : Nat, i < 8 ∧ a < 15 ∧ p1 = nI i ∧ x = nI a := by
  obtain ⟨b, hb, eb⟩ := h.2.2.2
  rw [eb] at c
  obtain ⟨-, ⟨b1, b2, b3, b4, b5, b6, b7, b8, b9, b10⟩, -⟩ := h.1
  obtain ⟨a, rfl, ha, -⟩ := h.2.2.1
  obtain ⟨i, hi, e⟩ := vp_in_of h.2.1 (by omega)
  have h1 : a < b := by
    rcases Nat.lt_or_ge a b with q | q
    · exact q
    · exact absurd (nI_le q (by omega)) c
  exact ⟨i, a, by omega, by omega, e, rfl⟩
theorem rc_2 {k : MK} {M : Mem} {p1 x : Int32} {n : Nat} (h : mI k M ∧ vp_in p1 (k.2.1 0) ∧ lpI 16 n x ∧ rcB M p1) (c : ¬ M 0 12 p1.toNatClampNeg ≤ x) : vp_in (16 * p1 + x) 128 := by
  obtain ⟨i, a, h1, h2, rfl, rfl⟩ := rc_e h c
  rw [show (16 : Int32) = nI 16 from rfl, pk_mul, nI_add]
  exact vp_in_nI (by omega) (by omega)
theorem rc_1 {k : MK} {M : Mem} {p1 x : Int32} {n : Nat} (h : mI k M ∧ vp_in p1 (k.2.1 0) ∧ lpI 16 n x ∧ rcB M p1) (c : ¬ M 0 12 p1.toNatClampNeg ≤ x) : vp_in (16 * p1 + x + 1) 128 := by
  obtain ⟨i, a, h1, h2, rfl, rfl⟩ := rc_e h c
  rw [show (16 : Int32) = nI 16 from rfl, pk_mul, nI_add, nI_1]
  exact vp_in_nI (by omega) (by omega)
theorem rc_s {k : MK} {M : Mem} {p1 x : Int32} {n : Nat} (h : mI k M ∧ vp_in p1 (k.2.1 0) ∧ lpI 16 (n + 1) x ∧ rcB M p1) (c : ¬ M 0 12 p1.toNatClampNeg ≤ x) : lpI 16 n (x + 1) := by
  obtain ⟨i, a, h1, h2, e1, e2⟩ := rc_e h c
  obtain ⟨a', e3, h3, h4⟩ := h.2.2.1
  subst e3
  have : a' = a := (nI_eq (by omega) (by omega)).mp e2
  exact ⟨a' + 1, nI_1 a', by omega, by omega⟩
/-- by program: the loop at 54 of RobotWorldModel.receive -/
def f_X4_receive_L54 (k : MK) (p1 : Int32) : Nat → Int32 → Mem → Mem
  | 0, _, M => M
  | n + 1, x, M =>
    if (M 0 12 p1.toNatClampNeg) ≤ x then
      M
    else
      f_X4_receive_L54 k p1 n (x + 1) (mu M 0 11 ((16 * p1) + x).toNatClampNeg (M 0 11 (((16 * p1) + x) + 1).toNatClampNeg))
set_option maxHeartbeats 4000000 in
set_option maxRecDepth 100000 in
theorem lp_X4_receive_L54 {p : Program} {l : Launch} {e : Env} {s : State} {m : MethodId} {args : Array Value} {below : List Frame} {meth : Method} {c : Code} (k : MK) (p1 : Int32)  (hx : p.tables.exec = Jvm.exec) (hb : c.code = cX4_receive) (hr : meth.sig.returnType = none) (hml : c.maxLocals = 4) (hts : ∀ x ∈ wsX4_receive, x.before args s = true) (hown : s.vm.findClass RX4 = some m.cls) (hlocks : meth.locks = false) (hK : va_K (wD (mw k)) vwCl (wT (mw k)) s) {M0 : Mem} (hD : va_D (wA (mw k)) (wW (mw k) M0)) (hZ : wZ (mw k) (wA (mw k)) s s.heap)  : ∀ (n : Nat) (x : Int32) (M : Mem) (H : Heap) (locs : List Loc) (ls : Array Slot), mI k M ∧ vp_in p1 (k.2.1 0) ∧ lpI 16 n x ∧ rcB M p1 → wP (mw k) M H → va_S (wA (mw k)) s.heap H locs → lv_has ls 4 [(3, .int x), (0, .ref (k.1 0 0)), (1, .int p1)] → ∀ (post : Mem → Prop), post (f_X4_receive_L54 k p1 n x M) → W p l e (rmK 0 0) s m args below meth c H locs 0 0 (MQ below (wQv (mw k) post) args s 0 0 (wA (mw k))) (F0 m 54 ls []) := by
  have hiX4 : ∀ x ∈ u_ws RX4 TX4 22, x ∈ wsX4_receive := by decide +kernel
  have hf41 := hts (.fieldLink RX4 41 "RobotWorldModel" "box" "[I") (by decide +kernel)
  have hf44 := hts (.fieldLink RX4 44 "RobotWorldModel" "boxed" "[I") (by decide +kernel)
  intro n
  induction n with
  | zero =>
    intro x M H locs ls hinv
    exact absurd hinv (fun h => lpI_z h.2.2.1)
  | succ n ih =>
    intro x M H locs ls hinv hP hS hl post hpo
    refine lv_iload_n hx hb dX4_receive_54 rfl (lv_at hl 0 rfl) ?_
    refine lv_aload_n hx hb dX4_receive_55 rfl (lv_at hl 1 rfl) ?_
    refine wx_get (w := (mw k)) (g := 0) (j := 0) hx hb hts hiX4 hown hK hP (mIx_0 (by decide)) rfl rfl 16 (by decide) hf44 rfl dX4_receive_56 ?_
    refine lv_iload_n hx hb dX4_receive_59 rfl (lv_at hl 2 rfl) ?_
    refine wx_iald (w := (mw k)) (g := 0) (j := 12) hx hb hK hP (mIx_0 (by decide)) 0 rfl rfl (m8 hinv.1 hinv.2.1) dX4_receive_60 ?_
    refine lv_icmp_ge (tgt := 94) hx hb dX4_receive_61 (by decide) (fun c_61 => ?_) (fun c_61 => ?_)
    · have e9 : f_X4_receive_L54 k p1 (n + 1) x M = M := (by rw [f_X4_receive_L54]; rw [if_pos c_61])
      exact wx_vret hx hb hr hlocks hP hS (by rw [e9] at hpo; exact hpo) dX4_receive_94
    · refine lv_aload_n hx hb dX4_receive_64 rfl (lv_at hl 1 rfl) ?_
      refine wx_get (w := (mw k)) (g := 0) (j := 0) hx hb hts hiX4 hown hK hP (mIx_0 (by decide)) rfl rfl 15 (by decide) hf41 rfl dX4_receive_65 ?_
      refine lv_bipush (v := 16) hx hb dX4_receive_68 (by decide) ?_
      refine lv_iload_n hx hb dX4_receive_70 rfl (lv_at hl 2 rfl) ?_
      refine lv_imul hx hb dX4_receive_71 ?_
      refine lv_iload_n hx hb dX4_receive_72 rfl (lv_at hl 0 rfl) ?_
      refine lv_iadd hx hb dX4_receive_73 ?_
      refine lv_aload_n hx hb dX4_receive_74 rfl (lv_at hl 1 rfl) ?_
      refine wx_get (w := (mw k)) (g := 0) (j := 0) hx hb hts hiX4 hown hK hP (mIx_0 (by decide)) rfl rfl 15 (by decide) hf41 rfl dX4_receive_75 ?_
      refine lv_bipush (v := 16) hx hb dX4_receive_78 (by decide) ?_
      refine lv_iload_n hx hb dX4_receive_80 rfl (lv_at hl 2 rfl) ?_
      refine lv_imul hx hb dX4_receive_81 ?_
      refine lv_iload_n hx hb dX4_receive_82 rfl (lv_at hl 0 rfl) ?_
      refine lv_iadd hx hb dX4_receive_83 ?_
      refine lv_iconst (v := 1) hx hb dX4_receive_84 (by decide) ?_
      refine lv_iadd hx hb dX4_receive_85 ?_
      refine wx_iald (w := (mw k)) (g := 0) (j := 11) hx hb hK hP (mIx_0 (by decide)) 0 rfl rfl (rc_1 hinv c_61) dX4_receive_86 ?_
      refine wx_iast (w := (mw k)) (g := 0) (j := 11) hx hb hK hP hD hS (mIx_0 (by decide)) 0 (fun _ => rfl) rfl (rc_2 hinv c_61) dX4_receive_87 (fun H locs hP hS => ?_)
      refine lv_iinc (v := (x + 1)) (lv' := [(3, .int (x + 1)), (0, .ref (k.1 0 0)), (1, .int p1)]) hx hb dX4_receive_88 hl (k := 0) rfl rfl (by decide) rfl (fun ls hl => ?_)
      refine lv_goto (tgt := 54) hx hb dX4_receive_91 (by decide) ?_
      have e9 : f_X4_receive_L54 k p1 (n + 1) x M = f_X4_receive_L54 k p1 n (x + 1) (mu M 0 11 ((16 * p1) + x).toNatClampNeg (M 0 11 (((16 * p1) + x) + 1).toNatClampNeg)) := (by rw [f_X4_receive_L54]; rw [if_neg c_61])
      exact ih (x + 1) (mu M 0 11 ((16 * p1) + x).toNatClampNeg (M 0 11 (((16 * p1) + x) + 1).toNatClampNeg)) _ _ ls (⟨mI_box hinv.1, hinv.2.1, rc_s hinv c_61, rcB_s hinv.2.2.2⟩)  hP hS (lv_sub hl [0, 1, 2] rfl) _ (by rw [e9] at hpo; exact hpo)
/-- by program, from the bytecode of RobotWorldModel.receive -/
def f_X4_receive (k : MK) (M : Mem) (p1 : Int32) (p2 : Int32) : Mem :=
  if (M 0 12 p1.toNatClampNeg) = 0 then
    (mu (mu M 0 3 p1.toNatClampNeg 4) 0 9 p1.toNatClampNeg (((mu M 0 3 p1.toNatClampNeg 4) 0 9 p1.toNatClampNeg) - 1))
  else
    f_X4_receive_L54 k p1 (k.2.1 5) 0 (mu (mu M 0 8 p2.toNatClampNeg (M 0 11 (16 * p1).toNatClampNeg)) 0 12 p1.toNatClampNeg (((mu M 0 8 p2.toNatClampNeg (M 0 11 (16 * p1).toNatClampNeg)) 0 12 p1.toNatClampNeg) - 1))
set_option maxHeartbeats 4000000 in
set_option maxRecDepth 100000 in
theorem c_X4_receive (l : Launch) (k : MK) (M : Mem) (p1 : Int32) (p2 : Int32) (hI : mI k M) (h1 : vp_in p1 (k.2.1 0)) (h2 : vp_in p2 64) : Met l yX4_receive wsX4_receive (rmK 0 0) (wPc (mw k) M [.ref (k.1 0 0), .int p1, .int p2]) (wQv (mw k) (fun u => u = f_X4_receive k M p1 p2)) 0 0 (wA (mw k)) := by
  refine wx_met (cc := cX4_receive) (maxL := 4) (ret := none) (by decide) rfl (Nat.le_of_ble_eq_true rfl) ?_
  intro p e s m below meth c ls hx hb hr hml hts hown hlocks hP hK hD hZ hS hl
  have hown : s.vm.findClass RX4 = some m.cls := hown
  have hl : lv_has ls 4 [(0, .ref (k.1 0 0)), (1, .int p1), (2, .int p2)] := hl
  have hiX4 : ∀ x ∈ u_ws RX4 TX4 22, x ∈ wsX4_receive := by decide +kernel
  have hf17 := hts (.fieldLink RX4 17 "RobotWorldModel" "state" "[I") (by decide +kernel)
  have hf32 := hts (.fieldLink RX4 32 "RobotWorldModel" "registers" "[I") (by decide +kernel)
  have hf35 := hts (.fieldLink RX4 35 "RobotWorldModel" "place" "[I") (by decide +kernel)
  have hf41 := hts (.fieldLink RX4 41 "RobotWorldModel" "box" "[I") (by decide +kernel)
  have hf44 := hts (.fieldLink RX4 44 "RobotWorldModel" "boxed" "[I") (by decide +kernel)
  refine lv_aload_n hx hb dX4_receive_0 rfl (lv_at hl 0 rfl) ?_
  refine wx_get (w := (mw k)) (g := 0) (j := 0) hx hb hts hiX4 hown hK hP (mIx_0 (by decide)) rfl rfl 16 (by decide) hf44 rfl dX4_receive_1 ?_
  refine lv_iload_n hx hb dX4_receive_4 rfl (lv_at hl 1 rfl) ?_
  refine wx_iald (w := (mw k)) (g := 0) (j := 12) hx hb hK hP (mIx_0 (by decide)) 0 rfl rfl (m8 hI h1) dX4_receive_5 ?_
  refine lv_if_ne (tgt := 27) hx hb dX4_receive_6 (by decide) (fun c_6 => ?_) (fun c_6 => ?_)
  · refine lv_aload_n hx hb dX4_receive_27 rfl (lv_at hl 0 rfl) ?_
    refine wx_get (w := (mw k)) (g := 0) (j := 0) hx hb hts hiX4 hown hK hP (mIx_0 (by decide)) rfl rfl 12 (by decide) hf32 rfl dX4_receive_28 ?_
    refine lv_iload_n hx hb dX4_receive_31 rfl (lv_at hl 2 rfl) ?_
    refine lv_aload_n hx hb dX4_receive_32 rfl (lv_at hl 0 rfl) ?_
    refine wx_get (w := (mw k)) (g := 0) (j := 0) hx hb hts hiX4 hown hK hP (mIx_0 (by decide)) rfl rfl 15 (by decide) hf41 rfl dX4_receive_33 ?_
    refine lv_bipush (v := 16) hx hb dX4_receive_36 (by decide) ?_
    refine lv_iload_n hx hb dX4_receive_38 rfl (lv_at hl 1 rfl) ?_
    refine lv_imul hx hb dX4_receive_39 ?_
    refine wx_iald (w := (mw k)) (g := 0) (j := 11) hx hb hK hP (mIx_0 (by decide)) 0 rfl rfl (rc_0 hI h1) dX4_receive_40 ?_
    refine wx_iast (w := (mw k)) (g := 0) (j := 8) hx hb hK hP hD hS (mIx_0 (by decide)) 0 (fun _ => rfl) rfl (h2) dX4_receive_41 (fun H locs hP hS => ?_)
    refine lv_aload_n hx hb dX4_receive_42 rfl (lv_at hl 0 rfl) ?_
    refine wx_get (w := (mw k)) (g := 0) (j := 0) hx hb hts hiX4 hown hK hP (mIx_0 (by decide)) rfl rfl 16 (by decide) hf44 rfl dX4_receive_43 ?_
    refine lv_iload_n hx hb dX4_receive_46 rfl (lv_at hl 1 rfl) ?_
    refine lv_dup2_11 hx hb dX4_receive_47 rfl rfl ?_
    refine wx_iald (w := (mw k)) (g := 0) (j := 12) hx hb hK hP (mIx_0 (by decide)) 0 rfl rfl (m8 hI h1) dX4_receive_48 ?_
    refine lv_iconst (v := 1) hx hb dX4_receive_49 (by decide) ?_
    refine lv_isub hx hb dX4_receive_50 ?_
    refine wx_iast (w := (mw k)) (g := 0) (j := 12) hx hb hK hP hD hS (mIx_0 (by decide)) 0 (fun _ => rfl) rfl (m8 hI h1) dX4_receive_51 (fun H locs hP hS => ?_)
    refine lv_iconst (v := 0) hx hb dX4_receive_52 (by decide) ?_
    refine lv_istore_n (lv' := [(3, .int 0), (0, .ref (k.1 0 0)), (1, .int p1), (2, .int p2)]) hx hb dX4_receive_53 rfl hl (by decide) rfl (fun ls hl => ?_)
    have e9 : f_X4_receive k M p1 p2 = f_X4_receive_L54 k p1 (k.2.1 5) 0 (mu (mu M 0 8 p2.toNatClampNeg (M 0 11 (16 * p1).toNatClampNeg)) 0 12 p1.toNatClampNeg (((mu M 0 8 p2.toNatClampNeg (M 0 11 (16 * p1).toNatClampNeg)) 0 12 p1.toNatClampNeg) - 1)) := (by unfold f_X4_receive; rw [if_neg c_6])
    exact lp_X4_receive_L54 k p1 hx hb hr hml hts hown hlocks hK hD hZ (k.2.1 5) 0 (mu (mu M 0 8 p2.toNatClampNeg (M 0 11 (16 * p1).toNatClampNeg)) 0 12 p1.toNatClampNeg (((mu M 0 8 p2.toNatClampNeg (M 0 11 (16 * p1).toNatClampNeg)) 0 12 p1.toNatClampNeg) - 1)) _ _ ls (⟨mI_rc hI h1 c_6, h1, lpF (mI_F hI) (by decide), rcB_0 hI h1 c_6⟩) hP hS (lv_sub hl [0, 1, 2] rfl) _ e9.symm
  · refine lv_aload_n hx hb dX4_receive_9 rfl (lv_at hl 0 rfl) ?_
    refine wx_get (w := (mw k)) (g := 0) (j := 0) hx hb hts hiX4 hown hK hP (mIx_0 (by decide)) rfl rfl 7 (by decide) hf17 rfl dX4_receive_10 ?_
    refine lv_iload_n hx hb dX4_receive_13 rfl (lv_at hl 1 rfl) ?_
    refine lv_iconst (v := 4) hx hb dX4_receive_14 (by decide) ?_
    refine wx_iast (w := (mw k)) (g := 0) (j := 3) hx hb hK hP hD hS (mIx_0 (by decide)) 0 (fun _ => rfl) rfl (m8 hI h1) dX4_receive_15 (fun H locs hP hS => ?_)
    refine lv_aload_n hx hb dX4_receive_16 rfl (lv_at hl 0 rfl) ?_
    refine wx_get (w := (mw k)) (g := 0) (j := 0) hx hb hts hiX4 hown hK hP (mIx_0 (by decide)) rfl rfl 13 (by decide) hf35 rfl dX4_receive_17 ?_
    refine lv_iload_n hx hb dX4_receive_20 rfl (lv_at hl 1 rfl) ?_
    refine lv_dup2_11 hx hb dX4_receive_21 rfl rfl ?_
    refine wx_iald (w := (mw k)) (g := 0) (j := 9) hx hb hK hP (mIx_0 (by decide)) 0 rfl rfl (m8 hI h1) dX4_receive_22 ?_
    refine lv_iconst (v := 1) hx hb dX4_receive_23 (by decide) ?_
    refine lv_isub hx hb dX4_receive_24 ?_
    refine wx_iast (w := (mw k)) (g := 0) (j := 9) hx hb hK hP hD hS (mIx_0 (by decide)) 0 (fun _ => rfl) rfl (m8 hI h1) dX4_receive_25 (fun H locs hP hS => ?_)
    have e9 : f_X4_receive k M p1 p2 = (mu (mu M 0 3 p1.toNatClampNeg 4) 0 9 p1.toNatClampNeg (((mu M 0 3 p1.toNatClampNeg 4) 0 9 p1.toNatClampNeg) - 1)) := (by unfold f_X4_receive; rw [if_pos c_6])
    exact wx_vret hx hb hr hlocks hP hS e9.symm dX4_receive_26
theorem mI_rv_L {k : MK} {p1 : Int32} : ∀ (n : Nat) (x : Int32) (M : Mem), mI k M → mI k (f_X4_receive_L54 k p1 n x M) := by
  intro n
  induction n with
  | zero => intro x M hI; exact hI
  | succ n ih =>
    intro x M hI
    rw [f_X4_receive_L54]
    split
    · exact hI
    · exact ih _ _ (mI_box hI)
theorem mI_receive {k : MK} {M : Mem} {p1 p2 : Int32} (hI : mI k M) (h1 : vp_in p1 (k.2.1 0)) (hs : 0 < M 0 3 p1.toNatClampNeg) : mI k (f_X4_receive k M p1 p2) := by
  unfold f_X4_receive
  split
  · exact mI_plc (mI_st hI (fun _ => hs))
  · rename_i c
    exact mI_rv_L _ _ _ (mI_rc hI h1 c)
/-- by program, from the bytecode of RobotWorldModel.reckon -/
def f_X4_reckon (k : MK) (M : Mem) (p1 : Int32) (p2 : Int32) (p3 : Int32) (p4 : Int32) (p5 : Int32) : Mem :=
  if p2 = 0 then
    (mu M 0 3 p1.toNatClampNeg 5)
  else
    if p2 = 1 then
      (mu M 0 8 p3.toNatClampNeg p5)
    else
      if p2 = 2 then
        (mu M 0 8 p3.toNatClampNeg (M 0 8 p4.toNatClampNeg))
      else
        if p2 = 3 then
          (mu M 0 8 p3.toNatClampNeg ((M 0 8 p3.toNatClampNeg) + (M 0 8 p4.toNatClampNeg)))
        else
          if p2 = 4 then
            (mu M 0 8 p3.toNatClampNeg ((M 0 8 p3.toNatClampNeg) - (M 0 8 p4.toNatClampNeg)))
          else
            if p2 = 5 then
              (mu M 0 8 p3.toNatClampNeg ((M 0 8 p3.toNatClampNeg) * (M 0 8 p4.toNatClampNeg)))
            else
              if p2 = 6 then
                if (M 0 8 p4.toNatClampNeg) = (-1) then
                  (mu M 0 8 p3.toNatClampNeg (-(M 0 8 p3.toNatClampNeg)))
                else
                  (mu M 0 8 p3.toNatClampNeg ((M 0 8 p3.toNatClampNeg) / (M 0 8 p4.toNatClampNeg)))
              else
                if p2 = 7 then
                  if (M 0 8 p4.toNatClampNeg) = (-1) then
                    (mu M 0 8 p3.toNatClampNeg 0)
                  else
                    (mu M 0 8 p3.toNatClampNeg ((M 0 8 p3.toNatClampNeg) - (M 0 8 p3.toNatClampNeg) / (M 0 8 p4.toNatClampNeg) * (M 0 8 p4.toNatClampNeg)))
                else
                  if p2 = 8 then
                    if (M 0 8 p4.toNatClampNeg) ≤ (M 0 8 p3.toNatClampNeg) then
                      (mu M 0 8 p3.toNatClampNeg 0)
                    else
                      (mu M 0 8 p3.toNatClampNeg 1)
                  else
                    if p2 = 9 then
                      if (M 0 8 p3.toNatClampNeg) = (M 0 8 p4.toNatClampNeg) then
                        (mu M 0 8 p3.toNatClampNeg 1)
                      else
                        (mu M 0 8 p3.toNatClampNeg 0)
                    else
                      if p2 = 10 then
                        (mu M 0 9 p1.toNatClampNeg p5)
                      else
                        if p2 = 11 then
                          if (M 0 8 p3.toNatClampNeg) = 0 then
                            (mu M 0 9 p1.toNatClampNeg p5)
                          else
                            if p2 = 12 then
                              if (M 0 8 p3.toNatClampNeg) = 0 then
                                (mu M 0 9 p1.toNatClampNeg (M 0 9 p1.toNatClampNeg))
                              else
                                (mu M 0 9 p1.toNatClampNeg p5)
                            else
                              (mu M 0 9 p1.toNatClampNeg (M 0 9 p1.toNatClampNeg))
                        else
                          if p2 = 12 then
                            if (M 0 8 p3.toNatClampNeg) = 0 then
                              (mu M 0 9 p1.toNatClampNeg (M 0 9 p1.toNatClampNeg))
                            else
                              (mu M 0 9 p1.toNatClampNeg p5)
                          else
                            (mu M 0 9 p1.toNatClampNeg (M 0 9 p1.toNatClampNeg))
set_option maxHeartbeats 4000000 in
set_option maxRecDepth 100000 in
theorem c_X4_reckon (l : Launch) (k : MK) (M : Mem) (p1 : Int32) (p2 : Int32) (p3 : Int32) (p4 : Int32) (p5 : Int32) (hI : mI k M) (h1 : vp_in p1 (k.2.1 0)) (h3 : vp_in p3 64) (h4 : vp_in p4 64) (hdv : p2 = 6 ∨ p2 = 7 → ¬ M 0 8 p4.toNatClampNeg = 0) : Met l yX4_reckon wsX4_reckon (rmK 0 0) (wPc (mw k) M [.ref (k.1 0 0), .int p1, .int p2, .int p3, .int p4, .int p5]) (wQv (mw k) (fun u => u = f_X4_reckon k M p1 p2 p3 p4 p5)) 0 0 (wA (mw k)) := by
  refine wx_met (cc := cX4_reckon) (maxL := 8) (ret := none) (by decide) rfl (Nat.le_of_ble_eq_true rfl) ?_
  intro p e s m below meth c ls hx hb hr hml hts hown hlocks hP hK hD hZ hS hl
  have hown : s.vm.findClass RX4 = some m.cls := hown
  have hl : lv_has ls 8 [(0, .ref (k.1 0 0)), (1, .int p1), (2, .int p2), (3, .int p3), (4, .int p4), (5, .int p5)] := hl
  have hiX4 : ∀ x ∈ u_ws RX4 TX4 22, x ∈ wsX4_reckon := by decide +kernel
  have hf17 := hts (.fieldLink RX4 17 "RobotWorldModel" "state" "[I") (by decide +kernel)
  have hf32 := hts (.fieldLink RX4 32 "RobotWorldModel" "registers" "[I") (by decide +kernel)
  have hf35 := hts (.fieldLink RX4 35 "RobotWorldModel" "place" "[I") (by decide +kernel)
  refine lv_aload_n hx hb dX4_reckon_0 rfl (lv_at hl 0 rfl) ?_
  refine wx_get (w := (mw k)) (g := 0) (j := 0) hx hb hts hiX4 hown hK hP (mIx_0 (by decide)) rfl rfl 12 (by decide) hf32 rfl dX4_reckon_1 ?_
  refine lv_iload_n hx hb dX4_reckon_4 rfl (lv_at hl 3 rfl) ?_
  refine wx_iald (w := (mw k)) (g := 0) (j := 8) hx hb hK hP (mIx_0 (by decide)) 0 rfl rfl (h3) dX4_reckon_5 ?_
  refine lv_istore (lv' := [(6, .int (M 0 8 p3.toNatClampNeg)), (0, .ref (k.1 0 0)), (1, .int p1), (2, .int p2), (3, .int p3), (4, .int p4), (5, .int p5)]) hx hb dX4_reckon_6 hl (by decide) rfl (fun ls hl => ?_)
  refine lv_aload_n hx hb dX4_reckon_8 rfl (lv_at hl 1 rfl) ?_
  refine wx_get (w := (mw k)) (g := 0) (j := 0) hx hb hts hiX4 hown hK hP (mIx_0 (by decide)) rfl rfl 12 (by decide) hf32 rfl dX4_reckon_9 ?_
  refine lv_iload hx hb dX4_reckon_12 (lv_at hl 5 rfl) ?_
  refine wx_iald (w := (mw k)) (g := 0) (j := 8) hx hb hK hP (mIx_0 (by decide)) 0 rfl rfl (h4) dX4_reckon_14 ?_
  refine lv_istore (lv' := [(7, .int (M 0 8 p4.toNatClampNeg)), (6, .int (M 0 8 p3.toNatClampNeg)), (0, .ref (k.1 0 0)), (1, .int p1), (2, .int p2), (3, .int p3), (4, .int p4), (5, .int p5)]) hx hb dX4_reckon_15 hl (by decide) rfl (fun ls hl => ?_)
  refine lv_iload_n hx hb dX4_reckon_17 rfl (lv_at hl 4 rfl) ?_
  by_cases e_18_0 : p2 = 0
  · refine lv_tableIn (tgt := 72) hx hb dX4_reckon_18 (by rw [e_18_0]; decide) (by rw [e_18_0]; decide) (by rw [e_18_0]; rfl) (by decide) ?_
    refine lv_aload_n hx hb dX4_reckon_72 rfl (lv_at hl 2 rfl) ?_
    refine wx_get (w := (mw k)) (g := 0) (j := 0) hx hb hts hiX4 hown hK hP (mIx_0 (by decide)) rfl rfl 7 (by decide) hf17 rfl dX4_reckon_73 ?_
    refine lv_iload_n hx hb dX4_reckon_76 rfl (lv_at hl 3 rfl) ?_
    refine lv_iconst (v := 5) hx hb dX4_reckon_77 (by decide) ?_
    refine wx_iast (w := (mw k)) (g := 0) (j := 3) hx hb hK hP hD hS (mIx_0 (by decide)) 0 (fun _ => rfl) rfl (m8 hI h1) dX4_reckon_78 (fun H locs hP hS => ?_)
    refine lv_goto (tgt := 283) hx hb dX4_reckon_79 (by decide) ?_
    have e9 : f_X4_reckon k M p1 p2 p3 p4 p5 = (mu M 0 3 p1.toNatClampNeg 5) := (by unfold f_X4_reckon; rw [if_pos e_18_0])
    exact wx_vret hx hb hr hlocks hP hS e9.symm dX4_reckon_283
  by_cases e_18_1 : p2 = 1
  · refine lv_tableIn (tgt := 82) hx hb dX4_reckon_18 (by rw [e_18_1]; decide) (by rw [e_18_1]; decide) (by rw [e_18_1]; rfl) (by decide) ?_
    refine lv_aload_n hx hb dX4_reckon_82 rfl (lv_at hl 2 rfl) ?_
    refine wx_get (w := (mw k)) (g := 0) (j := 0) hx hb hts hiX4 hown hK hP (mIx_0 (by decide)) rfl rfl 12 (by decide) hf32 rfl dX4_reckon_83 ?_
    refine lv_iload_n hx hb dX4_reckon_86 rfl (lv_at hl 5 rfl) ?_
    refine lv_iload hx hb dX4_reckon_87 (lv_at hl 7 rfl) ?_
    refine wx_iast (w := (mw k)) (g := 0) (j := 8) hx hb hK hP hD hS (mIx_0 (by decide)) 0 (fun _ => rfl) rfl (h3) dX4_reckon_89 (fun H locs hP hS => ?_)
    refine lv_goto (tgt := 283) hx hb dX4_reckon_90 (by decide) ?_
    have e9 : f_X4_reckon k M p1 p2 p3 p4 p5 = (mu M 0 8 p3.toNatClampNeg p5) := (by unfold f_X4_reckon; rw [if_neg e_18_0, if_pos e_18_1])
    exact wx_vret hx hb hr hlocks hP hS e9.symm dX4_reckon_283
  by_cases e_18_2 : p2 = 2
  · refine lv_tableIn (tgt := 93) hx hb dX4_reckon_18 (by rw [e_18_2]; decide) (by rw [e_18_2]; decide) (by rw [e_18_2]; rfl) (by decide) ?_
    refine lv_aload_n hx hb dX4_reckon_93 rfl (lv_at hl 2 rfl) ?_
    refine wx_get (w := (mw k)) (g := 0) (j := 0) hx hb hts hiX4 hown hK hP (mIx_0 (by decide)) rfl rfl 12 (by decide) hf32 rfl dX4_reckon_94 ?_
    refine lv_iload_n hx hb dX4_reckon_97 rfl (lv_at hl 5 rfl) ?_
    refine lv_iload hx hb dX4_reckon_98 (lv_at hl 0 rfl) ?_
    refine wx_iast (w := (mw k)) (g := 0) (j := 8) hx hb hK hP hD hS (mIx_0 (by decide)) 0 (fun _ => rfl) rfl (h3) dX4_reckon_100 (fun H locs hP hS => ?_)
    refine lv_goto (tgt := 283) hx hb dX4_reckon_101 (by decide) ?_
    have e9 : f_X4_reckon k M p1 p2 p3 p4 p5 = (mu M 0 8 p3.toNatClampNeg (M 0 8 p4.toNatClampNeg)) := (by unfold f_X4_reckon; rw [if_neg e_18_0, if_neg e_18_1, if_pos e_18_2])
    exact wx_vret hx hb hr hlocks hP hS e9.symm dX4_reckon_283
  by_cases e_18_3 : p2 = 3
  · refine lv_tableIn (tgt := 104) hx hb dX4_reckon_18 (by rw [e_18_3]; decide) (by rw [e_18_3]; decide) (by rw [e_18_3]; rfl) (by decide) ?_
    refine lv_aload_n hx hb dX4_reckon_104 rfl (lv_at hl 2 rfl) ?_
    refine wx_get (w := (mw k)) (g := 0) (j := 0) hx hb hts hiX4 hown hK hP (mIx_0 (by decide)) rfl rfl 12 (by decide) hf32 rfl dX4_reckon_105 ?_
    refine lv_iload_n hx hb dX4_reckon_108 rfl (lv_at hl 5 rfl) ?_
    refine lv_iload hx hb dX4_reckon_109 (lv_at hl 1 rfl) ?_
    refine lv_iload hx hb dX4_reckon_111 (lv_at hl 0 rfl) ?_
    refine lv_iadd hx hb dX4_reckon_113 ?_
    refine wx_iast (w := (mw k)) (g := 0) (j := 8) hx hb hK hP hD hS (mIx_0 (by decide)) 0 (fun _ => rfl) rfl (h3) dX4_reckon_114 (fun H locs hP hS => ?_)
    refine lv_goto (tgt := 283) hx hb dX4_reckon_115 (by decide) ?_
    have e9 : f_X4_reckon k M p1 p2 p3 p4 p5 = (mu M 0 8 p3.toNatClampNeg ((M 0 8 p3.toNatClampNeg) + (M 0 8 p4.toNatClampNeg))) := (by unfold f_X4_reckon; rw [if_neg e_18_0, if_neg e_18_1, if_neg e_18_2, if_pos e_18_3])
    exact wx_vret hx hb hr hlocks hP hS e9.symm dX4_reckon_283
  by_cases e_18_4 : p2 = 4
  · refine lv_tableIn (tgt := 118) hx hb dX4_reckon_18 (by rw [e_18_4]; decide) (by rw [e_18_4]; decide) (by rw [e_18_4]; rfl) (by decide) ?_
    refine lv_aload_n hx hb dX4_reckon_118 rfl (lv_at hl 2 rfl) ?_
    refine wx_get (w := (mw k)) (g := 0) (j := 0) hx hb hts hiX4 hown hK hP (mIx_0 (by decide)) rfl rfl 12 (by decide) hf32 rfl dX4_reckon_119 ?_
    refine lv_iload_n hx hb dX4_reckon_122 rfl (lv_at hl 5 rfl) ?_
    refine lv_iload hx hb dX4_reckon_123 (lv_at hl 1 rfl) ?_
    refine lv_iload hx hb dX4_reckon_125 (lv_at hl 0 rfl) ?_
    refine lv_isub hx hb dX4_reckon_127 ?_
    refine wx_iast (w := (mw k)) (g := 0) (j := 8) hx hb hK hP hD hS (mIx_0 (by decide)) 0 (fun _ => rfl) rfl (h3) dX4_reckon_128 (fun H locs hP hS => ?_)
    refine lv_goto (tgt := 283) hx hb dX4_reckon_129 (by decide) ?_
    have e9 : f_X4_reckon k M p1 p2 p3 p4 p5 = (mu M 0 8 p3.toNatClampNeg ((M 0 8 p3.toNatClampNeg) - (M 0 8 p4.toNatClampNeg))) := (by unfold f_X4_reckon; rw [if_neg e_18_0, if_neg e_18_1, if_neg e_18_2, if_neg e_18_3, if_pos e_18_4])
    exact wx_vret hx hb hr hlocks hP hS e9.symm dX4_reckon_283
  by_cases e_18_5 : p2 = 5
  · refine lv_tableIn (tgt := 132) hx hb dX4_reckon_18 (by rw [e_18_5]; decide) (by rw [e_18_5]; decide) (by rw [e_18_5]; rfl) (by decide) ?_
    refine lv_aload_n hx hb dX4_reckon_132 rfl (lv_at hl 2 rfl) ?_
    refine wx_get (w := (mw k)) (g := 0) (j := 0) hx hb hts hiX4 hown hK hP (mIx_0 (by decide)) rfl rfl 12 (by decide) hf32 rfl dX4_reckon_133 ?_
    refine lv_iload_n hx hb dX4_reckon_136 rfl (lv_at hl 5 rfl) ?_
    refine lv_iload hx hb dX4_reckon_137 (lv_at hl 1 rfl) ?_
    refine lv_iload hx hb dX4_reckon_139 (lv_at hl 0 rfl) ?_
    refine lv_imul hx hb dX4_reckon_141 ?_
    refine wx_iast (w := (mw k)) (g := 0) (j := 8) hx hb hK hP hD hS (mIx_0 (by decide)) 0 (fun _ => rfl) rfl (h3) dX4_reckon_142 (fun H locs hP hS => ?_)
    refine lv_goto (tgt := 283) hx hb dX4_reckon_143 (by decide) ?_
    have e9 : f_X4_reckon k M p1 p2 p3 p4 p5 = (mu M 0 8 p3.toNatClampNeg ((M 0 8 p3.toNatClampNeg) * (M 0 8 p4.toNatClampNeg))) := (by unfold f_X4_reckon; rw [if_neg e_18_0, if_neg e_18_1, if_neg e_18_2, if_neg e_18_3, if_neg e_18_4, if_pos e_18_5])
    exact wx_vret hx hb hr hlocks hP hS e9.symm dX4_reckon_283
  by_cases e_18_6 : p2 = 6
  · refine lv_tableIn (tgt := 146) hx hb dX4_reckon_18 (by rw [e_18_6]; decide) (by rw [e_18_6]; decide) (by rw [e_18_6]; rfl) (by decide) ?_
    refine lv_aload_n hx hb dX4_reckon_146 rfl (lv_at hl 2 rfl) ?_
    refine wx_get (w := (mw k)) (g := 0) (j := 0) hx hb hts hiX4 hown hK hP (mIx_0 (by decide)) rfl rfl 12 (by decide) hf32 rfl dX4_reckon_147 ?_
    refine lv_iload_n hx hb dX4_reckon_150 rfl (lv_at hl 5 rfl) ?_
    refine lv_iload hx hb dX4_reckon_151 (lv_at hl 0 rfl) ?_
    refine lv_iconst (v := (-1)) hx hb dX4_reckon_153 (by decide) ?_
    refine lv_icmp_ne (tgt := 163) hx hb dX4_reckon_154 (by decide) (fun c_154 => ?_) (fun c_154 => ?_)
    · refine lv_iload hx hb dX4_reckon_163 (lv_at hl 1 rfl) ?_
      refine lv_iload hx hb dX4_reckon_165 (lv_at hl 0 rfl) ?_
      refine lv_idiv hx hb dX4_reckon_167 (hdv (Or.inl e_18_6)) ?_
      refine wx_iast (w := (mw k)) (g := 0) (j := 8) hx hb hK hP hD hS (mIx_0 (by decide)) 0 (fun _ => rfl) rfl (h3) dX4_reckon_168 (fun H locs hP hS => ?_)
      refine lv_goto (tgt := 283) hx hb dX4_reckon_169 (by decide) ?_
      have e9 : f_X4_reckon k M p1 p2 p3 p4 p5 = (mu M 0 8 p3.toNatClampNeg ((M 0 8 p3.toNatClampNeg) / (M 0 8 p4.toNatClampNeg))) := (by unfold f_X4_reckon; rw [if_neg e_18_0, if_neg e_18_1, if_neg e_18_2, if_neg e_18_3, if_neg e_18_4, if_neg e_18_5, if_pos e_18_6, if_neg c_154])
      exact wx_vret hx hb hr hlocks hP hS e9.symm dX4_reckon_283
    · refine lv_iload hx hb dX4_reckon_157 (lv_at hl 1 rfl) ?_
      refine lv_ineg hx hb dX4_reckon_159 ?_
      refine lv_goto (tgt := 168) hx hb dX4_reckon_160 (by decide) ?_
      refine wx_iast (w := (mw k)) (g := 0) (j := 8) hx hb hK hP hD hS (mIx_0 (by decide)) 0 (fun _ => rfl) rfl (h3) dX4_reckon_168 (fun H locs hP hS => ?_)
      refine lv_goto (tgt := 283) hx hb dX4_reckon_169 (by decide) ?_
      have e9 : f_X4_reckon k M p1 p2 p3 p4 p5 = (mu M 0 8 p3.toNatClampNeg (-(M 0 8 p3.toNatClampNeg))) := (by unfold f_X4_reckon; rw [if_neg e_18_0, if_neg e_18_1, if_neg e_18_2, if_neg e_18_3, if_neg e_18_4, if_neg e_18_5, if_pos e_18_6, if_pos c_154])
      exact wx_vret hx hb hr hlocks hP hS e9.symm dX4_reckon_283
  by_cases e_18_7 : p2 = 7
  · refine lv_tableIn (tgt := 172) hx hb dX4_reckon_18 (by rw [e_18_7]; decide) (by rw [e_18_7]; decide) (by rw [e_18_7]; rfl) (by decide) ?_
    refine lv_aload_n hx hb dX4_reckon_172 rfl (lv_at hl 2 rfl) ?_
    refine wx_get (w := (mw k)) (g := 0) (j := 0) hx hb hts hiX4 hown hK hP (mIx_0 (by decide)) rfl rfl 12 (by decide) hf32 rfl dX4_reckon_173 ?_
    refine lv_iload_n hx hb dX4_reckon_176 rfl (lv_at hl 5 rfl) ?_
    refine lv_iload hx hb dX4_reckon_177 (lv_at hl 0 rfl) ?_
    refine lv_iconst (v := (-1)) hx hb dX4_reckon_179 (by decide) ?_
    refine lv_icmp_ne (tgt := 187) hx hb dX4_reckon_180 (by decide) (fun c_180 => ?_) (fun c_180 => ?_)
    · refine lv_iload hx hb dX4_reckon_187 (lv_at hl 1 rfl) ?_
      refine lv_iload hx hb dX4_reckon_189 (lv_at hl 0 rfl) ?_
      refine lv_irem hx hb dX4_reckon_191 (hdv (Or.inr e_18_7)) ?_
      refine wx_iast (w := (mw k)) (g := 0) (j := 8) hx hb hK hP hD hS (mIx_0 (by decide)) 0 (fun _ => rfl) rfl (h3) dX4_reckon_192 (fun H locs hP hS => ?_)
      refine lv_goto (tgt := 283) hx hb dX4_reckon_193 (by decide) ?_
      have e9 : f_X4_reckon k M p1 p2 p3 p4 p5 = (mu M 0 8 p3.toNatClampNeg ((M 0 8 p3.toNatClampNeg) - (M 0 8 p3.toNatClampNeg) / (M 0 8 p4.toNatClampNeg) * (M 0 8 p4.toNatClampNeg))) := (by unfold f_X4_reckon; rw [if_neg e_18_0, if_neg e_18_1, if_neg e_18_2, if_neg e_18_3, if_neg e_18_4, if_neg e_18_5, if_neg e_18_6, if_pos e_18_7, if_neg c_180])
      exact wx_vret hx hb hr hlocks hP hS e9.symm dX4_reckon_283
    · refine lv_iconst (v := 0) hx hb dX4_reckon_183 (by decide) ?_
      refine lv_goto (tgt := 192) hx hb dX4_reckon_184 (by decide) ?_
      refine wx_iast (w := (mw k)) (g := 0) (j := 8) hx hb hK hP hD hS (mIx_0 (by decide)) 0 (fun _ => rfl) rfl (h3) dX4_reckon_192 (fun H locs hP hS => ?_)
      refine lv_goto (tgt := 283) hx hb dX4_reckon_193 (by decide) ?_
      have e9 : f_X4_reckon k M p1 p2 p3 p4 p5 = (mu M 0 8 p3.toNatClampNeg 0) := (by unfold f_X4_reckon; rw [if_neg e_18_0, if_neg e_18_1, if_neg e_18_2, if_neg e_18_3, if_neg e_18_4, if_neg e_18_5, if_neg e_18_6, if_pos e_18_7, if_pos c_180])
      exact wx_vret hx hb hr hlocks hP hS e9.symm dX4_reckon_283
  by_cases e_18_8 : p2 = 8
  · refine lv_tableIn (tgt := 196) hx hb dX4_reckon_18 (by rw [e_18_8]; decide) (by rw [e_18_8]; decide) (by rw [e_18_8]; rfl) (by decide) ?_
    refine lv_aload_n hx hb dX4_reckon_196 rfl (lv_at hl 2 rfl) ?_
    refine wx_get (w := (mw k)) (g := 0) (j := 0) hx hb hts hiX4 hown hK hP (mIx_0 (by decide)) rfl rfl 12 (by decide) hf32 rfl dX4_reckon_197 ?_
    refine lv_iload_n hx hb dX4_reckon_200 rfl (lv_at hl 5 rfl) ?_
    refine lv_iload hx hb dX4_reckon_201 (lv_at hl 1 rfl) ?_
    refine lv_iload hx hb dX4_reckon_203 (lv_at hl 0 rfl) ?_
    refine lv_icmp_ge (tgt := 212) hx hb dX4_reckon_205 (by decide) (fun c_205 => ?_) (fun c_205 => ?_)
    · refine lv_iconst (v := 0) hx hb dX4_reckon_212 (by decide) ?_
      refine wx_iast (w := (mw k)) (g := 0) (j := 8) hx hb hK hP hD hS (mIx_0 (by decide)) 0 (fun _ => rfl) rfl (h3) dX4_reckon_213 (fun H locs hP hS => ?_)
      refine lv_goto (tgt := 283) hx hb dX4_reckon_214 (by decide) ?_
      have e9 : f_X4_reckon k M p1 p2 p3 p4 p5 = (mu M 0 8 p3.toNatClampNeg 0) := (by unfold f_X4_reckon; rw [if_neg e_18_0, if_neg e_18_1, if_neg e_18_2, if_neg e_18_3, if_neg e_18_4, if_neg e_18_5, if_neg e_18_6, if_neg e_18_7, if_pos e_18_8, if_pos c_205])
      exact wx_vret hx hb hr hlocks hP hS e9.symm dX4_reckon_283
    · refine lv_iconst (v := 1) hx hb dX4_reckon_208 (by decide) ?_
      refine lv_goto (tgt := 213) hx hb dX4_reckon_209 (by decide) ?_
      refine wx_iast (w := (mw k)) (g := 0) (j := 8) hx hb hK hP hD hS (mIx_0 (by decide)) 0 (fun _ => rfl) rfl (h3) dX4_reckon_213 (fun H locs hP hS => ?_)
      refine lv_goto (tgt := 283) hx hb dX4_reckon_214 (by decide) ?_
      have e9 : f_X4_reckon k M p1 p2 p3 p4 p5 = (mu M 0 8 p3.toNatClampNeg 1) := (by unfold f_X4_reckon; rw [if_neg e_18_0, if_neg e_18_1, if_neg e_18_2, if_neg e_18_3, if_neg e_18_4, if_neg e_18_5, if_neg e_18_6, if_neg e_18_7, if_pos e_18_8, if_neg c_205])
      exact wx_vret hx hb hr hlocks hP hS e9.symm dX4_reckon_283
  by_cases e_18_9 : p2 = 9
  · refine lv_tableIn (tgt := 217) hx hb dX4_reckon_18 (by rw [e_18_9]; decide) (by rw [e_18_9]; decide) (by rw [e_18_9]; rfl) (by decide) ?_
    refine lv_aload_n hx hb dX4_reckon_217 rfl (lv_at hl 2 rfl) ?_
    refine wx_get (w := (mw k)) (g := 0) (j := 0) hx hb hts hiX4 hown hK hP (mIx_0 (by decide)) rfl rfl 12 (by decide) hf32 rfl dX4_reckon_218 ?_
    refine lv_iload_n hx hb dX4_reckon_221 rfl (lv_at hl 5 rfl) ?_
    refine lv_iload hx hb dX4_reckon_222 (lv_at hl 1 rfl) ?_
    refine lv_iload hx hb dX4_reckon_224 (lv_at hl 0 rfl) ?_
    refine lv_icmp_ne (tgt := 233) hx hb dX4_reckon_226 (by decide) (fun c_226 => ?_) (fun c_226 => ?_)
    · refine lv_iconst (v := 0) hx hb dX4_reckon_233 (by decide) ?_
      refine wx_iast (w := (mw k)) (g := 0) (j := 8) hx hb hK hP hD hS (mIx_0 (by decide)) 0 (fun _ => rfl) rfl (h3) dX4_reckon_234 (fun H locs hP hS => ?_)
      refine lv_goto (tgt := 283) hx hb dX4_reckon_235 (by decide) ?_
      have e9 : f_X4_reckon k M p1 p2 p3 p4 p5 = (mu M 0 8 p3.toNatClampNeg 0) := (by unfold f_X4_reckon; rw [if_neg e_18_0, if_neg e_18_1, if_neg e_18_2, if_neg e_18_3, if_neg e_18_4, if_neg e_18_5, if_neg e_18_6, if_neg e_18_7, if_neg e_18_8, if_pos e_18_9, if_neg c_226])
      exact wx_vret hx hb hr hlocks hP hS e9.symm dX4_reckon_283
    · refine lv_iconst (v := 1) hx hb dX4_reckon_229 (by decide) ?_
      refine lv_goto (tgt := 234) hx hb dX4_reckon_230 (by decide) ?_
      refine wx_iast (w := (mw k)) (g := 0) (j := 8) hx hb hK hP hD hS (mIx_0 (by decide)) 0 (fun _ => rfl) rfl (h3) dX4_reckon_234 (fun H locs hP hS => ?_)
      refine lv_goto (tgt := 283) hx hb dX4_reckon_235 (by decide) ?_
      have e9 : f_X4_reckon k M p1 p2 p3 p4 p5 = (mu M 0 8 p3.toNatClampNeg 1) := (by unfold f_X4_reckon; rw [if_neg e_18_0, if_neg e_18_1, if_neg e_18_2, if_neg e_18_3, if_neg e_18_4, if_neg e_18_5, if_neg e_18_6, if_neg e_18_7, if_neg e_18_8, if_pos e_18_9, if_pos c_226])
      exact wx_vret hx hb hr hlocks hP hS e9.symm dX4_reckon_283
  have hdf : p2.toInt < 0 ∨ 9 < p2.toInt := by have n0 := lv_neT e_18_0 (a := 0) (by decide); have n1 := lv_neT e_18_1 (a := 1) (by decide); have n2 := lv_neT e_18_2 (a := 2) (by decide); have n3 := lv_neT e_18_3 (a := 3) (by decide); have n4 := lv_neT e_18_4 (a := 4) (by decide); have n5 := lv_neT e_18_5 (a := 5) (by decide); have n6 := lv_neT e_18_6 (a := 6) (by decide); have n7 := lv_neT e_18_7 (a := 7) (by decide); have n8 := lv_neT e_18_8 (a := 8) (by decide); have n9 := lv_neT e_18_9 (a := 9) (by decide);  omega
  refine lv_tableOut (tgt := 238) hx hb dX4_reckon_18 hdf (by decide) ?_
  refine lv_aload_n hx hb dX4_reckon_238 rfl (lv_at hl 2 rfl) ?_
  refine wx_get (w := (mw k)) (g := 0) (j := 0) hx hb hts hiX4 hown hK hP (mIx_0 (by decide)) rfl rfl 13 (by decide) hf35 rfl dX4_reckon_239 ?_
  refine lv_iload_n hx hb dX4_reckon_242 rfl (lv_at hl 3 rfl) ?_
  refine lv_iload_n hx hb dX4_reckon_243 rfl (lv_at hl 4 rfl) ?_
  refine lv_bipush (v := 10) hx hb dX4_reckon_244 (by decide) ?_
  refine lv_icmp_eq (tgt := 271) hx hb dX4_reckon_246 (by decide) (fun c_246 => ?_) (fun c_246 => ?_)
  · refine lv_iload hx hb dX4_reckon_271 (lv_at hl 7 rfl) ?_
    refine lv_goto (tgt := 282) hx hb dX4_reckon_273 (by decide) ?_
    refine wx_iast (w := (mw k)) (g := 0) (j := 9) hx hb hK hP hD hS (mIx_0 (by decide)) 0 (fun _ => rfl) rfl (m8 hI h1) dX4_reckon_282 (fun H locs hP hS => ?_)
    have e9 : f_X4_reckon k M p1 p2 p3 p4 p5 = (mu M 0 9 p1.toNatClampNeg p5) := (by unfold f_X4_reckon; rw [if_neg e_18_0, if_neg e_18_1, if_neg e_18_2, if_neg e_18_3, if_neg e_18_4, if_neg e_18_5, if_neg e_18_6, if_neg e_18_7, if_neg e_18_8, if_neg e_18_9, if_pos c_246])
    exact wx_vret hx hb hr hlocks hP hS e9.symm dX4_reckon_283
  · refine lv_iload_n hx hb dX4_reckon_249 rfl (lv_at hl 4 rfl) ?_
    refine lv_bipush (v := 11) hx hb dX4_reckon_250 (by decide) ?_
    refine lv_icmp_ne (tgt := 260) hx hb dX4_reckon_252 (by decide) (fun c_252 => ?_) (fun c_252 => ?_)
    · refine lv_iload_n hx hb dX4_reckon_260 rfl (lv_at hl 4 rfl) ?_
      refine lv_bipush (v := 12) hx hb dX4_reckon_261 (by decide) ?_
      refine lv_icmp_ne (tgt := 276) hx hb dX4_reckon_263 (by decide) (fun c_263 => ?_) (fun c_263 => ?_)
      · refine lv_aload_n hx hb dX4_reckon_276 rfl (lv_at hl 2 rfl) ?_
        refine wx_get (w := (mw k)) (g := 0) (j := 0) hx hb hts hiX4 hown hK hP (mIx_0 (by decide)) rfl rfl 13 (by decide) hf35 rfl dX4_reckon_277 ?_
        refine lv_iload_n hx hb dX4_reckon_280 rfl (lv_at hl 3 rfl) ?_
        refine wx_iald (w := (mw k)) (g := 0) (j := 9) hx hb hK hP (mIx_0 (by decide)) 0 rfl rfl (m8 hI h1) dX4_reckon_281 ?_
        refine wx_iast (w := (mw k)) (g := 0) (j := 9) hx hb hK hP hD hS (mIx_0 (by decide)) 0 (fun _ => rfl) rfl (m8 hI h1) dX4_reckon_282 (fun H locs hP hS => ?_)
        have e9 : f_X4_reckon k M p1 p2 p3 p4 p5 = (mu M 0 9 p1.toNatClampNeg (M 0 9 p1.toNatClampNeg)) := (by unfold f_X4_reckon; rw [if_neg e_18_0, if_neg e_18_1, if_neg e_18_2, if_neg e_18_3, if_neg e_18_4, if_neg e_18_5, if_neg e_18_6, if_neg e_18_7, if_neg e_18_8, if_neg e_18_9, if_neg c_246, if_neg c_252, if_neg c_263])
        exact wx_vret hx hb hr hlocks hP hS e9.symm dX4_reckon_283
      · refine lv_iload hx hb dX4_reckon_266 (lv_at hl 1 rfl) ?_
        refine lv_if_eq (tgt := 276) hx hb dX4_reckon_268 (by decide) (fun c_268 => ?_) (fun c_268 => ?_)
        · refine lv_aload_n hx hb dX4_reckon_276 rfl (lv_at hl 2 rfl) ?_
          refine wx_get (w := (mw k)) (g := 0) (j := 0) hx hb hts hiX4 hown hK hP (mIx_0 (by decide)) rfl rfl 13 (by decide) hf35 rfl dX4_reckon_277 ?_
          refine lv_iload_n hx hb dX4_reckon_280 rfl (lv_at hl 3 rfl) ?_
          refine wx_iald (w := (mw k)) (g := 0) (j := 9) hx hb hK hP (mIx_0 (by decide)) 0 rfl rfl (m8 hI h1) dX4_reckon_281 ?_
          refine wx_iast (w := (mw k)) (g := 0) (j := 9) hx hb hK hP hD hS (mIx_0 (by decide)) 0 (fun _ => rfl) rfl (m8 hI h1) dX4_reckon_282 (fun H locs hP hS => ?_)
          have e9 : f_X4_reckon k M p1 p2 p3 p4 p5 = (mu M 0 9 p1.toNatClampNeg (M 0 9 p1.toNatClampNeg)) := (by unfold f_X4_reckon; rw [if_neg e_18_0, if_neg e_18_1, if_neg e_18_2, if_neg e_18_3, if_neg e_18_4, if_neg e_18_5, if_neg e_18_6, if_neg e_18_7, if_neg e_18_8, if_neg e_18_9, if_neg c_246, if_neg c_252, if_pos c_263, if_pos c_268])
          exact wx_vret hx hb hr hlocks hP hS e9.symm dX4_reckon_283
        · refine lv_iload hx hb dX4_reckon_271 (lv_at hl 7 rfl) ?_
          refine lv_goto (tgt := 282) hx hb dX4_reckon_273 (by decide) ?_
          refine wx_iast (w := (mw k)) (g := 0) (j := 9) hx hb hK hP hD hS (mIx_0 (by decide)) 0 (fun _ => rfl) rfl (m8 hI h1) dX4_reckon_282 (fun H locs hP hS => ?_)
          have e9 : f_X4_reckon k M p1 p2 p3 p4 p5 = (mu M 0 9 p1.toNatClampNeg p5) := (by unfold f_X4_reckon; rw [if_neg e_18_0, if_neg e_18_1, if_neg e_18_2, if_neg e_18_3, if_neg e_18_4, if_neg e_18_5, if_neg e_18_6, if_neg e_18_7, if_neg e_18_8, if_neg e_18_9, if_neg c_246, if_neg c_252, if_pos c_263, if_neg c_268])
          exact wx_vret hx hb hr hlocks hP hS e9.symm dX4_reckon_283
    · refine lv_iload hx hb dX4_reckon_255 (lv_at hl 1 rfl) ?_
      refine lv_if_eq (tgt := 271) hx hb dX4_reckon_257 (by decide) (fun c_257 => ?_) (fun c_257 => ?_)
      · refine lv_iload hx hb dX4_reckon_271 (lv_at hl 7 rfl) ?_
        refine lv_goto (tgt := 282) hx hb dX4_reckon_273 (by decide) ?_
        refine wx_iast (w := (mw k)) (g := 0) (j := 9) hx hb hK hP hD hS (mIx_0 (by decide)) 0 (fun _ => rfl) rfl (m8 hI h1) dX4_reckon_282 (fun H locs hP hS => ?_)
        have e9 : f_X4_reckon k M p1 p2 p3 p4 p5 = (mu M 0 9 p1.toNatClampNeg p5) := (by unfold f_X4_reckon; rw [if_neg e_18_0, if_neg e_18_1, if_neg e_18_2, if_neg e_18_3, if_neg e_18_4, if_neg e_18_5, if_neg e_18_6, if_neg e_18_7, if_neg e_18_8, if_neg e_18_9, if_neg c_246, if_pos c_252, if_pos c_257])
        exact wx_vret hx hb hr hlocks hP hS e9.symm dX4_reckon_283
      · refine lv_iload_n hx hb dX4_reckon_260 rfl (lv_at hl 4 rfl) ?_
        refine lv_bipush (v := 12) hx hb dX4_reckon_261 (by decide) ?_
        refine lv_icmp_ne (tgt := 276) hx hb dX4_reckon_263 (by decide) (fun c_263 => ?_) (fun c_263 => ?_)
        · refine lv_aload_n hx hb dX4_reckon_276 rfl (lv_at hl 2 rfl) ?_
          refine wx_get (w := (mw k)) (g := 0) (j := 0) hx hb hts hiX4 hown hK hP (mIx_0 (by decide)) rfl rfl 13 (by decide) hf35 rfl dX4_reckon_277 ?_
          refine lv_iload_n hx hb dX4_reckon_280 rfl (lv_at hl 3 rfl) ?_
          refine wx_iald (w := (mw k)) (g := 0) (j := 9) hx hb hK hP (mIx_0 (by decide)) 0 rfl rfl (m8 hI h1) dX4_reckon_281 ?_
          refine wx_iast (w := (mw k)) (g := 0) (j := 9) hx hb hK hP hD hS (mIx_0 (by decide)) 0 (fun _ => rfl) rfl (m8 hI h1) dX4_reckon_282 (fun H locs hP hS => ?_)
          have e9 : f_X4_reckon k M p1 p2 p3 p4 p5 = (mu M 0 9 p1.toNatClampNeg (M 0 9 p1.toNatClampNeg)) := (by unfold f_X4_reckon; rw [if_neg e_18_0, if_neg e_18_1, if_neg e_18_2, if_neg e_18_3, if_neg e_18_4, if_neg e_18_5, if_neg e_18_6, if_neg e_18_7, if_neg e_18_8, if_neg e_18_9, if_neg c_246, if_pos c_252, if_neg c_257, if_neg c_263])
          exact wx_vret hx hb hr hlocks hP hS e9.symm dX4_reckon_283
        · refine lv_iload hx hb dX4_reckon_266 (lv_at hl 1 rfl) ?_
          refine lv_if_eq (tgt := 276) hx hb dX4_reckon_268 (by decide) (fun c_268 => ?_) (fun c_268 => ?_)
          · refine lv_aload_n hx hb dX4_reckon_276 rfl (lv_at hl 2 rfl) ?_
            refine wx_get (w := (mw k)) (g := 0) (j := 0) hx hb hts hiX4 hown hK hP (mIx_0 (by decide)) rfl rfl 13 (by decide) hf35 rfl dX4_reckon_277 ?_
            refine lv_iload_n hx hb dX4_reckon_280 rfl (lv_at hl 3 rfl) ?_
            refine wx_iald (w := (mw k)) (g := 0) (j := 9) hx hb hK hP (mIx_0 (by decide)) 0 rfl rfl (m8 hI h1) dX4_reckon_281 ?_
            refine wx_iast (w := (mw k)) (g := 0) (j := 9) hx hb hK hP hD hS (mIx_0 (by decide)) 0 (fun _ => rfl) rfl (m8 hI h1) dX4_reckon_282 (fun H locs hP hS => ?_)
            have e9 : f_X4_reckon k M p1 p2 p3 p4 p5 = (mu M 0 9 p1.toNatClampNeg (M 0 9 p1.toNatClampNeg)) := (by unfold f_X4_reckon; rw [if_neg e_18_0, if_neg e_18_1, if_neg e_18_2, if_neg e_18_3, if_neg e_18_4, if_neg e_18_5, if_neg e_18_6, if_neg e_18_7, if_neg e_18_8, if_neg e_18_9, if_neg c_246, if_pos c_252, if_neg c_257, if_pos c_263, if_pos c_268])
            exact wx_vret hx hb hr hlocks hP hS e9.symm dX4_reckon_283
          · refine lv_iload hx hb dX4_reckon_271 (lv_at hl 7 rfl) ?_
            refine lv_goto (tgt := 282) hx hb dX4_reckon_273 (by decide) ?_
            refine wx_iast (w := (mw k)) (g := 0) (j := 9) hx hb hK hP hD hS (mIx_0 (by decide)) 0 (fun _ => rfl) rfl (m8 hI h1) dX4_reckon_282 (fun H locs hP hS => ?_)
            have e9 : f_X4_reckon k M p1 p2 p3 p4 p5 = (mu M 0 9 p1.toNatClampNeg p5) := (by unfold f_X4_reckon; rw [if_neg e_18_0, if_neg e_18_1, if_neg e_18_2, if_neg e_18_3, if_neg e_18_4, if_neg e_18_5, if_neg e_18_6, if_neg e_18_7, if_neg e_18_8, if_neg e_18_9, if_neg c_246, if_pos c_252, if_neg c_257, if_pos c_263, if_neg c_268])
            exact wx_vret hx hb hr hlocks hP hS e9.symm dX4_reckon_283
theorem mI_reckon {k : MK} {M : Mem} {p1 p2 p3 p4 p5 : Int32} (hI : mI k M) (hs : 0 < M 0 3 p1.toNatClampNeg) : mI k (f_X4_reckon k M p1 p2 p3 p4 p5) := by
  unfold f_X4_reckon
  by_cases y0 : p2 = 0
  · rw [if_pos y0]
    exact (mI_st hI (fun _ => by simpa [mu_at] using hs))
  · rw [if_neg y0]
    by_cases y1 : p2 = 1
    · rw [if_pos y1]
      exact (mI_reg hI)
    · rw [if_neg y1]
      by_cases y2 : p2 = 2
      · rw [if_pos y2]
        exact (mI_reg hI)
      · rw [if_neg y2]
        by_cases y3 : p2 = 3
        · rw [if_pos y3]
          exact (mI_reg hI)
        · rw [if_neg y3]
          by_cases y4 : p2 = 4
          · rw [if_pos y4]
            exact (mI_reg hI)
          · rw [if_neg y4]
            by_cases y5 : p2 = 5
            · rw [if_pos y5]
              exact (mI_reg hI)
            · rw [if_neg y5]
              by_cases y6 : p2 = 6
              · rw [if_pos y6]
                by_cases y7 : (M 0 8 p4.toNatClampNeg) = (-1)
                · rw [if_pos y7]
                  exact (mI_reg hI)
                · rw [if_neg y7]
                  exact (mI_reg hI)
              · rw [if_neg y6]
                by_cases y7 : p2 = 7
                · rw [if_pos y7]
                  by_cases y8 : (M 0 8 p4.toNatClampNeg) = (-1)
                  · rw [if_pos y8]
                    exact (mI_reg hI)
                  · rw [if_neg y8]
                    exact (mI_reg hI)
                · rw [if_neg y7]
                  by_cases y8 : p2 = 8
                  · rw [if_pos y8]
                    by_cases y9 : (M 0 8 p4.toNatClampNeg) ≤ (M 0 8 p3.toNatClampNeg)
                    · rw [if_pos y9]
                      exact (mI_reg hI)
                    · rw [if_neg y9]
                      exact (mI_reg hI)
                  · rw [if_neg y8]
                    by_cases y9 : p2 = 9
                    · rw [if_pos y9]
                      by_cases y10 : (M 0 8 p3.toNatClampNeg) = (M 0 8 p4.toNatClampNeg)
                      · rw [if_pos y10]
                        exact (mI_reg hI)
                      · rw [if_neg y10]
                        exact (mI_reg hI)
                    · rw [if_neg y9]
                      by_cases y10 : p2 = 10
                      · rw [if_pos y10]
                        exact (mI_plc hI)
                      · rw [if_neg y10]
                        by_cases y11 : p2 = 11
                        · rw [if_pos y11]
                          by_cases y12 : (M 0 8 p3.toNatClampNeg) = 0
                          · rw [if_pos y12]
                            exact (mI_plc hI)
                          · rw [if_neg y12]
                            by_cases y13 : p2 = 12
                            · rw [if_pos y13]
                              by_cases y14 : (M 0 8 p3.toNatClampNeg) = 0
                              · rw [if_pos y14]
                                exact (mI_plc hI)
                              · rw [if_neg y14]
                                exact (mI_plc hI)
                            · rw [if_neg y13]
                              exact (mI_plc hI)
                        · rw [if_neg y11]
                          by_cases y12 : p2 = 12
                          · rw [if_pos y12]
                            by_cases y13 : (M 0 8 p3.toNatClampNeg) = 0
                            · rw [if_pos y13]
                              exact (mI_plc hI)
                            · rw [if_neg y13]
                              exact (mI_plc hI)
                          · rw [if_neg y12]
                            exact (mI_plc hI)
/-- by program, from the bytecode of RobotWorldModel.tell -/
def f_X4_tell (k : MK) (M : Mem) (p1 : Int32) (p2 : Int32) (p3 : Int32) (p4 : Int32) : Mem :=
  if p2 = 20 then
    (mu (f_X4_way k M p1 (M 0 8 p3.toNatClampNeg) (M 0 8 p4.toNatClampNeg)).2 0 8 p3.toNatClampNeg ((f_X4_way k M p1 (M 0 8 p3.toNatClampNeg) (M 0 8 p4.toNatClampNeg)).1))
  else
    if p2 = 21 then
      (mu (mu M 0 8 p3.toNatClampNeg (M 0 4 p1.toNatClampNeg)) 0 8 p4.toNatClampNeg ((mu M 0 8 p3.toNatClampNeg (M 0 4 p1.toNatClampNeg)) 0 5 p1.toNatClampNeg))
    else
      if p2 = 22 then
        (mu M 0 8 p3.toNatClampNeg p1)
      else
        if p2 = 23 then
          (mu M 0 8 p3.toNatClampNeg (M 0 0 20))
        else
          (mu M 0 8 p3.toNatClampNeg (M 0 10 p1.toNatClampNeg))
set_option maxHeartbeats 4000000 in
set_option maxRecDepth 100000 in
theorem c_X4_tell (l : Launch) (k : MK) (M : Mem) (p1 : Int32) (p2 : Int32) (p3 : Int32) (p4 : Int32) (hI : mI k M) (h1 : vp_in p1 (k.2.1 0)) (hs : 0 < M 0 3 p1.toNatClampNeg) (h3 : vp_in p3 64) (h4 : vp_in p4 64) : Met l yX4_tell wsX4_tell (rmK 7 172) (wPc (mw k) M [.ref (k.1 0 0), .int p1, .int p2, .int p3, .int p4]) (wQv (mw k) (fun u => u = f_X4_tell k M p1 p2 p3 p4)) 0 0 (wA (mw k)) := by
  refine wx_met (cc := cX4_tell) (maxL := 5) (ret := none) (by decide) rfl (Nat.le_of_ble_eq_true rfl) ?_
  intro p e s m below meth c ls hx hb hr hml hts hown hlocks hP hK hD hZ hS hl
  have hown : s.vm.findClass RX4 = some m.cls := hown
  have hl : lv_has ls 5 [(0, .ref (k.1 0 0)), (1, .int p1), (2, .int p2), (3, .int p3), (4, .int p4)] := hl
  have hiX4 : ∀ x ∈ u_ws RX4 TX4 22, x ∈ wsX4_tell := by decide +kernel
  have hf20 := hts (.fieldLink RX4 20 "RobotWorldModel" "xs" "[I") (by decide +kernel)
  have hf23 := hts (.fieldLink RX4 23 "RobotWorldModel" "ys" "[I") (by decide +kernel)
  have hf32 := hts (.fieldLink RX4 32 "RobotWorldModel" "registers" "[I") (by decide +kernel)
  have hf38 := hts (.fieldLink RX4 38 "RobotWorldModel" "load" "[I") (by decide +kernel)
  have hf82 := hts (.fieldLink RX4 82 "RobotWorldModel" "clock" "I") (by decide +kernel)
  refine lv_iload_n hx hb dX4_tell_0 rfl (lv_at hl 2 rfl) ?_
  by_cases e_1_20 : p2 = 20
  · refine lv_tableIn (tgt := 32) hx hb dX4_tell_1 (by rw [e_1_20]; decide) (by rw [e_1_20]; decide) (by rw [e_1_20]; rfl) (by decide) ?_
    refine lv_aload_n hx hb dX4_tell_32 rfl (lv_at hl 0 rfl) ?_
    refine wx_get (w := (mw k)) (g := 0) (j := 0) hx hb hts hiX4 hown hK hP (mIx_0 (by decide)) rfl rfl 12 (by decide) hf32 rfl dX4_tell_33 ?_
    refine lv_iload_n hx hb dX4_tell_36 rfl (lv_at hl 3 rfl) ?_
    refine lv_aload_n hx hb dX4_tell_37 rfl (lv_at hl 0 rfl) ?_
    refine lv_iload_n hx hb dX4_tell_38 rfl (lv_at hl 1 rfl) ?_
    refine lv_aload_n hx hb dX4_tell_39 rfl (lv_at hl 0 rfl) ?_
    refine wx_get (w := (mw k)) (g := 0) (j := 0) hx hb hts hiX4 hown hK hP (mIx_0 (by decide)) rfl rfl 12 (by decide) hf32 rfl dX4_tell_40 ?_
    refine lv_iload_n hx hb dX4_tell_43 rfl (lv_at hl 3 rfl) ?_
    refine wx_iald (w := (mw k)) (g := 0) (j := 8) hx hb hK hP (mIx_0 (by decide)) 0 rfl rfl (h3) dX4_tell_44 ?_
    refine lv_aload_n hx hb dX4_tell_45 rfl (lv_at hl 0 rfl) ?_
    refine wx_get (w := (mw k)) (g := 0) (j := 0) hx hb hts hiX4 hown hK hP (mIx_0 (by decide)) rfl rfl 12 (by decide) hf32 rfl dX4_tell_46 ?_
    refine lv_iload hx hb dX4_tell_49 (lv_at hl 4 rfl) ?_
    refine wx_iald (w := (mw k)) (g := 0) (j := 8) hx hb hK hP (mIx_0 (by decide)) 0 rfl rfl (h4) dX4_tell_51 ?_
    refine wx_Vi (w := (mw k)) ((f_X4_way k M p1 (M 0 8 p3.toNatClampNeg) (M 0 8 p4.toNatClampNeg)).1) ((f_X4_way k M p1 (M 0 8 p3.toNatClampNeg) (M 0 8 p4.toNatClampNeg)).2) [.int p1, .int (M 0 8 p3.toNatClampNeg), .int (M 0 8 p4.toNatClampNeg)] [.int p3, .ref (k.1 0 8)] (mZok k) ⟨hx, hb, hml, hown, hts⟩ (c_X4_way l k M p1 (M 0 8 p3.toNatClampNeg) (M 0 8 p4.toNatClampNeg) hI h1 hs) (cwV 3 hts gX4_tell_X4_way rfl rfl rfl (by decide +kernel) ⟨by decide, by decide⟩) (wx_recv (w := (mw k)) (g := 0) (j := 0) hK hP (mIx_0 (by decide)) rfl rfl) hP hK hD hZ hS rfl hl.1 rfl (Nat.le_of_ble_eq_true rfl) dX4_tell_52 ⟨by decide, by decide⟩ (fun H locs hP hS => ?_)
    refine wx_iast (w := (mw k)) (g := 0) (j := 8) hx hb hK hP hD hS (mIx_0 (by decide)) 0 (fun _ => rfl) rfl (h3) dX4_tell_55 (fun H locs hP hS => ?_)
    refine lv_goto (tgt := 122) hx hb dX4_tell_56 (by decide) ?_
    have e9 : f_X4_tell k M p1 p2 p3 p4 = (mu (f_X4_way k M p1 (M 0 8 p3.toNatClampNeg) (M 0 8 p4.toNatClampNeg)).2 0 8 p3.toNatClampNeg ((f_X4_way k M p1 (M 0 8 p3.toNatClampNeg) (M 0 8 p4.toNatClampNeg)).1)) := (by unfold f_X4_tell; rw [if_pos e_1_20])
    exact wx_vret hx hb hr hlocks hP hS e9.symm dX4_tell_122
  by_cases e_1_21 : p2 = 21
  · refine lv_tableIn (tgt := 59) hx hb dX4_tell_1 (by rw [e_1_21]; decide) (by rw [e_1_21]; decide) (by rw [e_1_21]; rfl) (by decide) ?_
    refine lv_aload_n hx hb dX4_tell_59 rfl (lv_at hl 0 rfl) ?_
    refine wx_get (w := (mw k)) (g := 0) (j := 0) hx hb hts hiX4 hown hK hP (mIx_0 (by decide)) rfl rfl 12 (by decide) hf32 rfl dX4_tell_60 ?_
    refine lv_iload_n hx hb dX4_tell_63 rfl (lv_at hl 3 rfl) ?_
    refine lv_aload_n hx hb dX4_tell_64 rfl (lv_at hl 0 rfl) ?_
    refine wx_get (w := (mw k)) (g := 0) (j := 0) hx hb hts hiX4 hown hK hP (mIx_0 (by decide)) rfl rfl 8 (by decide) hf20 rfl dX4_tell_65 ?_
    refine lv_iload_n hx hb dX4_tell_68 rfl (lv_at hl 1 rfl) ?_
    refine wx_iald (w := (mw k)) (g := 0) (j := 4) hx hb hK hP (mIx_0 (by decide)) 0 rfl rfl (m8 hI h1) dX4_tell_69 ?_
    refine wx_iast (w := (mw k)) (g := 0) (j := 8) hx hb hK hP hD hS (mIx_0 (by decide)) 0 (fun _ => rfl) rfl (h3) dX4_tell_70 (fun H locs hP hS => ?_)
    refine lv_aload_n hx hb dX4_tell_71 rfl (lv_at hl 0 rfl) ?_
    refine wx_get (w := (mw k)) (g := 0) (j := 0) hx hb hts hiX4 hown hK hP (mIx_0 (by decide)) rfl rfl 12 (by decide) hf32 rfl dX4_tell_72 ?_
    refine lv_iload hx hb dX4_tell_75 (lv_at hl 4 rfl) ?_
    refine lv_aload_n hx hb dX4_tell_77 rfl (lv_at hl 0 rfl) ?_
    refine wx_get (w := (mw k)) (g := 0) (j := 0) hx hb hts hiX4 hown hK hP (mIx_0 (by decide)) rfl rfl 9 (by decide) hf23 rfl dX4_tell_78 ?_
    refine lv_iload_n hx hb dX4_tell_81 rfl (lv_at hl 1 rfl) ?_
    refine wx_iald (w := (mw k)) (g := 0) (j := 5) hx hb hK hP (mIx_0 (by decide)) 0 rfl rfl (m8 hI h1) dX4_tell_82 ?_
    refine wx_iast (w := (mw k)) (g := 0) (j := 8) hx hb hK hP hD hS (mIx_0 (by decide)) 0 (fun _ => rfl) rfl (h4) dX4_tell_83 (fun H locs hP hS => ?_)
    refine lv_goto (tgt := 122) hx hb dX4_tell_84 (by decide) ?_
    have e9 : f_X4_tell k M p1 p2 p3 p4 = (mu (mu M 0 8 p3.toNatClampNeg (M 0 4 p1.toNatClampNeg)) 0 8 p4.toNatClampNeg ((mu M 0 8 p3.toNatClampNeg (M 0 4 p1.toNatClampNeg)) 0 5 p1.toNatClampNeg)) := (by unfold f_X4_tell; rw [if_neg e_1_20, if_pos e_1_21])
    exact wx_vret hx hb hr hlocks hP hS e9.symm dX4_tell_122
  by_cases e_1_22 : p2 = 22
  · refine lv_tableIn (tgt := 87) hx hb dX4_tell_1 (by rw [e_1_22]; decide) (by rw [e_1_22]; decide) (by rw [e_1_22]; rfl) (by decide) ?_
    refine lv_aload_n hx hb dX4_tell_87 rfl (lv_at hl 0 rfl) ?_
    refine wx_get (w := (mw k)) (g := 0) (j := 0) hx hb hts hiX4 hown hK hP (mIx_0 (by decide)) rfl rfl 12 (by decide) hf32 rfl dX4_tell_88 ?_
    refine lv_iload_n hx hb dX4_tell_91 rfl (lv_at hl 3 rfl) ?_
    refine lv_iload_n hx hb dX4_tell_92 rfl (lv_at hl 1 rfl) ?_
    refine wx_iast (w := (mw k)) (g := 0) (j := 8) hx hb hK hP hD hS (mIx_0 (by decide)) 0 (fun _ => rfl) rfl (h3) dX4_tell_93 (fun H locs hP hS => ?_)
    refine lv_goto (tgt := 122) hx hb dX4_tell_94 (by decide) ?_
    have e9 : f_X4_tell k M p1 p2 p3 p4 = (mu M 0 8 p3.toNatClampNeg p1) := (by unfold f_X4_tell; rw [if_neg e_1_20, if_neg e_1_21, if_pos e_1_22])
    exact wx_vret hx hb hr hlocks hP hS e9.symm dX4_tell_122
  by_cases e_1_23 : p2 = 23
  · refine lv_tableIn (tgt := 97) hx hb dX4_tell_1 (by rw [e_1_23]; decide) (by rw [e_1_23]; decide) (by rw [e_1_23]; rfl) (by decide) ?_
    refine lv_aload_n hx hb dX4_tell_97 rfl (lv_at hl 0 rfl) ?_
    refine wx_get (w := (mw k)) (g := 0) (j := 0) hx hb hts hiX4 hown hK hP (mIx_0 (by decide)) rfl rfl 12 (by decide) hf32 rfl dX4_tell_98 ?_
    refine lv_iload_n hx hb dX4_tell_101 rfl (lv_at hl 3 rfl) ?_
    refine lv_aload_n hx hb dX4_tell_102 rfl (lv_at hl 0 rfl) ?_
    refine wx_get (w := (mw k)) (g := 0) (j := 0) hx hb hts hiX4 hown hK hP (mIx_0 (by decide)) rfl rfl 20 (by decide) hf82 rfl dX4_tell_103 ?_
    refine wx_iast (w := (mw k)) (g := 0) (j := 8) hx hb hK hP hD hS (mIx_0 (by decide)) 0 (fun _ => rfl) rfl (h3) dX4_tell_106 (fun H locs hP hS => ?_)
    refine lv_goto (tgt := 122) hx hb dX4_tell_107 (by decide) ?_
    have e9 : f_X4_tell k M p1 p2 p3 p4 = (mu M 0 8 p3.toNatClampNeg (M 0 0 20)) := (by unfold f_X4_tell; rw [if_neg e_1_20, if_neg e_1_21, if_neg e_1_22, if_pos e_1_23])
    exact wx_vret hx hb hr hlocks hP hS e9.symm dX4_tell_122
  have hdf : p2.toInt < 20 ∨ 23 < p2.toInt := by have n0 := lv_neT e_1_20 (a := 20) (by decide); have n1 := lv_neT e_1_21 (a := 21) (by decide); have n2 := lv_neT e_1_22 (a := 22) (by decide); have n3 := lv_neT e_1_23 (a := 23) (by decide);  omega
  refine lv_tableOut (tgt := 110) hx hb dX4_tell_1 hdf (by decide) ?_
  refine lv_aload_n hx hb dX4_tell_110 rfl (lv_at hl 0 rfl) ?_
  refine wx_get (w := (mw k)) (g := 0) (j := 0) hx hb hts hiX4 hown hK hP (mIx_0 (by decide)) rfl rfl 12 (by decide) hf32 rfl dX4_tell_111 ?_
  refine lv_iload_n hx hb dX4_tell_114 rfl (lv_at hl 3 rfl) ?_
  refine lv_aload_n hx hb dX4_tell_115 rfl (lv_at hl 0 rfl) ?_
  refine wx_get (w := (mw k)) (g := 0) (j := 0) hx hb hts hiX4 hown hK hP (mIx_0 (by decide)) rfl rfl 14 (by decide) hf38 rfl dX4_tell_116 ?_
  refine lv_iload_n hx hb dX4_tell_119 rfl (lv_at hl 1 rfl) ?_
  refine wx_iald (w := (mw k)) (g := 0) (j := 10) hx hb hK hP (mIx_0 (by decide)) 0 rfl rfl (m8 hI h1) dX4_tell_120 ?_
  refine wx_iast (w := (mw k)) (g := 0) (j := 8) hx hb hK hP hD hS (mIx_0 (by decide)) 0 (fun _ => rfl) rfl (h3) dX4_tell_121 (fun H locs hP hS => ?_)
  have e9 : f_X4_tell k M p1 p2 p3 p4 = (mu M 0 8 p3.toNatClampNeg (M 0 10 p1.toNatClampNeg)) := (by unfold f_X4_tell; rw [if_neg e_1_20, if_neg e_1_21, if_neg e_1_22, if_neg e_1_23])
  exact wx_vret hx hb hr hlocks hP hS e9.symm dX4_tell_122
theorem mI_tell {k : MK} {M : Mem} {p1 p2 p3 p4 : Int32} (hI : mI k M) : mI k (f_X4_tell k M p1 p2 p3 p4) := by
  unfold f_X4_tell
  by_cases y0 : p2 = 20
  · rw [if_pos y0]
    exact (mI_reg (mI_way hI))
  · rw [if_neg y0]
    by_cases y1 : p2 = 21
    · rw [if_pos y1]
      exact (mI_reg (mI_reg hI))
    · rw [if_neg y1]
      by_cases y2 : p2 = 22
      · rw [if_pos y2]
        exact (mI_reg hI)
      · rw [if_neg y2]
        by_cases y3 : p2 = 23
        · rw [if_pos y3]
          exact (mI_reg hI)
        · rw [if_neg y3]
          exact (mI_reg hI)
/-- by program, from the bytecode of RobotWorldModel.act -/
def f_X4_act (k : MK) (M : Mem) (p1 : Int32) (p2 : Int32) (p3 : Int32) (p4 : Int32) : Mem :=
  if p2 = 13 then
    (mu (f_X4_go k M p1 ((M 0 8 p3.toNatClampNeg) &&& 3)).2 0 8 p4.toNatClampNeg ((f_X4_go k M p1 ((M 0 8 p3.toNatClampNeg) &&& 3)).1))
  else
    if p2 = 14 then
      (mu M 0 8 p4.toNatClampNeg (f_X4_at k M (f_X4_besideX k M (M 0 4 p1.toNatClampNeg) ((M 0 8 p3.toNatClampNeg) &&& 3)) (f_X4_besideY k M (M 0 5 p1.toNatClampNeg) ((M 0 8 p3.toNatClampNeg) &&& 3))))
    else
      if p2 = 15 then
        if (M 0 2 (f_X4_square k M (M 0 4 p1.toNatClampNeg) (M 0 5 p1.toNatClampNeg)).toNatClampNeg) ≤ 0 then
          (mu (mu (mu M 0 2 (f_X4_square k M (M 0 4 p1.toNatClampNeg) (M 0 5 p1.toNatClampNeg)).toNatClampNeg (M 0 2 (f_X4_square k M (M 0 4 p1.toNatClampNeg) (M 0 5 p1.toNatClampNeg)).toNatClampNeg)) 0 10 p1.toNatClampNeg ((mu M 0 2 (f_X4_square k M (M 0 4 p1.toNatClampNeg) (M 0 5 p1.toNatClampNeg)).toNatClampNeg (M 0 2 (f_X4_square k M (M 0 4 p1.toNatClampNeg) (M 0 5 p1.toNatClampNeg)).toNatClampNeg)) 0 10 p1.toNatClampNeg)) 0 8 p3.toNatClampNeg 0)
        else
          if 9 ≤ (M 0 10 p1.toNatClampNeg) then
            (mu (mu (mu M 0 2 (f_X4_square k M (M 0 4 p1.toNatClampNeg) (M 0 5 p1.toNatClampNeg)).toNatClampNeg (M 0 2 (f_X4_square k M (M 0 4 p1.toNatClampNeg) (M 0 5 p1.toNatClampNeg)).toNatClampNeg)) 0 10 p1.toNatClampNeg ((mu M 0 2 (f_X4_square k M (M 0 4 p1.toNatClampNeg) (M 0 5 p1.toNatClampNeg)).toNatClampNeg (M 0 2 (f_X4_square k M (M 0 4 p1.toNatClampNeg) (M 0 5 p1.toNatClampNeg)).toNatClampNeg)) 0 10 p1.toNatClampNeg)) 0 8 p3.toNatClampNeg 0)
          else
            (mu (mu (mu M 0 2 (f_X4_square k M (M 0 4 p1.toNatClampNeg) (M 0 5 p1.toNatClampNeg)).toNatClampNeg ((M 0 2 (f_X4_square k M (M 0 4 p1.toNatClampNeg) (M 0 5 p1.toNatClampNeg)).toNatClampNeg) - 1)) 0 10 p1.toNatClampNeg (((mu M 0 2 (f_X4_square k M (M 0 4 p1.toNatClampNeg) (M 0 5 p1.toNatClampNeg)).toNatClampNeg ((M 0 2 (f_X4_square k M (M 0 4 p1.toNatClampNeg) (M 0 5 p1.toNatClampNeg)).toNatClampNeg) - 1)) 0 10 p1.toNatClampNeg) + 1)) 0 8 p3.toNatClampNeg 1)
      else
        if p2 = 16 then
          if (M 0 10 p1.toNatClampNeg) ≤ 0 then
            (mu (mu (mu M 0 2 (f_X4_square k M (M 0 4 p1.toNatClampNeg) (M 0 5 p1.toNatClampNeg)).toNatClampNeg (M 0 2 (f_X4_square k M (M 0 4 p1.toNatClampNeg) (M 0 5 p1.toNatClampNeg)).toNatClampNeg)) 0 10 p1.toNatClampNeg ((mu M 0 2 (f_X4_square k M (M 0 4 p1.toNatClampNeg) (M 0 5 p1.toNatClampNeg)).toNatClampNeg (M 0 2 (f_X4_square k M (M 0 4 p1.toNatClampNeg) (M 0 5 p1.toNatClampNeg)).toNatClampNeg)) 0 10 p1.toNatClampNeg)) 0 8 p3.toNatClampNeg 0)
          else
            if 99 ≤ (M 0 2 (f_X4_square k M (M 0 4 p1.toNatClampNeg) (M 0 5 p1.toNatClampNeg)).toNatClampNeg) then
              (mu (mu (mu M 0 2 (f_X4_square k M (M 0 4 p1.toNatClampNeg) (M 0 5 p1.toNatClampNeg)).toNatClampNeg (M 0 2 (f_X4_square k M (M 0 4 p1.toNatClampNeg) (M 0 5 p1.toNatClampNeg)).toNatClampNeg)) 0 10 p1.toNatClampNeg ((mu M 0 2 (f_X4_square k M (M 0 4 p1.toNatClampNeg) (M 0 5 p1.toNatClampNeg)).toNatClampNeg (M 0 2 (f_X4_square k M (M 0 4 p1.toNatClampNeg) (M 0 5 p1.toNatClampNeg)).toNatClampNeg)) 0 10 p1.toNatClampNeg)) 0 8 p3.toNatClampNeg 0)
            else
              (mu (mu (mu M 0 2 (f_X4_square k M (M 0 4 p1.toNatClampNeg) (M 0 5 p1.toNatClampNeg)).toNatClampNeg ((M 0 2 (f_X4_square k M (M 0 4 p1.toNatClampNeg) (M 0 5 p1.toNatClampNeg)).toNatClampNeg) + 1)) 0 10 p1.toNatClampNeg (((mu M 0 2 (f_X4_square k M (M 0 4 p1.toNatClampNeg) (M 0 5 p1.toNatClampNeg)).toNatClampNeg ((M 0 2 (f_X4_square k M (M 0 4 p1.toNatClampNeg) (M 0 5 p1.toNatClampNeg)).toNatClampNeg) + 1)) 0 10 p1.toNatClampNeg) - 1)) 0 8 p3.toNatClampNeg 1)
        else
          if p2 = 17 then
            if (f_X4_send k M (M 0 8 p3.toNatClampNeg) (M 0 8 p4.toNatClampNeg)).1 = 0 then
              (mu (f_X4_send k M (M 0 8 p3.toNatClampNeg) (M 0 8 p4.toNatClampNeg)).2 0 8 p3.toNatClampNeg 0)
            else
              (mu (f_X4_send k M (M 0 8 p3.toNatClampNeg) (M 0 8 p4.toNatClampNeg)).2 0 8 p3.toNatClampNeg 1)
          else
            if p2 = 18 then
              (f_X4_receive k M p1 p3)
            else
              if p2 = 19 then
                if (M 0 8 p3.toNatClampNeg) ≤ 0 then
                  if (M 0 8 p3.toNatClampNeg) ≤ 0 then
                    (mu (mu M 0 3 p1.toNatClampNeg 2) 0 13 p1.toNatClampNeg 0)
                  else
                    (mu (mu M 0 3 p1.toNatClampNeg 2) 0 13 p1.toNatClampNeg (M 0 8 p3.toNatClampNeg))
                else
                  if (M 0 8 p3.toNatClampNeg) ≤ 0 then
                    (mu (mu M 0 3 p1.toNatClampNeg 3) 0 13 p1.toNatClampNeg 0)
                  else
                    (mu (mu M 0 3 p1.toNatClampNeg 3) 0 13 p1.toNatClampNeg (M 0 8 p3.toNatClampNeg))
              else
                (f_X4_tell k M p1 p2 p3 p4)
set_option maxHeartbeats 4000000 in
set_option maxRecDepth 100000 in
theorem c_X4_act (l : Launch) (k : MK) (M : Mem) (p1 : Int32) (p2 : Int32) (p3 : Int32) (p4 : Int32) (hI : mI k M) (h1 : vp_in p1 (k.2.1 0)) (hs : 0 < M 0 3 p1.toNatClampNeg) (h3 : vp_in p3 64) (h4 : vp_in p4 64) : Met l yX4_act wsX4_act (rmK 8 196) (wPc (mw k) M [.ref (k.1 0 0), .int p1, .int p2, .int p3, .int p4]) (wQv (mw k) (fun u => u = f_X4_act k M p1 p2 p3 p4)) 0 0 (wA (mw k)) := by
  refine wx_met (cc := cX4_act) (maxL := 9) (ret := none) (by decide) rfl (Nat.le_of_ble_eq_true rfl) ?_
  intro p e s m below meth c ls hx hb hr hml hts hown hlocks hP hK hD hZ hS hl
  have hown : s.vm.findClass RX4 = some m.cls := hown
  have hl : lv_has ls 9 [(0, .ref (k.1 0 0)), (1, .int p1), (2, .int p2), (3, .int p3), (4, .int p4)] := hl
  have hiX4 : ∀ x ∈ u_ws RX4 TX4 22, x ∈ wsX4_act := by decide +kernel
  have hf13 := hts (.fieldLink RX4 13 "RobotWorldModel" "items" "[I") (by decide +kernel)
  have hf17 := hts (.fieldLink RX4 17 "RobotWorldModel" "state" "[I") (by decide +kernel)
  have hf20 := hts (.fieldLink RX4 20 "RobotWorldModel" "xs" "[I") (by decide +kernel)
  have hf23 := hts (.fieldLink RX4 23 "RobotWorldModel" "ys" "[I") (by decide +kernel)
  have hf32 := hts (.fieldLink RX4 32 "RobotWorldModel" "registers" "[I") (by decide +kernel)
  have hf38 := hts (.fieldLink RX4 38 "RobotWorldModel" "load" "[I") (by decide +kernel)
  have hf47 := hts (.fieldLink RX4 47 "RobotWorldModel" "sleeps" "[I") (by decide +kernel)
  refine lv_aload_n hx hb dX4_act_0 rfl (lv_at hl 0 rfl) ?_
  refine wx_get (w := (mw k)) (g := 0) (j := 0) hx hb hts hiX4 hown hK hP (mIx_0 (by decide)) rfl rfl 12 (by decide) hf32 rfl dX4_act_1 ?_
  refine lv_iload_n hx hb dX4_act_4 rfl (lv_at hl 3 rfl) ?_
  refine wx_iald (w := (mw k)) (g := 0) (j := 8) hx hb hK hP (mIx_0 (by decide)) 0 rfl rfl (h3) dX4_act_5 ?_
  refine lv_istore (lv' := [(5, .int (M 0 8 p3.toNatClampNeg)), (0, .ref (k.1 0 0)), (1, .int p1), (2, .int p2), (3, .int p3), (4, .int p4)]) hx hb dX4_act_6 hl (by decide) rfl (fun ls hl => ?_)
  refine lv_aload_n hx hb dX4_act_8 rfl (lv_at hl 1 rfl) ?_
  refine wx_get (w := (mw k)) (g := 0) (j := 0) hx hb hts hiX4 hown hK hP (mIx_0 (by decide)) rfl rfl 12 (by decide) hf32 rfl dX4_act_9 ?_
  refine lv_iload hx hb dX4_act_12 (lv_at hl 5 rfl) ?_
  refine wx_iald (w := (mw k)) (g := 0) (j := 8) hx hb hK hP (mIx_0 (by decide)) 0 rfl rfl (h4) dX4_act_14 ?_
  refine lv_istore (lv' := [(6, .int (M 0 8 p4.toNatClampNeg)), (5, .int (M 0 8 p3.toNatClampNeg)), (0, .ref (k.1 0 0)), (1, .int p1), (2, .int p2), (3, .int p3), (4, .int p4)]) hx hb dX4_act_15 hl (by decide) rfl (fun ls hl => ?_)
  refine lv_aload_n hx hb dX4_act_17 rfl (lv_at hl 2 rfl) ?_
  refine wx_get (w := (mw k)) (g := 0) (j := 0) hx hb hts hiX4 hown hK hP (mIx_0 (by decide)) rfl rfl 8 (by decide) hf20 rfl dX4_act_18 ?_
  refine lv_iload_n hx hb dX4_act_21 rfl (lv_at hl 3 rfl) ?_
  refine wx_iald (w := (mw k)) (g := 0) (j := 4) hx hb hK hP (mIx_0 (by decide)) 0 rfl rfl (m8 hI h1) dX4_act_22 ?_
  refine lv_aload_n hx hb dX4_act_23 rfl (lv_at hl 2 rfl) ?_
  refine wx_get (w := (mw k)) (g := 0) (j := 0) hx hb hts hiX4 hown hK hP (mIx_0 (by decide)) rfl rfl 9 (by decide) hf23 rfl dX4_act_24 ?_
  refine lv_iload_n hx hb dX4_act_27 rfl (lv_at hl 3 rfl) ?_
  refine wx_iald (w := (mw k)) (g := 0) (j := 5) hx hb hK hP (mIx_0 (by decide)) 0 rfl rfl (m8 hI h1) dX4_act_28 ?_
  refine wx_Si (w := (mw k)) (f_X4_square k M (M 0 4 p1.toNatClampNeg) (M 0 5 p1.toNatClampNeg)) M [.int (M 0 4 p1.toNatClampNeg), .int (M 0 5 p1.toNatClampNeg)] [] (mZok k) ⟨hx, hb, hml, hown, hts⟩ (c_X4_square l k M (M 0 4 p1.toNatClampNeg) (M 0 5 p1.toNatClampNeg) ) (va_cwS 2 hts gX4_act_X4_square rfl rfl rfl (by decide +kernel) ⟨by decide, by decide⟩) hP hK hD hZ hS rfl hl.1 rfl (Nat.le_of_ble_eq_true rfl) dX4_act_29 ⟨by decide, by decide⟩ (fun H locs hP hS => ?_)
  refine lv_istore (lv' := [(7, .int (f_X4_square k M (M 0 4 p1.toNatClampNeg) (M 0 5 p1.toNatClampNeg))), (6, .int (M 0 8 p4.toNatClampNeg)), (5, .int (M 0 8 p3.toNatClampNeg)), (0, .ref (k.1 0 0)), (1, .int p1), (2, .int p2), (3, .int p3), (4, .int p4)]) hx hb dX4_act_32 hl (by decide) rfl (fun ls hl => ?_)
  refine lv_iload_n hx hb dX4_act_34 rfl (lv_at hl 5 rfl) ?_
  by_cases e_35_13 : p2 = 13
  · refine lv_tableIn (tgt := 76) hx hb dX4_act_35 (by rw [e_35_13]; decide) (by rw [e_35_13]; decide) (by rw [e_35_13]; rfl) (by decide) ?_
    refine lv_aload_n hx hb dX4_act_76 rfl (lv_at hl 3 rfl) ?_
    refine wx_get (w := (mw k)) (g := 0) (j := 0) hx hb hts hiX4 hown hK hP (mIx_0 (by decide)) rfl rfl 12 (by decide) hf32 rfl dX4_act_77 ?_
    refine lv_iload hx hb dX4_act_80 (lv_at hl 7 rfl) ?_
    refine lv_aload_n hx hb dX4_act_82 rfl (lv_at hl 3 rfl) ?_
    refine lv_iload_n hx hb dX4_act_83 rfl (lv_at hl 4 rfl) ?_
    refine lv_iload hx hb dX4_act_84 (lv_at hl 2 rfl) ?_
    refine lv_iconst (v := 3) hx hb dX4_act_86 (by decide) ?_
    refine lv_iand hx hb dX4_act_87 ?_
    refine wx_Vi (w := (mw k)) ((f_X4_go k M p1 ((M 0 8 p3.toNatClampNeg) &&& 3)).1) ((f_X4_go k M p1 ((M 0 8 p3.toNatClampNeg) &&& 3)).2) [.int p1, .int ((M 0 8 p3.toNatClampNeg) &&& 3)] [.int p4, .ref (k.1 0 8)] (mZok k) ⟨hx, hb, hml, hown, hts⟩ (c_X4_go l k M p1 ((M 0 8 p3.toNatClampNeg) &&& 3) hI h1) (cwV 2 hts gX4_act_X4_go rfl rfl rfl (by decide +kernel) ⟨by decide, by decide⟩) (wx_recv (w := (mw k)) (g := 0) (j := 0) hK hP (mIx_0 (by decide)) rfl rfl) hP hK hD hZ hS rfl hl.1 rfl (Nat.le_of_ble_eq_true rfl) dX4_act_88 ⟨by decide, by decide⟩ (fun H locs hP hS => ?_)
    refine wx_iast (w := (mw k)) (g := 0) (j := 8) hx hb hK hP hD hS (mIx_0 (by decide)) 0 (fun _ => rfl) rfl (h4) dX4_act_91 (fun H locs hP hS => ?_)
    refine lv_goto (tgt := 426) hx hb dX4_act_92 (by decide) ?_
    have e9 : f_X4_act k M p1 p2 p3 p4 = (mu (f_X4_go k M p1 ((M 0 8 p3.toNatClampNeg) &&& 3)).2 0 8 p4.toNatClampNeg ((f_X4_go k M p1 ((M 0 8 p3.toNatClampNeg) &&& 3)).1)) := (by unfold f_X4_act; rw [if_pos e_35_13])
    exact wx_vret hx hb hr hlocks hP hS e9.symm dX4_act_426
  by_cases e_35_14 : p2 = 14
  · refine lv_tableIn (tgt := 95) hx hb dX4_act_35 (by rw [e_35_14]; decide) (by rw [e_35_14]; decide) (by rw [e_35_14]; rfl) (by decide) ?_
    refine lv_aload_n hx hb dX4_act_95 rfl (lv_at hl 3 rfl) ?_
    refine wx_get (w := (mw k)) (g := 0) (j := 0) hx hb hts hiX4 hown hK hP (mIx_0 (by decide)) rfl rfl 12 (by decide) hf32 rfl dX4_act_96 ?_
    refine lv_iload hx hb dX4_act_99 (lv_at hl 7 rfl) ?_
    refine lv_aload_n hx hb dX4_act_101 rfl (lv_at hl 3 rfl) ?_
    refine lv_aload_n hx hb dX4_act_102 rfl (lv_at hl 3 rfl) ?_
    refine wx_get (w := (mw k)) (g := 0) (j := 0) hx hb hts hiX4 hown hK hP (mIx_0 (by decide)) rfl rfl 8 (by decide) hf20 rfl dX4_act_103 ?_
    refine lv_iload_n hx hb dX4_act_106 rfl (lv_at hl 4 rfl) ?_
    refine wx_iald (w := (mw k)) (g := 0) (j := 4) hx hb hK hP (mIx_0 (by decide)) 0 rfl rfl (m8 hI h1) dX4_act_107 ?_
    refine lv_iload hx hb dX4_act_108 (lv_at hl 2 rfl) ?_
    refine lv_iconst (v := 3) hx hb dX4_act_110 (by decide) ?_
    refine lv_iand hx hb dX4_act_111 ?_
    refine wx_Si (w := (mw k)) (f_X4_besideX k M (M 0 4 p1.toNatClampNeg) ((M 0 8 p3.toNatClampNeg) &&& 3)) M [.int (M 0 4 p1.toNatClampNeg), .int ((M 0 8 p3.toNatClampNeg) &&& 3)] [.ref (k.1 0 0), .int p4, .ref (k.1 0 8)] (mZok k) ⟨hx, hb, hml, hown, hts⟩ (c_X4_besideX l k M (M 0 4 p1.toNatClampNeg) ((M 0 8 p3.toNatClampNeg) &&& 3) ) (va_cwS 2 hts gX4_act_X4_besideX rfl rfl rfl (by decide +kernel) ⟨by decide, by decide⟩) hP hK hD hZ hS rfl hl.1 rfl (Nat.le_of_ble_eq_true rfl) dX4_act_112 ⟨by decide, by decide⟩ (fun H locs hP hS => ?_)
    refine lv_aload_n hx hb dX4_act_115 rfl (lv_at hl 3 rfl) ?_
    refine wx_get (w := (mw k)) (g := 0) (j := 0) hx hb hts hiX4 hown hK hP (mIx_0 (by decide)) rfl rfl 9 (by decide) hf23 rfl dX4_act_116 ?_
    refine lv_iload_n hx hb dX4_act_119 rfl (lv_at hl 4 rfl) ?_
    refine wx_iald (w := (mw k)) (g := 0) (j := 5) hx hb hK hP (mIx_0 (by decide)) 0 rfl rfl (m8 hI h1) dX4_act_120 ?_
    refine lv_iload hx hb dX4_act_121 (lv_at hl 2 rfl) ?_
    refine lv_iconst (v := 3) hx hb dX4_act_123 (by decide) ?_
    refine lv_iand hx hb dX4_act_124 ?_
    refine wx_Si (w := (mw k)) (f_X4_besideY k M (M 0 5 p1.toNatClampNeg) ((M 0 8 p3.toNatClampNeg) &&& 3)) M [.int (M 0 5 p1.toNatClampNeg), .int ((M 0 8 p3.toNatClampNeg) &&& 3)] [.int (f_X4_besideX k M (M 0 4 p1.toNatClampNeg) ((M 0 8 p3.toNatClampNeg) &&& 3)), .ref (k.1 0 0), .int p4, .ref (k.1 0 8)] (mZok k) ⟨hx, hb, hml, hown, hts⟩ (c_X4_besideY l k M (M 0 5 p1.toNatClampNeg) ((M 0 8 p3.toNatClampNeg) &&& 3) ) (va_cwS 2 hts gX4_act_X4_besideY rfl rfl rfl (by decide +kernel) ⟨by decide, by decide⟩) hP hK hD hZ hS rfl hl.1 rfl (Nat.le_of_ble_eq_true rfl) dX4_act_125 ⟨by decide, by decide⟩ (fun H locs hP hS => ?_)
    refine wx_Vi (w := (mw k)) (f_X4_at k M (f_X4_besideX k M (M 0 4 p1.toNatClampNeg) ((M 0 8 p3.toNatClampNeg) &&& 3)) (f_X4_besideY k M (M 0 5 p1.toNatClampNeg) ((M 0 8 p3.toNatClampNeg) &&& 3))) M [.int (f_X4_besideX k M (M 0 4 p1.toNatClampNeg) ((M 0 8 p3.toNatClampNeg) &&& 3)), .int (f_X4_besideY k M (M 0 5 p1.toNatClampNeg) ((M 0 8 p3.toNatClampNeg) &&& 3))] [.int p4, .ref (k.1 0 8)] (mZok k) ⟨hx, hb, hml, hown, hts⟩ (c_X4_at l k M (f_X4_besideX k M (M 0 4 p1.toNatClampNeg) ((M 0 8 p3.toNatClampNeg) &&& 3)) (f_X4_besideY k M (M 0 5 p1.toNatClampNeg) ((M 0 8 p3.toNatClampNeg) &&& 3)) hI) (cwV 2 hts gX4_act_X4_at rfl rfl rfl (by decide +kernel) ⟨by decide, by decide⟩) (wx_recv (w := (mw k)) (g := 0) (j := 0) hK hP (mIx_0 (by decide)) rfl rfl) hP hK hD hZ hS rfl hl.1 rfl (Nat.le_of_ble_eq_true rfl) dX4_act_128 ⟨by decide, by decide⟩ (fun H locs hP hS => ?_)
    refine wx_iast (w := (mw k)) (g := 0) (j := 8) hx hb hK hP hD hS (mIx_0 (by decide)) 0 (fun _ => rfl) rfl (h4) dX4_act_131 (fun H locs hP hS => ?_)
    refine lv_goto (tgt := 426) hx hb dX4_act_132 (by decide) ?_
    have e9 : f_X4_act k M p1 p2 p3 p4 = (mu M 0 8 p4.toNatClampNeg (f_X4_at k M (f_X4_besideX k M (M 0 4 p1.toNatClampNeg) ((M 0 8 p3.toNatClampNeg) &&& 3)) (f_X4_besideY k M (M 0 5 p1.toNatClampNeg) ((M 0 8 p3.toNatClampNeg) &&& 3)))) := (by unfold f_X4_act; rw [if_neg e_35_13, if_pos e_35_14])
    exact wx_vret hx hb hr hlocks hP hS e9.symm dX4_act_426
  by_cases e_35_15 : p2 = 15
  · refine lv_tableIn (tgt := 135) hx hb dX4_act_35 (by rw [e_35_15]; decide) (by rw [e_35_15]; decide) (by rw [e_35_15]; rfl) (by decide) ?_
    refine lv_aload_n hx hb dX4_act_135 rfl (lv_at hl 3 rfl) ?_
    refine wx_get (w := (mw k)) (g := 0) (j := 0) hx hb hts hiX4 hown hK hP (mIx_0 (by decide)) rfl rfl 6 (by decide) hf13 rfl dX4_act_136 ?_
    refine lv_iload hx hb dX4_act_139 (lv_at hl 0 rfl) ?_
    refine wx_iald (w := (mw k)) (g := 0) (j := 2) hx hb hK hP (mIx_0 (by decide)) 0 rfl rfl (m_at hI h1 hs) dX4_act_141 ?_
    refine lv_if_le (tgt := 160) hx hb dX4_act_142 (by decide) (fun c_142 => ?_) (fun c_142 => ?_)
    · refine lv_iconst (v := 0) hx hb dX4_act_160 (by decide) ?_
      refine lv_istore (lv' := [(8, .int 0), (7, .int (f_X4_square k M (M 0 4 p1.toNatClampNeg) (M 0 5 p1.toNatClampNeg))), (6, .int (M 0 8 p4.toNatClampNeg)), (5, .int (M 0 8 p3.toNatClampNeg)), (0, .ref (k.1 0 0)), (1, .int p1), (2, .int p2), (3, .int p3), (4, .int p4)]) hx hb dX4_act_161 hl (by decide) rfl (fun ls hl => ?_)
      refine lv_aload_n hx hb dX4_act_163 rfl (lv_at hl 4 rfl) ?_
      refine wx_get (w := (mw k)) (g := 0) (j := 0) hx hb hts hiX4 hown hK hP (mIx_0 (by decide)) rfl rfl 6 (by decide) hf13 rfl dX4_act_164 ?_
      refine lv_iload hx hb dX4_act_167 (lv_at hl 1 rfl) ?_
      refine lv_iload hx hb dX4_act_169 (lv_at hl 0 rfl) ?_
      refine lv_if_eq (tgt := 186) hx hb dX4_act_171 (by decide) (fun _ => ?_) (fun h9 => absurd h9 (by decide))
      refine lv_aload_n hx hb dX4_act_186 rfl (lv_at hl 4 rfl) ?_
      refine wx_get (w := (mw k)) (g := 0) (j := 0) hx hb hts hiX4 hown hK hP (mIx_0 (by decide)) rfl rfl 6 (by decide) hf13 rfl dX4_act_187 ?_
      refine lv_iload hx hb dX4_act_190 (lv_at hl 1 rfl) ?_
      refine wx_iald (w := (mw k)) (g := 0) (j := 2) hx hb hK hP (mIx_0 (by decide)) 0 rfl rfl (m_at hI h1 hs) dX4_act_192 ?_
      refine wx_iast (w := (mw k)) (g := 0) (j := 2) hx hb hK hP hD hS (mIx_0 (by decide)) 0 (fun _ => rfl) rfl (m_at hI h1 hs) dX4_act_193 (fun H locs hP hS => ?_)
      refine lv_aload_n hx hb dX4_act_194 rfl (lv_at hl 4 rfl) ?_
      refine wx_get (w := (mw k)) (g := 0) (j := 0) hx hb hts hiX4 hown hK hP (mIx_0 (by decide)) rfl rfl 14 (by decide) hf38 rfl dX4_act_195 ?_
      refine lv_iload_n hx hb dX4_act_198 rfl (lv_at hl 5 rfl) ?_
      refine lv_iload hx hb dX4_act_199 (lv_at hl 0 rfl) ?_
      refine lv_if_eq (tgt := 215) hx hb dX4_act_201 (by decide) (fun _ => ?_) (fun h9 => absurd h9 (by decide))
      refine lv_aload_n hx hb dX4_act_215 rfl (lv_at hl 4 rfl) ?_
      refine wx_get (w := (mw k)) (g := 0) (j := 0) hx hb hts hiX4 hown hK hP (mIx_0 (by decide)) rfl rfl 14 (by decide) hf38 rfl dX4_act_216 ?_
      refine lv_iload_n hx hb dX4_act_219 rfl (lv_at hl 5 rfl) ?_
      refine wx_iald (w := (mw k)) (g := 0) (j := 10) hx hb hK hP (mIx_0 (by decide)) 0 rfl rfl (m8 hI h1) dX4_act_220 ?_
      refine wx_iast (w := (mw k)) (g := 0) (j := 10) hx hb hK hP hD hS (mIx_0 (by decide)) 0 (fun _ => rfl) rfl (m8 hI h1) dX4_act_221 (fun H locs hP hS => ?_)
      refine lv_aload_n hx hb dX4_act_222 rfl (lv_at hl 4 rfl) ?_
      refine wx_get (w := (mw k)) (g := 0) (j := 0) hx hb hts hiX4 hown hK hP (mIx_0 (by decide)) rfl rfl 12 (by decide) hf32 rfl dX4_act_223 ?_
      refine lv_iload_n hx hb dX4_act_226 rfl (lv_at hl 7 rfl) ?_
      refine lv_iload hx hb dX4_act_227 (lv_at hl 0 rfl) ?_
      refine lv_if_eq (tgt := 236) hx hb dX4_act_229 (by decide) (fun _ => ?_) (fun h9 => absurd h9 (by decide))
      refine lv_iconst (v := 0) hx hb dX4_act_236 (by decide) ?_
      refine wx_iast (w := (mw k)) (g := 0) (j := 8) hx hb hK hP hD hS (mIx_0 (by decide)) 0 (fun _ => rfl) rfl (h3) dX4_act_237 (fun H locs hP hS => ?_)
      refine lv_goto (tgt := 426) hx hb dX4_act_238 (by decide) ?_
      have e9 : f_X4_act k M p1 p2 p3 p4 = (mu (mu (mu M 0 2 (f_X4_square k M (M 0 4 p1.toNatClampNeg) (M 0 5 p1.toNatClampNeg)).toNatClampNeg (M 0 2 (f_X4_square k M (M 0 4 p1.toNatClampNeg) (M 0 5 p1.toNatClampNeg)).toNatClampNeg)) 0 10 p1.toNatClampNeg ((mu M 0 2 (f_X4_square k M (M 0 4 p1.toNatClampNeg) (M 0 5 p1.toNatClampNeg)).toNatClampNeg (M 0 2 (f_X4_square k M (M 0 4 p1.toNatClampNeg) (M 0 5 p1.toNatClampNeg)).toNatClampNeg)) 0 10 p1.toNatClampNeg)) 0 8 p3.toNatClampNeg 0) := (by unfold f_X4_act; rw [if_neg e_35_13, if_neg e_35_14, if_pos e_35_15, if_pos c_142])
      exact wx_vret hx hb hr hlocks hP hS e9.symm dX4_act_426
    · refine lv_aload_n hx hb dX4_act_145 rfl (lv_at hl 3 rfl) ?_
      refine wx_get (w := (mw k)) (g := 0) (j := 0) hx hb hts hiX4 hown hK hP (mIx_0 (by decide)) rfl rfl 14 (by decide) hf38 rfl dX4_act_146 ?_
      refine lv_iload_n hx hb dX4_act_149 rfl (lv_at hl 4 rfl) ?_
      refine wx_iald (w := (mw k)) (g := 0) (j := 10) hx hb hK hP (mIx_0 (by decide)) 0 rfl rfl (m8 hI h1) dX4_act_150 ?_
      refine lv_bipush (v := 9) hx hb dX4_act_151 (by decide) ?_
      refine lv_icmp_ge (tgt := 160) hx hb dX4_act_153 (by decide) (fun c_153 => ?_) (fun c_153 => ?_)
      · refine lv_iconst (v := 0) hx hb dX4_act_160 (by decide) ?_
        refine lv_istore (lv' := [(8, .int 0), (7, .int (f_X4_square k M (M 0 4 p1.toNatClampNeg) (M 0 5 p1.toNatClampNeg))), (6, .int (M 0 8 p4.toNatClampNeg)), (5, .int (M 0 8 p3.toNatClampNeg)), (0, .ref (k.1 0 0)), (1, .int p1), (2, .int p2), (3, .int p3), (4, .int p4)]) hx hb dX4_act_161 hl (by decide) rfl (fun ls hl => ?_)
        refine lv_aload_n hx hb dX4_act_163 rfl (lv_at hl 4 rfl) ?_
        refine wx_get (w := (mw k)) (g := 0) (j := 0) hx hb hts hiX4 hown hK hP (mIx_0 (by decide)) rfl rfl 6 (by decide) hf13 rfl dX4_act_164 ?_
        refine lv_iload hx hb dX4_act_167 (lv_at hl 1 rfl) ?_
        refine lv_iload hx hb dX4_act_169 (lv_at hl 0 rfl) ?_
        refine lv_if_eq (tgt := 186) hx hb dX4_act_171 (by decide) (fun _ => ?_) (fun h9 => absurd h9 (by decide))
        refine lv_aload_n hx hb dX4_act_186 rfl (lv_at hl 4 rfl) ?_
        refine wx_get (w := (mw k)) (g := 0) (j := 0) hx hb hts hiX4 hown hK hP (mIx_0 (by decide)) rfl rfl 6 (by decide) hf13 rfl dX4_act_187 ?_
        refine lv_iload hx hb dX4_act_190 (lv_at hl 1 rfl) ?_
        refine wx_iald (w := (mw k)) (g := 0) (j := 2) hx hb hK hP (mIx_0 (by decide)) 0 rfl rfl (m_at hI h1 hs) dX4_act_192 ?_
        refine wx_iast (w := (mw k)) (g := 0) (j := 2) hx hb hK hP hD hS (mIx_0 (by decide)) 0 (fun _ => rfl) rfl (m_at hI h1 hs) dX4_act_193 (fun H locs hP hS => ?_)
        refine lv_aload_n hx hb dX4_act_194 rfl (lv_at hl 4 rfl) ?_
        refine wx_get (w := (mw k)) (g := 0) (j := 0) hx hb hts hiX4 hown hK hP (mIx_0 (by decide)) rfl rfl 14 (by decide) hf38 rfl dX4_act_195 ?_
        refine lv_iload_n hx hb dX4_act_198 rfl (lv_at hl 5 rfl) ?_
        refine lv_iload hx hb dX4_act_199 (lv_at hl 0 rfl) ?_
        refine lv_if_eq (tgt := 215) hx hb dX4_act_201 (by decide) (fun _ => ?_) (fun h9 => absurd h9 (by decide))
        refine lv_aload_n hx hb dX4_act_215 rfl (lv_at hl 4 rfl) ?_
        refine wx_get (w := (mw k)) (g := 0) (j := 0) hx hb hts hiX4 hown hK hP (mIx_0 (by decide)) rfl rfl 14 (by decide) hf38 rfl dX4_act_216 ?_
        refine lv_iload_n hx hb dX4_act_219 rfl (lv_at hl 5 rfl) ?_
        refine wx_iald (w := (mw k)) (g := 0) (j := 10) hx hb hK hP (mIx_0 (by decide)) 0 rfl rfl (m8 hI h1) dX4_act_220 ?_
        refine wx_iast (w := (mw k)) (g := 0) (j := 10) hx hb hK hP hD hS (mIx_0 (by decide)) 0 (fun _ => rfl) rfl (m8 hI h1) dX4_act_221 (fun H locs hP hS => ?_)
        refine lv_aload_n hx hb dX4_act_222 rfl (lv_at hl 4 rfl) ?_
        refine wx_get (w := (mw k)) (g := 0) (j := 0) hx hb hts hiX4 hown hK hP (mIx_0 (by decide)) rfl rfl 12 (by decide) hf32 rfl dX4_act_223 ?_
        refine lv_iload_n hx hb dX4_act_226 rfl (lv_at hl 7 rfl) ?_
        refine lv_iload hx hb dX4_act_227 (lv_at hl 0 rfl) ?_
        refine lv_if_eq (tgt := 236) hx hb dX4_act_229 (by decide) (fun _ => ?_) (fun h9 => absurd h9 (by decide))
        refine lv_iconst (v := 0) hx hb dX4_act_236 (by decide) ?_
        refine wx_iast (w := (mw k)) (g := 0) (j := 8) hx hb hK hP hD hS (mIx_0 (by decide)) 0 (fun _ => rfl) rfl (h3) dX4_act_237 (fun H locs hP hS => ?_)
        refine lv_goto (tgt := 426) hx hb dX4_act_238 (by decide) ?_
        have e9 : f_X4_act k M p1 p2 p3 p4 = (mu (mu (mu M 0 2 (f_X4_square k M (M 0 4 p1.toNatClampNeg) (M 0 5 p1.toNatClampNeg)).toNatClampNeg (M 0 2 (f_X4_square k M (M 0 4 p1.toNatClampNeg) (M 0 5 p1.toNatClampNeg)).toNatClampNeg)) 0 10 p1.toNatClampNeg ((mu M 0 2 (f_X4_square k M (M 0 4 p1.toNatClampNeg) (M 0 5 p1.toNatClampNeg)).toNatClampNeg (M 0 2 (f_X4_square k M (M 0 4 p1.toNatClampNeg) (M 0 5 p1.toNatClampNeg)).toNatClampNeg)) 0 10 p1.toNatClampNeg)) 0 8 p3.toNatClampNeg 0) := (by unfold f_X4_act; rw [if_neg e_35_13, if_neg e_35_14, if_pos e_35_15, if_neg c_142, if_pos c_153])
        exact wx_vret hx hb hr hlocks hP hS e9.symm dX4_act_426
      · refine lv_iconst (v := 1) hx hb dX4_act_156 (by decide) ?_
        refine lv_goto (tgt := 161) hx hb dX4_act_157 (by decide) ?_
        refine lv_istore (lv' := [(8, .int 1), (7, .int (f_X4_square k M (M 0 4 p1.toNatClampNeg) (M 0 5 p1.toNatClampNeg))), (6, .int (M 0 8 p4.toNatClampNeg)), (5, .int (M 0 8 p3.toNatClampNeg)), (0, .ref (k.1 0 0)), (1, .int p1), (2, .int p2), (3, .int p3), (4, .int p4)]) hx hb dX4_act_161 hl (by decide) rfl (fun ls hl => ?_)
        refine lv_aload_n hx hb dX4_act_163 rfl (lv_at hl 4 rfl) ?_
        refine wx_get (w := (mw k)) (g := 0) (j := 0) hx hb hts hiX4 hown hK hP (mIx_0 (by decide)) rfl rfl 6 (by decide) hf13 rfl dX4_act_164 ?_
        refine lv_iload hx hb dX4_act_167 (lv_at hl 1 rfl) ?_
        refine lv_iload hx hb dX4_act_169 (lv_at hl 0 rfl) ?_
        refine lv_if_eq (tgt := 186) hx hb dX4_act_171 (by decide) (fun h9 => absurd h9 (by decide)) (fun _ => ?_)
        refine lv_aload_n hx hb dX4_act_174 rfl (lv_at hl 4 rfl) ?_
        refine wx_get (w := (mw k)) (g := 0) (j := 0) hx hb hts hiX4 hown hK hP (mIx_0 (by decide)) rfl rfl 6 (by decide) hf13 rfl dX4_act_175 ?_
        refine lv_iload hx hb dX4_act_178 (lv_at hl 1 rfl) ?_
        refine wx_iald (w := (mw k)) (g := 0) (j := 2) hx hb hK hP (mIx_0 (by decide)) 0 rfl rfl (m_at hI h1 hs) dX4_act_180 ?_
        refine lv_iconst (v := 1) hx hb dX4_act_181 (by decide) ?_
        refine lv_isub hx hb dX4_act_182 ?_
        refine lv_goto (tgt := 193) hx hb dX4_act_183 (by decide) ?_
        refine wx_iast (w := (mw k)) (g := 0) (j := 2) hx hb hK hP hD hS (mIx_0 (by decide)) 0 (fun _ => rfl) rfl (m_at hI h1 hs) dX4_act_193 (fun H locs hP hS => ?_)
        refine lv_aload_n hx hb dX4_act_194 rfl (lv_at hl 4 rfl) ?_
        refine wx_get (w := (mw k)) (g := 0) (j := 0) hx hb hts hiX4 hown hK hP (mIx_0 (by decide)) rfl rfl 14 (by decide) hf38 rfl dX4_act_195 ?_
        refine lv_iload_n hx hb dX4_act_198 rfl (lv_at hl 5 rfl) ?_
        refine lv_iload hx hb dX4_act_199 (lv_at hl 0 rfl) ?_
        refine lv_if_eq (tgt := 215) hx hb dX4_act_201 (by decide) (fun h9 => absurd h9 (by decide)) (fun _ => ?_)
        refine lv_aload_n hx hb dX4_act_204 rfl (lv_at hl 4 rfl) ?_
        refine wx_get (w := (mw k)) (g := 0) (j := 0) hx hb hts hiX4 hown hK hP (mIx_0 (by decide)) rfl rfl 14 (by decide) hf38 rfl dX4_act_205 ?_
        refine lv_iload_n hx hb dX4_act_208 rfl (lv_at hl 5 rfl) ?_
        refine wx_iald (w := (mw k)) (g := 0) (j := 10) hx hb hK hP (mIx_0 (by decide)) 0 rfl rfl (m8 hI h1) dX4_act_209 ?_
        refine lv_iconst (v := 1) hx hb dX4_act_210 (by decide) ?_
        refine lv_iadd hx hb dX4_act_211 ?_
        refine lv_goto (tgt := 221) hx hb dX4_act_212 (by decide) ?_
        refine wx_iast (w := (mw k)) (g := 0) (j := 10) hx hb hK hP hD hS (mIx_0 (by decide)) 0 (fun _ => rfl) rfl (m8 hI h1) dX4_act_221 (fun H locs hP hS => ?_)
        refine lv_aload_n hx hb dX4_act_222 rfl (lv_at hl 4 rfl) ?_
        refine wx_get (w := (mw k)) (g := 0) (j := 0) hx hb hts hiX4 hown hK hP (mIx_0 (by decide)) rfl rfl 12 (by decide) hf32 rfl dX4_act_223 ?_
        refine lv_iload_n hx hb dX4_act_226 rfl (lv_at hl 7 rfl) ?_
        refine lv_iload hx hb dX4_act_227 (lv_at hl 0 rfl) ?_
        refine lv_if_eq (tgt := 236) hx hb dX4_act_229 (by decide) (fun h9 => absurd h9 (by decide)) (fun _ => ?_)
        refine lv_iconst (v := 1) hx hb dX4_act_232 (by decide) ?_
        refine lv_goto (tgt := 237) hx hb dX4_act_233 (by decide) ?_
        refine wx_iast (w := (mw k)) (g := 0) (j := 8) hx hb hK hP hD hS (mIx_0 (by decide)) 0 (fun _ => rfl) rfl (h3) dX4_act_237 (fun H locs hP hS => ?_)
        refine lv_goto (tgt := 426) hx hb dX4_act_238 (by decide) ?_
        have e9 : f_X4_act k M p1 p2 p3 p4 = (mu (mu (mu M 0 2 (f_X4_square k M (M 0 4 p1.toNatClampNeg) (M 0 5 p1.toNatClampNeg)).toNatClampNeg ((M 0 2 (f_X4_square k M (M 0 4 p1.toNatClampNeg) (M 0 5 p1.toNatClampNeg)).toNatClampNeg) - 1)) 0 10 p1.toNatClampNeg (((mu M 0 2 (f_X4_square k M (M 0 4 p1.toNatClampNeg) (M 0 5 p1.toNatClampNeg)).toNatClampNeg ((M 0 2 (f_X4_square k M (M 0 4 p1.toNatClampNeg) (M 0 5 p1.toNatClampNeg)).toNatClampNeg) - 1)) 0 10 p1.toNatClampNeg) + 1)) 0 8 p3.toNatClampNeg 1) := (by unfold f_X4_act; rw [if_neg e_35_13, if_neg e_35_14, if_pos e_35_15, if_neg c_142, if_neg c_153])
        exact wx_vret hx hb hr hlocks hP hS e9.symm dX4_act_426
  by_cases e_35_16 : p2 = 16
  · refine lv_tableIn (tgt := 241) hx hb dX4_act_35 (by rw [e_35_16]; decide) (by rw [e_35_16]; decide) (by rw [e_35_16]; rfl) (by decide) ?_
    refine lv_aload_n hx hb dX4_act_241 rfl (lv_at hl 3 rfl) ?_
    refine wx_get (w := (mw k)) (g := 0) (j := 0) hx hb hts hiX4 hown hK hP (mIx_0 (by decide)) rfl rfl 14 (by decide) hf38 rfl dX4_act_242 ?_
    refine lv_iload_n hx hb dX4_act_245 rfl (lv_at hl 4 rfl) ?_
    refine wx_iald (w := (mw k)) (g := 0) (j := 10) hx hb hK hP (mIx_0 (by decide)) 0 rfl rfl (m8 hI h1) dX4_act_246 ?_
    refine lv_if_le (tgt := 266) hx hb dX4_act_247 (by decide) (fun c_247 => ?_) (fun c_247 => ?_)
    · refine lv_iconst (v := 0) hx hb dX4_act_266 (by decide) ?_
      refine lv_istore (lv' := [(8, .int 0), (7, .int (f_X4_square k M (M 0 4 p1.toNatClampNeg) (M 0 5 p1.toNatClampNeg))), (6, .int (M 0 8 p4.toNatClampNeg)), (5, .int (M 0 8 p3.toNatClampNeg)), (0, .ref (k.1 0 0)), (1, .int p1), (2, .int p2), (3, .int p3), (4, .int p4)]) hx hb dX4_act_267 hl (by decide) rfl (fun ls hl => ?_)
      refine lv_aload_n hx hb dX4_act_269 rfl (lv_at hl 4 rfl) ?_
      refine wx_get (w := (mw k)) (g := 0) (j := 0) hx hb hts hiX4 hown hK hP (mIx_0 (by decide)) rfl rfl 6 (by decide) hf13 rfl dX4_act_270 ?_
      refine lv_iload hx hb dX4_act_273 (lv_at hl 1 rfl) ?_
      refine lv_iload hx hb dX4_act_275 (lv_at hl 0 rfl) ?_
      refine lv_if_eq (tgt := 292) hx hb dX4_act_277 (by decide) (fun _ => ?_) (fun h9 => absurd h9 (by decide))
      refine lv_aload_n hx hb dX4_act_292 rfl (lv_at hl 4 rfl) ?_
      refine wx_get (w := (mw k)) (g := 0) (j := 0) hx hb hts hiX4 hown hK hP (mIx_0 (by decide)) rfl rfl 6 (by decide) hf13 rfl dX4_act_293 ?_
      refine lv_iload hx hb dX4_act_296 (lv_at hl 1 rfl) ?_
      refine wx_iald (w := (mw k)) (g := 0) (j := 2) hx hb hK hP (mIx_0 (by decide)) 0 rfl rfl (m_at hI h1 hs) dX4_act_298 ?_
      refine wx_iast (w := (mw k)) (g := 0) (j := 2) hx hb hK hP hD hS (mIx_0 (by decide)) 0 (fun _ => rfl) rfl (m_at hI h1 hs) dX4_act_299 (fun H locs hP hS => ?_)
      refine lv_aload_n hx hb dX4_act_300 rfl (lv_at hl 4 rfl) ?_
      refine wx_get (w := (mw k)) (g := 0) (j := 0) hx hb hts hiX4 hown hK hP (mIx_0 (by decide)) rfl rfl 14 (by decide) hf38 rfl dX4_act_301 ?_
      refine lv_iload_n hx hb dX4_act_304 rfl (lv_at hl 5 rfl) ?_
      refine lv_iload hx hb dX4_act_305 (lv_at hl 0 rfl) ?_
      refine lv_if_eq (tgt := 321) hx hb dX4_act_307 (by decide) (fun _ => ?_) (fun h9 => absurd h9 (by decide))
      refine lv_aload_n hx hb dX4_act_321 rfl (lv_at hl 4 rfl) ?_
      refine wx_get (w := (mw k)) (g := 0) (j := 0) hx hb hts hiX4 hown hK hP (mIx_0 (by decide)) rfl rfl 14 (by decide) hf38 rfl dX4_act_322 ?_
      refine lv_iload_n hx hb dX4_act_325 rfl (lv_at hl 5 rfl) ?_
      refine wx_iald (w := (mw k)) (g := 0) (j := 10) hx hb hK hP (mIx_0 (by decide)) 0 rfl rfl (m8 hI h1) dX4_act_326 ?_
      refine wx_iast (w := (mw k)) (g := 0) (j := 10) hx hb hK hP hD hS (mIx_0 (by decide)) 0 (fun _ => rfl) rfl (m8 hI h1) dX4_act_327 (fun H locs hP hS => ?_)
      refine lv_aload_n hx hb dX4_act_328 rfl (lv_at hl 4 rfl) ?_
      refine wx_get (w := (mw k)) (g := 0) (j := 0) hx hb hts hiX4 hown hK hP (mIx_0 (by decide)) rfl rfl 12 (by decide) hf32 rfl dX4_act_329 ?_
      refine lv_iload_n hx hb dX4_act_332 rfl (lv_at hl 7 rfl) ?_
      refine lv_iload hx hb dX4_act_333 (lv_at hl 0 rfl) ?_
      refine lv_if_eq (tgt := 342) hx hb dX4_act_335 (by decide) (fun _ => ?_) (fun h9 => absurd h9 (by decide))
      refine lv_iconst (v := 0) hx hb dX4_act_342 (by decide) ?_
      refine wx_iast (w := (mw k)) (g := 0) (j := 8) hx hb hK hP hD hS (mIx_0 (by decide)) 0 (fun _ => rfl) rfl (h3) dX4_act_343 (fun H locs hP hS => ?_)
      refine lv_goto (tgt := 426) hx hb dX4_act_344 (by decide) ?_
      have e9 : f_X4_act k M p1 p2 p3 p4 = (mu (mu (mu M 0 2 (f_X4_square k M (M 0 4 p1.toNatClampNeg) (M 0 5 p1.toNatClampNeg)).toNatClampNeg (M 0 2 (f_X4_square k M (M 0 4 p1.toNatClampNeg) (M 0 5 p1.toNatClampNeg)).toNatClampNeg)) 0 10 p1.toNatClampNeg ((mu M 0 2 (f_X4_square k M (M 0 4 p1.toNatClampNeg) (M 0 5 p1.toNatClampNeg)).toNatClampNeg (M 0 2 (f_X4_square k M (M 0 4 p1.toNatClampNeg) (M 0 5 p1.toNatClampNeg)).toNatClampNeg)) 0 10 p1.toNatClampNeg)) 0 8 p3.toNatClampNeg 0) := (by unfold f_X4_act; rw [if_neg e_35_13, if_neg e_35_14, if_neg e_35_15, if_pos e_35_16, if_pos c_247])
      exact wx_vret hx hb hr hlocks hP hS e9.symm dX4_act_426
    · refine lv_aload_n hx hb dX4_act_250 rfl (lv_at hl 3 rfl) ?_
      refine wx_get (w := (mw k)) (g := 0) (j := 0) hx hb hts hiX4 hown hK hP (mIx_0 (by decide)) rfl rfl 6 (by decide) hf13 rfl dX4_act_251 ?_
      refine lv_iload hx hb dX4_act_254 (lv_at hl 0 rfl) ?_
      refine wx_iald (w := (mw k)) (g := 0) (j := 2) hx hb hK hP (mIx_0 (by decide)) 0 rfl rfl (m_at hI h1 hs) dX4_act_256 ?_
      refine lv_bipush (v := 99) hx hb dX4_act_257 (by decide) ?_
      refine lv_icmp_ge (tgt := 266) hx hb dX4_act_259 (by decide) (fun c_259 => ?_) (fun c_259 => ?_)
      · refine lv_iconst (v := 0) hx hb dX4_act_266 (by decide) ?_
        refine lv_istore (lv' := [(8, .int 0), (7, .int (f_X4_square k M (M 0 4 p1.toNatClampNeg) (M 0 5 p1.toNatClampNeg))), (6, .int (M 0 8 p4.toNatClampNeg)), (5, .int (M 0 8 p3.toNatClampNeg)), (0, .ref (k.1 0 0)), (1, .int p1), (2, .int p2), (3, .int p3), (4, .int p4)]) hx hb dX4_act_267 hl (by decide) rfl (fun ls hl => ?_)
        refine lv_aload_n hx hb dX4_act_269 rfl (lv_at hl 4 rfl) ?_
        refine wx_get (w := (mw k)) (g := 0) (j := 0) hx hb hts hiX4 hown hK hP (mIx_0 (by decide)) rfl rfl 6 (by decide) hf13 rfl dX4_act_270 ?_
        refine lv_iload hx hb dX4_act_273 (lv_at hl 1 rfl) ?_
        refine lv_iload hx hb dX4_act_275 (lv_at hl 0 rfl) ?_
        refine lv_if_eq (tgt := 292) hx hb dX4_act_277 (by decide) (fun _ => ?_) (fun h9 => absurd h9 (by decide))
        refine lv_aload_n hx hb dX4_act_292 rfl (lv_at hl 4 rfl) ?_
        refine wx_get (w := (mw k)) (g := 0) (j := 0) hx hb hts hiX4 hown hK hP (mIx_0 (by decide)) rfl rfl 6 (by decide) hf13 rfl dX4_act_293 ?_
        refine lv_iload hx hb dX4_act_296 (lv_at hl 1 rfl) ?_
        refine wx_iald (w := (mw k)) (g := 0) (j := 2) hx hb hK hP (mIx_0 (by decide)) 0 rfl rfl (m_at hI h1 hs) dX4_act_298 ?_
        refine wx_iast (w := (mw k)) (g := 0) (j := 2) hx hb hK hP hD hS (mIx_0 (by decide)) 0 (fun _ => rfl) rfl (m_at hI h1 hs) dX4_act_299 (fun H locs hP hS => ?_)
        refine lv_aload_n hx hb dX4_act_300 rfl (lv_at hl 4 rfl) ?_
        refine wx_get (w := (mw k)) (g := 0) (j := 0) hx hb hts hiX4 hown hK hP (mIx_0 (by decide)) rfl rfl 14 (by decide) hf38 rfl dX4_act_301 ?_
        refine lv_iload_n hx hb dX4_act_304 rfl (lv_at hl 5 rfl) ?_
        refine lv_iload hx hb dX4_act_305 (lv_at hl 0 rfl) ?_
        refine lv_if_eq (tgt := 321) hx hb dX4_act_307 (by decide) (fun _ => ?_) (fun h9 => absurd h9 (by decide))
        refine lv_aload_n hx hb dX4_act_321 rfl (lv_at hl 4 rfl) ?_
        refine wx_get (w := (mw k)) (g := 0) (j := 0) hx hb hts hiX4 hown hK hP (mIx_0 (by decide)) rfl rfl 14 (by decide) hf38 rfl dX4_act_322 ?_
        refine lv_iload_n hx hb dX4_act_325 rfl (lv_at hl 5 rfl) ?_
        refine wx_iald (w := (mw k)) (g := 0) (j := 10) hx hb hK hP (mIx_0 (by decide)) 0 rfl rfl (m8 hI h1) dX4_act_326 ?_
        refine wx_iast (w := (mw k)) (g := 0) (j := 10) hx hb hK hP hD hS (mIx_0 (by decide)) 0 (fun _ => rfl) rfl (m8 hI h1) dX4_act_327 (fun H locs hP hS => ?_)
        refine lv_aload_n hx hb dX4_act_328 rfl (lv_at hl 4 rfl) ?_
        refine wx_get (w := (mw k)) (g := 0) (j := 0) hx hb hts hiX4 hown hK hP (mIx_0 (by decide)) rfl rfl 12 (by decide) hf32 rfl dX4_act_329 ?_
        refine lv_iload_n hx hb dX4_act_332 rfl (lv_at hl 7 rfl) ?_
        refine lv_iload hx hb dX4_act_333 (lv_at hl 0 rfl) ?_
        refine lv_if_eq (tgt := 342) hx hb dX4_act_335 (by decide) (fun _ => ?_) (fun h9 => absurd h9 (by decide))
        refine lv_iconst (v := 0) hx hb dX4_act_342 (by decide) ?_
        refine wx_iast (w := (mw k)) (g := 0) (j := 8) hx hb hK hP hD hS (mIx_0 (by decide)) 0 (fun _ => rfl) rfl (h3) dX4_act_343 (fun H locs hP hS => ?_)
        refine lv_goto (tgt := 426) hx hb dX4_act_344 (by decide) ?_
        have e9 : f_X4_act k M p1 p2 p3 p4 = (mu (mu (mu M 0 2 (f_X4_square k M (M 0 4 p1.toNatClampNeg) (M 0 5 p1.toNatClampNeg)).toNatClampNeg (M 0 2 (f_X4_square k M (M 0 4 p1.toNatClampNeg) (M 0 5 p1.toNatClampNeg)).toNatClampNeg)) 0 10 p1.toNatClampNeg ((mu M 0 2 (f_X4_square k M (M 0 4 p1.toNatClampNeg) (M 0 5 p1.toNatClampNeg)).toNatClampNeg (M 0 2 (f_X4_square k M (M 0 4 p1.toNatClampNeg) (M 0 5 p1.toNatClampNeg)).toNatClampNeg)) 0 10 p1.toNatClampNeg)) 0 8 p3.toNatClampNeg 0) := (by unfold f_X4_act; rw [if_neg e_35_13, if_neg e_35_14, if_neg e_35_15, if_pos e_35_16, if_neg c_247, if_pos c_259])
        exact wx_vret hx hb hr hlocks hP hS e9.symm dX4_act_426
      · refine lv_iconst (v := 1) hx hb dX4_act_262 (by decide) ?_
        refine lv_goto (tgt := 267) hx hb dX4_act_263 (by decide) ?_
        refine lv_istore (lv' := [(8, .int 1), (7, .int (f_X4_square k M (M 0 4 p1.toNatClampNeg) (M 0 5 p1.toNatClampNeg))), (6, .int (M 0 8 p4.toNatClampNeg)), (5, .int (M 0 8 p3.toNatClampNeg)), (0, .ref (k.1 0 0)), (1, .int p1), (2, .int p2), (3, .int p3), (4, .int p4)]) hx hb dX4_act_267 hl (by decide) rfl (fun ls hl => ?_)
        refine lv_aload_n hx hb dX4_act_269 rfl (lv_at hl 4 rfl) ?_
        refine wx_get (w := (mw k)) (g := 0) (j := 0) hx hb hts hiX4 hown hK hP (mIx_0 (by decide)) rfl rfl 6 (by decide) hf13 rfl dX4_act_270 ?_
        refine lv_iload hx hb dX4_act_273 (lv_at hl 1 rfl) ?_
        refine lv_iload hx hb dX4_act_275 (lv_at hl 0 rfl) ?_
        refine lv_if_eq (tgt := 292) hx hb dX4_act_277 (by decide) (fun h9 => absurd h9 (by decide)) (fun _ => ?_)
        refine lv_aload_n hx hb dX4_act_280 rfl (lv_at hl 4 rfl) ?_
        refine wx_get (w := (mw k)) (g := 0) (j := 0) hx hb hts hiX4 hown hK hP (mIx_0 (by decide)) rfl rfl 6 (by decide) hf13 rfl dX4_act_281 ?_
        refine lv_iload hx hb dX4_act_284 (lv_at hl 1 rfl) ?_
        refine wx_iald (w := (mw k)) (g := 0) (j := 2) hx hb hK hP (mIx_0 (by decide)) 0 rfl rfl (m_at hI h1 hs) dX4_act_286 ?_
        refine lv_iconst (v := 1) hx hb dX4_act_287 (by decide) ?_
        refine lv_iadd hx hb dX4_act_288 ?_
        refine lv_goto (tgt := 299) hx hb dX4_act_289 (by decide) ?_
        refine wx_iast (w := (mw k)) (g := 0) (j := 2) hx hb hK hP hD hS (mIx_0 (by decide)) 0 (fun _ => rfl) rfl (m_at hI h1 hs) dX4_act_299 (fun H locs hP hS => ?_)
        refine lv_aload_n hx hb dX4_act_300 rfl (lv_at hl 4 rfl) ?_
        refine wx_get (w := (mw k)) (g := 0) (j := 0) hx hb hts hiX4 hown hK hP (mIx_0 (by decide)) rfl rfl 14 (by decide) hf38 rfl dX4_act_301 ?_
        refine lv_iload_n hx hb dX4_act_304 rfl (lv_at hl 5 rfl) ?_
        refine lv_iload hx hb dX4_act_305 (lv_at hl 0 rfl) ?_
        refine lv_if_eq (tgt := 321) hx hb dX4_act_307 (by decide) (fun h9 => absurd h9 (by decide)) (fun _ => ?_)
        refine lv_aload_n hx hb dX4_act_310 rfl (lv_at hl 4 rfl) ?_
        refine wx_get (w := (mw k)) (g := 0) (j := 0) hx hb hts hiX4 hown hK hP (mIx_0 (by decide)) rfl rfl 14 (by decide) hf38 rfl dX4_act_311 ?_
        refine lv_iload_n hx hb dX4_act_314 rfl (lv_at hl 5 rfl) ?_
        refine wx_iald (w := (mw k)) (g := 0) (j := 10) hx hb hK hP (mIx_0 (by decide)) 0 rfl rfl (m8 hI h1) dX4_act_315 ?_
        refine lv_iconst (v := 1) hx hb dX4_act_316 (by decide) ?_
        refine lv_isub hx hb dX4_act_317 ?_
        refine lv_goto (tgt := 327) hx hb dX4_act_318 (by decide) ?_
        refine wx_iast (w := (mw k)) (g := 0) (j := 10) hx hb hK hP hD hS (mIx_0 (by decide)) 0 (fun _ => rfl) rfl (m8 hI h1) dX4_act_327 (fun H locs hP hS => ?_)
        refine lv_aload_n hx hb dX4_act_328 rfl (lv_at hl 4 rfl) ?_
        refine wx_get (w := (mw k)) (g := 0) (j := 0) hx hb hts hiX4 hown hK hP (mIx_0 (by decide)) rfl rfl 12 (by decide) hf32 rfl dX4_act_329 ?_
        refine lv_iload_n hx hb dX4_act_332 rfl (lv_at hl 7 rfl) ?_
        refine lv_iload hx hb dX4_act_333 (lv_at hl 0 rfl) ?_
        refine lv_if_eq (tgt := 342) hx hb dX4_act_335 (by decide) (fun h9 => absurd h9 (by decide)) (fun _ => ?_)
        refine lv_iconst (v := 1) hx hb dX4_act_338 (by decide) ?_
        refine lv_goto (tgt := 343) hx hb dX4_act_339 (by decide) ?_
        refine wx_iast (w := (mw k)) (g := 0) (j := 8) hx hb hK hP hD hS (mIx_0 (by decide)) 0 (fun _ => rfl) rfl (h3) dX4_act_343 (fun H locs hP hS => ?_)
        refine lv_goto (tgt := 426) hx hb dX4_act_344 (by decide) ?_
        have e9 : f_X4_act k M p1 p2 p3 p4 = (mu (mu (mu M 0 2 (f_X4_square k M (M 0 4 p1.toNatClampNeg) (M 0 5 p1.toNatClampNeg)).toNatClampNeg ((M 0 2 (f_X4_square k M (M 0 4 p1.toNatClampNeg) (M 0 5 p1.toNatClampNeg)).toNatClampNeg) + 1)) 0 10 p1.toNatClampNeg (((mu M 0 2 (f_X4_square k M (M 0 4 p1.toNatClampNeg) (M 0 5 p1.toNatClampNeg)).toNatClampNeg ((M 0 2 (f_X4_square k M (M 0 4 p1.toNatClampNeg) (M 0 5 p1.toNatClampNeg)).toNatClampNeg) + 1)) 0 10 p1.toNatClampNeg) - 1)) 0 8 p3.toNatClampNeg 1) := (by unfold f_X4_act; rw [if_neg e_35_13, if_neg e_35_14, if_neg e_35_15, if_pos e_35_16, if_neg c_247, if_neg c_259])
        exact wx_vret hx hb hr hlocks hP hS e9.symm dX4_act_426
  by_cases e_35_17 : p2 = 17
  · refine lv_tableIn (tgt := 347) hx hb dX4_act_35 (by rw [e_35_17]; decide) (by rw [e_35_17]; decide) (by rw [e_35_17]; rfl) (by decide) ?_
    refine lv_aload_n hx hb dX4_act_347 rfl (lv_at hl 3 rfl) ?_
    refine wx_get (w := (mw k)) (g := 0) (j := 0) hx hb hts hiX4 hown hK hP (mIx_0 (by decide)) rfl rfl 12 (by decide) hf32 rfl dX4_act_348 ?_
    refine lv_iload_n hx hb dX4_act_351 rfl (lv_at hl 6 rfl) ?_
    refine lv_aload_n hx hb dX4_act_352 rfl (lv_at hl 3 rfl) ?_
    refine lv_iload hx hb dX4_act_353 (lv_at hl 2 rfl) ?_
    refine lv_iload hx hb dX4_act_355 (lv_at hl 1 rfl) ?_
    refine wx_Vi (w := (mw k)) ((f_X4_send k M (M 0 8 p3.toNatClampNeg) (M 0 8 p4.toNatClampNeg)).1) ((f_X4_send k M (M 0 8 p3.toNatClampNeg) (M 0 8 p4.toNatClampNeg)).2) [.int (M 0 8 p3.toNatClampNeg), .int (M 0 8 p4.toNatClampNeg)] [.int p3, .ref (k.1 0 8)] (mZok k) ⟨hx, hb, hml, hown, hts⟩ (c_X4_send l k M (M 0 8 p3.toNatClampNeg) (M 0 8 p4.toNatClampNeg) hI) (cwV 2 hts gX4_act_X4_send rfl rfl rfl (by decide +kernel) ⟨by decide, by decide⟩) (wx_recv (w := (mw k)) (g := 0) (j := 0) hK hP (mIx_0 (by decide)) rfl rfl) hP hK hD hZ hS rfl hl.1 rfl (Nat.le_of_ble_eq_true rfl) dX4_act_357 ⟨by decide, by decide⟩ (fun H locs hP hS => ?_)
    refine lv_if_eq (tgt := 367) hx hb dX4_act_360 (by decide) (fun c_360 => ?_) (fun c_360 => ?_)
    · refine lv_iconst (v := 0) hx hb dX4_act_367 (by decide) ?_
      refine wx_iast (w := (mw k)) (g := 0) (j := 8) hx hb hK hP hD hS (mIx_0 (by decide)) 0 (fun _ => rfl) rfl (h3) dX4_act_368 (fun H locs hP hS => ?_)
      refine lv_goto (tgt := 426) hx hb dX4_act_369 (by decide) ?_
      have e9 : f_X4_act k M p1 p2 p3 p4 = (mu (f_X4_send k M (M 0 8 p3.toNatClampNeg) (M 0 8 p4.toNatClampNeg)).2 0 8 p3.toNatClampNeg 0) := (by unfold f_X4_act; rw [if_neg e_35_13, if_neg e_35_14, if_neg e_35_15, if_neg e_35_16, if_pos e_35_17, if_pos c_360])
      exact wx_vret hx hb hr hlocks hP hS e9.symm dX4_act_426
    · refine lv_iconst (v := 1) hx hb dX4_act_363 (by decide) ?_
      refine lv_goto (tgt := 368) hx hb dX4_act_364 (by decide) ?_
      refine wx_iast (w := (mw k)) (g := 0) (j := 8) hx hb hK hP hD hS (mIx_0 (by decide)) 0 (fun _ => rfl) rfl (h3) dX4_act_368 (fun H locs hP hS => ?_)
      refine lv_goto (tgt := 426) hx hb dX4_act_369 (by decide) ?_
      have e9 : f_X4_act k M p1 p2 p3 p4 = (mu (f_X4_send k M (M 0 8 p3.toNatClampNeg) (M 0 8 p4.toNatClampNeg)).2 0 8 p3.toNatClampNeg 1) := (by unfold f_X4_act; rw [if_neg e_35_13, if_neg e_35_14, if_neg e_35_15, if_neg e_35_16, if_pos e_35_17, if_neg c_360])
      exact wx_vret hx hb hr hlocks hP hS e9.symm dX4_act_426
  by_cases e_35_18 : p2 = 18
  · refine lv_tableIn (tgt := 372) hx hb dX4_act_35 (by rw [e_35_18]; decide) (by rw [e_35_18]; decide) (by rw [e_35_18]; rfl) (by decide) ?_
    refine lv_aload_n hx hb dX4_act_372 rfl (lv_at hl 3 rfl) ?_
    refine lv_iload_n hx hb dX4_act_373 rfl (lv_at hl 4 rfl) ?_
    refine lv_iload_n hx hb dX4_act_374 rfl (lv_at hl 6 rfl) ?_
    refine wx_Vv (w := (mw k)) (f_X4_receive k M p1 p3) [.int p1, .int p3] [] (mZok k) ⟨hx, hb, hml, hown, hts⟩ (c_X4_receive l k M p1 p3 hI h1 h3) (cwV 2 hts gX4_act_X4_receive rfl rfl rfl (by decide +kernel) ⟨by decide, by decide⟩) (wx_recv (w := (mw k)) (g := 0) (j := 0) hK hP (mIx_0 (by decide)) rfl rfl) hP hK hD hZ hS rfl hl.1 rfl (Nat.le_of_ble_eq_true rfl) dX4_act_375 ⟨by decide, by decide⟩ (fun H locs hP hS => ?_)
    refine lv_goto (tgt := 426) hx hb dX4_act_378 (by decide) ?_
    have e9 : f_X4_act k M p1 p2 p3 p4 = (f_X4_receive k M p1 p3) := (by unfold f_X4_act; rw [if_neg e_35_13, if_neg e_35_14, if_neg e_35_15, if_neg e_35_16, if_neg e_35_17, if_pos e_35_18])
    exact wx_vret hx hb hr hlocks hP hS e9.symm dX4_act_426
  by_cases e_35_19 : p2 = 19
  · refine lv_tableIn (tgt := 381) hx hb dX4_act_35 (by rw [e_35_19]; decide) (by rw [e_35_19]; decide) (by rw [e_35_19]; rfl) (by decide) ?_
    refine lv_aload_n hx hb dX4_act_381 rfl (lv_at hl 3 rfl) ?_
    refine wx_get (w := (mw k)) (g := 0) (j := 0) hx hb hts hiX4 hown hK hP (mIx_0 (by decide)) rfl rfl 7 (by decide) hf17 rfl dX4_act_382 ?_
    refine lv_iload_n hx hb dX4_act_385 rfl (lv_at hl 4 rfl) ?_
    refine lv_iload hx hb dX4_act_386 (lv_at hl 2 rfl) ?_
    refine lv_if_le (tgt := 395) hx hb dX4_act_388 (by decide) (fun c_388 => ?_) (fun c_388 => ?_)
    · refine lv_iconst (v := 2) hx hb dX4_act_395 (by decide) ?_
      refine wx_iast (w := (mw k)) (g := 0) (j := 3) hx hb hK hP hD hS (mIx_0 (by decide)) 0 (fun _ => rfl) rfl (m8 hI h1) dX4_act_396 (fun H locs hP hS => ?_)
      refine lv_aload_n hx hb dX4_act_397 rfl (lv_at hl 3 rfl) ?_
      refine wx_get (w := (mw k)) (g := 0) (j := 0) hx hb hts hiX4 hown hK hP (mIx_0 (by decide)) rfl rfl 17 (by decide) hf47 rfl dX4_act_398 ?_
      refine lv_iload_n hx hb dX4_act_401 rfl (lv_at hl 4 rfl) ?_
      refine lv_iload hx hb dX4_act_402 (lv_at hl 2 rfl) ?_
      refine lv_if_le (tgt := 412) hx hb dX4_act_404 (by decide) (fun c_404 => ?_) (fun c_404 => ?_)
      · refine lv_iconst (v := 0) hx hb dX4_act_412 (by decide) ?_
        refine wx_iast (w := (mw k)) (g := 0) (j := 13) hx hb hK hP hD hS (mIx_0 (by decide)) 0 (fun _ => rfl) rfl (m8 hI h1) dX4_act_413 (fun H locs hP hS => ?_)
        refine lv_goto (tgt := 426) hx hb dX4_act_414 (by decide) ?_
        have e9 : f_X4_act k M p1 p2 p3 p4 = (mu (mu M 0 3 p1.toNatClampNeg 2) 0 13 p1.toNatClampNeg 0) := (by unfold f_X4_act; rw [if_neg e_35_13, if_neg e_35_14, if_neg e_35_15, if_neg e_35_16, if_neg e_35_17, if_neg e_35_18, if_pos e_35_19, if_pos c_388, if_pos c_404])
        exact wx_vret hx hb hr hlocks hP hS e9.symm dX4_act_426
      · refine lv_iload hx hb dX4_act_407 (lv_at hl 2 rfl) ?_
        refine lv_goto (tgt := 413) hx hb dX4_act_409 (by decide) ?_
        refine wx_iast (w := (mw k)) (g := 0) (j := 13) hx hb hK hP hD hS (mIx_0 (by decide)) 0 (fun _ => rfl) rfl (m8 hI h1) dX4_act_413 (fun H locs hP hS => ?_)
        refine lv_goto (tgt := 426) hx hb dX4_act_414 (by decide) ?_
        have e9 : f_X4_act k M p1 p2 p3 p4 = (mu (mu M 0 3 p1.toNatClampNeg 2) 0 13 p1.toNatClampNeg (M 0 8 p3.toNatClampNeg)) := (by unfold f_X4_act; rw [if_neg e_35_13, if_neg e_35_14, if_neg e_35_15, if_neg e_35_16, if_neg e_35_17, if_neg e_35_18, if_pos e_35_19, if_pos c_388, if_neg c_404])
        exact wx_vret hx hb hr hlocks hP hS e9.symm dX4_act_426
    · refine lv_iconst (v := 3) hx hb dX4_act_391 (by decide) ?_
      refine lv_goto (tgt := 396) hx hb dX4_act_392 (by decide) ?_
      refine wx_iast (w := (mw k)) (g := 0) (j := 3) hx hb hK hP hD hS (mIx_0 (by decide)) 0 (fun _ => rfl) rfl (m8 hI h1) dX4_act_396 (fun H locs hP hS => ?_)
      refine lv_aload_n hx hb dX4_act_397 rfl (lv_at hl 3 rfl) ?_
      refine wx_get (w := (mw k)) (g := 0) (j := 0) hx hb hts hiX4 hown hK hP (mIx_0 (by decide)) rfl rfl 17 (by decide) hf47 rfl dX4_act_398 ?_
      refine lv_iload_n hx hb dX4_act_401 rfl (lv_at hl 4 rfl) ?_
      refine lv_iload hx hb dX4_act_402 (lv_at hl 2 rfl) ?_
      refine lv_if_le (tgt := 412) hx hb dX4_act_404 (by decide) (fun c_404 => ?_) (fun c_404 => ?_)
      · refine lv_iconst (v := 0) hx hb dX4_act_412 (by decide) ?_
        refine wx_iast (w := (mw k)) (g := 0) (j := 13) hx hb hK hP hD hS (mIx_0 (by decide)) 0 (fun _ => rfl) rfl (m8 hI h1) dX4_act_413 (fun H locs hP hS => ?_)
        refine lv_goto (tgt := 426) hx hb dX4_act_414 (by decide) ?_
        have e9 : f_X4_act k M p1 p2 p3 p4 = (mu (mu M 0 3 p1.toNatClampNeg 3) 0 13 p1.toNatClampNeg 0) := (by unfold f_X4_act; rw [if_neg e_35_13, if_neg e_35_14, if_neg e_35_15, if_neg e_35_16, if_neg e_35_17, if_neg e_35_18, if_pos e_35_19, if_neg c_388, if_pos c_404])
        exact wx_vret hx hb hr hlocks hP hS e9.symm dX4_act_426
      · refine lv_iload hx hb dX4_act_407 (lv_at hl 2 rfl) ?_
        refine lv_goto (tgt := 413) hx hb dX4_act_409 (by decide) ?_
        refine wx_iast (w := (mw k)) (g := 0) (j := 13) hx hb hK hP hD hS (mIx_0 (by decide)) 0 (fun _ => rfl) rfl (m8 hI h1) dX4_act_413 (fun H locs hP hS => ?_)
        refine lv_goto (tgt := 426) hx hb dX4_act_414 (by decide) ?_
        have e9 : f_X4_act k M p1 p2 p3 p4 = (mu (mu M 0 3 p1.toNatClampNeg 3) 0 13 p1.toNatClampNeg (M 0 8 p3.toNatClampNeg)) := (by unfold f_X4_act; rw [if_neg e_35_13, if_neg e_35_14, if_neg e_35_15, if_neg e_35_16, if_neg e_35_17, if_neg e_35_18, if_pos e_35_19, if_neg c_388, if_neg c_404])
        exact wx_vret hx hb hr hlocks hP hS e9.symm dX4_act_426
  have hdf : p2.toInt < 13 ∨ 19 < p2.toInt := by have n0 := lv_neT e_35_13 (a := 13) (by decide); have n1 := lv_neT e_35_14 (a := 14) (by decide); have n2 := lv_neT e_35_15 (a := 15) (by decide); have n3 := lv_neT e_35_16 (a := 16) (by decide); have n4 := lv_neT e_35_17 (a := 17) (by decide); have n5 := lv_neT e_35_18 (a := 18) (by decide); have n6 := lv_neT e_35_19 (a := 19) (by decide);  omega
  refine lv_tableOut (tgt := 417) hx hb dX4_act_35 hdf (by decide) ?_
  refine lv_aload_n hx hb dX4_act_417 rfl (lv_at hl 3 rfl) ?_
  refine lv_iload_n hx hb dX4_act_418 rfl (lv_at hl 4 rfl) ?_
  refine lv_iload_n hx hb dX4_act_419 rfl (lv_at hl 5 rfl) ?_
  refine lv_iload_n hx hb dX4_act_420 rfl (lv_at hl 6 rfl) ?_
  refine lv_iload hx hb dX4_act_421 (lv_at hl 7 rfl) ?_
  refine wx_Vv (w := (mw k)) (f_X4_tell k M p1 p2 p3 p4) [.int p1, .int p2, .int p3, .int p4] [] (mZok k) ⟨hx, hb, hml, hown, hts⟩ (c_X4_tell l k M p1 p2 p3 p4 hI h1 hs h3 h4) (cwV 4 hts gX4_act_X4_tell rfl rfl rfl (by decide +kernel) ⟨by decide, by decide⟩) (wx_recv (w := (mw k)) (g := 0) (j := 0) hK hP (mIx_0 (by decide)) rfl rfl) hP hK hD hZ hS rfl hl.1 rfl (Nat.le_of_ble_eq_true rfl) dX4_act_423 ⟨by decide, by decide⟩ (fun H locs hP hS => ?_)
  have e9 : f_X4_act k M p1 p2 p3 p4 = (f_X4_tell k M p1 p2 p3 p4) := (by unfold f_X4_act; rw [if_neg e_35_13, if_neg e_35_14, if_neg e_35_15, if_neg e_35_16, if_neg e_35_17, if_neg e_35_18, if_neg e_35_19])
  exact wx_vret hx hb hr hlocks hP hS e9.symm dX4_act_426
theorem mI_act {k : MK} {M : Mem} {p1 p2 p3 p4 : Int32} (hI : mI k M) (h1 : vp_in p1 (k.2.1 0)) (hs : 0 < M 0 3 p1.toNatClampNeg) : mI k (f_X4_act k M p1 p2 p3 p4) := by
  unfold f_X4_act
  by_cases y0 : p2 = 13
  · rw [if_pos y0]
    exact (mI_reg (mI_go hI))
  · rw [if_neg y0]
    by_cases y1 : p2 = 14
    · rw [if_pos y1]
      exact (mI_reg hI)
    · rw [if_neg y1]
      by_cases y2 : p2 = 15
      · rw [if_pos y2]
        by_cases y3 : (M 0 2 (f_X4_square k M (M 0 4 p1.toNatClampNeg) (M 0 5 p1.toNatClampNeg)).toNatClampNeg) ≤ 0
        · rw [if_pos y3]
          exact (mI_reg (mI_lod (mI_itm hI)))
        · rw [if_neg y3]
          by_cases y4 : 9 ≤ (M 0 10 p1.toNatClampNeg)
          · rw [if_pos y4]
            exact (mI_reg (mI_lod (mI_itm hI)))
          · rw [if_neg y4]
            exact (mI_reg (mI_lod (mI_itm hI)))
      · rw [if_neg y2]
        by_cases y3 : p2 = 16
        · rw [if_pos y3]
          by_cases y4 : (M 0 10 p1.toNatClampNeg) ≤ 0
          · rw [if_pos y4]
            exact (mI_reg (mI_lod (mI_itm hI)))
          · rw [if_neg y4]
            by_cases y5 : 99 ≤ (M 0 2 (f_X4_square k M (M 0 4 p1.toNatClampNeg) (M 0 5 p1.toNatClampNeg)).toNatClampNeg)
            · rw [if_pos y5]
              exact (mI_reg (mI_lod (mI_itm hI)))
            · rw [if_neg y5]
              exact (mI_reg (mI_lod (mI_itm hI)))
        · rw [if_neg y3]
          by_cases y4 : p2 = 17
          · rw [if_pos y4]
            by_cases y5 : (f_X4_send k M (M 0 8 p3.toNatClampNeg) (M 0 8 p4.toNatClampNeg)).1 = 0
            · rw [if_pos y5]
              exact (mI_reg (mI_send hI))
            · rw [if_neg y5]
              exact (mI_reg (mI_send hI))
          · rw [if_neg y4]
            by_cases y5 : p2 = 18
            · rw [if_pos y5]
              exact (mI_receive hI h1 hs)
            · rw [if_neg y5]
              by_cases y6 : p2 = 19
              · rw [if_pos y6]
                by_cases y7 : (M 0 8 p3.toNatClampNeg) ≤ 0
                · rw [if_pos y7]
                  by_cases y8 : (M 0 8 p3.toNatClampNeg) ≤ 0
                  · rw [if_pos y8]
                    exact (mI_slp (mI_st hI (fun _ => by simpa [mu_at] using hs)))
                  · rw [if_neg y8]
                    exact (mI_slp (mI_st hI (fun _ => by simpa [mu_at] using hs)))
                · rw [if_neg y7]
                  by_cases y8 : (M 0 8 p3.toNatClampNeg) ≤ 0
                  · rw [if_pos y8]
                    exact (mI_slp (mI_st hI (fun _ => by simpa [mu_at] using hs)))
                  · rw [if_neg y8]
                    exact (mI_slp (mI_st hI (fun _ => by simpa [mu_at] using hs)))
              · rw [if_neg y6]
                exact (mI_tell hI)
theorem rn_8 {k : MK} {M : Mem} {x y : Int32} (hI : mI k M) (hx : vp_in x (k.2.1 0)) (h : ∃ j : Nat, j < 16 ∧ y = nI j) (c : ¬ 7 < y) : vp_in (8 * x + y) 64 := by
  obtain ⟨j, hj, rfl⟩ := h
  have h8 : j < 8 := by
    rcases Nat.lt_or_ge 7 j with q | q
    · exact absurd (nI_lt (a := 7) q (by omega)) c
    · omega
  obtain ⟨i, hi, rfl⟩ := vp_in_of (m8 hI hx) (by decide)
  rw [show (8 : Int32) = nI 8 from rfl, pk_mul, nI_add]
  exact vp_in_nI (by omega) (by omega)
theorem rn_p {k : MK} {M M' : Mem} {x y : Int32} (hI : mI k M) (hx : vp_in x (k.2.1 0)) (c : ¬ f_X4_in k M' y 0 (M 0 7 x.toNatClampNeg - 1) = 0) : vp_in (100 * x + y) 800 := by
  obtain ⟨a, ha, ea⟩ := (hI.2.2.2 _ (vp_lt hx)).1
  obtain ⟨-, ⟨b1, b2, b3, b4, b5, b6, b7, b8, b9, b10⟩, -⟩ := hI
  rw [ea] at c
  unfold f_X4_in at c
  by_cases c1 : y < 0
  · simp [c1] at c
  by_cases c2 : nI a - 1 < y
  · simp [c1, c2] at c
  have h1 : 1 ≤ a := by
    cases a with
    | zero => exact absurd (Int32.lt_of_lt_of_le (by decide : nI 0 - 1 < 0) (Int32.not_lt.mp c1)) c2
    | succ a => omega
  obtain ⟨j, hj, rfl⟩ := vp_in_of (in_le c1 c2 h1 (by omega)) (by omega)
  obtain ⟨i, hi, rfl⟩ := vp_in_of hx (by omega)
  rw [show (100 : Int32) = nI 100 from rfl, pk_mul, nI_add]
  exact vp_in_nI (by omega) (by omega)
theorem rn_d {M : Mem} {a b c : Nat} {v w : Int32} {P : Prop} (h : ¬ M 0 8 a = 0) : P → ¬ mu (mu M 0 14 b v) 0 9 c w 0 8 a = 0 := fun _ => by
  rw [mu_at, if_neg (by omega), mu_at, if_neg (by omega)]
  exact h
theorem rn_s {M : Mem} {a b c : Nat} {v w : Int32} (h : 0 < M 0 3 a) : 0 < mu (mu M 0 14 b v) 0 9 c w 0 3 a := by
  rw [mu_at, if_neg (by omega), mu_at, if_neg (by omega)]
  exact h
theorem mI_rn {k : MK} {M : Mem} {b c : Nat} {v w : Int32} (hI : mI k M) : mI k (mu (mu M 0 14 b v) 0 9 c w) := mI_plc (mI_did hI)
/-- by program: the loop at 69 of RobotWorldModel.run -/
def f_X4_run_L69 (k : MK) (p1 : Int32) (x2 : Int32) (x3 : Int32) (x4 : Int32) (x5 : Int32) (x6 : Int32) (M : Mem) : Mem :=
  if x4 = 6 then
    if 24 < x4 then
      (mu M 0 3 p1.toNatClampNeg 6)
    else
      if 7 < x5 then
        (mu M 0 3 p1.toNatClampNeg 6)
      else
        if 7 < x6 then
          (mu M 0 3 p1.toNatClampNeg 6)
        else
          if (M 0 8 ((8 * p1) + x6).toNatClampNeg) = 0 then
            (mu M 0 3 p1.toNatClampNeg 6)
          else
            if 13 ≤ x4 then
              (f_X4_act k (mu (mu M 0 14 p1.toNatClampNeg ((M 0 14 p1.toNatClampNeg) + 1)) 0 9 p1.toNatClampNeg (x2 + 1)) p1 x4 ((8 * p1) + x5) ((8 * p1) + x6))
            else
              (f_X4_reckon k (mu (mu M 0 14 p1.toNatClampNeg ((M 0 14 p1.toNatClampNeg) + 1)) 0 9 p1.toNatClampNeg (x2 + 1)) p1 x4 ((8 * p1) + x5) ((8 * p1) + x6) (x3 >>> (16 &&& 31)))
  else
    if x4 = 7 then
      if 24 < x4 then
        (mu M 0 3 p1.toNatClampNeg 6)
      else
        if 7 < x5 then
          (mu M 0 3 p1.toNatClampNeg 6)
        else
          if 7 < x6 then
            (mu M 0 3 p1.toNatClampNeg 6)
          else
            if (M 0 8 ((8 * p1) + x6).toNatClampNeg) = 0 then
              (mu M 0 3 p1.toNatClampNeg 6)
            else
              if 13 ≤ x4 then
                (f_X4_act k (mu (mu M 0 14 p1.toNatClampNeg ((M 0 14 p1.toNatClampNeg) + 1)) 0 9 p1.toNatClampNeg (x2 + 1)) p1 x4 ((8 * p1) + x5) ((8 * p1) + x6))
              else
                (f_X4_reckon k (mu (mu M 0 14 p1.toNatClampNeg ((M 0 14 p1.toNatClampNeg) + 1)) 0 9 p1.toNatClampNeg (x2 + 1)) p1 x4 ((8 * p1) + x5) ((8 * p1) + x6) (x3 >>> (16 &&& 31)))
    else
      if 24 < x4 then
        (mu M 0 3 p1.toNatClampNeg 6)
      else
        if 7 < x5 then
          (mu M 0 3 p1.toNatClampNeg 6)
        else
          if 7 < x6 then
            (mu M 0 3 p1.toNatClampNeg 6)
          else
            if 13 ≤ x4 then
              (f_X4_act k (mu (mu M 0 14 p1.toNatClampNeg ((M 0 14 p1.toNatClampNeg) + 1)) 0 9 p1.toNatClampNeg (x2 + 1)) p1 x4 ((8 * p1) + x5) ((8 * p1) + x6))
            else
              (f_X4_reckon k (mu (mu M 0 14 p1.toNatClampNeg ((M 0 14 p1.toNatClampNeg) + 1)) 0 9 p1.toNatClampNeg (x2 + 1)) p1 x4 ((8 * p1) + x5) ((8 * p1) + x6) (x3 >>> (16 &&& 31)))
set_option maxHeartbeats 4000000 in
set_option maxRecDepth 100000 in
theorem lp_X4_run_L69 {p : Program} {l : Launch} {e : Env} {s : State} {m : MethodId} {args : Array Value} {below : List Frame} {meth : Method} {c : Code} (k : MK) (p1 : Int32)  (hx : p.tables.exec = Jvm.exec) (hb : c.code = cX4_run) (hr : meth.sig.returnType = none) (hml : c.maxLocals = 8) (hts : ∀ x ∈ wsX4_run, x.before args s = true) (hown : s.vm.findClass RX4 = some m.cls) (hlocks : meth.locks = false) (hK : va_K (wD (mw k)) vwCl (wT (mw k)) s) {M0 : Mem} (hD : va_D (wA (mw k)) (wW (mw k) M0)) (hZ : wZ (mw k) (wA (mw k)) s s.heap)  : ∀ (x2 : Int32) (x3 : Int32) (x4 : Int32) (x5 : Int32) (x6 : Int32) (M : Mem) (H : Heap) (locs : List Loc) (ls : Array Slot), mI k M ∧ vp_in p1 (k.2.1 0) ∧ 0 < M 0 3 p1.toNatClampNeg ∧ (∃ j : Nat, j < 16 ∧ x5 = nI j) ∧ (∃ j : Nat, j < 16 ∧ x6 = nI j) → wP (mw k) M H → va_S (wA (mw k)) s.heap H locs → lv_has ls 8 [(6, .int x6), (5, .int x5), (4, .int x4), (3, .int x3), (2, .int x2), (0, .ref (k.1 0 0)), (1, .int p1)] → ∀ (post : Mem → Prop), post (f_X4_run_L69 k p1 x2 x3 x4 x5 x6 M) → W p l e (rmK 9 224) s m args below meth c H locs 0 0 (MQ below (wQv (mw k) post) args s 0 0 (wA (mw k))) (F0 m 69 ls []) := by
  have hiX4 : ∀ x ∈ u_ws RX4 TX4 22, x ∈ wsX4_run := by decide +kernel
  have hf17 := hts (.fieldLink RX4 17 "RobotWorldModel" "state" "[I") (by decide +kernel)
  have hf32 := hts (.fieldLink RX4 32 "RobotWorldModel" "registers" "[I") (by decide +kernel)
  have hf35 := hts (.fieldLink RX4 35 "RobotWorldModel" "place" "[I") (by decide +kernel)
  have hf50 := hts (.fieldLink RX4 50 "RobotWorldModel" "did" "[I") (by decide +kernel)
  intro x2 x3 x4 x5 x6 M H locs ls hinv hP hS hl post hpo
  refine lv_iload hx hb dX4_run_69 (lv_at hl 2 rfl) ?_
  refine lv_bipush (v := 6) hx hb dX4_run_71 (by decide) ?_
  refine lv_icmp_eq (tgt := 83) hx hb dX4_run_73 (by decide) (fun c_73 => ?_) (fun c_73 => ?_)
  · refine lv_iconst (v := 1) hx hb dX4_run_83 (by decide) ?_
    refine lv_goto (tgt := 88) hx hb dX4_run_84 (by decide) ?_
    refine lv_istore (lv' := [(7, .int 1), (6, .int x6), (5, .int x5), (4, .int x4), (3, .int x3), (2, .int x2), (0, .ref (k.1 0 0)), (1, .int p1)]) hx hb dX4_run_88 hl (by decide) rfl (fun ls hl => ?_)
    refine lv_iload hx hb dX4_run_90 (lv_at hl 3 rfl) ?_
    refine lv_bipush (v := 24) hx hb dX4_run_92 (by decide) ?_
    refine lv_icmp_gt (tgt := 131) hx hb dX4_run_94 (by decide) (fun c_94 => ?_) (fun c_94 => ?_)
    · refine lv_aload_n hx hb dX4_run_131 rfl (lv_at hl 6 rfl) ?_
      refine wx_get (w := (mw k)) (g := 0) (j := 0) hx hb hts hiX4 hown hK hP (mIx_0 (by decide)) rfl rfl 7 (by decide) hf17 rfl dX4_run_132 ?_
      refine lv_iload_n hx hb dX4_run_135 rfl (lv_at hl 7 rfl) ?_
      refine lv_bipush (v := 6) hx hb dX4_run_136 (by decide) ?_
      refine wx_iast (w := (mw k)) (g := 0) (j := 3) hx hb hK hP hD hS (mIx_0 (by decide)) 0 (fun _ => rfl) rfl (m8 hinv.1 hinv.2.1) dX4_run_138 (fun H locs hP hS => ?_)
      have e9 : f_X4_run_L69 k p1 x2 x3 x4 x5 x6 M = (mu M 0 3 p1.toNatClampNeg 6) := (by unfold f_X4_run_L69; rw [if_pos c_73, if_pos c_94])
      exact wx_vret hx hb hr hlocks hP hS (by rw [e9] at hpo; exact hpo) dX4_run_139
    · refine lv_iload hx hb dX4_run_97 (lv_at hl 2 rfl) ?_
      refine lv_bipush (v := 7) hx hb dX4_run_99 (by decide) ?_
      refine lv_icmp_gt (tgt := 131) hx hb dX4_run_101 (by decide) (fun c_101 => ?_) (fun c_101 => ?_)
      · refine lv_aload_n hx hb dX4_run_131 rfl (lv_at hl 6 rfl) ?_
        refine wx_get (w := (mw k)) (g := 0) (j := 0) hx hb hts hiX4 hown hK hP (mIx_0 (by decide)) rfl rfl 7 (by decide) hf17 rfl dX4_run_132 ?_
        refine lv_iload_n hx hb dX4_run_135 rfl (lv_at hl 7 rfl) ?_
        refine lv_bipush (v := 6) hx hb dX4_run_136 (by decide) ?_
        refine wx_iast (w := (mw k)) (g := 0) (j := 3) hx hb hK hP hD hS (mIx_0 (by decide)) 0 (fun _ => rfl) rfl (m8 hinv.1 hinv.2.1) dX4_run_138 (fun H locs hP hS => ?_)
        have e9 : f_X4_run_L69 k p1 x2 x3 x4 x5 x6 M = (mu M 0 3 p1.toNatClampNeg 6) := (by unfold f_X4_run_L69; rw [if_pos c_73, if_neg c_94, if_pos c_101])
        exact wx_vret hx hb hr hlocks hP hS (by rw [e9] at hpo; exact hpo) dX4_run_139
      · refine lv_iload hx hb dX4_run_104 (lv_at hl 1 rfl) ?_
        refine lv_bipush (v := 7) hx hb dX4_run_106 (by decide) ?_
        refine lv_icmp_gt (tgt := 131) hx hb dX4_run_108 (by decide) (fun c_108 => ?_) (fun c_108 => ?_)
        · refine lv_aload_n hx hb dX4_run_131 rfl (lv_at hl 6 rfl) ?_
          refine wx_get (w := (mw k)) (g := 0) (j := 0) hx hb hts hiX4 hown hK hP (mIx_0 (by decide)) rfl rfl 7 (by decide) hf17 rfl dX4_run_132 ?_
          refine lv_iload_n hx hb dX4_run_135 rfl (lv_at hl 7 rfl) ?_
          refine lv_bipush (v := 6) hx hb dX4_run_136 (by decide) ?_
          refine wx_iast (w := (mw k)) (g := 0) (j := 3) hx hb hK hP hD hS (mIx_0 (by decide)) 0 (fun _ => rfl) rfl (m8 hinv.1 hinv.2.1) dX4_run_138 (fun H locs hP hS => ?_)
          have e9 : f_X4_run_L69 k p1 x2 x3 x4 x5 x6 M = (mu M 0 3 p1.toNatClampNeg 6) := (by unfold f_X4_run_L69; rw [if_pos c_73, if_neg c_94, if_neg c_101, if_pos c_108])
          exact wx_vret hx hb hr hlocks hP hS (by rw [e9] at hpo; exact hpo) dX4_run_139
        · refine lv_iload hx hb dX4_run_111 (lv_at hl 0 rfl) ?_
          refine lv_if_eq (tgt := 140) hx hb dX4_run_113 (by decide) (fun h9 => absurd h9 (by decide)) (fun _ => ?_)
          refine lv_aload_n hx hb dX4_run_116 rfl (lv_at hl 6 rfl) ?_
          refine wx_get (w := (mw k)) (g := 0) (j := 0) hx hb hts hiX4 hown hK hP (mIx_0 (by decide)) rfl rfl 12 (by decide) hf32 rfl dX4_run_117 ?_
          refine lv_bipush (v := 8) hx hb dX4_run_120 (by decide) ?_
          refine lv_iload_n hx hb dX4_run_122 rfl (lv_at hl 7 rfl) ?_
          refine lv_imul hx hb dX4_run_123 ?_
          refine lv_iload hx hb dX4_run_124 (lv_at hl 1 rfl) ?_
          refine lv_iadd hx hb dX4_run_126 ?_
          refine wx_iald (w := (mw k)) (g := 0) (j := 8) hx hb hK hP (mIx_0 (by decide)) 0 rfl rfl (rn_8 hinv.1 hinv.2.1 hinv.2.2.2.2 c_108) dX4_run_127 ?_
          refine lv_if_ne (tgt := 140) hx hb dX4_run_128 (by decide) (fun c_128 => ?_) (fun c_128 => ?_)
          · refine lv_aload_n hx hb dX4_run_140 rfl (lv_at hl 6 rfl) ?_
            refine wx_get (w := (mw k)) (g := 0) (j := 0) hx hb hts hiX4 hown hK hP (mIx_0 (by decide)) rfl rfl 18 (by decide) hf50 rfl dX4_run_141 ?_
            refine lv_iload_n hx hb dX4_run_144 rfl (lv_at hl 7 rfl) ?_
            refine lv_dup2_11 hx hb dX4_run_145 rfl rfl ?_
            refine wx_iald (w := (mw k)) (g := 0) (j := 14) hx hb hK hP (mIx_0 (by decide)) 0 rfl rfl (m8 hinv.1 hinv.2.1) dX4_run_146 ?_
            refine lv_iconst (v := 1) hx hb dX4_run_147 (by decide) ?_
            refine lv_iadd hx hb dX4_run_148 ?_
            refine wx_iast (w := (mw k)) (g := 0) (j := 14) hx hb hK hP hD hS (mIx_0 (by decide)) 0 (fun _ => rfl) rfl (m8 hinv.1 hinv.2.1) dX4_run_149 (fun H locs hP hS => ?_)
            refine lv_aload_n hx hb dX4_run_150 rfl (lv_at hl 6 rfl) ?_
            refine wx_get (w := (mw k)) (g := 0) (j := 0) hx hb hts hiX4 hown hK hP (mIx_0 (by decide)) rfl rfl 13 (by decide) hf35 rfl dX4_run_151 ?_
            refine lv_iload_n hx hb dX4_run_154 rfl (lv_at hl 7 rfl) ?_
            refine lv_iload_n hx hb dX4_run_155 rfl (lv_at hl 5 rfl) ?_
            refine lv_iconst (v := 1) hx hb dX4_run_156 (by decide) ?_
            refine lv_iadd hx hb dX4_run_157 ?_
            refine wx_iast (w := (mw k)) (g := 0) (j := 9) hx hb hK hP hD hS (mIx_0 (by decide)) 0 (fun _ => rfl) rfl (m8 hinv.1 hinv.2.1) dX4_run_158 (fun H locs hP hS => ?_)
            refine lv_iload hx hb dX4_run_159 (lv_at hl 3 rfl) ?_
            refine lv_bipush (v := 13) hx hb dX4_run_161 (by decide) ?_
            refine lv_icmp_ge (tgt := 194) hx hb dX4_run_163 (by decide) (fun c_163 => ?_) (fun c_163 => ?_)
            · refine lv_aload_n hx hb dX4_run_194 rfl (lv_at hl 6 rfl) ?_
              refine lv_iload_n hx hb dX4_run_195 rfl (lv_at hl 7 rfl) ?_
              refine lv_iload hx hb dX4_run_196 (lv_at hl 3 rfl) ?_
              refine lv_bipush (v := 8) hx hb dX4_run_198 (by decide) ?_
              refine lv_iload_n hx hb dX4_run_200 rfl (lv_at hl 7 rfl) ?_
              refine lv_imul hx hb dX4_run_201 ?_
              refine lv_iload hx hb dX4_run_202 (lv_at hl 2 rfl) ?_
              refine lv_iadd hx hb dX4_run_204 ?_
              refine lv_bipush (v := 8) hx hb dX4_run_205 (by decide) ?_
              refine lv_iload_n hx hb dX4_run_207 rfl (lv_at hl 7 rfl) ?_
              refine lv_imul hx hb dX4_run_208 ?_
              refine lv_iload hx hb dX4_run_209 (lv_at hl 1 rfl) ?_
              refine lv_iadd hx hb dX4_run_211 ?_
              refine wx_Vv (w := (mw k)) (f_X4_act k (mu (mu M 0 14 p1.toNatClampNeg ((M 0 14 p1.toNatClampNeg) + 1)) 0 9 p1.toNatClampNeg (x2 + 1)) p1 x4 ((8 * p1) + x5) ((8 * p1) + x6)) [.int p1, .int x4, .int ((8 * p1) + x5), .int ((8 * p1) + x6)] [] (mZok k) ⟨hx, hb, hml, hown, hts⟩ (c_X4_act l k (mu (mu M 0 14 p1.toNatClampNeg ((M 0 14 p1.toNatClampNeg) + 1)) 0 9 p1.toNatClampNeg (x2 + 1)) p1 x4 ((8 * p1) + x5) ((8 * p1) + x6) (mI_rn hinv.1) hinv.2.1 (rn_s hinv.2.2.1) (rn_8 hinv.1 hinv.2.1 hinv.2.2.2.1 c_101) (rn_8 hinv.1 hinv.2.1 hinv.2.2.2.2 c_108)) (cwV 4 hts gX4_run_X4_act rfl rfl rfl (by decide +kernel) ⟨by decide, by decide⟩) (wx_recv (w := (mw k)) (g := 0) (j := 0) hK hP (mIx_0 (by decide)) rfl rfl) hP hK hD hZ hS rfl hl.1 rfl (Nat.le_of_ble_eq_true rfl) dX4_run_212 ⟨by decide, by decide⟩ (fun H locs hP hS => ?_)
              have e9 : f_X4_run_L69 k p1 x2 x3 x4 x5 x6 M = (f_X4_act k (mu (mu M 0 14 p1.toNatClampNeg ((M 0 14 p1.toNatClampNeg) + 1)) 0 9 p1.toNatClampNeg (x2 + 1)) p1 x4 ((8 * p1) + x5) ((8 * p1) + x6)) := (by unfold f_X4_run_L69; rw [if_pos c_73, if_neg c_94, if_neg c_101, if_neg c_108, if_neg c_128, if_pos c_163])
              exact wx_vret hx hb hr hlocks hP hS (by rw [e9] at hpo; exact hpo) dX4_run_215
            · refine lv_aload_n hx hb dX4_run_166 rfl (lv_at hl 6 rfl) ?_
              refine lv_iload_n hx hb dX4_run_167 rfl (lv_at hl 7 rfl) ?_
              refine lv_iload hx hb dX4_run_168 (lv_at hl 3 rfl) ?_
              refine lv_bipush (v := 8) hx hb dX4_run_170 (by decide) ?_
              refine lv_iload_n hx hb dX4_run_172 rfl (lv_at hl 7 rfl) ?_
              refine lv_imul hx hb dX4_run_173 ?_
              refine lv_iload hx hb dX4_run_174 (lv_at hl 2 rfl) ?_
              refine lv_iadd hx hb dX4_run_176 ?_
              refine lv_bipush (v := 8) hx hb dX4_run_177 (by decide) ?_
              refine lv_iload_n hx hb dX4_run_179 rfl (lv_at hl 7 rfl) ?_
              refine lv_imul hx hb dX4_run_180 ?_
              refine lv_iload hx hb dX4_run_181 (lv_at hl 1 rfl) ?_
              refine lv_iadd hx hb dX4_run_183 ?_
              refine lv_iload_n hx hb dX4_run_184 rfl (lv_at hl 4 rfl) ?_
              refine lv_bipush (v := 16) hx hb dX4_run_185 (by decide) ?_
              refine lv_ishr hx hb dX4_run_187 ?_
              refine wx_Vv (w := (mw k)) (f_X4_reckon k (mu (mu M 0 14 p1.toNatClampNeg ((M 0 14 p1.toNatClampNeg) + 1)) 0 9 p1.toNatClampNeg (x2 + 1)) p1 x4 ((8 * p1) + x5) ((8 * p1) + x6) (x3 >>> (16 &&& 31))) [.int p1, .int x4, .int ((8 * p1) + x5), .int ((8 * p1) + x6), .int (x3 >>> (16 &&& 31))] [] (mZok k) ⟨hx, hb, hml, hown, hts⟩ (c_X4_reckon l k (mu (mu M 0 14 p1.toNatClampNeg ((M 0 14 p1.toNatClampNeg) + 1)) 0 9 p1.toNatClampNeg (x2 + 1)) p1 x4 ((8 * p1) + x5) ((8 * p1) + x6) (x3 >>> (16 &&& 31)) (mI_rn hinv.1) hinv.2.1 (rn_8 hinv.1 hinv.2.1 hinv.2.2.2.1 c_101) (rn_8 hinv.1 hinv.2.1 hinv.2.2.2.2 c_108) (by first | exact rn_d c_128 | exact fun h => absurd h (fun q => q.elim c_73 c_80))) (cwV 5 hts gX4_run_X4_reckon rfl rfl rfl (by decide +kernel) ⟨by decide, by decide⟩) (wx_recv (w := (mw k)) (g := 0) (j := 0) hK hP (mIx_0 (by decide)) rfl rfl) hP hK hD hZ hS rfl hl.1 rfl (Nat.le_of_ble_eq_true rfl) dX4_run_188 ⟨by decide, by decide⟩ (fun H locs hP hS => ?_)
              refine lv_goto (tgt := 215) hx hb dX4_run_191 (by decide) ?_
              have e9 : f_X4_run_L69 k p1 x2 x3 x4 x5 x6 M = (f_X4_reckon k (mu (mu M 0 14 p1.toNatClampNeg ((M 0 14 p1.toNatClampNeg) + 1)) 0 9 p1.toNatClampNeg (x2 + 1)) p1 x4 ((8 * p1) + x5) ((8 * p1) + x6) (x3 >>> (16 &&& 31))) := (by unfold f_X4_run_L69; rw [if_pos c_73, if_neg c_94, if_neg c_101, if_neg c_108, if_neg c_128, if_neg c_163])
              exact wx_vret hx hb hr hlocks hP hS (by rw [e9] at hpo; exact hpo) dX4_run_215
          · refine lv_aload_n hx hb dX4_run_131 rfl (lv_at hl 6 rfl) ?_
            refine wx_get (w := (mw k)) (g := 0) (j := 0) hx hb hts hiX4 hown hK hP (mIx_0 (by decide)) rfl rfl 7 (by decide) hf17 rfl dX4_run_132 ?_
            refine lv_iload_n hx hb dX4_run_135 rfl (lv_at hl 7 rfl) ?_
            refine lv_bipush (v := 6) hx hb dX4_run_136 (by decide) ?_
            refine wx_iast (w := (mw k)) (g := 0) (j := 3) hx hb hK hP hD hS (mIx_0 (by decide)) 0 (fun _ => rfl) rfl (m8 hinv.1 hinv.2.1) dX4_run_138 (fun H locs hP hS => ?_)
            have e9 : f_X4_run_L69 k p1 x2 x3 x4 x5 x6 M = (mu M 0 3 p1.toNatClampNeg 6) := (by unfold f_X4_run_L69; rw [if_pos c_73, if_neg c_94, if_neg c_101, if_neg c_108, if_pos c_128])
            exact wx_vret hx hb hr hlocks hP hS (by rw [e9] at hpo; exact hpo) dX4_run_139
  · refine lv_iload hx hb dX4_run_76 (lv_at hl 2 rfl) ?_
    refine lv_bipush (v := 7) hx hb dX4_run_78 (by decide) ?_
    refine lv_icmp_ne (tgt := 87) hx hb dX4_run_80 (by decide) (fun c_80 => ?_) (fun c_80 => ?_)
    · refine lv_iconst (v := 0) hx hb dX4_run_87 (by decide) ?_
      refine lv_istore (lv' := [(7, .int 0), (6, .int x6), (5, .int x5), (4, .int x4), (3, .int x3), (2, .int x2), (0, .ref (k.1 0 0)), (1, .int p1)]) hx hb dX4_run_88 hl (by decide) rfl (fun ls hl => ?_)
      refine lv_iload hx hb dX4_run_90 (lv_at hl 3 rfl) ?_
      refine lv_bipush (v := 24) hx hb dX4_run_92 (by decide) ?_
      refine lv_icmp_gt (tgt := 131) hx hb dX4_run_94 (by decide) (fun c_94 => ?_) (fun c_94 => ?_)
      · refine lv_aload_n hx hb dX4_run_131 rfl (lv_at hl 6 rfl) ?_
        refine wx_get (w := (mw k)) (g := 0) (j := 0) hx hb hts hiX4 hown hK hP (mIx_0 (by decide)) rfl rfl 7 (by decide) hf17 rfl dX4_run_132 ?_
        refine lv_iload_n hx hb dX4_run_135 rfl (lv_at hl 7 rfl) ?_
        refine lv_bipush (v := 6) hx hb dX4_run_136 (by decide) ?_
        refine wx_iast (w := (mw k)) (g := 0) (j := 3) hx hb hK hP hD hS (mIx_0 (by decide)) 0 (fun _ => rfl) rfl (m8 hinv.1 hinv.2.1) dX4_run_138 (fun H locs hP hS => ?_)
        have e9 : f_X4_run_L69 k p1 x2 x3 x4 x5 x6 M = (mu M 0 3 p1.toNatClampNeg 6) := (by unfold f_X4_run_L69; rw [if_neg c_73, if_neg c_80, if_pos c_94])
        exact wx_vret hx hb hr hlocks hP hS (by rw [e9] at hpo; exact hpo) dX4_run_139
      · refine lv_iload hx hb dX4_run_97 (lv_at hl 2 rfl) ?_
        refine lv_bipush (v := 7) hx hb dX4_run_99 (by decide) ?_
        refine lv_icmp_gt (tgt := 131) hx hb dX4_run_101 (by decide) (fun c_101 => ?_) (fun c_101 => ?_)
        · refine lv_aload_n hx hb dX4_run_131 rfl (lv_at hl 6 rfl) ?_
          refine wx_get (w := (mw k)) (g := 0) (j := 0) hx hb hts hiX4 hown hK hP (mIx_0 (by decide)) rfl rfl 7 (by decide) hf17 rfl dX4_run_132 ?_
          refine lv_iload_n hx hb dX4_run_135 rfl (lv_at hl 7 rfl) ?_
          refine lv_bipush (v := 6) hx hb dX4_run_136 (by decide) ?_
          refine wx_iast (w := (mw k)) (g := 0) (j := 3) hx hb hK hP hD hS (mIx_0 (by decide)) 0 (fun _ => rfl) rfl (m8 hinv.1 hinv.2.1) dX4_run_138 (fun H locs hP hS => ?_)
          have e9 : f_X4_run_L69 k p1 x2 x3 x4 x5 x6 M = (mu M 0 3 p1.toNatClampNeg 6) := (by unfold f_X4_run_L69; rw [if_neg c_73, if_neg c_80, if_neg c_94, if_pos c_101])
          exact wx_vret hx hb hr hlocks hP hS (by rw [e9] at hpo; exact hpo) dX4_run_139
        · refine lv_iload hx hb dX4_run_104 (lv_at hl 1 rfl) ?_
          refine lv_bipush (v := 7) hx hb dX4_run_106 (by decide) ?_
          refine lv_icmp_gt (tgt := 131) hx hb dX4_run_108 (by decide) (fun c_108 => ?_) (fun c_108 => ?_)
          · refine lv_aload_n hx hb dX4_run_131 rfl (lv_at hl 6 rfl) ?_
            refine wx_get (w := (mw k)) (g := 0) (j := 0) hx hb hts hiX4 hown hK hP (mIx_0 (by decide)) rfl rfl 7 (by decide) hf17 rfl dX4_run_132 ?_
            refine lv_iload_n hx hb dX4_run_135 rfl (lv_at hl 7 rfl) ?_
            refine lv_bipush (v := 6) hx hb dX4_run_136 (by decide) ?_
            refine wx_iast (w := (mw k)) (g := 0) (j := 3) hx hb hK hP hD hS (mIx_0 (by decide)) 0 (fun _ => rfl) rfl (m8 hinv.1 hinv.2.1) dX4_run_138 (fun H locs hP hS => ?_)
            have e9 : f_X4_run_L69 k p1 x2 x3 x4 x5 x6 M = (mu M 0 3 p1.toNatClampNeg 6) := (by unfold f_X4_run_L69; rw [if_neg c_73, if_neg c_80, if_neg c_94, if_neg c_101, if_pos c_108])
            exact wx_vret hx hb hr hlocks hP hS (by rw [e9] at hpo; exact hpo) dX4_run_139
          · refine lv_iload hx hb dX4_run_111 (lv_at hl 0 rfl) ?_
            refine lv_if_eq (tgt := 140) hx hb dX4_run_113 (by decide) (fun _ => ?_) (fun h9 => absurd h9 (by decide))
            refine lv_aload_n hx hb dX4_run_140 rfl (lv_at hl 6 rfl) ?_
            refine wx_get (w := (mw k)) (g := 0) (j := 0) hx hb hts hiX4 hown hK hP (mIx_0 (by decide)) rfl rfl 18 (by decide) hf50 rfl dX4_run_141 ?_
            refine lv_iload_n hx hb dX4_run_144 rfl (lv_at hl 7 rfl) ?_
            refine lv_dup2_11 hx hb dX4_run_145 rfl rfl ?_
            refine wx_iald (w := (mw k)) (g := 0) (j := 14) hx hb hK hP (mIx_0 (by decide)) 0 rfl rfl (m8 hinv.1 hinv.2.1) dX4_run_146 ?_
            refine lv_iconst (v := 1) hx hb dX4_run_147 (by decide) ?_
            refine lv_iadd hx hb dX4_run_148 ?_
            refine wx_iast (w := (mw k)) (g := 0) (j := 14) hx hb hK hP hD hS (mIx_0 (by decide)) 0 (fun _ => rfl) rfl (m8 hinv.1 hinv.2.1) dX4_run_149 (fun H locs hP hS => ?_)
            refine lv_aload_n hx hb dX4_run_150 rfl (lv_at hl 6 rfl) ?_
            refine wx_get (w := (mw k)) (g := 0) (j := 0) hx hb hts hiX4 hown hK hP (mIx_0 (by decide)) rfl rfl 13 (by decide) hf35 rfl dX4_run_151 ?_
            refine lv_iload_n hx hb dX4_run_154 rfl (lv_at hl 7 rfl) ?_
            refine lv_iload_n hx hb dX4_run_155 rfl (lv_at hl 5 rfl) ?_
            refine lv_iconst (v := 1) hx hb dX4_run_156 (by decide) ?_
            refine lv_iadd hx hb dX4_run_157 ?_
            refine wx_iast (w := (mw k)) (g := 0) (j := 9) hx hb hK hP hD hS (mIx_0 (by decide)) 0 (fun _ => rfl) rfl (m8 hinv.1 hinv.2.1) dX4_run_158 (fun H locs hP hS => ?_)
            refine lv_iload hx hb dX4_run_159 (lv_at hl 3 rfl) ?_
            refine lv_bipush (v := 13) hx hb dX4_run_161 (by decide) ?_
            refine lv_icmp_ge (tgt := 194) hx hb dX4_run_163 (by decide) (fun c_163 => ?_) (fun c_163 => ?_)
            · refine lv_aload_n hx hb dX4_run_194 rfl (lv_at hl 6 rfl) ?_
              refine lv_iload_n hx hb dX4_run_195 rfl (lv_at hl 7 rfl) ?_
              refine lv_iload hx hb dX4_run_196 (lv_at hl 3 rfl) ?_
              refine lv_bipush (v := 8) hx hb dX4_run_198 (by decide) ?_
              refine lv_iload_n hx hb dX4_run_200 rfl (lv_at hl 7 rfl) ?_
              refine lv_imul hx hb dX4_run_201 ?_
              refine lv_iload hx hb dX4_run_202 (lv_at hl 2 rfl) ?_
              refine lv_iadd hx hb dX4_run_204 ?_
              refine lv_bipush (v := 8) hx hb dX4_run_205 (by decide) ?_
              refine lv_iload_n hx hb dX4_run_207 rfl (lv_at hl 7 rfl) ?_
              refine lv_imul hx hb dX4_run_208 ?_
              refine lv_iload hx hb dX4_run_209 (lv_at hl 1 rfl) ?_
              refine lv_iadd hx hb dX4_run_211 ?_
              refine wx_Vv (w := (mw k)) (f_X4_act k (mu (mu M 0 14 p1.toNatClampNeg ((M 0 14 p1.toNatClampNeg) + 1)) 0 9 p1.toNatClampNeg (x2 + 1)) p1 x4 ((8 * p1) + x5) ((8 * p1) + x6)) [.int p1, .int x4, .int ((8 * p1) + x5), .int ((8 * p1) + x6)] [] (mZok k) ⟨hx, hb, hml, hown, hts⟩ (c_X4_act l k (mu (mu M 0 14 p1.toNatClampNeg ((M 0 14 p1.toNatClampNeg) + 1)) 0 9 p1.toNatClampNeg (x2 + 1)) p1 x4 ((8 * p1) + x5) ((8 * p1) + x6) (mI_rn hinv.1) hinv.2.1 (rn_s hinv.2.2.1) (rn_8 hinv.1 hinv.2.1 hinv.2.2.2.1 c_101) (rn_8 hinv.1 hinv.2.1 hinv.2.2.2.2 c_108)) (cwV 4 hts gX4_run_X4_act rfl rfl rfl (by decide +kernel) ⟨by decide, by decide⟩) (wx_recv (w := (mw k)) (g := 0) (j := 0) hK hP (mIx_0 (by decide)) rfl rfl) hP hK hD hZ hS rfl hl.1 rfl (Nat.le_of_ble_eq_true rfl) dX4_run_212 ⟨by decide, by decide⟩ (fun H locs hP hS => ?_)
              have e9 : f_X4_run_L69 k p1 x2 x3 x4 x5 x6 M = (f_X4_act k (mu (mu M 0 14 p1.toNatClampNeg ((M 0 14 p1.toNatClampNeg) + 1)) 0 9 p1.toNatClampNeg (x2 + 1)) p1 x4 ((8 * p1) + x5) ((8 * p1) + x6)) := (by unfold f_X4_run_L69; rw [if_neg c_73, if_neg c_80, if_neg c_94, if_neg c_101, if_neg c_108, if_pos c_163])
              exact wx_vret hx hb hr hlocks hP hS (by rw [e9] at hpo; exact hpo) dX4_run_215
            · refine lv_aload_n hx hb dX4_run_166 rfl (lv_at hl 6 rfl) ?_
              refine lv_iload_n hx hb dX4_run_167 rfl (lv_at hl 7 rfl) ?_
              refine lv_iload hx hb dX4_run_168 (lv_at hl 3 rfl) ?_
              refine lv_bipush (v := 8) hx hb dX4_run_170 (by decide) ?_
              refine lv_iload_n hx hb dX4_run_172 rfl (lv_at hl 7 rfl) ?_
              refine lv_imul hx hb dX4_run_173 ?_
              refine lv_iload hx hb dX4_run_174 (lv_at hl 2 rfl) ?_
              refine lv_iadd hx hb dX4_run_176 ?_
              refine lv_bipush (v := 8) hx hb dX4_run_177 (by decide) ?_
              refine lv_iload_n hx hb dX4_run_179 rfl (lv_at hl 7 rfl) ?_
              refine lv_imul hx hb dX4_run_180 ?_
              refine lv_iload hx hb dX4_run_181 (lv_at hl 1 rfl) ?_
              refine lv_iadd hx hb dX4_run_183 ?_
              refine lv_iload_n hx hb dX4_run_184 rfl (lv_at hl 4 rfl) ?_
              refine lv_bipush (v := 16) hx hb dX4_run_185 (by decide) ?_
              refine lv_ishr hx hb dX4_run_187 ?_
              refine wx_Vv (w := (mw k)) (f_X4_reckon k (mu (mu M 0 14 p1.toNatClampNeg ((M 0 14 p1.toNatClampNeg) + 1)) 0 9 p1.toNatClampNeg (x2 + 1)) p1 x4 ((8 * p1) + x5) ((8 * p1) + x6) (x3 >>> (16 &&& 31))) [.int p1, .int x4, .int ((8 * p1) + x5), .int ((8 * p1) + x6), .int (x3 >>> (16 &&& 31))] [] (mZok k) ⟨hx, hb, hml, hown, hts⟩ (c_X4_reckon l k (mu (mu M 0 14 p1.toNatClampNeg ((M 0 14 p1.toNatClampNeg) + 1)) 0 9 p1.toNatClampNeg (x2 + 1)) p1 x4 ((8 * p1) + x5) ((8 * p1) + x6) (x3 >>> (16 &&& 31)) (mI_rn hinv.1) hinv.2.1 (rn_8 hinv.1 hinv.2.1 hinv.2.2.2.1 c_101) (rn_8 hinv.1 hinv.2.1 hinv.2.2.2.2 c_108) (by first | exact rn_d c_128 | exact fun h => absurd h (fun q => q.elim c_73 c_80))) (cwV 5 hts gX4_run_X4_reckon rfl rfl rfl (by decide +kernel) ⟨by decide, by decide⟩) (wx_recv (w := (mw k)) (g := 0) (j := 0) hK hP (mIx_0 (by decide)) rfl rfl) hP hK hD hZ hS rfl hl.1 rfl (Nat.le_of_ble_eq_true rfl) dX4_run_188 ⟨by decide, by decide⟩ (fun H locs hP hS => ?_)
              refine lv_goto (tgt := 215) hx hb dX4_run_191 (by decide) ?_
              have e9 : f_X4_run_L69 k p1 x2 x3 x4 x5 x6 M = (f_X4_reckon k (mu (mu M 0 14 p1.toNatClampNeg ((M 0 14 p1.toNatClampNeg) + 1)) 0 9 p1.toNatClampNeg (x2 + 1)) p1 x4 ((8 * p1) + x5) ((8 * p1) + x6) (x3 >>> (16 &&& 31))) := (by unfold f_X4_run_L69; rw [if_neg c_73, if_neg c_80, if_neg c_94, if_neg c_101, if_neg c_108, if_neg c_163])
              exact wx_vret hx hb hr hlocks hP hS (by rw [e9] at hpo; exact hpo) dX4_run_215
    · refine lv_iconst (v := 1) hx hb dX4_run_83 (by decide) ?_
      refine lv_goto (tgt := 88) hx hb dX4_run_84 (by decide) ?_
      refine lv_istore (lv' := [(7, .int 1), (6, .int x6), (5, .int x5), (4, .int x4), (3, .int x3), (2, .int x2), (0, .ref (k.1 0 0)), (1, .int p1)]) hx hb dX4_run_88 hl (by decide) rfl (fun ls hl => ?_)
      refine lv_iload hx hb dX4_run_90 (lv_at hl 3 rfl) ?_
      refine lv_bipush (v := 24) hx hb dX4_run_92 (by decide) ?_
      refine lv_icmp_gt (tgt := 131) hx hb dX4_run_94 (by decide) (fun c_94 => ?_) (fun c_94 => ?_)
      · refine lv_aload_n hx hb dX4_run_131 rfl (lv_at hl 6 rfl) ?_
        refine wx_get (w := (mw k)) (g := 0) (j := 0) hx hb hts hiX4 hown hK hP (mIx_0 (by decide)) rfl rfl 7 (by decide) hf17 rfl dX4_run_132 ?_
        refine lv_iload_n hx hb dX4_run_135 rfl (lv_at hl 7 rfl) ?_
        refine lv_bipush (v := 6) hx hb dX4_run_136 (by decide) ?_
        refine wx_iast (w := (mw k)) (g := 0) (j := 3) hx hb hK hP hD hS (mIx_0 (by decide)) 0 (fun _ => rfl) rfl (m8 hinv.1 hinv.2.1) dX4_run_138 (fun H locs hP hS => ?_)
        have e9 : f_X4_run_L69 k p1 x2 x3 x4 x5 x6 M = (mu M 0 3 p1.toNatClampNeg 6) := (by unfold f_X4_run_L69; rw [if_neg c_73, if_pos c_80, if_pos c_94])
        exact wx_vret hx hb hr hlocks hP hS (by rw [e9] at hpo; exact hpo) dX4_run_139
      · refine lv_iload hx hb dX4_run_97 (lv_at hl 2 rfl) ?_
        refine lv_bipush (v := 7) hx hb dX4_run_99 (by decide) ?_
        refine lv_icmp_gt (tgt := 131) hx hb dX4_run_101 (by decide) (fun c_101 => ?_) (fun c_101 => ?_)
        · refine lv_aload_n hx hb dX4_run_131 rfl (lv_at hl 6 rfl) ?_
          refine wx_get (w := (mw k)) (g := 0) (j := 0) hx hb hts hiX4 hown hK hP (mIx_0 (by decide)) rfl rfl 7 (by decide) hf17 rfl dX4_run_132 ?_
          refine lv_iload_n hx hb dX4_run_135 rfl (lv_at hl 7 rfl) ?_
          refine lv_bipush (v := 6) hx hb dX4_run_136 (by decide) ?_
          refine wx_iast (w := (mw k)) (g := 0) (j := 3) hx hb hK hP hD hS (mIx_0 (by decide)) 0 (fun _ => rfl) rfl (m8 hinv.1 hinv.2.1) dX4_run_138 (fun H locs hP hS => ?_)
          have e9 : f_X4_run_L69 k p1 x2 x3 x4 x5 x6 M = (mu M 0 3 p1.toNatClampNeg 6) := (by unfold f_X4_run_L69; rw [if_neg c_73, if_pos c_80, if_neg c_94, if_pos c_101])
          exact wx_vret hx hb hr hlocks hP hS (by rw [e9] at hpo; exact hpo) dX4_run_139
        · refine lv_iload hx hb dX4_run_104 (lv_at hl 1 rfl) ?_
          refine lv_bipush (v := 7) hx hb dX4_run_106 (by decide) ?_
          refine lv_icmp_gt (tgt := 131) hx hb dX4_run_108 (by decide) (fun c_108 => ?_) (fun c_108 => ?_)
          · refine lv_aload_n hx hb dX4_run_131 rfl (lv_at hl 6 rfl) ?_
            refine wx_get (w := (mw k)) (g := 0) (j := 0) hx hb hts hiX4 hown hK hP (mIx_0 (by decide)) rfl rfl 7 (by decide) hf17 rfl dX4_run_132 ?_
            refine lv_iload_n hx hb dX4_run_135 rfl (lv_at hl 7 rfl) ?_
            refine lv_bipush (v := 6) hx hb dX4_run_136 (by decide) ?_
            refine wx_iast (w := (mw k)) (g := 0) (j := 3) hx hb hK hP hD hS (mIx_0 (by decide)) 0 (fun _ => rfl) rfl (m8 hinv.1 hinv.2.1) dX4_run_138 (fun H locs hP hS => ?_)
            have e9 : f_X4_run_L69 k p1 x2 x3 x4 x5 x6 M = (mu M 0 3 p1.toNatClampNeg 6) := (by unfold f_X4_run_L69; rw [if_neg c_73, if_pos c_80, if_neg c_94, if_neg c_101, if_pos c_108])
            exact wx_vret hx hb hr hlocks hP hS (by rw [e9] at hpo; exact hpo) dX4_run_139
          · refine lv_iload hx hb dX4_run_111 (lv_at hl 0 rfl) ?_
            refine lv_if_eq (tgt := 140) hx hb dX4_run_113 (by decide) (fun h9 => absurd h9 (by decide)) (fun _ => ?_)
            refine lv_aload_n hx hb dX4_run_116 rfl (lv_at hl 6 rfl) ?_
            refine wx_get (w := (mw k)) (g := 0) (j := 0) hx hb hts hiX4 hown hK hP (mIx_0 (by decide)) rfl rfl 12 (by decide) hf32 rfl dX4_run_117 ?_
            refine lv_bipush (v := 8) hx hb dX4_run_120 (by decide) ?_
            refine lv_iload_n hx hb dX4_run_122 rfl (lv_at hl 7 rfl) ?_
            refine lv_imul hx hb dX4_run_123 ?_
            refine lv_iload hx hb dX4_run_124 (lv_at hl 1 rfl) ?_
            refine lv_iadd hx hb dX4_run_126 ?_
            refine wx_iald (w := (mw k)) (g := 0) (j := 8) hx hb hK hP (mIx_0 (by decide)) 0 rfl rfl (rn_8 hinv.1 hinv.2.1 hinv.2.2.2.2 c_108) dX4_run_127 ?_
            refine lv_if_ne (tgt := 140) hx hb dX4_run_128 (by decide) (fun c_128 => ?_) (fun c_128 => ?_)
            · refine lv_aload_n hx hb dX4_run_140 rfl (lv_at hl 6 rfl) ?_
              refine wx_get (w := (mw k)) (g := 0) (j := 0) hx hb hts hiX4 hown hK hP (mIx_0 (by decide)) rfl rfl 18 (by decide) hf50 rfl dX4_run_141 ?_
              refine lv_iload_n hx hb dX4_run_144 rfl (lv_at hl 7 rfl) ?_
              refine lv_dup2_11 hx hb dX4_run_145 rfl rfl ?_
              refine wx_iald (w := (mw k)) (g := 0) (j := 14) hx hb hK hP (mIx_0 (by decide)) 0 rfl rfl (m8 hinv.1 hinv.2.1) dX4_run_146 ?_
              refine lv_iconst (v := 1) hx hb dX4_run_147 (by decide) ?_
              refine lv_iadd hx hb dX4_run_148 ?_
              refine wx_iast (w := (mw k)) (g := 0) (j := 14) hx hb hK hP hD hS (mIx_0 (by decide)) 0 (fun _ => rfl) rfl (m8 hinv.1 hinv.2.1) dX4_run_149 (fun H locs hP hS => ?_)
              refine lv_aload_n hx hb dX4_run_150 rfl (lv_at hl 6 rfl) ?_
              refine wx_get (w := (mw k)) (g := 0) (j := 0) hx hb hts hiX4 hown hK hP (mIx_0 (by decide)) rfl rfl 13 (by decide) hf35 rfl dX4_run_151 ?_
              refine lv_iload_n hx hb dX4_run_154 rfl (lv_at hl 7 rfl) ?_
              refine lv_iload_n hx hb dX4_run_155 rfl (lv_at hl 5 rfl) ?_
              refine lv_iconst (v := 1) hx hb dX4_run_156 (by decide) ?_
              refine lv_iadd hx hb dX4_run_157 ?_
              refine wx_iast (w := (mw k)) (g := 0) (j := 9) hx hb hK hP hD hS (mIx_0 (by decide)) 0 (fun _ => rfl) rfl (m8 hinv.1 hinv.2.1) dX4_run_158 (fun H locs hP hS => ?_)
              refine lv_iload hx hb dX4_run_159 (lv_at hl 3 rfl) ?_
              refine lv_bipush (v := 13) hx hb dX4_run_161 (by decide) ?_
              refine lv_icmp_ge (tgt := 194) hx hb dX4_run_163 (by decide) (fun c_163 => ?_) (fun c_163 => ?_)
              · refine lv_aload_n hx hb dX4_run_194 rfl (lv_at hl 6 rfl) ?_
                refine lv_iload_n hx hb dX4_run_195 rfl (lv_at hl 7 rfl) ?_
                refine lv_iload hx hb dX4_run_196 (lv_at hl 3 rfl) ?_
                refine lv_bipush (v := 8) hx hb dX4_run_198 (by decide) ?_
                refine lv_iload_n hx hb dX4_run_200 rfl (lv_at hl 7 rfl) ?_
                refine lv_imul hx hb dX4_run_201 ?_
                refine lv_iload hx hb dX4_run_202 (lv_at hl 2 rfl) ?_
                refine lv_iadd hx hb dX4_run_204 ?_
                refine lv_bipush (v := 8) hx hb dX4_run_205 (by decide) ?_
                refine lv_iload_n hx hb dX4_run_207 rfl (lv_at hl 7 rfl) ?_
                refine lv_imul hx hb dX4_run_208 ?_
                refine lv_iload hx hb dX4_run_209 (lv_at hl 1 rfl) ?_
                refine lv_iadd hx hb dX4_run_211 ?_
                refine wx_Vv (w := (mw k)) (f_X4_act k (mu (mu M 0 14 p1.toNatClampNeg ((M 0 14 p1.toNatClampNeg) + 1)) 0 9 p1.toNatClampNeg (x2 + 1)) p1 x4 ((8 * p1) + x5) ((8 * p1) + x6)) [.int p1, .int x4, .int ((8 * p1) + x5), .int ((8 * p1) + x6)] [] (mZok k) ⟨hx, hb, hml, hown, hts⟩ (c_X4_act l k (mu (mu M 0 14 p1.toNatClampNeg ((M 0 14 p1.toNatClampNeg) + 1)) 0 9 p1.toNatClampNeg (x2 + 1)) p1 x4 ((8 * p1) + x5) ((8 * p1) + x6) (mI_rn hinv.1) hinv.2.1 (rn_s hinv.2.2.1) (rn_8 hinv.1 hinv.2.1 hinv.2.2.2.1 c_101) (rn_8 hinv.1 hinv.2.1 hinv.2.2.2.2 c_108)) (cwV 4 hts gX4_run_X4_act rfl rfl rfl (by decide +kernel) ⟨by decide, by decide⟩) (wx_recv (w := (mw k)) (g := 0) (j := 0) hK hP (mIx_0 (by decide)) rfl rfl) hP hK hD hZ hS rfl hl.1 rfl (Nat.le_of_ble_eq_true rfl) dX4_run_212 ⟨by decide, by decide⟩ (fun H locs hP hS => ?_)
                have e9 : f_X4_run_L69 k p1 x2 x3 x4 x5 x6 M = (f_X4_act k (mu (mu M 0 14 p1.toNatClampNeg ((M 0 14 p1.toNatClampNeg) + 1)) 0 9 p1.toNatClampNeg (x2 + 1)) p1 x4 ((8 * p1) + x5) ((8 * p1) + x6)) := (by unfold f_X4_run_L69; rw [if_neg c_73, if_pos c_80, if_neg c_94, if_neg c_101, if_neg c_108, if_neg c_128, if_pos c_163])
                exact wx_vret hx hb hr hlocks hP hS (by rw [e9] at hpo; exact hpo) dX4_run_215
              · refine lv_aload_n hx hb dX4_run_166 rfl (lv_at hl 6 rfl) ?_
                refine lv_iload_n hx hb dX4_run_167 rfl (lv_at hl 7 rfl) ?_
                refine lv_iload hx hb dX4_run_168 (lv_at hl 3 rfl) ?_
                refine lv_bipush (v := 8) hx hb dX4_run_170 (by decide) ?_
                refine lv_iload_n hx hb dX4_run_172 rfl (lv_at hl 7 rfl) ?_
                refine lv_imul hx hb dX4_run_173 ?_
                refine lv_iload hx hb dX4_run_174 (lv_at hl 2 rfl) ?_
                refine lv_iadd hx hb dX4_run_176 ?_
                refine lv_bipush (v := 8) hx hb dX4_run_177 (by decide) ?_
                refine lv_iload_n hx hb dX4_run_179 rfl (lv_at hl 7 rfl) ?_
                refine lv_imul hx hb dX4_run_180 ?_
                refine lv_iload hx hb dX4_run_181 (lv_at hl 1 rfl) ?_
                refine lv_iadd hx hb dX4_run_183 ?_
                refine lv_iload_n hx hb dX4_run_184 rfl (lv_at hl 4 rfl) ?_
                refine lv_bipush (v := 16) hx hb dX4_run_185 (by decide) ?_
                refine lv_ishr hx hb dX4_run_187 ?_
                refine wx_Vv (w := (mw k)) (f_X4_reckon k (mu (mu M 0 14 p1.toNatClampNeg ((M 0 14 p1.toNatClampNeg) + 1)) 0 9 p1.toNatClampNeg (x2 + 1)) p1 x4 ((8 * p1) + x5) ((8 * p1) + x6) (x3 >>> (16 &&& 31))) [.int p1, .int x4, .int ((8 * p1) + x5), .int ((8 * p1) + x6), .int (x3 >>> (16 &&& 31))] [] (mZok k) ⟨hx, hb, hml, hown, hts⟩ (c_X4_reckon l k (mu (mu M 0 14 p1.toNatClampNeg ((M 0 14 p1.toNatClampNeg) + 1)) 0 9 p1.toNatClampNeg (x2 + 1)) p1 x4 ((8 * p1) + x5) ((8 * p1) + x6) (x3 >>> (16 &&& 31)) (mI_rn hinv.1) hinv.2.1 (rn_8 hinv.1 hinv.2.1 hinv.2.2.2.1 c_101) (rn_8 hinv.1 hinv.2.1 hinv.2.2.2.2 c_108) (by first | exact rn_d c_128 | exact fun h => absurd h (fun q => q.elim c_73 c_80))) (cwV 5 hts gX4_run_X4_reckon rfl rfl rfl (by decide +kernel) ⟨by decide, by decide⟩) (wx_recv (w := (mw k)) (g := 0) (j := 0) hK hP (mIx_0 (by decide)) rfl rfl) hP hK hD hZ hS rfl hl.1 rfl (Nat.le_of_ble_eq_true rfl) dX4_run_188 ⟨by decide, by decide⟩ (fun H locs hP hS => ?_)
                refine lv_goto (tgt := 215) hx hb dX4_run_191 (by decide) ?_
                have e9 : f_X4_run_L69 k p1 x2 x3 x4 x5 x6 M = (f_X4_reckon k (mu (mu M 0 14 p1.toNatClampNeg ((M 0 14 p1.toNatClampNeg) + 1)) 0 9 p1.toNatClampNeg (x2 + 1)) p1 x4 ((8 * p1) + x5) ((8 * p1) + x6) (x3 >>> (16 &&& 31))) := (by unfold f_X4_run_L69; rw [if_neg c_73, if_pos c_80, if_neg c_94, if_neg c_101, if_neg c_108, if_neg c_128, if_neg c_163])
                exact wx_vret hx hb hr hlocks hP hS (by rw [e9] at hpo; exact hpo) dX4_run_215
            · refine lv_aload_n hx hb dX4_run_131 rfl (lv_at hl 6 rfl) ?_
              refine wx_get (w := (mw k)) (g := 0) (j := 0) hx hb hts hiX4 hown hK hP (mIx_0 (by decide)) rfl rfl 7 (by decide) hf17 rfl dX4_run_132 ?_
              refine lv_iload_n hx hb dX4_run_135 rfl (lv_at hl 7 rfl) ?_
              refine lv_bipush (v := 6) hx hb dX4_run_136 (by decide) ?_
              refine wx_iast (w := (mw k)) (g := 0) (j := 3) hx hb hK hP hD hS (mIx_0 (by decide)) 0 (fun _ => rfl) rfl (m8 hinv.1 hinv.2.1) dX4_run_138 (fun H locs hP hS => ?_)
              have e9 : f_X4_run_L69 k p1 x2 x3 x4 x5 x6 M = (mu M 0 3 p1.toNatClampNeg 6) := (by unfold f_X4_run_L69; rw [if_neg c_73, if_pos c_80, if_neg c_94, if_neg c_101, if_neg c_108, if_pos c_128])
              exact wx_vret hx hb hr hlocks hP hS (by rw [e9] at hpo; exact hpo) dX4_run_139
/-- by program, from the bytecode of RobotWorldModel.run -/
def f_X4_run (k : MK) (M : Mem) (p1 : Int32) : Mem :=
  if (f_X4_in k M (M 0 9 p1.toNatClampNeg) 0 ((M 0 7 p1.toNatClampNeg) - 1)) = 0 then
    (mu M 0 3 p1.toNatClampNeg 6)
  else
    f_X4_run_L69 k p1 (M 0 9 p1.toNatClampNeg) (M 0 6 ((100 * p1) + (M 0 9 p1.toNatClampNeg)).toNatClampNeg) ((M 0 6 ((100 * p1) + (M 0 9 p1.toNatClampNeg)).toNatClampNeg) &&& 255) (((M 0 6 ((100 * p1) + (M 0 9 p1.toNatClampNeg)).toNatClampNeg) >>> (8 &&& 31)) &&& 15) (((M 0 6 ((100 * p1) + (M 0 9 p1.toNatClampNeg)).toNatClampNeg) >>> (12 &&& 31)) &&& 15) M
set_option maxHeartbeats 4000000 in
set_option maxRecDepth 100000 in
theorem c_X4_run (l : Launch) (k : MK) (M : Mem) (p1 : Int32) (hI : mI k M) (h1 : vp_in p1 (k.2.1 0)) (hs : 0 < M 0 3 p1.toNatClampNeg) : Met l yX4_run wsX4_run (rmK 9 224) (wPc (mw k) M [.ref (k.1 0 0), .int p1]) (wQv (mw k) (fun u => u = f_X4_run k M p1)) 0 0 (wA (mw k)) := by
  refine wx_met (cc := cX4_run) (maxL := 8) (ret := none) (by decide) rfl (Nat.le_of_ble_eq_true rfl) ?_
  intro p e s m below meth c ls hx hb hr hml hts hown hlocks hP hK hD hZ hS hl
  have hown : s.vm.findClass RX4 = some m.cls := hown
  have hl : lv_has ls 8 [(0, .ref (k.1 0 0)), (1, .int p1)] := hl
  have hiX4 : ∀ x ∈ u_ws RX4 TX4 22, x ∈ wsX4_run := by decide +kernel
  have hf17 := hts (.fieldLink RX4 17 "RobotWorldModel" "state" "[I") (by decide +kernel)
  have hf26 := hts (.fieldLink RX4 26 "RobotWorldModel" "program" "[I") (by decide +kernel)
  have hf29 := hts (.fieldLink RX4 29 "RobotWorldModel" "length" "[I") (by decide +kernel)
  have hf35 := hts (.fieldLink RX4 35 "RobotWorldModel" "place" "[I") (by decide +kernel)
  refine lv_aload_n hx hb dX4_run_0 rfl (lv_at hl 0 rfl) ?_
  refine wx_get (w := (mw k)) (g := 0) (j := 0) hx hb hts hiX4 hown hK hP (mIx_0 (by decide)) rfl rfl 13 (by decide) hf35 rfl dX4_run_1 ?_
  refine lv_iload_n hx hb dX4_run_4 rfl (lv_at hl 1 rfl) ?_
  refine wx_iald (w := (mw k)) (g := 0) (j := 9) hx hb hK hP (mIx_0 (by decide)) 0 rfl rfl (m8 hI h1) dX4_run_5 ?_
  refine lv_istore_n (lv' := [(2, .int (M 0 9 p1.toNatClampNeg)), (0, .ref (k.1 0 0)), (1, .int p1)]) hx hb dX4_run_6 rfl hl (by decide) rfl (fun ls hl => ?_)
  refine lv_iload_n hx hb dX4_run_7 rfl (lv_at hl 0 rfl) ?_
  refine lv_iconst (v := 0) hx hb dX4_run_8 (by decide) ?_
  refine lv_aload_n hx hb dX4_run_9 rfl (lv_at hl 1 rfl) ?_
  refine wx_get (w := (mw k)) (g := 0) (j := 0) hx hb hts hiX4 hown hK hP (mIx_0 (by decide)) rfl rfl 11 (by decide) hf29 rfl dX4_run_10 ?_
  refine lv_iload_n hx hb dX4_run_13 rfl (lv_at hl 2 rfl) ?_
  refine wx_iald (w := (mw k)) (g := 0) (j := 7) hx hb hK hP (mIx_0 (by decide)) 0 rfl rfl (m8 hI h1) dX4_run_14 ?_
  refine lv_iconst (v := 1) hx hb dX4_run_15 (by decide) ?_
  refine lv_isub hx hb dX4_run_16 ?_
  refine wx_Si (w := (mw k)) (f_X4_in k M (M 0 9 p1.toNatClampNeg) 0 ((M 0 7 p1.toNatClampNeg) - 1)) M [.int (M 0 9 p1.toNatClampNeg), .int 0, .int ((M 0 7 p1.toNatClampNeg) - 1)] [] (mZok k) ⟨hx, hb, hml, hown, hts⟩ (c_X4_in l k M (M 0 9 p1.toNatClampNeg) 0 ((M 0 7 p1.toNatClampNeg) - 1) ) (va_cwS 3 hts gX4_run_X4_in rfl rfl rfl (by decide +kernel) ⟨by decide, by decide⟩) hP hK hD hZ hS rfl hl.1 rfl (Nat.le_of_ble_eq_true rfl) dX4_run_17 ⟨by decide, by decide⟩ (fun H locs hP hS => ?_)
  refine lv_if_ne (tgt := 32) hx hb dX4_run_20 (by decide) (fun c_20 => ?_) (fun c_20 => ?_)
  · refine lv_aload_n hx hb dX4_run_32 rfl (lv_at hl 1 rfl) ?_
    refine wx_get (w := (mw k)) (g := 0) (j := 0) hx hb hts hiX4 hown hK hP (mIx_0 (by decide)) rfl rfl 10 (by decide) hf26 rfl dX4_run_33 ?_
    refine lv_bipush (v := 100) hx hb dX4_run_36 (by decide) ?_
    refine lv_iload_n hx hb dX4_run_38 rfl (lv_at hl 2 rfl) ?_
    refine lv_imul hx hb dX4_run_39 ?_
    refine lv_iload_n hx hb dX4_run_40 rfl (lv_at hl 0 rfl) ?_
    refine lv_iadd hx hb dX4_run_41 ?_
    refine wx_iald (w := (mw k)) (g := 0) (j := 6) hx hb hK hP (mIx_0 (by decide)) 0 rfl rfl (rn_p hI h1 c_20) dX4_run_42 ?_
    refine lv_istore_n (lv' := [(3, .int (M 0 6 ((100 * p1) + (M 0 9 p1.toNatClampNeg)).toNatClampNeg)), (2, .int (M 0 9 p1.toNatClampNeg)), (0, .ref (k.1 0 0)), (1, .int p1)]) hx hb dX4_run_43 rfl hl (by decide) rfl (fun ls hl => ?_)
    refine lv_iload_n hx hb dX4_run_44 rfl (lv_at hl 0 rfl) ?_
    refine lv_sipush (v := 255) hx hb dX4_run_45 (by decide) ?_
    refine lv_iand hx hb dX4_run_48 ?_
    refine lv_istore (lv' := [(4, .int ((M 0 6 ((100 * p1) + (M 0 9 p1.toNatClampNeg)).toNatClampNeg) &&& 255)), (3, .int (M 0 6 ((100 * p1) + (M 0 9 p1.toNatClampNeg)).toNatClampNeg)), (2, .int (M 0 9 p1.toNatClampNeg)), (0, .ref (k.1 0 0)), (1, .int p1)]) hx hb dX4_run_49 hl (by decide) rfl (fun ls hl => ?_)
    refine lv_iload_n hx hb dX4_run_51 rfl (lv_at hl 1 rfl) ?_
    refine lv_bipush (v := 8) hx hb dX4_run_52 (by decide) ?_
    refine lv_ishr hx hb dX4_run_54 ?_
    refine lv_bipush (v := 15) hx hb dX4_run_55 (by decide) ?_
    refine lv_iand hx hb dX4_run_57 ?_
    refine lv_istore (lv' := [(5, .int (((M 0 6 ((100 * p1) + (M 0 9 p1.toNatClampNeg)).toNatClampNeg) >>> (8 &&& 31)) &&& 15)), (4, .int ((M 0 6 ((100 * p1) + (M 0 9 p1.toNatClampNeg)).toNatClampNeg) &&& 255)), (3, .int (M 0 6 ((100 * p1) + (M 0 9 p1.toNatClampNeg)).toNatClampNeg)), (2, .int (M 0 9 p1.toNatClampNeg)), (0, .ref (k.1 0 0)), (1, .int p1)]) hx hb dX4_run_58 hl (by decide) rfl (fun ls hl => ?_)
    refine lv_iload_n hx hb dX4_run_60 rfl (lv_at hl 2 rfl) ?_
    refine lv_bipush (v := 12) hx hb dX4_run_61 (by decide) ?_
    refine lv_ishr hx hb dX4_run_63 ?_
    refine lv_bipush (v := 15) hx hb dX4_run_64 (by decide) ?_
    refine lv_iand hx hb dX4_run_66 ?_
    refine lv_istore (lv' := [(6, .int (((M 0 6 ((100 * p1) + (M 0 9 p1.toNatClampNeg)).toNatClampNeg) >>> (12 &&& 31)) &&& 15)), (5, .int (((M 0 6 ((100 * p1) + (M 0 9 p1.toNatClampNeg)).toNatClampNeg) >>> (8 &&& 31)) &&& 15)), (4, .int ((M 0 6 ((100 * p1) + (M 0 9 p1.toNatClampNeg)).toNatClampNeg) &&& 255)), (3, .int (M 0 6 ((100 * p1) + (M 0 9 p1.toNatClampNeg)).toNatClampNeg)), (2, .int (M 0 9 p1.toNatClampNeg)), (0, .ref (k.1 0 0)), (1, .int p1)]) hx hb dX4_run_67 hl (by decide) rfl (fun ls hl => ?_)
    have e9 : f_X4_run k M p1 = f_X4_run_L69 k p1 (M 0 9 p1.toNatClampNeg) (M 0 6 ((100 * p1) + (M 0 9 p1.toNatClampNeg)).toNatClampNeg) ((M 0 6 ((100 * p1) + (M 0 9 p1.toNatClampNeg)).toNatClampNeg) &&& 255) (((M 0 6 ((100 * p1) + (M 0 9 p1.toNatClampNeg)).toNatClampNeg) >>> (8 &&& 31)) &&& 15) (((M 0 6 ((100 * p1) + (M 0 9 p1.toNatClampNeg)).toNatClampNeg) >>> (12 &&& 31)) &&& 15) M := (by unfold f_X4_run; rw [if_neg c_20])
    exact lp_X4_run_L69 k p1 hx hb hr hml hts hown hlocks hK hD hZ (M 0 9 p1.toNatClampNeg) (M 0 6 ((100 * p1) + (M 0 9 p1.toNatClampNeg)).toNatClampNeg) ((M 0 6 ((100 * p1) + (M 0 9 p1.toNatClampNeg)).toNatClampNeg) &&& 255) (((M 0 6 ((100 * p1) + (M 0 9 p1.toNatClampNeg)).toNatClampNeg) >>> (8 &&& 31)) &&& 15) (((M 0 6 ((100 * p1) + (M 0 9 p1.toNatClampNeg)).toNatClampNeg) >>> (12 &&& 31)) &&& 15) M _ _ ls (⟨hI, h1, hs, pk_andE _ 4 (by decide), pk_andE _ 4 (by decide)⟩) hP hS (lv_sub hl [0, 1, 2, 3, 4, 5, 6] rfl) _ e9.symm
  · refine lv_aload_n hx hb dX4_run_23 rfl (lv_at hl 1 rfl) ?_
    refine wx_get (w := (mw k)) (g := 0) (j := 0) hx hb hts hiX4 hown hK hP (mIx_0 (by decide)) rfl rfl 7 (by decide) hf17 rfl dX4_run_24 ?_
    refine lv_iload_n hx hb dX4_run_27 rfl (lv_at hl 2 rfl) ?_
    refine lv_bipush (v := 6) hx hb dX4_run_28 (by decide) ?_
    refine wx_iast (w := (mw k)) (g := 0) (j := 3) hx hb hK hP hD hS (mIx_0 (by decide)) 0 (fun _ => rfl) rfl (m8 hI h1) dX4_run_30 (fun H locs hP hS => ?_)
    have e9 : f_X4_run k M p1 = (mu M 0 3 p1.toNatClampNeg 6) := (by unfold f_X4_run; rw [if_pos c_20])
    exact wx_vret hx hb hr hlocks hP hS e9.symm dX4_run_31
theorem mI_rnL {k : MK} {M : Mem} {p1 x2 x3 x4 x5 x6 : Int32} (hI : mI k M) (h1 : vp_in p1 (k.2.1 0)) (hs : 0 < M 0 3 p1.toNatClampNeg) : mI k (f_X4_run_L69 k p1 x2 x3 x4 x5 x6 M) := by
  unfold f_X4_run_L69
  by_cases y0 : x4 = 6
  · rw [if_pos y0]
    by_cases y1 : 24 < x4
    · rw [if_pos y1]
      exact (mI_st hI (fun _ => by simpa [mu_at] using hs))
    · rw [if_neg y1]
      by_cases y2 : 7 < x5
      · rw [if_pos y2]
        exact (mI_st hI (fun _ => by simpa [mu_at] using hs))
      · rw [if_neg y2]
        by_cases y3 : 7 < x6
        · rw [if_pos y3]
          exact (mI_st hI (fun _ => by simpa [mu_at] using hs))
        · rw [if_neg y3]
          by_cases y4 : (M 0 8 ((8 * p1) + x6).toNatClampNeg) = 0
          · rw [if_pos y4]
            exact (mI_st hI (fun _ => by simpa [mu_at] using hs))
          · rw [if_neg y4]
            by_cases y5 : 13 ≤ x4
            · rw [if_pos y5]
              exact (mI_act (mI_rn hI) h1 (rn_s hs))
            · rw [if_neg y5]
              exact (mI_reckon (mI_rn hI) (rn_s hs))
  · rw [if_neg y0]
    by_cases y1 : x4 = 7
    · rw [if_pos y1]
      by_cases y2 : 24 < x4
      · rw [if_pos y2]
        exact (mI_st hI (fun _ => by simpa [mu_at] using hs))
      · rw [if_neg y2]
        by_cases y3 : 7 < x5
        · rw [if_pos y3]
          exact (mI_st hI (fun _ => by simpa [mu_at] using hs))
        · rw [if_neg y3]
          by_cases y4 : 7 < x6
          · rw [if_pos y4]
            exact (mI_st hI (fun _ => by simpa [mu_at] using hs))
          · rw [if_neg y4]
            by_cases y5 : (M 0 8 ((8 * p1) + x6).toNatClampNeg) = 0
            · rw [if_pos y5]
              exact (mI_st hI (fun _ => by simpa [mu_at] using hs))
            · rw [if_neg y5]
              by_cases y6 : 13 ≤ x4
              · rw [if_pos y6]
                exact (mI_act (mI_rn hI) h1 (rn_s hs))
              · rw [if_neg y6]
                exact (mI_reckon (mI_rn hI) (rn_s hs))
    · rw [if_neg y1]
      by_cases y2 : 24 < x4
      · rw [if_pos y2]
        exact (mI_st hI (fun _ => by simpa [mu_at] using hs))
      · rw [if_neg y2]
        by_cases y3 : 7 < x5
        · rw [if_pos y3]
          exact (mI_st hI (fun _ => by simpa [mu_at] using hs))
        · rw [if_neg y3]
          by_cases y4 : 7 < x6
          · rw [if_pos y4]
            exact (mI_st hI (fun _ => by simpa [mu_at] using hs))
          · rw [if_neg y4]
            by_cases y5 : 13 ≤ x4
            · rw [if_pos y5]
              exact (mI_act (mI_rn hI) h1 (rn_s hs))
            · rw [if_neg y5]
              exact (mI_reckon (mI_rn hI) (rn_s hs))
theorem mI_run {k : MK} {M : Mem} {p1 : Int32} (hI : mI k M) (h1 : vp_in p1 (k.2.1 0)) (hs : 0 < M 0 3 p1.toNatClampNeg) : mI k (f_X4_run k M p1) := by
  unfold f_X4_run
  split
  · exact mI_st hI (fun _ => hs)
  · exact mI_rnL hI h1 hs
/-- a counter from 1 on -/
def lpT (N n : Nat) (x : Int32) : Prop := ∃ a : Nat, x = nI a ∧ 1 ≤ a ∧ a ≤ N + 1 ∧ N + 1 < a + n
theorem lpT_z {N : Nat} {x : Int32} : ¬ lpT N 0 x := fun ⟨_, _, _, h1, h2⟩ => by omega
theorem lpT_i (N : Nat) : lpT N (N + 1) 1 := ⟨1, by decide, by omega, by omega, by omega⟩
theorem tk_c {k : MK} {M : Mem} {x : Int32} {n : Nat} (hI : mI k M) (h : lpT (k.2.1 0) n x) (c : ¬ M 0 0 2 < x) : ∃ a : Nat, x = nI a ∧ 1 ≤ a ∧ a ≤ k.2.1 0 := by
  obtain ⟨a, rfl, h1, h2, h3⟩ := h
  have hn := mI_n hI
  rw [hI.1.2.2.1] at c
  refine ⟨a, rfl, h1, ?_⟩
  rcases Nat.lt_or_ge (k.2.1 0) a with q | q
  · exact absurd (nI_lt q (by have := hI.2.1.2.2.2.2.2.1; omega)) c
  · exact q
theorem lpT_s {k : MK} {M : Mem} {x : Int32} {n : Nat} (hI : mI k M) (h : lpT (k.2.1 0) (n + 1) x) (c : ¬ M 0 0 2 < x) : lpT (k.2.1 0) n (x + 1) := by
  obtain ⟨a, e1, h1, h2⟩ := tk_c hI h c
  obtain ⟨b, e2, h3, h4, h5⟩ := h
  subst e2
  have hn := hI.2.1.2.2.2.2.2.1
  have : b = a := (nI_eq (by omega) (by omega)).mp e1
  exact ⟨b + 1, nI_1 b, by omega, by omega, by omega⟩
theorem tk_0 {k : MK} {M : Mem} (hI : mI k M) : ¬ M 0 0 2 = 0 := by
  rw [hI.1.2.2.1]
  exact nI_ne0 (by have := hI.2.1.2.2.2.2.1; omega) (mI_n hI)
theorem tk_in {k : MK} {M : Mem} {x : Int32} {n : Nat} (hI : mI k M) (h : lpT (k.2.1 0) n x) (c : ¬ M 0 0 2 < x) : vp_in ((M 0 0 19 + x) - (M 0 0 19 + x) / M 0 0 2 * M 0 0 2) (k.2.1 0) := by
  obtain ⟨a, rfl, h1, h2⟩ := tk_c hI h c
  obtain ⟨⟨-, -, e2, -⟩, ⟨b1, b2, b3, b4, b5, b6, -⟩, ⟨q, hq, eq⟩, -⟩ := hI
  rw [e2, eq, nI_add, pk_rem (by omega) (by omega) (by omega)]
  exact vp_in_nI (Nat.mod_lt _ (by omega)) (by omega)
def rOk (k : MK) (M : Mem) (r : Int32) : Prop := r < 0 ∨ (vp_in r (k.2.1 0) ∧ M 0 3 r.toNatClampNeg = 2)
theorem mI_tkb {k : MK} {M : Mem} {q q2 : Nat} {v w : Int32} (hI : mI k M) (c : M 0 3 q = 3) : mI k (mu (mu M 0 3 q v) 0 13 q2 w) := mI_slp (mI_st hI (fun _ => by rw [c]; decide))
/-- by program: the loop at 2 of RobotWorldModel.tick -/
def f_X4_tick_L2 (k : MK)  : Nat → Int32 → Mem → Mem
  | 0, _, M => M
  | n + 1, x, M =>
    if (M 0 0 2) ≤ x then
      M
    else
      if (M 0 3 x.toNatClampNeg) = 3 then
        if (M 0 13 x.toNatClampNeg) = 0 then
          if ((mu M 0 3 x.toNatClampNeg 2) 0 13 x.toNatClampNeg) = 0 then
            f_X4_tick_L2 k n (x + 1) (mu (mu M 0 3 x.toNatClampNeg 2) 0 13 x.toNatClampNeg 0)
          else
            f_X4_tick_L2 k n (x + 1) (mu (mu M 0 3 x.toNatClampNeg 2) 0 13 x.toNatClampNeg (((mu M 0 3 x.toNatClampNeg 2) 0 13 x.toNatClampNeg) - 1))
        else
          if ((mu M 0 3 x.toNatClampNeg 3) 0 13 x.toNatClampNeg) = 0 then
            f_X4_tick_L2 k n (x + 1) (mu (mu M 0 3 x.toNatClampNeg 3) 0 13 x.toNatClampNeg 0)
          else
            f_X4_tick_L2 k n (x + 1) (mu (mu M 0 3 x.toNatClampNeg 3) 0 13 x.toNatClampNeg (((mu M 0 3 x.toNatClampNeg 3) 0 13 x.toNatClampNeg) - 1))
      else
        f_X4_tick_L2 k n (x + 1) M
set_option maxHeartbeats 4000000 in
set_option maxRecDepth 100000 in
theorem lp_X4_tick_L2 {p : Program} {l : Launch} {e : Env} {s : State} {m : MethodId} {args : Array Value} {below : List Frame} {meth : Method} {c : Code} {Q : State → Prop} (k : MK)   (hx : p.tables.exec = Jvm.exec) (hb : c.code = cX4_tick) (hr : meth.sig.returnType = (some .int)) (hml : c.maxLocals = 4) (hts : ∀ x ∈ wsX4_tick, x.before args s = true) (hown : s.vm.findClass RX4 = some m.cls) (hlocks : meth.locks = false) (hK : va_K (wD (mw k)) vwCl (wT (mw k)) s) {M0 : Mem} (hD : va_D (wA (mw k)) (wW (mw k) M0)) (hZ : wZ (mw k) (wA (mw k)) s s.heap)  : ∀ (n : Nat) (x : Int32) (M : Mem) (H : Heap) (locs : List Loc) (ls : Array Slot), mI k M ∧ lpI (k.2.1 0) n x → wP (mw k) M H → va_S (wA (mw k)) s.heap H locs → lv_has ls 4 [(1, .int x), (0, .ref (k.1 0 0))] → (∀ (H : Heap) (locs : List Loc) (ls : Array Slot), wP (mw k) (f_X4_tick_L2 k n x M) H → va_S (wA (mw k)) s.heap H locs → lv_has ls 4 [(0, .ref (k.1 0 0))] → W p l e (rmK 10 251) s m args below meth c H locs 0 0 Q (F0 m 73 ls [])) → W p l e (rmK 10 251) s m args below meth c H locs 0 0 Q (F0 m 2 ls []) := by
  have hiX4 : ∀ x ∈ u_ws RX4 TX4 22, x ∈ wsX4_tick := by decide +kernel
  have hf17 := hts (.fieldLink RX4 17 "RobotWorldModel" "state" "[I") (by decide +kernel)
  have hf47 := hts (.fieldLink RX4 47 "RobotWorldModel" "sleeps" "[I") (by decide +kernel)
  have hf67 := hts (.fieldLink RX4 67 "RobotWorldModel" "most" "I") (by decide +kernel)
  intro n
  induction n with
  | zero =>
    intro x M H locs ls hinv
    exact absurd hinv (fun h => lpI_z h.2)
  | succ n ih =>
    intro x M H locs ls hinv hP hS hl kk
    refine lv_iload_n hx hb dX4_tick_2 rfl (lv_at hl 0 rfl) ?_
    refine lv_aload_n hx hb dX4_tick_3 rfl (lv_at hl 1 rfl) ?_
    refine wx_get (w := (mw k)) (g := 0) (j := 0) hx hb hts hiX4 hown hK hP (mIx_0 (by decide)) rfl rfl 2 (by decide) hf67 rfl dX4_tick_4 ?_
    refine lv_icmp_ge (tgt := 73) hx hb dX4_tick_7 (by decide) (fun c_7 => ?_) (fun c_7 => ?_)
    · have e9 : f_X4_tick_L2 k (n + 1) x M = M := (by rw [f_X4_tick_L2]; rw [if_pos c_7])
      rw [e9] at kk
      exact kk _ _ ls hP hS (lv_sub hl [1] rfl)
    · refine lv_aload_n hx hb dX4_tick_10 rfl (lv_at hl 1 rfl) ?_
      refine wx_get (w := (mw k)) (g := 0) (j := 0) hx hb hts hiX4 hown hK hP (mIx_0 (by decide)) rfl rfl 7 (by decide) hf17 rfl dX4_tick_11 ?_
      refine lv_iload_n hx hb dX4_tick_14 rfl (lv_at hl 0 rfl) ?_
      refine wx_iald (w := (mw k)) (g := 0) (j := 3) hx hb hK hP (mIx_0 (by decide)) 0 rfl rfl (m8 hinv.1 (mlp_in hinv c_7)) dX4_tick_15 ?_
      refine lv_iconst (v := 3) hx hb dX4_tick_16 (by decide) ?_
      refine lv_icmp_ne (tgt := 67) hx hb dX4_tick_17 (by decide) (fun c_17 => ?_) (fun c_17 => ?_)
      · refine lv_iinc (v := (x + 1)) (lv' := [(1, .int (x + 1)), (0, .ref (k.1 0 0))]) hx hb dX4_tick_67 hl (k := 0) rfl rfl (by decide) rfl (fun ls hl => ?_)
        refine lv_goto (tgt := 2) hx hb dX4_tick_70 (by decide) ?_
        have e9 : f_X4_tick_L2 k (n + 1) x M = f_X4_tick_L2 k n (x + 1) M := (by rw [f_X4_tick_L2]; rw [if_neg c_7, if_neg c_17])
        exact ih (x + 1) M _ _ ls (by first | exact ⟨hinv.1, mlp_s hinv c_7⟩ | exact ⟨mI_tkb hinv.1 c_17, mlp_s hinv c_7⟩)  hP hS (lv_sub hl [0, 1] rfl) (by rw [e9] at kk; exact kk)
      · refine lv_aload_n hx hb dX4_tick_20 rfl (lv_at hl 1 rfl) ?_
        refine wx_get (w := (mw k)) (g := 0) (j := 0) hx hb hts hiX4 hown hK hP (mIx_0 (by decide)) rfl rfl 7 (by decide) hf17 rfl dX4_tick_21 ?_
        refine lv_iload_n hx hb dX4_tick_24 rfl (lv_at hl 0 rfl) ?_
        refine lv_aload_n hx hb dX4_tick_25 rfl (lv_at hl 1 rfl) ?_
        refine wx_get (w := (mw k)) (g := 0) (j := 0) hx hb hts hiX4 hown hK hP (mIx_0 (by decide)) rfl rfl 17 (by decide) hf47 rfl dX4_tick_26 ?_
        refine lv_iload_n hx hb dX4_tick_29 rfl (lv_at hl 0 rfl) ?_
        refine wx_iald (w := (mw k)) (g := 0) (j := 13) hx hb hK hP (mIx_0 (by decide)) 0 rfl rfl (m8 hinv.1 (mlp_in hinv c_7)) dX4_tick_30 ?_
        refine lv_if_ne (tgt := 38) hx hb dX4_tick_31 (by decide) (fun c_31 => ?_) (fun c_31 => ?_)
        · refine lv_iconst (v := 3) hx hb dX4_tick_38 (by decide) ?_
          refine wx_iast (w := (mw k)) (g := 0) (j := 3) hx hb hK hP hD hS (mIx_0 (by decide)) 0 (fun _ => rfl) rfl (m8 hinv.1 (mlp_in hinv c_7)) dX4_tick_39 (fun H locs hP hS => ?_)
          refine lv_aload_n hx hb dX4_tick_40 rfl (lv_at hl 1 rfl) ?_
          refine wx_get (w := (mw k)) (g := 0) (j := 0) hx hb hts hiX4 hown hK hP (mIx_0 (by decide)) rfl rfl 17 (by decide) hf47 rfl dX4_tick_41 ?_
          refine lv_iload_n hx hb dX4_tick_44 rfl (lv_at hl 0 rfl) ?_
          refine lv_aload_n hx hb dX4_tick_45 rfl (lv_at hl 1 rfl) ?_
          refine wx_get (w := (mw k)) (g := 0) (j := 0) hx hb hts hiX4 hown hK hP (mIx_0 (by decide)) rfl rfl 17 (by decide) hf47 rfl dX4_tick_46 ?_
          refine lv_iload_n hx hb dX4_tick_49 rfl (lv_at hl 0 rfl) ?_
          refine wx_iald (w := (mw k)) (g := 0) (j := 13) hx hb hK hP (mIx_0 (by decide)) 0 rfl rfl (m8 hinv.1 (mlp_in hinv c_7)) dX4_tick_50 ?_
          refine lv_if_ne (tgt := 58) hx hb dX4_tick_51 (by decide) (fun c_51 => ?_) (fun c_51 => ?_)
          · refine lv_aload_n hx hb dX4_tick_58 rfl (lv_at hl 1 rfl) ?_
            refine wx_get (w := (mw k)) (g := 0) (j := 0) hx hb hts hiX4 hown hK hP (mIx_0 (by decide)) rfl rfl 17 (by decide) hf47 rfl dX4_tick_59 ?_
            refine lv_iload_n hx hb dX4_tick_62 rfl (lv_at hl 0 rfl) ?_
            refine wx_iald (w := (mw k)) (g := 0) (j := 13) hx hb hK hP (mIx_0 (by decide)) 0 rfl rfl (m8 hinv.1 (mlp_in hinv c_7)) dX4_tick_63 ?_
            refine lv_iconst (v := 1) hx hb dX4_tick_64 (by decide) ?_
            refine lv_isub hx hb dX4_tick_65 ?_
            refine wx_iast (w := (mw k)) (g := 0) (j := 13) hx hb hK hP hD hS (mIx_0 (by decide)) 0 (fun _ => rfl) rfl (m8 hinv.1 (mlp_in hinv c_7)) dX4_tick_66 (fun H locs hP hS => ?_)
            refine lv_iinc (v := (x + 1)) (lv' := [(1, .int (x + 1)), (0, .ref (k.1 0 0))]) hx hb dX4_tick_67 hl (k := 0) rfl rfl (by decide) rfl (fun ls hl => ?_)
            refine lv_goto (tgt := 2) hx hb dX4_tick_70 (by decide) ?_
            have e9 : f_X4_tick_L2 k (n + 1) x M = f_X4_tick_L2 k n (x + 1) (mu (mu M 0 3 x.toNatClampNeg 3) 0 13 x.toNatClampNeg (((mu M 0 3 x.toNatClampNeg 3) 0 13 x.toNatClampNeg) - 1)) := (by rw [f_X4_tick_L2]; rw [if_neg c_7, if_pos c_17, if_neg c_31, if_neg c_51])
            exact ih (x + 1) (mu (mu M 0 3 x.toNatClampNeg 3) 0 13 x.toNatClampNeg (((mu M 0 3 x.toNatClampNeg 3) 0 13 x.toNatClampNeg) - 1)) _ _ ls (by first | exact ⟨hinv.1, mlp_s hinv c_7⟩ | exact ⟨mI_tkb hinv.1 c_17, mlp_s hinv c_7⟩)  hP hS (lv_sub hl [0, 1] rfl) (by rw [e9] at kk; exact kk)
          · refine lv_iconst (v := 0) hx hb dX4_tick_54 (by decide) ?_
            refine lv_goto (tgt := 66) hx hb dX4_tick_55 (by decide) ?_
            refine wx_iast (w := (mw k)) (g := 0) (j := 13) hx hb hK hP hD hS (mIx_0 (by decide)) 0 (fun _ => rfl) rfl (m8 hinv.1 (mlp_in hinv c_7)) dX4_tick_66 (fun H locs hP hS => ?_)
            refine lv_iinc (v := (x + 1)) (lv' := [(1, .int (x + 1)), (0, .ref (k.1 0 0))]) hx hb dX4_tick_67 hl (k := 0) rfl rfl (by decide) rfl (fun ls hl => ?_)
            refine lv_goto (tgt := 2) hx hb dX4_tick_70 (by decide) ?_
            have e9 : f_X4_tick_L2 k (n + 1) x M = f_X4_tick_L2 k n (x + 1) (mu (mu M 0 3 x.toNatClampNeg 3) 0 13 x.toNatClampNeg 0) := (by rw [f_X4_tick_L2]; rw [if_neg c_7, if_pos c_17, if_neg c_31, if_pos c_51])
            exact ih (x + 1) (mu (mu M 0 3 x.toNatClampNeg 3) 0 13 x.toNatClampNeg 0) _ _ ls (by first | exact ⟨hinv.1, mlp_s hinv c_7⟩ | exact ⟨mI_tkb hinv.1 c_17, mlp_s hinv c_7⟩)  hP hS (lv_sub hl [0, 1] rfl) (by rw [e9] at kk; exact kk)
        · refine lv_iconst (v := 2) hx hb dX4_tick_34 (by decide) ?_
          refine lv_goto (tgt := 39) hx hb dX4_tick_35 (by decide) ?_
          refine wx_iast (w := (mw k)) (g := 0) (j := 3) hx hb hK hP hD hS (mIx_0 (by decide)) 0 (fun _ => rfl) rfl (m8 hinv.1 (mlp_in hinv c_7)) dX4_tick_39 (fun H locs hP hS => ?_)
          refine lv_aload_n hx hb dX4_tick_40 rfl (lv_at hl 1 rfl) ?_
          refine wx_get (w := (mw k)) (g := 0) (j := 0) hx hb hts hiX4 hown hK hP (mIx_0 (by decide)) rfl rfl 17 (by decide) hf47 rfl dX4_tick_41 ?_
          refine lv_iload_n hx hb dX4_tick_44 rfl (lv_at hl 0 rfl) ?_
          refine lv_aload_n hx hb dX4_tick_45 rfl (lv_at hl 1 rfl) ?_
          refine wx_get (w := (mw k)) (g := 0) (j := 0) hx hb hts hiX4 hown hK hP (mIx_0 (by decide)) rfl rfl 17 (by decide) hf47 rfl dX4_tick_46 ?_
          refine lv_iload_n hx hb dX4_tick_49 rfl (lv_at hl 0 rfl) ?_
          refine wx_iald (w := (mw k)) (g := 0) (j := 13) hx hb hK hP (mIx_0 (by decide)) 0 rfl rfl (m8 hinv.1 (mlp_in hinv c_7)) dX4_tick_50 ?_
          refine lv_if_ne (tgt := 58) hx hb dX4_tick_51 (by decide) (fun c_51 => ?_) (fun c_51 => ?_)
          · refine lv_aload_n hx hb dX4_tick_58 rfl (lv_at hl 1 rfl) ?_
            refine wx_get (w := (mw k)) (g := 0) (j := 0) hx hb hts hiX4 hown hK hP (mIx_0 (by decide)) rfl rfl 17 (by decide) hf47 rfl dX4_tick_59 ?_
            refine lv_iload_n hx hb dX4_tick_62 rfl (lv_at hl 0 rfl) ?_
            refine wx_iald (w := (mw k)) (g := 0) (j := 13) hx hb hK hP (mIx_0 (by decide)) 0 rfl rfl (m8 hinv.1 (mlp_in hinv c_7)) dX4_tick_63 ?_
            refine lv_iconst (v := 1) hx hb dX4_tick_64 (by decide) ?_
            refine lv_isub hx hb dX4_tick_65 ?_
            refine wx_iast (w := (mw k)) (g := 0) (j := 13) hx hb hK hP hD hS (mIx_0 (by decide)) 0 (fun _ => rfl) rfl (m8 hinv.1 (mlp_in hinv c_7)) dX4_tick_66 (fun H locs hP hS => ?_)
            refine lv_iinc (v := (x + 1)) (lv' := [(1, .int (x + 1)), (0, .ref (k.1 0 0))]) hx hb dX4_tick_67 hl (k := 0) rfl rfl (by decide) rfl (fun ls hl => ?_)
            refine lv_goto (tgt := 2) hx hb dX4_tick_70 (by decide) ?_
            have e9 : f_X4_tick_L2 k (n + 1) x M = f_X4_tick_L2 k n (x + 1) (mu (mu M 0 3 x.toNatClampNeg 2) 0 13 x.toNatClampNeg (((mu M 0 3 x.toNatClampNeg 2) 0 13 x.toNatClampNeg) - 1)) := (by rw [f_X4_tick_L2]; rw [if_neg c_7, if_pos c_17, if_pos c_31, if_neg c_51])
            exact ih (x + 1) (mu (mu M 0 3 x.toNatClampNeg 2) 0 13 x.toNatClampNeg (((mu M 0 3 x.toNatClampNeg 2) 0 13 x.toNatClampNeg) - 1)) _ _ ls (by first | exact ⟨hinv.1, mlp_s hinv c_7⟩ | exact ⟨mI_tkb hinv.1 c_17, mlp_s hinv c_7⟩)  hP hS (lv_sub hl [0, 1] rfl) (by rw [e9] at kk; exact kk)
          · refine lv_iconst (v := 0) hx hb dX4_tick_54 (by decide) ?_
            refine lv_goto (tgt := 66) hx hb dX4_tick_55 (by decide) ?_
            refine wx_iast (w := (mw k)) (g := 0) (j := 13) hx hb hK hP hD hS (mIx_0 (by decide)) 0 (fun _ => rfl) rfl (m8 hinv.1 (mlp_in hinv c_7)) dX4_tick_66 (fun H locs hP hS => ?_)
            refine lv_iinc (v := (x + 1)) (lv' := [(1, .int (x + 1)), (0, .ref (k.1 0 0))]) hx hb dX4_tick_67 hl (k := 0) rfl rfl (by decide) rfl (fun ls hl => ?_)
            refine lv_goto (tgt := 2) hx hb dX4_tick_70 (by decide) ?_
            have e9 : f_X4_tick_L2 k (n + 1) x M = f_X4_tick_L2 k n (x + 1) (mu (mu M 0 3 x.toNatClampNeg 2) 0 13 x.toNatClampNeg 0) := (by rw [f_X4_tick_L2]; rw [if_neg c_7, if_pos c_17, if_pos c_31, if_pos c_51])
            exact ih (x + 1) (mu (mu M 0 3 x.toNatClampNeg 2) 0 13 x.toNatClampNeg 0) _ _ ls (by first | exact ⟨hinv.1, mlp_s hinv c_7⟩ | exact ⟨mI_tkb hinv.1 c_17, mlp_s hinv c_7⟩)  hP hS (lv_sub hl [0, 1] rfl) (by rw [e9] at kk; exact kk)
theorem mI_tk2 {k : MK} : ∀ (n : Nat) (x : Int32) (M : Mem), mI k M → mI k (f_X4_tick_L2 k n x M) := by
  intro n
  induction n with
  | zero => intro x M hI; exact hI
  | succ n ih =>
    intro x M hI
    rw [f_X4_tick_L2]
    split
    · exact hI
    · split
      · rename_i c
        split
        · split
          · exact ih _ _ (mI_tkb hI c)
          · exact ih _ _ (mI_tkb hI c)
        · split
          · exact ih _ _ (mI_tkb hI c)
          · exact ih _ _ (mI_tkb hI c)
      · exact ih _ _ hI
/-- by program: the loop at 77 of RobotWorldModel.tick -/
def f_X4_tick_L77 (k : MK)  : Nat → Int32 → Int32 → Mem → Int32
  | 0, _, _, M => 0
  | n + 1, r, x, M =>
    if (M 0 0 2) < x then
      r
    else
      if 0 ≤ r then
        r
      else
        if (M 0 3 (((M 0 0 19) + x) - ((M 0 0 19) + x) / (M 0 0 2) * (M 0 0 2)).toNatClampNeg) = 2 then
          f_X4_tick_L77 k n (((M 0 0 19) + x) - ((M 0 0 19) + x) / (M 0 0 2) * (M 0 0 2)) (x + 1) M
        else
          f_X4_tick_L77 k n (-1) (x + 1) M
set_option maxHeartbeats 4000000 in
set_option maxRecDepth 100000 in
theorem lp_X4_tick_L77 {p : Program} {l : Launch} {e : Env} {s : State} {m : MethodId} {args : Array Value} {below : List Frame} {meth : Method} {c : Code} {Q : State → Prop} (k : MK)   (hx : p.tables.exec = Jvm.exec) (hb : c.code = cX4_tick) (hr : meth.sig.returnType = (some .int)) (hml : c.maxLocals = 4) (hts : ∀ x ∈ wsX4_tick, x.before args s = true) (hown : s.vm.findClass RX4 = some m.cls) (hlocks : meth.locks = false) (hK : va_K (wD (mw k)) vwCl (wT (mw k)) s) {M0 : Mem} (hD : va_D (wA (mw k)) (wW (mw k) M0)) (hZ : wZ (mw k) (wA (mw k)) s s.heap)  : ∀ (n : Nat) (r : Int32) (x : Int32) (M : Mem) (H : Heap) (locs : List Loc) (ls : Array Slot), mI k M ∧ lpT (k.2.1 0) n x ∧ rOk k M r → wP (mw k) M H → va_S (wA (mw k)) s.heap H locs → lv_has ls 4 [(2, .int x), (1, .int r), (0, .ref (k.1 0 0))] → (∀ (H : Heap) (locs : List Loc) (ls : Array Slot), wP (mw k) M H → va_S (wA (mw k)) s.heap H locs → lv_has ls 4 [(1, .int (f_X4_tick_L77 k n r x M)), (0, .ref (k.1 0 0))] → W p l e (rmK 10 251) s m args below meth c H locs 0 0 Q (F0 m 123 ls [])) → W p l e (rmK 10 251) s m args below meth c H locs 0 0 Q (F0 m 77 ls []) := by
  have hiX4 : ∀ x ∈ u_ws RX4 TX4 22, x ∈ wsX4_tick := by decide +kernel
  have hf17 := hts (.fieldLink RX4 17 "RobotWorldModel" "state" "[I") (by decide +kernel)
  have hf67 := hts (.fieldLink RX4 67 "RobotWorldModel" "most" "I") (by decide +kernel)
  have hf79 := hts (.fieldLink RX4 79 "RobotWorldModel" "last" "I") (by decide +kernel)
  intro n
  induction n with
  | zero =>
    intro r x M H locs ls hinv
    exact absurd hinv (fun h => lpT_z h.2.1)
  | succ n ih =>
    intro r x M H locs ls hinv hP hS hl kk
    refine lv_iload_n hx hb dX4_tick_77 rfl (lv_at hl 0 rfl) ?_
    refine lv_aload_n hx hb dX4_tick_78 rfl (lv_at hl 2 rfl) ?_
    refine wx_get (w := (mw k)) (g := 0) (j := 0) hx hb hts hiX4 hown hK hP (mIx_0 (by decide)) rfl rfl 2 (by decide) hf67 rfl dX4_tick_79 ?_
    refine lv_icmp_gt (tgt := 123) hx hb dX4_tick_82 (by decide) (fun c_82 => ?_) (fun c_82 => ?_)
    · have e9 : f_X4_tick_L77 k (n + 1) r x M = r := (by rw [f_X4_tick_L77]; rw [if_pos c_82])
      rw [e9] at kk
      exact kk _ _ ls hP hS (lv_sub hl [1, 2] rfl)
    · refine lv_iload_n hx hb dX4_tick_85 rfl (lv_at hl 1 rfl) ?_
      refine lv_if_ge (tgt := 123) hx hb dX4_tick_86 (by decide) (fun c_86 => ?_) (fun c_86 => ?_)
      · have e9 : f_X4_tick_L77 k (n + 1) r x M = r := (by rw [f_X4_tick_L77]; rw [if_neg c_82, if_pos c_86])
        rw [e9] at kk
        exact kk _ _ ls hP hS (lv_sub hl [1, 2] rfl)
      · refine lv_aload_n hx hb dX4_tick_89 rfl (lv_at hl 2 rfl) ?_
        refine wx_get (w := (mw k)) (g := 0) (j := 0) hx hb hts hiX4 hown hK hP (mIx_0 (by decide)) rfl rfl 19 (by decide) hf79 rfl dX4_tick_90 ?_
        refine lv_iload_n hx hb dX4_tick_93 rfl (lv_at hl 0 rfl) ?_
        refine lv_iadd hx hb dX4_tick_94 ?_
        refine lv_aload_n hx hb dX4_tick_95 rfl (lv_at hl 2 rfl) ?_
        refine wx_get (w := (mw k)) (g := 0) (j := 0) hx hb hts hiX4 hown hK hP (mIx_0 (by decide)) rfl rfl 2 (by decide) hf67 rfl dX4_tick_96 ?_
        refine lv_irem hx hb dX4_tick_99 (tk_0 hinv.1) ?_
        refine lv_istore_n (lv' := [(3, .int (((M 0 0 19) + x) - ((M 0 0 19) + x) / (M 0 0 2) * (M 0 0 2))), (2, .int x), (1, .int r), (0, .ref (k.1 0 0))]) hx hb dX4_tick_100 rfl hl (by decide) rfl (fun ls hl => ?_)
        refine lv_aload_n hx hb dX4_tick_101 rfl (lv_at hl 3 rfl) ?_
        refine wx_get (w := (mw k)) (g := 0) (j := 0) hx hb hts hiX4 hown hK hP (mIx_0 (by decide)) rfl rfl 7 (by decide) hf17 rfl dX4_tick_102 ?_
        refine lv_iload_n hx hb dX4_tick_105 rfl (lv_at hl 0 rfl) ?_
        refine wx_iald (w := (mw k)) (g := 0) (j := 3) hx hb hK hP (mIx_0 (by decide)) 0 rfl rfl (m8 hinv.1 (tk_in hinv.1 hinv.2.1 c_82)) dX4_tick_106 ?_
        refine lv_iconst (v := 2) hx hb dX4_tick_107 (by decide) ?_
        refine lv_icmp_ne (tgt := 115) hx hb dX4_tick_108 (by decide) (fun c_108 => ?_) (fun c_108 => ?_)
        · refine lv_iconst (v := (-1)) hx hb dX4_tick_115 (by decide) ?_
          refine lv_istore_n (lv' := [(1, .int (-1)), (3, .int (((M 0 0 19) + x) - ((M 0 0 19) + x) / (M 0 0 2) * (M 0 0 2))), (2, .int x), (0, .ref (k.1 0 0))]) hx hb dX4_tick_116 rfl hl (by decide) rfl (fun ls hl => ?_)
          refine lv_iinc (v := (x + 1)) (lv' := [(2, .int (x + 1)), (1, .int (-1)), (3, .int (((M 0 0 19) + x) - ((M 0 0 19) + x) / (M 0 0 2) * (M 0 0 2))), (0, .ref (k.1 0 0))]) hx hb dX4_tick_117 hl (k := 2) rfl rfl (by decide) rfl (fun ls hl => ?_)
          refine lv_goto (tgt := 77) hx hb dX4_tick_120 (by decide) ?_
          have e9 : f_X4_tick_L77 k (n + 1) r x M = f_X4_tick_L77 k n (-1) (x + 1) M := (by rw [f_X4_tick_L77]; rw [if_neg c_82, if_neg c_86, if_neg c_108])
          exact ih (-1) (x + 1) M _ _ ls (by first | exact ⟨hinv.1, lpT_s hinv.1 hinv.2.1 c_82, Or.inr ⟨tk_in hinv.1 hinv.2.1 c_82, c_108⟩⟩ | exact ⟨hinv.1, lpT_s hinv.1 hinv.2.1 c_82, Or.inl (by decide)⟩)  hP hS (lv_sub hl [0, 1, 3] rfl) (by rw [e9] at kk; exact kk)
        · refine lv_iload_n hx hb dX4_tick_111 rfl (lv_at hl 0 rfl) ?_
          refine lv_goto (tgt := 116) hx hb dX4_tick_112 (by decide) ?_
          refine lv_istore_n (lv' := [(1, .int (((M 0 0 19) + x) - ((M 0 0 19) + x) / (M 0 0 2) * (M 0 0 2))), (3, .int (((M 0 0 19) + x) - ((M 0 0 19) + x) / (M 0 0 2) * (M 0 0 2))), (2, .int x), (0, .ref (k.1 0 0))]) hx hb dX4_tick_116 rfl hl (by decide) rfl (fun ls hl => ?_)
          refine lv_iinc (v := (x + 1)) (lv' := [(2, .int (x + 1)), (1, .int (((M 0 0 19) + x) - ((M 0 0 19) + x) / (M 0 0 2) * (M 0 0 2))), (3, .int (((M 0 0 19) + x) - ((M 0 0 19) + x) / (M 0 0 2) * (M 0 0 2))), (0, .ref (k.1 0 0))]) hx hb dX4_tick_117 hl (k := 2) rfl rfl (by decide) rfl (fun ls hl => ?_)
          refine lv_goto (tgt := 77) hx hb dX4_tick_120 (by decide) ?_
          have e9 : f_X4_tick_L77 k (n + 1) r x M = f_X4_tick_L77 k n (((M 0 0 19) + x) - ((M 0 0 19) + x) / (M 0 0 2) * (M 0 0 2)) (x + 1) M := (by rw [f_X4_tick_L77]; rw [if_neg c_82, if_neg c_86, if_pos c_108])
          exact ih (((M 0 0 19) + x) - ((M 0 0 19) + x) / (M 0 0 2) * (M 0 0 2)) (x + 1) M _ _ ls (by first | exact ⟨hinv.1, lpT_s hinv.1 hinv.2.1 c_82, Or.inr ⟨tk_in hinv.1 hinv.2.1 c_82, c_108⟩⟩ | exact ⟨hinv.1, lpT_s hinv.1 hinv.2.1 c_82, Or.inl (by decide)⟩)  hP hS (lv_sub hl [0, 1, 3] rfl) (by rw [e9] at kk; exact kk)
theorem tk_L {k : MK} : ∀ (n : Nat) (r x : Int32) (M : Mem), mI k M → lpT (k.2.1 0) n x → rOk k M r → rOk k M (f_X4_tick_L77 k n r x M) := by
  intro n
  induction n with
  | zero => intro r x M hI h; exact absurd h lpT_z
  | succ n ih =>
    intro r x M hI h hr
    rw [f_X4_tick_L77]
    split
    · exact hr
    · rename_i c
      split
      · exact hr
      · split
        · rename_i c2
          exact ih _ _ M hI (lpT_s hI h c) (Or.inr ⟨tk_in hI h c, c2⟩)
        · exact ih _ _ M hI (lpT_s hI h c) (Or.inl (by decide))
theorem tk_r {k : MK} {M : Mem} (hI : mI k M) (c : ¬ f_X4_tick_L77 k (k.2.1 0 + 1) (-1) 1 (f_X4_tick_L2 k (k.2.1 0 + 1) 0 M) < 0) : vp_in (f_X4_tick_L77 k (k.2.1 0 + 1) (-1) 1 (f_X4_tick_L2 k (k.2.1 0 + 1) 0 M)) (k.2.1 0) ∧ 0 < mu (f_X4_tick_L2 k (k.2.1 0 + 1) 0 M) 0 0 19 (f_X4_tick_L77 k (k.2.1 0 + 1) (-1) 1 (f_X4_tick_L2 k (k.2.1 0 + 1) 0 M)) 0 3 (f_X4_tick_L77 k (k.2.1 0 + 1) (-1) 1 (f_X4_tick_L2 k (k.2.1 0 + 1) 0 M)).toNatClampNeg := by
  rcases tk_L (k := k) (k.2.1 0 + 1) (-1) 1 (f_X4_tick_L2 k (k.2.1 0 + 1) 0 M) (mI_tk2 _ _ M hI) (lpT_i _) (Or.inl (by decide)) with h | ⟨h1, h2⟩
  · exact absurd h c
  · refine ⟨h1, ?_⟩
    rw [mu_at, if_neg (by omega), h2]
    decide
/-- by program, from the bytecode of RobotWorldModel.tick -/
def f_X4_tick (k : MK) (M : Mem)  : Int32 × Mem :=
  if (f_X4_tick_L77 k (k.2.1 0 + 1) (-1) 1 (f_X4_tick_L2 k (k.2.1 0 + 1) 0 M)) < 0 then
    ((f_X4_tick_L77 k (k.2.1 0 + 1) (-1) 1 (f_X4_tick_L2 k (k.2.1 0 + 1) 0 M)), (mu (f_X4_tick_L2 k (k.2.1 0 + 1) 0 M) 0 0 20 (((f_X4_tick_L2 k (k.2.1 0 + 1) 0 M) 0 0 20) + 1)))
  else
    ((f_X4_tick_L77 k (k.2.1 0 + 1) (-1) 1 (f_X4_tick_L2 k (k.2.1 0 + 1) 0 M)), (mu (f_X4_run k (mu (f_X4_tick_L2 k (k.2.1 0 + 1) 0 M) 0 0 19 (f_X4_tick_L77 k (k.2.1 0 + 1) (-1) 1 (f_X4_tick_L2 k (k.2.1 0 + 1) 0 M))) (f_X4_tick_L77 k (k.2.1 0 + 1) (-1) 1 (f_X4_tick_L2 k (k.2.1 0 + 1) 0 M))) 0 0 20 (((f_X4_run k (mu (f_X4_tick_L2 k (k.2.1 0 + 1) 0 M) 0 0 19 (f_X4_tick_L77 k (k.2.1 0 + 1) (-1) 1 (f_X4_tick_L2 k (k.2.1 0 + 1) 0 M))) (f_X4_tick_L77 k (k.2.1 0 + 1) (-1) 1 (f_X4_tick_L2 k (k.2.1 0 + 1) 0 M))) 0 0 20) + 1)))
set_option maxHeartbeats 4000000 in
set_option maxRecDepth 100000 in
theorem c_X4_tick (l : Launch) (k : MK) (M : Mem)  (hI : mI k M) : Met l yX4_tick wsX4_tick (rmK 10 251) (wPc (mw k) M [.ref (k.1 0 0)]) (wQi (mw k) (fun r u => r = (f_X4_tick k M).1 ∧ u = (f_X4_tick k M).2)) 0 0 (wA (mw k)) := by
  refine wx_met (cc := cX4_tick) (maxL := 4) (ret := (some .int)) (by decide) rfl (Nat.le_of_ble_eq_true rfl) ?_
  intro p e s m below meth c ls hx hb hr hml hts hown hlocks hP hK hD hZ hS hl
  have hown : s.vm.findClass RX4 = some m.cls := hown
  have hl : lv_has ls 4 [(0, .ref (k.1 0 0))] := hl
  have hiX4 : ∀ x ∈ u_ws RX4 TX4 22, x ∈ wsX4_tick := by decide +kernel
  have hf79 := hts (.fieldLink RX4 79 "RobotWorldModel" "last" "I") (by decide +kernel)
  have hf82 := hts (.fieldLink RX4 82 "RobotWorldModel" "clock" "I") (by decide +kernel)
  refine lv_iconst (v := 0) hx hb dX4_tick_0 (by decide) ?_
  refine lv_istore_n (lv' := [(1, .int 0), (0, .ref (k.1 0 0))]) hx hb dX4_tick_1 rfl hl (by decide) rfl (fun ls hl => ?_)
  refine lp_X4_tick_L2 k hx hb hr hml hts hown hlocks hK hD hZ (k.2.1 0 + 1) 0 M _ _ ls (⟨hI, lpI_i _⟩) hP hS (lv_sub hl [0, 1] rfl) (fun H locs ls hP hS hl => ?_)
  refine lv_iconst (v := (-1)) hx hb dX4_tick_73 (by decide) ?_
  refine lv_istore_n (lv' := [(1, .int (-1)), (0, .ref (k.1 0 0))]) hx hb dX4_tick_74 rfl hl (by decide) rfl (fun ls hl => ?_)
  refine lv_iconst (v := 1) hx hb dX4_tick_75 (by decide) ?_
  refine lv_istore_n (lv' := [(2, .int 1), (1, .int (-1)), (0, .ref (k.1 0 0))]) hx hb dX4_tick_76 rfl hl (by decide) rfl (fun ls hl => ?_)
  refine lp_X4_tick_L77 k hx hb hr hml hts hown hlocks hK hD hZ (k.2.1 0 + 1) (-1) 1 (f_X4_tick_L2 k (k.2.1 0 + 1) 0 M) _ _ ls (⟨mI_tk2 _ _ M hI, lpT_i _, Or.inl (by decide)⟩) hP hS (lv_sub hl [0, 1, 2] rfl) (fun H locs ls hP hS hl => ?_)
  refine lv_iload_n hx hb dX4_tick_123 rfl (lv_at hl 0 rfl) ?_
  refine lv_if_lt (tgt := 137) hx hb dX4_tick_124 (by decide) (fun c_124 => ?_) (fun c_124 => ?_)
  · refine lv_aload_n hx hb dX4_tick_137 rfl (lv_at hl 1 rfl) ?_
    refine lv_dup hx hb dX4_tick_138 rfl ?_
    refine wx_get (w := (mw k)) (g := 0) (j := 0) hx hb hts hiX4 hown hK hP (mIx_0 (by decide)) rfl rfl 20 (by decide) hf82 rfl dX4_tick_139 ?_
    refine lv_iconst (v := 1) hx hb dX4_tick_142 (by decide) ?_
    refine lv_iadd hx hb dX4_tick_143 ?_
    refine wx_put (w := (mw k)) (g := 0) (j := 0) hx hb hts hiX4 tyX4 tyX4_ok nmX4 hown hK hP hD hS (mIx_0 (by decide)) rfl rfl 20 (by decide) hf82 rfl (by decide +kernel) rfl (Nat.le_of_ble_eq_true rfl) dX4_tick_144 (fun H locs hP hS => ?_)
    refine lv_iload_n hx hb dX4_tick_147 rfl (lv_at hl 0 rfl) ?_
    have e9 : f_X4_tick k M = ((f_X4_tick_L77 k (k.2.1 0 + 1) (-1) 1 (f_X4_tick_L2 k (k.2.1 0 + 1) 0 M)), (mu (f_X4_tick_L2 k (k.2.1 0 + 1) 0 M) 0 0 20 (((f_X4_tick_L2 k (k.2.1 0 + 1) 0 M) 0 0 20) + 1))) := (by unfold f_X4_tick; rw [if_pos c_124])
    exact wx_iret hx hb hr hlocks hP hS rfl ⟨by rw [e9], by rw [e9]⟩ dX4_tick_148
  · refine lv_aload_n hx hb dX4_tick_127 rfl (lv_at hl 1 rfl) ?_
    refine lv_iload_n hx hb dX4_tick_128 rfl (lv_at hl 0 rfl) ?_
    refine wx_put (w := (mw k)) (g := 0) (j := 0) hx hb hts hiX4 tyX4 tyX4_ok nmX4 hown hK hP hD hS (mIx_0 (by decide)) rfl rfl 19 (by decide) hf79 rfl (by decide +kernel) rfl (Nat.le_of_ble_eq_true rfl) dX4_tick_129 (fun H locs hP hS => ?_)
    refine lv_aload_n hx hb dX4_tick_132 rfl (lv_at hl 1 rfl) ?_
    refine lv_iload_n hx hb dX4_tick_133 rfl (lv_at hl 0 rfl) ?_
    refine wx_Vv (w := (mw k)) (f_X4_run k (mu (f_X4_tick_L2 k (k.2.1 0 + 1) 0 M) 0 0 19 (f_X4_tick_L77 k (k.2.1 0 + 1) (-1) 1 (f_X4_tick_L2 k (k.2.1 0 + 1) 0 M))) (f_X4_tick_L77 k (k.2.1 0 + 1) (-1) 1 (f_X4_tick_L2 k (k.2.1 0 + 1) 0 M))) [.int (f_X4_tick_L77 k (k.2.1 0 + 1) (-1) 1 (f_X4_tick_L2 k (k.2.1 0 + 1) 0 M))] [] (mZok k) ⟨hx, hb, hml, hown, hts⟩ (c_X4_run l k (mu (f_X4_tick_L2 k (k.2.1 0 + 1) 0 M) 0 0 19 (f_X4_tick_L77 k (k.2.1 0 + 1) (-1) 1 (f_X4_tick_L2 k (k.2.1 0 + 1) 0 M))) (f_X4_tick_L77 k (k.2.1 0 + 1) (-1) 1 (f_X4_tick_L2 k (k.2.1 0 + 1) 0 M)) (mI_last (mI_tk2 _ _ M hI) (tk_r hI c_124).1) (tk_r hI c_124).1 (tk_r hI c_124).2) (cwV 1 hts gX4_tick_X4_run rfl rfl rfl (by decide +kernel) ⟨by decide, by decide⟩) (wx_recv (w := (mw k)) (g := 0) (j := 0) hK hP (mIx_0 (by decide)) rfl rfl) hP hK hD hZ hS rfl hl.1 rfl (Nat.le_of_ble_eq_true rfl) dX4_tick_134 ⟨by decide, by decide⟩ (fun H locs hP hS => ?_)
    refine lv_aload_n hx hb dX4_tick_137 rfl (lv_at hl 1 rfl) ?_
    refine lv_dup hx hb dX4_tick_138 rfl ?_
    refine wx_get (w := (mw k)) (g := 0) (j := 0) hx hb hts hiX4 hown hK hP (mIx_0 (by decide)) rfl rfl 20 (by decide) hf82 rfl dX4_tick_139 ?_
    refine lv_iconst (v := 1) hx hb dX4_tick_142 (by decide) ?_
    refine lv_iadd hx hb dX4_tick_143 ?_
    refine wx_put (w := (mw k)) (g := 0) (j := 0) hx hb hts hiX4 tyX4 tyX4_ok nmX4 hown hK hP hD hS (mIx_0 (by decide)) rfl rfl 20 (by decide) hf82 rfl (by decide +kernel) rfl (Nat.le_of_ble_eq_true rfl) dX4_tick_144 (fun H locs hP hS => ?_)
    refine lv_iload_n hx hb dX4_tick_147 rfl (lv_at hl 0 rfl) ?_
    have e9 : f_X4_tick k M = ((f_X4_tick_L77 k (k.2.1 0 + 1) (-1) 1 (f_X4_tick_L2 k (k.2.1 0 + 1) 0 M)), (mu (f_X4_run k (mu (f_X4_tick_L2 k (k.2.1 0 + 1) 0 M) 0 0 19 (f_X4_tick_L77 k (k.2.1 0 + 1) (-1) 1 (f_X4_tick_L2 k (k.2.1 0 + 1) 0 M))) (f_X4_tick_L77 k (k.2.1 0 + 1) (-1) 1 (f_X4_tick_L2 k (k.2.1 0 + 1) 0 M))) 0 0 20 (((f_X4_run k (mu (f_X4_tick_L2 k (k.2.1 0 + 1) 0 M) 0 0 19 (f_X4_tick_L77 k (k.2.1 0 + 1) (-1) 1 (f_X4_tick_L2 k (k.2.1 0 + 1) 0 M))) (f_X4_tick_L77 k (k.2.1 0 + 1) (-1) 1 (f_X4_tick_L2 k (k.2.1 0 + 1) 0 M))) 0 0 20) + 1))) := (by unfold f_X4_tick; rw [if_neg c_124])
    exact wx_iret hx hb hr hlocks hP hS rfl ⟨by rw [e9], by rw [e9]⟩ dX4_tick_148
theorem mI_tick {k : MK} {M : Mem} (hI : mI k M) : mI k (f_X4_tick k M).2 := by
  unfold f_X4_tick
  split
  · exact mI_clk (mI_tk2 _ _ M hI)
  · rename_i c
    exact mI_clk (mI_run (mI_last (mI_tk2 _ _ M hI) (tk_r hI c).1) (tk_r hI c).1 (tk_r hI c).2)
/-- by program: the loop at 18 of RobotWorldModel.runTicks -/
def f_X4_runTicks_L18 (k : MK) (p1 : Int32) : Nat → Int32 → Int32 → Mem → Int32 × Mem
  | 0, _, _, M => (0, M)
  | n + 1, y, x, M =>
    if p1 ≤ x then
      (y, M)
    else
      if (f_X4_tick k M).1 < 0 then
        f_X4_runTicks_L18 k p1 n y (x + 1) (f_X4_tick k M).2
      else
        f_X4_runTicks_L18 k p1 n (y + 1) (x + 1) (f_X4_tick k M).2
set_option maxHeartbeats 4000000 in
set_option maxRecDepth 100000 in
theorem lp_X4_runTicks_L18 {p : Program} {l : Launch} {e : Env} {s : State} {m : MethodId} {args : Array Value} {below : List Frame} {meth : Method} {c : Code} (k : MK) (p1 : Int32)  (hx : p.tables.exec = Jvm.exec) (hb : c.code = cX4_runTicks) (hr : meth.sig.returnType = (some .int)) (hml : c.maxLocals = 4) (hts : ∀ x ∈ wsX4_runTicks, x.before args s = true) (hown : s.vm.findClass RX4 = some m.cls) (hlocks : meth.locks = false) (hK : va_K (wD (mw k)) vwCl (wT (mw k)) s) {M0 : Mem} (hD : va_D (wA (mw k)) (wW (mw k) M0)) (hZ : wZ (mw k) (wA (mw k)) s s.heap)  : ∀ (n : Nat) (y : Int32) (x : Int32) (M : Mem) (H : Heap) (locs : List Loc) (ls : Array Slot), mI k M ∧ lpQ p1 n x → wP (mw k) M H → va_S (wA (mw k)) s.heap H locs → lv_has ls 4 [(3, .int x), (2, .int y), (0, .ref (k.1 0 0)), (1, .int p1)] → ∀ (post : Int32 → Mem → Prop), post (f_X4_runTicks_L18 k p1 n y x M).1 (f_X4_runTicks_L18 k p1 n y x M).2 → W p l e (rmK 11 274) s m args below meth c H locs 0 0 (MQ below (wQi (mw k) post) args s 0 0 (wA (mw k))) (F0 m 18 ls []) := by
  intro n
  induction n with
  | zero =>
    intro y x M H locs ls hinv
    exact absurd hinv (fun h => lpQ_z h.2)
  | succ n ih =>
    intro y x M H locs ls hinv hP hS hl post hpo
    refine lv_iload_n hx hb dX4_runTicks_18 rfl (lv_at hl 0 rfl) ?_
    refine lv_iload_n hx hb dX4_runTicks_19 rfl (lv_at hl 3 rfl) ?_
    refine lv_icmp_ge (tgt := 44) hx hb dX4_runTicks_20 (by decide) (fun c_20 => ?_) (fun c_20 => ?_)
    · refine lv_iload_n hx hb dX4_runTicks_44 rfl (lv_at hl 1 rfl) ?_
      have e9 : f_X4_runTicks_L18 k p1 (n + 1) y x M = (y, M) := (by rw [f_X4_runTicks_L18]; rw [if_pos c_20])
      exact wx_iret hx hb hr hlocks hP hS rfl (by rw [e9] at hpo; exact hpo) dX4_runTicks_45
    · refine lv_aload_n hx hb dX4_runTicks_23 rfl (lv_at hl 2 rfl) ?_
      refine wx_Vi (w := (mw k)) ((f_X4_tick k M).1) ((f_X4_tick k M).2) [] [] (mZok k) ⟨hx, hb, hml, hown, hts⟩ (c_X4_tick l k M  hinv.1) (cwV 0 hts gX4_runTicks_X4_tick rfl rfl rfl (by decide +kernel) ⟨by decide, by decide⟩) (wx_recv (w := (mw k)) (g := 0) (j := 0) hK hP (mIx_0 (by decide)) rfl rfl) hP hK hD hZ hS rfl hl.1 rfl (Nat.le_of_ble_eq_true rfl) dX4_runTicks_24 ⟨by decide, by decide⟩ (fun H locs hP hS => ?_)
      refine lv_if_lt (tgt := 36) hx hb dX4_runTicks_27 (by decide) (fun c_27 => ?_) (fun c_27 => ?_)
      · refine lv_iload_n hx hb dX4_runTicks_36 rfl (lv_at hl 1 rfl) ?_
        refine lv_istore_n (lv' := [(2, .int y), (3, .int x), (0, .ref (k.1 0 0)), (1, .int p1)]) hx hb dX4_runTicks_37 rfl hl (by decide) rfl (fun ls hl => ?_)
        refine lv_iinc (v := (x + 1)) (lv' := [(3, .int (x + 1)), (2, .int y), (0, .ref (k.1 0 0)), (1, .int p1)]) hx hb dX4_runTicks_38 hl (k := 1) rfl rfl (by decide) rfl (fun ls hl => ?_)
        refine lv_goto (tgt := 18) hx hb dX4_runTicks_41 (by decide) ?_
        have e9 : f_X4_runTicks_L18 k p1 (n + 1) y x M = f_X4_runTicks_L18 k p1 n y (x + 1) (f_X4_tick k M).2 := (by rw [f_X4_runTicks_L18]; rw [if_neg c_20, if_pos c_27])
        exact ih y (x + 1) (f_X4_tick k M).2 _ _ ls (⟨mI_tick hinv.1, lpQ_s hinv.2 c_20⟩)  hP hS (lv_sub hl [0, 1, 2, 3] rfl) _ (by rw [e9] at hpo; exact hpo)
      · refine lv_iload_n hx hb dX4_runTicks_30 rfl (lv_at hl 1 rfl) ?_
        refine lv_iconst (v := 1) hx hb dX4_runTicks_31 (by decide) ?_
        refine lv_iadd hx hb dX4_runTicks_32 ?_
        refine lv_goto (tgt := 37) hx hb dX4_runTicks_33 (by decide) ?_
        refine lv_istore_n (lv' := [(2, .int (y + 1)), (3, .int x), (0, .ref (k.1 0 0)), (1, .int p1)]) hx hb dX4_runTicks_37 rfl hl (by decide) rfl (fun ls hl => ?_)
        refine lv_iinc (v := (x + 1)) (lv' := [(3, .int (x + 1)), (2, .int (y + 1)), (0, .ref (k.1 0 0)), (1, .int p1)]) hx hb dX4_runTicks_38 hl (k := 1) rfl rfl (by decide) rfl (fun ls hl => ?_)
        refine lv_goto (tgt := 18) hx hb dX4_runTicks_41 (by decide) ?_
        have e9 : f_X4_runTicks_L18 k p1 (n + 1) y x M = f_X4_runTicks_L18 k p1 n (y + 1) (x + 1) (f_X4_tick k M).2 := (by rw [f_X4_runTicks_L18]; rw [if_neg c_20, if_neg c_27])
        exact ih (y + 1) (x + 1) (f_X4_tick k M).2 _ _ ls (⟨mI_tick hinv.1, lpQ_s hinv.2 c_20⟩)  hP hS (lv_sub hl [0, 1, 2, 3] rfl) _ (by rw [e9] at hpo; exact hpo)
/-- by program, from the bytecode of RobotWorldModel.runTicks -/
def f_X4_runTicks (k : MK) (M : Mem) (p1 : Int32) : Int32 × Mem :=
  if (f_X4_in k M p1 0 10000) = 0 then
    ((-2), M)
  else
    f_X4_runTicks_L18 k p1 (p1.toNatClampNeg + 1) 0 0 M
set_option maxHeartbeats 4000000 in
set_option maxRecDepth 100000 in
theorem c_X4_runTicks (l : Launch) (k : MK) (M : Mem) (p1 : Int32) (hI : mI k M) : Met l yX4_runTicks wsX4_runTicks (rmK 11 274) (wPc (mw k) M [.ref (k.1 0 0), .int p1]) (wQi (mw k) (fun r u => r = (f_X4_runTicks k M p1).1 ∧ u = (f_X4_runTicks k M p1).2)) 0 0 (wA (mw k)) := by
  refine wx_met (cc := cX4_runTicks) (maxL := 4) (ret := (some .int)) (by decide) rfl (Nat.le_of_ble_eq_true rfl) ?_
  intro p e s m below meth c ls hx hb hr hml hts hown hlocks hP hK hD hZ hS hl
  have hown : s.vm.findClass RX4 = some m.cls := hown
  have hl : lv_has ls 4 [(0, .ref (k.1 0 0)), (1, .int p1)] := hl
  refine lv_iload_n hx hb dX4_runTicks_0 rfl (lv_at hl 1 rfl) ?_
  refine lv_iconst (v := 0) hx hb dX4_runTicks_1 (by decide) ?_
  refine lv_sipush (v := 10000) hx hb dX4_runTicks_2 (by decide) ?_
  refine wx_Si (w := (mw k)) (f_X4_in k M p1 0 10000) M [.int p1, .int 0, .int 10000] [] (mZok k) ⟨hx, hb, hml, hown, hts⟩ (c_X4_in l k M p1 0 10000 ) (va_cwS 3 hts gX4_runTicks_X4_in rfl rfl rfl (by decide +kernel) ⟨by decide, by decide⟩) hP hK hD hZ hS rfl hl.1 rfl (Nat.le_of_ble_eq_true rfl) dX4_runTicks_5 ⟨by decide, by decide⟩ (fun H locs hP hS => ?_)
  refine lv_if_ne (tgt := 14) hx hb dX4_runTicks_8 (by decide) (fun c_8 => ?_) (fun c_8 => ?_)
  · refine lv_iconst (v := 0) hx hb dX4_runTicks_14 (by decide) ?_
    refine lv_istore_n (lv' := [(2, .int 0), (0, .ref (k.1 0 0)), (1, .int p1)]) hx hb dX4_runTicks_15 rfl hl (by decide) rfl (fun ls hl => ?_)
    refine lv_iconst (v := 0) hx hb dX4_runTicks_16 (by decide) ?_
    refine lv_istore_n (lv' := [(3, .int 0), (2, .int 0), (0, .ref (k.1 0 0)), (1, .int p1)]) hx hb dX4_runTicks_17 rfl hl (by decide) rfl (fun ls hl => ?_)
    have e9 : f_X4_runTicks k M p1 = f_X4_runTicks_L18 k p1 (p1.toNatClampNeg + 1) 0 0 M := (by unfold f_X4_runTicks; rw [if_neg c_8])
    exact lp_X4_runTicks_L18 k p1 hx hb hr hml hts hown hlocks hK hD hZ (p1.toNatClampNeg + 1) 0 0 M _ _ ls (⟨hI, lpQ_i _⟩) hP hS (lv_sub hl [0, 1, 2, 3] rfl) _ ⟨by rw [e9], by rw [e9]⟩
  · refine lv_bipush (v := (-2)) hx hb dX4_runTicks_11 (by decide) ?_
    have e9 : f_X4_runTicks k M p1 = ((-2), M) := (by unfold f_X4_runTicks; rw [if_pos c_8])
    exact wx_iret hx hb hr hlocks hP hS rfl ⟨by rw [e9], by rw [e9]⟩ dX4_runTicks_13
