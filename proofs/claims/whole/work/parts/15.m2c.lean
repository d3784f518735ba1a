set_option maxHeartbeats 4000000 in
set_option maxRecDepth 100000 in
theorem c_X4_measure (l : Launch) (k : MK) (M : Mem) (p1 : Int32) (p2 : Int32) (hI : mI k M) (ho : ¬ f_X4_isFree k M p1 p2 = 0) : Met l yX4_measure wsX4_measure (rmK 4 93) (wPc (mw k) M [.ref (k.1 0 0), .int p1, .int p2]) (wQv (mw k) (fun u => u = f_X4_measure k M p1 p2)) 0 0 (wA (mw k)) := by
  refine wx_met (cc := cX4_measure) (maxL := 7) (ret := none) (by decide) rfl (Nat.le_of_ble_eq_true rfl) ?_
  intro p e s m below meth c ls hx hb hr hml hts hown hlocks hP hK hD hZ hS hl
  have hown : s.vm.findClass RX4 = some m.cls := hown
  have hl : lv_has ls 7 [(0, .ref (k.1 0 0)), (1, .int p1), (2, .int p2)] := hl
  have hiX4 : ∀ x ∈ u_ws RX4 TX4 22, x ∈ wsX4_measure := by decide +kernel
  have hf53 := hts (.fieldLink RX4 53 "RobotWorldModel" "far" "[I") (by decide +kernel)
  refine lv_iconst (v := 0) hx hb dX4_measure_0 (by decide) ?_
  refine lv_istore_n (lv' := [(3, .int 0), (0, .ref (k.1 0 0)), (1, .int p1), (2, .int p2)]) hx hb dX4_measure_1 rfl hl (by decide) rfl (fun ls hl => ?_)
  refine lp_X4_measure_L2 k p1 p2 hx hb hr hml hts hown hlocks hK hD hZ (k.2.1 5) 0 M _ _ ls (⟨hI, lpF (mI_F hI) (by decide)⟩) hP hS (lv_sub hl [0, 1, 2, 3] rfl) (fun H locs ls hP hS hl => ?_)
  refine lv_aload_n hx hb dX4_measure_23 rfl (lv_at hl 0 rfl) ?_
  refine wx_get (w := (mw k)) (g := 0) (j := 0) hx hb hts hiX4 hown hK hP (mIx_0 (by decide)) rfl rfl 21 (by decide) hf53 rfl dX4_measure_24 ?_
  refine lv_iload_n hx hb dX4_measure_27 rfl (lv_at hl 1 rfl) ?_
  refine lv_iload_n hx hb dX4_measure_28 rfl (lv_at hl 2 rfl) ?_
  refine wx_Si (w := (mw k)) (f_X4_square k (f_X4_measure_L2 k p1 p2 (k.2.1 5) 0 M) p1 p2) (f_X4_measure_L2 k p1 p2 (k.2.1 5) 0 M) [.int p1, .int p2] [.ref (k.1 0 15)] (mZok k) ⟨hx, hb, hml, hown, hts⟩ (c_X4_square l k (f_X4_measure_L2 k p1 p2 (k.2.1 5) 0 M) p1 p2 ) (va_cwS 2 hts gX4_measure_X4_square rfl rfl rfl (by decide +kernel) ⟨by decide, by decide⟩) hP hK hD hZ hS rfl hl.1 rfl (Nat.le_of_ble_eq_true rfl) dX4_measure_29 ⟨by decide, by decide⟩ (fun H locs hP hS => ?_)
  refine lv_iconst (v := 0) hx hb dX4_measure_32 (by decide) ?_
  refine wx_iast (w := (mw k)) (g := 0) (j := 15) hx hb hK hP hD hS (mIx_0 (by decide)) 0 (fun _ => rfl) rfl (m_sqf hI ho) dX4_measure_33 (fun H locs hP hS => ?_)
  refine lv_iconst (v := 1) hx hb dX4_measure_34 (by decide) ?_
  refine lv_istore_n (lv' := [(3, .int 1), (0, .ref (k.1 0 0)), (1, .int p1), (2, .int p2)]) hx hb dX4_measure_35 rfl hl (by decide) rfl (fun ls hl => ?_)
  refine lv_iconst (v := 0) hx hb dX4_measure_36 (by decide) ?_
  refine lv_istore (lv' := [(4, .int 0), (3, .int 1), (0, .ref (k.1 0 0)), (1, .int p1), (2, .int p2)]) hx hb dX4_measure_37 hl (by decide) rfl (fun ls hl => ?_)
  have e9 : f_X4_measure k M p1 p2 = f_X4_measure_L39 k (k.2.1 5) 1 0 (mu (f_X4_measure_L2 k p1 p2 (k.2.1 5) 0 M) 0 15 (f_X4_square k (f_X4_measure_L2 k p1 p2 (k.2.1 5) 0 M) p1 p2).toNatClampNeg 0) := (by rw [f_X4_measure])
  exact lp_X4_measure_L39 k hx hb hr hml hts hown hlocks hK hD hZ (k.2.1 5) 1 0 (mu (f_X4_measure_L2 k p1 p2 (k.2.1 5) 0 M) 0 15 (f_X4_square k (f_X4_measure_L2 k p1 p2 (k.2.1 5) 0 M) p1 p2).toNatClampNeg 0) _ _ ls (mI_far (mI_ms_L2 _ _ _ hI)) (okm hI ho) hP hS (lv_sub hl [0, 1, 2] rfl) _ e9.symm
theorem mI_measure {k : MK} {M : Mem} {x y : Int32} (hI : mI k M) : mI k (f_X4_measure k M x y) := by
  unfold f_X4_measure
  exact mI_ms_L39 _ _ _ _ (mI_far (mI_ms_L2 _ _ _ hI))
/-- by program, from the bytecode of RobotWorldModel.pathLength -/
def f_X4_pathLength (k : MK) (M : Mem) (p1 : Int32) (p2 : Int32) (p3 : Int32) (p4 : Int32) : Int32 × Mem :=
  if (f_X4_isFree k M p1 p2) = 0 then
    ((-1), M)
  else
    if (f_X4_isFree k M p3 p4) = 0 then
      ((-1), M)
    else
      if ((f_X4_measure k M p3 p4) 0 15 (f_X4_square k (f_X4_measure k M p3 p4) p1 p2).toNatClampNeg) = 100000 then
        ((-1), (f_X4_measure k M p3 p4))
      else
        (((f_X4_measure k M p3 p4) 0 15 (f_X4_square k (f_X4_measure k M p3 p4) p1 p2).toNatClampNeg), (f_X4_measure k M p3 p4))
set_option maxHeartbeats 4000000 in
set_option maxRecDepth 100000 in
theorem c_X4_pathLength (l : Launch) (k : MK) (M : Mem) (p1 : Int32) (p2 : Int32) (p3 : Int32) (p4 : Int32) (hI : mI k M) : Met l yX4_pathLength wsX4_pathLength (rmK 5 119) (wPc (mw k) M [.ref (k.1 0 0), .int p1, .int p2, .int p3, .int p4]) (wQi (mw k) (fun r u => r = (f_X4_pathLength k M p1 p2 p3 p4).1 ∧ u = (f_X4_pathLength k M p1 p2 p3 p4).2)) 0 0 (wA (mw k)) := by
  refine wx_met (cc := cX4_pathLength) (maxL := 6) (ret := (some .int)) (by decide) rfl (Nat.le_of_ble_eq_true rfl) ?_
  intro p e s m below meth c ls hx hb hr hml hts hown hlocks hP hK hD hZ hS hl
  have hown : s.vm.findClass RX4 = some m.cls := hown
  have hl : lv_has ls 6 [(0, .ref (k.1 0 0)), (1, .int p1), (2, .int p2), (3, .int p3), (4, .int p4)] := hl
  have hiX4 : ∀ x ∈ u_ws RX4 TX4 22, x ∈ wsX4_pathLength := by decide +kernel
  have hf53 := hts (.fieldLink RX4 53 "RobotWorldModel" "far" "[I") (by decide +kernel)
  refine lv_aload_n hx hb dX4_pathLength_0 rfl (lv_at hl 0 rfl) ?_
  refine lv_iload_n hx hb dX4_pathLength_1 rfl (lv_at hl 1 rfl) ?_
  refine lv_iload_n hx hb dX4_pathLength_2 rfl (lv_at hl 2 rfl) ?_
  refine wx_Vi (w := (mw k)) (f_X4_isFree k M p1 p2) M [.int p1, .int p2] [] (mZok k) ⟨hx, hb, hml, hown, hts⟩ (c_X4_isFree l k M p1 p2 hI) (cwV 2 hts gX4_pathLength_X4_isFree rfl rfl rfl (by decide +kernel) ⟨by decide, by decide⟩) (wx_recv (w := (mw k)) (g := 0) (j := 0) hK hP (mIx_0 (by decide)) rfl rfl) hP hK hD hZ hS rfl hl.1 rfl (Nat.le_of_ble_eq_true rfl) dX4_pathLength_3 ⟨by decide, by decide⟩ (fun H locs hP hS => ?_)
  refine lv_if_eq (tgt := 19) hx hb dX4_pathLength_6 (by decide) (fun c_6 => ?_) (fun c_6 => ?_)
  · refine lv_iconst (v := (-1)) hx hb dX4_pathLength_19 (by decide) ?_
    have e9 : f_X4_pathLength k M p1 p2 p3 p4 = ((-1), M) := (by unfold f_X4_pathLength; rw [if_pos c_6])
    exact wx_iret hx hb hr hlocks hP hS rfl ⟨by rw [e9], by rw [e9]⟩ dX4_pathLength_20
  · refine lv_aload_n hx hb dX4_pathLength_9 rfl (lv_at hl 0 rfl) ?_
    refine lv_iload_n hx hb dX4_pathLength_10 rfl (lv_at hl 3 rfl) ?_
    refine lv_iload hx hb dX4_pathLength_11 (lv_at hl 4 rfl) ?_
    refine wx_Vi (w := (mw k)) (f_X4_isFree k M p3 p4) M [.int p3, .int p4] [] (mZok k) ⟨hx, hb, hml, hown, hts⟩ (c_X4_isFree l k M p3 p4 hI) (cwV 2 hts gX4_pathLength_X4_isFree rfl rfl rfl (by decide +kernel) ⟨by decide, by decide⟩) (wx_recv (w := (mw k)) (g := 0) (j := 0) hK hP (mIx_0 (by decide)) rfl rfl) hP hK hD hZ hS rfl hl.1 rfl (Nat.le_of_ble_eq_true rfl) dX4_pathLength_13 ⟨by decide, by decide⟩ (fun H locs hP hS => ?_)
    refine lv_if_ne (tgt := 21) hx hb dX4_pathLength_16 (by decide) (fun c_16 => ?_) (fun c_16 => ?_)
    · refine lv_aload_n hx hb dX4_pathLength_21 rfl (lv_at hl 0 rfl) ?_
      refine lv_iload_n hx hb dX4_pathLength_22 rfl (lv_at hl 3 rfl) ?_
      refine lv_iload hx hb dX4_pathLength_23 (lv_at hl 4 rfl) ?_
      refine wx_Vv (w := (mw k)) (f_X4_measure k M p3 p4) [.int p3, .int p4] [] (mZok k) ⟨hx, hb, hml, hown, hts⟩ (c_X4_measure l k M p3 p4 hI c_16) (cwV 2 hts gX4_pathLength_X4_measure rfl rfl rfl (by decide +kernel) ⟨by decide, by decide⟩) (wx_recv (w := (mw k)) (g := 0) (j := 0) hK hP (mIx_0 (by decide)) rfl rfl) hP hK hD hZ hS rfl hl.1 rfl (Nat.le_of_ble_eq_true rfl) dX4_pathLength_25 ⟨by decide, by decide⟩ (fun H locs hP hS => ?_)
      refine lv_aload_n hx hb dX4_pathLength_28 rfl (lv_at hl 0 rfl) ?_
      refine wx_get (w := (mw k)) (g := 0) (j := 0) hx hb hts hiX4 hown hK hP (mIx_0 (by decide)) rfl rfl 21 (by decide) hf53 rfl dX4_pathLength_29 ?_
      refine lv_iload_n hx hb dX4_pathLength_32 rfl (lv_at hl 1 rfl) ?_
      refine lv_iload_n hx hb dX4_pathLength_33 rfl (lv_at hl 2 rfl) ?_
      refine wx_Si (w := (mw k)) (f_X4_square k (f_X4_measure k M p3 p4) p1 p2) (f_X4_measure k M p3 p4) [.int p1, .int p2] [.ref (k.1 0 15)] (mZok k) ⟨hx, hb, hml, hown, hts⟩ (c_X4_square l k (f_X4_measure k M p3 p4) p1 p2 ) (va_cwS 2 hts gX4_pathLength_X4_square rfl rfl rfl (by decide +kernel) ⟨by decide, by decide⟩) hP hK hD hZ hS rfl hl.1 rfl (Nat.le_of_ble_eq_true rfl) dX4_pathLength_34 ⟨by decide, by decide⟩ (fun H locs hP hS => ?_)
      refine wx_iald (w := (mw k)) (g := 0) (j := 15) hx hb hK hP (mIx_0 (by decide)) 0 rfl rfl (m_sqf hI c_6) dX4_pathLength_37 ?_
      refine lv_istore (lv' := [(5, .int ((f_X4_measure k M p3 p4) 0 15 (f_X4_square k (f_X4_measure k M p3 p4) p1 p2).toNatClampNeg)), (0, .ref (k.1 0 0)), (1, .int p1), (2, .int p2), (3, .int p3), (4, .int p4)]) hx hb dX4_pathLength_38 hl (by decide) rfl (fun ls hl => ?_)
      refine lv_iload hx hb dX4_pathLength_40 (lv_at hl 0 rfl) ?_
      refine lv_ldc (v := 100000) hx hb hown (hts (.constant RX4 104 (100000)) (by decide +kernel)) dX4_pathLength_42 ?_
      refine lv_icmp_ne (tgt := 51) hx hb dX4_pathLength_44 (by decide) (fun c_44 => ?_) (fun c_44 => ?_)
      · refine lv_iload hx hb dX4_pathLength_51 (lv_at hl 0 rfl) ?_
        have e9 : f_X4_pathLength k M p1 p2 p3 p4 = (((f_X4_measure k M p3 p4) 0 15 (f_X4_square k (f_X4_measure k M p3 p4) p1 p2).toNatClampNeg), (f_X4_measure k M p3 p4)) := (by unfold f_X4_pathLength; rw [if_neg c_6, if_neg c_16, if_neg c_44])
        exact wx_iret hx hb hr hlocks hP hS rfl ⟨by rw [e9], by rw [e9]⟩ dX4_pathLength_53
      · refine lv_iconst (v := (-1)) hx hb dX4_pathLength_47 (by decide) ?_
        refine lv_goto (tgt := 53) hx hb dX4_pathLength_48 (by decide) ?_
        have e9 : f_X4_pathLength k M p1 p2 p3 p4 = ((-1), (f_X4_measure k M p3 p4)) := (by unfold f_X4_pathLength; rw [if_neg c_6, if_neg c_16, if_pos c_44])
        exact wx_iret hx hb hr hlocks hP hS rfl ⟨by rw [e9], by rw [e9]⟩ dX4_pathLength_53
    · refine lv_iconst (v := (-1)) hx hb dX4_pathLength_19 (by decide) ?_
      have e9 : f_X4_pathLength k M p1 p2 p3 p4 = ((-1), M) := (by unfold f_X4_pathLength; rw [if_neg c_6, if_pos c_16])
      exact wx_iret hx hb hr hlocks hP hS rfl ⟨by rw [e9], by rw [e9]⟩ dX4_pathLength_20
theorem mI_pathLength {k : MK} {M : Mem} {x y z w : Int32} (hI : mI k M) : mI k (f_X4_pathLength k M x y z w).2 := by
  unfold f_X4_pathLength
  split
  · exact hI
  · split
    · exact hI
    · split
      · exact mI_measure hI
      · exact mI_measure hI
/-- by program: the loop at 42 of RobotWorldModel.way -/
def f_X4_way_L42 (k : MK) (p1 : Int32) (p4 : Int32) : Nat → Int32 → Int32 → Mem → Int32 × Mem
  | 0, _, _, M => (0, M)
  | n + 1, x, f, M =>
    if f = 0 then
      if (f_X4_isFree k M (f_X4_besideX k M (M 0 4 p1.toNatClampNeg) x) (f_X4_besideY k M (M 0 5 p1.toNatClampNeg) x)) = 0 then
        f_X4_way_L42 k p1 p4 n (x + 1) 0 M
      else
        if (M 0 15 (f_X4_square k M (f_X4_besideX k M (M 0 4 p1.toNatClampNeg) x) (f_X4_besideY k M (M 0 5 p1.toNatClampNeg) x)).toNatClampNeg) = (p4 - 1) then
          f_X4_way_L42 k p1 p4 n x 1 M
        else
          f_X4_way_L42 k p1 p4 n (x + 1) 0 M
    else
      (x, M)
def ok_X4_way_L42 (k : MK) (p1 : Int32) (p4 : Int32) : Nat → Int32 → Int32 → Mem → Prop
  | 0, _, _, _ => False
  | n + 1, x, f, M =>
    if f = 0 then
      if (f_X4_isFree k M (f_X4_besideX k M (M 0 4 p1.toNatClampNeg) x) (f_X4_besideY k M (M 0 5 p1.toNatClampNeg) x)) = 0 then
        ok_X4_way_L42 k p1 p4 n (x + 1) 0 M
      else
        if (M 0 15 (f_X4_square k M (f_X4_besideX k M (M 0 4 p1.toNatClampNeg) x) (f_X4_besideY k M (M 0 5 p1.toNatClampNeg) x)).toNatClampNeg) = (p4 - 1) then
          ok_X4_way_L42 k p1 p4 n x 1 M
        else
          ok_X4_way_L42 k p1 p4 n (x + 1) 0 M
    else
      True
set_option maxHeartbeats 4000000 in
set_option maxRecDepth 100000 in
theorem lp_X4_way_L42 {p : Program} {l : Launch} {e : Env} {s : State} {m : MethodId} {args : Array Value} {below : List Frame} {meth : Method} {c : Code} (k : MK) (p1 : Int32) (p4 : Int32)  (hx : p.tables.exec = Jvm.exec) (hb : c.code = cX4_way) (hr : meth.sig.returnType = (some .int)) (hml : c.maxLocals = 9) (hts : ∀ x ∈ wsX4_way, x.before args s = true) (hown : s.vm.findClass RX4 = some m.cls) (hlocks : meth.locks = false) (hK : va_K (wD (mw k)) vwCl (wT (mw k)) s) {M0 : Mem} (hD : va_D (wA (mw k)) (wW (mw k) M0)) (hZ : wZ (mw k) (wA (mw k)) s s.heap)  : ∀ (n : Nat) (x : Int32) (f : Int32) (M : Mem) (H : Heap) (locs : List Loc) (ls : Array Slot), mI k M ∧ vp_in p1 (k.2.1 0) → ok_X4_way_L42 k p1 p4 n x f M → wP (mw k) M H → va_S (wA (mw k)) s.heap H locs → lv_has ls 9 [(6, .int f), (5, .int x), (4, .int p4), (0, .ref (k.1 0 0)), (1, .int p1)] → ∀ (post : Int32 → Mem → Prop), post (f_X4_way_L42 k p1 p4 n x f M).1 (f_X4_way_L42 k p1 p4 n x f M).2 → W p l e (rmK 6 144) s m args below meth c H locs 0 0 (MQ below (wQi (mw k) post) args s 0 0 (wA (mw k))) (F0 m 42 ls []) := by
  have hiX4 : ∀ x ∈ u_ws RX4 TX4 22, x ∈ wsX4_way := by decide +kernel
  have hf20 := hts (.fieldLink RX4 20 "RobotWorldModel" "xs" "[I") (by decide +kernel)
  have hf23 := hts (.fieldLink RX4 23 "RobotWorldModel" "ys" "[I") (by decide +kernel)
  have hf53 := hts (.fieldLink RX4 53 "RobotWorldModel" "far" "[I") (by decide +kernel)
  intro n
  induction n with
  | zero =>
    intro x f M H locs ls hinv hok
    exact absurd hinv (fun _ => hok)
  | succ n ih =>
    intro x f M H locs ls hinv hok hP hS hl post hpo
    refine lv_iload hx hb dX4_way_42 (lv_at hl 0 rfl) ?_
    refine lv_if_ne (tgt := 129) hx hb dX4_way_44 (by decide) (fun c_44 => ?_) (fun c_44 => ?_)
    · refine lv_iload hx hb dX4_way_129 (lv_at hl 1 rfl) ?_
      have e9 : f_X4_way_L42 k p1 p4 (n + 1) x f M = (x, M) := (by rw [f_X4_way_L42]; rw [if_neg c_44])
      exact wx_iret hx hb hr hlocks hP hS rfl (by rw [e9] at hpo; exact hpo) dX4_way_131
    · refine lv_aload_n hx hb dX4_way_47 rfl (lv_at hl 3 rfl) ?_
      refine wx_get (w := (mw k)) (g := 0) (j := 0) hx hb hts hiX4 hown hK hP (mIx_0 (by decide)) rfl rfl 8 (by decide) hf20 rfl dX4_way_48 ?_
      refine lv_iload_n hx hb dX4_way_51 rfl (lv_at hl 4 rfl) ?_
      refine wx_iald (w := (mw k)) (g := 0) (j := 4) hx hb hK hP (mIx_0 (by decide)) 0 rfl rfl (m8 hinv.1 hinv.2) dX4_way_52 ?_
      refine lv_iload hx hb dX4_way_53 (lv_at hl 1 rfl) ?_
      refine wx_Si (w := (mw k)) (f_X4_besideX k M (M 0 4 p1.toNatClampNeg) x) M [.int (M 0 4 p1.toNatClampNeg), .int x] [] (mZok k) ⟨hx, hb, hml, hown, hts⟩ (c_X4_besideX l k M (M 0 4 p1.toNatClampNeg) x ) (va_cwS 2 hts gX4_way_X4_besideX rfl rfl rfl (by decide +kernel) ⟨by decide, by decide⟩) hP hK hD hZ hS rfl hl.1 rfl (Nat.le_of_ble_eq_true rfl) dX4_way_55 ⟨by decide, by decide⟩ (fun H locs hP hS => ?_)
      refine lv_istore (lv' := [(7, .int (f_X4_besideX k M (M 0 4 p1.toNatClampNeg) x)), (6, .int f), (5, .int x), (4, .int p4), (0, .ref (k.1 0 0)), (1, .int p1)]) hx hb dX4_way_58 hl (by decide) rfl (fun ls hl => ?_)
      refine lv_aload_n hx hb dX4_way_60 rfl (lv_at hl 4 rfl) ?_
      refine wx_get (w := (mw k)) (g := 0) (j := 0) hx hb hts hiX4 hown hK hP (mIx_0 (by decide)) rfl rfl 9 (by decide) hf23 rfl dX4_way_61 ?_
      refine lv_iload_n hx hb dX4_way_64 rfl (lv_at hl 5 rfl) ?_
      refine wx_iald (w := (mw k)) (g := 0) (j := 5) hx hb hK hP (mIx_0 (by decide)) 0 rfl rfl (m8 hinv.1 hinv.2) dX4_way_65 ?_
      refine lv_iload hx hb dX4_way_66 (lv_at hl 2 rfl) ?_
      refine wx_Si (w := (mw k)) (f_X4_besideY k M (M 0 5 p1.toNatClampNeg) x) M [.int (M 0 5 p1.toNatClampNeg), .int x] [] (mZok k) ⟨hx, hb, hml, hown, hts⟩ (c_X4_besideY l k M (M 0 5 p1.toNatClampNeg) x ) (va_cwS 2 hts gX4_way_X4_besideY rfl rfl rfl (by decide +kernel) ⟨by decide, by decide⟩) hP hK hD hZ hS rfl hl.1 rfl (Nat.le_of_ble_eq_true rfl) dX4_way_68 ⟨by decide, by decide⟩ (fun H locs hP hS => ?_)
      refine lv_istore (lv' := [(8, .int (f_X4_besideY k M (M 0 5 p1.toNatClampNeg) x)), (7, .int (f_X4_besideX k M (M 0 4 p1.toNatClampNeg) x)), (6, .int f), (5, .int x), (4, .int p4), (0, .ref (k.1 0 0)), (1, .int p1)]) hx hb dX4_way_71 hl (by decide) rfl (fun ls hl => ?_)
      refine lv_aload_n hx hb dX4_way_73 rfl (lv_at hl 5 rfl) ?_
      refine lv_iload hx hb dX4_way_74 (lv_at hl 1 rfl) ?_
      refine lv_iload hx hb dX4_way_76 (lv_at hl 0 rfl) ?_
      refine wx_Vi (w := (mw k)) (f_X4_isFree k M (f_X4_besideX k M (M 0 4 p1.toNatClampNeg) x) (f_X4_besideY k M (M 0 5 p1.toNatClampNeg) x)) M [.int (f_X4_besideX k M (M 0 4 p1.toNatClampNeg) x), .int (f_X4_besideY k M (M 0 5 p1.toNatClampNeg) x)] [] (mZok k) ⟨hx, hb, hml, hown, hts⟩ (c_X4_isFree l k M (f_X4_besideX k M (M 0 4 p1.toNatClampNeg) x) (f_X4_besideY k M (M 0 5 p1.toNatClampNeg) x) hinv.1) (cwV 2 hts gX4_way_X4_isFree rfl rfl rfl (by decide +kernel) ⟨by decide, by decide⟩) (wx_recv (w := (mw k)) (g := 0) (j := 0) hK hP (mIx_0 (by decide)) rfl rfl) hP hK hD hZ hS rfl hl.1 rfl (Nat.le_of_ble_eq_true rfl) dX4_way_78 ⟨by decide, by decide⟩ (fun H locs hP hS => ?_)
      refine lv_if_eq (tgt := 107) hx hb dX4_way_81 (by decide) (fun c_81 => ?_) (fun c_81 => ?_)
      · refine lv_iconst (v := 0) hx hb dX4_way_107 (by decide) ?_
        refine lv_istore (lv' := [(6, .int 0), (8, .int (f_X4_besideY k M (M 0 5 p1.toNatClampNeg) x)), (7, .int (f_X4_besideX k M (M 0 4 p1.toNatClampNeg) x)), (5, .int x), (4, .int p4), (0, .ref (k.1 0 0)), (1, .int p1)]) hx hb dX4_way_108 hl (by decide) rfl (fun ls hl => ?_)
        refine lv_iload hx hb dX4_way_110 (lv_at hl 0 rfl) ?_
        refine lv_if_eq (tgt := 120) hx hb dX4_way_112 (by decide) (fun _ => ?_) (fun h9 => absurd h9 (by decide))
        refine lv_iload hx hb dX4_way_120 (lv_at hl 3 rfl) ?_
        refine lv_iconst (v := 1) hx hb dX4_way_122 (by decide) ?_
        refine lv_iadd hx hb dX4_way_123 ?_
        refine lv_istore (lv' := [(5, .int (x + 1)), (6, .int 0), (8, .int (f_X4_besideY k M (M 0 5 p1.toNatClampNeg) x)), (7, .int (f_X4_besideX k M (M 0 4 p1.toNatClampNeg) x)), (4, .int p4), (0, .ref (k.1 0 0)), (1, .int p1)]) hx hb dX4_way_124 hl (by decide) rfl (fun ls hl => ?_)
        refine lv_goto (tgt := 42) hx hb dX4_way_126 (by decide) ?_
        have e9 : f_X4_way_L42 k p1 p4 (n + 1) x f M = f_X4_way_L42 k p1 p4 n (x + 1) 0 M := (by rw [f_X4_way_L42]; rw [if_pos c_44, if_pos c_81])
        have k9 : ok_X4_way_L42 k p1 p4 n (x + 1) 0 M := by
          have q9 := hok
          rw [ok_X4_way_L42] at q9
          rw [if_pos c_44, if_pos c_81] at q9
          exact q9
        exact ih (x + 1) 0 M _ _ ls (hinv) k9 hP hS (lv_sub hl [1, 0, 4, 5, 6] rfl) _ (by rw [e9] at hpo; exact hpo)
      · refine lv_aload_n hx hb dX4_way_84 rfl (lv_at hl 5 rfl) ?_
        refine wx_get (w := (mw k)) (g := 0) (j := 0) hx hb hts hiX4 hown hK hP (mIx_0 (by decide)) rfl rfl 21 (by decide) hf53 rfl dX4_way_85 ?_
        refine lv_iload hx hb dX4_way_88 (lv_at hl 1 rfl) ?_
        refine lv_iload hx hb dX4_way_90 (lv_at hl 0 rfl) ?_
        refine wx_Si (w := (mw k)) (f_X4_square k M (f_X4_besideX k M (M 0 4 p1.toNatClampNeg) x) (f_X4_besideY k M (M 0 5 p1.toNatClampNeg) x)) M [.int (f_X4_besideX k M (M 0 4 p1.toNatClampNeg) x), .int (f_X4_besideY k M (M 0 5 p1.toNatClampNeg) x)] [.ref (k.1 0 15)] (mZok k) ⟨hx, hb, hml, hown, hts⟩ (c_X4_square l k M (f_X4_besideX k M (M 0 4 p1.toNatClampNeg) x) (f_X4_besideY k M (M 0 5 p1.toNatClampNeg) x) ) (va_cwS 2 hts gX4_way_X4_square rfl rfl rfl (by decide +kernel) ⟨by decide, by decide⟩) hP hK hD hZ hS rfl hl.1 rfl (Nat.le_of_ble_eq_true rfl) dX4_way_92 ⟨by decide, by decide⟩ (fun H locs hP hS => ?_)
        refine wx_iald (w := (mw k)) (g := 0) (j := 15) hx hb hK hP (mIx_0 (by decide)) 0 rfl rfl (m_sqf hinv.1 c_81) dX4_way_95 ?_
        refine lv_iload hx hb dX4_way_96 (lv_at hl 4 rfl) ?_
        refine lv_iconst (v := 1) hx hb dX4_way_98 (by decide) ?_
        refine lv_isub hx hb dX4_way_99 ?_
        refine lv_icmp_ne (tgt := 107) hx hb dX4_way_100 (by decide) (fun c_100 => ?_) (fun c_100 => ?_)
        · refine lv_iconst (v := 0) hx hb dX4_way_107 (by decide) ?_
          refine lv_istore (lv' := [(6, .int 0), (8, .int (f_X4_besideY k M (M 0 5 p1.toNatClampNeg) x)), (7, .int (f_X4_besideX k M (M 0 4 p1.toNatClampNeg) x)), (5, .int x), (4, .int p4), (0, .ref (k.1 0 0)), (1, .int p1)]) hx hb dX4_way_108 hl (by decide) rfl (fun ls hl => ?_)
          refine lv_iload hx hb dX4_way_110 (lv_at hl 0 rfl) ?_
          refine lv_if_eq (tgt := 120) hx hb dX4_way_112 (by decide) (fun _ => ?_) (fun h9 => absurd h9 (by decide))
          refine lv_iload hx hb dX4_way_120 (lv_at hl 3 rfl) ?_
          refine lv_iconst (v := 1) hx hb dX4_way_122 (by decide) ?_
          refine lv_iadd hx hb dX4_way_123 ?_
          refine lv_istore (lv' := [(5, .int (x + 1)), (6, .int 0), (8, .int (f_X4_besideY k M (M 0 5 p1.toNatClampNeg) x)), (7, .int (f_X4_besideX k M (M 0 4 p1.toNatClampNeg) x)), (4, .int p4), (0, .ref (k.1 0 0)), (1, .int p1)]) hx hb dX4_way_124 hl (by decide) rfl (fun ls hl => ?_)
          refine lv_goto (tgt := 42) hx hb dX4_way_126 (by decide) ?_
          have e9 : f_X4_way_L42 k p1 p4 (n + 1) x f M = f_X4_way_L42 k p1 p4 n (x + 1) 0 M := (by rw [f_X4_way_L42]; rw [if_pos c_44, if_neg c_81, if_neg c_100])
          have k9 : ok_X4_way_L42 k p1 p4 n (x + 1) 0 M := by
            have q9 := hok
            rw [ok_X4_way_L42] at q9
            rw [if_pos c_44, if_neg c_81, if_neg c_100] at q9
            exact q9
          exact ih (x + 1) 0 M _ _ ls (hinv) k9 hP hS (lv_sub hl [1, 0, 4, 5, 6] rfl) _ (by rw [e9] at hpo; exact hpo)
        · refine lv_iconst (v := 1) hx hb dX4_way_103 (by decide) ?_
          refine lv_goto (tgt := 108) hx hb dX4_way_104 (by decide) ?_
          refine lv_istore (lv' := [(6, .int 1), (8, .int (f_X4_besideY k M (M 0 5 p1.toNatClampNeg) x)), (7, .int (f_X4_besideX k M (M 0 4 p1.toNatClampNeg) x)), (5, .int x), (4, .int p4), (0, .ref (k.1 0 0)), (1, .int p1)]) hx hb dX4_way_108 hl (by decide) rfl (fun ls hl => ?_)
          refine lv_iload hx hb dX4_way_110 (lv_at hl 0 rfl) ?_
          refine lv_if_eq (tgt := 120) hx hb dX4_way_112 (by decide) (fun h9 => absurd h9 (by decide)) (fun _ => ?_)
          refine lv_iload hx hb dX4_way_115 (lv_at hl 3 rfl) ?_
          refine lv_goto (tgt := 124) hx hb dX4_way_117 (by decide) ?_
          refine lv_istore (lv' := [(5, .int x), (6, .int 1), (8, .int (f_X4_besideY k M (M 0 5 p1.toNatClampNeg) x)), (7, .int (f_X4_besideX k M (M 0 4 p1.toNatClampNeg) x)), (4, .int p4), (0, .ref (k.1 0 0)), (1, .int p1)]) hx hb dX4_way_124 hl (by decide) rfl (fun ls hl => ?_)
          refine lv_goto (tgt := 42) hx hb dX4_way_126 (by decide) ?_
          have e9 : f_X4_way_L42 k p1 p4 (n + 1) x f M = f_X4_way_L42 k p1 p4 n x 1 M := (by rw [f_X4_way_L42]; rw [if_pos c_44, if_neg c_81, if_pos c_100])
          have k9 : ok_X4_way_L42 k p1 p4 n x 1 M := by
            have q9 := hok
            rw [ok_X4_way_L42] at q9
            rw [if_pos c_44, if_neg c_81, if_pos c_100] at q9
            exact q9
          exact ih x 1 M _ _ ls (hinv) k9 hP hS (lv_sub hl [1, 0, 4, 5, 6] rfl) _ (by rw [e9] at hpo; exact hpo)
