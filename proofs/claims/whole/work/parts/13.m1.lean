/-- by program, from the bytecode of RobotWorldModel.near -/
def f_X4_near (k : MK) (M : Mem) (p1 : Int32) (p2 : Int32) (p3 : Int32) : Int32 :=
  if p2 ≤ p1 then
    if p1 ≤ p3 then
      p1
    else
      p3
  else
    p2
set_option maxHeartbeats 4000000 in
set_option maxRecDepth 100000 in
theorem c_X4_near (l : Launch) (k : MK) (M : Mem) (p1 : Int32) (p2 : Int32) (p3 : Int32)  : Met l yX4_near wsX4_near (rmK 0 0) (wPc (mw k) M [.int p1, .int p2, .int p3]) (wQi (mw k) (fun r u => r = (f_X4_near k M p1 p2 p3) ∧ u = M)) 0 0 (wA (mw k)) := by
  refine wx_met (cc := cX4_near) (maxL := 3) (ret := (some .int)) (by decide) rfl (Nat.le_of_ble_eq_true rfl) ?_
  intro p e s m below meth c ls hx hb hr hml hts hown hlocks hP hK hD hZ hS hl
  have hown : s.vm.findClass RX4 = some m.cls := hown
  have hl : lv_has ls 3 [(0, .int p1), (1, .int p2), (2, .int p3)] := hl
  refine lv_iload_n hx hb dX4_near_0 rfl (lv_at hl 0 rfl) ?_
  refine lv_iload_n hx hb dX4_near_1 rfl (lv_at hl 1 rfl) ?_
  refine lv_icmp_ge (tgt := 9) hx hb dX4_near_2 (by decide) (fun c_2 => ?_) (fun c_2 => ?_)
  · refine lv_iload_n hx hb dX4_near_9 rfl (lv_at hl 0 rfl) ?_
    refine lv_iload_n hx hb dX4_near_10 rfl (lv_at hl 2 rfl) ?_
    refine lv_icmp_le (tgt := 18) hx hb dX4_near_11 (by decide) (fun c_11 => ?_) (fun c_11 => ?_)
    · refine lv_iload_n hx hb dX4_near_18 rfl (lv_at hl 0 rfl) ?_
      have e9 : f_X4_near k M p1 p2 p3 = p1 := (by unfold f_X4_near; rw [if_pos c_2, if_pos c_11])
      exact wx_iret hx hb hr hlocks hP hS rfl ⟨e9.symm, rfl⟩ dX4_near_19
    · refine lv_iload_n hx hb dX4_near_14 rfl (lv_at hl 2 rfl) ?_
      refine lv_goto (tgt := 19) hx hb dX4_near_15 (by decide) ?_
      have e9 : f_X4_near k M p1 p2 p3 = p3 := (by unfold f_X4_near; rw [if_pos c_2, if_neg c_11])
      exact wx_iret hx hb hr hlocks hP hS rfl ⟨e9.symm, rfl⟩ dX4_near_19
  · refine lv_iload_n hx hb dX4_near_5 rfl (lv_at hl 1 rfl) ?_
    refine lv_goto (tgt := 19) hx hb dX4_near_6 (by decide) ?_
    have e9 : f_X4_near k M p1 p2 p3 = p2 := (by unfold f_X4_near; rw [if_neg c_2])
    exact wx_iret hx hb hr hlocks hP hS rfl ⟨e9.symm, rfl⟩ dX4_near_19
/-- by program, from the bytecode of RobotWorldModel.in -/
def f_X4_in (k : MK) (M : Mem) (p1 : Int32) (p2 : Int32) (p3 : Int32) : Int32 :=
  if p1 < p2 then
    0
  else
    if p3 < p1 then
      0
    else
      1
set_option maxHeartbeats 4000000 in
set_option maxRecDepth 100000 in
theorem c_X4_in (l : Launch) (k : MK) (M : Mem) (p1 : Int32) (p2 : Int32) (p3 : Int32)  : Met l yX4_in wsX4_in (rmK 0 0) (wPc (mw k) M [.int p1, .int p2, .int p3]) (wQi (mw k) (fun r u => r = (f_X4_in k M p1 p2 p3) ∧ u = M)) 0 0 (wA (mw k)) := by
  refine wx_met (cc := cX4_in) (maxL := 3) (ret := (some .boolean)) (by decide) rfl (Nat.le_of_ble_eq_true rfl) ?_
  intro p e s m below meth c ls hx hb hr hml hts hown hlocks hP hK hD hZ hS hl
  have hown : s.vm.findClass RX4 = some m.cls := hown
  have hl : lv_has ls 3 [(0, .int p1), (1, .int p2), (2, .int p3)] := hl
  refine lv_iload_n hx hb dX4_in_0 rfl (lv_at hl 0 rfl) ?_
  refine lv_iload_n hx hb dX4_in_1 rfl (lv_at hl 1 rfl) ?_
  refine lv_icmp_lt (tgt := 14) hx hb dX4_in_2 (by decide) (fun c_2 => ?_) (fun c_2 => ?_)
  · refine lv_iconst (v := 0) hx hb dX4_in_14 (by decide) ?_
    have e9 : f_X4_in k M p1 p2 p3 = 0 := (by unfold f_X4_in; rw [if_pos c_2])
    exact wx_iret hx hb hr hlocks hP hS (by decide) ⟨e9.symm, rfl⟩ dX4_in_15
  · refine lv_iload_n hx hb dX4_in_5 rfl (lv_at hl 0 rfl) ?_
    refine lv_iload_n hx hb dX4_in_6 rfl (lv_at hl 2 rfl) ?_
    refine lv_icmp_gt (tgt := 14) hx hb dX4_in_7 (by decide) (fun c_7 => ?_) (fun c_7 => ?_)
    · refine lv_iconst (v := 0) hx hb dX4_in_14 (by decide) ?_
      have e9 : f_X4_in k M p1 p2 p3 = 0 := (by unfold f_X4_in; rw [if_neg c_2, if_pos c_7])
      exact wx_iret hx hb hr hlocks hP hS (by decide) ⟨e9.symm, rfl⟩ dX4_in_15
    · refine lv_iconst (v := 1) hx hb dX4_in_10 (by decide) ?_
      refine lv_goto (tgt := 15) hx hb dX4_in_11 (by decide) ?_
      have e9 : f_X4_in k M p1 p2 p3 = 1 := (by unfold f_X4_in; rw [if_neg c_2, if_neg c_7])
      exact wx_iret hx hb hr hlocks hP hS (by decide) ⟨e9.symm, rfl⟩ dX4_in_15
/-- by program, from the bytecode of RobotWorldModel.square -/
def f_X4_square (k : MK) (M : Mem) (p1 : Int32) (p2 : Int32) : Int32 :=
  ((32 * p2) + p1)
set_option maxHeartbeats 4000000 in
set_option maxRecDepth 100000 in
theorem c_X4_square (l : Launch) (k : MK) (M : Mem) (p1 : Int32) (p2 : Int32)  : Met l yX4_square wsX4_square (rmK 0 0) (wPc (mw k) M [.int p1, .int p2]) (wQi (mw k) (fun r u => r = (f_X4_square k M p1 p2) ∧ u = M)) 0 0 (wA (mw k)) := by
  refine wx_met (cc := cX4_square) (maxL := 2) (ret := (some .int)) (by decide) rfl (Nat.le_of_ble_eq_true rfl) ?_
  intro p e s m below meth c ls hx hb hr hml hts hown hlocks hP hK hD hZ hS hl
  have hown : s.vm.findClass RX4 = some m.cls := hown
  have hl : lv_has ls 2 [(0, .int p1), (1, .int p2)] := hl
  refine lv_bipush (v := 32) hx hb dX4_square_0 (by decide) ?_
  refine lv_iload_n hx hb dX4_square_2 rfl (lv_at hl 1 rfl) ?_
  refine lv_imul hx hb dX4_square_3 ?_
  refine lv_iload_n hx hb dX4_square_4 rfl (lv_at hl 0 rfl) ?_
  refine lv_iadd hx hb dX4_square_5 ?_
  have e9 : f_X4_square k M p1 p2 = ((32 * p2) + p1) := (by rw [f_X4_square])
  exact wx_iret hx hb hr hlocks hP hS rfl ⟨e9.symm, rfl⟩ dX4_square_6
/-- by program, from the bytecode of RobotWorldModel.besideX -/
def f_X4_besideX (k : MK) (M : Mem) (p1 : Int32) (p2 : Int32) : Int32 :=
  if p2 = 1 then
    (p1 + 1)
  else
    if p2 = 3 then
      (p1 - 1)
    else
      p1
set_option maxHeartbeats 4000000 in
set_option maxRecDepth 100000 in
theorem c_X4_besideX (l : Launch) (k : MK) (M : Mem) (p1 : Int32) (p2 : Int32)  : Met l yX4_besideX wsX4_besideX (rmK 0 0) (wPc (mw k) M [.int p1, .int p2]) (wQi (mw k) (fun r u => r = (f_X4_besideX k M p1 p2) ∧ u = M)) 0 0 (wA (mw k)) := by
  refine wx_met (cc := cX4_besideX) (maxL := 2) (ret := (some .int)) (by decide) rfl (Nat.le_of_ble_eq_true rfl) ?_
  intro p e s m below meth c ls hx hb hr hml hts hown hlocks hP hK hD hZ hS hl
  have hown : s.vm.findClass RX4 = some m.cls := hown
  have hl : lv_has ls 2 [(0, .int p1), (1, .int p2)] := hl
  refine lv_iload_n hx hb dX4_besideX_0 rfl (lv_at hl 1 rfl) ?_
  refine lv_iconst (v := 1) hx hb dX4_besideX_1 (by decide) ?_
  refine lv_icmp_ne (tgt := 11) hx hb dX4_besideX_2 (by decide) (fun c_2 => ?_) (fun c_2 => ?_)
  · refine lv_iload_n hx hb dX4_besideX_11 rfl (lv_at hl 1 rfl) ?_
    refine lv_iconst (v := 3) hx hb dX4_besideX_12 (by decide) ?_
    refine lv_icmp_ne (tgt := 22) hx hb dX4_besideX_13 (by decide) (fun c_13 => ?_) (fun c_13 => ?_)
    · refine lv_iload_n hx hb dX4_besideX_22 rfl (lv_at hl 0 rfl) ?_
      have e9 : f_X4_besideX k M p1 p2 = p1 := (by unfold f_X4_besideX; rw [if_neg c_2, if_neg c_13])
      exact wx_iret hx hb hr hlocks hP hS rfl ⟨e9.symm, rfl⟩ dX4_besideX_23
    · refine lv_iload_n hx hb dX4_besideX_16 rfl (lv_at hl 0 rfl) ?_
      refine lv_iconst (v := 1) hx hb dX4_besideX_17 (by decide) ?_
      refine lv_isub hx hb dX4_besideX_18 ?_
      refine lv_goto (tgt := 23) hx hb dX4_besideX_19 (by decide) ?_
      have e9 : f_X4_besideX k M p1 p2 = (p1 - 1) := (by unfold f_X4_besideX; rw [if_neg c_2, if_pos c_13])
      exact wx_iret hx hb hr hlocks hP hS rfl ⟨e9.symm, rfl⟩ dX4_besideX_23
  · refine lv_iload_n hx hb dX4_besideX_5 rfl (lv_at hl 0 rfl) ?_
    refine lv_iconst (v := 1) hx hb dX4_besideX_6 (by decide) ?_
    refine lv_iadd hx hb dX4_besideX_7 ?_
    refine lv_goto (tgt := 23) hx hb dX4_besideX_8 (by decide) ?_
    have e9 : f_X4_besideX k M p1 p2 = (p1 + 1) := (by unfold f_X4_besideX; rw [if_pos c_2])
    exact wx_iret hx hb hr hlocks hP hS rfl ⟨e9.symm, rfl⟩ dX4_besideX_23
/-- by program, from the bytecode of RobotWorldModel.besideY -/
def f_X4_besideY (k : MK) (M : Mem) (p1 : Int32) (p2 : Int32) : Int32 :=
  if p2 = 0 then
    (p1 - 1)
  else
    if p2 = 2 then
      (p1 + 1)
    else
      p1
set_option maxHeartbeats 4000000 in
set_option maxRecDepth 100000 in
theorem c_X4_besideY (l : Launch) (k : MK) (M : Mem) (p1 : Int32) (p2 : Int32)  : Met l yX4_besideY wsX4_besideY (rmK 0 0) (wPc (mw k) M [.int p1, .int p2]) (wQi (mw k) (fun r u => r = (f_X4_besideY k M p1 p2) ∧ u = M)) 0 0 (wA (mw k)) := by
  refine wx_met (cc := cX4_besideY) (maxL := 2) (ret := (some .int)) (by decide) rfl (Nat.le_of_ble_eq_true rfl) ?_
  intro p e s m below meth c ls hx hb hr hml hts hown hlocks hP hK hD hZ hS hl
  have hown : s.vm.findClass RX4 = some m.cls := hown
  have hl : lv_has ls 2 [(0, .int p1), (1, .int p2)] := hl
  refine lv_iload_n hx hb dX4_besideY_0 rfl (lv_at hl 1 rfl) ?_
  refine lv_if_ne (tgt := 10) hx hb dX4_besideY_1 (by decide) (fun c_1 => ?_) (fun c_1 => ?_)
  · refine lv_iload_n hx hb dX4_besideY_10 rfl (lv_at hl 1 rfl) ?_
    refine lv_iconst (v := 2) hx hb dX4_besideY_11 (by decide) ?_
    refine lv_icmp_ne (tgt := 21) hx hb dX4_besideY_12 (by decide) (fun c_12 => ?_) (fun c_12 => ?_)
    · refine lv_iload_n hx hb dX4_besideY_21 rfl (lv_at hl 0 rfl) ?_
      have e9 : f_X4_besideY k M p1 p2 = p1 := (by unfold f_X4_besideY; rw [if_neg c_1, if_neg c_12])
      exact wx_iret hx hb hr hlocks hP hS rfl ⟨e9.symm, rfl⟩ dX4_besideY_22
    · refine lv_iload_n hx hb dX4_besideY_15 rfl (lv_at hl 0 rfl) ?_
      refine lv_iconst (v := 1) hx hb dX4_besideY_16 (by decide) ?_
      refine lv_iadd hx hb dX4_besideY_17 ?_
      refine lv_goto (tgt := 22) hx hb dX4_besideY_18 (by decide) ?_
      have e9 : f_X4_besideY k M p1 p2 = (p1 + 1) := (by unfold f_X4_besideY; rw [if_neg c_1, if_pos c_12])
      exact wx_iret hx hb hr hlocks hP hS rfl ⟨e9.symm, rfl⟩ dX4_besideY_22
  · refine lv_iload_n hx hb dX4_besideY_4 rfl (lv_at hl 0 rfl) ?_
    refine lv_iconst (v := 1) hx hb dX4_besideY_5 (by decide) ?_
    refine lv_isub hx hb dX4_besideY_6 ?_
    refine lv_goto (tgt := 22) hx hb dX4_besideY_7 (by decide) ?_
    have e9 : f_X4_besideY k M p1 p2 = (p1 - 1) := (by unfold f_X4_besideY; rw [if_pos c_1])
    exact wx_iret hx hb hr hlocks hP hS rfl ⟨e9.symm, rfl⟩ dX4_besideY_22
/-- by program: the loop at 31 of RobotWorldModel.init_ -/
def f_X4_init__L31 (k : MK)  : Nat → Int32 → Mem → Mem
  | 0, _, M => M
  | n + 1, x, M =>
    if 8 ≤ x then
      M
    else
      f_X4_init__L31 k n (x + 1) (mu M 0 3 x.toNatClampNeg 0)
set_option maxHeartbeats 4000000 in
set_option maxRecDepth 100000 in
theorem lp_X4_init__L31 {p : Program} {l : Launch} {e : Env} {s : State} {m : MethodId} {args : Array Value} {below : List Frame} {meth : Method} {c : Code} {Q : State → Prop} (k : MK)   (hx : p.tables.exec = Jvm.exec) (hb : c.code = cX4_init_) (hr : meth.sig.returnType = none) (hml : c.maxLocals = 2) (hts : ∀ x ∈ wsX4_init_, x.before args s = true) (hown : s.vm.findClass RX4 = some m.cls) (hlocks : meth.locks = false) (hK : va_K (wD (mw k)) vwCl (wT (mw k)) s) {M0 : Mem} (hD : va_D (wA (mw k)) (wW (mw k) M0)) (hZ : wZ (mw k) (wA (mw k)) s s.heap)  : ∀ (n : Nat) (x : Int32) (M : Mem) (H : Heap) (locs : List Loc) (ls : Array Slot), lpI 8 n x → wP (mw k) M H → va_S (wA (mw k)) s.heap H locs → lv_has ls 2 [(1, .int x), (0, .ref (k.1 0 0))] → (∀ (H : Heap) (locs : List Loc) (ls : Array Slot), wP (mw k) (f_X4_init__L31 k n x M) H → va_S (wA (mw k)) s.heap H locs → lv_has ls 2 [(0, .ref (k.1 0 0))] → W p l e (rmK 0 0) s m args below meth c H locs 0 0 Q (F0 m 50 ls [])) → W p l e (rmK 0 0) s m args below meth c H locs 0 0 Q (F0 m 31 ls []) := by
  have hiX4 : ∀ x ∈ u_ws RX4 TX4 22, x ∈ wsX4_init_ := by decide +kernel
  have hf17 := hts (.fieldLink RX4 17 "RobotWorldModel" "state" "[I") (by decide +kernel)
  intro n
  induction n with
  | zero =>
    intro x M H locs ls hinv
    exact absurd hinv (lpI_z)
  | succ n ih =>
    intro x M H locs ls hinv hP hS hl kk
    refine lv_iload_n hx hb dX4_init__31 rfl (lv_at hl 0 rfl) ?_
    refine lv_bipush (v := 8) hx hb dX4_init__32 (by decide) ?_
    refine lv_icmp_ge (tgt := 50) hx hb dX4_init__34 (by decide) (fun c_34 => ?_) (fun c_34 => ?_)
    · have e9 : f_X4_init__L31 k (n + 1) x M = M := (by rw [f_X4_init__L31]; rw [if_pos c_34])
      rw [e9] at kk
      exact kk _ _ ls hP hS (lv_sub hl [1] rfl)
    · refine lv_aload_n hx hb dX4_init__37 rfl (lv_at hl 1 rfl) ?_
      refine wx_get (w := (mw k)) (g := 0) (j := 0) hx hb hts hiX4 hown hK hP (mIx_0 (by decide)) rfl rfl 7 (by decide) hf17 rfl dX4_init__38 ?_
      refine lv_iload_n hx hb dX4_init__41 rfl (lv_at hl 0 rfl) ?_
      refine lv_iconst (v := 0) hx hb dX4_init__42 (by decide) ?_
      refine wx_iast (w := (mw k)) (g := 0) (j := 3) hx hb hK hP hD hS (mIx_0 (by decide)) 0 (fun _ => rfl) rfl (lpI_in hinv c_34 (by decide)) dX4_init__43 (fun H locs hP hS => ?_)
      refine lv_iinc (v := (x + 1)) (lv' := [(1, .int (x + 1)), (0, .ref (k.1 0 0))]) hx hb dX4_init__44 hl (k := 0) rfl rfl (by decide) rfl (fun ls hl => ?_)
      refine lv_goto (tgt := 31) hx hb dX4_init__47 (by decide) ?_
      have e9 : f_X4_init__L31 k (n + 1) x M = f_X4_init__L31 k n (x + 1) (mu M 0 3 x.toNatClampNeg 0) := (by rw [f_X4_init__L31]; rw [if_neg c_34])
      exact ih (x + 1) (mu M 0 3 x.toNatClampNeg 0) _ _ ls (lpI_s hinv c_34 (by decide))  hP hS (lv_sub hl [0, 1] rfl) (by rw [e9] at kk; exact kk)
/-- by program: the loop at 2 of RobotWorldModel.init_ -/
def f_X4_init__L2 (k : MK)  : Nat → Int32 → Mem → Mem
  | 0, _, M => M
  | n + 1, x, M =>
    if 1024 ≤ x then
      M
    else
      f_X4_init__L2 k n (x + 1) (mu (mu M 0 1 x.toNatClampNeg (vp_nar .boolean 0)) 0 2 x.toNatClampNeg 0)
set_option maxHeartbeats 4000000 in
set_option maxRecDepth 100000 in
theorem lp_X4_init__L2 {p : Program} {l : Launch} {e : Env} {s : State} {m : MethodId} {args : Array Value} {below : List Frame} {meth : Method} {c : Code} {Q : State → Prop} (k : MK)   (hx : p.tables.exec = Jvm.exec) (hb : c.code = cX4_init_) (hr : meth.sig.returnType = none) (hml : c.maxLocals = 2) (hts : ∀ x ∈ wsX4_init_, x.before args s = true) (hown : s.vm.findClass RX4 = some m.cls) (hlocks : meth.locks = false) (hK : va_K (wD (mw k)) vwCl (wT (mw k)) s) {M0 : Mem} (hD : va_D (wA (mw k)) (wW (mw k) M0)) (hZ : wZ (mw k) (wA (mw k)) s s.heap)  : ∀ (n : Nat) (x : Int32) (M : Mem) (H : Heap) (locs : List Loc) (ls : Array Slot), lpI 1024 n x → wP (mw k) M H → va_S (wA (mw k)) s.heap H locs → lv_has ls 2 [(1, .int x), (0, .ref (k.1 0 0))] → (∀ (H : Heap) (locs : List Loc) (ls : Array Slot), wP (mw k) (f_X4_init__L2 k n x M) H → va_S (wA (mw k)) s.heap H locs → lv_has ls 2 [(0, .ref (k.1 0 0))] → W p l e (rmK 0 0) s m args below meth c H locs 0 0 Q (F0 m 29 ls [])) → W p l e (rmK 0 0) s m args below meth c H locs 0 0 Q (F0 m 2 ls []) := by
  have hiX4 : ∀ x ∈ u_ws RX4 TX4 22, x ∈ wsX4_init_ := by decide +kernel
  have hf13 := hts (.fieldLink RX4 13 "RobotWorldModel" "items" "[I") (by decide +kernel)
  have hf7 := hts (.fieldLink RX4 7 "RobotWorldModel" "isWall" "[Z") (by decide +kernel)
  intro n
  induction n with
  | zero =>
    intro x M H locs ls hinv
    exact absurd hinv (lpI_z)
  | succ n ih =>
    intro x M H locs ls hinv hP hS hl kk
    refine lv_iload_n hx hb dX4_init__2 rfl (lv_at hl 0 rfl) ?_
    refine lv_sipush (v := 1024) hx hb dX4_init__3 (by decide) ?_
    refine lv_icmp_ge (tgt := 29) hx hb dX4_init__6 (by decide) (fun c_6 => ?_) (fun c_6 => ?_)
    · have e9 : f_X4_init__L2 k (n + 1) x M = M := (by rw [f_X4_init__L2]; rw [if_pos c_6])
      rw [e9] at kk
      exact kk _ _ ls hP hS (lv_sub hl [1] rfl)
    · refine lv_aload_n hx hb dX4_init__9 rfl (lv_at hl 1 rfl) ?_
      refine wx_get (w := (mw k)) (g := 0) (j := 0) hx hb hts hiX4 hown hK hP (mIx_0 (by decide)) rfl rfl 5 (by decide) hf7 rfl dX4_init__10 ?_
      refine lv_iload_n hx hb dX4_init__13 rfl (lv_at hl 0 rfl) ?_
      refine lv_iconst (v := 0) hx hb dX4_init__14 (by decide) ?_
      refine wx_zast (w := (mw k)) (g := 0) (j := 1) hx hb hK hP hD hS (mIx_0 (by decide)) 1 (fun _ => rfl) rfl (lpI_in hinv c_6 (by decide)) dX4_init__15 (fun H locs hP hS => ?_)
      refine lv_aload_n hx hb dX4_init__16 rfl (lv_at hl 1 rfl) ?_
      refine wx_get (w := (mw k)) (g := 0) (j := 0) hx hb hts hiX4 hown hK hP (mIx_0 (by decide)) rfl rfl 6 (by decide) hf13 rfl dX4_init__17 ?_
      refine lv_iload_n hx hb dX4_init__20 rfl (lv_at hl 0 rfl) ?_
      refine lv_iconst (v := 0) hx hb dX4_init__21 (by decide) ?_
      refine wx_iast (w := (mw k)) (g := 0) (j := 2) hx hb hK hP hD hS (mIx_0 (by decide)) 0 (fun _ => rfl) rfl (lpI_in hinv c_6 (by decide)) dX4_init__22 (fun H locs hP hS => ?_)
      refine lv_iinc (v := (x + 1)) (lv' := [(1, .int (x + 1)), (0, .ref (k.1 0 0))]) hx hb dX4_init__23 hl (k := 0) rfl rfl (by decide) rfl (fun ls hl => ?_)
      refine lv_goto (tgt := 2) hx hb dX4_init__26 (by decide) ?_
      have e9 : f_X4_init__L2 k (n + 1) x M = f_X4_init__L2 k n (x + 1) (mu (mu M 0 1 x.toNatClampNeg (vp_nar .boolean 0)) 0 2 x.toNatClampNeg 0) := (by rw [f_X4_init__L2]; rw [if_neg c_6])
      exact ih (x + 1) (mu (mu M 0 1 x.toNatClampNeg (vp_nar .boolean 0)) 0 2 x.toNatClampNeg 0) _ _ ls (lpI_s hinv c_6 (by decide))  hP hS (lv_sub hl [0, 1] rfl) (by rw [e9] at kk; exact kk)
/-- by program, from the bytecode of RobotWorldModel.init_ -/
def f_X4_init_ (k : MK) (M : Mem)  : Mem :=
  (mu (mu (f_X4_init__L31 k (k.2.1 5) 0 (f_X4_init__L2 k (k.2.1 5) 0 M)) 0 0 19 (((f_X4_init__L31 k (k.2.1 5) 0 (f_X4_init__L2 k (k.2.1 5) 0 M)) 0 0 2) - 1)) 0 0 20 0)
set_option maxHeartbeats 4000000 in
set_option maxRecDepth 100000 in
theorem c_X4_init_ (l : Launch) (k : MK) (M : Mem)  (hF : k.2.1 5 = 1026) : Met l yX4_init_ wsX4_init_ (rmK 0 0) (wPc (mw k) M [.ref (k.1 0 0)]) (wQv (mw k) (fun u => u = f_X4_init_ k M)) 0 0 (wA (mw k)) := by
  refine wx_met (cc := cX4_init_) (maxL := 2) (ret := none) (by decide) rfl (Nat.le_of_ble_eq_true rfl) ?_
  intro p e s m below meth c ls hx hb hr hml hts hown hlocks hP hK hD hZ hS hl
  have hown : s.vm.findClass RX4 = some m.cls := hown
  have hl : lv_has ls 2 [(0, .ref (k.1 0 0))] := hl
  have hiX4 : ∀ x ∈ u_ws RX4 TX4 22, x ∈ wsX4_init_ := by decide +kernel
  have hf67 := hts (.fieldLink RX4 67 "RobotWorldModel" "most" "I") (by decide +kernel)
  have hf79 := hts (.fieldLink RX4 79 "RobotWorldModel" "last" "I") (by decide +kernel)
  have hf82 := hts (.fieldLink RX4 82 "RobotWorldModel" "clock" "I") (by decide +kernel)
  refine lv_iconst (v := 0) hx hb dX4_init__0 (by decide) ?_
  refine lv_istore_n (lv' := [(1, .int 0), (0, .ref (k.1 0 0))]) hx hb dX4_init__1 rfl hl (by decide) rfl (fun ls hl => ?_)
  refine lp_X4_init__L2 k hx hb hr hml hts hown hlocks hK hD hZ (k.2.1 5) 0 M _ _ ls (lpF hF (by decide)) hP hS (lv_sub hl [0, 1] rfl) (fun H locs ls hP hS hl => ?_)
  refine lv_iconst (v := 0) hx hb dX4_init__29 (by decide) ?_
  refine lv_istore_n (lv' := [(1, .int 0), (0, .ref (k.1 0 0))]) hx hb dX4_init__30 rfl hl (by decide) rfl (fun ls hl => ?_)
  refine lp_X4_init__L31 k hx hb hr hml hts hown hlocks hK hD hZ (k.2.1 5) 0 (f_X4_init__L2 k (k.2.1 5) 0 M) _ _ ls (lpF hF (by decide)) hP hS (lv_sub hl [0, 1] rfl) (fun H locs ls hP hS hl => ?_)
  refine lv_aload_n hx hb dX4_init__50 rfl (lv_at hl 0 rfl) ?_
  refine lv_aload_n hx hb dX4_init__51 rfl (lv_at hl 0 rfl) ?_
  refine wx_get (w := (mw k)) (g := 0) (j := 0) hx hb hts hiX4 hown hK hP (mIx_0 (by decide)) rfl rfl 2 (by decide) hf67 rfl dX4_init__52 ?_
  refine lv_iconst (v := 1) hx hb dX4_init__55 (by decide) ?_
  refine lv_isub hx hb dX4_init__56 ?_
  refine wx_put (w := (mw k)) (g := 0) (j := 0) hx hb hts hiX4 tyX4 tyX4_ok nmX4 hown hK hP hD hS (mIx_0 (by decide)) rfl rfl 19 (by decide) hf79 rfl (by decide +kernel) rfl (Nat.le_of_ble_eq_true rfl) dX4_init__57 (fun H locs hP hS => ?_)
  refine lv_aload_n hx hb dX4_init__60 rfl (lv_at hl 0 rfl) ?_
  refine lv_iconst (v := 0) hx hb dX4_init__61 (by decide) ?_
  refine wx_put (w := (mw k)) (g := 0) (j := 0) hx hb hts hiX4 tyX4 tyX4_ok nmX4 hown hK hP hD hS (mIx_0 (by decide)) rfl rfl 20 (by decide) hf82 rfl (by decide +kernel) rfl (Nat.le_of_ble_eq_true rfl) dX4_init__62 (fun H locs hP hS => ?_)
  have e9 : f_X4_init_ k M = (mu (mu (f_X4_init__L31 k (k.2.1 5) 0 (f_X4_init__L2 k (k.2.1 5) 0 M)) 0 0 19 (((f_X4_init__L31 k (k.2.1 5) 0 (f_X4_init__L2 k (k.2.1 5) 0 M)) 0 0 2) - 1)) 0 0 20 0) := (by rw [f_X4_init_])
  exact wx_vret hx hb hr hlocks hP hS e9.symm dX4_init__65
/-- by program, from the bytecode of RobotWorldModel.isInside -/
def f_X4_isInside (k : MK) (M : Mem) (p1 : Int32) (p2 : Int32) : Int32 :=
  if (f_X4_in k M p1 0 ((M 0 0 0) - 1)) = 0 then
    0
  else
    if (f_X4_in k M p2 0 ((M 0 0 1) - 1)) = 0 then
      0
    else
      1
set_option maxHeartbeats 4000000 in
set_option maxRecDepth 100000 in
theorem c_X4_isInside (l : Launch) (k : MK) (M : Mem) (p1 : Int32) (p2 : Int32)  : Met l yX4_isInside wsX4_isInside (rmK 1 22) (wPc (mw k) M [.ref (k.1 0 0), .int p1, .int p2]) (wQi (mw k) (fun r u => r = (f_X4_isInside k M p1 p2) ∧ u = M)) 0 0 (wA (mw k)) := by
  refine wx_met (cc := cX4_isInside) (maxL := 3) (ret := (some .boolean)) (by decide) rfl (Nat.le_of_ble_eq_true rfl) ?_
  intro p e s m below meth c ls hx hb hr hml hts hown hlocks hP hK hD hZ hS hl
  have hown : s.vm.findClass RX4 = some m.cls := hown
  have hl : lv_has ls 3 [(0, .ref (k.1 0 0)), (1, .int p1), (2, .int p2)] := hl
  have hiX4 : ∀ x ∈ u_ws RX4 TX4 22, x ∈ wsX4_isInside := by decide +kernel
  have hf60 := hts (.fieldLink RX4 60 "RobotWorldModel" "width" "I") (by decide +kernel)
  have hf64 := hts (.fieldLink RX4 64 "RobotWorldModel" "height" "I") (by decide +kernel)
  refine lv_iload_n hx hb dX4_isInside_0 rfl (lv_at hl 1 rfl) ?_
  refine lv_iconst (v := 0) hx hb dX4_isInside_1 (by decide) ?_
  refine lv_aload_n hx hb dX4_isInside_2 rfl (lv_at hl 0 rfl) ?_
  refine wx_get (w := (mw k)) (g := 0) (j := 0) hx hb hts hiX4 hown hK hP (mIx_0 (by decide)) rfl rfl 0 (by decide) hf60 rfl dX4_isInside_3 ?_
  refine lv_iconst (v := 1) hx hb dX4_isInside_6 (by decide) ?_
  refine lv_isub hx hb dX4_isInside_7 ?_
  refine wx_Si (w := (mw k)) (f_X4_in k M p1 0 ((M 0 0 0) - 1)) M [.int p1, .int 0, .int ((M 0 0 0) - 1)] [] (mZok k) ⟨hx, hb, hml, hown, hts⟩ (c_X4_in l k M p1 0 ((M 0 0 0) - 1) ) (va_cwS 3 hts gX4_isInside_X4_in rfl rfl rfl (by decide +kernel) ⟨by decide, by decide⟩) hP hK hD hZ hS rfl hl.1 rfl (Nat.le_of_ble_eq_true rfl) dX4_isInside_8 ⟨by decide, by decide⟩ (fun H locs hP hS => ?_)
  refine lv_if_eq (tgt := 32) hx hb dX4_isInside_11 (by decide) (fun c_11 => ?_) (fun c_11 => ?_)
  · refine lv_iconst (v := 0) hx hb dX4_isInside_32 (by decide) ?_
    have e9 : f_X4_isInside k M p1 p2 = 0 := (by unfold f_X4_isInside; rw [if_pos c_11])
    exact wx_iret hx hb hr hlocks hP hS (by decide) ⟨e9.symm, rfl⟩ dX4_isInside_33
  · refine lv_iload_n hx hb dX4_isInside_14 rfl (lv_at hl 2 rfl) ?_
    refine lv_iconst (v := 0) hx hb dX4_isInside_15 (by decide) ?_
    refine lv_aload_n hx hb dX4_isInside_16 rfl (lv_at hl 0 rfl) ?_
    refine wx_get (w := (mw k)) (g := 0) (j := 0) hx hb hts hiX4 hown hK hP (mIx_0 (by decide)) rfl rfl 1 (by decide) hf64 rfl dX4_isInside_17 ?_
    refine lv_iconst (v := 1) hx hb dX4_isInside_20 (by decide) ?_
    refine lv_isub hx hb dX4_isInside_21 ?_
    refine wx_Si (w := (mw k)) (f_X4_in k M p2 0 ((M 0 0 1) - 1)) M [.int p2, .int 0, .int ((M 0 0 1) - 1)] [] (mZok k) ⟨hx, hb, hml, hown, hts⟩ (c_X4_in l k M p2 0 ((M 0 0 1) - 1) ) (va_cwS 3 hts gX4_isInside_X4_in rfl rfl rfl (by decide +kernel) ⟨by decide, by decide⟩) hP hK hD hZ hS rfl hl.1 rfl (Nat.le_of_ble_eq_true rfl) dX4_isInside_22 ⟨by decide, by decide⟩ (fun H locs hP hS => ?_)
    refine lv_if_eq (tgt := 32) hx hb dX4_isInside_25 (by decide) (fun c_25 => ?_) (fun c_25 => ?_)
    · refine lv_iconst (v := 0) hx hb dX4_isInside_32 (by decide) ?_
      have e9 : f_X4_isInside k M p1 p2 = 0 := (by unfold f_X4_isInside; rw [if_neg c_11, if_pos c_25])
      exact wx_iret hx hb hr hlocks hP hS (by decide) ⟨e9.symm, rfl⟩ dX4_isInside_33
    · refine lv_iconst (v := 1) hx hb dX4_isInside_28 (by decide) ?_
      refine lv_goto (tgt := 33) hx hb dX4_isInside_29 (by decide) ?_
      have e9 : f_X4_isInside k M p1 p2 = 1 := (by unfold f_X4_isInside; rw [if_neg c_11, if_neg c_25])
      exact wx_iret hx hb hr hlocks hP hS (by decide) ⟨e9.symm, rfl⟩ dX4_isInside_33
theorem m_ins {k : MK} {M : Mem} {x y : Int32} (hI : mI k M) (h : ¬ f_X4_isInside k M x y = 0) : vp_in x (k.2.1 1) ∧ vp_in y (k.2.1 2) := by
  obtain ⟨⟨e0, e1, e2, e3, e4⟩, ⟨b1, b2, b3, b4, b5, b6, -⟩, -⟩ := hI
  unfold f_X4_isInside f_X4_in at h
  rw [e0, e1] at h
  by_cases c1 : x < 0
  · simp [c1] at h
  by_cases c2 : nI (k.2.1 1) - 1 < x
  · simp [c1, c2] at h
  by_cases c3 : y < 0
  · simp [c1, c2, c3] at h
  by_cases c4 : nI (k.2.1 2) - 1 < y
  · simp [c1, c2, c3, c4] at h
  exact ⟨in_le c1 c2 b1 (by omega), in_le c3 c4 b3 (by omega)⟩
theorem m_sqv {k : MK} {M M' : Mem} {x y : Int32} (hI : mI k M) (hx : vp_in x (k.2.1 1)) (hy : vp_in y (k.2.1 2)) : vp_in (f_X4_square k M' x y) 1024 := by
  obtain ⟨-, ⟨b1, b2, b3, b4, b5, b6, -⟩, -⟩ := hI
  obtain ⟨a, ha, rfl⟩ := vp_in_of hx (by omega)
  obtain ⟨b, hb, rfl⟩ := vp_in_of hy (by omega)
  unfold f_X4_square
  rw [show (32 : Int32) = nI 32 from rfl, pk_mul, nI_add]
  exact vp_in_nI (by omega) (by omega)
theorem m_sq {k : MK} {M M' : Mem} {x y : Int32} (hI : mI k M) (h : ¬ f_X4_isInside k M x y = 0) : vp_in (f_X4_square k M' x y) 1024 := m_sqv hI (m_ins hI h).1 (m_ins hI h).2
/-- by program: the loop at 2 of RobotWorldModel.robotAt -/
def f_X4_robotAt_L2 (k : MK) (p1 : Int32) (p2 : Int32) : Nat → Int32 → Mem → Int32
  | 0, _, M => 0
  | n + 1, x, M =>
    if (M 0 0 2) ≤ x then
      (-1)
    else
      if (M 0 3 x.toNatClampNeg) ≤ 0 then
        f_X4_robotAt_L2 k p1 p2 n (x + 1) M
      else
        if (M 0 4 x.toNatClampNeg) = p1 then
          if (M 0 5 x.toNatClampNeg) = p2 then
            x
          else
            f_X4_robotAt_L2 k p1 p2 n (x + 1) M
        else
          f_X4_robotAt_L2 k p1 p2 n (x + 1) M
set_option maxHeartbeats 4000000 in
set_option maxRecDepth 100000 in
theorem lp_X4_robotAt_L2 {p : Program} {l : Launch} {e : Env} {s : State} {m : MethodId} {args : Array Value} {below : List Frame} {meth : Method} {c : Code} (k : MK) (p1 : Int32) (p2 : Int32)  (hx : p.tables.exec = Jvm.exec) (hb : c.code = cX4_robotAt) (hr : meth.sig.returnType = (some .int)) (hml : c.maxLocals = 4) (hts : ∀ x ∈ wsX4_robotAt, x.before args s = true) (hown : s.vm.findClass RX4 = some m.cls) (hlocks : meth.locks = false) (hK : va_K (wD (mw k)) vwCl (wT (mw k)) s) {M0 : Mem} (hD : va_D (wA (mw k)) (wW (mw k) M0)) (hZ : wZ (mw k) (wA (mw k)) s s.heap)  : ∀ (n : Nat) (x : Int32) (M : Mem) (H : Heap) (locs : List Loc) (ls : Array Slot), mI k M ∧ lpI (k.2.1 0) n x → wP (mw k) M H → va_S (wA (mw k)) s.heap H locs → lv_has ls 4 [(3, .int x), (0, .ref (k.1 0 0)), (1, .int p1), (2, .int p2)] → ∀ (post : Int32 → Mem → Prop), post (f_X4_robotAt_L2 k p1 p2 n x M) M → W p l e (rmK 0 0) s m args below meth c H locs 0 0 (MQ below (wQi (mw k) post) args s 0 0 (wA (mw k))) (F0 m 2 ls []) := by
  have hiX4 : ∀ x ∈ u_ws RX4 TX4 22, x ∈ wsX4_robotAt := by decide +kernel
  have hf17 := hts (.fieldLink RX4 17 "RobotWorldModel" "state" "[I") (by decide +kernel)
  have hf20 := hts (.fieldLink RX4 20 "RobotWorldModel" "xs" "[I") (by decide +kernel)
  have hf23 := hts (.fieldLink RX4 23 "RobotWorldModel" "ys" "[I") (by decide +kernel)
  have hf67 := hts (.fieldLink RX4 67 "RobotWorldModel" "most" "I") (by decide +kernel)
  intro n
  induction n with
  | zero =>
    intro x M H locs ls hinv
    exact absurd hinv (fun h => lpI_z h.2)
  | succ n ih =>
    intro x M H locs ls hinv hP hS hl post hpo
    refine lv_iload_n hx hb dX4_robotAt_2 rfl (lv_at hl 0 rfl) ?_
    refine lv_aload_n hx hb dX4_robotAt_3 rfl (lv_at hl 1 rfl) ?_
    refine wx_get (w := (mw k)) (g := 0) (j := 0) hx hb hts hiX4 hown hK hP (mIx_0 (by decide)) rfl rfl 2 (by decide) hf67 rfl dX4_robotAt_4 ?_
    refine lv_icmp_ge (tgt := 47) hx hb dX4_robotAt_7 (by decide) (fun c_7 => ?_) (fun c_7 => ?_)
    · refine lv_iconst (v := (-1)) hx hb dX4_robotAt_47 (by decide) ?_
      have e9 : f_X4_robotAt_L2 k p1 p2 (n + 1) x M = (-1) := (by rw [f_X4_robotAt_L2]; rw [if_pos c_7])
      exact wx_iret hx hb hr hlocks hP hS rfl (by rw [e9] at hpo; exact hpo) dX4_robotAt_48
    · refine lv_aload_n hx hb dX4_robotAt_10 rfl (lv_at hl 1 rfl) ?_
      refine wx_get (w := (mw k)) (g := 0) (j := 0) hx hb hts hiX4 hown hK hP (mIx_0 (by decide)) rfl rfl 7 (by decide) hf17 rfl dX4_robotAt_11 ?_
      refine lv_iload_n hx hb dX4_robotAt_14 rfl (lv_at hl 0 rfl) ?_
      refine wx_iald (w := (mw k)) (g := 0) (j := 3) hx hb hK hP (mIx_0 (by decide)) 0 rfl rfl (m8 hinv.1 (mlp_in hinv c_7)) dX4_robotAt_15 ?_
      refine lv_if_le (tgt := 41) hx hb dX4_robotAt_16 (by decide) (fun c_16 => ?_) (fun c_16 => ?_)
      · refine lv_iinc (v := (x + 1)) (lv' := [(3, .int (x + 1)), (0, .ref (k.1 0 0)), (1, .int p1), (2, .int p2)]) hx hb dX4_robotAt_41 hl (k := 0) rfl rfl (by decide) rfl (fun ls hl => ?_)
        refine lv_goto (tgt := 2) hx hb dX4_robotAt_44 (by decide) ?_
        have e9 : f_X4_robotAt_L2 k p1 p2 (n + 1) x M = f_X4_robotAt_L2 k p1 p2 n (x + 1) M := (by rw [f_X4_robotAt_L2]; rw [if_neg c_7, if_pos c_16])
        exact ih (x + 1) M _ _ ls (⟨hinv.1, mlp_s hinv c_7⟩)  hP hS (lv_sub hl [0, 1, 2, 3] rfl) _ (by rw [e9] at hpo; exact hpo)
      · refine lv_aload_n hx hb dX4_robotAt_19 rfl (lv_at hl 1 rfl) ?_
        refine wx_get (w := (mw k)) (g := 0) (j := 0) hx hb hts hiX4 hown hK hP (mIx_0 (by decide)) rfl rfl 8 (by decide) hf20 rfl dX4_robotAt_20 ?_
        refine lv_iload_n hx hb dX4_robotAt_23 rfl (lv_at hl 0 rfl) ?_
        refine wx_iald (w := (mw k)) (g := 0) (j := 4) hx hb hK hP (mIx_0 (by decide)) 0 rfl rfl (m8 hinv.1 (mlp_in hinv c_7)) dX4_robotAt_24 ?_
        refine lv_iload_n hx hb dX4_robotAt_25 rfl (lv_at hl 2 rfl) ?_
        refine lv_icmp_ne (tgt := 41) hx hb dX4_robotAt_26 (by decide) (fun c_26 => ?_) (fun c_26 => ?_)
        · refine lv_iinc (v := (x + 1)) (lv' := [(3, .int (x + 1)), (0, .ref (k.1 0 0)), (1, .int p1), (2, .int p2)]) hx hb dX4_robotAt_41 hl (k := 0) rfl rfl (by decide) rfl (fun ls hl => ?_)
          refine lv_goto (tgt := 2) hx hb dX4_robotAt_44 (by decide) ?_
          have e9 : f_X4_robotAt_L2 k p1 p2 (n + 1) x M = f_X4_robotAt_L2 k p1 p2 n (x + 1) M := (by rw [f_X4_robotAt_L2]; rw [if_neg c_7, if_neg c_16, if_neg c_26])
          exact ih (x + 1) M _ _ ls (⟨hinv.1, mlp_s hinv c_7⟩)  hP hS (lv_sub hl [0, 1, 2, 3] rfl) _ (by rw [e9] at hpo; exact hpo)
        · refine lv_aload_n hx hb dX4_robotAt_29 rfl (lv_at hl 1 rfl) ?_
          refine wx_get (w := (mw k)) (g := 0) (j := 0) hx hb hts hiX4 hown hK hP (mIx_0 (by decide)) rfl rfl 9 (by decide) hf23 rfl dX4_robotAt_30 ?_
          refine lv_iload_n hx hb dX4_robotAt_33 rfl (lv_at hl 0 rfl) ?_
          refine wx_iald (w := (mw k)) (g := 0) (j := 5) hx hb hK hP (mIx_0 (by decide)) 0 rfl rfl (m8 hinv.1 (mlp_in hinv c_7)) dX4_robotAt_34 ?_
          refine lv_iload_n hx hb dX4_robotAt_35 rfl (lv_at hl 3 rfl) ?_
          refine lv_icmp_ne (tgt := 41) hx hb dX4_robotAt_36 (by decide) (fun c_36 => ?_) (fun c_36 => ?_)
          · refine lv_iinc (v := (x + 1)) (lv' := [(3, .int (x + 1)), (0, .ref (k.1 0 0)), (1, .int p1), (2, .int p2)]) hx hb dX4_robotAt_41 hl (k := 0) rfl rfl (by decide) rfl (fun ls hl => ?_)
            refine lv_goto (tgt := 2) hx hb dX4_robotAt_44 (by decide) ?_
            have e9 : f_X4_robotAt_L2 k p1 p2 (n + 1) x M = f_X4_robotAt_L2 k p1 p2 n (x + 1) M := (by rw [f_X4_robotAt_L2]; rw [if_neg c_7, if_neg c_16, if_pos c_26, if_neg c_36])
            exact ih (x + 1) M _ _ ls (⟨hinv.1, mlp_s hinv c_7⟩)  hP hS (lv_sub hl [0, 1, 2, 3] rfl) _ (by rw [e9] at hpo; exact hpo)
          · refine lv_iload_n hx hb dX4_robotAt_39 rfl (lv_at hl 0 rfl) ?_
            have e9 : f_X4_robotAt_L2 k p1 p2 (n + 1) x M = x := (by rw [f_X4_robotAt_L2]; rw [if_neg c_7, if_neg c_16, if_pos c_26, if_pos c_36])
            exact wx_iret hx hb hr hlocks hP hS rfl (by rw [e9] at hpo; exact hpo) dX4_robotAt_40
/-- by program, from the bytecode of RobotWorldModel.robotAt -/
def f_X4_robotAt (k : MK) (M : Mem) (p1 : Int32) (p2 : Int32) : Int32 :=
  f_X4_robotAt_L2 k p1 p2 (k.2.1 0 + 1) 0 M
set_option maxHeartbeats 4000000 in
set_option maxRecDepth 100000 in
theorem c_X4_robotAt (l : Launch) (k : MK) (M : Mem) (p1 : Int32) (p2 : Int32) (hI : mI k M) : Met l yX4_robotAt wsX4_robotAt (rmK 0 0) (wPc (mw k) M [.ref (k.1 0 0), .int p1, .int p2]) (wQi (mw k) (fun r u => r = (f_X4_robotAt k M p1 p2) ∧ u = M)) 0 0 (wA (mw k)) := by
  refine wx_met (cc := cX4_robotAt) (maxL := 4) (ret := (some .int)) (by decide) rfl (Nat.le_of_ble_eq_true rfl) ?_
  intro p e s m below meth c ls hx hb hr hml hts hown hlocks hP hK hD hZ hS hl
  have hown : s.vm.findClass RX4 = some m.cls := hown
  have hl : lv_has ls 4 [(0, .ref (k.1 0 0)), (1, .int p1), (2, .int p2)] := hl
  refine lv_iconst (v := 0) hx hb dX4_robotAt_0 (by decide) ?_
  refine lv_istore_n (lv' := [(3, .int 0), (0, .ref (k.1 0 0)), (1, .int p1), (2, .int p2)]) hx hb dX4_robotAt_1 rfl hl (by decide) rfl (fun ls hl => ?_)
  have e9 : f_X4_robotAt k M p1 p2 = f_X4_robotAt_L2 k p1 p2 (k.2.1 0 + 1) 0 M := (by rw [f_X4_robotAt])
  exact lp_X4_robotAt_L2 k p1 p2 hx hb hr hml hts hown hlocks hK hD hZ (k.2.1 0 + 1) 0 M _ _ ls (⟨hI, lpI_i _⟩) hP hS (lv_sub hl [0, 1, 2, 3] rfl) _ ⟨e9.symm, rfl⟩
/-- by program, from the bytecode of RobotWorldModel.setWall -/
def f_X4_setWall (k : MK) (M : Mem) (p1 : Int32) (p2 : Int32) (p3 : Int32) : Int32 × Mem :=
  if (f_X4_isInside k M p1 p2) = 0 then
    (0, M)
  else
    if (f_X4_robotAt k M p1 p2) < 0 then
      if p3 = 0 then
        (1, (mu (mu M 0 1 (f_X4_square k M p1 p2).toNatClampNeg (vp_nar .boolean p3)) 0 2 (f_X4_square k (mu M 0 1 (f_X4_square k M p1 p2).toNatClampNeg (vp_nar .boolean p3)) p1 p2).toNatClampNeg ((mu M 0 1 (f_X4_square k M p1 p2).toNatClampNeg (vp_nar .boolean p3)) 0 2 (f_X4_square k (mu M 0 1 (f_X4_square k M p1 p2).toNatClampNeg (vp_nar .boolean p3)) p1 p2).toNatClampNeg)))
      else
        (1, (mu (mu M 0 1 (f_X4_square k M p1 p2).toNatClampNeg (vp_nar .boolean p3)) 0 2 (f_X4_square k (mu M 0 1 (f_X4_square k M p1 p2).toNatClampNeg (vp_nar .boolean p3)) p1 p2).toNatClampNeg 0))
    else
      (0, M)
set_option maxHeartbeats 4000000 in
set_option maxRecDepth 100000 in
theorem c_X4_setWall (l : Launch) (k : MK) (M : Mem) (p1 : Int32) (p2 : Int32) (p3 : Int32) (hI : mI k M) : Met l yX4_setWall wsX4_setWall (rmK 2 44) (wPc (mw k) M [.ref (k.1 0 0), .int p1, .int p2, .int p3]) (wQi (mw k) (fun r u => r = (f_X4_setWall k M p1 p2 p3).1 ∧ u = (f_X4_setWall k M p1 p2 p3).2)) 0 0 (wA (mw k)) := by
  refine wx_met (cc := cX4_setWall) (maxL := 4) (ret := (some .boolean)) (by decide) rfl (Nat.le_of_ble_eq_true rfl) ?_
  intro p e s m below meth c ls hx hb hr hml hts hown hlocks hP hK hD hZ hS hl
  have hown : s.vm.findClass RX4 = some m.cls := hown
  have hl : lv_has ls 4 [(0, .ref (k.1 0 0)), (1, .int p1), (2, .int p2), (3, .int p3)] := hl
  have hiX4 : ∀ x ∈ u_ws RX4 TX4 22, x ∈ wsX4_setWall := by decide +kernel
  have hf13 := hts (.fieldLink RX4 13 "RobotWorldModel" "items" "[I") (by decide +kernel)
  have hf7 := hts (.fieldLink RX4 7 "RobotWorldModel" "isWall" "[Z") (by decide +kernel)
  refine lv_aload_n hx hb dX4_setWall_0 rfl (lv_at hl 0 rfl) ?_
  refine lv_iload_n hx hb dX4_setWall_1 rfl (lv_at hl 1 rfl) ?_
  refine lv_iload_n hx hb dX4_setWall_2 rfl (lv_at hl 2 rfl) ?_
  refine wx_Vi (w := (mw k)) (f_X4_isInside k M p1 p2) M [.int p1, .int p2] [] (mZok k) ⟨hx, hb, hml, hown, hts⟩ (c_X4_isInside l k M p1 p2 ) (cwV 2 hts gX4_setWall_X4_isInside rfl rfl rfl (by decide +kernel) ⟨by decide, by decide⟩) (wx_recv (w := (mw k)) (g := 0) (j := 0) hK hP (mIx_0 (by decide)) rfl rfl) hP hK hD hZ hS rfl hl.1 rfl (Nat.le_of_ble_eq_true rfl) dX4_setWall_3 ⟨by decide, by decide⟩ (fun H locs hP hS => ?_)
  refine lv_if_eq (tgt := 18) hx hb dX4_setWall_6 (by decide) (fun c_6 => ?_) (fun c_6 => ?_)
  · refine lv_iconst (v := 0) hx hb dX4_setWall_18 (by decide) ?_
    have e9 : f_X4_setWall k M p1 p2 p3 = (0, M) := (by unfold f_X4_setWall; rw [if_pos c_6])
    exact wx_iret hx hb hr hlocks hP hS (by decide) ⟨by rw [e9], by rw [e9]⟩ dX4_setWall_19
  · refine lv_aload_n hx hb dX4_setWall_9 rfl (lv_at hl 0 rfl) ?_
    refine lv_iload_n hx hb dX4_setWall_10 rfl (lv_at hl 1 rfl) ?_
    refine lv_iload_n hx hb dX4_setWall_11 rfl (lv_at hl 2 rfl) ?_
    refine wx_Vi (w := (mw k)) (f_X4_robotAt k M p1 p2) M [.int p1, .int p2] [] (mZok k) ⟨hx, hb, hml, hown, hts⟩ (c_X4_robotAt l k M p1 p2 hI) (cwV 2 hts gX4_setWall_X4_robotAt rfl rfl rfl (by decide +kernel) ⟨by decide, by decide⟩) (wx_recv (w := (mw k)) (g := 0) (j := 0) hK hP (mIx_0 (by decide)) rfl rfl) hP hK hD hZ hS rfl hl.1 rfl (Nat.le_of_ble_eq_true rfl) dX4_setWall_12 ⟨by decide, by decide⟩ (fun H locs hP hS => ?_)
    refine lv_if_lt (tgt := 20) hx hb dX4_setWall_15 (by decide) (fun c_15 => ?_) (fun c_15 => ?_)
    · refine lv_aload_n hx hb dX4_setWall_20 rfl (lv_at hl 0 rfl) ?_
      refine wx_get (w := (mw k)) (g := 0) (j := 0) hx hb hts hiX4 hown hK hP (mIx_0 (by decide)) rfl rfl 5 (by decide) hf7 rfl dX4_setWall_21 ?_
      refine lv_iload_n hx hb dX4_setWall_24 rfl (lv_at hl 1 rfl) ?_
      refine lv_iload_n hx hb dX4_setWall_25 rfl (lv_at hl 2 rfl) ?_
      refine wx_Si (w := (mw k)) (f_X4_square k M p1 p2) M [.int p1, .int p2] [.ref (k.1 0 1)] (mZok k) ⟨hx, hb, hml, hown, hts⟩ (c_X4_square l k M p1 p2 ) (va_cwS 2 hts gX4_setWall_X4_square rfl rfl rfl (by decide +kernel) ⟨by decide, by decide⟩) hP hK hD hZ hS rfl hl.1 rfl (Nat.le_of_ble_eq_true rfl) dX4_setWall_26 ⟨by decide, by decide⟩ (fun H locs hP hS => ?_)
      refine lv_iload_n hx hb dX4_setWall_29 rfl (lv_at hl 3 rfl) ?_
      refine wx_zast (w := (mw k)) (g := 0) (j := 1) hx hb hK hP hD hS (mIx_0 (by decide)) 1 (fun _ => rfl) rfl (m_sq hI c_6) dX4_setWall_30 (fun H locs hP hS => ?_)
      refine lv_aload_n hx hb dX4_setWall_31 rfl (lv_at hl 0 rfl) ?_
      refine wx_get (w := (mw k)) (g := 0) (j := 0) hx hb hts hiX4 hown hK hP (mIx_0 (by decide)) rfl rfl 6 (by decide) hf13 rfl dX4_setWall_32 ?_
      refine lv_iload_n hx hb dX4_setWall_35 rfl (lv_at hl 1 rfl) ?_
      refine lv_iload_n hx hb dX4_setWall_36 rfl (lv_at hl 2 rfl) ?_
      refine wx_Si (w := (mw k)) (f_X4_square k (mu M 0 1 (f_X4_square k M p1 p2).toNatClampNeg (vp_nar .boolean p3)) p1 p2) (mu M 0 1 (f_X4_square k M p1 p2).toNatClampNeg (vp_nar .boolean p3)) [.int p1, .int p2] [.ref (k.1 0 2)] (mZok k) ⟨hx, hb, hml, hown, hts⟩ (c_X4_square l k (mu M 0 1 (f_X4_square k M p1 p2).toNatClampNeg (vp_nar .boolean p3)) p1 p2 ) (va_cwS 2 hts gX4_setWall_X4_square rfl rfl rfl (by decide +kernel) ⟨by decide, by decide⟩) hP hK hD hZ hS rfl hl.1 rfl (Nat.le_of_ble_eq_true rfl) dX4_setWall_37 ⟨by decide, by decide⟩ (fun H locs hP hS => ?_)
      refine lv_iload_n hx hb dX4_setWall_40 rfl (lv_at hl 3 rfl) ?_
      refine lv_if_eq (tgt := 48) hx hb dX4_setWall_41 (by decide) (fun c_41 => ?_) (fun c_41 => ?_)
      · refine lv_aload_n hx hb dX4_setWall_48 rfl (lv_at hl 0 rfl) ?_
        refine wx_get (w := (mw k)) (g := 0) (j := 0) hx hb hts hiX4 hown hK hP (mIx_0 (by decide)) rfl rfl 6 (by decide) hf13 rfl dX4_setWall_49 ?_
        refine lv_iload_n hx hb dX4_setWall_52 rfl (lv_at hl 1 rfl) ?_
        refine lv_iload_n hx hb dX4_setWall_53 rfl (lv_at hl 2 rfl) ?_
        refine wx_Si (w := (mw k)) (f_X4_square k (mu M 0 1 (f_X4_square k M p1 p2).toNatClampNeg (vp_nar .boolean p3)) p1 p2) (mu M 0 1 (f_X4_square k M p1 p2).toNatClampNeg (vp_nar .boolean p3)) [.int p1, .int p2] [.ref (k.1 0 2), .int (f_X4_square k (mu M 0 1 (f_X4_square k M p1 p2).toNatClampNeg (vp_nar .boolean p3)) p1 p2), .ref (k.1 0 2)] (mZok k) ⟨hx, hb, hml, hown, hts⟩ (c_X4_square l k (mu M 0 1 (f_X4_square k M p1 p2).toNatClampNeg (vp_nar .boolean p3)) p1 p2 ) (va_cwS 2 hts gX4_setWall_X4_square rfl rfl rfl (by decide +kernel) ⟨by decide, by decide⟩) hP hK hD hZ hS rfl hl.1 rfl (Nat.le_of_ble_eq_true rfl) dX4_setWall_54 ⟨by decide, by decide⟩ (fun H locs hP hS => ?_)
        refine wx_iald (w := (mw k)) (g := 0) (j := 2) hx hb hK hP (mIx_0 (by decide)) 0 rfl rfl (m_sq hI c_6) dX4_setWall_57 ?_
        refine wx_iast (w := (mw k)) (g := 0) (j := 2) hx hb hK hP hD hS (mIx_0 (by decide)) 0 (fun _ => rfl) rfl (m_sq hI c_6) dX4_setWall_58 (fun H locs hP hS => ?_)
        refine lv_iconst (v := 1) hx hb dX4_setWall_59 (by decide) ?_
        have e9 : f_X4_setWall k M p1 p2 p3 = (1, (mu (mu M 0 1 (f_X4_square k M p1 p2).toNatClampNeg (vp_nar .boolean p3)) 0 2 (f_X4_square k (mu M 0 1 (f_X4_square k M p1 p2).toNatClampNeg (vp_nar .boolean p3)) p1 p2).toNatClampNeg ((mu M 0 1 (f_X4_square k M p1 p2).toNatClampNeg (vp_nar .boolean p3)) 0 2 (f_X4_square k (mu M 0 1 (f_X4_square k M p1 p2).toNatClampNeg (vp_nar .boolean p3)) p1 p2).toNatClampNeg))) := (by unfold f_X4_setWall; rw [if_neg c_6, if_pos c_15, if_pos c_41])
        exact wx_iret hx hb hr hlocks hP hS (by decide) ⟨by rw [e9], by rw [e9]⟩ dX4_setWall_60
      · refine lv_iconst (v := 0) hx hb dX4_setWall_44 (by decide) ?_
        refine lv_goto (tgt := 58) hx hb dX4_setWall_45 (by decide) ?_
        refine wx_iast (w := (mw k)) (g := 0) (j := 2) hx hb hK hP hD hS (mIx_0 (by decide)) 0 (fun _ => rfl) rfl (m_sq hI c_6) dX4_setWall_58 (fun H locs hP hS => ?_)
        refine lv_iconst (v := 1) hx hb dX4_setWall_59 (by decide) ?_
        have e9 : f_X4_setWall k M p1 p2 p3 = (1, (mu (mu M 0 1 (f_X4_square k M p1 p2).toNatClampNeg (vp_nar .boolean p3)) 0 2 (f_X4_square k (mu M 0 1 (f_X4_square k M p1 p2).toNatClampNeg (vp_nar .boolean p3)) p1 p2).toNatClampNeg 0)) := (by unfold f_X4_setWall; rw [if_neg c_6, if_pos c_15, if_neg c_41])
        exact wx_iret hx hb hr hlocks hP hS (by decide) ⟨by rw [e9], by rw [e9]⟩ dX4_setWall_60
    · refine lv_iconst (v := 0) hx hb dX4_setWall_18 (by decide) ?_
      have e9 : f_X4_setWall k M p1 p2 p3 = (0, M) := (by unfold f_X4_setWall; rw [if_neg c_6, if_neg c_15])
      exact wx_iret hx hb hr hlocks hP hS (by decide) ⟨by rw [e9], by rw [e9]⟩ dX4_setWall_19
/-- by program, from the bytecode of RobotWorldModel.putItem -/
def f_X4_putItem (k : MK) (M : Mem) (p1 : Int32) (p2 : Int32) : Int32 × Mem :=
  if (f_X4_isInside k M p1 p2) = 0 then
    (0, M)
  else
    if (M 0 1 (f_X4_square k M p1 p2).toNatClampNeg) = 0 then
      if (M 0 2 (f_X4_square k M p1 p2).toNatClampNeg) = 99 then
        (0, M)
      else
        (1, (mu M 0 2 (f_X4_square k M p1 p2).toNatClampNeg ((M 0 2 (f_X4_square k M p1 p2).toNatClampNeg) + 1)))
    else
      (0, M)
set_option maxHeartbeats 4000000 in
set_option maxRecDepth 100000 in
theorem c_X4_putItem (l : Launch) (k : MK) (M : Mem) (p1 : Int32) (p2 : Int32) (hI : mI k M) : Met l yX4_putItem wsX4_putItem (rmK 2 44) (wPc (mw k) M [.ref (k.1 0 0), .int p1, .int p2]) (wQi (mw k) (fun r u => r = (f_X4_putItem k M p1 p2).1 ∧ u = (f_X4_putItem k M p1 p2).2)) 0 0 (wA (mw k)) := by
  refine wx_met (cc := cX4_putItem) (maxL := 3) (ret := (some .boolean)) (by decide) rfl (Nat.le_of_ble_eq_true rfl) ?_
  intro p e s m below meth c ls hx hb hr hml hts hown hlocks hP hK hD hZ hS hl
  have hown : s.vm.findClass RX4 = some m.cls := hown
  have hl : lv_has ls 3 [(0, .ref (k.1 0 0)), (1, .int p1), (2, .int p2)] := hl
  have hiX4 : ∀ x ∈ u_ws RX4 TX4 22, x ∈ wsX4_putItem := by decide +kernel
  have hf13 := hts (.fieldLink RX4 13 "RobotWorldModel" "items" "[I") (by decide +kernel)
  have hf7 := hts (.fieldLink RX4 7 "RobotWorldModel" "isWall" "[Z") (by decide +kernel)
  refine lv_aload_n hx hb dX4_putItem_0 rfl (lv_at hl 0 rfl) ?_
  refine lv_iload_n hx hb dX4_putItem_1 rfl (lv_at hl 1 rfl) ?_
  refine lv_iload_n hx hb dX4_putItem_2 rfl (lv_at hl 2 rfl) ?_
  refine wx_Vi (w := (mw k)) (f_X4_isInside k M p1 p2) M [.int p1, .int p2] [] (mZok k) ⟨hx, hb, hml, hown, hts⟩ (c_X4_isInside l k M p1 p2 ) (cwV 2 hts gX4_putItem_X4_isInside rfl rfl rfl (by decide +kernel) ⟨by decide, by decide⟩) (wx_recv (w := (mw k)) (g := 0) (j := 0) hK hP (mIx_0 (by decide)) rfl rfl) hP hK hD hZ hS rfl hl.1 rfl (Nat.le_of_ble_eq_true rfl) dX4_putItem_3 ⟨by decide, by decide⟩ (fun H locs hP hS => ?_)
  refine lv_if_eq (tgt := 37) hx hb dX4_putItem_6 (by decide) (fun c_6 => ?_) (fun c_6 => ?_)
  · refine lv_iconst (v := 0) hx hb dX4_putItem_37 (by decide) ?_
    have e9 : f_X4_putItem k M p1 p2 = (0, M) := (by unfold f_X4_putItem; rw [if_pos c_6])
    exact wx_iret hx hb hr hlocks hP hS (by decide) ⟨by rw [e9], by rw [e9]⟩ dX4_putItem_38
  · refine lv_aload_n hx hb dX4_putItem_9 rfl (lv_at hl 0 rfl) ?_
    refine wx_get (w := (mw k)) (g := 0) (j := 0) hx hb hts hiX4 hown hK hP (mIx_0 (by decide)) rfl rfl 5 (by decide) hf7 rfl dX4_putItem_10 ?_
    refine lv_iload_n hx hb dX4_putItem_13 rfl (lv_at hl 1 rfl) ?_
    refine lv_iload_n hx hb dX4_putItem_14 rfl (lv_at hl 2 rfl) ?_
    refine wx_Si (w := (mw k)) (f_X4_square k M p1 p2) M [.int p1, .int p2] [.ref (k.1 0 1)] (mZok k) ⟨hx, hb, hml, hown, hts⟩ (c_X4_square l k M p1 p2 ) (va_cwS 2 hts gX4_putItem_X4_square rfl rfl rfl (by decide +kernel) ⟨by decide, by decide⟩) hP hK hD hZ hS rfl hl.1 rfl (Nat.le_of_ble_eq_true rfl) dX4_putItem_15 ⟨by decide, by decide⟩ (fun H locs hP hS => ?_)
    refine wx_zald (w := (mw k)) (g := 0) (j := 1) hx hb hK hP (mIx_0 (by decide)) 1 rfl rfl (m_sq hI c_6) dX4_putItem_18 ?_
    refine lv_if_ne (tgt := 37) hx hb dX4_putItem_19 (by decide) (fun c_19 => ?_) (fun c_19 => ?_)
    · refine lv_iconst (v := 0) hx hb dX4_putItem_37 (by decide) ?_
      have e9 : f_X4_putItem k M p1 p2 = (0, M) := (by unfold f_X4_putItem; rw [if_neg c_6, if_neg c_19])
      exact wx_iret hx hb hr hlocks hP hS (by decide) ⟨by rw [e9], by rw [e9]⟩ dX4_putItem_38
    · refine lv_aload_n hx hb dX4_putItem_22 rfl (lv_at hl 0 rfl) ?_
      refine wx_get (w := (mw k)) (g := 0) (j := 0) hx hb hts hiX4 hown hK hP (mIx_0 (by decide)) rfl rfl 6 (by decide) hf13 rfl dX4_putItem_23 ?_
      refine lv_iload_n hx hb dX4_putItem_26 rfl (lv_at hl 1 rfl) ?_
      refine lv_iload_n hx hb dX4_putItem_27 rfl (lv_at hl 2 rfl) ?_
      refine wx_Si (w := (mw k)) (f_X4_square k M p1 p2) M [.int p1, .int p2] [.ref (k.1 0 2)] (mZok k) ⟨hx, hb, hml, hown, hts⟩ (c_X4_square l k M p1 p2 ) (va_cwS 2 hts gX4_putItem_X4_square rfl rfl rfl (by decide +kernel) ⟨by decide, by decide⟩) hP hK hD hZ hS rfl hl.1 rfl (Nat.le_of_ble_eq_true rfl) dX4_putItem_28 ⟨by decide, by decide⟩ (fun H locs hP hS => ?_)
      refine wx_iald (w := (mw k)) (g := 0) (j := 2) hx hb hK hP (mIx_0 (by decide)) 0 rfl rfl (m_sq hI c_6) dX4_putItem_31 ?_
      refine lv_bipush (v := 99) hx hb dX4_putItem_32 (by decide) ?_
      refine lv_icmp_ne (tgt := 39) hx hb dX4_putItem_34 (by decide) (fun c_34 => ?_) (fun c_34 => ?_)
      · refine lv_aload_n hx hb dX4_putItem_39 rfl (lv_at hl 0 rfl) ?_
        refine wx_get (w := (mw k)) (g := 0) (j := 0) hx hb hts hiX4 hown hK hP (mIx_0 (by decide)) rfl rfl 6 (by decide) hf13 rfl dX4_putItem_40 ?_
        refine lv_iload_n hx hb dX4_putItem_43 rfl (lv_at hl 1 rfl) ?_
        refine lv_iload_n hx hb dX4_putItem_44 rfl (lv_at hl 2 rfl) ?_
        refine wx_Si (w := (mw k)) (f_X4_square k M p1 p2) M [.int p1, .int p2] [.ref (k.1 0 2)] (mZok k) ⟨hx, hb, hml, hown, hts⟩ (c_X4_square l k M p1 p2 ) (va_cwS 2 hts gX4_putItem_X4_square rfl rfl rfl (by decide +kernel) ⟨by decide, by decide⟩) hP hK hD hZ hS rfl hl.1 rfl (Nat.le_of_ble_eq_true rfl) dX4_putItem_45 ⟨by decide, by decide⟩ (fun H locs hP hS => ?_)
        refine lv_dup2_11 hx hb dX4_putItem_48 rfl rfl ?_
        refine wx_iald (w := (mw k)) (g := 0) (j := 2) hx hb hK hP (mIx_0 (by decide)) 0 rfl rfl (m_sq hI c_6) dX4_putItem_49 ?_
        refine lv_iconst (v := 1) hx hb dX4_putItem_50 (by decide) ?_
        refine lv_iadd hx hb dX4_putItem_51 ?_
        refine wx_iast (w := (mw k)) (g := 0) (j := 2) hx hb hK hP hD hS (mIx_0 (by decide)) 0 (fun _ => rfl) rfl (m_sq hI c_6) dX4_putItem_52 (fun H locs hP hS => ?_)
        refine lv_iconst (v := 1) hx hb dX4_putItem_53 (by decide) ?_
        have e9 : f_X4_putItem k M p1 p2 = (1, (mu M 0 2 (f_X4_square k M p1 p2).toNatClampNeg ((M 0 2 (f_X4_square k M p1 p2).toNatClampNeg) + 1))) := (by unfold f_X4_putItem; rw [if_neg c_6, if_pos c_19, if_neg c_34])
        exact wx_iret hx hb hr hlocks hP hS (by decide) ⟨by rw [e9], by rw [e9]⟩ dX4_putItem_54
      · refine lv_iconst (v := 0) hx hb dX4_putItem_37 (by decide) ?_
        have e9 : f_X4_putItem k M p1 p2 = (0, M) := (by unfold f_X4_putItem; rw [if_neg c_6, if_pos c_19, if_pos c_34])
        exact wx_iret hx hb hr hlocks hP hS (by decide) ⟨by rw [e9], by rw [e9]⟩ dX4_putItem_38
theorem m_in {k : MK} {M : Mem} {x : Int32} (hI : mI k M) (h : ¬ f_X4_in k M x 0 (M 0 0 2 - 1) = 0) : vp_in x (k.2.1 0) := by
  obtain ⟨⟨e0, e1, e2, e3, e4⟩, ⟨b1, b2, b3, b4, b5, b6, -⟩, -⟩ := hI
  unfold f_X4_in at h
  rw [e2] at h
  by_cases c1 : x < 0
  · simp [c1] at h
  by_cases c2 : nI (k.2.1 0) - 1 < x
  · simp [c1, c2] at h
  exact in_le c1 c2 b5 (by omega)
/-- by program, from the bytecode of RobotWorldModel.isRobot -/
def f_X4_isRobot (k : MK) (M : Mem) (p1 : Int32) : Int32 :=
  if (f_X4_in k M p1 0 ((M 0 0 2) - 1)) = 0 then
    0
  else
    if (M 0 3 p1.toNatClampNeg) ≤ 0 then
      0
    else
      1
set_option maxHeartbeats 4000000 in
set_option maxRecDepth 100000 in
theorem c_X4_isRobot (l : Launch) (k : MK) (M : Mem) (p1 : Int32) (hI : mI k M) : Met l yX4_isRobot wsX4_isRobot (rmK 1 22) (wPc (mw k) M [.ref (k.1 0 0), .int p1]) (wQi (mw k) (fun r u => r = (f_X4_isRobot k M p1) ∧ u = M)) 0 0 (wA (mw k)) := by
  refine wx_met (cc := cX4_isRobot) (maxL := 2) (ret := (some .boolean)) (by decide) rfl (Nat.le_of_ble_eq_true rfl) ?_
  intro p e s m below meth c ls hx hb hr hml hts hown hlocks hP hK hD hZ hS hl
  have hown : s.vm.findClass RX4 = some m.cls := hown
  have hl : lv_has ls 2 [(0, .ref (k.1 0 0)), (1, .int p1)] := hl
  have hiX4 : ∀ x ∈ u_ws RX4 TX4 22, x ∈ wsX4_isRobot := by decide +kernel
  have hf17 := hts (.fieldLink RX4 17 "RobotWorldModel" "state" "[I") (by decide +kernel)
  have hf67 := hts (.fieldLink RX4 67 "RobotWorldModel" "most" "I") (by decide +kernel)
  refine lv_iload_n hx hb dX4_isRobot_0 rfl (lv_at hl 1 rfl) ?_
  refine lv_iconst (v := 0) hx hb dX4_isRobot_1 (by decide) ?_
  refine lv_aload_n hx hb dX4_isRobot_2 rfl (lv_at hl 0 rfl) ?_
  refine wx_get (w := (mw k)) (g := 0) (j := 0) hx hb hts hiX4 hown hK hP (mIx_0 (by decide)) rfl rfl 2 (by decide) hf67 rfl dX4_isRobot_3 ?_
  refine lv_iconst (v := 1) hx hb dX4_isRobot_6 (by decide) ?_
  refine lv_isub hx hb dX4_isRobot_7 ?_
  refine wx_Si (w := (mw k)) (f_X4_in k M p1 0 ((M 0 0 2) - 1)) M [.int p1, .int 0, .int ((M 0 0 2) - 1)] [] (mZok k) ⟨hx, hb, hml, hown, hts⟩ (c_X4_in l k M p1 0 ((M 0 0 2) - 1) ) (va_cwS 3 hts gX4_isRobot_X4_in rfl rfl rfl (by decide +kernel) ⟨by decide, by decide⟩) hP hK hD hZ hS rfl hl.1 rfl (Nat.le_of_ble_eq_true rfl) dX4_isRobot_8 ⟨by decide, by decide⟩ (fun H locs hP hS => ?_)
  refine lv_if_eq (tgt := 27) hx hb dX4_isRobot_11 (by decide) (fun c_11 => ?_) (fun c_11 => ?_)
  · refine lv_iconst (v := 0) hx hb dX4_isRobot_27 (by decide) ?_
    have e9 : f_X4_isRobot k M p1 = 0 := (by unfold f_X4_isRobot; rw [if_pos c_11])
    exact wx_iret hx hb hr hlocks hP hS (by decide) ⟨e9.symm, rfl⟩ dX4_isRobot_28
  · refine lv_aload_n hx hb dX4_isRobot_14 rfl (lv_at hl 0 rfl) ?_
    refine wx_get (w := (mw k)) (g := 0) (j := 0) hx hb hts hiX4 hown hK hP (mIx_0 (by decide)) rfl rfl 7 (by decide) hf17 rfl dX4_isRobot_15 ?_
    refine lv_iload_n hx hb dX4_isRobot_18 rfl (lv_at hl 1 rfl) ?_
    refine wx_iald (w := (mw k)) (g := 0) (j := 3) hx hb hK hP (mIx_0 (by decide)) 0 rfl rfl (m8 hI (m_in hI c_11)) dX4_isRobot_19 ?_
    refine lv_if_le (tgt := 27) hx hb dX4_isRobot_20 (by decide) (fun c_20 => ?_) (fun c_20 => ?_)
    · refine lv_iconst (v := 0) hx hb dX4_isRobot_27 (by decide) ?_
      have e9 : f_X4_isRobot k M p1 = 0 := (by unfold f_X4_isRobot; rw [if_neg c_11, if_pos c_20])
      exact wx_iret hx hb hr hlocks hP hS (by decide) ⟨e9.symm, rfl⟩ dX4_isRobot_28
    · refine lv_iconst (v := 1) hx hb dX4_isRobot_23 (by decide) ?_
      refine lv_goto (tgt := 28) hx hb dX4_isRobot_24 (by decide) ?_
      have e9 : f_X4_isRobot k M p1 = 1 := (by unfold f_X4_isRobot; rw [if_neg c_11, if_neg c_20])
      exact wx_iret hx hb hr hlocks hP hS (by decide) ⟨e9.symm, rfl⟩ dX4_isRobot_28
theorem m_rob {k : MK} {M : Mem} {x : Int32} (hI : mI k M) (h : ¬ f_X4_isRobot k M x = 0) : vp_in x (k.2.1 0) ∧ 0 < M 0 3 x.toNatClampNeg := by
  unfold f_X4_isRobot at h
  by_cases c1 : f_X4_in k M x 0 (M 0 0 2 - 1) = 0
  · simp [c1] at h
  by_cases c2 : M 0 3 x.toNatClampNeg ≤ 0
  · simp [c1, c2] at h
  exact ⟨m_in hI c1, Int32.not_le.mp c2⟩
theorem m_at {k : MK} {M M' : Mem} {x : Int32} (hI : mI k M) (hx : vp_in x (k.2.1 0)) (h : 0 < M 0 3 x.toNatClampNeg) : vp_in (f_X4_square k M' (M 0 4 x.toNatClampNeg) (M 0 5 x.toNatClampNeg)) 1024 := by
  obtain ⟨h1, h2⟩ := hI.2.2.2 _ (vp_lt hx) |>.2.2 h
  exact m_sqv hI h1 h2
theorem m_pl {k : MK} {M : Mem} {x : Int32} (hI : mI k M) (hx : vp_in x (k.2.1 0)) (c : ¬ M 0 7 x.toNatClampNeg = M 0 0 3) : vp_in (100 * x + M 0 7 x.toNatClampNeg) 800 := by
  have h7 := (hI.2.2.2 _ (vp_lt hx)).1
  obtain ⟨⟨e0, e1, e2, e3, e4⟩, ⟨b1, b2, b3, b4, b5, b6, b7, b8, b9, b10⟩, -⟩ := hI
  obtain ⟨a, ha, ea⟩ := h7
  rw [ea, e3] at c
  rw [ea]
  have hne : a ≠ k.2.1 3 := fun q => c (by rw [q])
  obtain ⟨i, hi, rfl⟩ := vp_in_of hx (by omega)
  rw [show (100 : Int32) = nI 100 from rfl, pk_mul, nI_add]
  exact vp_in_nI (by omega) (by omega)
/-- by program, from the bytecode of RobotWorldModel.load -/
def f_X4_load (k : MK) (M : Mem) (p1 : Int32) (p2 : Int32) : Int32 × Mem :=
  if (f_X4_isRobot k M p1) = 0 then
    (0, M)
  else
    if (M 0 3 p1.toNatClampNeg) = 1 then
      if (M 0 7 p1.toNatClampNeg) = (M 0 0 3) then
        (0, M)
      else
        (1, (mu (mu M 0 6 ((100 * p1) + (M 0 7 p1.toNatClampNeg)).toNatClampNeg p2) 0 7 p1.toNatClampNeg (((mu M 0 6 ((100 * p1) + (M 0 7 p1.toNatClampNeg)).toNatClampNeg p2) 0 7 p1.toNatClampNeg) + 1)))
    else
      (0, M)
set_option maxHeartbeats 4000000 in
set_option maxRecDepth 100000 in
theorem c_X4_load (l : Launch) (k : MK) (M : Mem) (p1 : Int32) (p2 : Int32) (hI : mI k M) : Met l yX4_load wsX4_load (rmK 2 43) (wPc (mw k) M [.ref (k.1 0 0), .int p1, .int p2]) (wQi (mw k) (fun r u => r = (f_X4_load k M p1 p2).1 ∧ u = (f_X4_load k M p1 p2).2)) 0 0 (wA (mw k)) := by
  refine wx_met (cc := cX4_load) (maxL := 3) (ret := (some .boolean)) (by decide) rfl (Nat.le_of_ble_eq_true rfl) ?_
  intro p e s m below meth c ls hx hb hr hml hts hown hlocks hP hK hD hZ hS hl
  have hown : s.vm.findClass RX4 = some m.cls := hown
  have hl : lv_has ls 3 [(0, .ref (k.1 0 0)), (1, .int p1), (2, .int p2)] := hl
  have hiX4 : ∀ x ∈ u_ws RX4 TX4 22, x ∈ wsX4_load := by decide +kernel
  have hf17 := hts (.fieldLink RX4 17 "RobotWorldModel" "state" "[I") (by decide +kernel)
  have hf26 := hts (.fieldLink RX4 26 "RobotWorldModel" "program" "[I") (by decide +kernel)
  have hf29 := hts (.fieldLink RX4 29 "RobotWorldModel" "length" "[I") (by decide +kernel)
  have hf70 := hts (.fieldLink RX4 70 "RobotWorldModel" "longest" "I") (by decide +kernel)
  refine lv_aload_n hx hb dX4_load_0 rfl (lv_at hl 0 rfl) ?_
  refine lv_iload_n hx hb dX4_load_1 rfl (lv_at hl 1 rfl) ?_
  refine wx_Vi (w := (mw k)) (f_X4_isRobot k M p1) M [.int p1] [] (mZok k) ⟨hx, hb, hml, hown, hts⟩ (c_X4_isRobot l k M p1 hI) (cwV 1 hts gX4_load_X4_isRobot rfl rfl rfl (by decide +kernel) ⟨by decide, by decide⟩) (wx_recv (w := (mw k)) (g := 0) (j := 0) hK hP (mIx_0 (by decide)) rfl rfl) hP hK hD hZ hS rfl hl.1 rfl (Nat.le_of_ble_eq_true rfl) dX4_load_2 ⟨by decide, by decide⟩ (fun H locs hP hS => ?_)
  refine lv_if_eq (tgt := 31) hx hb dX4_load_5 (by decide) (fun c_5 => ?_) (fun c_5 => ?_)
  · refine lv_iconst (v := 0) hx hb dX4_load_31 (by decide) ?_
    have e9 : f_X4_load k M p1 p2 = (0, M) := (by unfold f_X4_load; rw [if_pos c_5])
    exact wx_iret hx hb hr hlocks hP hS (by decide) ⟨by rw [e9], by rw [e9]⟩ dX4_load_32
  · refine lv_aload_n hx hb dX4_load_8 rfl (lv_at hl 0 rfl) ?_
    refine wx_get (w := (mw k)) (g := 0) (j := 0) hx hb hts hiX4 hown hK hP (mIx_0 (by decide)) rfl rfl 7 (by decide) hf17 rfl dX4_load_9 ?_
    refine lv_iload_n hx hb dX4_load_12 rfl (lv_at hl 1 rfl) ?_
    refine wx_iald (w := (mw k)) (g := 0) (j := 3) hx hb hK hP (mIx_0 (by decide)) 0 rfl rfl (m8 hI (m_rob hI c_5).1) dX4_load_13 ?_
    refine lv_iconst (v := 1) hx hb dX4_load_14 (by decide) ?_
    refine lv_icmp_ne (tgt := 31) hx hb dX4_load_15 (by decide) (fun c_15 => ?_) (fun c_15 => ?_)
    · refine lv_iconst (v := 0) hx hb dX4_load_31 (by decide) ?_
      have e9 : f_X4_load k M p1 p2 = (0, M) := (by unfold f_X4_load; rw [if_neg c_5, if_neg c_15])
      exact wx_iret hx hb hr hlocks hP hS (by decide) ⟨by rw [e9], by rw [e9]⟩ dX4_load_32
    · refine lv_aload_n hx hb dX4_load_18 rfl (lv_at hl 0 rfl) ?_
      refine wx_get (w := (mw k)) (g := 0) (j := 0) hx hb hts hiX4 hown hK hP (mIx_0 (by decide)) rfl rfl 11 (by decide) hf29 rfl dX4_load_19 ?_
      refine lv_iload_n hx hb dX4_load_22 rfl (lv_at hl 1 rfl) ?_
      refine wx_iald (w := (mw k)) (g := 0) (j := 7) hx hb hK hP (mIx_0 (by decide)) 0 rfl rfl (m8 hI (m_rob hI c_5).1) dX4_load_23 ?_
      refine lv_aload_n hx hb dX4_load_24 rfl (lv_at hl 0 rfl) ?_
      refine wx_get (w := (mw k)) (g := 0) (j := 0) hx hb hts hiX4 hown hK hP (mIx_0 (by decide)) rfl rfl 3 (by decide) hf70 rfl dX4_load_25 ?_
      refine lv_icmp_ne (tgt := 33) hx hb dX4_load_28 (by decide) (fun c_28 => ?_) (fun c_28 => ?_)
      · refine lv_aload_n hx hb dX4_load_33 rfl (lv_at hl 0 rfl) ?_
        refine wx_get (w := (mw k)) (g := 0) (j := 0) hx hb hts hiX4 hown hK hP (mIx_0 (by decide)) rfl rfl 10 (by decide) hf26 rfl dX4_load_34 ?_
        refine lv_bipush (v := 100) hx hb dX4_load_37 (by decide) ?_
        refine lv_iload_n hx hb dX4_load_39 rfl (lv_at hl 1 rfl) ?_
        refine lv_imul hx hb dX4_load_40 ?_
        refine lv_aload_n hx hb dX4_load_41 rfl (lv_at hl 0 rfl) ?_
        refine wx_get (w := (mw k)) (g := 0) (j := 0) hx hb hts hiX4 hown hK hP (mIx_0 (by decide)) rfl rfl 11 (by decide) hf29 rfl dX4_load_42 ?_
        refine lv_iload_n hx hb dX4_load_45 rfl (lv_at hl 1 rfl) ?_
        refine wx_iald (w := (mw k)) (g := 0) (j := 7) hx hb hK hP (mIx_0 (by decide)) 0 rfl rfl (m8 hI (m_rob hI c_5).1) dX4_load_46 ?_
        refine lv_iadd hx hb dX4_load_47 ?_
        refine lv_iload_n hx hb dX4_load_48 rfl (lv_at hl 2 rfl) ?_
        refine wx_iast (w := (mw k)) (g := 0) (j := 6) hx hb hK hP hD hS (mIx_0 (by decide)) 0 (fun _ => rfl) rfl (m_pl hI (m_rob hI c_5).1 c_28) dX4_load_49 (fun H locs hP hS => ?_)
        refine lv_aload_n hx hb dX4_load_50 rfl (lv_at hl 0 rfl) ?_
        refine wx_get (w := (mw k)) (g := 0) (j := 0) hx hb hts hiX4 hown hK hP (mIx_0 (by decide)) rfl rfl 11 (by decide) hf29 rfl dX4_load_51 ?_
        refine lv_iload_n hx hb dX4_load_54 rfl (lv_at hl 1 rfl) ?_
        refine lv_dup2_11 hx hb dX4_load_55 rfl rfl ?_
        refine wx_iald (w := (mw k)) (g := 0) (j := 7) hx hb hK hP (mIx_0 (by decide)) 0 rfl rfl (m8 hI (m_rob hI c_5).1) dX4_load_56 ?_
        refine lv_iconst (v := 1) hx hb dX4_load_57 (by decide) ?_
        refine lv_iadd hx hb dX4_load_58 ?_
        refine wx_iast (w := (mw k)) (g := 0) (j := 7) hx hb hK hP hD hS (mIx_0 (by decide)) 0 (fun _ => rfl) rfl (m8 hI (m_rob hI c_5).1) dX4_load_59 (fun H locs hP hS => ?_)
        refine lv_iconst (v := 1) hx hb dX4_load_60 (by decide) ?_
        have e9 : f_X4_load k M p1 p2 = (1, (mu (mu M 0 6 ((100 * p1) + (M 0 7 p1.toNatClampNeg)).toNatClampNeg p2) 0 7 p1.toNatClampNeg (((mu M 0 6 ((100 * p1) + (M 0 7 p1.toNatClampNeg)).toNatClampNeg p2) 0 7 p1.toNatClampNeg) + 1))) := (by unfold f_X4_load; rw [if_neg c_5, if_pos c_15, if_neg c_28])
        exact wx_iret hx hb hr hlocks hP hS (by decide) ⟨by rw [e9], by rw [e9]⟩ dX4_load_61
      · refine lv_iconst (v := 0) hx hb dX4_load_31 (by decide) ?_
        have e9 : f_X4_load k M p1 p2 = (0, M) := (by unfold f_X4_load; rw [if_neg c_5, if_pos c_15, if_pos c_28])
        exact wx_iret hx hb hr hlocks hP hS (by decide) ⟨by rw [e9], by rw [e9]⟩ dX4_load_32
/-- by program, from the bytecode of RobotWorldModel.startRobot -/
def f_X4_startRobot (k : MK) (M : Mem) (p1 : Int32) : Int32 × Mem :=
  if (f_X4_isRobot k M p1) = 0 then
    ((-2), M)
  else
    if (M 0 3 p1.toNatClampNeg) = 1 then
      (1, (mu M 0 3 p1.toNatClampNeg 2))
    else
      ((-2), M)
set_option maxHeartbeats 4000000 in
set_option maxRecDepth 100000 in
theorem c_X4_startRobot (l : Launch) (k : MK) (M : Mem) (p1 : Int32) (hI : mI k M) : Met l yX4_startRobot wsX4_startRobot (rmK 2 43) (wPc (mw k) M [.ref (k.1 0 0), .int p1]) (wQi (mw k) (fun r u => r = (f_X4_startRobot k M p1).1 ∧ u = (f_X4_startRobot k M p1).2)) 0 0 (wA (mw k)) := by
  refine wx_met (cc := cX4_startRobot) (maxL := 2) (ret := (some .int)) (by decide) rfl (Nat.le_of_ble_eq_true rfl) ?_
  intro p e s m below meth c ls hx hb hr hml hts hown hlocks hP hK hD hZ hS hl
  have hown : s.vm.findClass RX4 = some m.cls := hown
  have hl : lv_has ls 2 [(0, .ref (k.1 0 0)), (1, .int p1)] := hl
  have hiX4 : ∀ x ∈ u_ws RX4 TX4 22, x ∈ wsX4_startRobot := by decide +kernel
  have hf17 := hts (.fieldLink RX4 17 "RobotWorldModel" "state" "[I") (by decide +kernel)
  refine lv_aload_n hx hb dX4_startRobot_0 rfl (lv_at hl 0 rfl) ?_
  refine lv_iload_n hx hb dX4_startRobot_1 rfl (lv_at hl 1 rfl) ?_
  refine wx_Vi (w := (mw k)) (f_X4_isRobot k M p1) M [.int p1] [] (mZok k) ⟨hx, hb, hml, hown, hts⟩ (c_X4_isRobot l k M p1 hI) (cwV 1 hts gX4_startRobot_X4_isRobot rfl rfl rfl (by decide +kernel) ⟨by decide, by decide⟩) (wx_recv (w := (mw k)) (g := 0) (j := 0) hK hP (mIx_0 (by decide)) rfl rfl) hP hK hD hZ hS rfl hl.1 rfl (Nat.le_of_ble_eq_true rfl) dX4_startRobot_2 ⟨by decide, by decide⟩ (fun H locs hP hS => ?_)
  refine lv_if_eq (tgt := 18) hx hb dX4_startRobot_5 (by decide) (fun c_5 => ?_) (fun c_5 => ?_)
  · refine lv_bipush (v := (-2)) hx hb dX4_startRobot_18 (by decide) ?_
    have e9 : f_X4_startRobot k M p1 = ((-2), M) := (by unfold f_X4_startRobot; rw [if_pos c_5])
    exact wx_iret hx hb hr hlocks hP hS rfl ⟨by rw [e9], by rw [e9]⟩ dX4_startRobot_20
  · refine lv_aload_n hx hb dX4_startRobot_8 rfl (lv_at hl 0 rfl) ?_
    refine wx_get (w := (mw k)) (g := 0) (j := 0) hx hb hts hiX4 hown hK hP (mIx_0 (by decide)) rfl rfl 7 (by decide) hf17 rfl dX4_startRobot_9 ?_
    refine lv_iload_n hx hb dX4_startRobot_12 rfl (lv_at hl 1 rfl) ?_
    refine wx_iald (w := (mw k)) (g := 0) (j := 3) hx hb hK hP (mIx_0 (by decide)) 0 rfl rfl (m8 hI (m_rob hI c_5).1) dX4_startRobot_13 ?_
    refine lv_iconst (v := 1) hx hb dX4_startRobot_14 (by decide) ?_
    refine lv_icmp_eq (tgt := 21) hx hb dX4_startRobot_15 (by decide) (fun c_15 => ?_) (fun c_15 => ?_)
    · refine lv_aload_n hx hb dX4_startRobot_21 rfl (lv_at hl 0 rfl) ?_
      refine wx_get (w := (mw k)) (g := 0) (j := 0) hx hb hts hiX4 hown hK hP (mIx_0 (by decide)) rfl rfl 7 (by decide) hf17 rfl dX4_startRobot_22 ?_
      refine lv_iload_n hx hb dX4_startRobot_25 rfl (lv_at hl 1 rfl) ?_
      refine lv_iconst (v := 2) hx hb dX4_startRobot_26 (by decide) ?_
      refine wx_iast (w := (mw k)) (g := 0) (j := 3) hx hb hK hP hD hS (mIx_0 (by decide)) 0 (fun _ => rfl) rfl (m8 hI (m_rob hI c_5).1) dX4_startRobot_27 (fun H locs hP hS => ?_)
      refine lv_iconst (v := 1) hx hb dX4_startRobot_28 (by decide) ?_
      have e9 : f_X4_startRobot k M p1 = (1, (mu M 0 3 p1.toNatClampNeg 2)) := (by unfold f_X4_startRobot; rw [if_neg c_5, if_pos c_15])
      exact wx_iret hx hb hr hlocks hP hS rfl ⟨by rw [e9], by rw [e9]⟩ dX4_startRobot_29
    · refine lv_bipush (v := (-2)) hx hb dX4_startRobot_18 (by decide) ?_
      have e9 : f_X4_startRobot k M p1 = ((-2), M) := (by unfold f_X4_startRobot; rw [if_neg c_5, if_neg c_15])
      exact wx_iret hx hb hr hlocks hP hS rfl ⟨by rw [e9], by rw [e9]⟩ dX4_startRobot_20
/-- by program, from the bytecode of RobotWorldModel.kill -/
def f_X4_kill (k : MK) (M : Mem) (p1 : Int32) : Int32 × Mem :=
  if (f_X4_isRobot k M p1) = 0 then
    ((-2), M)
  else
    if ((M 0 2 (f_X4_square k M (M 0 4 p1.toNatClampNeg) (M 0 5 p1.toNatClampNeg)).toNatClampNeg) + (M 0 10 p1.toNatClampNeg)) ≤ 99 then
      (((mu (mu M 0 2 (f_X4_square k M (M 0 4 p1.toNatClampNeg) (M 0 5 p1.toNatClampNeg)).toNatClampNeg ((M 0 2 (f_X4_square k M (M 0 4 p1.toNatClampNeg) (M 0 5 p1.toNatClampNeg)).toNatClampNeg) + (M 0 10 p1.toNatClampNeg))) 0 3 p1.toNatClampNeg 0) 0 10 p1.toNatClampNeg), (mu (mu M 0 2 (f_X4_square k M (M 0 4 p1.toNatClampNeg) (M 0 5 p1.toNatClampNeg)).toNatClampNeg ((M 0 2 (f_X4_square k M (M 0 4 p1.toNatClampNeg) (M 0 5 p1.toNatClampNeg)).toNatClampNeg) + (M 0 10 p1.toNatClampNeg))) 0 3 p1.toNatClampNeg 0))
    else
      (((mu (mu M 0 2 (f_X4_square k M (M 0 4 p1.toNatClampNeg) (M 0 5 p1.toNatClampNeg)).toNatClampNeg 99) 0 3 p1.toNatClampNeg 0) 0 10 p1.toNatClampNeg), (mu (mu M 0 2 (f_X4_square k M (M 0 4 p1.toNatClampNeg) (M 0 5 p1.toNatClampNeg)).toNatClampNeg 99) 0 3 p1.toNatClampNeg 0))
set_option maxHeartbeats 4000000 in
set_option maxRecDepth 100000 in
theorem c_X4_kill (l : Launch) (k : MK) (M : Mem) (p1 : Int32) (hI : mI k M) : Met l yX4_kill wsX4_kill (rmK 2 43) (wPc (mw k) M [.ref (k.1 0 0), .int p1]) (wQi (mw k) (fun r u => r = (f_X4_kill k M p1).1 ∧ u = (f_X4_kill k M p1).2)) 0 0 (wA (mw k)) := by
  refine wx_met (cc := cX4_kill) (maxL := 4) (ret := (some .int)) (by decide) rfl (Nat.le_of_ble_eq_true rfl) ?_
  intro p e s m below meth c ls hx hb hr hml hts hown hlocks hP hK hD hZ hS hl
  have hown : s.vm.findClass RX4 = some m.cls := hown
  have hl : lv_has ls 4 [(0, .ref (k.1 0 0)), (1, .int p1)] := hl
  have hiX4 : ∀ x ∈ u_ws RX4 TX4 22, x ∈ wsX4_kill := by decide +kernel
  have hf13 := hts (.fieldLink RX4 13 "RobotWorldModel" "items" "[I") (by decide +kernel)
  have hf17 := hts (.fieldLink RX4 17 "RobotWorldModel" "state" "[I") (by decide +kernel)
  have hf20 := hts (.fieldLink RX4 20 "RobotWorldModel" "xs" "[I") (by decide +kernel)
  have hf23 := hts (.fieldLink RX4 23 "RobotWorldModel" "ys" "[I") (by decide +kernel)
  have hf38 := hts (.fieldLink RX4 38 "RobotWorldModel" "load" "[I") (by decide +kernel)
  refine lv_aload_n hx hb dX4_kill_0 rfl (lv_at hl 0 rfl) ?_
  refine lv_iload_n hx hb dX4_kill_1 rfl (lv_at hl 1 rfl) ?_
  refine wx_Vi (w := (mw k)) (f_X4_isRobot k M p1) M [.int p1] [] (mZok k) ⟨hx, hb, hml, hown, hts⟩ (c_X4_isRobot l k M p1 hI) (cwV 1 hts gX4_kill_X4_isRobot rfl rfl rfl (by decide +kernel) ⟨by decide, by decide⟩) (wx_recv (w := (mw k)) (g := 0) (j := 0) hK hP (mIx_0 (by decide)) rfl rfl) hP hK hD hZ hS rfl hl.1 rfl (Nat.le_of_ble_eq_true rfl) dX4_kill_2 ⟨by decide, by decide⟩ (fun H locs hP hS => ?_)
  refine lv_if_ne (tgt := 11) hx hb dX4_kill_5 (by decide) (fun c_5 => ?_) (fun c_5 => ?_)
  · refine lv_aload_n hx hb dX4_kill_11 rfl (lv_at hl 0 rfl) ?_
    refine wx_get (w := (mw k)) (g := 0) (j := 0) hx hb hts hiX4 hown hK hP (mIx_0 (by decide)) rfl rfl 8 (by decide) hf20 rfl dX4_kill_12 ?_
    refine lv_iload_n hx hb dX4_kill_15 rfl (lv_at hl 1 rfl) ?_
    refine wx_iald (w := (mw k)) (g := 0) (j := 4) hx hb hK hP (mIx_0 (by decide)) 0 rfl rfl (m8 hI (m_rob hI c_5).1) dX4_kill_16 ?_
    refine lv_aload_n hx hb dX4_kill_17 rfl (lv_at hl 0 rfl) ?_
    refine wx_get (w := (mw k)) (g := 0) (j := 0) hx hb hts hiX4 hown hK hP (mIx_0 (by decide)) rfl rfl 9 (by decide) hf23 rfl dX4_kill_18 ?_
    refine lv_iload_n hx hb dX4_kill_21 rfl (lv_at hl 1 rfl) ?_
    refine wx_iald (w := (mw k)) (g := 0) (j := 5) hx hb hK hP (mIx_0 (by decide)) 0 rfl rfl (m8 hI (m_rob hI c_5).1) dX4_kill_22 ?_
    refine wx_Si (w := (mw k)) (f_X4_square k M (M 0 4 p1.toNatClampNeg) (M 0 5 p1.toNatClampNeg)) M [.int (M 0 4 p1.toNatClampNeg), .int (M 0 5 p1.toNatClampNeg)] [] (mZok k) ⟨hx, hb, hml, hown, hts⟩ (c_X4_square l k M (M 0 4 p1.toNatClampNeg) (M 0 5 p1.toNatClampNeg) ) (va_cwS 2 hts gX4_kill_X4_square rfl rfl rfl (by decide +kernel) ⟨by decide, by decide⟩) hP hK hD hZ hS rfl hl.1 rfl (Nat.le_of_ble_eq_true rfl) dX4_kill_23 ⟨by decide, by decide⟩ (fun H locs hP hS => ?_)
    refine lv_istore_n (lv' := [(2, .int (f_X4_square k M (M 0 4 p1.toNatClampNeg) (M 0 5 p1.toNatClampNeg))), (0, .ref (k.1 0 0)), (1, .int p1)]) hx hb dX4_kill_26 rfl hl (by decide) rfl (fun ls hl => ?_)
    refine lv_aload_n hx hb dX4_kill_27 rfl (lv_at hl 1 rfl) ?_
    refine wx_get (w := (mw k)) (g := 0) (j := 0) hx hb hts hiX4 hown hK hP (mIx_0 (by decide)) rfl rfl 6 (by decide) hf13 rfl dX4_kill_28 ?_
    refine lv_iload_n hx hb dX4_kill_31 rfl (lv_at hl 0 rfl) ?_
    refine wx_iald (w := (mw k)) (g := 0) (j := 2) hx hb hK hP (mIx_0 (by decide)) 0 rfl rfl (m_at hI (m_rob hI c_5).1 (m_rob hI c_5).2) dX4_kill_32 ?_
    refine lv_aload_n hx hb dX4_kill_33 rfl (lv_at hl 1 rfl) ?_
    refine wx_get (w := (mw k)) (g := 0) (j := 0) hx hb hts hiX4 hown hK hP (mIx_0 (by decide)) rfl rfl 14 (by decide) hf38 rfl dX4_kill_34 ?_
    refine lv_iload_n hx hb dX4_kill_37 rfl (lv_at hl 2 rfl) ?_
    refine wx_iald (w := (mw k)) (g := 0) (j := 10) hx hb hK hP (mIx_0 (by decide)) 0 rfl rfl (m8 hI (m_rob hI c_5).1) dX4_kill_38 ?_
    refine lv_iadd hx hb dX4_kill_39 ?_
    refine lv_istore_n (lv' := [(3, .int ((M 0 2 (f_X4_square k M (M 0 4 p1.toNatClampNeg) (M 0 5 p1.toNatClampNeg)).toNatClampNeg) + (M 0 10 p1.toNatClampNeg))), (2, .int (f_X4_square k M (M 0 4 p1.toNatClampNeg) (M 0 5 p1.toNatClampNeg))), (0, .ref (k.1 0 0)), (1, .int p1)]) hx hb dX4_kill_40 rfl hl (by decide) rfl (fun ls hl => ?_)
    refine lv_aload_n hx hb dX4_kill_41 rfl (lv_at hl 2 rfl) ?_
    refine wx_get (w := (mw k)) (g := 0) (j := 0) hx hb hts hiX4 hown hK hP (mIx_0 (by decide)) rfl rfl 6 (by decide) hf13 rfl dX4_kill_42 ?_
    refine lv_iload_n hx hb dX4_kill_45 rfl (lv_at hl 1 rfl) ?_
    refine lv_iload_n hx hb dX4_kill_46 rfl (lv_at hl 0 rfl) ?_
    refine lv_bipush (v := 99) hx hb dX4_kill_47 (by decide) ?_
    refine lv_icmp_le (tgt := 57) hx hb dX4_kill_49 (by decide) (fun c_49 => ?_) (fun c_49 => ?_)
    · refine lv_iload_n hx hb dX4_kill_57 rfl (lv_at hl 0 rfl) ?_
      refine wx_iast (w := (mw k)) (g := 0) (j := 2) hx hb hK hP hD hS (mIx_0 (by decide)) 0 (fun _ => rfl) rfl (m_at hI (m_rob hI c_5).1 (m_rob hI c_5).2) dX4_kill_58 (fun H locs hP hS => ?_)
      refine lv_aload_n hx hb dX4_kill_59 rfl (lv_at hl 2 rfl) ?_
      refine wx_get (w := (mw k)) (g := 0) (j := 0) hx hb hts hiX4 hown hK hP (mIx_0 (by decide)) rfl rfl 7 (by decide) hf17 rfl dX4_kill_60 ?_
      refine lv_iload_n hx hb dX4_kill_63 rfl (lv_at hl 3 rfl) ?_
      refine lv_iconst (v := 0) hx hb dX4_kill_64 (by decide) ?_
      refine wx_iast (w := (mw k)) (g := 0) (j := 3) hx hb hK hP hD hS (mIx_0 (by decide)) 0 (fun _ => rfl) rfl (m8 hI (m_rob hI c_5).1) dX4_kill_65 (fun H locs hP hS => ?_)
      refine lv_aload_n hx hb dX4_kill_66 rfl (lv_at hl 2 rfl) ?_
      refine wx_get (w := (mw k)) (g := 0) (j := 0) hx hb hts hiX4 hown hK hP (mIx_0 (by decide)) rfl rfl 14 (by decide) hf38 rfl dX4_kill_67 ?_
      refine lv_iload_n hx hb dX4_kill_70 rfl (lv_at hl 3 rfl) ?_
      refine wx_iald (w := (mw k)) (g := 0) (j := 10) hx hb hK hP (mIx_0 (by decide)) 0 rfl rfl (m8 hI (m_rob hI c_5).1) dX4_kill_71 ?_
      have e9 : f_X4_kill k M p1 = (((mu (mu M 0 2 (f_X4_square k M (M 0 4 p1.toNatClampNeg) (M 0 5 p1.toNatClampNeg)).toNatClampNeg ((M 0 2 (f_X4_square k M (M 0 4 p1.toNatClampNeg) (M 0 5 p1.toNatClampNeg)).toNatClampNeg) + (M 0 10 p1.toNatClampNeg))) 0 3 p1.toNatClampNeg 0) 0 10 p1.toNatClampNeg), (mu (mu M 0 2 (f_X4_square k M (M 0 4 p1.toNatClampNeg) (M 0 5 p1.toNatClampNeg)).toNatClampNeg ((M 0 2 (f_X4_square k M (M 0 4 p1.toNatClampNeg) (M 0 5 p1.toNatClampNeg)).toNatClampNeg) + (M 0 10 p1.toNatClampNeg))) 0 3 p1.toNatClampNeg 0)) := (by unfold f_X4_kill; rw [if_neg c_5, if_pos c_49])
      exact wx_iret hx hb hr hlocks hP hS rfl ⟨by rw [e9], by rw [e9]⟩ dX4_kill_72
    · refine lv_bipush (v := 99) hx hb dX4_kill_52 (by decide) ?_
      refine lv_goto (tgt := 58) hx hb dX4_kill_54 (by decide) ?_
      refine wx_iast (w := (mw k)) (g := 0) (j := 2) hx hb hK hP hD hS (mIx_0 (by decide)) 0 (fun _ => rfl) rfl (m_at hI (m_rob hI c_5).1 (m_rob hI c_5).2) dX4_kill_58 (fun H locs hP hS => ?_)
      refine lv_aload_n hx hb dX4_kill_59 rfl (lv_at hl 2 rfl) ?_
      refine wx_get (w := (mw k)) (g := 0) (j := 0) hx hb hts hiX4 hown hK hP (mIx_0 (by decide)) rfl rfl 7 (by decide) hf17 rfl dX4_kill_60 ?_
      refine lv_iload_n hx hb dX4_kill_63 rfl (lv_at hl 3 rfl) ?_
      refine lv_iconst (v := 0) hx hb dX4_kill_64 (by decide) ?_
      refine wx_iast (w := (mw k)) (g := 0) (j := 3) hx hb hK hP hD hS (mIx_0 (by decide)) 0 (fun _ => rfl) rfl (m8 hI (m_rob hI c_5).1) dX4_kill_65 (fun H locs hP hS => ?_)
      refine lv_aload_n hx hb dX4_kill_66 rfl (lv_at hl 2 rfl) ?_
      refine wx_get (w := (mw k)) (g := 0) (j := 0) hx hb hts hiX4 hown hK hP (mIx_0 (by decide)) rfl rfl 14 (by decide) hf38 rfl dX4_kill_67 ?_
      refine lv_iload_n hx hb dX4_kill_70 rfl (lv_at hl 3 rfl) ?_
      refine wx_iald (w := (mw k)) (g := 0) (j := 10) hx hb hK hP (mIx_0 (by decide)) 0 rfl rfl (m8 hI (m_rob hI c_5).1) dX4_kill_71 ?_
      have e9 : f_X4_kill k M p1 = (((mu (mu M 0 2 (f_X4_square k M (M 0 4 p1.toNatClampNeg) (M 0 5 p1.toNatClampNeg)).toNatClampNeg 99) 0 3 p1.toNatClampNeg 0) 0 10 p1.toNatClampNeg), (mu (mu M 0 2 (f_X4_square k M (M 0 4 p1.toNatClampNeg) (M 0 5 p1.toNatClampNeg)).toNatClampNeg 99) 0 3 p1.toNatClampNeg 0)) := (by unfold f_X4_kill; rw [if_neg c_5, if_neg c_49])
      exact wx_iret hx hb hr hlocks hP hS rfl ⟨by rw [e9], by rw [e9]⟩ dX4_kill_72
  · refine lv_bipush (v := (-2)) hx hb dX4_kill_8 (by decide) ?_
    have e9 : f_X4_kill k M p1 = ((-2), M) := (by unfold f_X4_kill; rw [if_pos c_5])
    exact wx_iret hx hb hr hlocks hP hS rfl ⟨by rw [e9], by rw [e9]⟩ dX4_kill_10
/-- by program, from the bytecode of RobotWorldModel.isFree -/
def f_X4_isFree (k : MK) (M : Mem) (p1 : Int32) (p2 : Int32) : Int32 :=
  if (f_X4_isInside k M p1 p2) = 0 then
    0
  else
    if (M 0 1 (f_X4_square k M p1 p2).toNatClampNeg) = 0 then
      1
    else
      0
set_option maxHeartbeats 4000000 in
set_option maxRecDepth 100000 in
theorem c_X4_isFree (l : Launch) (k : MK) (M : Mem) (p1 : Int32) (p2 : Int32) (hI : mI k M) : Met l yX4_isFree wsX4_isFree (rmK 2 44) (wPc (mw k) M [.ref (k.1 0 0), .int p1, .int p2]) (wQi (mw k) (fun r u => r = (f_X4_isFree k M p1 p2) ∧ u = M)) 0 0 (wA (mw k)) := by
  refine wx_met (cc := cX4_isFree) (maxL := 3) (ret := (some .boolean)) (by decide) rfl (Nat.le_of_ble_eq_true rfl) ?_
  intro p e s m below meth c ls hx hb hr hml hts hown hlocks hP hK hD hZ hS hl
  have hown : s.vm.findClass RX4 = some m.cls := hown
  have hl : lv_has ls 3 [(0, .ref (k.1 0 0)), (1, .int p1), (2, .int p2)] := hl
  have hiX4 : ∀ x ∈ u_ws RX4 TX4 22, x ∈ wsX4_isFree := by decide +kernel
  have hf7 := hts (.fieldLink RX4 7 "RobotWorldModel" "isWall" "[Z") (by decide +kernel)
  refine lv_aload_n hx hb dX4_isFree_0 rfl (lv_at hl 0 rfl) ?_
  refine lv_iload_n hx hb dX4_isFree_1 rfl (lv_at hl 1 rfl) ?_
  refine lv_iload_n hx hb dX4_isFree_2 rfl (lv_at hl 2 rfl) ?_
  refine wx_Vi (w := (mw k)) (f_X4_isInside k M p1 p2) M [.int p1, .int p2] [] (mZok k) ⟨hx, hb, hml, hown, hts⟩ (c_X4_isInside l k M p1 p2 ) (cwV 2 hts gX4_isFree_X4_isInside rfl rfl rfl (by decide +kernel) ⟨by decide, by decide⟩) (wx_recv (w := (mw k)) (g := 0) (j := 0) hK hP (mIx_0 (by decide)) rfl rfl) hP hK hD hZ hS rfl hl.1 rfl (Nat.le_of_ble_eq_true rfl) dX4_isFree_3 ⟨by decide, by decide⟩ (fun H locs hP hS => ?_)
  refine lv_if_eq (tgt := 26) hx hb dX4_isFree_6 (by decide) (fun c_6 => ?_) (fun c_6 => ?_)
  · refine lv_iconst (v := 0) hx hb dX4_isFree_26 (by decide) ?_
    have e9 : f_X4_isFree k M p1 p2 = 0 := (by unfold f_X4_isFree; rw [if_pos c_6])
    exact wx_iret hx hb hr hlocks hP hS (by decide) ⟨e9.symm, rfl⟩ dX4_isFree_27
  · refine lv_aload_n hx hb dX4_isFree_9 rfl (lv_at hl 0 rfl) ?_
    refine wx_get (w := (mw k)) (g := 0) (j := 0) hx hb hts hiX4 hown hK hP (mIx_0 (by decide)) rfl rfl 5 (by decide) hf7 rfl dX4_isFree_10 ?_
    refine lv_iload_n hx hb dX4_isFree_13 rfl (lv_at hl 1 rfl) ?_
    refine lv_iload_n hx hb dX4_isFree_14 rfl (lv_at hl 2 rfl) ?_
    refine wx_Si (w := (mw k)) (f_X4_square k M p1 p2) M [.int p1, .int p2] [.ref (k.1 0 1)] (mZok k) ⟨hx, hb, hml, hown, hts⟩ (c_X4_square l k M p1 p2 ) (va_cwS 2 hts gX4_isFree_X4_square rfl rfl rfl (by decide +kernel) ⟨by decide, by decide⟩) hP hK hD hZ hS rfl hl.1 rfl (Nat.le_of_ble_eq_true rfl) dX4_isFree_15 ⟨by decide, by decide⟩ (fun H locs hP hS => ?_)
    refine wx_zald (w := (mw k)) (g := 0) (j := 1) hx hb hK hP (mIx_0 (by decide)) 1 rfl rfl (m_sq hI c_6) dX4_isFree_18 ?_
    refine lv_if_ne (tgt := 26) hx hb dX4_isFree_19 (by decide) (fun c_19 => ?_) (fun c_19 => ?_)
    · refine lv_iconst (v := 0) hx hb dX4_isFree_26 (by decide) ?_
      have e9 : f_X4_isFree k M p1 p2 = 0 := (by unfold f_X4_isFree; rw [if_neg c_6, if_neg c_19])
      exact wx_iret hx hb hr hlocks hP hS (by decide) ⟨e9.symm, rfl⟩ dX4_isFree_27
    · refine lv_iconst (v := 1) hx hb dX4_isFree_22 (by decide) ?_
      refine lv_goto (tgt := 27) hx hb dX4_isFree_23 (by decide) ?_
      have e9 : f_X4_isFree k M p1 p2 = 1 := (by unfold f_X4_isFree; rw [if_neg c_6, if_pos c_19])
      exact wx_iret hx hb hr hlocks hP hS (by decide) ⟨e9.symm, rfl⟩ dX4_isFree_27
theorem m_fri {k : MK} {M : Mem} {x y : Int32} (h : ¬ f_X4_isFree k M x y = 0) : ¬ f_X4_isInside k M x y = 0 := by
  unfold f_X4_isFree at h
  intro c
  simp [c] at h
theorem m_sqf {k : MK} {M M' : Mem} {x y : Int32} (hI : mI k M) (h : ¬ f_X4_isFree k M x y = 0) : vp_in (f_X4_square k M' x y) 1024 := m_sq hI (m_fri h)
/-- by program: the loop at 6 of RobotWorldModel.reach -/
def f_X4_reach_L6 (k : MK) (p1 : Int32) (p2 : Int32) (p3 : Int32) : Nat → Int32 → Int32 → Mem → Int32 × Mem
  | 0, _, _, M => (0, M)
  | n + 1, s4, x, M =>
    if 4 ≤ x then
      (s4, M)
    else
      if (f_X4_isFree k M (f_X4_besideX k M p1 x) (f_X4_besideY k M p2 x)) = 0 then
        f_X4_reach_L6 k p1 p2 p3 n s4 (x + 1) M
      else
        if (M 0 15 (f_X4_square k M (f_X4_besideX k M p1 x) (f_X4_besideY k M p2 x)).toNatClampNeg) ≤ p3 then
          f_X4_reach_L6 k p1 p2 p3 n s4 (x + 1) M
        else
          f_X4_reach_L6 k p1 p2 p3 n 1 (x + 1) (mu M 0 15 (f_X4_square k M (f_X4_besideX k M p1 x) (f_X4_besideY k M p2 x)).toNatClampNeg p3)
set_option maxHeartbeats 4000000 in
set_option maxRecDepth 100000 in
theorem lp_X4_reach_L6 {p : Program} {l : Launch} {e : Env} {s : State} {m : MethodId} {args : Array Value} {below : List Frame} {meth : Method} {c : Code} (k : MK) (p1 : Int32) (p2 : Int32) (p3 : Int32)  (hx : p.tables.exec = Jvm.exec) (hb : c.code = cX4_reach) (hr : meth.sig.returnType = (some .boolean)) (hml : c.maxLocals = 8) (hts : ∀ x ∈ wsX4_reach, x.before args s = true) (hown : s.vm.findClass RX4 = some m.cls) (hlocks : meth.locks = false) (hK : va_K (wD (mw k)) vwCl (wT (mw k)) s) {M0 : Mem} (hD : va_D (wA (mw k)) (wW (mw k) M0)) (hZ : wZ (mw k) (wA (mw k)) s s.heap)  : ∀ (n : Nat) (s4 : Int32) (x : Int32) (M : Mem) (H : Heap) (locs : List Loc) (ls : Array Slot), mI k M ∧ lpI 4 n x ∧ narrow .boolean (.int s4) = .int s4 → wP (mw k) M H → va_S (wA (mw k)) s.heap H locs → lv_has ls 8 [(5, .int x), (4, .int s4), (0, .ref (k.1 0 0)), (1, .int p1), (2, .int p2), (3, .int p3)] → ∀ (post : Int32 → Mem → Prop), post (f_X4_reach_L6 k p1 p2 p3 n s4 x M).1 (f_X4_reach_L6 k p1 p2 p3 n s4 x M).2 → W p l e (rmK 3 66) s m args below meth c H locs 0 0 (MQ below (wQi (mw k) post) args s 0 0 (wA (mw k))) (F0 m 6 ls []) := by
  have hiX4 : ∀ x ∈ u_ws RX4 TX4 22, x ∈ wsX4_reach := by decide +kernel
  have hf53 := hts (.fieldLink RX4 53 "RobotWorldModel" "far" "[I") (by decide +kernel)
  intro n
  induction n with
  | zero =>
    intro s4 x M H locs ls hinv
    exact absurd hinv (fun h => lpI_z h.2.1)
  | succ n ih =>
    intro s4 x M H locs ls hinv hP hS hl post hpo
    refine lv_iload hx hb dX4_reach_6 (lv_at hl 0 rfl) ?_
    refine lv_iconst (v := 4) hx hb dX4_reach_8 (by decide) ?_
    refine lv_icmp_ge (tgt := 77) hx hb dX4_reach_9 (by decide) (fun c_9 => ?_) (fun c_9 => ?_)
    · refine lv_iload hx hb dX4_reach_77 (lv_at hl 1 rfl) ?_
      have e9 : f_X4_reach_L6 k p1 p2 p3 (n + 1) s4 x M = (s4, M) := (by rw [f_X4_reach_L6]; rw [if_pos c_9])
      exact wx_iret hx hb hr hlocks hP hS hinv.2.2 (by rw [e9] at hpo; exact hpo) dX4_reach_79
    · refine lv_iload_n hx hb dX4_reach_12 rfl (lv_at hl 3 rfl) ?_
      refine lv_iload hx hb dX4_reach_13 (lv_at hl 0 rfl) ?_
      refine wx_Si (w := (mw k)) (f_X4_besideX k M p1 x) M [.int p1, .int x] [] (mZok k) ⟨hx, hb, hml, hown, hts⟩ (c_X4_besideX l k M p1 x ) (va_cwS 2 hts gX4_reach_X4_besideX rfl rfl rfl (by decide +kernel) ⟨by decide, by decide⟩) hP hK hD hZ hS rfl hl.1 rfl (Nat.le_of_ble_eq_true rfl) dX4_reach_15 ⟨by decide, by decide⟩ (fun H locs hP hS => ?_)
      refine lv_istore (lv' := [(6, .int (f_X4_besideX k M p1 x)), (5, .int x), (4, .int s4), (0, .ref (k.1 0 0)), (1, .int p1), (2, .int p2), (3, .int p3)]) hx hb dX4_reach_18 hl (by decide) rfl (fun ls hl => ?_)
      refine lv_iload_n hx hb dX4_reach_20 rfl (lv_at hl 5 rfl) ?_
      refine lv_iload hx hb dX4_reach_21 (lv_at hl 1 rfl) ?_
      refine wx_Si (w := (mw k)) (f_X4_besideY k M p2 x) M [.int p2, .int x] [] (mZok k) ⟨hx, hb, hml, hown, hts⟩ (c_X4_besideY l k M p2 x ) (va_cwS 2 hts gX4_reach_X4_besideY rfl rfl rfl (by decide +kernel) ⟨by decide, by decide⟩) hP hK hD hZ hS rfl hl.1 rfl (Nat.le_of_ble_eq_true rfl) dX4_reach_23 ⟨by decide, by decide⟩ (fun H locs hP hS => ?_)
      refine lv_istore (lv' := [(7, .int (f_X4_besideY k M p2 x)), (6, .int (f_X4_besideX k M p1 x)), (5, .int x), (4, .int s4), (0, .ref (k.1 0 0)), (1, .int p1), (2, .int p2), (3, .int p3)]) hx hb dX4_reach_26 hl (by decide) rfl (fun ls hl => ?_)
      refine lv_aload_n hx hb dX4_reach_28 rfl (lv_at hl 4 rfl) ?_
      refine lv_iload hx hb dX4_reach_29 (lv_at hl 1 rfl) ?_
      refine lv_iload hx hb dX4_reach_31 (lv_at hl 0 rfl) ?_
      refine wx_Vi (w := (mw k)) (f_X4_isFree k M (f_X4_besideX k M p1 x) (f_X4_besideY k M p2 x)) M [.int (f_X4_besideX k M p1 x), .int (f_X4_besideY k M p2 x)] [] (mZok k) ⟨hx, hb, hml, hown, hts⟩ (c_X4_isFree l k M (f_X4_besideX k M p1 x) (f_X4_besideY k M p2 x) hinv.1) (cwV 2 hts gX4_reach_X4_isFree rfl rfl rfl (by decide +kernel) ⟨by decide, by decide⟩) (wx_recv (w := (mw k)) (g := 0) (j := 0) hK hP (mIx_0 (by decide)) rfl rfl) hP hK hD hZ hS rfl hl.1 rfl (Nat.le_of_ble_eq_true rfl) dX4_reach_33 ⟨by decide, by decide⟩ (fun H locs hP hS => ?_)
      refine lv_if_eq (tgt := 71) hx hb dX4_reach_36 (by decide) (fun c_36 => ?_) (fun c_36 => ?_)
      · refine lv_iinc (v := (x + 1)) (lv' := [(5, .int (x + 1)), (7, .int (f_X4_besideY k M p2 x)), (6, .int (f_X4_besideX k M p1 x)), (4, .int s4), (0, .ref (k.1 0 0)), (1, .int p1), (2, .int p2), (3, .int p3)]) hx hb dX4_reach_71 hl (k := 2) rfl rfl (by decide) rfl (fun ls hl => ?_)
        refine lv_goto (tgt := 6) hx hb dX4_reach_74 (by decide) ?_
        have e9 : f_X4_reach_L6 k p1 p2 p3 (n + 1) s4 x M = f_X4_reach_L6 k p1 p2 p3 n s4 (x + 1) M := (by rw [f_X4_reach_L6]; rw [if_neg c_9, if_pos c_36])
        exact ih s4 (x + 1) M _ _ ls (by first | exact ⟨hinv.1, lpI_s hinv.2.1 c_9 (by decide), hinv.2.2⟩ | exact ⟨mI_far hinv.1, lpI_s hinv.2.1 c_9 (by decide), bz1⟩)  hP hS (lv_sub hl [0, 3, 4, 5, 6, 7] rfl) _ (by rw [e9] at hpo; exact hpo)
      · refine lv_aload_n hx hb dX4_reach_39 rfl (lv_at hl 4 rfl) ?_
        refine wx_get (w := (mw k)) (g := 0) (j := 0) hx hb hts hiX4 hown hK hP (mIx_0 (by decide)) rfl rfl 21 (by decide) hf53 rfl dX4_reach_40 ?_
        refine lv_iload hx hb dX4_reach_43 (lv_at hl 1 rfl) ?_
        refine lv_iload hx hb dX4_reach_45 (lv_at hl 0 rfl) ?_
        refine wx_Si (w := (mw k)) (f_X4_square k M (f_X4_besideX k M p1 x) (f_X4_besideY k M p2 x)) M [.int (f_X4_besideX k M p1 x), .int (f_X4_besideY k M p2 x)] [.ref (k.1 0 15)] (mZok k) ⟨hx, hb, hml, hown, hts⟩ (c_X4_square l k M (f_X4_besideX k M p1 x) (f_X4_besideY k M p2 x) ) (va_cwS 2 hts gX4_reach_X4_square rfl rfl rfl (by decide +kernel) ⟨by decide, by decide⟩) hP hK hD hZ hS rfl hl.1 rfl (Nat.le_of_ble_eq_true rfl) dX4_reach_47 ⟨by decide, by decide⟩ (fun H locs hP hS => ?_)
        refine wx_iald (w := (mw k)) (g := 0) (j := 15) hx hb hK hP (mIx_0 (by decide)) 0 rfl rfl (m_sqf hinv.1 c_36) dX4_reach_50 ?_
        refine lv_iload_n hx hb dX4_reach_51 rfl (lv_at hl 7 rfl) ?_
        refine lv_icmp_le (tgt := 71) hx hb dX4_reach_52 (by decide) (fun c_52 => ?_) (fun c_52 => ?_)
        · refine lv_iinc (v := (x + 1)) (lv' := [(5, .int (x + 1)), (7, .int (f_X4_besideY k M p2 x)), (6, .int (f_X4_besideX k M p1 x)), (4, .int s4), (0, .ref (k.1 0 0)), (1, .int p1), (2, .int p2), (3, .int p3)]) hx hb dX4_reach_71 hl (k := 2) rfl rfl (by decide) rfl (fun ls hl => ?_)
          refine lv_goto (tgt := 6) hx hb dX4_reach_74 (by decide) ?_
          have e9 : f_X4_reach_L6 k p1 p2 p3 (n + 1) s4 x M = f_X4_reach_L6 k p1 p2 p3 n s4 (x + 1) M := (by rw [f_X4_reach_L6]; rw [if_neg c_9, if_neg c_36, if_pos c_52])
          exact ih s4 (x + 1) M _ _ ls (by first | exact ⟨hinv.1, lpI_s hinv.2.1 c_9 (by decide), hinv.2.2⟩ | exact ⟨mI_far hinv.1, lpI_s hinv.2.1 c_9 (by decide), bz1⟩)  hP hS (lv_sub hl [0, 3, 4, 5, 6, 7] rfl) _ (by rw [e9] at hpo; exact hpo)
        · refine lv_aload_n hx hb dX4_reach_55 rfl (lv_at hl 4 rfl) ?_
          refine wx_get (w := (mw k)) (g := 0) (j := 0) hx hb hts hiX4 hown hK hP (mIx_0 (by decide)) rfl rfl 21 (by decide) hf53 rfl dX4_reach_56 ?_
          refine lv_iload hx hb dX4_reach_59 (lv_at hl 1 rfl) ?_
          refine lv_iload hx hb dX4_reach_61 (lv_at hl 0 rfl) ?_
          refine wx_Si (w := (mw k)) (f_X4_square k M (f_X4_besideX k M p1 x) (f_X4_besideY k M p2 x)) M [.int (f_X4_besideX k M p1 x), .int (f_X4_besideY k M p2 x)] [.ref (k.1 0 15)] (mZok k) ⟨hx, hb, hml, hown, hts⟩ (c_X4_square l k M (f_X4_besideX k M p1 x) (f_X4_besideY k M p2 x) ) (va_cwS 2 hts gX4_reach_X4_square rfl rfl rfl (by decide +kernel) ⟨by decide, by decide⟩) hP hK hD hZ hS rfl hl.1 rfl (Nat.le_of_ble_eq_true rfl) dX4_reach_63 ⟨by decide, by decide⟩ (fun H locs hP hS => ?_)
          refine lv_iload_n hx hb dX4_reach_66 rfl (lv_at hl 7 rfl) ?_
          refine wx_iast (w := (mw k)) (g := 0) (j := 15) hx hb hK hP hD hS (mIx_0 (by decide)) 0 (fun _ => rfl) rfl (m_sqf hinv.1 c_36) dX4_reach_67 (fun H locs hP hS => ?_)
          refine lv_iconst (v := 1) hx hb dX4_reach_68 (by decide) ?_
          refine lv_istore (lv' := [(4, .int 1), (7, .int (f_X4_besideY k M p2 x)), (6, .int (f_X4_besideX k M p1 x)), (5, .int x), (0, .ref (k.1 0 0)), (1, .int p1), (2, .int p2), (3, .int p3)]) hx hb dX4_reach_69 hl (by decide) rfl (fun ls hl => ?_)
          refine lv_iinc (v := (x + 1)) (lv' := [(5, .int (x + 1)), (4, .int 1), (7, .int (f_X4_besideY k M p2 x)), (6, .int (f_X4_besideX k M p1 x)), (0, .ref (k.1 0 0)), (1, .int p1), (2, .int p2), (3, .int p3)]) hx hb dX4_reach_71 hl (k := 3) rfl rfl (by decide) rfl (fun ls hl => ?_)
          refine lv_goto (tgt := 6) hx hb dX4_reach_74 (by decide) ?_
          have e9 : f_X4_reach_L6 k p1 p2 p3 (n + 1) s4 x M = f_X4_reach_L6 k p1 p2 p3 n 1 (x + 1) (mu M 0 15 (f_X4_square k M (f_X4_besideX k M p1 x) (f_X4_besideY k M p2 x)).toNatClampNeg p3) := (by rw [f_X4_reach_L6]; rw [if_neg c_9, if_neg c_36, if_neg c_52])
          exact ih 1 (x + 1) (mu M 0 15 (f_X4_square k M (f_X4_besideX k M p1 x) (f_X4_besideY k M p2 x)).toNatClampNeg p3) _ _ ls (by first | exact ⟨hinv.1, lpI_s hinv.2.1 c_9 (by decide), hinv.2.2⟩ | exact ⟨mI_far hinv.1, lpI_s hinv.2.1 c_9 (by decide), bz1⟩)  hP hS (lv_sub hl [0, 1, 4, 5, 6, 7] rfl) _ (by rw [e9] at hpo; exact hpo)
/-- by program, from the bytecode of RobotWorldModel.reach -/
def f_X4_reach (k : MK) (M : Mem) (p1 : Int32) (p2 : Int32) (p3 : Int32) : Int32 × Mem :=
  f_X4_reach_L6 k p1 p2 p3 (k.2.1 5) 0 0 M
set_option maxHeartbeats 4000000 in
set_option maxRecDepth 100000 in
theorem c_X4_reach (l : Launch) (k : MK) (M : Mem) (p1 : Int32) (p2 : Int32) (p3 : Int32) (hI : mI k M) : Met l yX4_reach wsX4_reach (rmK 3 66) (wPc (mw k) M [.ref (k.1 0 0), .int p1, .int p2, .int p3]) (wQi (mw k) (fun r u => r = (f_X4_reach k M p1 p2 p3).1 ∧ u = (f_X4_reach k M p1 p2 p3).2)) 0 0 (wA (mw k)) := by
  refine wx_met (cc := cX4_reach) (maxL := 8) (ret := (some .boolean)) (by decide) rfl (Nat.le_of_ble_eq_true rfl) ?_
  intro p e s m below meth c ls hx hb hr hml hts hown hlocks hP hK hD hZ hS hl
  have hown : s.vm.findClass RX4 = some m.cls := hown
  have hl : lv_has ls 8 [(0, .ref (k.1 0 0)), (1, .int p1), (2, .int p2), (3, .int p3)] := hl
  refine lv_iconst (v := 0) hx hb dX4_reach_0 (by decide) ?_
  refine lv_istore (lv' := [(4, .int 0), (0, .ref (k.1 0 0)), (1, .int p1), (2, .int p2), (3, .int p3)]) hx hb dX4_reach_1 hl (by decide) rfl (fun ls hl => ?_)
  refine lv_iconst (v := 0) hx hb dX4_reach_3 (by decide) ?_
  refine lv_istore (lv' := [(5, .int 0), (4, .int 0), (0, .ref (k.1 0 0)), (1, .int p1), (2, .int p2), (3, .int p3)]) hx hb dX4_reach_4 hl (by decide) rfl (fun ls hl => ?_)
  have e9 : f_X4_reach k M p1 p2 p3 = f_X4_reach_L6 k p1 p2 p3 (k.2.1 5) 0 0 M := (by rw [f_X4_reach])
  exact lp_X4_reach_L6 k p1 p2 p3 hx hb hr hml hts hown hlocks hK hD hZ (k.2.1 5) 0 0 M _ _ ls (⟨hI, lpF (mI_F hI) (by decide), bz0⟩) hP hS (lv_sub hl [0, 1, 2, 3, 4, 5] rfl) _ ⟨by rw [e9], by rw [e9]⟩
theorem mI_reach_L {k : MK} {p1 p2 p3 : Int32} : ∀ (n : Nat) (s4 x : Int32) (M : Mem), mI k M → mI k (f_X4_reach_L6 k p1 p2 p3 n s4 x M).2 := by
  intro n
  induction n with
  | zero => intro s4 x M hI; exact hI
  | succ n ih =>
    intro s4 x M hI
    rw [f_X4_reach_L6]
    split
    · exact hI
    · split
      · exact ih _ _ _ hI
      · split
        · exact ih _ _ _ hI
        · exact ih _ _ _ (mI_far hI)
theorem mI_reach {k : MK} {M : Mem} {p1 p2 p3 : Int32} (hI : mI k M) : mI k (f_X4_reach k M p1 p2 p3).2 := mI_reach_L _ _ _ M hI
/-- by program, from the bytecode of RobotWorldModel.at -/
def f_X4_at (k : MK) (M : Mem) (p1 : Int32) (p2 : Int32) : Int32 :=
  if (f_X4_isInside k M p1 p2) = 0 then
    (-2)
  else
    if (M 0 1 (f_X4_square k M p1 p2).toNatClampNeg) = 0 then
      ((M 0 2 (f_X4_square k M p1 p2).toNatClampNeg) + (256 * ((f_X4_robotAt k M p1 p2) + 1)))
    else
      (-1)
set_option maxHeartbeats 4000000 in
set_option maxRecDepth 100000 in
theorem c_X4_at (l : Launch) (k : MK) (M : Mem) (p1 : Int32) (p2 : Int32) (hI : mI k M) : Met l yX4_at wsX4_at (rmK 2 44) (wPc (mw k) M [.ref (k.1 0 0), .int p1, .int p2]) (wQi (mw k) (fun r u => r = (f_X4_at k M p1 p2) ∧ u = M)) 0 0 (wA (mw k)) := by
  refine wx_met (cc := cX4_at) (maxL := 3) (ret := (some .int)) (by decide) rfl (Nat.le_of_ble_eq_true rfl) ?_
  intro p e s m below meth c ls hx hb hr hml hts hown hlocks hP hK hD hZ hS hl
  have hown : s.vm.findClass RX4 = some m.cls := hown
  have hl : lv_has ls 3 [(0, .ref (k.1 0 0)), (1, .int p1), (2, .int p2)] := hl
  have hiX4 : ∀ x ∈ u_ws RX4 TX4 22, x ∈ wsX4_at := by decide +kernel
  have hf13 := hts (.fieldLink RX4 13 "RobotWorldModel" "items" "[I") (by decide +kernel)
  have hf7 := hts (.fieldLink RX4 7 "RobotWorldModel" "isWall" "[Z") (by decide +kernel)
  refine lv_aload_n hx hb dX4_at_0 rfl (lv_at hl 0 rfl) ?_
  refine lv_iload_n hx hb dX4_at_1 rfl (lv_at hl 1 rfl) ?_
  refine lv_iload_n hx hb dX4_at_2 rfl (lv_at hl 2 rfl) ?_
  refine wx_Vi (w := (mw k)) (f_X4_isInside k M p1 p2) M [.int p1, .int p2] [] (mZok k) ⟨hx, hb, hml, hown, hts⟩ (c_X4_isInside l k M p1 p2 ) (cwV 2 hts gX4_at_X4_isInside rfl rfl rfl (by decide +kernel) ⟨by decide, by decide⟩) (wx_recv (w := (mw k)) (g := 0) (j := 0) hK hP (mIx_0 (by decide)) rfl rfl) hP hK hD hZ hS rfl hl.1 rfl (Nat.le_of_ble_eq_true rfl) dX4_at_3 ⟨by decide, by decide⟩ (fun H locs hP hS => ?_)
  refine lv_if_ne (tgt := 12) hx hb dX4_at_6 (by decide) (fun c_6 => ?_) (fun c_6 => ?_)
  · refine lv_aload_n hx hb dX4_at_12 rfl (lv_at hl 0 rfl) ?_
    refine wx_get (w := (mw k)) (g := 0) (j := 0) hx hb hts hiX4 hown hK hP (mIx_0 (by decide)) rfl rfl 5 (by decide) hf7 rfl dX4_at_13 ?_
    refine lv_iload_n hx hb dX4_at_16 rfl (lv_at hl 1 rfl) ?_
    refine lv_iload_n hx hb dX4_at_17 rfl (lv_at hl 2 rfl) ?_
    refine wx_Si (w := (mw k)) (f_X4_square k M p1 p2) M [.int p1, .int p2] [.ref (k.1 0 1)] (mZok k) ⟨hx, hb, hml, hown, hts⟩ (c_X4_square l k M p1 p2 ) (va_cwS 2 hts gX4_at_X4_square rfl rfl rfl (by decide +kernel) ⟨by decide, by decide⟩) hP hK hD hZ hS rfl hl.1 rfl (Nat.le_of_ble_eq_true rfl) dX4_at_18 ⟨by decide, by decide⟩ (fun H locs hP hS => ?_)
    refine wx_zald (w := (mw k)) (g := 0) (j := 1) hx hb hK hP (mIx_0 (by decide)) 1 rfl rfl (m_sq hI c_6) dX4_at_21 ?_
    refine lv_if_eq (tgt := 29) hx hb dX4_at_22 (by decide) (fun c_22 => ?_) (fun c_22 => ?_)
    · refine lv_aload_n hx hb dX4_at_29 rfl (lv_at hl 0 rfl) ?_
      refine wx_get (w := (mw k)) (g := 0) (j := 0) hx hb hts hiX4 hown hK hP (mIx_0 (by decide)) rfl rfl 6 (by decide) hf13 rfl dX4_at_30 ?_
      refine lv_iload_n hx hb dX4_at_33 rfl (lv_at hl 1 rfl) ?_
      refine lv_iload_n hx hb dX4_at_34 rfl (lv_at hl 2 rfl) ?_
      refine wx_Si (w := (mw k)) (f_X4_square k M p1 p2) M [.int p1, .int p2] [.ref (k.1 0 2)] (mZok k) ⟨hx, hb, hml, hown, hts⟩ (c_X4_square l k M p1 p2 ) (va_cwS 2 hts gX4_at_X4_square rfl rfl rfl (by decide +kernel) ⟨by decide, by decide⟩) hP hK hD hZ hS rfl hl.1 rfl (Nat.le_of_ble_eq_true rfl) dX4_at_35 ⟨by decide, by decide⟩ (fun H locs hP hS => ?_)
      refine wx_iald (w := (mw k)) (g := 0) (j := 2) hx hb hK hP (mIx_0 (by decide)) 0 rfl rfl (m_sq hI c_6) dX4_at_38 ?_
      refine lv_sipush (v := 256) hx hb dX4_at_39 (by decide) ?_
      refine lv_aload_n hx hb dX4_at_42 rfl (lv_at hl 0 rfl) ?_
      refine lv_iload_n hx hb dX4_at_43 rfl (lv_at hl 1 rfl) ?_
      refine lv_iload_n hx hb dX4_at_44 rfl (lv_at hl 2 rfl) ?_
      refine wx_Vi (w := (mw k)) (f_X4_robotAt k M p1 p2) M [.int p1, .int p2] [.int 256, .int (M 0 2 (f_X4_square k M p1 p2).toNatClampNeg)] (mZok k) ⟨hx, hb, hml, hown, hts⟩ (c_X4_robotAt l k M p1 p2 hI) (cwV 2 hts gX4_at_X4_robotAt rfl rfl rfl (by decide +kernel) ⟨by decide, by decide⟩) (wx_recv (w := (mw k)) (g := 0) (j := 0) hK hP (mIx_0 (by decide)) rfl rfl) hP hK hD hZ hS rfl hl.1 rfl (Nat.le_of_ble_eq_true rfl) dX4_at_45 ⟨by decide, by decide⟩ (fun H locs hP hS => ?_)
      refine lv_iconst (v := 1) hx hb dX4_at_48 (by decide) ?_
      refine lv_iadd hx hb dX4_at_49 ?_
      refine lv_imul hx hb dX4_at_50 ?_
      refine lv_iadd hx hb dX4_at_51 ?_
      have e9 : f_X4_at k M p1 p2 = ((M 0 2 (f_X4_square k M p1 p2).toNatClampNeg) + (256 * ((f_X4_robotAt k M p1 p2) + 1))) := (by unfold f_X4_at; rw [if_neg c_6, if_pos c_22])
      exact wx_iret hx hb hr hlocks hP hS rfl ⟨e9.symm, rfl⟩ dX4_at_52
    · refine lv_iconst (v := (-1)) hx hb dX4_at_25 (by decide) ?_
      refine lv_goto (tgt := 52) hx hb dX4_at_26 (by decide) ?_
      have e9 : f_X4_at k M p1 p2 = (-1) := (by unfold f_X4_at; rw [if_neg c_6, if_neg c_22])
      exact wx_iret hx hb hr hlocks hP hS rfl ⟨e9.symm, rfl⟩ dX4_at_52
  · refine lv_bipush (v := (-2)) hx hb dX4_at_9 (by decide) ?_
    have e9 : f_X4_at k M p1 p2 = (-2) := (by unfold f_X4_at; rw [if_pos c_6])
    exact wx_iret hx hb hr hlocks hP hS rfl ⟨e9.symm, rfl⟩ dX4_at_11
theorem sp_in {n : Nat} {x s3 : Int32} (h : lpI 8 n x ∧ vp_in s3 8) (c : ¬ 8 ≤ x) : vp_in (8 * s3 + x) 64 := by
  obtain ⟨a, ha, rfl⟩ := vp_in_of (lpI_in h.1 c (by decide)) (by decide)
  obtain ⟨b, hb, rfl⟩ := vp_in_of h.2 (by decide)
  rw [show (8 : Int32) = nI 8 from rfl, pk_mul, nI_add]
  exact vp_in_nI (by omega) (by omega)
/-- by program: the loop at 122 of RobotWorldModel.spawn -/
def f_X4_spawn_L122 (k : MK) (s3 : Int32) : Nat → Int32 → Mem → Mem
  | 0, _, M => M
  | n + 1, x, M =>
    if 8 ≤ x then
      M
    else
      f_X4_spawn_L122 k s3 n (x + 1) (mu M 0 8 ((8 * s3) + x).toNatClampNeg 0)
set_option maxHeartbeats 4000000 in
set_option maxRecDepth 100000 in
theorem lp_X4_spawn_L122 {p : Program} {l : Launch} {e : Env} {s : State} {m : MethodId} {args : Array Value} {below : List Frame} {meth : Method} {c : Code} {Q : State → Prop} (k : MK) (s3 : Int32)  (hx : p.tables.exec = Jvm.exec) (hb : c.code = cX4_spawn) (hr : meth.sig.returnType = (some .int)) (hml : c.maxLocals = 5) (hts : ∀ x ∈ wsX4_spawn, x.before args s = true) (hown : s.vm.findClass RX4 = some m.cls) (hlocks : meth.locks = false) (hK : va_K (wD (mw k)) vwCl (wT (mw k)) s) {M0 : Mem} (hD : va_D (wA (mw k)) (wW (mw k) M0)) (hZ : wZ (mw k) (wA (mw k)) s s.heap)  : ∀ (n : Nat) (x : Int32) (M : Mem) (H : Heap) (locs : List Loc) (ls : Array Slot), lpI 8 n x ∧ vp_in s3 8 → wP (mw k) M H → va_S (wA (mw k)) s.heap H locs → lv_has ls 5 [(4, .int x), (3, .int s3), (0, .ref (k.1 0 0))] → (∀ (H : Heap) (locs : List Loc) (ls : Array Slot), wP (mw k) (f_X4_spawn_L122 k s3 n x M) H → va_S (wA (mw k)) s.heap H locs → lv_has ls 5 [(3, .int s3), (0, .ref (k.1 0 0))] → W p l e (rmK 2 44) s m args below meth c H locs 0 0 Q (F0 m 148 ls [])) → W p l e (rmK 2 44) s m args below meth c H locs 0 0 Q (F0 m 122 ls []) := by
  have hiX4 : ∀ x ∈ u_ws RX4 TX4 22, x ∈ wsX4_spawn := by decide +kernel
  have hf32 := hts (.fieldLink RX4 32 "RobotWorldModel" "registers" "[I") (by decide +kernel)
  intro n
  induction n with
  | zero =>
    intro x M H locs ls hinv
    exact absurd hinv (fun h => lpI_z h.1)
  | succ n ih =>
    intro x M H locs ls hinv hP hS hl kk
    refine lv_iload hx hb dX4_spawn_122 (lv_at hl 0 rfl) ?_
    refine lv_bipush (v := 8) hx hb dX4_spawn_124 (by decide) ?_
    refine lv_icmp_ge (tgt := 148) hx hb dX4_spawn_126 (by decide) (fun c_126 => ?_) (fun c_126 => ?_)
    · have e9 : f_X4_spawn_L122 k s3 (n + 1) x M = M := (by rw [f_X4_spawn_L122]; rw [if_pos c_126])
      rw [e9] at kk
      exact kk _ _ ls hP hS (lv_sub hl [1, 2] rfl)
    · refine lv_aload_n hx hb dX4_spawn_129 rfl (lv_at hl 2 rfl) ?_
      refine wx_get (w := (mw k)) (g := 0) (j := 0) hx hb hts hiX4 hown hK hP (mIx_0 (by decide)) rfl rfl 12 (by decide) hf32 rfl dX4_spawn_130 ?_
      refine lv_bipush (v := 8) hx hb dX4_spawn_133 (by decide) ?_
      refine lv_iload_n hx hb dX4_spawn_135 rfl (lv_at hl 1 rfl) ?_
      refine lv_imul hx hb dX4_spawn_136 ?_
      refine lv_iload hx hb dX4_spawn_137 (lv_at hl 0 rfl) ?_
      refine lv_iadd hx hb dX4_spawn_139 ?_
      refine lv_iconst (v := 0) hx hb dX4_spawn_140 (by decide) ?_
      refine wx_iast (w := (mw k)) (g := 0) (j := 8) hx hb hK hP hD hS (mIx_0 (by decide)) 0 (fun _ => rfl) rfl (sp_in hinv c_126) dX4_spawn_141 (fun H locs hP hS => ?_)
      refine lv_iinc (v := (x + 1)) (lv' := [(4, .int (x + 1)), (3, .int s3), (0, .ref (k.1 0 0))]) hx hb dX4_spawn_142 hl (k := 0) rfl rfl (by decide) rfl (fun ls hl => ?_)
      refine lv_goto (tgt := 122) hx hb dX4_spawn_145 (by decide) ?_
      have e9 : f_X4_spawn_L122 k s3 (n + 1) x M = f_X4_spawn_L122 k s3 n (x + 1) (mu M 0 8 ((8 * s3) + x).toNatClampNeg 0) := (by rw [f_X4_spawn_L122]; rw [if_neg c_126])
      exact ih (x + 1) (mu M 0 8 ((8 * s3) + x).toNatClampNeg 0) _ _ ls (⟨lpI_s hinv.1 c_126 (by decide), hinv.2⟩)  hP hS (lv_sub hl [0, 1, 2] rfl) (by rw [e9] at kk; exact kk)
/-- by program: the loop at 39 of RobotWorldModel.spawn -/
def f_X4_spawn_L39 (k : MK) (p1 : Int32) (p2 : Int32) : Nat → Int32 → Mem → Int32 × Mem
  | 0, _, M => (0, M)
  | n + 1, x, M =>
    if (M 0 0 2) ≤ x then
      ((-3), M)
    else
      if (M 0 3 x.toNatClampNeg) = 0 then
        (x, (f_X4_spawn_L122 k x (k.2.1 5) 0 (mu (mu (mu (mu (mu (mu (mu (mu (mu M 0 3 x.toNatClampNeg 1) 0 4 x.toNatClampNeg p1) 0 5 x.toNatClampNeg p2) 0 7 x.toNatClampNeg 0) 0 9 x.toNatClampNeg 0) 0 10 x.toNatClampNeg 0) 0 12 x.toNatClampNeg 0) 0 13 x.toNatClampNeg 0) 0 14 x.toNatClampNeg 0)))
      else
        f_X4_spawn_L39 k p1 p2 n (x + 1) M
set_option maxHeartbeats 4000000 in
set_option maxRecDepth 100000 in
theorem lp_X4_spawn_L39 {p : Program} {l : Launch} {e : Env} {s : State} {m : MethodId} {args : Array Value} {below : List Frame} {meth : Method} {c : Code} (k : MK) (p1 : Int32) (p2 : Int32)  (hx : p.tables.exec = Jvm.exec) (hb : c.code = cX4_spawn) (hr : meth.sig.returnType = (some .int)) (hml : c.maxLocals = 5) (hts : ∀ x ∈ wsX4_spawn, x.before args s = true) (hown : s.vm.findClass RX4 = some m.cls) (hlocks : meth.locks = false) (hK : va_K (wD (mw k)) vwCl (wT (mw k)) s) {M0 : Mem} (hD : va_D (wA (mw k)) (wW (mw k) M0)) (hZ : wZ (mw k) (wA (mw k)) s s.heap)  : ∀ (n : Nat) (x : Int32) (M : Mem) (H : Heap) (locs : List Loc) (ls : Array Slot), mI k M ∧ lpI (k.2.1 0) n x → wP (mw k) M H → va_S (wA (mw k)) s.heap H locs → lv_has ls 5 [(3, .int x), (0, .ref (k.1 0 0)), (1, .int p1), (2, .int p2)] → ∀ (post : Int32 → Mem → Prop), post (f_X4_spawn_L39 k p1 p2 n x M).1 (f_X4_spawn_L39 k p1 p2 n x M).2 → W p l e (rmK 2 44) s m args below meth c H locs 0 0 (MQ below (wQi (mw k) post) args s 0 0 (wA (mw k))) (F0 m 39 ls []) := by
  have hiX4 : ∀ x ∈ u_ws RX4 TX4 22, x ∈ wsX4_spawn := by decide +kernel
  have hf17 := hts (.fieldLink RX4 17 "RobotWorldModel" "state" "[I") (by decide +kernel)
  have hf20 := hts (.fieldLink RX4 20 "RobotWorldModel" "xs" "[I") (by decide +kernel)
  have hf23 := hts (.fieldLink RX4 23 "RobotWorldModel" "ys" "[I") (by decide +kernel)
  have hf29 := hts (.fieldLink RX4 29 "RobotWorldModel" "length" "[I") (by decide +kernel)
  have hf35 := hts (.fieldLink RX4 35 "RobotWorldModel" "place" "[I") (by decide +kernel)
  have hf38 := hts (.fieldLink RX4 38 "RobotWorldModel" "load" "[I") (by decide +kernel)
  have hf44 := hts (.fieldLink RX4 44 "RobotWorldModel" "boxed" "[I") (by decide +kernel)
  have hf47 := hts (.fieldLink RX4 47 "RobotWorldModel" "sleeps" "[I") (by decide +kernel)
  have hf50 := hts (.fieldLink RX4 50 "RobotWorldModel" "did" "[I") (by decide +kernel)
  have hf67 := hts (.fieldLink RX4 67 "RobotWorldModel" "most" "I") (by decide +kernel)
  intro n
  induction n with
  | zero =>
    intro x M H locs ls hinv
    exact absurd hinv (fun h => lpI_z h.2)
  | succ n ih =>
    intro x M H locs ls hinv hP hS hl post hpo
    refine lv_iload_n hx hb dX4_spawn_39 rfl (lv_at hl 0 rfl) ?_
    refine lv_aload_n hx hb dX4_spawn_40 rfl (lv_at hl 1 rfl) ?_
    refine wx_get (w := (mw k)) (g := 0) (j := 0) hx hb hts hiX4 hown hK hP (mIx_0 (by decide)) rfl rfl 2 (by decide) hf67 rfl dX4_spawn_41 ?_
    refine lv_icmp_ge (tgt := 156) hx hb dX4_spawn_44 (by decide) (fun c_44 => ?_) (fun c_44 => ?_)
    · refine lv_bipush (v := (-3)) hx hb dX4_spawn_156 (by decide) ?_
      have e9 : f_X4_spawn_L39 k p1 p2 (n + 1) x M = ((-3), M) := (by rw [f_X4_spawn_L39]; rw [if_pos c_44])
      exact wx_iret hx hb hr hlocks hP hS rfl (by rw [e9] at hpo; exact hpo) dX4_spawn_158
    · refine lv_aload_n hx hb dX4_spawn_47 rfl (lv_at hl 1 rfl) ?_
      refine wx_get (w := (mw k)) (g := 0) (j := 0) hx hb hts hiX4 hown hK hP (mIx_0 (by decide)) rfl rfl 7 (by decide) hf17 rfl dX4_spawn_48 ?_
      refine lv_iload_n hx hb dX4_spawn_51 rfl (lv_at hl 0 rfl) ?_
      refine wx_iald (w := (mw k)) (g := 0) (j := 3) hx hb hK hP (mIx_0 (by decide)) 0 rfl rfl (m8 hinv.1 (mlp_in hinv c_44)) dX4_spawn_52 ?_
      refine lv_if_ne (tgt := 150) hx hb dX4_spawn_53 (by decide) (fun c_53 => ?_) (fun c_53 => ?_)
      · refine lv_iinc (v := (x + 1)) (lv' := [(3, .int (x + 1)), (0, .ref (k.1 0 0)), (1, .int p1), (2, .int p2)]) hx hb dX4_spawn_150 hl (k := 0) rfl rfl (by decide) rfl (fun ls hl => ?_)
        refine lv_goto (tgt := 39) hx hb dX4_spawn_153 (by decide) ?_
        have e9 : f_X4_spawn_L39 k p1 p2 (n + 1) x M = f_X4_spawn_L39 k p1 p2 n (x + 1) M := (by rw [f_X4_spawn_L39]; rw [if_neg c_44, if_neg c_53])
        exact ih (x + 1) M _ _ ls (⟨hinv.1, mlp_s hinv c_44⟩)  hP hS (lv_sub hl [0, 1, 2, 3] rfl) _ (by rw [e9] at hpo; exact hpo)
      · refine lv_aload_n hx hb dX4_spawn_56 rfl (lv_at hl 1 rfl) ?_
        refine wx_get (w := (mw k)) (g := 0) (j := 0) hx hb hts hiX4 hown hK hP (mIx_0 (by decide)) rfl rfl 7 (by decide) hf17 rfl dX4_spawn_57 ?_
        refine lv_iload_n hx hb dX4_spawn_60 rfl (lv_at hl 0 rfl) ?_
        refine lv_iconst (v := 1) hx hb dX4_spawn_61 (by decide) ?_
        refine wx_iast (w := (mw k)) (g := 0) (j := 3) hx hb hK hP hD hS (mIx_0 (by decide)) 0 (fun _ => rfl) rfl (m8 hinv.1 (mlp_in hinv c_44)) dX4_spawn_62 (fun H locs hP hS => ?_)
        refine lv_aload_n hx hb dX4_spawn_63 rfl (lv_at hl 1 rfl) ?_
        refine wx_get (w := (mw k)) (g := 0) (j := 0) hx hb hts hiX4 hown hK hP (mIx_0 (by decide)) rfl rfl 8 (by decide) hf20 rfl dX4_spawn_64 ?_
        refine lv_iload_n hx hb dX4_spawn_67 rfl (lv_at hl 0 rfl) ?_
        refine lv_iload_n hx hb dX4_spawn_68 rfl (lv_at hl 2 rfl) ?_
        refine wx_iast (w := (mw k)) (g := 0) (j := 4) hx hb hK hP hD hS (mIx_0 (by decide)) 0 (fun _ => rfl) rfl (m8 hinv.1 (mlp_in hinv c_44)) dX4_spawn_69 (fun H locs hP hS => ?_)
        refine lv_aload_n hx hb dX4_spawn_70 rfl (lv_at hl 1 rfl) ?_
        refine wx_get (w := (mw k)) (g := 0) (j := 0) hx hb hts hiX4 hown hK hP (mIx_0 (by decide)) rfl rfl 9 (by decide) hf23 rfl dX4_spawn_71 ?_
        refine lv_iload_n hx hb dX4_spawn_74 rfl (lv_at hl 0 rfl) ?_
        refine lv_iload_n hx hb dX4_spawn_75 rfl (lv_at hl 3 rfl) ?_
        refine wx_iast (w := (mw k)) (g := 0) (j := 5) hx hb hK hP hD hS (mIx_0 (by decide)) 0 (fun _ => rfl) rfl (m8 hinv.1 (mlp_in hinv c_44)) dX4_spawn_76 (fun H locs hP hS => ?_)
        refine lv_aload_n hx hb dX4_spawn_77 rfl (lv_at hl 1 rfl) ?_
        refine wx_get (w := (mw k)) (g := 0) (j := 0) hx hb hts hiX4 hown hK hP (mIx_0 (by decide)) rfl rfl 11 (by decide) hf29 rfl dX4_spawn_78 ?_
        refine lv_iload_n hx hb dX4_spawn_81 rfl (lv_at hl 0 rfl) ?_
        refine lv_iconst (v := 0) hx hb dX4_spawn_82 (by decide) ?_
        refine wx_iast (w := (mw k)) (g := 0) (j := 7) hx hb hK hP hD hS (mIx_0 (by decide)) 0 (fun _ => rfl) rfl (m8 hinv.1 (mlp_in hinv c_44)) dX4_spawn_83 (fun H locs hP hS => ?_)
        refine lv_aload_n hx hb dX4_spawn_84 rfl (lv_at hl 1 rfl) ?_
        refine wx_get (w := (mw k)) (g := 0) (j := 0) hx hb hts hiX4 hown hK hP (mIx_0 (by decide)) rfl rfl 13 (by decide) hf35 rfl dX4_spawn_85 ?_
        refine lv_iload_n hx hb dX4_spawn_88 rfl (lv_at hl 0 rfl) ?_
        refine lv_iconst (v := 0) hx hb dX4_spawn_89 (by decide) ?_
        refine wx_iast (w := (mw k)) (g := 0) (j := 9) hx hb hK hP hD hS (mIx_0 (by decide)) 0 (fun _ => rfl) rfl (m8 hinv.1 (mlp_in hinv c_44)) dX4_spawn_90 (fun H locs hP hS => ?_)
        refine lv_aload_n hx hb dX4_spawn_91 rfl (lv_at hl 1 rfl) ?_
        refine wx_get (w := (mw k)) (g := 0) (j := 0) hx hb hts hiX4 hown hK hP (mIx_0 (by decide)) rfl rfl 14 (by decide) hf38 rfl dX4_spawn_92 ?_
        refine lv_iload_n hx hb dX4_spawn_95 rfl (lv_at hl 0 rfl) ?_
        refine lv_iconst (v := 0) hx hb dX4_spawn_96 (by decide) ?_
        refine wx_iast (w := (mw k)) (g := 0) (j := 10) hx hb hK hP hD hS (mIx_0 (by decide)) 0 (fun _ => rfl) rfl (m8 hinv.1 (mlp_in hinv c_44)) dX4_spawn_97 (fun H locs hP hS => ?_)
        refine lv_aload_n hx hb dX4_spawn_98 rfl (lv_at hl 1 rfl) ?_
        refine wx_get (w := (mw k)) (g := 0) (j := 0) hx hb hts hiX4 hown hK hP (mIx_0 (by decide)) rfl rfl 16 (by decide) hf44 rfl dX4_spawn_99 ?_
        refine lv_iload_n hx hb dX4_spawn_102 rfl (lv_at hl 0 rfl) ?_
        refine lv_iconst (v := 0) hx hb dX4_spawn_103 (by decide) ?_
        refine wx_iast (w := (mw k)) (g := 0) (j := 12) hx hb hK hP hD hS (mIx_0 (by decide)) 0 (fun _ => rfl) rfl (m8 hinv.1 (mlp_in hinv c_44)) dX4_spawn_104 (fun H locs hP hS => ?_)
        refine lv_aload_n hx hb dX4_spawn_105 rfl (lv_at hl 1 rfl) ?_
        refine wx_get (w := (mw k)) (g := 0) (j := 0) hx hb hts hiX4 hown hK hP (mIx_0 (by decide)) rfl rfl 17 (by decide) hf47 rfl dX4_spawn_106 ?_
        refine lv_iload_n hx hb dX4_spawn_109 rfl (lv_at hl 0 rfl) ?_
        refine lv_iconst (v := 0) hx hb dX4_spawn_110 (by decide) ?_
        refine wx_iast (w := (mw k)) (g := 0) (j := 13) hx hb hK hP hD hS (mIx_0 (by decide)) 0 (fun _ => rfl) rfl (m8 hinv.1 (mlp_in hinv c_44)) dX4_spawn_111 (fun H locs hP hS => ?_)
        refine lv_aload_n hx hb dX4_spawn_112 rfl (lv_at hl 1 rfl) ?_
        refine wx_get (w := (mw k)) (g := 0) (j := 0) hx hb hts hiX4 hown hK hP (mIx_0 (by decide)) rfl rfl 18 (by decide) hf50 rfl dX4_spawn_113 ?_
        refine lv_iload_n hx hb dX4_spawn_116 rfl (lv_at hl 0 rfl) ?_
        refine lv_iconst (v := 0) hx hb dX4_spawn_117 (by decide) ?_
        refine wx_iast (w := (mw k)) (g := 0) (j := 14) hx hb hK hP hD hS (mIx_0 (by decide)) 0 (fun _ => rfl) rfl (m8 hinv.1 (mlp_in hinv c_44)) dX4_spawn_118 (fun H locs hP hS => ?_)
        refine lv_iconst (v := 0) hx hb dX4_spawn_119 (by decide) ?_
        refine lv_istore (lv' := [(4, .int 0), (3, .int x), (0, .ref (k.1 0 0)), (1, .int p1), (2, .int p2)]) hx hb dX4_spawn_120 hl (by decide) rfl (fun ls hl => ?_)
        refine lp_X4_spawn_L122 k x hx hb hr hml hts hown hlocks hK hD hZ (k.2.1 5) 0 (mu (mu (mu (mu (mu (mu (mu (mu (mu M 0 3 x.toNatClampNeg 1) 0 4 x.toNatClampNeg p1) 0 5 x.toNatClampNeg p2) 0 7 x.toNatClampNeg 0) 0 9 x.toNatClampNeg 0) 0 10 x.toNatClampNeg 0) 0 12 x.toNatClampNeg 0) 0 13 x.toNatClampNeg 0) 0 14 x.toNatClampNeg 0) _ _ ls (⟨lpF (mI_F hinv.1) (by decide), m8 hinv.1 (mlp_in hinv c_44)⟩) hP hS (lv_sub hl [0, 1, 2] rfl) (fun H locs ls hP hS hl => ?_)
        refine lv_iload_n hx hb dX4_spawn_148 rfl (lv_at hl 0 rfl) ?_
        have e9 : f_X4_spawn_L39 k p1 p2 (n + 1) x M = (x, (f_X4_spawn_L122 k x (k.2.1 5) 0 (mu (mu (mu (mu (mu (mu (mu (mu (mu M 0 3 x.toNatClampNeg 1) 0 4 x.toNatClampNeg p1) 0 5 x.toNatClampNeg p2) 0 7 x.toNatClampNeg 0) 0 9 x.toNatClampNeg 0) 0 10 x.toNatClampNeg 0) 0 12 x.toNatClampNeg 0) 0 13 x.toNatClampNeg 0) 0 14 x.toNatClampNeg 0))) := (by rw [f_X4_spawn_L39]; rw [if_neg c_44, if_pos c_53])
        exact wx_iret hx hb hr hlocks hP hS rfl (by rw [e9] at hpo; exact hpo) dX4_spawn_149
/-- by program, from the bytecode of RobotWorldModel.spawn -/
def f_X4_spawn (k : MK) (M : Mem) (p1 : Int32) (p2 : Int32) : Int32 × Mem :=
  if (f_X4_isInside k M p1 p2) = 0 then
    ((-2), M)
  else
    if (M 0 1 (f_X4_square k M p1 p2).toNatClampNeg) = 0 then
      if (f_X4_robotAt k M p1 p2) < 0 then
        f_X4_spawn_L39 k p1 p2 (k.2.1 0 + 1) 0 M
      else
        ((-4), M)
    else
      ((-2), M)
set_option maxHeartbeats 4000000 in
set_option maxRecDepth 100000 in
theorem c_X4_spawn (l : Launch) (k : MK) (M : Mem) (p1 : Int32) (p2 : Int32) (hI : mI k M) : Met l yX4_spawn wsX4_spawn (rmK 2 44) (wPc (mw k) M [.ref (k.1 0 0), .int p1, .int p2]) (wQi (mw k) (fun r u => r = (f_X4_spawn k M p1 p2).1 ∧ u = (f_X4_spawn k M p1 p2).2)) 0 0 (wA (mw k)) := by
  refine wx_met (cc := cX4_spawn) (maxL := 5) (ret := (some .int)) (by decide) rfl (Nat.le_of_ble_eq_true rfl) ?_
  intro p e s m below meth c ls hx hb hr hml hts hown hlocks hP hK hD hZ hS hl
  have hown : s.vm.findClass RX4 = some m.cls := hown
  have hl : lv_has ls 5 [(0, .ref (k.1 0 0)), (1, .int p1), (2, .int p2)] := hl
  have hiX4 : ∀ x ∈ u_ws RX4 TX4 22, x ∈ wsX4_spawn := by decide +kernel
  have hf7 := hts (.fieldLink RX4 7 "RobotWorldModel" "isWall" "[Z") (by decide +kernel)
  refine lv_aload_n hx hb dX4_spawn_0 rfl (lv_at hl 0 rfl) ?_
  refine lv_iload_n hx hb dX4_spawn_1 rfl (lv_at hl 1 rfl) ?_
  refine lv_iload_n hx hb dX4_spawn_2 rfl (lv_at hl 2 rfl) ?_
  refine wx_Vi (w := (mw k)) (f_X4_isInside k M p1 p2) M [.int p1, .int p2] [] (mZok k) ⟨hx, hb, hml, hown, hts⟩ (c_X4_isInside l k M p1 p2 ) (cwV 2 hts gX4_spawn_X4_isInside rfl rfl rfl (by decide +kernel) ⟨by decide, by decide⟩) (wx_recv (w := (mw k)) (g := 0) (j := 0) hK hP (mIx_0 (by decide)) rfl rfl) hP hK hD hZ hS rfl hl.1 rfl (Nat.le_of_ble_eq_true rfl) dX4_spawn_3 ⟨by decide, by decide⟩ (fun H locs hP hS => ?_)
  refine lv_if_eq (tgt := 22) hx hb dX4_spawn_6 (by decide) (fun c_6 => ?_) (fun c_6 => ?_)
  · refine lv_bipush (v := (-2)) hx hb dX4_spawn_22 (by decide) ?_
    have e9 : f_X4_spawn k M p1 p2 = ((-2), M) := (by unfold f_X4_spawn; rw [if_pos c_6])
    exact wx_iret hx hb hr hlocks hP hS rfl ⟨by rw [e9], by rw [e9]⟩ dX4_spawn_24
  · refine lv_aload_n hx hb dX4_spawn_9 rfl (lv_at hl 0 rfl) ?_
    refine wx_get (w := (mw k)) (g := 0) (j := 0) hx hb hts hiX4 hown hK hP (mIx_0 (by decide)) rfl rfl 5 (by decide) hf7 rfl dX4_spawn_10 ?_
    refine lv_iload_n hx hb dX4_spawn_13 rfl (lv_at hl 1 rfl) ?_
    refine lv_iload_n hx hb dX4_spawn_14 rfl (lv_at hl 2 rfl) ?_
    refine wx_Si (w := (mw k)) (f_X4_square k M p1 p2) M [.int p1, .int p2] [.ref (k.1 0 1)] (mZok k) ⟨hx, hb, hml, hown, hts⟩ (c_X4_square l k M p1 p2 ) (va_cwS 2 hts gX4_spawn_X4_square rfl rfl rfl (by decide +kernel) ⟨by decide, by decide⟩) hP hK hD hZ hS rfl hl.1 rfl (Nat.le_of_ble_eq_true rfl) dX4_spawn_15 ⟨by decide, by decide⟩ (fun H locs hP hS => ?_)
    refine wx_zald (w := (mw k)) (g := 0) (j := 1) hx hb hK hP (mIx_0 (by decide)) 1 rfl rfl (m_sq hI c_6) dX4_spawn_18 ?_
    refine lv_if_eq (tgt := 25) hx hb dX4_spawn_19 (by decide) (fun c_19 => ?_) (fun c_19 => ?_)
    · refine lv_aload_n hx hb dX4_spawn_25 rfl (lv_at hl 0 rfl) ?_
      refine lv_iload_n hx hb dX4_spawn_26 rfl (lv_at hl 1 rfl) ?_
      refine lv_iload_n hx hb dX4_spawn_27 rfl (lv_at hl 2 rfl) ?_
      refine wx_Vi (w := (mw k)) (f_X4_robotAt k M p1 p2) M [.int p1, .int p2] [] (mZok k) ⟨hx, hb, hml, hown, hts⟩ (c_X4_robotAt l k M p1 p2 hI) (cwV 2 hts gX4_spawn_X4_robotAt rfl rfl rfl (by decide +kernel) ⟨by decide, by decide⟩) (wx_recv (w := (mw k)) (g := 0) (j := 0) hK hP (mIx_0 (by decide)) rfl rfl) hP hK hD hZ hS rfl hl.1 rfl (Nat.le_of_ble_eq_true rfl) dX4_spawn_28 ⟨by decide, by decide⟩ (fun H locs hP hS => ?_)
      refine lv_if_lt (tgt := 37) hx hb dX4_spawn_31 (by decide) (fun c_31 => ?_) (fun c_31 => ?_)
      · refine lv_iconst (v := 0) hx hb dX4_spawn_37 (by decide) ?_
        refine lv_istore_n (lv' := [(3, .int 0), (0, .ref (k.1 0 0)), (1, .int p1), (2, .int p2)]) hx hb dX4_spawn_38 rfl hl (by decide) rfl (fun ls hl => ?_)
        have e9 : f_X4_spawn k M p1 p2 = f_X4_spawn_L39 k p1 p2 (k.2.1 0 + 1) 0 M := (by unfold f_X4_spawn; rw [if_neg c_6, if_pos c_19, if_pos c_31])
        exact lp_X4_spawn_L39 k p1 p2 hx hb hr hml hts hown hlocks hK hD hZ (k.2.1 0 + 1) 0 M _ _ ls (⟨hI, lpI_i _⟩) hP hS (lv_sub hl [0, 1, 2, 3] rfl) _ ⟨by rw [e9], by rw [e9]⟩
      · refine lv_bipush (v := (-4)) hx hb dX4_spawn_34 (by decide) ?_
        have e9 : f_X4_spawn k M p1 p2 = ((-4), M) := (by unfold f_X4_spawn; rw [if_neg c_6, if_pos c_19, if_neg c_31])
        exact wx_iret hx hb hr hlocks hP hS rfl ⟨by rw [e9], by rw [e9]⟩ dX4_spawn_36
    · refine lv_bipush (v := (-2)) hx hb dX4_spawn_22 (by decide) ?_
      have e9 : f_X4_spawn k M p1 p2 = ((-2), M) := (by unfold f_X4_spawn; rw [if_neg c_6, if_neg c_19])
      exact wx_iret hx hb hr hlocks hP hS rfl ⟨by rw [e9], by rw [e9]⟩ dX4_spawn_24
/-- by program, from the bytecode of RobotWorldModel.go -/
def f_X4_go (k : MK) (M : Mem) (p1 : Int32) (p2 : Int32) : Int32 × Mem :=
  if (f_X4_isFree k M (f_X4_besideX k M (M 0 4 p1.toNatClampNeg) p2) (f_X4_besideY k M (M 0 5 p1.toNatClampNeg) p2)) = 0 then
    (0, M)
  else
    if (f_X4_robotAt k M (f_X4_besideX k M (M 0 4 p1.toNatClampNeg) p2) (f_X4_besideY k M (M 0 5 p1.toNatClampNeg) p2)) < 0 then
      (1, (mu (mu M 0 4 p1.toNatClampNeg (f_X4_besideX k M (M 0 4 p1.toNatClampNeg) p2)) 0 5 p1.toNatClampNeg (f_X4_besideY k M (M 0 5 p1.toNatClampNeg) p2)))
    else
      (2, M)
set_option maxHeartbeats 4000000 in
set_option maxRecDepth 100000 in
theorem c_X4_go (l : Launch) (k : MK) (M : Mem) (p1 : Int32) (p2 : Int32) (hI : mI k M) (h1 : vp_in p1 (k.2.1 0)) : Met l yX4_go wsX4_go (rmK 3 66) (wPc (mw k) M [.ref (k.1 0 0), .int p1, .int p2]) (wQi (mw k) (fun r u => r = (f_X4_go k M p1 p2).1 ∧ u = (f_X4_go k M p1 p2).2)) 0 0 (wA (mw k)) := by
  refine wx_met (cc := cX4_go) (maxL := 5) (ret := (some .int)) (by decide) rfl (Nat.le_of_ble_eq_true rfl) ?_
  intro p e s m below meth c ls hx hb hr hml hts hown hlocks hP hK hD hZ hS hl
  have hown : s.vm.findClass RX4 = some m.cls := hown
  have hl : lv_has ls 5 [(0, .ref (k.1 0 0)), (1, .int p1), (2, .int p2)] := hl
  have hiX4 : ∀ x ∈ u_ws RX4 TX4 22, x ∈ wsX4_go := by decide +kernel
  have hf20 := hts (.fieldLink RX4 20 "RobotWorldModel" "xs" "[I") (by decide +kernel)
  have hf23 := hts (.fieldLink RX4 23 "RobotWorldModel" "ys" "[I") (by decide +kernel)
  refine lv_aload_n hx hb dX4_go_0 rfl (lv_at hl 0 rfl) ?_
  refine wx_get (w := (mw k)) (g := 0) (j := 0) hx hb hts hiX4 hown hK hP (mIx_0 (by decide)) rfl rfl 8 (by decide) hf20 rfl dX4_go_1 ?_
  refine lv_iload_n hx hb dX4_go_4 rfl (lv_at hl 1 rfl) ?_
  refine wx_iald (w := (mw k)) (g := 0) (j := 4) hx hb hK hP (mIx_0 (by decide)) 0 rfl rfl (m8 hI h1) dX4_go_5 ?_
  refine lv_iload_n hx hb dX4_go_6 rfl (lv_at hl 2 rfl) ?_
  refine wx_Si (w := (mw k)) (f_X4_besideX k M (M 0 4 p1.toNatClampNeg) p2) M [.int (M 0 4 p1.toNatClampNeg), .int p2] [] (mZok k) ⟨hx, hb, hml, hown, hts⟩ (c_X4_besideX l k M (M 0 4 p1.toNatClampNeg) p2 ) (va_cwS 2 hts gX4_go_X4_besideX rfl rfl rfl (by decide +kernel) ⟨by decide, by decide⟩) hP hK hD hZ hS rfl hl.1 rfl (Nat.le_of_ble_eq_true rfl) dX4_go_7 ⟨by decide, by decide⟩ (fun H locs hP hS => ?_)
  refine lv_istore_n (lv' := [(3, .int (f_X4_besideX k M (M 0 4 p1.toNatClampNeg) p2)), (0, .ref (k.1 0 0)), (1, .int p1), (2, .int p2)]) hx hb dX4_go_10 rfl hl (by decide) rfl (fun ls hl => ?_)
  refine lv_aload_n hx hb dX4_go_11 rfl (lv_at hl 1 rfl) ?_
  refine wx_get (w := (mw k)) (g := 0) (j := 0) hx hb hts hiX4 hown hK hP (mIx_0 (by decide)) rfl rfl 9 (by decide) hf23 rfl dX4_go_12 ?_
  refine lv_iload_n hx hb dX4_go_15 rfl (lv_at hl 2 rfl) ?_
  refine wx_iald (w := (mw k)) (g := 0) (j := 5) hx hb hK hP (mIx_0 (by decide)) 0 rfl rfl (m8 hI h1) dX4_go_16 ?_
  refine lv_iload_n hx hb dX4_go_17 rfl (lv_at hl 3 rfl) ?_
  refine wx_Si (w := (mw k)) (f_X4_besideY k M (M 0 5 p1.toNatClampNeg) p2) M [.int (M 0 5 p1.toNatClampNeg), .int p2] [] (mZok k) ⟨hx, hb, hml, hown, hts⟩ (c_X4_besideY l k M (M 0 5 p1.toNatClampNeg) p2 ) (va_cwS 2 hts gX4_go_X4_besideY rfl rfl rfl (by decide +kernel) ⟨by decide, by decide⟩) hP hK hD hZ hS rfl hl.1 rfl (Nat.le_of_ble_eq_true rfl) dX4_go_18 ⟨by decide, by decide⟩ (fun H locs hP hS => ?_)
  refine lv_istore (lv' := [(4, .int (f_X4_besideY k M (M 0 5 p1.toNatClampNeg) p2)), (3, .int (f_X4_besideX k M (M 0 4 p1.toNatClampNeg) p2)), (0, .ref (k.1 0 0)), (1, .int p1), (2, .int p2)]) hx hb dX4_go_21 hl (by decide) rfl (fun ls hl => ?_)
  refine lv_aload_n hx hb dX4_go_23 rfl (lv_at hl 2 rfl) ?_
  refine lv_iload_n hx hb dX4_go_24 rfl (lv_at hl 1 rfl) ?_
  refine lv_iload hx hb dX4_go_25 (lv_at hl 0 rfl) ?_
  refine wx_Vi (w := (mw k)) (f_X4_isFree k M (f_X4_besideX k M (M 0 4 p1.toNatClampNeg) p2) (f_X4_besideY k M (M 0 5 p1.toNatClampNeg) p2)) M [.int (f_X4_besideX k M (M 0 4 p1.toNatClampNeg) p2), .int (f_X4_besideY k M (M 0 5 p1.toNatClampNeg) p2)] [] (mZok k) ⟨hx, hb, hml, hown, hts⟩ (c_X4_isFree l k M (f_X4_besideX k M (M 0 4 p1.toNatClampNeg) p2) (f_X4_besideY k M (M 0 5 p1.toNatClampNeg) p2) hI) (cwV 2 hts gX4_go_X4_isFree rfl rfl rfl (by decide +kernel) ⟨by decide, by decide⟩) (wx_recv (w := (mw k)) (g := 0) (j := 0) hK hP (mIx_0 (by decide)) rfl rfl) hP hK hD hZ hS rfl hl.1 rfl (Nat.le_of_ble_eq_true rfl) dX4_go_27 ⟨by decide, by decide⟩ (fun H locs hP hS => ?_)
  refine lv_if_ne (tgt := 35) hx hb dX4_go_30 (by decide) (fun c_30 => ?_) (fun c_30 => ?_)
  · refine lv_aload_n hx hb dX4_go_35 rfl (lv_at hl 2 rfl) ?_
    refine lv_iload_n hx hb dX4_go_36 rfl (lv_at hl 1 rfl) ?_
    refine lv_iload hx hb dX4_go_37 (lv_at hl 0 rfl) ?_
    refine wx_Vi (w := (mw k)) (f_X4_robotAt k M (f_X4_besideX k M (M 0 4 p1.toNatClampNeg) p2) (f_X4_besideY k M (M 0 5 p1.toNatClampNeg) p2)) M [.int (f_X4_besideX k M (M 0 4 p1.toNatClampNeg) p2), .int (f_X4_besideY k M (M 0 5 p1.toNatClampNeg) p2)] [] (mZok k) ⟨hx, hb, hml, hown, hts⟩ (c_X4_robotAt l k M (f_X4_besideX k M (M 0 4 p1.toNatClampNeg) p2) (f_X4_besideY k M (M 0 5 p1.toNatClampNeg) p2) hI) (cwV 2 hts gX4_go_X4_robotAt rfl rfl rfl (by decide +kernel) ⟨by decide, by decide⟩) (wx_recv (w := (mw k)) (g := 0) (j := 0) hK hP (mIx_0 (by decide)) rfl rfl) hP hK hD hZ hS rfl hl.1 rfl (Nat.le_of_ble_eq_true rfl) dX4_go_39 ⟨by decide, by decide⟩ (fun H locs hP hS => ?_)
    refine lv_if_lt (tgt := 47) hx hb dX4_go_42 (by decide) (fun c_42 => ?_) (fun c_42 => ?_)
    · refine lv_aload_n hx hb dX4_go_47 rfl (lv_at hl 2 rfl) ?_
      refine wx_get (w := (mw k)) (g := 0) (j := 0) hx hb hts hiX4 hown hK hP (mIx_0 (by decide)) rfl rfl 8 (by decide) hf20 rfl dX4_go_48 ?_
      refine lv_iload_n hx hb dX4_go_51 rfl (lv_at hl 3 rfl) ?_
      refine lv_iload_n hx hb dX4_go_52 rfl (lv_at hl 1 rfl) ?_
      refine wx_iast (w := (mw k)) (g := 0) (j := 4) hx hb hK hP hD hS (mIx_0 (by decide)) 0 (fun _ => rfl) rfl (m8 hI h1) dX4_go_53 (fun H locs hP hS => ?_)
      refine lv_aload_n hx hb dX4_go_54 rfl (lv_at hl 2 rfl) ?_
      refine wx_get (w := (mw k)) (g := 0) (j := 0) hx hb hts hiX4 hown hK hP (mIx_0 (by decide)) rfl rfl 9 (by decide) hf23 rfl dX4_go_55 ?_
      refine lv_iload_n hx hb dX4_go_58 rfl (lv_at hl 3 rfl) ?_
      refine lv_iload hx hb dX4_go_59 (lv_at hl 0 rfl) ?_
      refine wx_iast (w := (mw k)) (g := 0) (j := 5) hx hb hK hP hD hS (mIx_0 (by decide)) 0 (fun _ => rfl) rfl (m8 hI h1) dX4_go_61 (fun H locs hP hS => ?_)
      refine lv_iconst (v := 1) hx hb dX4_go_62 (by decide) ?_
      have e9 : f_X4_go k M p1 p2 = (1, (mu (mu M 0 4 p1.toNatClampNeg (f_X4_besideX k M (M 0 4 p1.toNatClampNeg) p2)) 0 5 p1.toNatClampNeg (f_X4_besideY k M (M 0 5 p1.toNatClampNeg) p2))) := (by unfold f_X4_go; rw [if_neg c_30, if_pos c_42])
      exact wx_iret hx hb hr hlocks hP hS rfl ⟨by rw [e9], by rw [e9]⟩ dX4_go_63
    · refine lv_iconst (v := 2) hx hb dX4_go_45 (by decide) ?_
      have e9 : f_X4_go k M p1 p2 = (2, M) := (by unfold f_X4_go; rw [if_neg c_30, if_neg c_42])
      exact wx_iret hx hb hr hlocks hP hS rfl ⟨by rw [e9], by rw [e9]⟩ dX4_go_46
  · refine lv_iconst (v := 0) hx hb dX4_go_33 (by decide) ?_
    have e9 : f_X4_go k M p1 p2 = (0, M) := (by unfold f_X4_go; rw [if_pos c_30])
    exact wx_iret hx hb hr hlocks hP hS rfl ⟨by rw [e9], by rw [e9]⟩ dX4_go_34
theorem mI_xy {k : MK} {M : Mem} {q : Nat} {x y : Int32} (hI : mI k M) (hx : vp_in x (k.2.1 1)) (hy : vp_in y (k.2.1 2)) : mI k (mu (mu M 0 4 q x) 0 5 q y) := by
  obtain ⟨⟨a0, a1, a2, a3, a4⟩, hb, ⟨z, hz, ez⟩, hr⟩ := hI
  refine ⟨⟨a0, a1, a2, a3, a4⟩, hb, ⟨z, hz, ez⟩, fun i hi => ⟨(hr i hi).1, (hr i hi).2.1, fun hp => ?_⟩⟩
  have hp' := (hr i hi).2.2 hp
  by_cases hq : i = q
  · subst hq
    rw [mu_at, if_neg (by omega), mu_at, if_pos ⟨rfl, rfl, rfl⟩, mu_at, if_pos ⟨rfl, rfl, rfl⟩]
    exact ⟨hx, hy⟩
  · rw [mu_at, if_neg (by omega), mu_at, if_neg (by omega), mu_at, if_neg (by omega), mu_at, if_neg (by omega)]
    exact hp'
theorem mI_go {k : MK} {M : Mem} {p1 p2 : Int32} (hI : mI k M) : mI k (f_X4_go k M p1 p2).2 := by
  unfold f_X4_go
  split
  · exact hI
  · rename_i c
    split
    · exact mI_xy hI (m_ins hI (m_fri c)).1 (m_ins hI (m_fri c)).2
    · exact hI
/-- by program, from the bytecode of RobotWorldModel.robotX -/
def f_X4_robotX (k : MK) (M : Mem) (p1 : Int32) : Int32 :=
  if (f_X4_isRobot k M p1) = 0 then
    (-1)
  else
    (M 0 4 p1.toNatClampNeg)
set_option maxHeartbeats 4000000 in
set_option maxRecDepth 100000 in
theorem c_X4_robotX (l : Launch) (k : MK) (M : Mem) (p1 : Int32) (hI : mI k M) : Met l yX4_robotX wsX4_robotX (rmK 2 43) (wPc (mw k) M [.ref (k.1 0 0), .int p1]) (wQi (mw k) (fun r u => r = (f_X4_robotX k M p1) ∧ u = M)) 0 0 (wA (mw k)) := by
  refine wx_met (cc := cX4_robotX) (maxL := 2) (ret := (some .int)) (by decide) rfl (Nat.le_of_ble_eq_true rfl) ?_
  intro p e s m below meth c ls hx hb hr hml hts hown hlocks hP hK hD hZ hS hl
  have hown : s.vm.findClass RX4 = some m.cls := hown
  have hl : lv_has ls 2 [(0, .ref (k.1 0 0)), (1, .int p1)] := hl
  have hiX4 : ∀ x ∈ u_ws RX4 TX4 22, x ∈ wsX4_robotX := by decide +kernel
  have hf20 := hts (.fieldLink RX4 20 "RobotWorldModel" "xs" "[I") (by decide +kernel)
  refine lv_aload_n hx hb dX4_robotX_0 rfl (lv_at hl 0 rfl) ?_
  refine lv_iload_n hx hb dX4_robotX_1 rfl (lv_at hl 1 rfl) ?_
  refine wx_Vi (w := (mw k)) (f_X4_isRobot k M p1) M [.int p1] [] (mZok k) ⟨hx, hb, hml, hown, hts⟩ (c_X4_isRobot l k M p1 hI) (cwV 1 hts gX4_robotX_X4_isRobot rfl rfl rfl (by decide +kernel) ⟨by decide, by decide⟩) (wx_recv (w := (mw k)) (g := 0) (j := 0) hK hP (mIx_0 (by decide)) rfl rfl) hP hK hD hZ hS rfl hl.1 rfl (Nat.le_of_ble_eq_true rfl) dX4_robotX_2 ⟨by decide, by decide⟩ (fun H locs hP hS => ?_)
  refine lv_if_eq (tgt := 17) hx hb dX4_robotX_5 (by decide) (fun c_5 => ?_) (fun c_5 => ?_)
  · refine lv_iconst (v := (-1)) hx hb dX4_robotX_17 (by decide) ?_
    have e9 : f_X4_robotX k M p1 = (-1) := (by unfold f_X4_robotX; rw [if_pos c_5])
    exact wx_iret hx hb hr hlocks hP hS rfl ⟨e9.symm, rfl⟩ dX4_robotX_18
  · refine lv_aload_n hx hb dX4_robotX_8 rfl (lv_at hl 0 rfl) ?_
    refine wx_get (w := (mw k)) (g := 0) (j := 0) hx hb hts hiX4 hown hK hP (mIx_0 (by decide)) rfl rfl 8 (by decide) hf20 rfl dX4_robotX_9 ?_
    refine lv_iload_n hx hb dX4_robotX_12 rfl (lv_at hl 1 rfl) ?_
    refine wx_iald (w := (mw k)) (g := 0) (j := 4) hx hb hK hP (mIx_0 (by decide)) 0 rfl rfl (m8 hI (m_rob hI c_5).1) dX4_robotX_13 ?_
    refine lv_goto (tgt := 18) hx hb dX4_robotX_14 (by decide) ?_
    have e9 : f_X4_robotX k M p1 = (M 0 4 p1.toNatClampNeg) := (by unfold f_X4_robotX; rw [if_neg c_5])
    exact wx_iret hx hb hr hlocks hP hS rfl ⟨e9.symm, rfl⟩ dX4_robotX_18
/-- by program, from the bytecode of RobotWorldModel.robotY -/
def f_X4_robotY (k : MK) (M : Mem) (p1 : Int32) : Int32 :=
  if (f_X4_isRobot k M p1) = 0 then
    (-1)
  else
    (M 0 5 p1.toNatClampNeg)
set_option maxHeartbeats 4000000 in
set_option maxRecDepth 100000 in
theorem c_X4_robotY (l : Launch) (k : MK) (M : Mem) (p1 : Int32) (hI : mI k M) : Met l yX4_robotY wsX4_robotY (rmK 2 43) (wPc (mw k) M [.ref (k.1 0 0), .int p1]) (wQi (mw k) (fun r u => r = (f_X4_robotY k M p1) ∧ u = M)) 0 0 (wA (mw k)) := by
  refine wx_met (cc := cX4_robotY) (maxL := 2) (ret := (some .int)) (by decide) rfl (Nat.le_of_ble_eq_true rfl) ?_
  intro p e s m below meth c ls hx hb hr hml hts hown hlocks hP hK hD hZ hS hl
  have hown : s.vm.findClass RX4 = some m.cls := hown
  have hl : lv_has ls 2 [(0, .ref (k.1 0 0)), (1, .int p1)] := hl
  have hiX4 : ∀ x ∈ u_ws RX4 TX4 22, x ∈ wsX4_robotY := by decide +kernel
  have hf23 := hts (.fieldLink RX4 23 "RobotWorldModel" "ys" "[I") (by decide +kernel)
  refine lv_aload_n hx hb dX4_robotY_0 rfl (lv_at hl 0 rfl) ?_
  refine lv_iload_n hx hb dX4_robotY_1 rfl (lv_at hl 1 rfl) ?_
  refine wx_Vi (w := (mw k)) (f_X4_isRobot k M p1) M [.int p1] [] (mZok k) ⟨hx, hb, hml, hown, hts⟩ (c_X4_isRobot l k M p1 hI) (cwV 1 hts gX4_robotY_X4_isRobot rfl rfl rfl (by decide +kernel) ⟨by decide, by decide⟩) (wx_recv (w := (mw k)) (g := 0) (j := 0) hK hP (mIx_0 (by decide)) rfl rfl) hP hK hD hZ hS rfl hl.1 rfl (Nat.le_of_ble_eq_true rfl) dX4_robotY_2 ⟨by decide, by decide⟩ (fun H locs hP hS => ?_)
  refine lv_if_eq (tgt := 17) hx hb dX4_robotY_5 (by decide) (fun c_5 => ?_) (fun c_5 => ?_)
  · refine lv_iconst (v := (-1)) hx hb dX4_robotY_17 (by decide) ?_
    have e9 : f_X4_robotY k M p1 = (-1) := (by unfold f_X4_robotY; rw [if_pos c_5])
    exact wx_iret hx hb hr hlocks hP hS rfl ⟨e9.symm, rfl⟩ dX4_robotY_18
  · refine lv_aload_n hx hb dX4_robotY_8 rfl (lv_at hl 0 rfl) ?_
    refine wx_get (w := (mw k)) (g := 0) (j := 0) hx hb hts hiX4 hown hK hP (mIx_0 (by decide)) rfl rfl 9 (by decide) hf23 rfl dX4_robotY_9 ?_
    refine lv_iload_n hx hb dX4_robotY_12 rfl (lv_at hl 1 rfl) ?_
    refine wx_iald (w := (mw k)) (g := 0) (j := 5) hx hb hK hP (mIx_0 (by decide)) 0 rfl rfl (m8 hI (m_rob hI c_5).1) dX4_robotY_13 ?_
    refine lv_goto (tgt := 18) hx hb dX4_robotY_14 (by decide) ?_
    have e9 : f_X4_robotY k M p1 = (M 0 5 p1.toNatClampNeg) := (by unfold f_X4_robotY; rw [if_neg c_5])
    exact wx_iret hx hb hr hlocks hP hS rfl ⟨e9.symm, rfl⟩ dX4_robotY_18
/-- by program, from the bytecode of RobotWorldModel.robotState -/
def f_X4_robotState (k : MK) (M : Mem) (p1 : Int32) : Int32 :=
  if (f_X4_in k M p1 0 ((M 0 0 2) - 1)) = 0 then
    (-1)
  else
    (M 0 3 p1.toNatClampNeg)
set_option maxHeartbeats 4000000 in
set_option maxRecDepth 100000 in
theorem c_X4_robotState (l : Launch) (k : MK) (M : Mem) (p1 : Int32) (hI : mI k M) : Met l yX4_robotState wsX4_robotState (rmK 1 22) (wPc (mw k) M [.ref (k.1 0 0), .int p1]) (wQi (mw k) (fun r u => r = (f_X4_robotState k M p1) ∧ u = M)) 0 0 (wA (mw k)) := by
  refine wx_met (cc := cX4_robotState) (maxL := 2) (ret := (some .int)) (by decide) rfl (Nat.le_of_ble_eq_true rfl) ?_
  intro p e s m below meth c ls hx hb hr hml hts hown hlocks hP hK hD hZ hS hl
  have hown : s.vm.findClass RX4 = some m.cls := hown
  have hl : lv_has ls 2 [(0, .ref (k.1 0 0)), (1, .int p1)] := hl
  have hiX4 : ∀ x ∈ u_ws RX4 TX4 22, x ∈ wsX4_robotState := by decide +kernel
  have hf17 := hts (.fieldLink RX4 17 "RobotWorldModel" "state" "[I") (by decide +kernel)
  have hf67 := hts (.fieldLink RX4 67 "RobotWorldModel" "most" "I") (by decide +kernel)
  refine lv_iload_n hx hb dX4_robotState_0 rfl (lv_at hl 1 rfl) ?_
  refine lv_iconst (v := 0) hx hb dX4_robotState_1 (by decide) ?_
  refine lv_aload_n hx hb dX4_robotState_2 rfl (lv_at hl 0 rfl) ?_
  refine wx_get (w := (mw k)) (g := 0) (j := 0) hx hb hts hiX4 hown hK hP (mIx_0 (by decide)) rfl rfl 2 (by decide) hf67 rfl dX4_robotState_3 ?_
  refine lv_iconst (v := 1) hx hb dX4_robotState_6 (by decide) ?_
  refine lv_isub hx hb dX4_robotState_7 ?_
  refine wx_Si (w := (mw k)) (f_X4_in k M p1 0 ((M 0 0 2) - 1)) M [.int p1, .int 0, .int ((M 0 0 2) - 1)] [] (mZok k) ⟨hx, hb, hml, hown, hts⟩ (c_X4_in l k M p1 0 ((M 0 0 2) - 1) ) (va_cwS 3 hts gX4_robotState_X4_in rfl rfl rfl (by decide +kernel) ⟨by decide, by decide⟩) hP hK hD hZ hS rfl hl.1 rfl (Nat.le_of_ble_eq_true rfl) dX4_robotState_8 ⟨by decide, by decide⟩ (fun H locs hP hS => ?_)
  refine lv_if_eq (tgt := 23) hx hb dX4_robotState_11 (by decide) (fun c_11 => ?_) (fun c_11 => ?_)
  · refine lv_iconst (v := (-1)) hx hb dX4_robotState_23 (by decide) ?_
    have e9 : f_X4_robotState k M p1 = (-1) := (by unfold f_X4_robotState; rw [if_pos c_11])
    exact wx_iret hx hb hr hlocks hP hS rfl ⟨e9.symm, rfl⟩ dX4_robotState_24
  · refine lv_aload_n hx hb dX4_robotState_14 rfl (lv_at hl 0 rfl) ?_
    refine wx_get (w := (mw k)) (g := 0) (j := 0) hx hb hts hiX4 hown hK hP (mIx_0 (by decide)) rfl rfl 7 (by decide) hf17 rfl dX4_robotState_15 ?_
    refine lv_iload_n hx hb dX4_robotState_18 rfl (lv_at hl 1 rfl) ?_
    refine wx_iald (w := (mw k)) (g := 0) (j := 3) hx hb hK hP (mIx_0 (by decide)) 0 rfl rfl (m8 hI (m_in hI c_11)) dX4_robotState_19 ?_
    refine lv_goto (tgt := 24) hx hb dX4_robotState_20 (by decide) ?_
    have e9 : f_X4_robotState k M p1 = (M 0 3 p1.toNatClampNeg) := (by unfold f_X4_robotState; rw [if_neg c_11])
    exact wx_iret hx hb hr hlocks hP hS rfl ⟨e9.symm, rfl⟩ dX4_robotState_24
theorem rg_8 {k : MK} {M : Mem} {x y : Int32} (hI : mI k M) (hx : vp_in x (k.2.1 0)) (c : ¬ f_X4_in k M y 0 7 = 0) : vp_in (8 * x + y) 64 := by
  obtain ⟨-, ⟨b1, b2, b3, b4, b5, b6, b7, b8, b9, b10⟩, -⟩ := hI
  obtain ⟨i, hi, rfl⟩ := vp_in_of hx (by omega)
  unfold f_X4_in at c
  by_cases c1 : y < 0
  · simp [c1] at c
  by_cases c2 : 7 < y
  · simp [c1, c2] at c
  obtain ⟨a, ha, rfl⟩ := vp_in_of (vin (n := 8) c1 (fun q => c2 (Int32.lt_of_lt_of_le (show (7 : Int32) < nI 8 by decide) q)) (by decide)) (by decide)
  rw [show (8 : Int32) = nI 8 from rfl, pk_mul, nI_add]
  exact vp_in_nI (by omega) (by omega)
/-- by program, from the bytecode of RobotWorldModel.reg -/
def f_X4_reg (k : MK) (M : Mem) (p1 : Int32) (p2 : Int32) : Int32 :=
  if (f_X4_isRobot k M p1) = 0 then
    0
  else
    if p2 = 8 then
      (M 0 9 p1.toNatClampNeg)
    else
      if p2 = 9 then
        (M 0 10 p1.toNatClampNeg)
      else
        if p2 = 10 then
          (M 0 12 p1.toNatClampNeg)
        else
          if p2 = 11 then
            (M 0 7 p1.toNatClampNeg)
          else
            if p2 = 12 then
              (M 0 14 p1.toNatClampNeg)
            else
              if p2 = 13 then
                if (M 0 3 p1.toNatClampNeg) = 3 then
                  (M 0 13 p1.toNatClampNeg)
                else
                  0
              else
                if (f_X4_in k M p2 0 7) = 0 then
                  0
                else
                  (M 0 8 ((8 * p1) + p2).toNatClampNeg)
set_option maxHeartbeats 4000000 in
set_option maxRecDepth 100000 in
theorem c_X4_reg (l : Launch) (k : MK) (M : Mem) (p1 : Int32) (p2 : Int32) (hI : mI k M) : Met l yX4_reg wsX4_reg (rmK 2 43) (wPc (mw k) M [.ref (k.1 0 0), .int p1, .int p2]) (wQi (mw k) (fun r u => r = (f_X4_reg k M p1 p2) ∧ u = M)) 0 0 (wA (mw k)) := by
  refine wx_met (cc := cX4_reg) (maxL := 3) (ret := (some .int)) (by decide) rfl (Nat.le_of_ble_eq_true rfl) ?_
  intro p e s m below meth c ls hx hb hr hml hts hown hlocks hP hK hD hZ hS hl
  have hown : s.vm.findClass RX4 = some m.cls := hown
  have hl : lv_has ls 3 [(0, .ref (k.1 0 0)), (1, .int p1), (2, .int p2)] := hl
  have hiX4 : ∀ x ∈ u_ws RX4 TX4 22, x ∈ wsX4_reg := by decide +kernel
  have hf17 := hts (.fieldLink RX4 17 "RobotWorldModel" "state" "[I") (by decide +kernel)
  have hf29 := hts (.fieldLink RX4 29 "RobotWorldModel" "length" "[I") (by decide +kernel)
  have hf32 := hts (.fieldLink RX4 32 "RobotWorldModel" "registers" "[I") (by decide +kernel)
  have hf35 := hts (.fieldLink RX4 35 "RobotWorldModel" "place" "[I") (by decide +kernel)
  have hf38 := hts (.fieldLink RX4 38 "RobotWorldModel" "load" "[I") (by decide +kernel)
  have hf44 := hts (.fieldLink RX4 44 "RobotWorldModel" "boxed" "[I") (by decide +kernel)
  have hf47 := hts (.fieldLink RX4 47 "RobotWorldModel" "sleeps" "[I") (by decide +kernel)
  have hf50 := hts (.fieldLink RX4 50 "RobotWorldModel" "did" "[I") (by decide +kernel)
  refine lv_aload_n hx hb dX4_reg_0 rfl (lv_at hl 0 rfl) ?_
  refine lv_iload_n hx hb dX4_reg_1 rfl (lv_at hl 1 rfl) ?_
  refine wx_Vi (w := (mw k)) (f_X4_isRobot k M p1) M [.int p1] [] (mZok k) ⟨hx, hb, hml, hown, hts⟩ (c_X4_isRobot l k M p1 hI) (cwV 1 hts gX4_reg_X4_isRobot rfl rfl rfl (by decide +kernel) ⟨by decide, by decide⟩) (wx_recv (w := (mw k)) (g := 0) (j := 0) hK hP (mIx_0 (by decide)) rfl rfl) hP hK hD hZ hS rfl hl.1 rfl (Nat.le_of_ble_eq_true rfl) dX4_reg_2 ⟨by decide, by decide⟩ (fun H locs hP hS => ?_)
  refine lv_if_ne (tgt := 10) hx hb dX4_reg_5 (by decide) (fun c_5 => ?_) (fun c_5 => ?_)
  · refine lv_iload_n hx hb dX4_reg_10 rfl (lv_at hl 2 rfl) ?_
    by_cases e_11_8 : p2 = 8
    · refine lv_tableIn (tgt := 48) hx hb dX4_reg_11 (by rw [e_11_8]; decide) (by rw [e_11_8]; decide) (by rw [e_11_8]; rfl) (by decide) ?_
      refine lv_aload_n hx hb dX4_reg_48 rfl (lv_at hl 0 rfl) ?_
      refine wx_get (w := (mw k)) (g := 0) (j := 0) hx hb hts hiX4 hown hK hP (mIx_0 (by decide)) rfl rfl 13 (by decide) hf35 rfl dX4_reg_49 ?_
      refine lv_iload_n hx hb dX4_reg_52 rfl (lv_at hl 1 rfl) ?_
      refine wx_iald (w := (mw k)) (g := 0) (j := 9) hx hb hK hP (mIx_0 (by decide)) 0 rfl rfl (m8 hI (m_rob hI c_5).1) dX4_reg_53 ?_
      have e9 : f_X4_reg k M p1 p2 = (M 0 9 p1.toNatClampNeg) := (by unfold f_X4_reg; rw [if_neg c_5, if_pos e_11_8])
      exact wx_iret hx hb hr hlocks hP hS rfl ⟨e9.symm, rfl⟩ dX4_reg_54
    by_cases e_11_9 : p2 = 9
    · refine lv_tableIn (tgt := 55) hx hb dX4_reg_11 (by rw [e_11_9]; decide) (by rw [e_11_9]; decide) (by rw [e_11_9]; rfl) (by decide) ?_
      refine lv_aload_n hx hb dX4_reg_55 rfl (lv_at hl 0 rfl) ?_
      refine wx_get (w := (mw k)) (g := 0) (j := 0) hx hb hts hiX4 hown hK hP (mIx_0 (by decide)) rfl rfl 14 (by decide) hf38 rfl dX4_reg_56 ?_
      refine lv_iload_n hx hb dX4_reg_59 rfl (lv_at hl 1 rfl) ?_
      refine wx_iald (w := (mw k)) (g := 0) (j := 10) hx hb hK hP (mIx_0 (by decide)) 0 rfl rfl (m8 hI (m_rob hI c_5).1) dX4_reg_60 ?_
      have e9 : f_X4_reg k M p1 p2 = (M 0 10 p1.toNatClampNeg) := (by unfold f_X4_reg; rw [if_neg c_5, if_neg e_11_8, if_pos e_11_9])
      exact wx_iret hx hb hr hlocks hP hS rfl ⟨e9.symm, rfl⟩ dX4_reg_61
    by_cases e_11_10 : p2 = 10
    · refine lv_tableIn (tgt := 62) hx hb dX4_reg_11 (by rw [e_11_10]; decide) (by rw [e_11_10]; decide) (by rw [e_11_10]; rfl) (by decide) ?_
      refine lv_aload_n hx hb dX4_reg_62 rfl (lv_at hl 0 rfl) ?_
      refine wx_get (w := (mw k)) (g := 0) (j := 0) hx hb hts hiX4 hown hK hP (mIx_0 (by decide)) rfl rfl 16 (by decide) hf44 rfl dX4_reg_63 ?_
      refine lv_iload_n hx hb dX4_reg_66 rfl (lv_at hl 1 rfl) ?_
      refine wx_iald (w := (mw k)) (g := 0) (j := 12) hx hb hK hP (mIx_0 (by decide)) 0 rfl rfl (m8 hI (m_rob hI c_5).1) dX4_reg_67 ?_
      have e9 : f_X4_reg k M p1 p2 = (M 0 12 p1.toNatClampNeg) := (by unfold f_X4_reg; rw [if_neg c_5, if_neg e_11_8, if_neg e_11_9, if_pos e_11_10])
      exact wx_iret hx hb hr hlocks hP hS rfl ⟨e9.symm, rfl⟩ dX4_reg_68
    by_cases e_11_11 : p2 = 11
    · refine lv_tableIn (tgt := 69) hx hb dX4_reg_11 (by rw [e_11_11]; decide) (by rw [e_11_11]; decide) (by rw [e_11_11]; rfl) (by decide) ?_
      refine lv_aload_n hx hb dX4_reg_69 rfl (lv_at hl 0 rfl) ?_
      refine wx_get (w := (mw k)) (g := 0) (j := 0) hx hb hts hiX4 hown hK hP (mIx_0 (by decide)) rfl rfl 11 (by decide) hf29 rfl dX4_reg_70 ?_
      refine lv_iload_n hx hb dX4_reg_73 rfl (lv_at hl 1 rfl) ?_
      refine wx_iald (w := (mw k)) (g := 0) (j := 7) hx hb hK hP (mIx_0 (by decide)) 0 rfl rfl (m8 hI (m_rob hI c_5).1) dX4_reg_74 ?_
      have e9 : f_X4_reg k M p1 p2 = (M 0 7 p1.toNatClampNeg) := (by unfold f_X4_reg; rw [if_neg c_5, if_neg e_11_8, if_neg e_11_9, if_neg e_11_10, if_pos e_11_11])
      exact wx_iret hx hb hr hlocks hP hS rfl ⟨e9.symm, rfl⟩ dX4_reg_75
    by_cases e_11_12 : p2 = 12
    · refine lv_tableIn (tgt := 76) hx hb dX4_reg_11 (by rw [e_11_12]; decide) (by rw [e_11_12]; decide) (by rw [e_11_12]; rfl) (by decide) ?_
      refine lv_aload_n hx hb dX4_reg_76 rfl (lv_at hl 0 rfl) ?_
      refine wx_get (w := (mw k)) (g := 0) (j := 0) hx hb hts hiX4 hown hK hP (mIx_0 (by decide)) rfl rfl 18 (by decide) hf50 rfl dX4_reg_77 ?_
      refine lv_iload_n hx hb dX4_reg_80 rfl (lv_at hl 1 rfl) ?_
      refine wx_iald (w := (mw k)) (g := 0) (j := 14) hx hb hK hP (mIx_0 (by decide)) 0 rfl rfl (m8 hI (m_rob hI c_5).1) dX4_reg_81 ?_
      have e9 : f_X4_reg k M p1 p2 = (M 0 14 p1.toNatClampNeg) := (by unfold f_X4_reg; rw [if_neg c_5, if_neg e_11_8, if_neg e_11_9, if_neg e_11_10, if_neg e_11_11, if_pos e_11_12])
      exact wx_iret hx hb hr hlocks hP hS rfl ⟨e9.symm, rfl⟩ dX4_reg_82
    by_cases e_11_13 : p2 = 13
    · refine lv_tableIn (tgt := 83) hx hb dX4_reg_11 (by rw [e_11_13]; decide) (by rw [e_11_13]; decide) (by rw [e_11_13]; rfl) (by decide) ?_
      refine lv_aload_n hx hb dX4_reg_83 rfl (lv_at hl 0 rfl) ?_
      refine wx_get (w := (mw k)) (g := 0) (j := 0) hx hb hts hiX4 hown hK hP (mIx_0 (by decide)) rfl rfl 7 (by decide) hf17 rfl dX4_reg_84 ?_
      refine lv_iload_n hx hb dX4_reg_87 rfl (lv_at hl 1 rfl) ?_
      refine wx_iald (w := (mw k)) (g := 0) (j := 3) hx hb hK hP (mIx_0 (by decide)) 0 rfl rfl (m8 hI (m_rob hI c_5).1) dX4_reg_88 ?_
      refine lv_iconst (v := 3) hx hb dX4_reg_89 (by decide) ?_
      refine lv_icmp_ne (tgt := 102) hx hb dX4_reg_90 (by decide) (fun c_90 => ?_) (fun c_90 => ?_)
      · refine lv_iconst (v := 0) hx hb dX4_reg_102 (by decide) ?_
        have e9 : f_X4_reg k M p1 p2 = 0 := (by unfold f_X4_reg; rw [if_neg c_5, if_neg e_11_8, if_neg e_11_9, if_neg e_11_10, if_neg e_11_11, if_neg e_11_12, if_pos e_11_13, if_neg c_90])
        exact wx_iret hx hb hr hlocks hP hS rfl ⟨e9.symm, rfl⟩ dX4_reg_103
      · refine lv_aload_n hx hb dX4_reg_93 rfl (lv_at hl 0 rfl) ?_
        refine wx_get (w := (mw k)) (g := 0) (j := 0) hx hb hts hiX4 hown hK hP (mIx_0 (by decide)) rfl rfl 17 (by decide) hf47 rfl dX4_reg_94 ?_
        refine lv_iload_n hx hb dX4_reg_97 rfl (lv_at hl 1 rfl) ?_
        refine wx_iald (w := (mw k)) (g := 0) (j := 13) hx hb hK hP (mIx_0 (by decide)) 0 rfl rfl (m8 hI (m_rob hI c_5).1) dX4_reg_98 ?_
        refine lv_goto (tgt := 103) hx hb dX4_reg_99 (by decide) ?_
        have e9 : f_X4_reg k M p1 p2 = (M 0 13 p1.toNatClampNeg) := (by unfold f_X4_reg; rw [if_neg c_5, if_neg e_11_8, if_neg e_11_9, if_neg e_11_10, if_neg e_11_11, if_neg e_11_12, if_pos e_11_13, if_pos c_90])
        exact wx_iret hx hb hr hlocks hP hS rfl ⟨e9.symm, rfl⟩ dX4_reg_103
    have hdf : p2.toInt < 8 ∨ 13 < p2.toInt := by have n0 := lv_neT e_11_8 (a := 8) (by decide); have n1 := lv_neT e_11_9 (a := 9) (by decide); have n2 := lv_neT e_11_10 (a := 10) (by decide); have n3 := lv_neT e_11_11 (a := 11) (by decide); have n4 := lv_neT e_11_12 (a := 12) (by decide); have n5 := lv_neT e_11_13 (a := 13) (by decide);  omega
    refine lv_tableOut (tgt := 104) hx hb dX4_reg_11 hdf (by decide) ?_
    refine lv_iload_n hx hb dX4_reg_104 rfl (lv_at hl 2 rfl) ?_
    refine lv_iconst (v := 0) hx hb dX4_reg_105 (by decide) ?_
    refine lv_bipush (v := 7) hx hb dX4_reg_106 (by decide) ?_
    refine wx_Si (w := (mw k)) (f_X4_in k M p2 0 7) M [.int p2, .int 0, .int 7] [] (mZok k) ⟨hx, hb, hml, hown, hts⟩ (c_X4_in l k M p2 0 7 ) (va_cwS 3 hts gX4_reg_X4_in rfl rfl rfl (by decide +kernel) ⟨by decide, by decide⟩) hP hK hD hZ hS rfl hl.1 rfl (Nat.le_of_ble_eq_true rfl) dX4_reg_108 ⟨by decide, by decide⟩ (fun H locs hP hS => ?_)
    refine lv_if_eq (tgt := 128) hx hb dX4_reg_111 (by decide) (fun c_111 => ?_) (fun c_111 => ?_)
    · refine lv_iconst (v := 0) hx hb dX4_reg_128 (by decide) ?_
      have e9 : f_X4_reg k M p1 p2 = 0 := (by unfold f_X4_reg; rw [if_neg c_5, if_neg e_11_8, if_neg e_11_9, if_neg e_11_10, if_neg e_11_11, if_neg e_11_12, if_neg e_11_13, if_pos c_111])
      exact wx_iret hx hb hr hlocks hP hS rfl ⟨e9.symm, rfl⟩ dX4_reg_129
    · refine lv_aload_n hx hb dX4_reg_114 rfl (lv_at hl 0 rfl) ?_
      refine wx_get (w := (mw k)) (g := 0) (j := 0) hx hb hts hiX4 hown hK hP (mIx_0 (by decide)) rfl rfl 12 (by decide) hf32 rfl dX4_reg_115 ?_
      refine lv_bipush (v := 8) hx hb dX4_reg_118 (by decide) ?_
      refine lv_iload_n hx hb dX4_reg_120 rfl (lv_at hl 1 rfl) ?_
      refine lv_imul hx hb dX4_reg_121 ?_
      refine lv_iload_n hx hb dX4_reg_122 rfl (lv_at hl 2 rfl) ?_
      refine lv_iadd hx hb dX4_reg_123 ?_
      refine wx_iald (w := (mw k)) (g := 0) (j := 8) hx hb hK hP (mIx_0 (by decide)) 0 rfl rfl (rg_8 hI (m_rob hI c_5).1 c_111) dX4_reg_124 ?_
      refine lv_goto (tgt := 129) hx hb dX4_reg_125 (by decide) ?_
      have e9 : f_X4_reg k M p1 p2 = (M 0 8 ((8 * p1) + p2).toNatClampNeg) := (by unfold f_X4_reg; rw [if_neg c_5, if_neg e_11_8, if_neg e_11_9, if_neg e_11_10, if_neg e_11_11, if_neg e_11_12, if_neg e_11_13, if_neg c_111])
      exact wx_iret hx hb hr hlocks hP hS rfl ⟨e9.symm, rfl⟩ dX4_reg_129
  · refine lv_iconst (v := 0) hx hb dX4_reg_8 (by decide) ?_
    have e9 : f_X4_reg k M p1 p2 = 0 := (by unfold f_X4_reg; rw [if_pos c_5])
    exact wx_iret hx hb hr hlocks hP hS rfl ⟨e9.symm, rfl⟩ dX4_reg_9
/-- by program, from the bytecode of RobotWorldModel.now -/
def f_X4_now (k : MK) (M : Mem)  : Int32 :=
  (M 0 0 20)
set_option maxHeartbeats 4000000 in
set_option maxRecDepth 100000 in
theorem c_X4_now (l : Launch) (k : MK) (M : Mem)   : Met l yX4_now wsX4_now (rmK 0 0) (wPc (mw k) M [.ref (k.1 0 0)]) (wQi (mw k) (fun r u => r = (f_X4_now k M) ∧ u = M)) 0 0 (wA (mw k)) := by
  refine wx_met (cc := cX4_now) (maxL := 1) (ret := (some .int)) (by decide) rfl (Nat.le_of_ble_eq_true rfl) ?_
  intro p e s m below meth c ls hx hb hr hml hts hown hlocks hP hK hD hZ hS hl
  have hown : s.vm.findClass RX4 = some m.cls := hown
  have hl : lv_has ls 1 [(0, .ref (k.1 0 0))] := hl
  have hiX4 : ∀ x ∈ u_ws RX4 TX4 22, x ∈ wsX4_now := by decide +kernel
  have hf82 := hts (.fieldLink RX4 82 "RobotWorldModel" "clock" "I") (by decide +kernel)
  refine lv_aload_n hx hb dX4_now_0 rfl (lv_at hl 0 rfl) ?_
  refine wx_get (w := (mw k)) (g := 0) (j := 0) hx hb hts hiX4 hown hK hP (mIx_0 (by decide)) rfl rfl 20 (by decide) hf82 rfl dX4_now_1 ?_
  have e9 : f_X4_now k M = (M 0 0 20) := (by rw [f_X4_now])
  exact wx_iret hx hb hr hlocks hP hS rfl ⟨e9.symm, rfl⟩ dX4_now_4
/-- by program, from the bytecode of RobotWorldModel.setClock -/
def f_X4_setClock (k : MK) (M : Mem) (p1 : Int32) : Mem :=
  (mu M 0 0 20 p1)
set_option maxHeartbeats 4000000 in
set_option maxRecDepth 100000 in
theorem c_X4_setClock (l : Launch) (k : MK) (M : Mem) (p1 : Int32)  : Met l yX4_setClock wsX4_setClock (rmK 0 0) (wPc (mw k) M [.ref (k.1 0 0), .int p1]) (wQv (mw k) (fun u => u = f_X4_setClock k M p1)) 0 0 (wA (mw k)) := by
  refine wx_met (cc := cX4_setClock) (maxL := 2) (ret := none) (by decide) rfl (Nat.le_of_ble_eq_true rfl) ?_
  intro p e s m below meth c ls hx hb hr hml hts hown hlocks hP hK hD hZ hS hl
  have hown : s.vm.findClass RX4 = some m.cls := hown
  have hl : lv_has ls 2 [(0, .ref (k.1 0 0)), (1, .int p1)] := hl
  have hiX4 : ∀ x ∈ u_ws RX4 TX4 22, x ∈ wsX4_setClock := by decide +kernel
  have hf82 := hts (.fieldLink RX4 82 "RobotWorldModel" "clock" "I") (by decide +kernel)
  refine lv_aload_n hx hb dX4_setClock_0 rfl (lv_at hl 0 rfl) ?_
  refine lv_iload_n hx hb dX4_setClock_1 rfl (lv_at hl 1 rfl) ?_
  refine wx_put (w := (mw k)) (g := 0) (j := 0) hx hb hts hiX4 tyX4 tyX4_ok nmX4 hown hK hP hD hS (mIx_0 (by decide)) rfl rfl 20 (by decide) hf82 rfl (by decide +kernel) rfl (Nat.le_of_ble_eq_true rfl) dX4_setClock_2 (fun H locs hP hS => ?_)
  have e9 : f_X4_setClock k M p1 = (mu M 0 0 20 p1) := (by rw [f_X4_setClock])
  exact wx_vret hx hb hr hlocks hP hS e9.symm dX4_setClock_5
