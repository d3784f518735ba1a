/-- by program: the loop at 2 of RobotWorldModel.measure -/
def f_X4_measure_L2 (k : MK) (p1 : Int32) (p2 : Int32) : Nat → Int32 → Mem → Mem
  | 0, _, M => M
  | n + 1, x, M =>
    if 1024 ≤ x then
      M
    else
      f_X4_measure_L2 k p1 p2 n (x + 1) (mu M 0 15 x.toNatClampNeg 100000)
set_option maxHeartbeats 4000000 in
set_option maxRecDepth 100000 in
theorem lp_X4_measure_L2 {p : Program} {l : Launch} {e : Env} {s : State} {m : MethodId} {args : Array Value} {below : List Frame} {meth : Method} {c : Code} {Q : State → Prop} (k : MK) (p1 : Int32) (p2 : Int32)  (hx : p.tables.exec = Jvm.exec) (hb : c.code = cX4_measure) (hr : meth.sig.returnType = none) (hml : c.maxLocals = 7) (hts : ∀ x ∈ wsX4_measure, x.before args s = true) (hown : s.vm.findClass RX4 = some m.cls) (hlocks : meth.locks = false) (hK : va_K (wD (mw k)) vwCl (wT (mw k)) s) {M0 : Mem} (hD : va_D (wA (mw k)) (wW (mw k) M0)) (hZ : wZ (mw k) (wA (mw k)) s s.heap)  : ∀ (n : Nat) (x : Int32) (M : Mem) (H : Heap) (locs : List Loc) (ls : Array Slot), mI k M ∧ lpI 1024 n x → wP (mw k) M H → va_S (wA (mw k)) s.heap H locs → lv_has ls 7 [(3, .int x), (0, .ref (k.1 0 0)), (1, .int p1), (2, .int p2)] → (∀ (H : Heap) (locs : List Loc) (ls : Array Slot), wP (mw k) (f_X4_measure_L2 k p1 p2 n x M) H → va_S (wA (mw k)) s.heap H locs → lv_has ls 7 [(0, .ref (k.1 0 0)), (1, .int p1), (2, .int p2)] → W p l e (rmK 4 93) s m args below meth c H locs 0 0 Q (F0 m 23 ls [])) → W p l e (rmK 4 93) s m args below meth c H locs 0 0 Q (F0 m 2 ls []) := by
  have hiX4 : ∀ x ∈ u_ws RX4 TX4 22, x ∈ wsX4_measure := by decide +kernel
  have hf53 := hts (.fieldLink RX4 53 "RobotWorldModel" "far" "[I") (by decide +kernel)
  intro n
  induction n with
  | zero =>
    intro x M H locs ls hinv
    exact absurd hinv (fun h => lpI_z h.2)
  | succ n ih =>
    intro x M H locs ls hinv hP hS hl kk
    refine lv_iload_n hx hb dX4_measure_2 rfl (lv_at hl 0 rfl) ?_
    refine lv_sipush (v := 1024) hx hb dX4_measure_3 (by decide) ?_
    refine lv_icmp_ge (tgt := 23) hx hb dX4_measure_6 (by decide) (fun c_6 => ?_) (fun c_6 => ?_)
    · have e9 : f_X4_measure_L2 k p1 p2 (n + 1) x M = M := (by rw [f_X4_measure_L2]; rw [if_pos c_6])
      rw [e9] at kk
      exact kk _ _ ls hP hS (lv_sub hl [1, 2, 3] rfl)
    · refine lv_aload_n hx hb dX4_measure_9 rfl (lv_at hl 1 rfl) ?_
      refine wx_get (w := (mw k)) (g := 0) (j := 0) hx hb hts hiX4 hown hK hP (mIx_0 (by decide)) rfl rfl 21 (by decide) hf53 rfl dX4_measure_10 ?_
      refine lv_iload_n hx hb dX4_measure_13 rfl (lv_at hl 0 rfl) ?_
      refine lv_ldc (v := 100000) hx hb hown (hts (.constant RX4 104 (100000)) (by decide +kernel)) dX4_measure_14 ?_
      refine wx_iast (w := (mw k)) (g := 0) (j := 15) hx hb hK hP hD hS (mIx_0 (by decide)) 0 (fun _ => rfl) rfl (lpI_in hinv.2 c_6 (by decide)) dX4_measure_16 (fun H locs hP hS => ?_)
      refine lv_iinc (v := (x + 1)) (lv' := [(3, .int (x + 1)), (0, .ref (k.1 0 0)), (1, .int p1), (2, .int p2)]) hx hb dX4_measure_17 hl (k := 0) rfl rfl (by decide) rfl (fun ls hl => ?_)
      refine lv_goto (tgt := 2) hx hb dX4_measure_20 (by decide) ?_
      have e9 : f_X4_measure_L2 k p1 p2 (n + 1) x M = f_X4_measure_L2 k p1 p2 n (x + 1) (mu M 0 15 x.toNatClampNeg 100000) := (by rw [f_X4_measure_L2]; rw [if_neg c_6])
      exact ih (x + 1) (mu M 0 15 x.toNatClampNeg 100000) _ _ ls (⟨mI_far hinv.1, lpI_s hinv.2 c_6 (by decide)⟩)  hP hS (lv_sub hl [0, 1, 2, 3] rfl) (by rw [e9] at kk; exact kk)
theorem mI_ms_L2 {k : MK} {p1 p2 : Int32} : ∀ (n : Nat) (x : Int32) (M : Mem), mI k M → mI k (f_X4_measure_L2 k p1 p2 n x M) := by
  intro n
  induction n with
  | zero => intro x M hI; exact hI
  | succ n ih =>
    intro x M hI
    rw [f_X4_measure_L2]
    split
    · exact hI
    · exact ih _ _ (mI_far hI)
/-- by program: the loop at 60 of RobotWorldModel.measure -/
def f_X4_measure_L60 (k : MK) (s4 : Int32) (s5 : Int32) : Nat → Int32 → Int32 → Mem → Int32 × Mem
  | 0, _, _, M => (0, M)
  | n + 1, s3, x, M =>
    if (M 0 0 0) ≤ x then
      (s3, M)
    else
      if (M 0 15 (f_X4_square k M x s5).toNatClampNeg) = s4 then
        if (f_X4_reach k M x s5 (s4 + 1)).1 = 0 then
          if s3 = 0 then
            f_X4_measure_L60 k s4 s5 n 0 (x + 1) (f_X4_reach k M x s5 (s4 + 1)).2
          else
            f_X4_measure_L60 k s4 s5 n 1 (x + 1) (f_X4_reach k M x s5 (s4 + 1)).2
        else
          f_X4_measure_L60 k s4 s5 n 1 (x + 1) (f_X4_reach k M x s5 (s4 + 1)).2
      else
        f_X4_measure_L60 k s4 s5 n s3 (x + 1) M
set_option maxHeartbeats 4000000 in
set_option maxRecDepth 100000 in
theorem lp_X4_measure_L60 {p : Program} {l : Launch} {e : Env} {s : State} {m : MethodId} {args : Array Value} {below : List Frame} {meth : Method} {c : Code} {Q : State → Prop} (k : MK) (s4 : Int32) (s5 : Int32)  (hx : p.tables.exec = Jvm.exec) (hb : c.code = cX4_measure) (hr : meth.sig.returnType = none) (hml : c.maxLocals = 7) (hts : ∀ x ∈ wsX4_measure, x.before args s = true) (hown : s.vm.findClass RX4 = some m.cls) (hlocks : meth.locks = false) (hK : va_K (wD (mw k)) vwCl (wT (mw k)) s) {M0 : Mem} (hD : va_D (wA (mw k)) (wW (mw k) M0)) (hZ : wZ (mw k) (wA (mw k)) s s.heap)  : ∀ (n : Nat) (s3 : Int32) (x : Int32) (M : Mem) (H : Heap) (locs : List Loc) (ls : Array Slot), mI k M ∧ lpI (k.2.1 1) n x ∧ vp_in s5 (k.2.1 2) → wP (mw k) M H → va_S (wA (mw k)) s.heap H locs → lv_has ls 7 [(6, .int x), (5, .int s5), (4, .int s4), (3, .int s3), (0, .ref (k.1 0 0))] → (∀ (H : Heap) (locs : List Loc) (ls : Array Slot), wP (mw k) (f_X4_measure_L60 k s4 s5 n s3 x M).2 H → va_S (wA (mw k)) s.heap H locs → lv_has ls 7 [(5, .int s5), (4, .int s4), (3, .int ((f_X4_measure_L60 k s4 s5 n s3 x M).1)), (0, .ref (k.1 0 0))] → W p l e (rmK 4 93) s m args below meth c H locs 0 0 Q (F0 m 117 ls [])) → W p l e (rmK 4 93) s m args below meth c H locs 0 0 Q (F0 m 60 ls []) := by
  have hiX4 : ∀ x ∈ u_ws RX4 TX4 22, x ∈ wsX4_measure := by decide +kernel
  have hf53 := hts (.fieldLink RX4 53 "RobotWorldModel" "far" "[I") (by decide +kernel)
  have hf60 := hts (.fieldLink RX4 60 "RobotWorldModel" "width" "I") (by decide +kernel)
  intro n
  induction n with
  | zero =>
    intro s3 x M H locs ls hinv
    exact absurd hinv (fun h => lpI_z h.2.1)
  | succ n ih =>
    intro s3 x M H locs ls hinv hP hS hl kk
    refine lv_iload hx hb dX4_measure_60 (lv_at hl 0 rfl) ?_
    refine lv_aload_n hx hb dX4_measure_62 rfl (lv_at hl 4 rfl) ?_
    refine wx_get (w := (mw k)) (g := 0) (j := 0) hx hb hts hiX4 hown hK hP (mIx_0 (by decide)) rfl rfl 0 (by decide) hf60 rfl dX4_measure_63 ?_
    refine lv_icmp_ge (tgt := 117) hx hb dX4_measure_66 (by decide) (fun c_66 => ?_) (fun c_66 => ?_)
    · have e9 : f_X4_measure_L60 k s4 s5 (n + 1) s3 x M = (s3, M) := (by rw [f_X4_measure_L60]; rw [if_pos c_66])
      rw [e9] at kk
      exact kk _ _ ls hP hS (lv_sub hl [1, 2, 3, 4] rfl)
    · refine lv_aload_n hx hb dX4_measure_69 rfl (lv_at hl 4 rfl) ?_
      refine wx_get (w := (mw k)) (g := 0) (j := 0) hx hb hts hiX4 hown hK hP (mIx_0 (by decide)) rfl rfl 21 (by decide) hf53 rfl dX4_measure_70 ?_
      refine lv_iload hx hb dX4_measure_73 (lv_at hl 0 rfl) ?_
      refine lv_iload hx hb dX4_measure_75 (lv_at hl 1 rfl) ?_
      refine wx_Si (w := (mw k)) (f_X4_square k M x s5) M [.int x, .int s5] [.ref (k.1 0 15)] (mZok k) ⟨hx, hb, hml, hown, hts⟩ (c_X4_square l k M x s5 ) (va_cwS 2 hts gX4_measure_X4_square rfl rfl rfl (by decide +kernel) ⟨by decide, by decide⟩) hP hK hD hZ hS rfl hl.1 rfl (Nat.le_of_ble_eq_true rfl) dX4_measure_77 ⟨by decide, by decide⟩ (fun H locs hP hS => ?_)
      refine wx_iald (w := (mw k)) (g := 0) (j := 15) hx hb hK hP (mIx_0 (by decide)) 0 rfl rfl (m_sqv hinv.1 (mw_in hinv.1 hinv.2.1 c_66) hinv.2.2) dX4_measure_80 ?_
      refine lv_iload hx hb dX4_measure_81 (lv_at hl 2 rfl) ?_
      refine lv_icmp_ne (tgt := 111) hx hb dX4_measure_83 (by decide) (fun c_83 => ?_) (fun c_83 => ?_)
      · refine lv_iinc (v := (x + 1)) (lv' := [(6, .int (x + 1)), (5, .int s5), (4, .int s4), (3, .int s3), (0, .ref (k.1 0 0))]) hx hb dX4_measure_111 hl (k := 0) rfl rfl (by decide) rfl (fun ls hl => ?_)
        refine lv_goto (tgt := 60) hx hb dX4_measure_114 (by decide) ?_
        have e9 : f_X4_measure_L60 k s4 s5 (n + 1) s3 x M = f_X4_measure_L60 k s4 s5 n s3 (x + 1) M := (by rw [f_X4_measure_L60]; rw [if_neg c_66, if_neg c_83])
        exact ih s3 (x + 1) M _ _ ls (by first | exact ⟨hinv.1, mw_s hinv.1 hinv.2.1 c_66, hinv.2.2⟩ | exact ⟨mI_reach hinv.1, mw_s hinv.1 hinv.2.1 c_66, hinv.2.2⟩)  hP hS (lv_sub hl [0, 1, 2, 3, 4] rfl) (by rw [e9] at kk; exact kk)
      · refine lv_aload_n hx hb dX4_measure_86 rfl (lv_at hl 4 rfl) ?_
        refine lv_iload hx hb dX4_measure_87 (lv_at hl 0 rfl) ?_
        refine lv_iload hx hb dX4_measure_89 (lv_at hl 1 rfl) ?_
        refine lv_iload hx hb dX4_measure_91 (lv_at hl 2 rfl) ?_
        refine lv_iconst (v := 1) hx hb dX4_measure_93 (by decide) ?_
        refine lv_iadd hx hb dX4_measure_94 ?_
        refine wx_Vi (w := (mw k)) ((f_X4_reach k M x s5 (s4 + 1)).1) ((f_X4_reach k M x s5 (s4 + 1)).2) [.int x, .int s5, .int (s4 + 1)] [] (mZok k) ⟨hx, hb, hml, hown, hts⟩ (c_X4_reach l k M x s5 (s4 + 1) hinv.1) (cwV 3 hts gX4_measure_X4_reach rfl rfl rfl (by decide +kernel) ⟨by decide, by decide⟩) (wx_recv (w := (mw k)) (g := 0) (j := 0) hK hP (mIx_0 (by decide)) rfl rfl) hP hK hD hZ hS rfl hl.1 rfl (Nat.le_of_ble_eq_true rfl) dX4_measure_95 ⟨by decide, by decide⟩ (fun H locs hP hS => ?_)
        refine lv_if_ne (tgt := 105) hx hb dX4_measure_98 (by decide) (fun c_98 => ?_) (fun c_98 => ?_)
        · refine lv_iconst (v := 1) hx hb dX4_measure_105 (by decide) ?_
          refine lv_goto (tgt := 110) hx hb dX4_measure_106 (by decide) ?_
          refine lv_istore_n (lv' := [(3, .int 1), (6, .int x), (5, .int s5), (4, .int s4), (0, .ref (k.1 0 0))]) hx hb dX4_measure_110 rfl hl (by decide) rfl (fun ls hl => ?_)
          refine lv_iinc (v := (x + 1)) (lv' := [(6, .int (x + 1)), (3, .int 1), (5, .int s5), (4, .int s4), (0, .ref (k.1 0 0))]) hx hb dX4_measure_111 hl (k := 1) rfl rfl (by decide) rfl (fun ls hl => ?_)
          refine lv_goto (tgt := 60) hx hb dX4_measure_114 (by decide) ?_
          have e9 : f_X4_measure_L60 k s4 s5 (n + 1) s3 x M = f_X4_measure_L60 k s4 s5 n 1 (x + 1) (f_X4_reach k M x s5 (s4 + 1)).2 := (by rw [f_X4_measure_L60]; rw [if_neg c_66, if_pos c_83, if_neg c_98])
          exact ih 1 (x + 1) (f_X4_reach k M x s5 (s4 + 1)).2 _ _ ls (by first | exact ⟨hinv.1, mw_s hinv.1 hinv.2.1 c_66, hinv.2.2⟩ | exact ⟨mI_reach hinv.1, mw_s hinv.1 hinv.2.1 c_66, hinv.2.2⟩)  hP hS (lv_sub hl [0, 2, 3, 1, 4] rfl) (by rw [e9] at kk; exact kk)
        · refine lv_iload_n hx hb dX4_measure_101 rfl (lv_at hl 3 rfl) ?_
          refine lv_if_eq (tgt := 109) hx hb dX4_measure_102 (by decide) (fun c_102 => ?_) (fun c_102 => ?_)
          · refine lv_iconst (v := 0) hx hb dX4_measure_109 (by decide) ?_
            refine lv_istore_n (lv' := [(3, .int 0), (6, .int x), (5, .int s5), (4, .int s4), (0, .ref (k.1 0 0))]) hx hb dX4_measure_110 rfl hl (by decide) rfl (fun ls hl => ?_)
            refine lv_iinc (v := (x + 1)) (lv' := [(6, .int (x + 1)), (3, .int 0), (5, .int s5), (4, .int s4), (0, .ref (k.1 0 0))]) hx hb dX4_measure_111 hl (k := 1) rfl rfl (by decide) rfl (fun ls hl => ?_)
            refine lv_goto (tgt := 60) hx hb dX4_measure_114 (by decide) ?_
            have e9 : f_X4_measure_L60 k s4 s5 (n + 1) s3 x M = f_X4_measure_L60 k s4 s5 n 0 (x + 1) (f_X4_reach k M x s5 (s4 + 1)).2 := (by rw [f_X4_measure_L60]; rw [if_neg c_66, if_pos c_83, if_pos c_98, if_pos c_102])
            exact ih 0 (x + 1) (f_X4_reach k M x s5 (s4 + 1)).2 _ _ ls (by first | exact ⟨hinv.1, mw_s hinv.1 hinv.2.1 c_66, hinv.2.2⟩ | exact ⟨mI_reach hinv.1, mw_s hinv.1 hinv.2.1 c_66, hinv.2.2⟩)  hP hS (lv_sub hl [0, 2, 3, 1, 4] rfl) (by rw [e9] at kk; exact kk)
          · refine lv_iconst (v := 1) hx hb dX4_measure_105 (by decide) ?_
            refine lv_goto (tgt := 110) hx hb dX4_measure_106 (by decide) ?_
            refine lv_istore_n (lv' := [(3, .int 1), (6, .int x), (5, .int s5), (4, .int s4), (0, .ref (k.1 0 0))]) hx hb dX4_measure_110 rfl hl (by decide) rfl (fun ls hl => ?_)
            refine lv_iinc (v := (x + 1)) (lv' := [(6, .int (x + 1)), (3, .int 1), (5, .int s5), (4, .int s4), (0, .ref (k.1 0 0))]) hx hb dX4_measure_111 hl (k := 1) rfl rfl (by decide) rfl (fun ls hl => ?_)
            refine lv_goto (tgt := 60) hx hb dX4_measure_114 (by decide) ?_
            have e9 : f_X4_measure_L60 k s4 s5 (n + 1) s3 x M = f_X4_measure_L60 k s4 s5 n 1 (x + 1) (f_X4_reach k M x s5 (s4 + 1)).2 := (by rw [f_X4_measure_L60]; rw [if_neg c_66, if_pos c_83, if_pos c_98, if_neg c_102])
            exact ih 1 (x + 1) (f_X4_reach k M x s5 (s4 + 1)).2 _ _ ls (by first | exact ⟨hinv.1, mw_s hinv.1 hinv.2.1 c_66, hinv.2.2⟩ | exact ⟨mI_reach hinv.1, mw_s hinv.1 hinv.2.1 c_66, hinv.2.2⟩)  hP hS (lv_sub hl [0, 2, 3, 1, 4] rfl) (by rw [e9] at kk; exact kk)
theorem mI_ms_L60 {k : MK} {s4 s5 : Int32} : ∀ (n : Nat) (s3 x : Int32) (M : Mem), mI k M → mI k (f_X4_measure_L60 k s4 s5 n s3 x M).2 := by
  intro n
  induction n with
  | zero => intro s3 x M hI; exact hI
  | succ n ih =>
    intro s3 x M hI
    rw [f_X4_measure_L60]
    split
    · exact hI
    · split
      · split
        · split
          · exact ih _ _ _ (mI_reach hI)
          · exact ih _ _ _ (mI_reach hI)
        · exact ih _ _ _ (mI_reach hI)
      · exact ih _ _ _ hI
/-- by program: the loop at 48 of RobotWorldModel.measure -/
def f_X4_measure_L48 (k : MK) (s4 : Int32) : Nat → Int32 → Int32 → Mem → Int32 × Mem
  | 0, _, _, M => (0, M)
  | n + 1, s3, x, M =>
    if (M 0 0 1) ≤ x then
      (s3, M)
    else
      f_X4_measure_L48 k s4 n ((f_X4_measure_L60 k s4 x (k.2.1 1 + 1) s3 0 M).1) (x + 1) (f_X4_measure_L60 k s4 x (k.2.1 1 + 1) s3 0 M).2
set_option maxHeartbeats 4000000 in
set_option maxRecDepth 100000 in
theorem lp_X4_measure_L48 {p : Program} {l : Launch} {e : Env} {s : State} {m : MethodId} {args : Array Value} {below : List Frame} {meth : Method} {c : Code} {Q : State → Prop} (k : MK) (s4 : Int32)  (hx : p.tables.exec = Jvm.exec) (hb : c.code = cX4_measure) (hr : meth.sig.returnType = none) (hml : c.maxLocals = 7) (hts : ∀ x ∈ wsX4_measure, x.before args s = true) (hown : s.vm.findClass RX4 = some m.cls) (hlocks : meth.locks = false) (hK : va_K (wD (mw k)) vwCl (wT (mw k)) s) {M0 : Mem} (hD : va_D (wA (mw k)) (wW (mw k) M0)) (hZ : wZ (mw k) (wA (mw k)) s s.heap)  : ∀ (n : Nat) (s3 : Int32) (x : Int32) (M : Mem) (H : Heap) (locs : List Loc) (ls : Array Slot), mI k M ∧ lpI (k.2.1 2) n x → wP (mw k) M H → va_S (wA (mw k)) s.heap H locs → lv_has ls 7 [(5, .int x), (4, .int s4), (3, .int s3), (0, .ref (k.1 0 0))] → (∀ (H : Heap) (locs : List Loc) (ls : Array Slot), wP (mw k) (f_X4_measure_L48 k s4 n s3 x M).2 H → va_S (wA (mw k)) s.heap H locs → lv_has ls 7 [(4, .int s4), (3, .int ((f_X4_measure_L48 k s4 n s3 x M).1)), (0, .ref (k.1 0 0))] → W p l e (rmK 4 93) s m args below meth c H locs 0 0 Q (F0 m 123 ls [])) → W p l e (rmK 4 93) s m args below meth c H locs 0 0 Q (F0 m 48 ls []) := by
  have hiX4 : ∀ x ∈ u_ws RX4 TX4 22, x ∈ wsX4_measure := by decide +kernel
  have hf64 := hts (.fieldLink RX4 64 "RobotWorldModel" "height" "I") (by decide +kernel)
  intro n
  induction n with
  | zero =>
    intro s3 x M H locs ls hinv
    exact absurd hinv (fun h => lpI_z h.2)
  | succ n ih =>
    intro s3 x M H locs ls hinv hP hS hl kk
    refine lv_iload hx hb dX4_measure_48 (lv_at hl 0 rfl) ?_
    refine lv_aload_n hx hb dX4_measure_50 rfl (lv_at hl 3 rfl) ?_
    refine wx_get (w := (mw k)) (g := 0) (j := 0) hx hb hts hiX4 hown hK hP (mIx_0 (by decide)) rfl rfl 1 (by decide) hf64 rfl dX4_measure_51 ?_
    refine lv_icmp_ge (tgt := 123) hx hb dX4_measure_54 (by decide) (fun c_54 => ?_) (fun c_54 => ?_)
    · have e9 : f_X4_measure_L48 k s4 (n + 1) s3 x M = (s3, M) := (by rw [f_X4_measure_L48]; rw [if_pos c_54])
      rw [e9] at kk
      exact kk _ _ ls hP hS (lv_sub hl [1, 2, 3] rfl)
    · refine lv_iconst (v := 0) hx hb dX4_measure_57 (by decide) ?_
      refine lv_istore (lv' := [(6, .int 0), (5, .int x), (4, .int s4), (3, .int s3), (0, .ref (k.1 0 0))]) hx hb dX4_measure_58 hl (by decide) rfl (fun ls hl => ?_)
      refine lp_X4_measure_L60 k s4 x hx hb hr hml hts hown hlocks hK hD hZ (k.2.1 1 + 1) s3 0 M _ _ ls (⟨hinv.1, lpI_i _, mh_in hinv.1 hinv.2 c_54⟩) hP hS (lv_sub hl [0, 1, 2, 3, 4] rfl) (fun H locs ls hP hS hl => ?_)
      refine lv_iinc (v := (x + 1)) (lv' := [(5, .int (x + 1)), (4, .int s4), (3, .int ((f_X4_measure_L60 k s4 x (k.2.1 1 + 1) s3 0 M).1)), (0, .ref (k.1 0 0))]) hx hb dX4_measure_117 hl (k := 0) rfl rfl (by decide) rfl (fun ls hl => ?_)
      refine lv_goto (tgt := 48) hx hb dX4_measure_120 (by decide) ?_
      have e9 : f_X4_measure_L48 k s4 (n + 1) s3 x M = f_X4_measure_L48 k s4 n ((f_X4_measure_L60 k s4 x (k.2.1 1 + 1) s3 0 M).1) (x + 1) (f_X4_measure_L60 k s4 x (k.2.1 1 + 1) s3 0 M).2 := (by rw [f_X4_measure_L48]; rw [if_neg c_54])
      exact ih ((f_X4_measure_L60 k s4 x (k.2.1 1 + 1) s3 0 M).1) (x + 1) (f_X4_measure_L60 k s4 x (k.2.1 1 + 1) s3 0 M).2 _ _ ls (⟨mI_ms_L60 _ _ _ _ hinv.1, mh_s hinv.1 hinv.2 c_54⟩)  hP hS (lv_sub hl [0, 1, 2, 3] rfl) (by rw [e9] at kk; exact kk)
theorem mI_ms_L48 {k : MK} {s4 : Int32} : ∀ (n : Nat) (s3 x : Int32) (M : Mem), mI k M → mI k (f_X4_measure_L48 k s4 n s3 x M).2 := by
  intro n
  induction n with
  | zero => intro s3 x M hI; exact hI
  | succ n ih =>
    intro s3 x M hI
    rw [f_X4_measure_L48]
    split
    · exact hI
    · exact ih _ _ _ (mI_ms_L60 _ _ _ _ hI)
/-- by program: the loop at 39 of RobotWorldModel.measure -/
def f_X4_measure_L39 (k : MK)  : Nat → Int32 → Int32 → Mem → Mem
  | 0, _, _, M => M
  | n + 1, s3, s4, M =>
    if s3 = 0 then
      M
    else
      f_X4_measure_L39 k n ((f_X4_measure_L48 k s4 (k.2.1 2 + 1) 0 0 M).1) (s4 + 1) (f_X4_measure_L48 k s4 (k.2.1 2 + 1) 0 0 M).2
def ok_X4_measure_L39 (k : MK)  : Nat → Int32 → Int32 → Mem → Prop
  | 0, _, _, _ => False
  | n + 1, s3, s4, M =>
    if s3 = 0 then
      True
    else
      ok_X4_measure_L39 k n ((f_X4_measure_L48 k s4 (k.2.1 2 + 1) 0 0 M).1) (s4 + 1) (f_X4_measure_L48 k s4 (k.2.1 2 + 1) 0 0 M).2
set_option maxHeartbeats 4000000 in
set_option maxRecDepth 100000 in
theorem lp_X4_measure_L39 {p : Program} {l : Launch} {e : Env} {s : State} {m : MethodId} {args : Array Value} {below : List Frame} {meth : Method} {c : Code} (k : MK)   (hx : p.tables.exec = Jvm.exec) (hb : c.code = cX4_measure) (hr : meth.sig.returnType = none) (hml : c.maxLocals = 7) (hts : ∀ x ∈ wsX4_measure, x.before args s = true) (hown : s.vm.findClass RX4 = some m.cls) (hlocks : meth.locks = false) (hK : va_K (wD (mw k)) vwCl (wT (mw k)) s) {M0 : Mem} (hD : va_D (wA (mw k)) (wW (mw k) M0)) (hZ : wZ (mw k) (wA (mw k)) s s.heap)  : ∀ (n : Nat) (s3 : Int32) (s4 : Int32) (M : Mem) (H : Heap) (locs : List Loc) (ls : Array Slot), mI k M → ok_X4_measure_L39 k n s3 s4 M → wP (mw k) M H → va_S (wA (mw k)) s.heap H locs → lv_has ls 7 [(4, .int s4), (3, .int s3), (0, .ref (k.1 0 0))] → ∀ (post : Mem → Prop), post (f_X4_measure_L39 k n s3 s4 M) → W p l e (rmK 4 93) s m args below meth c H locs 0 0 (MQ below (wQv (mw k) post) args s 0 0 (wA (mw k))) (F0 m 39 ls []) := by
  intro n
  induction n with
  | zero =>
    intro s3 s4 M H locs ls hinv hok
    exact absurd hinv (fun _ => hok)
  | succ n ih =>
    intro s3 s4 M H locs ls hinv hok hP hS hl post hpo
    refine lv_iload_n hx hb dX4_measure_39 rfl (lv_at hl 1 rfl) ?_
    refine lv_if_eq (tgt := 129) hx hb dX4_measure_40 (by decide) (fun c_40 => ?_) (fun c_40 => ?_)
    · have e9 : f_X4_measure_L39 k (n + 1) s3 s4 M = M := (by rw [f_X4_measure_L39]; rw [if_pos c_40])
      exact wx_vret hx hb hr hlocks hP hS (by rw [e9] at hpo; exact hpo) dX4_measure_129
    · refine lv_iconst (v := 0) hx hb dX4_measure_43 (by decide) ?_
      refine lv_istore_n (lv' := [(3, .int 0), (4, .int s4), (0, .ref (k.1 0 0))]) hx hb dX4_measure_44 rfl hl (by decide) rfl (fun ls hl => ?_)
      refine lv_iconst (v := 0) hx hb dX4_measure_45 (by decide) ?_
      refine lv_istore (lv' := [(5, .int 0), (3, .int 0), (4, .int s4), (0, .ref (k.1 0 0))]) hx hb dX4_measure_46 hl (by decide) rfl (fun ls hl => ?_)
      refine lp_X4_measure_L48 k s4 hx hb hr hml hts hown hlocks hK hD hZ (k.2.1 2 + 1) 0 0 M _ _ ls (⟨hinv, lpI_i _⟩) hP hS (lv_sub hl [0, 2, 1, 3] rfl) (fun H locs ls hP hS hl => ?_)
      refine lv_iinc (v := (s4 + 1)) (lv' := [(4, .int (s4 + 1)), (3, .int ((f_X4_measure_L48 k s4 (k.2.1 2 + 1) 0 0 M).1)), (0, .ref (k.1 0 0))]) hx hb dX4_measure_123 hl (k := 0) rfl rfl (by decide) rfl (fun ls hl => ?_)
      refine lv_goto (tgt := 39) hx hb dX4_measure_126 (by decide) ?_
      have e9 : f_X4_measure_L39 k (n + 1) s3 s4 M = f_X4_measure_L39 k n ((f_X4_measure_L48 k s4 (k.2.1 2 + 1) 0 0 M).1) (s4 + 1) (f_X4_measure_L48 k s4 (k.2.1 2 + 1) 0 0 M).2 := (by rw [f_X4_measure_L39]; rw [if_neg c_40])
      have k9 : ok_X4_measure_L39 k n ((f_X4_measure_L48 k s4 (k.2.1 2 + 1) 0 0 M).1) (s4 + 1) (f_X4_measure_L48 k s4 (k.2.1 2 + 1) 0 0 M).2 := by
        have q9 := hok
        rw [ok_X4_measure_L39] at q9
        rw [if_neg c_40] at q9
        exact q9
      exact ih ((f_X4_measure_L48 k s4 (k.2.1 2 + 1) 0 0 M).1) (s4 + 1) (f_X4_measure_L48 k s4 (k.2.1 2 + 1) 0 0 M).2 _ _ ls (mI_ms_L48 _ _ _ _ hinv) k9 hP hS (lv_sub hl [0, 1, 2] rfl) _ (by rw [e9] at hpo; exact hpo)
theorem mI_ms_L39 {k : MK} : ∀ (n : Nat) (s3 s4 : Int32) (M : Mem), mI k M → mI k (f_X4_measure_L39 k n s3 s4 M) := by
  intro n
  induction n with
  | zero => intro s3 s4 M hI; exact hI
  | succ n ih =>
    intro s3 s4 M hI
    rw [f_X4_measure_L39]
    split
    · exact hI
    · exact ih _ _ _ (mI_ms_L48 _ _ _ _ hI)
/-- by program, from the bytecode of RobotWorldModel.measure -/
def f_X4_measure (k : MK) (M : Mem) (p1 : Int32) (p2 : Int32) : Mem :=
  f_X4_measure_L39 k (k.2.1 5) 1 0 (mu (f_X4_measure_L2 k p1 p2 (k.2.1 5) 0 M) 0 15 (f_X4_square k (f_X4_measure_L2 k p1 p2 (k.2.1 5) 0 M) p1 p2).toNatClampNeg 0)
