theorem enc_or : ∀ v, v < 32 → ∀ u, u < 32 → (nI v <<< ((5 : Int32) &&& 31)) ||| nI u = nI (v * 32 + u) := by decide +kernel
theorem enc_x : ∀ v, v < 32 → ∀ u, u < 32 → nI (v * 32 + u) &&& 31 = nI u := by decide +kernel
theorem enc_y : ∀ v, v < 32 → ∀ u, u < 32 → nI (v * 32 + u) >>> ((5 : Int32) &&& 31) = nI v := by decide +kernel
theorem sq_0 {k : CK} {M : Mem} (hI : cI k M) : vp_in (0 : Int32) (k.2.1 1) := by
  have hw := cI_w hI
  obtain ⟨⟨a, b, -, -, h1, h2, h3, h4, h5⟩, -⟩ := hI
  rw [← nI_0]
  refine vp_in_nI ?_ hw
  rw [h5]
  exact Nat.mul_pos h1 h3
/-- an entry of the queue is a square -/
def bE (M : Mem) (e : Int32) : Prop := ∃ u v : Nat, u < 32 ∧ v < 32 ∧ e = nI (v * 32 + u) ∧ ¬ M 0 1 0 ≤ nI u ∧ ¬ M 0 1 1 ≤ nI v
def bq (k : CK) (M : Mem) (q : Int32) : Prop := ∃ c : Nat, q = nI c ∧ c ≤ k.2.1 1 ∧ ∀ j, j < c → bE M (M 0 4 j)
theorem bE_of {k : CK} {M : Mem} {x y : Int32} (hI : cI k M) (h : ¬ f_X1_isOpen k M x y = 0) : bE M ((y <<< ((5 : Int32) &&& 31)) ||| x) := by
  obtain ⟨c1, c2, c3, c4, -⟩ := opn_of h
  obtain ⟨⟨a, b, e1, e2, h1, h2, h3, h4, h5⟩, -⟩ := hI
  rw [e1] at c2
  rw [e2] at c4
  obtain ⟨u, hu, rfl⟩ := vp_in_of (vin c1 c2 (by omega)) (by omega)
  obtain ⟨v, hv, rfl⟩ := vp_in_of (vin c3 c4 (by omega)) (by omega)
  exact ⟨u, v, by omega, by omega, enc_or v (by omega) u (by omega), by rw [e1]; exact c2, by rw [e2]; exact c4⟩
theorem bq_sq {k : CK} {M : Mem} {q x : Int32} {n : Nat} (hI : cI k M) (hq : bq k M q) (hx : lpI (k.2.1 1) n x) (c : ¬ q ≤ x) : vp_in ((M 0 4 x.toNatClampNeg >>> ((5 : Int32) &&& 31)) * M 0 1 0 + (M 0 4 x.toNatClampNeg &&& 31)) (k.2.1 1) := by
  have hw := cI_w hI
  obtain ⟨m, rfl, h1, h2⟩ := hq
  obtain ⟨a, rfl, h3, -⟩ := hx
  have ha : a < m := by
    rcases Nat.lt_or_ge a m with z | z
    · exact z
    · exact absurd (nI_le z (by omega)) c
  rw [nI_clamp (by omega)]
  obtain ⟨u, v, hu, hv, he, c2, c4⟩ := h2 a ha
  rw [he, enc_x v hv u hu, enc_y v hv u hu]
  exact cI_sq hI (nI_pos (by omega)) c2 (nI_pos (by omega)) c4
theorem bq_in {k : CK} {M : Mem} {q : Int32} (hI : cI k M) (hq : bq k M q) (c : ¬ nI (k.2.1 1) ≤ q) : vp_in q (k.2.1 1) := by
  have hw := cI_w hI
  obtain ⟨m, rfl, h1, h2⟩ := hq
  exact vin (nI_pos (by omega)) c hw
theorem bE_mono {M M' : Mem} {e : Int32} (h : bE M e) (h0 : M' 0 1 0 = M 0 1 0) (h1 : M' 0 1 1 = M 0 1 1) : bE M' e := by
  obtain ⟨u, v, a, b, c, d, f⟩ := h
  exact ⟨u, v, a, b, c, by rw [h0]; exact d, by rw [h1]; exact f⟩
theorem bq_push {k : CK} {M : Mem} {q d x y f : Int32} {z n : Nat} (hI : cI k M) (hq : bq k M q) (ho : ¬ f_X1_isOpen k M x y = 0) (c : ¬ nI (k.2.1 1) ≤ q) (hd : lpI 4 n d) : cI k (mu (mu M 0 3 z f) 0 4 q.toNatClampNeg ((y <<< ((5 : Int32) &&& 31)) ||| x)) ∧ bq k (mu (mu M 0 3 z f) 0 4 q.toNatClampNeg ((y <<< ((5 : Int32) &&& 31)) ||| x)) (q + 1) ∧ lpI 4 n d := by
  have hw := cI_w hI
  have he := bE_of hI ho
  refine ⟨cI_mu (cI_mu hI (by omega) (by omega) (by omega)) (by omega) (by omega) (by omega), ?_, hd⟩
  obtain ⟨m, rfl, h1, h2⟩ := hq
  have hm : m < k.2.1 1 := by
    rcases Nat.lt_or_ge m (k.2.1 1) with t | t
    · exact t
    · exact absurd (nI_le t (by omega)) c
  rw [nI_clamp (by omega)]
  refine ⟨m + 1, nI_1 m, by omega, fun j hj => ?_⟩
  by_cases hjm : j = m
  · subst hjm
    rw [mu_at, if_pos ⟨rfl, rfl, rfl⟩]
    exact bE_mono he (by simp [mu_at]) (by simp [mu_at])
  · rw [mu_at, if_neg (by omega), mu_at, if_neg (by omega)]
    exact bE_mono (h2 j (by omega)) (by simp [mu_at]) (by simp [mu_at])
theorem bq_start {k : CK} {M : Mem} {x y : Int32} (hI : cI k M) (ho : ¬ f_X1_isOpen k M x y = 0) {f : Nat → Int32} {z : Nat} {g : Int32} : cI k (mu (mu (mr (mu M 0 1 5 g) 0 3 f) 0 3 z 0) 0 4 (0 : Int32).toNatClampNeg ((y <<< ((5 : Int32) &&& 31)) ||| x)) ∧ bq k (mu (mu (mr (mu M 0 1 5 g) 0 3 f) 0 3 z 0) 0 4 (0 : Int32).toNatClampNeg ((y <<< ((5 : Int32) &&& 31)) ||| x)) 1 ∧ lpI (k.2.1 1) (k.2.1 1 + 1) 0 := by
  have he := bE_of hI ho
  have hz := vp_lt (sq_0 hI)
  refine ⟨cI_mu (cI_mu (cI_mr (cI_mu hI (by omega) (by omega) (by omega)) (by omega) (by omega) (by omega)) (by omega) (by omega) (by omega)) (by omega) (by omega) (by omega), ⟨1, by decide, by omega, fun j hj => ?_⟩, lpI_i _⟩
  have hj0 : j = 0 := by omega
  subst hj0
  rw [mu_at, if_pos ⟨rfl, rfl, by decide⟩]
  exact bE_mono he (by simp [mu_at, mr_at]) (by simp [mu_at, mr_at])
theorem zq_0 {k : CK} {M : Mem} (_ : cI k M) : bq k M 0 := ⟨0, nI_0.symm, by omega, fun j hj => absurd hj (by omega)⟩
/-- by program: the loop at 117 of RobotWorld$Land.measureFrom -/
def f_X1_measureFrom_L117 (k : CK) (x5 : Int32) (x6 : Int32) (x7 : Int32) (x8 : Int32) : Nat → Int32 → Int32 → Mem → Int32 × Mem
  | 0, _, _, M => (0, M)
  | n + 1, q, d, M =>
    if 4 ≤ d then
      (q, M)
    else
      if (f_X1_isOpen k M (x6 + (eB d.toNatClampNeg)) (x7 + (sB d.toNatClampNeg))) = 0 then
        f_X1_measureFrom_L117 k x5 x6 x7 x8 n q (d + 1) M
      else
        if (nI (k.2.1 1)) ≤ q then
          f_X1_measureFrom_L117 k x5 x6 x7 x8 n q (d + 1) M
        else
          if (M 0 3 (((x7 + (sB d.toNatClampNeg)) * (M 0 1 0)) + (x6 + (eB d.toNatClampNeg))).toNatClampNeg) = (-1) then
            f_X1_measureFrom_L117 k x5 x6 x7 x8 n (q + 1) (d + 1) (mu (mu M 0 3 (((x7 + (sB d.toNatClampNeg)) * (M 0 1 0)) + (x6 + (eB d.toNatClampNeg))).toNatClampNeg x8) 0 4 q.toNatClampNeg (((x7 + (sB d.toNatClampNeg)) <<< (5 &&& 31)) ||| (x6 + (eB d.toNatClampNeg))))
          else
            f_X1_measureFrom_L117 k x5 x6 x7 x8 n q (d + 1) M
set_option maxHeartbeats 4000000 in
set_option maxRecDepth 100000 in
theorem lp_X1_measureFrom_L117 {p : Program} {l : Launch} {e : Env} {s : State} {m : MethodId} {args : Array Value} {below : List Frame} {meth : Method} {c : Code} {Q : State → Prop} (k : CK) (x5 : Int32) (x6 : Int32) (x7 : Int32) (x8 : Int32)  (hx : p.tables.exec = Jvm.exec) (hb : c.code = cX1_measureFrom) (hr : meth.sig.returnType = none) (hml : c.maxLocals = 12) (hts : ∀ x ∈ wsX1_measureFrom, x.before args s = true) (hown : s.vm.findClass RX1 = some m.cls) (hlocks : meth.locks = false) (hK : va_K (wD (cw k)) vwCl (wT (cw k)) s) {M0 : Mem} (hD : va_D (wA (cw k)) (wW (cw k) M0)) (hZ : wZ (cw k) (wA (cw k)) s s.heap)  : ∀ (n : Nat) (q : Int32) (d : Int32) (M : Mem) (H : Heap) (locs : List Loc) (ls : Array Slot), cI k M ∧ bq k M q ∧ lpI 4 n d → wP (cw k) M H → va_S (wA (cw k)) s.heap H locs → lv_has ls 12 [(9, .int d), (8, .int x8), (7, .int x7), (6, .int x6), (5, .int x5), (4, .int q), (0, .ref (k.1 0 1))] → (∀ (H : Heap) (locs : List Loc) (ls : Array Slot), wP (cw k) (f_X1_measureFrom_L117 k x5 x6 x7 x8 n q d M).2 H → va_S (wA (cw k)) s.heap H locs → lv_has ls 12 [(5, .int x5), (4, .int ((f_X1_measureFrom_L117 k x5 x6 x7 x8 n q d M).1)), (0, .ref (k.1 0 1))] → W p l e (rmK 1 23) s m args below meth c H locs 0 0 Q (F0 m 225 ls [])) → W p l e (rmK 1 23) s m args below meth c H locs 0 0 Q (F0 m 117 ls []) := by
  have hiX1 : ∀ x ∈ u_ws RX1 TX1 6, x ∈ wsX1_measureFrom := by decide +kernel
  have hf22 := hts (.fieldLink RX1 22 "RobotWorld$Land" "steps" "[I") (by decide +kernel)
  have hf25 := hts (.fieldLink RX1 25 "RobotWorld$Land" "queue" "[I") (by decide +kernel)
  have hf9 := hts (.fieldLink RX1 9 "RobotWorld$Land" "width" "I") (by decide +kernel)
  obtain ⟨z1, z2, z3, z4, z5, z6, z7, z8, z9⟩ := (show cZ k (wA (cw k)) s s.heap from hZ)
  intro n
  induction n with
  | zero =>
    intro q d M H locs ls hinv
    exact absurd hinv (fun h => lpI_z h.2.2)
  | succ n ih =>
    intro q d M H locs ls hinv hP hS hl kk
    refine lv_iload hx hb dX1_measureFrom_117 (lv_at hl 0 rfl) ?_
    refine lv_iconst (v := 4) hx hb dX1_measureFrom_119 (by decide) ?_
    refine lv_icmp_ge (tgt := 225) hx hb dX1_measureFrom_120 (by decide) (fun c_120 => ?_) (fun c_120 => ?_)
    · have e9 : f_X1_measureFrom_L117 k x5 x6 x7 x8 (n + 1) q d M = (q, M) := (by rw [f_X1_measureFrom_L117]; rw [if_pos c_120])
      rw [e9] at kk
      exact kk _ _ ls hP hS (lv_sub hl [4, 5, 6] rfl)
    · refine lv_iload hx hb dX1_measureFrom_123 (lv_at hl 3 rfl) ?_
      refine va_getsN (host := RX3) hx hb z1 hS hown (va_Nw.use rfl z5) (fun _ h9 => h9) dX1_measureFrom_125 ?_
      refine lv_iload hx hb dX1_measureFrom_128 (lv_at hl 0 rfl) ?_
      refine va_ti hx hb z2 hS (lpI_in hinv.2.2 c_120 (by decide)) rfl dX1_measureFrom_130 ?_
      refine lv_iadd hx hb dX1_measureFrom_131 ?_
      refine lv_istore (lv' := [(10, .int (x6 + (eB d.toNatClampNeg))), (9, .int d), (8, .int x8), (7, .int x7), (6, .int x6), (5, .int x5), (4, .int q), (0, .ref (k.1 0 1))]) hx hb dX1_measureFrom_132 hl (by decide) rfl (fun ls hl => ?_)
      refine lv_iload hx hb dX1_measureFrom_134 (lv_at hl 3 rfl) ?_
      refine va_getsN (host := RX3) hx hb z3 hS hown (va_Nw.use rfl z6) (fun _ h9 => h9) dX1_measureFrom_136 ?_
      refine lv_iload hx hb dX1_measureFrom_139 (lv_at hl 1 rfl) ?_
      refine va_ti hx hb z4 hS (lpI_in hinv.2.2 c_120 (by decide)) rfl dX1_measureFrom_141 ?_
      refine lv_iadd hx hb dX1_measureFrom_142 ?_
      refine lv_istore (lv' := [(11, .int (x7 + (sB d.toNatClampNeg))), (10, .int (x6 + (eB d.toNatClampNeg))), (9, .int d), (8, .int x8), (7, .int x7), (6, .int x6), (5, .int x5), (4, .int q), (0, .ref (k.1 0 1))]) hx hb dX1_measureFrom_143 hl (by decide) rfl (fun ls hl => ?_)
      refine lv_aload_n hx hb dX1_measureFrom_145 rfl (lv_at hl 8 rfl) ?_
      refine lv_iload hx hb dX1_measureFrom_146 (lv_at hl 1 rfl) ?_
      refine lv_iload hx hb dX1_measureFrom_148 (lv_at hl 0 rfl) ?_
      refine wx_Vi (w := (cw k)) (f_X1_isOpen k M (x6 + (eB d.toNatClampNeg)) (x7 + (sB d.toNatClampNeg))) M [.int (x6 + (eB d.toNatClampNeg)), .int (x7 + (sB d.toNatClampNeg))] [] (cZok k) ⟨hx, hb, hml, hown, hts⟩ (c_X1_isOpen l k M (x6 + (eB d.toNatClampNeg)) (x7 + (sB d.toNatClampNeg)) hinv.1) (cwV 2 hts gX1_measureFrom_X1_isOpen rfl rfl rfl (by decide +kernel) ⟨by decide, by decide⟩) (wx_recv (w := (cw k)) (g := 0) (j := 1) hK hP (cIx_0 (by decide)) rfl rfl) hP hK hD hZ hS rfl hl.1 rfl (Nat.le_of_ble_eq_true rfl) dX1_measureFrom_150 ⟨by decide, by decide⟩ (fun H locs hP hS => ?_)
      refine lv_if_eq (tgt := 219) hx hb dX1_measureFrom_153 (by decide) (fun c_153 => ?_) (fun c_153 => ?_)
      · refine lv_iinc (v := (d + 1)) (lv' := [(9, .int (d + 1)), (11, .int (x7 + (sB d.toNatClampNeg))), (10, .int (x6 + (eB d.toNatClampNeg))), (8, .int x8), (7, .int x7), (6, .int x6), (5, .int x5), (4, .int q), (0, .ref (k.1 0 1))]) hx hb dX1_measureFrom_219 hl (k := 2) rfl rfl (by decide) rfl (fun ls hl => ?_)
        refine lv_goto (tgt := 117) hx hb dX1_measureFrom_222 (by decide) ?_
        have e9 : f_X1_measureFrom_L117 k x5 x6 x7 x8 (n + 1) q d M = f_X1_measureFrom_L117 k x5 x6 x7 x8 n q (d + 1) M := (by rw [f_X1_measureFrom_L117]; rw [if_neg c_120, if_pos c_153])
        exact ih q (d + 1) M _ _ ls (by first | exact ⟨hinv.1, hinv.2.1, lpI_s hinv.2.2 c_120 (by decide)⟩ | exact bq_push hinv.1 hinv.2.1 c_153 c_163 (lpI_s hinv.2.2 c_120 (by decide))) hP hS (lv_sub hl [0, 3, 4, 5, 6, 7, 8] rfl) (by rw [e9] at kk; exact kk)
      · refine lv_iload hx hb dX1_measureFrom_156 (lv_at hl 7 rfl) ?_
        refine lv_aload_n hx hb dX1_measureFrom_158 rfl (lv_at hl 8 rfl) ?_
        refine wx_get (w := (cw k)) (g := 0) (j := 1) hx hb hts hiX1 hown hK hP (cIx_0 (by decide)) rfl rfl 4 (by decide) hf25 rfl dX1_measureFrom_159 ?_
        refine wx_alen (w := (cw k)) (g := 0) (j := 4) hx hb hK hP (cIx_0 (by decide)) 0 rfl rfl dX1_measureFrom_162 ?_
        refine lv_icmp_ge (tgt := 219) hx hb dX1_measureFrom_163 (by decide) (fun c_163 => ?_) (fun c_163 => ?_)
        · refine lv_iinc (v := (d + 1)) (lv' := [(9, .int (d + 1)), (11, .int (x7 + (sB d.toNatClampNeg))), (10, .int (x6 + (eB d.toNatClampNeg))), (8, .int x8), (7, .int x7), (6, .int x6), (5, .int x5), (4, .int q), (0, .ref (k.1 0 1))]) hx hb dX1_measureFrom_219 hl (k := 2) rfl rfl (by decide) rfl (fun ls hl => ?_)
          refine lv_goto (tgt := 117) hx hb dX1_measureFrom_222 (by decide) ?_
          have e9 : f_X1_measureFrom_L117 k x5 x6 x7 x8 (n + 1) q d M = f_X1_measureFrom_L117 k x5 x6 x7 x8 n q (d + 1) M := (by rw [f_X1_measureFrom_L117]; rw [if_neg c_120, if_neg c_153, if_pos c_163])
          exact ih q (d + 1) M _ _ ls (by first | exact ⟨hinv.1, hinv.2.1, lpI_s hinv.2.2 c_120 (by decide)⟩ | exact bq_push hinv.1 hinv.2.1 c_153 c_163 (lpI_s hinv.2.2 c_120 (by decide))) hP hS (lv_sub hl [0, 3, 4, 5, 6, 7, 8] rfl) (by rw [e9] at kk; exact kk)
        · refine lv_aload_n hx hb dX1_measureFrom_166 rfl (lv_at hl 8 rfl) ?_
          refine wx_get (w := (cw k)) (g := 0) (j := 1) hx hb hts hiX1 hown hK hP (cIx_0 (by decide)) rfl rfl 3 (by decide) hf22 rfl dX1_measureFrom_167 ?_
          refine lv_iload hx hb dX1_measureFrom_170 (lv_at hl 0 rfl) ?_
          refine lv_aload_n hx hb dX1_measureFrom_172 rfl (lv_at hl 8 rfl) ?_
          refine wx_get (w := (cw k)) (g := 0) (j := 1) hx hb hts hiX1 hown hK hP (cIx_0 (by decide)) rfl rfl 0 (by decide) hf9 rfl dX1_measureFrom_173 ?_
          refine lv_imul hx hb dX1_measureFrom_176 ?_
          refine lv_iload hx hb dX1_measureFrom_177 (lv_at hl 1 rfl) ?_
          refine lv_iadd hx hb dX1_measureFrom_179 ?_
          refine wx_iald (w := (cw k)) (g := 0) (j := 3) hx hb hK hP (cIx_0 (by decide)) 0 rfl rfl (opn_sq hinv.1 c_153) dX1_measureFrom_180 ?_
          refine lv_iconst (v := (-1)) hx hb dX1_measureFrom_181 (by decide) ?_
          refine lv_icmp_ne (tgt := 219) hx hb dX1_measureFrom_182 (by decide) (fun c_182 => ?_) (fun c_182 => ?_)
          · refine lv_iinc (v := (d + 1)) (lv' := [(9, .int (d + 1)), (11, .int (x7 + (sB d.toNatClampNeg))), (10, .int (x6 + (eB d.toNatClampNeg))), (8, .int x8), (7, .int x7), (6, .int x6), (5, .int x5), (4, .int q), (0, .ref (k.1 0 1))]) hx hb dX1_measureFrom_219 hl (k := 2) rfl rfl (by decide) rfl (fun ls hl => ?_)
            refine lv_goto (tgt := 117) hx hb dX1_measureFrom_222 (by decide) ?_
            have e9 : f_X1_measureFrom_L117 k x5 x6 x7 x8 (n + 1) q d M = f_X1_measureFrom_L117 k x5 x6 x7 x8 n q (d + 1) M := (by rw [f_X1_measureFrom_L117]; rw [if_neg c_120, if_neg c_153, if_neg c_163, if_neg c_182])
            exact ih q (d + 1) M _ _ ls (by first | exact ⟨hinv.1, hinv.2.1, lpI_s hinv.2.2 c_120 (by decide)⟩ | exact bq_push hinv.1 hinv.2.1 c_153 c_163 (lpI_s hinv.2.2 c_120 (by decide))) hP hS (lv_sub hl [0, 3, 4, 5, 6, 7, 8] rfl) (by rw [e9] at kk; exact kk)
          · refine lv_aload_n hx hb dX1_measureFrom_185 rfl (lv_at hl 8 rfl) ?_
            refine wx_get (w := (cw k)) (g := 0) (j := 1) hx hb hts hiX1 hown hK hP (cIx_0 (by decide)) rfl rfl 3 (by decide) hf22 rfl dX1_measureFrom_186 ?_
            refine lv_iload hx hb dX1_measureFrom_189 (lv_at hl 0 rfl) ?_
            refine lv_aload_n hx hb dX1_measureFrom_191 rfl (lv_at hl 8 rfl) ?_
            refine wx_get (w := (cw k)) (g := 0) (j := 1) hx hb hts hiX1 hown hK hP (cIx_0 (by decide)) rfl rfl 0 (by decide) hf9 rfl dX1_measureFrom_192 ?_
            refine lv_imul hx hb dX1_measureFrom_195 ?_
            refine lv_iload hx hb dX1_measureFrom_196 (lv_at hl 1 rfl) ?_
            refine lv_iadd hx hb dX1_measureFrom_198 ?_
            refine lv_iload hx hb dX1_measureFrom_199 (lv_at hl 3 rfl) ?_
            refine wx_iast (w := (cw k)) (g := 0) (j := 3) hx hb hK hP hD hS (cIx_0 (by decide)) 0 (fun _ => rfl) rfl (opn_sq hinv.1 c_153) dX1_measureFrom_201 (fun H locs hP hS => ?_)
            refine lv_aload_n hx hb dX1_measureFrom_202 rfl (lv_at hl 8 rfl) ?_
            refine wx_get (w := (cw k)) (g := 0) (j := 1) hx hb hts hiX1 hown hK hP (cIx_0 (by decide)) rfl rfl 4 (by decide) hf25 rfl dX1_measureFrom_203 ?_
            refine lv_iload hx hb dX1_measureFrom_206 (lv_at hl 7 rfl) ?_
            refine lv_iload hx hb dX1_measureFrom_208 (lv_at hl 0 rfl) ?_
            refine lv_iconst (v := 5) hx hb dX1_measureFrom_210 (by decide) ?_
            refine lv_ishl hx hb dX1_measureFrom_211 ?_
            refine lv_iload hx hb dX1_measureFrom_212 (lv_at hl 1 rfl) ?_
            refine lv_ior hx hb dX1_measureFrom_214 ?_
            refine wx_iast (w := (cw k)) (g := 0) (j := 4) hx hb hK hP hD hS (cIx_0 (by decide)) 0 (fun _ => rfl) rfl (bq_in hinv.1 hinv.2.1 c_163) dX1_measureFrom_215 (fun H locs hP hS => ?_)
            refine lv_iinc (v := (q + 1)) (lv' := [(4, .int (q + 1)), (11, .int (x7 + (sB d.toNatClampNeg))), (10, .int (x6 + (eB d.toNatClampNeg))), (9, .int d), (8, .int x8), (7, .int x7), (6, .int x6), (5, .int x5), (0, .ref (k.1 0 1))]) hx hb dX1_measureFrom_216 hl (k := 7) rfl rfl (by decide) rfl (fun ls hl => ?_)
            refine lv_iinc (v := (d + 1)) (lv' := [(9, .int (d + 1)), (4, .int (q + 1)), (11, .int (x7 + (sB d.toNatClampNeg))), (10, .int (x6 + (eB d.toNatClampNeg))), (8, .int x8), (7, .int x7), (6, .int x6), (5, .int x5), (0, .ref (k.1 0 1))]) hx hb dX1_measureFrom_219 hl (k := 3) rfl rfl (by decide) rfl (fun ls hl => ?_)
            refine lv_goto (tgt := 117) hx hb dX1_measureFrom_222 (by decide) ?_
            have e9 : f_X1_measureFrom_L117 k x5 x6 x7 x8 (n + 1) q d M = f_X1_measureFrom_L117 k x5 x6 x7 x8 n (q + 1) (d + 1) (mu (mu M 0 3 (((x7 + (sB d.toNatClampNeg)) * (M 0 1 0)) + (x6 + (eB d.toNatClampNeg))).toNatClampNeg x8) 0 4 q.toNatClampNeg (((x7 + (sB d.toNatClampNeg)) <<< (5 &&& 31)) ||| (x6 + (eB d.toNatClampNeg)))) := (by rw [f_X1_measureFrom_L117]; rw [if_neg c_120, if_neg c_153, if_neg c_163, if_pos c_182])
            exact ih (q + 1) (d + 1) (mu (mu M 0 3 (((x7 + (sB d.toNatClampNeg)) * (M 0 1 0)) + (x6 + (eB d.toNatClampNeg))).toNatClampNeg x8) 0 4 q.toNatClampNeg (((x7 + (sB d.toNatClampNeg)) <<< (5 &&& 31)) ||| (x6 + (eB d.toNatClampNeg)))) _ _ ls (by first | exact ⟨hinv.1, hinv.2.1, lpI_s hinv.2.2 c_120 (by decide)⟩ | exact bq_push hinv.1 hinv.2.1 c_153 c_163 (lpI_s hinv.2.2 c_120 (by decide))) hP hS (lv_sub hl [0, 4, 5, 6, 7, 1, 8] rfl) (by rw [e9] at kk; exact kk)
theorem bq_inner {k : CK} {x5 x6 x7 x8 : Int32} : ∀ (n : Nat) (q d : Int32) (M : Mem), cI k M → bq k M q → cI k (f_X1_measureFrom_L117 k x5 x6 x7 x8 n q d M).2 ∧ bq k (f_X1_measureFrom_L117 k x5 x6 x7 x8 n q d M).2 (f_X1_measureFrom_L117 k x5 x6 x7 x8 n q d M).1 := by
  intro n
  induction n with
  | zero => intro q d M hI hq; unfold f_X1_measureFrom_L117; exact ⟨hI, zq_0 hI⟩
  | succ n ih =>
    intro q d M hI hq
    unfold f_X1_measureFrom_L117
    split
    · exact ⟨hI, hq⟩
    · split
      · exact ih _ _ M hI hq
      · rename_i ho
        split
        · exact ih _ _ M hI hq
        · rename_i c
          split
          · obtain ⟨h1, h2, -⟩ := bq_push (d := 0) (n := 5) hI hq ho c (lpI_i 4)
            exact ih _ _ _ h1 h2
          · exact ih _ _ M hI hq
theorem bq_next {k : CK} {M : Mem} {q x x5 x6 x7 x8 : Int32} {n : Nat} (hI : cI k M) (hq : bq k M q) (hx : lpI (k.2.1 1) n x) : cI k (f_X1_measureFrom_L117 k x5 x6 x7 x8 5 q 0 M).2 ∧ bq k (f_X1_measureFrom_L117 k x5 x6 x7 x8 5 q 0 M).2 (f_X1_measureFrom_L117 k x5 x6 x7 x8 5 q 0 M).1 ∧ lpI (k.2.1 1) n x := by
  obtain ⟨h1, h2⟩ := bq_inner (x5 := x5) (x6 := x6) (x7 := x7) (x8 := x8) 5 q 0 M hI hq
  exact ⟨h1, h2, hx⟩
/-- by program: the loop at 55 of RobotWorld$Land.measureFrom -/
def f_X1_measureFrom_L55 (k : CK)  : Nat → Int32 → Int32 → Mem → Mem
  | 0, _, _, M => M
  | n + 1, q, x, M =>
    if q ≤ x then
      M
    else
      if (nI (k.2.1 1)) ≤ x then
        M
      else
        f_X1_measureFrom_L55 k n ((f_X1_measureFrom_L117 k x ((M 0 4 x.toNatClampNeg) &&& 31) ((M 0 4 x.toNatClampNeg) >>> (5 &&& 31)) ((M 0 3 ((((M 0 4 x.toNatClampNeg) >>> (5 &&& 31)) * (M 0 1 0)) + ((M 0 4 x.toNatClampNeg) &&& 31)).toNatClampNeg) + 1) (5) q 0 M).1) (x + 1) (f_X1_measureFrom_L117 k x ((M 0 4 x.toNatClampNeg) &&& 31) ((M 0 4 x.toNatClampNeg) >>> (5 &&& 31)) ((M 0 3 ((((M 0 4 x.toNatClampNeg) >>> (5 &&& 31)) * (M 0 1 0)) + ((M 0 4 x.toNatClampNeg) &&& 31)).toNatClampNeg) + 1) (5) q 0 M).2
set_option maxHeartbeats 4000000 in
set_option maxRecDepth 100000 in
theorem lp_X1_measureFrom_L55 {p : Program} {l : Launch} {e : Env} {s : State} {m : MethodId} {args : Array Value} {below : List Frame} {meth : Method} {c : Code} (k : CK)   (hx : p.tables.exec = Jvm.exec) (hb : c.code = cX1_measureFrom) (hr : meth.sig.returnType = none) (hml : c.maxLocals = 12) (hts : ∀ x ∈ wsX1_measureFrom, x.before args s = true) (hown : s.vm.findClass RX1 = some m.cls) (hlocks : meth.locks = false) (hK : va_K (wD (cw k)) vwCl (wT (cw k)) s) {M0 : Mem} (hD : va_D (wA (cw k)) (wW (cw k) M0)) (hZ : wZ (cw k) (wA (cw k)) s s.heap)  : ∀ (n : Nat) (q : Int32) (x : Int32) (M : Mem) (H : Heap) (locs : List Loc) (ls : Array Slot), cI k M ∧ bq k M q ∧ lpI (k.2.1 1) n x → wP (cw k) M H → va_S (wA (cw k)) s.heap H locs → lv_has ls 12 [(5, .int x), (4, .int q), (0, .ref (k.1 0 1))] → ∀ (post : Mem → Prop), post (f_X1_measureFrom_L55 k n q x M) → W p l e (rmK 1 23) s m args below meth c H locs 0 0 (MQ below (wQv (cw k) post) args s 0 0 (wA (cw k))) (F0 m 55 ls []) := by
  have hiX1 : ∀ x ∈ u_ws RX1 TX1 6, x ∈ wsX1_measureFrom := by decide +kernel
  have hf22 := hts (.fieldLink RX1 22 "RobotWorld$Land" "steps" "[I") (by decide +kernel)
  have hf25 := hts (.fieldLink RX1 25 "RobotWorld$Land" "queue" "[I") (by decide +kernel)
  have hf9 := hts (.fieldLink RX1 9 "RobotWorld$Land" "width" "I") (by decide +kernel)
  intro n
  induction n with
  | zero =>
    intro q x M H locs ls hinv
    exact absurd hinv (fun h => lpI_z h.2.2)
  | succ n ih =>
    intro q x M H locs ls hinv hP hS hl post hpo
    refine lv_iload hx hb dX1_measureFrom_55 (lv_at hl 0 rfl) ?_
    refine lv_iload hx hb dX1_measureFrom_57 (lv_at hl 1 rfl) ?_
    refine lv_icmp_ge (tgt := 231) hx hb dX1_measureFrom_59 (by decide) (fun c_59 => ?_) (fun c_59 => ?_)
    · have e9 : f_X1_measureFrom_L55 k (n + 1) q x M = M := (by rw [f_X1_measureFrom_L55]; rw [if_pos c_59])
      exact wx_vret hx hb hr hlocks hP hS (by rw [e9] at hpo; exact hpo) dX1_measureFrom_231
    · refine lv_iload hx hb dX1_measureFrom_62 (lv_at hl 0 rfl) ?_
      refine lv_aload_n hx hb dX1_measureFrom_64 rfl (lv_at hl 2 rfl) ?_
      refine wx_get (w := (cw k)) (g := 0) (j := 1) hx hb hts hiX1 hown hK hP (cIx_0 (by decide)) rfl rfl 4 (by decide) hf25 rfl dX1_measureFrom_65 ?_
      refine wx_alen (w := (cw k)) (g := 0) (j := 4) hx hb hK hP (cIx_0 (by decide)) 0 rfl rfl dX1_measureFrom_68 ?_
      refine lv_icmp_ge (tgt := 231) hx hb dX1_measureFrom_69 (by decide) (fun c_69 => ?_) (fun c_69 => ?_)
      · have e9 : f_X1_measureFrom_L55 k (n + 1) q x M = M := (by rw [f_X1_measureFrom_L55]; rw [if_neg c_59, if_pos c_69])
        exact wx_vret hx hb hr hlocks hP hS (by rw [e9] at hpo; exact hpo) dX1_measureFrom_231
      · refine lv_aload_n hx hb dX1_measureFrom_72 rfl (lv_at hl 2 rfl) ?_
        refine wx_get (w := (cw k)) (g := 0) (j := 1) hx hb hts hiX1 hown hK hP (cIx_0 (by decide)) rfl rfl 4 (by decide) hf25 rfl dX1_measureFrom_73 ?_
        refine lv_iload hx hb dX1_measureFrom_76 (lv_at hl 0 rfl) ?_
        refine wx_iald (w := (cw k)) (g := 0) (j := 4) hx hb hK hP (cIx_0 (by decide)) 0 rfl rfl (lpI_in hinv.2.2 c_69 (cI_w hinv.1)) dX1_measureFrom_78 ?_
        refine lv_bipush (v := 31) hx hb dX1_measureFrom_79 (by decide) ?_
        refine lv_iand hx hb dX1_measureFrom_81 ?_
        refine lv_istore (lv' := [(6, .int ((M 0 4 x.toNatClampNeg) &&& 31)), (5, .int x), (4, .int q), (0, .ref (k.1 0 1))]) hx hb dX1_measureFrom_82 hl (by decide) rfl (fun ls hl => ?_)
        refine lv_aload_n hx hb dX1_measureFrom_84 rfl (lv_at hl 3 rfl) ?_
        refine wx_get (w := (cw k)) (g := 0) (j := 1) hx hb hts hiX1 hown hK hP (cIx_0 (by decide)) rfl rfl 4 (by decide) hf25 rfl dX1_measureFrom_85 ?_
        refine lv_iload hx hb dX1_measureFrom_88 (lv_at hl 1 rfl) ?_
        refine wx_iald (w := (cw k)) (g := 0) (j := 4) hx hb hK hP (cIx_0 (by decide)) 0 rfl rfl (lpI_in hinv.2.2 c_69 (cI_w hinv.1)) dX1_measureFrom_90 ?_
        refine lv_iconst (v := 5) hx hb dX1_measureFrom_91 (by decide) ?_
        refine lv_ishr hx hb dX1_measureFrom_92 ?_
        refine lv_istore (lv' := [(7, .int ((M 0 4 x.toNatClampNeg) >>> (5 &&& 31))), (6, .int ((M 0 4 x.toNatClampNeg) &&& 31)), (5, .int x), (4, .int q), (0, .ref (k.1 0 1))]) hx hb dX1_measureFrom_93 hl (by decide) rfl (fun ls hl => ?_)
        refine lv_aload_n hx hb dX1_measureFrom_95 rfl (lv_at hl 4 rfl) ?_
        refine wx_get (w := (cw k)) (g := 0) (j := 1) hx hb hts hiX1 hown hK hP (cIx_0 (by decide)) rfl rfl 3 (by decide) hf22 rfl dX1_measureFrom_96 ?_
        refine lv_iload hx hb dX1_measureFrom_99 (lv_at hl 0 rfl) ?_
        refine lv_aload_n hx hb dX1_measureFrom_101 rfl (lv_at hl 4 rfl) ?_
        refine wx_get (w := (cw k)) (g := 0) (j := 1) hx hb hts hiX1 hown hK hP (cIx_0 (by decide)) rfl rfl 0 (by decide) hf9 rfl dX1_measureFrom_102 ?_
        refine lv_imul hx hb dX1_measureFrom_105 ?_
        refine lv_iload hx hb dX1_measureFrom_106 (lv_at hl 1 rfl) ?_
        refine lv_iadd hx hb dX1_measureFrom_108 ?_
        refine wx_iald (w := (cw k)) (g := 0) (j := 3) hx hb hK hP (cIx_0 (by decide)) 0 rfl rfl (bq_sq hinv.1 hinv.2.1 hinv.2.2 c_59) dX1_measureFrom_109 ?_
        refine lv_iconst (v := 1) hx hb dX1_measureFrom_110 (by decide) ?_
        refine lv_iadd hx hb dX1_measureFrom_111 ?_
        refine lv_istore (lv' := [(8, .int ((M 0 3 ((((M 0 4 x.toNatClampNeg) >>> (5 &&& 31)) * (M 0 1 0)) + ((M 0 4 x.toNatClampNeg) &&& 31)).toNatClampNeg) + 1)), (7, .int ((M 0 4 x.toNatClampNeg) >>> (5 &&& 31))), (6, .int ((M 0 4 x.toNatClampNeg) &&& 31)), (5, .int x), (4, .int q), (0, .ref (k.1 0 1))]) hx hb dX1_measureFrom_112 hl (by decide) rfl (fun ls hl => ?_)
        refine lv_iconst (v := 0) hx hb dX1_measureFrom_114 (by decide) ?_
        refine lv_istore (lv' := [(9, .int 0), (8, .int ((M 0 3 ((((M 0 4 x.toNatClampNeg) >>> (5 &&& 31)) * (M 0 1 0)) + ((M 0 4 x.toNatClampNeg) &&& 31)).toNatClampNeg) + 1)), (7, .int ((M 0 4 x.toNatClampNeg) >>> (5 &&& 31))), (6, .int ((M 0 4 x.toNatClampNeg) &&& 31)), (5, .int x), (4, .int q), (0, .ref (k.1 0 1))]) hx hb dX1_measureFrom_115 hl (by decide) rfl (fun ls hl => ?_)
        refine lp_X1_measureFrom_L117 k x ((M 0 4 x.toNatClampNeg) &&& 31) ((M 0 4 x.toNatClampNeg) >>> (5 &&& 31)) ((M 0 3 ((((M 0 4 x.toNatClampNeg) >>> (5 &&& 31)) * (M 0 1 0)) + ((M 0 4 x.toNatClampNeg) &&& 31)).toNatClampNeg) + 1) hx hb hr hml hts hown hlocks hK hD hZ (5) q 0 M _ _ ls (⟨hinv.1, hinv.2.1, lpI_i 4⟩) hP hS (lv_sub hl [0, 1, 2, 3, 4, 5, 6] rfl) (fun H locs ls hP hS hl => ?_)
        refine lv_iinc (v := (x + 1)) (lv' := [(5, .int (x + 1)), (4, .int ((f_X1_measureFrom_L117 k x ((M 0 4 x.toNatClampNeg) &&& 31) ((M 0 4 x.toNatClampNeg) >>> (5 &&& 31)) ((M 0 3 ((((M 0 4 x.toNatClampNeg) >>> (5 &&& 31)) * (M 0 1 0)) + ((M 0 4 x.toNatClampNeg) &&& 31)).toNatClampNeg) + 1) (5) q 0 M).1)), (0, .ref (k.1 0 1))]) hx hb dX1_measureFrom_225 hl (k := 0) rfl rfl (by decide) rfl (fun ls hl => ?_)
        refine lv_goto (tgt := 55) hx hb dX1_measureFrom_228 (by decide) ?_
        have e9 : f_X1_measureFrom_L55 k (n + 1) q x M = f_X1_measureFrom_L55 k n ((f_X1_measureFrom_L117 k x ((M 0 4 x.toNatClampNeg) &&& 31) ((M 0 4 x.toNatClampNeg) >>> (5 &&& 31)) ((M 0 3 ((((M 0 4 x.toNatClampNeg) >>> (5 &&& 31)) * (M 0 1 0)) + ((M 0 4 x.toNatClampNeg) &&& 31)).toNatClampNeg) + 1) (5) q 0 M).1) (x + 1) (f_X1_measureFrom_L117 k x ((M 0 4 x.toNatClampNeg) &&& 31) ((M 0 4 x.toNatClampNeg) >>> (5 &&& 31)) ((M 0 3 ((((M 0 4 x.toNatClampNeg) >>> (5 &&& 31)) * (M 0 1 0)) + ((M 0 4 x.toNatClampNeg) &&& 31)).toNatClampNeg) + 1) (5) q 0 M).2 := (by rw [f_X1_measureFrom_L55]; rw [if_neg c_59, if_neg c_69])
        exact ih ((f_X1_measureFrom_L117 k x ((M 0 4 x.toNatClampNeg) &&& 31) ((M 0 4 x.toNatClampNeg) >>> (5 &&& 31)) ((M 0 3 ((((M 0 4 x.toNatClampNeg) >>> (5 &&& 31)) * (M 0 1 0)) + ((M 0 4 x.toNatClampNeg) &&& 31)).toNatClampNeg) + 1) (5) q 0 M).1) (x + 1) (f_X1_measureFrom_L117 k x ((M 0 4 x.toNatClampNeg) &&& 31) ((M 0 4 x.toNatClampNeg) >>> (5 &&& 31)) ((M 0 3 ((((M 0 4 x.toNatClampNeg) >>> (5 &&& 31)) * (M 0 1 0)) + ((M 0 4 x.toNatClampNeg) &&& 31)).toNatClampNeg) + 1) (5) q 0 M).2 _ _ ls (bq_next hinv.1 hinv.2.1 (lpI_s hinv.2.2 c_69 (cI_w hinv.1))) hP hS (lv_sub hl [0, 1, 2] rfl) _ (by rw [e9] at hpo; exact hpo)
/-- by program, from the bytecode of RobotWorld$Land.measureFrom -/
def f_X1_measureFrom (k : CK) (M : Mem) (p1 : Int32) (p2 : Int32) : Mem :=
  if (M 0 1 5) = ((p2 <<< (5 &&& 31)) ||| p1) then
    M
  else
    f_X1_measureFrom_L55 k (k.2.1 1 + 1) 1 0 (mu (mu (mr (mu M 0 1 5 ((p2 <<< (5 &&& 31)) ||| p1)) 0 3 (fillF ((mu M 0 1 5 ((p2 <<< (5 &&& 31)) ||| p1)) 0 3) (k.2.1 1) (-1))) 0 3 ((p2 * ((mr (mu M 0 1 5 ((p2 <<< (5 &&& 31)) ||| p1)) 0 3 (fillF ((mu M 0 1 5 ((p2 <<< (5 &&& 31)) ||| p1)) 0 3) (k.2.1 1) (-1))) 0 1 0)) + p1).toNatClampNeg 0) 0 4 (0 : Int32).toNatClampNeg ((p2 <<< (5 &&& 31)) ||| p1))
set_option maxHeartbeats 4000000 in
set_option maxRecDepth 100000 in
theorem c_X1_measureFrom (l : Launch) (k : CK) (M : Mem) (p1 : Int32) (p2 : Int32) (hI : cI k M) (ho : ¬ f_X1_isOpen k M p1 p2 = 0) : Met l yX1_measureFrom wsX1_measureFrom (rmK 1 23) (wPc (cw k) M [.ref (k.1 0 1), .int p1, .int p2]) (wQv (cw k) (fun u => u = f_X1_measureFrom k M p1 p2)) 0 0 (wA (cw k)) := by
  refine wx_met (cc := cX1_measureFrom) (maxL := 12) (ret := none) (by decide) rfl (Nat.le_of_ble_eq_true rfl) ?_
  intro p e s m below meth c ls hx hb hr hml hts hown hlocks hP hK hD hZ hS hl
  have hown : s.vm.findClass RX1 = some m.cls := hown
  have hl : lv_has ls 12 [(0, .ref (k.1 0 1)), (1, .int p1), (2, .int p2)] := hl
  have hiX1 : ∀ x ∈ u_ws RX1 TX1 6, x ∈ wsX1_measureFrom := by decide +kernel
  have hf22 := hts (.fieldLink RX1 22 "RobotWorld$Land" "steps" "[I") (by decide +kernel)
  have hf25 := hts (.fieldLink RX1 25 "RobotWorld$Land" "queue" "[I") (by decide +kernel)
  have hf28 := hts (.fieldLink RX1 28 "RobotWorld$Land" "goal" "I") (by decide +kernel)
  have hf9 := hts (.fieldLink RX1 9 "RobotWorld$Land" "width" "I") (by decide +kernel)
  refine lv_iload_n hx hb dX1_measureFrom_0 rfl (lv_at hl 2 rfl) ?_
  refine lv_iconst (v := 5) hx hb dX1_measureFrom_1 (by decide) ?_
  refine lv_ishl hx hb dX1_measureFrom_2 ?_
  refine lv_iload_n hx hb dX1_measureFrom_3 rfl (lv_at hl 1 rfl) ?_
  refine lv_ior hx hb dX1_measureFrom_4 ?_
  refine lv_istore_n (lv' := [(3, .int ((p2 <<< (5 &&& 31)) ||| p1)), (0, .ref (k.1 0 1)), (1, .int p1), (2, .int p2)]) hx hb dX1_measureFrom_5 rfl hl (by decide) rfl (fun ls hl => ?_)
  refine lv_aload_n hx hb dX1_measureFrom_6 rfl (lv_at hl 1 rfl) ?_
  refine wx_get (w := (cw k)) (g := 0) (j := 1) hx hb hts hiX1 hown hK hP (cIx_0 (by decide)) rfl rfl 5 (by decide) hf28 rfl dX1_measureFrom_7 ?_
  refine lv_iload_n hx hb dX1_measureFrom_10 rfl (lv_at hl 0 rfl) ?_
  refine lv_icmp_ne (tgt := 15) hx hb dX1_measureFrom_11 (by decide) (fun c_11 => ?_) (fun c_11 => ?_)
  · refine lv_aload_n hx hb dX1_measureFrom_15 rfl (lv_at hl 1 rfl) ?_
    refine lv_iload_n hx hb dX1_measureFrom_16 rfl (lv_at hl 0 rfl) ?_
    refine wx_put (w := (cw k)) (g := 0) (j := 1) hx hb hts hiX1 tyX1 tyX1_ok nmX1 hown hK hP hD hS (cIx_0 (by decide)) rfl rfl 5 (by decide) hf28 rfl (by decide +kernel) rfl (Nat.le_of_ble_eq_true rfl) dX1_measureFrom_17 (fun H locs hP hS => ?_)
    refine lv_aload_n hx hb dX1_measureFrom_20 rfl (lv_at hl 1 rfl) ?_
    refine wx_get (w := (cw k)) (g := 0) (j := 1) hx hb hts hiX1 hown hK hP (cIx_0 (by decide)) rfl rfl 3 (by decide) hf22 rfl dX1_measureFrom_21 ?_
    refine lv_iconst (v := (-1)) hx hb dX1_measureFrom_24 (by decide) ?_
    refine wx_Sv (w := (cw k)) (mr (mu M 0 1 5 ((p2 <<< (5 &&& 31)) ||| p1)) 0 3 (fillF ((mu M 0 1 5 ((p2 <<< (5 &&& 31)) ||| p1)) 0 3) (k.2.1 1) (-1))) [.ref (k.1 0 3), .int (-1)] [] (cZok k) ⟨hx, hb, hml, hown, hts⟩ (c_J7_fill l k (mu M 0 1 5 ((p2 <<< (5 &&& 31)) ||| p1)) 0 3 (k.2.1 1) (-1) (cIx_0 (by decide)) (fun _ => rfl) (cI_w hI)) (va_cwS 2 hts gX1_measureFrom_J7_fill_53178 rfl rfl rfl (by decide +kernel) ⟨by decide, by decide⟩) hP hK hD hZ hS rfl hl.1 rfl (Nat.le_of_ble_eq_true rfl) dX1_measureFrom_25 ⟨by decide, by decide⟩ (fun H locs hP hS => ?_)
    refine lv_aload_n hx hb dX1_measureFrom_28 rfl (lv_at hl 1 rfl) ?_
    refine wx_get (w := (cw k)) (g := 0) (j := 1) hx hb hts hiX1 hown hK hP (cIx_0 (by decide)) rfl rfl 3 (by decide) hf22 rfl dX1_measureFrom_29 ?_
    refine lv_iload_n hx hb dX1_measureFrom_32 rfl (lv_at hl 3 rfl) ?_
    refine lv_aload_n hx hb dX1_measureFrom_33 rfl (lv_at hl 1 rfl) ?_
    refine wx_get (w := (cw k)) (g := 0) (j := 1) hx hb hts hiX1 hown hK hP (cIx_0 (by decide)) rfl rfl 0 (by decide) hf9 rfl dX1_measureFrom_34 ?_
    refine lv_imul hx hb dX1_measureFrom_37 ?_
    refine lv_iload_n hx hb dX1_measureFrom_38 rfl (lv_at hl 2 rfl) ?_
    refine lv_iadd hx hb dX1_measureFrom_39 ?_
    refine lv_iconst (v := 0) hx hb dX1_measureFrom_40 (by decide) ?_
    refine wx_iast (w := (cw k)) (g := 0) (j := 3) hx hb hK hP hD hS (cIx_0 (by decide)) 0 (fun _ => rfl) rfl (by have h := opn_sq hI ho; simpa [mr_at, mu_at] using h) dX1_measureFrom_41 (fun H locs hP hS => ?_)
    refine lv_aload_n hx hb dX1_measureFrom_42 rfl (lv_at hl 1 rfl) ?_
    refine wx_get (w := (cw k)) (g := 0) (j := 1) hx hb hts hiX1 hown hK hP (cIx_0 (by decide)) rfl rfl 4 (by decide) hf25 rfl dX1_measureFrom_43 ?_
    refine lv_iconst (v := 0) hx hb dX1_measureFrom_46 (by decide) ?_
    refine lv_iload_n hx hb dX1_measureFrom_47 rfl (lv_at hl 0 rfl) ?_
    refine wx_iast (w := (cw k)) (g := 0) (j := 4) hx hb hK hP hD hS (cIx_0 (by decide)) 0 (fun _ => rfl) rfl (sq_0 hI) dX1_measureFrom_48 (fun H locs hP hS => ?_)
    refine lv_iconst (v := 1) hx hb dX1_measureFrom_49 (by decide) ?_
    refine lv_istore (lv' := [(4, .int 1), (3, .int ((p2 <<< (5 &&& 31)) ||| p1)), (0, .ref (k.1 0 1)), (1, .int p1), (2, .int p2)]) hx hb dX1_measureFrom_50 hl (by decide) rfl (fun ls hl => ?_)
    refine lv_iconst (v := 0) hx hb dX1_measureFrom_52 (by decide) ?_
    refine lv_istore (lv' := [(5, .int 0), (4, .int 1), (3, .int ((p2 <<< (5 &&& 31)) ||| p1)), (0, .ref (k.1 0 1)), (1, .int p1), (2, .int p2)]) hx hb dX1_measureFrom_53 hl (by decide) rfl (fun ls hl => ?_)
    have e9 : f_X1_measureFrom k M p1 p2 = f_X1_measureFrom_L55 k (k.2.1 1 + 1) 1 0 (mu (mu (mr (mu M 0 1 5 ((p2 <<< (5 &&& 31)) ||| p1)) 0 3 (fillF ((mu M 0 1 5 ((p2 <<< (5 &&& 31)) ||| p1)) 0 3) (k.2.1 1) (-1))) 0 3 ((p2 * ((mr (mu M 0 1 5 ((p2 <<< (5 &&& 31)) ||| p1)) 0 3 (fillF ((mu M 0 1 5 ((p2 <<< (5 &&& 31)) ||| p1)) 0 3) (k.2.1 1) (-1))) 0 1 0)) + p1).toNatClampNeg 0) 0 4 (0 : Int32).toNatClampNeg ((p2 <<< (5 &&& 31)) ||| p1)) := (by unfold f_X1_measureFrom; rw [if_neg c_11])
    exact lp_X1_measureFrom_L55 k hx hb hr hml hts hown hlocks hK hD hZ (k.2.1 1 + 1) 1 0 (mu (mu (mr (mu M 0 1 5 ((p2 <<< (5 &&& 31)) ||| p1)) 0 3 (fillF ((mu M 0 1 5 ((p2 <<< (5 &&& 31)) ||| p1)) 0 3) (k.2.1 1) (-1))) 0 3 ((p2 * ((mr (mu M 0 1 5 ((p2 <<< (5 &&& 31)) ||| p1)) 0 3 (fillF ((mu M 0 1 5 ((p2 <<< (5 &&& 31)) ||| p1)) 0 3) (k.2.1 1) (-1))) 0 1 0)) + p1).toNatClampNeg 0) 0 4 (0 : Int32).toNatClampNeg ((p2 <<< (5 &&& 31)) ||| p1)) _ _ ls (bq_start hI ho) hP hS (lv_sub hl [0, 1, 3] rfl) _ e9.symm
  · have e9 : f_X1_measureFrom k M p1 p2 = M := (by unfold f_X1_measureFrom; rw [if_pos c_11])
    exact wx_vret hx hb hr hlocks hP hS e9.symm dX1_measureFrom_14
theorem cI_mf_L {k : CK} : ∀ (n : Nat) (q x : Int32) (M : Mem), cI k M → bq k M q → cI k (f_X1_measureFrom_L55 k n q x M) := by
  intro n
  induction n with
  | zero => intro q x M hI hq; unfold f_X1_measureFrom_L55; exact hI
  | succ n ih =>
    intro q x M hI hq
    unfold f_X1_measureFrom_L55
    split
    · exact hI
    · split
      · exact hI
      · obtain ⟨h1, h2⟩ := bq_inner (x5 := x) (x6 := M 0 4 x.toNatClampNeg &&& 31) (x7 := M 0 4 x.toNatClampNeg >>> ((5 : Int32) &&& 31)) (x8 := M 0 3 ((M 0 4 x.toNatClampNeg >>> ((5 : Int32) &&& 31)) * M 0 1 0 + (M 0 4 x.toNatClampNeg &&& 31)).toNatClampNeg + 1) 5 q 0 M hI hq
        exact ih _ _ _ h1 h2
theorem cI_measureFrom {k : CK} {M : Mem} {x y : Int32} (hI : cI k M) (ho : ¬ f_X1_isOpen k M x y = 0) : cI k (f_X1_measureFrom k M x y) := by
  unfold f_X1_measureFrom
  split
  · exact hI
  · obtain ⟨h1, h2, h3⟩ := bq_start (f := fillF (mu M 0 1 5 ((y <<< ((5 : Int32) &&& 31)) ||| x) 0 3) (k.2.1 1) (-1)) (z := (y * mr (mu M 0 1 5 ((y <<< ((5 : Int32) &&& 31)) ||| x)) 0 3 (fillF (mu M 0 1 5 ((y <<< ((5 : Int32) &&& 31)) ||| x) 0 3) (k.2.1 1) (-1)) 0 1 0 + x).toNatClampNeg) (g := (y <<< ((5 : Int32) &&& 31)) ||| x) hI ho
    exact cI_mf_L _ _ _ _ h1 h2
/-- by program, from the bytecode of RobotWorld$Land.wayLength -/
def f_X1_wayLength (k : CK) (M : Mem) (p1 : Int32) (p2 : Int32) (p3 : Int32) (p4 : Int32) : Int32 × Mem :=
  if (f_X1_isOpen k M p3 p4) = 0 then
    ((-1), M)
  else
    ((f_X1_stepsOf k (f_X1_measureFrom k M p3 p4) p1 p2), (f_X1_measureFrom k M p3 p4))
set_option maxHeartbeats 4000000 in
set_option maxRecDepth 100000 in
theorem c_X1_wayLength (l : Launch) (k : CK) (M : Mem) (p1 : Int32) (p2 : Int32) (p3 : Int32) (p4 : Int32) (hI : cI k M) : Met l yX1_wayLength wsX1_wayLength (rmK 2 54) (wPc (cw k) M [.ref (k.1 0 1), .int p1, .int p2, .int p3, .int p4]) (wQi (cw k) (fun r u => r = (f_X1_wayLength k M p1 p2 p3 p4).1 ∧ u = (f_X1_wayLength k M p1 p2 p3 p4).2)) 0 0 (wA (cw k)) := by
  refine wx_met (cc := cX1_wayLength) (maxL := 5) (ret := (some .int)) (by decide) rfl (Nat.le_of_ble_eq_true rfl) ?_
  intro p e s m below meth c ls hx hb hr hml hts hown hlocks hP hK hD hZ hS hl
  have hown : s.vm.findClass RX1 = some m.cls := hown
  have hl : lv_has ls 5 [(0, .ref (k.1 0 1)), (1, .int p1), (2, .int p2), (3, .int p3), (4, .int p4)] := hl
  refine lv_aload_n hx hb dX1_wayLength_0 rfl (lv_at hl 0 rfl) ?_
  refine lv_iload_n hx hb dX1_wayLength_1 rfl (lv_at hl 3 rfl) ?_
  refine lv_iload hx hb dX1_wayLength_2 (lv_at hl 4 rfl) ?_
  refine wx_Vi (w := (cw k)) (f_X1_isOpen k M p3 p4) M [.int p3, .int p4] [] (cZok k) ⟨hx, hb, hml, hown, hts⟩ (c_X1_isOpen l k M p3 p4 hI) (cwV 2 hts gX1_wayLength_X1_isOpen rfl rfl rfl (by decide +kernel) ⟨by decide, by decide⟩) (wx_recv (w := (cw k)) (g := 0) (j := 1) hK hP (cIx_0 (by decide)) rfl rfl) hP hK hD hZ hS rfl hl.1 rfl (Nat.le_of_ble_eq_true rfl) dX1_wayLength_4 ⟨by decide, by decide⟩ (fun H locs hP hS => ?_)
  refine lv_if_ne (tgt := 12) hx hb dX1_wayLength_7 (by decide) (fun c_7 => ?_) (fun c_7 => ?_)
  · refine lv_aload_n hx hb dX1_wayLength_12 rfl (lv_at hl 0 rfl) ?_
    refine lv_iload_n hx hb dX1_wayLength_13 rfl (lv_at hl 3 rfl) ?_
    refine lv_iload hx hb dX1_wayLength_14 (lv_at hl 4 rfl) ?_
    refine wx_Vv (w := (cw k)) (f_X1_measureFrom k M p3 p4) [.int p3, .int p4] [] (cZok k) ⟨hx, hb, hml, hown, hts⟩ (c_X1_measureFrom l k M p3 p4 hI c_7) (cwV 2 hts gX1_wayLength_X1_measureFrom rfl rfl rfl (by decide +kernel) ⟨by decide, by decide⟩) (wx_recv (w := (cw k)) (g := 0) (j := 1) hK hP (cIx_0 (by decide)) rfl rfl) hP hK hD hZ hS rfl hl.1 rfl (Nat.le_of_ble_eq_true rfl) dX1_wayLength_16 ⟨by decide, by decide⟩ (fun H locs hP hS => ?_)
    refine lv_aload_n hx hb dX1_wayLength_19 rfl (lv_at hl 0 rfl) ?_
    refine lv_iload_n hx hb dX1_wayLength_20 rfl (lv_at hl 1 rfl) ?_
    refine lv_iload_n hx hb dX1_wayLength_21 rfl (lv_at hl 2 rfl) ?_
    refine wx_Vi (w := (cw k)) (f_X1_stepsOf k (f_X1_measureFrom k M p3 p4) p1 p2) (f_X1_measureFrom k M p3 p4) [.int p1, .int p2] [] (cZok k) ⟨hx, hb, hml, hown, hts⟩ (c_X1_stepsOf l k (f_X1_measureFrom k M p3 p4) p1 p2 (cI_measureFrom hI c_7)) (cwV 2 hts gX1_wayLength_X1_stepsOf rfl rfl rfl (by decide +kernel) ⟨by decide, by decide⟩) (wx_recv (w := (cw k)) (g := 0) (j := 1) hK hP (cIx_0 (by decide)) rfl rfl) hP hK hD hZ hS rfl hl.1 rfl (Nat.le_of_ble_eq_true rfl) dX1_wayLength_22 ⟨by decide, by decide⟩ (fun H locs hP hS => ?_)
    have e9 : f_X1_wayLength k M p1 p2 p3 p4 = ((f_X1_stepsOf k (f_X1_measureFrom k M p3 p4) p1 p2), (f_X1_measureFrom k M p3 p4)) := (by unfold f_X1_wayLength; rw [if_neg c_7])
    exact wx_iret hx hb hr hlocks hP hS rfl ⟨by rw [e9], by rw [e9]⟩ dX1_wayLength_25
  · refine lv_iconst (v := (-1)) hx hb dX1_wayLength_10 (by decide) ?_
    have e9 : f_X1_wayLength k M p1 p2 p3 p4 = ((-1), M) := (by unfold f_X1_wayLength; rw [if_pos c_7])
    exact wx_iret hx hb hr hlocks hP hS rfl ⟨by rw [e9], by rw [e9]⟩ dX1_wayLength_11
theorem cI_wayLength {k : CK} {M : Mem} {x y z w : Int32} (hI : cI k M) : cI k (f_X1_wayLength k M x y z w).2 := by
  unfold f_X1_wayLength
  split
  · exact hI
  · rename_i c
    exact cI_measureFrom hI c
/-- by program: the loop at 21 of RobotWorld$Land.firstStep -/
def f_X1_firstStep_L21 (k : CK) (p1 : Int32) (p2 : Int32) (p5 : Int32) : Nat → Int32 → Mem → Int32 × Mem
  | 0, _, M => (0, M)
  | n + 1, x, M =>
    if p5 ≤ 0 then
      ((-1), M)
    else
      if 4 ≤ x then
        ((-1), M)
      else
        if (f_X1_stepsOf k M (p1 + (eB x.toNatClampNeg)) (p2 + (sB x.toNatClampNeg))) = (p5 - 1) then
          (x, M)
        else
          f_X1_firstStep_L21 k p1 p2 p5 n (x + 1) M
set_option maxHeartbeats 4000000 in
set_option maxRecDepth 100000 in
theorem lp_X1_firstStep_L21 {p : Program} {l : Launch} {e : Env} {s : State} {m : MethodId} {args : Array Value} {below : List Frame} {meth : Method} {c : Code} (k : CK) (p1 : Int32) (p2 : Int32) (p5 : Int32)  (hx : p.tables.exec = Jvm.exec) (hb : c.code = cX1_firstStep) (hr : meth.sig.returnType = (some .int)) (hml : c.maxLocals = 7) (hts : ∀ x ∈ wsX1_firstStep, x.before args s = true) (hown : s.vm.findClass RX1 = some m.cls) (hlocks : meth.locks = false) (hK : va_K (wD (cw k)) vwCl (wT (cw k)) s) {M0 : Mem} (hD : va_D (wA (cw k)) (wW (cw k) M0)) (hZ : wZ (cw k) (wA (cw k)) s s.heap)  : ∀ (n : Nat) (x : Int32) (M : Mem) (H : Heap) (locs : List Loc) (ls : Array Slot), cI k M ∧ lpI 4 n x → wP (cw k) M H → va_S (wA (cw k)) s.heap H locs → lv_has ls 7 [(6, .int x), (5, .int p5), (0, .ref (k.1 0 1)), (1, .int p1), (2, .int p2)] → ∀ (post : Int32 → Mem → Prop), post (f_X1_firstStep_L21 k p1 p2 p5 n x M).1 (f_X1_firstStep_L21 k p1 p2 p5 n x M).2 → W p l e (rmK 3 78) s m args below meth c H locs 0 0 (MQ below (wQi (cw k) post) args s 0 0 (wA (cw k))) (F0 m 21 ls []) := by
  obtain ⟨z1, z2, z3, z4, z5, z6, z7, z8, z9⟩ := (show cZ k (wA (cw k)) s s.heap from hZ)
  intro n
  induction n with
  | zero =>
    intro x M H locs ls hinv
    exact absurd hinv (fun h => lpI_z h.2)
  | succ n ih =>
    intro x M H locs ls hinv hP hS hl post hpo
    refine lv_iload hx hb dX1_firstStep_21 (lv_at hl 1 rfl) ?_
    refine lv_if_le (tgt := 68) hx hb dX1_firstStep_23 (by decide) (fun c_23 => ?_) (fun c_23 => ?_)
    · refine lv_iconst (v := (-1)) hx hb dX1_firstStep_68 (by decide) ?_
      have e9 : f_X1_firstStep_L21 k p1 p2 p5 (n + 1) x M = ((-1), M) := (by rw [f_X1_firstStep_L21]; rw [if_pos c_23])
      exact wx_iret hx hb hr hlocks hP hS rfl (by rw [e9] at hpo; exact hpo) dX1_firstStep_69
    · refine lv_iload hx hb dX1_firstStep_26 (lv_at hl 0 rfl) ?_
      refine lv_iconst (v := 4) hx hb dX1_firstStep_28 (by decide) ?_
      refine lv_icmp_ge (tgt := 68) hx hb dX1_firstStep_29 (by decide) (fun c_29 => ?_) (fun c_29 => ?_)
      · refine lv_iconst (v := (-1)) hx hb dX1_firstStep_68 (by decide) ?_
        have e9 : f_X1_firstStep_L21 k p1 p2 p5 (n + 1) x M = ((-1), M) := (by rw [f_X1_firstStep_L21]; rw [if_neg c_23, if_pos c_29])
        exact wx_iret hx hb hr hlocks hP hS rfl (by rw [e9] at hpo; exact hpo) dX1_firstStep_69
      · refine lv_aload_n hx hb dX1_firstStep_32 rfl (lv_at hl 2 rfl) ?_
        refine lv_iload_n hx hb dX1_firstStep_33 rfl (lv_at hl 3 rfl) ?_
        refine va_getsN (host := RX3) hx hb z1 hS hown (va_Nw.use rfl z5) (fun _ h9 => h9) dX1_firstStep_34 ?_
        refine lv_iload hx hb dX1_firstStep_37 (lv_at hl 0 rfl) ?_
        refine va_ti hx hb z2 hS (lpI_in hinv.2 c_29 (by decide)) rfl dX1_firstStep_39 ?_
        refine lv_iadd hx hb dX1_firstStep_40 ?_
        refine lv_iload_n hx hb dX1_firstStep_41 rfl (lv_at hl 4 rfl) ?_
        refine va_getsN (host := RX3) hx hb z3 hS hown (va_Nw.use rfl z6) (fun _ h9 => h9) dX1_firstStep_42 ?_
        refine lv_iload hx hb dX1_firstStep_45 (lv_at hl 0 rfl) ?_
        refine va_ti hx hb z4 hS (lpI_in hinv.2 c_29 (by decide)) rfl dX1_firstStep_47 ?_
        refine lv_iadd hx hb dX1_firstStep_48 ?_
        refine wx_Vi (w := (cw k)) (f_X1_stepsOf k M (p1 + (eB x.toNatClampNeg)) (p2 + (sB x.toNatClampNeg))) M [.int (p1 + (eB x.toNatClampNeg)), .int (p2 + (sB x.toNatClampNeg))] [] (cZok k) ⟨hx, hb, hml, hown, hts⟩ (c_X1_stepsOf l k M (p1 + (eB x.toNatClampNeg)) (p2 + (sB x.toNatClampNeg)) hinv.1) (cwV 2 hts gX1_firstStep_X1_stepsOf rfl rfl rfl (by decide +kernel) ⟨by decide, by decide⟩) (wx_recv (w := (cw k)) (g := 0) (j := 1) hK hP (cIx_0 (by decide)) rfl rfl) hP hK hD hZ hS rfl hl.1 rfl (Nat.le_of_ble_eq_true rfl) dX1_firstStep_49 ⟨by decide, by decide⟩ (fun H locs hP hS => ?_)
        refine lv_iload hx hb dX1_firstStep_52 (lv_at hl 1 rfl) ?_
        refine lv_iconst (v := 1) hx hb dX1_firstStep_54 (by decide) ?_
        refine lv_isub hx hb dX1_firstStep_55 ?_
        refine lv_icmp_ne (tgt := 62) hx hb dX1_firstStep_56 (by decide) (fun c_56 => ?_) (fun c_56 => ?_)
        · refine lv_iinc (v := (x + 1)) (lv' := [(6, .int (x + 1)), (5, .int p5), (0, .ref (k.1 0 1)), (1, .int p1), (2, .int p2)]) hx hb dX1_firstStep_62 hl (k := 0) rfl rfl (by decide) rfl (fun ls hl => ?_)
          refine lv_goto (tgt := 21) hx hb dX1_firstStep_65 (by decide) ?_
          have e9 : f_X1_firstStep_L21 k p1 p2 p5 (n + 1) x M = f_X1_firstStep_L21 k p1 p2 p5 n (x + 1) M := (by rw [f_X1_firstStep_L21]; rw [if_neg c_23, if_neg c_29, if_neg c_56])
          exact ih (x + 1) M _ _ ls (⟨hinv.1, lpI_s hinv.2 c_29 (by decide)⟩) hP hS (lv_sub hl [0, 1, 2, 3, 4] rfl) _ (by rw [e9] at hpo; exact hpo)
        · refine lv_iload hx hb dX1_firstStep_59 (lv_at hl 0 rfl) ?_
          have e9 : f_X1_firstStep_L21 k p1 p2 p5 (n + 1) x M = (x, M) := (by rw [f_X1_firstStep_L21]; rw [if_neg c_23, if_neg c_29, if_pos c_56])
          exact wx_iret hx hb hr hlocks hP hS rfl (by rw [e9] at hpo; exact hpo) dX1_firstStep_61
/-- by program, from the bytecode of RobotWorld$Land.firstStep -/
def f_X1_firstStep (k : CK) (M : Mem) (p1 : Int32) (p2 : Int32) (p3 : Int32) (p4 : Int32) : Int32 × Mem :=
  if (f_X1_wayLength k M p1 p2 p3 p4).1 = 0 then
    (4, (f_X1_wayLength k M p1 p2 p3 p4).2)
  else
    f_X1_firstStep_L21 k p1 p2 ((f_X1_wayLength k M p1 p2 p3 p4).1) (5) 0 (f_X1_wayLength k M p1 p2 p3 p4).2
set_option maxHeartbeats 4000000 in
set_option maxRecDepth 100000 in
theorem c_X1_firstStep (l : Launch) (k : CK) (M : Mem) (p1 : Int32) (p2 : Int32) (p3 : Int32) (p4 : Int32) (hI : cI k M) : Met l yX1_firstStep wsX1_firstStep (rmK 3 78) (wPc (cw k) M [.ref (k.1 0 1), .int p1, .int p2, .int p3, .int p4]) (wQi (cw k) (fun r u => r = (f_X1_firstStep k M p1 p2 p3 p4).1 ∧ u = (f_X1_firstStep k M p1 p2 p3 p4).2)) 0 0 (wA (cw k)) := by
  refine wx_met (cc := cX1_firstStep) (maxL := 7) (ret := (some .int)) (by decide) rfl (Nat.le_of_ble_eq_true rfl) ?_
  intro p e s m below meth c ls hx hb hr hml hts hown hlocks hP hK hD hZ hS hl
  have hown : s.vm.findClass RX1 = some m.cls := hown
  have hl : lv_has ls 7 [(0, .ref (k.1 0 1)), (1, .int p1), (2, .int p2), (3, .int p3), (4, .int p4)] := hl
  refine lv_aload_n hx hb dX1_firstStep_0 rfl (lv_at hl 0 rfl) ?_
  refine lv_iload_n hx hb dX1_firstStep_1 rfl (lv_at hl 1 rfl) ?_
  refine lv_iload_n hx hb dX1_firstStep_2 rfl (lv_at hl 2 rfl) ?_
  refine lv_iload_n hx hb dX1_firstStep_3 rfl (lv_at hl 3 rfl) ?_
  refine lv_iload hx hb dX1_firstStep_4 (lv_at hl 4 rfl) ?_
  refine wx_Vi (w := (cw k)) ((f_X1_wayLength k M p1 p2 p3 p4).1) ((f_X1_wayLength k M p1 p2 p3 p4).2) [.int p1, .int p2, .int p3, .int p4] [] (cZok k) ⟨hx, hb, hml, hown, hts⟩ (c_X1_wayLength l k M p1 p2 p3 p4 hI) (cwV 4 hts gX1_firstStep_X1_wayLength rfl rfl rfl (by decide +kernel) ⟨by decide, by decide⟩) (wx_recv (w := (cw k)) (g := 0) (j := 1) hK hP (cIx_0 (by decide)) rfl rfl) hP hK hD hZ hS rfl hl.1 rfl (Nat.le_of_ble_eq_true rfl) dX1_firstStep_6 ⟨by decide, by decide⟩ (fun H locs hP hS => ?_)
  refine lv_istore (lv' := [(5, .int ((f_X1_wayLength k M p1 p2 p3 p4).1)), (0, .ref (k.1 0 1)), (1, .int p1), (2, .int p2), (3, .int p3), (4, .int p4)]) hx hb dX1_firstStep_9 hl (by decide) rfl (fun ls hl => ?_)
  refine lv_iload hx hb dX1_firstStep_11 (lv_at hl 0 rfl) ?_
  refine lv_if_ne (tgt := 18) hx hb dX1_firstStep_13 (by decide) (fun c_13 => ?_) (fun c_13 => ?_)
  · refine lv_iconst (v := 0) hx hb dX1_firstStep_18 (by decide) ?_
    refine lv_istore (lv' := [(6, .int 0), (5, .int ((f_X1_wayLength k M p1 p2 p3 p4).1)), (0, .ref (k.1 0 1)), (1, .int p1), (2, .int p2), (3, .int p3), (4, .int p4)]) hx hb dX1_firstStep_19 hl (by decide) rfl (fun ls hl => ?_)
    have e9 : f_X1_firstStep k M p1 p2 p3 p4 = f_X1_firstStep_L21 k p1 p2 ((f_X1_wayLength k M p1 p2 p3 p4).1) (5) 0 (f_X1_wayLength k M p1 p2 p3 p4).2 := (by unfold f_X1_firstStep; rw [if_neg c_13])
    exact lp_X1_firstStep_L21 k p1 p2 ((f_X1_wayLength k M p1 p2 p3 p4).1) hx hb hr hml hts hown hlocks hK hD hZ (5) 0 (f_X1_wayLength k M p1 p2 p3 p4).2 _ _ ls (⟨cI_wayLength hI, lpI_i 4⟩) hP hS (lv_sub hl [0, 1, 2, 3, 4] rfl) _ ⟨by rw [e9], by rw [e9]⟩
  · refine lv_iconst (v := 4) hx hb dX1_firstStep_16 (by decide) ?_
    have e9 : f_X1_firstStep k M p1 p2 p3 p4 = (4, (f_X1_wayLength k M p1 p2 p3 p4).2) := (by unfold f_X1_firstStep; rw [if_pos c_13])
    exact wx_iret hx hb hr hlocks hP hS rfl ⟨by rw [e9], by rw [e9]⟩ dX1_firstStep_17
theorem fS_L {k : CK} {p1 p2 p5 : Int32} : ∀ (n : Nat) (x : Int32) (M : Mem), (f_X1_firstStep_L21 k p1 p2 p5 n x M).2 = M := by
  intro n
  induction n with
  | zero => intro x M; rfl
  | succ n ih =>
    intro x M
    unfold f_X1_firstStep_L21
    split
    · rfl
    · split
      · rfl
      · split
        · rfl
        · exact ih _ M
theorem cI_firstStep {k : CK} {M : Mem} {x y z w : Int32} (hI : cI k M) : cI k (f_X1_firstStep k M x y z w).2 := by
  unfold f_X1_firstStep
  split
  · exact cI_wayLength hI
  · rw [fS_L]
    exact cI_wayLength hI
/-- by program, from the bytecode of RobotWorld.pathLength -/
def f_X3_pathLength (k : CK) (M : Mem) (p1 : Int32) (p2 : Int32) (p3 : Int32) (p4 : Int32) : Int32 × Mem :=
  ((f_X1_wayLength k M p1 p2 p3 p4).1, (f_X1_wayLength k M p1 p2 p3 p4).2)
set_option maxHeartbeats 4000000 in
set_option maxRecDepth 100000 in
theorem c_X3_pathLength (l : Launch) (k : CK) (M : Mem) (p1 : Int32) (p2 : Int32) (p3 : Int32) (p4 : Int32) (hI : cI k M) : Met l yX3_pathLength wsX3_pathLength (rmK 3 78) (wPc (cw k) M [.ref (k.1 0 0), .int p1, .int p2, .int p3, .int p4]) (wQi (cw k) (fun r u => r = (f_X3_pathLength k M p1 p2 p3 p4).1 ∧ u = (f_X3_pathLength k M p1 p2 p3 p4).2)) 0 0 (wA (cw k)) := by
  refine wx_met (cc := cX3_pathLength) (maxL := 5) (ret := (some .int)) (by decide) rfl (Nat.le_of_ble_eq_true rfl) ?_
  intro p e s m below meth c ls hx hb hr hml hts hown hlocks hP hK hD hZ hS hl
  have hown : s.vm.findClass RX3 = some m.cls := hown
  have hl : lv_has ls 5 [(0, .ref (k.1 0 0)), (1, .int p1), (2, .int p2), (3, .int p3), (4, .int p4)] := hl
  have hiX3 : ∀ x ∈ u_ws RX3 TX3 4, x ∈ wsX3_pathLength := by decide +kernel
  have hf18 := hts (.fieldLink RX3 18 "RobotWorld" "land" "LRobotWorld$Land;") (by decide +kernel)
  refine lv_aload_n hx hb dX3_pathLength_0 rfl (lv_at hl 0 rfl) ?_
  refine wx_get (w := (cw k)) (g := 0) (j := 0) hx hb hts hiX3 hown hK hP (cIx_0 (by decide)) rfl rfl 0 (by decide) hf18 rfl dX3_pathLength_1 ?_
  refine lv_iload_n hx hb dX3_pathLength_4 rfl (lv_at hl 1 rfl) ?_
  refine lv_iload_n hx hb dX3_pathLength_5 rfl (lv_at hl 2 rfl) ?_
  refine lv_iload_n hx hb dX3_pathLength_6 rfl (lv_at hl 3 rfl) ?_
  refine lv_iload hx hb dX3_pathLength_7 (lv_at hl 4 rfl) ?_
  refine wx_Vi (w := (cw k)) ((f_X1_wayLength k M p1 p2 p3 p4).1) ((f_X1_wayLength k M p1 p2 p3 p4).2) [.int p1, .int p2, .int p3, .int p4] [] (cZok k) ⟨hx, hb, hml, hown, hts⟩ (c_X1_wayLength l k M p1 p2 p3 p4 hI) (cwV 4 hts gX3_pathLength_X1_wayLength rfl rfl rfl (by decide +kernel) ⟨by decide, by decide⟩) (wx_recv (w := (cw k)) (g := 0) (j := 1) hK hP (cIx_0 (by decide)) rfl rfl) hP hK hD hZ hS rfl hl.1 rfl (Nat.le_of_ble_eq_true rfl) dX3_pathLength_9 ⟨by decide, by decide⟩ (fun H locs hP hS => ?_)
  have e9 : f_X3_pathLength k M p1 p2 p3 p4 = ((f_X1_wayLength k M p1 p2 p3 p4).1, (f_X1_wayLength k M p1 p2 p3 p4).2) := rfl
  exact wx_iret hx hb hr hlocks hP hS rfl ⟨by rw [e9], by rw [e9]⟩ dX3_pathLength_12
theorem and3 (x : Int32) : vp_in (x &&& 3) 4 := pk_andIn x 2 (by decide) (by decide)
theorem mf_of {k : CK} {M : Mem} {i : Nat} (h : f_X2_mustFail k M i = 0) : ¬ M (i + 1) 0 7 < 0 ∧ ¬ M (i + 1) 0 8 ≤ M (i + 1) 0 7 ∧ M (i + 1) 0 7 < nI (k.2.1 2) ∧ ¬ 24 < f_X3_opOf k M (M (i + 1) 1 (M (i + 1) 0 7).toNatClampNeg) ∧ ¬ 8 ≤ f_X3_rOf k M (M (i + 1) 1 (M (i + 1) 0 7).toNatClampNeg) ∧ f_X3_sOf k M (M (i + 1) 1 (M (i + 1) 0 7).toNatClampNeg) < 8 ∧ (f_X3_opOf k M (M (i + 1) 1 (M (i + 1) 0 7).toNatClampNeg) = 6 ∨ f_X3_opOf k M (M (i + 1) 1 (M (i + 1) 0 7).toNatClampNeg) = 7 → ¬ M (i + 1) 2 (f_X3_sOf k M (M (i + 1) 1 (M (i + 1) 0 7).toNatClampNeg)).toNatClampNeg = 0) := by
  unfold f_X2_mustFail at h
  have h10 : ¬ (1 : Int32) = 0 := by decide
  split at h
  · exact absurd h h10
  · rename_i a1
    split at h
    · exact absurd h h10
    · rename_i a2
      split at h
      · rename_i a3
        split at h
        · exact absurd h h10
        · rename_i a4
          split at h
          · exact absurd h h10
          · rename_i a5
            split at h
            · rename_i a6
              refine ⟨a1, a2, a3, a4, a5, a6, fun h6 => ?_⟩
              split at h
              · split at h
                · exact absurd h h10
                · assumption
              · split at h
                · split at h
                  · exact absurd h h10
                  · assumption
                · rename_i a7 a8
                  exact absurd h6 (fun q => q.elim a7 a8)
            · exact absurd h h10
      · exact absurd h h10
theorem mf_p {k : CK} {M : Mem} {i : Nat} (hI : cI k M) (h : f_X2_mustFail k M i = 0) : vp_in (M (i + 1) 0 7) (k.2.1 2) := vinL (mf_of h).1 (mf_of h).2.2.1 (cI_l hI)
theorem mf_r {k : CK} {M : Mem} {i : Nat} (h : f_X2_mustFail k M i = 0) : vp_in (f_X3_rOf k M (M (i + 1) 1 (M (i + 1) 0 7).toNatClampNeg)) 8 := in8 (rOf_e k M _) (Int32.not_le.mp (mf_of h).2.2.2.2.1)
theorem mf_s {k : CK} {M : Mem} {i : Nat} (h : f_X2_mustFail k M i = 0) : vp_in (f_X3_sOf k M (M (i + 1) 1 (M (i + 1) 0 7).toNatClampNeg)) 8 := in8 (sOf_e k M _) (mf_of h).2.2.2.2.2.1
theorem mf_d {k : CK} {M : Mem} {i : Nat} (h : f_X2_mustFail k M i = 0) : f_X3_opOf k M (M (i + 1) 1 (M (i + 1) 0 7).toNatClampNeg) = 6 ∨ f_X3_opOf k M (M (i + 1) 1 (M (i + 1) 0 7).toNatClampNeg) = 7 → ¬ M (i + 1) 2 (f_X3_sOf k M (M (i + 1) 1 (M (i + 1) 0 7).toNatClampNeg)).toNatClampNeg = 0 := (mf_of h).2.2.2.2.2.2
/-- by program: the loop at 59 of RobotWorld.doWord -/
def f_X3_doWord_L59 (k : CK) (i : Nat) (x4 : Int32) (x5 : Int32) (x6 : Int32) (x7 : Int32) (x8 : Int32) (x9 : Int32) (x10 : Int32) (M : Mem) : Mem :=
  if x4 = 0 then
    (mu (mu (mu M (i + 1) 0 4 5) (i + 1) 0 7 x10) (i + 1) 0 9 (((mu (mu M (i + 1) 0 4 5) (i + 1) 0 7 x10) (i + 1) 0 9) + 1))
  else
    if x4 = 1 then
      (mu (mu (mu M (i + 1) 2 x5.toNatClampNeg (f_X3_calculated k M x4 x8 x9 x7)) (i + 1) 0 7 x10) (i + 1) 0 9 (((mu (mu M (i + 1) 2 x5.toNatClampNeg (f_X3_calculated k M x4 x8 x9 x7)) (i + 1) 0 7 x10) (i + 1) 0 9) + 1))
    else
      if x4 = 2 then
        (mu (mu (mu M (i + 1) 2 x5.toNatClampNeg (f_X3_calculated k M x4 x8 x9 x7)) (i + 1) 0 7 x10) (i + 1) 0 9 (((mu (mu M (i + 1) 2 x5.toNatClampNeg (f_X3_calculated k M x4 x8 x9 x7)) (i + 1) 0 7 x10) (i + 1) 0 9) + 1))
      else
        if x4 = 3 then
          (mu (mu (mu M (i + 1) 2 x5.toNatClampNeg (f_X3_calculated k M x4 x8 x9 x7)) (i + 1) 0 7 x10) (i + 1) 0 9 (((mu (mu M (i + 1) 2 x5.toNatClampNeg (f_X3_calculated k M x4 x8 x9 x7)) (i + 1) 0 7 x10) (i + 1) 0 9) + 1))
        else
          if x4 = 4 then
            (mu (mu (mu M (i + 1) 2 x5.toNatClampNeg (f_X3_calculated k M x4 x8 x9 x7)) (i + 1) 0 7 x10) (i + 1) 0 9 (((mu (mu M (i + 1) 2 x5.toNatClampNeg (f_X3_calculated k M x4 x8 x9 x7)) (i + 1) 0 7 x10) (i + 1) 0 9) + 1))
          else
            if x4 = 5 then
              (mu (mu (mu M (i + 1) 2 x5.toNatClampNeg (f_X3_calculated k M x4 x8 x9 x7)) (i + 1) 0 7 x10) (i + 1) 0 9 (((mu (mu M (i + 1) 2 x5.toNatClampNeg (f_X3_calculated k M x4 x8 x9 x7)) (i + 1) 0 7 x10) (i + 1) 0 9) + 1))
            else
              if x4 = 6 then
                (mu (mu (mu M (i + 1) 2 x5.toNatClampNeg (f_X3_calculated k M x4 x8 x9 x7)) (i + 1) 0 7 x10) (i + 1) 0 9 (((mu (mu M (i + 1) 2 x5.toNatClampNeg (f_X3_calculated k M x4 x8 x9 x7)) (i + 1) 0 7 x10) (i + 1) 0 9) + 1))
              else
                if x4 = 7 then
                  (mu (mu (mu M (i + 1) 2 x5.toNatClampNeg (f_X3_calculated k M x4 x8 x9 x7)) (i + 1) 0 7 x10) (i + 1) 0 9 (((mu (mu M (i + 1) 2 x5.toNatClampNeg (f_X3_calculated k M x4 x8 x9 x7)) (i + 1) 0 7 x10) (i + 1) 0 9) + 1))
                else
                  if x4 = 8 then
                    (mu (mu (mu M (i + 1) 2 x5.toNatClampNeg (f_X3_calculated k M x4 x8 x9 x7)) (i + 1) 0 7 x10) (i + 1) 0 9 (((mu (mu M (i + 1) 2 x5.toNatClampNeg (f_X3_calculated k M x4 x8 x9 x7)) (i + 1) 0 7 x10) (i + 1) 0 9) + 1))
                  else
                    if x4 = 9 then
                      (mu (mu (mu M (i + 1) 2 x5.toNatClampNeg (f_X3_calculated k M x4 x8 x9 x7)) (i + 1) 0 7 x10) (i + 1) 0 9 (((mu (mu M (i + 1) 2 x5.toNatClampNeg (f_X3_calculated k M x4 x8 x9 x7)) (i + 1) 0 7 x10) (i + 1) 0 9) + 1))
                    else
                      if x4 = 10 then
                        (mu (mu M (i + 1) 0 7 x7) (i + 1) 0 9 (((mu M (i + 1) 0 7 x7) (i + 1) 0 9) + 1))
                      else
                        if x4 = 11 then
                          if x8 = 0 then
                            (mu (mu M (i + 1) 0 7 x7) (i + 1) 0 9 (((mu M (i + 1) 0 7 x7) (i + 1) 0 9) + 1))
                          else
                            (mu (mu M (i + 1) 0 7 x10) (i + 1) 0 9 (((mu M (i + 1) 0 7 x10) (i + 1) 0 9) + 1))
                        else
                          if x4 = 12 then
                            if x8 = 0 then
                              (mu (mu M (i + 1) 0 7 x10) (i + 1) 0 9 (((mu M (i + 1) 0 7 x10) (i + 1) 0 9) + 1))
                            else
                              (mu (mu M (i + 1) 0 7 x7) (i + 1) 0 9 (((mu M (i + 1) 0 7 x7) (i + 1) 0 9) + 1))
                          else
                            if x4 = 13 then
                              (mu (mu (mu (f_X3_go k M i (x8 &&& 3)).2 (i + 1) 2 x6.toNatClampNeg ((f_X3_go k M i (x8 &&& 3)).1)) (i + 1) 0 7 x10) (i + 1) 0 9 (((mu (mu (f_X3_go k M i (x8 &&& 3)).2 (i + 1) 2 x6.toNatClampNeg ((f_X3_go k M i (x8 &&& 3)).1)) (i + 1) 0 7 x10) (i + 1) 0 9) + 1))
                            else
                              if x4 = 14 then
                                (mu (mu (mu M (i + 1) 2 x6.toNatClampNeg (f_X3_look k M i (x8 &&& 3))) (i + 1) 0 7 x10) (i + 1) 0 9 (((mu (mu M (i + 1) 2 x6.toNatClampNeg (f_X3_look k M i (x8 &&& 3))) (i + 1) 0 7 x10) (i + 1) 0 9) + 1))
                              else
                                if x4 = 15 then
                                  (mu (mu (mu (f_X3_take k M i).2 (i + 1) 2 x5.toNatClampNeg ((f_X3_take k M i).1)) (i + 1) 0 7 x10) (i + 1) 0 9 (((mu (mu (f_X3_take k M i).2 (i + 1) 2 x5.toNatClampNeg ((f_X3_take k M i).1)) (i + 1) 0 7 x10) (i + 1) 0 9) + 1))
                                else
                                  if x4 = 16 then
                                    (mu (mu (mu (f_X3_lay k M i).2 (i + 1) 2 x5.toNatClampNeg ((f_X3_lay k M i).1)) (i + 1) 0 7 x10) (i + 1) 0 9 (((mu (mu (f_X3_lay k M i).2 (i + 1) 2 x5.toNatClampNeg ((f_X3_lay k M i).1)) (i + 1) 0 7 x10) (i + 1) 0 9) + 1))
                                  else
                                    if x4 = 17 then
                                      (mu (mu (mu (f_X3_send k M x8 x9).2 (i + 1) 2 x5.toNatClampNeg ((f_X3_send k M x8 x9).1)) (i + 1) 0 7 x10) (i + 1) 0 9 (((mu (mu (f_X3_send k M x8 x9).2 (i + 1) 2 x5.toNatClampNeg ((f_X3_send k M x8 x9).1)) (i + 1) 0 7 x10) (i + 1) 0 9) + 1))
                                    else
                                      if x4 = 18 then
                                        if (f_X3_receive k M i x5).1 = 0 then
                                          (mu (mu (f_X3_receive k M i x5).2 (i + 1) 0 7 ((f_X3_receive k M i x5).2 (i + 1) 0 7)) (i + 1) 0 9 (((mu (f_X3_receive k M i x5).2 (i + 1) 0 7 ((f_X3_receive k M i x5).2 (i + 1) 0 7)) (i + 1) 0 9) + 1))
                                        else
                                          (mu (mu (f_X3_receive k M i x5).2 (i + 1) 0 7 x10) (i + 1) 0 9 (((mu (f_X3_receive k M i x5).2 (i + 1) 0 7 x10) (i + 1) 0 9) + 1))
                                      else
                                        if x4 = 19 then
                                          (mu (mu (f_X2_fallAsleep k M i x8) (i + 1) 0 7 x10) (i + 1) 0 9 (((mu (f_X2_fallAsleep k M i x8) (i + 1) 0 7 x10) (i + 1) 0 9) + 1))
                                        else
                                          if x4 = 20 then
                                            (mu (mu (mu (f_X1_firstStep k M (M (i + 1) 0 5) (M (i + 1) 0 6) x8 x9).2 (i + 1) 2 x5.toNatClampNeg ((f_X1_firstStep k M (M (i + 1) 0 5) (M (i + 1) 0 6) x8 x9).1)) (i + 1) 0 7 x10) (i + 1) 0 9 (((mu (mu (f_X1_firstStep k M (M (i + 1) 0 5) (M (i + 1) 0 6) x8 x9).2 (i + 1) 2 x5.toNatClampNeg ((f_X1_firstStep k M (M (i + 1) 0 5) (M (i + 1) 0 6) x8 x9).1)) (i + 1) 0 7 x10) (i + 1) 0 9) + 1))
                                          else
                                            if x4 = 21 then
                                              (mu (mu (mu (mu M (i + 1) 2 x5.toNatClampNeg (M (i + 1) 0 5)) (i + 1) 2 x6.toNatClampNeg ((mu M (i + 1) 2 x5.toNatClampNeg (M (i + 1) 0 5)) (i + 1) 0 6)) (i + 1) 0 7 x10) (i + 1) 0 9 (((mu (mu (mu M (i + 1) 2 x5.toNatClampNeg (M (i + 1) 0 5)) (i + 1) 2 x6.toNatClampNeg ((mu M (i + 1) 2 x5.toNatClampNeg (M (i + 1) 0 5)) (i + 1) 0 6)) (i + 1) 0 7 x10) (i + 1) 0 9) + 1))
                                            else
                                              if x4 = 22 then
                                                (mu (mu (mu M (i + 1) 2 x5.toNatClampNeg (M (i + 1) 0 0)) (i + 1) 0 7 x10) (i + 1) 0 9 (((mu (mu M (i + 1) 2 x5.toNatClampNeg (M (i + 1) 0 0)) (i + 1) 0 7 x10) (i + 1) 0 9) + 1))
                                              else
                                                if x4 = 23 then
                                                  (mu (mu (mu M (i + 1) 2 x5.toNatClampNeg (M 0 0 2)) (i + 1) 0 7 x10) (i + 1) 0 9 (((mu (mu M (i + 1) 2 x5.toNatClampNeg (M 0 0 2)) (i + 1) 0 7 x10) (i + 1) 0 9) + 1))
                                                else
                                                  if x4 = 24 then
                                                    (mu (mu (mu M (i + 1) 2 x5.toNatClampNeg (M (i + 1) 0 10)) (i + 1) 0 7 x10) (i + 1) 0 9 (((mu (mu M (i + 1) 2 x5.toNatClampNeg (M (i + 1) 0 10)) (i + 1) 0 7 x10) (i + 1) 0 9) + 1))
                                                  else
                                                    (mu (mu (mu M (i + 1) 2 x5.toNatClampNeg (f_X3_calculated k M x4 x8 x9 x7)) (i + 1) 0 7 x10) (i + 1) 0 9 (((mu (mu M (i + 1) 2 x5.toNatClampNeg (f_X3_calculated k M x4 x8 x9 x7)) (i + 1) 0 7 x10) (i + 1) 0 9) + 1))
set_option maxHeartbeats 4000000 in
set_option maxRecDepth 100000 in
theorem lp_X3_doWord_L59 {p : Program} {l : Launch} {e : Env} {s : State} {m : MethodId} {args : Array Value} {below : List Frame} {meth : Method} {c : Code} (k : CK) (i : Nat) (hi : i < k.2.1 0) (hx : p.tables.exec = Jvm.exec) (hb : c.code = cX3_doWord) (hr : meth.sig.returnType = none) (hml : c.maxLocals = 11) (hts : ∀ x ∈ wsX3_doWord, x.before args s = true) (hown : s.vm.findClass RX3 = some m.cls) (hlocks : meth.locks = false) (hK : va_K (wD (cw k)) vwCl (wT (cw k)) s) {M0 : Mem} (hD : va_D (wA (cw k)) (wW (cw k) M0)) (hZ : wZ (cw k) (wA (cw k)) s s.heap)  : ∀ (x4 : Int32) (x5 : Int32) (x6 : Int32) (x7 : Int32) (x8 : Int32) (x9 : Int32) (x10 : Int32) (M : Mem) (H : Heap) (locs : List Loc) (ls : Array Slot), cI k M ∧ vp_in x5 8 ∧ vp_in x6 8 ∧ (x4 = 6 ∨ x4 = 7 → ¬ x9 = 0) → wP (cw k) M H → va_S (wA (cw k)) s.heap H locs → lv_has ls 11 [(10, .int x10), (9, .int x9), (8, .int x8), (7, .int x7), (6, .int x6), (5, .int x5), (4, .int x4), (3, .ref (k.1 (i + 1) 2)), (1, .ref (k.1 (i + 1) 0)), (0, .ref (k.1 0 0))] → ∀ (post : Mem → Prop), post (f_X3_doWord_L59 k i x4 x5 x6 x7 x8 x9 x10 M) → W p l e (rmK 4 104) s m args below meth c H locs 0 0 (MQ below (wQv (cw k) post) args s 0 0 (wA (cw k))) (F0 m 59 ls []) := by
  have hiX2 : ∀ x ∈ u_ws RX2 TX2 12, x ∈ wsX3_doWord := by decide +kernel
  have hiX3 : ∀ x ∈ u_ws RX3 TX3 4, x ∈ wsX3_doWord := by decide +kernel
  have hf101 := hts (.fieldLink RX3 101 "RobotWorld$Robot" "y" "I") (by decide +kernel)
  have hf133 := hts (.fieldLink RX3 133 "RobotWorld$Robot" "place" "I") (by decide +kernel)
  have hf179 := hts (.fieldLink RX3 179 "RobotWorld$Robot" "wordsDone" "I") (by decide +kernel)
  have hf18 := hts (.fieldLink RX3 18 "RobotWorld" "land" "LRobotWorld$Land;") (by decide +kernel)
  have hf52 := hts (.fieldLink RX3 52 "RobotWorld$Robot" "state" "I") (by decide +kernel)
  have hf74 := hts (.fieldLink RX3 74 "RobotWorld$Robot" "number" "I") (by decide +kernel)
  have hf88 := hts (.fieldLink RX3 88 "RobotWorld" "clock" "I") (by decide +kernel)
  have hf95 := hts (.fieldLink RX3 95 "RobotWorld$Robot" "carried" "I") (by decide +kernel)
  have hf98 := hts (.fieldLink RX3 98 "RobotWorld$Robot" "x" "I") (by decide +kernel)
  intro x4 x5 x6 x7 x8 x9 x10 M H locs ls hinv hP hS hl post hpo
  refine lv_iload hx hb dX3_doWord_59 (lv_at hl 6 rfl) ?_
  by_cases e_61_0 : x4 = 0
  · refine lv_tableIn (tgt := 176) hx hb dX3_doWord_61 (by rw [e_61_0]; decide) (by rw [e_61_0]; decide) (by rw [e_61_0]; rfl) (by decide) ?_
    refine lv_aload_n hx hb dX3_doWord_176 rfl (lv_at hl 8 rfl) ?_
    refine lv_iconst (v := 5) hx hb dX3_doWord_177 (by decide) ?_
    refine wx_put (w := (cw k)) (g := (i + 1)) (j := 0) hx hb hts hiX2 tyX2 tyX2_ok nmX2 hown hK hP hD hS (cIx_r hi (by decide)) rfl rfl 4 (by decide) hf52 rfl (by decide +kernel) rfl (Nat.le_of_ble_eq_true rfl) dX3_doWord_178 (fun H locs hP hS => ?_)
    refine lv_goto (tgt := 421) hx hb dX3_doWord_181 (by decide) ?_
    refine lv_aload_n hx hb dX3_doWord_421 rfl (lv_at hl 8 rfl) ?_
    refine lv_iload hx hb dX3_doWord_422 (lv_at hl 0 rfl) ?_
    refine wx_put (w := (cw k)) (g := (i + 1)) (j := 0) hx hb hts hiX2 tyX2 tyX2_ok nmX2 hown hK hP hD hS (cIx_r hi (by decide)) rfl rfl 7 (by decide) hf133 rfl (by decide +kernel) rfl (Nat.le_of_ble_eq_true rfl) dX3_doWord_424 (fun H locs hP hS => ?_)
    refine lv_aload_n hx hb dX3_doWord_427 rfl (lv_at hl 8 rfl) ?_
    refine lv_dup hx hb dX3_doWord_428 rfl ?_
    refine wx_get (w := (cw k)) (g := (i + 1)) (j := 0) hx hb hts hiX2 hown hK hP (cIx_r hi (by decide)) rfl rfl 9 (by decide) hf179 rfl dX3_doWord_429 ?_
    refine lv_iconst (v := 1) hx hb dX3_doWord_432 (by decide) ?_
    refine lv_iadd hx hb dX3_doWord_433 ?_
    refine wx_put (w := (cw k)) (g := (i + 1)) (j := 0) hx hb hts hiX2 tyX2 tyX2_ok nmX2 hown hK hP hD hS (cIx_r hi (by decide)) rfl rfl 9 (by decide) hf179 rfl (by decide +kernel) rfl (Nat.le_of_ble_eq_true rfl) dX3_doWord_434 (fun H locs hP hS => ?_)
    have e9 : f_X3_doWord_L59 k i x4 x5 x6 x7 x8 x9 x10 M = (mu (mu (mu M (i + 1) 0 4 5) (i + 1) 0 7 x10) (i + 1) 0 9 (((mu (mu M (i + 1) 0 4 5) (i + 1) 0 7 x10) (i + 1) 0 9) + 1)) := (by unfold f_X3_doWord_L59; rw [if_pos e_61_0])
    exact wx_vret hx hb hr hlocks hP hS (by rw [e9] at hpo; exact hpo) dX3_doWord_437
  by_cases e_61_1 : x4 = 1
  · refine lv_tableIn (tgt := 406) hx hb dX3_doWord_61 (by rw [e_61_1]; decide) (by rw [e_61_1]; decide) (by rw [e_61_1]; rfl) (by decide) ?_
    refine lv_aload_n hx hb dX3_doWord_406 rfl (lv_at hl 7 rfl) ?_
    refine lv_iload hx hb dX3_doWord_407 (lv_at hl 5 rfl) ?_
    refine lv_iload hx hb dX3_doWord_409 (lv_at hl 6 rfl) ?_
    refine lv_iload hx hb dX3_doWord_411 (lv_at hl 2 rfl) ?_
    refine lv_iload hx hb dX3_doWord_413 (lv_at hl 1 rfl) ?_
    refine lv_iload hx hb dX3_doWord_415 (lv_at hl 3 rfl) ?_
    refine wx_Si (w := (cw k)) (f_X3_calculated k M x4 x8 x9 x7) M [.int x4, .int x8, .int x9, .int x7] [.int x5, .ref (k.1 (i + 1) 2)] (cZok k) ⟨hx, hb, hml, hown, hts⟩ (c_X3_calculated l k M x4 x8 x9 x7 hinv.2.2.2) (va_cwS 4 hts gX3_doWord_X3_calculated rfl rfl rfl (by decide +kernel) ⟨by decide, by decide⟩) hP hK hD hZ hS rfl hl.1 rfl (Nat.le_of_ble_eq_true rfl) dX3_doWord_417 ⟨by decide, by decide⟩ (fun H locs hP hS => ?_)
    refine wx_iast (w := (cw k)) (g := (i + 1)) (j := 2) hx hb hK hP hD hS (cIx_r hi (by decide)) 0 (fun _ => rfl) rfl (hinv.2.1) dX3_doWord_420 (fun H locs hP hS => ?_)
    refine lv_aload_n hx hb dX3_doWord_421 rfl (lv_at hl 8 rfl) ?_
    refine lv_iload hx hb dX3_doWord_422 (lv_at hl 0 rfl) ?_
    refine wx_put (w := (cw k)) (g := (i + 1)) (j := 0) hx hb hts hiX2 tyX2 tyX2_ok nmX2 hown hK hP hD hS (cIx_r hi (by decide)) rfl rfl 7 (by decide) hf133 rfl (by decide +kernel) rfl (Nat.le_of_ble_eq_true rfl) dX3_doWord_424 (fun H locs hP hS => ?_)
    refine lv_aload_n hx hb dX3_doWord_427 rfl (lv_at hl 8 rfl) ?_
    refine lv_dup hx hb dX3_doWord_428 rfl ?_
    refine wx_get (w := (cw k)) (g := (i + 1)) (j := 0) hx hb hts hiX2 hown hK hP (cIx_r hi (by decide)) rfl rfl 9 (by decide) hf179 rfl dX3_doWord_429 ?_
    refine lv_iconst (v := 1) hx hb dX3_doWord_432 (by decide) ?_
    refine lv_iadd hx hb dX3_doWord_433 ?_
    refine wx_put (w := (cw k)) (g := (i + 1)) (j := 0) hx hb hts hiX2 tyX2 tyX2_ok nmX2 hown hK hP hD hS (cIx_r hi (by decide)) rfl rfl 9 (by decide) hf179 rfl (by decide +kernel) rfl (Nat.le_of_ble_eq_true rfl) dX3_doWord_434 (fun H locs hP hS => ?_)
    have e9 : f_X3_doWord_L59 k i x4 x5 x6 x7 x8 x9 x10 M = (mu (mu (mu M (i + 1) 2 x5.toNatClampNeg (f_X3_calculated k M x4 x8 x9 x7)) (i + 1) 0 7 x10) (i + 1) 0 9 (((mu (mu M (i + 1) 2 x5.toNatClampNeg (f_X3_calculated k M x4 x8 x9 x7)) (i + 1) 0 7 x10) (i + 1) 0 9) + 1)) := (by unfold f_X3_doWord_L59; rw [if_neg e_61_0, if_pos e_61_1])
    exact wx_vret hx hb hr hlocks hP hS (by rw [e9] at hpo; exact hpo) dX3_doWord_437
  by_cases e_61_2 : x4 = 2
  · refine lv_tableIn (tgt := 406) hx hb dX3_doWord_61 (by rw [e_61_2]; decide) (by rw [e_61_2]; decide) (by rw [e_61_2]; rfl) (by decide) ?_
    refine lv_aload_n hx hb dX3_doWord_406 rfl (lv_at hl 7 rfl) ?_
    refine lv_iload hx hb dX3_doWord_407 (lv_at hl 5 rfl) ?_
    refine lv_iload hx hb dX3_doWord_409 (lv_at hl 6 rfl) ?_
    refine lv_iload hx hb dX3_doWord_411 (lv_at hl 2 rfl) ?_
    refine lv_iload hx hb dX3_doWord_413 (lv_at hl 1 rfl) ?_
    refine lv_iload hx hb dX3_doWord_415 (lv_at hl 3 rfl) ?_
    refine wx_Si (w := (cw k)) (f_X3_calculated k M x4 x8 x9 x7) M [.int x4, .int x8, .int x9, .int x7] [.int x5, .ref (k.1 (i + 1) 2)] (cZok k) ⟨hx, hb, hml, hown, hts⟩ (c_X3_calculated l k M x4 x8 x9 x7 hinv.2.2.2) (va_cwS 4 hts gX3_doWord_X3_calculated rfl rfl rfl (by decide +kernel) ⟨by decide, by decide⟩) hP hK hD hZ hS rfl hl.1 rfl (Nat.le_of_ble_eq_true rfl) dX3_doWord_417 ⟨by decide, by decide⟩ (fun H locs hP hS => ?_)
    refine wx_iast (w := (cw k)) (g := (i + 1)) (j := 2) hx hb hK hP hD hS (cIx_r hi (by decide)) 0 (fun _ => rfl) rfl (hinv.2.1) dX3_doWord_420 (fun H locs hP hS => ?_)
    refine lv_aload_n hx hb dX3_doWord_421 rfl (lv_at hl 8 rfl) ?_
    refine lv_iload hx hb dX3_doWord_422 (lv_at hl 0 rfl) ?_
    refine wx_put (w := (cw k)) (g := (i + 1)) (j := 0) hx hb hts hiX2 tyX2 tyX2_ok nmX2 hown hK hP hD hS (cIx_r hi (by decide)) rfl rfl 7 (by decide) hf133 rfl (by decide +kernel) rfl (Nat.le_of_ble_eq_true rfl) dX3_doWord_424 (fun H locs hP hS => ?_)
    refine lv_aload_n hx hb dX3_doWord_427 rfl (lv_at hl 8 rfl) ?_
    refine lv_dup hx hb dX3_doWord_428 rfl ?_
    refine wx_get (w := (cw k)) (g := (i + 1)) (j := 0) hx hb hts hiX2 hown hK hP (cIx_r hi (by decide)) rfl rfl 9 (by decide) hf179 rfl dX3_doWord_429 ?_
    refine lv_iconst (v := 1) hx hb dX3_doWord_432 (by decide) ?_
    refine lv_iadd hx hb dX3_doWord_433 ?_
    refine wx_put (w := (cw k)) (g := (i + 1)) (j := 0) hx hb hts hiX2 tyX2 tyX2_ok nmX2 hown hK hP hD hS (cIx_r hi (by decide)) rfl rfl 9 (by decide) hf179 rfl (by decide +kernel) rfl (Nat.le_of_ble_eq_true rfl) dX3_doWord_434 (fun H locs hP hS => ?_)
    have e9 : f_X3_doWord_L59 k i x4 x5 x6 x7 x8 x9 x10 M = (mu (mu (mu M (i + 1) 2 x5.toNatClampNeg (f_X3_calculated k M x4 x8 x9 x7)) (i + 1) 0 7 x10) (i + 1) 0 9 (((mu (mu M (i + 1) 2 x5.toNatClampNeg (f_X3_calculated k M x4 x8 x9 x7)) (i + 1) 0 7 x10) (i + 1) 0 9) + 1)) := (by unfold f_X3_doWord_L59; rw [if_neg e_61_0, if_neg e_61_1, if_pos e_61_2])
    exact wx_vret hx hb hr hlocks hP hS (by rw [e9] at hpo; exact hpo) dX3_doWord_437
  by_cases e_61_3 : x4 = 3
  · refine lv_tableIn (tgt := 406) hx hb dX3_doWord_61 (by rw [e_61_3]; decide) (by rw [e_61_3]; decide) (by rw [e_61_3]; rfl) (by decide) ?_
    refine lv_aload_n hx hb dX3_doWord_406 rfl (lv_at hl 7 rfl) ?_
    refine lv_iload hx hb dX3_doWord_407 (lv_at hl 5 rfl) ?_
    refine lv_iload hx hb dX3_doWord_409 (lv_at hl 6 rfl) ?_
    refine lv_iload hx hb dX3_doWord_411 (lv_at hl 2 rfl) ?_
    refine lv_iload hx hb dX3_doWord_413 (lv_at hl 1 rfl) ?_
    refine lv_iload hx hb dX3_doWord_415 (lv_at hl 3 rfl) ?_
    refine wx_Si (w := (cw k)) (f_X3_calculated k M x4 x8 x9 x7) M [.int x4, .int x8, .int x9, .int x7] [.int x5, .ref (k.1 (i + 1) 2)] (cZok k) ⟨hx, hb, hml, hown, hts⟩ (c_X3_calculated l k M x4 x8 x9 x7 hinv.2.2.2) (va_cwS 4 hts gX3_doWord_X3_calculated rfl rfl rfl (by decide +kernel) ⟨by decide, by decide⟩) hP hK hD hZ hS rfl hl.1 rfl (Nat.le_of_ble_eq_true rfl) dX3_doWord_417 ⟨by decide, by decide⟩ (fun H locs hP hS => ?_)
    refine wx_iast (w := (cw k)) (g := (i + 1)) (j := 2) hx hb hK hP hD hS (cIx_r hi (by decide)) 0 (fun _ => rfl) rfl (hinv.2.1) dX3_doWord_420 (fun H locs hP hS => ?_)
    refine lv_aload_n hx hb dX3_doWord_421 rfl (lv_at hl 8 rfl) ?_
    refine lv_iload hx hb dX3_doWord_422 (lv_at hl 0 rfl) ?_
    refine wx_put (w := (cw k)) (g := (i + 1)) (j := 0) hx hb hts hiX2 tyX2 tyX2_ok nmX2 hown hK hP hD hS (cIx_r hi (by decide)) rfl rfl 7 (by decide) hf133 rfl (by decide +kernel) rfl (Nat.le_of_ble_eq_true rfl) dX3_doWord_424 (fun H locs hP hS => ?_)
    refine lv_aload_n hx hb dX3_doWord_427 rfl (lv_at hl 8 rfl) ?_
    refine lv_dup hx hb dX3_doWord_428 rfl ?_
    refine wx_get (w := (cw k)) (g := (i + 1)) (j := 0) hx hb hts hiX2 hown hK hP (cIx_r hi (by decide)) rfl rfl 9 (by decide) hf179 rfl dX3_doWord_429 ?_
    refine lv_iconst (v := 1) hx hb dX3_doWord_432 (by decide) ?_
    refine lv_iadd hx hb dX3_doWord_433 ?_
    refine wx_put (w := (cw k)) (g := (i + 1)) (j := 0) hx hb hts hiX2 tyX2 tyX2_ok nmX2 hown hK hP hD hS (cIx_r hi (by decide)) rfl rfl 9 (by decide) hf179 rfl (by decide +kernel) rfl (Nat.le_of_ble_eq_true rfl) dX3_doWord_434 (fun H locs hP hS => ?_)
    have e9 : f_X3_doWord_L59 k i x4 x5 x6 x7 x8 x9 x10 M = (mu (mu (mu M (i + 1) 2 x5.toNatClampNeg (f_X3_calculated k M x4 x8 x9 x7)) (i + 1) 0 7 x10) (i + 1) 0 9 (((mu (mu M (i + 1) 2 x5.toNatClampNeg (f_X3_calculated k M x4 x8 x9 x7)) (i + 1) 0 7 x10) (i + 1) 0 9) + 1)) := (by unfold f_X3_doWord_L59; rw [if_neg e_61_0, if_neg e_61_1, if_neg e_61_2, if_pos e_61_3])
    exact wx_vret hx hb hr hlocks hP hS (by rw [e9] at hpo; exact hpo) dX3_doWord_437
  by_cases e_61_4 : x4 = 4
  · refine lv_tableIn (tgt := 406) hx hb dX3_doWord_61 (by rw [e_61_4]; decide) (by rw [e_61_4]; decide) (by rw [e_61_4]; rfl) (by decide) ?_
    refine lv_aload_n hx hb dX3_doWord_406 rfl (lv_at hl 7 rfl) ?_
    refine lv_iload hx hb dX3_doWord_407 (lv_at hl 5 rfl) ?_
    refine lv_iload hx hb dX3_doWord_409 (lv_at hl 6 rfl) ?_
    refine lv_iload hx hb dX3_doWord_411 (lv_at hl 2 rfl) ?_
    refine lv_iload hx hb dX3_doWord_413 (lv_at hl 1 rfl) ?_
    refine lv_iload hx hb dX3_doWord_415 (lv_at hl 3 rfl) ?_
    refine wx_Si (w := (cw k)) (f_X3_calculated k M x4 x8 x9 x7) M [.int x4, .int x8, .int x9, .int x7] [.int x5, .ref (k.1 (i + 1) 2)] (cZok k) ⟨hx, hb, hml, hown, hts⟩ (c_X3_calculated l k M x4 x8 x9 x7 hinv.2.2.2) (va_cwS 4 hts gX3_doWord_X3_calculated rfl rfl rfl (by decide +kernel) ⟨by decide, by decide⟩) hP hK hD hZ hS rfl hl.1 rfl (Nat.le_of_ble_eq_true rfl) dX3_doWord_417 ⟨by decide, by decide⟩ (fun H locs hP hS => ?_)
    refine wx_iast (w := (cw k)) (g := (i + 1)) (j := 2) hx hb hK hP hD hS (cIx_r hi (by decide)) 0 (fun _ => rfl) rfl (hinv.2.1) dX3_doWord_420 (fun H locs hP hS => ?_)
    refine lv_aload_n hx hb dX3_doWord_421 rfl (lv_at hl 8 rfl) ?_
    refine lv_iload hx hb dX3_doWord_422 (lv_at hl 0 rfl) ?_
    refine wx_put (w := (cw k)) (g := (i + 1)) (j := 0) hx hb hts hiX2 tyX2 tyX2_ok nmX2 hown hK hP hD hS (cIx_r hi (by decide)) rfl rfl 7 (by decide) hf133 rfl (by decide +kernel) rfl (Nat.le_of_ble_eq_true rfl) dX3_doWord_424 (fun H locs hP hS => ?_)
    refine lv_aload_n hx hb dX3_doWord_427 rfl (lv_at hl 8 rfl) ?_
    refine lv_dup hx hb dX3_doWord_428 rfl ?_
    refine wx_get (w := (cw k)) (g := (i + 1)) (j := 0) hx hb hts hiX2 hown hK hP (cIx_r hi (by decide)) rfl rfl 9 (by decide) hf179 rfl dX3_doWord_429 ?_
    refine lv_iconst (v := 1) hx hb dX3_doWord_432 (by decide) ?_
    refine lv_iadd hx hb dX3_doWord_433 ?_
    refine wx_put (w := (cw k)) (g := (i + 1)) (j := 0) hx hb hts hiX2 tyX2 tyX2_ok nmX2 hown hK hP hD hS (cIx_r hi (by decide)) rfl rfl 9 (by decide) hf179 rfl (by decide +kernel) rfl (Nat.le_of_ble_eq_true rfl) dX3_doWord_434 (fun H locs hP hS => ?_)
    have e9 : f_X3_doWord_L59 k i x4 x5 x6 x7 x8 x9 x10 M = (mu (mu (mu M (i + 1) 2 x5.toNatClampNeg (f_X3_calculated k M x4 x8 x9 x7)) (i + 1) 0 7 x10) (i + 1) 0 9 (((mu (mu M (i + 1) 2 x5.toNatClampNeg (f_X3_calculated k M x4 x8 x9 x7)) (i + 1) 0 7 x10) (i + 1) 0 9) + 1)) := (by unfold f_X3_doWord_L59; rw [if_neg e_61_0, if_neg e_61_1, if_neg e_61_2, if_neg e_61_3, if_pos e_61_4])
    exact wx_vret hx hb hr hlocks hP hS (by rw [e9] at hpo; exact hpo) dX3_doWord_437
  by_cases e_61_5 : x4 = 5
  · refine lv_tableIn (tgt := 406) hx hb dX3_doWord_61 (by rw [e_61_5]; decide) (by rw [e_61_5]; decide) (by rw [e_61_5]; rfl) (by decide) ?_
    refine lv_aload_n hx hb dX3_doWord_406 rfl (lv_at hl 7 rfl) ?_
    refine lv_iload hx hb dX3_doWord_407 (lv_at hl 5 rfl) ?_
    refine lv_iload hx hb dX3_doWord_409 (lv_at hl 6 rfl) ?_
    refine lv_iload hx hb dX3_doWord_411 (lv_at hl 2 rfl) ?_
    refine lv_iload hx hb dX3_doWord_413 (lv_at hl 1 rfl) ?_
    refine lv_iload hx hb dX3_doWord_415 (lv_at hl 3 rfl) ?_
    refine wx_Si (w := (cw k)) (f_X3_calculated k M x4 x8 x9 x7) M [.int x4, .int x8, .int x9, .int x7] [.int x5, .ref (k.1 (i + 1) 2)] (cZok k) ⟨hx, hb, hml, hown, hts⟩ (c_X3_calculated l k M x4 x8 x9 x7 hinv.2.2.2) (va_cwS 4 hts gX3_doWord_X3_calculated rfl rfl rfl (by decide +kernel) ⟨by decide, by decide⟩) hP hK hD hZ hS rfl hl.1 rfl (Nat.le_of_ble_eq_true rfl) dX3_doWord_417 ⟨by decide, by decide⟩ (fun H locs hP hS => ?_)
    refine wx_iast (w := (cw k)) (g := (i + 1)) (j := 2) hx hb hK hP hD hS (cIx_r hi (by decide)) 0 (fun _ => rfl) rfl (hinv.2.1) dX3_doWord_420 (fun H locs hP hS => ?_)
    refine lv_aload_n hx hb dX3_doWord_421 rfl (lv_at hl 8 rfl) ?_
    refine lv_iload hx hb dX3_doWord_422 (lv_at hl 0 rfl) ?_
    refine wx_put (w := (cw k)) (g := (i + 1)) (j := 0) hx hb hts hiX2 tyX2 tyX2_ok nmX2 hown hK hP hD hS (cIx_r hi (by decide)) rfl rfl 7 (by decide) hf133 rfl (by decide +kernel) rfl (Nat.le_of_ble_eq_true rfl) dX3_doWord_424 (fun H locs hP hS => ?_)
    refine lv_aload_n hx hb dX3_doWord_427 rfl (lv_at hl 8 rfl) ?_
    refine lv_dup hx hb dX3_doWord_428 rfl ?_
    refine wx_get (w := (cw k)) (g := (i + 1)) (j := 0) hx hb hts hiX2 hown hK hP (cIx_r hi (by decide)) rfl rfl 9 (by decide) hf179 rfl dX3_doWord_429 ?_
    refine lv_iconst (v := 1) hx hb dX3_doWord_432 (by decide) ?_
    refine lv_iadd hx hb dX3_doWord_433 ?_
    refine wx_put (w := (cw k)) (g := (i + 1)) (j := 0) hx hb hts hiX2 tyX2 tyX2_ok nmX2 hown hK hP hD hS (cIx_r hi (by decide)) rfl rfl 9 (by decide) hf179 rfl (by decide +kernel) rfl (Nat.le_of_ble_eq_true rfl) dX3_doWord_434 (fun H locs hP hS => ?_)
    have e9 : f_X3_doWord_L59 k i x4 x5 x6 x7 x8 x9 x10 M = (mu (mu (mu M (i + 1) 2 x5.toNatClampNeg (f_X3_calculated k M x4 x8 x9 x7)) (i + 1) 0 7 x10) (i + 1) 0 9 (((mu (mu M (i + 1) 2 x5.toNatClampNeg (f_X3_calculated k M x4 x8 x9 x7)) (i + 1) 0 7 x10) (i + 1) 0 9) + 1)) := (by unfold f_X3_doWord_L59; rw [if_neg e_61_0, if_neg e_61_1, if_neg e_61_2, if_neg e_61_3, if_neg e_61_4, if_pos e_61_5])
    exact wx_vret hx hb hr hlocks hP hS (by rw [e9] at hpo; exact hpo) dX3_doWord_437
  by_cases e_61_6 : x4 = 6
  · refine lv_tableIn (tgt := 406) hx hb dX3_doWord_61 (by rw [e_61_6]; decide) (by rw [e_61_6]; decide) (by rw [e_61_6]; rfl) (by decide) ?_
    refine lv_aload_n hx hb dX3_doWord_406 rfl (lv_at hl 7 rfl) ?_
    refine lv_iload hx hb dX3_doWord_407 (lv_at hl 5 rfl) ?_
    refine lv_iload hx hb dX3_doWord_409 (lv_at hl 6 rfl) ?_
    refine lv_iload hx hb dX3_doWord_411 (lv_at hl 2 rfl) ?_
    refine lv_iload hx hb dX3_doWord_413 (lv_at hl 1 rfl) ?_
    refine lv_iload hx hb dX3_doWord_415 (lv_at hl 3 rfl) ?_
    refine wx_Si (w := (cw k)) (f_X3_calculated k M x4 x8 x9 x7) M [.int x4, .int x8, .int x9, .int x7] [.int x5, .ref (k.1 (i + 1) 2)] (cZok k) ⟨hx, hb, hml, hown, hts⟩ (c_X3_calculated l k M x4 x8 x9 x7 hinv.2.2.2) (va_cwS 4 hts gX3_doWord_X3_calculated rfl rfl rfl (by decide +kernel) ⟨by decide, by decide⟩) hP hK hD hZ hS rfl hl.1 rfl (Nat.le_of_ble_eq_true rfl) dX3_doWord_417 ⟨by decide, by decide⟩ (fun H locs hP hS => ?_)
    refine wx_iast (w := (cw k)) (g := (i + 1)) (j := 2) hx hb hK hP hD hS (cIx_r hi (by decide)) 0 (fun _ => rfl) rfl (hinv.2.1) dX3_doWord_420 (fun H locs hP hS => ?_)
    refine lv_aload_n hx hb dX3_doWord_421 rfl (lv_at hl 8 rfl) ?_
    refine lv_iload hx hb dX3_doWord_422 (lv_at hl 0 rfl) ?_
    refine wx_put (w := (cw k)) (g := (i + 1)) (j := 0) hx hb hts hiX2 tyX2 tyX2_ok nmX2 hown hK hP hD hS (cIx_r hi (by decide)) rfl rfl 7 (by decide) hf133 rfl (by decide +kernel) rfl (Nat.le_of_ble_eq_true rfl) dX3_doWord_424 (fun H locs hP hS => ?_)
    refine lv_aload_n hx hb dX3_doWord_427 rfl (lv_at hl 8 rfl) ?_
    refine lv_dup hx hb dX3_doWord_428 rfl ?_
    refine wx_get (w := (cw k)) (g := (i + 1)) (j := 0) hx hb hts hiX2 hown hK hP (cIx_r hi (by decide)) rfl rfl 9 (by decide) hf179 rfl dX3_doWord_429 ?_
    refine lv_iconst (v := 1) hx hb dX3_doWord_432 (by decide) ?_
    refine lv_iadd hx hb dX3_doWord_433 ?_
    refine wx_put (w := (cw k)) (g := (i + 1)) (j := 0) hx hb hts hiX2 tyX2 tyX2_ok nmX2 hown hK hP hD hS (cIx_r hi (by decide)) rfl rfl 9 (by decide) hf179 rfl (by decide +kernel) rfl (Nat.le_of_ble_eq_true rfl) dX3_doWord_434 (fun H locs hP hS => ?_)
    have e9 : f_X3_doWord_L59 k i x4 x5 x6 x7 x8 x9 x10 M = (mu (mu (mu M (i + 1) 2 x5.toNatClampNeg (f_X3_calculated k M x4 x8 x9 x7)) (i + 1) 0 7 x10) (i + 1) 0 9 (((mu (mu M (i + 1) 2 x5.toNatClampNeg (f_X3_calculated k M x4 x8 x9 x7)) (i + 1) 0 7 x10) (i + 1) 0 9) + 1)) := (by unfold f_X3_doWord_L59; rw [if_neg e_61_0, if_neg e_61_1, if_neg e_61_2, if_neg e_61_3, if_neg e_61_4, if_neg e_61_5, if_pos e_61_6])
    exact wx_vret hx hb hr hlocks hP hS (by rw [e9] at hpo; exact hpo) dX3_doWord_437
  by_cases e_61_7 : x4 = 7
  · refine lv_tableIn (tgt := 406) hx hb dX3_doWord_61 (by rw [e_61_7]; decide) (by rw [e_61_7]; decide) (by rw [e_61_7]; rfl) (by decide) ?_
    refine lv_aload_n hx hb dX3_doWord_406 rfl (lv_at hl 7 rfl) ?_
    refine lv_iload hx hb dX3_doWord_407 (lv_at hl 5 rfl) ?_
    refine lv_iload hx hb dX3_doWord_409 (lv_at hl 6 rfl) ?_
    refine lv_iload hx hb dX3_doWord_411 (lv_at hl 2 rfl) ?_
    refine lv_iload hx hb dX3_doWord_413 (lv_at hl 1 rfl) ?_
    refine lv_iload hx hb dX3_doWord_415 (lv_at hl 3 rfl) ?_
    refine wx_Si (w := (cw k)) (f_X3_calculated k M x4 x8 x9 x7) M [.int x4, .int x8, .int x9, .int x7] [.int x5, .ref (k.1 (i + 1) 2)] (cZok k) ⟨hx, hb, hml, hown, hts⟩ (c_X3_calculated l k M x4 x8 x9 x7 hinv.2.2.2) (va_cwS 4 hts gX3_doWord_X3_calculated rfl rfl rfl (by decide +kernel) ⟨by decide, by decide⟩) hP hK hD hZ hS rfl hl.1 rfl (Nat.le_of_ble_eq_true rfl) dX3_doWord_417 ⟨by decide, by decide⟩ (fun H locs hP hS => ?_)
    refine wx_iast (w := (cw k)) (g := (i + 1)) (j := 2) hx hb hK hP hD hS (cIx_r hi (by decide)) 0 (fun _ => rfl) rfl (hinv.2.1) dX3_doWord_420 (fun H locs hP hS => ?_)
    refine lv_aload_n hx hb dX3_doWord_421 rfl (lv_at hl 8 rfl) ?_
    refine lv_iload hx hb dX3_doWord_422 (lv_at hl 0 rfl) ?_
    refine wx_put (w := (cw k)) (g := (i + 1)) (j := 0) hx hb hts hiX2 tyX2 tyX2_ok nmX2 hown hK hP hD hS (cIx_r hi (by decide)) rfl rfl 7 (by decide) hf133 rfl (by decide +kernel) rfl (Nat.le_of_ble_eq_true rfl) dX3_doWord_424 (fun H locs hP hS => ?_)
    refine lv_aload_n hx hb dX3_doWord_427 rfl (lv_at hl 8 rfl) ?_
    refine lv_dup hx hb dX3_doWord_428 rfl ?_
    refine wx_get (w := (cw k)) (g := (i + 1)) (j := 0) hx hb hts hiX2 hown hK hP (cIx_r hi (by decide)) rfl rfl 9 (by decide) hf179 rfl dX3_doWord_429 ?_
    refine lv_iconst (v := 1) hx hb dX3_doWord_432 (by decide) ?_
    refine lv_iadd hx hb dX3_doWord_433 ?_
    refine wx_put (w := (cw k)) (g := (i + 1)) (j := 0) hx hb hts hiX2 tyX2 tyX2_ok nmX2 hown hK hP hD hS (cIx_r hi (by decide)) rfl rfl 9 (by decide) hf179 rfl (by decide +kernel) rfl (Nat.le_of_ble_eq_true rfl) dX3_doWord_434 (fun H locs hP hS => ?_)
    have e9 : f_X3_doWord_L59 k i x4 x5 x6 x7 x8 x9 x10 M = (mu (mu (mu M (i + 1) 2 x5.toNatClampNeg (f_X3_calculated k M x4 x8 x9 x7)) (i + 1) 0 7 x10) (i + 1) 0 9 (((mu (mu M (i + 1) 2 x5.toNatClampNeg (f_X3_calculated k M x4 x8 x9 x7)) (i + 1) 0 7 x10) (i + 1) 0 9) + 1)) := (by unfold f_X3_doWord_L59; rw [if_neg e_61_0, if_neg e_61_1, if_neg e_61_2, if_neg e_61_3, if_neg e_61_4, if_neg e_61_5, if_neg e_61_6, if_pos e_61_7])
    exact wx_vret hx hb hr hlocks hP hS (by rw [e9] at hpo; exact hpo) dX3_doWord_437
  by_cases e_61_8 : x4 = 8
  · refine lv_tableIn (tgt := 406) hx hb dX3_doWord_61 (by rw [e_61_8]; decide) (by rw [e_61_8]; decide) (by rw [e_61_8]; rfl) (by decide) ?_
    refine lv_aload_n hx hb dX3_doWord_406 rfl (lv_at hl 7 rfl) ?_
    refine lv_iload hx hb dX3_doWord_407 (lv_at hl 5 rfl) ?_
    refine lv_iload hx hb dX3_doWord_409 (lv_at hl 6 rfl) ?_
    refine lv_iload hx hb dX3_doWord_411 (lv_at hl 2 rfl) ?_
    refine lv_iload hx hb dX3_doWord_413 (lv_at hl 1 rfl) ?_
    refine lv_iload hx hb dX3_doWord_415 (lv_at hl 3 rfl) ?_
    refine wx_Si (w := (cw k)) (f_X3_calculated k M x4 x8 x9 x7) M [.int x4, .int x8, .int x9, .int x7] [.int x5, .ref (k.1 (i + 1) 2)] (cZok k) ⟨hx, hb, hml, hown, hts⟩ (c_X3_calculated l k M x4 x8 x9 x7 hinv.2.2.2) (va_cwS 4 hts gX3_doWord_X3_calculated rfl rfl rfl (by decide +kernel) ⟨by decide, by decide⟩) hP hK hD hZ hS rfl hl.1 rfl (Nat.le_of_ble_eq_true rfl) dX3_doWord_417 ⟨by decide, by decide⟩ (fun H locs hP hS => ?_)
    refine wx_iast (w := (cw k)) (g := (i + 1)) (j := 2) hx hb hK hP hD hS (cIx_r hi (by decide)) 0 (fun _ => rfl) rfl (hinv.2.1) dX3_doWord_420 (fun H locs hP hS => ?_)
    refine lv_aload_n hx hb dX3_doWord_421 rfl (lv_at hl 8 rfl) ?_
    refine lv_iload hx hb dX3_doWord_422 (lv_at hl 0 rfl) ?_
    refine wx_put (w := (cw k)) (g := (i + 1)) (j := 0) hx hb hts hiX2 tyX2 tyX2_ok nmX2 hown hK hP hD hS (cIx_r hi (by decide)) rfl rfl 7 (by decide) hf133 rfl (by decide +kernel) rfl (Nat.le_of_ble_eq_true rfl) dX3_doWord_424 (fun H locs hP hS => ?_)
    refine lv_aload_n hx hb dX3_doWord_427 rfl (lv_at hl 8 rfl) ?_
    refine lv_dup hx hb dX3_doWord_428 rfl ?_
    refine wx_get (w := (cw k)) (g := (i + 1)) (j := 0) hx hb hts hiX2 hown hK hP (cIx_r hi (by decide)) rfl rfl 9 (by decide) hf179 rfl dX3_doWord_429 ?_
    refine lv_iconst (v := 1) hx hb dX3_doWord_432 (by decide) ?_
    refine lv_iadd hx hb dX3_doWord_433 ?_
    refine wx_put (w := (cw k)) (g := (i + 1)) (j := 0) hx hb hts hiX2 tyX2 tyX2_ok nmX2 hown hK hP hD hS (cIx_r hi (by decide)) rfl rfl 9 (by decide) hf179 rfl (by decide +kernel) rfl (Nat.le_of_ble_eq_true rfl) dX3_doWord_434 (fun H locs hP hS => ?_)
    have e9 : f_X3_doWord_L59 k i x4 x5 x6 x7 x8 x9 x10 M = (mu (mu (mu M (i + 1) 2 x5.toNatClampNeg (f_X3_calculated k M x4 x8 x9 x7)) (i + 1) 0 7 x10) (i + 1) 0 9 (((mu (mu M (i + 1) 2 x5.toNatClampNeg (f_X3_calculated k M x4 x8 x9 x7)) (i + 1) 0 7 x10) (i + 1) 0 9) + 1)) := (by unfold f_X3_doWord_L59; rw [if_neg e_61_0, if_neg e_61_1, if_neg e_61_2, if_neg e_61_3, if_neg e_61_4, if_neg e_61_5, if_neg e_61_6, if_neg e_61_7, if_pos e_61_8])
    exact wx_vret hx hb hr hlocks hP hS (by rw [e9] at hpo; exact hpo) dX3_doWord_437
  by_cases e_61_9 : x4 = 9
  · refine lv_tableIn (tgt := 406) hx hb dX3_doWord_61 (by rw [e_61_9]; decide) (by rw [e_61_9]; decide) (by rw [e_61_9]; rfl) (by decide) ?_
    refine lv_aload_n hx hb dX3_doWord_406 rfl (lv_at hl 7 rfl) ?_
    refine lv_iload hx hb dX3_doWord_407 (lv_at hl 5 rfl) ?_
    refine lv_iload hx hb dX3_doWord_409 (lv_at hl 6 rfl) ?_
    refine lv_iload hx hb dX3_doWord_411 (lv_at hl 2 rfl) ?_
    refine lv_iload hx hb dX3_doWord_413 (lv_at hl 1 rfl) ?_
    refine lv_iload hx hb dX3_doWord_415 (lv_at hl 3 rfl) ?_
    refine wx_Si (w := (cw k)) (f_X3_calculated k M x4 x8 x9 x7) M [.int x4, .int x8, .int x9, .int x7] [.int x5, .ref (k.1 (i + 1) 2)] (cZok k) ⟨hx, hb, hml, hown, hts⟩ (c_X3_calculated l k M x4 x8 x9 x7 hinv.2.2.2) (va_cwS 4 hts gX3_doWord_X3_calculated rfl rfl rfl (by decide +kernel) ⟨by decide, by decide⟩) hP hK hD hZ hS rfl hl.1 rfl (Nat.le_of_ble_eq_true rfl) dX3_doWord_417 ⟨by decide, by decide⟩ (fun H locs hP hS => ?_)
    refine wx_iast (w := (cw k)) (g := (i + 1)) (j := 2) hx hb hK hP hD hS (cIx_r hi (by decide)) 0 (fun _ => rfl) rfl (hinv.2.1) dX3_doWord_420 (fun H locs hP hS => ?_)
    refine lv_aload_n hx hb dX3_doWord_421 rfl (lv_at hl 8 rfl) ?_
    refine lv_iload hx hb dX3_doWord_422 (lv_at hl 0 rfl) ?_
    refine wx_put (w := (cw k)) (g := (i + 1)) (j := 0) hx hb hts hiX2 tyX2 tyX2_ok nmX2 hown hK hP hD hS (cIx_r hi (by decide)) rfl rfl 7 (by decide) hf133 rfl (by decide +kernel) rfl (Nat.le_of_ble_eq_true rfl) dX3_doWord_424 (fun H locs hP hS => ?_)
    refine lv_aload_n hx hb dX3_doWord_427 rfl (lv_at hl 8 rfl) ?_
    refine lv_dup hx hb dX3_doWord_428 rfl ?_
    refine wx_get (w := (cw k)) (g := (i + 1)) (j := 0) hx hb hts hiX2 hown hK hP (cIx_r hi (by decide)) rfl rfl 9 (by decide) hf179 rfl dX3_doWord_429 ?_
    refine lv_iconst (v := 1) hx hb dX3_doWord_432 (by decide) ?_
    refine lv_iadd hx hb dX3_doWord_433 ?_
    refine wx_put (w := (cw k)) (g := (i + 1)) (j := 0) hx hb hts hiX2 tyX2 tyX2_ok nmX2 hown hK hP hD hS (cIx_r hi (by decide)) rfl rfl 9 (by decide) hf179 rfl (by decide +kernel) rfl (Nat.le_of_ble_eq_true rfl) dX3_doWord_434 (fun H locs hP hS => ?_)
    have e9 : f_X3_doWord_L59 k i x4 x5 x6 x7 x8 x9 x10 M = (mu (mu (mu M (i + 1) 2 x5.toNatClampNeg (f_X3_calculated k M x4 x8 x9 x7)) (i + 1) 0 7 x10) (i + 1) 0 9 (((mu (mu M (i + 1) 2 x5.toNatClampNeg (f_X3_calculated k M x4 x8 x9 x7)) (i + 1) 0 7 x10) (i + 1) 0 9) + 1)) := (by unfold f_X3_doWord_L59; rw [if_neg e_61_0, if_neg e_61_1, if_neg e_61_2, if_neg e_61_3, if_neg e_61_4, if_neg e_61_5, if_neg e_61_6, if_neg e_61_7, if_neg e_61_8, if_pos e_61_9])
    exact wx_vret hx hb hr hlocks hP hS (by rw [e9] at hpo; exact hpo) dX3_doWord_437
  by_cases e_61_10 : x4 = 10
  · refine lv_tableIn (tgt := 184) hx hb dX3_doWord_61 (by rw [e_61_10]; decide) (by rw [e_61_10]; decide) (by rw [e_61_10]; rfl) (by decide) ?_
    refine lv_iload hx hb dX3_doWord_184 (lv_at hl 3 rfl) ?_
    refine lv_istore (lv' := [(10, .int x7), (9, .int x9), (8, .int x8), (7, .int x7), (6, .int x6), (5, .int x5), (4, .int x4), (3, .ref (k.1 (i + 1) 2)), (1, .ref (k.1 (i + 1) 0)), (0, .ref (k.1 0 0))]) hx hb dX3_doWord_186 hl (by decide) rfl (fun ls hl => ?_)
    refine lv_goto (tgt := 421) hx hb dX3_doWord_188 (by decide) ?_
    refine lv_aload_n hx hb dX3_doWord_421 rfl (lv_at hl 8 rfl) ?_
    refine lv_iload hx hb dX3_doWord_422 (lv_at hl 0 rfl) ?_
    refine wx_put (w := (cw k)) (g := (i + 1)) (j := 0) hx hb hts hiX2 tyX2 tyX2_ok nmX2 hown hK hP hD hS (cIx_r hi (by decide)) rfl rfl 7 (by decide) hf133 rfl (by decide +kernel) rfl (Nat.le_of_ble_eq_true rfl) dX3_doWord_424 (fun H locs hP hS => ?_)
    refine lv_aload_n hx hb dX3_doWord_427 rfl (lv_at hl 8 rfl) ?_
    refine lv_dup hx hb dX3_doWord_428 rfl ?_
    refine wx_get (w := (cw k)) (g := (i + 1)) (j := 0) hx hb hts hiX2 hown hK hP (cIx_r hi (by decide)) rfl rfl 9 (by decide) hf179 rfl dX3_doWord_429 ?_
    refine lv_iconst (v := 1) hx hb dX3_doWord_432 (by decide) ?_
    refine lv_iadd hx hb dX3_doWord_433 ?_
    refine wx_put (w := (cw k)) (g := (i + 1)) (j := 0) hx hb hts hiX2 tyX2 tyX2_ok nmX2 hown hK hP hD hS (cIx_r hi (by decide)) rfl rfl 9 (by decide) hf179 rfl (by decide +kernel) rfl (Nat.le_of_ble_eq_true rfl) dX3_doWord_434 (fun H locs hP hS => ?_)
    have e9 : f_X3_doWord_L59 k i x4 x5 x6 x7 x8 x9 x10 M = (mu (mu M (i + 1) 0 7 x7) (i + 1) 0 9 (((mu M (i + 1) 0 7 x7) (i + 1) 0 9) + 1)) := (by unfold f_X3_doWord_L59; rw [if_neg e_61_0, if_neg e_61_1, if_neg e_61_2, if_neg e_61_3, if_neg e_61_4, if_neg e_61_5, if_neg e_61_6, if_neg e_61_7, if_neg e_61_8, if_neg e_61_9, if_pos e_61_10])
    exact wx_vret hx hb hr hlocks hP hS (by rw [e9] at hpo; exact hpo) dX3_doWord_437
  by_cases e_61_11 : x4 = 11
  · refine lv_tableIn (tgt := 191) hx hb dX3_doWord_61 (by rw [e_61_11]; decide) (by rw [e_61_11]; decide) (by rw [e_61_11]; rfl) (by decide) ?_
    refine lv_iload hx hb dX3_doWord_191 (lv_at hl 2 rfl) ?_
    refine lv_if_ne (tgt := 201) hx hb dX3_doWord_193 (by decide) (fun c_193 => ?_) (fun c_193 => ?_)
    · refine lv_iload hx hb dX3_doWord_201 (lv_at hl 0 rfl) ?_
      refine lv_istore (lv' := [(10, .int x10), (9, .int x9), (8, .int x8), (7, .int x7), (6, .int x6), (5, .int x5), (4, .int x4), (3, .ref (k.1 (i + 1) 2)), (1, .ref (k.1 (i + 1) 0)), (0, .ref (k.1 0 0))]) hx hb dX3_doWord_203 hl (by decide) rfl (fun ls hl => ?_)
      refine lv_goto (tgt := 421) hx hb dX3_doWord_205 (by decide) ?_
      refine lv_aload_n hx hb dX3_doWord_421 rfl (lv_at hl 8 rfl) ?_
      refine lv_iload hx hb dX3_doWord_422 (lv_at hl 0 rfl) ?_
      refine wx_put (w := (cw k)) (g := (i + 1)) (j := 0) hx hb hts hiX2 tyX2 tyX2_ok nmX2 hown hK hP hD hS (cIx_r hi (by decide)) rfl rfl 7 (by decide) hf133 rfl (by decide +kernel) rfl (Nat.le_of_ble_eq_true rfl) dX3_doWord_424 (fun H locs hP hS => ?_)
      refine lv_aload_n hx hb dX3_doWord_427 rfl (lv_at hl 8 rfl) ?_
      refine lv_dup hx hb dX3_doWord_428 rfl ?_
      refine wx_get (w := (cw k)) (g := (i + 1)) (j := 0) hx hb hts hiX2 hown hK hP (cIx_r hi (by decide)) rfl rfl 9 (by decide) hf179 rfl dX3_doWord_429 ?_
      refine lv_iconst (v := 1) hx hb dX3_doWord_432 (by decide) ?_
      refine lv_iadd hx hb dX3_doWord_433 ?_
      refine wx_put (w := (cw k)) (g := (i + 1)) (j := 0) hx hb hts hiX2 tyX2 tyX2_ok nmX2 hown hK hP hD hS (cIx_r hi (by decide)) rfl rfl 9 (by decide) hf179 rfl (by decide +kernel) rfl (Nat.le_of_ble_eq_true rfl) dX3_doWord_434 (fun H locs hP hS => ?_)
      have e9 : f_X3_doWord_L59 k i x4 x5 x6 x7 x8 x9 x10 M = (mu (mu M (i + 1) 0 7 x10) (i + 1) 0 9 (((mu M (i + 1) 0 7 x10) (i + 1) 0 9) + 1)) := (by unfold f_X3_doWord_L59; rw [if_neg e_61_0, if_neg e_61_1, if_neg e_61_2, if_neg e_61_3, if_neg e_61_4, if_neg e_61_5, if_neg e_61_6, if_neg e_61_7, if_neg e_61_8, if_neg e_61_9, if_neg e_61_10, if_pos e_61_11, if_neg c_193])
      exact wx_vret hx hb hr hlocks hP hS (by rw [e9] at hpo; exact hpo) dX3_doWord_437
    · refine lv_iload hx hb dX3_doWord_196 (lv_at hl 3 rfl) ?_
      refine lv_goto (tgt := 203) hx hb dX3_doWord_198 (by decide) ?_
      refine lv_istore (lv' := [(10, .int x7), (9, .int x9), (8, .int x8), (7, .int x7), (6, .int x6), (5, .int x5), (4, .int x4), (3, .ref (k.1 (i + 1) 2)), (1, .ref (k.1 (i + 1) 0)), (0, .ref (k.1 0 0))]) hx hb dX3_doWord_203 hl (by decide) rfl (fun ls hl => ?_)
      refine lv_goto (tgt := 421) hx hb dX3_doWord_205 (by decide) ?_
      refine lv_aload_n hx hb dX3_doWord_421 rfl (lv_at hl 8 rfl) ?_
      refine lv_iload hx hb dX3_doWord_422 (lv_at hl 0 rfl) ?_
      refine wx_put (w := (cw k)) (g := (i + 1)) (j := 0) hx hb hts hiX2 tyX2 tyX2_ok nmX2 hown hK hP hD hS (cIx_r hi (by decide)) rfl rfl 7 (by decide) hf133 rfl (by decide +kernel) rfl (Nat.le_of_ble_eq_true rfl) dX3_doWord_424 (fun H locs hP hS => ?_)
      refine lv_aload_n hx hb dX3_doWord_427 rfl (lv_at hl 8 rfl) ?_
      refine lv_dup hx hb dX3_doWord_428 rfl ?_
      refine wx_get (w := (cw k)) (g := (i + 1)) (j := 0) hx hb hts hiX2 hown hK hP (cIx_r hi (by decide)) rfl rfl 9 (by decide) hf179 rfl dX3_doWord_429 ?_
      refine lv_iconst (v := 1) hx hb dX3_doWord_432 (by decide) ?_
      refine lv_iadd hx hb dX3_doWord_433 ?_
      refine wx_put (w := (cw k)) (g := (i + 1)) (j := 0) hx hb hts hiX2 tyX2 tyX2_ok nmX2 hown hK hP hD hS (cIx_r hi (by decide)) rfl rfl 9 (by decide) hf179 rfl (by decide +kernel) rfl (Nat.le_of_ble_eq_true rfl) dX3_doWord_434 (fun H locs hP hS => ?_)
      have e9 : f_X3_doWord_L59 k i x4 x5 x6 x7 x8 x9 x10 M = (mu (mu M (i + 1) 0 7 x7) (i + 1) 0 9 (((mu M (i + 1) 0 7 x7) (i + 1) 0 9) + 1)) := (by unfold f_X3_doWord_L59; rw [if_neg e_61_0, if_neg e_61_1, if_neg e_61_2, if_neg e_61_3, if_neg e_61_4, if_neg e_61_5, if_neg e_61_6, if_neg e_61_7, if_neg e_61_8, if_neg e_61_9, if_neg e_61_10, if_pos e_61_11, if_pos c_193])
      exact wx_vret hx hb hr hlocks hP hS (by rw [e9] at hpo; exact hpo) dX3_doWord_437
  by_cases e_61_12 : x4 = 12
  · refine lv_tableIn (tgt := 208) hx hb dX3_doWord_61 (by rw [e_61_12]; decide) (by rw [e_61_12]; decide) (by rw [e_61_12]; rfl) (by decide) ?_
    refine lv_iload hx hb dX3_doWord_208 (lv_at hl 2 rfl) ?_
    refine lv_if_eq (tgt := 218) hx hb dX3_doWord_210 (by decide) (fun c_210 => ?_) (fun c_210 => ?_)
    · refine lv_iload hx hb dX3_doWord_218 (lv_at hl 0 rfl) ?_
      refine lv_istore (lv' := [(10, .int x10), (9, .int x9), (8, .int x8), (7, .int x7), (6, .int x6), (5, .int x5), (4, .int x4), (3, .ref (k.1 (i + 1) 2)), (1, .ref (k.1 (i + 1) 0)), (0, .ref (k.1 0 0))]) hx hb dX3_doWord_220 hl (by decide) rfl (fun ls hl => ?_)
      refine lv_goto (tgt := 421) hx hb dX3_doWord_222 (by decide) ?_
      refine lv_aload_n hx hb dX3_doWord_421 rfl (lv_at hl 8 rfl) ?_
      refine lv_iload hx hb dX3_doWord_422 (lv_at hl 0 rfl) ?_
      refine wx_put (w := (cw k)) (g := (i + 1)) (j := 0) hx hb hts hiX2 tyX2 tyX2_ok nmX2 hown hK hP hD hS (cIx_r hi (by decide)) rfl rfl 7 (by decide) hf133 rfl (by decide +kernel) rfl (Nat.le_of_ble_eq_true rfl) dX3_doWord_424 (fun H locs hP hS => ?_)
      refine lv_aload_n hx hb dX3_doWord_427 rfl (lv_at hl 8 rfl) ?_
      refine lv_dup hx hb dX3_doWord_428 rfl ?_
      refine wx_get (w := (cw k)) (g := (i + 1)) (j := 0) hx hb hts hiX2 hown hK hP (cIx_r hi (by decide)) rfl rfl 9 (by decide) hf179 rfl dX3_doWord_429 ?_
      refine lv_iconst (v := 1) hx hb dX3_doWord_432 (by decide) ?_
      refine lv_iadd hx hb dX3_doWord_433 ?_
      refine wx_put (w := (cw k)) (g := (i + 1)) (j := 0) hx hb hts hiX2 tyX2 tyX2_ok nmX2 hown hK hP hD hS (cIx_r hi (by decide)) rfl rfl 9 (by decide) hf179 rfl (by decide +kernel) rfl (Nat.le_of_ble_eq_true rfl) dX3_doWord_434 (fun H locs hP hS => ?_)
      have e9 : f_X3_doWord_L59 k i x4 x5 x6 x7 x8 x9 x10 M = (mu (mu M (i + 1) 0 7 x10) (i + 1) 0 9 (((mu M (i + 1) 0 7 x10) (i + 1) 0 9) + 1)) := (by unfold f_X3_doWord_L59; rw [if_neg e_61_0, if_neg e_61_1, if_neg e_61_2, if_neg e_61_3, if_neg e_61_4, if_neg e_61_5, if_neg e_61_6, if_neg e_61_7, if_neg e_61_8, if_neg e_61_9, if_neg e_61_10, if_neg e_61_11, if_pos e_61_12, if_pos c_210])
      exact wx_vret hx hb hr hlocks hP hS (by rw [e9] at hpo; exact hpo) dX3_doWord_437
    · refine lv_iload hx hb dX3_doWord_213 (lv_at hl 3 rfl) ?_
      refine lv_goto (tgt := 220) hx hb dX3_doWord_215 (by decide) ?_
      refine lv_istore (lv' := [(10, .int x7), (9, .int x9), (8, .int x8), (7, .int x7), (6, .int x6), (5, .int x5), (4, .int x4), (3, .ref (k.1 (i + 1) 2)), (1, .ref (k.1 (i + 1) 0)), (0, .ref (k.1 0 0))]) hx hb dX3_doWord_220 hl (by decide) rfl (fun ls hl => ?_)
      refine lv_goto (tgt := 421) hx hb dX3_doWord_222 (by decide) ?_
      refine lv_aload_n hx hb dX3_doWord_421 rfl (lv_at hl 8 rfl) ?_
      refine lv_iload hx hb dX3_doWord_422 (lv_at hl 0 rfl) ?_
      refine wx_put (w := (cw k)) (g := (i + 1)) (j := 0) hx hb hts hiX2 tyX2 tyX2_ok nmX2 hown hK hP hD hS (cIx_r hi (by decide)) rfl rfl 7 (by decide) hf133 rfl (by decide +kernel) rfl (Nat.le_of_ble_eq_true rfl) dX3_doWord_424 (fun H locs hP hS => ?_)
      refine lv_aload_n hx hb dX3_doWord_427 rfl (lv_at hl 8 rfl) ?_
      refine lv_dup hx hb dX3_doWord_428 rfl ?_
      refine wx_get (w := (cw k)) (g := (i + 1)) (j := 0) hx hb hts hiX2 hown hK hP (cIx_r hi (by decide)) rfl rfl 9 (by decide) hf179 rfl dX3_doWord_429 ?_
      refine lv_iconst (v := 1) hx hb dX3_doWord_432 (by decide) ?_
      refine lv_iadd hx hb dX3_doWord_433 ?_
      refine wx_put (w := (cw k)) (g := (i + 1)) (j := 0) hx hb hts hiX2 tyX2 tyX2_ok nmX2 hown hK hP hD hS (cIx_r hi (by decide)) rfl rfl 9 (by decide) hf179 rfl (by decide +kernel) rfl (Nat.le_of_ble_eq_true rfl) dX3_doWord_434 (fun H locs hP hS => ?_)
      have e9 : f_X3_doWord_L59 k i x4 x5 x6 x7 x8 x9 x10 M = (mu (mu M (i + 1) 0 7 x7) (i + 1) 0 9 (((mu M (i + 1) 0 7 x7) (i + 1) 0 9) + 1)) := (by unfold f_X3_doWord_L59; rw [if_neg e_61_0, if_neg e_61_1, if_neg e_61_2, if_neg e_61_3, if_neg e_61_4, if_neg e_61_5, if_neg e_61_6, if_neg e_61_7, if_neg e_61_8, if_neg e_61_9, if_neg e_61_10, if_neg e_61_11, if_pos e_61_12, if_neg c_210])
      exact wx_vret hx hb hr hlocks hP hS (by rw [e9] at hpo; exact hpo) dX3_doWord_437
  by_cases e_61_13 : x4 = 13
  · refine lv_tableIn (tgt := 225) hx hb dX3_doWord_61 (by rw [e_61_13]; decide) (by rw [e_61_13]; decide) (by rw [e_61_13]; rfl) (by decide) ?_
    refine lv_aload_n hx hb dX3_doWord_225 rfl (lv_at hl 7 rfl) ?_
    refine lv_iload hx hb dX3_doWord_226 (lv_at hl 4 rfl) ?_
    refine lv_aload_n hx hb dX3_doWord_228 rfl (lv_at hl 9 rfl) ?_
    refine lv_aload_n hx hb dX3_doWord_229 rfl (lv_at hl 8 rfl) ?_
    refine lv_iload hx hb dX3_doWord_230 (lv_at hl 2 rfl) ?_
    refine lv_iconst (v := 3) hx hb dX3_doWord_232 (by decide) ?_
    refine lv_iand hx hb dX3_doWord_233 ?_
    refine wx_Vi (w := (cw k)) ((f_X3_go k M i (x8 &&& 3)).1) ((f_X3_go k M i (x8 &&& 3)).2) [.ref (k.1 (i + 1) 0), .int (x8 &&& 3)] [.int x6, .ref (k.1 (i + 1) 2)] (cZok k) ⟨hx, hb, hml, hown, hts⟩ (c_X3_go l k M i (x8 &&& 3) (hi) hinv.1 (and3 _)) (cwV 2 hts gX3_doWord_X3_go rfl rfl rfl (by decide +kernel) ⟨by decide, by decide⟩) (wx_recv (w := (cw k)) (g := 0) (j := 0) hK hP (cIx_0 (by decide)) rfl rfl) hP hK hD hZ hS rfl hl.1 rfl (Nat.le_of_ble_eq_true rfl) dX3_doWord_234 ⟨by decide, by decide⟩ (fun H locs hP hS => ?_)
    refine wx_iast (w := (cw k)) (g := (i + 1)) (j := 2) hx hb hK hP hD hS (cIx_r hi (by decide)) 0 (fun _ => rfl) rfl (hinv.2.2.1) dX3_doWord_237 (fun H locs hP hS => ?_)
    refine lv_goto (tgt := 421) hx hb dX3_doWord_238 (by decide) ?_
    refine lv_aload_n hx hb dX3_doWord_421 rfl (lv_at hl 8 rfl) ?_
    refine lv_iload hx hb dX3_doWord_422 (lv_at hl 0 rfl) ?_
    refine wx_put (w := (cw k)) (g := (i + 1)) (j := 0) hx hb hts hiX2 tyX2 tyX2_ok nmX2 hown hK hP hD hS (cIx_r hi (by decide)) rfl rfl 7 (by decide) hf133 rfl (by decide +kernel) rfl (Nat.le_of_ble_eq_true rfl) dX3_doWord_424 (fun H locs hP hS => ?_)
    refine lv_aload_n hx hb dX3_doWord_427 rfl (lv_at hl 8 rfl) ?_
    refine lv_dup hx hb dX3_doWord_428 rfl ?_
    refine wx_get (w := (cw k)) (g := (i + 1)) (j := 0) hx hb hts hiX2 hown hK hP (cIx_r hi (by decide)) rfl rfl 9 (by decide) hf179 rfl dX3_doWord_429 ?_
    refine lv_iconst (v := 1) hx hb dX3_doWord_432 (by decide) ?_
    refine lv_iadd hx hb dX3_doWord_433 ?_
    refine wx_put (w := (cw k)) (g := (i + 1)) (j := 0) hx hb hts hiX2 tyX2 tyX2_ok nmX2 hown hK hP hD hS (cIx_r hi (by decide)) rfl rfl 9 (by decide) hf179 rfl (by decide +kernel) rfl (Nat.le_of_ble_eq_true rfl) dX3_doWord_434 (fun H locs hP hS => ?_)
    have e9 : f_X3_doWord_L59 k i x4 x5 x6 x7 x8 x9 x10 M = (mu (mu (mu (f_X3_go k M i (x8 &&& 3)).2 (i + 1) 2 x6.toNatClampNeg ((f_X3_go k M i (x8 &&& 3)).1)) (i + 1) 0 7 x10) (i + 1) 0 9 (((mu (mu (f_X3_go k M i (x8 &&& 3)).2 (i + 1) 2 x6.toNatClampNeg ((f_X3_go k M i (x8 &&& 3)).1)) (i + 1) 0 7 x10) (i + 1) 0 9) + 1)) := (by unfold f_X3_doWord_L59; rw [if_neg e_61_0, if_neg e_61_1, if_neg e_61_2, if_neg e_61_3, if_neg e_61_4, if_neg e_61_5, if_neg e_61_6, if_neg e_61_7, if_neg e_61_8, if_neg e_61_9, if_neg e_61_10, if_neg e_61_11, if_neg e_61_12, if_pos e_61_13])
    exact wx_vret hx hb hr hlocks hP hS (by rw [e9] at hpo; exact hpo) dX3_doWord_437
  by_cases e_61_14 : x4 = 14
  · refine lv_tableIn (tgt := 241) hx hb dX3_doWord_61 (by rw [e_61_14]; decide) (by rw [e_61_14]; decide) (by rw [e_61_14]; rfl) (by decide) ?_
    refine lv_aload_n hx hb dX3_doWord_241 rfl (lv_at hl 7 rfl) ?_
    refine lv_iload hx hb dX3_doWord_242 (lv_at hl 4 rfl) ?_
    refine lv_aload_n hx hb dX3_doWord_244 rfl (lv_at hl 9 rfl) ?_
    refine lv_aload_n hx hb dX3_doWord_245 rfl (lv_at hl 8 rfl) ?_
    refine lv_iload hx hb dX3_doWord_246 (lv_at hl 2 rfl) ?_
    refine lv_iconst (v := 3) hx hb dX3_doWord_248 (by decide) ?_
    refine lv_iand hx hb dX3_doWord_249 ?_
    refine wx_Vi (w := (cw k)) (f_X3_look k M i (x8 &&& 3)) M [.ref (k.1 (i + 1) 0), .int (x8 &&& 3)] [.int x6, .ref (k.1 (i + 1) 2)] (cZok k) ⟨hx, hb, hml, hown, hts⟩ (c_X3_look l k M i (x8 &&& 3) (hi) hinv.1 (and3 _)) (cwV 2 hts gX3_doWord_X3_look rfl rfl rfl (by decide +kernel) ⟨by decide, by decide⟩) (wx_recv (w := (cw k)) (g := 0) (j := 0) hK hP (cIx_0 (by decide)) rfl rfl) hP hK hD hZ hS rfl hl.1 rfl (Nat.le_of_ble_eq_true rfl) dX3_doWord_250 ⟨by decide, by decide⟩ (fun H locs hP hS => ?_)
    refine wx_iast (w := (cw k)) (g := (i + 1)) (j := 2) hx hb hK hP hD hS (cIx_r hi (by decide)) 0 (fun _ => rfl) rfl (hinv.2.2.1) dX3_doWord_253 (fun H locs hP hS => ?_)
    refine lv_goto (tgt := 421) hx hb dX3_doWord_254 (by decide) ?_
    refine lv_aload_n hx hb dX3_doWord_421 rfl (lv_at hl 8 rfl) ?_
    refine lv_iload hx hb dX3_doWord_422 (lv_at hl 0 rfl) ?_
    refine wx_put (w := (cw k)) (g := (i + 1)) (j := 0) hx hb hts hiX2 tyX2 tyX2_ok nmX2 hown hK hP hD hS (cIx_r hi (by decide)) rfl rfl 7 (by decide) hf133 rfl (by decide +kernel) rfl (Nat.le_of_ble_eq_true rfl) dX3_doWord_424 (fun H locs hP hS => ?_)
    refine lv_aload_n hx hb dX3_doWord_427 rfl (lv_at hl 8 rfl) ?_
    refine lv_dup hx hb dX3_doWord_428 rfl ?_
    refine wx_get (w := (cw k)) (g := (i + 1)) (j := 0) hx hb hts hiX2 hown hK hP (cIx_r hi (by decide)) rfl rfl 9 (by decide) hf179 rfl dX3_doWord_429 ?_
    refine lv_iconst (v := 1) hx hb dX3_doWord_432 (by decide) ?_
    refine lv_iadd hx hb dX3_doWord_433 ?_
    refine wx_put (w := (cw k)) (g := (i + 1)) (j := 0) hx hb hts hiX2 tyX2 tyX2_ok nmX2 hown hK hP hD hS (cIx_r hi (by decide)) rfl rfl 9 (by decide) hf179 rfl (by decide +kernel) rfl (Nat.le_of_ble_eq_true rfl) dX3_doWord_434 (fun H locs hP hS => ?_)
    have e9 : f_X3_doWord_L59 k i x4 x5 x6 x7 x8 x9 x10 M = (mu (mu (mu M (i + 1) 2 x6.toNatClampNeg (f_X3_look k M i (x8 &&& 3))) (i + 1) 0 7 x10) (i + 1) 0 9 (((mu (mu M (i + 1) 2 x6.toNatClampNeg (f_X3_look k M i (x8 &&& 3))) (i + 1) 0 7 x10) (i + 1) 0 9) + 1)) := (by unfold f_X3_doWord_L59; rw [if_neg e_61_0, if_neg e_61_1, if_neg e_61_2, if_neg e_61_3, if_neg e_61_4, if_neg e_61_5, if_neg e_61_6, if_neg e_61_7, if_neg e_61_8, if_neg e_61_9, if_neg e_61_10, if_neg e_61_11, if_neg e_61_12, if_neg e_61_13, if_pos e_61_14])
    exact wx_vret hx hb hr hlocks hP hS (by rw [e9] at hpo; exact hpo) dX3_doWord_437
  by_cases e_61_15 : x4 = 15
  · refine lv_tableIn (tgt := 257) hx hb dX3_doWord_61 (by rw [e_61_15]; decide) (by rw [e_61_15]; decide) (by rw [e_61_15]; rfl) (by decide) ?_
    refine lv_aload_n hx hb dX3_doWord_257 rfl (lv_at hl 7 rfl) ?_
    refine lv_iload hx hb dX3_doWord_258 (lv_at hl 5 rfl) ?_
    refine lv_aload_n hx hb dX3_doWord_260 rfl (lv_at hl 9 rfl) ?_
    refine lv_aload_n hx hb dX3_doWord_261 rfl (lv_at hl 8 rfl) ?_
    refine wx_Vi (w := (cw k)) ((f_X3_take k M i).1) ((f_X3_take k M i).2) [.ref (k.1 (i + 1) 0)] [.int x5, .ref (k.1 (i + 1) 2)] (cZok k) ⟨hx, hb, hml, hown, hts⟩ (c_X3_take l k M i (hi) hinv.1) (cwV 1 hts gX3_doWord_X3_take rfl rfl rfl (by decide +kernel) ⟨by decide, by decide⟩) (wx_recv (w := (cw k)) (g := 0) (j := 0) hK hP (cIx_0 (by decide)) rfl rfl) hP hK hD hZ hS rfl hl.1 rfl (Nat.le_of_ble_eq_true rfl) dX3_doWord_262 ⟨by decide, by decide⟩ (fun H locs hP hS => ?_)
    refine wx_iast (w := (cw k)) (g := (i + 1)) (j := 2) hx hb hK hP hD hS (cIx_r hi (by decide)) 0 (fun _ => rfl) rfl (hinv.2.1) dX3_doWord_265 (fun H locs hP hS => ?_)
    refine lv_goto (tgt := 421) hx hb dX3_doWord_266 (by decide) ?_
    refine lv_aload_n hx hb dX3_doWord_421 rfl (lv_at hl 8 rfl) ?_
    refine lv_iload hx hb dX3_doWord_422 (lv_at hl 0 rfl) ?_
    refine wx_put (w := (cw k)) (g := (i + 1)) (j := 0) hx hb hts hiX2 tyX2 tyX2_ok nmX2 hown hK hP hD hS (cIx_r hi (by decide)) rfl rfl 7 (by decide) hf133 rfl (by decide +kernel) rfl (Nat.le_of_ble_eq_true rfl) dX3_doWord_424 (fun H locs hP hS => ?_)
    refine lv_aload_n hx hb dX3_doWord_427 rfl (lv_at hl 8 rfl) ?_
    refine lv_dup hx hb dX3_doWord_428 rfl ?_
    refine wx_get (w := (cw k)) (g := (i + 1)) (j := 0) hx hb hts hiX2 hown hK hP (cIx_r hi (by decide)) rfl rfl 9 (by decide) hf179 rfl dX3_doWord_429 ?_
    refine lv_iconst (v := 1) hx hb dX3_doWord_432 (by decide) ?_
    refine lv_iadd hx hb dX3_doWord_433 ?_
    refine wx_put (w := (cw k)) (g := (i + 1)) (j := 0) hx hb hts hiX2 tyX2 tyX2_ok nmX2 hown hK hP hD hS (cIx_r hi (by decide)) rfl rfl 9 (by decide) hf179 rfl (by decide +kernel) rfl (Nat.le_of_ble_eq_true rfl) dX3_doWord_434 (fun H locs hP hS => ?_)
    have e9 : f_X3_doWord_L59 k i x4 x5 x6 x7 x8 x9 x10 M = (mu (mu (mu (f_X3_take k M i).2 (i + 1) 2 x5.toNatClampNeg ((f_X3_take k M i).1)) (i + 1) 0 7 x10) (i + 1) 0 9 (((mu (mu (f_X3_take k M i).2 (i + 1) 2 x5.toNatClampNeg ((f_X3_take k M i).1)) (i + 1) 0 7 x10) (i + 1) 0 9) + 1)) := (by unfold f_X3_doWord_L59; rw [if_neg e_61_0, if_neg e_61_1, if_neg e_61_2, if_neg e_61_3, if_neg e_61_4, if_neg e_61_5, if_neg e_61_6, if_neg e_61_7, if_neg e_61_8, if_neg e_61_9, if_neg e_61_10, if_neg e_61_11, if_neg e_61_12, if_neg e_61_13, if_neg e_61_14, if_pos e_61_15])
    exact wx_vret hx hb hr hlocks hP hS (by rw [e9] at hpo; exact hpo) dX3_doWord_437
  by_cases e_61_16 : x4 = 16
  · refine lv_tableIn (tgt := 269) hx hb dX3_doWord_61 (by rw [e_61_16]; decide) (by rw [e_61_16]; decide) (by rw [e_61_16]; rfl) (by decide) ?_
    refine lv_aload_n hx hb dX3_doWord_269 rfl (lv_at hl 7 rfl) ?_
    refine lv_iload hx hb dX3_doWord_270 (lv_at hl 5 rfl) ?_
    refine lv_aload_n hx hb dX3_doWord_272 rfl (lv_at hl 9 rfl) ?_
    refine lv_aload_n hx hb dX3_doWord_273 rfl (lv_at hl 8 rfl) ?_
    refine wx_Vi (w := (cw k)) ((f_X3_lay k M i).1) ((f_X3_lay k M i).2) [.ref (k.1 (i + 1) 0)] [.int x5, .ref (k.1 (i + 1) 2)] (cZok k) ⟨hx, hb, hml, hown, hts⟩ (c_X3_lay l k M i (hi) hinv.1) (cwV 1 hts gX3_doWord_X3_lay rfl rfl rfl (by decide +kernel) ⟨by decide, by decide⟩) (wx_recv (w := (cw k)) (g := 0) (j := 0) hK hP (cIx_0 (by decide)) rfl rfl) hP hK hD hZ hS rfl hl.1 rfl (Nat.le_of_ble_eq_true rfl) dX3_doWord_274 ⟨by decide, by decide⟩ (fun H locs hP hS => ?_)
    refine wx_iast (w := (cw k)) (g := (i + 1)) (j := 2) hx hb hK hP hD hS (cIx_r hi (by decide)) 0 (fun _ => rfl) rfl (hinv.2.1) dX3_doWord_277 (fun H locs hP hS => ?_)
    refine lv_goto (tgt := 421) hx hb dX3_doWord_278 (by decide) ?_
    refine lv_aload_n hx hb dX3_doWord_421 rfl (lv_at hl 8 rfl) ?_
    refine lv_iload hx hb dX3_doWord_422 (lv_at hl 0 rfl) ?_
    refine wx_put (w := (cw k)) (g := (i + 1)) (j := 0) hx hb hts hiX2 tyX2 tyX2_ok nmX2 hown hK hP hD hS (cIx_r hi (by decide)) rfl rfl 7 (by decide) hf133 rfl (by decide +kernel) rfl (Nat.le_of_ble_eq_true rfl) dX3_doWord_424 (fun H locs hP hS => ?_)
    refine lv_aload_n hx hb dX3_doWord_427 rfl (lv_at hl 8 rfl) ?_
    refine lv_dup hx hb dX3_doWord_428 rfl ?_
    refine wx_get (w := (cw k)) (g := (i + 1)) (j := 0) hx hb hts hiX2 hown hK hP (cIx_r hi (by decide)) rfl rfl 9 (by decide) hf179 rfl dX3_doWord_429 ?_
    refine lv_iconst (v := 1) hx hb dX3_doWord_432 (by decide) ?_
    refine lv_iadd hx hb dX3_doWord_433 ?_
    refine wx_put (w := (cw k)) (g := (i + 1)) (j := 0) hx hb hts hiX2 tyX2 tyX2_ok nmX2 hown hK hP hD hS (cIx_r hi (by decide)) rfl rfl 9 (by decide) hf179 rfl (by decide +kernel) rfl (Nat.le_of_ble_eq_true rfl) dX3_doWord_434 (fun H locs hP hS => ?_)
    have e9 : f_X3_doWord_L59 k i x4 x5 x6 x7 x8 x9 x10 M = (mu (mu (mu (f_X3_lay k M i).2 (i + 1) 2 x5.toNatClampNeg ((f_X3_lay k M i).1)) (i + 1) 0 7 x10) (i + 1) 0 9 (((mu (mu (f_X3_lay k M i).2 (i + 1) 2 x5.toNatClampNeg ((f_X3_lay k M i).1)) (i + 1) 0 7 x10) (i + 1) 0 9) + 1)) := (by unfold f_X3_doWord_L59; rw [if_neg e_61_0, if_neg e_61_1, if_neg e_61_2, if_neg e_61_3, if_neg e_61_4, if_neg e_61_5, if_neg e_61_6, if_neg e_61_7, if_neg e_61_8, if_neg e_61_9, if_neg e_61_10, if_neg e_61_11, if_neg e_61_12, if_neg e_61_13, if_neg e_61_14, if_neg e_61_15, if_pos e_61_16])
    exact wx_vret hx hb hr hlocks hP hS (by rw [e9] at hpo; exact hpo) dX3_doWord_437
  by_cases e_61_17 : x4 = 17
  · refine lv_tableIn (tgt := 281) hx hb dX3_doWord_61 (by rw [e_61_17]; decide) (by rw [e_61_17]; decide) (by rw [e_61_17]; rfl) (by decide) ?_
    refine lv_aload_n hx hb dX3_doWord_281 rfl (lv_at hl 7 rfl) ?_
    refine lv_iload hx hb dX3_doWord_282 (lv_at hl 5 rfl) ?_
    refine lv_aload_n hx hb dX3_doWord_284 rfl (lv_at hl 9 rfl) ?_
    refine lv_iload hx hb dX3_doWord_285 (lv_at hl 2 rfl) ?_
    refine lv_iload hx hb dX3_doWord_287 (lv_at hl 1 rfl) ?_
    refine wx_Vi (w := (cw k)) ((f_X3_send k M x8 x9).1) ((f_X3_send k M x8 x9).2) [.int x8, .int x9] [.int x5, .ref (k.1 (i + 1) 2)] (cZok k) ⟨hx, hb, hml, hown, hts⟩ (c_X3_send l k M x8 x9 hinv.1) (cwV 2 hts gX3_doWord_X3_send rfl rfl rfl (by decide +kernel) ⟨by decide, by decide⟩) (wx_recv (w := (cw k)) (g := 0) (j := 0) hK hP (cIx_0 (by decide)) rfl rfl) hP hK hD hZ hS rfl hl.1 rfl (Nat.le_of_ble_eq_true rfl) dX3_doWord_289 ⟨by decide, by decide⟩ (fun H locs hP hS => ?_)
    refine wx_iast (w := (cw k)) (g := (i + 1)) (j := 2) hx hb hK hP hD hS (cIx_r hi (by decide)) 0 (fun _ => rfl) rfl (hinv.2.1) dX3_doWord_292 (fun H locs hP hS => ?_)
    refine lv_goto (tgt := 421) hx hb dX3_doWord_293 (by decide) ?_
    refine lv_aload_n hx hb dX3_doWord_421 rfl (lv_at hl 8 rfl) ?_
    refine lv_iload hx hb dX3_doWord_422 (lv_at hl 0 rfl) ?_
    refine wx_put (w := (cw k)) (g := (i + 1)) (j := 0) hx hb hts hiX2 tyX2 tyX2_ok nmX2 hown hK hP hD hS (cIx_r hi (by decide)) rfl rfl 7 (by decide) hf133 rfl (by decide +kernel) rfl (Nat.le_of_ble_eq_true rfl) dX3_doWord_424 (fun H locs hP hS => ?_)
    refine lv_aload_n hx hb dX3_doWord_427 rfl (lv_at hl 8 rfl) ?_
    refine lv_dup hx hb dX3_doWord_428 rfl ?_
    refine wx_get (w := (cw k)) (g := (i + 1)) (j := 0) hx hb hts hiX2 hown hK hP (cIx_r hi (by decide)) rfl rfl 9 (by decide) hf179 rfl dX3_doWord_429 ?_
    refine lv_iconst (v := 1) hx hb dX3_doWord_432 (by decide) ?_
    refine lv_iadd hx hb dX3_doWord_433 ?_
    refine wx_put (w := (cw k)) (g := (i + 1)) (j := 0) hx hb hts hiX2 tyX2 tyX2_ok nmX2 hown hK hP hD hS (cIx_r hi (by decide)) rfl rfl 9 (by decide) hf179 rfl (by decide +kernel) rfl (Nat.le_of_ble_eq_true rfl) dX3_doWord_434 (fun H locs hP hS => ?_)
    have e9 : f_X3_doWord_L59 k i x4 x5 x6 x7 x8 x9 x10 M = (mu (mu (mu (f_X3_send k M x8 x9).2 (i + 1) 2 x5.toNatClampNeg ((f_X3_send k M x8 x9).1)) (i + 1) 0 7 x10) (i + 1) 0 9 (((mu (mu (f_X3_send k M x8 x9).2 (i + 1) 2 x5.toNatClampNeg ((f_X3_send k M x8 x9).1)) (i + 1) 0 7 x10) (i + 1) 0 9) + 1)) := (by unfold f_X3_doWord_L59; rw [if_neg e_61_0, if_neg e_61_1, if_neg e_61_2, if_neg e_61_3, if_neg e_61_4, if_neg e_61_5, if_neg e_61_6, if_neg e_61_7, if_neg e_61_8, if_neg e_61_9, if_neg e_61_10, if_neg e_61_11, if_neg e_61_12, if_neg e_61_13, if_neg e_61_14, if_neg e_61_15, if_neg e_61_16, if_pos e_61_17])
    exact wx_vret hx hb hr hlocks hP hS (by rw [e9] at hpo; exact hpo) dX3_doWord_437
  by_cases e_61_18 : x4 = 18
  · refine lv_tableIn (tgt := 296) hx hb dX3_doWord_61 (by rw [e_61_18]; decide) (by rw [e_61_18]; decide) (by rw [e_61_18]; rfl) (by decide) ?_
    refine lv_aload_n hx hb dX3_doWord_296 rfl (lv_at hl 8 rfl) ?_
    refine lv_iload hx hb dX3_doWord_297 (lv_at hl 5 rfl) ?_
    refine wx_Si (w := (cw k)) ((f_X3_receive k M i x5).1) ((f_X3_receive k M i x5).2) [.ref (k.1 (i + 1) 0), .int x5] [] (cZok k) ⟨hx, hb, hml, hown, hts⟩ (c_X3_receive l k M i x5 (hi) hinv.1 hinv.2.1) (va_cwS 2 hts gX3_doWord_X3_receive rfl rfl rfl (by decide +kernel) ⟨by decide, by decide⟩) hP hK hD hZ hS rfl hl.1 rfl (Nat.le_of_ble_eq_true rfl) dX3_doWord_299 ⟨by decide, by decide⟩ (fun H locs hP hS => ?_)
    refine lv_if_eq (tgt := 310) hx hb dX3_doWord_302 (by decide) (fun c_302 => ?_) (fun c_302 => ?_)
    · refine lv_aload_n hx hb dX3_doWord_310 rfl (lv_at hl 8 rfl) ?_
      refine wx_get (w := (cw k)) (g := (i + 1)) (j := 0) hx hb hts hiX2 hown hK hP (cIx_r hi (by decide)) rfl rfl 7 (by decide) hf133 rfl dX3_doWord_311 ?_
      refine lv_istore (lv' := [(10, .int ((f_X3_receive k M i x5).2 (i + 1) 0 7)), (9, .int x9), (8, .int x8), (7, .int x7), (6, .int x6), (5, .int x5), (4, .int x4), (3, .ref (k.1 (i + 1) 2)), (1, .ref (k.1 (i + 1) 0)), (0, .ref (k.1 0 0))]) hx hb dX3_doWord_314 hl (by decide) rfl (fun ls hl => ?_)
      refine lv_goto (tgt := 421) hx hb dX3_doWord_316 (by decide) ?_
      refine lv_aload_n hx hb dX3_doWord_421 rfl (lv_at hl 8 rfl) ?_
      refine lv_iload hx hb dX3_doWord_422 (lv_at hl 0 rfl) ?_
      refine wx_put (w := (cw k)) (g := (i + 1)) (j := 0) hx hb hts hiX2 tyX2 tyX2_ok nmX2 hown hK hP hD hS (cIx_r hi (by decide)) rfl rfl 7 (by decide) hf133 rfl (by decide +kernel) rfl (Nat.le_of_ble_eq_true rfl) dX3_doWord_424 (fun H locs hP hS => ?_)
      refine lv_aload_n hx hb dX3_doWord_427 rfl (lv_at hl 8 rfl) ?_
      refine lv_dup hx hb dX3_doWord_428 rfl ?_
      refine wx_get (w := (cw k)) (g := (i + 1)) (j := 0) hx hb hts hiX2 hown hK hP (cIx_r hi (by decide)) rfl rfl 9 (by decide) hf179 rfl dX3_doWord_429 ?_
      refine lv_iconst (v := 1) hx hb dX3_doWord_432 (by decide) ?_
      refine lv_iadd hx hb dX3_doWord_433 ?_
      refine wx_put (w := (cw k)) (g := (i + 1)) (j := 0) hx hb hts hiX2 tyX2 tyX2_ok nmX2 hown hK hP hD hS (cIx_r hi (by decide)) rfl rfl 9 (by decide) hf179 rfl (by decide +kernel) rfl (Nat.le_of_ble_eq_true rfl) dX3_doWord_434 (fun H locs hP hS => ?_)
      have e9 : f_X3_doWord_L59 k i x4 x5 x6 x7 x8 x9 x10 M = (mu (mu (f_X3_receive k M i x5).2 (i + 1) 0 7 ((f_X3_receive k M i x5).2 (i + 1) 0 7)) (i + 1) 0 9 (((mu (f_X3_receive k M i x5).2 (i + 1) 0 7 ((f_X3_receive k M i x5).2 (i + 1) 0 7)) (i + 1) 0 9) + 1)) := (by unfold f_X3_doWord_L59; rw [if_neg e_61_0, if_neg e_61_1, if_neg e_61_2, if_neg e_61_3, if_neg e_61_4, if_neg e_61_5, if_neg e_61_6, if_neg e_61_7, if_neg e_61_8, if_neg e_61_9, if_neg e_61_10, if_neg e_61_11, if_neg e_61_12, if_neg e_61_13, if_neg e_61_14, if_neg e_61_15, if_neg e_61_16, if_neg e_61_17, if_pos e_61_18, if_pos c_302])
      exact wx_vret hx hb hr hlocks hP hS (by rw [e9] at hpo; exact hpo) dX3_doWord_437
    · refine lv_iload hx hb dX3_doWord_305 (lv_at hl 0 rfl) ?_
      refine lv_goto (tgt := 314) hx hb dX3_doWord_307 (by decide) ?_
      refine lv_istore (lv' := [(10, .int x10), (9, .int x9), (8, .int x8), (7, .int x7), (6, .int x6), (5, .int x5), (4, .int x4), (3, .ref (k.1 (i + 1) 2)), (1, .ref (k.1 (i + 1) 0)), (0, .ref (k.1 0 0))]) hx hb dX3_doWord_314 hl (by decide) rfl (fun ls hl => ?_)
      refine lv_goto (tgt := 421) hx hb dX3_doWord_316 (by decide) ?_
      refine lv_aload_n hx hb dX3_doWord_421 rfl (lv_at hl 8 rfl) ?_
      refine lv_iload hx hb dX3_doWord_422 (lv_at hl 0 rfl) ?_
      refine wx_put (w := (cw k)) (g := (i + 1)) (j := 0) hx hb hts hiX2 tyX2 tyX2_ok nmX2 hown hK hP hD hS (cIx_r hi (by decide)) rfl rfl 7 (by decide) hf133 rfl (by decide +kernel) rfl (Nat.le_of_ble_eq_true rfl) dX3_doWord_424 (fun H locs hP hS => ?_)
      refine lv_aload_n hx hb dX3_doWord_427 rfl (lv_at hl 8 rfl) ?_
      refine lv_dup hx hb dX3_doWord_428 rfl ?_
      refine wx_get (w := (cw k)) (g := (i + 1)) (j := 0) hx hb hts hiX2 hown hK hP (cIx_r hi (by decide)) rfl rfl 9 (by decide) hf179 rfl dX3_doWord_429 ?_
      refine lv_iconst (v := 1) hx hb dX3_doWord_432 (by decide) ?_
      refine lv_iadd hx hb dX3_doWord_433 ?_
      refine wx_put (w := (cw k)) (g := (i + 1)) (j := 0) hx hb hts hiX2 tyX2 tyX2_ok nmX2 hown hK hP hD hS (cIx_r hi (by decide)) rfl rfl 9 (by decide) hf179 rfl (by decide +kernel) rfl (Nat.le_of_ble_eq_true rfl) dX3_doWord_434 (fun H locs hP hS => ?_)
      have e9 : f_X3_doWord_L59 k i x4 x5 x6 x7 x8 x9 x10 M = (mu (mu (f_X3_receive k M i x5).2 (i + 1) 0 7 x10) (i + 1) 0 9 (((mu (f_X3_receive k M i x5).2 (i + 1) 0 7 x10) (i + 1) 0 9) + 1)) := (by unfold f_X3_doWord_L59; rw [if_neg e_61_0, if_neg e_61_1, if_neg e_61_2, if_neg e_61_3, if_neg e_61_4, if_neg e_61_5, if_neg e_61_6, if_neg e_61_7, if_neg e_61_8, if_neg e_61_9, if_neg e_61_10, if_neg e_61_11, if_neg e_61_12, if_neg e_61_13, if_neg e_61_14, if_neg e_61_15, if_neg e_61_16, if_neg e_61_17, if_pos e_61_18, if_neg c_302])
      exact wx_vret hx hb hr hlocks hP hS (by rw [e9] at hpo; exact hpo) dX3_doWord_437
  by_cases e_61_19 : x4 = 19
  · refine lv_tableIn (tgt := 319) hx hb dX3_doWord_61 (by rw [e_61_19]; decide) (by rw [e_61_19]; decide) (by rw [e_61_19]; rfl) (by decide) ?_
    refine lv_aload_n hx hb dX3_doWord_319 rfl (lv_at hl 8 rfl) ?_
    refine lv_iload hx hb dX3_doWord_320 (lv_at hl 2 rfl) ?_
    refine wx_Vv (w := (cw k)) (f_X2_fallAsleep k M i x8) [.int x8] [] (cZok k) ⟨hx, hb, hml, hown, hts⟩ (c_X2_fallAsleep l k M i x8 (hi) ) (cwV 1 hts gX3_doWord_X2_fallAsleep rfl rfl rfl (by decide +kernel) ⟨by decide, by decide⟩) (wx_recv (w := (cw k)) (g := (i + 1)) (j := 0) hK hP (cIx_r hi (by decide)) rfl rfl) hP hK hD hZ hS rfl hl.1 rfl (Nat.le_of_ble_eq_true rfl) dX3_doWord_322 ⟨by decide, by decide⟩ (fun H locs hP hS => ?_)
    refine lv_goto (tgt := 421) hx hb dX3_doWord_325 (by decide) ?_
    refine lv_aload_n hx hb dX3_doWord_421 rfl (lv_at hl 8 rfl) ?_
    refine lv_iload hx hb dX3_doWord_422 (lv_at hl 0 rfl) ?_
    refine wx_put (w := (cw k)) (g := (i + 1)) (j := 0) hx hb hts hiX2 tyX2 tyX2_ok nmX2 hown hK hP hD hS (cIx_r hi (by decide)) rfl rfl 7 (by decide) hf133 rfl (by decide +kernel) rfl (Nat.le_of_ble_eq_true rfl) dX3_doWord_424 (fun H locs hP hS => ?_)
    refine lv_aload_n hx hb dX3_doWord_427 rfl (lv_at hl 8 rfl) ?_
    refine lv_dup hx hb dX3_doWord_428 rfl ?_
    refine wx_get (w := (cw k)) (g := (i + 1)) (j := 0) hx hb hts hiX2 hown hK hP (cIx_r hi (by decide)) rfl rfl 9 (by decide) hf179 rfl dX3_doWord_429 ?_
    refine lv_iconst (v := 1) hx hb dX3_doWord_432 (by decide) ?_
    refine lv_iadd hx hb dX3_doWord_433 ?_
    refine wx_put (w := (cw k)) (g := (i + 1)) (j := 0) hx hb hts hiX2 tyX2 tyX2_ok nmX2 hown hK hP hD hS (cIx_r hi (by decide)) rfl rfl 9 (by decide) hf179 rfl (by decide +kernel) rfl (Nat.le_of_ble_eq_true rfl) dX3_doWord_434 (fun H locs hP hS => ?_)
    have e9 : f_X3_doWord_L59 k i x4 x5 x6 x7 x8 x9 x10 M = (mu (mu (f_X2_fallAsleep k M i x8) (i + 1) 0 7 x10) (i + 1) 0 9 (((mu (f_X2_fallAsleep k M i x8) (i + 1) 0 7 x10) (i + 1) 0 9) + 1)) := (by unfold f_X3_doWord_L59; rw [if_neg e_61_0, if_neg e_61_1, if_neg e_61_2, if_neg e_61_3, if_neg e_61_4, if_neg e_61_5, if_neg e_61_6, if_neg e_61_7, if_neg e_61_8, if_neg e_61_9, if_neg e_61_10, if_neg e_61_11, if_neg e_61_12, if_neg e_61_13, if_neg e_61_14, if_neg e_61_15, if_neg e_61_16, if_neg e_61_17, if_neg e_61_18, if_pos e_61_19])
    exact wx_vret hx hb hr hlocks hP hS (by rw [e9] at hpo; exact hpo) dX3_doWord_437
  by_cases e_61_20 : x4 = 20
  · refine lv_tableIn (tgt := 328) hx hb dX3_doWord_61 (by rw [e_61_20]; decide) (by rw [e_61_20]; decide) (by rw [e_61_20]; rfl) (by decide) ?_
    refine lv_aload_n hx hb dX3_doWord_328 rfl (lv_at hl 7 rfl) ?_
    refine lv_iload hx hb dX3_doWord_329 (lv_at hl 5 rfl) ?_
    refine lv_aload_n hx hb dX3_doWord_331 rfl (lv_at hl 9 rfl) ?_
    refine wx_get (w := (cw k)) (g := 0) (j := 0) hx hb hts hiX3 hown hK hP (cIx_0 (by decide)) rfl rfl 0 (by decide) hf18 rfl dX3_doWord_332 ?_
    refine lv_aload_n hx hb dX3_doWord_335 rfl (lv_at hl 8 rfl) ?_
    refine wx_get (w := (cw k)) (g := (i + 1)) (j := 0) hx hb hts hiX2 hown hK hP (cIx_r hi (by decide)) rfl rfl 5 (by decide) hf98 rfl dX3_doWord_336 ?_
    refine lv_aload_n hx hb dX3_doWord_339 rfl (lv_at hl 8 rfl) ?_
    refine wx_get (w := (cw k)) (g := (i + 1)) (j := 0) hx hb hts hiX2 hown hK hP (cIx_r hi (by decide)) rfl rfl 6 (by decide) hf101 rfl dX3_doWord_340 ?_
    refine lv_iload hx hb dX3_doWord_343 (lv_at hl 2 rfl) ?_
    refine lv_iload hx hb dX3_doWord_345 (lv_at hl 1 rfl) ?_
    refine wx_Vi (w := (cw k)) ((f_X1_firstStep k M (M (i + 1) 0 5) (M (i + 1) 0 6) x8 x9).1) ((f_X1_firstStep k M (M (i + 1) 0 5) (M (i + 1) 0 6) x8 x9).2) [.int (M (i + 1) 0 5), .int (M (i + 1) 0 6), .int x8, .int x9] [.int x5, .ref (k.1 (i + 1) 2)] (cZok k) ⟨hx, hb, hml, hown, hts⟩ (c_X1_firstStep l k M (M (i + 1) 0 5) (M (i + 1) 0 6) x8 x9 hinv.1) (cwV 4 hts gX3_doWord_X1_firstStep rfl rfl rfl (by decide +kernel) ⟨by decide, by decide⟩) (wx_recv (w := (cw k)) (g := 0) (j := 1) hK hP (cIx_0 (by decide)) rfl rfl) hP hK hD hZ hS rfl hl.1 rfl (Nat.le_of_ble_eq_true rfl) dX3_doWord_347 ⟨by decide, by decide⟩ (fun H locs hP hS => ?_)
    refine wx_iast (w := (cw k)) (g := (i + 1)) (j := 2) hx hb hK hP hD hS (cIx_r hi (by decide)) 0 (fun _ => rfl) rfl (hinv.2.1) dX3_doWord_350 (fun H locs hP hS => ?_)
    refine lv_goto (tgt := 421) hx hb dX3_doWord_351 (by decide) ?_
    refine lv_aload_n hx hb dX3_doWord_421 rfl (lv_at hl 8 rfl) ?_
    refine lv_iload hx hb dX3_doWord_422 (lv_at hl 0 rfl) ?_
    refine wx_put (w := (cw k)) (g := (i + 1)) (j := 0) hx hb hts hiX2 tyX2 tyX2_ok nmX2 hown hK hP hD hS (cIx_r hi (by decide)) rfl rfl 7 (by decide) hf133 rfl (by decide +kernel) rfl (Nat.le_of_ble_eq_true rfl) dX3_doWord_424 (fun H locs hP hS => ?_)
    refine lv_aload_n hx hb dX3_doWord_427 rfl (lv_at hl 8 rfl) ?_
    refine lv_dup hx hb dX3_doWord_428 rfl ?_
    refine wx_get (w := (cw k)) (g := (i + 1)) (j := 0) hx hb hts hiX2 hown hK hP (cIx_r hi (by decide)) rfl rfl 9 (by decide) hf179 rfl dX3_doWord_429 ?_
    refine lv_iconst (v := 1) hx hb dX3_doWord_432 (by decide) ?_
    refine lv_iadd hx hb dX3_doWord_433 ?_
    refine wx_put (w := (cw k)) (g := (i + 1)) (j := 0) hx hb hts hiX2 tyX2 tyX2_ok nmX2 hown hK hP hD hS (cIx_r hi (by decide)) rfl rfl 9 (by decide) hf179 rfl (by decide +kernel) rfl (Nat.le_of_ble_eq_true rfl) dX3_doWord_434 (fun H locs hP hS => ?_)
    have e9 : f_X3_doWord_L59 k i x4 x5 x6 x7 x8 x9 x10 M = (mu (mu (mu (f_X1_firstStep k M (M (i + 1) 0 5) (M (i + 1) 0 6) x8 x9).2 (i + 1) 2 x5.toNatClampNeg ((f_X1_firstStep k M (M (i + 1) 0 5) (M (i + 1) 0 6) x8 x9).1)) (i + 1) 0 7 x10) (i + 1) 0 9 (((mu (mu (f_X1_firstStep k M (M (i + 1) 0 5) (M (i + 1) 0 6) x8 x9).2 (i + 1) 2 x5.toNatClampNeg ((f_X1_firstStep k M (M (i + 1) 0 5) (M (i + 1) 0 6) x8 x9).1)) (i + 1) 0 7 x10) (i + 1) 0 9) + 1)) := (by unfold f_X3_doWord_L59; rw [if_neg e_61_0, if_neg e_61_1, if_neg e_61_2, if_neg e_61_3, if_neg e_61_4, if_neg e_61_5, if_neg e_61_6, if_neg e_61_7, if_neg e_61_8, if_neg e_61_9, if_neg e_61_10, if_neg e_61_11, if_neg e_61_12, if_neg e_61_13, if_neg e_61_14, if_neg e_61_15, if_neg e_61_16, if_neg e_61_17, if_neg e_61_18, if_neg e_61_19, if_pos e_61_20])
    exact wx_vret hx hb hr hlocks hP hS (by rw [e9] at hpo; exact hpo) dX3_doWord_437
  by_cases e_61_21 : x4 = 21
  · refine lv_tableIn (tgt := 354) hx hb dX3_doWord_61 (by rw [e_61_21]; decide) (by rw [e_61_21]; decide) (by rw [e_61_21]; rfl) (by decide) ?_
    refine lv_aload_n hx hb dX3_doWord_354 rfl (lv_at hl 7 rfl) ?_
    refine lv_iload hx hb dX3_doWord_355 (lv_at hl 5 rfl) ?_
    refine lv_aload_n hx hb dX3_doWord_357 rfl (lv_at hl 8 rfl) ?_
    refine wx_get (w := (cw k)) (g := (i + 1)) (j := 0) hx hb hts hiX2 hown hK hP (cIx_r hi (by decide)) rfl rfl 5 (by decide) hf98 rfl dX3_doWord_358 ?_
    refine wx_iast (w := (cw k)) (g := (i + 1)) (j := 2) hx hb hK hP hD hS (cIx_r hi (by decide)) 0 (fun _ => rfl) rfl (hinv.2.1) dX3_doWord_361 (fun H locs hP hS => ?_)
    refine lv_aload_n hx hb dX3_doWord_362 rfl (lv_at hl 7 rfl) ?_
    refine lv_iload hx hb dX3_doWord_363 (lv_at hl 4 rfl) ?_
    refine lv_aload_n hx hb dX3_doWord_365 rfl (lv_at hl 8 rfl) ?_
    refine wx_get (w := (cw k)) (g := (i + 1)) (j := 0) hx hb hts hiX2 hown hK hP (cIx_r hi (by decide)) rfl rfl 6 (by decide) hf101 rfl dX3_doWord_366 ?_
    refine wx_iast (w := (cw k)) (g := (i + 1)) (j := 2) hx hb hK hP hD hS (cIx_r hi (by decide)) 0 (fun _ => rfl) rfl (hinv.2.2.1) dX3_doWord_369 (fun H locs hP hS => ?_)
    refine lv_goto (tgt := 421) hx hb dX3_doWord_370 (by decide) ?_
    refine lv_aload_n hx hb dX3_doWord_421 rfl (lv_at hl 8 rfl) ?_
    refine lv_iload hx hb dX3_doWord_422 (lv_at hl 0 rfl) ?_
    refine wx_put (w := (cw k)) (g := (i + 1)) (j := 0) hx hb hts hiX2 tyX2 tyX2_ok nmX2 hown hK hP hD hS (cIx_r hi (by decide)) rfl rfl 7 (by decide) hf133 rfl (by decide +kernel) rfl (Nat.le_of_ble_eq_true rfl) dX3_doWord_424 (fun H locs hP hS => ?_)
    refine lv_aload_n hx hb dX3_doWord_427 rfl (lv_at hl 8 rfl) ?_
    refine lv_dup hx hb dX3_doWord_428 rfl ?_
    refine wx_get (w := (cw k)) (g := (i + 1)) (j := 0) hx hb hts hiX2 hown hK hP (cIx_r hi (by decide)) rfl rfl 9 (by decide) hf179 rfl dX3_doWord_429 ?_
    refine lv_iconst (v := 1) hx hb dX3_doWord_432 (by decide) ?_
    refine lv_iadd hx hb dX3_doWord_433 ?_
    refine wx_put (w := (cw k)) (g := (i + 1)) (j := 0) hx hb hts hiX2 tyX2 tyX2_ok nmX2 hown hK hP hD hS (cIx_r hi (by decide)) rfl rfl 9 (by decide) hf179 rfl (by decide +kernel) rfl (Nat.le_of_ble_eq_true rfl) dX3_doWord_434 (fun H locs hP hS => ?_)
    have e9 : f_X3_doWord_L59 k i x4 x5 x6 x7 x8 x9 x10 M = (mu (mu (mu (mu M (i + 1) 2 x5.toNatClampNeg (M (i + 1) 0 5)) (i + 1) 2 x6.toNatClampNeg ((mu M (i + 1) 2 x5.toNatClampNeg (M (i + 1) 0 5)) (i + 1) 0 6)) (i + 1) 0 7 x10) (i + 1) 0 9 (((mu (mu (mu M (i + 1) 2 x5.toNatClampNeg (M (i + 1) 0 5)) (i + 1) 2 x6.toNatClampNeg ((mu M (i + 1) 2 x5.toNatClampNeg (M (i + 1) 0 5)) (i + 1) 0 6)) (i + 1) 0 7 x10) (i + 1) 0 9) + 1)) := (by unfold f_X3_doWord_L59; rw [if_neg e_61_0, if_neg e_61_1, if_neg e_61_2, if_neg e_61_3, if_neg e_61_4, if_neg e_61_5, if_neg e_61_6, if_neg e_61_7, if_neg e_61_8, if_neg e_61_9, if_neg e_61_10, if_neg e_61_11, if_neg e_61_12, if_neg e_61_13, if_neg e_61_14, if_neg e_61_15, if_neg e_61_16, if_neg e_61_17, if_neg e_61_18, if_neg e_61_19, if_neg e_61_20, if_pos e_61_21])
    exact wx_vret hx hb hr hlocks hP hS (by rw [e9] at hpo; exact hpo) dX3_doWord_437
  by_cases e_61_22 : x4 = 22
  · refine lv_tableIn (tgt := 373) hx hb dX3_doWord_61 (by rw [e_61_22]; decide) (by rw [e_61_22]; decide) (by rw [e_61_22]; rfl) (by decide) ?_
    refine lv_aload_n hx hb dX3_doWord_373 rfl (lv_at hl 7 rfl) ?_
    refine lv_iload hx hb dX3_doWord_374 (lv_at hl 5 rfl) ?_
    refine lv_aload_n hx hb dX3_doWord_376 rfl (lv_at hl 8 rfl) ?_
    refine wx_get (w := (cw k)) (g := (i + 1)) (j := 0) hx hb hts hiX2 hown hK hP (cIx_r hi (by decide)) rfl rfl 0 (by decide) hf74 rfl dX3_doWord_377 ?_
    refine wx_iast (w := (cw k)) (g := (i + 1)) (j := 2) hx hb hK hP hD hS (cIx_r hi (by decide)) 0 (fun _ => rfl) rfl (hinv.2.1) dX3_doWord_380 (fun H locs hP hS => ?_)
    refine lv_goto (tgt := 421) hx hb dX3_doWord_381 (by decide) ?_
    refine lv_aload_n hx hb dX3_doWord_421 rfl (lv_at hl 8 rfl) ?_
    refine lv_iload hx hb dX3_doWord_422 (lv_at hl 0 rfl) ?_
    refine wx_put (w := (cw k)) (g := (i + 1)) (j := 0) hx hb hts hiX2 tyX2 tyX2_ok nmX2 hown hK hP hD hS (cIx_r hi (by decide)) rfl rfl 7 (by decide) hf133 rfl (by decide +kernel) rfl (Nat.le_of_ble_eq_true rfl) dX3_doWord_424 (fun H locs hP hS => ?_)
    refine lv_aload_n hx hb dX3_doWord_427 rfl (lv_at hl 8 rfl) ?_
    refine lv_dup hx hb dX3_doWord_428 rfl ?_
    refine wx_get (w := (cw k)) (g := (i + 1)) (j := 0) hx hb hts hiX2 hown hK hP (cIx_r hi (by decide)) rfl rfl 9 (by decide) hf179 rfl dX3_doWord_429 ?_
    refine lv_iconst (v := 1) hx hb dX3_doWord_432 (by decide) ?_
    refine lv_iadd hx hb dX3_doWord_433 ?_
    refine wx_put (w := (cw k)) (g := (i + 1)) (j := 0) hx hb hts hiX2 tyX2 tyX2_ok nmX2 hown hK hP hD hS (cIx_r hi (by decide)) rfl rfl 9 (by decide) hf179 rfl (by decide +kernel) rfl (Nat.le_of_ble_eq_true rfl) dX3_doWord_434 (fun H locs hP hS => ?_)
    have e9 : f_X3_doWord_L59 k i x4 x5 x6 x7 x8 x9 x10 M = (mu (mu (mu M (i + 1) 2 x5.toNatClampNeg (M (i + 1) 0 0)) (i + 1) 0 7 x10) (i + 1) 0 9 (((mu (mu M (i + 1) 2 x5.toNatClampNeg (M (i + 1) 0 0)) (i + 1) 0 7 x10) (i + 1) 0 9) + 1)) := (by unfold f_X3_doWord_L59; rw [if_neg e_61_0, if_neg e_61_1, if_neg e_61_2, if_neg e_61_3, if_neg e_61_4, if_neg e_61_5, if_neg e_61_6, if_neg e_61_7, if_neg e_61_8, if_neg e_61_9, if_neg e_61_10, if_neg e_61_11, if_neg e_61_12, if_neg e_61_13, if_neg e_61_14, if_neg e_61_15, if_neg e_61_16, if_neg e_61_17, if_neg e_61_18, if_neg e_61_19, if_neg e_61_20, if_neg e_61_21, if_pos e_61_22])
    exact wx_vret hx hb hr hlocks hP hS (by rw [e9] at hpo; exact hpo) dX3_doWord_437
  by_cases e_61_23 : x4 = 23
  · refine lv_tableIn (tgt := 384) hx hb dX3_doWord_61 (by rw [e_61_23]; decide) (by rw [e_61_23]; decide) (by rw [e_61_23]; rfl) (by decide) ?_
    refine lv_aload_n hx hb dX3_doWord_384 rfl (lv_at hl 7 rfl) ?_
    refine lv_iload hx hb dX3_doWord_385 (lv_at hl 5 rfl) ?_
    refine lv_aload_n hx hb dX3_doWord_387 rfl (lv_at hl 9 rfl) ?_
    refine wx_get (w := (cw k)) (g := 0) (j := 0) hx hb hts hiX3 hown hK hP (cIx_0 (by decide)) rfl rfl 2 (by decide) hf88 rfl dX3_doWord_388 ?_
    refine wx_iast (w := (cw k)) (g := (i + 1)) (j := 2) hx hb hK hP hD hS (cIx_r hi (by decide)) 0 (fun _ => rfl) rfl (hinv.2.1) dX3_doWord_391 (fun H locs hP hS => ?_)
    refine lv_goto (tgt := 421) hx hb dX3_doWord_392 (by decide) ?_
    refine lv_aload_n hx hb dX3_doWord_421 rfl (lv_at hl 8 rfl) ?_
    refine lv_iload hx hb dX3_doWord_422 (lv_at hl 0 rfl) ?_
    refine wx_put (w := (cw k)) (g := (i + 1)) (j := 0) hx hb hts hiX2 tyX2 tyX2_ok nmX2 hown hK hP hD hS (cIx_r hi (by decide)) rfl rfl 7 (by decide) hf133 rfl (by decide +kernel) rfl (Nat.le_of_ble_eq_true rfl) dX3_doWord_424 (fun H locs hP hS => ?_)
    refine lv_aload_n hx hb dX3_doWord_427 rfl (lv_at hl 8 rfl) ?_
    refine lv_dup hx hb dX3_doWord_428 rfl ?_
    refine wx_get (w := (cw k)) (g := (i + 1)) (j := 0) hx hb hts hiX2 hown hK hP (cIx_r hi (by decide)) rfl rfl 9 (by decide) hf179 rfl dX3_doWord_429 ?_
    refine lv_iconst (v := 1) hx hb dX3_doWord_432 (by decide) ?_
    refine lv_iadd hx hb dX3_doWord_433 ?_
    refine wx_put (w := (cw k)) (g := (i + 1)) (j := 0) hx hb hts hiX2 tyX2 tyX2_ok nmX2 hown hK hP hD hS (cIx_r hi (by decide)) rfl rfl 9 (by decide) hf179 rfl (by decide +kernel) rfl (Nat.le_of_ble_eq_true rfl) dX3_doWord_434 (fun H locs hP hS => ?_)
    have e9 : f_X3_doWord_L59 k i x4 x5 x6 x7 x8 x9 x10 M = (mu (mu (mu M (i + 1) 2 x5.toNatClampNeg (M 0 0 2)) (i + 1) 0 7 x10) (i + 1) 0 9 (((mu (mu M (i + 1) 2 x5.toNatClampNeg (M 0 0 2)) (i + 1) 0 7 x10) (i + 1) 0 9) + 1)) := (by unfold f_X3_doWord_L59; rw [if_neg e_61_0, if_neg e_61_1, if_neg e_61_2, if_neg e_61_3, if_neg e_61_4, if_neg e_61_5, if_neg e_61_6, if_neg e_61_7, if_neg e_61_8, if_neg e_61_9, if_neg e_61_10, if_neg e_61_11, if_neg e_61_12, if_neg e_61_13, if_neg e_61_14, if_neg e_61_15, if_neg e_61_16, if_neg e_61_17, if_neg e_61_18, if_neg e_61_19, if_neg e_61_20, if_neg e_61_21, if_neg e_61_22, if_pos e_61_23])
    exact wx_vret hx hb hr hlocks hP hS (by rw [e9] at hpo; exact hpo) dX3_doWord_437
  by_cases e_61_24 : x4 = 24
  · refine lv_tableIn (tgt := 395) hx hb dX3_doWord_61 (by rw [e_61_24]; decide) (by rw [e_61_24]; decide) (by rw [e_61_24]; rfl) (by decide) ?_
    refine lv_aload_n hx hb dX3_doWord_395 rfl (lv_at hl 7 rfl) ?_
    refine lv_iload hx hb dX3_doWord_396 (lv_at hl 5 rfl) ?_
    refine lv_aload_n hx hb dX3_doWord_398 rfl (lv_at hl 8 rfl) ?_
    refine wx_get (w := (cw k)) (g := (i + 1)) (j := 0) hx hb hts hiX2 hown hK hP (cIx_r hi (by decide)) rfl rfl 10 (by decide) hf95 rfl dX3_doWord_399 ?_
    refine wx_iast (w := (cw k)) (g := (i + 1)) (j := 2) hx hb hK hP hD hS (cIx_r hi (by decide)) 0 (fun _ => rfl) rfl (hinv.2.1) dX3_doWord_402 (fun H locs hP hS => ?_)
    refine lv_goto (tgt := 421) hx hb dX3_doWord_403 (by decide) ?_
    refine lv_aload_n hx hb dX3_doWord_421 rfl (lv_at hl 8 rfl) ?_
    refine lv_iload hx hb dX3_doWord_422 (lv_at hl 0 rfl) ?_
    refine wx_put (w := (cw k)) (g := (i + 1)) (j := 0) hx hb hts hiX2 tyX2 tyX2_ok nmX2 hown hK hP hD hS (cIx_r hi (by decide)) rfl rfl 7 (by decide) hf133 rfl (by decide +kernel) rfl (Nat.le_of_ble_eq_true rfl) dX3_doWord_424 (fun H locs hP hS => ?_)
    refine lv_aload_n hx hb dX3_doWord_427 rfl (lv_at hl 8 rfl) ?_
    refine lv_dup hx hb dX3_doWord_428 rfl ?_
    refine wx_get (w := (cw k)) (g := (i + 1)) (j := 0) hx hb hts hiX2 hown hK hP (cIx_r hi (by decide)) rfl rfl 9 (by decide) hf179 rfl dX3_doWord_429 ?_
    refine lv_iconst (v := 1) hx hb dX3_doWord_432 (by decide) ?_
    refine lv_iadd hx hb dX3_doWord_433 ?_
    refine wx_put (w := (cw k)) (g := (i + 1)) (j := 0) hx hb hts hiX2 tyX2 tyX2_ok nmX2 hown hK hP hD hS (cIx_r hi (by decide)) rfl rfl 9 (by decide) hf179 rfl (by decide +kernel) rfl (Nat.le_of_ble_eq_true rfl) dX3_doWord_434 (fun H locs hP hS => ?_)
    have e9 : f_X3_doWord_L59 k i x4 x5 x6 x7 x8 x9 x10 M = (mu (mu (mu M (i + 1) 2 x5.toNatClampNeg (M (i + 1) 0 10)) (i + 1) 0 7 x10) (i + 1) 0 9 (((mu (mu M (i + 1) 2 x5.toNatClampNeg (M (i + 1) 0 10)) (i + 1) 0 7 x10) (i + 1) 0 9) + 1)) := (by unfold f_X3_doWord_L59; rw [if_neg e_61_0, if_neg e_61_1, if_neg e_61_2, if_neg e_61_3, if_neg e_61_4, if_neg e_61_5, if_neg e_61_6, if_neg e_61_7, if_neg e_61_8, if_neg e_61_9, if_neg e_61_10, if_neg e_61_11, if_neg e_61_12, if_neg e_61_13, if_neg e_61_14, if_neg e_61_15, if_neg e_61_16, if_neg e_61_17, if_neg e_61_18, if_neg e_61_19, if_neg e_61_20, if_neg e_61_21, if_neg e_61_22, if_neg e_61_23, if_pos e_61_24])
    exact wx_vret hx hb hr hlocks hP hS (by rw [e9] at hpo; exact hpo) dX3_doWord_437
  have hdf : x4.toInt < 0 ∨ 24 < x4.toInt := by have n0 := lv_neT e_61_0 (a := 0) (by decide); have n1 := lv_neT e_61_1 (a := 1) (by decide); have n2 := lv_neT e_61_2 (a := 2) (by decide); have n3 := lv_neT e_61_3 (a := 3) (by decide); have n4 := lv_neT e_61_4 (a := 4) (by decide); have n5 := lv_neT e_61_5 (a := 5) (by decide); have n6 := lv_neT e_61_6 (a := 6) (by decide); have n7 := lv_neT e_61_7 (a := 7) (by decide); have n8 := lv_neT e_61_8 (a := 8) (by decide); have n9 := lv_neT e_61_9 (a := 9) (by decide); have n10 := lv_neT e_61_10 (a := 10) (by decide); have n11 := lv_neT e_61_11 (a := 11) (by decide); have n12 := lv_neT e_61_12 (a := 12) (by decide); have n13 := lv_neT e_61_13 (a := 13) (by decide); have n14 := lv_neT e_61_14 (a := 14) (by decide); have n15 := lv_neT e_61_15 (a := 15) (by decide); have n16 := lv_neT e_61_16 (a := 16) (by decide); have n17 := lv_neT e_61_17 (a := 17) (by decide); have n18 := lv_neT e_61_18 (a := 18) (by decide); have n19 := lv_neT e_61_19 (a := 19) (by decide); have n20 := lv_neT e_61_20 (a := 20) (by decide); have n21 := lv_neT e_61_21 (a := 21) (by decide); have n22 := lv_neT e_61_22 (a := 22) (by decide); have n23 := lv_neT e_61_23 (a := 23) (by decide); have n24 := lv_neT e_61_24 (a := 24) (by decide);  omega
  refine lv_tableOut (tgt := 406) hx hb dX3_doWord_61 hdf (by decide) ?_
  refine lv_aload_n hx hb dX3_doWord_406 rfl (lv_at hl 7 rfl) ?_
  refine lv_iload hx hb dX3_doWord_407 (lv_at hl 5 rfl) ?_
  refine lv_iload hx hb dX3_doWord_409 (lv_at hl 6 rfl) ?_
  refine lv_iload hx hb dX3_doWord_411 (lv_at hl 2 rfl) ?_
  refine lv_iload hx hb dX3_doWord_413 (lv_at hl 1 rfl) ?_
  refine lv_iload hx hb dX3_doWord_415 (lv_at hl 3 rfl) ?_
  refine wx_Si (w := (cw k)) (f_X3_calculated k M x4 x8 x9 x7) M [.int x4, .int x8, .int x9, .int x7] [.int x5, .ref (k.1 (i + 1) 2)] (cZok k) ⟨hx, hb, hml, hown, hts⟩ (c_X3_calculated l k M x4 x8 x9 x7 hinv.2.2.2) (va_cwS 4 hts gX3_doWord_X3_calculated rfl rfl rfl (by decide +kernel) ⟨by decide, by decide⟩) hP hK hD hZ hS rfl hl.1 rfl (Nat.le_of_ble_eq_true rfl) dX3_doWord_417 ⟨by decide, by decide⟩ (fun H locs hP hS => ?_)
  refine wx_iast (w := (cw k)) (g := (i + 1)) (j := 2) hx hb hK hP hD hS (cIx_r hi (by decide)) 0 (fun _ => rfl) rfl (hinv.2.1) dX3_doWord_420 (fun H locs hP hS => ?_)
  refine lv_aload_n hx hb dX3_doWord_421 rfl (lv_at hl 8 rfl) ?_
  refine lv_iload hx hb dX3_doWord_422 (lv_at hl 0 rfl) ?_
  refine wx_put (w := (cw k)) (g := (i + 1)) (j := 0) hx hb hts hiX2 tyX2 tyX2_ok nmX2 hown hK hP hD hS (cIx_r hi (by decide)) rfl rfl 7 (by decide) hf133 rfl (by decide +kernel) rfl (Nat.le_of_ble_eq_true rfl) dX3_doWord_424 (fun H locs hP hS => ?_)
  refine lv_aload_n hx hb dX3_doWord_427 rfl (lv_at hl 8 rfl) ?_
  refine lv_dup hx hb dX3_doWord_428 rfl ?_
  refine wx_get (w := (cw k)) (g := (i + 1)) (j := 0) hx hb hts hiX2 hown hK hP (cIx_r hi (by decide)) rfl rfl 9 (by decide) hf179 rfl dX3_doWord_429 ?_
  refine lv_iconst (v := 1) hx hb dX3_doWord_432 (by decide) ?_
  refine lv_iadd hx hb dX3_doWord_433 ?_
  refine wx_put (w := (cw k)) (g := (i + 1)) (j := 0) hx hb hts hiX2 tyX2 tyX2_ok nmX2 hown hK hP hD hS (cIx_r hi (by decide)) rfl rfl 9 (by decide) hf179 rfl (by decide +kernel) rfl (Nat.le_of_ble_eq_true rfl) dX3_doWord_434 (fun H locs hP hS => ?_)
  have e9 : f_X3_doWord_L59 k i x4 x5 x6 x7 x8 x9 x10 M = (mu (mu (mu M (i + 1) 2 x5.toNatClampNeg (f_X3_calculated k M x4 x8 x9 x7)) (i + 1) 0 7 x10) (i + 1) 0 9 (((mu (mu M (i + 1) 2 x5.toNatClampNeg (f_X3_calculated k M x4 x8 x9 x7)) (i + 1) 0 7 x10) (i + 1) 0 9) + 1)) := (by unfold f_X3_doWord_L59; rw [if_neg e_61_0, if_neg e_61_1, if_neg e_61_2, if_neg e_61_3, if_neg e_61_4, if_neg e_61_5, if_neg e_61_6, if_neg e_61_7, if_neg e_61_8, if_neg e_61_9, if_neg e_61_10, if_neg e_61_11, if_neg e_61_12, if_neg e_61_13, if_neg e_61_14, if_neg e_61_15, if_neg e_61_16, if_neg e_61_17, if_neg e_61_18, if_neg e_61_19, if_neg e_61_20, if_neg e_61_21, if_neg e_61_22, if_neg e_61_23, if_neg e_61_24])
  exact wx_vret hx hb hr hlocks hP hS (by rw [e9] at hpo; exact hpo) dX3_doWord_437
/-- by program, from the bytecode of RobotWorld.doWord -/
def f_X3_doWord (k : CK) (M : Mem) (i : Nat) : Mem :=
  f_X3_doWord_L59 k i (f_X3_opOf k M (M (i + 1) 1 (M (i + 1) 0 7).toNatClampNeg)) (f_X3_rOf k M (M (i + 1) 1 (M (i + 1) 0 7).toNatClampNeg)) (f_X3_sOf k M (M (i + 1) 1 (M (i + 1) 0 7).toNatClampNeg)) ((M (i + 1) 1 (M (i + 1) 0 7).toNatClampNeg) >>> (16 &&& 31)) (M (i + 1) 2 (f_X3_rOf k M (M (i + 1) 1 (M (i + 1) 0 7).toNatClampNeg)).toNatClampNeg) (M (i + 1) 2 (f_X3_sOf k M (M (i + 1) 1 (M (i + 1) 0 7).toNatClampNeg)).toNatClampNeg) ((M (i + 1) 0 7) + 1) M
set_option maxHeartbeats 4000000 in
set_option maxRecDepth 100000 in
theorem c_X3_doWord (l : Launch) (k : CK) (M : Mem) (i : Nat) (hi : i < k.2.1 0) (hI : cI k M) (hf : f_X2_mustFail k M i = 0) : Met l yX3_doWord wsX3_doWord (rmK 4 104) (wPc (cw k) M [.ref (k.1 0 0), .ref (k.1 (i + 1) 0)]) (wQv (cw k) (fun u => u = f_X3_doWord k M i)) 0 0 (wA (cw k)) := by
  refine wx_met (cc := cX3_doWord) (maxL := 11) (ret := none) (by decide) rfl (Nat.le_of_ble_eq_true rfl) ?_
  intro p e s m below meth c ls hx hb hr hml hts hown hlocks hP hK hD hZ hS hl
  have hown : s.vm.findClass RX3 = some m.cls := hown
  have hl : lv_has ls 11 [(0, .ref (k.1 0 0)), (1, .ref (k.1 (i + 1) 0))] := hl
  have hiX2 : ∀ x ∈ u_ws RX2 TX2 12, x ∈ wsX3_doWord := by decide +kernel
  have hf129 := hts (.fieldLink RX3 129 "RobotWorld$Robot" "program" "[I") (by decide +kernel)
  have hf133 := hts (.fieldLink RX3 133 "RobotWorld$Robot" "place" "I") (by decide +kernel)
  have hf136 := hts (.fieldLink RX3 136 "RobotWorld$Robot" "registers" "[I") (by decide +kernel)
  refine lv_aload_n hx hb dX3_doWord_0 rfl (lv_at hl 1 rfl) ?_
  refine wx_get (w := (cw k)) (g := (i + 1)) (j := 0) hx hb hts hiX2 hown hK hP (cIx_r hi (by decide)) rfl rfl 1 (by decide) hf129 rfl dX3_doWord_1 ?_
  refine lv_aload_n hx hb dX3_doWord_4 rfl (lv_at hl 1 rfl) ?_
  refine wx_get (w := (cw k)) (g := (i + 1)) (j := 0) hx hb hts hiX2 hown hK hP (cIx_r hi (by decide)) rfl rfl 7 (by decide) hf133 rfl dX3_doWord_5 ?_
  refine wx_iald (w := (cw k)) (g := (i + 1)) (j := 1) hx hb hK hP (cIx_r hi (by decide)) 0 rfl rfl (mf_p hI hf) dX3_doWord_8 ?_
  refine lv_istore_n (lv' := [(2, .int (M (i + 1) 1 (M (i + 1) 0 7).toNatClampNeg)), (0, .ref (k.1 0 0)), (1, .ref (k.1 (i + 1) 0))]) hx hb dX3_doWord_9 rfl hl (by decide) rfl (fun ls hl => ?_)
  refine lv_aload_n hx hb dX3_doWord_10 rfl (lv_at hl 2 rfl) ?_
  refine wx_get (w := (cw k)) (g := (i + 1)) (j := 0) hx hb hts hiX2 hown hK hP (cIx_r hi (by decide)) rfl rfl 2 (by decide) hf136 rfl dX3_doWord_11 ?_
  refine lv_astore_n (lv' := [(3, .ref (k.1 (i + 1) 2)), (2, .int (M (i + 1) 1 (M (i + 1) 0 7).toNatClampNeg)), (0, .ref (k.1 0 0)), (1, .ref (k.1 (i + 1) 0))]) hx hb dX3_doWord_14 rfl hl (by decide) rfl (fun ls hl => ?_)
  refine lv_iload_n hx hb dX3_doWord_15 rfl (lv_at hl 1 rfl) ?_
  refine wx_Si (w := (cw k)) (f_X3_opOf k M (M (i + 1) 1 (M (i + 1) 0 7).toNatClampNeg)) M [.int (M (i + 1) 1 (M (i + 1) 0 7).toNatClampNeg)] [] (cZok k) ⟨hx, hb, hml, hown, hts⟩ (c_X3_opOf l k M (M (i + 1) 1 (M (i + 1) 0 7).toNatClampNeg) ) (va_cwS 1 hts gX3_doWord_X3_opOf rfl rfl rfl (by decide +kernel) ⟨by decide, by decide⟩) hP hK hD hZ hS rfl hl.1 rfl (Nat.le_of_ble_eq_true rfl) dX3_doWord_16 ⟨by decide, by decide⟩ (fun H locs hP hS => ?_)
  refine lv_istore (lv' := [(4, .int (f_X3_opOf k M (M (i + 1) 1 (M (i + 1) 0 7).toNatClampNeg))), (3, .ref (k.1 (i + 1) 2)), (2, .int (M (i + 1) 1 (M (i + 1) 0 7).toNatClampNeg)), (0, .ref (k.1 0 0)), (1, .ref (k.1 (i + 1) 0))]) hx hb dX3_doWord_19 hl (by decide) rfl (fun ls hl => ?_)
  refine lv_iload_n hx hb dX3_doWord_21 rfl (lv_at hl 2 rfl) ?_
  refine wx_Si (w := (cw k)) (f_X3_rOf k M (M (i + 1) 1 (M (i + 1) 0 7).toNatClampNeg)) M [.int (M (i + 1) 1 (M (i + 1) 0 7).toNatClampNeg)] [] (cZok k) ⟨hx, hb, hml, hown, hts⟩ (c_X3_rOf l k M (M (i + 1) 1 (M (i + 1) 0 7).toNatClampNeg) ) (va_cwS 1 hts gX3_doWord_X3_rOf rfl rfl rfl (by decide +kernel) ⟨by decide, by decide⟩) hP hK hD hZ hS rfl hl.1 rfl (Nat.le_of_ble_eq_true rfl) dX3_doWord_22 ⟨by decide, by decide⟩ (fun H locs hP hS => ?_)
  refine lv_istore (lv' := [(5, .int (f_X3_rOf k M (M (i + 1) 1 (M (i + 1) 0 7).toNatClampNeg))), (4, .int (f_X3_opOf k M (M (i + 1) 1 (M (i + 1) 0 7).toNatClampNeg))), (3, .ref (k.1 (i + 1) 2)), (2, .int (M (i + 1) 1 (M (i + 1) 0 7).toNatClampNeg)), (0, .ref (k.1 0 0)), (1, .ref (k.1 (i + 1) 0))]) hx hb dX3_doWord_25 hl (by decide) rfl (fun ls hl => ?_)
  refine lv_iload_n hx hb dX3_doWord_27 rfl (lv_at hl 3 rfl) ?_
  refine wx_Si (w := (cw k)) (f_X3_sOf k M (M (i + 1) 1 (M (i + 1) 0 7).toNatClampNeg)) M [.int (M (i + 1) 1 (M (i + 1) 0 7).toNatClampNeg)] [] (cZok k) ⟨hx, hb, hml, hown, hts⟩ (c_X3_sOf l k M (M (i + 1) 1 (M (i + 1) 0 7).toNatClampNeg) ) (va_cwS 1 hts gX3_doWord_X3_sOf rfl rfl rfl (by decide +kernel) ⟨by decide, by decide⟩) hP hK hD hZ hS rfl hl.1 rfl (Nat.le_of_ble_eq_true rfl) dX3_doWord_28 ⟨by decide, by decide⟩ (fun H locs hP hS => ?_)
  refine lv_istore (lv' := [(6, .int (f_X3_sOf k M (M (i + 1) 1 (M (i + 1) 0 7).toNatClampNeg))), (5, .int (f_X3_rOf k M (M (i + 1) 1 (M (i + 1) 0 7).toNatClampNeg))), (4, .int (f_X3_opOf k M (M (i + 1) 1 (M (i + 1) 0 7).toNatClampNeg))), (3, .ref (k.1 (i + 1) 2)), (2, .int (M (i + 1) 1 (M (i + 1) 0 7).toNatClampNeg)), (0, .ref (k.1 0 0)), (1, .ref (k.1 (i + 1) 0))]) hx hb dX3_doWord_31 hl (by decide) rfl (fun ls hl => ?_)
  refine lv_iload_n hx hb dX3_doWord_33 rfl (lv_at hl 4 rfl) ?_
  refine lv_bipush (v := 16) hx hb dX3_doWord_34 (by decide) ?_
  refine lv_ishr hx hb dX3_doWord_36 ?_
  refine lv_istore (lv' := [(7, .int ((M (i + 1) 1 (M (i + 1) 0 7).toNatClampNeg) >>> (16 &&& 31))), (6, .int (f_X3_sOf k M (M (i + 1) 1 (M (i + 1) 0 7).toNatClampNeg))), (5, .int (f_X3_rOf k M (M (i + 1) 1 (M (i + 1) 0 7).toNatClampNeg))), (4, .int (f_X3_opOf k M (M (i + 1) 1 (M (i + 1) 0 7).toNatClampNeg))), (3, .ref (k.1 (i + 1) 2)), (2, .int (M (i + 1) 1 (M (i + 1) 0 7).toNatClampNeg)), (0, .ref (k.1 0 0)), (1, .ref (k.1 (i + 1) 0))]) hx hb dX3_doWord_37 hl (by decide) rfl (fun ls hl => ?_)
  refine lv_aload_n hx hb dX3_doWord_39 rfl (lv_at hl 4 rfl) ?_
  refine lv_iload hx hb dX3_doWord_40 (lv_at hl 2 rfl) ?_
  refine wx_iald (w := (cw k)) (g := (i + 1)) (j := 2) hx hb hK hP (cIx_r hi (by decide)) 0 rfl rfl (mf_r hf) dX3_doWord_42 ?_
  refine lv_istore (lv' := [(8, .int (M (i + 1) 2 (f_X3_rOf k M (M (i + 1) 1 (M (i + 1) 0 7).toNatClampNeg)).toNatClampNeg)), (7, .int ((M (i + 1) 1 (M (i + 1) 0 7).toNatClampNeg) >>> (16 &&& 31))), (6, .int (f_X3_sOf k M (M (i + 1) 1 (M (i + 1) 0 7).toNatClampNeg))), (5, .int (f_X3_rOf k M (M (i + 1) 1 (M (i + 1) 0 7).toNatClampNeg))), (4, .int (f_X3_opOf k M (M (i + 1) 1 (M (i + 1) 0 7).toNatClampNeg))), (3, .ref (k.1 (i + 1) 2)), (2, .int (M (i + 1) 1 (M (i + 1) 0 7).toNatClampNeg)), (0, .ref (k.1 0 0)), (1, .ref (k.1 (i + 1) 0))]) hx hb dX3_doWord_43 hl (by decide) rfl (fun ls hl => ?_)
  refine lv_aload_n hx hb dX3_doWord_45 rfl (lv_at hl 5 rfl) ?_
  refine lv_iload hx hb dX3_doWord_46 (lv_at hl 2 rfl) ?_
  refine wx_iald (w := (cw k)) (g := (i + 1)) (j := 2) hx hb hK hP (cIx_r hi (by decide)) 0 rfl rfl (mf_s hf) dX3_doWord_48 ?_
  refine lv_istore (lv' := [(9, .int (M (i + 1) 2 (f_X3_sOf k M (M (i + 1) 1 (M (i + 1) 0 7).toNatClampNeg)).toNatClampNeg)), (8, .int (M (i + 1) 2 (f_X3_rOf k M (M (i + 1) 1 (M (i + 1) 0 7).toNatClampNeg)).toNatClampNeg)), (7, .int ((M (i + 1) 1 (M (i + 1) 0 7).toNatClampNeg) >>> (16 &&& 31))), (6, .int (f_X3_sOf k M (M (i + 1) 1 (M (i + 1) 0 7).toNatClampNeg))), (5, .int (f_X3_rOf k M (M (i + 1) 1 (M (i + 1) 0 7).toNatClampNeg))), (4, .int (f_X3_opOf k M (M (i + 1) 1 (M (i + 1) 0 7).toNatClampNeg))), (3, .ref (k.1 (i + 1) 2)), (2, .int (M (i + 1) 1 (M (i + 1) 0 7).toNatClampNeg)), (0, .ref (k.1 0 0)), (1, .ref (k.1 (i + 1) 0))]) hx hb dX3_doWord_49 hl (by decide) rfl (fun ls hl => ?_)
  refine lv_aload_n hx hb dX3_doWord_51 rfl (lv_at hl 9 rfl) ?_
  refine wx_get (w := (cw k)) (g := (i + 1)) (j := 0) hx hb hts hiX2 hown hK hP (cIx_r hi (by decide)) rfl rfl 7 (by decide) hf133 rfl dX3_doWord_52 ?_
  refine lv_iconst (v := 1) hx hb dX3_doWord_55 (by decide) ?_
  refine lv_iadd hx hb dX3_doWord_56 ?_
  refine lv_istore (lv' := [(10, .int ((M (i + 1) 0 7) + 1)), (9, .int (M (i + 1) 2 (f_X3_sOf k M (M (i + 1) 1 (M (i + 1) 0 7).toNatClampNeg)).toNatClampNeg)), (8, .int (M (i + 1) 2 (f_X3_rOf k M (M (i + 1) 1 (M (i + 1) 0 7).toNatClampNeg)).toNatClampNeg)), (7, .int ((M (i + 1) 1 (M (i + 1) 0 7).toNatClampNeg) >>> (16 &&& 31))), (6, .int (f_X3_sOf k M (M (i + 1) 1 (M (i + 1) 0 7).toNatClampNeg))), (5, .int (f_X3_rOf k M (M (i + 1) 1 (M (i + 1) 0 7).toNatClampNeg))), (4, .int (f_X3_opOf k M (M (i + 1) 1 (M (i + 1) 0 7).toNatClampNeg))), (3, .ref (k.1 (i + 1) 2)), (2, .int (M (i + 1) 1 (M (i + 1) 0 7).toNatClampNeg)), (0, .ref (k.1 0 0)), (1, .ref (k.1 (i + 1) 0))]) hx hb dX3_doWord_57 hl (by decide) rfl (fun ls hl => ?_)
  have e9 : f_X3_doWord k M i = f_X3_doWord_L59 k i (f_X3_opOf k M (M (i + 1) 1 (M (i + 1) 0 7).toNatClampNeg)) (f_X3_rOf k M (M (i + 1) 1 (M (i + 1) 0 7).toNatClampNeg)) (f_X3_sOf k M (M (i + 1) 1 (M (i + 1) 0 7).toNatClampNeg)) ((M (i + 1) 1 (M (i + 1) 0 7).toNatClampNeg) >>> (16 &&& 31)) (M (i + 1) 2 (f_X3_rOf k M (M (i + 1) 1 (M (i + 1) 0 7).toNatClampNeg)).toNatClampNeg) (M (i + 1) 2 (f_X3_sOf k M (M (i + 1) 1 (M (i + 1) 0 7).toNatClampNeg)).toNatClampNeg) ((M (i + 1) 0 7) + 1) M := rfl
  exact lp_X3_doWord_L59 k i (hi) hx hb hr hml hts hown hlocks hK hD hZ (f_X3_opOf k M (M (i + 1) 1 (M (i + 1) 0 7).toNatClampNeg)) (f_X3_rOf k M (M (i + 1) 1 (M (i + 1) 0 7).toNatClampNeg)) (f_X3_sOf k M (M (i + 1) 1 (M (i + 1) 0 7).toNatClampNeg)) ((M (i + 1) 1 (M (i + 1) 0 7).toNatClampNeg) >>> (16 &&& 31)) (M (i + 1) 2 (f_X3_rOf k M (M (i + 1) 1 (M (i + 1) 0 7).toNatClampNeg)).toNatClampNeg) (M (i + 1) 2 (f_X3_sOf k M (M (i + 1) 1 (M (i + 1) 0 7).toNatClampNeg)).toNatClampNeg) ((M (i + 1) 0 7) + 1) M _ _ ls (⟨hI, mf_r hf, mf_s hf, mf_d hf⟩) hP hS (lv_sub hl [0, 1, 2, 3, 4, 5, 6, 7, 10, 9] rfl) _ e9.symm
theorem cI_pl {k : CK} {X : Mem} {i : Nat} {a : Int32} (h : cI k X) : cI k (mu X (i + 1) 0 7 a) := cI_mu h (by omega) (by omega) (by omega)
theorem cI_dn {k : CK} {X : Mem} {i : Nat} {a : Int32} (h : cI k X) : cI k (mu X (i + 1) 0 9 a) := cI_mu h (by omega) (by omega) (by omega)
theorem cI_tl {k : CK} {X : Mem} {i : Nat} {a b : Int32} (h : cI k X) : cI k (mu (mu X (i + 1) 0 7 a) (i + 1) 0 9 b) := cI_mu (cI_mu h (by omega) (by omega) (by omega)) (by omega) (by omega) (by omega)
theorem cI_rg {k : CK} {X : Mem} {i q : Nat} {a : Int32} (h : cI k X) : cI k (mu X (i + 1) 2 q a) := cI_mu h (by omega) (by omega) (by omega)
theorem cI_st {k : CK} {X : Mem} {i : Nat} {a : Int32} (h : cI k X) : cI k (mu X (i + 1) 0 4 a) := cI_mu h (by omega) (by omega) (by omega)
theorem cI_dw {k : CK} {M : Mem} {i : Nat} {x4 x5 x6 x7 x8 x9 x10 : Int32} (hI : cI k M) : cI k (f_X3_doWord_L59 k i x4 x5 x6 x7 x8 x9 x10 M) := by
  unfold f_X3_doWord_L59
  by_cases y0 : x4 = 0
  · rw [if_pos y0]
    exact (cI_dn (cI_pl (cI_st hI)))
  · rw [if_neg y0]
    by_cases y1 : x4 = 1
    · rw [if_pos y1]
      exact (cI_dn (cI_pl (cI_rg hI)))
    · rw [if_neg y1]
      by_cases y2 : x4 = 2
      · rw [if_pos y2]
        exact (cI_dn (cI_pl (cI_rg hI)))
      · rw [if_neg y2]
        by_cases y3 : x4 = 3
        · rw [if_pos y3]
          exact (cI_dn (cI_pl (cI_rg hI)))
        · rw [if_neg y3]
          by_cases y4 : x4 = 4
          · rw [if_pos y4]
            exact (cI_dn (cI_pl (cI_rg hI)))
          · rw [if_neg y4]
            by_cases y5 : x4 = 5
            · rw [if_pos y5]
              exact (cI_dn (cI_pl (cI_rg hI)))
            · rw [if_neg y5]
              by_cases y6 : x4 = 6
              · rw [if_pos y6]
                exact (cI_dn (cI_pl (cI_rg hI)))
              · rw [if_neg y6]
                by_cases y7 : x4 = 7
                · rw [if_pos y7]
                  exact (cI_dn (cI_pl (cI_rg hI)))
                · rw [if_neg y7]
                  by_cases y8 : x4 = 8
                  · rw [if_pos y8]
                    exact (cI_dn (cI_pl (cI_rg hI)))
                  · rw [if_neg y8]
                    by_cases y9 : x4 = 9
                    · rw [if_pos y9]
                      exact (cI_dn (cI_pl (cI_rg hI)))
                    · rw [if_neg y9]
                      by_cases y10 : x4 = 10
                      · rw [if_pos y10]
                        exact (cI_dn (cI_pl hI))
                      · rw [if_neg y10]
                        by_cases y11 : x4 = 11
                        · rw [if_pos y11]
                          by_cases y12 : x8 = 0
                          · rw [if_pos y12]
                            exact (cI_dn (cI_pl hI))
                          · rw [if_neg y12]
                            exact (cI_dn (cI_pl hI))
                        · rw [if_neg y11]
                          by_cases y12 : x4 = 12
                          · rw [if_pos y12]
                            by_cases y13 : x8 = 0
                            · rw [if_pos y13]
                              exact (cI_dn (cI_pl hI))
                            · rw [if_neg y13]
                              exact (cI_dn (cI_pl hI))
                          · rw [if_neg y12]
                            by_cases y13 : x4 = 13
                            · rw [if_pos y13]
                              exact (cI_dn (cI_pl (cI_rg (cI_go hI))))
                            · rw [if_neg y13]
                              by_cases y14 : x4 = 14
                              · rw [if_pos y14]
                                exact (cI_dn (cI_pl (cI_rg hI)))
                              · rw [if_neg y14]
                                by_cases y15 : x4 = 15
                                · rw [if_pos y15]
                                  exact (cI_dn (cI_pl (cI_rg (cI_take hI))))
                                · rw [if_neg y15]
                                  by_cases y16 : x4 = 16
                                  · rw [if_pos y16]
                                    exact (cI_dn (cI_pl (cI_rg (cI_lay hI))))
                                  · rw [if_neg y16]
                                    by_cases y17 : x4 = 17
                                    · rw [if_pos y17]
                                      exact (cI_dn (cI_pl (cI_rg (cI_send hI))))
                                    · rw [if_neg y17]
                                      by_cases y18 : x4 = 18
                                      · rw [if_pos y18]
                                        by_cases y19 : (f_X3_receive k M i x5).1 = 0
                                        · rw [if_pos y19]
                                          exact (cI_dn (cI_pl (cI_receive hI)))
                                        · rw [if_neg y19]
                                          exact (cI_dn (cI_pl (cI_receive hI)))
                                      · rw [if_neg y18]
                                        by_cases y19 : x4 = 19
                                        · rw [if_pos y19]
                                          exact (cI_dn (cI_pl (cI_fallAsleep hI)))
                                        · rw [if_neg y19]
                                          by_cases y20 : x4 = 20
                                          · rw [if_pos y20]
                                            exact (cI_dn (cI_pl (cI_rg (cI_firstStep hI))))
                                          · rw [if_neg y20]
                                            by_cases y21 : x4 = 21
                                            · rw [if_pos y21]
                                              exact (cI_dn (cI_pl (cI_rg (cI_rg hI))))
                                            · rw [if_neg y21]
                                              by_cases y22 : x4 = 22
                                              · rw [if_pos y22]
                                                exact (cI_dn (cI_pl (cI_rg hI)))
                                              · rw [if_neg y22]
                                                by_cases y23 : x4 = 23
                                                · rw [if_pos y23]
                                                  exact (cI_dn (cI_pl (cI_rg hI)))
                                                · rw [if_neg y23]
                                                  by_cases y24 : x4 = 24
                                                  · rw [if_pos y24]
                                                    exact (cI_dn (cI_pl (cI_rg hI)))
                                                  · rw [if_neg y24]
                                                    exact (cI_dn (cI_pl (cI_rg hI)))
theorem cI_doWord {k : CK} {M : Mem} {i : Nat} (hI : cI k M) : cI k (f_X3_doWord k M i) := by
  unfold f_X3_doWord
  exact cI_dw hI
/-- by program: the loop at 2 of RobotWorld.tick -/
def f_X3_tick_L2 (k : CK)  : Nat → Int32 → Mem → Mem
  | 0, _, M => M
  | n + 1, x, M =>
    if (nI (k.2.1 0)) ≤ x then
      M
    else
      f_X3_tick_L2 k n (x + 1) (f_X2_sleepOn k M x.toNatClampNeg)
set_option maxHeartbeats 4000000 in
set_option maxRecDepth 100000 in
theorem lp_X3_tick_L2 {p : Program} {l : Launch} {e : Env} {s : State} {m : MethodId} {args : Array Value} {below : List Frame} {meth : Method} {c : Code} {Q : State → Prop} (k : CK)   (hx : p.tables.exec = Jvm.exec) (hb : c.code = cX3_tick) (hr : meth.sig.returnType = (some .int)) (hml : c.maxLocals = 2) (hts : ∀ x ∈ wsX3_tick, x.before args s = true) (hown : s.vm.findClass RX3 = some m.cls) (hlocks : meth.locks = false) (hK : va_K (wD (cw k)) vwCl (wT (cw k)) s) {M0 : Mem} (hD : va_D (wA (cw k)) (wW (cw k) M0)) (hZ : wZ (cw k) (wA (cw k)) s s.heap)  : ∀ (n : Nat) (x : Int32) (M : Mem) (H : Heap) (locs : List Loc) (ls : Array Slot), cI k M ∧ lpI (k.2.1 0) n x → wP (cw k) M H → va_S (wA (cw k)) s.heap H locs → lv_has ls 2 [(1, .int x), (0, .ref (k.1 0 0))] → (∀ (H : Heap) (locs : List Loc) (ls : Array Slot), wP (cw k) (f_X3_tick_L2 k n x M) H → va_S (wA (cw k)) s.heap H locs → lv_has ls 2 [(0, .ref (k.1 0 0))] → W p l e (rmK 5 134) s m args below meth c H locs 0 0 Q (F0 m 26 ls [])) → W p l e (rmK 5 134) s m args below meth c H locs 0 0 Q (F0 m 2 ls []) := by
  have hiX3 : ∀ x ∈ u_ws RX3 TX3 4, x ∈ wsX3_tick := by decide +kernel
  have hf24 := hts (.fieldLink RX3 24 "RobotWorld" "robots" "[LRobotWorld$Robot;") (by decide +kernel)
  intro n
  induction n with
  | zero =>
    intro x M H locs ls hinv
    exact absurd hinv (fun h => lpI_z h.2)
  | succ n ih =>
    intro x M H locs ls hinv hP hS hl kk
    refine lv_iload_n hx hb dX3_tick_2 rfl (lv_at hl 0 rfl) ?_
    refine lv_aload_n hx hb dX3_tick_3 rfl (lv_at hl 1 rfl) ?_
    refine wx_get (w := (cw k)) (g := 0) (j := 0) hx hb hts hiX3 hown hK hP (cIx_0 (by decide)) rfl rfl 1 (by decide) hf24 rfl dX3_tick_4 ?_
    refine wx_alen (w := (cw k)) (g := 0) (j := 5) hx hb hK hP (cIx_0 (by decide)) 1 rfl rfl dX3_tick_7 ?_
    refine lv_icmp_ge (tgt := 26) hx hb dX3_tick_8 (by decide) (fun c_8 => ?_) (fun c_8 => ?_)
    · have e9 : f_X3_tick_L2 k (n + 1) x M = M := (by rw [f_X3_tick_L2]; rw [if_pos c_8])
      rw [e9] at kk
      exact kk _ _ ls hP hS (lv_sub hl [1] rfl)
    · refine lv_aload_n hx hb dX3_tick_11 rfl (lv_at hl 1 rfl) ?_
      refine wx_get (w := (cw k)) (g := 0) (j := 0) hx hb hts hiX3 hown hK hP (cIx_0 (by decide)) rfl rfl 1 (by decide) hf24 rfl dX3_tick_12 ?_
      refine lv_iload_n hx hb dX3_tick_15 rfl (lv_at hl 0 rfl) ?_
      refine wx_aald (w := (cw k)) (g := 0) (j := 5) hx hb hK hP (cIx_0 (by decide)) 1 rfl rfl (lpI_in hinv.2 c_8 (cI_n hinv.1)) rfl dX3_tick_16 ?_
      refine wx_Vv (w := (cw k)) (f_X2_sleepOn k M x.toNatClampNeg) [] [] (cZok k) ⟨hx, hb, hml, hown, hts⟩ (c_X2_sleepOn l k M x.toNatClampNeg ((vp_lt (lpI_in hinv.2 c_8 (cI_n hinv.1)))) ) (cwV 0 hts gX3_tick_X2_sleepOn rfl rfl rfl (by decide +kernel) ⟨by decide, by decide⟩) (wx_recv (w := (cw k)) (g := (x.toNatClampNeg + 1)) (j := 0) hK hP (cIx_r (vp_lt (lpI_in hinv.2 c_8 (cI_n hinv.1))) (by decide)) rfl rfl) hP hK hD hZ hS rfl hl.1 rfl (Nat.le_of_ble_eq_true rfl) dX3_tick_17 ⟨by decide, by decide⟩ (fun H locs hP hS => ?_)
      refine lv_iinc (v := (x + 1)) (lv' := [(1, .int (x + 1)), (0, .ref (k.1 0 0))]) hx hb dX3_tick_20 hl (k := 0) rfl rfl (by decide) rfl (fun ls hl => ?_)
      refine lv_goto (tgt := 2) hx hb dX3_tick_23 (by decide) ?_
      have e9 : f_X3_tick_L2 k (n + 1) x M = f_X3_tick_L2 k n (x + 1) (f_X2_sleepOn k M x.toNatClampNeg) := (by rw [f_X3_tick_L2]; rw [if_neg c_8])
      exact ih (x + 1) (f_X2_sleepOn k M x.toNatClampNeg) _ _ ls (⟨cI_sleepOn hinv.1, lpI_s hinv.2 c_8 (cI_n hinv.1)⟩) hP hS (lv_sub hl [0, 1] rfl) (by rw [e9] at kk; exact kk)
theorem cI_tL {k : CK} : ∀ (n : Nat) (x : Int32) (M : Mem), cI k M → cI k (f_X3_tick_L2 k n x M) := by
  intro n
  induction n with
  | zero => intro x M hI; exact hI
  | succ n ih =>
    intro x M hI
    unfold f_X3_tick_L2
    split
    · exact hI
    · exact ih _ _ (cI_sleepOn hI)
/-- by program, from the bytecode of RobotWorld.tick -/
def f_X3_tick (k : CK) (M : Mem)  : Int32 × Mem :=
  match (f_X3_nextReady k (f_X3_tick_L2 k (k.2.1 0 + 1) 0 M)) with
  | none =>
    ((-1), (mu (f_X3_tick_L2 k (k.2.1 0 + 1) 0 M) 0 0 2 (((f_X3_tick_L2 k (k.2.1 0 + 1) 0 M) 0 0 2) + 1)))
  | some i_27 =>
    if (f_X2_mustFail k (mu (f_X3_tick_L2 k (k.2.1 0 + 1) 0 M) 0 0 3 ((f_X3_tick_L2 k (k.2.1 0 + 1) 0 M) (i_27 + 1) 0 0)) i_27) = 0 then
      (((mu (f_X3_doWord k (mu (f_X3_tick_L2 k (k.2.1 0 + 1) 0 M) 0 0 3 ((f_X3_tick_L2 k (k.2.1 0 + 1) 0 M) (i_27 + 1) 0 0)) i_27) 0 0 2 (((f_X3_doWord k (mu (f_X3_tick_L2 k (k.2.1 0 + 1) 0 M) 0 0 3 ((f_X3_tick_L2 k (k.2.1 0 + 1) 0 M) (i_27 + 1) 0 0)) i_27) 0 0 2) + 1)) (i_27 + 1) 0 0), (mu (f_X3_doWord k (mu (f_X3_tick_L2 k (k.2.1 0 + 1) 0 M) 0 0 3 ((f_X3_tick_L2 k (k.2.1 0 + 1) 0 M) (i_27 + 1) 0 0)) i_27) 0 0 2 (((f_X3_doWord k (mu (f_X3_tick_L2 k (k.2.1 0 + 1) 0 M) 0 0 3 ((f_X3_tick_L2 k (k.2.1 0 + 1) 0 M) (i_27 + 1) 0 0)) i_27) 0 0 2) + 1)))
    else
      (((mu (mu (mu (f_X3_tick_L2 k (k.2.1 0 + 1) 0 M) 0 0 3 ((f_X3_tick_L2 k (k.2.1 0 + 1) 0 M) (i_27 + 1) 0 0)) (i_27 + 1) 0 4 6) 0 0 2 (((mu (mu (f_X3_tick_L2 k (k.2.1 0 + 1) 0 M) 0 0 3 ((f_X3_tick_L2 k (k.2.1 0 + 1) 0 M) (i_27 + 1) 0 0)) (i_27 + 1) 0 4 6) 0 0 2) + 1)) (i_27 + 1) 0 0), (mu (mu (mu (f_X3_tick_L2 k (k.2.1 0 + 1) 0 M) 0 0 3 ((f_X3_tick_L2 k (k.2.1 0 + 1) 0 M) (i_27 + 1) 0 0)) (i_27 + 1) 0 4 6) 0 0 2 (((mu (mu (f_X3_tick_L2 k (k.2.1 0 + 1) 0 M) 0 0 3 ((f_X3_tick_L2 k (k.2.1 0 + 1) 0 M) (i_27 + 1) 0 0)) (i_27 + 1) 0 4 6) 0 0 2) + 1)))
set_option maxHeartbeats 4000000 in
set_option maxRecDepth 100000 in
theorem c_X3_tick (l : Launch) (k : CK) (M : Mem)  (hI : cI k M) : Met l yX3_tick wsX3_tick (rmK 5 134) (wPc (cw k) M [.ref (k.1 0 0)]) (wQi (cw k) (fun r u => r = (f_X3_tick k M).1 ∧ u = (f_X3_tick k M).2)) 0 0 (wA (cw k)) := by
  refine wx_met (cc := cX3_tick) (maxL := 2) (ret := (some .int)) (by decide) rfl (Nat.le_of_ble_eq_true rfl) ?_
  intro p e s m below meth c ls hx hb hr hml hts hown hlocks hP hK hD hZ hS hl
  have hown : s.vm.findClass RX3 = some m.cls := hown
  have hl : lv_has ls 2 [(0, .ref (k.1 0 0))] := hl
  have hiX2 : ∀ x ∈ u_ws RX2 TX2 12, x ∈ wsX3_tick := by decide +kernel
  have hiX3 : ∀ x ∈ u_ws RX3 TX3 4, x ∈ wsX3_tick := by decide +kernel
  have hf52 := hts (.fieldLink RX3 52 "RobotWorld$Robot" "state" "I") (by decide +kernel)
  have hf74 := hts (.fieldLink RX3 74 "RobotWorld$Robot" "number" "I") (by decide +kernel)
  have hf77 := hts (.fieldLink RX3 77 "RobotWorld" "lastRan" "I") (by decide +kernel)
  have hf88 := hts (.fieldLink RX3 88 "RobotWorld" "clock" "I") (by decide +kernel)
  refine lv_iconst (v := 0) hx hb dX3_tick_0 (by decide) ?_
  refine lv_istore_n (lv' := [(1, .int 0), (0, .ref (k.1 0 0))]) hx hb dX3_tick_1 rfl hl (by decide) rfl (fun ls hl => ?_)
  refine lp_X3_tick_L2 k hx hb hr hml hts hown hlocks hK hD hZ (k.2.1 0 + 1) 0 M _ _ ls (⟨hI, lpI_i _⟩) hP hS (lv_sub hl [0, 1] rfl) (fun H locs ls hP hS hl => ?_)
  refine lv_aload_n hx hb dX3_tick_26 rfl (lv_at hl 0 rfl) ?_
  refine wx_Vq (w := (cw k)) (f_X3_nextReady k (f_X3_tick_L2 k (k.2.1 0 + 1) 0 M)) [] [] (cZok k) ⟨hx, hb, hml, hown, hts⟩ (c_X3_nextReady l k (f_X3_tick_L2 k (k.2.1 0 + 1) 0 M)  (cI_tL _ _ M hI)) (cwV 0 hts gX3_tick_X3_nextReady rfl rfl rfl (by decide +kernel) ⟨by decide, by decide⟩) (wx_recv (w := (cw k)) (g := 0) (j := 0) hK hP (cIx_0 (by decide)) rfl rfl) hP hK hD hZ hS rfl hl.1 rfl (Nat.le_of_ble_eq_true rfl) dX3_tick_27 ⟨by decide, by decide⟩ (fun H locs q_27 hP hS => ?_) (fun i_27 H locs q_27 hP hS => ?_)
  · refine lv_astore_nN (lv' := [(1, .null), (0, .ref (k.1 0 0))]) hx hb dX3_tick_30 rfl hl (by decide) rfl (fun ls hl => ?_)
    refine lv_aload_nN hx hb dX3_tick_31 rfl (lv_at hl 0 rfl) ?_
    refine lv_ifnullN (tgt := 64) hx hb dX3_tick_32 (by decide) ?_
    refine lv_aload_n hx hb dX3_tick_64 rfl (lv_at hl 1 rfl) ?_
    refine lv_dup hx hb dX3_tick_65 rfl ?_
    refine wx_get (w := (cw k)) (g := 0) (j := 0) hx hb hts hiX3 hown hK hP (cIx_0 (by decide)) rfl rfl 2 (by decide) hf88 rfl dX3_tick_66 ?_
    refine lv_iconst (v := 1) hx hb dX3_tick_69 (by decide) ?_
    refine lv_iadd hx hb dX3_tick_70 ?_
    refine wx_put (w := (cw k)) (g := 0) (j := 0) hx hb hts hiX3 tyX3 tyX3_ok nmX3 hown hK hP hD hS (cIx_0 (by decide)) rfl rfl 2 (by decide) hf88 rfl (by decide +kernel) rfl (Nat.le_of_ble_eq_true rfl) dX3_tick_71 (fun H locs hP hS => ?_)
    refine lv_aload_nN hx hb dX3_tick_74 rfl (lv_at hl 0 rfl) ?_
    refine lv_ifnonnullN hx hb dX3_tick_75 ?_
    refine lv_iconst (v := (-1)) hx hb dX3_tick_78 (by decide) ?_
    refine lv_goto (tgt := 86) hx hb dX3_tick_79 (by decide) ?_
    have e9 : f_X3_tick k M = ((-1), (mu (f_X3_tick_L2 k (k.2.1 0 + 1) 0 M) 0 0 2 (((f_X3_tick_L2 k (k.2.1 0 + 1) 0 M) 0 0 2) + 1))) := (by unfold f_X3_tick; simp only [q_27])
    exact wx_iret hx hb hr hlocks hP hS rfl ⟨by rw [e9], by rw [e9]⟩ dX3_tick_86
  · refine lv_astore_n (lv' := [(1, .ref (k.1 (i_27 + 1) 0)), (0, .ref (k.1 0 0))]) hx hb dX3_tick_30 rfl hl (by decide) rfl (fun ls hl => ?_)
    refine lv_aload_n hx hb dX3_tick_31 rfl (lv_at hl 0 rfl) ?_
    refine lv_ifnull hx hb dX3_tick_32 ?_
    refine lv_aload_n hx hb dX3_tick_35 rfl (lv_at hl 1 rfl) ?_
    refine lv_aload_n hx hb dX3_tick_36 rfl (lv_at hl 0 rfl) ?_
    refine wx_get (w := (cw k)) (g := (i_27 + 1)) (j := 0) hx hb hts hiX2 hown hK hP (cIx_r (nextReady_lt (cI_tL _ _ M hI) q_27) (by decide)) rfl rfl 0 (by decide) hf74 rfl dX3_tick_37 ?_
    refine wx_put (w := (cw k)) (g := 0) (j := 0) hx hb hts hiX3 tyX3 tyX3_ok nmX3 hown hK hP hD hS (cIx_0 (by decide)) rfl rfl 3 (by decide) hf77 rfl (by decide +kernel) rfl (Nat.le_of_ble_eq_true rfl) dX3_tick_40 (fun H locs hP hS => ?_)
    refine lv_aload_n hx hb dX3_tick_43 rfl (lv_at hl 0 rfl) ?_
    refine wx_Vi (w := (cw k)) (f_X2_mustFail k (mu (f_X3_tick_L2 k (k.2.1 0 + 1) 0 M) 0 0 3 ((f_X3_tick_L2 k (k.2.1 0 + 1) 0 M) (i_27 + 1) 0 0)) i_27) (mu (f_X3_tick_L2 k (k.2.1 0 + 1) 0 M) 0 0 3 ((f_X3_tick_L2 k (k.2.1 0 + 1) 0 M) (i_27 + 1) 0 0)) [] [] (cZok k) ⟨hx, hb, hml, hown, hts⟩ (c_X2_mustFail l k (mu (f_X3_tick_L2 k (k.2.1 0 + 1) 0 M) 0 0 3 ((f_X3_tick_L2 k (k.2.1 0 + 1) 0 M) (i_27 + 1) 0 0)) i_27 ((nextReady_lt (cI_tL _ _ M hI) q_27)) (cI_mu (cI_tL _ _ M hI) (by omega) (by omega) (by omega))) (cwV 0 hts gX3_tick_X2_mustFail rfl rfl rfl (by decide +kernel) ⟨by decide, by decide⟩) (wx_recv (w := (cw k)) (g := (i_27 + 1)) (j := 0) hK hP (cIx_r (nextReady_lt (cI_tL _ _ M hI) q_27) (by decide)) rfl rfl) hP hK hD hZ hS rfl hl.1 rfl (Nat.le_of_ble_eq_true rfl) dX3_tick_44 ⟨by decide, by decide⟩ (fun H locs hP hS => ?_)
    refine lv_if_eq (tgt := 59) hx hb dX3_tick_47 (by decide) (fun c_47 => ?_) (fun c_47 => ?_)
    · refine lv_aload_n hx hb dX3_tick_59 rfl (lv_at hl 1 rfl) ?_
      refine lv_aload_n hx hb dX3_tick_60 rfl (lv_at hl 0 rfl) ?_
      refine wx_Vv (w := (cw k)) (f_X3_doWord k (mu (f_X3_tick_L2 k (k.2.1 0 + 1) 0 M) 0 0 3 ((f_X3_tick_L2 k (k.2.1 0 + 1) 0 M) (i_27 + 1) 0 0)) i_27) [.ref (k.1 (i_27 + 1) 0)] [] (cZok k) ⟨hx, hb, hml, hown, hts⟩ (c_X3_doWord l k (mu (f_X3_tick_L2 k (k.2.1 0 + 1) 0 M) 0 0 3 ((f_X3_tick_L2 k (k.2.1 0 + 1) 0 M) (i_27 + 1) 0 0)) i_27 ((nextReady_lt (cI_tL _ _ M hI) q_27)) (cI_mu (cI_tL _ _ M hI) (by omega) (by omega) (by omega)) c_47) (cwV 1 hts gX3_tick_X3_doWord rfl rfl rfl (by decide +kernel) ⟨by decide, by decide⟩) (wx_recv (w := (cw k)) (g := 0) (j := 0) hK hP (cIx_0 (by decide)) rfl rfl) hP hK hD hZ hS rfl hl.1 rfl (Nat.le_of_ble_eq_true rfl) dX3_tick_61 ⟨by decide, by decide⟩ (fun H locs hP hS => ?_)
      refine lv_aload_n hx hb dX3_tick_64 rfl (lv_at hl 1 rfl) ?_
      refine lv_dup hx hb dX3_tick_65 rfl ?_
      refine wx_get (w := (cw k)) (g := 0) (j := 0) hx hb hts hiX3 hown hK hP (cIx_0 (by decide)) rfl rfl 2 (by decide) hf88 rfl dX3_tick_66 ?_
      refine lv_iconst (v := 1) hx hb dX3_tick_69 (by decide) ?_
      refine lv_iadd hx hb dX3_tick_70 ?_
      refine wx_put (w := (cw k)) (g := 0) (j := 0) hx hb hts hiX3 tyX3 tyX3_ok nmX3 hown hK hP hD hS (cIx_0 (by decide)) rfl rfl 2 (by decide) hf88 rfl (by decide +kernel) rfl (Nat.le_of_ble_eq_true rfl) dX3_tick_71 (fun H locs hP hS => ?_)
      refine lv_aload_n hx hb dX3_tick_74 rfl (lv_at hl 0 rfl) ?_
      refine lv_ifnonnull (tgt := 82) hx hb dX3_tick_75 (by decide) ?_
      refine lv_aload_n hx hb dX3_tick_82 rfl (lv_at hl 0 rfl) ?_
      refine wx_get (w := (cw k)) (g := (i_27 + 1)) (j := 0) hx hb hts hiX2 hown hK hP (cIx_r (nextReady_lt (cI_tL _ _ M hI) q_27) (by decide)) rfl rfl 0 (by decide) hf74 rfl dX3_tick_83 ?_
      have e9 : f_X3_tick k M = (((mu (f_X3_doWord k (mu (f_X3_tick_L2 k (k.2.1 0 + 1) 0 M) 0 0 3 ((f_X3_tick_L2 k (k.2.1 0 + 1) 0 M) (i_27 + 1) 0 0)) i_27) 0 0 2 (((f_X3_doWord k (mu (f_X3_tick_L2 k (k.2.1 0 + 1) 0 M) 0 0 3 ((f_X3_tick_L2 k (k.2.1 0 + 1) 0 M) (i_27 + 1) 0 0)) i_27) 0 0 2) + 1)) (i_27 + 1) 0 0), (mu (f_X3_doWord k (mu (f_X3_tick_L2 k (k.2.1 0 + 1) 0 M) 0 0 3 ((f_X3_tick_L2 k (k.2.1 0 + 1) 0 M) (i_27 + 1) 0 0)) i_27) 0 0 2 (((f_X3_doWord k (mu (f_X3_tick_L2 k (k.2.1 0 + 1) 0 M) 0 0 3 ((f_X3_tick_L2 k (k.2.1 0 + 1) 0 M) (i_27 + 1) 0 0)) i_27) 0 0 2) + 1))) := (by unfold f_X3_tick; simp only [q_27]; rw [if_pos c_47])
      exact wx_iret hx hb hr hlocks hP hS rfl ⟨by rw [e9], by rw [e9]⟩ dX3_tick_86
    · refine lv_aload_n hx hb dX3_tick_50 rfl (lv_at hl 0 rfl) ?_
      refine lv_bipush (v := 6) hx hb dX3_tick_51 (by decide) ?_
      refine wx_put (w := (cw k)) (g := (i_27 + 1)) (j := 0) hx hb hts hiX2 tyX2 tyX2_ok nmX2 hown hK hP hD hS (cIx_r (nextReady_lt (cI_tL _ _ M hI) q_27) (by decide)) rfl rfl 4 (by decide) hf52 rfl (by decide +kernel) rfl (Nat.le_of_ble_eq_true rfl) dX3_tick_53 (fun H locs hP hS => ?_)
      refine lv_goto (tgt := 64) hx hb dX3_tick_56 (by decide) ?_
      refine lv_aload_n hx hb dX3_tick_64 rfl (lv_at hl 1 rfl) ?_
      refine lv_dup hx hb dX3_tick_65 rfl ?_
      refine wx_get (w := (cw k)) (g := 0) (j := 0) hx hb hts hiX3 hown hK hP (cIx_0 (by decide)) rfl rfl 2 (by decide) hf88 rfl dX3_tick_66 ?_
      refine lv_iconst (v := 1) hx hb dX3_tick_69 (by decide) ?_
      refine lv_iadd hx hb dX3_tick_70 ?_
      refine wx_put (w := (cw k)) (g := 0) (j := 0) hx hb hts hiX3 tyX3 tyX3_ok nmX3 hown hK hP hD hS (cIx_0 (by decide)) rfl rfl 2 (by decide) hf88 rfl (by decide +kernel) rfl (Nat.le_of_ble_eq_true rfl) dX3_tick_71 (fun H locs hP hS => ?_)
      refine lv_aload_n hx hb dX3_tick_74 rfl (lv_at hl 0 rfl) ?_
      refine lv_ifnonnull (tgt := 82) hx hb dX3_tick_75 (by decide) ?_
      refine lv_aload_n hx hb dX3_tick_82 rfl (lv_at hl 0 rfl) ?_
      refine wx_get (w := (cw k)) (g := (i_27 + 1)) (j := 0) hx hb hts hiX2 hown hK hP (cIx_r (nextReady_lt (cI_tL _ _ M hI) q_27) (by decide)) rfl rfl 0 (by decide) hf74 rfl dX3_tick_83 ?_
      have e9 : f_X3_tick k M = (((mu (mu (mu (f_X3_tick_L2 k (k.2.1 0 + 1) 0 M) 0 0 3 ((f_X3_tick_L2 k (k.2.1 0 + 1) 0 M) (i_27 + 1) 0 0)) (i_27 + 1) 0 4 6) 0 0 2 (((mu (mu (f_X3_tick_L2 k (k.2.1 0 + 1) 0 M) 0 0 3 ((f_X3_tick_L2 k (k.2.1 0 + 1) 0 M) (i_27 + 1) 0 0)) (i_27 + 1) 0 4 6) 0 0 2) + 1)) (i_27 + 1) 0 0), (mu (mu (mu (f_X3_tick_L2 k (k.2.1 0 + 1) 0 M) 0 0 3 ((f_X3_tick_L2 k (k.2.1 0 + 1) 0 M) (i_27 + 1) 0 0)) (i_27 + 1) 0 4 6) 0 0 2 (((mu (mu (f_X3_tick_L2 k (k.2.1 0 + 1) 0 M) 0 0 3 ((f_X3_tick_L2 k (k.2.1 0 + 1) 0 M) (i_27 + 1) 0 0)) (i_27 + 1) 0 4 6) 0 0 2) + 1))) := (by unfold f_X3_tick; simp only [q_27]; rw [if_neg c_47])
      exact wx_iret hx hb hr hlocks hP hS rfl ⟨by rw [e9], by rw [e9]⟩ dX3_tick_86
theorem cI_tick {k : CK} {M : Mem} (hI : cI k M) : cI k (f_X3_tick k M).2 := by
  have h1 := cI_tL (k := k) (k.2.1 0 + 1) 0 M hI
  unfold f_X3_tick
  split
  · exact cI_mu h1 (by omega) (by omega) (by omega)
  · split
    · exact cI_mu (cI_doWord (cI_mu h1 (by omega) (by omega) (by omega))) (by omega) (by omega) (by omega)
    · exact cI_mu (cI_mu (cI_mu h1 (by omega) (by omega) (by omega)) (by omega) (by omega) (by omega)) (by omega) (by omega) (by omega)
/-- by program: the loop at 18 of RobotWorld.runTicks -/
def f_X3_runTicks_L18 (k : CK) (p1 : Int32) : Nat → Int32 → Int32 → Mem → Int32 × Mem
  | 0, _, _, M => (0, M)
  | n + 1, y, x, M =>
    if p1 ≤ x then
      (y, M)
    else
      if (f_X3_tick k M).1 = (-1) then
        f_X3_runTicks_L18 k p1 n y (x + 1) (f_X3_tick k M).2
      else
        f_X3_runTicks_L18 k p1 n (y + 1) (x + 1) (f_X3_tick k M).2
set_option maxHeartbeats 4000000 in
set_option maxRecDepth 100000 in
theorem lp_X3_runTicks_L18 {p : Program} {l : Launch} {e : Env} {s : State} {m : MethodId} {args : Array Value} {below : List Frame} {meth : Method} {c : Code} (k : CK) (p1 : Int32)  (hx : p.tables.exec = Jvm.exec) (hb : c.code = cX3_runTicks) (hr : meth.sig.returnType = (some .int)) (hml : c.maxLocals = 4) (hts : ∀ x ∈ wsX3_runTicks, x.before args s = true) (hown : s.vm.findClass RX3 = some m.cls) (hlocks : meth.locks = false) (hK : va_K (wD (cw k)) vwCl (wT (cw k)) s) {M0 : Mem} (hD : va_D (wA (cw k)) (wW (cw k) M0)) (hZ : wZ (cw k) (wA (cw k)) s s.heap)  : ∀ (n : Nat) (y : Int32) (x : Int32) (M : Mem) (H : Heap) (locs : List Loc) (ls : Array Slot), cI k M ∧ lpQ p1 n x → wP (cw k) M H → va_S (wA (cw k)) s.heap H locs → lv_has ls 4 [(3, .int x), (2, .int y), (0, .ref (k.1 0 0)), (1, .int p1)] → ∀ (post : Int32 → Mem → Prop), post (f_X3_runTicks_L18 k p1 n y x M).1 (f_X3_runTicks_L18 k p1 n y x M).2 → W p l e (rmK 6 155) s m args below meth c H locs 0 0 (MQ below (wQi (cw k) post) args s 0 0 (wA (cw k))) (F0 m 18 ls []) := by
  intro n
  induction n with
  | zero =>
    intro y x M H locs ls hinv
    exact absurd hinv (fun h => lpQ_z h.2)
  | succ n ih =>
    intro y x M H locs ls hinv hP hS hl post hpo
    refine lv_iload_n hx hb dX3_runTicks_18 rfl (lv_at hl 0 rfl) ?_
    refine lv_iload_n hx hb dX3_runTicks_19 rfl (lv_at hl 3 rfl) ?_
    refine lv_icmp_ge (tgt := 40) hx hb dX3_runTicks_20 (by decide) (fun c_20 => ?_) (fun c_20 => ?_)
    · refine lv_iload_n hx hb dX3_runTicks_40 rfl (lv_at hl 1 rfl) ?_
      have e9 : f_X3_runTicks_L18 k p1 (n + 1) y x M = (y, M) := (by rw [f_X3_runTicks_L18]; rw [if_pos c_20])
      exact wx_iret hx hb hr hlocks hP hS rfl (by rw [e9] at hpo; exact hpo) dX3_runTicks_41
    · refine lv_aload_n hx hb dX3_runTicks_23 rfl (lv_at hl 2 rfl) ?_
      refine wx_Vi (w := (cw k)) ((f_X3_tick k M).1) ((f_X3_tick k M).2) [] [] (cZok k) ⟨hx, hb, hml, hown, hts⟩ (c_X3_tick l k M  hinv.1) (cwV 0 hts gX3_runTicks_X3_tick rfl rfl rfl (by decide +kernel) ⟨by decide, by decide⟩) (wx_recv (w := (cw k)) (g := 0) (j := 0) hK hP (cIx_0 (by decide)) rfl rfl) hP hK hD hZ hS rfl hl.1 rfl (Nat.le_of_ble_eq_true rfl) dX3_runTicks_24 ⟨by decide, by decide⟩ (fun H locs hP hS => ?_)
      refine lv_iconst (v := (-1)) hx hb dX3_runTicks_27 (by decide) ?_
      refine lv_icmp_eq (tgt := 34) hx hb dX3_runTicks_28 (by decide) (fun c_28 => ?_) (fun c_28 => ?_)
      · refine lv_iinc (v := (x + 1)) (lv' := [(3, .int (x + 1)), (2, .int y), (0, .ref (k.1 0 0)), (1, .int p1)]) hx hb dX3_runTicks_34 hl (k := 0) rfl rfl (by decide) rfl (fun ls hl => ?_)
        refine lv_goto (tgt := 18) hx hb dX3_runTicks_37 (by decide) ?_
        have e9 : f_X3_runTicks_L18 k p1 (n + 1) y x M = f_X3_runTicks_L18 k p1 n y (x + 1) (f_X3_tick k M).2 := (by rw [f_X3_runTicks_L18]; rw [if_neg c_20, if_pos c_28])
        exact ih y (x + 1) (f_X3_tick k M).2 _ _ ls (⟨cI_tick hinv.1, lpQ_s hinv.2 c_20⟩) hP hS (lv_sub hl [0, 1, 2, 3] rfl) _ (by rw [e9] at hpo; exact hpo)
      · refine lv_iinc (v := (y + 1)) (lv' := [(2, .int (y + 1)), (3, .int x), (0, .ref (k.1 0 0)), (1, .int p1)]) hx hb dX3_runTicks_31 hl (k := 1) rfl rfl (by decide) rfl (fun ls hl => ?_)
        refine lv_iinc (v := (x + 1)) (lv' := [(3, .int (x + 1)), (2, .int (y + 1)), (0, .ref (k.1 0 0)), (1, .int p1)]) hx hb dX3_runTicks_34 hl (k := 1) rfl rfl (by decide) rfl (fun ls hl => ?_)
        refine lv_goto (tgt := 18) hx hb dX3_runTicks_37 (by decide) ?_
        have e9 : f_X3_runTicks_L18 k p1 (n + 1) y x M = f_X3_runTicks_L18 k p1 n (y + 1) (x + 1) (f_X3_tick k M).2 := (by rw [f_X3_runTicks_L18]; rw [if_neg c_20, if_neg c_28])
        exact ih (y + 1) (x + 1) (f_X3_tick k M).2 _ _ ls (⟨cI_tick hinv.1, lpQ_s hinv.2 c_20⟩) hP hS (lv_sub hl [0, 1, 2, 3] rfl) _ (by rw [e9] at hpo; exact hpo)
/-- by program, from the bytecode of RobotWorld.runTicks -/
def f_X3_runTicks (k : CK) (M : Mem) (p1 : Int32) : Int32 × Mem :=
  if p1 < 0 then
    ((-2), M)
  else
    if p1 ≤ 10000 then
      f_X3_runTicks_L18 k p1 (p1.toNatClampNeg + 1) 0 0 M
    else
      ((-2), M)
set_option maxHeartbeats 4000000 in
set_option maxRecDepth 100000 in
theorem c_X3_runTicks (l : Launch) (k : CK) (M : Mem) (p1 : Int32) (hI : cI k M) : Met l yX3_runTicks wsX3_runTicks (rmK 6 155) (wPc (cw k) M [.ref (k.1 0 0), .int p1]) (wQi (cw k) (fun r u => r = (f_X3_runTicks k M p1).1 ∧ u = (f_X3_runTicks k M p1).2)) 0 0 (wA (cw k)) := by
  refine wx_met (cc := cX3_runTicks) (maxL := 4) (ret := (some .int)) (by decide) rfl (Nat.le_of_ble_eq_true rfl) ?_
  intro p e s m below meth c ls hx hb hr hml hts hown hlocks hP hK hD hZ hS hl
  have hown : s.vm.findClass RX3 = some m.cls := hown
  have hl : lv_has ls 4 [(0, .ref (k.1 0 0)), (1, .int p1)] := hl
  refine lv_iload_n hx hb dX3_runTicks_0 rfl (lv_at hl 1 rfl) ?_
  refine lv_if_lt (tgt := 11) hx hb dX3_runTicks_1 (by decide) (fun c_1 => ?_) (fun c_1 => ?_)
  · refine lv_bipush (v := (-2)) hx hb dX3_runTicks_11 (by decide) ?_
    have e9 : f_X3_runTicks k M p1 = ((-2), M) := (by unfold f_X3_runTicks; rw [if_pos c_1])
    exact wx_iret hx hb hr hlocks hP hS rfl ⟨by rw [e9], by rw [e9]⟩ dX3_runTicks_13
  · refine lv_iload_n hx hb dX3_runTicks_4 rfl (lv_at hl 1 rfl) ?_
    refine lv_sipush (v := 10000) hx hb dX3_runTicks_5 (by decide) ?_
    refine lv_icmp_le (tgt := 14) hx hb dX3_runTicks_8 (by decide) (fun c_8 => ?_) (fun c_8 => ?_)
    · refine lv_iconst (v := 0) hx hb dX3_runTicks_14 (by decide) ?_
      refine lv_istore_n (lv' := [(2, .int 0), (0, .ref (k.1 0 0)), (1, .int p1)]) hx hb dX3_runTicks_15 rfl hl (by decide) rfl (fun ls hl => ?_)
      refine lv_iconst (v := 0) hx hb dX3_runTicks_16 (by decide) ?_
      refine lv_istore_n (lv' := [(3, .int 0), (2, .int 0), (0, .ref (k.1 0 0)), (1, .int p1)]) hx hb dX3_runTicks_17 rfl hl (by decide) rfl (fun ls hl => ?_)
      have e9 : f_X3_runTicks k M p1 = f_X3_runTicks_L18 k p1 (p1.toNatClampNeg + 1) 0 0 M := (by unfold f_X3_runTicks; rw [if_neg c_1, if_pos c_8])
      exact lp_X3_runTicks_L18 k p1 hx hb hr hml hts hown hlocks hK hD hZ (p1.toNatClampNeg + 1) 0 0 M _ _ ls (⟨hI, lpQ_i _⟩) hP hS (lv_sub hl [0, 1, 2, 3] rfl) _ ⟨by rw [e9], by rw [e9]⟩
    · refine lv_bipush (v := (-2)) hx hb dX3_runTicks_11 (by decide) ?_
      have e9 : f_X3_runTicks k M p1 = ((-2), M) := (by unfold f_X3_runTicks; rw [if_neg c_1, if_neg c_8])
      exact wx_iret hx hb hr hlocks hP hS rfl ⟨by rw [e9], by rw [e9]⟩ dX3_runTicks_13
