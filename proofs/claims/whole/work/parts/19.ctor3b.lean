theorem cZ_n {k : CK} {A B : Nat → Prop} {U : State} {H : Heap} (hAB : ∀ q, B q → A q) (h : cZ k A U H) : cZ k B U H := by
  obtain ⟨a1, a2, a3, a4, a5, a6, a7, a8, a9⟩ := h
  exact ⟨a1.narrow hAB, a2.narrow hAB, a3.narrow hAB, a4.narrow hAB, a5, a6, a7, a8, a9⟩
abbrev rmX3 : Room := { frames := 5, cells := 45, slots := 4190, locals := 200 }
abbrev robF : List Value := [.int 0, .null, .null, .null, .int 0, .int 0, .int 0, .int 0, .int 0, .int 0, .int 0, .int 0]
set_option maxHeartbeats 4000000 in
set_option maxRecDepth 100000 in
theorem lp_X3_init {p : Program} {l : Launch} {e : Env} {s : State} {m : MethodId} {args : Array Value} {below : List Frame} {meth : Method} {c : Code} {A : Nat → Prop} (D : va_G) (yI yR yZ : ClassId) (h0 : Nat) (z : Nat → Nat) (a b : Nat) (v1 v2 v4 v5 : Int32) (ea : v1 = nI a) (eb : v2 = nI b) (ha : 1 ≤ a ∧ a ≤ 32) (hb0 : 1 ≤ b ∧ b ≤ 32) (hz0 : 1 ≤ z 0 ∧ z 0 ≤ 8) (hz1 : z 1 = a * b) (e2 : v4 = nI (z 2)) (hz2 : 1 ≤ z 2 ∧ z 2 ≤ 100) (e3 : v5 = nI (z 3)) (hz3 : 1 ≤ z 3 ∧ z 3 ≤ 16)
    (hx : p.tables.exec = Jvm.exec) (hb : c.code = cX3_init) (hr : meth.sig.returnType = none) (hml : c.maxLocals = 9) (hts : ∀ x ∈ wsX3_init, x.before args s = true) (hown : s.vm.findClass RX3 = some m.cls) (hlocks : meth.locks = false) (hK : va_K D vwCl (K3 yI yR yZ) s) (hA : ∀ q : Nat, s.heap.size ≤ q → A q) (hZ : cZ (fun _ _ => 0, z, D, yI, yR) A s s.heap) :
    ∀ (n i : Nat) (ad : Nat → Nat → Nat) (H : Heap) (locs : List Loc) (ls : Array Slot), i ≤ z 0 → z 0 < i + n → ad 0 0 = h0 → va_P D vwCl (pool (cIx i) ad (cEp (ad, z, D, yI, yR) i) (c0 v1 v2)) H → va_D A (pool (cIx i) ad (cEp (ad, z, D, yI, yR) i) (c0 v1 v2)) → va_S A s.heap H locs → lv_has ls 9 [(8, .int (nI i)), (7, .int v5), (6, .int v4), (0, .ref h0)] → W p l e rmX3 s m args below meth c H locs (5 + 5 * i) (3086 + 138 * i) (MQ below (va_Qv (fun _ : Nat → Nat → Nat => True) (cAt D yI yR z A h0 (c0 v1 v2)) A) args s 45 4190 A) (F0 m 61 ls []) := by
  have hiX3 : ∀ x ∈ u_ws RX3 TX3 4, x ∈ wsX3_init := by decide +kernel
  have hf24 := hts (.fieldLink RX3 24 "RobotWorld" "robots" "[LRobotWorld$Robot;") (by decide +kernel)
  intro n
  induction n with
  | zero => intro i ad H locs ls h1 h2; exact absurd h2 (by omega)
  | succ n ih =>
    intro i ad H locs ls h1 h2 hh hP hD hS hl
    have hD0 := hD
    rw [← hh] at hl
    refine lv_iload hx hb dX3_init_61 (lv_at hl 0 rfl) ?_
    refine lv_aload_n hx hb dX3_init_63 rfl (lv_at hl 3 rfl) ?_
    refine wx_get (w := (cIx i, ad, cEp (ad, z, D, yI, yR) i, D, K3 yI yR yZ, fun _ _ _ => True)) (g := 0) (j := 0) hx hb hts hiX3 hown hK hP (cIx_0 (by decide)) rfl rfl 1 (by decide) hf24 rfl dX3_init_64 ?_
    refine wx_alen (w := (cIx i, ad, cEp (ad, z, D, yI, yR) i, D, K3 yI yR yZ, fun _ _ _ => True)) (g := 0) (j := 5) hx hb hK hP (cIx_0 (by decide)) 1 rfl rfl dX3_init_67 ?_
    refine lv_icmp_ge (tgt := 97) hx hb dX3_init_68 (by decide) (fun c68 => ?_) (fun c68 => ?_)
    · have c68 : nI (z 0) ≤ nI i := c68
      have hi : i = z 0 := by
        rcases Nat.lt_or_ge i (z 0) with q | q
        · exact absurd c68 (nI_ge q (by omega))
        · omega
      subst hi
      have hPw : wP (cw (ad, z, D, yI, yR)) (c0 v1 v2) H := pool_full hP
      have hDw : va_D A (wW (cw (ad, z, D, yI, yR)) (c0 v1 v2)) := pool_D hD
      refine lv_aload_n hx hb dX3_init_97 rfl (lv_at hl 3 rfl) ?_
      refine ly_Vv (w := cw (ad, z, D, yI, yR)) (f_X3_startOver (ad, z, D, yI, yR) (c0 v1 v2)) [] [] (cZok _) ⟨hx, hb, hml, hown, hts⟩ (c_X3_startOver l (ad, z, D, yI, yR) (c0 v1 v2) (c0_I ea eb ha hb0 hz0 hz1 hz2 hz3)) (cwV 0 hts gX3_init_X3_startOver rfl rfl rfl (by decide +kernel) ⟨by decide, by decide⟩) (wx_recv (w := cw (ad, z, D, yI, yR)) (g := 0) (j := 0) (hK.sub [0, 1] rfl) hPw (cIx_0 (by decide)) rfl rfl) hPw (hK.sub [0, 1] rfl) hDw hZ (fun _ _ h => cZ_n (wA_sub hDw) h) hS rfl hl.1 rfl (Nat.le_of_ble_eq_true rfl) dX3_init_98 ⟨by show 5 + 5 * z 0 ≤ 45; omega, by show 3086 + 138 * z 0 ≤ 4190; omega⟩ (fun H locs hP hD hS _ _ => ?_)
      refine W.widen (k := 45) (n := 4190) (by omega) (by omega) ?_
      exact W.vret hx hb hr (fun t ht _ => ⟨⟨ad, rfl, trivial, hh, by rw [ht]; exact hP, hD⟩, hS.F ht⟩) hS.2.2 dX3_init_101 hlocks
    · have c68 : ¬ nI (z 0) ≤ nI i := c68
      have hi : i < z 0 := by
        rcases Nat.lt_or_ge i (z 0) with q | q
        · exact q
        · exact absurd (nI_le q (by omega)) c68
      refine lv_aload_n hx hb dX3_init_71 rfl (lv_at hl 3 rfl) ?_
      refine wx_get (w := (cIx i, ad, cEp (ad, z, D, yI, yR) i, D, K3 yI yR yZ, fun _ _ _ => True)) (g := 0) (j := 0) hx hb hts hiX3 hown hK hP (cIx_0 (by decide)) rfl rfl 1 (by decide) hf24 rfl dX3_init_72 ?_
      refine lv_iload hx hb dX3_init_75 (lv_at hl 0 rfl) ?_
      refine va_new (ci := 2) (fs := robF) (C := RX2) (T := TX2) (N := 12) hx hb hts (by decide +kernel) tyX2 tyX2_ok hown (hts (.classLink RX3 22 RX2) (by decide +kernel)) (hts (.instantiable RX2 12) (by decide +kernel)) (hts (.initialized RX2) (by decide +kernel)) hK hP hD hS hA rfl (fun j hj => by rcases (show j = 0 ∨ j = 1 ∨ j = 2 ∨ j = 3 ∨ j = 4 ∨ j = 5 ∨ j = 6 ∨ j = 7 ∨ j = 8 ∨ j = 9 ∨ j = 10 ∨ j = 11 by omega) with rfl | rfl | rfl | rfl | rfl | rfl | rfl | rfl | rfl | rfl | rfl | rfl <;> rfl) (by show 5 + 5 * i + 1 ≤ 45; omega) (by show 3086 + 138 * i + 12 ≤ 4190; omega) dX3_init_77 (fun q77 H hP hD hS => ?_)
      refine lv_dup hx hb dX3_init_80 rfl ?_
      refine lv_iload hx hb dX3_init_81 (lv_at hl 0 rfl) ?_
      refine lv_iload hx hb dX3_init_83 (lv_at hl 2 rfl) ?_
      refine lv_iload hx hb dX3_init_85 (lv_at hl 1 rfl) ?_
      refine lx_I (S := Nat × Nat × Nat × Nat) (wr := pool (cIx i) ad (cEp (ad, z, D, yI, yR) i) (c0 v1 v2)) (e0 := .inr (2, robF)) (w1 := fun u => [(q77, .inr (2, [.int (nI i), .ref u.1, .ref u.2.1, .ref u.2.2.1, .int 0, .int 0, .int 0, .int 0, .int 0, .int 0, .int 0, .int 0])), (u.1, .inl (yI, z 2, .inl (fun _ => 0))), (u.2.1, .inl (yI, 8, .inl (fun _ => 0))), (u.2.2.1, .inr (0, [.ref u.2.2.2, .int 0])), (u.2.2.2, .inl (yI, z 3, .inl (fun _ => 0)))]) [.int (nI i), .int v4, .int v5] [.ref q77, .int (nI i), .ref (ad 0 5)] ⟨hx, hb, hml, hown, hts⟩ (c_X2_init l D yI yR yZ q77 H.size (z 2) (z 3) (nI i) v4 v5 e2 hz2.2 e3 hz3.2) (cwI 3 hts gX3_init_X2_init rfl rfl rfl (hts (.initialized RX2) (by decide +kernel)) (hts (.methodLink RX3 28 yX2_init) (by decide +kernel)) (hts (.instanceMethod yX2_init) (by decide +kernel)) rfl (by decide +kernel) ⟨by decide, by decide⟩) hK hP hD hA hS rfl hl.1 rfl (Nat.le_of_ble_eq_true rfl) dX3_init_87 ⟨by show 5 + 5 * i + 1 + 4 ≤ 45; omega, by show 3086 + 138 * i + 12 + 126 ≤ 4190; omega⟩ (fun u H locs hP hD hS => ?_)
      refine va_astq hx hb hK hP hD hS 5 1 (pool (cIx i) ad (cEp (ad, z, D, yI, yR) i) (c0 v1 v2)).length 2 (cA := yR) (r := (RX2, TX2, 12)) (n := z 0) (v := q77) (vs := [.int (nI i), .ref u.1, .ref u.2.1, .ref u.2.2.1, .int 0, .int 0, .int 0, .int 0, .int 0, .int 0, .int 0, .int 0]) (f := fun t => if t < i then some (ad (t + 1) 0) else none) rfl rfl (by rw [List.getElem?_append_right (Nat.le_refl _)]; simp) rfl (vp_in_nI hi (by omega)) dX3_init_90 (fun H locs hP hD hS => ?_)
      obtain ⟨v, hv⟩ : ∃ v : Nat → Nat, v = fun j => if j = 0 then q77 else if j = 1 then u.1 else if j = 2 then u.2.1 else if j = 3 then u.2.2.1 else u.2.2.2 := ⟨_, rfl⟩
      have e6 : va_up (fun t => if t < i then some (ad (t + 1) 0) else none) (nI i).toNatClampNeg (some q77) = fun t => if t < i + 1 then some (adN ad i v (t + 1) 0) else none := by
        rw [nI_clamp (by omega)]
        funext t
        unfold va_up adN
        by_cases ht : t = i
        · subst ht
          simp [hv]
        · rw [if_neg ht]
          dsimp only
          by_cases ht2 : t < i
          · rw [if_pos ht2, if_pos (by omega), if_neg (by omega)]
          · rw [if_neg ht2, if_neg (by omega)]
      have e7 : ([(q77, .inr (2, [.int (nI i), .ref u.1, .ref u.2.1, .ref u.2.2.1, .int 0, .int 0, .int 0, .int 0, .int 0, .int 0, .int 0, .int 0])), (u.1, .inl (yI, z 2, .inl (fun _ => 0))), (u.2.1, .inl (yI, 8, .inl (fun _ => 0))), (u.2.2.1, .inr (0, [.ref u.2.2.2, .int 0])), (u.2.2.2, .inl (yI, z 3, .inl (fun _ => 0)))] : va_W) = [(v 0, cE (adN ad i v, z, D, yI, yR) (i + 1) 0 (c0 v1 v2 (i + 1) 0)), (v 1, cE (adN ad i v, z, D, yI, yR) (i + 1) 1 (c0 v1 v2 (i + 1) 1)), (v 2, cE (adN ad i v, z, D, yI, yR) (i + 1) 2 (c0 v1 v2 (i + 1) 2)), (v 3, cE (adN ad i v, z, D, yI, yR) (i + 1) 3 (c0 v1 v2 (i + 1) 3)), (v 4, cE (adN ad i v, z, D, yI, yR) (i + 1) 4 (c0 v1 v2 (i + 1) 4))] := by
        have r1 : c0 v1 v2 (i + 1) 1 = fun _ => 0 := by funext t; simp [c0]
        have r2 : c0 v1 v2 (i + 1) 2 = fun _ => 0 := by funext t; simp [c0]
        have r4 : c0 v1 v2 (i + 1) 4 = fun _ => 0 := by funext t; simp [c0]
        simp [cE, adN, hv, r1, r2, r4]
        simp [c0]
      have e8 : (.inl (yR, z 0, .inr (.inr (.inr (.inr (fun t => if t < i + 1 then some (adN ad i v (t + 1) 0) else none))))) : va_E) = cEp (adN ad i v, z, D, yI, yR) (i + 1) 0 5 (c0 v1 v2 0 5) := rfl
      simp only [] at hP hD
      rw [e6, e7, e8, pool_step hD0] at hP hD
      refine lv_iinc (v := nI (i + 1)) (lv' := [(8, .int (nI (i + 1))), (7, .int v5), (6, .int v4), (0, .ref (ad 0 0))]) hx hb dX3_init_91 hl (k := 0) rfl (by rw [← nI_1]; rfl) (by decide) rfl (fun ls hl => ?_)
      refine lv_goto (tgt := 61) hx hb dX3_init_94 (by decide) ?_
      rw [hh] at hl
      refine W.widen (k := 5 + 5 * (i + 1)) (n := 3086 + 138 * (i + 1)) (by omega) (by omega) ?_
      exact ih (i + 1) (adN ad i v) _ _ ls (by omega) (by omega) (by unfold adN; rw [if_neg (by omega)]; exact hh) hP hD hS hl

theorem lx_met3 {l : Launch} {y : MethodName} {ws ws' : List Cond} {rm : Room} {D : va_G} {cI cR cZ : ClassId} {sz mc ms : Nat} {w0 : va_W} {av : List Value} {X : State → Prop} {Qc : Array Value → State → Outcome → State → Prop} {cc : ByteArray} {maxL : Nat} {ret : Option FieldType} (hy : plainName y.cls = true) (hw : ws = Cond.code y cc maxL ret :: ws') (hlen : (lg_sl av).length ≤ maxL)
    (body : ∀ (p : Program) (e : Env) (s : State) (m : MethodId) (below : List Frame) (meth : Method) (c : Code) (ls : Array Slot) (A : Nat → Prop), p.tables.exec = Jvm.exec → c.code = cc → meth.sig.returnType = ret → c.maxLocals = maxL → (∀ x ∈ ws, x.before av.toArray s = true) → s.vm.findClass y.cls = some m.cls → meth.locks = false → meth.name = y.name → va_P D vwCl w0 s.heap → va_K D vwCl (K3 cI cR cZ) s → va_D A w0 → (∀ q : Nat, s.heap.size ≤ q → A q) → va_S A s.heap s.heap [] → X s → lv_has ls maxL (lv_args 0 av) → A = va_A w0 sz →
      W p l e rm s m av.toArray below meth c s.heap [] 0 0 (MQ below Qc av.toArray s mc ms A) (F0 m 0 ls [])) : Met l y ws rm (va_Pc av (fun U => lOK D cI cR cZ sz w0 U ∧ X U)) Qc mc ms (va_A w0 sz) := by
  refine Met.ofW (cc := cc) (maxL := maxL) (ret := ret) hy hw ?_
  intro p e s m args below meth c s₁ B hml hv
  obtain ⟨rfl, ⟨hsz, hP, hK, hD⟩, hX⟩ := hv
  have hl := lv_entry av (n := maxL) hlen
  rw [lg_entry_eq]
  exact body p e s m below meth c _ (va_A w0 sz) B.exec B.bytes B.returns hml (atoms_spec (ws := ws) B.pre) (findClass_of_methodNamed B.named) B.notSynchronized (name_of_methodNamed B.named B.method).1 hP hK hD.self (fun q h => Or.inr (by omega)) va_S.rf hX hl rfl
