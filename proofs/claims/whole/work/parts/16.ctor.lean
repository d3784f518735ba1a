/-! CONSTRUCTORS: list worlds; the array classes are known from the start -/
abbrev K3 (cI cR cZ : ClassId) : List (ClassId × FieldType) := [(cI, .int), (cR, .object RX2), (cZ, .boolean)]
def lOK (D : va_G) (cI cR cZ : ClassId) (sz : Nat) (ws : va_W) (U : State) : Prop := U.heap.size = sz ∧ va_P D vwCl ws U.heap ∧ va_K D vwCl (K3 cI cR cZ) U ∧ va_D (fun _ => True) ws
def lAt (D : va_G) (A : Nat → Prop) (ws : va_W) (t : State) : Prop := va_P D vwCl ws t.heap ∧ va_D A ws
/-- a world of nothing -/
abbrev ew (k : CK) : WG := ([], fun _ _ => 0, fun _ _ _ => .inr (0, []), k.2.2.1, [], fun _ _ _ => True)
theorem eZok (k : CK) : wZok (ew k) := ⟨fun _ _ _ _ _ _ => trivial, fun _ _ _ _ _ _ => trivial, fun _ _ _ _ _ _ => trivial⟩
theorem lOK_blind {D : va_G} {cI cR cZ : ClassId} {sz : Nat} {ws : va_W} {av : List Value} : FrameBlind (va_Pc av (lOK D cI cR cZ sz ws)) := by
  intro a U g mk q
  obtain ⟨q0, q1, qP, qK, qD⟩ := q
  exact ⟨q0, q1, qP, va_K.moved (u := U) (U := U.calling g mk a) (Vm.Alike.refl U.vm) qK, qD⟩
theorem lx_met {l : Launch} {y : MethodName} {ws ws' : List Cond} {rm : Room} {D : va_G} {cI cR cZ : ClassId} {sz mc ms : Nat} {w0 : va_W} {av : List Value} {Qc : Array Value → State → Outcome → State → Prop} {cc : ByteArray} {maxL : Nat} {ret : Option FieldType} (hy : plainName y.cls = true) (hw : ws = Cond.code y cc maxL ret :: ws') (hlen : (lg_sl av).length ≤ maxL)
    (body : ∀ (p : Program) (e : Env) (s : State) (m : MethodId) (below : List Frame) (meth : Method) (c : Code) (ls : Array Slot) (A : Nat → Prop), p.tables.exec = Jvm.exec → c.code = cc → meth.sig.returnType = ret → c.maxLocals = maxL → (∀ x ∈ ws, x.before av.toArray s = true) → s.vm.findClass y.cls = some m.cls → meth.locks = false → meth.name = y.name → va_P D vwCl w0 s.heap → va_K D vwCl (K3 cI cR cZ) s → va_D A w0 → (∀ q : Nat, s.heap.size ≤ q → A q) → va_S A s.heap s.heap [] → lv_has ls maxL (lv_args 0 av) → A = va_A w0 sz →
      W p l e rm s m av.toArray below meth c s.heap [] 0 0 (MQ below Qc av.toArray s mc ms A) (F0 m 0 ls [])) : Met l y ws rm (va_Pc av (lOK D cI cR cZ sz w0)) Qc mc ms (va_A w0 sz) := by
  refine Met.ofW (cc := cc) (maxL := maxL) (ret := ret) hy hw ?_
  intro p e s m args below meth c s₁ B hml hv
  obtain ⟨rfl, hsz, hP, hK, hD⟩ := hv
  have hl := lv_entry av (n := maxL) hlen
  rw [lg_entry_eq]
  exact body p e s m below meth c _ (va_A w0 sz) B.exec B.bytes B.returns hml (atoms_spec (ws := ws) B.pre) (findClass_of_methodNamed B.named) B.notSynchronized (name_of_methodNamed B.named B.method).1 hP hK hD.self (fun q h => Or.inr (by omega)) va_S.rf hl rfl
theorem nb4 {N : Nat} (h : N ≤ 1024) : N * componentBytes .int ≤ 536870912 := by
  rw [show componentBytes FieldType.int = 4 from rfl]
  omega
theorem nb1 {N : Nat} (h : N ≤ 1024) : N * componentBytes .boolean ≤ 536870912 := by
  rw [show componentBytes FieldType.boolean = 1 from rfl]
  omega
section LX
variable {p : Program} {l : Launch} {e : Env} {R : Room} {s : State} {m : MethodId} {args : Array Value} {below : List Frame} {meth : Method} {c : Code} {H : Heap} {locs : List Loc} {cells slots : Nat} {Q : State → Prop}
variable {cc : ByteArray} {pc : Nat} {ls : Array Slot} {rest : List Value} {D : va_G} {cl : List vw_C} {A : Nat → Prop} {a : Nat} {tys : List (ClassId × FieldType)} {ws : va_W} {H0 : Heap}
theorem vz_newa (hexec : p.tables.exec = Jvm.exec) (hb : c.code = cc) {atype : ArrayType} (harr : (Cond.arrayClass (newarray.typeOf atype)).before args s = true) {ty : FieldType} (hty : newarray.typeOf atype = ty) (hpr : ty = .int ∨ ty = .boolean) (hK : va_K D cl tys s) {t0 : Nat} {cA : ClassId} (ht : tys[t0]? = some (cA, ty)) (hP : va_P D cl ws H) (hD : va_D A ws) (hS : va_S A H0 H locs) (hA : ∀ q, H0.size ≤ q → A q)
    {n : Int32} {N' : Nat} {a0 : vp_A} (ha : ∀ cA : ClassId, vp_cell cA a0 = arrV cA N' (fun _ => defaultValue ty)) (hn : ¬ n < 0) (hN : n.toNatClampNeg = N') (hbytes : N' * componentBytes ty ≤ 536870912) (hcells : cells + 1 ≤ R.cells) (hslots : slots + N' ≤ R.slots) (hdg : decode cc pc = .ok (.newarray atype, 2))
    (kk : ∀ (q : Nat) (H1 : Heap), va_P D cl (ws ++ [(q, .inl (cA, a0))]) H1 → va_D A (ws ++ [(q, .inl (cA, a0))]) → va_S A H0 H1 locs →
      W p l e R s m args below meth c H1 locs (cells + 1) (slots + N') Q (F0 m (pc + 2) ls (.ref q :: rest))) : W p l e R s m args below meth c H locs cells slots Q (F0 m pc ls (.int n :: rest)) := by
  refine va_newa hexec hb harr hty hK hP hD hS hA ha hn hN hbytes hcells hslots hdg (fun q c1 H1 hK1 hP1 hD1 hS1 => ?_)
  have h1 : (tys ++ [(c1, ty)])[tys.length]? = some (c1, ty) := by simp
  have g1 := (hK1.2 tys.length (c1, ty) h1).2
  have g2 := (hK.2 t0 (cA, ty) ht).2
  have e1 : c1 = cA := by
    rcases hpr with rfl | rfl
    · exact Option.some.inj (Eq.trans (Eq.symm (show s.vm.findClass ("[" ++ FieldType.int.toString) = some c1 from g1)) (show s.vm.findClass ("[" ++ FieldType.int.toString) = some cA from g2))
    · exact Option.some.inj (Eq.trans (Eq.symm (show s.vm.findClass ("[" ++ FieldType.boolean.toString) = some c1 from g1)) (show s.vm.findClass ("[" ++ FieldType.boolean.toString) = some cA from g2))
  subst e1
  exact kk q H1 hP1 hD1 hS1
/-- the cells of a callee stand last -/
theorem va_joinT {A0 : Nat → Prop} {wc wr w1 : va_W} {H1 : Heap} (hP : va_P D cl (wr ++ wc) H) (hD : va_D A0 (wr ++ wc)) (hk : ∀ q : Nat, q < H.size → ¬ va_A wc H.size q → H1[q]? = H[q]?) (hF : ∀ q, va_A wc H.size q → A0 q) (hP1 : va_P D cl w1 H1) (hD1 : va_D (va_A wc H.size) w1) : va_P D cl (wr ++ w1) H1 ∧ va_D A0 (wr ++ w1) := by
  have apart : ∀ (k : Nat) (q : Nat × va_E), wr[k]? = some q → q.1 < H.size ∧ ¬ va_A wc H.size q.1 := by
    intro k q hq
    have hk' : k < wr.length := (List.getElem?_eq_some_iff.mp hq).1
    have h1 : (wr ++ wc)[k]? = some q := by rw [List.getElem?_append_left hk']; exact hq
    have hl := (hP k q h1).lt
    refine ⟨hl, fun h => ?_⟩
    rcases h with ⟨k2, e2, h⟩ | h
    · have h2 : (wr ++ wc)[wr.length + k2]? = some (q.1, e2) := by rw [List.getElem?_append_right (by omega)]; simpa using h
      have := hD.1 k (wr.length + k2) q (q.1, e2) h1 h2 rfl
      omega
    · omega
  have hDr : va_D A0 wr := by
    refine ⟨fun i j x y hx hy hxy => ?_, fun k q hq => ?_⟩
    · have hi : i < wr.length := (List.getElem?_eq_some_iff.mp hx).1
      have hj : j < wr.length := (List.getElem?_eq_some_iff.mp hy).1
      exact hD.1 i j x y (by rw [List.getElem?_append_left hi]; exact hx) (by rw [List.getElem?_append_left hj]; exact hy) hxy
    · have hi : k < wr.length := (List.getElem?_eq_some_iff.mp hq).1
      exact hD.2 k q (by rw [List.getElem?_append_left hi]; exact hq)
  refine ⟨va_P.app (fun k q hq => ?_) hP1, va_D.app hDr (hD1.weaken (fun k q _ h => hF q.1 h)) (fun i j x y hx hy hxy => ?_)⟩
  · have hk' : k < wr.length := (List.getElem?_eq_some_iff.mp hq).1
    obtain ⟨g1, g2⟩ := apart k q hq
    exact (hP k q (by rw [List.getElem?_append_left hk']; exact hq)).kept (hk q.1 g1 g2)
  · exact (apart i x hx).2 (by rw [hxy]; exact hD1.2 j y hy)
theorem lx_vret {S : Type} {w1 : S → va_W} (u : S) (hexec : p.tables.exec = Jvm.exec) (hb : c.code = cc) (hr : meth.sig.returnType = none) (hlocks : meth.locks = false) (hP : va_P D vwCl (w1 u) H) (hD : va_D A (w1 u)) (hS : va_S A s.heap H locs) (ht0 : True) (hdg : decode cc pc = .ok (.return_, 1)) : W p l e R s m args below meth c H locs cells slots (MQ below (va_Qv (fun _ : S => True) (fun u t => lAt D A (w1 u) t) A) args s cells slots A) (F0 m pc ls []) :=
  W.vret hexec hb hr (fun t ht _ => ⟨⟨u, rfl, ht0, by rw [ht]; exact hP, hD⟩, hS.F ht⟩) hS.2.2 hdg hlocks
/-- a constructor's call: the new object stands last in the list -/
theorem lx_I {S : Type} {w1 : S → va_W} {wr : va_W} {b : Nat} {e0 : va_E} {cI cR cZ : ClassId} {bytes : ByteArray} {index n maxL nL mc ms : Nat} {y : MethodName} {wm Ts : List Cond} {rm : Room} {own : String} (As rest : List Value) (S9 : CallFix p m c cc nL s args Ts own)
    (hM : Met l y wm rm (va_Pc (.ref b :: As) (lOK D cI cR cZ H.size [(b, e0)])) (va_Qv (fun _ : S => True) (fun u t => lAt D (va_A [(b, e0)] H.size) (w1 u) t) (va_A [(b, e0)] H.size)) mc ms (va_A [(b, e0)] H.size)) (cw : CallB R s args own index y bytes maxL none wm rm mc ms n ∧ y.name = "<init>" ∧ (Cond.instanceMethod y).before args s = true) (hK : va_K D vwCl (K3 cI cR cZ) s) (hP : va_P D vwCl (wr ++ [(b, e0)]) H) (hD : va_D A (wr ++ [(b, e0)])) (hA : ∀ q, s.heap.size ≤ q → A q) (hS : va_S A s.heap H locs) (hn : As.length = n) (hsz : ls.size = nL) {st : List Value} (hst : st = As.reverse ++ .ref b :: rest) (hr8 : (rest.map fun v => v.category).sum ≤ 8) (hdg : decode cc pc = .ok (.invokespecial index, 3)) (hf : cells + mc ≤ R.cells ∧ slots + ms ≤ R.slots)
    (kk : ∀ (u : S) (H1 : Heap) (locs1 : List Loc), va_P D vwCl (wr ++ w1 u) H1 → va_D A (wr ++ w1 u) → va_S A s.heap H1 locs1 → W p l e R s m args below meth c H1 locs1 (cells + mc) (slots + ms) Q (F0 m (pc + 3) ls rest)) : W p l e R s m args below meth c H locs cells slots Q (F0 m pc ls st) := by
  subst hst
  have hPc : va_P D vwCl [(b, e0)] H := fun k q hq => hP (wr.length + k) q (by rw [List.getElem?_append_right (by omega)]; simpa using hq)
  have hDc : va_D A [(b, e0)] := by
    refine ⟨fun i j x z hx hz _ => ?_, fun k q hq => hD.2 (wr.length + k) q (by rw [List.getElem?_append_right (by omega)]; simpa using hq)⟩
    have h1 := (List.getElem?_eq_some_iff.mp hx).1
    have h2 := (List.getElem?_eq_some_iff.mp hz).1
    simp at h1 h2
    omega
  have hF : ∀ q, va_A [(b, e0)] H.size q → A q := by
    intro q h
    rcases h with ⟨k, e1, h⟩ | h
    · exact hDc.2 k (q, e1) h
    · exact hA q (Nat.le_trans hS.1 h)
  refine va_callv (va_runI (As := As) (rest := rest) S9 hM cw ⟨lOK_blind, fun U hU hW => ⟨rfl, by rw [hU], by rw [hU]; exact hPc, va_K.moved hW.alike hK, hDc.weaken (fun _ _ _ _ => trivial)⟩⟩ rfl hn hsz rfl (lv_room hr8) hdg hf) hS (fun q _ h => hF q h) hF (fun u t H1 locs1 ht _ _ hB _ hk1 hS1 => ?_)
  obtain ⟨hP1, hD1⟩ := hB
  rw [ht] at hP1
  obtain ⟨hP2, hD2⟩ := va_joinT hP hD hk1 hF hP1 hD1
  exact kk u H1 locs1 hP2 hD2 hS1
/-- a static call that has no world -/
theorem lx_S {k : CK} {M : Mem} (V : Int32) (As rest : List Value) {bytes : ByteArray} {index n maxL nL : Nat} {y : MethodName} {wm Ts : List Cond} {rm : Room} {own : String} {ret : Option FieldType} (S9 : CallFix p m c cc nL s args Ts own) (hM : Met l y wm rm (wPc (ew k) M As) (wQi (ew k) (fun r x => r = V ∧ x = M)) 0 0 (wA (ew k))) (cw : CallB R s args own index y bytes maxL ret wm rm 0 0 n ∧ (Cond.static y).before args s = true) (hK : va_K k.2.2.1 vwCl tys s) (hP : va_P D cl ws H) (hS : va_S A s.heap H locs) (hn : As.length = n) (hsz : ls.size = nL) {st : List Value} (hst : st = As.reverse ++ rest) (hr8 : (rest.map fun v => v.category).sum ≤ 8) (hdg : decode cc pc = .ok (.invokestatic index, 3)) (hf : cells ≤ R.cells ∧ slots ≤ R.slots)
    (kk : ∀ (H1 : Heap) (locs1 : List Loc), va_P D cl ws H1 → va_S A s.heap H1 locs1 → H.size ≤ H1.size → (∀ q : Nat, q < H.size → H1[q]? = H[q]?) → W p l e R s m args below meth c H1 locs1 cells slots Q (F0 m (pc + 3) ls (.int V :: rest))) : W p l e R s m args below meth c H locs cells slots Q (F0 m pc ls st) := by
  subst hst
  have hno : ∀ q, ¬ wA (ew k) q := fun q h => by obtain ⟨g, j, h1, -⟩ := h; exact absurd h1 List.not_mem_nil
  refine va_calli (va_runS (As := As) (rest := rest) S9 hM cw ⟨wOK_blind (eZok k) M _, fun U hU hW => ⟨rfl, ?_, va_K.moved hW.alike (hK.sub [] rfl), ⟨fun i j x z hx => by have h9 : ([] : va_W)[i]? = some x := hx; simp at h9, fun k q hq => by have h9 : ([] : va_W)[k]? = some q := hq; simp at h9⟩, trivial⟩⟩ rfl hn hsz rfl (lv_room hr8) hdg hf) hS (fun q _ h => absurd h (hno q)) (fun q h => absurd h (hno q)) (fun r u t H1 locs1 ht _ hw _ hz hk1 hS1 => ?_)
  · exact fun k q hq => by have h9 : ([] : va_W)[k]? = some q := hq; simp at h9
  · rw [hw.1]
    exact kk H1 locs1 (hP.kept (fun k q hq => hk1 q.1 ((hP k q hq).lt) (hno _))) hS1 hz (fun q hq => hk1 q hq (hno q))
end LX
set_option maxHeartbeats 4000000 in
set_option maxRecDepth 100000 in
theorem ec_X3_bounded (l : Launch) (k : CK) (M : Mem) (p1 : Int32) (p2 : Int32)  : Met l yX3_bounded wsX3_bounded (rmK 1 14) (wPc (ew k) M [.int p1, .int p2]) (wQi (ew k) (fun r u => r = (f_X3_bounded k M p1 p2) ∧ u = M)) 0 0 (wA (ew k)) := by
  refine wx_met (cc := cX3_bounded) (maxL := 2) (ret := (some .int)) (by decide) rfl (Nat.le_of_ble_eq_true rfl) ?_
  intro p e s m below meth c ls hx hb hr hml hts hown hlocks hP hK hD hZ hS hl
  have hown : s.vm.findClass RX3 = some m.cls := hown
  have hl : lv_has ls 2 [(0, .int p1), (1, .int p2)] := hl
  refine lv_iconst (v := 1) hx hb dX3_bounded_0 (by decide) ?_
  refine lv_iload_n hx hb dX3_bounded_1 rfl (lv_at hl 0 rfl) ?_
  refine lv_iload_n hx hb dX3_bounded_2 rfl (lv_at hl 1 rfl) ?_
  refine va_mmin hx hb (by rw [hml]; exact hl.1.symm) hown (hts (.methodLink RX3 118 Lib.Math.min.name) (by decide +kernel)) (hts (.static Lib.Math.min.name) (by decide +kernel)) (hts (.initialized "java/lang/Math") (by decide +kernel)) (hts (.code Lib.Math.min.name Lib.Math.min.code 2 (some .int)) (by decide +kernel)) (by decide) (by decide) (by decide) (by decide) dX3_bounded_3 ?_
  refine va_mmax hx hb (by rw [hml]; exact hl.1.symm) hown (hts (.methodLink RX3 123 Lib.Math.max.name) (by decide +kernel)) (hts (.static Lib.Math.max.name) (by decide +kernel)) (hts (.initialized "java/lang/Math") (by decide +kernel)) (hts (.code Lib.Math.max.name Lib.Math.max.code 2 (some .int)) (by decide +kernel)) (by decide) (by decide) (by decide) (by decide) dX3_bounded_6 ?_
  have e9 : f_X3_bounded k M p1 p2 = (if 1 < (if p2 < p1 then p2 else p1) then (if p2 < p1 then p2 else p1) else 1) := rfl
  exact wx_iret hx hb hr hlocks hP hS rfl ⟨e9.symm, rfl⟩ dX3_bounded_9
set_option maxHeartbeats 4000000 in
set_option maxRecDepth 100000 in
theorem ec_X4_near (l : Launch) (k : CK) (M : Mem) (p1 : Int32) (p2 : Int32) (p3 : Int32)  : Met l yX4_near wsX4_near (rmK 0 0) (wPc (ew k) M [.int p1, .int p2, .int p3]) (wQi (ew k) (fun r u => r = (f_X4_near k M p1 p2 p3) ∧ u = M)) 0 0 (wA (ew k)) := by
  refine wx_met (cc := cX4_near) (maxL := 3) (ret := (some .int)) (by decide) rfl (Nat.le_of_ble_eq_true rfl) ?_
  intro p e s m below meth c ls hx hb hr hml hts hown hlocks hP hK hD hZ hS hl
  have hown : s.vm.findClass RX4 = some m.cls := hown
  have hl : lv_has ls 3 [(0, .int p1), (1, .int p2), (2, .int p3)] := hl
  refine lv_iload_n hx hb dX4_near_0 rfl (lv_at hl 0 rfl) ?_
  refine lv_iload_n hx hb dX4_near_1 rfl (lv_at hl 1 rfl) ?_
  refine lv_icmp_ge (tgt := 9) hx hb dX4_near_2 (by decide) (fun c_2 => ?_) (fun c_2 => ?_)
  · refine lv_iload_n hx hb dX4_near_9 rfl (lv_at hl 0 rfl) ?_
    refine lv_iload_n hx hb dX4_near_10 rfl (lv_at hl 2 rfl) ?_
    refine lv_icmp_le (tgt := 18) hx hb dX4_near_11 (by decide) (fun c_11 => ?_) (fun c_11 => ?_)
    · refine lv_iload_n hx hb dX4_near_18 rfl (lv_at hl 0 rfl) ?_
      have e9 : f_X4_near k M p1 p2 p3 = p1 := (by unfold f_X4_near; rw [if_pos c_2, if_pos c_11])
      exact wx_iret hx hb hr hlocks hP hS rfl ⟨e9.symm, rfl⟩ dX4_near_19
    · refine lv_iload_n hx hb dX4_near_14 rfl (lv_at hl 2 rfl) ?_
      refine lv_goto (tgt := 19) hx hb dX4_near_15 (by decide) ?_
      have e9 : f_X4_near k M p1 p2 p3 = p3 := (by unfold f_X4_near; rw [if_pos c_2, if_neg c_11])
      exact wx_iret hx hb hr hlocks hP hS rfl ⟨e9.symm, rfl⟩ dX4_near_19
  · refine lv_iload_n hx hb dX4_near_5 rfl (lv_at hl 1 rfl) ?_
    refine lv_goto (tgt := 19) hx hb dX4_near_6 (by decide) ?_
    have e9 : f_X4_near k M p1 p2 p3 = p2 := (by unfold f_X4_near; rw [if_neg c_2])
    exact wx_iret hx hb hr hlocks hP hS rfl ⟨e9.symm, rfl⟩ dX4_near_19
set_option maxHeartbeats 4000000 in
set_option maxRecDepth 100000 in
theorem c_X0_init (l : Launch) (D : va_G) (cI cR cZ : ClassId) (h0 sz : Nat) (N : Nat) (p1 : Int32) (e1 : p1 = nI N) (hN : N ≤ 16) : Met l yX0_init wsX0_init ({ frames := 1, cells := 1, slots := 16, locals := 12 }) (va_Pc [.ref h0, .int p1] (lOK D cI cR cZ sz [(h0, .inr (0, [.null, .int 0]))])) (va_Qv (fun _ : Nat => True) (fun u t => lAt D (va_A [(h0, .inr (0, [.null, .int 0]))] sz) [(h0, .inr (0, [.ref u, .int 0])), (u, .inl (cI, N, .inl (fun _ => 0)))] t) (va_A [(h0, .inr (0, [.null, .int 0]))] sz)) 1 16 (va_A [(h0, .inr (0, [.null, .int 0]))] sz) := by
  refine lx_met (cc := cX0_init) (maxL := 2) (ret := none) (by decide) rfl (Nat.le_of_ble_eq_true rfl) ?_
  intro p e s m below meth c ls A hx hb hr hml hts hown hlocks hin hP hK hD hA hS hl hAe
  rw [← hAe]
  have hown : s.vm.findClass RX0 = some m.cls := hown
  have hl : lv_has ls 2 [(0, .ref h0), (1, .int p1)] := hl
  refine lv_aload_n hx hb dX0_init_0 rfl (lv_at hl 0 rfl) ?_
  refine W.objInit hx hb hown (hts (.methodLink RX0 1 objectInit) (by decide +kernel)) (hts (.instanceMethod objectInit) (by decide +kernel)) (hts _ (List.mem_cons_of_mem _ (List.mem_append_left _ (List.mem_of_getElem? (i := 2) rfl)))) rfl (by rw [hml]; exact hl.1) rfl dX0_init_1 (by decide) (Nat.le_of_ble_eq_true rfl) ?_
  refine W.eq (g2 := F0 m 4 ls []) rfl ?_
  refine lv_aload_n hx hb dX0_init_4 rfl (lv_at hl 0 rfl) ?_
  refine lv_iload_n hx hb dX0_init_5 rfl (lv_at hl 1 rfl) ?_
  refine vz_newa (atype := .int) (ty := .int) (t0 := 0) (a0 := (N, .inl (fun _ => 0))) hx hb (hts (.arrayClass .int) (by decide +kernel)) rfl (Or.inl rfl) hK rfl hP hD hS hA (fun _ => rfl) (by rw [e1]; exact nI_pos (by omega)) (by rw [e1]; exact nI_clamp (by omega)) (nb4 (by omega)) (by decide) (by show 0 + N ≤ 16; omega) dX0_init_6 (fun q6 H hP hD hS => ?_)
  have hP : va_P D vwCl [(h0, .inr (0, [.null, .int 0])), (q6, .inl (cI, N, .inl (fun _ => 0)))] H := hP
  have hD : va_D A [(h0, .inr (0, [.null, .int 0])), (q6, .inl (cI, N, .inl (fun _ => 0)))] := hD
  refine W.widen (k := 1) (n := 16) (by omega) (by omega) ?_
  refine va_putF (D := D) (ci := 0) (v := .ref q6) (ty := (.array .int)) (C := RX0) (T := TX0) (N := 2) hx hb hts (by decide +kernel) tyX0 tyX0_ok nmX0 hown hK hP hD hS 0 rfl rfl 0 (by decide) (hts (.fieldLink RX0 7 "RobotWorld$Box" "numbers" "[I") (by decide +kernel)) (fun _ h9 => h9) rfl hin rfl (by decide +kernel) rfl rfl (Nat.le_of_ble_eq_true rfl) dX0_init_8 (fun H locs hP hD hS => ?_)
  have hP : va_P D vwCl [(h0, .inr (0, [.ref q6, .int 0])), (q6, .inl (cI, N, .inl (fun _ => 0)))] H := hP
  have hD : va_D A [(h0, .inr (0, [.ref q6, .int 0])), (q6, .inl (cI, N, .inl (fun _ => 0)))] := hD
  exact lx_vret (u := q6) hx hb hr hlocks hP hD hS trivial dX0_init_11
set_option maxHeartbeats 4000000 in
set_option maxRecDepth 100000 in
theorem c_X1_init (l : Launch) (D : va_G) (cI cR cZ : ClassId) (h0 sz : Nat) (N : Nat) (p1 p2 : Int32) (e1 : p1 * p2 = nI N) (hN : N ≤ 1024) : Met l yX1_init wsX1_init ({ frames := 1, cells := 3, slots := 3072, locals := 12 }) (va_Pc [.ref h0, .int p1, .int p2] (lOK D cI cR cZ sz [(h0, .inr (1, [.int 0, .int 0, .null, .null, .null, .int 0]))])) (va_Qv (fun _ : (Nat × Nat × Nat) => True) (fun u t => lAt D (va_A [(h0, .inr (1, [.int 0, .int 0, .null, .null, .null, .int 0]))] sz) [(h0, .inr (1, [.int p1, .int p2, .ref u.1, .ref u.2.1, .ref u.2.2, .int (-1)])), (u.1, .inl (cI, N, .inl (fun _ => 0))), (u.2.1, .inl (cI, N, .inl (fun _ => 0))), (u.2.2, .inl (cI, N, .inl (fun _ => 0)))] t) (va_A [(h0, .inr (1, [.int 0, .int 0, .null, .null, .null, .int 0]))] sz)) 3 3072 (va_A [(h0, .inr (1, [.int 0, .int 0, .null, .null, .null, .int 0]))] sz) := by
  refine lx_met (cc := cX1_init) (maxL := 3) (ret := none) (by decide) rfl (Nat.le_of_ble_eq_true rfl) ?_
  intro p e s m below meth c ls A hx hb hr hml hts hown hlocks hin hP hK hD hA hS hl hAe
  rw [← hAe]
  have hown : s.vm.findClass RX1 = some m.cls := hown
  have hl : lv_has ls 3 [(0, .ref h0), (1, .int p1), (2, .int p2)] := hl
  refine lv_aload_n hx hb dX1_init_0 rfl (lv_at hl 0 rfl) ?_
  refine W.objInit hx hb hown (hts (.methodLink RX1 3 objectInit) (by decide +kernel)) (hts (.instanceMethod objectInit) (by decide +kernel)) (hts _ (List.mem_cons_of_mem _ (List.mem_append_left _ (List.mem_of_getElem? (i := 2) rfl)))) rfl (by rw [hml]; exact hl.1) rfl dX1_init_1 (by decide) (Nat.le_of_ble_eq_true rfl) ?_
  refine W.eq (g2 := F0 m 4 ls []) rfl ?_
  refine lv_aload_n hx hb dX1_init_4 rfl (lv_at hl 0 rfl) ?_
  refine lv_iload_n hx hb dX1_init_5 rfl (lv_at hl 1 rfl) ?_
  refine va_putF (D := D) (ci := 1) (v := .int p1) (ty := .int) (C := RX1) (T := TX1) (N := 6) hx hb hts (by decide +kernel) tyX1 tyX1_ok nmX1 hown hK hP hD hS 0 rfl rfl 0 (by decide) (hts (.fieldLink RX1 9 "RobotWorld$Land" "width" "I") (by decide +kernel)) (fun _ h9 => h9) rfl hin rfl (by decide +kernel) rfl rfl (Nat.le_of_ble_eq_true rfl) dX1_init_6 (fun H locs hP hD hS => ?_)
  have hP : va_P D vwCl [(h0, .inr (1, [.int p1, .int 0, .null, .null, .null, .int 0]))] H := hP
  have hD : va_D A [(h0, .inr (1, [.int p1, .int 0, .null, .null, .null, .int 0]))] := hD
  refine lv_aload_n hx hb dX1_init_9 rfl (lv_at hl 0 rfl) ?_
  refine lv_iload_n hx hb dX1_init_10 rfl (lv_at hl 2 rfl) ?_
  refine va_putF (D := D) (ci := 1) (v := .int p2) (ty := .int) (C := RX1) (T := TX1) (N := 6) hx hb hts (by decide +kernel) tyX1 tyX1_ok nmX1 hown hK hP hD hS 0 rfl rfl 1 (by decide) (hts (.fieldLink RX1 15 "RobotWorld$Land" "height" "I") (by decide +kernel)) (fun _ h9 => h9) rfl hin rfl (by decide +kernel) rfl rfl (Nat.le_of_ble_eq_true rfl) dX1_init_11 (fun H locs hP hD hS => ?_)
  have hP : va_P D vwCl [(h0, .inr (1, [.int p1, .int p2, .null, .null, .null, .int 0]))] H := hP
  have hD : va_D A [(h0, .inr (1, [.int p1, .int p2, .null, .null, .null, .int 0]))] := hD
  refine lv_aload_n hx hb dX1_init_14 rfl (lv_at hl 0 rfl) ?_
  refine lv_iload_n hx hb dX1_init_15 rfl (lv_at hl 1 rfl) ?_
  refine lv_iload_n hx hb dX1_init_16 rfl (lv_at hl 2 rfl) ?_
  refine lv_imul hx hb dX1_init_17 ?_
  refine vz_newa (atype := .int) (ty := .int) (t0 := 0) (a0 := (N, .inl (fun _ => 0))) hx hb (hts (.arrayClass .int) (by decide +kernel)) rfl (Or.inl rfl) hK rfl hP hD hS hA (fun _ => rfl) (by rw [e1]; exact nI_pos (by omega)) (by rw [e1]; exact nI_clamp (by omega)) (nb4 (by omega)) (by decide) (by show 0 + N ≤ 3072; omega) dX1_init_18 (fun q18 H hP hD hS => ?_)
  have hP : va_P D vwCl [(h0, .inr (1, [.int p1, .int p2, .null, .null, .null, .int 0])), (q18, .inl (cI, N, .inl (fun _ => 0)))] H := hP
  have hD : va_D A [(h0, .inr (1, [.int p1, .int p2, .null, .null, .null, .int 0])), (q18, .inl (cI, N, .inl (fun _ => 0)))] := hD
  refine W.widen (k := 1) (n := 1024) (by omega) (by omega) ?_
  refine va_putF (D := D) (ci := 1) (v := .ref q18) (ty := (.array .int)) (C := RX1) (T := TX1) (N := 6) hx hb hts (by decide +kernel) tyX1 tyX1_ok nmX1 hown hK hP hD hS 0 rfl rfl 2 (by decide) (hts (.fieldLink RX1 18 "RobotWorld$Land" "contents" "[I") (by decide +kernel)) (fun _ h9 => h9) rfl hin rfl (by decide +kernel) rfl rfl (Nat.le_of_ble_eq_true rfl) dX1_init_20 (fun H locs hP hD hS => ?_)
  have hP : va_P D vwCl [(h0, .inr (1, [.int p1, .int p2, .ref q18, .null, .null, .int 0])), (q18, .inl (cI, N, .inl (fun _ => 0)))] H := hP
  have hD : va_D A [(h0, .inr (1, [.int p1, .int p2, .ref q18, .null, .null, .int 0])), (q18, .inl (cI, N, .inl (fun _ => 0)))] := hD
  refine lv_aload_n hx hb dX1_init_23 rfl (lv_at hl 0 rfl) ?_
  refine lv_iload_n hx hb dX1_init_24 rfl (lv_at hl 1 rfl) ?_
  refine lv_iload_n hx hb dX1_init_25 rfl (lv_at hl 2 rfl) ?_
  refine lv_imul hx hb dX1_init_26 ?_
  refine vz_newa (atype := .int) (ty := .int) (t0 := 0) (a0 := (N, .inl (fun _ => 0))) hx hb (hts (.arrayClass .int) (by decide +kernel)) rfl (Or.inl rfl) hK rfl hP hD hS hA (fun _ => rfl) (by rw [e1]; exact nI_pos (by omega)) (by rw [e1]; exact nI_clamp (by omega)) (nb4 (by omega)) (by decide) (by show 1024 + N ≤ 3072; omega) dX1_init_27 (fun q27 H hP hD hS => ?_)
  have hP : va_P D vwCl [(h0, .inr (1, [.int p1, .int p2, .ref q18, .null, .null, .int 0])), (q18, .inl (cI, N, .inl (fun _ => 0))), (q27, .inl (cI, N, .inl (fun _ => 0)))] H := hP
  have hD : va_D A [(h0, .inr (1, [.int p1, .int p2, .ref q18, .null, .null, .int 0])), (q18, .inl (cI, N, .inl (fun _ => 0))), (q27, .inl (cI, N, .inl (fun _ => 0)))] := hD
  refine W.widen (k := 2) (n := 2048) (by omega) (by omega) ?_
  refine va_putF (D := D) (ci := 1) (v := .ref q27) (ty := (.array .int)) (C := RX1) (T := TX1) (N := 6) hx hb hts (by decide +kernel) tyX1 tyX1_ok nmX1 hown hK hP hD hS 0 rfl rfl 3 (by decide) (hts (.fieldLink RX1 22 "RobotWorld$Land" "steps" "[I") (by decide +kernel)) (fun _ h9 => h9) rfl hin rfl (by decide +kernel) rfl rfl (Nat.le_of_ble_eq_true rfl) dX1_init_29 (fun H locs hP hD hS => ?_)
  have hP : va_P D vwCl [(h0, .inr (1, [.int p1, .int p2, .ref q18, .ref q27, .null, .int 0])), (q18, .inl (cI, N, .inl (fun _ => 0))), (q27, .inl (cI, N, .inl (fun _ => 0)))] H := hP
  have hD : va_D A [(h0, .inr (1, [.int p1, .int p2, .ref q18, .ref q27, .null, .int 0])), (q18, .inl (cI, N, .inl (fun _ => 0))), (q27, .inl (cI, N, .inl (fun _ => 0)))] := hD
  refine lv_aload_n hx hb dX1_init_32 rfl (lv_at hl 0 rfl) ?_
  refine lv_iload_n hx hb dX1_init_33 rfl (lv_at hl 1 rfl) ?_
  refine lv_iload_n hx hb dX1_init_34 rfl (lv_at hl 2 rfl) ?_
  refine lv_imul hx hb dX1_init_35 ?_
  refine vz_newa (atype := .int) (ty := .int) (t0 := 0) (a0 := (N, .inl (fun _ => 0))) hx hb (hts (.arrayClass .int) (by decide +kernel)) rfl (Or.inl rfl) hK rfl hP hD hS hA (fun _ => rfl) (by rw [e1]; exact nI_pos (by omega)) (by rw [e1]; exact nI_clamp (by omega)) (nb4 (by omega)) (by decide) (by show 2048 + N ≤ 3072; omega) dX1_init_36 (fun q36 H hP hD hS => ?_)
  have hP : va_P D vwCl [(h0, .inr (1, [.int p1, .int p2, .ref q18, .ref q27, .null, .int 0])), (q18, .inl (cI, N, .inl (fun _ => 0))), (q27, .inl (cI, N, .inl (fun _ => 0))), (q36, .inl (cI, N, .inl (fun _ => 0)))] H := hP
  have hD : va_D A [(h0, .inr (1, [.int p1, .int p2, .ref q18, .ref q27, .null, .int 0])), (q18, .inl (cI, N, .inl (fun _ => 0))), (q27, .inl (cI, N, .inl (fun _ => 0))), (q36, .inl (cI, N, .inl (fun _ => 0)))] := hD
  refine W.widen (k := 3) (n := 3072) (by omega) (by omega) ?_
  refine va_putF (D := D) (ci := 1) (v := .ref q36) (ty := (.array .int)) (C := RX1) (T := TX1) (N := 6) hx hb hts (by decide +kernel) tyX1 tyX1_ok nmX1 hown hK hP hD hS 0 rfl rfl 4 (by decide) (hts (.fieldLink RX1 25 "RobotWorld$Land" "queue" "[I") (by decide +kernel)) (fun _ h9 => h9) rfl hin rfl (by decide +kernel) rfl rfl (Nat.le_of_ble_eq_true rfl) dX1_init_38 (fun H locs hP hD hS => ?_)
  have hP : va_P D vwCl [(h0, .inr (1, [.int p1, .int p2, .ref q18, .ref q27, .ref q36, .int 0])), (q18, .inl (cI, N, .inl (fun _ => 0))), (q27, .inl (cI, N, .inl (fun _ => 0))), (q36, .inl (cI, N, .inl (fun _ => 0)))] H := hP
  have hD : va_D A [(h0, .inr (1, [.int p1, .int p2, .ref q18, .ref q27, .ref q36, .int 0])), (q18, .inl (cI, N, .inl (fun _ => 0))), (q27, .inl (cI, N, .inl (fun _ => 0))), (q36, .inl (cI, N, .inl (fun _ => 0)))] := hD
  refine lv_aload_n hx hb dX1_init_41 rfl (lv_at hl 0 rfl) ?_
  refine lv_iconst (v := (-1)) hx hb dX1_init_42 (by decide) ?_
  refine va_put (D := D) (ci := 1) (v := .int (-1)) (ty := .int) (C := RX1) (T := TX1) (N := 6) hx hb hts (by decide +kernel) tyX1 tyX1_ok nmX1 hown hK hP hD hS 0 rfl rfl 5 (by decide) (hts (.fieldLink RX1 28 "RobotWorld$Land" "goal" "I") (by decide +kernel)) (fun _ h9 => h9) rfl (by decide +kernel) rfl rfl (Nat.le_of_ble_eq_true rfl) dX1_init_43 (fun H locs hP hD hS => ?_)
  have hP : va_P D vwCl [(h0, .inr (1, [.int p1, .int p2, .ref q18, .ref q27, .ref q36, .int (-1)])), (q18, .inl (cI, N, .inl (fun _ => 0))), (q27, .inl (cI, N, .inl (fun _ => 0))), (q36, .inl (cI, N, .inl (fun _ => 0)))] H := hP
  have hD : va_D A [(h0, .inr (1, [.int p1, .int p2, .ref q18, .ref q27, .ref q36, .int (-1)])), (q18, .inl (cI, N, .inl (fun _ => 0))), (q27, .inl (cI, N, .inl (fun _ => 0))), (q36, .inl (cI, N, .inl (fun _ => 0)))] := hD
  exact lx_vret (u := (q18, q27, q36)) hx hb hr hlocks hP hD hS trivial dX1_init_46
set_option maxHeartbeats 4000000 in
set_option maxRecDepth 100000 in
theorem c_X2_init (l : Launch) (D : va_G) (cI cR cZ : ClassId) (h0 sz : Nat) (N1 N2 : Nat) (p1 p2 p3 : Int32) (e2 : p2 = nI N1) (hN1 : N1 ≤ 100) (e3 : p3 = nI N2) (hN2 : N2 ≤ 16) : Met l yX2_init wsX2_init ({ frames := 2, cells := 4, slots := 126, locals := 33 }) (va_Pc [.ref h0, .int p1, .int p2, .int p3] (lOK D cI cR cZ sz [(h0, .inr (2, [.int 0, .null, .null, .null, .int 0, .int 0, .int 0, .int 0, .int 0, .int 0, .int 0, .int 0]))])) (va_Qv (fun _ : (Nat × Nat × Nat × Nat) => True) (fun u t => lAt D (va_A [(h0, .inr (2, [.int 0, .null, .null, .null, .int 0, .int 0, .int 0, .int 0, .int 0, .int 0, .int 0, .int 0]))] sz) [(h0, .inr (2, [.int p1, .ref u.1, .ref u.2.1, .ref u.2.2.1, .int 0, .int 0, .int 0, .int 0, .int 0, .int 0, .int 0, .int 0])), (u.1, .inl (cI, N1, .inl (fun _ => 0))), (u.2.1, .inl (cI, 8, .inl (fun _ => 0))), (u.2.2.1, .inr (0, [.ref u.2.2.2, .int 0])), (u.2.2.2, .inl (cI, N2, .inl (fun _ => 0)))] t) (va_A [(h0, .inr (2, [.int 0, .null, .null, .null, .int 0, .int 0, .int 0, .int 0, .int 0, .int 0, .int 0, .int 0]))] sz)) 4 126 (va_A [(h0, .inr (2, [.int 0, .null, .null, .null, .int 0, .int 0, .int 0, .int 0, .int 0, .int 0, .int 0, .int 0]))] sz) := by
  refine lx_met (cc := cX2_init) (maxL := 4) (ret := none) (by decide) rfl (Nat.le_of_ble_eq_true rfl) ?_
  intro p e s m below meth c ls A hx hb hr hml hts hown hlocks hin hP hK hD hA hS hl hAe
  rw [← hAe]
  have hown : s.vm.findClass RX2 = some m.cls := hown
  have hl : lv_has ls 4 [(0, .ref h0), (1, .int p1), (2, .int p2), (3, .int p3)] := hl
  refine lv_aload_n hx hb dX2_init_0 rfl (lv_at hl 0 rfl) ?_
  refine W.objInit hx hb hown (hts (.methodLink RX2 3 objectInit) (by decide +kernel)) (hts (.instanceMethod objectInit) (by decide +kernel)) (hts _ (List.mem_cons_of_mem _ (List.mem_append_left _ (List.mem_append_left _ (List.mem_of_getElem? (i := 2) rfl))))) rfl (by rw [hml]; exact hl.1) rfl dX2_init_1 (by decide) (Nat.le_of_ble_eq_true rfl) ?_
  refine W.eq (g2 := F0 m 4 ls []) rfl ?_
  refine lv_aload_n hx hb dX2_init_4 rfl (lv_at hl 0 rfl) ?_
  refine lv_iload_n hx hb dX2_init_5 rfl (lv_at hl 1 rfl) ?_
  refine va_putF (D := D) (ci := 2) (v := .int p1) (ty := .int) (C := RX2) (T := TX2) (N := 12) hx hb hts (by decide +kernel) tyX2 tyX2_ok nmX2 hown hK hP hD hS 0 rfl rfl 0 (by decide) (hts (.fieldLink RX2 9 "RobotWorld$Robot" "number" "I") (by decide +kernel)) (fun _ h9 => h9) rfl hin rfl (by decide +kernel) rfl rfl (Nat.le_of_ble_eq_true rfl) dX2_init_6 (fun H locs hP hD hS => ?_)
  have hP : va_P D vwCl [(h0, .inr (2, [.int p1, .null, .null, .null, .int 0, .int 0, .int 0, .int 0, .int 0, .int 0, .int 0, .int 0]))] H := hP
  have hD : va_D A [(h0, .inr (2, [.int p1, .null, .null, .null, .int 0, .int 0, .int 0, .int 0, .int 0, .int 0, .int 0, .int 0]))] := hD
  refine lv_aload_n hx hb dX2_init_9 rfl (lv_at hl 0 rfl) ?_
  refine lv_iload_n hx hb dX2_init_10 rfl (lv_at hl 2 rfl) ?_
  refine vz_newa (atype := .int) (ty := .int) (t0 := 0) (a0 := (N1, .inl (fun _ => 0))) hx hb (hts (.arrayClass .int) (by decide +kernel)) rfl (Or.inl rfl) hK rfl hP hD hS hA (fun _ => rfl) (by rw [e2]; exact nI_pos (by omega)) (by rw [e2]; exact nI_clamp (by omega)) (nb4 (by omega)) (by decide) (by show 0 + N1 ≤ 126; omega) dX2_init_11 (fun q11 H hP hD hS => ?_)
  have hP : va_P D vwCl [(h0, .inr (2, [.int p1, .null, .null, .null, .int 0, .int 0, .int 0, .int 0, .int 0, .int 0, .int 0, .int 0])), (q11, .inl (cI, N1, .inl (fun _ => 0)))] H := hP
  have hD : va_D A [(h0, .inr (2, [.int p1, .null, .null, .null, .int 0, .int 0, .int 0, .int 0, .int 0, .int 0, .int 0, .int 0])), (q11, .inl (cI, N1, .inl (fun _ => 0)))] := hD
  refine W.widen (k := 1) (n := 100) (by omega) (by omega) ?_
  refine va_putF (D := D) (ci := 2) (v := .ref q11) (ty := (.array .int)) (C := RX2) (T := TX2) (N := 12) hx hb hts (by decide +kernel) tyX2 tyX2_ok nmX2 hown hK hP hD hS 0 rfl rfl 1 (by decide) (hts (.fieldLink RX2 15 "RobotWorld$Robot" "program" "[I") (by decide +kernel)) (fun _ h9 => h9) rfl hin rfl (by decide +kernel) rfl rfl (Nat.le_of_ble_eq_true rfl) dX2_init_13 (fun H locs hP hD hS => ?_)
  have hP : va_P D vwCl [(h0, .inr (2, [.int p1, .ref q11, .null, .null, .int 0, .int 0, .int 0, .int 0, .int 0, .int 0, .int 0, .int 0])), (q11, .inl (cI, N1, .inl (fun _ => 0)))] H := hP
  have hD : va_D A [(h0, .inr (2, [.int p1, .ref q11, .null, .null, .int 0, .int 0, .int 0, .int 0, .int 0, .int 0, .int 0, .int 0])), (q11, .inl (cI, N1, .inl (fun _ => 0)))] := hD
  refine lv_aload_n hx hb dX2_init_16 rfl (lv_at hl 0 rfl) ?_
  refine lv_bipush (v := 8) hx hb dX2_init_17 (by decide) ?_
  refine vz_newa (atype := .int) (ty := .int) (t0 := 0) (a0 := (8, .inl (fun _ => 0))) hx hb (hts (.arrayClass .int) (by decide +kernel)) rfl (Or.inl rfl) hK rfl hP hD hS hA (fun _ => rfl) (by decide) (by decide) (nb4 (by decide)) (by decide) (by decide) dX2_init_19 (fun q19 H hP hD hS => ?_)
  have hP : va_P D vwCl [(h0, .inr (2, [.int p1, .ref q11, .null, .null, .int 0, .int 0, .int 0, .int 0, .int 0, .int 0, .int 0, .int 0])), (q11, .inl (cI, N1, .inl (fun _ => 0))), (q19, .inl (cI, 8, .inl (fun _ => 0)))] H := hP
  have hD : va_D A [(h0, .inr (2, [.int p1, .ref q11, .null, .null, .int 0, .int 0, .int 0, .int 0, .int 0, .int 0, .int 0, .int 0])), (q11, .inl (cI, N1, .inl (fun _ => 0))), (q19, .inl (cI, 8, .inl (fun _ => 0)))] := hD
  refine W.widen (k := 2) (n := 108) (by omega) (by omega) ?_
  refine va_putF (D := D) (ci := 2) (v := .ref q19) (ty := (.array .int)) (C := RX2) (T := TX2) (N := 12) hx hb hts (by decide +kernel) tyX2 tyX2_ok nmX2 hown hK hP hD hS 0 rfl rfl 2 (by decide) (hts (.fieldLink RX2 19 "RobotWorld$Robot" "registers" "[I") (by decide +kernel)) (fun _ h9 => h9) rfl hin rfl (by decide +kernel) rfl rfl (Nat.le_of_ble_eq_true rfl) dX2_init_21 (fun H locs hP hD hS => ?_)
  have hP : va_P D vwCl [(h0, .inr (2, [.int p1, .ref q11, .ref q19, .null, .int 0, .int 0, .int 0, .int 0, .int 0, .int 0, .int 0, .int 0])), (q11, .inl (cI, N1, .inl (fun _ => 0))), (q19, .inl (cI, 8, .inl (fun _ => 0)))] H := hP
  have hD : va_D A [(h0, .inr (2, [.int p1, .ref q11, .ref q19, .null, .int 0, .int 0, .int 0, .int 0, .int 0, .int 0, .int 0, .int 0])), (q11, .inl (cI, N1, .inl (fun _ => 0))), (q19, .inl (cI, 8, .inl (fun _ => 0)))] := hD
  refine lv_aload_n hx hb dX2_init_24 rfl (lv_at hl 0 rfl) ?_
  refine va_new (ci := 0) (fs := [.null, .int 0]) (C := RX0) (T := TX0) (N := 2) hx hb hts (by decide +kernel) tyX0 tyX0_ok hown (hts (.classLink RX2 22 RX0) (by decide +kernel)) (hts (.instantiable RX0 2) (by decide +kernel)) (hts (.initialized RX0) (by decide +kernel)) hK hP hD hS hA rfl (fun j hj => by rcases (show j = 0 ∨ j = 1 by omega) with rfl | rfl <;> rfl) (by decide) (by decide) dX2_init_25 (fun q25 H hP hD hS => ?_)
  have hP : va_P D vwCl [(h0, .inr (2, [.int p1, .ref q11, .ref q19, .null, .int 0, .int 0, .int 0, .int 0, .int 0, .int 0, .int 0, .int 0])), (q11, .inl (cI, N1, .inl (fun _ => 0))), (q19, .inl (cI, 8, .inl (fun _ => 0))), (q25, .inr (0, [.null, .int 0]))] H := hP
  have hD : va_D A [(h0, .inr (2, [.int p1, .ref q11, .ref q19, .null, .int 0, .int 0, .int 0, .int 0, .int 0, .int 0, .int 0, .int 0])), (q11, .inl (cI, N1, .inl (fun _ => 0))), (q19, .inl (cI, 8, .inl (fun _ => 0))), (q25, .inr (0, [.null, .int 0]))] := hD
  refine W.widen (k := 3) (n := 110) (by omega) (by omega) ?_
  refine lv_dup hx hb dX2_init_28 rfl ?_
  refine lv_iload_n hx hb dX2_init_29 rfl (lv_at hl 3 rfl) ?_
  refine lx_I (S := Nat) (wr := [(h0, .inr (2, [.int p1, .ref q11, .ref q19, .null, .int 0, .int 0, .int 0, .int 0, .int 0, .int 0, .int 0, .int 0])), (q11, .inl (cI, N1, .inl (fun _ => 0))), (q19, .inl (cI, 8, .inl (fun _ => 0)))]) (e0 := .inr (0, [.null, .int 0])) (w1 := fun u => [(q25, .inr (0, [.ref u, .int 0])), (u, .inl (cI, N2, .inl (fun _ => 0)))]) [.int p3] [.ref q25, .ref h0] ⟨hx, hb, hml, hown, hts⟩ (c_X0_init l D cI cR cZ q25 H.size N2 p3 e3 hN2) (cwI 1 hts gX2_init_X0_init rfl rfl rfl (hts (.initialized RX0) (by decide +kernel)) (hts (.methodLink RX2 24 yX0_init) (by decide +kernel)) (hts (.instanceMethod yX0_init) (by decide +kernel)) rfl (by decide +kernel) ⟨by decide, by decide⟩) hK hP hD hA hS rfl hl.1 rfl (Nat.le_of_ble_eq_true rfl) dX2_init_30 ⟨by decide, by decide⟩ (fun q30 H locs hP hD hS => ?_)
  have hP : va_P D vwCl [(h0, .inr (2, [.int p1, .ref q11, .ref q19, .null, .int 0, .int 0, .int 0, .int 0, .int 0, .int 0, .int 0, .int 0])), (q11, .inl (cI, N1, .inl (fun _ => 0))), (q19, .inl (cI, 8, .inl (fun _ => 0))), (q25, .inr (0, [.ref q30, .int 0])), (q30, .inl (cI, N2, .inl (fun _ => 0)))] H := hP
  have hD : va_D A [(h0, .inr (2, [.int p1, .ref q11, .ref q19, .null, .int 0, .int 0, .int 0, .int 0, .int 0, .int 0, .int 0, .int 0])), (q11, .inl (cI, N1, .inl (fun _ => 0))), (q19, .inl (cI, 8, .inl (fun _ => 0))), (q25, .inr (0, [.ref q30, .int 0])), (q30, .inl (cI, N2, .inl (fun _ => 0)))] := hD
  refine va_putF (D := D) (ci := 2) (v := .ref q25) (ty := (.object "RobotWorld$Box")) (C := RX2) (T := TX2) (N := 12) hx hb hts (by decide +kernel) tyX2 tyX2_ok nmX2 hown hK hP hD hS 0 rfl rfl 3 (by decide) (hts (.fieldLink RX2 27 "RobotWorld$Robot" "box" "LRobotWorld$Box;") (by decide +kernel)) (fun _ h9 => h9) rfl hin rfl (by decide +kernel) rfl rfl (Nat.le_of_ble_eq_true rfl) dX2_init_33 (fun H locs hP hD hS => ?_)
  have hP : va_P D vwCl [(h0, .inr (2, [.int p1, .ref q11, .ref q19, .ref q25, .int 0, .int 0, .int 0, .int 0, .int 0, .int 0, .int 0, .int 0])), (q11, .inl (cI, N1, .inl (fun _ => 0))), (q19, .inl (cI, 8, .inl (fun _ => 0))), (q25, .inr (0, [.ref q30, .int 0])), (q30, .inl (cI, N2, .inl (fun _ => 0)))] H := hP
  have hD : va_D A [(h0, .inr (2, [.int p1, .ref q11, .ref q19, .ref q25, .int 0, .int 0, .int 0, .int 0, .int 0, .int 0, .int 0, .int 0])), (q11, .inl (cI, N1, .inl (fun _ => 0))), (q19, .inl (cI, 8, .inl (fun _ => 0))), (q25, .inr (0, [.ref q30, .int 0])), (q30, .inl (cI, N2, .inl (fun _ => 0)))] := hD
  exact lx_vret (u := (q11, q19, q25, q30)) hx hb hr hlocks hP hD hS trivial dX2_init_36
