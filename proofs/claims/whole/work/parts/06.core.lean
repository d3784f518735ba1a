/-! MEMORY: group, object, slot. A world is a list of places (g, j), an address for each, and what a place is as a function of its row of ints. -/
abbrev Mem : Type := Nat → Nat → Nat → Int32
def mu (M : Mem) (g j k : Nat) (v : Int32) : Mem := fun a b => if a = g ∧ b = j then upd (M g j) k v else M a b
def mr (M : Mem) (g j : Nat) (f : Nat → Int32) : Mem := fun a b => if a = g ∧ b = j then f else M a b
theorem mu_row (M : Mem) (g j k : Nat) (v : Int32) : mu M g j k v g j = upd (M g j) k v := by simp [mu]
theorem mr_row (M : Mem) (g j : Nat) (f : Nat → Int32) : mr M g j f g j = f := by simp [mr]
theorem mu_mr (M : Mem) (g j k : Nat) (v : Int32) : mu M g j k v = mr M g j (upd (M g j) k v) := rfl
theorem mu_at (M : Mem) (g j k : Nat) (v : Int32) (a b c : Nat) : mu M g j k v a b c = if a = g ∧ b = j ∧ c = k then v else M a b c := by
  unfold mu
  by_cases h : a = g ∧ b = j
  · obtain ⟨rfl, rfl⟩ := h
    simp [upd]
  · rw [if_neg h, if_neg (fun q => h ⟨q.1, q.2.1⟩)]
theorem mr_at (M : Mem) (g j : Nat) (f : Nat → Int32) (a b c : Nat) : mr M g j f a b c = if a = g ∧ b = j then f c else M a b c := by
  unfold mr
  by_cases h : a = g ∧ b = j
  · rw [if_pos h, if_pos h]
  · rw [if_neg h, if_neg h]
def pool (ix : List (Nat × Nat)) (ad : Nat → Nat → Nat) (E : Nat → Nat → (Nat → Int32) → va_E) (M : Mem) : va_W := ix.map fun q => (ad q.1 q.2, E q.1 q.2 (M q.1 q.2))
theorem pool_at {ix : List (Nat × Nat)} {g j : Nat} (ad : Nat → Nat → Nat) (E : Nat → Nat → (Nat → Int32) → va_E) (M : Mem) (h : (g, j) ∈ ix) : ∃ q : Nat, ix[q]? = some (g, j) ∧ (pool ix ad E M)[q]? = some (ad g j, E g j (M g j)) := by
  obtain ⟨q, hq⟩ := List.getElem?_of_mem h
  exact ⟨q, hq, by simp [pool, hq]⟩
theorem pool_D {A : Nat → Prop} {ix : List (Nat × Nat)} {ad : Nat → Nat → Nat} {E E' : Nat → Nat → (Nat → Int32) → va_E} {M M' : Mem} (h : va_D A (pool ix ad E M)) : va_D A (pool ix ad E' M') := by
  have key : ∀ (k : Nat) (q : Nat × va_E), (pool ix ad E' M')[k]? = some q → ∃ e, (pool ix ad E M)[k]? = some (q.1, e) := by
    intro k q hq
    simp only [pool, List.getElem?_map] at hq ⊢
    cases hx : ix[k]? with
    | none => rw [hx] at hq; cases hq
    | some x =>
      rw [hx] at hq
      cases hq
      exact ⟨_, rfl⟩
  refine ⟨fun i j p q hi hj hpq => ?_, fun k q hk => ?_⟩
  · obtain ⟨e1, h1⟩ := key i p hi
    obtain ⟨e2, h2⟩ := key j q hj
    exact h.1 i j _ _ h1 h2 hpq
  · obtain ⟨e1, h1⟩ := key k q hk
    exact h.2 k (q.1, e1) h1
theorem pool_set {A : Nat → Prop} {ix : List (Nat × Nat)} {ad : Nat → Nat → Nat} {E : Nat → Nat → (Nat → Int32) → va_E} {M : Mem} {q g j : Nat} (hD : va_D A (pool ix ad E M)) (hq : ix[q]? = some (g, j)) (f : Nat → Int32) : (pool ix ad E M).set q (ad g j, E g j f) = pool ix ad E (mr M g j f) := by
  apply List.ext_getElem?
  intro k
  by_cases hk : k = q
  · subst hk
    have hl : k < (pool ix ad E M).length := by simp [pool]; exact (List.getElem?_eq_some_iff.mp hq).1
    rw [List.getElem?_set_self hl]
    simp [pool, hq, mr_row]
  · rw [List.getElem?_set_ne (Ne.symm hk)]
    simp only [pool, List.getElem?_map]
    cases hx : ix[k]? with
    | none => rfl
    | some x =>
      obtain ⟨a, b⟩ := x
      have hne : ¬ (a = g ∧ b = j) := by
        rintro ⟨rfl, rfl⟩
        exact hk (hD.1 k q (ad a b, E a b (M a b)) (ad a b, E a b (M a b)) (by simp [pool, hx]) (by simp [pool, hq]) rfl)
      simp [mr, hne]
/-! A WORLD: places, addresses, what stands at a place, the classes' numbers, the array classes, and what else holds of state and heap -/
abbrev WG : Type := List (Nat × Nat) × (Nat → Nat → Nat) × (Nat → Nat → (Nat → Int32) → va_E) × va_G × List (ClassId × FieldType) × ((Nat → Prop) → State → Heap → Prop)
abbrev wI (w : WG) : List (Nat × Nat) := w.1
abbrev wAd (w : WG) : Nat → Nat → Nat := w.2.1
abbrev wE (w : WG) : Nat → Nat → (Nat → Int32) → va_E := w.2.2.1
abbrev wD (w : WG) : va_G := w.2.2.2.1
abbrev wT (w : WG) : List (ClassId × FieldType) := w.2.2.2.2.1
abbrev wZ (w : WG) : (Nat → Prop) → State → Heap → Prop := w.2.2.2.2.2
def wA (w : WG) : Nat → Prop := fun q => ∃ g j : Nat, (g, j) ∈ wI w ∧ q = wAd w g j
abbrev wW (w : WG) (M : Mem) : va_W := pool (wI w) (wAd w) (wE w) M
abbrev wP (w : WG) (M : Mem) (H : Heap) : Prop := va_P (wD w) vwCl (wW w M) H
def wOK (w : WG) (M : Mem) (U : State) : Prop := wP w M U.heap ∧ va_K (wD w) vwCl (wT w) U ∧ va_D (wA w) (wW w M) ∧ wZ w (wA w) U U.heap
/-- what else holds goes on holding -/
def wZok (w : WG) : Prop := (∀ (A : Nat → Prop) (u U : State) (H : Heap), u.vm = U.vm → wZ w A u H → wZ w A U H) ∧ (∀ (A : Nat → Prop) (u U : State) (H : Heap), u.WarmedH U.vm → wZ w A u H → wZ w A U H) ∧ (∀ (A : Nat → Prop) (U : State) (H H1 : Heap), (∀ a : Nat, a < H.size → ¬ A a → H1[a]? = H[a]?) → wZ w A U H → wZ w A U H1)
abbrev wPc (w : WG) (M : Mem) (av : List Value) : Array Value → State → Prop := va_Pc av (wOK w M)
abbrev wB (w : WG) : Mem → State → Prop := fun u t => wP w u t.heap
abbrev wQi (w : WG) (post : Int32 → Mem → Prop) : Array Value → State → Outcome → State → Prop := va_Qi post (wB w) (wA w)
abbrev wQv (w : WG) (post : Mem → Prop) : Array Value → State → Outcome → State → Prop := va_Qv post (wB w) (wA w)
abbrev wQq (w : WG) (post : Option Nat → Mem → Prop) : Array Value → State → Outcome → State → Prop := va_Qq post (wB w) (wA w)
theorem wOK_blind {w : WG} (hz : wZok w) (M : Mem) (av : List Value) : FrameBlind (wPc w M av) := by
  intro a U g mk q
  obtain ⟨q0, qP, qK, qD, qZ⟩ := q
  exact ⟨q0, qP, va_K.moved (u := U) (U := U.calling g mk a) (Vm.Alike.refl U.vm) qK, qD, hz.1 (wA w) U (U.calling g mk a) _ rfl qZ⟩
theorem wOK_call {w : WG} (hz : wZok w) {M : Mem} {s : State} {H : Heap} {locs : List Loc} (hP : wP w M H) (hK : va_K (wD w) vwCl (wT w) s) {M0 : Mem} (hD : va_D (wA w) (wW w M0)) (hZ : wZ w (wA w) s s.heap) (hS : va_S (wA w) s.heap H locs) {U : State} (hU : U.heap = H) (hW : s.WarmedH U.vm) : wOK w M U := by
  refine ⟨by rw [hU]; exact hP, va_K.moved hW.alike hK, pool_D hD, ?_⟩
  rw [hU]
  exact hz.2.1 _ s U H hW (hz.2.2 _ s s.heap H (fun a h1 h2 => hS.2.1 a h1 h2) hZ)
section WX
variable {p : Program} {l : Launch} {e : Env} {R : Room} {s : State} {m : MethodId} {args : Array Value} {below : List Frame} {meth : Method} {c : Code} {H : Heap} {locs : List Loc} {cells slots : Nat} {Q : State → Prop}
variable {cc : ByteArray} {pc : Nat} {ls : Array Slot} {rest : List Value} {w : WG} {M M0 : Mem} {g j : Nat}
theorem wx_get (hexec : p.tables.exec = Jvm.exec) (hb : c.code = cc) {own C : String} {T : u_T} {N ci index : Nat} {Ts : List Cond} (hts : ∀ w ∈ Ts, w.before args s = true) (hin : ∀ w ∈ u_ws C T N, w ∈ Ts) (hown : s.vm.findClass own = some m.cls) (hK : va_K (wD w) vwCl (wT w) s) (hP : wP w M H) (hm : (g, j) ∈ wI w) {fs : List Value} (hE : wE w g j (M g j) = .inr (ci, fs)) (hc : vwCl[ci]? = some (C, T, N)) (k : Nat) (hk : k < N) (hlink : (Cond.fieldLink own index (T k).1 (T k).2.1 (T k).2.2.1).before args s = true) {v : Value} (hv : fs[k]? = some v) (hdg : decode cc pc = .ok (.getfield index, 3))
    (kk : W p l e R s m args below meth c H locs cells slots Q (F0 m (pc + 3) ls (v :: rest))) : W p l e R s m args below meth c H locs cells slots Q (F0 m pc ls (.ref (wAd w g j) :: rest)) := by
  obtain ⟨q, -, hq⟩ := pool_at (wAd w) (wE w) M hm
  rw [hE] at hq
  exact va_get hexec hb hts hin hown hK hP q hq hc k hk hlink (fun _ h9 => h9) hv hdg kk
theorem wx_put (hexec : p.tables.exec = Jvm.exec) (hb : c.code = cc) {own C : String} {T : u_T} {N ci index : Nat} {Ts : List Cond} (hts : ∀ w ∈ Ts, w.before args s = true) (hin : ∀ w ∈ u_ws C T N, w ∈ Ts) (ty0 : Nat → FieldType) (hty : ∀ k, k < N → parseFieldDescriptor (T k).2.2.1 = some (ty0 k)) (hnm : ∀ a, a < N → ∀ b, b < N → a ≠ b → (T a).2.1 ≠ (T b).2.1) (hown : s.vm.findClass own = some m.cls) (hK : va_K (wD w) vwCl (wT w) s) (hP : wP w M H) (hD : va_D (wA w) (wW w M0)) (hS : va_S (wA w) s.heap H locs) (hm : (g, j) ∈ wI w) {fs : List Value} (hE : wE w g j (M g j) = .inr (ci, fs)) (hc : vwCl[ci]? = some (C, T, N)) (k : Nat) (hk : k < N) (hlink : (Cond.fieldLink own index (T k).1 (T k).2.1 (T k).2.2.1).before args s = true) (hfin : (T k).2.2.2 = false) {x : Int32} (hd : parseFieldDescriptor (T k).2.2.1 = some .int) (hE' : wE w g j (upd (M g j) k x) = .inr (ci, fs.set k (.int x))) (hl : k < fs.length) (hdg : decode cc pc = .ok (.putfield index, 3))
    (kk : ∀ (H1 : Heap) (locs1 : List Loc), wP w (mu M g j k x) H1 → va_S (wA w) s.heap H1 locs1 → W p l e R s m args below meth c H1 locs1 cells slots Q (F0 m (pc + 3) ls rest)) : W p l e R s m args below meth c H locs cells slots Q (F0 m pc ls (.int x :: .ref (wAd w g j) :: rest)) := by
  obtain ⟨q, hi, hq⟩ := pool_at (wAd w) (wE w) M hm
  rw [hE] at hq
  have hD' : va_D (wA w) (wW w M) := pool_D hD
  refine va_put (ty := .int) hexec hb hts hin ty0 hty hnm hown hK hP hD' hS q hq hc k hk hlink (fun _ h9 => h9) hfin hd rfl rfl hl hdg (fun H1 locs1 h1 _ h3 => kk H1 locs1 ?_ h3)
  rw [← hE'] at h1
  rw [pool_set hD' hi] at h1
  exact h1
theorem wx_iald (hexec : p.tables.exec = Jvm.exec) (hb : c.code = cc) (hK : va_K (wD w) vwCl (wT w) s) (hP : wP w M H) (hm : (g, j) ∈ wI w) (t0 : Nat) {cA : ClassId} {n : Nat} (hE : wE w g j (M g j) = .inl (cA, n, .inl (M g j))) (ht : (wT w)[t0]? = some (cA, .int)) {i : Int32} (hin : vp_in i n) (hdg : decode cc pc = .ok (.iaload, 1))
    (kk : W p l e R s m args below meth c H locs cells slots Q (F0 m (pc + 1) ls (.int (M g j i.toNatClampNeg) :: rest))) : W p l e R s m args below meth c H locs cells slots Q (F0 m pc ls (.int i :: .ref (wAd w g j) :: rest)) := by
  obtain ⟨q, -, hq⟩ := pool_at (wAd w) (wE w) M hm
  rw [hE] at hq
  exact va_iald hexec hb hK hP q t0 hq ht hin hdg kk
theorem wx_zald (hexec : p.tables.exec = Jvm.exec) (hb : c.code = cc) (hK : va_K (wD w) vwCl (wT w) s) (hP : wP w M H) (hm : (g, j) ∈ wI w) (t0 : Nat) {cA : ClassId} {n : Nat} (hE : wE w g j (M g j) = .inl (cA, n, .inl (M g j))) (ht : (wT w)[t0]? = some (cA, .boolean)) {i : Int32} (hin : vp_in i n) (hdg : decode cc pc = .ok (.baload, 1))
    (kk : W p l e R s m args below meth c H locs cells slots Q (F0 m (pc + 1) ls (.int (M g j i.toNatClampNeg) :: rest))) : W p l e R s m args below meth c H locs cells slots Q (F0 m pc ls (.int i :: .ref (wAd w g j) :: rest)) := by
  obtain ⟨q, -, hq⟩ := pool_at (wAd w) (wE w) M hm
  rw [hE] at hq
  exact va_zald hexec hb hK hP q t0 hq ht hin hdg kk
theorem wx_iast (hexec : p.tables.exec = Jvm.exec) (hb : c.code = cc) (hK : va_K (wD w) vwCl (wT w) s) (hP : wP w M H) (hD : va_D (wA w) (wW w M0)) (hS : va_S (wA w) s.heap H locs) (hm : (g, j) ∈ wI w) (t0 : Nat) {cA : ClassId} {n : Nat} (hE : ∀ f, wE w g j f = .inl (cA, n, .inl f)) (ht : (wT w)[t0]? = some (cA, .int)) {i x : Int32} (hin : vp_in i n) (hdg : decode cc pc = .ok (.iastore, 1))
    (kk : ∀ (H1 : Heap) (locs1 : List Loc), wP w (mu M g j i.toNatClampNeg x) H1 → va_S (wA w) s.heap H1 locs1 → W p l e R s m args below meth c H1 locs1 cells slots Q (F0 m (pc + 1) ls rest)) : W p l e R s m args below meth c H locs cells slots Q (F0 m pc ls (.int x :: .int i :: .ref (wAd w g j) :: rest)) := by
  obtain ⟨q, hi, hq⟩ := pool_at (wAd w) (wE w) M hm
  rw [hE] at hq
  have hD' : va_D (wA w) (wW w M) := pool_D hD
  refine va_iast hexec hb hK hP hD' hS q t0 hq ht hin hdg (fun H1 locs1 h1 _ h3 => kk H1 locs1 ?_ h3)
  rw [← hE (upd (M g j) i.toNatClampNeg x), pool_set hD' hi] at h1
  exact h1
theorem wx_zast (hexec : p.tables.exec = Jvm.exec) (hb : c.code = cc) (hK : va_K (wD w) vwCl (wT w) s) (hP : wP w M H) (hD : va_D (wA w) (wW w M0)) (hS : va_S (wA w) s.heap H locs) (hm : (g, j) ∈ wI w) (t0 : Nat) {cA : ClassId} {n : Nat} (hE : ∀ f, wE w g j f = .inl (cA, n, .inl f)) (ht : (wT w)[t0]? = some (cA, .boolean)) {i x : Int32} (hin : vp_in i n) (hdg : decode cc pc = .ok (.bastore, 1))
    (kk : ∀ (H1 : Heap) (locs1 : List Loc), wP w (mu M g j i.toNatClampNeg (vp_nar .boolean x)) H1 → va_S (wA w) s.heap H1 locs1 → W p l e R s m args below meth c H1 locs1 cells slots Q (F0 m (pc + 1) ls rest)) : W p l e R s m args below meth c H locs cells slots Q (F0 m pc ls (.int x :: .int i :: .ref (wAd w g j) :: rest)) := by
  obtain ⟨q, hi, hq⟩ := pool_at (wAd w) (wE w) M hm
  rw [hE] at hq
  have hD' : va_D (wA w) (wW w M) := pool_D hD
  refine va_zast hexec hb hK hP hD' hS q t0 hq ht hin hdg (fun H1 locs1 h1 _ h3 => kk H1 locs1 ?_ h3)
  rw [← hE (upd (M g j) i.toNatClampNeg (vp_nar .boolean x)), pool_set hD' hi] at h1
  exact h1
theorem wx_alen (hexec : p.tables.exec = Jvm.exec) (hb : c.code = cc) (hK : va_K (wD w) vwCl (wT w) s) (hP : wP w M H) (hm : (g, j) ∈ wI w) (t0 : Nat) {cA : ClassId} {N : Nat} {x : (Nat → Int32) ⊕ (Nat → Int64) ⊕ (Nat → UInt32) ⊕ (Nat → UInt64) ⊕ (Nat → Option Nat)} (hE : wE w g j (M g j) = .inl (cA, N, x)) {ty : FieldType} (ht : (wT w)[t0]? = some (cA, ty)) (hdg : decode cc pc = .ok (.arraylength, 1))
    (kk : W p l e R s m args below meth c H locs cells slots Q (F0 m (pc + 1) ls (.int (nI N) :: rest))) : W p l e R s m args below meth c H locs cells slots Q (F0 m pc ls (.ref (wAd w g j) :: rest)) := by
  obtain ⟨q, -, hq⟩ := pool_at (wAd w) (wE w) M hm
  rw [hE] at hq
  exact va_alen hexec hb hK hP q t0 hq ht rfl hdg kk
theorem wx_aald (hexec : p.tables.exec = Jvm.exec) (hb : c.code = cc) (hK : va_K (wD w) vwCl (wT w) s) (hP : wP w M H) (hm : (g, j) ∈ wI w) (t0 : Nat) {cA : ClassId} {C : String} {n : Nat} {f : Nat → Option Nat} (hE : wE w g j (M g j) = .inl (cA, n, .inr (.inr (.inr (.inr f))))) (ht : (wT w)[t0]? = some (cA, .object C)) {i : Int32} (hin : vp_in i n) {a : Nat} (hf : f i.toNatClampNeg = some a) (hdg : decode cc pc = .ok (.aaload, 1))
    (kk : W p l e R s m args below meth c H locs cells slots Q (F0 m (pc + 1) ls (.ref a :: rest))) : W p l e R s m args below meth c H locs cells slots Q (F0 m pc ls (.int i :: .ref (wAd w g j) :: rest)) := by
  obtain ⟨q, -, hq⟩ := pool_at (wAd w) (wE w) M hm
  rw [hE] at hq
  refine va_aldq hexec hb hK hP q t0 hq ht hin hdg ?_
  rw [hf]
  exact kk
theorem wx_recv {ci : Nat} {fs : List Value} {q : vw_C} (hK : va_K (wD w) vwCl (wT w) s) (hP : wP w M H) (hm : (g, j) ∈ wI w) (hE : wE w g j (M g j) = .inr (ci, fs)) (hc : vwCl[ci]? = some q) : ∃ cell : Cell, H[wAd w g j]? = some cell ∧ cell.vm.isStatics = false ∧ s.vm.findClass q.1 = some cell.cls := by
  obtain ⟨k, -, hk⟩ := pool_at (wAd w) (wE w) M hm
  rw [hE] at hk
  exact va_recv hK hP hc hk
theorem wx_copy (hexec : p.tables.exec = Jvm.exec) (hb : c.code = cc) (hml : c.maxLocals = ls.size) {own : String} {index : Nat} (hown : s.vm.findClass own = some m.cls) (hlink : (Cond.methodLink own index arraycopyName).before args s = true) (hnat : (Cond.native arraycopyName).before args s = true) (hstat : (Cond.static arraycopyName).before args s = true) (hini : (Cond.initialized "java/lang/System").before args s = true) (hK : va_K (wD w) vwCl (wT w) s) (hP : wP w M H) (hD : va_D (wA w) (wW w M0)) (hS : va_S (wA w) s.heap H locs) (hm : (g, j) ∈ wI w) (t0 : Nat) {cA : ClassId} {N : Nat} (hE : ∀ f, wE w g j f = .inl (cA, N, .inl f)) (ht : (wT w)[t0]? = some (cA, .int)) {sp dp n : Int32} (h1 : ¬ sp < 0) (h2 : ¬ dp < 0) (h3 : ¬ n < 0) (h4 : sp.toNatClampNeg + n.toNatClampNeg ≤ N) (h5 : dp.toNatClampNeg + n.toNatClampNeg ≤ N) (hframes : 1 ≤ R.frames) (hlocals : (rest.map fun v => v.category).sum + (nativeFrameWords "java/lang/System" "arraycopy" 5 + 11) ≤ R.locals) (hdg : decode cc pc = .ok (.invokestatic index, 3))
    (kk : ∀ (H1 : Heap) (locs1 : List Loc), wP w (mr M g j (va_cpy (M g j) (M g j) sp.toNatClampNeg dp.toNatClampNeg n.toNatClampNeg)) H1 → va_S (wA w) s.heap H1 locs1 → W p l e R s m args below meth c H1 locs1 cells slots Q (F0 m (pc + 3) ls rest)) : W p l e R s m args below meth c H locs cells slots Q (F0 m pc ls (.int n :: .int dp :: .ref (wAd w g j) :: .int sp :: .ref (wAd w g j) :: rest)) := by
  obtain ⟨q, hi, hq⟩ := pool_at (wAd w) (wE w) M hm
  rw [hE] at hq
  have hD' : va_D (wA w) (wW w M) := pool_D hD
  refine va_copyi hexec hb hml hown hlink hnat hstat hini hK hP hD' hS q q t0 t0 hq hq ht ht rfl h1 h2 h3 h4 h5 (fun _ _ => rfl) hframes hlocals hdg (fun H1 locs1 h6 _ h7 => kk H1 locs1 ?_ h7)
  rw [← hE (va_cpy (M g j) (M g j) sp.toNatClampNeg dp.toNatClampNeg n.toNatClampNeg), pool_set hD' hi] at h6
  exact h6
/-- ends -/
theorem wx_iret {post : Int32 → Mem → Prop} {v : Int32} {ty : FieldType} (hexec : p.tables.exec = Jvm.exec) (hb : c.code = cc) (hr : meth.sig.returnType = some ty) (hlocks : meth.locks = false) (hP : wP w M H) (hS : va_S (wA w) s.heap H locs) (hn : narrow ty (.int v) = .int v) (hp : post v M) (hdg : decode cc pc = .ok (.ireturn, 1)) : W p l e R s m args below meth c H locs cells slots (MQ below (wQi w post) args s cells slots (wA w)) (F0 m pc ls [.int v]) :=
  W.zret hexec hb hr hn (fun t ht _ => ⟨⟨v, M, rfl, hp, by show wP w M t.heap; rw [ht]; exact hP⟩, hS.F ht⟩) hS.2.2 hdg hlocks
theorem wx_vret {post : Mem → Prop} (hexec : p.tables.exec = Jvm.exec) (hb : c.code = cc) (hr : meth.sig.returnType = none) (hlocks : meth.locks = false) (hP : wP w M H) (hS : va_S (wA w) s.heap H locs) (hp : post M) (hdg : decode cc pc = .ok (.return_, 1)) : W p l e R s m args below meth c H locs cells slots (MQ below (wQv w post) args s cells slots (wA w)) (F0 m pc ls []) :=
  W.vret hexec hb hr (fun t ht _ => ⟨⟨M, rfl, hp, by show wP w M t.heap; rw [ht]; exact hP⟩, hS.F ht⟩) hS.2.2 hdg hlocks
theorem wx_aret {post : Option Nat → Mem → Prop} (r : Option Nat) {rt : FieldType} (hexec : p.tables.exec = Jvm.exec) (hb : c.code = cc) (hr : meth.sig.returnType = some rt) (hrt : (∃ n, rt = .object n) ∨ ∃ t, rt = .array t) (hlocks : meth.locks = false) (hP : wP w M H) (hS : va_S (wA w) s.heap H locs) (hp : post r M) (hdg : decode cc pc = .ok (.areturn, 1)) : W p l e R s m args below meth c H locs cells slots (MQ below (wQq w post) args s cells slots (wA w)) (F0 m pc ls [va_rf r]) :=
  W.aret hexec hb hr hrt (va_rf_or r) (fun t ht _ => ⟨⟨r, M, rfl, hp, by show wP w M t.heap; rw [ht]; exact hP⟩, hS.F ht⟩) hS.2.2 hdg hlocks
end WX
/-- a method's entry -/
theorem wx_met {l : Launch} {y : MethodName} {ws ws' : List Cond} {rm : Room} {w : WG} {M : Mem} {av : List Value} {Qc : Array Value → State → Outcome → State → Prop} {cc : ByteArray} {maxL : Nat} {ret : Option FieldType} (hy : plainName y.cls = true) (hw : ws = Cond.code y cc maxL ret :: ws') (hlen : (lg_sl av).length ≤ maxL)
    (body : ∀ (p : Program) (e : Env) (s : State) (m : MethodId) (below : List Frame) (meth : Method) (c : Code) (ls : Array Slot), p.tables.exec = Jvm.exec → c.code = cc → meth.sig.returnType = ret → c.maxLocals = maxL → (∀ x ∈ ws, x.before av.toArray s = true) → s.vm.findClass y.cls = some m.cls → meth.locks = false → wP w M s.heap → va_K (wD w) vwCl (wT w) s → va_D (wA w) (wW w M) → wZ w (wA w) s s.heap → va_S (wA w) s.heap s.heap [] → lv_has ls maxL (lv_args 0 av) →
      W p l e rm s m av.toArray below meth c s.heap [] 0 0 (MQ below Qc av.toArray s 0 0 (wA w)) (F0 m 0 ls [])) : Met l y ws rm (wPc w M av) Qc 0 0 (wA w) := by
  refine Met.ofW (cc := cc) (maxL := maxL) (ret := ret) hy hw ?_
  intro p e s m args below meth c s₁ B hml hv
  obtain ⟨rfl, hP, hK, hD, hZ⟩ := hv
  have hl := lv_entry av (n := maxL) hlen
  rw [lg_entry_eq]
  exact body p e s m below meth c _ B.exec B.bytes B.returns hml (atoms_spec (ws := ws) B.pre) (findClass_of_methodNamed B.named) B.notSynchronized hP hK hD hZ va_S.rf hl
abbrev rmK (f l : Nat) : Room := { frames := f, cells := 0, slots := 0, locals := l }
theorem vp_lt {x : Int32} {n : Nat} (h : vp_in x n) : x.toNatClampNeg < n := Nat.not_le.mp fun q => h (Or.inr q)
section WCALL
variable {p : Program} {l : Launch} {e : Env} {R : Room} {s : State} {m : MethodId} {args : Array Value} {below : List Frame} {meth : Method} {c : Code} {H : Heap} {locs : List Loc} {cells slots : Nat} {Q : State → Prop}
variable {cc bytes : ByteArray} {pc index n maxL nL : Nat} {ls : Array Slot} {w : WG} {M M0 : Mem} {b : Nat} {y : MethodName} {ws Ts : List Cond} {rm : Room} {own C host : String} {ret : Option FieldType}
/-- calls: the answer and the memory behind are told by the contract -/
theorem wx_Vi (V : Int32) (U9 : Mem) (As rest : List Value) (hz : wZok w) (S : CallFix p m c cc nL s args Ts own) (hM : Met l y ws rm (wPc w M (.ref b :: As)) (wQi w (fun r x => r = V ∧ x = U9)) 0 0 (wA w)) (cw : CallW R s args own C index y bytes maxL ret ws rm 0 0 n) (hrc : ∃ cell : Cell, H[b]? = some cell ∧ cell.vm.isStatics = false ∧ s.vm.findClass C = some cell.cls) (hP : wP w M H) (hK : va_K (wD w) vwCl (wT w) s) (hD : va_D (wA w) (wW w M0)) (hZ : wZ w (wA w) s s.heap) (hS : va_S (wA w) s.heap H locs) (hn : As.length = n) (hsz : ls.size = nL) {st : List Value} (hst : st = As.reverse ++ .ref b :: rest) (hr8 : (rest.map fun v => v.category).sum ≤ 8) (hdg : decode cc pc = .ok (.invokevirtual index, 3)) (hf : cells ≤ R.cells ∧ slots ≤ R.slots)
    (kk : ∀ (H1 : Heap) (locs1 : List Loc), wP w U9 H1 → va_S (wA w) s.heap H1 locs1 → W p l e R s m args below meth c H1 locs1 cells slots Q (F0 m (pc + 3) ls (.int V :: rest))) : W p l e R s m args below meth c H locs cells slots Q (F0 m pc ls st) := by
  subst hst
  refine va_calli (va_runV (As := As) (rest := rest) S hM cw ⟨wOK_blind hz M _, hrc, fun U hU hW => ⟨rfl, wOK_call hz hP hK hD hZ hS hU hW⟩⟩ rfl hn hsz rfl (lv_room hr8) hdg hf) hS (fun _ _ h => h) (fun _ h => h) (fun r u t H1 locs1 ht _ hw hB _ _ hS1 => ?_)
  have hB' : wP w u t.heap := hB
  rw [ht] at hB'
  obtain ⟨h1, h2⟩ := hw
  rw [h1]
  rw [h2] at hB'
  exact kk H1 locs1 hB' hS1
theorem wx_Vv (U9 : Mem) (As rest : List Value) (hz : wZok w) (S : CallFix p m c cc nL s args Ts own) (hM : Met l y ws rm (wPc w M (.ref b :: As)) (wQv w (fun x => x = U9)) 0 0 (wA w)) (cw : CallW R s args own C index y bytes maxL ret ws rm 0 0 n) (hrc : ∃ cell : Cell, H[b]? = some cell ∧ cell.vm.isStatics = false ∧ s.vm.findClass C = some cell.cls) (hP : wP w M H) (hK : va_K (wD w) vwCl (wT w) s) (hD : va_D (wA w) (wW w M0)) (hZ : wZ w (wA w) s s.heap) (hS : va_S (wA w) s.heap H locs) (hn : As.length = n) (hsz : ls.size = nL) {st : List Value} (hst : st = As.reverse ++ .ref b :: rest) (hr8 : (rest.map fun v => v.category).sum ≤ 8) (hdg : decode cc pc = .ok (.invokevirtual index, 3)) (hf : cells ≤ R.cells ∧ slots ≤ R.slots)
    (kk : ∀ (H1 : Heap) (locs1 : List Loc), wP w U9 H1 → va_S (wA w) s.heap H1 locs1 → W p l e R s m args below meth c H1 locs1 cells slots Q (F0 m (pc + 3) ls rest)) : W p l e R s m args below meth c H locs cells slots Q (F0 m pc ls st) := by
  subst hst
  refine va_callv (va_runV (As := As) (rest := rest) S hM cw ⟨wOK_blind hz M _, hrc, fun U hU hW => ⟨rfl, wOK_call hz hP hK hD hZ hS hU hW⟩⟩ rfl hn hsz rfl (lv_room hr8) hdg hf) hS (fun _ _ h => h) (fun _ h => h) (fun u t H1 locs1 ht _ hw hB _ _ hS1 => ?_)
  have hB' : wP w u t.heap := hB
  rw [ht] at hB'
  rw [show u = U9 from hw] at hB'
  exact kk H1 locs1 hB' hS1
theorem wx_Vq (o : Option Nat) (As rest : List Value) (hz : wZok w) (S : CallFix p m c cc nL s args Ts own) (hM : Met l y ws rm (wPc w M (.ref b :: As)) (wQq w (fun r u => r = o.map (fun i => wAd w (i + 1) 0) ∧ u = M)) 0 0 (wA w)) (cw : CallW R s args own C index y bytes maxL ret ws rm 0 0 n) (hrc : ∃ cell : Cell, H[b]? = some cell ∧ cell.vm.isStatics = false ∧ s.vm.findClass C = some cell.cls) (hP : wP w M H) (hK : va_K (wD w) vwCl (wT w) s) (hD : va_D (wA w) (wW w M0)) (hZ : wZ w (wA w) s s.heap) (hS : va_S (wA w) s.heap H locs) (hn : As.length = n) (hsz : ls.size = nL) {st : List Value} (hst : st = As.reverse ++ .ref b :: rest) (hr8 : (rest.map fun v => v.category).sum ≤ 8) (hdg : decode cc pc = .ok (.invokevirtual index, 3)) (hf : cells ≤ R.cells ∧ slots ≤ R.slots)
    (k0 : ∀ (H1 : Heap) (locs1 : List Loc), o = none → wP w M H1 → va_S (wA w) s.heap H1 locs1 → W p l e R s m args below meth c H1 locs1 cells slots Q (F0 m (pc + 3) ls (.null :: rest)))
    (k1 : ∀ (i : Nat) (H1 : Heap) (locs1 : List Loc), o = some i → wP w M H1 → va_S (wA w) s.heap H1 locs1 → W p l e R s m args below meth c H1 locs1 cells slots Q (F0 m (pc + 3) ls (.ref (wAd w (i + 1) 0) :: rest))) : W p l e R s m args below meth c H locs cells slots Q (F0 m pc ls st) := by
  subst hst
  refine va_callq (va_runV (As := As) (rest := rest) S hM cw ⟨wOK_blind hz M _, hrc, fun U hU hW => ⟨rfl, wOK_call hz hP hK hD hZ hS hU hW⟩⟩ rfl hn hsz rfl (lv_room hr8) hdg hf) hS (fun _ _ h => h) (fun _ h => h) (fun r u t H1 locs1 ht _ hw hB _ _ hS1 => ?_)
  obtain ⟨rfl, rfl⟩ := hw
  have hB' : wP w u t.heap := hB
  rw [ht] at hB'
  cases o with
  | none => exact k0 H1 locs1 rfl hB' hS1
  | some i => exact k1 i H1 locs1 rfl hB' hS1
theorem wx_Si (V : Int32) (U9 : Mem) (As rest : List Value) (hz : wZok w) (S : CallFix p m c cc nL s args Ts own) (hM : Met l y ws rm (wPc w M As) (wQi w (fun r x => r = V ∧ x = U9)) 0 0 (wA w)) (cw : CallB R s args own index y bytes maxL ret ws rm 0 0 n ∧ (Cond.static y).before args s = true) (hP : wP w M H) (hK : va_K (wD w) vwCl (wT w) s) (hD : va_D (wA w) (wW w M0)) (hZ : wZ w (wA w) s s.heap) (hS : va_S (wA w) s.heap H locs) (hn : As.length = n) (hsz : ls.size = nL) {st : List Value} (hst : st = As.reverse ++ rest) (hr8 : (rest.map fun v => v.category).sum ≤ 8) (hdg : decode cc pc = .ok (.invokestatic index, 3)) (hf : cells ≤ R.cells ∧ slots ≤ R.slots)
    (kk : ∀ (H1 : Heap) (locs1 : List Loc), wP w U9 H1 → va_S (wA w) s.heap H1 locs1 → W p l e R s m args below meth c H1 locs1 cells slots Q (F0 m (pc + 3) ls (.int V :: rest))) : W p l e R s m args below meth c H locs cells slots Q (F0 m pc ls st) := by
  subst hst
  refine va_calli (va_runS (As := As) (rest := rest) S hM cw ⟨wOK_blind hz M _, fun U hU hW => ⟨rfl, wOK_call hz hP hK hD hZ hS hU hW⟩⟩ rfl hn hsz rfl (lv_room hr8) hdg hf) hS (fun _ _ h => h) (fun _ h => h) (fun r u t H1 locs1 ht _ hw hB _ _ hS1 => ?_)
  have hB' : wP w u t.heap := hB
  rw [ht] at hB'
  obtain ⟨h1, h2⟩ := hw
  rw [h1]
  rw [h2] at hB'
  exact kk H1 locs1 hB' hS1
theorem wx_Sv (U9 : Mem) (As rest : List Value) (hz : wZok w) (S : CallFix p m c cc nL s args Ts own) (hM : Met l y ws rm (wPc w M As) (wQv w (fun x => x = U9)) 0 0 (wA w)) (cw : CallB R s args own index y bytes maxL ret ws rm 0 0 n ∧ (Cond.static y).before args s = true) (hP : wP w M H) (hK : va_K (wD w) vwCl (wT w) s) (hD : va_D (wA w) (wW w M0)) (hZ : wZ w (wA w) s s.heap) (hS : va_S (wA w) s.heap H locs) (hn : As.length = n) (hsz : ls.size = nL) {st : List Value} (hst : st = As.reverse ++ rest) (hr8 : (rest.map fun v => v.category).sum ≤ 8) (hdg : decode cc pc = .ok (.invokestatic index, 3)) (hf : cells ≤ R.cells ∧ slots ≤ R.slots)
    (kk : ∀ (H1 : Heap) (locs1 : List Loc), wP w U9 H1 → va_S (wA w) s.heap H1 locs1 → W p l e R s m args below meth c H1 locs1 cells slots Q (F0 m (pc + 3) ls rest)) : W p l e R s m args below meth c H locs cells slots Q (F0 m pc ls st) := by
  subst hst
  refine va_callv (va_runS (As := As) (rest := rest) S hM cw ⟨wOK_blind hz M _, fun U hU hW => ⟨rfl, wOK_call hz hP hK hD hZ hS hU hW⟩⟩ rfl hn hsz rfl (lv_room hr8) hdg hf) hS (fun _ _ h => h) (fun _ h => h) (fun u t H1 locs1 ht _ hw hB _ _ hS1 => ?_)
  have hB' : wP w u t.heap := hB
  rw [ht] at hB'
  rw [show u = U9 from hw] at hB'
  exact kk H1 locs1 hB' hS1
theorem wx_Ni (V : Int32) (U9 : Mem) (As rest : List Value) (hz : wZok w) (S : CallFix p m c cc nL s args Ts own) (hM : Met l y ws rm (wPc w M As) (wQi w (fun r x => r = V ∧ x = U9)) 0 0 (wA w)) (cw : va_CN R s args own index y host bytes maxL ret ws rm 0 0 n ∧ (Cond.static y).before args s = true ∧ True) (hP : wP w M H) (hK : va_K (wD w) vwCl (wT w) s) (hD : va_D (wA w) (wW w M0)) (hZ : wZ w (wA w) s s.heap) (hS : va_S (wA w) s.heap H locs) (hn : As.length = n) (hsz : ls.size = nL) {st : List Value} (hst : st = As.reverse ++ rest) (hr8 : (rest.map fun v => v.category).sum ≤ 8) (hdg : decode cc pc = .ok (.invokestatic index, 3)) (hf : cells ≤ R.cells ∧ slots ≤ R.slots)
    (kk : ∀ (H1 : Heap) (locs1 : List Loc), wP w U9 H1 → va_S (wA w) s.heap H1 locs1 → W p l e R s m args below meth c H1 locs1 cells slots Q (F0 m (pc + 3) ls (.int V :: rest))) : W p l e R s m args below meth c H locs cells slots Q (F0 m pc ls st) := by
  subst hst
  refine va_calli (va_runSN (As := As) (rest := rest) S hM cw ⟨wOK_blind hz M _, fun U hU hW => ⟨rfl, wOK_call hz hP hK hD hZ hS hU hW⟩⟩ rfl hn hsz rfl (lv_room hr8) hdg hf) hS (fun _ _ h => h) (fun _ h => h) (fun r u t H1 locs1 ht _ hw hB _ _ hS1 => ?_)
  have hB' : wP w u t.heap := hB
  rw [ht] at hB'
  obtain ⟨h1, h2⟩ := hw
  rw [h1]
  rw [h2] at hB'
  exact kk H1 locs1 hB' hS1
end WCALL
