/-! THE CLAIM OUT OF ONE WALK OF THE LAW'S BODY. Your part is whole_start (and what it stands on); all else here is the same for every law, but numbers. -/
def R_law : String := "RobotWorldLaw"
def lw_P (b : Addr) (xs : List Int32) (args : Array Value) (s : State) : Prop := args = #[.ref b] ∧ s.IntsAt b xs ∧ xs.length ≤ 2565 ∧ (Jvm.Cond.and given_1 narrow_1).before args s = true
def lw_Q (_ : Array Value) (s : State) (o : Outcome) (t : State) : Prop := o = .returned (some (.int 1)) ∧ Framed s o t [] 600000 7302250
def lw_Z (below : List Frame) (a : Array Value) (s : State) : State → Prop := fun t => ∃ o, t.status = .running ∧ Ended t below o ∧ lw_Q a s o t
/-- the law's own end, with 1 on the stack, nothing written that was there before, its room as the claim has it -/
theorem lw_ret {p : Program} {l : Launch} {e : Env} {s : State} {m : MethodId} {below : List Frame} {meth : Method} {c : Code} {b : Nat} (hx : p.tables.exec = Jvm.exec) (hb : c.code = code) (hr : meth.sig.returnType = ret) (hlocks : meth.locks = false) {pc : Nat} {H : Heap} {ls : Array Slot} (hdg : decode code pc = .ok (.ireturn, 1)) : W p l e room_1 s m #[Value.ref b] below meth c H [] 600000 7302250 (lw_Z below #[Value.ref b] s) (F0 m pc ls [.int 1]) := by
  intro T hT X
  obtain ⟨fs, hret, hrun, hended, hW, hframe⟩ := X.leave (v := some (.int 1)) (hlocks := hlocks) (fun h => by rw [hr] at h; cases h)
  have hmeth' : T.vm.method? m = some meth := X.method'
  refine ⟨T.setFrames fs, ?_, .returned (some (.int 1)), hrun, hended, rfl, ⟨_, rfl⟩, hW, hframe⟩
  jvm_step X.here [X.here.top, hx, hb, hdg, hmeth', hr, ret, narrow_b1]
  (try refine ⟨rfl, ?_⟩); (try refine ⟨rfl, ?_⟩)
  first | (intro acts; rw [hret _ acts rfl rfl rfl]) | rw [hret _ _ rfl rfl rfl]
  exact Steps.refl _
/-- what holds at the law's entry: the machine, the code, the tables' words (any of lw_tbl by 'hts w (by decide +kernel)'), the script of L ints xs at the cell b, what the Statement gives of the start (any of its parts by flat_of_before) -/
def lw_At (p : Program) (s : State) (m : MethodId) (meth : Method) (c : Code) (b L : Nat) (xs : Nat → Int32) : Prop :=
  p.tables.exec = Jvm.exec ∧ c.code = code ∧ meth.sig.returnType = ret ∧ c.maxLocals = 4 ∧ s.vm.findClass R_law = some m.cls ∧ (∀ w ∈ lw_tbl, w.before #[Value.ref b] s = true) ∧ va_X b L xs s s.heap ∧ b < s.heap.size ∧ meth.locks = false ∧ (Jvm.Cond.and given_1 narrow_1).before #[Value.ref b] s = true
/-- the law's counter: it stands at a, five by five -/
def lpL (L n : Nat) (x : Int32) : Prop := ∃ a : Nat, x = nI a ∧ a ≤ L + 5 ∧ L + 5 < a + n
theorem lpL_z {L : Nat} {x : Int32} : ¬ lpL L 0 x := fun ⟨_, _, h1, h2⟩ => by omega
theorem lpL_a {L n : Nat} {x : Int32} (h : lpL L n x) (c : ¬ nI L - 5 < x) (hL : L ≤ 2565) : ∃ a : Nat, x = nI a ∧ a + 5 ≤ L := by
  obtain ⟨a, rfl, h1, h2⟩ := h
  refine ⟨a, rfl, ?_⟩
  have h3 := Int32.not_lt.mp c
  have h4 := Int32.le_iff_toInt_le.mp h3
  have h5 : (nI L - 5).toInt = (L : Int) - 5 := pk_sub_toInt (a := L) (b := 5) (by omega) (by omega)
  rw [h5, nI_toInt (by omega)] at h4
  omega
theorem lpL_s {L n : Nat} {x : Int32} (h : lpL L (n + 1) x) (c : ¬ nI L - 5 < x) (hL : L ≤ 2565) : lpL L n (x + 5) := by
  obtain ⟨a, rfl, h1⟩ := lpL_a h c hL
  obtain ⟨a', e, h2, h3⟩ := h
  have : a = a' := (nI_eq (by omega) (by omega)).mp e
  subst this
  exact ⟨a + 5, nI_add a 5, by omega, by omega⟩
theorem lpL_0 {L n : Nat} {x : Int32} (h : lpL L n x) (c : ¬ nI L - 5 < x) (hL : L ≤ 2565) : vp_in x L := by
  obtain ⟨a, rfl, h1⟩ := lpL_a h c hL
  exact vp_in_nI (by omega) (by omega)
theorem lpL_1 {L n : Nat} {x : Int32} (h : lpL L n x) (c : ¬ nI L - 5 < x) (hL : L ≤ 2565) : vp_in (x + 1) L := by
  obtain ⟨a, rfl, h1⟩ := lpL_a h c hL
  rw [show nI a + 1 = nI (a + 1) from nI_add a 1]
  exact vp_in_nI (by omega) (by omega)
theorem lpL_2 {L n : Nat} {x : Int32} (h : lpL L n x) (c : ¬ nI L - 5 < x) (hL : L ≤ 2565) : vp_in (x + 2) L := by
  obtain ⟨a, rfl, h1⟩ := lpL_a h c hL
  rw [show nI a + 2 = nI (a + 2) from nI_add a 2]
  exact vp_in_nI (by omega) (by omega)
theorem lpL_3 {L n : Nat} {x : Int32} (h : lpL L n x) (c : ¬ nI L - 5 < x) (hL : L ≤ 2565) : vp_in (x + 3) L := by
  obtain ⟨a, rfl, h1⟩ := lpL_a h c hL
  rw [show nI a + 3 = nI (a + 3) from nI_add a 3]
  exact vp_in_nI (by omega) (by omega)
theorem lpL_4 {L n : Nat} {x : Int32} (h : lpL L n x) (c : ¬ nI L - 5 < x) (hL : L ≤ 2565) : vp_in (x + 4) L := by
  obtain ⟨a, rfl, h1⟩ := lpL_a h c hL
  rw [show nI a + 4 = nI (a + 4) from nI_add a 4]
  exact vp_in_nI (by omega) (by omega)
set_option maxHeartbeats 4000000 in
set_option maxRecDepth 100000 in
theorem law_loop {p : Program} {l : Launch} {e : Env} {s : State} {m : MethodId} {below : List Frame} {meth : Method} {c : Code} {b L : Nat} {xs : Nat → Int32} (hL : L ≤ 2565) (C0 : lw_At p s m meth c b L xs) (k : CK) (q : MK) (hKC : va_K (wD (cw k)) vwCl (wT (cw k)) s) (hKM : va_K (wD (mw q)) vwCl (wT (mw q)) s) (hZ : cZ k (fun a : Nat => s.heap.size ≤ a) s s.heap) (hdis : ∀ a, wA (mw q) a → ¬ wA (cw k) a) (hdis2 : ∀ a, wA (cw k) a → ¬ wA (mw q) a) :
    ∀ (n : Nat) (x3 : Int32) (M N : Mem) (H : Heap) (locs : List Loc) (ls : Array Slot), lpL L n x3 → SimR k q M N → wP (cw k) M H → wP (mw q) N H → va_D (fun a : Nat => s.heap.size ≤ a) (wW (cw k) M) → va_D (fun a : Nat => s.heap.size ≤ a) (wW (mw q) N) → va_S (fun a : Nat => s.heap.size ≤ a) s.heap H locs → lv_has ls 4 [(3, .int x3), (2, .ref (q.1 0 0)), (1, .ref (k.1 0 0)), (0, .ref b)] → W p l e room_1 s m #[Value.ref b] below meth c H locs 62 8352 (lw_Z below #[Value.ref b] s) (F0 m 68 ls []) := by
  obtain ⟨hx, hb, hr, hml, hown, hts0, hX, hbl, hlocks, hgv⟩ := C0
  have hb : c.code = cL_law := hb
  have hown : s.vm.findClass RL = some m.cls := hown
  have hts : ∀ w ∈ wsL_law, w.before #[Value.ref b] s = true := fun w h => hts0 w (wsL_law_in w h)
  have hbA : ¬ (fun a : Nat => s.heap.size ≤ a) b := Nat.not_le.mpr hbl
  intro n
  induction n with
  | zero => intro x3 M N H locs ls hinv; exact absurd hinv lpL_z
  | succ n ih =>
    intro x3 M N H locs ls hinv hR hP hQ hDC hDM hS hl
    refine lv_iload_n hx hb dL_law_68 rfl (lv_at hl 0 rfl) ?_
    refine lv_aload_n hx hb dL_law_69 rfl (lv_at hl 3 rfl) ?_
    refine va_slen hx hb hX hbl hbA hS dL_law_70 ?_
    refine lv_iconst (v := 5) hx hb dL_law_71 (by decide) ?_
    refine lv_isub hx hb dL_law_72 ?_
    refine lv_icmp_gt (tgt := 643) hx hb dL_law_73 (by decide) (fun c73 => ?_) (fun c73 => ?_)
    · refine lv_iconst (v := 1) hx hb dL_law_643 (by decide) ?_
      refine va_forget (fun a ha => hS.2.2 a ha) ?_
      refine W.widen (k := 600000) (n := 7302250) (by decide) (by decide) ?_
      exact lw_ret hx hb hr hlocks dL_law_644
    · have hi0 := lpL_0 hinv c73 hL
      have hi1 := lpL_1 hinv c73 hL
      have hi2 := lpL_2 hinv c73 hL
      have hi3 := lpL_3 hinv c73 hL
      have hi4 := lpL_4 hinv c73 hL
      refine lv_aload_n hx hb dL_law_76 rfl (lv_at hl 3 rfl) ?_
      refine lv_iload_n hx hb dL_law_77 rfl (lv_at hl 0 rfl) ?_
      refine va_sld hx hb hX hbl hbA hS hi0 dL_law_78 ?_
      refine lv_bipush (v := 31) hx hb dL_law_79 (by decide) ?_
      refine lv_iand hx hb dL_law_81 ?_
      by_cases e_0 : (xs x3.toNatClampNeg &&& 31) = 0
      · refine lv_tableIn (tgt := 164) hx hb dL_law_82 (by rw [e_0]; decide) (by rw [e_0]; decide) (by rw [e_0]; rfl) (by decide) ?_
        refine lv_aload_n hx hb dL_law_164 rfl (lv_at hl 2 rfl) ?_
        refine ly_Vv (w := (cw k)) (f_X3_init_ k M) [] [] (cZok k) ⟨hx, hb, hml, hown, hts⟩ (c_X3_init_ l k M  hR.1) (cwV 0 hts gL_law_X3_init_ rfl rfl rfl (by decide +kernel) ⟨by decide, by decide⟩) (wx_recv (w := (cw k)) (g := 0) (j := 0) hKC hP (cIx_0 (by decide)) rfl rfl) hP hKC hDC hZ (fun _ _ h => cZ_n (wA_sub hDC) h) hS rfl hl.1 rfl (Nat.le_of_ble_eq_true rfl) dL_law_165 ⟨by decide, by decide⟩ (fun H locs hP hDC hS _ hk9 => ?_)
        have hQ := keep2 hQ hdis hk9
        refine lv_aload_n hx hb dL_law_168 rfl (lv_at hl 1 rfl) ?_
        refine ly_Vv (w := (mw q)) (f_X4_init_ q N) [] [] (mZok q) ⟨hx, hb, hml, hown, hts⟩ (c_X4_init_ l q N  (mI_F hR.2.1)) (cwV 0 hts gL_law_X4_init_ rfl rfl rfl (by decide +kernel) ⟨by decide, by decide⟩) (wx_recv (w := (mw q)) (g := 0) (j := 0) hKM hQ (mIx_0 (by decide)) rfl rfl) hQ hKM hDM trivial (fun _ _ _ => trivial) hS rfl hl.1 rfl (Nat.le_of_ble_eq_true rfl) dL_law_169 ⟨by decide, by decide⟩ (fun H locs hQ hDM hS _ hk9 => ?_)
        have hP := keep2 hP hdis2 hk9
        refine lv_goto (tgt := 637) hx hb dL_law_172 (by decide) ?_
        refine lv_iinc (v := x3 + 5) (lv' := [(3, .int (x3 + 5)), (2, .ref (q.1 0 0)), (1, .ref (k.1 0 0)), (0, .ref b)]) hx hb dL_law_637 hl (k := 0) rfl rfl (by decide) rfl (fun ls hl => ?_)
        refine lv_goto (tgt := 68) hx hb dL_law_640 (by decide) ?_
        exact ih (x3 + 5) (f_X3_init_ k M) (f_X4_init_ q N) _ _ ls (lpL_s hinv c73 hL) (sim_init_ hR ) hP hQ hDC hDM hS hl
      by_cases e_1 : (xs x3.toNatClampNeg &&& 31) = 1
      · refine lv_tableIn (tgt := 175) hx hb dL_law_82 (by rw [e_1]; decide) (by rw [e_1]; decide) (by rw [e_1]; rfl) (by decide) ?_
        refine lv_aload_n hx hb dL_law_175 rfl (lv_at hl 2 rfl) ?_
        refine lv_aload_n hx hb dL_law_176 rfl (lv_at hl 3 rfl) ?_
        refine lv_iload_n hx hb dL_law_177 rfl (lv_at hl 0 rfl) ?_
        refine lv_iconst (v := 1) hx hb dL_law_178 (by decide) ?_
        refine lv_iadd hx hb dL_law_179 ?_
        refine va_sld hx hb hX hbl hbA hS hi1 dL_law_180 ?_
        refine lv_aload_n hx hb dL_law_181 rfl (lv_at hl 3 rfl) ?_
        refine lv_iload_n hx hb dL_law_182 rfl (lv_at hl 0 rfl) ?_
        refine lv_iconst (v := 2) hx hb dL_law_183 (by decide) ?_
        refine lv_iadd hx hb dL_law_184 ?_
        refine va_sld hx hb hX hbl hbA hS hi2 dL_law_185 ?_
        refine lv_aload_n hx hb dL_law_186 rfl (lv_at hl 3 rfl) ?_
        refine lv_iload_n hx hb dL_law_187 rfl (lv_at hl 0 rfl) ?_
        refine lv_iconst (v := 3) hx hb dL_law_188 (by decide) ?_
        refine lv_iadd hx hb dL_law_189 ?_
        refine va_sld hx hb hX hbl hbA hS hi3 dL_law_190 ?_
        refine lv_if_eq (tgt := 198) hx hb dL_law_191 (by decide) (fun cb => ?_) (fun cb => ?_)
        · refine lv_iconst (v := 0) hx hb dL_law_198 (by decide) ?_
          refine ly_Vi (w := (cw k)) ((f_X3_setWall k M (xs (x3 + 1).toNatClampNeg) (xs (x3 + 2).toNatClampNeg) 0).1) ((f_X3_setWall k M (xs (x3 + 1).toNatClampNeg) (xs (x3 + 2).toNatClampNeg) 0).2) [.int (xs (x3 + 1).toNatClampNeg), .int (xs (x3 + 2).toNatClampNeg), .int 0] [] (cZok k) ⟨hx, hb, hml, hown, hts⟩ (c_X3_setWall l k M (xs (x3 + 1).toNatClampNeg) (xs (x3 + 2).toNatClampNeg) 0 hR.1) (cwV 3 hts gL_law_X3_setWall rfl rfl rfl (by decide +kernel) ⟨by decide, by decide⟩) (wx_recv (w := (cw k)) (g := 0) (j := 0) hKC hP (cIx_0 (by decide)) rfl rfl) hP hKC hDC hZ (fun _ _ h => cZ_n (wA_sub hDC) h) hS rfl hl.1 rfl (Nat.le_of_ble_eq_true rfl) dL_law_199 ⟨by decide, by decide⟩ (fun H locs hP hDC hS _ hk9 => ?_)
          have hQ := keep2 hQ hdis hk9
          refine lv_aload_n hx hb dL_law_202 rfl (lv_at hl 1 rfl) ?_
          refine lv_aload_n hx hb dL_law_203 rfl (lv_at hl 3 rfl) ?_
          refine lv_iload_n hx hb dL_law_204 rfl (lv_at hl 0 rfl) ?_
          refine lv_iconst (v := 1) hx hb dL_law_205 (by decide) ?_
          refine lv_iadd hx hb dL_law_206 ?_
          refine va_sld hx hb hX hbl hbA hS hi1 dL_law_207 ?_
          refine lv_aload_n hx hb dL_law_208 rfl (lv_at hl 3 rfl) ?_
          refine lv_iload_n hx hb dL_law_209 rfl (lv_at hl 0 rfl) ?_
          refine lv_iconst (v := 2) hx hb dL_law_210 (by decide) ?_
          refine lv_iadd hx hb dL_law_211 ?_
          refine va_sld hx hb hX hbl hbA hS hi2 dL_law_212 ?_
          refine lv_aload_n hx hb dL_law_213 rfl (lv_at hl 3 rfl) ?_
          refine lv_iload_n hx hb dL_law_214 rfl (lv_at hl 0 rfl) ?_
          refine lv_iconst (v := 3) hx hb dL_law_215 (by decide) ?_
          refine lv_iadd hx hb dL_law_216 ?_
          refine va_sld hx hb hX hbl hbA hS hi3 dL_law_217 ?_
          refine lv_if_eq (tgt := 225) hx hb dL_law_218 (by decide) (fun _ => ?_) (fun h9 => absurd cb h9)
          refine lv_iconst (v := 0) hx hb dL_law_225 (by decide) ?_
          refine ly_Vi (w := (mw q)) ((f_X4_setWall q N (xs (x3 + 1).toNatClampNeg) (xs (x3 + 2).toNatClampNeg) 0).1) ((f_X4_setWall q N (xs (x3 + 1).toNatClampNeg) (xs (x3 + 2).toNatClampNeg) 0).2) [.int (xs (x3 + 1).toNatClampNeg), .int (xs (x3 + 2).toNatClampNeg), .int 0] [.int ((f_X3_setWall k M (xs (x3 + 1).toNatClampNeg) (xs (x3 + 2).toNatClampNeg) 0).1)] (mZok q) ⟨hx, hb, hml, hown, hts⟩ (c_X4_setWall l q N (xs (x3 + 1).toNatClampNeg) (xs (x3 + 2).toNatClampNeg) 0 hR.2.1) (cwV 3 hts gL_law_X4_setWall rfl rfl rfl (by decide +kernel) ⟨by decide, by decide⟩) (wx_recv (w := (mw q)) (g := 0) (j := 0) hKM hQ (mIx_0 (by decide)) rfl rfl) hQ hKM hDM trivial (fun _ _ _ => trivial) hS rfl hl.1 rfl (Nat.le_of_ble_eq_true rfl) dL_law_226 ⟨by decide, by decide⟩ (fun H locs hQ hDM hS _ hk9 => ?_)
          have hP := keep2 hP hdis2 hk9
          refine lv_icmp_eq (tgt := 637) hx hb dL_law_229 (by decide) (fun _ => ?_) (fun h9 => absurd (sim_setWall hR (xs (x3 + 1).toNatClampNeg) (xs (x3 + 2).toNatClampNeg) 0 (Or.inl rfl)).1 h9)
          refine lv_iinc (v := x3 + 5) (lv' := [(3, .int (x3 + 5)), (2, .ref (q.1 0 0)), (1, .ref (k.1 0 0)), (0, .ref b)]) hx hb dL_law_637 hl (k := 0) rfl rfl (by decide) rfl (fun ls hl => ?_)
          refine lv_goto (tgt := 68) hx hb dL_law_640 (by decide) ?_
          exact ih (x3 + 5) (f_X3_setWall k M (xs (x3 + 1).toNatClampNeg) (xs (x3 + 2).toNatClampNeg) 0).2 (f_X4_setWall q N (xs (x3 + 1).toNatClampNeg) (xs (x3 + 2).toNatClampNeg) 0).2 _ _ ls (lpL_s hinv c73 hL) (sim_setWall hR (xs (x3 + 1).toNatClampNeg) (xs (x3 + 2).toNatClampNeg) 0 (Or.inl rfl)).2 hP hQ hDC hDM hS hl
        · refine lv_iconst (v := 1) hx hb dL_law_194 (by decide) ?_
          refine lv_goto (tgt := 199) hx hb dL_law_195 (by decide) ?_
          refine ly_Vi (w := (cw k)) ((f_X3_setWall k M (xs (x3 + 1).toNatClampNeg) (xs (x3 + 2).toNatClampNeg) 1).1) ((f_X3_setWall k M (xs (x3 + 1).toNatClampNeg) (xs (x3 + 2).toNatClampNeg) 1).2) [.int (xs (x3 + 1).toNatClampNeg), .int (xs (x3 + 2).toNatClampNeg), .int 1] [] (cZok k) ⟨hx, hb, hml, hown, hts⟩ (c_X3_setWall l k M (xs (x3 + 1).toNatClampNeg) (xs (x3 + 2).toNatClampNeg) 1 hR.1) (cwV 3 hts gL_law_X3_setWall rfl rfl rfl (by decide +kernel) ⟨by decide, by decide⟩) (wx_recv (w := (cw k)) (g := 0) (j := 0) hKC hP (cIx_0 (by decide)) rfl rfl) hP hKC hDC hZ (fun _ _ h => cZ_n (wA_sub hDC) h) hS rfl hl.1 rfl (Nat.le_of_ble_eq_true rfl) dL_law_199 ⟨by decide, by decide⟩ (fun H locs hP hDC hS _ hk9 => ?_)
          have hQ := keep2 hQ hdis hk9
          refine lv_aload_n hx hb dL_law_202 rfl (lv_at hl 1 rfl) ?_
          refine lv_aload_n hx hb dL_law_203 rfl (lv_at hl 3 rfl) ?_
          refine lv_iload_n hx hb dL_law_204 rfl (lv_at hl 0 rfl) ?_
          refine lv_iconst (v := 1) hx hb dL_law_205 (by decide) ?_
          refine lv_iadd hx hb dL_law_206 ?_
          refine va_sld hx hb hX hbl hbA hS hi1 dL_law_207 ?_
          refine lv_aload_n hx hb dL_law_208 rfl (lv_at hl 3 rfl) ?_
          refine lv_iload_n hx hb dL_law_209 rfl (lv_at hl 0 rfl) ?_
          refine lv_iconst (v := 2) hx hb dL_law_210 (by decide) ?_
          refine lv_iadd hx hb dL_law_211 ?_
          refine va_sld hx hb hX hbl hbA hS hi2 dL_law_212 ?_
          refine lv_aload_n hx hb dL_law_213 rfl (lv_at hl 3 rfl) ?_
          refine lv_iload_n hx hb dL_law_214 rfl (lv_at hl 0 rfl) ?_
          refine lv_iconst (v := 3) hx hb dL_law_215 (by decide) ?_
          refine lv_iadd hx hb dL_law_216 ?_
          refine va_sld hx hb hX hbl hbA hS hi3 dL_law_217 ?_
          refine lv_if_eq (tgt := 225) hx hb dL_law_218 (by decide) (fun h9 => absurd h9 cb) (fun _ => ?_)
          refine lv_iconst (v := 1) hx hb dL_law_221 (by decide) ?_
          refine lv_goto (tgt := 226) hx hb dL_law_222 (by decide) ?_
          refine ly_Vi (w := (mw q)) ((f_X4_setWall q N (xs (x3 + 1).toNatClampNeg) (xs (x3 + 2).toNatClampNeg) 1).1) ((f_X4_setWall q N (xs (x3 + 1).toNatClampNeg) (xs (x3 + 2).toNatClampNeg) 1).2) [.int (xs (x3 + 1).toNatClampNeg), .int (xs (x3 + 2).toNatClampNeg), .int 1] [.int ((f_X3_setWall k M (xs (x3 + 1).toNatClampNeg) (xs (x3 + 2).toNatClampNeg) 1).1)] (mZok q) ⟨hx, hb, hml, hown, hts⟩ (c_X4_setWall l q N (xs (x3 + 1).toNatClampNeg) (xs (x3 + 2).toNatClampNeg) 1 hR.2.1) (cwV 3 hts gL_law_X4_setWall rfl rfl rfl (by decide +kernel) ⟨by decide, by decide⟩) (wx_recv (w := (mw q)) (g := 0) (j := 0) hKM hQ (mIx_0 (by decide)) rfl rfl) hQ hKM hDM trivial (fun _ _ _ => trivial) hS rfl hl.1 rfl (Nat.le_of_ble_eq_true rfl) dL_law_226 ⟨by decide, by decide⟩ (fun H locs hQ hDM hS _ hk9 => ?_)
          have hP := keep2 hP hdis2 hk9
          refine lv_icmp_eq (tgt := 637) hx hb dL_law_229 (by decide) (fun _ => ?_) (fun h9 => absurd (sim_setWall hR (xs (x3 + 1).toNatClampNeg) (xs (x3 + 2).toNatClampNeg) 1 (Or.inr rfl)).1 h9)
          refine lv_iinc (v := x3 + 5) (lv' := [(3, .int (x3 + 5)), (2, .ref (q.1 0 0)), (1, .ref (k.1 0 0)), (0, .ref b)]) hx hb dL_law_637 hl (k := 0) rfl rfl (by decide) rfl (fun ls hl => ?_)
          refine lv_goto (tgt := 68) hx hb dL_law_640 (by decide) ?_
          exact ih (x3 + 5) (f_X3_setWall k M (xs (x3 + 1).toNatClampNeg) (xs (x3 + 2).toNatClampNeg) 1).2 (f_X4_setWall q N (xs (x3 + 1).toNatClampNeg) (xs (x3 + 2).toNatClampNeg) 1).2 _ _ ls (lpL_s hinv c73 hL) (sim_setWall hR (xs (x3 + 1).toNatClampNeg) (xs (x3 + 2).toNatClampNeg) 1 (Or.inr rfl)).2 hP hQ hDC hDM hS hl
      by_cases e_2 : (xs x3.toNatClampNeg &&& 31) = 2
      · refine lv_tableIn (tgt := 234) hx hb dL_law_82 (by rw [e_2]; decide) (by rw [e_2]; decide) (by rw [e_2]; rfl) (by decide) ?_
        refine lv_aload_n hx hb dL_law_234 rfl (lv_at hl 2 rfl) ?_
        refine lv_aload_n hx hb dL_law_235 rfl (lv_at hl 3 rfl) ?_
        refine lv_iload_n hx hb dL_law_236 rfl (lv_at hl 0 rfl) ?_
        refine lv_iconst (v := 1) hx hb dL_law_237 (by decide) ?_
        refine lv_iadd hx hb dL_law_238 ?_
        refine va_sld hx hb hX hbl hbA hS hi1 dL_law_239 ?_
        refine lv_aload_n hx hb dL_law_240 rfl (lv_at hl 3 rfl) ?_
        refine lv_iload_n hx hb dL_law_241 rfl (lv_at hl 0 rfl) ?_
        refine lv_iconst (v := 2) hx hb dL_law_242 (by decide) ?_
        refine lv_iadd hx hb dL_law_243 ?_
        refine va_sld hx hb hX hbl hbA hS hi2 dL_law_244 ?_
        refine ly_Vi (w := (cw k)) ((f_X3_putItem k M (xs (x3 + 1).toNatClampNeg) (xs (x3 + 2).toNatClampNeg)).1) ((f_X3_putItem k M (xs (x3 + 1).toNatClampNeg) (xs (x3 + 2).toNatClampNeg)).2) [.int (xs (x3 + 1).toNatClampNeg), .int (xs (x3 + 2).toNatClampNeg)] [] (cZok k) ⟨hx, hb, hml, hown, hts⟩ (c_X3_putItem l k M (xs (x3 + 1).toNatClampNeg) (xs (x3 + 2).toNatClampNeg) hR.1) (cwV 2 hts gL_law_X3_putItem rfl rfl rfl (by decide +kernel) ⟨by decide, by decide⟩) (wx_recv (w := (cw k)) (g := 0) (j := 0) hKC hP (cIx_0 (by decide)) rfl rfl) hP hKC hDC hZ (fun _ _ h => cZ_n (wA_sub hDC) h) hS rfl hl.1 rfl (Nat.le_of_ble_eq_true rfl) dL_law_245 ⟨by decide, by decide⟩ (fun H locs hP hDC hS _ hk9 => ?_)
        have hQ := keep2 hQ hdis hk9
        refine lv_aload_n hx hb dL_law_248 rfl (lv_at hl 1 rfl) ?_
        refine lv_aload_n hx hb dL_law_249 rfl (lv_at hl 3 rfl) ?_
        refine lv_iload_n hx hb dL_law_250 rfl (lv_at hl 0 rfl) ?_
        refine lv_iconst (v := 1) hx hb dL_law_251 (by decide) ?_
        refine lv_iadd hx hb dL_law_252 ?_
        refine va_sld hx hb hX hbl hbA hS hi1 dL_law_253 ?_
        refine lv_aload_n hx hb dL_law_254 rfl (lv_at hl 3 rfl) ?_
        refine lv_iload_n hx hb dL_law_255 rfl (lv_at hl 0 rfl) ?_
        refine lv_iconst (v := 2) hx hb dL_law_256 (by decide) ?_
        refine lv_iadd hx hb dL_law_257 ?_
        refine va_sld hx hb hX hbl hbA hS hi2 dL_law_258 ?_
        refine ly_Vi (w := (mw q)) ((f_X4_putItem q N (xs (x3 + 1).toNatClampNeg) (xs (x3 + 2).toNatClampNeg)).1) ((f_X4_putItem q N (xs (x3 + 1).toNatClampNeg) (xs (x3 + 2).toNatClampNeg)).2) [.int (xs (x3 + 1).toNatClampNeg), .int (xs (x3 + 2).toNatClampNeg)] [.int ((f_X3_putItem k M (xs (x3 + 1).toNatClampNeg) (xs (x3 + 2).toNatClampNeg)).1)] (mZok q) ⟨hx, hb, hml, hown, hts⟩ (c_X4_putItem l q N (xs (x3 + 1).toNatClampNeg) (xs (x3 + 2).toNatClampNeg) hR.2.1) (cwV 2 hts gL_law_X4_putItem rfl rfl rfl (by decide +kernel) ⟨by decide, by decide⟩) (wx_recv (w := (mw q)) (g := 0) (j := 0) hKM hQ (mIx_0 (by decide)) rfl rfl) hQ hKM hDM trivial (fun _ _ _ => trivial) hS rfl hl.1 rfl (Nat.le_of_ble_eq_true rfl) dL_law_259 ⟨by decide, by decide⟩ (fun H locs hQ hDM hS _ hk9 => ?_)
        have hP := keep2 hP hdis2 hk9
        refine lv_icmp_eq (tgt := 637) hx hb dL_law_262 (by decide) (fun _ => ?_) (fun h9 => absurd (sim_putItem hR (xs (x3 + 1).toNatClampNeg) (xs (x3 + 2).toNatClampNeg)).1 h9)
        refine lv_iinc (v := x3 + 5) (lv' := [(3, .int (x3 + 5)), (2, .ref (q.1 0 0)), (1, .ref (k.1 0 0)), (0, .ref b)]) hx hb dL_law_637 hl (k := 0) rfl rfl (by decide) rfl (fun ls hl => ?_)
        refine lv_goto (tgt := 68) hx hb dL_law_640 (by decide) ?_
        exact ih (x3 + 5) (f_X3_putItem k M (xs (x3 + 1).toNatClampNeg) (xs (x3 + 2).toNatClampNeg)).2 (f_X4_putItem q N (xs (x3 + 1).toNatClampNeg) (xs (x3 + 2).toNatClampNeg)).2 _ _ ls (lpL_s hinv c73 hL) (sim_putItem hR (xs (x3 + 1).toNatClampNeg) (xs (x3 + 2).toNatClampNeg)).2 hP hQ hDC hDM hS hl
      by_cases e_3 : (xs x3.toNatClampNeg &&& 31) = 3
      · refine lv_tableIn (tgt := 267) hx hb dL_law_82 (by rw [e_3]; decide) (by rw [e_3]; decide) (by rw [e_3]; rfl) (by decide) ?_
        refine lv_aload_n hx hb dL_law_267 rfl (lv_at hl 2 rfl) ?_
        refine lv_aload_n hx hb dL_law_268 rfl (lv_at hl 3 rfl) ?_
        refine lv_iload_n hx hb dL_law_269 rfl (lv_at hl 0 rfl) ?_
        refine lv_iconst (v := 1) hx hb dL_law_270 (by decide) ?_
        refine lv_iadd hx hb dL_law_271 ?_
        refine va_sld hx hb hX hbl hbA hS hi1 dL_law_272 ?_
        refine lv_aload_n hx hb dL_law_273 rfl (lv_at hl 3 rfl) ?_
        refine lv_iload_n hx hb dL_law_274 rfl (lv_at hl 0 rfl) ?_
        refine lv_iconst (v := 2) hx hb dL_law_275 (by decide) ?_
        refine lv_iadd hx hb dL_law_276 ?_
        refine va_sld hx hb hX hbl hbA hS hi2 dL_law_277 ?_
        refine ly_Vi (w := (cw k)) ((f_X3_spawn k M (xs (x3 + 1).toNatClampNeg) (xs (x3 + 2).toNatClampNeg)).1) ((f_X3_spawn k M (xs (x3 + 1).toNatClampNeg) (xs (x3 + 2).toNatClampNeg)).2) [.int (xs (x3 + 1).toNatClampNeg), .int (xs (x3 + 2).toNatClampNeg)] [] (cZok k) ⟨hx, hb, hml, hown, hts⟩ (c_X3_spawn l k M (xs (x3 + 1).toNatClampNeg) (xs (x3 + 2).toNatClampNeg) hR.1) (cwV 2 hts gL_law_X3_spawn rfl rfl rfl (by decide +kernel) ⟨by decide, by decide⟩) (wx_recv (w := (cw k)) (g := 0) (j := 0) hKC hP (cIx_0 (by decide)) rfl rfl) hP hKC hDC hZ (fun _ _ h => cZ_n (wA_sub hDC) h) hS rfl hl.1 rfl (Nat.le_of_ble_eq_true rfl) dL_law_278 ⟨by decide, by decide⟩ (fun H locs hP hDC hS _ hk9 => ?_)
        have hQ := keep2 hQ hdis hk9
        refine lv_aload_n hx hb dL_law_281 rfl (lv_at hl 1 rfl) ?_
        refine lv_aload_n hx hb dL_law_282 rfl (lv_at hl 3 rfl) ?_
        refine lv_iload_n hx hb dL_law_283 rfl (lv_at hl 0 rfl) ?_
        refine lv_iconst (v := 1) hx hb dL_law_284 (by decide) ?_
        refine lv_iadd hx hb dL_law_285 ?_
        refine va_sld hx hb hX hbl hbA hS hi1 dL_law_286 ?_
        refine lv_aload_n hx hb dL_law_287 rfl (lv_at hl 3 rfl) ?_
        refine lv_iload_n hx hb dL_law_288 rfl (lv_at hl 0 rfl) ?_
        refine lv_iconst (v := 2) hx hb dL_law_289 (by decide) ?_
        refine lv_iadd hx hb dL_law_290 ?_
        refine va_sld hx hb hX hbl hbA hS hi2 dL_law_291 ?_
        refine ly_Vi (w := (mw q)) ((f_X4_spawn q N (xs (x3 + 1).toNatClampNeg) (xs (x3 + 2).toNatClampNeg)).1) ((f_X4_spawn q N (xs (x3 + 1).toNatClampNeg) (xs (x3 + 2).toNatClampNeg)).2) [.int (xs (x3 + 1).toNatClampNeg), .int (xs (x3 + 2).toNatClampNeg)] [.int ((f_X3_spawn k M (xs (x3 + 1).toNatClampNeg) (xs (x3 + 2).toNatClampNeg)).1)] (mZok q) ⟨hx, hb, hml, hown, hts⟩ (c_X4_spawn l q N (xs (x3 + 1).toNatClampNeg) (xs (x3 + 2).toNatClampNeg) hR.2.1) (cwV 2 hts gL_law_X4_spawn rfl rfl rfl (by decide +kernel) ⟨by decide, by decide⟩) (wx_recv (w := (mw q)) (g := 0) (j := 0) hKM hQ (mIx_0 (by decide)) rfl rfl) hQ hKM hDM trivial (fun _ _ _ => trivial) hS rfl hl.1 rfl (Nat.le_of_ble_eq_true rfl) dL_law_292 ⟨by decide, by decide⟩ (fun H locs hQ hDM hS _ hk9 => ?_)
        have hP := keep2 hP hdis2 hk9
        refine lv_icmp_eq (tgt := 637) hx hb dL_law_295 (by decide) (fun _ => ?_) (fun h9 => absurd (sim_spawn hR (xs (x3 + 1).toNatClampNeg) (xs (x3 + 2).toNatClampNeg)).1 h9)
        refine lv_iinc (v := x3 + 5) (lv' := [(3, .int (x3 + 5)), (2, .ref (q.1 0 0)), (1, .ref (k.1 0 0)), (0, .ref b)]) hx hb dL_law_637 hl (k := 0) rfl rfl (by decide) rfl (fun ls hl => ?_)
        refine lv_goto (tgt := 68) hx hb dL_law_640 (by decide) ?_
        exact ih (x3 + 5) (f_X3_spawn k M (xs (x3 + 1).toNatClampNeg) (xs (x3 + 2).toNatClampNeg)).2 (f_X4_spawn q N (xs (x3 + 1).toNatClampNeg) (xs (x3 + 2).toNatClampNeg)).2 _ _ ls (lpL_s hinv c73 hL) (sim_spawn hR (xs (x3 + 1).toNatClampNeg) (xs (x3 + 2).toNatClampNeg)).2 hP hQ hDC hDM hS hl
      by_cases e_4 : (xs x3.toNatClampNeg &&& 31) = 4
      · refine lv_tableIn (tgt := 300) hx hb dL_law_82 (by rw [e_4]; decide) (by rw [e_4]; decide) (by rw [e_4]; rfl) (by decide) ?_
        refine lv_aload_n hx hb dL_law_300 rfl (lv_at hl 2 rfl) ?_
        refine lv_aload_n hx hb dL_law_301 rfl (lv_at hl 3 rfl) ?_
        refine lv_iload_n hx hb dL_law_302 rfl (lv_at hl 0 rfl) ?_
        refine lv_iconst (v := 1) hx hb dL_law_303 (by decide) ?_
        refine lv_iadd hx hb dL_law_304 ?_
        refine va_sld hx hb hX hbl hbA hS hi1 dL_law_305 ?_
        refine lv_aload_n hx hb dL_law_306 rfl (lv_at hl 3 rfl) ?_
        refine lv_iload_n hx hb dL_law_307 rfl (lv_at hl 0 rfl) ?_
        refine lv_iconst (v := 2) hx hb dL_law_308 (by decide) ?_
        refine lv_iadd hx hb dL_law_309 ?_
        refine va_sld hx hb hX hbl hbA hS hi2 dL_law_310 ?_
        refine ly_Vi (w := (cw k)) ((f_X3_load k M (xs (x3 + 1).toNatClampNeg) (xs (x3 + 2).toNatClampNeg)).1) ((f_X3_load k M (xs (x3 + 1).toNatClampNeg) (xs (x3 + 2).toNatClampNeg)).2) [.int (xs (x3 + 1).toNatClampNeg), .int (xs (x3 + 2).toNatClampNeg)] [] (cZok k) ⟨hx, hb, hml, hown, hts⟩ (c_X3_load l k M (xs (x3 + 1).toNatClampNeg) (xs (x3 + 2).toNatClampNeg) hR.1) (cwV 2 hts gL_law_X3_load rfl rfl rfl (by decide +kernel) ⟨by decide, by decide⟩) (wx_recv (w := (cw k)) (g := 0) (j := 0) hKC hP (cIx_0 (by decide)) rfl rfl) hP hKC hDC hZ (fun _ _ h => cZ_n (wA_sub hDC) h) hS rfl hl.1 rfl (Nat.le_of_ble_eq_true rfl) dL_law_311 ⟨by decide, by decide⟩ (fun H locs hP hDC hS _ hk9 => ?_)
        have hQ := keep2 hQ hdis hk9
        refine lv_aload_n hx hb dL_law_314 rfl (lv_at hl 1 rfl) ?_
        refine lv_aload_n hx hb dL_law_315 rfl (lv_at hl 3 rfl) ?_
        refine lv_iload_n hx hb dL_law_316 rfl (lv_at hl 0 rfl) ?_
        refine lv_iconst (v := 1) hx hb dL_law_317 (by decide) ?_
        refine lv_iadd hx hb dL_law_318 ?_
        refine va_sld hx hb hX hbl hbA hS hi1 dL_law_319 ?_
        refine lv_aload_n hx hb dL_law_320 rfl (lv_at hl 3 rfl) ?_
        refine lv_iload_n hx hb dL_law_321 rfl (lv_at hl 0 rfl) ?_
        refine lv_iconst (v := 2) hx hb dL_law_322 (by decide) ?_
        refine lv_iadd hx hb dL_law_323 ?_
        refine va_sld hx hb hX hbl hbA hS hi2 dL_law_324 ?_
        refine ly_Vi (w := (mw q)) ((f_X4_load q N (xs (x3 + 1).toNatClampNeg) (xs (x3 + 2).toNatClampNeg)).1) ((f_X4_load q N (xs (x3 + 1).toNatClampNeg) (xs (x3 + 2).toNatClampNeg)).2) [.int (xs (x3 + 1).toNatClampNeg), .int (xs (x3 + 2).toNatClampNeg)] [.int ((f_X3_load k M (xs (x3 + 1).toNatClampNeg) (xs (x3 + 2).toNatClampNeg)).1)] (mZok q) ⟨hx, hb, hml, hown, hts⟩ (c_X4_load l q N (xs (x3 + 1).toNatClampNeg) (xs (x3 + 2).toNatClampNeg) hR.2.1) (cwV 2 hts gL_law_X4_load rfl rfl rfl (by decide +kernel) ⟨by decide, by decide⟩) (wx_recv (w := (mw q)) (g := 0) (j := 0) hKM hQ (mIx_0 (by decide)) rfl rfl) hQ hKM hDM trivial (fun _ _ _ => trivial) hS rfl hl.1 rfl (Nat.le_of_ble_eq_true rfl) dL_law_325 ⟨by decide, by decide⟩ (fun H locs hQ hDM hS _ hk9 => ?_)
        have hP := keep2 hP hdis2 hk9
        refine lv_icmp_eq (tgt := 637) hx hb dL_law_328 (by decide) (fun _ => ?_) (fun h9 => absurd (sim_load hR (xs (x3 + 1).toNatClampNeg) (xs (x3 + 2).toNatClampNeg)).1 h9)
        refine lv_iinc (v := x3 + 5) (lv' := [(3, .int (x3 + 5)), (2, .ref (q.1 0 0)), (1, .ref (k.1 0 0)), (0, .ref b)]) hx hb dL_law_637 hl (k := 0) rfl rfl (by decide) rfl (fun ls hl => ?_)
        refine lv_goto (tgt := 68) hx hb dL_law_640 (by decide) ?_
        exact ih (x3 + 5) (f_X3_load k M (xs (x3 + 1).toNatClampNeg) (xs (x3 + 2).toNatClampNeg)).2 (f_X4_load q N (xs (x3 + 1).toNatClampNeg) (xs (x3 + 2).toNatClampNeg)).2 _ _ ls (lpL_s hinv c73 hL) (sim_load hR (xs (x3 + 1).toNatClampNeg) (xs (x3 + 2).toNatClampNeg)).2 hP hQ hDC hDM hS hl
      by_cases e_5 : (xs x3.toNatClampNeg &&& 31) = 5
      · refine lv_tableIn (tgt := 333) hx hb dL_law_82 (by rw [e_5]; decide) (by rw [e_5]; decide) (by rw [e_5]; rfl) (by decide) ?_
        refine lv_aload_n hx hb dL_law_333 rfl (lv_at hl 2 rfl) ?_
        refine lv_aload_n hx hb dL_law_334 rfl (lv_at hl 3 rfl) ?_
        refine lv_iload_n hx hb dL_law_335 rfl (lv_at hl 0 rfl) ?_
        refine lv_iconst (v := 1) hx hb dL_law_336 (by decide) ?_
        refine lv_iadd hx hb dL_law_337 ?_
        refine va_sld hx hb hX hbl hbA hS hi1 dL_law_338 ?_
        refine ly_Vi (w := (cw k)) ((f_X3_startRobot k M (xs (x3 + 1).toNatClampNeg)).1) ((f_X3_startRobot k M (xs (x3 + 1).toNatClampNeg)).2) [.int (xs (x3 + 1).toNatClampNeg)] [] (cZok k) ⟨hx, hb, hml, hown, hts⟩ (c_X3_startRobot l k M (xs (x3 + 1).toNatClampNeg) hR.1) (cwV 1 hts gL_law_X3_startRobot rfl rfl rfl (by decide +kernel) ⟨by decide, by decide⟩) (wx_recv (w := (cw k)) (g := 0) (j := 0) hKC hP (cIx_0 (by decide)) rfl rfl) hP hKC hDC hZ (fun _ _ h => cZ_n (wA_sub hDC) h) hS rfl hl.1 rfl (Nat.le_of_ble_eq_true rfl) dL_law_339 ⟨by decide, by decide⟩ (fun H locs hP hDC hS _ hk9 => ?_)
        have hQ := keep2 hQ hdis hk9
        refine lv_aload_n hx hb dL_law_342 rfl (lv_at hl 1 rfl) ?_
        refine lv_aload_n hx hb dL_law_343 rfl (lv_at hl 3 rfl) ?_
        refine lv_iload_n hx hb dL_law_344 rfl (lv_at hl 0 rfl) ?_
        refine lv_iconst (v := 1) hx hb dL_law_345 (by decide) ?_
        refine lv_iadd hx hb dL_law_346 ?_
        refine va_sld hx hb hX hbl hbA hS hi1 dL_law_347 ?_
        refine ly_Vi (w := (mw q)) ((f_X4_startRobot q N (xs (x3 + 1).toNatClampNeg)).1) ((f_X4_startRobot q N (xs (x3 + 1).toNatClampNeg)).2) [.int (xs (x3 + 1).toNatClampNeg)] [.int ((f_X3_startRobot k M (xs (x3 + 1).toNatClampNeg)).1)] (mZok q) ⟨hx, hb, hml, hown, hts⟩ (c_X4_startRobot l q N (xs (x3 + 1).toNatClampNeg) hR.2.1) (cwV 1 hts gL_law_X4_startRobot rfl rfl rfl (by decide +kernel) ⟨by decide, by decide⟩) (wx_recv (w := (mw q)) (g := 0) (j := 0) hKM hQ (mIx_0 (by decide)) rfl rfl) hQ hKM hDM trivial (fun _ _ _ => trivial) hS rfl hl.1 rfl (Nat.le_of_ble_eq_true rfl) dL_law_348 ⟨by decide, by decide⟩ (fun H locs hQ hDM hS _ hk9 => ?_)
        have hP := keep2 hP hdis2 hk9
        refine lv_icmp_eq (tgt := 637) hx hb dL_law_351 (by decide) (fun _ => ?_) (fun h9 => absurd (sim_startRobot hR (xs (x3 + 1).toNatClampNeg)).1 h9)
        refine lv_iinc (v := x3 + 5) (lv' := [(3, .int (x3 + 5)), (2, .ref (q.1 0 0)), (1, .ref (k.1 0 0)), (0, .ref b)]) hx hb dL_law_637 hl (k := 0) rfl rfl (by decide) rfl (fun ls hl => ?_)
        refine lv_goto (tgt := 68) hx hb dL_law_640 (by decide) ?_
        exact ih (x3 + 5) (f_X3_startRobot k M (xs (x3 + 1).toNatClampNeg)).2 (f_X4_startRobot q N (xs (x3 + 1).toNatClampNeg)).2 _ _ ls (lpL_s hinv c73 hL) (sim_startRobot hR (xs (x3 + 1).toNatClampNeg)).2 hP hQ hDC hDM hS hl
      by_cases e_6 : (xs x3.toNatClampNeg &&& 31) = 6
      · refine lv_tableIn (tgt := 356) hx hb dL_law_82 (by rw [e_6]; decide) (by rw [e_6]; decide) (by rw [e_6]; rfl) (by decide) ?_
        refine lv_aload_n hx hb dL_law_356 rfl (lv_at hl 2 rfl) ?_
        refine ly_Vi (w := (cw k)) ((f_X3_tick k M).1) ((f_X3_tick k M).2) [] [] (cZok k) ⟨hx, hb, hml, hown, hts⟩ (c_X3_tick l k M  hR.1) (cwV 0 hts gL_law_X3_tick rfl rfl rfl (by decide +kernel) ⟨by decide, by decide⟩) (wx_recv (w := (cw k)) (g := 0) (j := 0) hKC hP (cIx_0 (by decide)) rfl rfl) hP hKC hDC hZ (fun _ _ h => cZ_n (wA_sub hDC) h) hS rfl hl.1 rfl (Nat.le_of_ble_eq_true rfl) dL_law_357 ⟨by decide, by decide⟩ (fun H locs hP hDC hS _ hk9 => ?_)
        have hQ := keep2 hQ hdis hk9
        refine lv_aload_n hx hb dL_law_360 rfl (lv_at hl 1 rfl) ?_
        refine ly_Vi (w := (mw q)) ((f_X4_tick q N).1) ((f_X4_tick q N).2) [] [.int ((f_X3_tick k M).1)] (mZok q) ⟨hx, hb, hml, hown, hts⟩ (c_X4_tick l q N  hR.2.1) (cwV 0 hts gL_law_X4_tick rfl rfl rfl (by decide +kernel) ⟨by decide, by decide⟩) (wx_recv (w := (mw q)) (g := 0) (j := 0) hKM hQ (mIx_0 (by decide)) rfl rfl) hQ hKM hDM trivial (fun _ _ _ => trivial) hS rfl hl.1 rfl (Nat.le_of_ble_eq_true rfl) dL_law_361 ⟨by decide, by decide⟩ (fun H locs hQ hDM hS _ hk9 => ?_)
        have hP := keep2 hP hdis2 hk9
        refine lv_icmp_eq (tgt := 637) hx hb dL_law_364 (by decide) (fun _ => ?_) (fun h9 => absurd (sim_tick hR ).1 h9)
        refine lv_iinc (v := x3 + 5) (lv' := [(3, .int (x3 + 5)), (2, .ref (q.1 0 0)), (1, .ref (k.1 0 0)), (0, .ref b)]) hx hb dL_law_637 hl (k := 0) rfl rfl (by decide) rfl (fun ls hl => ?_)
        refine lv_goto (tgt := 68) hx hb dL_law_640 (by decide) ?_
        exact ih (x3 + 5) (f_X3_tick k M).2 (f_X4_tick q N).2 _ _ ls (lpL_s hinv c73 hL) (sim_tick hR ).2 hP hQ hDC hDM hS hl
      by_cases e_7 : (xs x3.toNatClampNeg &&& 31) = 7
      · refine lv_tableIn (tgt := 369) hx hb dL_law_82 (by rw [e_7]; decide) (by rw [e_7]; decide) (by rw [e_7]; rfl) (by decide) ?_
        refine lv_aload_n hx hb dL_law_369 rfl (lv_at hl 2 rfl) ?_
        refine lv_aload_n hx hb dL_law_370 rfl (lv_at hl 3 rfl) ?_
        refine lv_iload_n hx hb dL_law_371 rfl (lv_at hl 0 rfl) ?_
        refine lv_iconst (v := 1) hx hb dL_law_372 (by decide) ?_
        refine lv_iadd hx hb dL_law_373 ?_
        refine va_sld hx hb hX hbl hbA hS hi1 dL_law_374 ?_
        refine ly_Vi (w := (cw k)) ((f_X3_runTicks k M (xs (x3 + 1).toNatClampNeg)).1) ((f_X3_runTicks k M (xs (x3 + 1).toNatClampNeg)).2) [.int (xs (x3 + 1).toNatClampNeg)] [] (cZok k) ⟨hx, hb, hml, hown, hts⟩ (c_X3_runTicks l k M (xs (x3 + 1).toNatClampNeg) hR.1) (cwV 1 hts gL_law_X3_runTicks rfl rfl rfl (by decide +kernel) ⟨by decide, by decide⟩) (wx_recv (w := (cw k)) (g := 0) (j := 0) hKC hP (cIx_0 (by decide)) rfl rfl) hP hKC hDC hZ (fun _ _ h => cZ_n (wA_sub hDC) h) hS rfl hl.1 rfl (Nat.le_of_ble_eq_true rfl) dL_law_375 ⟨by decide, by decide⟩ (fun H locs hP hDC hS _ hk9 => ?_)
        have hQ := keep2 hQ hdis hk9
        refine lv_aload_n hx hb dL_law_378 rfl (lv_at hl 1 rfl) ?_
        refine lv_aload_n hx hb dL_law_379 rfl (lv_at hl 3 rfl) ?_
        refine lv_iload_n hx hb dL_law_380 rfl (lv_at hl 0 rfl) ?_
        refine lv_iconst (v := 1) hx hb dL_law_381 (by decide) ?_
        refine lv_iadd hx hb dL_law_382 ?_
        refine va_sld hx hb hX hbl hbA hS hi1 dL_law_383 ?_
        refine ly_Vi (w := (mw q)) ((f_X4_runTicks q N (xs (x3 + 1).toNatClampNeg)).1) ((f_X4_runTicks q N (xs (x3 + 1).toNatClampNeg)).2) [.int (xs (x3 + 1).toNatClampNeg)] [.int ((f_X3_runTicks k M (xs (x3 + 1).toNatClampNeg)).1)] (mZok q) ⟨hx, hb, hml, hown, hts⟩ (c_X4_runTicks l q N (xs (x3 + 1).toNatClampNeg) hR.2.1) (cwV 1 hts gL_law_X4_runTicks rfl rfl rfl (by decide +kernel) ⟨by decide, by decide⟩) (wx_recv (w := (mw q)) (g := 0) (j := 0) hKM hQ (mIx_0 (by decide)) rfl rfl) hQ hKM hDM trivial (fun _ _ _ => trivial) hS rfl hl.1 rfl (Nat.le_of_ble_eq_true rfl) dL_law_384 ⟨by decide, by decide⟩ (fun H locs hQ hDM hS _ hk9 => ?_)
        have hP := keep2 hP hdis2 hk9
        refine lv_icmp_eq (tgt := 637) hx hb dL_law_387 (by decide) (fun _ => ?_) (fun h9 => absurd (sim_runTicks hR (xs (x3 + 1).toNatClampNeg)).1 h9)
        refine lv_iinc (v := x3 + 5) (lv' := [(3, .int (x3 + 5)), (2, .ref (q.1 0 0)), (1, .ref (k.1 0 0)), (0, .ref b)]) hx hb dL_law_637 hl (k := 0) rfl rfl (by decide) rfl (fun ls hl => ?_)
        refine lv_goto (tgt := 68) hx hb dL_law_640 (by decide) ?_
        exact ih (x3 + 5) (f_X3_runTicks k M (xs (x3 + 1).toNatClampNeg)).2 (f_X4_runTicks q N (xs (x3 + 1).toNatClampNeg)).2 _ _ ls (lpL_s hinv c73 hL) (sim_runTicks hR (xs (x3 + 1).toNatClampNeg)).2 hP hQ hDC hDM hS hl
      by_cases e_8 : (xs x3.toNatClampNeg &&& 31) = 8
      · refine lv_tableIn (tgt := 392) hx hb dL_law_82 (by rw [e_8]; decide) (by rw [e_8]; decide) (by rw [e_8]; rfl) (by decide) ?_
        refine lv_aload_n hx hb dL_law_392 rfl (lv_at hl 2 rfl) ?_
        refine lv_aload_n hx hb dL_law_393 rfl (lv_at hl 3 rfl) ?_
        refine lv_iload_n hx hb dL_law_394 rfl (lv_at hl 0 rfl) ?_
        refine lv_iconst (v := 1) hx hb dL_law_395 (by decide) ?_
        refine lv_iadd hx hb dL_law_396 ?_
        refine va_sld hx hb hX hbl hbA hS hi1 dL_law_397 ?_
        refine ly_Vi (w := (cw k)) ((f_X3_kill k M (xs (x3 + 1).toNatClampNeg)).1) ((f_X3_kill k M (xs (x3 + 1).toNatClampNeg)).2) [.int (xs (x3 + 1).toNatClampNeg)] [] (cZok k) ⟨hx, hb, hml, hown, hts⟩ (c_X3_kill l k M (xs (x3 + 1).toNatClampNeg) hR.1) (cwV 1 hts gL_law_X3_kill rfl rfl rfl (by decide +kernel) ⟨by decide, by decide⟩) (wx_recv (w := (cw k)) (g := 0) (j := 0) hKC hP (cIx_0 (by decide)) rfl rfl) hP hKC hDC hZ (fun _ _ h => cZ_n (wA_sub hDC) h) hS rfl hl.1 rfl (Nat.le_of_ble_eq_true rfl) dL_law_398 ⟨by decide, by decide⟩ (fun H locs hP hDC hS _ hk9 => ?_)
        have hQ := keep2 hQ hdis hk9
        refine lv_aload_n hx hb dL_law_401 rfl (lv_at hl 1 rfl) ?_
        refine lv_aload_n hx hb dL_law_402 rfl (lv_at hl 3 rfl) ?_
        refine lv_iload_n hx hb dL_law_403 rfl (lv_at hl 0 rfl) ?_
        refine lv_iconst (v := 1) hx hb dL_law_404 (by decide) ?_
        refine lv_iadd hx hb dL_law_405 ?_
        refine va_sld hx hb hX hbl hbA hS hi1 dL_law_406 ?_
        refine ly_Vi (w := (mw q)) ((f_X4_kill q N (xs (x3 + 1).toNatClampNeg)).1) ((f_X4_kill q N (xs (x3 + 1).toNatClampNeg)).2) [.int (xs (x3 + 1).toNatClampNeg)] [.int ((f_X3_kill k M (xs (x3 + 1).toNatClampNeg)).1)] (mZok q) ⟨hx, hb, hml, hown, hts⟩ (c_X4_kill l q N (xs (x3 + 1).toNatClampNeg) hR.2.1) (cwV 1 hts gL_law_X4_kill rfl rfl rfl (by decide +kernel) ⟨by decide, by decide⟩) (wx_recv (w := (mw q)) (g := 0) (j := 0) hKM hQ (mIx_0 (by decide)) rfl rfl) hQ hKM hDM trivial (fun _ _ _ => trivial) hS rfl hl.1 rfl (Nat.le_of_ble_eq_true rfl) dL_law_407 ⟨by decide, by decide⟩ (fun H locs hQ hDM hS _ hk9 => ?_)
        have hP := keep2 hP hdis2 hk9
        refine lv_icmp_eq (tgt := 637) hx hb dL_law_410 (by decide) (fun _ => ?_) (fun h9 => absurd (sim_kill hR (xs (x3 + 1).toNatClampNeg)).1 h9)
        refine lv_iinc (v := x3 + 5) (lv' := [(3, .int (x3 + 5)), (2, .ref (q.1 0 0)), (1, .ref (k.1 0 0)), (0, .ref b)]) hx hb dL_law_637 hl (k := 0) rfl rfl (by decide) rfl (fun ls hl => ?_)
        refine lv_goto (tgt := 68) hx hb dL_law_640 (by decide) ?_
        exact ih (x3 + 5) (f_X3_kill k M (xs (x3 + 1).toNatClampNeg)).2 (f_X4_kill q N (xs (x3 + 1).toNatClampNeg)).2 _ _ ls (lpL_s hinv c73 hL) (sim_kill hR (xs (x3 + 1).toNatClampNeg)).2 hP hQ hDC hDM hS hl
      by_cases e_9 : (xs x3.toNatClampNeg &&& 31) = 9
      · refine lv_tableIn (tgt := 415) hx hb dL_law_82 (by rw [e_9]; decide) (by rw [e_9]; decide) (by rw [e_9]; rfl) (by decide) ?_
        refine lv_aload_n hx hb dL_law_415 rfl (lv_at hl 2 rfl) ?_
        refine lv_aload_n hx hb dL_law_416 rfl (lv_at hl 3 rfl) ?_
        refine lv_iload_n hx hb dL_law_417 rfl (lv_at hl 0 rfl) ?_
        refine lv_iconst (v := 1) hx hb dL_law_418 (by decide) ?_
        refine lv_iadd hx hb dL_law_419 ?_
        refine va_sld hx hb hX hbl hbA hS hi1 dL_law_420 ?_
        refine ly_Vi (w := (cw k)) (f_X3_robotX k M (xs (x3 + 1).toNatClampNeg)) M [.int (xs (x3 + 1).toNatClampNeg)] [] (cZok k) ⟨hx, hb, hml, hown, hts⟩ (c_X3_robotX l k M (xs (x3 + 1).toNatClampNeg) hR.1) (cwV 1 hts gL_law_X3_robotX rfl rfl rfl (by decide +kernel) ⟨by decide, by decide⟩) (wx_recv (w := (cw k)) (g := 0) (j := 0) hKC hP (cIx_0 (by decide)) rfl rfl) hP hKC hDC hZ (fun _ _ h => cZ_n (wA_sub hDC) h) hS rfl hl.1 rfl (Nat.le_of_ble_eq_true rfl) dL_law_421 ⟨by decide, by decide⟩ (fun H locs hP hDC hS _ hk9 => ?_)
        have hQ := keep2 hQ hdis hk9
        refine lv_aload_n hx hb dL_law_424 rfl (lv_at hl 1 rfl) ?_
        refine lv_aload_n hx hb dL_law_425 rfl (lv_at hl 3 rfl) ?_
        refine lv_iload_n hx hb dL_law_426 rfl (lv_at hl 0 rfl) ?_
        refine lv_iconst (v := 1) hx hb dL_law_427 (by decide) ?_
        refine lv_iadd hx hb dL_law_428 ?_
        refine va_sld hx hb hX hbl hbA hS hi1 dL_law_429 ?_
        refine ly_Vi (w := (mw q)) (f_X4_robotX q N (xs (x3 + 1).toNatClampNeg)) N [.int (xs (x3 + 1).toNatClampNeg)] [.int (f_X3_robotX k M (xs (x3 + 1).toNatClampNeg))] (mZok q) ⟨hx, hb, hml, hown, hts⟩ (c_X4_robotX l q N (xs (x3 + 1).toNatClampNeg) hR.2.1) (cwV 1 hts gL_law_X4_robotX rfl rfl rfl (by decide +kernel) ⟨by decide, by decide⟩) (wx_recv (w := (mw q)) (g := 0) (j := 0) hKM hQ (mIx_0 (by decide)) rfl rfl) hQ hKM hDM trivial (fun _ _ _ => trivial) hS rfl hl.1 rfl (Nat.le_of_ble_eq_true rfl) dL_law_430 ⟨by decide, by decide⟩ (fun H locs hQ hDM hS _ hk9 => ?_)
        have hP := keep2 hP hdis2 hk9
        refine lv_icmp_eq (tgt := 637) hx hb dL_law_433 (by decide) (fun _ => ?_) (fun h9 => absurd (sim_robotX hR (xs (x3 + 1).toNatClampNeg)) h9)
        refine lv_iinc (v := x3 + 5) (lv' := [(3, .int (x3 + 5)), (2, .ref (q.1 0 0)), (1, .ref (k.1 0 0)), (0, .ref b)]) hx hb dL_law_637 hl (k := 0) rfl rfl (by decide) rfl (fun ls hl => ?_)
        refine lv_goto (tgt := 68) hx hb dL_law_640 (by decide) ?_
        exact ih (x3 + 5) M N _ _ ls (lpL_s hinv c73 hL) hR hP hQ hDC hDM hS hl
      by_cases e_10 : (xs x3.toNatClampNeg &&& 31) = 10
      · refine lv_tableIn (tgt := 438) hx hb dL_law_82 (by rw [e_10]; decide) (by rw [e_10]; decide) (by rw [e_10]; rfl) (by decide) ?_
        refine lv_aload_n hx hb dL_law_438 rfl (lv_at hl 2 rfl) ?_
        refine lv_aload_n hx hb dL_law_439 rfl (lv_at hl 3 rfl) ?_
        refine lv_iload_n hx hb dL_law_440 rfl (lv_at hl 0 rfl) ?_
        refine lv_iconst (v := 1) hx hb dL_law_441 (by decide) ?_
        refine lv_iadd hx hb dL_law_442 ?_
        refine va_sld hx hb hX hbl hbA hS hi1 dL_law_443 ?_
        refine ly_Vi (w := (cw k)) (f_X3_robotY k M (xs (x3 + 1).toNatClampNeg)) M [.int (xs (x3 + 1).toNatClampNeg)] [] (cZok k) ⟨hx, hb, hml, hown, hts⟩ (c_X3_robotY l k M (xs (x3 + 1).toNatClampNeg) hR.1) (cwV 1 hts gL_law_X3_robotY rfl rfl rfl (by decide +kernel) ⟨by decide, by decide⟩) (wx_recv (w := (cw k)) (g := 0) (j := 0) hKC hP (cIx_0 (by decide)) rfl rfl) hP hKC hDC hZ (fun _ _ h => cZ_n (wA_sub hDC) h) hS rfl hl.1 rfl (Nat.le_of_ble_eq_true rfl) dL_law_444 ⟨by decide, by decide⟩ (fun H locs hP hDC hS _ hk9 => ?_)
        have hQ := keep2 hQ hdis hk9
        refine lv_aload_n hx hb dL_law_447 rfl (lv_at hl 1 rfl) ?_
        refine lv_aload_n hx hb dL_law_448 rfl (lv_at hl 3 rfl) ?_
        refine lv_iload_n hx hb dL_law_449 rfl (lv_at hl 0 rfl) ?_
        refine lv_iconst (v := 1) hx hb dL_law_450 (by decide) ?_
        refine lv_iadd hx hb dL_law_451 ?_
        refine va_sld hx hb hX hbl hbA hS hi1 dL_law_452 ?_
        refine ly_Vi (w := (mw q)) (f_X4_robotY q N (xs (x3 + 1).toNatClampNeg)) N [.int (xs (x3 + 1).toNatClampNeg)] [.int (f_X3_robotY k M (xs (x3 + 1).toNatClampNeg))] (mZok q) ⟨hx, hb, hml, hown, hts⟩ (c_X4_robotY l q N (xs (x3 + 1).toNatClampNeg) hR.2.1) (cwV 1 hts gL_law_X4_robotY rfl rfl rfl (by decide +kernel) ⟨by decide, by decide⟩) (wx_recv (w := (mw q)) (g := 0) (j := 0) hKM hQ (mIx_0 (by decide)) rfl rfl) hQ hKM hDM trivial (fun _ _ _ => trivial) hS rfl hl.1 rfl (Nat.le_of_ble_eq_true rfl) dL_law_453 ⟨by decide, by decide⟩ (fun H locs hQ hDM hS _ hk9 => ?_)
        have hP := keep2 hP hdis2 hk9
        refine lv_icmp_eq (tgt := 637) hx hb dL_law_456 (by decide) (fun _ => ?_) (fun h9 => absurd (sim_robotY hR (xs (x3 + 1).toNatClampNeg)) h9)
        refine lv_iinc (v := x3 + 5) (lv' := [(3, .int (x3 + 5)), (2, .ref (q.1 0 0)), (1, .ref (k.1 0 0)), (0, .ref b)]) hx hb dL_law_637 hl (k := 0) rfl rfl (by decide) rfl (fun ls hl => ?_)
        refine lv_goto (tgt := 68) hx hb dL_law_640 (by decide) ?_
        exact ih (x3 + 5) M N _ _ ls (lpL_s hinv c73 hL) hR hP hQ hDC hDM hS hl
      by_cases e_11 : (xs x3.toNatClampNeg &&& 31) = 11
      · refine lv_tableIn (tgt := 461) hx hb dL_law_82 (by rw [e_11]; decide) (by rw [e_11]; decide) (by rw [e_11]; rfl) (by decide) ?_
        refine lv_aload_n hx hb dL_law_461 rfl (lv_at hl 2 rfl) ?_
        refine lv_aload_n hx hb dL_law_462 rfl (lv_at hl 3 rfl) ?_
        refine lv_iload_n hx hb dL_law_463 rfl (lv_at hl 0 rfl) ?_
        refine lv_iconst (v := 1) hx hb dL_law_464 (by decide) ?_
        refine lv_iadd hx hb dL_law_465 ?_
        refine va_sld hx hb hX hbl hbA hS hi1 dL_law_466 ?_
        refine ly_Vi (w := (cw k)) (f_X3_robotState k M (xs (x3 + 1).toNatClampNeg)) M [.int (xs (x3 + 1).toNatClampNeg)] [] (cZok k) ⟨hx, hb, hml, hown, hts⟩ (c_X3_robotState l k M (xs (x3 + 1).toNatClampNeg) hR.1) (cwV 1 hts gL_law_X3_robotState rfl rfl rfl (by decide +kernel) ⟨by decide, by decide⟩) (wx_recv (w := (cw k)) (g := 0) (j := 0) hKC hP (cIx_0 (by decide)) rfl rfl) hP hKC hDC hZ (fun _ _ h => cZ_n (wA_sub hDC) h) hS rfl hl.1 rfl (Nat.le_of_ble_eq_true rfl) dL_law_467 ⟨by decide, by decide⟩ (fun H locs hP hDC hS _ hk9 => ?_)
        have hQ := keep2 hQ hdis hk9
        refine lv_aload_n hx hb dL_law_470 rfl (lv_at hl 1 rfl) ?_
        refine lv_aload_n hx hb dL_law_471 rfl (lv_at hl 3 rfl) ?_
        refine lv_iload_n hx hb dL_law_472 rfl (lv_at hl 0 rfl) ?_
        refine lv_iconst (v := 1) hx hb dL_law_473 (by decide) ?_
        refine lv_iadd hx hb dL_law_474 ?_
        refine va_sld hx hb hX hbl hbA hS hi1 dL_law_475 ?_
        refine ly_Vi (w := (mw q)) (f_X4_robotState q N (xs (x3 + 1).toNatClampNeg)) N [.int (xs (x3 + 1).toNatClampNeg)] [.int (f_X3_robotState k M (xs (x3 + 1).toNatClampNeg))] (mZok q) ⟨hx, hb, hml, hown, hts⟩ (c_X4_robotState l q N (xs (x3 + 1).toNatClampNeg) hR.2.1) (cwV 1 hts gL_law_X4_robotState rfl rfl rfl (by decide +kernel) ⟨by decide, by decide⟩) (wx_recv (w := (mw q)) (g := 0) (j := 0) hKM hQ (mIx_0 (by decide)) rfl rfl) hQ hKM hDM trivial (fun _ _ _ => trivial) hS rfl hl.1 rfl (Nat.le_of_ble_eq_true rfl) dL_law_476 ⟨by decide, by decide⟩ (fun H locs hQ hDM hS _ hk9 => ?_)
        have hP := keep2 hP hdis2 hk9
        refine lv_icmp_eq (tgt := 637) hx hb dL_law_479 (by decide) (fun _ => ?_) (fun h9 => absurd (sim_robotState hR (xs (x3 + 1).toNatClampNeg)) h9)
        refine lv_iinc (v := x3 + 5) (lv' := [(3, .int (x3 + 5)), (2, .ref (q.1 0 0)), (1, .ref (k.1 0 0)), (0, .ref b)]) hx hb dL_law_637 hl (k := 0) rfl rfl (by decide) rfl (fun ls hl => ?_)
        refine lv_goto (tgt := 68) hx hb dL_law_640 (by decide) ?_
        exact ih (x3 + 5) M N _ _ ls (lpL_s hinv c73 hL) hR hP hQ hDC hDM hS hl
      by_cases e_12 : (xs x3.toNatClampNeg &&& 31) = 12
      · refine lv_tableIn (tgt := 484) hx hb dL_law_82 (by rw [e_12]; decide) (by rw [e_12]; decide) (by rw [e_12]; rfl) (by decide) ?_
        refine lv_aload_n hx hb dL_law_484 rfl (lv_at hl 2 rfl) ?_
        refine lv_aload_n hx hb dL_law_485 rfl (lv_at hl 3 rfl) ?_
        refine lv_iload_n hx hb dL_law_486 rfl (lv_at hl 0 rfl) ?_
        refine lv_iconst (v := 1) hx hb dL_law_487 (by decide) ?_
        refine lv_iadd hx hb dL_law_488 ?_
        refine va_sld hx hb hX hbl hbA hS hi1 dL_law_489 ?_
        refine lv_aload_n hx hb dL_law_490 rfl (lv_at hl 3 rfl) ?_
        refine lv_iload_n hx hb dL_law_491 rfl (lv_at hl 0 rfl) ?_
        refine lv_iconst (v := 2) hx hb dL_law_492 (by decide) ?_
        refine lv_iadd hx hb dL_law_493 ?_
        refine va_sld hx hb hX hbl hbA hS hi2 dL_law_494 ?_
        refine ly_Vi (w := (cw k)) (f_X3_reg k M (xs (x3 + 1).toNatClampNeg) (xs (x3 + 2).toNatClampNeg)) M [.int (xs (x3 + 1).toNatClampNeg), .int (xs (x3 + 2).toNatClampNeg)] [] (cZok k) ⟨hx, hb, hml, hown, hts⟩ (c_X3_reg l k M (xs (x3 + 1).toNatClampNeg) (xs (x3 + 2).toNatClampNeg) hR.1) (cwV 2 hts gL_law_X3_reg rfl rfl rfl (by decide +kernel) ⟨by decide, by decide⟩) (wx_recv (w := (cw k)) (g := 0) (j := 0) hKC hP (cIx_0 (by decide)) rfl rfl) hP hKC hDC hZ (fun _ _ h => cZ_n (wA_sub hDC) h) hS rfl hl.1 rfl (Nat.le_of_ble_eq_true rfl) dL_law_495 ⟨by decide, by decide⟩ (fun H locs hP hDC hS _ hk9 => ?_)
        have hQ := keep2 hQ hdis hk9
        refine lv_aload_n hx hb dL_law_498 rfl (lv_at hl 1 rfl) ?_
        refine lv_aload_n hx hb dL_law_499 rfl (lv_at hl 3 rfl) ?_
        refine lv_iload_n hx hb dL_law_500 rfl (lv_at hl 0 rfl) ?_
        refine lv_iconst (v := 1) hx hb dL_law_501 (by decide) ?_
        refine lv_iadd hx hb dL_law_502 ?_
        refine va_sld hx hb hX hbl hbA hS hi1 dL_law_503 ?_
        refine lv_aload_n hx hb dL_law_504 rfl (lv_at hl 3 rfl) ?_
        refine lv_iload_n hx hb dL_law_505 rfl (lv_at hl 0 rfl) ?_
        refine lv_iconst (v := 2) hx hb dL_law_506 (by decide) ?_
        refine lv_iadd hx hb dL_law_507 ?_
        refine va_sld hx hb hX hbl hbA hS hi2 dL_law_508 ?_
        refine ly_Vi (w := (mw q)) (f_X4_reg q N (xs (x3 + 1).toNatClampNeg) (xs (x3 + 2).toNatClampNeg)) N [.int (xs (x3 + 1).toNatClampNeg), .int (xs (x3 + 2).toNatClampNeg)] [.int (f_X3_reg k M (xs (x3 + 1).toNatClampNeg) (xs (x3 + 2).toNatClampNeg))] (mZok q) ⟨hx, hb, hml, hown, hts⟩ (c_X4_reg l q N (xs (x3 + 1).toNatClampNeg) (xs (x3 + 2).toNatClampNeg) hR.2.1) (cwV 2 hts gL_law_X4_reg rfl rfl rfl (by decide +kernel) ⟨by decide, by decide⟩) (wx_recv (w := (mw q)) (g := 0) (j := 0) hKM hQ (mIx_0 (by decide)) rfl rfl) hQ hKM hDM trivial (fun _ _ _ => trivial) hS rfl hl.1 rfl (Nat.le_of_ble_eq_true rfl) dL_law_509 ⟨by decide, by decide⟩ (fun H locs hQ hDM hS _ hk9 => ?_)
        have hP := keep2 hP hdis2 hk9
        refine lv_icmp_eq (tgt := 637) hx hb dL_law_512 (by decide) (fun _ => ?_) (fun h9 => absurd (sim_reg hR (xs (x3 + 1).toNatClampNeg) (xs (x3 + 2).toNatClampNeg)) h9)
        refine lv_iinc (v := x3 + 5) (lv' := [(3, .int (x3 + 5)), (2, .ref (q.1 0 0)), (1, .ref (k.1 0 0)), (0, .ref b)]) hx hb dL_law_637 hl (k := 0) rfl rfl (by decide) rfl (fun ls hl => ?_)
        refine lv_goto (tgt := 68) hx hb dL_law_640 (by decide) ?_
        exact ih (x3 + 5) M N _ _ ls (lpL_s hinv c73 hL) hR hP hQ hDC hDM hS hl
      by_cases e_13 : (xs x3.toNatClampNeg &&& 31) = 13
      · refine lv_tableIn (tgt := 517) hx hb dL_law_82 (by rw [e_13]; decide) (by rw [e_13]; decide) (by rw [e_13]; rfl) (by decide) ?_
        refine lv_aload_n hx hb dL_law_517 rfl (lv_at hl 2 rfl) ?_
        refine lv_aload_n hx hb dL_law_518 rfl (lv_at hl 3 rfl) ?_
        refine lv_iload_n hx hb dL_law_519 rfl (lv_at hl 0 rfl) ?_
        refine lv_iconst (v := 1) hx hb dL_law_520 (by decide) ?_
        refine lv_iadd hx hb dL_law_521 ?_
        refine va_sld hx hb hX hbl hbA hS hi1 dL_law_522 ?_
        refine lv_aload_n hx hb dL_law_523 rfl (lv_at hl 3 rfl) ?_
        refine lv_iload_n hx hb dL_law_524 rfl (lv_at hl 0 rfl) ?_
        refine lv_iconst (v := 2) hx hb dL_law_525 (by decide) ?_
        refine lv_iadd hx hb dL_law_526 ?_
        refine va_sld hx hb hX hbl hbA hS hi2 dL_law_527 ?_
        refine ly_Vi (w := (cw k)) (f_X3_at k M (xs (x3 + 1).toNatClampNeg) (xs (x3 + 2).toNatClampNeg)) M [.int (xs (x3 + 1).toNatClampNeg), .int (xs (x3 + 2).toNatClampNeg)] [] (cZok k) ⟨hx, hb, hml, hown, hts⟩ (c_X3_at l k M (xs (x3 + 1).toNatClampNeg) (xs (x3 + 2).toNatClampNeg) hR.1) (cwV 2 hts gL_law_X3_at rfl rfl rfl (by decide +kernel) ⟨by decide, by decide⟩) (wx_recv (w := (cw k)) (g := 0) (j := 0) hKC hP (cIx_0 (by decide)) rfl rfl) hP hKC hDC hZ (fun _ _ h => cZ_n (wA_sub hDC) h) hS rfl hl.1 rfl (Nat.le_of_ble_eq_true rfl) dL_law_528 ⟨by decide, by decide⟩ (fun H locs hP hDC hS _ hk9 => ?_)
        have hQ := keep2 hQ hdis hk9
        refine lv_aload_n hx hb dL_law_531 rfl (lv_at hl 1 rfl) ?_
        refine lv_aload_n hx hb dL_law_532 rfl (lv_at hl 3 rfl) ?_
        refine lv_iload_n hx hb dL_law_533 rfl (lv_at hl 0 rfl) ?_
        refine lv_iconst (v := 1) hx hb dL_law_534 (by decide) ?_
        refine lv_iadd hx hb dL_law_535 ?_
        refine va_sld hx hb hX hbl hbA hS hi1 dL_law_536 ?_
        refine lv_aload_n hx hb dL_law_537 rfl (lv_at hl 3 rfl) ?_
        refine lv_iload_n hx hb dL_law_538 rfl (lv_at hl 0 rfl) ?_
        refine lv_iconst (v := 2) hx hb dL_law_539 (by decide) ?_
        refine lv_iadd hx hb dL_law_540 ?_
        refine va_sld hx hb hX hbl hbA hS hi2 dL_law_541 ?_
        refine ly_Vi (w := (mw q)) (f_X4_at q N (xs (x3 + 1).toNatClampNeg) (xs (x3 + 2).toNatClampNeg)) N [.int (xs (x3 + 1).toNatClampNeg), .int (xs (x3 + 2).toNatClampNeg)] [.int (f_X3_at k M (xs (x3 + 1).toNatClampNeg) (xs (x3 + 2).toNatClampNeg))] (mZok q) ⟨hx, hb, hml, hown, hts⟩ (c_X4_at l q N (xs (x3 + 1).toNatClampNeg) (xs (x3 + 2).toNatClampNeg) hR.2.1) (cwV 2 hts gL_law_X4_at rfl rfl rfl (by decide +kernel) ⟨by decide, by decide⟩) (wx_recv (w := (mw q)) (g := 0) (j := 0) hKM hQ (mIx_0 (by decide)) rfl rfl) hQ hKM hDM trivial (fun _ _ _ => trivial) hS rfl hl.1 rfl (Nat.le_of_ble_eq_true rfl) dL_law_542 ⟨by decide, by decide⟩ (fun H locs hQ hDM hS _ hk9 => ?_)
        have hP := keep2 hP hdis2 hk9
        refine lv_icmp_eq (tgt := 637) hx hb dL_law_545 (by decide) (fun _ => ?_) (fun h9 => absurd (sim_at hR (xs (x3 + 1).toNatClampNeg) (xs (x3 + 2).toNatClampNeg)) h9)
        refine lv_iinc (v := x3 + 5) (lv' := [(3, .int (x3 + 5)), (2, .ref (q.1 0 0)), (1, .ref (k.1 0 0)), (0, .ref b)]) hx hb dL_law_637 hl (k := 0) rfl rfl (by decide) rfl (fun ls hl => ?_)
        refine lv_goto (tgt := 68) hx hb dL_law_640 (by decide) ?_
        exact ih (x3 + 5) M N _ _ ls (lpL_s hinv c73 hL) hR hP hQ hDC hDM hS hl
      by_cases e_14 : (xs x3.toNatClampNeg &&& 31) = 14
      · refine lv_tableIn (tgt := 550) hx hb dL_law_82 (by rw [e_14]; decide) (by rw [e_14]; decide) (by rw [e_14]; rfl) (by decide) ?_
        refine lv_aload_n hx hb dL_law_550 rfl (lv_at hl 2 rfl) ?_
        refine lv_aload_n hx hb dL_law_551 rfl (lv_at hl 3 rfl) ?_
        refine lv_iload_n hx hb dL_law_552 rfl (lv_at hl 0 rfl) ?_
        refine lv_iconst (v := 1) hx hb dL_law_553 (by decide) ?_
        refine lv_iadd hx hb dL_law_554 ?_
        refine va_sld hx hb hX hbl hbA hS hi1 dL_law_555 ?_
        refine lv_aload_n hx hb dL_law_556 rfl (lv_at hl 3 rfl) ?_
        refine lv_iload_n hx hb dL_law_557 rfl (lv_at hl 0 rfl) ?_
        refine lv_iconst (v := 2) hx hb dL_law_558 (by decide) ?_
        refine lv_iadd hx hb dL_law_559 ?_
        refine va_sld hx hb hX hbl hbA hS hi2 dL_law_560 ?_
        refine lv_aload_n hx hb dL_law_561 rfl (lv_at hl 3 rfl) ?_
        refine lv_iload_n hx hb dL_law_562 rfl (lv_at hl 0 rfl) ?_
        refine lv_iconst (v := 3) hx hb dL_law_563 (by decide) ?_
        refine lv_iadd hx hb dL_law_564 ?_
        refine va_sld hx hb hX hbl hbA hS hi3 dL_law_565 ?_
        refine lv_aload_n hx hb dL_law_566 rfl (lv_at hl 3 rfl) ?_
        refine lv_iload_n hx hb dL_law_567 rfl (lv_at hl 0 rfl) ?_
        refine lv_iconst (v := 4) hx hb dL_law_568 (by decide) ?_
        refine lv_iadd hx hb dL_law_569 ?_
        refine va_sld hx hb hX hbl hbA hS hi4 dL_law_570 ?_
        refine ly_Vi (w := (cw k)) ((f_X3_pathLength k M (xs (x3 + 1).toNatClampNeg) (xs (x3 + 2).toNatClampNeg) (xs (x3 + 3).toNatClampNeg) (xs (x3 + 4).toNatClampNeg)).1) ((f_X3_pathLength k M (xs (x3 + 1).toNatClampNeg) (xs (x3 + 2).toNatClampNeg) (xs (x3 + 3).toNatClampNeg) (xs (x3 + 4).toNatClampNeg)).2) [.int (xs (x3 + 1).toNatClampNeg), .int (xs (x3 + 2).toNatClampNeg), .int (xs (x3 + 3).toNatClampNeg), .int (xs (x3 + 4).toNatClampNeg)] [] (cZok k) ⟨hx, hb, hml, hown, hts⟩ (c_X3_pathLength l k M (xs (x3 + 1).toNatClampNeg) (xs (x3 + 2).toNatClampNeg) (xs (x3 + 3).toNatClampNeg) (xs (x3 + 4).toNatClampNeg) hR.1) (cwV 4 hts gL_law_X3_pathLength rfl rfl rfl (by decide +kernel) ⟨by decide, by decide⟩) (wx_recv (w := (cw k)) (g := 0) (j := 0) hKC hP (cIx_0 (by decide)) rfl rfl) hP hKC hDC hZ (fun _ _ h => cZ_n (wA_sub hDC) h) hS rfl hl.1 rfl (Nat.le_of_ble_eq_true rfl) dL_law_571 ⟨by decide, by decide⟩ (fun H locs hP hDC hS _ hk9 => ?_)
        have hQ := keep2 hQ hdis hk9
        refine lv_aload_n hx hb dL_law_574 rfl (lv_at hl 1 rfl) ?_
        refine lv_aload_n hx hb dL_law_575 rfl (lv_at hl 3 rfl) ?_
        refine lv_iload_n hx hb dL_law_576 rfl (lv_at hl 0 rfl) ?_
        refine lv_iconst (v := 1) hx hb dL_law_577 (by decide) ?_
        refine lv_iadd hx hb dL_law_578 ?_
        refine va_sld hx hb hX hbl hbA hS hi1 dL_law_579 ?_
        refine lv_aload_n hx hb dL_law_580 rfl (lv_at hl 3 rfl) ?_
        refine lv_iload_n hx hb dL_law_581 rfl (lv_at hl 0 rfl) ?_
        refine lv_iconst (v := 2) hx hb dL_law_582 (by decide) ?_
        refine lv_iadd hx hb dL_law_583 ?_
        refine va_sld hx hb hX hbl hbA hS hi2 dL_law_584 ?_
        refine lv_aload_n hx hb dL_law_585 rfl (lv_at hl 3 rfl) ?_
        refine lv_iload_n hx hb dL_law_586 rfl (lv_at hl 0 rfl) ?_
        refine lv_iconst (v := 3) hx hb dL_law_587 (by decide) ?_
        refine lv_iadd hx hb dL_law_588 ?_
        refine va_sld hx hb hX hbl hbA hS hi3 dL_law_589 ?_
        refine lv_aload_n hx hb dL_law_590 rfl (lv_at hl 3 rfl) ?_
        refine lv_iload_n hx hb dL_law_591 rfl (lv_at hl 0 rfl) ?_
        refine lv_iconst (v := 4) hx hb dL_law_592 (by decide) ?_
        refine lv_iadd hx hb dL_law_593 ?_
        refine va_sld hx hb hX hbl hbA hS hi4 dL_law_594 ?_
        refine ly_Vi (w := (mw q)) ((f_X4_pathLength q N (xs (x3 + 1).toNatClampNeg) (xs (x3 + 2).toNatClampNeg) (xs (x3 + 3).toNatClampNeg) (xs (x3 + 4).toNatClampNeg)).1) ((f_X4_pathLength q N (xs (x3 + 1).toNatClampNeg) (xs (x3 + 2).toNatClampNeg) (xs (x3 + 3).toNatClampNeg) (xs (x3 + 4).toNatClampNeg)).2) [.int (xs (x3 + 1).toNatClampNeg), .int (xs (x3 + 2).toNatClampNeg), .int (xs (x3 + 3).toNatClampNeg), .int (xs (x3 + 4).toNatClampNeg)] [.int ((f_X3_pathLength k M (xs (x3 + 1).toNatClampNeg) (xs (x3 + 2).toNatClampNeg) (xs (x3 + 3).toNatClampNeg) (xs (x3 + 4).toNatClampNeg)).1)] (mZok q) ⟨hx, hb, hml, hown, hts⟩ (c_X4_pathLength l q N (xs (x3 + 1).toNatClampNeg) (xs (x3 + 2).toNatClampNeg) (xs (x3 + 3).toNatClampNeg) (xs (x3 + 4).toNatClampNeg) hR.2.1) (cwV 4 hts gL_law_X4_pathLength rfl rfl rfl (by decide +kernel) ⟨by decide, by decide⟩) (wx_recv (w := (mw q)) (g := 0) (j := 0) hKM hQ (mIx_0 (by decide)) rfl rfl) hQ hKM hDM trivial (fun _ _ _ => trivial) hS rfl hl.1 rfl (Nat.le_of_ble_eq_true rfl) dL_law_595 ⟨by decide, by decide⟩ (fun H locs hQ hDM hS _ hk9 => ?_)
        have hP := keep2 hP hdis2 hk9
        refine lv_icmp_eq (tgt := 637) hx hb dL_law_598 (by decide) (fun _ => ?_) (fun h9 => absurd (sim_pathLength hR (xs (x3 + 1).toNatClampNeg) (xs (x3 + 2).toNatClampNeg) (xs (x3 + 3).toNatClampNeg) (xs (x3 + 4).toNatClampNeg)).1 h9)
        refine lv_iinc (v := x3 + 5) (lv' := [(3, .int (x3 + 5)), (2, .ref (q.1 0 0)), (1, .ref (k.1 0 0)), (0, .ref b)]) hx hb dL_law_637 hl (k := 0) rfl rfl (by decide) rfl (fun ls hl => ?_)
        refine lv_goto (tgt := 68) hx hb dL_law_640 (by decide) ?_
        exact ih (x3 + 5) (f_X3_pathLength k M (xs (x3 + 1).toNatClampNeg) (xs (x3 + 2).toNatClampNeg) (xs (x3 + 3).toNatClampNeg) (xs (x3 + 4).toNatClampNeg)).2 (f_X4_pathLength q N (xs (x3 + 1).toNatClampNeg) (xs (x3 + 2).toNatClampNeg) (xs (x3 + 3).toNatClampNeg) (xs (x3 + 4).toNatClampNeg)).2 _ _ ls (lpL_s hinv c73 hL) (sim_pathLength hR (xs (x3 + 1).toNatClampNeg) (xs (x3 + 2).toNatClampNeg) (xs (x3 + 3).toNatClampNeg) (xs (x3 + 4).toNatClampNeg)).2 hP hQ hDC hDM hS hl
      by_cases e_15 : (xs x3.toNatClampNeg &&& 31) = 15
      · refine lv_tableIn (tgt := 603) hx hb dL_law_82 (by rw [e_15]; decide) (by rw [e_15]; decide) (by rw [e_15]; rfl) (by decide) ?_
        refine lv_aload_n hx hb dL_law_603 rfl (lv_at hl 2 rfl) ?_
        refine ly_Vi (w := (cw k)) (f_X3_now k M) M [] [] (cZok k) ⟨hx, hb, hml, hown, hts⟩ (c_X3_now l k M  ) (cwV 0 hts gL_law_X3_now rfl rfl rfl (by decide +kernel) ⟨by decide, by decide⟩) (wx_recv (w := (cw k)) (g := 0) (j := 0) hKC hP (cIx_0 (by decide)) rfl rfl) hP hKC hDC hZ (fun _ _ h => cZ_n (wA_sub hDC) h) hS rfl hl.1 rfl (Nat.le_of_ble_eq_true rfl) dL_law_604 ⟨by decide, by decide⟩ (fun H locs hP hDC hS _ hk9 => ?_)
        have hQ := keep2 hQ hdis hk9
        refine lv_aload_n hx hb dL_law_607 rfl (lv_at hl 1 rfl) ?_
        refine ly_Vi (w := (mw q)) (f_X4_now q N) N [] [.int (f_X3_now k M)] (mZok q) ⟨hx, hb, hml, hown, hts⟩ (c_X4_now l q N  ) (cwV 0 hts gL_law_X4_now rfl rfl rfl (by decide +kernel) ⟨by decide, by decide⟩) (wx_recv (w := (mw q)) (g := 0) (j := 0) hKM hQ (mIx_0 (by decide)) rfl rfl) hQ hKM hDM trivial (fun _ _ _ => trivial) hS rfl hl.1 rfl (Nat.le_of_ble_eq_true rfl) dL_law_608 ⟨by decide, by decide⟩ (fun H locs hQ hDM hS _ hk9 => ?_)
        have hP := keep2 hP hdis2 hk9
        refine lv_icmp_eq (tgt := 637) hx hb dL_law_611 (by decide) (fun _ => ?_) (fun h9 => absurd (sim_now hR ) h9)
        refine lv_iinc (v := x3 + 5) (lv' := [(3, .int (x3 + 5)), (2, .ref (q.1 0 0)), (1, .ref (k.1 0 0)), (0, .ref b)]) hx hb dL_law_637 hl (k := 0) rfl rfl (by decide) rfl (fun ls hl => ?_)
        refine lv_goto (tgt := 68) hx hb dL_law_640 (by decide) ?_
        exact ih (x3 + 5) M N _ _ ls (lpL_s hinv c73 hL) hR hP hQ hDC hDM hS hl
      by_cases e_16 : (xs x3.toNatClampNeg &&& 31) = 16
      · refine lv_tableIn (tgt := 616) hx hb dL_law_82 (by rw [e_16]; decide) (by rw [e_16]; decide) (by rw [e_16]; rfl) (by decide) ?_
        refine lv_aload_n hx hb dL_law_616 rfl (lv_at hl 2 rfl) ?_
        refine lv_aload_n hx hb dL_law_617 rfl (lv_at hl 3 rfl) ?_
        refine lv_iload_n hx hb dL_law_618 rfl (lv_at hl 0 rfl) ?_
        refine lv_iconst (v := 1) hx hb dL_law_619 (by decide) ?_
        refine lv_iadd hx hb dL_law_620 ?_
        refine va_sld hx hb hX hbl hbA hS hi1 dL_law_621 ?_
        refine ly_Vv (w := (cw k)) (f_X3_setClock k M (xs (x3 + 1).toNatClampNeg)) [.int (xs (x3 + 1).toNatClampNeg)] [] (cZok k) ⟨hx, hb, hml, hown, hts⟩ (c_X3_setClock l k M (xs (x3 + 1).toNatClampNeg) ) (cwV 1 hts gL_law_X3_setClock rfl rfl rfl (by decide +kernel) ⟨by decide, by decide⟩) (wx_recv (w := (cw k)) (g := 0) (j := 0) hKC hP (cIx_0 (by decide)) rfl rfl) hP hKC hDC hZ (fun _ _ h => cZ_n (wA_sub hDC) h) hS rfl hl.1 rfl (Nat.le_of_ble_eq_true rfl) dL_law_622 ⟨by decide, by decide⟩ (fun H locs hP hDC hS _ hk9 => ?_)
        have hQ := keep2 hQ hdis hk9
        refine lv_aload_n hx hb dL_law_625 rfl (lv_at hl 1 rfl) ?_
        refine lv_aload_n hx hb dL_law_626 rfl (lv_at hl 3 rfl) ?_
        refine lv_iload_n hx hb dL_law_627 rfl (lv_at hl 0 rfl) ?_
        refine lv_iconst (v := 1) hx hb dL_law_628 (by decide) ?_
        refine lv_iadd hx hb dL_law_629 ?_
        refine va_sld hx hb hX hbl hbA hS hi1 dL_law_630 ?_
        refine ly_Vv (w := (mw q)) (f_X4_setClock q N (xs (x3 + 1).toNatClampNeg)) [.int (xs (x3 + 1).toNatClampNeg)] [] (mZok q) ⟨hx, hb, hml, hown, hts⟩ (c_X4_setClock l q N (xs (x3 + 1).toNatClampNeg) ) (cwV 1 hts gL_law_X4_setClock rfl rfl rfl (by decide +kernel) ⟨by decide, by decide⟩) (wx_recv (w := (mw q)) (g := 0) (j := 0) hKM hQ (mIx_0 (by decide)) rfl rfl) hQ hKM hDM trivial (fun _ _ _ => trivial) hS rfl hl.1 rfl (Nat.le_of_ble_eq_true rfl) dL_law_631 ⟨by decide, by decide⟩ (fun H locs hQ hDM hS _ hk9 => ?_)
        have hP := keep2 hP hdis2 hk9
        refine lv_goto (tgt := 637) hx hb dL_law_634 (by decide) ?_
        refine lv_iinc (v := x3 + 5) (lv' := [(3, .int (x3 + 5)), (2, .ref (q.1 0 0)), (1, .ref (k.1 0 0)), (0, .ref b)]) hx hb dL_law_637 hl (k := 0) rfl rfl (by decide) rfl (fun ls hl => ?_)
        refine lv_goto (tgt := 68) hx hb dL_law_640 (by decide) ?_
        exact ih (x3 + 5) (f_X3_setClock k M (xs (x3 + 1).toNatClampNeg)) (f_X4_setClock q N (xs (x3 + 1).toNatClampNeg)) _ _ ls (lpL_s hinv c73 hL) (sim_setClock hR (xs (x3 + 1).toNatClampNeg)) hP hQ hDC hDM hS hl
      have hdf : (xs x3.toNatClampNeg &&& 31).toInt < 0 ∨ 16 < (xs x3.toNatClampNeg &&& 31).toInt := by have n0 := lv_neT e_0 (a := 0) (by decide); have n1 := lv_neT e_1 (a := 1) (by decide); have n2 := lv_neT e_2 (a := 2) (by decide); have n3 := lv_neT e_3 (a := 3) (by decide); have n4 := lv_neT e_4 (a := 4) (by decide); have n5 := lv_neT e_5 (a := 5) (by decide); have n6 := lv_neT e_6 (a := 6) (by decide); have n7 := lv_neT e_7 (a := 7) (by decide); have n8 := lv_neT e_8 (a := 8) (by decide); have n9 := lv_neT e_9 (a := 9) (by decide); have n10 := lv_neT e_10 (a := 10) (by decide); have n11 := lv_neT e_11 (a := 11) (by decide); have n12 := lv_neT e_12 (a := 12) (by decide); have n13 := lv_neT e_13 (a := 13) (by decide); have n14 := lv_neT e_14 (a := 14) (by decide); have n15 := lv_neT e_15 (a := 15) (by decide); have n16 := lv_neT e_16 (a := 16) (by decide); omega
      refine lv_tableOut (tgt := 637) hx hb dL_law_82 hdf (by decide) ?_
      refine lv_iinc (v := x3 + 5) (lv' := [(3, .int (x3 + 5)), (2, .ref (q.1 0 0)), (1, .ref (k.1 0 0)), (0, .ref b)]) hx hb dL_law_637 hl (k := 0) rfl rfl (by decide) rfl (fun ls hl => ?_)
      refine lv_goto (tgt := 68) hx hb dL_law_640 (by decide) ?_
      exact ih (x3 + 5) M N _ _ ls (lpL_s hinv c73 hL) hR hP hQ hDC hDM hS hl
