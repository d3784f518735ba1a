section LW
variable {p : Program} {l : Launch} {e : Env} {R : Room} {s : State} {m : MethodId} {args : Array Value} {below : List Frame} {meth : Method} {c : Code} {H : Heap} {locs : List Loc} {cells slots : Nat} {Q : State → Prop}
variable {cc : ByteArray} {pc : Nat} {ls : Array Slot} {D : va_G} {cl : List vw_C} {A : Nat → Prop} {ws : va_W}
/-- a constructor's call, what stands behind it told by the contract -/
theorem lx_I4 {S : Type} {B : S → State → Prop} {wr : va_W} {b : Nat} {e0 : va_E} {cI cR cZ : ClassId} {bytes : ByteArray} {index n maxL nL mc ms : Nat} {y : MethodName} {wm Ts : List Cond} {rm : Room} {own : String} (As rest : List Value) (S9 : CallFix p m c cc nL s args Ts own)
    (hM : Met l y wm rm (va_Pc (.ref b :: As) (lOK D cI cR cZ H.size [(b, e0)])) (va_Qv (fun _ : S => True) B (va_A [(b, e0)] H.size)) mc ms (va_A [(b, e0)] H.size)) (cw : CallB R s args own index y bytes maxL none wm rm mc ms n ∧ y.name = "<init>" ∧ (Cond.instanceMethod y).before args s = true) (hK : va_K D vwCl (K3 cI cR cZ) s) (hP : va_P D vwCl (wr ++ [(b, e0)]) H) (hD : va_D A (wr ++ [(b, e0)])) (hA : ∀ q, s.heap.size ≤ q → A q) (hS : va_S A s.heap H locs) (hn : As.length = n) (hsz : ls.size = nL) {st : List Value} (hst : st = As.reverse ++ .ref b :: rest) (hr8 : (rest.map fun v => v.category).sum ≤ 8) (hdg : decode cc pc = .ok (.invokespecial index, 3)) (hf : cells + mc ≤ R.cells ∧ slots + ms ≤ R.slots)
    (kk : ∀ (u : S) (t : State) (H1 : Heap) (locs1 : List Loc), t.heap = H1 → B u t → H.size ≤ H1.size → (∀ q : Nat, q < H.size → ¬ va_A [(b, e0)] H.size q → H1[q]? = H[q]?) → (∀ q, va_A [(b, e0)] H.size q → A q) → va_S A s.heap H1 locs1 → W p l e R s m args below meth c H1 locs1 (cells + mc) (slots + ms) Q (F0 m (pc + 3) ls rest)) : W p l e R s m args below meth c H locs cells slots Q (F0 m pc ls st) := by
  subst hst
  have hPc : va_P D vwCl [(b, e0)] H := fun k q hq => hP (wr.length + k) q (by rw [List.getElem?_append_right (by omega)]; simpa using hq)
  have hDc : va_D A [(b, e0)] := by
    refine ⟨fun i j x z hx hz _ => ?_, fun k q hq => hD.2 (wr.length + k) q (by rw [List.getElem?_append_right (by omega)]; simpa using hq)⟩
    have h1 := (List.getElem?_eq_some_iff.mp hx).1
    have h2 := (List.getElem?_eq_some_iff.mp hz).1
    simp at h1 h2
    omega
  have hF : ∀ q, va_A [(b, e0)] H.size q → A q := by
    intro q h
    rcases h with ⟨k, e1, h⟩ | h
    · exact hDc.2 k (q, e1) h
    · exact hA q (Nat.le_trans hS.1 h)
  refine va_callv (va_runI (As := As) (rest := rest) S9 hM cw ⟨fun a U g mk q => ?_, fun U hU hW => ⟨rfl, by rw [hU], by rw [hU]; exact hPc, va_K.moved hW.alike hK, hDc.weaken (fun _ _ _ _ => trivial)⟩⟩ rfl hn hsz rfl (lv_room hr8) hdg hf) hS (fun q _ h => hF q h) hF (fun u t H1 locs1 ht _ _ hB hz hk1 hS1 => kk u t H1 locs1 ht hB hz hk1 hF hS1)
  obtain ⟨q0, q1, qP, qK, qD⟩ := q
  exact ⟨q0, q1, qP, va_K.moved (u := U) (U := U.calling g mk a) (Vm.Alike.refl U.vm) qK, qD⟩
end LW
theorem wA_in {w : WG} (M : Mem) {a : Nat} (h : wA w a) : ∃ (t : Nat) (e : va_E), (wW w M)[t]? = some (a, e) := by
  obtain ⟨g, j, h1, rfl⟩ := h
  obtain ⟨t, h2⟩ := List.mem_iff_getElem?.mp h1
  exact ⟨t, wE w g j (M g j), by simp [pool, h2]⟩
set_option maxHeartbeats 4000000 in
set_option maxRecDepth 100000 in
/-- THE LAW, from its entry -/
theorem whole_start {p : Program} {e : Env} {s : State} {m : MethodId} {below : List Frame} {meth : Method} {c : Code} (l : Launch) {b L : Nat} {xs : Nat → Int32} (hL : L ≤ 2565) (C0 : lw_At p s m meth c b L xs) : W p l e room_1 s m #[Value.ref b] below meth c s.heap [] 0 0 (lw_Z below #[Value.ref b] s) (entryFrame m ([Value.ref b] : List Value).toArray 4) := by
  obtain ⟨hx, hb, hr, hml, hown, hts0, hX, hbl, hlocks, hgv⟩ := id C0
  have hb : c.code = cL_law := hb
  have hown : s.vm.findClass RL = some m.cls := hown
  have hts : ∀ w ∈ wsL_law, w.before #[Value.ref b] s = true := fun w h => hts0 w (wsL_law_in w h)
  have hA : ∀ q : Nat, s.heap.size ≤ q → (fun q : Nat => s.heap.size ≤ q) q := fun _ h => h
  have hbA : ¬ (fun q : Nat => s.heap.size ≤ q) b := Nat.not_le.mpr hbl
  have hLs : L < 2 ^ 31 := by omega
  obtain ⟨cc0, iS0, hKn0⟩ := u_known (C := RX0) (T := TX0) (N := 2) (n := 2) hts0 inX0 (hts (.instantiable RX0 2) (by decide +kernel))
  obtain ⟨cc1, iS1, hKn1⟩ := u_known (C := RX1) (T := TX1) (N := 6) (n := 6) hts0 inX1 (hts (.instantiable RX1 6) (by decide +kernel))
  obtain ⟨cc2, iS2, hKn2⟩ := u_known (C := RX2) (T := TX2) (N := 12) (n := 12) hts0 inX2 (hts (.instantiable RX2 12) (by decide +kernel))
  obtain ⟨cc3, iS3, hKn3⟩ := u_known (C := RX3) (T := TX3) (N := 4) (n := 4) hts0 inX3 (hts (.instantiable RX3 4) (by decide +kernel))
  obtain ⟨cc4, iS4, hKn4⟩ := u_known (C := RX4) (T := TX4) (N := 22) (n := 22) hts0 inX4 (hts (.instantiable RX4 22) (by decide +kernel))
  obtain ⟨D, hKc⟩ : ∃ D : va_G, ∀ (k : Nat) (q : vw_C), vwCl[k]? = some q → u_Kn s q.1 q.2.1 q.2.2 (D.1 k) (D.2 k) := by
    refine ⟨(fun k => if k = 0 then cc0 else if k = 1 then cc1 else if k = 2 then cc2 else if k = 3 then cc3 else cc4, fun k => if k = 0 then iS0 else if k = 1 then iS1 else if k = 2 then iS2 else if k = 3 then iS3 else iS4), ?_⟩
    intro k q hq
    match k, hq with
    | 0, hq => cases hq; exact hKn0
    | 1, hq => cases hq; exact hKn1
    | 2, hq => cases hq; exact hKn2
    | 3, hq => cases hq; exact hKn3
    | 4, hq => cases hq; exact hKn4
    | k + 5, hq => simp [vwCl] at hq
  obtain ⟨yI, aI1, aI2⟩ := kt_prim (Or.inl rfl) (hts (.arrayClass .int) (by decide +kernel))
  obtain ⟨yZ, aZ1, aZ2⟩ := kt_prim (Or.inr rfl) (hts (.arrayClass .boolean) (by decide +kernel))
  have hover := hts0 (.arrayOver (.object RX2)) (by decide +kernel)
  obtain ⟨yR, aR1, aR2⟩ := kt_obj hover
  have hK : va_K D vwCl (K3 yI yR yZ) s := by
    refine ⟨hKc, fun k q hq => ?_⟩
    match k, hq with
    | 0, hq => cases hq; exact ⟨aI1, aI2⟩
    | 1, hq => cases hq; exact ⟨aR1, aR2⟩
    | 2, hq => cases hq; exact ⟨aZ1, aZ2⟩
    | k + 3, hq => simp [K3] at hq
  have hini := hts (.initialized RX3) (by decide +kernel)
  obtain ⟨tE, zE1, zE2⟩ := st_E (A := fun q : Nat => s.heap.size ≤ q) hgv (hts0 (.laysStatic "RobotWorld" "EAST_BY" "[I") (by decide +kernel)) hini (fun a h => by omega)
  obtain ⟨tS, zS1, zS2⟩ := st_S (A := fun q : Nat => s.heap.size ≤ q) hgv (hts0 (.laysStatic "RobotWorld" "SOUTH_BY" "[I") (by decide +kernel)) hini (fun a h => by omega)
  obtain ⟨aa, eaa, haa1, haa2⟩ := bd_e ((fun _ _ => 0, fun _ => 0, D, yI, yI) : CK) (fun _ _ _ => 0) (cellF L xs 0) 32 (by decide) (by decide)
  obtain ⟨bb, ebb, hbb1, hbb2⟩ := bd_e ((fun _ _ => 0, fun _ => 0, D, yI, yI) : CK) (fun _ _ _ => 0) (cellF L xs 1) 32 (by decide) (by decide)
  obtain ⟨nn, enn, hnn1, hnn2⟩ := bd_e ((fun _ _ => 0, fun _ => 0, D, yI, yI) : CK) (fun _ _ _ => 0) (cellF L xs 2) 8 (by decide) (by decide)
  obtain ⟨lg, elg, hlg1, hlg2⟩ := bd_e ((fun _ _ => 0, fun _ => 0, D, yI, yI) : CK) (fun _ _ _ => 0) (cellF L xs 3) 100 (by decide) (by decide)
  obtain ⟨mx, emx, hmx1, hmx2⟩ := bd_e ((fun _ _ => 0, fun _ => 0, D, yI, yI) : CK) (fun _ _ _ => 0) (cellF L xs 4) 16 (by decide) (by decide)
  have faa : f_X4_near ((fun _ _ => 0, fun _ => 0, D, yI, yI) : CK) (fun _ _ _ => 0) (cellF L xs 0) 1 32 = nI aa := (nr_e ((fun _ _ => 0, fun _ => 0, D, yI, yI) : CK) ((fun _ _ => 0, fun _ => 0, D, yI, yI) : CK) (fun _ _ _ => 0) (fun _ _ _ => 0) (cellF L xs 0) 32 (by decide) (by decide)).trans eaa
  have fbb : f_X4_near ((fun _ _ => 0, fun _ => 0, D, yI, yI) : CK) (fun _ _ _ => 0) (cellF L xs 1) 1 32 = nI bb := (nr_e ((fun _ _ => 0, fun _ => 0, D, yI, yI) : CK) ((fun _ _ => 0, fun _ => 0, D, yI, yI) : CK) (fun _ _ _ => 0) (fun _ _ _ => 0) (cellF L xs 1) 32 (by decide) (by decide)).trans ebb
  have fnn : f_X4_near ((fun _ _ => 0, fun _ => 0, D, yI, yI) : CK) (fun _ _ _ => 0) (cellF L xs 2) 1 8 = nI nn := (nr_e ((fun _ _ => 0, fun _ => 0, D, yI, yI) : CK) ((fun _ _ => 0, fun _ => 0, D, yI, yI) : CK) (fun _ _ _ => 0) (fun _ _ _ => 0) (cellF L xs 2) 8 (by decide) (by decide)).trans enn
  have flg : f_X4_near ((fun _ _ => 0, fun _ => 0, D, yI, yI) : CK) (fun _ _ _ => 0) (cellF L xs 3) 1 100 = nI lg := (nr_e ((fun _ _ => 0, fun _ => 0, D, yI, yI) : CK) ((fun _ _ => 0, fun _ => 0, D, yI, yI) : CK) (fun _ _ _ => 0) (fun _ _ _ => 0) (cellF L xs 3) 100 (by decide) (by decide)).trans elg
  have fmx : f_X4_near ((fun _ _ => 0, fun _ => 0, D, yI, yI) : CK) (fun _ _ _ => 0) (cellF L xs 4) 1 16 = nI mx := (nr_e ((fun _ _ => 0, fun _ => 0, D, yI, yI) : CK) ((fun _ _ => 0, fun _ => 0, D, yI, yI) : CK) (fun _ _ _ => 0) (fun _ _ _ => 0) (cellF L xs 4) 16 (by decide) (by decide)).trans emx
  have hZ : ∀ ad : Nat → Nat → Nat, cZ (ad, (fun t => match t with | 0 => nn | 1 => aa * bb | 2 => lg | 3 => mx | 4 => tE | _ => tS), D, yI, yR) (fun q : Nat => s.heap.size ≤ q) s s.heap := fun ad => ⟨zE1, zE2, zS1, zS2, va_Nw.of rfl (hts0 (.fieldLinkNest RX1 56 RX3 "EAST_BY" "[I" RX3) (by decide +kernel)), va_Nw.of rfl (hts0 (.fieldLinkNest RX1 59 RX3 "SOUTH_BY" "[I" RX3) (by decide +kernel)), va_Nw.of rfl (hts0 (.methodLinkNest RX2 64 yX3_opOf RX3) (by decide +kernel)), va_Nw.of rfl (hts0 (.methodLinkNest RX2 68 yX3_sOf RX3) (by decide +kernel)), va_Nw.of rfl (hts0 (.methodLinkNest RX2 71 yX3_rOf RX3) (by decide +kernel))⟩
  have hS : va_S (fun q : Nat => s.heap.size ≤ q) s.heap s.heap [] := va_S.rf
  have hP : va_P D vwCl [] s.heap := fun k q h => by simp at h
  have hD : va_D (fun q : Nat => s.heap.size ≤ q) [] := ⟨fun i j p q h => by simp at h, fun k q h => by simp at h⟩
  have hl := lv_entry ([.ref b]) (n := 4) (Nat.le_of_ble_eq_true rfl)
  rw [lg_entry_eq]
  generalize (lg_sl ([.ref b]) ++ List.replicate (4 - (lg_sl ([.ref b])).length) Slot.unset).toArray = ls at hl ⊢
  have hl : lv_has ls 4 [(0, .ref b)] := hl
  refine va_new (ci := 3) (fs := [.null, .null, .int 0, .int 0]) (C := RX3) (T := TX3) (N := 4) hx hb hts inlX3 tyX3 tyX3_ok hown (hts (.classLink RL 7 RX3) (by decide +kernel)) (hts (.instantiable RX3 4) (by decide +kernel)) hini hK hP hD hS hA rfl (fun j hj => by rcases (show j = 0 ∨ j = 1 ∨ j = 2 ∨ j = 3 by omega) with rfl | rfl | rfl | rfl <;> rfl) (by decide) (by decide) dL_law_0 (fun q0 H hP hD hS => ?_)
  have hP : va_P D vwCl [(q0, .inr (3, [.null, .null, .int 0, .int 0]))] H := hP
  have hD : va_D (fun q : Nat => s.heap.size ≤ q) [(q0, .inr (3, [.null, .null, .int 0, .int 0]))] := hD
  refine W.widen (k := 1) (n := 4) (by omega) (by omega) ?_
  refine lv_dup hx hb dL_law_3 rfl ?_
  refine lv_aload_n hx hb dL_law_4 rfl (lv_at hl 0 rfl) ?_
  refine lv_iconst (v := 0) hx hb dL_law_5 (by decide) ?_
  refine lx_cell (b := b) (L := L) (xs := xs) hLs 0 (by decide) [.ref q0, .ref q0] ⟨hx, hb, hml, hown, hts⟩ (va_cwS 2 hts gL_law_L_cell rfl rfl rfl (by decide +kernel) ⟨by decide, by decide⟩) hX hbl hbA hP hS hl.1 (Nat.le_of_ble_eq_true rfl) dL_law_6 ⟨by decide, by decide⟩ (fun H locs hP hS => ?_)
  refine lv_aload_n hx hb dL_law_9 rfl (lv_at hl 0 rfl) ?_
  refine lv_iconst (v := 1) hx hb dL_law_10 (by decide) ?_
  refine lx_cell (b := b) (L := L) (xs := xs) hLs 1 (by decide) [.int (cellF L xs 0), .ref q0, .ref q0] ⟨hx, hb, hml, hown, hts⟩ (va_cwS 2 hts gL_law_L_cell rfl rfl rfl (by decide +kernel) ⟨by decide, by decide⟩) hX hbl hbA hP hS hl.1 (Nat.le_of_ble_eq_true rfl) dL_law_11 ⟨by decide, by decide⟩ (fun H locs hP hS => ?_)
  refine lv_aload_n hx hb dL_law_14 rfl (lv_at hl 0 rfl) ?_
  refine lv_iconst (v := 2) hx hb dL_law_15 (by decide) ?_
  refine lx_cell (b := b) (L := L) (xs := xs) hLs 2 (by decide) [.int (cellF L xs 1), .int (cellF L xs 0), .ref q0, .ref q0] ⟨hx, hb, hml, hown, hts⟩ (va_cwS 2 hts gL_law_L_cell rfl rfl rfl (by decide +kernel) ⟨by decide, by decide⟩) hX hbl hbA hP hS hl.1 (Nat.le_of_ble_eq_true rfl) dL_law_16 ⟨by decide, by decide⟩ (fun H locs hP hS => ?_)
  refine lv_aload_n hx hb dL_law_19 rfl (lv_at hl 0 rfl) ?_
  refine lv_iconst (v := 3) hx hb dL_law_20 (by decide) ?_
  refine lx_cell (b := b) (L := L) (xs := xs) hLs 3 (by decide) [.int (cellF L xs 2), .int (cellF L xs 1), .int (cellF L xs 0), .ref q0, .ref q0] ⟨hx, hb, hml, hown, hts⟩ (va_cwS 2 hts gL_law_L_cell rfl rfl rfl (by decide +kernel) ⟨by decide, by decide⟩) hX hbl hbA hP hS hl.1 (Nat.le_of_ble_eq_true rfl) dL_law_21 ⟨by decide, by decide⟩ (fun H locs hP hS => ?_)
  refine lv_aload_n hx hb dL_law_24 rfl (lv_at hl 0 rfl) ?_
  refine lv_iconst (v := 4) hx hb dL_law_25 (by decide) ?_
  refine lx_cell (b := b) (L := L) (xs := xs) hLs 4 (by decide) [.int (cellF L xs 3), .int (cellF L xs 2), .int (cellF L xs 1), .int (cellF L xs 0), .ref q0, .ref q0] ⟨hx, hb, hml, hown, hts⟩ (va_cwS 2 hts gL_law_L_cell rfl rfl rfl (by decide +kernel) ⟨by decide, by decide⟩) hX hbl hbA hP hS hl.1 (Nat.le_of_ble_eq_true rfl) dL_law_26 ⟨by decide, by decide⟩ (fun H locs hP hS => ?_)
  refine lx_I3 (S := Nat → Nat → Nat) (wr := []) (e0 := .inr (3, [.null, .null, .int 0, .int 0])) (X := fun U => cZ (fun _ _ => 0, (fun t => match t with | 0 => nn | 1 => aa * bb | 2 => lg | 3 => mx | 4 => tE | _ => tS), D, yI, yR) (va_A [(q0, .inr (3, [.null, .null, .int 0, .int 0]))] H.size) U U.heap ∧ va_AO RX2 U) [.int (cellF L xs 0), .int (cellF L xs 1), .int (cellF L xs 2), .int (cellF L xs 3), .int (cellF L xs 4)] [.ref q0] ⟨hx, hb, hml, hown, hts⟩ (fun a U g mk h => ⟨(cZok _).1 _ U (U.calling g mk a) _ rfl h.1, h.2.moved (Vm.Alike.refl U.vm)⟩) (fun U hU hW => ⟨?_, (va_AO.of hover).moved hW.alike⟩) (c_X3_init l D yI yR yZ q0 H.size (fun t => match t with | 0 => nn | 1 => aa * bb | 2 => lg | 3 => mx | 4 => tE | _ => tS) aa bb (cellF L xs 0) (cellF L xs 1) (cellF L xs 2) (cellF L xs 3) (cellF L xs 4) eaa ebb ⟨haa1, haa2⟩ ⟨hbb1, hbb2⟩ enn ⟨hnn1, hnn2⟩ rfl elg ⟨hlg1, hlg2⟩ emx ⟨hmx1, hmx2⟩) (cwI 5 hts gL_law_X3_init rfl rfl rfl hini (hts (.methodLink RL 15 yX3_init) (by decide +kernel)) (hts (.instanceMethod yX3_init) (by decide +kernel)) rfl (by decide +kernel) ⟨by decide, by decide⟩) hK hP hD hA hS rfl hl.1 rfl (Nat.le_of_ble_eq_true rfl) dL_law_29 ⟨by decide, by decide⟩ (fun ad t H1 locs ht hB hz1 hk1 hF hS => ?_)
  · rw [hU]
    refine cZ_n (A := fun q : Nat => s.heap.size ≤ q) ?_ ((cZok (fun _ _ => 0, (fun t => match t with | 0 => nn | 1 => aa * bb | 2 => lg | 3 => mx | 4 => tE | _ => tS), D, yI, yR)).2.1 _ s U H hW ((cZok (fun _ _ => 0, (fun t => match t with | 0 => nn | 1 => aa * bb | 2 => lg | 3 => mx | 4 => tE | _ => tS), D, yI, yR)).2.2 _ s s.heap H (fun a h1 h2 => hS.2.1 a h1 h2) (hZ _)))
    rintro q (⟨k, e1, h⟩ | h)
    · exact hD.2 k (q, e1) h
    · exact Nat.le_trans hS.1 h
  obtain ⟨had, hPc, hDc⟩ := hB
  rw [ht] at hPc
  have hDc : va_D (fun q : Nat => s.heap.size ≤ q) _ := hDc.weaken (fun _ _ _ h => hF _ h)
  generalize hM : f_X3_startOver (ad, (fun t => match t with | 0 => nn | 1 => aa * bb | 2 => lg | 3 => mx | 4 => tE | _ => tS), D, yI, yR) (c0 (f_X3_bounded ((fun _ _ => 0, fun _ => 0, D, yI, yI) : CK) (fun _ _ _ => 0) (cellF L xs 0) 32) (f_X3_bounded ((fun _ _ => 0, fun _ => 0, D, yI, yI) : CK) (fun _ _ _ => 0) (cellF L xs 1) 32)) = M at hPc hDc
  refine lv_astore_n (lv' := [(1, .ref q0), (0, .ref b)]) hx hb dL_law_32 rfl hl (by decide) rfl (fun ls hl => ?_)
  refine va_new (ci := 4) (fs := [.int 0, .int 0, .int 0, .int 0, .int 0, .null, .null, .null, .null, .null, .null, .null, .null, .null, .null, .null, .null, .null, .null, .int 0, .int 0, .null]) (C := RX4) (T := TX4) (N := 22) hx hb hts inlX4 tyX4 tyX4_ok hown (hts (.classLink RL 18 RX4) (by decide +kernel)) (hts (.instantiable RX4 22) (by decide +kernel)) (hts (.initialized RX4) (by decide +kernel)) hK hPc hDc hS hA rfl (fun j hj => by rcases (show j = 0 ∨ j = 1 ∨ j = 2 ∨ j = 3 ∨ j = 4 ∨ j = 5 ∨ j = 6 ∨ j = 7 ∨ j = 8 ∨ j = 9 ∨ j = 10 ∨ j = 11 ∨ j = 12 ∨ j = 13 ∨ j = 14 ∨ j = 15 ∨ j = 16 ∨ j = 17 ∨ j = 18 ∨ j = 19 ∨ j = 20 ∨ j = 21 by omega) with rfl | rfl | rfl | rfl | rfl | rfl | rfl | rfl | rfl | rfl | rfl | rfl | rfl | rfl | rfl | rfl | rfl | rfl | rfl | rfl | rfl | rfl <;> rfl) (by decide) (by decide) dL_law_33 (fun q1 H hP hD hS => ?_)
  refine lv_dup hx hb dL_law_36 rfl ?_
  refine lv_aload_n hx hb dL_law_37 rfl (lv_at hl 1 rfl) ?_
  refine lv_iconst (v := 0) hx hb dL_law_38 (by decide) ?_
  refine lx_cell (b := b) (L := L) (xs := xs) hLs 0 (by decide) [.ref q1, .ref q1] ⟨hx, hb, hml, hown, hts⟩ (va_cwS 2 hts gL_law_L_cell rfl rfl rfl (by decide +kernel) ⟨by decide, by decide⟩) hX hbl hbA hP hS hl.1 (Nat.le_of_ble_eq_true rfl) dL_law_39 ⟨by decide, by decide⟩ (fun H locs hP hS => ?_)
  refine lv_aload_n hx hb dL_law_42 rfl (lv_at hl 1 rfl) ?_
  refine lv_iconst (v := 1) hx hb dL_law_43 (by decide) ?_
  refine lx_cell (b := b) (L := L) (xs := xs) hLs 1 (by decide) [.int (cellF L xs 0), .ref q1, .ref q1] ⟨hx, hb, hml, hown, hts⟩ (va_cwS 2 hts gL_law_L_cell rfl rfl rfl (by decide +kernel) ⟨by decide, by decide⟩) hX hbl hbA hP hS hl.1 (Nat.le_of_ble_eq_true rfl) dL_law_44 ⟨by decide, by decide⟩ (fun H locs hP hS => ?_)
  refine lv_aload_n hx hb dL_law_47 rfl (lv_at hl 1 rfl) ?_
  refine lv_iconst (v := 2) hx hb dL_law_48 (by decide) ?_
  refine lx_cell (b := b) (L := L) (xs := xs) hLs 2 (by decide) [.int (cellF L xs 1), .int (cellF L xs 0), .ref q1, .ref q1] ⟨hx, hb, hml, hown, hts⟩ (va_cwS 2 hts gL_law_L_cell rfl rfl rfl (by decide +kernel) ⟨by decide, by decide⟩) hX hbl hbA hP hS hl.1 (Nat.le_of_ble_eq_true rfl) dL_law_49 ⟨by decide, by decide⟩ (fun H locs hP hS => ?_)
  refine lv_aload_n hx hb dL_law_52 rfl (lv_at hl 1 rfl) ?_
  refine lv_iconst (v := 3) hx hb dL_law_53 (by decide) ?_
  refine lx_cell (b := b) (L := L) (xs := xs) hLs 3 (by decide) [.int (cellF L xs 2), .int (cellF L xs 1), .int (cellF L xs 0), .ref q1, .ref q1] ⟨hx, hb, hml, hown, hts⟩ (va_cwS 2 hts gL_law_L_cell rfl rfl rfl (by decide +kernel) ⟨by decide, by decide⟩) hX hbl hbA hP hS hl.1 (Nat.le_of_ble_eq_true rfl) dL_law_54 ⟨by decide, by decide⟩ (fun H locs hP hS => ?_)
  refine lv_aload_n hx hb dL_law_57 rfl (lv_at hl 1 rfl) ?_
  refine lv_iconst (v := 4) hx hb dL_law_58 (by decide) ?_
  refine lx_cell (b := b) (L := L) (xs := xs) hLs 4 (by decide) [.int (cellF L xs 3), .int (cellF L xs 2), .int (cellF L xs 1), .int (cellF L xs 0), .ref q1, .ref q1] ⟨hx, hb, hml, hown, hts⟩ (va_cwS 2 hts gL_law_L_cell rfl rfl rfl (by decide +kernel) ⟨by decide, by decide⟩) hX hbl hbA hP hS hl.1 (Nat.le_of_ble_eq_true rfl) dL_law_59 ⟨by decide, by decide⟩ (fun H locs hP hS => ?_)
  refine lx_I4 (S := Nat → Nat → Nat) (wr := wW (cw (ad, (fun t => match t with | 0 => nn | 1 => aa * bb | 2 => lg | 3 => mx | 4 => tE | _ => tS), D, yI, yR)) M) (e0 := .inr (4, [.int 0, .int 0, .int 0, .int 0, .int 0, .null, .null, .null, .null, .null, .null, .null, .null, .null, .null, .null, .null, .null, .null, .int 0, .int 0, .null])) [.int (cellF L xs 0), .int (cellF L xs 1), .int (cellF L xs 2), .int (cellF L xs 3), .int (cellF L xs 4)] [.ref q1] ⟨hx, hb, hml, hown, hts⟩ (c_X4_init l D yI yR yZ q1 H.size (fun t => match t with | 0 => nn | 1 => aa | 2 => bb | 3 => lg | 4 => mx | _ => 1026) rfl (cellF L xs 0) (cellF L xs 1) (cellF L xs 2) (cellF L xs 3) (cellF L xs 4)) (cwI 5 hts gL_law_X4_init rfl rfl rfl (hts (.initialized RX4) (by decide +kernel)) (hts (.methodLink RL 20 yX4_init) (by decide +kernel)) (hts (.instanceMethod yX4_init) (by decide +kernel)) rfl (by decide +kernel) ⟨by decide, by decide⟩) hK hP hD hA hS rfl hl.1 rfl (Nat.le_of_ble_eq_true rfl) dL_law_62 ⟨by decide, by decide⟩ (fun adq t2 H2 locs ht2 hB hz2 hk2 hF2 hS => ?_)
  obtain ⟨hadq, hPq, hDq⟩ := hB
  rw [ht2] at hPq
  have hcm : ∀ a, wA (cw (ad, (fun t => match t with | 0 => nn | 1 => aa * bb | 2 => lg | 3 => mx | 4 => tE | _ => tS), D, yI, yR)) a → a < H.size ∧ ¬ va_A [(q1, .inr (4, [.int 0, .int 0, .int 0, .int 0, .int 0, .null, .null, .null, .null, .null, .null, .null, .null, .null, .null, .null, .null, .null, .null, .int 0, .int 0, .null]))] H.size a := by
    intro a h2
    obtain ⟨t, e, h4⟩ := wA_in M h2
    have h4l := (List.getElem?_eq_some_iff.mp h4).1
    have h5 := hP t (a, e) (by rw [List.getElem?_append_left h4l]; exact h4)
    refine ⟨h5.lt, ?_⟩
    rintro (⟨k, e1, h⟩ | h)
    · have hk0 := (List.getElem?_eq_some_iff.mp h).1
      have hk0 : k = 0 := by simp at hk0; exact hk0
      subst hk0
      have hq1 : q1 = a := by simp at h; exact h.1
      have := hD.1 t _ (a, e) (q1, .inr (4, [.int 0, .int 0, .int 0, .int 0, .int 0, .null, .null, .null, .null, .null, .null, .null, .null, .null, .null, .null, .null, .null, .null, .int 0, .int 0, .null])) (by rw [List.getElem?_append_left h4l]; exact h4) (by rw [List.getElem?_append_right (Nat.le_refl _)]; simp) hq1.symm
      omega
    · exact absurd h5.lt (Nat.not_lt.mpr h)
  have hdis : ∀ a, wA (mw (adq, (fun t => match t with | 0 => nn | 1 => aa | 2 => bb | 3 => lg | 4 => mx | _ => 1026), D, yI, yZ)) a → ¬ wA (cw (ad, (fun t => match t with | 0 => nn | 1 => aa * bb | 2 => lg | 3 => mx | 4 => tE | _ => tS), D, yI, yR)) a := by
    intro a h1 h2
    obtain ⟨t, e, h3⟩ := wA_in _ h1
    exact (hcm a h2).2 (hDq.2 t (a, e) h3)
  have hdis2 : ∀ a, wA (cw (ad, (fun t => match t with | 0 => nn | 1 => aa * bb | 2 => lg | 3 => mx | 4 => tE | _ => tS), D, yI, yR)) a → ¬ wA (mw (adq, (fun t => match t with | 0 => nn | 1 => aa | 2 => bb | 3 => lg | 4 => mx | _ => 1026), D, yI, yZ)) a := fun a h1 h2 => hdis a h2 h1
  have hPc2 : wP (cw (ad, (fun t => match t with | 0 => nn | 1 => aa * bb | 2 => lg | 3 => mx | 4 => tE | _ => tS), D, yI, yR)) M H2 := by
    intro t x hx
    have hxl := (List.getElem?_eq_some_iff.mp hx).1
    have h5 := hP t x (by rw [List.getElem?_append_left hxl]; exact hx)
    refine h5.kept (hk2 x.1 h5.lt (hcm x.1 ?_).2)
    simp only [wW, pool, List.getElem?_map] at hx
    cases hy : (wI (cw (ad, (fun t => match t with | 0 => nn | 1 => aa * bb | 2 => lg | 3 => mx | 4 => tE | _ => tS), D, yI, yR)))[t]? with
    | none => rw [hy] at hx; cases hx
    | some y =>
      rw [hy] at hx
      cases hx
      exact ⟨y.1, y.2, List.mem_of_getElem? hy, rfl⟩
  have hDq : va_D (fun q : Nat => s.heap.size ≤ q) _ := hDq.weaken (fun _ _ _ h => hF2 _ h)
  refine W.widen (k := 62) (n := 8352) (by omega) (by omega) ?_
  refine lv_astore_n (lv' := [(2, .ref q1), (1, .ref q0), (0, .ref b)]) hx hb dL_law_65 rfl hl (by decide) rfl (fun ls hl => ?_)
  refine lv_iconst (v := 5) hx hb dL_law_66 (by decide) ?_
  refine lv_istore_n (lv' := [(3, .int 5), (2, .ref q1), (1, .ref q0), (0, .ref b)]) hx hb dL_law_67 rfl hl (by decide) rfl (fun ls hl => ?_)
  rw [← had, ← hadq] at hl
  refine law_loop hL C0 (ad, (fun t => match t with | 0 => nn | 1 => aa * bb | 2 => lg | 3 => mx | 4 => tE | _ => tS), D, yI, yR) (adq, (fun t => match t with | 0 => nn | 1 => aa | 2 => bb | 3 => lg | 4 => mx | _ => 1026), D, yI, yZ) (hK.sub [0, 1] rfl) (hK.sub [0, 2] rfl) (hZ ad) hdis hdis2 (L + 1) 5 M _ H2 locs ls ⟨5, rfl, by omega, by omega⟩ ?_ hPc2 hPq hDc hDq hS hl
  have eaa : f_X3_bounded ((fun _ _ => 0, fun _ => 0, D, yI, yI) : CK) (fun _ _ _ => 0) (cellF L xs 0) 32 = nI aa := eaa
  have ebb : f_X3_bounded ((fun _ _ => 0, fun _ => 0, D, yI, yI) : CK) (fun _ _ _ => 0) (cellF L xs 1) 32 = nI bb := ebb
  rw [← hM, eaa, ebb, faa, fbb, fnn, flg, fmx]
  exact sim_start rfl ⟨haa1, haa2⟩ rfl ⟨hbb1, hbb2⟩ rfl ⟨hnn1, hnn2⟩ rfl ⟨hlg1, hlg2⟩ rfl ⟨hmx1, hmx2⟩
