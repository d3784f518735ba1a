/-! small rows for indices and counters -/
theorem vin {x : Int32} {n : Nat} (h0 : ¬ x < 0) (h : ¬ nI n ≤ x) (hn : n < 2 ^ 31) : vp_in x n := by
  rcases pk_ix x hn with q | q | ⟨j, hj, rfl⟩
  · exact absurd q h0
  · exact absurd q h
  · exact vp_in_nI hj hn
theorem vinL {x : Int32} {n : Nat} (h0 : ¬ x < 0) (h : x < nI n) (hn : n < 2 ^ 31) : vp_in x n := vin h0 (Int32.not_le.mpr h) hn
/-- a counter's state: it stands at a, N is its bound, n the fuel -/
def lpI (N n : Nat) (x : Int32) : Prop := ∃ a : Nat, x = nI a ∧ a ≤ N ∧ N < a + n
theorem lpI_z {N : Nat} {x : Int32} : ¬ lpI N 0 x := fun ⟨_, _, h1, h2⟩ => by omega
theorem lpI_i (N : Nat) : lpI N (N + 1) 0 := ⟨0, nI_0.symm, by omega, by omega⟩
theorem lpI_in {N n : Nat} {x : Int32} (h : lpI N n x) (c : ¬ nI N ≤ x) (hN : N < 2 ^ 31) : vp_in x N := by
  obtain ⟨a, rfl, h1, h2⟩ := h
  rcases Nat.lt_or_ge a N with q | q
  · exact vp_in_nI q hN
  · exact absurd (nI_le q (by omega)) c
theorem lpI_s {N n : Nat} {x : Int32} (h : lpI N (n + 1) x) (c : ¬ nI N ≤ x) (hN : N < 2 ^ 31) : lpI N n (x + 1) := by
  obtain ⟨a, rfl, h1, h2⟩ := h
  rcases Nat.lt_or_ge a N with q | q
  · exact ⟨a + 1, nI_1 a, by omega, by omega⟩
  · exact absurd (nI_le q (by omega)) c
/-- the class's own state is one in which no call can go wrong -/
def cI (k : CK) (M : Mem) : Prop := (∃ a b : Nat, M 0 1 0 = nI a ∧ M 0 1 1 = nI b ∧ 1 ≤ a ∧ a ≤ 32 ∧ 1 ≤ b ∧ b ≤ 32 ∧ k.2.1 1 = a * b) ∧ (1 ≤ k.2.1 0 ∧ k.2.1 0 ≤ 8) ∧ (1 ≤ k.2.1 2 ∧ k.2.1 2 ≤ 100) ∧ (1 ≤ k.2.1 3 ∧ k.2.1 3 ≤ 16) ∧ ∀ i, i < k.2.1 0 → ¬ M (i + 1) 3 1 < 0 ∧ ¬ M (i + 1) 0 8 < 0
theorem cI_n {k : CK} {M : Mem} (h : cI k M) : k.2.1 0 < 2 ^ 31 := by have := h.2.1.2; omega
theorem cI_l {k : CK} {M : Mem} (h : cI k M) : k.2.1 2 < 2 ^ 31 := by have := h.2.2.1.2; omega
theorem cI_m {k : CK} {M : Mem} (h : cI k M) : k.2.1 3 < 2 ^ 31 := by have := h.2.2.2.1.2; omega
theorem cI_w {k : CK} {M : Mem} (h : cI k M) : k.2.1 1 < 2 ^ 31 := by
  obtain ⟨⟨a, b, -, -, h1, h2, h3, h4, h5⟩, -⟩ := h
  rw [h5]
  have : a * b ≤ 32 * 32 := Nat.mul_le_mul h2 h4
  omega
theorem cI_sq {k : CK} {M : Mem} {x y : Int32} (h : cI k M) (c1 : ¬ x < 0) (c2 : ¬ M 0 1 0 ≤ x) (c3 : ¬ y < 0) (c4 : ¬ M 0 1 1 ≤ y) : vp_in (y * M 0 1 0 + x) (k.2.1 1) := by
  have hw := cI_w h
  obtain ⟨⟨a, b, e1, e2, h1, h2, h3, h4, h5⟩, -⟩ := h
  rw [e1] at c2 ⊢
  rw [e2] at c4
  obtain ⟨u, hu, rfl⟩ := vp_in_of (vin c1 c2 (by omega)) (by omega)
  obtain ⟨v, hv, rfl⟩ := vp_in_of (vin c3 c4 (by omega)) (by omega)
  rw [pk_mul, nI_add]
  refine vp_in_nI ?_ hw
  rw [h5]
  have : v * a + a ≤ b * a := by
    have := Nat.mul_le_mul_right a (Nat.succ_le_of_lt hv)
    rw [Nat.succ_mul] at this
    exact this
  rw [Nat.mul_comm a b]
  omega
theorem cI_c {k : CK} {M : Mem} {i : Nat} (h : cI k M) (hi : i < k.2.1 0) : ¬ M (i + 1) 3 1 < 0 := (h.2.2.2.2 i hi).1
theorem cI_p {k : CK} {M : Mem} {i : Nat} (h : cI k M) (hi : i < k.2.1 0) : ¬ M (i + 1) 0 8 < 0 := (h.2.2.2.2 i hi).2
/-- a change elsewhere -/
theorem cI_mu {k : CK} {M : Mem} {g j q : Nat} {v : Int32} (h : cI k M) (h1 : ¬ (g = 0 ∧ j = 1 ∧ (q = 0 ∨ q = 1))) (h2 : ¬ (1 ≤ g ∧ j = 3 ∧ q = 1)) (h3 : ¬ (1 ≤ g ∧ j = 0 ∧ q = 8)) : cI k (mu M g j q v) := by
  obtain ⟨⟨a, b, e1, e2, e3⟩, h4, h5, h6, h7⟩ := h
  refine ⟨⟨a, b, ?_, ?_, e3⟩, h4, h5, h6, fun i hi => ⟨?_, ?_⟩⟩
  · rw [mu_at, if_neg (by omega)]; exact e1
  · rw [mu_at, if_neg (by omega)]; exact e2
  · rw [mu_at, if_neg (by omega)]; exact (h7 i hi).1
  · rw [mu_at, if_neg (by omega)]; exact (h7 i hi).2
theorem cI_mr {k : CK} {M : Mem} {g j : Nat} {f : Nat → Int32} (h : cI k M) (h1 : ¬ (g = 0 ∧ j = 1)) (h2 : ¬ (1 ≤ g ∧ j = 3)) (h3 : ¬ (1 ≤ g ∧ j = 0)) : cI k (mr M g j f) := by
  obtain ⟨⟨a, b, e1, e2, e3⟩, h4, h5, h6, h7⟩ := h
  refine ⟨⟨a, b, ?_, ?_, e3⟩, h4, h5, h6, fun i hi => ⟨?_, ?_⟩⟩
  · rw [mr_at, if_neg (by omega)]; exact e1
  · rw [mr_at, if_neg (by omega)]; exact e2
  · rw [mr_at, if_neg (by omega)]; exact (h7 i hi).1
  · rw [mr_at, if_neg (by omega)]; exact (h7 i hi).2
/-- the count and the words of one robot -/
theorem cI_mu3 {k : CK} {M : Mem} {g : Nat} {v : Int32} (h : cI k M) (hv : ¬ v < 0) : cI k (mu M (g + 1) 3 1 v) := by
  obtain ⟨⟨a, b, e1, e2, e3⟩, h4, h5, h6, h7⟩ := h
  refine ⟨⟨a, b, ?_, ?_, e3⟩, h4, h5, h6, fun i hi => ⟨?_, ?_⟩⟩
  · rw [mu_at, if_neg (by omega)]; exact e1
  · rw [mu_at, if_neg (by omega)]; exact e2
  · rw [mu_at]; split
    · exact hv
    · exact (h7 i hi).1
  · rw [mu_at, if_neg (by omega)]; exact (h7 i hi).2
theorem cI_mu8 {k : CK} {M : Mem} {g : Nat} {v : Int32} (h : cI k M) (hv : ¬ v < 0) : cI k (mu M (g + 1) 0 8 v) := by
  obtain ⟨⟨a, b, e1, e2, e3⟩, h4, h5, h6, h7⟩ := h
  refine ⟨⟨a, b, ?_, ?_, e3⟩, h4, h5, h6, fun i hi => ⟨?_, ?_⟩⟩
  · rw [mu_at, if_neg (by omega)]; exact e1
  · rw [mu_at, if_neg (by omega)]; exact e2
  · rw [mu_at, if_neg (by omega)]; exact (h7 i hi).1
  · rw [mu_at]; split
    · exact hv
    · exact (h7 i hi).2
/-- Arrays.fill over a row of ints -/
def fillF (f : Nat → Int32) (n : Nat) (v : Int32) : Nat → Int32 := fun q => if q < n then v else f q
theorem fillF_0 (f : Nat → Int32) (v : Int32) : fillF f 0 v = f := by funext q; simp [fillF]
theorem fillF_s (f : Nat → Int32) (n : Nat) (v : Int32) : upd (fillF f n v) n v = fillF f (n + 1) v := by
  funext q
  simp only [upd, fillF]
  by_cases h1 : q = n
  · rw [if_pos h1, if_pos (by omega)]
  · rw [if_neg h1]
    by_cases h2 : q < n
    · rw [if_pos h2, if_pos (by omega)]
    · rw [if_neg h2, if_neg (by omega)]
theorem mr_mr (M : Mem) (g j : Nat) (f f' : Nat → Int32) : mr (mr M g j f) g j f' = mr M g j f' := by
  funext a b
  simp only [mr]
  by_cases h : a = g ∧ b = j
  · rw [if_pos h, if_pos h]
  · rw [if_neg h, if_neg h, if_neg h]
theorem mr_self (M : Mem) (g j : Nat) : mr M g j (M g j) = M := by
  funext a b
  simp only [mr]
  by_cases h : a = g ∧ b = j
  · obtain ⟨rfl, rfl⟩ := h
    rw [if_pos ⟨rfl, rfl⟩]
  · rw [if_neg h]
set_option maxHeartbeats 4000000 in
set_option maxRecDepth 100000 in
theorem lp_J7_fill {p : Program} {l : Launch} {e : Env} {s : State} {m : MethodId} {args : Array Value} {below : List Frame} {meth : Method} {c : Code} (k : CK) (M0 : Mem) (g j N : Nat) (v : Int32) (hm : (g, j) ∈ wI (cw k)) (hE : ∀ f, wE (cw k) g j f = .inl (k.2.2.2.1, N, .inl f)) (hN : N < 2 ^ 31) (hx : p.tables.exec = Jvm.exec) (hb : c.code = cJ7_fill_53178) (hr : meth.sig.returnType = none) (hlocks : meth.locks = false) (hK : va_K (wD (cw k)) vwCl (wT (cw k)) s) (hD : va_D (wA (cw k)) (wW (cw k) M0)) :
    ∀ (n a : Nat) (M : Mem) (H : Heap) (locs : List Loc) (ls : Array Slot), a ≤ N → N < a + n → M = mr M0 g j (fillF (M0 g j) a v) → wP (cw k) M H → va_S (wA (cw k)) s.heap H locs → lv_has ls 4 [(2, .int (nI a)), (0, .ref (k.1 g j)), (1, .int v), (3, .int (nI N))] → W p l e (rmK 0 0) s m args below meth c H locs 0 0 (MQ below (wQv (cw k) (fun u => u = mr M0 g j (fillF (M0 g j) N v))) args s 0 0 (wA (cw k))) (F0 m 5 ls []) := by
  intro n
  induction n with
  | zero => intro a M H locs ls h1 h2; exact absurd h2 (by omega)
  | succ n ih =>
    intro a M H locs ls h1 h2 hM hP hS hl
    refine lv_iload_n hx hb dJ7_fill_53178_5 rfl (lv_at hl 0 rfl) ?_
    refine lv_iload_n hx hb dJ7_fill_53178_6 rfl (lv_at hl 3 rfl) ?_
    refine lv_icmp_ge (tgt := 20) hx hb dJ7_fill_53178_7 (by decide) (fun c7 => ?_) (fun c7 => ?_)
    · have ha : a = N := by
        rcases Nat.lt_or_ge a N with q | q
        · exact absurd c7 (nI_ge q hN)
        · omega
      subst ha
      exact wx_vret hx hb hr hlocks hP hS hM dJ7_fill_53178_20
    · have ha : a < N := by
        rcases Nat.lt_or_ge a N with q | q
        · exact q
        · exact absurd (nI_le q (by omega)) c7
      refine lv_aload_n hx hb dJ7_fill_53178_10 rfl (lv_at hl 1 rfl) ?_
      refine lv_iload_n hx hb dJ7_fill_53178_11 rfl (lv_at hl 0 rfl) ?_
      refine lv_iload_n hx hb dJ7_fill_53178_12 rfl (lv_at hl 2 rfl) ?_
      refine wx_iast (w := cw k) (g := g) (j := j) hx hb hK hP hD hS hm 0 hE rfl (vp_in_nI ha hN) dJ7_fill_53178_13 (fun H locs hP hS => ?_)
      refine lv_iinc (v := nI (a + 1)) (lv' := [(2, .int (nI (a + 1))), (0, .ref (k.1 g j)), (1, .int v), (3, .int (nI N))]) hx hb dJ7_fill_53178_14 hl (k := 0) rfl (by rw [← nI_1]; rfl) (by decide) rfl (fun ls hl => ?_)
      refine lv_goto (tgt := 5) hx hb dJ7_fill_53178_17 (by decide) ?_
      refine ih (a + 1) _ H locs ls (by omega) (by omega) ?_ hP hS hl
      rw [hM, mu_mr, mr_mr, mr_row, nI_clamp (by omega), fillF_s]
set_option maxHeartbeats 4000000 in
set_option maxRecDepth 100000 in
theorem c_J7_fill (l : Launch) (k : CK) (M : Mem) (g j N : Nat) (v : Int32) (hm : (g, j) ∈ wI (cw k)) (hE : ∀ f, wE (cw k) g j f = .inl (k.2.2.2.1, N, .inl f)) (hN : N < 2 ^ 31) : Met l yJ7_fill_53178 wsJ7_fill_53178 (rmK 0 0) (wPc (cw k) M [.ref (k.1 g j), .int v]) (wQv (cw k) (fun u => u = mr M g j (fillF (M g j) N v))) 0 0 (wA (cw k)) := by
  refine wx_met (cc := cJ7_fill_53178) (maxL := 4) (ret := none) (by decide) rfl (Nat.le_of_ble_eq_true rfl) ?_
  intro p e s m below meth c ls hx hb hr hml hts hown hlocks hP hK hD hZ hS hl
  have hl : lv_has ls 4 [(0, .ref (k.1 g j)), (1, .int v)] := hl
  refine lv_iconst (v := 0) hx hb dJ7_fill_53178_0 (by decide) ?_
  refine lv_istore_n (lv' := [(2, .int 0), (0, .ref (k.1 g j)), (1, .int v)]) hx hb dJ7_fill_53178_1 rfl hl (by decide) rfl (fun ls hl => ?_)
  refine lv_aload_n hx hb dJ7_fill_53178_2 rfl (lv_at hl 1 rfl) ?_
  refine wx_alen (w := cw k) (g := g) (j := j) hx hb hK hP hm 0 (hE _) rfl dJ7_fill_53178_3 ?_
  refine lv_istore_n (lv' := [(3, .int (nI N)), (2, .int 0), (0, .ref (k.1 g j)), (1, .int v)]) hx hb dJ7_fill_53178_4 rfl hl (by decide) rfl (fun ls hl => ?_)
  refine lp_J7_fill k M g j N v hm hE hN hx hb hr hlocks hK hD (N + 1) 0 M _ _ ls (by omega) (by omega) (by rw [fillF_0, mr_self]) hP hS ?_
  rw [nI_0]
  exact lv_sub hl [1, 2, 3, 0] rfl
