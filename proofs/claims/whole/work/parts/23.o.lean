/-! a tick, and many -/
section T6
variable {k : CK} {q : MK} {M N X Y : Mem} {i : Nat}
theorem ac_S {o r s : Nat} {n z : Int32} (hX : SimX k q M N) (hI : mI q N) (hi : i < q.2.1 0) (hst : N 0 3 i = 2) (hn : N 0 9 i = n) (ho : 13 ≤ o) (ho' : o ≤ 24) (hr : r < 8) (hs : s < 8) : SimX k q (f_X3_doWord_L59 k i (nI o) (nI r) (nI s) z (N 0 8 (8 * i + r)) (N 0 8 (8 * i + s)) (n + 1) M) (f_X4_act q (nx1 N i (n + 1)) (nI i) (nI o) (nI (8 * i + r)) (nI (8 * i + s))) := by
  have h8 := hI.2.1
  have hi' : i < k.2.1 0 := hX.n ▸ hi
  have hi8 : i < 8 := by omega
  have ci : (nI i).toNatClampNeg = i := nI_clamp (by omega)
  have cr := (reg8 hi8 (show r < 16 by omega)).2
  have cs := (reg8 hi8 (show s < 16 by omega)).2
  have cr' : (nI r).toNatClampNeg = r := nI_clamp (by omega)
  have cs' : (nI s).toNatClampNeg = s := nI_clamp (by omega)
  have hF := fin_Sim (n := n + 1) hX hi'
  have hI1 : mI q (nx1 N i (n + 1)) := mI_rn hI
  have e8 : nx1 N i (n + 1) 0 8 = N 0 8 := nx1_r (by omega)
  have hst1 : nx1 N i (n + 1) 0 3 i = 2 := by rw [nx1_r (by omega), hst]
  have reg : ∀ (X Y : Mem) (t : Nat) (v : Int32), t < 8 → SimX k q (fin X i (n + 1)) Y → SimX k q (fin (mu X (i + 1) 2 t v) i (n + 1)) (mu Y 0 8 (8 * i + t) v) := fun X Y t v ht h => by
    rw [fin_mu (by omega)]
    exact h.ureg hi' ht
  obtain ⟨d, hd, ed⟩ : ∃ d : Nat, d < 4 ∧ N 0 8 (8 * i + r) &&& 3 = nI d := pk_andE _ 2 (by decide)
  rcases (show o = 13 ∨ o = 14 ∨ o = 15 ∨ o = 16 ∨ o = 17 ∨ o = 18 ∨ o = 19 ∨ o = 20 ∨ o = 21 ∨ o = 22 ∨ o = 23 ∨ o = 24 by omega) with rfl | rfl | rfl | rfl | rfl | rfl | rfl | rfl | rfl | rfl | rfl | rfl
  · rw [dw13, ac13, cr, cs, cs', e8, ed]
    obtain ⟨g1, g2⟩ := go_S hF hI1 hi hst1 hd
    rw [g1]
    exact reg _ _ _ _ hs g2
  · rw [dw14, ac14, cr, cs, cs', ci, e8, ed, bsx hd, bsy hd]
    unfold f_X3_look
    rw [← at_fin (i := i) (n := n + 1), at_eq hF hI1, nI_clamp (show d < 2 ^ 31 by omega), hX.2.1.f hi' 5 (by omega), hX.2.1.f hi' 6 (by omega), tau5, tau6, nx1_r (show 4 ≠ 9 ∧ 4 ≠ 14 by omega), nx1_r (show 5 ≠ 9 ∧ 5 ≠ 14 by omega)]
    exact reg _ _ _ _ hs hF
  · rw [dw15, cr']
    exact take_S hF hI1 hi hst1 hr rfl _
  · rw [dw16, cr']
    exact lay_S hF hI1 hi hst1 hr rfl _
  · rw [dw17, ac17, cr, cs, cr', e8]
    obtain ⟨g1, g2, g3⟩ := send_S hF hI1 hi (N 0 8 (8 * i + r)) (N 0 8 (8 * i + s))
    rw [g1]
    rcases g2 with g2 | g2
    · rw [if_pos g2, g2]
      exact reg _ _ _ _ hr g3
    · rw [if_neg (by rw [g2]; decide), g2]
      exact reg _ _ _ _ hr g3
  · rw [dw18, ac18]
    exact rcv_S hX hI hi hst hr hn
  · rw [dw19, ac19, cr, ci, e8]
    exact slp_S hF hI1 hi hst1
  · rw [dw20, ac20, cr, cs, cr', e8]
    exact way_S hX hI hi hst hr
  · rw [dw21, ac21, cr, cs, cr', cs', ci]
    have e1 : (mu M (i + 1) 2 r (M (i + 1) 0 5)) (i + 1) 0 6 = nx1 N i (n + 1) 0 5 i := by
      rw [mu_t (by omega), hX.2.1.f hi' 6 (by omega), tau6, nx1_r (by omega)]
    have e2 : (mu (nx1 N i (n + 1)) 0 8 (8 * i + r) (nx1 N i (n + 1) 0 4 i)) 0 5 i = nx1 N i (n + 1) 0 5 i := mu_t (by omega)
    have e3 : M (i + 1) 0 5 = nx1 N i (n + 1) 0 4 i := by
      rw [hX.2.1.f hi' 5 (by omega), tau5, nx1_r (by omega)]
    rw [e1, e2, e3]
    exact reg _ _ _ _ hs (reg _ _ _ _ hr hF)
  · rw [dw22, ac22, cr, cr', hX.1.2.2.2 i hi]
    exact reg _ _ _ _ hr hF
  · rw [dw23, ac23, cr, cr', hX.2.1.clk, nx1_r (show 0 ≠ 9 ∧ 0 ≠ 14 by omega)]
    exact reg _ _ _ _ hr hF
  · rw [dw24, ac24, cr, cr', ci, hX.2.1.f hi' 10 (by omega), tau10, nx1_r (show 10 ≠ 9 ∧ 10 ≠ 14 by omega)]
    exact reg _ _ _ _ hr hF
/-- robot i does its word, or fails -/
theorem run_S (hX : SimX k q M N) (hI : mI q N) (hi : i < q.2.1 0) (hst : N 0 3 i = 2) : SimX k q (if f_X2_mustFail k M i = 0 then f_X3_doWord k M i else mu M (i + 1) 0 4 6) (f_X4_run q N (nI i)) := by
  have hi' : i < k.2.1 0 := hX.n ▸ hi
  rcases run_cmp hX hI hi with ⟨h1, h2⟩ | ⟨h1, o, r, s, n, z, ho, hr, hs, hn, hd, e1, e2⟩
  · rw [if_neg h1, h2]
    refine hX.ust hi' (s := 6) (by omega) (fun _ => by rw [hst]; decide) (Or.inr (Or.inr ?_))
    rcases (hX.2.2.2.1.2.2.2.1 i hi).2 with h | h | h
    · rw [hst] at h; exact absurd h (by decide)
    · rw [hst] at h; exact absurd h (by decide)
    · exact h
  · rw [if_pos h1, e1, e2]
    by_cases c : 13 ≤ o
    · rw [if_pos c]
      exact ac_S hX hI hi hst hn c ho hr hs
    · rw [if_neg c]
      exact rk_S hX hI hi hst (by omega) hr hs
theorem sim_tick (h : SimR k q M N) : (f_X3_tick k M).1 = (f_X4_tick q N).1 ∧ SimR k q (f_X3_tick k M).2 (f_X4_tick q N).2 := by
  have hmi := mI_tick h.2.1
  obtain ⟨-, hI, hX⟩ := h
  have h8 := hI.2.1
  suffices (f_X3_tick k M).1 = (f_X4_tick q N).1 ∧ SimX k q (f_X3_tick k M).2 (f_X4_tick q N).2 from ⟨this.1, SimX.R this.2 hmi⟩
  clear hmi
  unfold f_X3_tick f_X4_tick
  obtain ⟨t1, t2⟩ := tkL2 (q.2.1 0 + 1) 0 M N hX hI (by omega) (by omega)
  rw [nI_0] at t1 t2
  rw [hX.n]
  generalize f_X3_tick_L2 k (q.2.1 0 + 1) 0 M = M1 at *
  generalize f_X4_tick_L2 q (q.2.1 0 + 1) 0 N = N1 at *
  rcases nxt t1 t2 with ⟨h1, h2⟩ | ⟨i, hi, h1, h2, h3⟩
  · rw [h1, h2, if_pos (by decide)]
    refine ⟨rfl, ?_⟩
    show SimX k q (mu M1 0 0 2 (M1 0 0 2 + 1)) (mu N1 0 0 20 (N1 0 0 20 + 1))
    rw [t1.2.1.clk]
    exact t1.uclk
  · rw [h1, h2, if_neg (nI_pos (by omega))]
    have hl : SimX k q (mu M1 0 0 3 (nI i)) (mu N1 0 0 19 (nI i)) := t1.ulst
    have hlI : mI q (mu N1 0 0 19 (nI i)) := mI_last t2 (vp_in_nI hi (by omega))
    have hr := run_S hl hlI hi (by rw [mu_t (by omega)]; exact h3)
    have e0 : M1 (i + 1) 0 0 = nI i := t1.1.2.2.2 i hi
    show (if f_X2_mustFail k (mu M1 0 0 3 (M1 (i + 1) 0 0)) i = 0 then (((mu (f_X3_doWord k (mu M1 0 0 3 (M1 (i + 1) 0 0)) i) 0 0 2 ((f_X3_doWord k (mu M1 0 0 3 (M1 (i + 1) 0 0)) i) 0 0 2 + 1)) (i + 1) 0 0, mu (f_X3_doWord k (mu M1 0 0 3 (M1 (i + 1) 0 0)) i) 0 0 2 ((f_X3_doWord k (mu M1 0 0 3 (M1 (i + 1) 0 0)) i) 0 0 2 + 1)) : Int32 × Mem) else ((mu (mu (mu M1 0 0 3 (M1 (i + 1) 0 0)) (i + 1) 0 4 6) 0 0 2 ((mu (mu M1 0 0 3 (M1 (i + 1) 0 0)) (i + 1) 0 4 6) 0 0 2 + 1)) (i + 1) 0 0, mu (mu (mu M1 0 0 3 (M1 (i + 1) 0 0)) (i + 1) 0 4 6) 0 0 2 ((mu (mu M1 0 0 3 (M1 (i + 1) 0 0)) (i + 1) 0 4 6) 0 0 2 + 1))).1 = nI i ∧ SimX k q (if f_X2_mustFail k (mu M1 0 0 3 (M1 (i + 1) 0 0)) i = 0 then (((mu (f_X3_doWord k (mu M1 0 0 3 (M1 (i + 1) 0 0)) i) 0 0 2 ((f_X3_doWord k (mu M1 0 0 3 (M1 (i + 1) 0 0)) i) 0 0 2 + 1)) (i + 1) 0 0, mu (f_X3_doWord k (mu M1 0 0 3 (M1 (i + 1) 0 0)) i) 0 0 2 ((f_X3_doWord k (mu M1 0 0 3 (M1 (i + 1) 0 0)) i) 0 0 2 + 1)) : Int32 × Mem) else ((mu (mu (mu M1 0 0 3 (M1 (i + 1) 0 0)) (i + 1) 0 4 6) 0 0 2 ((mu (mu M1 0 0 3 (M1 (i + 1) 0 0)) (i + 1) 0 4 6) 0 0 2 + 1)) (i + 1) 0 0, mu (mu (mu M1 0 0 3 (M1 (i + 1) 0 0)) (i + 1) 0 4 6) 0 0 2 ((mu (mu M1 0 0 3 (M1 (i + 1) 0 0)) (i + 1) 0 4 6) 0 0 2 + 1))).2 (mu (f_X4_run q (mu N1 0 0 19 (nI i)) (nI i)) 0 0 20 ((f_X4_run q (mu N1 0 0 19 (nI i)) (nI i)) 0 0 20 + 1))
    rw [e0]
    have fin2 : ∀ X Y : Mem, SimX k q X Y → (mu X 0 0 2 (X 0 0 2 + 1)) (i + 1) 0 0 = nI i ∧ SimX k q (mu X 0 0 2 (X 0 0 2 + 1)) (mu Y 0 0 20 (Y 0 0 20 + 1)) := fun X Y hXY => by
      refine ⟨by rw [mu_t (by omega)]; exact hXY.1.2.2.2 i hi, ?_⟩
      rw [hXY.2.1.clk]
      exact hXY.uclk
    by_cases c : f_X2_mustFail k (mu M1 0 0 3 (nI i)) i = 0
    · rw [if_pos c] at hr
      rw [if_pos c]
      exact fin2 _ _ hr
    · rw [if_neg c] at hr
      rw [if_neg c]
      exact fin2 _ _ hr
theorem tick_neg (hI : mI q N) (hX : SimX k q M N) : (f_X4_tick q N).1 = -1 ∨ ¬ (f_X4_tick q N).1 < 0 := by
  have h8 := hI.2.1
  obtain ⟨t1, t2⟩ := tkL2 (q.2.1 0 + 1) 0 M N hX hI (by omega) (by omega)
  rw [nI_0] at t1 t2
  unfold f_X4_tick
  rcases nxt t1 t2 with ⟨h1, h2⟩ | ⟨i, hi, h1, h2, h3⟩
  · rw [h2]; exact Or.inl (by rw [if_pos (by decide)])
  · rw [h2, if_neg (nI_pos (by omega))]; exact Or.inr (nI_pos (by omega))
theorem rtL {c : Nat} (hc : c ≤ 10000) : ∀ (n t : Nat) (y : Int32) (M N : Mem), SimR k q M N → t ≤ c → c < t + n → (f_X3_runTicks_L18 k (nI c) n y (nI t) M).1 = (f_X4_runTicks_L18 q (nI c) n y (nI t) N).1 ∧ SimR k q (f_X3_runTicks_L18 k (nI c) n y (nI t) M).2 (f_X4_runTicks_L18 q (nI c) n y (nI t) N).2 := by
  intro n
  induction n with
  | zero => intro t y M N h h1 h2; omega
  | succ n ih =>
    intro t y M N h h1 h2
    rw [f_X3_runTicks_L18, f_X4_runTicks_L18]
    by_cases c1 : c ≤ t
    · rw [if_pos (nI_le c1 (by omega)), if_pos (nI_le c1 (by omega))]
      exact ⟨rfl, h⟩
    · rw [if_neg (nI_ge (by omega) (by omega)), if_neg (nI_ge (by omega) (by omega)), nI_1 t]
      obtain ⟨s1, s2⟩ := sim_tick h
      rw [s1]
      rcases tick_neg h.2.1 h.2.2 with h3 | h3
      · rw [if_pos h3, if_pos (by rw [h3]; decide)]
        exact ih (t + 1) y _ _ s2 (by omega) (by omega)
      · rw [if_neg (fun z => h3 (by rw [z]; decide)), if_neg h3]
        exact ih (t + 1) (y + 1) _ _ s2 (by omega) (by omega)
theorem sim_runTicks (h : SimR k q M N) (x : Int32) : (f_X3_runTicks k M x).1 = (f_X4_runTicks q N x).1 ∧ SimR k q (f_X3_runTicks k M x).2 (f_X4_runTicks q N x).2 := by
  unfold f_X3_runTicks f_X4_runTicks f_X4_in
  by_cases c1 : x < 0
  · rw [if_pos c1, if_pos c1, if_pos rfl]
    exact ⟨rfl, h⟩
  · rw [if_neg c1, if_neg c1]
    obtain ⟨c, hc, rfl⟩ := nI_of c1
    by_cases c2 : c ≤ 10000
    · rw [if_pos (show nI c ≤ 10000 from nI_le (b := 10000) c2 (by omega)), if_neg (show ¬ (10000 : Int32) < nI c from nI_nlt (a := 10000) c2 (by omega)), if_neg (show ¬ (1 : Int32) = 0 by decide), nI_clamp hc]
      have := rtL (k := k) (q := q) c2 (c + 1) 0 0 M N h (by omega) (by omega)
      rw [nI_0] at this
      exact this
    · rw [if_neg (show ¬ nI c ≤ 10000 from nI_ge (a := 10000) (by omega) hc), if_pos (show (10000 : Int32) < nI c from nI_lt (a := 10000) (by omega) hc), if_pos rfl]
      exact ⟨rfl, h⟩
end T6
