/-! words that reckon -/
section T3
variable {k : CK} {q : MK} {M N X : Mem} {i : Nat}
theorem div_m1 (a : Int32) : a / -1 = -a := by
  apply Int32.toInt_inj.mp
  rw [Int32.toInt_div, Int32.toInt_neg a, show (-1 : Int32).toInt = -1 from rfl]
  congr 1
  rw [show (-1 : Int) = -(1 : Int) from rfl, Int.tdiv_neg, Int.tdiv_one]
theorem rem_m1 (a : Int32) : a - a / -1 * -1 = 0 := by
  rw [div_m1, Int32.mul_neg, Int32.mul_one, Int32.neg_neg, Int32.sub_self]
theorem nx1_r {n : Int32} {b : Nat} (hb : b ≠ 9 ∧ b ≠ 14) : nx1 N i n 0 b = N 0 b := by
  unfold nx1
  rw [mu_off _ _ _ (by omega), mu_off _ _ _ (by omega)]
theorem nx1_9 {n : Int32} : nx1 N i n 0 9 i = n := by
  unfold nx1
  rw [mu_eq]
section
variable {x5 x6 x7 x8 x9 x10 : Int32}
theorem dw0 : f_X3_doWord_L59 k i (nI 0) x5 x6 x7 x8 x9 x10 M = fin (mu M (i + 1) 0 4 5) i x10 := rfl
theorem dw1 : f_X3_doWord_L59 k i (nI 1) x5 x6 x7 x8 x9 x10 M = fin (mu M (i + 1) 2 x5.toNatClampNeg x7) i x10 := rfl
theorem dw2 : f_X3_doWord_L59 k i (nI 2) x5 x6 x7 x8 x9 x10 M = fin (mu M (i + 1) 2 x5.toNatClampNeg x9) i x10 := rfl
theorem dw3 : f_X3_doWord_L59 k i (nI 3) x5 x6 x7 x8 x9 x10 M = fin (mu M (i + 1) 2 x5.toNatClampNeg (x8 + x9)) i x10 := rfl
theorem dw4 : f_X3_doWord_L59 k i (nI 4) x5 x6 x7 x8 x9 x10 M = fin (mu M (i + 1) 2 x5.toNatClampNeg (x8 - x9)) i x10 := rfl
theorem dw5 : f_X3_doWord_L59 k i (nI 5) x5 x6 x7 x8 x9 x10 M = fin (mu M (i + 1) 2 x5.toNatClampNeg (x8 * x9)) i x10 := rfl
theorem dw6 : f_X3_doWord_L59 k i (nI 6) x5 x6 x7 x8 x9 x10 M = fin (mu M (i + 1) 2 x5.toNatClampNeg (x8 / x9)) i x10 := rfl
theorem dw7 : f_X3_doWord_L59 k i (nI 7) x5 x6 x7 x8 x9 x10 M = fin (mu M (i + 1) 2 x5.toNatClampNeg (x8 - x8 / x9 * x9)) i x10 := rfl
theorem dw8 : f_X3_doWord_L59 k i (nI 8) x5 x6 x7 x8 x9 x10 M = fin (mu M (i + 1) 2 x5.toNatClampNeg (if x9 ≤ x8 then 0 else 1)) i x10 := rfl
theorem dw9 : f_X3_doWord_L59 k i (nI 9) x5 x6 x7 x8 x9 x10 M = fin (mu M (i + 1) 2 x5.toNatClampNeg (if x8 = x9 then 1 else 0)) i x10 := rfl
theorem dw10 : f_X3_doWord_L59 k i (nI 10) x5 x6 x7 x8 x9 x10 M = fin M i x7 := rfl
theorem dw11 : f_X3_doWord_L59 k i (nI 11) x5 x6 x7 x8 x9 x10 M = if x8 = 0 then fin M i x7 else fin M i x10 := rfl
theorem dw12 : f_X3_doWord_L59 k i (nI 12) x5 x6 x7 x8 x9 x10 M = if x8 = 0 then fin M i x10 else fin M i x7 := rfl
end
section
variable {p1 p3 p4 p5 : Int32}
theorem rk0 : f_X4_reckon q N p1 (nI 0) p3 p4 p5 = mu N 0 3 p1.toNatClampNeg 5 := rfl
theorem rk1 : f_X4_reckon q N p1 (nI 1) p3 p4 p5 = mu N 0 8 p3.toNatClampNeg p5 := rfl
theorem rk2 : f_X4_reckon q N p1 (nI 2) p3 p4 p5 = mu N 0 8 p3.toNatClampNeg (N 0 8 p4.toNatClampNeg) := rfl
theorem rk3 : f_X4_reckon q N p1 (nI 3) p3 p4 p5 = mu N 0 8 p3.toNatClampNeg (N 0 8 p3.toNatClampNeg + N 0 8 p4.toNatClampNeg) := rfl
theorem rk4 : f_X4_reckon q N p1 (nI 4) p3 p4 p5 = mu N 0 8 p3.toNatClampNeg (N 0 8 p3.toNatClampNeg - N 0 8 p4.toNatClampNeg) := rfl
theorem rk5 : f_X4_reckon q N p1 (nI 5) p3 p4 p5 = mu N 0 8 p3.toNatClampNeg (N 0 8 p3.toNatClampNeg * N 0 8 p4.toNatClampNeg) := rfl
theorem rk6 : f_X4_reckon q N p1 (nI 6) p3 p4 p5 = if N 0 8 p4.toNatClampNeg = -1 then mu N 0 8 p3.toNatClampNeg (-(N 0 8 p3.toNatClampNeg)) else mu N 0 8 p3.toNatClampNeg (N 0 8 p3.toNatClampNeg / N 0 8 p4.toNatClampNeg) := rfl
theorem rk7 : f_X4_reckon q N p1 (nI 7) p3 p4 p5 = if N 0 8 p4.toNatClampNeg = -1 then mu N 0 8 p3.toNatClampNeg 0 else mu N 0 8 p3.toNatClampNeg (N 0 8 p3.toNatClampNeg - N 0 8 p3.toNatClampNeg / N 0 8 p4.toNatClampNeg * N 0 8 p4.toNatClampNeg) := rfl
theorem rk8 : f_X4_reckon q N p1 (nI 8) p3 p4 p5 = if N 0 8 p4.toNatClampNeg ≤ N 0 8 p3.toNatClampNeg then mu N 0 8 p3.toNatClampNeg 0 else mu N 0 8 p3.toNatClampNeg 1 := rfl
theorem rk9 : f_X4_reckon q N p1 (nI 9) p3 p4 p5 = if N 0 8 p3.toNatClampNeg = N 0 8 p4.toNatClampNeg then mu N 0 8 p3.toNatClampNeg 1 else mu N 0 8 p3.toNatClampNeg 0 := rfl
theorem rk10 : f_X4_reckon q N p1 (nI 10) p3 p4 p5 = mu N 0 9 p1.toNatClampNeg p5 := rfl
theorem rk11 : f_X4_reckon q N p1 (nI 11) p3 p4 p5 = if N 0 8 p3.toNatClampNeg = 0 then mu N 0 9 p1.toNatClampNeg p5 else mu N 0 9 p1.toNatClampNeg (N 0 9 p1.toNatClampNeg) := rfl
theorem rk12 : f_X4_reckon q N p1 (nI 12) p3 p4 p5 = if N 0 8 p3.toNatClampNeg = 0 then mu N 0 9 p1.toNatClampNeg (N 0 9 p1.toNatClampNeg) else mu N 0 9 p1.toNatClampNeg p5 := rfl
end
theorem rk_S {o r s : Nat} {n z : Int32} (hX : SimX k q M N) (hI : mI q N) (hi : i < q.2.1 0) (hst : N 0 3 i = 2) (ho : o < 13) (hr : r < 8) (hs : s < 8) : SimX k q (f_X3_doWord_L59 k i (nI o) (nI r) (nI s) z (N 0 8 (8 * i + r)) (N 0 8 (8 * i + s)) n M) (f_X4_reckon q (nx1 N i n) (nI i) (nI o) (nI (8 * i + r)) (nI (8 * i + s)) z) := by
  have h8 := hI.2.1
  have hi' : i < k.2.1 0 := hX.n ▸ hi
  have hi8 : i < 8 := by omega
  have ci : (nI i).toNatClampNeg = i := nI_clamp (by omega)
  have cr := (reg8 hi8 (show r < 16 by omega)).2
  have cs := (reg8 hi8 (show s < 16 by omega)).2
  have cr' : (nI r).toNatClampNeg = r := nI_clamp (by omega)
  have cs' : (nI s).toNatClampNeg = s := nI_clamp (by omega)
  have hF := fin_Sim (n := n) hX hi'
  have e8 : nx1 N i n 0 8 = N 0 8 := nx1_r (by omega)
  have reg : ∀ v : Int32, SimX k q (fin (mu M (i + 1) 2 r v) i n) (mu (nx1 N i n) 0 8 (8 * i + r) v) := fun v => by
    rw [fin_mu (by omega)]
    exact hF.ureg hi' hr
  have plc : ∀ v : Int32, SimX k q (fin M i v) (mu (nx1 N i n) 0 9 i v) := fun v => by
    have := SimX.uplc (v := v) hF hi'
    rw [fin_7] at this
    exact this
  have plc' : SimX k q (fin M i n) (mu (nx1 N i n) 0 9 i (nx1 N i n 0 9 i)) := by
    rw [mu_same]; exact hF
  rcases (show o = 0 ∨ o = 1 ∨ o = 2 ∨ o = 3 ∨ o = 4 ∨ o = 5 ∨ o = 6 ∨ o = 7 ∨ o = 8 ∨ o = 9 ∨ o = 10 ∨ o = 11 ∨ o = 12 by omega) with rfl | rfl | rfl | rfl | rfl | rfl | rfl | rfl | rfl | rfl | rfl | rfl | rfl
  · rw [dw0, rk0, ci, fin_mu (by omega)]
    refine hF.ust hi' (s := 5) (by omega) (fun _ => ?_) (Or.inr (Or.inr ?_))
    · rw [nx1_r (by omega), hst]; decide
    · rw [nx1_r (by omega)]
      rcases (hX.2.2.2.1.2.2.2.1 i hi).2 with h | h | h
      · rw [hst] at h; exact absurd h (by decide)
      · rw [hst] at h; exact absurd h (by decide)
      · exact h
  · rw [dw1, rk1, cr, cr']; exact reg _
  · rw [dw2, rk2, cr, cr', cs, e8]; exact reg _
  · rw [dw3, rk3, cr, cr', cs, e8]; exact reg _
  · rw [dw4, rk4, cr, cr', cs, e8]; exact reg _
  · rw [dw5, rk5, cr, cr', cs, e8]; exact reg _
  · rw [dw6, rk6, cr, cr', cs, e8]
    by_cases c : N 0 8 (8 * i + s) = -1
    · rw [if_pos c, c, div_m1]; exact reg _
    · rw [if_neg c]; exact reg _
  · rw [dw7, rk7, cr, cr', cs, e8]
    by_cases c : N 0 8 (8 * i + s) = -1
    · rw [if_pos c, c, rem_m1]; exact reg _
    · rw [if_neg c]; exact reg _
  · rw [dw8, rk8, cr, cr', cs, e8]
    by_cases c : N 0 8 (8 * i + s) ≤ N 0 8 (8 * i + r)
    · rw [if_pos c, if_pos c]; exact reg _
    · rw [if_neg c, if_neg c]; exact reg _
  · rw [dw9, rk9, cr, cr', cs, e8]
    by_cases c : N 0 8 (8 * i + r) = N 0 8 (8 * i + s)
    · rw [if_pos c, if_pos c]; exact reg _
    · rw [if_neg c, if_neg c]; exact reg _
  · rw [dw10, rk10, ci]; exact plc _
  · rw [dw11, rk11, ci, cr, e8]
    by_cases c : N 0 8 (8 * i + r) = 0
    · rw [if_pos c, if_pos c]; exact plc _
    · rw [if_neg c, if_neg c]; exact plc'
  · rw [dw12, rk12, ci, cr, e8]
    by_cases c : N 0 8 (8 * i + r) = 0
    · rw [if_pos c, if_pos c]; exact plc'
    · rw [if_neg c, if_neg c]; exact plc _
end T3
