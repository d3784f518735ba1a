/-! the calls that only look, and those that change a little -/
section SC
variable {k : CK} {q : MK} {M N : Mem}
theorem tau4 : tau 4 = 3 := rfl
theorem tau5 : tau 5 = 4 := rfl
theorem tau6 : tau 6 = 5 := rfl
theorem tau7 : tau 7 = 9 := rfl
theorem tau8 : tau 8 = 7 := rfl
theorem tau9 : tau 9 = 14 := rfl
theorem tau10 : tau 10 = 10 := rfl
theorem tau11 : tau 11 = 13 := rfl
theorem sim_robotX (h : SimR k q M N) (x : Int32) : f_X3_robotX k M x = f_X4_robotX q N x := by
  obtain ⟨-, hI, hX⟩ := h
  have h8 := hI.2.1
  unfold f_X3_robotX f_X4_robotX
  rcases rof hX hI x with ⟨h1, h2⟩ | ⟨i, hi, rfl, h1, h2, h3⟩
  · rw [h1, h2]; rfl
  · rw [h1, h2, nI_clamp (by omega)]
    exact hX.2.1.f (hX.n ▸ hi) 5 (by omega)
theorem sim_robotY (h : SimR k q M N) (x : Int32) : f_X3_robotY k M x = f_X4_robotY q N x := by
  obtain ⟨-, hI, hX⟩ := h
  have h8 := hI.2.1
  unfold f_X3_robotY f_X4_robotY
  rcases rof hX hI x with ⟨h1, h2⟩ | ⟨i, hi, rfl, h1, h2, h3⟩
  · rw [h1, h2]; rfl
  · rw [h1, h2, nI_clamp (by omega)]
    exact hX.2.1.f (hX.n ▸ hi) 6 (by omega)
theorem sim_robotState (h : SimR k q M N) (x : Int32) : f_X3_robotState k M x = f_X4_robotState q N x := by
  obtain ⟨-, hI, hX⟩ := h
  have h8 := hI.2.1
  have e2 := hI.1.2.2.1
  have hn := hX.n
  unfold f_X3_robotState f_X4_robotState f_X3_isNumber f_X4_in
  obtain ⟨w, hw⟩ : ∃ w, q.2.1 0 = w + 1 := ⟨q.2.1 0 - 1, by omega⟩
  rw [e2, hn, hw, nI_pred]
  rcases pk_ix x (n := w + 1) (by omega) with hx | hx | ⟨a, ha, rfl⟩
  · rw [if_pos hx, if_pos hx]; rfl
  · have hx0 : ¬ x < 0 := fun h0 => by
      have h1 := Int32.lt_iff_toInt_lt.mp h0
      have h2 := Int32.le_iff_toInt_le.mp hx
      rw [nI_toInt (by omega)] at h2
      have h3 : (0 : Int32).toInt = 0 := rfl
      omega
    have hx1 : nI w < x := by
      have h2 := Int32.le_iff_toInt_le.mp hx
      rw [nI_toInt (by omega)] at h2
      rw [Int32.lt_iff_toInt_lt, nI_toInt (by omega)]
      omega
    rw [if_neg hx0, if_pos hx, if_neg hx0, if_pos hx1]; rfl
  · have hx0 := nI_pos (n := a) (by omega)
    have hx1 : ¬ nI (w + 1) ≤ nI a := nI_ge (by omega) (by omega)
    have hx2 : ¬ nI w < nI a := nI_nlt (by omega) (by omega)
    rw [if_neg hx0, if_neg hx1, if_neg hx0, if_neg hx2, nI_clamp (by omega)]
    exact hX.2.1.f (by omega) 4 (by omega)
theorem i32_lit {n : Nat} {x : Int32} (e : x = nI n) (h : n < 2 ^ 31) : ¬ x < 0 := by rw [e]; exact nI_pos h
theorem sim_reg (h : SimR k q M N) (x y : Int32) : f_X3_reg k M x y = f_X4_reg q N x y := by
  obtain ⟨-, hI, hX⟩ := h
  have h8 := hI.2.1
  unfold f_X3_reg f_X4_reg
  rcases rof hX hI x with ⟨h1, h2⟩ | ⟨i, hi, rfl, h1, h2, h3⟩
  · rw [h1, h2]; rfl
  · have hi' : i < k.2.1 0 := hX.n ▸ hi
    rw [h1, h2, nI_clamp (by omega), if_neg (by decide)]
    simp only [f_X2_show]
    rw [hX.2.1.f hi' 7 (by omega), hX.2.1.f hi' 10 (by omega), hX.2.1.cnt hi', hX.2.1.f hi' 8 (by omega), hX.2.1.f hi' 9 (by omega), hX.2.1.f hi' 11 (by omega)]
    simp only [tau7, tau8, tau9, tau10, tau11]
    have hs := (hX.2.2.2.1.2.2.2.1 i hi).2
    have e13 : (if N 0 3 i = 3 then N 0 13 i else 0) = N 0 13 i := by
      rcases hs with hs | hs | hs
      · exact absurd hs h3
      · rw [if_pos hs]
      · rw [hs]; simp
    rw [e13]
    unfold f_X4_in
    by_cases c8 : y = 8
    · subst c8; rfl
    by_cases c9 : y = 9
    · subst c9; rfl
    by_cases c10 : y = 10
    · subst c10; rfl
    by_cases c11 : y = 11
    · subst c11; rfl
    by_cases c12 : y = 12
    · subst c12; rfl
    by_cases c13 : y = 13
    · subst c13; rfl
    rw [if_neg c8, if_neg c9, if_neg c10, if_neg c11, if_neg c12, if_neg c13, if_neg c8, if_neg c9, if_neg c10, if_neg c11, if_neg c12, if_neg c13]
    rcases pk_ix y (n := 8) (by omega) with hy | hy | ⟨a, ha, rfl⟩
    · rw [if_pos hy, if_pos hy]; rfl
    · have hy0 : ¬ y < 0 := fun h0 => by
        have h1 := Int32.lt_iff_toInt_lt.mp h0
        have h2 := Int32.le_iff_toInt_le.mp hy
        rw [nI_toInt (by omega)] at h2
        have h3 : (0 : Int32).toInt = 0 := rfl
        omega
      have hy1 : (7 : Int32) < y := by
        have h2 := Int32.le_iff_toInt_le.mp hy
        rw [nI_toInt (by omega)] at h2
        rw [Int32.lt_iff_toInt_lt]
        have h3 : (7 : Int32).toInt = 7 := rfl
        omega
      rw [if_neg hy0, if_pos hy, if_neg hy0, if_pos hy1]; rfl
    · have hx0 := nI_pos (n := a) (by omega)
      have hx1 : ¬ nI 8 ≤ nI a := nI_ge (by omega) (by omega)
      have hx2 : ¬ (7 : Int32) < nI a := nI_nlt (b := a) (a := 7) (by omega) (by omega)
      rw [if_neg hx0, if_neg hx1, if_neg hx0, if_neg hx2, nI_clamp (by omega), hX.2.1.reg hi' ha]
      rw [show (8 : Int32) = nI 8 from rfl, pk_mul, nI_add, nI_clamp (by omega)]
      rfl
theorem at_eq (hX : SimX k q M N) (hI : mI q N) (x y : Int32) : f_X3_at k M x y = f_X4_at q N x y := by
  have h8 := hI.2.1
  unfold f_X3_at f_X4_at f_X1_contentOf
  rcases inn hX.1 hI x y with ⟨h1, h2⟩ | ⟨a, b, ha, hb, rfl, rfl, h1, h2⟩
  · rw [h1, h2]
    rcases ron hX hI x y with ⟨h3, h4, h5⟩ | ⟨i, hi, h3, h4, h5, h6, h7⟩
    · rw [h3]; rfl
    · exfalso
      obtain ⟨p1, p2⟩ := (hI.2.2.2 i hi).2.2 ((hX.2.2.2.1.lt0 hi).mpr h5)
      rw [h6] at p1
      rw [h7] at p2
      obtain ⟨a, ha, rfl⟩ := vp_in_of p1 (by omega)
      obtain ⟨b, hb, rfl⟩ := vp_in_of p2 (by omega)
      unfold f_X1_isInside at h1
      rw [hX.1.2.1, hX.1.2.2.1, if_neg (nI_pos (by omega)), if_neg (nI_ge ha (by omega)), if_neg (nI_pos (by omega)), if_neg (nI_ge hb (by omega))] at h1
      exact absurd h1 (by decide)
  · rw [h1, h2]
    obtain ⟨s1, s2, s3⟩ := sqAt hX.1 hI ha hb
    rw [s1, s2, hX.2.2.1 a b ha hb]
    simp only [if_neg (show ¬ (1 : Int32) = 0 by decide)]
    rcases ron hX hI (nI a) (nI b) with ⟨h3, h4, h5⟩ | ⟨i, hi, h3, h4, h5, h6, h7⟩
    · rw [h3, h4]
      show (if N 0 1 (32 * b + a) = 0 then N 0 2 (32 * b + a) else -1) = _
      simp
    · rw [h3, h4]
      have hw := hX.2.2.2.1.2.1 i hi h5
      rw [h6, h7, sqMc (by omega) (by omega)] at hw
      rw [if_pos hw, if_pos hw]
      show N 0 2 (32 * b + a) + 256 * (M (i + 1) 0 0 + 1) = _
      rw [hX.1.2.2.2 i hi]
theorem sim_at (h : SimR k q M N) (x y : Int32) : f_X3_at k M x y = f_X4_at q N x y := at_eq h.2.2 h.2.1 x y
theorem sim_now (h : SimR k q M N) : f_X3_now k M = f_X4_now q N := h.2.2.2.1.clk
theorem sim_setClock (h : SimR k q M N) (x : Int32) : SimR k q (f_X3_setClock k M x) (f_X4_setClock q N x) := SimX.R h.2.2.uclk (mI_clk h.2.1)
theorem sim_startRobot (h : SimR k q M N) (x : Int32) : (f_X3_startRobot k M x).1 = (f_X4_startRobot q N x).1 ∧ SimR k q (f_X3_startRobot k M x).2 (f_X4_startRobot q N x).2 := by
  have h0 := h
  obtain ⟨-, hI, hX⟩ := h
  have h8 := hI.2.1
  unfold f_X3_startRobot f_X4_startRobot
  rcases rof hX hI x with ⟨h1, h2⟩ | ⟨i, hi, rfl, h1, h2, h3⟩
  · rw [h1, h2]; exact ⟨rfl, h0⟩
  · have hi' : i < k.2.1 0 := hX.n ▸ hi
    rw [h1, h2, nI_clamp (by omega), if_neg (by decide)]
    simp only [hX.2.1.f hi' 4 (by omega), tau4]
    by_cases c : N 0 3 i = 1
    · rw [if_pos c, if_pos c]
      refine ⟨rfl, SimX.R (hX.ust hi' (s := 2) (by omega) (fun _ => h3) ?_) (mI_st hI (fun _ => by rw [c]; decide))⟩
      rcases (hX.2.2.2.1.2.2.2.1 i hi).2 with hs | hs | hs
      · exact absurd hs h3
      · rw [c] at hs; exact absurd hs (by decide)
      · exact Or.inr (Or.inr hs)
    · rw [if_neg c, if_neg c]
      exact ⟨rfl, h0⟩
theorem sim_load (h : SimR k q M N) (x y : Int32) : (f_X3_load k M x y).1 = (f_X4_load q N x y).1 ∧ SimR k q (f_X3_load k M x y).2 (f_X4_load q N x y).2 := by
  have h0 := h
  obtain ⟨-, hI, hX⟩ := h
  have h8 := hI.2.1
  unfold f_X3_load f_X4_load f_X2_addWord
  rcases rof hX hI x with ⟨h1, h2⟩ | ⟨i, hi, rfl, h1, h2, h3⟩
  · rw [h1, h2]; exact ⟨rfl, h0⟩
  · have hi' : i < k.2.1 0 := hX.n ▸ hi
    obtain ⟨a, ha, ea⟩ := (hI.2.2.2 i hi).1
    rw [h1, h2, nI_clamp (by omega), if_neg (by decide)]
    simp only [hX.2.1.f hi' 4 (by omega), hX.2.1.f hi' 8 (by omega), tau4, tau8, ea]
    by_cases c : N 0 3 i = 1
    · rw [if_pos c, if_pos c, hI.1.2.2.2.1, hX.1.1.2.2.1]
      by_cases c1 : a = q.2.1 3
      · rw [if_neg (nI_nlt (by omega) (by omega)), if_pos (show nI a = nI (q.2.1 3) by rw [c1])]
        exact ⟨rfl, h0⟩
      · rw [if_pos (nI_lt (by omega) (by omega)), if_neg (fun e => c1 ((nI_eq (by omega) (by omega)).mp e))]
        simp only [if_neg (show ¬ (1 : Int32) = 0 by decide)]
        rw [nI_clamp (by omega)]
        rw [mu_at, if_neg (by omega), mu_at, if_neg (by omega), ea, hX.2.1.f hi' 8 (by omega), tau8, ea, nI_1]
        rw [show (100 : Int32) = nI 100 from rfl, pk_mul, nI_add, nI_clamp (by omega)]
        exact ⟨trivial, SimX.R (SimX.ulen (hX.uprg hi' (by omega)) hi') (mI_len (mI_prg hI) (by omega))⟩
    · rw [if_neg c, if_neg c]
      exact ⟨rfl, h0⟩
end SC
