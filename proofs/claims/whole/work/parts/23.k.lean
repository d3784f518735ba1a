/-! a word: place and count of words, pushed inside; what both test first -/
section T2
variable {k : CK} {q : MK} {M N X : Mem} {i : Nat}
def fin (X : Mem) (i : Nat) (n : Int32) : Mem := mu (mu X (i + 1) 0 7 n) (i + 1) 0 9 ((mu X (i + 1) 0 7 n) (i + 1) 0 9 + 1)
theorem fin_at {n : Int32} {a b c : Nat} (h : ¬ (a = i + 1 ∧ b = 0 ∧ (c = 7 ∨ c = 9))) : fin X i n a b c = X a b c := by
  unfold fin
  rw [mu_at, if_neg (by omega), mu_at, if_neg (by omega)]
theorem fin_mu {n v : Int32} {g j t : Nat} (h : ¬ (g = i + 1 ∧ j = 0 ∧ (t = 7 ∨ t = 9))) : fin (mu X g j t v) i n = mu (fin X i n) g j t v := by
  unfold fin
  have e : ∀ Z : Mem, (mu (mu Z g j t v) (i + 1) 0 7 n) (i + 1) 0 9 = (mu Z (i + 1) 0 7 n) (i + 1) 0 9 := fun Z => by
    rw [mu_at, if_neg (by omega), mu_at, if_neg (by omega), mu_at, if_neg (by omega)]
  rw [e, mu_comm X v n (by omega), mu_comm _ v _ (by omega)]
theorem fin_mr {n : Int32} {g j : Nat} {f : Nat → Int32} (h : ¬ (g = i + 1 ∧ j = 0)) : fin (mr X g j f) i n = mr (fin X i n) g j f := by
  funext a b c
  by_cases h1 : a = g ∧ b = j
  · rw [fin_at (by omega), mr_at, mr_at, if_pos h1, if_pos h1]
  · unfold fin
    simp only [mu_at, mr_at, if_neg h1, if_neg (show ¬ (i + 1 = g ∧ 0 = j) by omega)]
theorem fin_7 {n n' : Int32} : mu (fin X i n) (i + 1) 0 7 n' = fin X i n' := by
  unfold fin
  have e : ∀ z : Int32, (mu X (i + 1) 0 7 z) (i + 1) 0 9 = X (i + 1) 0 9 := fun z => by rw [mu_at, if_neg (by omega)]
  rw [e, e, mu_comm _ (X (i + 1) 0 9 + 1) n' (by omega), mu_mu]
theorem fin_9 (n : Int32) : fin X i n (i + 1) 0 7 = n := by
  unfold fin
  rw [mu_at, if_neg (by omega), mu_eq]
theorem robotOn_fr {M' : Mem} (h : ∀ j, M' (j + 1) 0 4 = M (j + 1) 0 4 ∧ M' (j + 1) 0 5 = M (j + 1) 0 5 ∧ M' (j + 1) 0 6 = M (j + 1) 0 6) {x y : Int32} : ∀ (n : Nat) (t : Int32), f_X3_robotOn_L2 k x y n t M' = f_X3_robotOn_L2 k x y n t M := by
  intro n
  induction n with
  | zero => intro t; rfl
  | succ n ih =>
    intro t
    rw [f_X3_robotOn_L2, f_X3_robotOn_L2, (h _).1, (h _).2.1, (h _).2.2, ih]
theorem robotOn_fin {n : Int32} {x y : Int32} : f_X3_robotOn k (fin M i n) x y = f_X3_robotOn k M x y := robotOn_fr (fun j => ⟨fin_at (by omega), fin_at (by omega), fin_at (by omega)⟩) _ _
theorem isOpen_fin {n : Int32} {x y : Int32} : f_X1_isOpen k (fin M i n) x y = f_X1_isOpen k M x y := by
  unfold f_X1_isOpen
  rw [fin_at (by omega), fin_at (by omega), fin_at (by omega)]
theorem at_fin {n : Int32} {x y : Int32} : f_X3_at k (fin M i n) x y = f_X3_at k M x y := by
  unfold f_X3_at
  rw [robotOn_fin]
  unfold f_X1_contentOf f_X1_isInside
  rw [fin_at (by omega), fin_at (by omega), fin_at (by omega)]
  cases f_X3_robotOn k M x y with
  | none => rfl
  | some j =>
    show _ + 256 * (fin M i n (j + 1) 0 0 + 1) = _
    rw [fin_at (by omega)]
theorem robotOf_fin {n : Int32} {x : Int32} : f_X3_robotOf k (fin M i n) x = f_X3_robotOf k M x := by
  unfold f_X3_robotOf f_X3_isNumber
  rw [fin_at (by omega)]
/-- the reference's robot i at its next word -/
def nx1 (N : Mem) (i : Nat) (n : Int32) : Mem := mu (mu N 0 14 i (N 0 14 i + 1)) 0 9 i n
theorem fin_Sim {n : Int32} (hX : SimX k q M N) (hi : i < k.2.1 0) : SimX k q (fin M i n) (nx1 N i n) := by
  unfold fin nx1
  rw [mu_comm N (N 0 14 i + 1) n (by omega)]
  have e : (mu M (i + 1) 0 7 n) (i + 1) 0 9 = N 0 14 i := by
    rw [mu_at, if_neg (by omega)]
    exact hX.2.1.f hi 9 (by omega)
  rw [e]
  exact (hX.uplc hi).udid hi
theorem reg8 {i r : Nat} (hi : i < 8) (hr : r < 16) : (8 : Int32) * nI i + nI r = nI (8 * i + r) ∧ (nI (8 * i + r)).toNatClampNeg = 8 * i + r := by
  rw [show (8 : Int32) = nI 8 from rfl, pk_mul, nI_add]
  exact ⟨rfl, nI_clamp (by omega)⟩
theorem lt24 {o : Nat} (h : o < 256) : (24 : Int32) < nI o ↔ 24 < o := nI_ltI (a := 24) (by omega) (by omega)
theorem le8 {o : Nat} (h : o < 256) : (8 : Int32) ≤ nI o ↔ 8 ≤ o := nI_leI (a := 8) (by omega) (by omega)
theorem lt8 {o : Nat} (h : o < 256) : nI o < (8 : Int32) ↔ o < 8 := nI_ltI (b := 8) (by omega) (by omega)
theorem lt7 {o : Nat} (h : o < 256) : (7 : Int32) < nI o ↔ 7 < o := nI_ltI (a := 7) (by omega) (by omega)
theorem le13 {o : Nat} (h : o < 256) : (13 : Int32) ≤ nI o ↔ 13 ≤ o := nI_leI (a := 13) (by omega) (by omega)
theorem eqk {o c : Nat} {x : Int32} (h : o < 256) (hx : x = nI c) (hc : c < 256) : nI o = x ↔ o = c := by
  rw [hx, nI_eq (by omega) (by omega)]
theorem run_cmp (hX : SimX k q M N) (hI : mI q N) (hi : i < q.2.1 0) : (¬ f_X2_mustFail k M i = 0 ∧ f_X4_run q N (nI i) = mu N 0 3 i 6) ∨ (f_X2_mustFail k M i = 0 ∧ ∃ (o r s : Nat) (n z : Int32), o ≤ 24 ∧ r < 8 ∧ s < 8 ∧ N 0 9 i = n ∧ ((o = 6 ∨ o = 7) → ¬ N 0 8 (8 * i + s) = 0) ∧ f_X3_doWord k M i = f_X3_doWord_L59 k i (nI o) (nI r) (nI s) z (N 0 8 (8 * i + r)) (N 0 8 (8 * i + s)) (n + 1) M ∧ f_X4_run q N (nI i) = if 13 ≤ o then f_X4_act q (nx1 N i (n + 1)) (nI i) (nI o) (nI (8 * i + r)) (nI (8 * i + s)) else f_X4_reckon q (nx1 N i (n + 1)) (nI i) (nI o) (nI (8 * i + r)) (nI (8 * i + s)) z) := by
  have h8 := hI.2.1
  have hi' : i < k.2.1 0 := hX.n ▸ hi
  have hi8 : i < 8 := by omega
  obtain ⟨ln, hln, eln⟩ := (hI.2.2.2 i hi).1
  unfold f_X2_mustFail f_X4_run f_X3_doWord
  rw [nI_clamp (show i < 2 ^ 31 by omega), eln]
  rw [hX.2.1.f hi' 7 (by omega), hX.2.1.f hi' 8 (by omega), tau7, tau8, eln, hX.1.1.2.2.1]
  unfold f_X4_in
  generalize hp : N 0 9 i = P
  rcases pk_ix P (n := ln) (by omega) with hP | hP | ⟨p, hpl, rfl⟩
  · left
    rw [if_pos hP, if_pos hP, if_pos rfl]
    exact ⟨by decide, rfl⟩
  · left
    have hP0 : ¬ P < 0 := fun h0 => by
      have h1 := Int32.lt_iff_toInt_lt.mp h0
      have h2 := Int32.le_iff_toInt_le.mp hP
      rw [nI_toInt (by omega)] at h2
      have h3 : (0 : Int32).toInt = 0 := rfl
      omega
    have hP1 : nI ln - 1 < P := by
      have h2 := Int32.le_iff_toInt_le.mp hP
      rw [nI_toInt (by omega)] at h2
      cases ln with
      | zero =>
        rw [nI_0, Int32.lt_iff_toInt_lt]
        have h3 : ((0 : Int32) - 1).toInt = -1 := rfl
        omega
      | succ l =>
        rw [nI_pred, Int32.lt_iff_toInt_lt, nI_toInt (by omega)]
        omega
    rw [if_neg hP0, if_pos hP, if_neg hP0, if_pos hP1, if_pos rfl]
    exact ⟨by decide, rfl⟩
  · obtain ⟨l, rfl⟩ : ∃ l, ln = l + 1 := ⟨ln - 1, by omega⟩
    rw [if_neg (nI_pos (by omega)), if_neg (nI_ge hpl (by omega)), if_pos (nI_lt (show p < q.2.1 3 by omega) (by omega)), nI_pred, if_neg (nI_pos (by omega)), if_neg (nI_nlt (by omega) (by omega)), if_neg (show ¬ (1 : Int32) = 0 by decide), nI_clamp (show p < 2 ^ 31 by omega)]
    rw [hX.2.1.prg hi' (show p < 100 by omega), show (100 : Int32) = nI 100 from rfl, pk_mul, nI_add, nI_clamp (show 100 * i + p < 2 ^ 31 by omega)]
    generalize N 0 6 (100 * i + p) = w
    unfold f_X3_opOf f_X3_rOf f_X3_sOf
    obtain ⟨o, ho, eo⟩ := pk_andE w (m := 255) 8 (by decide)
    obtain ⟨r, hr, er⟩ := pk_andE (w >>> (8 &&& 31)) (m := 15) 4 (by decide)
    obtain ⟨s, hs, es⟩ := pk_andE (w >>> (12 &&& 31)) (m := 15) 4 (by decide)
    rw [eo, er, es]
    have ho' : o < 256 := ho
    have hr' : r < 16 := hr
    have hs' : s < 16 := hs
    have e6 := eqk (x := 6) (c := 6) ho' rfl (by omega)
    have e7 := eqk (x := 7) (c := 7) ho' rfl (by omega)
    unfold f_X4_run_L69
    rw [(reg8 hi8 hr').1, (reg8 hi8 hs').1, (reg8 hi8 hs').2, nI_clamp (show r < 2 ^ 31 by omega), nI_clamp (show s < 2 ^ 31 by omega)]
    simp only [nI_clamp (show i < 2 ^ 31 by omega), lt24 ho', le8 (show r < 256 by omega), lt8 (show s < 256 by omega), lt7 (show r < 256 by omega), lt7 (show s < 256 by omega), le13 ho', e6, e7]
    by_cases c1 : 24 < o
    · left
      rw [if_pos c1, if_neg (show ¬ o = 6 by omega), if_neg (show ¬ o = 7 by omega), if_pos c1]
      exact ⟨by decide, rfl⟩
    by_cases c2 : 8 ≤ r
    · left
      simp only [if_neg c1, if_pos c2, if_pos (show 7 < r by omega), ite_self]
      exact ⟨by decide, trivial⟩
    by_cases c3 : s < 8
    · have es8 : M (i + 1) 2 s = N 0 8 (8 * i + s) := hX.2.1.reg hi' c3
      have er8 : M (i + 1) 2 r = N 0 8 (8 * i + r) := hX.2.1.reg hi' (by omega)
      simp only [es8, er8, if_neg c1, if_neg c2, if_pos c3, if_neg (show ¬ 7 < r by omega), if_neg (show ¬ 7 < s by omega)]
      have hout : ∀ V : Mem, V = (if 13 ≤ o then f_X4_act q (mu (mu N 0 14 i (N 0 14 i + 1)) 0 9 i (nI p + 1)) (nI i) (nI o) (nI (8 * i + r)) (nI (8 * i + s)) else f_X4_reckon q (mu (mu N 0 14 i (N 0 14 i + 1)) 0 9 i (nI p + 1)) (nI i) (nI o) (nI (8 * i + r)) (nI (8 * i + s)) (w >>> (16 &&& 31))) → ((o = 6 ∨ o = 7) → ¬ N 0 8 (8 * i + s) = 0) → ∃ (o' r' s' : Nat) (n z : Int32), o' ≤ 24 ∧ r' < 8 ∧ s' < 8 ∧ nI p = n ∧ ((o' = 6 ∨ o' = 7) → ¬ N 0 8 (8 * i + s') = 0) ∧ f_X3_doWord_L59 k i (nI o) (nI r) (nI s) (w >>> (16 &&& 31)) (N 0 8 (8 * i + r)) (N 0 8 (8 * i + s)) (nI p + 1) M = f_X3_doWord_L59 k i (nI o') (nI r') (nI s') z (N 0 8 (8 * i + r')) (N 0 8 (8 * i + s')) (n + 1) M ∧ V = if 13 ≤ o' then f_X4_act q (nx1 N i (n + 1)) (nI i) (nI o') (nI (8 * i + r')) (nI (8 * i + s')) else f_X4_reckon q (nx1 N i (n + 1)) (nI i) (nI o') (nI (8 * i + r')) (nI (8 * i + s')) z :=
        fun V hV h0 => ⟨o, r, s, nI p, w >>> (16 &&& 31), by omega, by omega, c3, rfl, h0, rfl, hV⟩
      by_cases c4 : o = 6
      · simp only [if_pos c4]
        by_cases c5 : N 0 8 (8 * i + s) = 0
        · left
          simp only [if_pos c5]
          exact ⟨by decide, trivial⟩
        · right
          simp only [if_neg c5]
          exact ⟨trivial, hout _ rfl (fun _ => c5)⟩
      · simp only [if_neg c4]
        by_cases c6 : o = 7
        · simp only [if_pos c6]
          by_cases c5 : N 0 8 (8 * i + s) = 0
          · left
            simp only [if_pos c5]
            exact ⟨by decide, trivial⟩
          · right
            simp only [if_neg c5]
            exact ⟨trivial, hout _ rfl (fun _ => c5)⟩
        · right
          simp only [if_neg c6]
          exact ⟨trivial, hout _ rfl (fun h => by omega)⟩
    · left
      simp only [if_neg c1, if_neg c2, if_neg c3, if_neg (show ¬ 7 < r by omega), if_pos (show 7 < s by omega), ite_self]
      exact ⟨by decide, trivial⟩
end T2
