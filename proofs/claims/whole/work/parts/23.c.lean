/-! what both look up -/
section LU
variable {k : CK} {q : MK} {M N : Mem}
theorem sqC {a b w h : Nat} (ha : a < w) (hb : b < h) (hw : w ≤ 32) (hh : h ≤ 32) : (nI b * nI w + nI a).toNatClampNeg = b * w + a := by
  have h1 : b * w ≤ 32 * 32 := Nat.mul_le_mul (by omega) hw
  rw [pk_mul, nI_add, nI_clamp (by omega)]
theorem sqM {a b : Nat} : (32 : Int32) * nI b + nI a = nI (32 * b + a) := by
  rw [show (32 : Int32) = nI 32 from rfl, pk_mul, nI_add]
theorem sqMc {a b : Nat} (ha : a < 32) (hb : b < 32) : ((32 : Int32) * nI b + nI a).toNatClampNeg = 32 * b + a := by
  rw [sqM, nI_clamp (by omega)]
theorem inn (hD : SD k q M) (hI : mI q N) (x y : Int32) : (f_X1_isInside k M x y = 0 ∧ f_X4_isInside q N x y = 0) ∨ ∃ a b : Nat, a < q.2.1 1 ∧ b < q.2.1 2 ∧ x = nI a ∧ y = nI b ∧ f_X1_isInside k M x y = 1 ∧ f_X4_isInside q N x y = 1 := by
  obtain ⟨-, e0, e1, -⟩ := hD
  obtain ⟨⟨f0, f1, -⟩, hb, -⟩ := hI
  unfold f_X1_isInside f_X4_isInside f_X4_in
  rw [e0, e1, f0, f1]
  obtain ⟨w, hw⟩ : ∃ w, q.2.1 1 = w + 1 := ⟨q.2.1 1 - 1, by omega⟩
  obtain ⟨h, hh⟩ : ∃ h, q.2.1 2 = h + 1 := ⟨q.2.1 2 - 1, by omega⟩
  rw [hw, hh, nI_pred, nI_pred]
  rcases pk_ix x (n := w + 1) (by omega) with hx | hx | ⟨a, ha, rfl⟩
  · left
    rw [if_pos hx, if_pos hx]
    simp
  · left
    have hx0 : ¬ x < 0 := fun h0 => by
      have h1 := Int32.lt_iff_toInt_lt.mp h0
      have h2 := Int32.le_iff_toInt_le.mp hx
      rw [nI_toInt (by omega)] at h2
      have h3 : (0 : Int32).toInt = 0 := rfl
      omega
    have hx1 : nI w < x := by
      have h2 := Int32.le_iff_toInt_le.mp hx
      rw [nI_toInt (by omega)] at h2
      rw [Int32.lt_iff_toInt_lt, nI_toInt (by omega)]
      omega
    rw [if_neg hx0, if_pos hx, if_neg hx0, if_pos hx1]
    simp
  · have hx0 := nI_pos (n := a) (by omega)
    have hx1 : ¬ nI (w + 1) ≤ nI a := nI_ge (by omega) (by omega)
    have hx2 : ¬ nI w < nI a := nI_nlt (by omega) (by omega)
    rw [if_neg hx0, if_neg hx1, if_neg hx0, if_neg hx2]
    rcases pk_ix y (n := h + 1) (by omega) with hy | hy | ⟨b, hb', rfl⟩
    · left
      rw [if_pos hy, if_pos hy]
      simp
    · left
      have hy0 : ¬ y < 0 := fun h0 => by
        have h1 := Int32.lt_iff_toInt_lt.mp h0
        have h2 := Int32.le_iff_toInt_le.mp hy
        rw [nI_toInt (by omega)] at h2
        have h3 : (0 : Int32).toInt = 0 := rfl
        omega
      have hy1 : nI h < y := by
        have h2 := Int32.le_iff_toInt_le.mp hy
        rw [nI_toInt (by omega)] at h2
        rw [Int32.lt_iff_toInt_lt, nI_toInt (by omega)]
        omega
      rw [if_neg hy0, if_pos hy, if_neg hy0, if_pos hy1]
      simp
    · right
      have hy0 := nI_pos (n := b) (by omega)
      have hy1 : ¬ nI (h + 1) ≤ nI b := nI_ge (by omega) (by omega)
      have hy2 : ¬ nI h < nI b := nI_nlt (by omega) (by omega)
      rw [if_neg hy0, if_neg hy1, if_neg hy0, if_neg hy2]
      exact ⟨a, b, ha, hb', rfl, rfl, rfl, by simp⟩
theorem isOpenC {x y : Int32} : f_X1_isOpen k M x y = if f_X1_isInside k M x y = 0 then 0 else if M 0 2 (y * M 0 1 0 + x).toNatClampNeg = -1 then 0 else 1 := by
  unfold f_X1_isOpen f_X1_isInside
  split
  · simp
  split
  · simp
  split
  · simp
  split
  · simp
  · simp
theorem nI_m1 {a : Nat} (h : a < 2 ^ 31) : ¬ nI a = -1 := by
  intro e
  have h1 := nI_toInt h
  rw [e] at h1
  have h2 : (-1 : Int32).toInt = -1 := rfl
  omega
theorem sqAt {a b : Nat} (hD : SD k q M) (hI : mI q N) (ha : a < q.2.1 1) (hb : b < q.2.1 2) : (nI b * M 0 1 0 + nI a).toNatClampNeg = b * q.2.1 1 + a ∧ (f_X4_square q N (nI a) (nI b)).toNatClampNeg = 32 * b + a ∧ 32 * b + a < 1024 := by
  have h1 := hI.2.1
  refine ⟨?_, ?_, by omega⟩
  · rw [hD.2.1, sqC ha hb (by omega) (by omega)]
  · unfold f_X4_square
    rw [sqMc (by omega) (by omega)]
theorem opnn (hD : SD k q M) (hI : mI q N) (hS : SQ q M N) (hV : NV q N) (x y : Int32) : (f_X1_isOpen k M x y = 0 ∧ f_X4_isFree q N x y = 0) ∨ ∃ a b : Nat, a < q.2.1 1 ∧ b < q.2.1 2 ∧ x = nI a ∧ y = nI b ∧ N 0 1 (32 * b + a) = 0 ∧ f_X1_isOpen k M x y = 1 ∧ f_X4_isFree q N x y = 1 := by
  rw [isOpenC]
  unfold f_X4_isFree
  rcases inn hD hI x y with ⟨h1, h2⟩ | ⟨a, b, ha, hb, rfl, rfl, h1, h2⟩
  · left
    rw [h1, h2]
    exact ⟨rfl, rfl⟩
  · rw [h1, h2]
    obtain ⟨s1, s2, s3⟩ := sqAt hD hI ha hb
    rw [s1, s2, hS a b ha hb]
    by_cases hw : N 0 1 (32 * b + a) = 0
    · right
      refine ⟨a, b, ha, hb, rfl, rfl, hw, ?_, by simp [hw]⟩
      rcases hV.2.2.2.2 _ s3 with ⟨-, c, hc, e⟩ | ⟨e, -⟩
      · rw [if_pos hw, e, if_neg (nI_m1 (by omega))]
        rfl
      · rw [e] at hw; exact absurd hw (by decide)
    · left
      simp [hw]
theorem bsx {x : Int32} {d : Nat} (hd : d < 4) : f_X4_besideX q N x (nI d) = x + eB d := by
  rcases (show d = 0 ∨ d = 1 ∨ d = 2 ∨ d = 3 by omega) with rfl | rfl | rfl | rfl
  · show x = x + 0; simp
  · rfl
  · show x = x + 0; simp
  · show x - 1 = x + -1; exact Int32.sub_eq_add_neg _ _
theorem bsy {x : Int32} {d : Nat} (hd : d < 4) : f_X4_besideY q N x (nI d) = x + sB d := by
  rcases (show d = 0 ∨ d = 1 ∨ d = 2 ∨ d = 3 by omega) with rfl | rfl | rfl | rfl
  · show x - 1 = x + -1; exact Int32.sub_eq_add_neg _ _
  · show x = x + 0; simp
  · rfl
  · show x = x + 0; simp
theorem st_pos {s : Nat} (hs : s ≤ 6) : nI s ≤ 0 ↔ nI s = 0 := by
  rw [← nI_0, nI_leI (by omega) (by omega), nI_eq (by omega) (by omega)]
  omega
theorem NV.le0 (hV : NV q N) {i : Nat} (hi : i < q.2.1 0) : N 0 3 i ≤ 0 ↔ N 0 3 i = 0 := by
  obtain ⟨s, hs, e⟩ := hV.1 i hi
  rw [e]
  exact st_pos hs
theorem NV.lt0 (hV : NV q N) {i : Nat} (hi : i < q.2.1 0) : 0 < N 0 3 i ↔ N 0 3 i ≠ 0 := by
  rw [← Int32.not_le, hV.le0 hi]
theorem ronL {x y : Int32} (hn : k.2.1 0 = q.2.1 0) (hL : SimL k M N) (hI : mI q N) (hV : NV q N) : ∀ (n a : Nat), a ≤ q.2.1 0 → q.2.1 0 < a + n → (f_X3_robotOn_L2 k x y n (nI a) M = none ∧ f_X4_robotAt_L2 q x y n (nI a) N = -1 ∧ ∀ i, a ≤ i → i < q.2.1 0 → N 0 3 i ≠ 0 → ¬ (N 0 4 i = x ∧ N 0 5 i = y)) ∨ ∃ i : Nat, i < q.2.1 0 ∧ f_X3_robotOn_L2 k x y n (nI a) M = some i ∧ f_X4_robotAt_L2 q x y n (nI a) N = nI i ∧ N 0 3 i ≠ 0 ∧ N 0 4 i = x ∧ N 0 5 i = y := by
  have h8 := hI.2.1
  have e2 := hI.1.2.2.1
  intro n
  induction n with
  | zero => intro a h1 h2; omega
  | succ n ih =>
    intro a h1 h2
    rw [f_X3_robotOn_L2, f_X4_robotAt_L2, e2, hn]
    by_cases c : q.2.1 0 ≤ a
    · rw [if_pos (nI_le c (by omega)), if_pos (nI_le c (by omega))]
      exact Or.inl ⟨rfl, rfl, fun i h3 h4 => by omega⟩
    · have ha : a < q.2.1 0 := by omega
      have ih0 := ih (a + 1) (by omega) (by omega)
      have ih' : ¬ (N 0 3 a ≠ 0 ∧ N 0 4 a = x ∧ N 0 5 a = y) → _ := fun hnot => ih0.imp_left (fun hz => (⟨hz.1, hz.2.1, fun i h3 h4 h5 h6 => by
        rcases Nat.lt_or_ge a i with h7 | h7
        · exact hz.2.2 i h7 h4 h5 h6
        · have h8 : i = a := by omega
          subst h8
          exact hnot ⟨h5, h6.1, h6.2⟩⟩ : f_X3_robotOn_L2 k x y n (nI (a + 1)) M = none ∧ f_X4_robotAt_L2 q x y n (nI (a + 1)) N = -1 ∧ ∀ i, a ≤ i → i < q.2.1 0 → N 0 3 i ≠ 0 → ¬ (N 0 4 i = x ∧ N 0 5 i = y)))
      rw [if_neg (nI_ge ha (by omega)), if_neg (nI_ge ha (by omega)), nI_clamp (by omega), nI_1]
      rw [hL.f (hn ▸ ha) 4 (by omega), hL.f (hn ▸ ha) 5 (by omega), hL.f (hn ▸ ha) 6 (by omega)]
      simp only [show tau 4 = 3 from rfl, show tau 5 = 4 from rfl, show tau 6 = 5 from rfl, hV.le0 ha]
      by_cases c1 : N 0 3 a = 0
      · rw [if_pos c1, if_pos c1]; exact ih' (fun z => z.1 c1)
      · rw [if_neg c1, if_neg c1]
        by_cases c2 : N 0 4 a = x
        · rw [if_pos c2, if_pos c2]
          by_cases c3 : N 0 5 a = y
          · rw [if_pos c3, if_pos c3]
            exact Or.inr ⟨a, ha, rfl, rfl, c1, c2, c3⟩
          · rw [if_neg c3, if_neg c3]; exact ih' (fun z => c3 z.2.2)
        · rw [if_neg c2, if_neg c2]; exact ih' (fun z => c2 z.2.1)
theorem ron (h : SimX k q M N) (hI : mI q N) (x y : Int32) : (f_X3_robotOn k M x y = none ∧ f_X4_robotAt q N x y = -1 ∧ ∀ i, i < q.2.1 0 → N 0 3 i ≠ 0 → ¬ (N 0 4 i = x ∧ N 0 5 i = y)) ∨ ∃ i : Nat, i < q.2.1 0 ∧ f_X3_robotOn k M x y = some i ∧ f_X4_robotAt q N x y = nI i ∧ N 0 3 i ≠ 0 ∧ N 0 4 i = x ∧ N 0 5 i = y := by
  unfold f_X3_robotOn f_X4_robotAt
  rw [h.n, ← nI_0]
  exact (ronL h.n h.2.1 hI h.2.2.2.1 _ 0 (by omega) (by omega)).imp_left (fun z => ⟨z.1, z.2.1, fun i => z.2.2 i (by omega)⟩)
theorem rof (h : SimX k q M N) (hI : mI q N) (x : Int32) : (f_X3_robotOf k M x = none ∧ f_X4_isRobot q N x = 0) ∨ ∃ i : Nat, i < q.2.1 0 ∧ x = nI i ∧ f_X3_robotOf k M x = some i ∧ f_X4_isRobot q N x = 1 ∧ N 0 3 i ≠ 0 := by
  have h8 := hI.2.1
  have e2 := hI.1.2.2.1
  have hn := h.n
  unfold f_X3_robotOf f_X4_isRobot f_X3_isNumber f_X4_in
  obtain ⟨w, hw⟩ : ∃ w, q.2.1 0 = w + 1 := ⟨q.2.1 0 - 1, by omega⟩
  rw [e2, hn, hw, nI_pred]
  rcases pk_ix x (n := w + 1) (by omega) with hx | hx | ⟨a, ha, rfl⟩
  · left
    rw [if_pos hx, if_pos hx]
    simp
  · left
    have hx0 : ¬ x < 0 := fun h0 => by
      have h1 := Int32.lt_iff_toInt_lt.mp h0
      have h2 := Int32.le_iff_toInt_le.mp hx
      rw [nI_toInt (by omega)] at h2
      have h3 : (0 : Int32).toInt = 0 := rfl
      omega
    have hx1 : nI w < x := by
      have h2 := Int32.le_iff_toInt_le.mp hx
      rw [nI_toInt (by omega)] at h2
      rw [Int32.lt_iff_toInt_lt, nI_toInt (by omega)]
      omega
    rw [if_neg hx0, if_pos hx, if_neg hx0, if_pos hx1]
    simp
  · have hx0 := nI_pos (n := a) (by omega)
    have hx1 : ¬ nI (w + 1) ≤ nI a := nI_ge (by omega) (by omega)
    have hx2 : ¬ nI w < nI a := nI_nlt (by omega) (by omega)
    rw [if_neg hx0, if_neg hx1, if_neg hx0, if_neg hx2, nI_clamp (by omega)]
    rw [h.2.1.f (by omega) 4 (by omega)]
    simp only [show tau 4 = 3 from rfl, h.2.2.2.1.le0 (show a < q.2.1 0 by omega)]
    by_cases c : N 0 3 a = 0
    · left
      simp [c]
    · right
      refine ⟨a, ha, rfl, ?_, ?_, c⟩
      · rw [if_neg c]; simp
      · rw [if_neg c]; simp
end LU
