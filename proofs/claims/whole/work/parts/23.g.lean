/-! all begins anew -/
section SG
variable {k : CK} {q : MK} {M N : Mem}
theorem soL : ∀ (n t : Nat) (X : Mem), t ≤ k.2.1 0 → k.2.1 0 < t + n → k.2.1 0 ≤ 8 → ∀ a b c, f_X3_startOver_L9 k n (nI t) X a b c = if t + 1 ≤ a ∧ a ≤ k.2.1 0 ∧ b = 0 ∧ c = 4 then 0 else X a b c := by
  intro n
  induction n with
  | zero => intro t X h1 h2; omega
  | succ n ih =>
    intro t X h1 h2 h8 a b c
    rw [f_X3_startOver_L9]
    by_cases c1 : k.2.1 0 ≤ t
    · rw [if_pos (nI_le c1 (by omega)), if_neg (by omega)]
    · rw [if_neg (nI_ge (by omega) (by omega)), nI_1, ih (t + 1) _ (by omega) (by omega) h8, nI_clamp (by omega), mu_at]
      by_cases c2 : t + 1 + 1 ≤ a ∧ a ≤ k.2.1 0 ∧ b = 0 ∧ c = 4
      · rw [if_pos c2, if_pos (by omega)]
      · rw [if_neg c2]
        by_cases c3 : a = t + 1 ∧ b = 0 ∧ c = 4
        · rw [if_pos c3, if_pos (by omega)]
        · rw [if_neg c3, if_neg (by omega)]
theorem ini31 : ∀ (n t : Nat) (X : Mem), t ≤ 8 → 8 < t + n → ∀ a b c, f_X4_init__L31 q n (nI t) X a b c = if a = 0 ∧ b = 3 ∧ t ≤ c ∧ c < 8 then 0 else X a b c := by
  intro n
  induction n with
  | zero => intro t X h1 h2; omega
  | succ n ih =>
    intro t X h1 h2 a b c
    rw [f_X4_init__L31]
    by_cases c1 : 8 ≤ t
    · rw [if_pos (show (8 : Int32) ≤ nI t from nI_le (a := 8) c1 (by omega)), if_neg (by omega)]
    · rw [if_neg (show ¬ (8 : Int32) ≤ nI t from nI_ge (b := 8) (by omega) (by omega)), nI_1, ih (t + 1) _ (by omega) (by omega), nI_clamp (by omega), mu_at]
      by_cases c2 : a = 0 ∧ b = 3 ∧ t + 1 ≤ c ∧ c < 8
      · rw [if_pos c2, if_pos (by omega)]
      · rw [if_neg c2]
        by_cases c3 : a = 0 ∧ b = 3 ∧ c = t
        · rw [if_pos c3, if_pos (by omega)]
        · rw [if_neg c3, if_neg (by omega)]
theorem ini2 : ∀ (n t : Nat) (X : Mem), t ≤ 1024 → 1024 < t + n → ∀ a b c, f_X4_init__L2 q n (nI t) X a b c = if a = 0 ∧ (b = 1 ∨ b = 2) ∧ t ≤ c ∧ c < 1024 then 0 else X a b c := by
  intro n
  induction n with
  | zero => intro t X h1 h2; omega
  | succ n ih =>
    intro t X h1 h2 a b c
    rw [f_X4_init__L2]
    by_cases c1 : 1024 ≤ t
    · rw [if_pos (show (1024 : Int32) ≤ nI t from nI_le (a := 1024) c1 (by omega)), if_neg (by omega)]
    · rw [if_neg (show ¬ (1024 : Int32) ≤ nI t from nI_ge (b := 1024) (by omega) (by omega)), nI_1, ih (t + 1) _ (by omega) (by omega), nI_clamp (by omega), mu_at, mu_at, narB (Or.inl rfl)]
      by_cases c2 : a = 0 ∧ (b = 1 ∨ b = 2) ∧ t + 1 ≤ c ∧ c < 1024
      · rw [if_pos c2, if_pos (by omega)]
      · rw [if_neg c2]
        by_cases c3 : a = 0 ∧ b = 2 ∧ c = t
        · rw [if_pos c3, if_pos (by omega)]
        · rw [if_neg c3]
          by_cases c4 : a = 0 ∧ b = 1 ∧ c = t
          · rw [if_pos c4, if_pos (by omega)]
          · rw [if_neg c4, if_neg (by omega)]
theorem iniC (h8 : k.2.1 0 ≤ 8) (a b c : Nat) : f_X3_init_ k M a b c = if a = 0 ∧ b = 0 ∧ c = 3 then nI (k.2.1 0) - 1 else if a = 0 ∧ b = 0 ∧ c = 2 then 0 else if 1 ≤ a ∧ a ≤ k.2.1 0 ∧ b = 0 ∧ c = 4 then 0 else if a = 0 ∧ b = 1 ∧ c = 5 then -1 else if a = 0 ∧ b = 2 ∧ c < k.2.1 1 then 0 else M a b c := by
  unfold f_X3_init_ f_X3_startOver f_X1_clear
  rw [mu_at, mu_at, ← nI_0, soL _ 0 _ (by omega) (by omega) h8, mu_at, mr_at, nI_0, Nat.zero_add]
  by_cases c1 : a = 0 ∧ b = 0 ∧ c = 3
  · rw [if_pos c1, if_pos c1]
  rw [if_neg c1, if_neg c1]
  by_cases c2 : a = 0 ∧ b = 0 ∧ c = 2
  · rw [if_pos c2, if_pos c2]
  rw [if_neg c2, if_neg c2]
  by_cases c3 : 1 ≤ a ∧ a ≤ k.2.1 0 ∧ b = 0 ∧ c = 4
  · rw [if_pos c3, if_pos c3]
  rw [if_neg c3, if_neg c3]
  by_cases c4 : a = 0 ∧ b = 1 ∧ c = 5
  · rw [if_pos c4, if_pos c4]
  rw [if_neg c4, if_neg c4]
  by_cases c5 : a = 0 ∧ b = 2
  · rw [if_pos c5]
    obtain ⟨rfl, rfl⟩ := c5
    unfold fillF
    by_cases c6 : c < k.2.1 1
    · rw [if_pos c6, if_pos (by omega)]
    · rw [if_neg c6, if_neg (by omega)]
  · rw [if_neg c5, if_neg (by omega)]
theorem iniM (h5 : q.2.1 5 = 1026) (a b c : Nat) : f_X4_init_ q N a b c = if a = 0 ∧ b = 0 ∧ c = 20 then 0 else if a = 0 ∧ b = 0 ∧ c = 19 then N 0 0 2 - 1 else if a = 0 ∧ b = 3 ∧ c < 8 then 0 else if a = 0 ∧ (b = 1 ∨ b = 2) ∧ c < 1024 then 0 else N a b c := by
  unfold f_X4_init_
  rw [h5, mu_at, mu_at, ← nI_0, ini31 _ 0 _ (by omega) (by omega), ini31 _ 0 _ (by omega) (by omega), ini2 _ 0 _ (by omega) (by omega), ini2 _ 0 _ (by omega) (by omega), nI_0]
  rw [if_neg (show ¬ (0 = 0 ∧ 0 = 3 ∧ 0 ≤ 2 ∧ 2 < 8) by omega), if_neg (show ¬ (0 = 0 ∧ (0 = 1 ∨ 0 = 2) ∧ 0 ≤ 2 ∧ 2 < 1024) by omega)]
  by_cases c1 : a = 0 ∧ b = 0 ∧ c = 20
  · rw [if_pos c1, if_pos c1]
  rw [if_neg c1, if_neg c1]
  by_cases c2 : a = 0 ∧ b = 0 ∧ c = 19
  · rw [if_pos c2, if_pos c2]
  rw [if_neg c2, if_neg c2]
  by_cases c3 : a = 0 ∧ b = 3 ∧ c < 8
  · rw [if_pos c3, if_pos (by omega)]
  rw [if_neg c3, if_neg (by omega)]
  by_cases c4 : a = 0 ∧ (b = 1 ∨ b = 2) ∧ c < 1024
  · rw [if_pos c4, if_pos (by omega)]
  rw [if_neg c4, if_neg (by omega)]
theorem sim_init_ (h : SimR k q M N) : SimR k q (f_X3_init_ k M) (f_X4_init_ q N) := by
  obtain ⟨-, hI, hX⟩ := h
  have h8 := hI.2.1
  have h5 := mI_F hI
  have hn := hX.n
  have hk8 : k.2.1 0 ≤ 8 := by omega
  obtain ⟨d, l, s, v, e⟩ := hX
  have eC := iniC (M := M) hk8
  have eM := iniM (N := N) h5
  have e2 := hI.1.2.2.1
  refine SimX.R ⟨d.fr ?_ ?_ (fun i => ?_), fun g j t hd => ?_, fun x y hx hy => ?_, ?_, Or.inl ?_⟩ ?_
  · rw [eC]; simp
  · rw [eC]; simp
  · rw [eC]; simp
  · have hd' := l g j t hd
    rw [eC, eM]
    rcases hd with ⟨rfl, rfl, ht⟩ | ⟨g1, g2, hd⟩
    · rw [(lk_z rfl).1, (lk_z rfl).2] at hd' ⊢
      rcases ht with rfl | rfl
      · simp
      · simp [e2, hn]
    · obtain ⟨p, rfl⟩ : ∃ p, g = p + 1 := ⟨g - 1, by omega⟩
      rcases hd with ⟨rfl, ht⟩ | ⟨rfl, rfl⟩ | ⟨rfl, ht⟩ | ⟨rfl, ht⟩ | ⟨rfl, ht⟩
      · rw [(lk_0 (by omega)).1, (lk_0 (by omega)).2, Nat.add_sub_cancel] at hd' ⊢
        have hp8 : p < 8 := by omega
        rcases (show t = 4 ∨ t = 5 ∨ t = 6 ∨ t = 7 ∨ t = 8 ∨ t = 9 ∨ t = 10 ∨ t = 11 by omega) with rfl | rfl | rfl | rfl | rfl | rfl | rfl | rfl <;> simp only [tau4, tau5, tau6, tau7, tau8, tau9, tau10, tau11] at hd' ⊢ <;> simp [hd', g2, hp8]
      · rw [(lk_3 (by omega)).1, (lk_3 (by omega)).2, Nat.add_sub_cancel] at hd' ⊢
        simp [hd']
      · rw [(lk_1 (by omega)).1, (lk_1 (by omega)).2, Nat.add_sub_cancel] at hd' ⊢
        simp [hd']
      · rw [(lk_2 (by omega)).1, (lk_2 (by omega)).2, Nat.add_sub_cancel] at hd' ⊢
        simp [hd']
      · rw [(lk_4 (by omega)).1, (lk_4 (by omega)).2, Nat.add_sub_cancel] at hd' ⊢
        simp [hd']
  · have h1 : y * q.2.1 1 + x < k.2.1 1 := by
      rw [d.1.2.1]
      have : (y + 1) * q.2.1 1 ≤ q.2.1 2 * q.2.1 1 := Nat.mul_le_mul_right _ hy
      rw [Nat.add_mul, Nat.one_mul] at this
      rw [Nat.mul_comm (q.2.1 1)]
      omega
    have h2 : 32 * y + x < 1024 := by omega
    rw [eC, eM, eM]
    simp [h1, h2]
  · obtain ⟨n1, n2, n3, n4, n5⟩ := v
    have st0 : ∀ j, j < q.2.1 0 → f_X4_init_ q N 0 3 j = 0 := fun j hj => by
      rw [eM]
      have : j < 8 := by omega
      simp [this]
    refine ⟨fun j hj => ⟨0, by omega, st0 j hj⟩, fun j hj h9 => absurd (st0 j hj) h9, fun j hj => ?_, fun j hj => ⟨?_, Or.inl (st0 j hj)⟩, fun t ht => Or.inl ⟨?_, 0, by omega, ?_⟩⟩
    · rw [eM]; simp; exact n3 j hj
    · rw [eM]; simp; exact Int32.not_lt.mp (n4 j hj).1
    · rw [eM]; simp [ht]
    · rw [eM]; simp [ht]; rfl
  · rw [eC]; simp
  · obtain ⟨⟨a0, a1, a2, a3, a4⟩, hb, ⟨y, hy, ey⟩, hr⟩ := hI
    refine ⟨⟨?_, ?_, ?_, ?_, ?_⟩, hb, ⟨q.2.1 0 - 1, by omega, ?_⟩, fun i hi => ?_⟩
    · rw [eM]; simp; exact a0
    · rw [eM]; simp; exact a1
    · rw [eM]; simp; exact a2
    · rw [eM]; simp; exact a3
    · rw [eM]; simp; exact a4
    · rw [eM]; simp
      obtain ⟨w, hw⟩ : ∃ w, q.2.1 0 = w + 1 := ⟨q.2.1 0 - 1, by omega⟩
      rw [e2, hw, nI_pred]
      rfl
    · have e7 : f_X4_init_ q N 0 7 i = N 0 7 i := by rw [eM]; simp
      have e12 : f_X4_init_ q N 0 12 i = N 0 12 i := by rw [eM]; simp
      have e3 : f_X4_init_ q N 0 3 i = 0 := by
        rw [eM]
        have : i < 8 := by omega
        simp [this]
      rw [e7, e12, e3]
      exact ⟨(hr i hi).1, (hr i hi).2.1, fun h9 => absurd h9 (by decide)⟩
end SG
