/-! a robot appears; all begins anew -/
section SF
variable {k : CK} {q : MK} {M N : Mem}
theorem spL {i : Nat} (hi : i < 8) : ∀ (n t : Nat) (X : Mem), t ≤ 8 → 8 < t + n → ∀ a b c, f_X4_spawn_L122 q (nI i) n (nI t) X a b c = if a = 0 ∧ b = 8 ∧ 8 * i + t ≤ c ∧ c < 8 * i + 8 then 0 else X a b c := by
  intro n
  induction n with
  | zero => intro t X h1 h2; omega
  | succ n ih =>
    intro t X h1 h2 a b c
    rw [f_X4_spawn_L122]
    by_cases c1 : 8 ≤ t
    · rw [if_pos (show (8 : Int32) ≤ nI t from nI_le (a := 8) c1 (by omega)), if_neg (by omega)]
    · rw [if_neg (show ¬ (8 : Int32) ≤ nI t from nI_ge (b := 8) (by omega) (by omega)), nI_1, ih (t + 1) _ (by omega) (by omega)]
      rw [show (8 : Int32) = nI 8 from rfl, pk_mul, nI_add, nI_clamp (by omega), mu_at]
      by_cases c2 : a = 0 ∧ b = 8 ∧ 8 * i + (t + 1) ≤ c ∧ c < 8 * i + 8
      · rw [if_pos c2, if_pos (by omega)]
      · rw [if_neg c2]
        by_cases c3 : a = 0 ∧ b = 8 ∧ c = 8 * i + t
        · rw [if_pos c3, if_pos (by omega)]
        · rw [if_neg c3, if_neg (by omega)]
/-- the reference's robot i, new at x, y -/
def spN (q : MK) (N : Mem) (i : Nat) (x y : Int32) : Mem := f_X4_spawn_L122 q (nI i) (q.2.1 5) 0 (mu (mu (mu (mu (mu (mu (mu (mu (mu N 0 3 i 1) 0 4 i x) 0 5 i y) 0 7 i 0) 0 9 i 0) 0 10 i 0) 0 12 i 0) 0 13 i 0) 0 14 i 0)
theorem spN_at {i : Nat} {x y : Int32} (hi : i < 8) (h5 : q.2.1 5 = 1026) (a b c : Nat) : spN q N i x y a b c = if a = 0 ∧ b = 8 ∧ 8 * i ≤ c ∧ c < 8 * i + 8 then 0 else mu (mu (mu (mu (mu (mu (mu (mu (mu N 0 3 i 1) 0 4 i x) 0 5 i y) 0 7 i 0) 0 9 i 0) 0 10 i 0) 0 12 i 0) 0 13 i 0) 0 14 i 0 a b c := by
  unfold spN
  rw [h5, ← nI_0, spL hi 1026 0 _ (by omega) (by omega)]
  rfl
theorem spN_r {i : Nat} {x y : Int32} (hi : i < 8) (h5 : q.2.1 5 = 1026) (b : Nat) (hb : b ≠ 8 ∧ b ≠ 3 ∧ b ≠ 4 ∧ b ≠ 5 ∧ b ≠ 7 ∧ b ≠ 9 ∧ b ≠ 10 ∧ b ≠ 12 ∧ b ≠ 13 ∧ b ≠ 14) : spN q N i x y 0 b = N 0 b := by
  funext c
  rw [spN_at hi h5]
  simp [mu_at, hb]
theorem spN_o {i : Nat} {x y : Int32} (hi : i < 8) (h5 : q.2.1 5 = 1026) {b c : Nat} (hb : b ≠ 8) (hc : c ≠ i) : spN q N i x y 0 b c = N 0 b c := by
  rw [spN_at hi h5]
  simp [mu_at, hb, hc]
theorem spN_8 {i : Nat} {x y : Int32} (hi : i < 8) (h5 : q.2.1 5 = 1026) {c : Nat} : spN q N i x y 0 8 c = if 8 * i ≤ c ∧ c < 8 * i + 8 then 0 else N 0 8 c := by
  rw [spN_at hi h5]
  simp [mu_at]
theorem sp_SimL {i : Nat} {x y : Int32} (hL : SimL k M N) (hi : i < k.2.1 0) (h8 : i < 8) (h5 : q.2.1 5 = 1026) : SimL k (f_X2_appear k M i x y) (spN q N i x y) := by
  intro g j t hd
  have hd' := hL g j t hd
  unfold f_X2_appear
  rcases hd with ⟨rfl, rfl, ht⟩ | ⟨g1, g2, hd⟩
  · rw [(lk_z rfl).1, (lk_z rfl).2] at hd' ⊢
    rw [spN_r h8 h5 0 (by omega), ← hd']
    simp [mu_at, mr_at]
  · obtain ⟨p, rfl⟩ : ∃ p, g = p + 1 := ⟨g - 1, by omega⟩
    by_cases hp : p = i
    · subst hp
      rcases hd with ⟨rfl, ht⟩ | ⟨rfl, rfl⟩ | ⟨rfl, ht⟩ | ⟨rfl, ht⟩ | ⟨rfl, ht⟩
      · rw [(lk_0 (by omega)).1, (lk_0 (by omega)).2, Nat.add_sub_cancel]
        rcases (show t = 4 ∨ t = 5 ∨ t = 6 ∨ t = 7 ∨ t = 8 ∨ t = 9 ∨ t = 10 ∨ t = 11 by omega) with rfl | rfl | rfl | rfl | rfl | rfl | rfl | rfl <;> simp only [tau4, tau5, tau6, tau7, tau8, tau9, tau10, tau11] <;> rw [spN_at h8 h5] <;> simp [mu_at, mr_at]
      · rw [(lk_3 (by omega)).1, (lk_3 (by omega)).2, Nat.add_sub_cancel, spN_at h8 h5]
        simp [mu_at, mr_at]
      · rw [(lk_1 (by omega)).1, (lk_1 (by omega)).2, Nat.add_sub_cancel] at hd' ⊢
        rw [spN_r h8 h5 6 (by omega), ← hd']
        simp [mu_at, mr_at]
      · rw [(lk_2 (by omega)).1, (lk_2 (by omega)).2, Nat.add_sub_cancel] at hd' ⊢
        rw [spN_8 h8 h5, if_pos (by omega)]
        simp [mu_at, mr_at, fillF, ht]
      · rw [(lk_4 (by omega)).1, (lk_4 (by omega)).2, Nat.add_sub_cancel] at hd' ⊢
        rw [spN_r h8 h5 11 (by omega), ← hd']
        simp [mu_at, mr_at]
    · have e : (mu (mr (mu (mu (mu (mu (mu (mu (mu (mu M (i + 1) 0 5 x) (i + 1) 0 6 y) (i + 1) 0 4 1) (i + 1) 0 7 0) (i + 1) 0 8 0) (i + 1) 0 9 0) (i + 1) 0 10 0) (i + 1) 0 11 0) (i + 1) 2 (fillF ((mu (mu (mu (mu (mu (mu (mu (mu M (i + 1) 0 5 x) (i + 1) 0 6 y) (i + 1) 0 4 1) (i + 1) 0 7 0) (i + 1) 0 8 0) (i + 1) 0 9 0) (i + 1) 0 10 0) (i + 1) 0 11 0) (i + 1) 2) 8 0)) (i + 1) 3 1 0) (p + 1) j t = M (p + 1) j t := by
        simp [mu_at, mr_at, hp]
      rw [e, hd']
      rcases hd with ⟨rfl, ht⟩ | ⟨rfl, rfl⟩ | ⟨rfl, ht⟩ | ⟨rfl, ht⟩ | ⟨rfl, ht⟩
      · rw [(lk_0 (by omega)).1, (lk_0 (by omega)).2, Nat.add_sub_cancel, spN_o h8 h5 (by have := @tau_in t; omega) hp]
      · rw [(lk_3 (by omega)).1, (lk_3 (by omega)).2, Nat.add_sub_cancel, spN_o h8 h5 (by omega) hp]
      · rw [(lk_1 (by omega)).1, (lk_1 (by omega)).2, Nat.add_sub_cancel, spN_r h8 h5 6 (by omega)]
      · rw [(lk_2 (by omega)).1, (lk_2 (by omega)).2, Nat.add_sub_cancel, spN_8 h8 h5, if_neg (by omega)]
      · rw [(lk_4 (by omega)).1, (lk_4 (by omega)).2, Nat.add_sub_cancel, spN_r h8 h5 11 (by omega)]
theorem sp_Sim {i a b : Nat} (hX : SimX k q M N) (hI : mI q N) (hi : i < q.2.1 0) (ha : a < q.2.1 1) (hb : b < q.2.1 2) (hw : N 0 1 (32 * b + a) = 0) : SimR k q (f_X2_appear k M i (nI a) (nI b)) (spN q N i (nI a) (nI b)) := by
  have h8 := hI.2.1
  have hi8 : i < 8 := by omega
  have h5 := mI_F hI
  have hi' : i < k.2.1 0 := hX.n ▸ hi
  obtain ⟨d, l, s, v, e⟩ := hX
  have eC : ∀ g j t, ¬ (g = i + 1 ∧ (j = 0 ∧ 4 ≤ t ∨ j = 2 ∨ j = 3)) → f_X2_appear k M i (nI a) (nI b) g j t = M g j t := by
    intro g j t h9
    unfold f_X2_appear
    simp only [mu_at, mr_at]
    rw [if_neg (by omega), if_neg (by omega), if_neg (by omega), if_neg (by omega), if_neg (by omega), if_neg (by omega), if_neg (by omega), if_neg (by omega), if_neg (by omega), if_neg (by omega)]
  refine SimX.R ⟨d.fr (eC _ _ _ (by omega)) (eC _ _ _ (by omega)) (fun p => eC _ _ _ (by omega)), sp_SimL l hi' hi8 h5, s.fr (funext fun t => eC _ _ _ (by omega)) (spN_r hi8 h5 1 (by omega)) (spN_r hi8 h5 2 (by omega)), ?_, e.fr (eC _ _ _ (by omega)) (funext fun t => eC _ _ _ (by omega)) (spN_r hi8 h5 1 (by omega))⟩ ?_
  · obtain ⟨n1, n2, n3, n4, n5⟩ := v
    refine ⟨fun j hj => ?_, fun j hj => ?_, fun j hj => ?_, fun j hj => ?_, fun t ht => ?_⟩
    · by_cases hp : j = i
      · subst hp
        exact ⟨1, by omega, by rw [spN_at hi8 h5]; simp [mu_at]; rfl⟩
      · rw [spN_o hi8 h5 (by omega) hp]; exact n1 j hj
    · by_cases hp : j = i
      · subst hp
        intro _
        rw [spN_r hi8 h5 1 (by omega)]
        have e4 : spN q N j (nI a) (nI b) 0 4 j = nI a := by rw [spN_at hi8 h5]; simp [mu_at]
        have e5 : spN q N j (nI a) (nI b) 0 5 j = nI b := by rw [spN_at hi8 h5]; simp [mu_at]
        rw [e4, e5, sqMc (by omega) (by omega)]
        exact hw
      · rw [spN_o hi8 h5 (by omega) hp, spN_o hi8 h5 (by omega) hp, spN_o hi8 h5 (by omega) hp, spN_r hi8 h5 1 (by omega)]
        exact n2 j hj
    · by_cases hp : j = i
      · subst hp
        exact ⟨0, by omega, by rw [spN_at hi8 h5]; simp [mu_at]; rfl⟩
      · rw [spN_o hi8 h5 (by omega) hp]; exact n3 j hj
    · by_cases hp : j = i
      · subst hp
        have e13 : spN q N j (nI a) (nI b) 0 13 j = 0 := by rw [spN_at hi8 h5]; simp [mu_at]
        rw [e13]
        exact ⟨by decide, Or.inr (Or.inr rfl)⟩
      · rw [spN_o hi8 h5 (by omega) hp, spN_o hi8 h5 (by omega) hp]; exact n4 j hj
    · rw [spN_r hi8 h5 1 (by omega), spN_r hi8 h5 2 (by omega)]; exact n5 t ht
  · obtain ⟨⟨a0, a1, a2, a3, a4⟩, hb', ⟨y, hy, ey⟩, hr⟩ := hI
    have e0 := spN_r (N := N) (x := nI a) (y := nI b) hi8 h5 0 (by omega)
    refine ⟨⟨by rw [e0]; exact a0, by rw [e0]; exact a1, by rw [e0]; exact a2, by rw [e0]; exact a3, by rw [e0]; exact a4⟩, hb', ⟨y, hy, by rw [e0]; exact ey⟩, fun j hj => ?_⟩
    by_cases hp : j = i
    · subst hp
      have e4 : spN q N j (nI a) (nI b) 0 4 j = nI a := by rw [spN_at hi8 h5]; simp [mu_at]
      have e5 : spN q N j (nI a) (nI b) 0 5 j = nI b := by rw [spN_at hi8 h5]; simp [mu_at]
      refine ⟨⟨0, by omega, by rw [spN_at hi8 h5]; simp [mu_at]; rfl⟩, ⟨0, by omega, by rw [spN_at hi8 h5]; simp [mu_at]; rfl⟩, fun _ => ?_⟩
      rw [e4, e5]
      exact ⟨vp_in_nI ha (by omega), vp_in_nI hb (by omega)⟩
    · rw [spN_o hi8 h5 (by omega) hp, spN_o hi8 h5 (by omega) hp, spN_o hi8 h5 (by omega) hp, spN_o hi8 h5 (by omega) hp, spN_o hi8 h5 (by omega) hp]
      exact hr j hj
theorem spF {a b : Nat} (h : SimR k q M N) (ha : a < q.2.1 1) (hb : b < q.2.1 2) (hw : N 0 1 (32 * b + a) = 0) : ∀ (n t : Nat), t ≤ q.2.1 0 → q.2.1 0 < t + n → (f_X3_spawn_L29 k (nI a) (nI b) n (nI t) M).1 = (f_X4_spawn_L39 q (nI a) (nI b) n (nI t) N).1 ∧ SimR k q (f_X3_spawn_L29 k (nI a) (nI b) n (nI t) M).2 (f_X4_spawn_L39 q (nI a) (nI b) n (nI t) N).2 := by
  obtain ⟨-, hI, hX⟩ := id h
  have h8 := hI.2.1
  intro n
  induction n with
  | zero => intro t h1 h2; omega
  | succ n ih =>
    intro t h1 h2
    rw [f_X3_spawn_L29, f_X4_spawn_L39, hI.1.2.2.1, hX.n]
    by_cases c : q.2.1 0 ≤ t
    · rw [if_pos (nI_le c (by omega)), if_pos (nI_le c (by omega))]
      exact ⟨rfl, h⟩
    · have ht : t < q.2.1 0 := by omega
      rw [if_neg (nI_ge ht (by omega)), if_neg (nI_ge ht (by omega)), nI_clamp (by omega), nI_1]
      rw [hX.2.1.f (hX.n ▸ ht) 4 (by omega), tau4]
      by_cases c1 : N 0 3 t = 0
      · rw [if_pos c1, if_pos c1]
        exact ⟨rfl, sp_Sim hX hI ht ha hb hw⟩
      · rw [if_neg c1, if_neg c1]
        exact ih (t + 1) (by omega) (by omega)
theorem sim_spawn (h : SimR k q M N) (x y : Int32) : (f_X3_spawn k M x y).1 = (f_X4_spawn q N x y).1 ∧ SimR k q (f_X3_spawn k M x y).2 (f_X4_spawn q N x y).2 := by
  obtain ⟨-, hI, hX⟩ := id h
  have h8 := hI.2.1
  unfold f_X3_spawn f_X4_spawn
  have ho := opnn hX.1 hI hX.2.2.1 hX.2.2.2.1 x y
  unfold f_X4_isFree at ho
  rcases ho with ⟨h1, h2⟩ | ⟨a, b, ha, hb, rfl, rfl, hw, h1, h2⟩
  · rw [h1]
    by_cases c1 : f_X4_isInside q N x y = 0
    · rw [if_pos c1, if_pos rfl]; exact ⟨rfl, h⟩
    · rw [if_neg c1] at h2 ⊢
      by_cases c2 : N 0 1 (f_X4_square q N x y).toNatClampNeg = 0
      · rw [if_pos c2] at h2; exact absurd h2 (by decide)
      · rw [if_neg c2, if_pos rfl]; exact ⟨rfl, h⟩
  · rw [h1]
    by_cases c1 : f_X4_isInside q N (nI a) (nI b) = 0
    · rw [if_pos c1] at h2; exact absurd h2 (by decide)
    · rw [if_neg c1, if_neg (by decide), (sqAt hX.1 hI ha hb).2.1, if_pos hw]
      rcases ron hX hI (nI a) (nI b) with ⟨h3, h4, h5⟩ | ⟨i, hi, h3, h4, h5, h6, h7⟩
      · rw [h3, h4, if_pos (by decide), ← nI_0]
        have := spF h ha hb hw (q.2.1 0 + 1) 0 (by omega) (by omega)
        rw [← hX.n] at this ⊢
        exact this
      · rw [h3, h4, if_neg (nI_pos (by omega))]
        exact ⟨rfl, h⟩
end SF
