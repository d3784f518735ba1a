/-! squares change; robots come and go -/
section SE
variable {k : CK} {q : MK} {M N : Mem}
theorem sq_inj {w x a y b : Nat} (hx : x < w) (ha : a < w) (e : y * w + x = b * w + a) : x = a ∧ y = b := by
  have h1 : (y * w + x) % w = x := by rw [Nat.add_comm, Nat.add_mul_mod_self_right, Nat.mod_eq_of_lt hx]
  have h2 : (b * w + a) % w = a := by rw [Nat.add_comm, Nat.add_mul_mod_self_right, Nat.mod_eq_of_lt ha]
  have h3 : x = a := by rw [← h1, ← h2, e]
  refine ⟨h3, ?_⟩
  subst h3
  have h4 : y * w = b * w := by omega
  exact Nat.eq_of_mul_eq_mul_right (by omega) h4
theorem SimX.item (h : SimX k q M N) (hI : mI q N) {a b c : Nat} (ha : a < q.2.1 1) (hb : b < q.2.1 2) (hw : N 0 1 (32 * b + a) = 0) (hc : c ≤ 99) : SimX k q (mu M 0 2 (b * q.2.1 1 + a) (nI c)) (mu N 0 2 (32 * b + a) (nI c)) := by
  have h8 := hI.2.1
  obtain ⟨d, l, s, v, e⟩ := h
  refine ⟨d.fr ?_ ?_ (fun i => ?_), (l.offC (by omega)).offM (by omega), fun x y hx hy => ?_, v.itm hc hw, e.fr ?_ ?_ ?_⟩
  · rw [mu_at, if_neg (by omega)]
  · rw [mu_at, if_neg (by omega)]
  · rw [mu_at, if_neg (by omega)]
  · rw [mu_at, mu_at, mu_at, if_neg (show ¬ (0 = 0 ∧ 1 = 2 ∧ _) by omega)]
    by_cases hq : x = a ∧ y = b
    · obtain ⟨rfl, rfl⟩ := hq
      rw [if_pos ⟨rfl, rfl, rfl⟩, if_pos hw, if_pos ⟨rfl, rfl, rfl⟩]
    · rw [if_neg (fun z => hq (sq_inj hx ha z.2.2)), if_neg (show ¬ (0 = 0 ∧ 2 = 2 ∧ 32 * y + x = 32 * b + a) by omega)]
      exact s x y hx hy
  · rw [mu_at, if_neg (by omega)]
  · exact mu_off M _ _ (by omega)
  · exact mu_off N _ _ (by omega)
theorem SimX.wll (h : SimX k q M N) (hI : mI q N) {a b : Nat} {v z u : Int32} (ha : a < q.2.1 1) (hb : b < q.2.1 2) (hno : ∀ i, i < q.2.1 0 → N 0 3 i ≠ 0 → ¬ (N 0 4 i = nI a ∧ N 0 5 i = nI b)) (hv : (z = 0 ∧ v = u ∧ ∃ c : Nat, c ≤ 99 ∧ u = nI c) ∨ (z = 1 ∧ u = 0 ∧ v = -1)) : SimX k q (mu (mu M 0 2 (b * q.2.1 1 + a) v) 0 1 5 (-1)) (mu (mu N 0 1 (32 * b + a) z) 0 2 (32 * b + a) u) := by
  have h8 := hI.2.1
  obtain ⟨d, l, s, nv, e⟩ := h
  refine ⟨d.fr ?_ ?_ (fun i => ?_), (((l.offC (by omega)).offC (by omega)).offM (by omega)).offM (by omega), fun x y hx hy => ?_, ?_, Or.inl ?_⟩
  · rw [mu_at, if_neg (by omega), mu_at, if_neg (by omega)]
  · rw [mu_at, if_neg (by omega), mu_at, if_neg (by omega)]
  · rw [mu_at, if_neg (by omega), mu_at, if_neg (by omega)]
  · rw [mu_at, if_neg (by omega), mu_at]
    by_cases hq : x = a ∧ y = b
    · obtain ⟨rfl, rfl⟩ := hq
      have e1 : mu (mu N 0 1 (32 * y + x) z) 0 2 (32 * y + x) u 0 1 (32 * y + x) = z := by simp [mu_at]
      have e2 : mu (mu N 0 1 (32 * y + x) z) 0 2 (32 * y + x) u 0 2 (32 * y + x) = u := by simp [mu_at]
      rw [if_pos ⟨rfl, rfl, rfl⟩, e1, e2]
      rcases hv with ⟨rfl, rfl, -⟩ | ⟨rfl, rfl, rfl⟩
      · simp
      · simp
    · have e1 : mu (mu N 0 1 (32 * b + a) z) 0 2 (32 * b + a) u 0 1 (32 * y + x) = N 0 1 (32 * y + x) := by rw [mu_at, if_neg (by omega), mu_at, if_neg (by omega)]
      have e2 : mu (mu N 0 1 (32 * b + a) z) 0 2 (32 * b + a) u 0 2 (32 * y + x) = N 0 2 (32 * y + x) := by rw [mu_at, if_neg (by omega), mu_at, if_neg (by omega)]
      rw [if_neg (fun z => hq (sq_inj hx ha z.2.2)), e1, e2]
      exact s x y hx hy
  · obtain ⟨n1, n2, n3, n4, n5⟩ := nv
    have e : ∀ r : Nat, r ≠ 1 → r ≠ 2 → mu (mu N 0 1 (32 * b + a) z) 0 2 (32 * b + a) u 0 r = N 0 r := fun r h1 h2 => (mu_off _ _ _ (by omega)).trans (mu_off N _ _ (by omega))
    unfold NV
    rw [e 3 (by decide) (by decide), e 4 (by decide) (by decide), e 5 (by decide) (by decide), e 10 (by decide) (by decide), e 13 (by decide) (by decide)]
    refine ⟨n1, fun j hj h3 => ?_, n3, n4, fun t ht => ?_⟩
    · obtain ⟨p1, p2⟩ := (hI.2.2.2 j hj).2.2 (by
        obtain ⟨s, hs, es⟩ := n1 j hj
        rw [es] at h3 ⊢
        exact Int32.not_le.mp (fun z => h3 ((st_pos hs).mp z)))
      obtain ⟨x, hx, ex⟩ := vp_in_of p1 (by omega)
      obtain ⟨y, hy, ey⟩ := vp_in_of p2 (by omega)
      have h4 := n2 j hj h3
      rw [ex, ey, sqMc (by omega) (by omega)] at h4 ⊢
      rw [mu_at, if_neg (by omega), mu_at, if_neg]
      · exact h4
      · rintro ⟨-, -, e9⟩
        refine hno j hj h3 ⟨?_, ?_⟩
        · rw [ex, show x = a by omega]
        · rw [ey, show y = b by omega]
    · by_cases hq : t = 32 * b + a
      · subst hq
        have e1 : mu (mu N 0 1 (32 * b + a) z) 0 2 (32 * b + a) u 0 1 (32 * b + a) = z := by simp [mu_at]
        have e2 : mu (mu N 0 1 (32 * b + a) z) 0 2 (32 * b + a) u 0 2 (32 * b + a) = u := by simp [mu_at]
        rw [e1, e2]
        rcases hv with ⟨rfl, rfl, hc⟩ | ⟨rfl, rfl, rfl⟩
        · exact Or.inl ⟨rfl, hc⟩
        · exact Or.inr ⟨rfl, rfl⟩
      · have e1 : mu (mu N 0 1 (32 * b + a) z) 0 2 (32 * b + a) u 0 1 t = N 0 1 t := by rw [mu_at, if_neg (by omega), mu_at, if_neg (by omega)]
        have e2 : mu (mu N 0 1 (32 * b + a) z) 0 2 (32 * b + a) u 0 2 t = N 0 2 t := by rw [mu_at, if_neg (by omega), mu_at, if_neg (by omega)]
        rw [e1, e2]
        exact n5 t ht
  · rw [mu_at, if_pos ⟨rfl, rfl, rfl⟩]
theorem narB {z : Int32} (hz : z = 0 ∨ z = 1) : vp_nar .boolean z = z := by
  rcases hz with rfl | rfl <;> decide
theorem sim_setWall (h : SimR k q M N) (x y z : Int32) (hz : z = 0 ∨ z = 1) : (f_X3_setWall k M x y z).1 = (f_X4_setWall q N x y z).1 ∧ SimR k q (f_X3_setWall k M x y z).2 (f_X4_setWall q N x y z).2 := by
  have h0 := h
  obtain ⟨-, hI, hX⟩ := h
  have h8 := hI.2.1
  unfold f_X3_setWall f_X4_setWall f_X1_changeWall
  rcases inn hX.1 hI x y with ⟨h1, h2⟩ | ⟨a, b, ha, hb, rfl, rfl, h1, h2⟩
  · rw [h1, h2]; exact ⟨rfl, h0⟩
  · simp only [h1, h2, if_neg (show ¬ (1 : Int32) = 0 by decide)]
    rcases ron hX hI (nI a) (nI b) with ⟨h3, h4, h5⟩ | ⟨i, hi, h3, h4, h5, h6, h7⟩
    · obtain ⟨s1, s2, s3⟩ := sqAt hX.1 hI ha hb
      have s2' : ∀ X : Mem, (f_X4_square q X (nI a) (nI b)).toNatClampNeg = 32 * b + a := fun _ => s2
      simp only [h3, h4, s1, s2', narB hz, if_pos (show (-1 : Int32) < 0 by decide)]
      have hv := hX.2.2.1 a b ha hb
      have h5' := hX.2.2.2.1.2.2.2.2 _ s3
      rcases hz with rfl | rfl
      · simp only [if_pos]
        refine ⟨trivial, ?_⟩
        rw [show mu N 0 1 (32 * b + a) 0 0 2 (32 * b + a) = N 0 2 (32 * b + a) by rw [mu_at, if_neg (by omega)]]
        refine SimX.R ?_ (mI_itm (mI_wll hI))
        rcases h5' with ⟨w0, c, hc, ec⟩ | ⟨w1, ec⟩
        · have hv' : M 0 2 (b * q.2.1 1 + a) = nI c := by rw [hv, if_pos w0, ec]
          rw [if_neg (by rw [hv']; exact nI_m1 (by omega))]
          have := hX.wll hI ha hb (v := M 0 2 (b * q.2.1 1 + a)) (z := 0) (u := N 0 2 (32 * b + a)) h5 (Or.inl ⟨rfl, by rw [hv', ec], c, hc, ec⟩)
          rw [mu_same] at this
          exact this
        · rw [if_pos (by rw [hv, w1]; exact if_neg (by decide))]
          exact hX.wll hI ha hb h5 (Or.inl ⟨rfl, ec.symm, 0, by omega, ec.trans nI_0.symm⟩)
      · simp only [if_neg (show ¬ (1 : Int32) = 0 by decide)]
        exact ⟨trivial, SimX.R (hX.wll hI ha hb h5 (Or.inr ⟨rfl, rfl, rfl⟩)) (mI_itm (mI_wll hI))⟩
    · simp only [h3, h4, if_neg (show ¬ nI i < 0 from nI_pos (by omega))]
      exact ⟨trivial, h0⟩
theorem sim_putItem (h : SimR k q M N) (x y : Int32) : (f_X3_putItem k M x y).1 = (f_X4_putItem q N x y).1 ∧ SimR k q (f_X3_putItem k M x y).2 (f_X4_putItem q N x y).2 := by
  have h0 := h
  obtain ⟨-, hI, hX⟩ := h
  have h8 := hI.2.1
  unfold f_X3_putItem f_X4_putItem f_X1_addItem
  rw [isOpenC]
  rcases inn hX.1 hI x y with ⟨h1, h2⟩ | ⟨a, b, ha, hb, rfl, rfl, h1, h2⟩
  · simp only [h1, h2, if_pos]; exact ⟨trivial, h0⟩
  · obtain ⟨s1, s2, s3⟩ := sqAt hX.1 hI ha hb
    have hv := hX.2.2.1 a b ha hb
    simp only [h1, h2, if_neg (show ¬ (1 : Int32) = 0 by decide), s1, s2, hv]
    rcases hX.2.2.2.1.2.2.2.2 _ s3 with ⟨w0, c, hc, ec⟩ | ⟨w1, ec⟩
    · simp only [w0, ec, if_pos, if_neg (show ¬ nI c = -1 from nI_m1 (by omega)), if_neg (show ¬ (1 : Int32) = 0 by decide)]
      by_cases c9 : c = 99
      · subst c9
        rw [if_neg (by decide), if_pos (by decide)]
        exact ⟨rfl, h0⟩
      · rw [if_pos (show nI c < 99 from nI_lt (b := 99) (by omega) (by omega)), if_neg (show ¬ nI c = 99 from fun e => c9 ((nI_eq (b := 99) (by omega) (by omega)).mp e)), nI_1]
        exact ⟨rfl, SimX.R (hX.item hI ha hb w0 (by omega)) (mI_itm hI)⟩
    · simp only [w1, if_neg (show ¬ (1 : Int32) = 0 by decide), if_pos]
      exact ⟨trivial, h0⟩
/-- the items that a killed robot carried -/
theorem killL {i a b had : Nat} (hD : SD k q M) (hI : mI q N) (ha : a < q.2.1 1) (hb : b < q.2.1 2) (hh : had ≤ 9) : ∀ (n t c : Nat) (X : Mem), t ≤ had → had < t + n → c ≤ 99 → X 0 1 0 = M 0 1 0 → X 0 1 1 = M 0 1 1 → X (i + 1) 0 5 = nI a → X (i + 1) 0 6 = nI b → X 0 2 (b * q.2.1 1 + a) = nI c → f_X3_kill_L21 k i (nI had) n (nI t) X = mu X 0 2 (b * q.2.1 1 + a) (nI (if c + (had - t) ≤ 99 then c + (had - t) else 99)) := by
  have h8 := hI.2.1
  intro n
  induction n with
  | zero => intro t c X h1 h2; omega
  | succ n ih =>
    intro t c X h1 h2 hc e0 e1 e5 e6 ec
    rw [f_X3_kill_L21]
    by_cases c1 : had ≤ t
    · rw [if_pos (nI_le c1 (by omega)), if_pos (show c + (had - t) ≤ 99 by omega), show c + (had - t) = c by omega, ← ec, mu_same]
    · rw [if_neg (nI_ge (by omega) (by omega)), nI_1]
      have hin : f_X1_isInside k X (nI a) (nI b) = 1 := by
        unfold f_X1_isInside
        rw [e0, e1, hD.2.1, hD.2.2.1, if_neg (nI_pos (by omega)), if_neg (nI_ge ha (by omega)), if_neg (nI_pos (by omega)), if_neg (nI_ge hb (by omega))]
      have hsq : (nI b * X 0 1 0 + nI a).toNatClampNeg = b * q.2.1 1 + a := by rw [e0]; exact (sqAt hD hI ha hb).1
      rw [e5, e6]
      unfold f_X1_addItem
      rw [isOpenC, hin, hsq, ec, if_neg (show ¬ (1 : Int32) = 0 by decide), if_neg (nI_m1 (by omega)), if_neg (show ¬ (1 : Int32) = 0 by decide)]
      by_cases c2 : c < 99
      · rw [if_pos (show nI c < 99 from nI_lt (b := 99) (by omega) (by omega)), nI_1]
        show f_X3_kill_L21 k i (nI had) n (nI (t + 1)) (mu X 0 2 (b * q.2.1 1 + a) (nI (c + 1))) = _
        rw [ih (t + 1) (c + 1) (mu X 0 2 (b * q.2.1 1 + a) (nI (c + 1))) (by omega) (by omega) (by omega)
          (by rw [mu_at, if_neg (by omega)]; exact e0) (by rw [mu_at, if_neg (by omega)]; exact e1)
          (by rw [mu_at, if_neg (by omega)]; exact e5) (by rw [mu_at, if_neg (by omega)]; exact e6) (mu_eq _ _ _ _ _), mu_mu]
        congr 2
        rw [show c + 1 + (had - (t + 1)) = c + (had - t) by omega]
      · rw [if_neg (show ¬ nI c < 99 from nI_nlt (b := 99) (by omega) (by omega))]
        show f_X3_kill_L21 k i (nI had) n (nI (t + 1)) X = _
        rw [ih (t + 1) c X (by omega) (by omega) hc e0 e1 e5 e6 ec]
        congr 2
        split <;> split <;> omega
theorem mu_t {X : Mem} {g j t a b c : Nat} {v : Int32} (h : ¬ (a = g ∧ b = j ∧ c = t)) : mu X g j t v a b c = X a b c := by rw [mu_at, if_neg h]
theorem sim_kill (h : SimR k q M N) (x : Int32) : (f_X3_kill k M x).1 = (f_X4_kill q N x).1 ∧ SimR k q (f_X3_kill k M x).2 (f_X4_kill q N x).2 := by
  have h0 := h
  obtain ⟨-, hI, hX⟩ := h
  have h8 := hI.2.1
  unfold f_X3_kill f_X4_kill
  rcases rof hX hI x with ⟨h1, h2⟩ | ⟨i, hi, rfl, h1, h2, h3⟩
  · rw [h1, h2]; exact ⟨rfl, h0⟩
  · have hi' : i < k.2.1 0 := hX.n ▸ hi
    obtain ⟨p1, p2⟩ := (hI.2.2.2 i hi).2.2 ((hX.2.2.2.1.lt0 hi).mpr h3)
    obtain ⟨a, ha, ea⟩ := vp_in_of p1 (by omega)
    obtain ⟨b, hb, eb⟩ := vp_in_of p2 (by omega)
    obtain ⟨g, hg, eg⟩ := hX.2.2.2.1.2.2.1 i hi
    have hw := hX.2.2.2.1.2.1 i hi h3
    rw [ea, eb, sqMc (by omega) (by omega)] at hw
    obtain ⟨s1, s2, s3⟩ := sqAt hX.1 hI ha hb
    have hv := hX.2.2.1 a b ha hb
    obtain ⟨c, hc, ec⟩ : ∃ c : Nat, c ≤ 99 ∧ N 0 2 (32 * b + a) = nI c := by
      rcases hX.2.2.2.1.2.2.2.2 _ s3 with ⟨-, hh⟩ | ⟨w1, -⟩
      · exact hh
      · rw [hw] at w1; exact absurd w1 (by decide)
    rw [if_pos hw, ec] at hv
    simp only [h1, h2, if_neg (show ¬ (1 : Int32) = 0 by decide), nI_clamp (show i < 2 ^ 31 by omega), ea, eb, s2, ec, eg, hX.2.1.f hi' 10 (by omega), tau10]
    rw [nI_clamp (show g < 2 ^ 31 by omega), ← nI_0, killL hX.1 hI ha hb (by omega) (g + 1) 0 c M (by omega) (by omega) hc rfl rfl ((hX.2.1.f hi' 5 (by omega)).trans ea) ((hX.2.1.f hi' 6 (by omega)).trans eb) hv, nI_add, show c + (g - 0) = c + g by omega]
    have key : ∀ d : Nat, d ≤ 99 → nI g = mu (mu N 0 2 (32 * b + a) (nI d)) 0 3 i (nI 0) 0 10 i ∧ SimR k q (mu (mu M 0 2 (b * q.2.1 1 + a) (nI d)) (i + 1) 0 4 (nI 0)) (mu (mu N 0 2 (32 * b + a) (nI d)) 0 3 i (nI 0)) := fun d hd =>
      ⟨by rw [mu_t (by omega), mu_t (by omega), eg], SimX.R ((hX.item hI ha hb hw hd).ust hi' (by omega) (fun z => absurd rfl z) (Or.inl rfl)) (mI_st (mI_itm hI) (fun z => absurd z (by rw [nI_0]; decide)))⟩
    by_cases c9 : c + g ≤ 99
    · rw [if_pos c9, if_pos (show nI (c + g) ≤ 99 from nI_le (b := 99) c9 (by omega))]
      exact key _ c9
    · rw [if_neg c9, if_neg (show ¬ nI (c + g) ≤ 99 from nI_ge (a := 99) (by omega) (by omega))]
      exact key 99 (by omega)
end SE
