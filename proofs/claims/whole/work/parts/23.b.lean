/-! updates of both sides -/
section SU
variable {k : CK} {q : MK} {M N : Mem} {i : Nat} {v w : Int32}
theorem lkD_C {g j t : Nat} (hd : lkD k g j t) : ¬ (g = 0 ∧ 1 ≤ j) ∧ ¬ (1 ≤ g ∧ j = 0 ∧ t < 4) := by unfold lkD at hd; omega
theorem SimX.up (h : SimX k q M N) {g j t r i : Nat} (hd : lkD k g j t) (er : lkR g j t = r) (ei : lkI g j t = i) (hv : v = w) (hn : NV q (mu N 0 r i w)) : SimX k q (mu M g j t v) (mu N 0 r i w) := by
  have h1 := lkR_in hd
  have h2 := lkD_C hd
  rw [er] at h1
  obtain ⟨a, b, c, d, e⟩ := h
  refine ⟨a.fr ?_ ?_ (fun i => ?_), b.up hd er ei hv, c.fr ?_ ?_ ?_, hn, e.fr ?_ ?_ ?_⟩
  · rw [mu_at, if_neg (by omega)]
  · rw [mu_at, if_neg (by omega)]
  · rw [mu_at, if_neg (by omega)]
  · exact mu_off M t v (by omega)
  · exact mu_off N i w (by omega)
  · exact mu_off N i w (by omega)
  · rw [mu_at, if_neg (by omega)]
  · exact mu_off M t v (by omega)
  · exact mu_off N i w (by omega)
theorem NV.o (h : NV q N) {r t : Nat} (hr : ¬ (r = 1 ∨ r = 2 ∨ r = 3 ∨ r = 4 ∨ r = 5 ∨ r = 10 ∨ r = 13)) : NV q (mu N 0 r t v) := h.fr (mu_off N t v (by omega)) (mu_off N t v (by omega)) (mu_off N t v (by omega)) (mu_off N t v (by omega)) (mu_off N t v (by omega)) (mu_off N t v (by omega)) (mu_off N t v (by omega))
theorem SimX.ureg (h : SimX k q M N) (hi : i < k.2.1 0) {t : Nat} (ht : t < 8) : SimX k q (mu M (i + 1) 2 t v) (mu N 0 8 (8 * i + t) v) := h.up (Or.inr ⟨by omega, by omega, Or.inr (Or.inr (Or.inr (Or.inl ⟨rfl, ht⟩)))⟩) (lk_2 (by omega)).1 (lk_2 (by omega)).2 rfl (h.2.2.2.1.o (by omega))
theorem SimX.ubox (h : SimX k q M N) (hi : i < k.2.1 0) {t : Nat} (ht : t < 16) : SimX k q (mu M (i + 1) 4 t v) (mu N 0 11 (16 * i + t) v) := h.up (Or.inr ⟨by omega, by omega, Or.inr (Or.inr (Or.inr (Or.inr ⟨rfl, ht⟩)))⟩) (lk_4 (by omega)).1 (lk_4 (by omega)).2 rfl (h.2.2.2.1.o (by omega))
theorem SimX.uprg (h : SimX k q M N) (hi : i < k.2.1 0) {t : Nat} (ht : t < 100) : SimX k q (mu M (i + 1) 1 t v) (mu N 0 6 (100 * i + t) v) := h.up (Or.inr ⟨by omega, by omega, Or.inr (Or.inr (Or.inl ⟨rfl, ht⟩))⟩) (lk_1 (by omega)).1 (lk_1 (by omega)).2 rfl (h.2.2.2.1.o (by omega))
theorem SimX.ucnt (h : SimX k q M N) (hi : i < k.2.1 0) : SimX k q (mu M (i + 1) 3 1 v) (mu N 0 12 i v) := h.up (Or.inr ⟨by omega, by omega, Or.inr (Or.inl ⟨rfl, rfl⟩)⟩) (lk_3 (by omega)).1 (lk_3 (by omega)).2 rfl (h.2.2.2.1.o (by omega))
theorem SimX.uf (h : SimX k q M N) (hi : i < k.2.1 0) (t : Nat) (ht : 4 ≤ t ∧ t ≤ 11) (hn : NV q (mu N 0 (tau t) i v)) : SimX k q (mu M (i + 1) 0 t v) (mu N 0 (tau t) i v) := h.up (lkd0 hi ht) (lk_0 (by omega)).1 (lk_0 (by omega)).2 rfl hn
theorem SimX.uplc (h : SimX k q M N) (hi : i < k.2.1 0) : SimX k q (mu M (i + 1) 0 7 v) (mu N 0 9 i v) := h.uf hi 7 (by omega) (h.2.2.2.1.o (by decide))
theorem SimX.ulen (h : SimX k q M N) (hi : i < k.2.1 0) : SimX k q (mu M (i + 1) 0 8 v) (mu N 0 7 i v) := h.uf hi 8 (by omega) (h.2.2.2.1.o (by decide))
theorem SimX.udid (h : SimX k q M N) (hi : i < k.2.1 0) : SimX k q (mu M (i + 1) 0 9 v) (mu N 0 14 i v) := h.uf hi 9 (by omega) (h.2.2.2.1.o (by decide))
theorem SimX.uclk (h : SimX k q M N) : SimX k q (mu M 0 0 2 v) (mu N 0 0 20 v) := h.up (Or.inl ⟨rfl, rfl, Or.inl rfl⟩) rfl rfl rfl (h.2.2.2.1.o (by omega))
theorem SimX.ulst (h : SimX k q M N) : SimX k q (mu M 0 0 3 v) (mu N 0 0 19 v) := h.up (Or.inl ⟨rfl, rfl, Or.inr rfl⟩) rfl rfl rfl (h.2.2.2.1.o (by omega))
theorem NV.st (h : NV q N) {s : Nat} (hs : s ≤ 6) (h1 : s ≠ 0 → N 0 3 i ≠ 0) (h2 : s = 0 ∨ s = 3 ∨ N 0 13 i = 0) : NV q (mu N 0 3 i (nI s)) := by
  have e : ∀ a : Nat, a ≠ 3 → mu N 0 3 i (nI s) 0 a = N 0 a := fun a ha => mu_off N i _ (by omega)
  obtain ⟨n1, n2, n3, n4, n5⟩ := h
  refine ⟨fun j hj => ?_, fun j hj => ?_, fun j hj => ?_, fun j hj => ?_, fun t ht => ?_⟩
  · rw [mu_at]
    by_cases hq : j = i
    · rw [if_pos ⟨rfl, rfl, hq⟩]; exact ⟨s, hs, rfl⟩
    · rw [if_neg (by omega)]; exact n1 j hj
  · rw [e 1 (by decide), e 4 (by decide), e 5 (by decide), mu_at]
    by_cases hq : j = i
    · subst hq
      rw [if_pos ⟨rfl, rfl, rfl⟩]
      intro h3
      refine n2 j hj (h1 ?_)
      rintro rfl
      exact h3 nI_0
    · rw [if_neg (by omega)]; exact n2 j hj
  · rw [e 10 (by decide)]; exact n3 j hj
  · rw [e 13 (by decide), mu_at]
    by_cases hq : j = i
    · subst hq
      rw [if_pos ⟨rfl, rfl, rfl⟩]
      refine ⟨(n4 j hj).1, ?_⟩
      rcases h2 with rfl | rfl | h2
      · exact Or.inl nI_0
      · exact Or.inr (Or.inl rfl)
      · exact Or.inr (Or.inr h2)
    · rw [if_neg (by omega)]; exact n4 j hj
  · rw [e 1 (by decide), e 2 (by decide)]; exact n5 t ht
theorem NV.slp (h : NV q N) (h0 : ¬ v < 0) (h1 : N 0 3 i = 0 ∨ N 0 3 i = 3 ∨ v = 0) : NV q (mu N 0 13 i v) := by
  have e : ∀ a : Nat, a ≠ 13 → mu N 0 13 i v 0 a = N 0 a := fun a ha => mu_off N i _ (by omega)
  obtain ⟨n1, n2, n3, n4, n5⟩ := h
  unfold NV
  rw [e 1 (by decide), e 2 (by decide), e 3 (by decide), e 4 (by decide), e 5 (by decide), e 10 (by decide)]
  refine ⟨n1, n2, n3, fun j hj => ?_, n5⟩
  rw [mu_at]
  by_cases hq : j = i
  · subst hq
    rw [if_pos ⟨rfl, rfl, rfl⟩]
    exact ⟨h0, h1⟩
  · rw [if_neg (by omega)]; exact n4 j hj
theorem NV.car (h : NV q N) {c : Nat} (hc : c ≤ 9) : NV q (mu N 0 10 i (nI c)) := by
  have e : ∀ a : Nat, a ≠ 10 → mu N 0 10 i (nI c) 0 a = N 0 a := fun a ha => mu_off N i _ (by omega)
  obtain ⟨n1, n2, n3, n4, n5⟩ := h
  unfold NV
  rw [e 1 (by decide), e 2 (by decide), e 3 (by decide), e 4 (by decide), e 5 (by decide), e 13 (by decide)]
  refine ⟨n1, n2, fun j hj => ?_, n4, n5⟩
  rw [mu_at]
  by_cases hq : j = i
  · rw [if_pos ⟨rfl, rfl, hq⟩]; exact ⟨c, hc, rfl⟩
  · rw [if_neg (by omega)]; exact n3 j hj
theorem NV.xy (h : NV q N) {x y : Int32} (h1 : N 0 1 (32 * y + x).toNatClampNeg = 0) : NV q (mu (mu N 0 4 i x) 0 5 i y) := by
  have e : ∀ a : Nat, a ≠ 4 → a ≠ 5 → mu (mu N 0 4 i x) 0 5 i y 0 a = N 0 a := fun a ha hb => (mu_off _ i _ (by omega)).trans (mu_off N i _ (by omega))
  obtain ⟨n1, n2, n3, n4, n5⟩ := h
  unfold NV
  rw [e 1 (by decide) (by decide), e 2 (by decide) (by decide), e 3 (by decide) (by decide), e 10 (by decide) (by decide), e 13 (by decide) (by decide)]
  refine ⟨n1, fun j hj h3 => ?_, n3, n4, n5⟩
  by_cases hq : j = i
  · subst hq
    have e4 : mu (mu N 0 4 j x) 0 5 j y 0 4 j = x := by simp [mu_at]
    have e5 : mu (mu N 0 4 j x) 0 5 j y 0 5 j = y := by simp [mu_at]
    rw [e4, e5]
    exact h1
  · have e4 : mu (mu N 0 4 i x) 0 5 i y 0 4 j = N 0 4 j := by simp [mu_at, hq]
    have e5 : mu (mu N 0 4 i x) 0 5 i y 0 5 j = N 0 5 j := by simp [mu_at, hq]
    rw [e4, e5]
    exact n2 j hj h3
theorem NV.itm (h : NV q N) {t a : Nat} (ha : a ≤ 99) (h1 : N 0 1 t = 0) : NV q (mu N 0 2 t (nI a)) := by
  have e : ∀ b : Nat, b ≠ 2 → mu N 0 2 t (nI a) 0 b = N 0 b := fun b hb => mu_off N t _ (by omega)
  obtain ⟨n1, n2, n3, n4, n5⟩ := h
  unfold NV
  rw [e 1 (by decide), e 3 (by decide), e 4 (by decide), e 5 (by decide), e 10 (by decide), e 13 (by decide)]
  refine ⟨n1, n2, n3, n4, fun s hs => ?_⟩
  rw [mu_at]
  by_cases hq : s = t
  · subst hq
    rw [if_pos ⟨rfl, rfl, rfl⟩]
    exact Or.inl ⟨h1, a, ha, rfl⟩
  · rw [if_neg (by omega)]; exact n5 s hs
theorem SimX.ust (h : SimX k q M N) (hi : i < k.2.1 0) {s : Nat} (hs : s ≤ 6) (h1 : s ≠ 0 → N 0 3 i ≠ 0) (h2 : s = 0 ∨ s = 3 ∨ N 0 13 i = 0) : SimX k q (mu M (i + 1) 0 4 (nI s)) (mu N 0 3 i (nI s)) := h.uf hi 4 (by omega) (h.2.2.2.1.st hs h1 h2)
theorem SimX.uslp (h : SimX k q M N) (hi : i < k.2.1 0) (h0 : ¬ v < 0) (h1 : N 0 3 i = 0 ∨ N 0 3 i = 3 ∨ v = 0) : SimX k q (mu M (i + 1) 0 11 v) (mu N 0 13 i v) := h.uf hi 11 (by omega) (h.2.2.2.1.slp h0 h1)
theorem SimX.ucar (h : SimX k q M N) (hi : i < k.2.1 0) {c : Nat} (hc : c ≤ 9) : SimX k q (mu M (i + 1) 0 10 (nI c)) (mu N 0 10 i (nI c)) := h.uf hi 10 (by omega) (h.2.2.2.1.car hc)
/-- what isn't linked: the class's land, the reference's distances -/
theorem SimX.frC {M' : Mem} (h : SimX k q M N) (hf : ∀ a b c, ¬ (a = 0 ∧ ((b = 1 ∧ c = 5) ∨ b = 3 ∨ b = 4)) → M' a b c = M a b c) (hc : CA q M' N) : SimX k q M' N := by
  obtain ⟨a, b, c, d, e⟩ := h
  refine ⟨a.fr ?_ ?_ (fun i => ?_), fun g j t hd => ?_, c.fr ?_ rfl rfl, d, hc⟩
  · exact hf _ _ _ (by omega)
  · exact hf _ _ _ (by omega)
  · exact hf _ _ _ (by omega)
  · rw [hf g j t (by have := lkD_C hd; omega)]; exact b g j t hd
  · funext t; exact hf _ _ _ (by omega)
theorem SimX.fr15 {N' : Mem} (h : SimX k q M N) (hf : ∀ b, b ≠ 15 → N' 0 b = N 0 b) : SimX k q M N' := by
  obtain ⟨a, b, c, d, e⟩ := h
  refine ⟨a, fun g j t hd => ?_, c.fr rfl (hf _ (by decide)) (hf _ (by decide)), d.fr (hf _ (by decide)) (hf _ (by decide)) (hf _ (by decide)) (hf _ (by decide)) (hf _ (by decide)) (hf _ (by decide)) (hf _ (by decide)), e.fr rfl rfl (hf _ (by decide))⟩
  rw [hf _ (lkR_in hd).2.2]
  exact b g j t hd
end SU
