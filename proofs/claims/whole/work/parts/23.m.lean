/-! words that act -/
section T4
variable {k : CK} {q : MK} {M N X Y : Mem} {i : Nat}
section
variable {x5 x6 x7 x8 x9 x10 : Int32}
theorem dw13 : f_X3_doWord_L59 k i (nI 13) x5 x6 x7 x8 x9 x10 M = fin (mu (f_X3_go k M i (x8 &&& 3)).2 (i + 1) 2 x6.toNatClampNeg (f_X3_go k M i (x8 &&& 3)).1) i x10 := rfl
theorem dw14 : f_X3_doWord_L59 k i (nI 14) x5 x6 x7 x8 x9 x10 M = fin (mu M (i + 1) 2 x6.toNatClampNeg (f_X3_look k M i (x8 &&& 3))) i x10 := rfl
theorem dw15 : f_X3_doWord_L59 k i (nI 15) x5 x6 x7 x8 x9 x10 M = fin (mu (f_X3_take k M i).2 (i + 1) 2 x5.toNatClampNeg (f_X3_take k M i).1) i x10 := rfl
theorem dw16 : f_X3_doWord_L59 k i (nI 16) x5 x6 x7 x8 x9 x10 M = fin (mu (f_X3_lay k M i).2 (i + 1) 2 x5.toNatClampNeg (f_X3_lay k M i).1) i x10 := rfl
theorem dw17 : f_X3_doWord_L59 k i (nI 17) x5 x6 x7 x8 x9 x10 M = fin (mu (f_X3_send k M x8 x9).2 (i + 1) 2 x5.toNatClampNeg (f_X3_send k M x8 x9).1) i x10 := rfl
theorem dw18 : f_X3_doWord_L59 k i (nI 18) x5 x6 x7 x8 x9 x10 M = if (f_X3_receive k M i x5).1 = 0 then fin (f_X3_receive k M i x5).2 i ((f_X3_receive k M i x5).2 (i + 1) 0 7) else fin (f_X3_receive k M i x5).2 i x10 := rfl
theorem dw19 : f_X3_doWord_L59 k i (nI 19) x5 x6 x7 x8 x9 x10 M = fin (f_X2_fallAsleep k M i x8) i x10 := rfl
theorem dw20 : f_X3_doWord_L59 k i (nI 20) x5 x6 x7 x8 x9 x10 M = fin (mu (f_X1_firstStep k M (M (i + 1) 0 5) (M (i + 1) 0 6) x8 x9).2 (i + 1) 2 x5.toNatClampNeg (f_X1_firstStep k M (M (i + 1) 0 5) (M (i + 1) 0 6) x8 x9).1) i x10 := rfl
theorem dw21 : f_X3_doWord_L59 k i (nI 21) x5 x6 x7 x8 x9 x10 M = fin (mu (mu M (i + 1) 2 x5.toNatClampNeg (M (i + 1) 0 5)) (i + 1) 2 x6.toNatClampNeg ((mu M (i + 1) 2 x5.toNatClampNeg (M (i + 1) 0 5)) (i + 1) 0 6)) i x10 := rfl
theorem dw22 : f_X3_doWord_L59 k i (nI 22) x5 x6 x7 x8 x9 x10 M = fin (mu M (i + 1) 2 x5.toNatClampNeg (M (i + 1) 0 0)) i x10 := rfl
theorem dw23 : f_X3_doWord_L59 k i (nI 23) x5 x6 x7 x8 x9 x10 M = fin (mu M (i + 1) 2 x5.toNatClampNeg (M 0 0 2)) i x10 := rfl
theorem dw24 : f_X3_doWord_L59 k i (nI 24) x5 x6 x7 x8 x9 x10 M = fin (mu M (i + 1) 2 x5.toNatClampNeg (M (i + 1) 0 10)) i x10 := rfl
end
section
variable {p1 p3 p4 p5 : Int32}
theorem ac13 : f_X4_act q N p1 (nI 13) p3 p4 = mu (f_X4_go q N p1 (N 0 8 p3.toNatClampNeg &&& 3)).2 0 8 p4.toNatClampNeg (f_X4_go q N p1 (N 0 8 p3.toNatClampNeg &&& 3)).1 := rfl
theorem ac14 : f_X4_act q N p1 (nI 14) p3 p4 = mu N 0 8 p4.toNatClampNeg (f_X4_at q N (f_X4_besideX q N (N 0 4 p1.toNatClampNeg) (N 0 8 p3.toNatClampNeg &&& 3)) (f_X4_besideY q N (N 0 5 p1.toNatClampNeg) (N 0 8 p3.toNatClampNeg &&& 3))) := rfl
theorem ac17 : f_X4_act q N p1 (nI 17) p3 p4 = if (f_X4_send q N (N 0 8 p3.toNatClampNeg) (N 0 8 p4.toNatClampNeg)).1 = 0 then mu (f_X4_send q N (N 0 8 p3.toNatClampNeg) (N 0 8 p4.toNatClampNeg)).2 0 8 p3.toNatClampNeg 0 else mu (f_X4_send q N (N 0 8 p3.toNatClampNeg) (N 0 8 p4.toNatClampNeg)).2 0 8 p3.toNatClampNeg 1 := rfl
theorem ac18 : f_X4_act q N p1 (nI 18) p3 p4 = f_X4_receive q N p1 p3 := rfl
theorem ac20 : f_X4_act q N p1 (nI 20) p3 p4 = mu (f_X4_way q N p1 (N 0 8 p3.toNatClampNeg) (N 0 8 p4.toNatClampNeg)).2 0 8 p3.toNatClampNeg (f_X4_way q N p1 (N 0 8 p3.toNatClampNeg) (N 0 8 p4.toNatClampNeg)).1 := rfl
theorem ac21 : f_X4_act q N p1 (nI 21) p3 p4 = mu (mu N 0 8 p3.toNatClampNeg (N 0 4 p1.toNatClampNeg)) 0 8 p4.toNatClampNeg ((mu N 0 8 p3.toNatClampNeg (N 0 4 p1.toNatClampNeg)) 0 5 p1.toNatClampNeg) := rfl
theorem ac22 : f_X4_act q N p1 (nI 22) p3 p4 = mu N 0 8 p3.toNatClampNeg p1 := rfl
theorem ac23 : f_X4_act q N p1 (nI 23) p3 p4 = mu N 0 8 p3.toNatClampNeg (N 0 0 20) := rfl
theorem ac24 : f_X4_act q N p1 (nI 24) p3 p4 = mu N 0 8 p3.toNatClampNeg (N 0 10 p1.toNatClampNeg) := rfl
end
/-- where robot i stands -/
theorem pos_of (hX : SimX k q M N) (hI : mI q N) (hi : i < q.2.1 0) (hst : N 0 3 i ≠ 0) : ∃ a b c : Nat, a < q.2.1 1 ∧ b < q.2.1 2 ∧ N 0 4 i = nI a ∧ N 0 5 i = nI b ∧ N 0 1 (32 * b + a) = 0 ∧ c ≤ 99 ∧ N 0 2 (32 * b + a) = nI c ∧ M 0 2 (b * q.2.1 1 + a) = nI c := by
  have h8 := hI.2.1
  obtain ⟨p1, p2⟩ := (hI.2.2.2 i hi).2.2 ((hX.2.2.2.1.lt0 hi).mpr hst)
  obtain ⟨a, ha, ea⟩ := vp_in_of p1 (by omega)
  obtain ⟨b, hb, eb⟩ := vp_in_of p2 (by omega)
  have hw := hX.2.2.2.1.2.1 i hi hst
  rw [ea, eb, sqMc (by omega) (by omega)] at hw
  have hv := hX.2.2.1 a b ha hb
  rw [if_pos hw] at hv
  rcases hX.2.2.2.1.2.2.2.2 (32 * b + a) (by omega) with ⟨-, c, hc, ec⟩ | ⟨w1, -⟩
  · exact ⟨a, b, c, ha, hb, ea, eb, hw, hc, ec, hv.trans ec⟩
  · rw [hw] at w1; exact absurd w1 (by decide)
theorem SimX.uxy (h : SimX k q M N) (hI : mI q N) (hi : i < k.2.1 0) {a b : Nat} (ha : a < q.2.1 1) (hb : b < q.2.1 2) (hw : N 0 1 (32 * b + a) = 0) : SimX k q (mu (mu M (i + 1) 0 5 (nI a)) (i + 1) 0 6 (nI b)) (mu (mu N 0 4 i (nI a)) 0 5 i (nI b)) := by
  have h8 := hI.2.1
  obtain ⟨d, l, s, v, e⟩ := h
  have eC : ∀ g j t, ¬ (g = i + 1 ∧ j = 0 ∧ 4 ≤ t) → mu (mu M (i + 1) 0 5 (nI a)) (i + 1) 0 6 (nI b) g j t = M g j t := fun g j t h9 => by rw [mu_t (by omega), mu_t (by omega)]
  have eN : ∀ r, r ≠ 4 → r ≠ 5 → mu (mu N 0 4 i (nI a)) 0 5 i (nI b) 0 r = N 0 r := fun r h1 h2 => by rw [mu_off _ _ _ (by omega), mu_off _ _ _ (by omega)]
  have hl1 := l.uf (v := nI a) hi 5 (by omega)
  have hl2 := hl1.uf (v := nI b) hi 6 (by omega)
  exact ⟨d.fr (eC _ _ _ (by omega)) (eC _ _ _ (by omega)) (fun p => eC _ _ _ (by omega)), hl2, s.fr (funext fun t => eC _ _ _ (by omega)) (eN 1 (by omega) (by omega)) (eN 2 (by omega) (by omega)), v.xy (by rw [sqMc (by omega) (by omega)]; exact hw), e.fr (eC _ _ _ (by omega)) (funext fun t => eC _ _ _ (by omega)) (eN 1 (by omega) (by omega))⟩
/-- what holds at each word: robot i is ready, N its reference one word on -/
theorem go_S {d : Nat} {n : Int32} (hF : SimX k q (fin M i n) N) (hI : mI q N) (hi : i < q.2.1 0) (hst : N 0 3 i = 2) (hd : d < 4) : (f_X3_go k M i (nI d)).1 = (f_X4_go q N (nI i) (nI d)).1 ∧ SimX k q (fin (f_X3_go k M i (nI d)).2 i n) (f_X4_go q N (nI i) (nI d)).2 := by
  have h8 := hI.2.1
  have hi' : i < k.2.1 0 := hF.n ▸ hi
  have e5 : M (i + 1) 0 5 = N 0 4 i := by
    have := hF.2.1.f hi' 5 (by omega)
    rw [fin_at (by omega)] at this
    exact this
  have e6 : M (i + 1) 0 6 = N 0 5 i := by
    have := hF.2.1.f hi' 6 (by omega)
    rw [fin_at (by omega)] at this
    exact this
  unfold f_X3_go f_X4_go
  rw [nI_clamp (show d < 2 ^ 31 by omega), nI_clamp (show i < 2 ^ 31 by omega), e5, e6, bsx hd, bsy hd]
  rcases opnn hF.1 hI hF.2.2.1 hF.2.2.2.1 (N 0 4 i + eB d) (N 0 5 i + sB d) with ⟨o1, o2⟩ | ⟨a, b, ha, hb, e1, e2, hw, o1, o2⟩
  · rw [isOpen_fin] at o1
    rw [if_pos o1, if_pos o2]
    exact ⟨rfl, hF⟩
  · rw [isOpen_fin] at o1
    rw [if_neg (by rw [o1]; decide), if_neg (by rw [o2]; decide), e1, e2]
    rcases ron hF hI (nI a) (nI b) with ⟨h3, h4, h5⟩ | ⟨j, hj, h3, h4, h5, h6, h7⟩
    · rw [robotOn_fin] at h3
      rw [h3, h4, if_pos (by decide)]
      refine ⟨rfl, ?_⟩
      show SimX k q (fin (mu (mu M (i + 1) 0 5 (nI a)) (i + 1) 0 6 (nI b)) i n) _
      rw [fin_mu (by omega), fin_mu (by omega)]
      exact hF.uxy hI hi' ha hb hw
    · rw [robotOn_fin] at h3
      rw [h3, h4, if_neg (nI_pos (by omega))]
      exact ⟨rfl, hF⟩
theorem take_S {n : Int32} (hF : SimX k q (fin M i n) N) (hI : mI q N) (hi : i < q.2.1 0) (hst : N 0 3 i = 2) {t r : Nat} (hr : r < 8) (ht : t = 8 * i + r) (p4 : Int32) : SimX k q (fin (mu (f_X3_take k M i).2 (i + 1) 2 r (f_X3_take k M i).1) i n) (f_X4_act q N (nI i) (nI 15) (nI t) p4) := by
  subst ht
  have h8 := hI.2.1
  have hi' : i < k.2.1 0 := hF.n ▸ hi
  have hi8 : i < 8 := by omega
  obtain ⟨a, b, c, ha, hb, ea, eb, hw, hc, ec, hv⟩ := pos_of hF hI hi (by rw [hst]; decide)
  obtain ⟨g, hg, eg⟩ := hF.2.2.2.1.2.2.1 i hi
  have m5 : M (i + 1) 0 5 = nI a := by
    have := hF.2.1.f hi' 5 (by omega)
    rw [fin_at (by omega)] at this
    exact this.trans ea
  have m6 : M (i + 1) 0 6 = nI b := by
    have := hF.2.1.f hi' 6 (by omega)
    rw [fin_at (by omega)] at this
    exact this.trans eb
  have m10 : M (i + 1) 0 10 = nI g := by
    have := hF.2.1.f hi' 10 (by omega)
    rw [fin_at (by omega)] at this
    exact this.trans eg
  obtain ⟨s1, s2, s3⟩ := sqAt hF.1 hI ha hb
  rw [fin_at (by omega)] at s1 hv
  have hop : f_X1_isOpen k M (nI a) (nI b) = 1 := by
    rcases opnn hF.1 hI hF.2.2.1 hF.2.2.2.1 (nI a) (nI b) with ⟨o1, o2⟩ | ⟨_, _, _, _, _, _, _, o1, _⟩
    · exact absurd o2 (frr1 hI ⟨ha, hb, hw⟩)
    · rw [isOpen_fin] at o1; exact o1
  have ci : (nI i).toNatClampNeg = i := nI_clamp (by omega)
  have cr := (reg8 hi8 (show r < 16 by omega)).2
  have noop : SimX k q (fin (mu M (i + 1) 2 r 0) i n) (mu (mu (mu N 0 2 (32 * b + a) (N 0 2 (32 * b + a))) 0 10 i ((mu N 0 2 (32 * b + a) (N 0 2 (32 * b + a))) 0 10 i)) 0 8 (8 * i + r) 0) := by
    rw [mu_same, mu_same, fin_mu (by omega)]
    exact hF.ureg hi' hr
  unfold f_X3_take f_X1_removeItem f_X4_act
  rw [if_neg (show ¬ nI 15 = 13 by decide), if_neg (show ¬ nI 15 = 14 by decide), if_pos (show nI 15 = 15 by decide)]
  rw [m5, m6, m10, hop, s1, hv, ci, cr, ea, eb, s2, ec, eg]
  rw [if_neg (show ¬ (1 : Int32) = 0 by decide)]
  by_cases c0 : c = 0
  · subst c0
    rw [if_pos (show nI 0 ≤ 0 by decide)]
    rw [← ec]
    by_cases c9 : 9 ≤ g
    · rw [if_pos (show (9 : Int32) ≤ nI g from nI_le (a := 9) c9 (by omega))]; exact noop
    · rw [if_neg (show ¬ (9 : Int32) ≤ nI g from nI_ge (b := 9) (by omega) (by omega)), if_neg (show ¬ (0 : Int32) < N 0 2 (32 * b + a) by rw [ec]; decide), if_pos rfl]
      exact noop
  · rw [if_neg (show ¬ nI c ≤ 0 from nI_nle (by omega) (by omega))]
    by_cases c9 : 9 ≤ g
    · rw [if_pos (show (9 : Int32) ≤ nI g from nI_le (a := 9) c9 (by omega)), if_pos (show (9 : Int32) ≤ nI g from nI_le (a := 9) c9 (by omega)), ← ec]; exact noop
    · rw [if_neg (show ¬ (9 : Int32) ≤ nI g from nI_ge (b := 9) (by omega) (by omega)), if_neg (show ¬ (9 : Int32) ≤ nI g from nI_ge (b := 9) (by omega) (by omega)), if_pos (show (0 : Int32) < nI c by rw [← nI_0]; exact nI_lt (by omega) (by omega)), if_neg (show ¬ (1 : Int32) = 0 by decide)]
      obtain ⟨c', rfl⟩ : ∃ c', c = c' + 1 := ⟨c - 1, by omega⟩
      rw [nI_pred]
      show SimX k q (fin (mu (mu (mu M 0 2 (b * q.2.1 1 + a) (nI c')) (i + 1) 0 10 ((mu M 0 2 (b * q.2.1 1 + a) (nI c')) (i + 1) 0 10 + 1)) (i + 1) 2 r 1) i n) _
      rw [mu_t (show ¬ (i + 1 = 0 ∧ 0 = 2 ∧ 10 = _) by omega), m10, mu_t (show ¬ (0 = 0 ∧ 10 = 2 ∧ i = _) by omega), eg, nI_1, fin_mu (by omega), fin_mu (by omega), fin_mu (by omega)]
      exact ((hF.item hI ha hb hw (by omega)).ucar hi' (by omega)).ureg hi' hr
theorem lay_S {n : Int32} (hF : SimX k q (fin M i n) N) (hI : mI q N) (hi : i < q.2.1 0) (hst : N 0 3 i = 2) {t r : Nat} (hr : r < 8) (ht : t = 8 * i + r) (p4 : Int32) : SimX k q (fin (mu (f_X3_lay k M i).2 (i + 1) 2 r (f_X3_lay k M i).1) i n) (f_X4_act q N (nI i) (nI 16) (nI t) p4) := by
  subst ht
  have h8 := hI.2.1
  have hi' : i < k.2.1 0 := hF.n ▸ hi
  have hi8 : i < 8 := by omega
  obtain ⟨a, b, c, ha, hb, ea, eb, hw, hc, ec, hv⟩ := pos_of hF hI hi (by rw [hst]; decide)
  obtain ⟨g, hg, eg⟩ := hF.2.2.2.1.2.2.1 i hi
  have m5 : M (i + 1) 0 5 = nI a := by
    have := hF.2.1.f hi' 5 (by omega)
    rw [fin_at (by omega)] at this
    exact this.trans ea
  have m6 : M (i + 1) 0 6 = nI b := by
    have := hF.2.1.f hi' 6 (by omega)
    rw [fin_at (by omega)] at this
    exact this.trans eb
  have m10 : M (i + 1) 0 10 = nI g := by
    have := hF.2.1.f hi' 10 (by omega)
    rw [fin_at (by omega)] at this
    exact this.trans eg
  obtain ⟨s1, s2, s3⟩ := sqAt hF.1 hI ha hb
  rw [fin_at (by omega)] at s1 hv
  have hop : f_X1_isOpen k M (nI a) (nI b) = 1 := by
    rcases opnn hF.1 hI hF.2.2.1 hF.2.2.2.1 (nI a) (nI b) with ⟨o1, o2⟩ | ⟨_, _, _, _, _, _, _, o1, _⟩
    · exact absurd o2 (frr1 hI ⟨ha, hb, hw⟩)
    · rw [isOpen_fin] at o1; exact o1
  have ci : (nI i).toNatClampNeg = i := nI_clamp (by omega)
  have cr := (reg8 hi8 (show r < 16 by omega)).2
  have noop : SimX k q (fin (mu M (i + 1) 2 r 0) i n) (mu (mu (mu N 0 2 (32 * b + a) (N 0 2 (32 * b + a))) 0 10 i ((mu N 0 2 (32 * b + a) (N 0 2 (32 * b + a))) 0 10 i)) 0 8 (8 * i + r) 0) := by
    rw [mu_same, mu_same, fin_mu (by omega)]
    exact hF.ureg hi' hr
  unfold f_X3_lay f_X1_addItem f_X4_act
  rw [if_neg (show ¬ nI 16 = 13 by decide), if_neg (show ¬ nI 16 = 14 by decide), if_neg (show ¬ nI 16 = 15 by decide), if_pos (show nI 16 = 16 by decide)]
  rw [m5, m6, m10, hop, s1, hv, ci, cr, ea, eb, s2, ec, eg]
  rw [if_neg (show ¬ (1 : Int32) = 0 by decide)]
  by_cases c0 : g = 0
  · subst c0
    rw [if_pos (show nI 0 ≤ 0 by decide), if_pos (show nI 0 ≤ 0 by decide), ← ec]
    exact noop
  · rw [if_neg (show ¬ nI g ≤ 0 from nI_nle (by omega) (by omega)), if_neg (show ¬ nI g ≤ 0 from nI_nle (by omega) (by omega))]
    by_cases c9 : 99 ≤ c
    · rw [if_pos (show (99 : Int32) ≤ nI c from nI_le (a := 99) c9 (by omega)), if_neg (show ¬ nI c < 99 from nI_nlt (b := 99) (by omega) (by omega)), if_pos rfl, ← ec]; exact noop
    · rw [if_neg (show ¬ (99 : Int32) ≤ nI c from nI_ge (b := 99) (by omega) (by omega)), if_pos (show nI c < 99 from nI_lt (b := 99) (by omega) (by omega)), if_neg (show ¬ (1 : Int32) = 0 by decide)]
      obtain ⟨g', rfl⟩ : ∃ g', g = g' + 1 := ⟨g - 1, by omega⟩
      rw [nI_1]
      show SimX k q (fin (mu (mu (mu M 0 2 (b * q.2.1 1 + a) (nI (c + 1))) (i + 1) 0 10 ((mu M 0 2 (b * q.2.1 1 + a) (nI (c + 1))) (i + 1) 0 10 - 1)) (i + 1) 2 r 1) i n) _
      rw [mu_t (show ¬ (i + 1 = 0 ∧ 0 = 2 ∧ 10 = _) by omega), m10, mu_t (show ¬ (0 = 0 ∧ 10 = 2 ∧ i = _) by omega), eg, nI_pred, fin_mu (by omega), fin_mu (by omega), fin_mu (by omega)]
      exact ((hF.item hI ha hb hw (by omega)).ucar hi' (by omega)).ureg hi' hr
theorem send_S {n : Int32} (hF : SimX k q (fin M i n) N) (hI : mI q N) (hi : i < q.2.1 0) (x v : Int32) : (f_X3_send k M x v).1 = (f_X4_send q N x v).1 ∧ ((f_X4_send q N x v).1 = 0 ∨ (f_X4_send q N x v).1 = 1) ∧ SimX k q (fin (f_X3_send k M x v).2 i n) (f_X4_send q N x v).2 := by
  have h8 := hI.2.1
  unfold f_X3_send f_X4_send
  rcases rof hF hI x with ⟨h1, h2⟩ | ⟨j, hj, rfl, h1, h2, h3⟩
  · rw [robotOf_fin] at h1
    rw [h1, h2, if_pos rfl]; exact ⟨rfl, Or.inl rfl, hF⟩
  · rw [robotOf_fin] at h1
    have hj' : j < k.2.1 0 := hF.n ▸ hj
    obtain ⟨s, hs, es⟩ := hF.2.2.2.1.1 j hj
    obtain ⟨c, hc, ec⟩ := (hI.2.2.2 j hj).2.1
    have m4 : M (j + 1) 0 4 = nI s := by
      have := hF.2.1.f hj' 4 (by omega)
      rw [fin_at (by omega)] at this
      exact this.trans es
    have m3 : M (j + 1) 3 1 = nI c := by
      have := hF.2.1.cnt hj'
      rw [fin_at (by omega)] at this
      exact this.trans ec
    rw [h1, h2, if_neg (show ¬ (1 : Int32) = 0 by decide), nI_clamp (show j < 2 ^ 31 by omega), es, ec, hI.1.2.2.2.2]
    show (if f_X2_takesMail k M j = 0 then ((0, M) : Int32 × Mem) else if (f_X0_add k M j v).1 = 0 then (0, (f_X0_add k M j v).2) else if (f_X0_add k M j v).2 (j + 1) 0 4 = 4 then (1, mu (f_X0_add k M j v).2 (j + 1) 0 4 2) else (1, (f_X0_add k M j v).2)).1 = _ ∧ _ ∧ SimX k q (fin (if f_X2_takesMail k M j = 0 then ((0, M) : Int32 × Mem) else if (f_X0_add k M j v).1 = 0 then (0, (f_X0_add k M j v).2) else if (f_X0_add k M j v).2 (j + 1) 0 4 = 4 then (1, mu (f_X0_add k M j v).2 (j + 1) 0 4 2) else (1, (f_X0_add k M j v).2)).2 i n) _
    unfold f_X2_takesMail f_X4_in
    rw [m4]
    have t2 : nI s = 2 ↔ s = 2 := nI_eq (b := 2) (by omega) (by omega)
    have t3 : nI s = 3 ↔ s = 3 := nI_eq (b := 3) (by omega) (by omega)
    have t4 : nI s = 4 ↔ s = 4 := nI_eq (b := 4) (by omega) (by omega)
    have u2 : nI s < 2 ↔ s < 2 := nI_ltI (b := 2) (by omega) (by omega)
    have u4 : 4 < nI s ↔ 4 < s := nI_ltI (a := 4) (by omega) (by omega)
    simp only [t2, t3, t4, u2, u4]
    by_cases cs : s = 2 ∨ s = 3 ∨ s = 4
    · have e1 : (if s = 2 then (1 : Int32) else if s = 3 then 1 else if s = 4 then 1 else 0) = 1 := by
        rcases cs with rfl | rfl | rfl <;> rfl
      have e2 : (if s < 2 then (0 : Int32) else if 4 < s then 0 else 1) = 1 := by
        rw [if_neg (by omega), if_neg (by omega)]
      rw [e1, e2, if_neg (show ¬ (1 : Int32) = 0 by decide), if_neg (show ¬ (1 : Int32) = 0 by decide)]
      unfold f_X0_add
      rw [m3, hF.1.1.2.2.2]
      by_cases cc : c < q.2.1 4
      · rw [if_pos (nI_lt cc (by omega)), if_neg (nI_ge cc (by omega)), if_neg (show ¬ (1 : Int32) = 0 by decide), nI_clamp (show c < 2 ^ 31 by omega)]
        have b1 : (mu M (j + 1) 4 c v) (j + 1) 3 1 = nI c := by rw [mu_t (by omega), m3]
        have ex : (16 : Int32) * nI j + nI c = nI (16 * j + c) := by rw [show (16 : Int32) = nI 16 from rfl, pk_mul, nI_add]
        rw [ex, nI_clamp (show 16 * j + c < 2 ^ 31 by omega)]
        have b2 : (mu N 0 11 (16 * j + c) v) 0 12 j = nI c := by rw [mu_t (by omega), ec]
        rw [b1, b2, nI_1]
        have b3 : (mu (mu M (j + 1) 4 c v) (j + 1) 3 1 (nI (c + 1))) (j + 1) 0 4 = nI s := by rw [mu_t (by omega), mu_t (by omega), m4]
        have b4 : (mu (mu N 0 11 (16 * j + c) v) 0 12 j (nI (c + 1))) 0 3 j = nI s := by rw [mu_t (by omega), mu_t (by omega), es]
        simp only [b3, b4, t4]
        have base : SimX k q (fin (mu (mu M (j + 1) 4 c v) (j + 1) 3 1 (nI (c + 1))) i n) (mu (mu N 0 11 (16 * j + c) v) 0 12 j (nI (c + 1))) := by
          rw [fin_mu (by omega), fin_mu (by omega)]
          exact (hF.ubox hj' (by omega)).ucnt hj'
        by_cases c4 : s = 4
        · rw [if_pos c4, if_pos c4]
          refine ⟨rfl, Or.inr rfl, ?_⟩
          show SimX k q (fin (mu (mu (mu M (j + 1) 4 c v) (j + 1) 3 1 (nI (c + 1))) (j + 1) 0 4 2) i n) _
          rw [fin_mu (by omega)]
          refine base.ust hj' (s := 2) (by omega) (fun _ => ?_) (Or.inr (Or.inr ?_))
          · rw [b4]; exact nI_ne0 (by omega) (by omega)
          · rw [mu_t (by omega), mu_t (by omega)]
            rcases (hF.2.2.2.1.2.2.2.1 j hj).2 with h | h | h
            · exact absurd h h3
            · rw [es] at h; have := t3.mp h; omega
            · exact h
        · rw [if_neg c4, if_neg c4]
          refine ⟨rfl, Or.inr rfl, ?_⟩
          show SimX k q (fin (mu (mu M (j + 1) 4 c v) (j + 1) 3 1 (nI (c + 1))) i n) (mu (mu (mu N 0 11 (16 * j + c) v) 0 12 j (nI (c + 1))) 0 3 j (nI s))
          have := mu_same (mu (mu N 0 11 (16 * j + c) v) 0 12 j (nI (c + 1))) 0 3 j
          rw [b4] at this
          rw [this]
          exact base
      · rw [if_neg (nI_nlt (by omega) (by omega)), if_pos (nI_le (by omega) (by omega)), if_pos rfl]
        exact ⟨rfl, Or.inl rfl, hF⟩
    · have e1 : (if s = 2 then (1 : Int32) else if s = 3 then 1 else if s = 4 then 1 else 0) = 0 := by
        rw [if_neg (by omega), if_neg (by omega), if_neg (by omega)]
      have e2 : (if s < 2 then (0 : Int32) else if 4 < s then 0 else 1) = 0 := by
        by_cases c2 : s < 2
        · rw [if_pos c2]
        · rw [if_neg c2, if_pos (by omega)]
      rw [e1, e2, if_pos rfl, if_pos rfl]
      exact ⟨rfl, Or.inl rfl, hF⟩
end T4
