/-! receive, sleep, the way -/
section T5
variable {k : CK} {q : MK} {M N X Y : Mem} {i : Nat}
theorem ac19 {p1 p3 p4 : Int32} : f_X4_act q N p1 (nI 19) p3 p4 = if N 0 8 p3.toNatClampNeg ≤ 0 then mu (mu N 0 3 p1.toNatClampNeg 2) 0 13 p1.toNatClampNeg 0 else mu (mu N 0 3 p1.toNatClampNeg 3) 0 13 p1.toNatClampNeg (N 0 8 p3.toNatClampNeg) := by
  have : f_X4_act q N p1 (nI 19) p3 p4 = if N 0 8 p3.toNatClampNeg ≤ 0 then (if N 0 8 p3.toNatClampNeg ≤ 0 then mu (mu N 0 3 p1.toNatClampNeg 2) 0 13 p1.toNatClampNeg 0 else mu (mu N 0 3 p1.toNatClampNeg 2) 0 13 p1.toNatClampNeg (N 0 8 p3.toNatClampNeg)) else (if N 0 8 p3.toNatClampNeg ≤ 0 then mu (mu N 0 3 p1.toNatClampNeg 3) 0 13 p1.toNatClampNeg 0 else mu (mu N 0 3 p1.toNatClampNeg 3) 0 13 p1.toNatClampNeg (N 0 8 p3.toNatClampNeg)) := rfl
  rw [this]
  by_cases c : N 0 8 p3.toNatClampNeg ≤ 0
  · rw [if_pos c, if_pos c, if_pos c]
  · rw [if_neg c, if_neg c, if_neg c]
theorem slp_S {n x : Int32} (hF : SimX k q (fin M i n) N) (hI : mI q N) (hi : i < q.2.1 0) (hst : N 0 3 i = 2) : SimX k q (fin (f_X2_fallAsleep k M i x) i n) (if x ≤ 0 then mu (mu N 0 3 i 2) 0 13 i 0 else mu (mu N 0 3 i 3) 0 13 i x) := by
  have hi' : i < k.2.1 0 := hF.n ▸ hi
  have hz : N 0 13 i = 0 := by
    rcases (hF.2.2.2.1.2.2.2.1 i hi).2 with h | h | h
    · rw [hst] at h; exact absurd h (by decide)
    · rw [hst] at h; exact absurd h (by decide)
    · exact h
  unfold f_X2_fallAsleep
  by_cases c : x ≤ 0
  · rw [if_pos c, if_pos c]
    have e1 : mu N 0 3 i 2 = N := by
      have := mu_same N 0 3 i
      rw [hst] at this
      exact this
    have e2 : mu N 0 13 i 0 = N := by
      have := mu_same N 0 13 i
      rw [hz] at this
      exact this
    rw [e1, e2]
    exact hF
  · rw [if_neg c, if_neg c, fin_mu (by omega), fin_mu (by omega)]
    have h1 : SimX k q (mu (fin M i n) (i + 1) 0 4 3) (mu N 0 3 i 3) := hF.ust hi' (s := 3) (by omega) (fun _ => by rw [hst]; decide) (Or.inr (Or.inl rfl))
    refine h1.uslp hi' ?_ (Or.inr (Or.inl (mu_eq _ _ _ _ _)))
    intro h
    exact c (Int32.le_of_lt h)
theorem mu_mr_comm {g j t g' j' : Nat} {v : Int32} {f : Nat → Int32} (h : ¬ (g = g' ∧ j = j')) : mu (mr X g' j' f) g j t v = mr (mu X g j t v) g' j' f := by
  funext a b c
  simp only [mu_at, mr_at]
  by_cases h1 : a = g' ∧ b = j'
  · rw [if_pos h1, if_neg (by omega), if_pos h1]
  · rw [if_neg h1, if_neg h1]
/-- the reference's box moves up -/
theorem rvL {c : Nat} (hi : i < 8) (hc : c ≤ 15) : ∀ (n t : Nat) (X : Mem), t ≤ 16 → 16 < t + n → X 0 12 i = nI c → ∀ x y z, f_X4_receive_L54 q (nI i) n (nI t) X x y z = if x = 0 ∧ y = 11 ∧ 16 * i + t ≤ z ∧ z < 16 * i + c then X 0 11 (z + 1) else X x y z := by
  intro n
  induction n with
  | zero => intro t X h1 h2; omega
  | succ n ih =>
    intro t X h1 h2 ec x y z
    rw [f_X4_receive_L54, nI_clamp (show i < 2 ^ 31 by omega), ec]
    by_cases c1 : c ≤ t
    · rw [if_pos (nI_le c1 (by omega)), if_neg (by omega)]
    · have ex : (16 : Int32) * nI i + nI t = nI (16 * i + t) := by rw [show (16 : Int32) = nI 16 from rfl, pk_mul, nI_add]
      rw [if_neg (nI_ge (by omega) (by omega)), nI_1 t, ex, nI_1, nI_clamp (show 16 * i + t < 2 ^ 31 by omega), nI_clamp (show 16 * i + t + 1 < 2 ^ 31 by omega)]
      rw [ih (t + 1) _ (by omega) (by omega) (by rw [mu_t (by omega)]; exact ec)]
      by_cases c2 : x = 0 ∧ y = 11 ∧ 16 * i + (t + 1) ≤ z ∧ z < 16 * i + c
      · rw [if_pos c2, if_pos (by omega), mu_t (by omega)]
      · rw [if_neg c2, mu_at]
        by_cases c3 : x = 0 ∧ y = 11 ∧ z = 16 * i + t
        · rw [if_pos c3, if_pos (by omega), c3.2.2]
        · rw [if_neg c3, if_neg (by omega)]
theorem shift_S {c : Nat} (hX : SimX k q X Y) (hI : mI q Y) (hi : i < q.2.1 0) (hc : c ≤ 15) (ec : Y 0 12 i = nI c) : SimX k q (mr X (i + 1) 4 (va_cpy (X (i + 1) 4) (X (i + 1) 4) 1 0 c)) (f_X4_receive_L54 q (nI i) (q.2.1 5) 0 Y) := by
  have h8 := hI.2.1
  have hi' : i < k.2.1 0 := hX.n ▸ hi
  have hi8 : i < 8 := by omega
  have eM : ∀ x y z, f_X4_receive_L54 q (nI i) (q.2.1 5) 0 Y x y z = if x = 0 ∧ y = 11 ∧ 16 * i ≤ z ∧ z < 16 * i + c then Y 0 11 (z + 1) else Y x y z := fun x y z => by
    have := rvL (q := q) hi8 hc 1026 0 Y (by omega) (by omega) ec x y z
    rw [nI_0] at this
    rw [mI_F hI, this]
    rfl
  generalize f_X4_receive_L54 q (nI i) (q.2.1 5) 0 Y = Z at eM
  have eR : ∀ r, r ≠ 11 → Z 0 r = Y 0 r := fun r hr => funext fun t => by rw [eM, if_neg (by omega)]
  have eC : ∀ f : Nat → Int32, ∀ g j t, ¬ (g = i + 1 ∧ j = 4) → mr X (i + 1) 4 f g j t = X g j t := fun f g j t h9 => by rw [mr_at, if_neg h9]
  obtain ⟨d, l, s, v, e⟩ := hX
  refine ⟨d.fr (eC _ _ _ _ (by omega)) (eC _ _ _ _ (by omega)) (fun p => eC _ _ _ _ (by omega)), fun g j t hd => ?_, s.fr (funext fun t => eC _ _ _ _ (by omega)) (eR 1 (by omega)) (eR 2 (by omega)), v.fr (eR _ (by omega)) (eR _ (by omega)) (eR _ (by omega)) (eR _ (by omega)) (eR _ (by omega)) (eR _ (by omega)) (eR _ (by omega)), e.fr (eC _ _ _ _ (by omega)) (funext fun t => eC _ _ _ _ (by omega)) (eR 1 (by omega))⟩
  by_cases hj : j = 4
  · subst hj
    have hg : 1 ≤ g ∧ g ≤ k.2.1 0 ∧ t < 16 := by unfold lkD at hd; omega
    obtain ⟨p, rfl⟩ : ∃ p, g = p + 1 := ⟨g - 1, by omega⟩
    rw [(lk_4 (by omega)).1, (lk_4 (by omega)).2, Nat.add_sub_cancel, eM]
    by_cases hp : p = i
    · subst hp
      rw [mr_at, if_pos ⟨rfl, rfl⟩]
      unfold va_cpy
      by_cases ht : t < c
      · rw [if_pos (by omega), if_pos (by omega), show 1 + (t - 0) = t + 1 by omega, l.box (by omega) (by omega)]
        rfl
      · rw [if_neg (by omega), if_neg (by omega), l.box (by omega) (by omega)]
    · rw [eC _ _ _ _ (by omega), if_neg (by omega), l.box (by omega) (by omega)]
  · rw [eC _ _ _ _ (by omega), eR]
    · exact l g j t hd
    · have q1 := @tau_in t
      rcases hd with ⟨a1, a2, a3⟩ | ⟨a1, a2, ⟨rfl, a3⟩ | ⟨rfl, a3⟩ | ⟨rfl, a3⟩ | ⟨rfl, a3⟩ | ⟨rfl, a3⟩⟩
      · rw [(lk_z a1).1]; omega
      · rw [(lk_0 a1).1]; omega
      · rw [(lk_3 a1).1]; omega
      · rw [(lk_1 a1).1]; omega
      · rw [(lk_2 a1).1]; omega
      · exact absurd rfl hj
theorem rcv_S {n : Int32} {r : Nat} (hX : SimX k q M N) (hI : mI q N) (hi : i < q.2.1 0) (hst : N 0 3 i = 2) (hr : r < 8) (hn : N 0 9 i = n) : SimX k q (if (f_X3_receive k M i (nI r)).1 = 0 then fin (f_X3_receive k M i (nI r)).2 i ((f_X3_receive k M i (nI r)).2 (i + 1) 0 7) else fin (f_X3_receive k M i (nI r)).2 i (n + 1)) (f_X4_receive q (nx1 N i (n + 1)) (nI i) (nI (8 * i + r))) := by
  have h8 := hI.2.1
  have hi' : i < k.2.1 0 := hX.n ▸ hi
  have hi8 : i < 8 := by omega
  have hF := fin_Sim (n := n + 1) hX hi'
  have hI1 : mI q (nx1 N i (n + 1)) := mI_rn hI
  obtain ⟨c, hc, ec⟩ := (hI.2.2.2 i hi).2.1
  have e12 : nx1 N i (n + 1) 0 12 i = nI c := by rw [nx1_r (by omega), ec]
  have m3 : M (i + 1) 3 1 = nI c := (hX.2.1.cnt hi').trans ec
  have hz : N 0 13 i = 0 := by
    rcases (hX.2.2.2.1.2.2.2.1 i hi).2 with h | h | h
    · rw [hst] at h; exact absurd h (by decide)
    · rw [hst] at h; exact absurd h (by decide)
    · exact h
  unfold f_X3_receive f_X4_receive
  rw [nI_clamp (show i < 2 ^ 31 by omega), e12, m3, nI_clamp (show r < 2 ^ 31 by omega), (reg8 hi8 (show r < 16 by omega)).2]
  by_cases c0 : c = 0
  · subst c0
    rw [if_pos nI_0, if_pos nI_0, if_pos rfl]
    show SimX k q (fin (mu M (i + 1) 0 4 4) i ((mu M (i + 1) 0 4 4) (i + 1) 0 7)) _
    have m7 : (mu M (i + 1) 0 4 4) (i + 1) 0 7 = n := by
      rw [mu_t (by omega), hX.2.1.f hi' 7 (by omega), tau7, hn]
    have e9 : (mu (nx1 N i (n + 1)) 0 3 i 4) 0 9 i - 1 = n := by
      rw [mu_t (by omega), nx1_9, Int32.add_sub_cancel]
    rw [m7, e9]
    have h1 : SimX k q (mu (fin M i (n + 1)) (i + 1) 0 4 4) (mu (nx1 N i (n + 1)) 0 3 i 4) := hF.ust hi' (s := 4) (by omega) (fun _ => by rw [nx1_r (by omega), hst]; decide) (Or.inr (Or.inr (by rw [nx1_r (by omega)]; exact hz)))
    rw [← fin_mu (by omega)] at h1
    have h2 := SimX.uplc (v := n) h1 hi'
    rw [fin_7] at h2
    exact h2
  · have hne : ¬ nI c = 0 := nI_ne0 (by omega) (by omega)
    rw [if_neg hne, if_neg hne, if_neg (show ¬ (1 : Int32) = 0 by decide)]
    unfold f_X0_removeFirst
    rw [m3, if_neg (nI_nle (by omega) (by omega)), hX.1.1.2.2.2, if_pos (nI_le hc (by omega))]
    obtain ⟨d, rfl⟩ : ∃ d, c = d + 1 := ⟨c - 1, by omega⟩
    show SimX k q (fin (mu (mr (mu M (i + 1) 3 1 (nI (d + 1) - 1)) (i + 1) 4 (va_cpy ((mu M (i + 1) 3 1 (nI (d + 1) - 1)) (i + 1) 4) ((mu M (i + 1) 3 1 (nI (d + 1) - 1)) (i + 1) 4) (1 : Int32).toNatClampNeg (0 : Int32).toNatClampNeg ((mu M (i + 1) 3 1 (nI (d + 1) - 1)) (i + 1) 3 1).toNatClampNeg)) (i + 1) 2 r (M (i + 1) 4 (0 : Int32).toNatClampNeg)) i (n + 1)) _
    rw [nI_pred, mu_eq, nI_clamp (show d < 2 ^ 31 by omega), mu_off M 1 (nI d) (show ¬ (i + 1 = i + 1 ∧ 4 = 3) by omega)]
    have ex : ((16 : Int32) * nI i).toNatClampNeg = 16 * i := by rw [show (16 : Int32) = nI 16 from rfl, pk_mul, nI_clamp (by omega)]
    have e12' : (mu (nx1 N i (n + 1)) 0 8 (8 * i + r) (nx1 N i (n + 1) 0 11 (16 * i))) 0 12 i = nI (d + 1) := by rw [mu_t (by omega), e12]
    rw [ex, e12', nI_pred]
    have ev : M (i + 1) 4 (0 : Int32).toNatClampNeg = nx1 N i (n + 1) 0 11 (16 * i) := by
      rw [nx1_r (by omega)]
      exact hX.2.1.box hi' (t := 0) (by omega)
    rw [ev, fin_mu (by omega), fin_mr (by omega), fin_mu (by omega), mu_mr_comm (by omega), mu_comm _ (nI d) _ (by omega)]
    have hA := (hF.ureg (v := nx1 N i (n + 1) 0 11 (16 * i)) hi' hr).ucnt (v := nI d) hi'
    have hAI : mI q (mu (mu (nx1 N i (n + 1)) 0 8 (8 * i + r) (nx1 N i (n + 1) 0 11 (16 * i))) 0 12 i (nI d)) := mI_bxd (mI_reg hI1) (by omega)
    have hrow : (mu (mu (fin M i (n + 1)) (i + 1) 2 r (nx1 N i (n + 1) 0 11 (16 * i))) (i + 1) 3 1 (nI d)) (i + 1) 4 = M (i + 1) 4 := by
      rw [mu_off _ _ _ (by omega), mu_off _ _ _ (by omega)]
      funext t
      exact fin_at (by omega)
    have := shift_S (c := d) hA hAI hi (by omega) (mu_eq _ _ _ _ _)
    rw [hrow] at this
    exact this
theorem way_S {n : Int32} {r : Nat} {x y : Int32} (hX : SimX k q M N) (hI : mI q N) (hi : i < q.2.1 0) (hst : N 0 3 i = 2) (hr : r < 8) : SimX k q (fin (mu (f_X1_firstStep k M (M (i + 1) 0 5) (M (i + 1) 0 6) x y).2 (i + 1) 2 r (f_X1_firstStep k M (M (i + 1) 0 5) (M (i + 1) 0 6) x y).1) i n) (mu (f_X4_way q (nx1 N i n) (nI i) x y).2 0 8 (8 * i + r) (f_X4_way q (nx1 N i n) (nI i) x y).1) := by
  have h8 := hI.2.1
  have hi' : i < k.2.1 0 := hX.n ▸ hi
  have hi8 : i < 8 := by omega
  have hF := fin_Sim (n := n) hX hi'
  have hI1 : mI q (nx1 N i n) := mI_rn hI
  obtain ⟨a, b, c, ha, hb, ea, eb, hw, -⟩ := pos_of hX hI hi (by rw [hst]; decide)
  rw [hX.2.1.f hi' 5 (by omega), hX.2.1.f hi' 6 (by omega), tau5, tau6, ea, eb]
  have e4 : nx1 N i n 0 4 i = nI a := by rw [nx1_r (by omega), ea]
  have e5 : nx1 N i n 0 5 i = nI b := by rw [nx1_r (by omega), eb]
  have ho : opn q (nx1 N i n) a b := ⟨ha, hb, by rw [nx1_r (by omega)]; exact hw⟩
  have e1 : nx1 N i n 0 1 = N 0 1 := nx1_r (by omega)
  have e2 : nx1 N i n 0 2 = N 0 2 := nx1_r (by omega)
  obtain ⟨w1, w2, w3, w4⟩ := fs_S hX.1 hI1 (hX.2.2.1.fr rfl e1 e2) hF.2.2.2.1 (hX.2.2.2.2.fr rfl rfl e1) hi8 e4 e5 ho x y
  rw [w1, fin_mu (by omega)]
  refine SimX.ureg (SimX.fr15 (hF.frC (fun a b c h9 => ?_) (w3.fr (fin_at (by omega)) (funext fun t => fin_at (by omega)) rfl)) w4) hi' hr
  unfold fin
  rw [mu_at, mu_at, mu_at, mu_at, mu_at, mu_at, w2 a b c h9, w2 (i + 1) 0 9 (by omega)]
end T5
