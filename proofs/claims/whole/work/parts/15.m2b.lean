/-! THE REFERENCE'S SEARCH: labels in row 15, 100000 is far -/
section S1
variable {q : MK} {N X Y Z : Mem}
theorem nI_m1' {a : Nat} (h : a < 2 ^ 31) : ¬ nI a = -1 := by
  intro e
  have h1 := nI_toInt h
  rw [e] at h1
  have h2 : (-1 : Int32).toInt = -1 := rfl
  omega
theorem sqM' {a b : Nat} (ha : a < 32) (hb : b < 32) : (f_X4_square q X (nI a) (nI b)).toNatClampNeg = 32 * b + a := by
  unfold f_X4_square
  rw [show (32 : Int32) = nI 32 from rfl, pk_mul, nI_add, nI_clamp (by omega)]
theorem dir_of {x y a b : Nat} (h : adj (x, y) (a, b)) : ∃ d : Nat, d < 4 ∧ nI x + eB d = nI a ∧ nI y + sB d = nI b := by
  have h' : (x = a ∧ (y + 1 = b ∨ b + 1 = y)) ∨ (y = b ∧ (x + 1 = a ∨ a + 1 = x)) := h
  rcases h' with ⟨rfl, rfl | rfl⟩ | ⟨rfl, rfl | rfl⟩
  · exact ⟨2, by omega, by show nI x + 0 = nI x; simp, nI_1 y⟩
  · exact ⟨0, by omega, by show nI x + 0 = nI x; simp, pk_m1 b⟩
  · exact ⟨1, by omega, nI_1 x, by show nI y + 0 = nI y; simp⟩
  · exact ⟨3, by omega, pk_m1 a, by show nI y + 0 = nI y; simp⟩
theorem m1_of {x a : Nat} (hx : x < 2 ^ 30) (ha : a < 2 ^ 30) (h : nI x + -1 = nI a) : a + 1 = x := by
  cases x with
  | zero => rw [nI_0] at h; exact absurd (show nI a = -1 by rw [← h]; rfl) (nI_m1' (by omega))
  | succ x => rw [pk_m1, nI_eq (by omega) (by omega)] at h; omega
theorem dir_adj {x y a b d : Nat} (hd : d < 4) (hx : x < 2 ^ 30) (hy : y < 2 ^ 30) (ha : a < 2 ^ 30) (hb : b < 2 ^ 30) (h1 : nI x + eB d = nI a) (h2 : nI y + sB d = nI b) : adj (x, y) (a, b) := by
  show (x = a ∧ (y + 1 = b ∨ b + 1 = y)) ∨ (y = b ∧ (x + 1 = a ∨ a + 1 = x))
  rcases (show d = 0 ∨ d = 1 ∨ d = 2 ∨ d = 3 by omega) with rfl | rfl | rfl | rfl
  · have h1' : nI x + 0 = nI a := h1
    rw [Int32.add_zero, nI_eq (by omega) (by omega)] at h1'
    have := m1_of hy hb h2
    omega
  · have h1' : nI x + 1 = nI a := h1
    have h2' : nI y + 0 = nI b := h2
    rw [nI_1, nI_eq (by omega) (by omega)] at h1'
    rw [Int32.add_zero, nI_eq (by omega) (by omega)] at h2'
    omega
  · have h1' : nI x + 0 = nI a := h1
    have h2' : nI y + 1 = nI b := h2
    rw [Int32.add_zero, nI_eq (by omega) (by omega)] at h1'
    rw [nI_1, nI_eq (by omega) (by omega)] at h2'
    omega
  · have h2' : nI y + 0 = nI b := h2
    rw [Int32.add_zero, nI_eq (by omega) (by omega)] at h2'
    have := m1_of hx ha h1
    omega
theorem bsx' {x : Int32} {d : Nat} (hd : d < 4) : f_X4_besideX q X x (nI d) = x + eB d := by
  rcases (show d = 0 ∨ d = 1 ∨ d = 2 ∨ d = 3 by omega) with rfl | rfl | rfl | rfl
  · show x = x + 0; simp
  · rfl
  · show x = x + 0; simp
  · show x - 1 = x + -1; exact Int32.sub_eq_add_neg _ _
theorem bsy' {x : Int32} {d : Nat} (hd : d < 4) : f_X4_besideY q X x (nI d) = x + sB d := by
  rcases (show d = 0 ∨ d = 1 ∨ d = 2 ∨ d = 3 by omega) with rfl | rfl | rfl | rfl
  · show x - 1 = x + -1; exact Int32.sub_eq_add_neg _ _
  · show x = x + 0; simp
  · rfl
  · show x = x + 0; simp
/-- free or not -/
theorem frr (hI : mI q X) (x y : Int32) : (f_X4_isFree q X x y = 0 ∧ ∀ a b : Nat, x = nI a → y = nI b → ¬ opn q X a b) ∨ ∃ a b : Nat, opn q X a b ∧ x = nI a ∧ y = nI b ∧ ¬ f_X4_isFree q X x y = 0 := by
  have h8 := hI.2.1
  by_cases c : f_X4_isInside q X x y = 0
  · left
    refine ⟨by unfold f_X4_isFree; rw [if_pos c], ?_⟩
    rintro a b rfl rfl ⟨ha, hb, -⟩
    unfold f_X4_isInside f_X4_in at c
    rw [hI.1.1, hI.1.2.1] at c
    obtain ⟨w, hw⟩ : ∃ w, q.2.1 1 = w + 1 := ⟨q.2.1 1 - 1, by omega⟩
    obtain ⟨h, hh⟩ : ∃ h, q.2.1 2 = h + 1 := ⟨q.2.1 2 - 1, by omega⟩
    rw [hw, hh, nI_pred, nI_pred, if_neg (nI_pos (by omega)), if_neg (nI_nlt (by omega) (by omega)), if_neg (nI_pos (by omega)), if_neg (nI_nlt (by omega) (by omega))] at c
    exact absurd c (by decide)
  · obtain ⟨p1, p2⟩ := m_ins hI c
    obtain ⟨a, ha, rfl⟩ := vp_in_of p1 (by omega)
    obtain ⟨b, hb, rfl⟩ := vp_in_of p2 (by omega)
    unfold f_X4_isFree
    rw [if_neg c, sqM' (by omega) (by omega)]
    by_cases c1 : X 0 1 (32 * b + a) = 0
    · right
      exact ⟨a, b, ⟨ha, hb, c1⟩, rfl, rfl, by rw [if_pos c1]; decide⟩
    · left
      refine ⟨by rw [if_neg c1], ?_⟩
      rintro a' b' e1 e2 ⟨ha', hb', h9⟩
      rw [nI_eq (by omega) (by omega)] at e1 e2
      subst e1 e2
      exact c1 h9
/-- only row 15 differs -/
def Sm (X Y : Mem) : Prop := ∀ r, r ≠ 15 → Y 0 r = X 0 r
theorem Sm.refl (X : Mem) : Sm X X := fun _ _ => rfl
theorem Sm.trans (h1 : Sm X Y) (h2 : Sm Y Z) : Sm X Z := fun r hr => (h2 r hr).trans (h1 r hr)
theorem Sm_mI (h : Sm X Y) (hI : mI q X) : mI q Y := by
  unfold mI at *
  rw [h 0 (by decide), h 3 (by decide), h 4 (by decide), h 5 (by decide), h 7 (by decide), h 12 (by decide)]
  exact hI
theorem Sm.mI (h : Sm X Y) (hI : mI q X) : mI q Y := Sm_mI h hI
theorem Sm_opn (h : Sm X Y) : opn q Y = opn q X := by
  funext a b
  unfold opn
  rw [h 1 (by decide)]
theorem Sm.opn (h : Sm X Y) : opn q Y = opn q X := Sm_opn h
theorem Sm.mu {t : Nat} {v : Int32} : Sm X (mu X 0 15 t v) := fun r hr => mu_off X t v (by omega)
abbrev FA : Int32 := nI 100000
/-- labels s + 1 have been laid beside labels s, where it was far -/
def ExR (q : MK) (s : Nat) (X Y : Mem) : Prop := Sm X Y ∧ ∀ t, Y 0 15 t = X 0 15 t ∨ (X 0 15 t = FA ∧ Y 0 15 t = nI (s + 1) ∧ ∃ x y u v : Nat, t = 32 * y + x ∧ opn q X x y ∧ u < q.2.1 1 ∧ v < q.2.1 2 ∧ adj (u, v) (x, y) ∧ X 0 15 (32 * v + u) = nI s)
def Chg (X Y : Mem) : Prop := ∃ t, t < 1024 ∧ X 0 15 t = FA ∧ Y 0 15 t ≠ FA
def Pg (q : MK) (s : Nat) (X Y : Mem) (f g : Int32) : Prop := ExR q s X Y ∧ (g = 0 → f = 0 ∧ Y 0 15 = X 0 15) ∧ (g ≠ 0 → f ≠ 0 ∨ Chg X Y)
theorem ExR.refl (s : Nat) (X : Mem) : ExR q s X X := ⟨Sm.refl X, fun _ => Or.inl rfl⟩
theorem fa_s {s : Nat} (hs : s < 99999) : ¬ nI (s + 1) = FA := fun e => by
  rw [nI_eq (by omega) (by omega)] at e
  omega
theorem ExR.far {s : Nat} (hs : s < 99999) (h : ExR q s X Y) {t : Nat} (e : Y 0 15 t = FA) : X 0 15 t = FA := by
  rcases h.2 t with h1 | ⟨h1, -⟩
  · rw [← h1]; exact e
  · exact h1
theorem ExR.trans {s : Nat} (hs : s < 99999) (h1 : ExR q s X Y) (h2 : ExR q s Y Z) : ExR q s X Z := by
  refine ⟨h1.1.trans h2.1, fun t => ?_⟩
  rcases h2.2 t with e2 | ⟨a2, b2, x, y, u, v, c1, c2, c3, c4, c5, c6⟩
  · rcases h1.2 t with e1 | ⟨a1, b1, c⟩
    · exact Or.inl (e2.trans e1)
    · exact Or.inr ⟨a1, e2.trans b1, c⟩
  · refine Or.inr ⟨h1.far hs a2, b2, x, y, u, v, c1, ?_, c3, c4, c5, ?_⟩
    · rw [← h1.1.opn]; exact c2
    · rcases h1.2 (32 * v + u) with e1 | ⟨a1, b1, -⟩
      · rw [← e1]; exact c6
      · rw [b1, nI_eq (by omega) (by omega)] at c6
        omega
theorem Pg.refl {s : Nat} {f : Int32} : Pg q s X X f f := ⟨ExR.refl s X, fun h => ⟨h, rfl⟩, fun h => Or.inl h⟩
theorem Pg.trans {s : Nat} {f g h : Int32} (hs : s < 99999) (h1 : Pg q s X Y f g) (h2 : Pg q s Y Z g h) : Pg q s X Z f h := by
  refine ⟨h1.1.trans hs h2.1, fun e => ?_, fun e => ?_⟩
  · obtain ⟨a, b⟩ := h2.2.1 e
    obtain ⟨c, d⟩ := h1.2.1 a
    exact ⟨c, b.trans d⟩
  · rcases h2.2.2 e with a | ⟨t, ht, a, b⟩
    · rcases h1.2.2 a with c | ⟨t, ht, c, d⟩
      · exact Or.inl c
      · exact Or.inr ⟨t, ht, c, fun z => d (h2.1.far hs z)⟩
    · exact Or.inr ⟨t, ht, h1.1.far hs a, b⟩
/-- labels are far or at most s + 1 -/
def Dm (s : Nat) (X : Mem) : Prop := ∀ t, t < 1024 → X 0 15 t = FA ∨ ∃ n : Nat, n ≤ s + 1 ∧ X 0 15 t = nI n
theorem Dm.ext {s : Nat} (h : Dm s X) (e : ExR q s X Y) : Dm s Y := by
  intro t ht
  rcases e.2 t with h1 | ⟨-, h1, -⟩
  · rw [h1]; exact h t ht
  · exact Or.inr ⟨s + 1, by omega, h1⟩
/-- beside (x, y) nothing open is far -/
def Prc (q : MK) (X : Mem) (x y : Nat) : Prop := ∀ a b : Nat, adj (x, y) (a, b) → opn q X a b → X 0 15 (32 * b + a) ≠ FA
theorem Prc.ext {s x y : Nat} (hs : s < 99999) (h : Prc q X x y) (e : ExR q s X Y) : Prc q Y x y := by
  intro a b h1 h2 h3
  rw [e.1.opn] at h2
  exact h a b h1 h2 (e.far hs h3)
theorem opn_lt (hI : mI q X) {a b : Nat} (h : opn q X a b) : a < 32 ∧ b < 32 ∧ 32 * b + a < 1024 := by
  have h8 := hI.2.1
  obtain ⟨h1, h2, -⟩ := h
  omega
/-- one direction after the other -/
theorem reachL {s x y : Nat} (hs : s < 2000) (hx : x < q.2.1 1) (hy : y < q.2.1 2) : ∀ (n d : Nat) (f : Int32) (X : Mem), d ≤ 4 → 4 < d + n → mI q X → Dm s X → X 0 15 (32 * y + x) = nI s → Pg q s X (f_X4_reach_L6 q (nI x) (nI y) (nI (s + 1)) n f (nI d) X).2 f (f_X4_reach_L6 q (nI x) (nI y) (nI (s + 1)) n f (nI d) X).1 ∧ ∀ e a b : Nat, d ≤ e → e < 4 → nI x + eB e = nI a → nI y + sB e = nI b → opn q X a b → (f_X4_reach_L6 q (nI x) (nI y) (nI (s + 1)) n f (nI d) X).2 0 15 (32 * b + a) ≠ FA := by
  intro n
  induction n with
  | zero => intro d f X h1 h2; omega
  | succ n ih =>
    intro d f X h1 h2 hI hD hl
    have h8 := hI.2.1
    rw [f_X4_reach_L6]
    by_cases c : 4 ≤ d
    · rw [if_pos (show (4 : Int32) ≤ nI d from nI_le (a := 4) c (by omega))]
      exact ⟨Pg.refl, fun e a b h3 h4 => by omega⟩
    · have hd : d < 4 := by omega
      rw [if_neg (show ¬ (4 : Int32) ≤ nI d from nI_ge (b := 4) (by omega) (by omega)), bsx' hd, bsy' hd, nI_1]
      rcases frr hI (nI x + eB d) (nI y + sB d) with ⟨c1, c2⟩ | ⟨a, b, ho, e1, e2, c1⟩
      · rw [if_pos c1]
        obtain ⟨g1, g2⟩ := ih (d + 1) f X (by omega) (by omega) hI hD hl
        refine ⟨g1, fun e a b h3 h4 h5 h6 h7 => ?_⟩
        rcases Nat.lt_or_ge d e with h9 | h9
        · exact g2 e a b h9 h4 h5 h6 h7
        · have : e = d := by omega
          subst this
          exact absurd h7 (c2 a b h5 h6)
      · obtain ⟨l1, l2, l3⟩ := opn_lt hI ho
        rw [if_neg c1, e1, e2, sqM' l1 l2]
        by_cases c3 : X 0 15 (32 * b + a) ≤ nI (s + 1)
        · rw [if_pos c3]
          have hnf : X 0 15 (32 * b + a) ≠ FA := fun z => by
            rw [z, nI_leI (by omega) (by omega)] at c3
            omega
          obtain ⟨g1, g2⟩ := ih (d + 1) f X (by omega) (by omega) hI hD hl
          refine ⟨g1, fun e a' b' h3 h4 h5 h6 h7 => ?_⟩
          rcases Nat.lt_or_ge d e with h9 | h9
          · exact g2 e a' b' h9 h4 h5 h6 h7
          · have : e = d := by omega
            subst this
            obtain ⟨l1', l2', l3'⟩ := opn_lt hI h7
            rw [e1, nI_eq (by omega) (by omega)] at h5
            rw [e2, nI_eq (by omega) (by omega)] at h6
            subst h5 h6
            exact fun z => hnf (g1.1.far (by omega) z)
        · rw [if_neg c3]
          have hf : X 0 15 (32 * b + a) = FA := by
            rcases hD _ l3 with h3 | ⟨m, hm, h3⟩
            · exact h3
            · rw [h3] at c3
              exact absurd (nI_le hm (by omega)) c3
          have hE : ExR q s X (mu X 0 15 (32 * b + a) (nI (s + 1))) := by
            refine ⟨Sm.mu, fun t => ?_⟩
            rw [mu_at]
            by_cases ht : t = 32 * b + a
            · subst ht
              rw [if_pos ⟨rfl, rfl, rfl⟩]
              exact Or.inr ⟨hf, rfl, a, b, x, y, rfl, ho, hx, hy, dir_adj hd (by omega) (by omega) (by omega) (by omega) e1 e2, hl⟩
            · rw [if_neg (by omega)]
              exact Or.inl rfl
          have hP : Pg q s X (mu X 0 15 (32 * b + a) (nI (s + 1))) f 1 := ⟨hE, fun z => absurd z (by decide), fun _ => Or.inr ⟨_, l3, hf, by rw [mu_eq]; exact fa_s (by omega)⟩⟩
          obtain ⟨g1, g2⟩ := ih (d + 1) 1 (mu X 0 15 (32 * b + a) (nI (s + 1))) (by omega) (by omega) (hE.1.mI hI) (hD.ext hE) (by
            rw [mu_at, if_neg]
            · exact hl
            · rintro ⟨-, -, z⟩
              rw [z, hf, nI_eq (by omega) (by omega)] at hl
              omega)
          refine ⟨hP.trans (by omega) g1, fun e a' b' h3 h4 h5 h6 h7 => ?_⟩
          rcases Nat.lt_or_ge d e with h9 | h9
          · refine g2 e a' b' h9 h4 h5 h6 ?_
            rw [hE.1.opn]; exact h7
          · have : e = d := by omega
            subst this
            obtain ⟨l1', l2', l3'⟩ := opn_lt hI h7
            rw [e1, nI_eq (by omega) (by omega)] at h5
            rw [e2, nI_eq (by omega) (by omega)] at h6
            subst h5 h6
            intro z
            have := g1.1.far (by omega) z
            rw [mu_eq] at this
            exact fa_s (by omega) this
theorem reachS {s x y : Nat} (hs : s < 2000) (hx : x < q.2.1 1) (hy : y < q.2.1 2) (hI : mI q X) (hD : Dm s X) (hl : X 0 15 (32 * y + x) = nI s) : Pg q s X (f_X4_reach q X (nI x) (nI y) (nI s + 1)).2 0 (f_X4_reach q X (nI x) (nI y) (nI s + 1)).1 ∧ Prc q (f_X4_reach q X (nI x) (nI y) (nI s + 1)).2 x y := by
  unfold f_X4_reach
  rw [mI_F hI, nI_1]
  obtain ⟨g1, g2⟩ := reachL hs hx hy 1026 0 0 X (by omega) (by omega) hI hD hl
  rw [nI_0] at g1 g2
  refine ⟨g1, fun a b h1 h2 => ?_⟩
  rw [g1.1.1.opn] at h2
  obtain ⟨d, hd, e1, e2⟩ := dir_of h1
  exact g2 d a b (by omega) hd e1 e2 h2
/-- a row of squares -/
theorem ms60 {s y : Nat} (hs : s < 2000) (hy : y < q.2.1 2) : ∀ (n x : Nat) (f : Int32) (X : Mem), x ≤ q.2.1 1 → q.2.1 1 < x + n → mI q X → Dm s X → Pg q s X (f_X4_measure_L60 q (nI s) (nI y) n f (nI x) X).2 f (f_X4_measure_L60 q (nI s) (nI y) n f (nI x) X).1 ∧ ∀ e : Nat, x ≤ e → e < q.2.1 1 → X 0 15 (32 * y + e) = nI s → Prc q (f_X4_measure_L60 q (nI s) (nI y) n f (nI x) X).2 e y := by
  intro n
  induction n with
  | zero => intro x f X h1 h2; omega
  | succ n ih =>
    intro x f X h1 h2 hI hD
    have h8 := hI.2.1
    rw [f_X4_measure_L60, hI.1.1]
    by_cases c : q.2.1 1 ≤ x
    · rw [if_pos (nI_le c (by omega))]
      exact ⟨Pg.refl, fun e h3 h4 => by omega⟩
    · have hx : x < q.2.1 1 := by omega
      rw [if_neg (nI_ge hx (by omega)), sqM' (by omega) (by omega)]
      by_cases c1 : X 0 15 (32 * y + x) = nI s
      · rw [if_pos c1]
        obtain ⟨r1, r2⟩ := reachS hs hx hy hI hD c1
        have step : ∀ g : Int32, Pg q s X (f_X4_reach q X (nI x) (nI y) (nI s + 1)).2 f g → Pg q s X (f_X4_measure_L60 q (nI s) (nI y) n g (nI x + 1) (f_X4_reach q X (nI x) (nI y) (nI s + 1)).2).2 f (f_X4_measure_L60 q (nI s) (nI y) n g (nI x + 1) (f_X4_reach q X (nI x) (nI y) (nI s + 1)).2).1 ∧ ∀ e : Nat, x ≤ e → e < q.2.1 1 → X 0 15 (32 * y + e) = nI s → Prc q (f_X4_measure_L60 q (nI s) (nI y) n g (nI x + 1) (f_X4_reach q X (nI x) (nI y) (nI s + 1)).2).2 e y := by
          intro g hg
          rw [nI_1 x]
          obtain ⟨g1, g2⟩ := ih (x + 1) g _ (by omega) (by omega) (r1.1.1.mI hI) (hD.ext r1.1)
          refine ⟨hg.trans (by omega) g1, fun e h3 h4 h5 => ?_⟩
          rcases Nat.lt_or_ge x e with h9 | h9
          · refine g2 e h9 h4 ?_
            rcases r1.1.2 (32 * y + e) with h6 | ⟨h6, -⟩
            · rw [h6]; exact h5
            · rw [h5, nI_eq (by omega) (by omega)] at h6
              omega
          · have : e = x := by omega
            subst this
            exact r2.ext (by omega) g1.1
        by_cases c2 : (f_X4_reach q X (nI x) (nI y) (nI s + 1)).1 = 0
        · rw [if_pos c2]
          by_cases c3 : f = 0
          · rw [if_pos c3]
            refine step 0 ⟨r1.1, fun _ => ⟨c3, (r1.2.1 c2).2⟩, fun z => absurd rfl z⟩
          · rw [if_neg c3]
            exact step 1 ⟨r1.1, fun z => absurd z (by decide), fun _ => Or.inl c3⟩
        · rw [if_neg c2]
          refine step 1 ⟨r1.1, fun z => absurd z (by decide), fun _ => Or.inr ?_⟩
          rcases r1.2.2 c2 with h9 | h9
          · exact absurd rfl h9
          · exact h9
      · rw [if_neg c1, nI_1]
        obtain ⟨g1, g2⟩ := ih (x + 1) f X (by omega) (by omega) hI hD
        refine ⟨g1, fun e h3 h4 h5 => ?_⟩
        rcases Nat.lt_or_ge x e with h9 | h9
        · exact g2 e h9 h4 h5
        · have : e = x := by omega
          subst this
          exact absurd h5 c1
/-- all rows -/
theorem ms48 {s : Nat} (hs : s < 2000) : ∀ (n y : Nat) (f : Int32) (X : Mem), y ≤ q.2.1 2 → q.2.1 2 < y + n → mI q X → Dm s X → Pg q s X (f_X4_measure_L48 q (nI s) n f (nI y) X).2 f (f_X4_measure_L48 q (nI s) n f (nI y) X).1 ∧ ∀ e d : Nat, y ≤ e → e < q.2.1 2 → d < q.2.1 1 → X 0 15 (32 * e + d) = nI s → Prc q (f_X4_measure_L48 q (nI s) n f (nI y) X).2 d e := by
  intro n
  induction n with
  | zero => intro x f X h1 h2; omega
  | succ n ih =>
    intro y f X h1 h2 hI hD
    have h8 := hI.2.1
    rw [f_X4_measure_L48, hI.1.2.1]
    by_cases c : q.2.1 2 ≤ y
    · rw [if_pos (nI_le c (by omega))]
      exact ⟨Pg.refl, fun e d h3 h4 => by omega⟩
    · have hy : y < q.2.1 2 := by omega
      rw [if_neg (nI_ge hy (by omega)), nI_1]
      obtain ⟨r1, r2⟩ := ms60 hs hy (q.2.1 1 + 1) 0 f X (by omega) (by omega) hI hD
      rw [nI_0] at r1 r2
      obtain ⟨g1, g2⟩ := ih (y + 1) _ _ (by omega) (by omega) (r1.1.1.mI hI) (hD.ext r1.1)
      refine ⟨r1.trans (by omega) g1, fun e d h3 h4 h5 h6 => ?_⟩
      rcases Nat.lt_or_ge y e with h9 | h9
      · refine g2 e d h9 h4 h5 ?_
        rcases r1.1.2 (32 * e + d) with h7 | ⟨h7, -⟩
        · rw [h7]; exact h6
        · rw [h6, nI_eq (by omega) (by omega)] at h7
          omega
      · have : e = y := by omega
        subst this
        exact (r2 d (by omega) h5 h6).ext (by omega) g1.1
/-- how many are far -/
def cntF (f : Nat → Int32) : Nat → Nat
  | 0 => 0
  | n + 1 => cntF f n + if f n = FA then 1 else 0
theorem cntF_le {f g : Nat → Int32} (h : ∀ t, g t = FA → f t = FA) : ∀ n, cntF g n ≤ cntF f n := by
  intro n
  induction n with
  | zero => exact Nat.le_refl _
  | succ n ih =>
    show cntF g n + (if g n = FA then 1 else 0) ≤ cntF f n + (if f n = FA then 1 else 0)
    by_cases c : g n = FA
    · rw [if_pos c, if_pos (h n c)]; omega
    · rw [if_neg c]; omega
theorem cntF_lt {f g : Nat → Int32} (h : ∀ t, g t = FA → f t = FA) {u : Nat} (h1 : f u = FA) (h2 : g u ≠ FA) : ∀ n, u < n → cntF g n + 1 ≤ cntF f n := by
  intro n
  induction n with
  | zero => intro hu; omega
  | succ n ih =>
    intro hu
    show cntF g n + (if g n = FA then 1 else 0) + 1 ≤ cntF f n + (if f n = FA then 1 else 0)
    by_cases c : u = n
    · subst c
      rw [if_neg h2, if_pos h1]
      have := cntF_le h u
      omega
    · have := ih (by omega)
      by_cases c : g n = FA
      · rw [if_pos c, if_pos (h n c)]; omega
      · rw [if_neg c]; omega
theorem cntF_n (f : Nat → Int32) : ∀ n, cntF f n ≤ n := by
  intro n
  induction n with
  | zero => exact Nat.le_refl _
  | succ n ih =>
    show cntF f n + (if f n = FA then 1 else 0) ≤ n + 1
    split <;> omega
/-- the labels, read -/
def labR (q : MK) (X : Mem) (x y : Nat) : Option Nat := if x < q.2.1 1 ∧ y < q.2.1 2 then (if X 0 15 (32 * y + x) = FA then none else some (X 0 15 (32 * y + x)).toNatClampNeg) else none
/-- at the begin of round s -/
def Rnd (q : MK) (g : Nat × Nat) (s : Nat) (X : Mem) : Prop := (g.1 < q.2.1 1 ∧ g.2 < q.2.1 2 ∧ X 0 15 (32 * g.2 + g.1) = 0) ∧ (∀ t, t < 1024 → X 0 15 t = FA ∨ ∃ n : Nat, n ≤ s ∧ X 0 15 t = nI n) ∧ (∀ x y n : Nat, x < q.2.1 1 → y < q.2.1 2 → n ≤ s → X 0 15 (32 * y + x) = nI n → wk (opn q X) g n (x, y)) ∧ ∀ x y n : Nat, x < q.2.1 1 → y < q.2.1 2 → n < s → X 0 15 (32 * y + x) = nI n → ∀ a b : Nat, adj (x, y) (a, b) → opn q X a b → ∃ m : Nat, m ≤ n + 1 ∧ X 0 15 (32 * b + a) = nI m
/-- at the end -/
def FnR (q : MK) (g : Nat × Nat) (X : Mem) : Prop := Cert (opn q X) g (labR q X) ∧ ∀ t, t < 1024 → X 0 15 t = FA ∨ ∃ n : Nat, n ≤ 1026 ∧ X 0 15 t = nI n
theorem rnd_fin {g : Nat × Nat} {s : Nat} (hs : s ≤ 1025) (hI : mI q X) (h : Rnd q g (s + 1) X) (hn : ∀ t, t < 1024 → X 0 15 t ≠ nI (s + 1)) : FnR q g X := by
  have h8 := hI.2.1
  obtain ⟨⟨g1, g2, g3⟩, hd, hw, hp⟩ := h
  have lab : ∀ x y n : Nat, labR q X x y = some n → x < q.2.1 1 ∧ y < q.2.1 2 ∧ X 0 15 (32 * y + x) = nI n ∧ n ≤ s := by
    intro x y n e
    unfold labR at e
    by_cases c : x < q.2.1 1 ∧ y < q.2.1 2
    · rw [if_pos c] at e
      by_cases c1 : X 0 15 (32 * y + x) = FA
      · rw [if_pos c1] at e; cases e
      · rw [if_neg c1] at e
        rcases hd (32 * y + x) (by omega) with h1 | ⟨m, hm, h1⟩
        · exact absurd h1 c1
        · have e' := Option.some.inj e
          rw [h1, nI_clamp (by omega)] at e'
          subst e'
          refine ⟨c.1, c.2, h1, ?_⟩
          rcases Nat.lt_or_ge s m with h2 | h2
          · have : m = s + 1 := by omega
            subst this
            exact absurd h1 (hn _ (by omega))
          · exact h2
    · rw [if_neg c] at e; cases e
  have lab' : ∀ x y m : Nat, x < q.2.1 1 → y < q.2.1 2 → m ≤ 2000 → X 0 15 (32 * y + x) = nI m → labR q X x y = some m := by
    intro x y m hx hy hm e
    unfold labR
    rw [if_pos ⟨hx, hy⟩, e, if_neg (fun z => by rw [nI_eq (by omega) (by omega)] at z; omega), nI_clamp (by omega)]
  refine ⟨⟨?_, ?_, ?_⟩, fun t ht => ?_⟩
  · exact lab' _ _ 0 g1 g2 (by omega) (g3.trans nI_0.symm)
  · intro x y n e
    obtain ⟨a1, a2, a3, a4⟩ := lab x y n e
    exact hw x y n a1 a2 (by omega) a3
  · intro x y n e p h1 h2
    obtain ⟨a1, a2, a3, a4⟩ := lab x y n e
    obtain ⟨m, hm, e2⟩ := hp x y n a1 a2 (by omega) a3 p.1 p.2 h1 h2
    exact ⟨m, hm, lab' _ _ m h2.1 h2.2.1 (by omega) e2⟩
  · rcases hd t ht with h1 | ⟨n, hn', h1⟩
    · exact Or.inl h1
    · exact Or.inr ⟨n, by omega, h1⟩
/-- a round -/
theorem rnd_s {g : Nat × Nat} {s : Nat} (hs : s ≤ 1025) (hI : mI q X) (h : Rnd q g s X) : Rnd q g (s + 1) (f_X4_measure_L48 q (nI s) (q.2.1 2 + 1) 0 0 X).2 ∧ Pg q s X (f_X4_measure_L48 q (nI s) (q.2.1 2 + 1) 0 0 X).2 0 (f_X4_measure_L48 q (nI s) (q.2.1 2 + 1) 0 0 X).1 := by
  have h8 := hI.2.1
  obtain ⟨⟨g1, g2, g3⟩, hd, hw, hp⟩ := h
  have hD : Dm s X := fun t ht => (hd t ht).imp_right (fun ⟨n, hn, e⟩ => ⟨n, by omega, e⟩)
  obtain ⟨r1, r2⟩ := ms48 (by omega) (q.2.1 2 + 1) 0 0 X (by omega) (by omega) hI hD
  rw [nI_0] at r1 r2
  refine ⟨?_, r1⟩
  generalize (f_X4_measure_L48 q (nI s) (q.2.1 2 + 1) 0 0 X).2 = Y at r1 r2 ⊢
  have hE := r1.1
  have keep : ∀ t n : Nat, n ≤ s → X 0 15 t = nI n → Y 0 15 t = nI n := fun t n hn e => by
    rcases hE.2 t with h1 | ⟨h1, -⟩
    · rw [h1]; exact e
    · rw [e, nI_eq (by omega) (by omega)] at h1
      omega
  have back : ∀ t n : Nat, n ≤ s → Y 0 15 t = nI n → X 0 15 t = nI n := fun t n hn e => by
    rcases hE.2 t with h1 | ⟨-, h1, -⟩
    · rw [← h1]; exact e
    · rw [h1, nI_eq (by omega) (by omega)] at e
      omega
  have hDY := hD.ext hE
  refine ⟨⟨g1, g2, ?_⟩, hDY, ?_, ?_⟩
  · rw [← nI_0] at g3 ⊢
    exact keep _ 0 (by omega) g3
  · intro x y n hx hy hn e
    rw [hE.1.opn]
    rcases Nat.lt_or_ge s n with h1 | h1
    · have : n = s + 1 := by omega
      subst this
      rcases hE.2 (32 * y + x) with h2 | ⟨h2, h3, x', y', u, v, c1, c2, c3, c4, c5, c6⟩
      · rw [e] at h2
        rcases hd (32 * y + x) (by omega) with h4 | ⟨m, hm, h4⟩
        · rw [h4] at h2; exact absurd h2 (fa_s (by omega))
        · rw [h4, nI_eq (by omega) (by omega)] at h2
          omega
      · have hx' := c2.1
        have : x = x' ∧ y = y' := by omega
        obtain ⟨rfl, rfl⟩ := this
        exact ⟨(u, v), hw u v s c3 c4 (by omega) c6, c5, c2⟩
    · exact hw x y n hx hy h1 (back _ n h1 e)
  · intro x y n hx hy hn e a b h1 h2
    have e' := back _ n (by omega) e
    rw [hE.1.opn] at h2
    rcases Nat.lt_or_ge n s with h3 | h3
    · obtain ⟨m, hm, e2⟩ := hp x y n hx hy h3 e' a b h1 h2
      exact ⟨m, hm, keep _ m (by omega) e2⟩
    · have : n = s := by omega
      subst this
      have h4 := r2 y x (by omega) hy hx e' a b h1 (by rw [hE.1.opn]; exact h2)
      rcases hDY (32 * b + a) (by have := h2.1; have := h2.2.1; omega) with h5 | ⟨m, hm, h5⟩
      · exact absurd h5 h4
      · exact ⟨m, hm, h5⟩
theorem ms39 {g : Nat × Nat} : ∀ (n s : Nat) (f : Int32) (X : Mem), mI q X → s + n ≤ 1026 → (f = 0 ∧ 1 ≤ n ∧ FnR q g X) ∨ (f ≠ 0 ∧ Rnd q g s X ∧ cntF (X 0 15) 1024 + 2 ≤ n) → ok_X4_measure_L39 q n f (nI s) X ∧ FnR q g (f_X4_measure_L39 q n f (nI s) X) ∧ Sm X (f_X4_measure_L39 q n f (nI s) X) := by
  intro n
  induction n with
  | zero => intro s f X hI hs h; omega
  | succ n ih =>
    intro s f X hI hs h
    rw [ok_X4_measure_L39, f_X4_measure_L39]
    rcases h with ⟨h1, h2, h3⟩ | ⟨h1, h2, h3⟩
    · rw [if_pos h1, if_pos h1]
      exact ⟨trivial, h3, Sm.refl X⟩
    · rw [if_neg h1, if_neg h1, nI_1]
      obtain ⟨r1, r2⟩ := rnd_s (by omega) hI h2
      have hI' := r2.1.1.mI hI
      obtain ⟨a, b, c⟩ := ih (s + 1) (f_X4_measure_L48 q (nI s) (q.2.1 2 + 1) 0 0 X).1 (f_X4_measure_L48 q (nI s) (q.2.1 2 + 1) 0 0 X).2 hI' (by omega) (by
        by_cases c : (f_X4_measure_L48 q (nI s) (q.2.1 2 + 1) 0 0 X).1 = 0
        · refine Or.inl ⟨c, by omega, rnd_fin (by omega) hI' r1 (fun t ht e => ?_)⟩
          rw [(r2.2.1 c).2] at e
          rcases h2.2.1 t ht with h4 | ⟨m, hm, h4⟩
          · rw [h4] at e; exact fa_s (by omega) e.symm
          · rw [h4, nI_eq (by omega) (by omega)] at e
            omega
        · refine Or.inr ⟨c, r1, ?_⟩
          rcases r2.2.2 c with h4 | ⟨t, ht, h4, h5⟩
          · exact absurd rfl h4
          · have := cntF_lt (f := X 0 15) (g := (f_X4_measure_L48 q (nI s) (q.2.1 2 + 1) 0 0 X).2 0 15) (fun t e => r2.1.far (by omega) e) h4 h5 1024 ht
            omega)
      exact ⟨a, b, r2.1.1.trans c⟩
theorem ms2 {p1 p2 : Int32} : ∀ (n t : Nat) (X : Mem), t ≤ 1024 → 1024 < t + n → ∀ a b c, f_X4_measure_L2 q p1 p2 n (nI t) X a b c = if a = 0 ∧ b = 15 ∧ t ≤ c ∧ c < 1024 then FA else X a b c := by
  intro n
  induction n with
  | zero => intro t X h1 h2; omega
  | succ n ih =>
    intro t X h1 h2 a b c
    rw [f_X4_measure_L2]
    by_cases c1 : 1024 ≤ t
    · rw [if_pos (show (1024 : Int32) ≤ nI t from nI_le (a := 1024) c1 (by omega)), if_neg (by omega)]
    · rw [if_neg (show ¬ (1024 : Int32) ≤ nI t from nI_ge (b := 1024) (by omega) (by omega)), nI_1, ih (t + 1) _ (by omega) (by omega), nI_clamp (by omega), mu_at]
      by_cases c2 : a = 0 ∧ b = 15 ∧ t + 1 ≤ c ∧ c < 1024
      · rw [if_pos c2, if_pos (by omega)]
      · rw [if_neg c2]
        by_cases c3 : a = 0 ∧ b = 15 ∧ c = t
        · rw [if_pos c3, if_pos (by omega)]
          rfl
        · rw [if_neg c3, if_neg (by omega)]
theorem ms_all {a b : Nat} (hI : mI q N) (ho : opn q N a b) : ok_X4_measure_L39 q (q.2.1 5) 1 0 (mu (f_X4_measure_L2 q (nI a) (nI b) (q.2.1 5) 0 N) 0 15 (f_X4_square q (f_X4_measure_L2 q (nI a) (nI b) (q.2.1 5) 0 N) (nI a) (nI b)).toNatClampNeg 0) ∧ FnR q (a, b) (f_X4_measure q N (nI a) (nI b)) ∧ Sm N (f_X4_measure q N (nI a) (nI b)) := by
  have h8 := hI.2.1
  have hF := mI_F hI
  obtain ⟨l1, l2, l3⟩ := opn_lt hI ho
  unfold f_X4_measure
  rw [sqM' l1 l2, hF]
  have e2 : ∀ x y z, f_X4_measure_L2 q (nI a) (nI b) 1026 0 N x y z = if x = 0 ∧ y = 15 ∧ z < 1024 then FA else N x y z := fun x y z => by
    have := ms2 (q := q) (p1 := nI a) (p2 := nI b) 1026 0 N (by omega) (by omega) x y z
    rw [nI_0] at this
    rw [this]
    by_cases c : x = 0 ∧ y = 15 ∧ z < 1024
    · rw [if_pos c, if_pos (by omega)]
    · rw [if_neg c, if_neg (by omega)]
  generalize f_X4_measure_L2 q (nI a) (nI b) 1026 0 N = X at e2
  have hS0 : Sm N X := fun r hr => funext fun t => by rw [e2, if_neg (by omega)]
  have hS : Sm N (mu X 0 15 (32 * b + a) 0) := hS0.trans Sm.mu
  have ev : ∀ t, t < 1024 → mu X 0 15 (32 * b + a) 0 0 15 t = if t = 32 * b + a then 0 else FA := fun t ht => by
    rw [mu_at]
    by_cases c : t = 32 * b + a
    · rw [if_pos ⟨rfl, rfl, c⟩, if_pos c]
    · rw [if_neg (by omega), if_neg c, e2, if_pos ⟨rfl, rfl, ht⟩]
  have hI' := hS.mI hI
  have hz : ¬ (0 : Int32) = FA := by decide
  have key : Rnd q (a, b) 0 (mu X 0 15 (32 * b + a) 0) ∧ cntF (mu X 0 15 (32 * b + a) 0 0 15) 1024 + 2 ≤ 1026 := by
    refine ⟨⟨⟨ho.1, ho.2.1, ?_⟩, fun t ht => ?_, ?_, ?_⟩, ?_⟩
    · rw [ev _ l3, if_pos rfl]
    · rw [ev t ht]
      by_cases c : t = 32 * b + a
      · rw [if_pos c]; exact Or.inr ⟨0, by omega, nI_0.symm⟩
      · rw [if_neg c]; exact Or.inl rfl
    · intro x y n hx hy hn e
      have : n = 0 := by omega
      subst this
      rw [ev _ (by omega)] at e
      by_cases c : 32 * y + x = 32 * b + a
      · show (x, y) = (a, b)
        have : x = a ∧ y = b := by omega
        rw [this.1, this.2]
      · rw [if_neg c, nI_0] at e
        exact absurd e.symm hz
    · intro x y n hx hy hn; omega
    · have := cntF_lt (f := fun _ => FA) (g := mu X 0 15 (32 * b + a) 0 0 15) (fun _ _ => rfl) (u := 32 * b + a) rfl (by rw [ev _ l3, if_pos rfl]; exact hz) 1024 l3
      have := cntF_n (fun _ => FA) 1024
      omega
  obtain ⟨r1, r2, r3⟩ := ms39 (g := (a, b)) 1026 0 1 (mu X 0 15 (32 * b + a) 0) hI' (by omega) (Or.inr ⟨by decide, key.1, key.2⟩)
  rw [nI_0] at r1 r2 r3
  exact ⟨r1, r2, hS.trans r3⟩
theorem okm' {x y : Int32} (hI : mI q N) (ho : ¬ f_X4_isFree q N x y = 0) : ok_X4_measure_L39 q (q.2.1 5) 1 0 (mu (f_X4_measure_L2 q x y (q.2.1 5) 0 N) 0 15 (f_X4_square q (f_X4_measure_L2 q x y (q.2.1 5) 0 N) x y).toNatClampNeg 0) := by
  rcases frr hI x y with ⟨h1, -⟩ | ⟨a, b, ho', rfl, rfl, -⟩
  · exact absurd h1 ho
  · exact (ms_all hI ho').1
end S1
theorem okm {k : MK} {M : Mem} {x y : Int32} (hI : mI k M) (ho : ¬ f_X4_isFree k M x y = 0) : ok_X4_measure_L39 k (k.2.1 5) 1 0 (mu (f_X4_measure_L2 k x y (k.2.1 5) 0 M) 0 15 (f_X4_square k (f_X4_measure_L2 k x y (k.2.1 5) 0 M) x y).toNatClampNeg 0) := okm' hI ho
