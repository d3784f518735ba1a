/-! THE TWO SIDE BY SIDE. Every slot of a robot, the clock and the last one that ran have their place in the reference's rows: lkD which slots of the class, lkR the row, lkI the index there. -/
def tau (t : Nat) : Nat := if t = 4 then 3 else if t = 5 then 4 else if t = 6 then 5 else if t = 7 then 9 else if t = 8 then 7 else if t = 9 then 14 else if t = 10 then 10 else 13
def lkD (k : CK) (g j t : Nat) : Prop := (g = 0 ∧ j = 0 ∧ (t = 2 ∨ t = 3)) ∨ (1 ≤ g ∧ g ≤ k.2.1 0 ∧ ((j = 0 ∧ 4 ≤ t ∧ t ≤ 11) ∨ (j = 3 ∧ t = 1) ∨ (j = 1 ∧ t < 100) ∨ (j = 2 ∧ t < 8) ∨ (j = 4 ∧ t < 16)))
def lkR (g j t : Nat) : Nat := if g = 0 then 0 else if j = 0 then tau t else if j = 3 then 12 else if j = 1 then 6 else if j = 2 then 8 else 11
def lkI (g j t : Nat) : Nat := if g = 0 then (if t = 2 then 20 else 19) else if j = 0 then g - 1 else if j = 3 then g - 1 else if j = 1 then 100 * (g - 1) + t else if j = 2 then 8 * (g - 1) + t else 16 * (g - 1) + t
theorem tau_inj {t t' : Nat} (h : 4 ≤ t ∧ t ≤ 11) (h' : 4 ≤ t' ∧ t' ≤ 11) (e : tau t = tau t') : t = t' := by
  rcases (show t = 4 ∨ t = 5 ∨ t = 6 ∨ t = 7 ∨ t = 8 ∨ t = 9 ∨ t = 10 ∨ t = 11 by omega) with rfl | rfl | rfl | rfl | rfl | rfl | rfl | rfl <;>
  rcases (show t' = 4 ∨ t' = 5 ∨ t' = 6 ∨ t' = 7 ∨ t' = 8 ∨ t' = 9 ∨ t' = 10 ∨ t' = 11 by omega) with rfl | rfl | rfl | rfl | rfl | rfl | rfl | rfl <;>
  first | rfl | (exact absurd e (by decide))
theorem tau_in {t : Nat} : tau t = 3 ∨ tau t = 4 ∨ tau t = 5 ∨ tau t = 9 ∨ tau t = 7 ∨ tau t = 14 ∨ tau t = 10 ∨ tau t = 13 := by
  unfold tau
  split
  · omega
  split
  · omega
  split
  · omega
  split
  · omega
  split
  · omega
  split
  · omega
  split <;> omega
theorem lk_z {g j t : Nat} (h : g = 0) : lkR g j t = 0 ∧ lkI g j t = if t = 2 then 20 else 19 := by subst h; exact ⟨rfl, rfl⟩
theorem lk_0 {g t : Nat} (h : 1 ≤ g) : lkR g 0 t = tau t ∧ lkI g 0 t = g - 1 := by
  have : ¬ g = 0 := by omega
  simp [lkR, lkI, this]
theorem lk_3 {g t : Nat} (h : 1 ≤ g) : lkR g 3 t = 12 ∧ lkI g 3 t = g - 1 := by
  have : ¬ g = 0 := by omega
  simp [lkR, lkI, this]
theorem lk_1 {g t : Nat} (h : 1 ≤ g) : lkR g 1 t = 6 ∧ lkI g 1 t = 100 * (g - 1) + t := by
  have : ¬ g = 0 := by omega
  simp [lkR, lkI, this]
theorem lk_2 {g t : Nat} (h : 1 ≤ g) : lkR g 2 t = 8 ∧ lkI g 2 t = 8 * (g - 1) + t := by
  have : ¬ g = 0 := by omega
  simp [lkR, lkI, this]
theorem lk_4 {g t : Nat} (h : 1 ≤ g) : lkR g 4 t = 11 ∧ lkI g 4 t = 16 * (g - 1) + t := by
  have : ¬ g = 0 := by omega
  simp [lkR, lkI, this]
theorem lk_inj {k : CK} {g j t g' j' t' : Nat} (h : lkD k g j t) (h' : lkD k g' j' t') (e1 : lkR g j t = lkR g' j' t') (e2 : lkI g j t = lkI g' j' t') : g = g' ∧ j = j' ∧ t = t' := by
  rcases h with ⟨a1, a2, a3⟩ | ⟨a1, a2, ⟨rfl, a3⟩ | ⟨rfl, a3⟩ | ⟨rfl, a3⟩ | ⟨rfl, a3⟩ | ⟨rfl, a3⟩⟩
  all_goals rcases h' with ⟨b1, b2, b3⟩ | ⟨b1, b2, ⟨rfl, b3⟩ | ⟨rfl, b3⟩ | ⟨rfl, b3⟩ | ⟨rfl, b3⟩ | ⟨rfl, b3⟩⟩
  all_goals
    first
    | rw [(lk_z a1).1] at e1; rw [(lk_z a1).2] at e2
    | rw [(lk_0 a1).1] at e1; rw [(lk_0 a1).2] at e2
    | rw [(lk_3 a1).1] at e1; rw [(lk_3 a1).2] at e2
    | rw [(lk_1 a1).1] at e1; rw [(lk_1 a1).2] at e2
    | rw [(lk_2 a1).1] at e1; rw [(lk_2 a1).2] at e2
    | rw [(lk_4 a1).1] at e1; rw [(lk_4 a1).2] at e2
  all_goals
    first
    | rw [(lk_z b1).1] at e1; rw [(lk_z b1).2] at e2
    | rw [(lk_0 b1).1] at e1; rw [(lk_0 b1).2] at e2
    | rw [(lk_3 b1).1] at e1; rw [(lk_3 b1).2] at e2
    | rw [(lk_1 b1).1] at e1; rw [(lk_1 b1).2] at e2
    | rw [(lk_2 b1).1] at e1; rw [(lk_2 b1).2] at e2
    | rw [(lk_4 b1).1] at e1; rw [(lk_4 b1).2] at e2
  all_goals have q1 := @tau_in t
  all_goals have q2 := @tau_in t'
  all_goals
    first
    | (exact ⟨by omega, rfl, tau_inj a3 b3 e1⟩)
    | (rcases a3 with rfl | rfl <;> rcases b3 with rfl | rfl <;> simp at e2 <;> (subst_vars; exact ⟨rfl, rfl, rfl⟩))
    | (exfalso; omega)
    | (refine ⟨?_, ?_, ?_⟩ <;> omega)
def SimL (k : CK) (M N : Mem) : Prop := ∀ g j t, lkD k g j t → M g j t = N 0 (lkR g j t) (lkI g j t)
theorem SimL.up {k : CK} {M N : Mem} (h : SimL k M N) {g j t r i : Nat} {v w : Int32} (hd : lkD k g j t) (er : lkR g j t = r) (ei : lkI g j t = i) (hv : v = w) : SimL k (mu M g j t v) (mu N 0 r i w) := by
  subst er ei hv
  intro a b c hc
  rw [mu_at, mu_at]
  by_cases h1 : a = g ∧ b = j ∧ c = t
  · obtain ⟨rfl, rfl, rfl⟩ := h1
    rw [if_pos ⟨rfl, rfl, rfl⟩, if_pos ⟨rfl, rfl, rfl⟩]
  · rw [if_neg h1, if_neg (fun h2 => h1 (lk_inj hc hd h2.2.1 h2.2.2))]
    exact h a b c hc
theorem SimL.offC {k : CK} {M N : Mem} (h : SimL k M N) {j t : Nat} {v : Int32} (hj : 1 ≤ j) : SimL k (mu M 0 j t v) N := by
  intro a b c hc
  rw [mu_at, if_neg (by unfold lkD at hc; omega)]
  exact h a b c hc
theorem SimL.offCr {k : CK} {M N : Mem} (h : SimL k M N) {j : Nat} {f : Nat → Int32} (hj : 1 ≤ j) : SimL k (mr M 0 j f) N := by
  intro a b c hc
  rw [mr_at, if_neg (by unfold lkD at hc; omega)]
  exact h a b c hc
theorem lkR_in {k : CK} {g j t : Nat} (h : lkD k g j t) : lkR g j t ≠ 1 ∧ lkR g j t ≠ 2 ∧ lkR g j t ≠ 15 := by
  have q1 := @tau_in t
  rcases h with ⟨a1, a2, a3⟩ | ⟨a1, a2, ⟨rfl, a3⟩ | ⟨rfl, a3⟩ | ⟨rfl, a3⟩ | ⟨rfl, a3⟩ | ⟨rfl, a3⟩⟩
  · rw [(lk_z a1).1]; omega
  · rw [(lk_0 a1).1]; omega
  · rw [(lk_3 a1).1]; omega
  · rw [(lk_1 a1).1]; omega
  · rw [(lk_2 a1).1]; omega
  · rw [(lk_4 a1).1]; omega
theorem SimL.offM {k : CK} {M N : Mem} (h : SimL k M N) {r i : Nat} {v : Int32} (hr : r = 1 ∨ r = 2 ∨ r = 15) : SimL k M (mu N 0 r i v) := by
  intro a b c hc
  have := lkR_in hc
  rw [mu_at, if_neg (by omega)]
  exact h a b c hc
section SL
variable {k : CK} {M N : Mem} {i : Nat}
theorem lkd0 {t : Nat} (hi : i < k.2.1 0) (ht : 4 ≤ t ∧ t ≤ 11) : lkD k (i + 1) 0 t := Or.inr ⟨by omega, by omega, Or.inl ⟨rfl, ht⟩⟩
theorem SimL.f (h : SimL k M N) (hi : i < k.2.1 0) (t : Nat) (ht : 4 ≤ t ∧ t ≤ 11) : M (i + 1) 0 t = N 0 (tau t) i := by
  have := h (i + 1) 0 t (lkd0 hi ht)
  rw [(lk_0 (by omega)).1, (lk_0 (by omega)).2] at this
  exact this
theorem SimL.cnt (h : SimL k M N) (hi : i < k.2.1 0) : M (i + 1) 3 1 = N 0 12 i := by
  have := h (i + 1) 3 1 (Or.inr ⟨by omega, by omega, Or.inr (Or.inl ⟨rfl, rfl⟩)⟩)
  rw [(lk_3 (by omega)).1, (lk_3 (by omega)).2] at this
  exact this
theorem SimL.prg (h : SimL k M N) (hi : i < k.2.1 0) {t : Nat} (ht : t < 100) : M (i + 1) 1 t = N 0 6 (100 * i + t) := by
  have := h (i + 1) 1 t (Or.inr ⟨by omega, by omega, Or.inr (Or.inr (Or.inl ⟨rfl, ht⟩))⟩)
  rw [(lk_1 (by omega)).1, (lk_1 (by omega)).2] at this
  exact this
theorem SimL.reg (h : SimL k M N) (hi : i < k.2.1 0) {t : Nat} (ht : t < 8) : M (i + 1) 2 t = N 0 8 (8 * i + t) := by
  have := h (i + 1) 2 t (Or.inr ⟨by omega, by omega, Or.inr (Or.inr (Or.inr (Or.inl ⟨rfl, ht⟩)))⟩)
  rw [(lk_2 (by omega)).1, (lk_2 (by omega)).2] at this
  exact this
theorem SimL.box (h : SimL k M N) (hi : i < k.2.1 0) {t : Nat} (ht : t < 16) : M (i + 1) 4 t = N 0 11 (16 * i + t) := by
  have := h (i + 1) 4 t (Or.inr ⟨by omega, by omega, Or.inr (Or.inr (Or.inr (Or.inr ⟨rfl, ht⟩)))⟩)
  rw [(lk_4 (by omega)).1, (lk_4 (by omega)).2] at this
  exact this
theorem SimL.clk (h : SimL k M N) : M 0 0 2 = N 0 0 20 := h 0 0 2 (Or.inl ⟨rfl, rfl, Or.inl rfl⟩)
theorem SimL.lst (h : SimL k M N) : M 0 0 3 = N 0 0 19 := h 0 0 3 (Or.inl ⟨rfl, rfl, Or.inr rfl⟩)
variable {v : Int32}
theorem SimL.uf (h : SimL k M N) (hi : i < k.2.1 0) (t : Nat) (ht : 4 ≤ t ∧ t ≤ 11) : SimL k (mu M (i + 1) 0 t v) (mu N 0 (tau t) i v) := h.up (lkd0 hi ht) (lk_0 (by omega)).1 (lk_0 (by omega)).2 rfl
theorem SimL.ucnt (h : SimL k M N) (hi : i < k.2.1 0) : SimL k (mu M (i + 1) 3 1 v) (mu N 0 12 i v) := h.up (Or.inr ⟨by omega, by omega, Or.inr (Or.inl ⟨rfl, rfl⟩)⟩) (lk_3 (by omega)).1 (lk_3 (by omega)).2 rfl
theorem SimL.uprg (h : SimL k M N) (hi : i < k.2.1 0) {t : Nat} (ht : t < 100) : SimL k (mu M (i + 1) 1 t v) (mu N 0 6 (100 * i + t) v) := h.up (Or.inr ⟨by omega, by omega, Or.inr (Or.inr (Or.inl ⟨rfl, ht⟩))⟩) (lk_1 (by omega)).1 (lk_1 (by omega)).2 rfl
theorem SimL.ureg (h : SimL k M N) (hi : i < k.2.1 0) {t : Nat} (ht : t < 8) : SimL k (mu M (i + 1) 2 t v) (mu N 0 8 (8 * i + t) v) := h.up (Or.inr ⟨by omega, by omega, Or.inr (Or.inr (Or.inr (Or.inl ⟨rfl, ht⟩)))⟩) (lk_2 (by omega)).1 (lk_2 (by omega)).2 rfl
theorem SimL.ubox (h : SimL k M N) (hi : i < k.2.1 0) {t : Nat} (ht : t < 16) : SimL k (mu M (i + 1) 4 t v) (mu N 0 11 (16 * i + t) v) := h.up (Or.inr ⟨by omega, by omega, Or.inr (Or.inr (Or.inr (Or.inr ⟨rfl, ht⟩)))⟩) (lk_4 (by omega)).1 (lk_4 (by omega)).2 rfl
theorem SimL.uclk (h : SimL k M N) : SimL k (mu M 0 0 2 v) (mu N 0 0 20 v) := h.up (Or.inl ⟨rfl, rfl, Or.inl rfl⟩) rfl rfl rfl
theorem SimL.ulst (h : SimL k M N) : SimL k (mu M 0 0 3 v) (mu N 0 0 19 v) := h.up (Or.inl ⟨rfl, rfl, Or.inr rfl⟩) rfl rfl rfl
end SL
/-! squares, the reference's own order, the cache of ways -/
def SQ (q : MK) (M N : Mem) : Prop := ∀ x y, x < q.2.1 1 → y < q.2.1 2 → M 0 2 (y * q.2.1 1 + x) = if N 0 1 (32 * y + x) = 0 then N 0 2 (32 * y + x) else -1
def NV (q : MK) (N : Mem) : Prop := (∀ i, i < q.2.1 0 → ∃ s : Nat, s ≤ 6 ∧ N 0 3 i = nI s) ∧ (∀ i, i < q.2.1 0 → N 0 3 i ≠ 0 → N 0 1 (32 * N 0 5 i + N 0 4 i).toNatClampNeg = 0) ∧ (∀ i, i < q.2.1 0 → ∃ c : Nat, c ≤ 9 ∧ N 0 10 i = nI c) ∧ (∀ i, i < q.2.1 0 → ¬ N 0 13 i < 0 ∧ (N 0 3 i = 0 ∨ N 0 3 i = 3 ∨ N 0 13 i = 0)) ∧ ∀ t, t < 1024 → (N 0 1 t = 0 ∧ ∃ a : Nat, a ≤ 99 ∧ N 0 2 t = nI a) ∨ (N 0 1 t = 1 ∧ N 0 2 t = 0)
def labC (q : MK) (M : Mem) (x y : Nat) : Option Nat := if x < q.2.1 1 ∧ y < q.2.1 2 then (if M 0 3 (y * q.2.1 1 + x) = -1 then none else some (M 0 3 (y * q.2.1 1 + x)).toNatClampNeg) else none
def CA (q : MK) (M N : Mem) : Prop := M 0 1 5 = -1 ∨ ∃ gx gy : Nat, gx < q.2.1 1 ∧ gy < q.2.1 2 ∧ M 0 1 5 = nI (32 * gy + gx) ∧ Cert (opn q N) (gx, gy) (labC q M) ∧ ∀ x y, x < q.2.1 1 → y < q.2.1 2 → M 0 3 (y * q.2.1 1 + x) = -1 ∨ ∃ n : Nat, n ≤ 1024 ∧ M 0 3 (y * q.2.1 1 + x) = nI n
def SD (k : CK) (q : MK) (M : Mem) : Prop := (k.2.1 0 = q.2.1 0 ∧ k.2.1 1 = q.2.1 1 * q.2.1 2 ∧ k.2.1 2 = q.2.1 3 ∧ k.2.1 3 = q.2.1 4) ∧ M 0 1 0 = nI (q.2.1 1) ∧ M 0 1 1 = nI (q.2.1 2) ∧ ∀ i, i < q.2.1 0 → M (i + 1) 0 0 = nI i
def SimX (k : CK) (q : MK) (M N : Mem) : Prop := SD k q M ∧ SimL k M N ∧ SQ q M N ∧ NV q N ∧ CA q M N
def SimR (k : CK) (q : MK) (M N : Mem) : Prop := cI k M ∧ mI q N ∧ SimX k q M N
theorem SQ.fr {q : MK} {M N M' N' : Mem} (h : SQ q M N) (e : M' 0 2 = M 0 2) (e1 : N' 0 1 = N 0 1) (e2 : N' 0 2 = N 0 2) : SQ q M' N' := by
  unfold SQ at *
  rw [e, e1, e2]
  exact h
theorem NV.fr {q : MK} {N N' : Mem} (h : NV q N) (e1 : N' 0 1 = N 0 1) (e2 : N' 0 2 = N 0 2) (e3 : N' 0 3 = N 0 3) (e4 : N' 0 4 = N 0 4) (e5 : N' 0 5 = N 0 5) (e10 : N' 0 10 = N 0 10) (e13 : N' 0 13 = N 0 13) : NV q N' := by
  unfold NV at *
  rw [e1, e2, e3, e4, e5, e10, e13]
  exact h
theorem CA.fr {q : MK} {M N M' N' : Mem} (h : CA q M N) (e : M' 0 1 5 = M 0 1 5) (e3 : M' 0 3 = M 0 3) (e1 : N' 0 1 = N 0 1) : CA q M' N' := by
  have e4 : opn q N' = opn q N := by funext x y; unfold opn; rw [e1]
  have e5 : labC q M' = labC q M := by funext x y; unfold labC; rw [e3]
  unfold CA at *
  rw [e, e3, e4, e5]
  exact h
theorem SD.fr {k : CK} {q : MK} {M M' : Mem} (h : SD k q M) (e : M' 0 1 0 = M 0 1 0) (e1 : M' 0 1 1 = M 0 1 1) (e2 : ∀ i, M' (i + 1) 0 0 = M (i + 1) 0 0) : SD k q M' := by
  unfold SD at *
  rw [e, e1]
  exact ⟨h.1, h.2.1, h.2.2.1, fun i hi => (e2 i).trans (h.2.2.2 i hi)⟩
theorem SimX.n {k : CK} {q : MK} {M N : Mem} (h : SimX k q M N) : k.2.1 0 = q.2.1 0 := h.1.1.1
/-- the class can't go wrong where the reference can't -/
theorem SimX.cI {k : CK} {q : MK} {M N : Mem} (h : SimX k q M N) (hI : mI q N) : cI k M := by
  obtain ⟨⟨⟨n0, n1, n2, n3⟩, e0, e1, -⟩, hL, -⟩ := h
  obtain ⟨-, b, -, r⟩ := hI
  refine ⟨⟨q.2.1 1, q.2.1 2, e0, e1, by omega, by omega, by omega, by omega, n1⟩, by omega, by omega, by omega, fun i hi => ⟨?_, ?_⟩⟩
  · rw [hL.cnt hi]
    obtain ⟨a, ha, e⟩ := (r i (by omega)).2.1
    rw [e]
    exact nI_pos (by omega)
  · rw [hL.f hi 8 (by omega)]
    obtain ⟨a, ha, e⟩ := (r i (by omega)).1
    rw [show tau 8 = 7 from rfl, e]
    exact nI_pos (by omega)
theorem SimX.R {k : CK} {q : MK} {M N : Mem} (h : SimX k q M N) (hI : mI q N) : SimR k q M N := ⟨h.cI hI, hI, h⟩
