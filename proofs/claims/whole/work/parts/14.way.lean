/-! WAYS. A labelling of squares with the certificate below is unique: both searches find the same one. -/
def adj (p q : Nat × Nat) : Prop := (p.1 = q.1 ∧ (p.2 + 1 = q.2 ∨ q.2 + 1 = p.2)) ∨ (p.2 = q.2 ∧ (p.1 + 1 = q.1 ∨ q.1 + 1 = p.1))
theorem adj_s {p q : Nat × Nat} (h : adj p q) : adj q p := by
  unfold adj at *
  omega
/-- a way of n steps from g to p, over open squares -/
def wk (O : Nat → Nat → Prop) (g : Nat × Nat) : Nat → Nat × Nat → Prop
  | 0, p => p = g
  | n + 1, p => ∃ r, wk O g n r ∧ adj r p ∧ O p.1 p.2
/-- the certificate: g has 0; a label is the length of some way; a neighbour's label is at most one more -/
def Cert (O : Nat → Nat → Prop) (g : Nat × Nat) (lab : Nat → Nat → Option Nat) : Prop := lab g.1 g.2 = some 0 ∧ (∀ x y n, lab x y = some n → wk O g n (x, y)) ∧ ∀ x y n, lab x y = some n → ∀ p : Nat × Nat, adj (x, y) p → O p.1 p.2 → ∃ m, m ≤ n + 1 ∧ lab p.1 p.2 = some m
theorem cert_le {O : Nat → Nat → Prop} {g : Nat × Nat} {lab : Nat → Nat → Option Nat} (h : Cert O g lab) : ∀ (n : Nat) (p : Nat × Nat), wk O g n p → ∃ m, m ≤ n ∧ lab p.1 p.2 = some m := by
  intro n
  induction n with
  | zero =>
    intro p hp
    have e : p = g := hp
    subst e
    exact ⟨0, Nat.le_refl 0, h.1⟩
  | succ n ih =>
    intro p hp
    obtain ⟨r, h1, h2, h3⟩ := hp
    obtain ⟨m, h4, h5⟩ := ih r h1
    obtain ⟨m', h6, h7⟩ := h.2.2 r.1 r.2 m h5 p h2 h3
    exact ⟨m', by omega, h7⟩
theorem cert_uniq {O : Nat → Nat → Prop} {g : Nat × Nat} {l1 l2 : Nat → Nat → Option Nat} (h1 : Cert O g l1) (h2 : Cert O g l2) (x y : Nat) : l1 x y = l2 x y := by
  cases e1 : l1 x y with
  | some n =>
    obtain ⟨m, hm, e2⟩ := cert_le h2 n (x, y) (h1.2.1 x y n e1)
    obtain ⟨n', hn', e3⟩ := cert_le h1 m (x, y) (h2.2.1 x y m e2)
    have e3' : l1 x y = some n' := e3
    have e2' : l2 x y = some m := e2
    rw [e1] at e3'
    cases e3'
    rw [e2']
    congr 1
    omega
  | none =>
    cases e2 : l2 x y with
    | none => rfl
    | some m =>
      obtain ⟨n, hn, e3⟩ := cert_le h1 m (x, y) (h2.2.1 x y m e2)
      have e3' : l1 x y = some n := e3
      rw [e1] at e3'
      cases e3'
/-- a label above 0 has a neighbour with one less -/
theorem cert_pred {O : Nat → Nat → Prop} {g : Nat × Nat} {lab : Nat → Nat → Option Nat} (h : Cert O g lab) {x y n : Nat} (e : lab x y = some (n + 1)) : ∃ p : Nat × Nat, adj p (x, y) ∧ lab p.1 p.2 = some n := by
  obtain ⟨r, h1, h2, h3⟩ := h.2.1 x y (n + 1) e
  obtain ⟨m, h4, h5⟩ := cert_le h n r h1
  obtain ⟨m', h6, h7⟩ := h.2.2 r.1 r.2 m h5 (x, y) h2 h3
  have h7' : lab x y = some m' := h7
  rw [e] at h7'
  cases h7'
  refine ⟨r, h2, ?_⟩
  rw [h5]
  congr 1
  omega
def opn (q : MK) (N : Mem) (x y : Nat) : Prop := x < q.2.1 1 ∧ y < q.2.1 2 ∧ N 0 1 (32 * y + x) = 0
theorem mu_off (M : Mem) {g j : Nat} (k : Nat) (v : Int32) {a b : Nat} (h : ¬ (a = g ∧ b = j)) : mu M g j k v a b = M a b := by simp [mu, h]
theorem mu_eq (M : Mem) (g j t : Nat) (v : Int32) : mu M g j t v g j t = v := by rw [mu_at, if_pos ⟨rfl, rfl, rfl⟩]
theorem mu_comm (M : Mem) {g j t g' j' t' : Nat} (v w : Int32) (h : ¬ (g = g' ∧ j = j' ∧ t = t')) : mu (mu M g j t v) g' j' t' w = mu (mu M g' j' t' w) g j t v := by
  funext a b c
  simp only [mu_at]
  by_cases h1 : a = g' ∧ b = j' ∧ c = t'
  · rw [if_pos h1, if_neg (by omega), if_pos h1]
  · rw [if_neg h1, if_neg h1]
theorem mu_same (M : Mem) (g j t : Nat) : mu M g j t (M g j t) = M := by
  funext a b c
  rw [mu_at]
  by_cases h1 : a = g ∧ b = j ∧ c = t
  · obtain ⟨rfl, rfl, rfl⟩ := h1
    rw [if_pos ⟨rfl, rfl, rfl⟩]
  · rw [if_neg h1]
theorem mu_mu (M : Mem) (g j t : Nat) (v w : Int32) : mu (mu M g j t v) g j t w = mu M g j t w := by
  funext a b c
  simp only [mu_at]
  by_cases h1 : a = g ∧ b = j ∧ c = t
  · rw [if_pos h1, if_pos h1]
  · rw [if_neg h1, if_neg h1, if_neg h1]
