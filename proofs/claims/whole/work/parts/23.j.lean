/-! a tick: sleepers, and who is next -/
section T1
variable {k : CK} {q : MK} {M N : Mem}
theorem tkStep {i : Nat} (hX : SimX k q M N) (hI : mI q N) (hi : i < q.2.1 0) : ∃ N' : Mem, (∀ n x, x = nI i → ¬ N 0 0 2 ≤ x → f_X4_tick_L2 q (n + 1) x N = f_X4_tick_L2 q n (x + 1) N') ∧ SimX k q (f_X2_sleepOn k M i) N' ∧ mI q N' := by
  have h8 := hI.2.1
  have hi' : i < k.2.1 0 := hX.n ▸ hi
  unfold f_X2_sleepOn
  rw [hX.2.1.f hi' 4 (by omega), hX.2.1.f hi' 11 (by omega), tau4, tau11]
  by_cases c : N 0 3 i = 3
  · obtain ⟨s, hs, es⟩ := nI_of (hX.2.2.2.1.2.2.2.1 i hi).1
    rw [if_pos c]
    by_cases c1 : s = 0
    · subst c1
      rw [nI_0] at es
      refine ⟨mu N 0 3 i 2, fun n x hx hle => ?_, ?_, mI_st hI (fun _ => by rw [c]; decide)⟩
      · subst hx
        rw [f_X4_tick_L2, if_neg hle, nI_clamp (by omega), if_pos c, if_pos es]
        have e : mu N 0 3 i 2 0 13 i = 0 := by rw [mu_t (by omega), es]
        rw [if_pos e]
        have e2 : mu (mu N 0 3 i 2) 0 13 i 0 = mu N 0 3 i 2 := by
          have := mu_same (mu N 0 3 i 2) 0 13 i
          rw [e] at this
          exact this
        rw [e2]
      · rw [if_pos (by rw [es]; decide)]
        exact hX.ust hi' (s := 2) (by omega) (fun _ => by rw [c]; decide) (Or.inr (Or.inr es))
    · have hne : ¬ N 0 13 i = 0 := by rw [es]; exact nI_ne0 (by omega) hs
      obtain ⟨t, rfl⟩ : ∃ t, s = t + 1 := ⟨s - 1, by omega⟩
      have e0 : mu N 0 3 i 3 = N := by
        have := mu_same N 0 3 i
        rw [c] at this
        exact this
      refine ⟨mu N 0 13 i (N 0 13 i - 1), fun n x hx hle => ?_, ?_, mI_slp hI⟩
      · subst hx
        rw [f_X4_tick_L2, if_neg hle, nI_clamp (by omega), if_pos c, if_neg hne, e0, if_neg hne]
      · rw [if_neg (by rw [es]; exact nI_nle (by omega) hs)]
        exact hX.uslp hi' (by rw [es, nI_pred]; exact nI_pos (by omega)) (Or.inr (Or.inl c))
  · rw [if_neg c]
    refine ⟨N, fun n x hx hle => ?_, hX, hI⟩
    subst hx
    rw [f_X4_tick_L2, if_neg hle, nI_clamp (by omega), if_neg c]
theorem tkL2 : ∀ (n t : Nat) (M N : Mem), SimX k q M N → mI q N → t ≤ q.2.1 0 → q.2.1 0 < t + n → SimX k q (f_X3_tick_L2 k n (nI t) M) (f_X4_tick_L2 q n (nI t) N) ∧ mI q (f_X4_tick_L2 q n (nI t) N) := by
  intro n
  induction n with
  | zero => intro t M N hX hI h1 h2; omega
  | succ n ih =>
    intro t M N hX hI h1 h2
    have h8 := hI.2.1
    rw [f_X3_tick_L2, hX.n]
    by_cases c : q.2.1 0 ≤ t
    · rw [if_pos (nI_le c (by omega)), f_X4_tick_L2, hI.1.2.2.1, if_pos (nI_le c (by omega))]
      exact ⟨hX, hI⟩
    · have ht : t < q.2.1 0 := by omega
      rw [if_neg (nI_ge ht (by omega)), nI_clamp (by omega), nI_1]
      obtain ⟨N', e1, e2, e3⟩ := tkStep hX hI ht
      rw [e1 n (nI t) rfl (by rw [hI.1.2.2.1]; exact nI_ge ht (by omega)), nI_1]
      exact ih (t + 1) _ N' e2 e3 (by omega) (by omega)
theorem mod_s {a n : Nat} (hn : 0 < n) : (a + 1) % n = if a % n + 1 < n then a % n + 1 else 0 := by
  rw [← Nat.mod_add_mod]
  have := Nat.mod_lt a hn
  by_cases c : a % n + 1 < n
  · rw [if_pos c, Nat.mod_eq_of_lt c]
  · rw [if_neg c, show a % n + 1 = n by omega, Nat.mod_self]
theorem nxL {l : Nat} (hX : SimX k q M N) (hI : mI q N) (hl : l < q.2.1 0) (el : N 0 0 19 = nI l) : ∀ (n t : Nat), t ≤ q.2.1 0 → q.2.1 0 + 1 = t + n → (f_X3_nextReady_L7 k n (nI ((l + t) % q.2.1 0)) (nI t) M = none ∧ f_X4_tick_L77 q n (-1) (nI (t + 1)) N = -1) ∨ ∃ i : Nat, i < q.2.1 0 ∧ f_X3_nextReady_L7 k n (nI ((l + t) % q.2.1 0)) (nI t) M = some i ∧ f_X4_tick_L77 q n (-1) (nI (t + 1)) N = nI i ∧ N 0 3 i = 2 := by
  have h8 := hI.2.1
  have hn := hX.n
  intro n
  induction n with
  | zero => intro t h1 h2; omega
  | succ n ih =>
    intro t h1 h2
    rw [f_X3_nextReady_L7, f_X4_tick_L77, hI.1.2.2.1, hn]
    by_cases c : q.2.1 0 ≤ t
    · rw [if_pos (nI_le c (by omega)), if_pos (nI_lt (by omega) (by omega))]
      exact Or.inl ⟨rfl, rfl⟩
    · have ht : t < q.2.1 0 := by omega
      have ih' := ih (t + 1) (by omega) (by omega)
      have hm := Nat.mod_lt (l + t) (show 0 < q.2.1 0 by omega)
      have hm' := Nat.mod_lt (l + (t + 1)) (show 0 < q.2.1 0 by omega)
      rw [if_neg (nI_ge ht (by omega)), if_neg (nI_nlt (by omega) (by omega)), if_neg (show ¬ (0 : Int32) ≤ -1 by decide), el, nI_add, pk_rem (by omega) (by omega) (by omega), nI_clamp (show (l + (t + 1)) % q.2.1 0 < 2 ^ 31 by omega), nI_1, nI_1 t, nI_1 (t + 1)]
      have ready : N 0 3 ((l + (t + 1)) % q.2.1 0) = 2 → f_X4_tick_L77 q n (nI ((l + (t + 1)) % q.2.1 0)) (nI (t + 1 + 1)) N = nI ((l + (t + 1)) % q.2.1 0) := by
        intro _
        obtain ⟨n', rfl⟩ : ∃ n', n = n' + 1 := ⟨n - 1, by omega⟩
        rw [f_X4_tick_L77]
        split
        · rfl
        · rw [if_pos (nI_pos' (by omega))]
      have hst : M ((l + (t + 1)) % q.2.1 0 + 1) 0 4 = N 0 3 ((l + (t + 1)) % q.2.1 0) := hX.2.1.f (by omega) 4 (by omega)
      have e9 : (l + (t + 1)) % q.2.1 0 = if (l + t) % q.2.1 0 + 1 < q.2.1 0 then (l + t) % q.2.1 0 + 1 else 0 := mod_s (by omega)
      unfold f_X3_isNumber
      rw [hn, if_neg (nI_pos (by omega))]
      by_cases c2 : (l + t) % q.2.1 0 + 1 < q.2.1 0
      · rw [if_pos c2] at e9
        rw [if_neg (nI_ge c2 (by omega)), if_neg (by decide), nI_clamp (by omega), ← e9, hst]
        by_cases c3 : N 0 3 ((l + (t + 1)) % q.2.1 0) = 2
        · rw [if_pos c3, if_pos c3, ready c3]
          exact Or.inr ⟨_, hm', rfl, rfl, c3⟩
        · rw [if_neg c3, if_neg c3]
          exact ih'
      · rw [if_neg c2] at e9
        rw [if_pos (nI_le (by omega) (by omega)), if_pos rfl, show (0 : Int32).toNatClampNeg = 0 from rfl]
        rw [e9] at hst ready ih' ⊢
        rw [hst]
        by_cases c3 : N 0 3 0 = 2
        · rw [if_pos c3, if_pos c3, ready c3]
          exact Or.inr ⟨0, by omega, rfl, rfl, c3⟩
        · rw [if_neg c3, if_neg c3]
          exact ih'
theorem nxt (hX : SimX k q M N) (hI : mI q N) : (f_X3_nextReady k M = none ∧ f_X4_tick_L77 q (q.2.1 0 + 1) (-1) 1 N = -1) ∨ ∃ i : Nat, i < q.2.1 0 ∧ f_X3_nextReady k M = some i ∧ f_X4_tick_L77 q (q.2.1 0 + 1) (-1) 1 N = nI i ∧ N 0 3 i = 2 := by
  obtain ⟨l, hl, el⟩ := hI.2.2.1
  have := nxL hX hI hl el (q.2.1 0 + 1) 0 (by omega) (by omega)
  have e : (l + 0) % q.2.1 0 = l := Nat.mod_eq_of_lt hl
  rw [e, nI_0] at this
  unfold f_X3_nextReady
  rw [hX.2.1.lst, el, hX.n]
  exact this
end T1
