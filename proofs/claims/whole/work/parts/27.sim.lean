theorem sim_start {D : va_G} {yI yR yZ : ClassId} {ad adq : Nat → Nat → Nat} {aa bb nn lg mx tE tS : Nat} {v1 v2 v3 v4 v5 : Int32} (e1 : v1 = nI aa) (h1 : 1 ≤ aa ∧ aa ≤ 32) (e2 : v2 = nI bb) (h2 : 1 ≤ bb ∧ bb ≤ 32) (e3 : v3 = nI nn) (h3 : 1 ≤ nn ∧ nn ≤ 8) (e4 : v4 = nI lg) (h4 : 1 ≤ lg ∧ lg ≤ 100) (e5 : v5 = nI mx) (h5 : 1 ≤ mx ∧ mx ≤ 16) : SimR (ad, (fun t => match t with | 0 => nn | 1 => aa * bb | 2 => lg | 3 => mx | 4 => tE | _ => tS), D, yI, yR) (adq, (fun t => match t with | 0 => nn | 1 => aa | 2 => bb | 3 => lg | 4 => mx | _ => 1026), D, yI, yZ) (f_X3_startOver (ad, (fun t => match t with | 0 => nn | 1 => aa * bb | 2 => lg | 3 => mx | 4 => tE | _ => tS), D, yI, yR) (c0 v1 v2)) (f_X4_init_ (adq, (fun t => match t with | 0 => nn | 1 => aa | 2 => bb | 3 => lg | 4 => mx | _ => 1026), D, yI, yZ) (m0 v1 v2 v3 v4 v5)) := by
  subst e1 e2 e3 e4 e5
  refine sim_init_ (SimX.R ⟨⟨⟨rfl, rfl, rfl, rfl⟩, rfl, rfl, fun i _ => ?_⟩, fun g j t hd => ?_, fun x y hx hy => ?_, ⟨fun i _ => ⟨0, by omega, ?_⟩, fun i _ h9 => absurd ?_ h9, fun i _ => ⟨0, by omega, ?_⟩, fun i _ => ⟨?_, Or.inl ?_⟩, fun t _ => Or.inl ⟨?_, 0, by omega, ?_⟩⟩, Or.inl rfl⟩ ⟨⟨rfl, rfl, rfl, rfl, rfl⟩, ⟨h1.1, h1.2, h2.1, h2.2, h3.1, h3.2, h4.1, h4.2, h5.1, h5.2, rfl⟩, ⟨0, h3.1, rfl⟩, fun i _ => ⟨⟨0, by omega, rfl⟩, ⟨0, by omega, rfl⟩, fun h9 => absurd h9 ?_⟩⟩)
  · simp [c0]
  · rcases hd with ⟨rfl, rfl, ht⟩ | ⟨g1, g2, hd⟩
    · rcases ht with rfl | rfl <;> rfl
    · have e0 : ∀ r c, m0 (nI aa) (nI bb) (nI nn) (nI lg) (nI mx) 0 (r + 1) c = 0 := fun r c => by simp [m0]
      have e1 : c0 (nI aa) (nI bb) g j t = 0 := by
        simp only [c0]
        rw [if_neg (by omega), if_neg (by omega)]
      have e2 : ∃ r, lkR g j t = r + 1 := by
        have q1 := @tau_in t
        rcases hd with ⟨rfl, ht⟩ | ⟨rfl, rfl⟩ | ⟨rfl, ht⟩ | ⟨rfl, ht⟩ | ⟨rfl, ht⟩
        · exact ⟨tau t - 1, by rw [(lk_0 g1).1]; omega⟩
        · exact ⟨11, by rw [(lk_3 g1).1]⟩
        · exact ⟨5, by rw [(lk_1 g1).1]⟩
        · exact ⟨7, by rw [(lk_2 g1).1]⟩
        · exact ⟨10, by rw [(lk_4 g1).1]⟩
      obtain ⟨r, er⟩ := e2
      rw [e1, er, e0]
  · simp [c0, m0]
  · rfl
  · rfl
  · rfl
  · show ¬ (0 : Int32) < 0
    decide
  · rfl
  · rfl
  · rfl
  · show ¬ (0 : Int32) < 0
    decide
