/-! THE REFERENCE: a state in which no call of its can go wrong -/
def mI (k : MK) (M : Mem) : Prop := (M 0 0 0 = nI (k.2.1 1) ∧ M 0 0 1 = nI (k.2.1 2) ∧ M 0 0 2 = nI (k.2.1 0) ∧ M 0 0 3 = nI (k.2.1 3) ∧ M 0 0 4 = nI (k.2.1 4)) ∧ (1 ≤ k.2.1 1 ∧ k.2.1 1 ≤ 32 ∧ 1 ≤ k.2.1 2 ∧ k.2.1 2 ≤ 32 ∧ 1 ≤ k.2.1 0 ∧ k.2.1 0 ≤ 8 ∧ 1 ≤ k.2.1 3 ∧ k.2.1 3 ≤ 100 ∧ 1 ≤ k.2.1 4 ∧ k.2.1 4 ≤ 16 ∧ k.2.1 5 = 1026) ∧ (∃ q : Nat, q < k.2.1 0 ∧ M 0 0 19 = nI q) ∧ ∀ i, i < k.2.1 0 → (∃ a : Nat, a ≤ k.2.1 3 ∧ M 0 7 i = nI a) ∧ (∃ a : Nat, a ≤ k.2.1 4 ∧ M 0 12 i = nI a) ∧ (0 < M 0 3 i → vp_in (M 0 4 i) (k.2.1 1) ∧ vp_in (M 0 5 i) (k.2.1 2))
theorem lpF {N F : Nat} (h : F = 1026) (hN : N ≤ 1024) : lpI N F 0 := ⟨0, nI_0.symm, by omega, by omega⟩
theorem mI_F {k : MK} {M : Mem} (hI : mI k M) : k.2.1 5 = 1026 := hI.2.1.2.2.2.2.2.2.2.2.2.2
theorem in_le {x : Int32} {N : Nat} (h0 : ¬ x < 0) (h : ¬ nI N - 1 < x) (h1 : 1 ≤ N) (hN : N < 2 ^ 31) : vp_in x N := by
  obtain ⟨j, hj, rfl⟩ := nI_of h0
  obtain ⟨m, rfl⟩ : ∃ m, N = m + 1 := ⟨N - 1, by omega⟩
  rw [nI_pred] at h
  have : j ≤ m := by
    rcases Nat.lt_or_ge m j with q | q
    · exact absurd (nI_lt q hj) h
    · exact q
  exact vp_in_nI (by omega) hN
theorem vp_up {x : Int32} {n m : Nat} (h : vp_in x n) (hnm : n ≤ m) : vp_in x m := fun q => h (q.elim Or.inl (fun z => Or.inr (by omega)))
theorem m8 {k : MK} {M : Mem} {x : Int32} (hI : mI k M) (h : vp_in x (k.2.1 0)) : vp_in x 8 := vp_up h hI.2.1.2.2.2.2.2.1
theorem mlp_c {k : MK} {M : Mem} {x : Int32} (hI : mI k M) (c : ¬ M 0 0 2 ≤ x) : ¬ nI (k.2.1 0) ≤ x := by rw [← hI.1.2.2.1]; exact c
theorem mI_n {k : MK} {M : Mem} (hI : mI k M) : k.2.1 0 < 2 ^ 31 := by have := hI.2.1.2.2.2.2.2.1; omega
theorem mI_w {k : MK} {M : Mem} (hI : mI k M) : k.2.1 1 < 2 ^ 31 := by have := hI.2.1.2.1; omega
theorem mI_h {k : MK} {M : Mem} (hI : mI k M) : k.2.1 2 < 2 ^ 31 := by have := hI.2.1.2.2.2.1; omega
theorem mlp_in {k : MK} {M : Mem} {x : Int32} {n : Nat} (h : mI k M ∧ lpI (k.2.1 0) n x) (c : ¬ M 0 0 2 ≤ x) : vp_in x (k.2.1 0) := lpI_in h.2 (mlp_c h.1 c) (mI_n h.1)
theorem mlp_s {k : MK} {M : Mem} {x : Int32} {n : Nat} (h : mI k M ∧ lpI (k.2.1 0) (n + 1) x) (c : ¬ M 0 0 2 ≤ x) : lpI (k.2.1 0) n (x + 1) := lpI_s h.2 (mlp_c h.1 c) (mI_n h.1)
theorem mw_in {k : MK} {M : Mem} {x : Int32} {n : Nat} (hI : mI k M) (h : lpI (k.2.1 1) n x) (c : ¬ M 0 0 0 ≤ x) : vp_in x (k.2.1 1) := lpI_in h (by rw [← hI.1.1]; exact c) (mI_w hI)
theorem mw_s {k : MK} {M : Mem} {x : Int32} {n : Nat} (hI : mI k M) (h : lpI (k.2.1 1) (n + 1) x) (c : ¬ M 0 0 0 ≤ x) : lpI (k.2.1 1) n (x + 1) := lpI_s h (by rw [← hI.1.1]; exact c) (mI_w hI)
theorem mh_in {k : MK} {M : Mem} {x : Int32} {n : Nat} (hI : mI k M) (h : lpI (k.2.1 2) n x) (c : ¬ M 0 0 1 ≤ x) : vp_in x (k.2.1 2) := lpI_in h (by rw [← hI.1.2.1]; exact c) (mI_h hI)
theorem mh_s {k : MK} {M : Mem} {x : Int32} {n : Nat} (hI : mI k M) (h : lpI (k.2.1 2) (n + 1) x) (c : ¬ M 0 0 1 ≤ x) : lpI (k.2.1 2) n (x + 1) := lpI_s h (by rw [← hI.1.2.1]; exact c) (mI_h hI)
/-- a change of a row that doesn't matter here -/
theorem mI_o {k : MK} {M : Mem} {j q : Nat} {v : Int32} (hI : mI k M) (h0 : j ≠ 0) (h3 : j ≠ 3) (h4 : j ≠ 4) (h5 : j ≠ 5) (h7 : j ≠ 7) (h12 : j ≠ 12) : mI k (mu M 0 j q v) := by
  have e : ∀ a b : Nat, a ≠ j → mu M 0 j q v 0 a b = M 0 a b := fun a b h => by rw [mu_at, if_neg (by omega)]
  obtain ⟨⟨a0, a1, a2, a3, a4⟩, hb, ⟨y, hy, ey⟩, hr⟩ := hI
  refine ⟨⟨?_, ?_, ?_, ?_, ?_⟩, hb, ⟨y, hy, ?_⟩, fun i hi => ?_⟩
  · rw [e 0 0 h0.symm]; exact a0
  · rw [e 0 1 h0.symm]; exact a1
  · rw [e 0 2 h0.symm]; exact a2
  · rw [e 0 3 h0.symm]; exact a3
  · rw [e 0 4 h0.symm]; exact a4
  · rw [e 0 19 h0.symm]; exact ey
  · rw [e 7 i h7.symm, e 12 i h12.symm, e 3 i h3.symm, e 4 i h4.symm, e 5 i h5.symm]
    exact hr i hi
theorem mI_far {k : MK} {M : Mem} {q : Nat} {v : Int32} (hI : mI k M) : mI k (mu M 0 15 q v) := mI_o hI (by decide) (by decide) (by decide) (by decide) (by decide) (by decide)
theorem mI_box {k : MK} {M : Mem} {q : Nat} {v : Int32} (hI : mI k M) : mI k (mu M 0 11 q v) := mI_o hI (by decide) (by decide) (by decide) (by decide) (by decide) (by decide)
theorem mI_reg {k : MK} {M : Mem} {q : Nat} {v : Int32} (hI : mI k M) : mI k (mu M 0 8 q v) := mI_o hI (by decide) (by decide) (by decide) (by decide) (by decide) (by decide)
theorem mI_itm {k : MK} {M : Mem} {q : Nat} {v : Int32} (hI : mI k M) : mI k (mu M 0 2 q v) := mI_o hI (by decide) (by decide) (by decide) (by decide) (by decide) (by decide)
theorem mI_wll {k : MK} {M : Mem} {q : Nat} {v : Int32} (hI : mI k M) : mI k (mu M 0 1 q v) := mI_o hI (by decide) (by decide) (by decide) (by decide) (by decide) (by decide)
theorem mI_prg {k : MK} {M : Mem} {q : Nat} {v : Int32} (hI : mI k M) : mI k (mu M 0 6 q v) := mI_o hI (by decide) (by decide) (by decide) (by decide) (by decide) (by decide)
theorem mI_plc {k : MK} {M : Mem} {q : Nat} {v : Int32} (hI : mI k M) : mI k (mu M 0 9 q v) := mI_o hI (by decide) (by decide) (by decide) (by decide) (by decide) (by decide)
theorem mI_lod {k : MK} {M : Mem} {q : Nat} {v : Int32} (hI : mI k M) : mI k (mu M 0 10 q v) := mI_o hI (by decide) (by decide) (by decide) (by decide) (by decide) (by decide)
theorem mI_slp {k : MK} {M : Mem} {q : Nat} {v : Int32} (hI : mI k M) : mI k (mu M 0 13 q v) := mI_o hI (by decide) (by decide) (by decide) (by decide) (by decide) (by decide)
theorem mI_did {k : MK} {M : Mem} {q : Nat} {v : Int32} (hI : mI k M) : mI k (mu M 0 14 q v) := mI_o hI (by decide) (by decide) (by decide) (by decide) (by decide) (by decide)
/-- the clock -/
theorem mI_clk {k : MK} {M : Mem} {v : Int32} (hI : mI k M) : mI k (mu M 0 0 20 v) := by
  have e : ∀ a b : Nat, a ≠ 0 ∨ b ≠ 20 → mu M 0 0 20 v 0 a b = M 0 a b := fun a b h => by rw [mu_at, if_neg (by omega)]
  obtain ⟨⟨a0, a1, a2, a3, a4⟩, hb, ⟨y, hy, ey⟩, hr⟩ := hI
  refine ⟨⟨?_, ?_, ?_, ?_, ?_⟩, hb, ⟨y, hy, ?_⟩, fun i hi => ?_⟩
  · rw [e 0 0 (by omega)]; exact a0
  · rw [e 0 1 (by omega)]; exact a1
  · rw [e 0 2 (by omega)]; exact a2
  · rw [e 0 3 (by omega)]; exact a3
  · rw [e 0 4 (by omega)]; exact a4
  · rw [e 0 19 (by omega)]; exact ey
  · rw [e 7 i (by omega), e 12 i (by omega), e 3 i (by omega), e 4 i (by omega), e 5 i (by omega)]
    exact hr i hi
/-- the one that ran last -/
theorem mI_last {k : MK} {M : Mem} {v : Int32} (hI : mI k M) (hv : vp_in v (k.2.1 0)) : mI k (mu M 0 0 19 v) := by
  have e : ∀ a b : Nat, a ≠ 0 ∨ b ≠ 19 → mu M 0 0 19 v 0 a b = M 0 a b := fun a b h => by rw [mu_at, if_neg (by omega)]
  have hn := mI_n hI
  obtain ⟨⟨a0, a1, a2, a3, a4⟩, hb, -, hr⟩ := hI
  obtain ⟨y, hy, ey⟩ := vp_in_of hv hn
  refine ⟨⟨?_, ?_, ?_, ?_, ?_⟩, hb, ⟨y, hy, ?_⟩, fun i hi => ?_⟩
  · rw [e 0 0 (by omega)]; exact a0
  · rw [e 0 1 (by omega)]; exact a1
  · rw [e 0 2 (by omega)]; exact a2
  · rw [e 0 3 (by omega)]; exact a3
  · rw [e 0 4 (by omega)]; exact a4
  · rw [mu_at, if_pos ⟨rfl, rfl, rfl⟩]; exact ey
  · rw [e 7 i (by omega), e 12 i (by omega), e 3 i (by omega), e 4 i (by omega), e 5 i (by omega)]
    exact hr i hi
/-- a robot's state: not above 0, or it stands where it stood -/
theorem mI_st {k : MK} {M : Mem} {q : Nat} {v : Int32} (hI : mI k M) (h : 0 < v → 0 < M 0 3 q) : mI k (mu M 0 3 q v) := by
  have e : ∀ a b : Nat, a ≠ 3 → mu M 0 3 q v 0 a b = M 0 a b := fun a b h => by rw [mu_at, if_neg (by omega)]
  obtain ⟨⟨a0, a1, a2, a3, a4⟩, hb, ⟨y, hy, ey⟩, hr⟩ := hI
  refine ⟨⟨a0, a1, a2, a3, a4⟩, hb, ⟨y, hy, ey⟩, fun i hi => ⟨(hr i hi).1, (hr i hi).2.1, fun hp => ?_⟩⟩
  rw [e 4 i (by omega), e 5 i (by omega)]
  rw [mu_at] at hp
  refine (hr i hi).2.2 ?_
  by_cases hq : i = q
  · subst hq
    rw [if_pos ⟨rfl, rfl, rfl⟩] at hp
    exact h hp
  · rw [if_neg (by omega)] at hp
    exact hp
/-- numbers in a box -/
theorem mI_bxd {k : MK} {M : Mem} {q a : Nat} (hI : mI k M) (h : a ≤ k.2.1 4) : mI k (mu M 0 12 q (nI a)) := by
  have e : ∀ x b : Nat, x ≠ 12 → mu M 0 12 q (nI a) 0 x b = M 0 x b := fun x b h => by rw [mu_at, if_neg (by omega)]
  obtain ⟨⟨a0, a1, a2, a3, a4⟩, hb, ⟨y, hy, ey⟩, hr⟩ := hI
  refine ⟨⟨a0, a1, a2, a3, a4⟩, hb, ⟨y, hy, ey⟩, fun i hi => ⟨(hr i hi).1, ?_, (hr i hi).2.2⟩⟩
  rw [mu_at]
  by_cases hq : i = q
  · rw [if_pos ⟨rfl, rfl, hq⟩]; exact ⟨a, h, rfl⟩
  · rw [if_neg (by omega)]; exact (hr i hi).2.1
/-- words of a program -/
theorem mI_len {k : MK} {M : Mem} {q a : Nat} (hI : mI k M) (h : a ≤ k.2.1 3) : mI k (mu M 0 7 q (nI a)) := by
  obtain ⟨⟨a0, a1, a2, a3, a4⟩, hb, ⟨y, hy, ey⟩, hr⟩ := hI
  refine ⟨⟨a0, a1, a2, a3, a4⟩, hb, ⟨y, hy, ey⟩, fun i hi => ⟨?_, (hr i hi).2.1, (hr i hi).2.2⟩⟩
  rw [mu_at]
  by_cases hq : i = q
  · rw [if_pos ⟨rfl, rfl, hq⟩]; exact ⟨a, h, rfl⟩
  · rw [if_neg (by omega)]; exact (hr i hi).1
theorem mI_rc {k : MK} {M : Mem} {x v : Int32} {q : Nat} (hI : mI k M) (hx : vp_in x (k.2.1 0)) (c : ¬ M 0 12 x.toNatClampNeg = 0) : mI k (mu (mu M 0 8 q v) 0 12 x.toNatClampNeg (mu M 0 8 q v 0 12 x.toNatClampNeg - 1)) := by
  obtain ⟨a, ha, ea⟩ := (hI.2.2.2 _ (vp_lt hx)).2.1
  have e : mu M 0 8 q v 0 12 x.toNatClampNeg = nI a := by rw [mu_at, if_neg (by omega)]; exact ea
  rw [e]
  cases a with
  | zero => exact absurd (by rw [ea, nI_0]) c
  | succ a =>
    rw [nI_pred]
    exact mI_bxd (mI_reg hI) (by omega)
