/-! THE REFERENCE'S WAY -/
section S1b
variable {q : MK} {N X Y : Mem}
theorem wk_opn {O : Nat → Nat → Prop} {g : Nat × Nat} (hg : O g.1 g.2) : ∀ (n : Nat) (p : Nat × Nat), wk O g n p → O p.1 p.2 := by
  intro n p h
  cases n with
  | zero => have e : p = g := h; rw [e]; exact hg
  | succ n => obtain ⟨r, -, -, h3⟩ := h; exact h3
theorem labR_e (h : ∀ t, t < 1024 → Y 0 15 t = FA ∨ ∃ n : Nat, n ≤ 1026 ∧ Y 0 15 t = nI n) {x y n : Nat} (hx : x < 32) (hy : y < 32) (e : labR q Y x y = some n) : x < q.2.1 1 ∧ y < q.2.1 2 ∧ n ≤ 1026 ∧ Y 0 15 (32 * y + x) = nI n := by
  unfold labR at e
  by_cases c : x < q.2.1 1 ∧ y < q.2.1 2
  · rw [if_pos c] at e
    by_cases c1 : Y 0 15 (32 * y + x) = FA
    · rw [if_pos c1] at e; cases e
    · rw [if_neg c1] at e
      rcases h (32 * y + x) (by omega) with h1 | ⟨m, hm, h1⟩
      · exact absurd h1 c1
      · have e' := Option.some.inj e
        rw [h1, nI_clamp (by omega)] at e'
        subst e'
        exact ⟨c.1, c.2, hm, h1⟩
  · rw [if_neg c] at e; cases e
theorem labR_i {x y n : Nat} (hx : x < q.2.1 1) (hy : y < q.2.1 2) (hn : n ≤ 1026) (e : Y 0 15 (32 * y + x) = nI n) : labR q Y x y = some n := by
  unfold labR
  rw [if_pos ⟨hx, hy⟩, e, if_neg (fun z => by rw [nI_eq (by omega) (by omega)] at z; omega), nI_clamp (by omega)]
/-- in direction d stands label m -/
def mt (lab : Nat → Nat → Option Nat) (a b m d : Nat) : Prop := ∃ x y : Nat, nI a + eB d = nI x ∧ nI b + sB d = nI y ∧ x < 32 ∧ y < 32 ∧ lab x y = some m
theorem pathM (hI : mI q N) (x0 y0 x1 y1 : Int32) : (f_X4_pathLength q N x0 y0 x1 y1 = (-1, N) ∧ (f_X4_isFree q N x0 y0 = 0 ∨ f_X4_isFree q N x1 y1 = 0)) ∨ ∃ a b c d : Nat, opn q N a b ∧ opn q N c d ∧ x0 = nI a ∧ y0 = nI b ∧ x1 = nI c ∧ y1 = nI d ∧ (f_X4_pathLength q N x0 y0 x1 y1).2 = f_X4_measure q N (nI c) (nI d) ∧ FnR q (c, d) (f_X4_measure q N (nI c) (nI d)) ∧ Sm N (f_X4_measure q N (nI c) (nI d)) ∧ ((labR q (f_X4_measure q N (nI c) (nI d)) a b = none ∧ (f_X4_pathLength q N x0 y0 x1 y1).1 = -1) ∨ ∃ n : Nat, n ≤ 1026 ∧ labR q (f_X4_measure q N (nI c) (nI d)) a b = some n ∧ (f_X4_pathLength q N x0 y0 x1 y1).1 = nI n) := by
  unfold f_X4_pathLength
  rcases frr hI x0 y0 with ⟨h1, -⟩ | ⟨a, b, ho, rfl, rfl, h1⟩
  · left; rw [if_pos h1]; exact ⟨rfl, Or.inl h1⟩
  · rw [if_neg h1]
    rcases frr hI x1 y1 with ⟨h2, -⟩ | ⟨c, d, ho', rfl, rfl, h2⟩
    · left; rw [if_pos h2]; exact ⟨rfl, Or.inr h2⟩
    · right
      rw [if_neg h2]
      obtain ⟨-, r2, r3⟩ := ms_all hI ho'
      obtain ⟨l1, l2, l3⟩ := opn_lt hI ho
      refine ⟨a, b, c, d, ho, ho', rfl, rfl, rfl, rfl, ?_, r2, r3, ?_⟩
      · split <;> rfl
      · rw [sqM' l1 l2]
        by_cases e : f_X4_measure q N (nI c) (nI d) 0 15 (32 * b + a) = 100000
        · left
          rw [if_pos e]
          refine ⟨?_, rfl⟩
          unfold labR
          rw [if_pos ⟨ho.1, ho.2.1⟩, if_pos (show _ = FA from e)]
        · right
          rw [if_neg e]
          rcases r2.2 _ l3 with h9 | ⟨n, hn, h9⟩
          · exact absurd h9 e
          · exact ⟨n, hn, labR_i ho.1 ho.2.1 hn h9, h9⟩
theorem mt_ref {g : Nat × Nat} {i a b m d : Nat} (hI : mI q Y) (hF : FnR q g Y) (hg : opn q Y g.1 g.2) (hm : m ≤ 1025) (hd : d < 4) : mt (labR q Y) a b m d ↔ ¬ f_X4_isFree q Y (nI a + eB d) (nI b + sB d) = 0 ∧ Y 0 15 (f_X4_square q Y (nI a + eB d) (nI b + sB d)).toNatClampNeg = nI m := by
  constructor
  · rintro ⟨x, y, e1, e2, hx, hy, e⟩
    rw [e1, e2, sqM' hx hy]
    obtain ⟨h1, h2, h3, h4⟩ := labR_e hF.2 hx hy e
    refine ⟨?_, h4⟩
    have ho := wk_opn hg _ _ (hF.1.2.1 x y m e)
    rcases frr hI (nI x) (nI y) with ⟨h5, h6⟩ | ⟨_, _, _, _, _, h5⟩
    · exact absurd ho (h6 x y rfl rfl)
    · exact h5
  · rintro ⟨h1, h2⟩
    rcases frr hI (nI a + eB d) (nI b + sB d) with ⟨h5, -⟩ | ⟨x, y, ho, e1, e2, -⟩
    · exact absurd h5 h1
    · obtain ⟨l1, l2, l3⟩ := opn_lt hI ho
      rw [e1, e2, sqM' l1 l2] at h2
      exact ⟨x, y, e1, e2, l1, l2, labR_i ho.1 ho.2.1 (by omega) h2⟩
theorem wayL {g : Nat × Nat} {i a b m e : Nat} (hI : mI q Y) (hF : FnR q g Y) (hg : opn q Y g.1 g.2) (hm : m ≤ 1025) (hi : i < 8) (e4 : Y 0 4 i = nI a) (e5 : Y 0 5 i = nI b) (he : e < 4) (h1 : mt (labR q Y) a b m e) (h2 : ∀ d, d < e → ¬ mt (labR q Y) a b m d) : ∀ n d, d ≤ e → e + 2 ≤ d + n → ok_X4_way_L42 q (nI i) (nI (m + 1)) n (nI d) 0 Y ∧ (f_X4_way_L42 q (nI i) (nI (m + 1)) n (nI d) 0 Y).1 = nI e := by
  intro n
  induction n with
  | zero => intro d h3 h4; omega
  | succ n ih =>
    intro d h3 h4
    have hd : d < 4 := by omega
    rw [ok_X4_way_L42, f_X4_way_L42, if_pos rfl, if_pos rfl, nI_clamp (by omega), e4, e5, bsx' hd, bsy' hd, nI_pred, nI_1]
    have hmt := mt_ref (i := i) (a := a) (b := b) hI hF hg hm hd
    rcases Nat.lt_or_ge d e with h5 | h5
    · have ih' := ih (d + 1) h5 (by omega)
      by_cases c1 : f_X4_isFree q Y (nI a + eB d) (nI b + sB d) = 0
      · rw [if_pos c1, if_pos c1]; exact ih'
      · rw [if_neg c1, if_neg c1]
        by_cases c2 : Y 0 15 (f_X4_square q Y (nI a + eB d) (nI b + sB d)).toNatClampNeg = nI m
        · exact absurd (hmt.mpr ⟨c1, c2⟩) (h2 d h5)
        · rw [if_neg c2, if_neg c2]; exact ih'
    · have : d = e := by omega
      subst this
      obtain ⟨c1, c2⟩ := hmt.mp h1
      rw [if_neg c1, if_neg c1, if_pos c2, if_pos c2]
      cases n with
      | zero => omega
      | succ n =>
        rw [ok_X4_way_L42, f_X4_way_L42, if_neg (by decide), if_neg (by decide)]
        exact ⟨trivial, rfl⟩
theorem mt_ex {O : Nat → Nat → Prop} {g : Nat × Nat} {lab : Nat → Nat → Option Nat} (h : Cert O g lab) (hb : ∀ x y n, lab x y = some n → x < 32 ∧ y < 32) {a b m : Nat} (e : lab a b = some (m + 1)) : ∃ d, d < 4 ∧ mt lab a b m d ∧ ∀ j, j < d → ¬ mt lab a b m j := by
  obtain ⟨p, h1, h2⟩ := cert_pred h e
  obtain ⟨d, hd, e1, e2⟩ := dir_of (x := a) (y := b) (a := p.1) (b := p.2) (adj_s h1)
  have hex : ∃ d, d < 4 ∧ mt lab a b m d := ⟨d, hd, p.1, p.2, e1, e2, (hb _ _ _ h2).1, (hb _ _ _ h2).2, h2⟩
  obtain ⟨d', ⟨hd', hm⟩, hl⟩ := pk_least (fun d => d < 4 ∧ mt lab a b m d) hex
  exact ⟨d', hd', hm, fun j hj hmj => hl j hj ⟨by omega, hmj⟩⟩
theorem labR_b (hI : mI q X) {x y n : Nat} (e : labR q Y x y = some n) : x < 32 ∧ y < 32 := by
  have h8 := hI.2.1
  unfold labR at e
  by_cases c : x < q.2.1 1 ∧ y < q.2.1 2
  · omega
  · rw [if_neg c] at e; cases e
theorem okw' {p1 p2 p3 : Int32} (hI : mI q N) (h1 : vp_in p1 (q.2.1 0)) (h3 : 0 < N 0 3 p1.toNatClampNeg) (c : 0 < (f_X4_pathLength q N (N 0 4 p1.toNatClampNeg) (N 0 5 p1.toNatClampNeg) p2 p3).1) : ok_X4_way_L42 q p1 (f_X4_pathLength q N (N 0 4 p1.toNatClampNeg) (N 0 5 p1.toNatClampNeg) p2 p3).1 (q.2.1 5) 0 0 (f_X4_pathLength q N (N 0 4 p1.toNatClampNeg) (N 0 5 p1.toNatClampNeg) p2 p3).2 := by
  have h8 := hI.2.1
  obtain ⟨i, hi, rfl⟩ := vp_in_of h1 (by omega)
  rw [nI_clamp (by omega)] at *
  rcases pathM hI (N 0 4 i) (N 0 5 i) p2 p3 with ⟨h4, -⟩ | ⟨a, b, gx, gy, ho, hg, e4, e5, rfl, rfl, e2, hF, hS, h5⟩
  · rw [h4] at c; exact absurd c (show ¬ (0 : Int32) < -1 by decide)
  · rcases h5 with ⟨-, h5⟩ | ⟨n, hn, h5, h6⟩
    · rw [h5] at c; exact absurd c (by decide)
    · rw [h6] at c
      rw [h6, e2, mI_F hI]
      cases n with
      | zero => rw [nI_0] at c; exact absurd c (by decide)
      | succ m =>
        have hI' := hS.mI hI
        have hg' : opn q (f_X4_measure q N (nI gx) (nI gy)) gx gy := by rw [hS.opn]; exact hg
        obtain ⟨d, hd, h7, h9⟩ := mt_ex hF.1 (fun x y n e => labR_b hI e) h5
        have hi8 : i < 8 := by omega
        have := (wayL (i := i) (a := a) (b := b) (m := m) hI' hF hg' (by omega) hi8 (by rw [hS 4 (by decide)]; exact e4) (by rw [hS 5 (by decide)]; exact e5) hd h7 h9 1026 0 (by omega) (by omega)).1
        rw [nI_0] at this
        exact this
end S1b
theorem okw {k : MK} {M : Mem} {p1 p2 p3 : Int32} (hI : mI k M) (h1 : vp_in p1 (k.2.1 0)) (h3 : 0 < M 0 3 p1.toNatClampNeg) (c : 0 < (f_X4_pathLength k M (M 0 4 p1.toNatClampNeg) (M 0 5 p1.toNatClampNeg) p2 p3).1) : ok_X4_way_L42 k p1 (f_X4_pathLength k M (M 0 4 p1.toNatClampNeg) (M 0 5 p1.toNatClampNeg) p2 p3).1 (k.2.1 5) 0 0 (f_X4_pathLength k M (M 0 4 p1.toNatClampNeg) (M 0 5 p1.toNatClampNeg) p2 p3).2 := okw' hI h1 h3 c
