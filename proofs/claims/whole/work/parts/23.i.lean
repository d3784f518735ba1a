/-! BOTH SEARCHES GIVE THE SAME -/
section S3
variable {k : CK} {q : MK} {M N Y Z : Mem}
theorem Fm.SD (h : Fm M Y) (hD : SD k q M) : SD k q Y := hD.fr (h _ _ _ (by omega)) (h _ _ _ (by omega)) (fun i => h _ _ _ (by omega))
theorem frr1 (hI : mI q N) {a b : Nat} (ho : opn q N a b) : ¬ f_X4_isFree q N (nI a) (nI b) = 0 := by
  rcases frr hI (nI a) (nI b) with ⟨_, h⟩ | ⟨_, _, _, _, _, h⟩
  · exact absurd ho (h a b rfl rfl)
  · exact h
theorem stepsC (hD : SD k q Y) (hI : mI q N) {a b : Nat} (ha : a < q.2.1 1) (hb : b < q.2.1 2) : f_X1_stepsOf k Y (nI a) (nI b) = Y 0 3 (b * q.2.1 1 + a) := by
  have h8 := hI.2.1
  unfold f_X1_stepsOf f_X1_isInside
  rw [(sqAt hD hI ha hb).1, hD.2.1, hD.2.2.1, if_neg (nI_pos (by omega)), if_neg (nI_ge ha (by omega)), if_neg (nI_pos (by omega)), if_neg (nI_ge hb (by omega)), if_neg (by decide)]
theorem wl_S (hD : SD k q M) (hI : mI q N) (hS : SQ q M N) (hV : NV q N) (hC : CA q M N) (x0 y0 x1 y1 : Int32) : (f_X1_wayLength k M x0 y0 x1 y1).1 = (f_X4_pathLength q N x0 y0 x1 y1).1 ∧ Fm M (f_X1_wayLength k M x0 y0 x1 y1).2 ∧ CA q (f_X1_wayLength k M x0 y0 x1 y1).2 N ∧ Sm N (f_X4_pathLength q N x0 y0 x1 y1).2 := by
  have h8 := hI.2.1
  unfold f_X1_wayLength
  rcases opnn hD hI hS hV x1 y1 with ⟨o1, o2⟩ | ⟨a, b, ha, hb, rfl, rfl, hw, o1, o2⟩
  · rw [if_pos o1]
    rcases pathM hI x0 y0 x1 y1 with ⟨h1, -⟩ | ⟨c, d, gx, gy, h1, h2, e0, e1, e2, e3, -⟩
    · rw [h1]; exact ⟨rfl, fun _ _ _ _ => rfl, hC, Sm.refl N⟩
    · rw [e2, e3] at o2
      exact absurd o2 (frr1 hI h2)
  · have ho : opn q N a b := ⟨ha, hb, hw⟩
    rw [if_neg (by rw [o1]; decide)]
    obtain ⟨f1, f2, f3, f4⟩ := mf_S hD hI hS hV hC ho
    rcases pathM hI x0 y0 (nI a) (nI b) with ⟨h1, h2⟩ | ⟨c, d, gx, gy, h1, h2, rfl, rfl, e2, e3, h3, h4, h5, h6⟩
    · rw [h1]
      refine ⟨?_, f1, f2, Sm.refl N⟩
      show f_X1_stepsOf k (f_X1_measureFrom k M (nI a) (nI b)) x0 y0 = -1
      rcases h2 with h2 | h2
      · rcases inn (f1.SD hD) hI x0 y0 with ⟨i1, i2⟩ | ⟨c, d, hc, hd, rfl, rfl, i1, i2⟩
        · unfold f_X1_stepsOf
          rw [if_pos i1]
        · rw [stepsC (f1.SD hD) hI hc hd]
          rcases f4 c d hc hd with h9 | ⟨n, hn, h9⟩
          · exact h9
          · have := wk_opn ho n (c, d) (f3.2.1 c d n (labC_i hc hd (by omega) h9))
            exact absurd h2 (frr1 hI this)
      · exact absurd h2 (frr1 hI ho)
    · have hg : a = gx ∧ b = gy := by
        have := h2.1
        have := h2.2.1
        rw [nI_eq (by omega) (by omega)] at e2 e3
        exact ⟨e2, e3⟩
      obtain ⟨rfl, rfl⟩ := hg
      rw [h3]
      refine ⟨?_, f1, f2, h5⟩
      show f_X1_stepsOf k (f_X1_measureFrom k M (nI a) (nI b)) (nI c) (nI d) = _
      rw [stepsC (f1.SD hD) hI h1.1 h1.2.1]
      have hcr := h4.1
      rw [h5.opn] at hcr
      have hlab := cert_uniq f3 hcr c d
      rcases f4 c d h1.1 h1.2.1 with h9 | ⟨n, hn, h9⟩
      · have e9 : labC q (f_X1_measureFrom k M (nI a) (nI b)) c d = none := by
          unfold labC
          rw [if_pos ⟨h1.1, h1.2.1⟩, if_pos h9]
        rcases h6 with ⟨-, h7⟩ | ⟨m, hm, h6, h7⟩
        · rw [h9, h7]
        · rw [e9, h6] at hlab; cases hlab
      · have e9 := labC_i h1.1 h1.2.1 (by omega) h9
        rcases h6 with ⟨h6, -⟩ | ⟨m, hm, h6, h7⟩
        · rw [e9, h6] at hlab; cases hlab
        · rw [e9, h6] at hlab
          rw [h9, h7, Option.some.inj hlab]
theorem mt_cls {a b m d : Nat} (hD : SD k q Y) (hI : mI q N) (hdom : ∀ x y, x < q.2.1 1 → y < q.2.1 2 → Y 0 3 (y * q.2.1 1 + x) = -1 ∨ ∃ n : Nat, n ≤ 1024 ∧ Y 0 3 (y * q.2.1 1 + x) = nI n) (hm : m ≤ 1025) : mt (labC q Y) a b m d ↔ f_X1_stepsOf k Y (nI a + eB d) (nI b + sB d) = nI m := by
  have h8 := hI.2.1
  constructor
  · rintro ⟨x, y, e1, e2, hx, hy, e⟩
    obtain ⟨h1, h2, h3, h4⟩ := labC_e hdom e
    rw [e1, e2, stepsC hD hI h1 h2, h4]
  · intro h
    rcases inn hD hI (nI a + eB d) (nI b + sB d) with ⟨i1, -⟩ | ⟨x, y, hx, hy, e1, e2, -, -⟩
    · unfold f_X1_stepsOf at h
      rw [if_pos i1] at h
      exact absurd h.symm (nI_m1 (by omega))
    · rw [e1, e2, stepsC hD hI hx hy] at h
      exact ⟨x, y, e1, e2, by omega, by omega, labC_i hx hy (by omega) h⟩
theorem fsL {a b m e : Nat} (hD : SD k q Y) (hI : mI q N) (hdom : ∀ x y, x < q.2.1 1 → y < q.2.1 2 → Y 0 3 (y * q.2.1 1 + x) = -1 ∨ ∃ n : Nat, n ≤ 1024 ∧ Y 0 3 (y * q.2.1 1 + x) = nI n) (hm : m ≤ 1025) (he : e < 4) (h1 : mt (labC q Y) a b m e) (h2 : ∀ d, d < e → ¬ mt (labC q Y) a b m d) : ∀ n d, d ≤ e → e + 1 ≤ d + n → (f_X1_firstStep_L21 k (nI a) (nI b) (nI (m + 1)) n (nI d) Y).1 = nI e := by
  intro n
  induction n with
  | zero => intro d h3 h4; omega
  | succ n ih =>
    intro d h3 h4
    have hd : d < 4 := by omega
    rw [f_X1_firstStep_L21, if_neg (nI_nle (by omega) (by omega)), if_neg (show ¬ (4 : Int32) ≤ nI d from nI_ge (b := 4) hd (by omega)), nI_clamp (by omega), nI_pred, nI_1]
    have hmt := mt_cls (a := a) (b := b) (d := d) hD hI hdom hm
    rcases Nat.lt_or_ge d e with h5 | h5
    · rw [if_neg (fun z => h2 d h5 (hmt.mpr z))]
      exact ih (d + 1) h5 (by omega)
    · have : d = e := by omega
      subst this
      rw [if_pos (hmt.mp h1)]
theorem fs_S {i a b : Nat} (hD : SD k q M) (hI : mI q N) (hS : SQ q M N) (hV : NV q N) (hC : CA q M N) (hi : i < 8) (e4 : N 0 4 i = nI a) (e5 : N 0 5 i = nI b) (ho : opn q N a b) (x1 y1 : Int32) : (f_X1_firstStep k M (nI a) (nI b) x1 y1).1 = (f_X4_way q N (nI i) x1 y1).1 ∧ Fm M (f_X1_firstStep k M (nI a) (nI b) x1 y1).2 ∧ CA q (f_X1_firstStep k M (nI a) (nI b) x1 y1).2 N ∧ Sm N (f_X4_way q N (nI i) x1 y1).2 := by
  have h8 := hI.2.1
  obtain ⟨w1, w2, w3, w4⟩ := wl_S hD hI hS hV hC (nI a) (nI b) x1 y1
  unfold f_X1_firstStep f_X4_way
  rw [nI_clamp (show i < 2 ^ 31 by omega), e4, e5]
  have hfr2 : ∀ p5 n x, (f_X1_firstStep_L21 k (nI a) (nI b) p5 n x (f_X1_wayLength k M (nI a) (nI b) x1 y1).2).2 = (f_X1_wayLength k M (nI a) (nI b) x1 y1).2 := fun p5 n x => fS_L n x _
  have key : ((f_X4_pathLength q N (nI a) (nI b) x1 y1).1 = -1 ∨ (f_X4_pathLength q N (nI a) (nI b) x1 y1).1 = 0) ∨ ∃ m e : Nat, (f_X4_pathLength q N (nI a) (nI b) x1 y1).1 = nI (m + 1) ∧ m ≤ 1025 ∧ (f_X1_firstStep_L21 k (nI a) (nI b) (nI (m + 1)) 5 0 (f_X1_wayLength k M (nI a) (nI b) x1 y1).2).1 = nI e ∧ (f_X4_way_L42 q (nI i) (nI (m + 1)) (q.2.1 5) 0 0 (f_X4_pathLength q N (nI a) (nI b) x1 y1).2).1 = nI e := by
    rcases pathM hI (nI a) (nI b) x1 y1 with ⟨h1, -⟩ | ⟨c, d, gx, gy, h1, h2, e0, e1, rfl, rfl, h3, h4, h5, h6⟩
    · rw [h1]; exact Or.inl (Or.inl rfl)
    · have hcd : a = c ∧ b = d := by
        have := h1.1
        have := h1.2.1
        have := ho.1
        have := ho.2.1
        rw [nI_eq (by omega) (by omega)] at e0 e1
        exact ⟨e0, e1⟩
      obtain ⟨rfl, rfl⟩ := hcd
      rcases h6 with ⟨-, h6⟩ | ⟨n, hn, h6, h7⟩
      · exact Or.inl (Or.inl h6)
      · cases n with
        | zero => exact Or.inl (Or.inr (h7.trans nI_0))
        | succ m =>
          right
          obtain ⟨f1, f2, f3, f4⟩ := mf_S hD hI hS hV hC h2
          have hR : (f_X1_wayLength k M (nI a) (nI b) (nI gx) (nI gy)).2 = f_X1_measureFrom k M (nI gx) (nI gy) := by
            unfold f_X1_wayLength
            rcases opnn hD hI hS hV (nI gx) (nI gy) with ⟨o1, o2⟩ | ⟨_, _, _, _, _, _, _, o1, _⟩
            · exact absurd o2 (frr1 hI h2)
            · rw [if_neg (by rw [o1]; decide)]
          obtain ⟨e, he, t1, t2⟩ := mt_ex h4.1 (fun x y n e => labR_b hI e) h6
          have hcr := h4.1
          rw [h5.opn] at hcr
          have hlab : labC q (f_X1_measureFrom k M (nI gx) (nI gy)) = labR q (f_X4_measure q N (nI gx) (nI gy)) := by
            funext x y
            exact cert_uniq f3 hcr x y
          have r1 := fsL (a := a) (b := b) (m := m) (f1.SD hD) hI f4 (by omega) he (by rw [hlab]; exact t1) (fun d hd => by rw [hlab]; exact t2 d hd) 5 0 (by omega) (by omega)
          have r2 := (wayL (i := i) (a := a) (b := b) (m := m) (h5.mI hI) h4 (by rw [h5.opn]; exact h2) (by omega) hi (by rw [h5 4 (by decide)]; exact e4) (by rw [h5 5 (by decide)]; exact e5) he t1 t2 1026 0 (by omega) (by omega)).2
          rw [nI_0] at r1 r2
          refine ⟨m, e, h7, by omega, ?_, ?_⟩
          · rw [hR]; exact r1
          · rw [h3, mI_F hI]; exact r2
  rw [w1]
  rcases key with (h1 | h1) | ⟨m, e, h1, h2, h3, h4⟩
  · rw [h1, if_neg (by decide), if_neg (by decide), if_neg (by decide)]
    refine ⟨?_, ?_, ?_, w4⟩
    · rw [f_X1_firstStep_L21, if_pos (by decide)]
    · rw [hfr2]; exact w2
    · rw [hfr2]; exact w3
  · rw [h1, if_pos rfl, if_neg (by decide), if_pos (by decide)]
    exact ⟨rfl, w2, w3, w4⟩
  · rw [h1, if_neg (nI_ne0 (by omega) (by omega)), if_pos (by rw [← nI_0]; exact nI_lt (by omega) (by omega))]
    refine ⟨?_, ?_, ?_, ?_⟩
    · rw [h3, h4]
    · rw [hfr2]; exact w2
    · rw [hfr2]; exact w3
    · rw [way_L_M]; exact w4
theorem Fm.C (h : Fm M Y) : ∀ a b c, ¬ (a = 0 ∧ ((b = 1 ∧ c = 5) ∨ b = 3 ∨ b = 4)) → Y a b c = M a b c := h
theorem sim_pathLength (h : SimR k q M N) (x y z w : Int32) : (f_X3_pathLength k M x y z w).1 = (f_X4_pathLength q N x y z w).1 ∧ SimR k q (f_X3_pathLength k M x y z w).2 (f_X4_pathLength q N x y z w).2 := by
  obtain ⟨-, hI, hX⟩ := h
  obtain ⟨w1, w2, w3, w4⟩ := wl_S hX.1 hI hX.2.2.1 hX.2.2.2.1 hX.2.2.2.2 x y z w
  exact ⟨w1, SimX.R ((hX.frC w2 w3).fr15 w4) (w4.mI hI)⟩
end S3
