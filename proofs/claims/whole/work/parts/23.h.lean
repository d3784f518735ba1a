/-! THE CLASS'S SEARCH -/
section S2
variable {k : CK} {q : MK} {M N X Y : Mem}
/-- only steps and queue differ -/
def Fq (M X : Mem) : Prop := ∀ a b c : Nat, ¬ (a = 0 ∧ (b = 3 ∨ b = 4)) → X a b c = M a b c
theorem Fq.SD (h : Fq M X) (hD : SD k q M) : SD k q X := hD.fr (h _ _ _ (by omega)) (h _ _ _ (by omega)) (fun i => h _ _ _ (by omega))
theorem Fq.SQ (h : Fq M X) (hS : SQ q M N) : SQ q X N := hS.fr (funext fun t => h _ _ _ (by omega)) rfl rfl
def cntU (f : Nat → Int32) : Nat → Nat
  | 0 => 0
  | n + 1 => cntU f n + if f n = -1 then 1 else 0
theorem cntU_o {f g : Nat → Int32} : ∀ n, (∀ t, t < n → g t = f t) → cntU g n = cntU f n := by
  intro n
  induction n with
  | zero => intro _; rfl
  | succ n ih =>
    intro h
    show cntU g n + (if g n = -1 then 1 else 0) = cntU f n + (if f n = -1 then 1 else 0)
    rw [ih (fun t ht => h t (by omega)), h n (by omega)]
theorem cntU_s {f g : Nat → Int32} {u : Nat} (h1 : f u = -1) (h2 : ¬ g u = -1) (h3 : ∀ t, t ≠ u → g t = f t) : ∀ n, u < n → cntU g n + 1 = cntU f n := by
  intro n
  induction n with
  | zero => intro hu; omega
  | succ n ih =>
    intro hu
    show cntU g n + (if g n = -1 then 1 else 0) + 1 = cntU f n + (if f n = -1 then 1 else 0)
    by_cases c : u = n
    · subst c
      rw [if_neg h2, if_pos h1, cntU_o u (fun t ht => h3 t (by omega))]
    · have := ih (by omega)
      rw [h3 n (by omega)]
      omega
theorem cntU_p {f : Nat → Int32} {u : Nat} (h1 : f u = -1) : ∀ n, u < n → 1 ≤ cntU f n := by
  intro n
  induction n with
  | zero => intro hu; omega
  | succ n ih =>
    intro hu
    show 1 ≤ cntU f n + (if f n = -1 then 1 else 0)
    by_cases c : u = n
    · subst c; rw [if_pos h1]; omega
    · have := ih (by omega); omega
theorem cntU_all {f : Nat → Int32} : ∀ n, (∀ t, t < n → f t = -1) → cntU f n = n := by
  intro n
  induction n with
  | zero => intro _; rfl
  | succ n ih =>
    intro h
    show cntU f n + (if f n = -1 then 1 else 0) = n + 1
    rw [ih (fun t ht => h t (by omega)), if_pos (h n (by omega))]
/-- the queue: c entries, those below i done -/
def QJ (q : MK) (N : Mem) (g : Nat × Nat) (c i : Nat) (X : Mem) (U V L : Nat → Nat) : Prop :=
  (∀ j, j < c → opn q N (U j) (V j) ∧ X 0 4 j = nI (V j * 32 + U j) ∧ X 0 3 (V j * q.2.1 1 + U j) = nI (L j) ∧ L j ≤ j ∧ wk (opn q N) g (L j) (U j, V j)) ∧
  (∀ j j', j ≤ j' → j' < c → L j ≤ L j') ∧ (∀ j, j < c → i < c → L j ≤ L i + 1) ∧
  (∀ u v, u < q.2.1 1 → v < q.2.1 2 → ¬ X 0 3 (v * q.2.1 1 + u) = -1 → ∃ j, j < c ∧ U j = u ∧ V j = v) ∧
  (∀ j, j < i → j < c → ∀ a b, adj (U j, V j) (a, b) → opn q N a b → ∃ m, m ≤ L j + 1 ∧ X 0 3 (b * q.2.1 1 + a) = nI m) ∧
  c + cntU (X 0 3) (q.2.1 1 * q.2.1 2) = q.2.1 1 * q.2.1 2 ∧ 0 < c ∧ U 0 = g.1 ∧ V 0 = g.2 ∧ L 0 = 0
theorem sq_lt {w h u v : Nat} (hu : u < w) (hv : v < h) : v * w + u < w * h := by
  have : (v + 1) * w ≤ h * w := Nat.mul_le_mul_right _ hv
  rw [Nat.add_mul, Nat.one_mul] at this
  rw [Nat.mul_comm w]
  omega
theorem wh_le (hI : mI q N) : q.2.1 1 * q.2.1 2 ≤ 1024 := by
  have h8 := hI.2.1
  exact Nat.le_trans (Nat.mul_le_mul h8.2.1 h8.2.2.2.1) (by decide)
/-- one direction after the other -/
theorem in117 {g : Nat × Nat} {x5 : Int32} {u v n i : Nat} (hD : SD k q M) (hI : mI q N) (hS : SQ q M N) (hV : NV q N) : ∀ (f d c : Nat) (X : Mem) (U V L : Nat → Nat), d ≤ 4 → 4 < d + f → Fq M X → QJ q N g c i X U V L → i < c → U i = u → V i = v → L i = n → ∃ (c' : Nat) (U' V' L' : Nat → Nat), (f_X1_measureFrom_L117 k x5 (nI u) (nI v) (nI (n + 1)) f (nI c) (nI d) X).1 = nI c' ∧ Fq M (f_X1_measureFrom_L117 k x5 (nI u) (nI v) (nI (n + 1)) f (nI c) (nI d) X).2 ∧ QJ q N g c' i (f_X1_measureFrom_L117 k x5 (nI u) (nI v) (nI (n + 1)) f (nI c) (nI d) X).2 U' V' L' ∧ i < c' ∧ U' i = u ∧ V' i = v ∧ L' i = n ∧ (∀ t, ¬ X 0 3 t = -1 → (f_X1_measureFrom_L117 k x5 (nI u) (nI v) (nI (n + 1)) f (nI c) (nI d) X).2 0 3 t = X 0 3 t) ∧ ∀ e, d ≤ e → e < 4 → ∀ a b, nI u + eB e = nI a → nI v + sB e = nI b → opn q N a b → ∃ m, m ≤ n + 1 ∧ (f_X1_measureFrom_L117 k x5 (nI u) (nI v) (nI (n + 1)) f (nI c) (nI d) X).2 0 3 (b * q.2.1 1 + a) = nI m := by
  have h8 := hI.2.1
  have hwh := wh_le hI
  intro f
  induction f with
  | zero => intro d c X U V L h1 h2; omega
  | succ f ih =>
    intro d c X U V L h1 h2 hF hQ hic hu hv hn
    have hQ0 := hQ
    obtain ⟨q1, q2, q3, q4, q5, q6, q7, q8⟩ := hQ
    have hcW : c ≤ q.2.1 1 * q.2.1 2 := by omega
    rw [f_X1_measureFrom_L117]
    by_cases cd : 4 ≤ d
    · rw [if_pos (show (4 : Int32) ≤ nI d from nI_le (a := 4) cd (by omega))]
      exact ⟨c, U, V, L, rfl, hF, hQ0, hic, hu, hv, hn, fun t _ => rfl, fun e h3 h4 => by omega⟩
    · have hd : d < 4 := by omega
      rw [if_neg (show ¬ (4 : Int32) ≤ nI d from nI_ge (b := 4) (by omega) (by omega)), nI_clamp (show d < 2 ^ 31 by omega), nI_1 d, hD.1.2.1]
      rcases opnn (hF.SD hD) hI (hF.SQ hS) hV (nI u + eB d) (nI v + sB d) with ⟨o1, o2⟩ | ⟨a, b, ha, hb, e1, e2, hw, o1, o2⟩
      · rw [if_pos o1]
        obtain ⟨c', U', V', L', r1, r2, r3, r4, r5, r6, r7, r8, r9⟩ := ih (d + 1) c X U V L (by omega) (by omega) hF hQ0 hic hu hv hn
        refine ⟨c', U', V', L', r1, r2, r3, r4, r5, r6, r7, r8, fun e h3 h4 a b h5 h6 h7 => ?_⟩
        rcases Nat.lt_or_ge d e with h9 | h9
        · exact r9 e h9 h4 a b h5 h6 h7
        · have : e = d := by omega
          subst this
          rw [h5, h6] at o2
          rcases frr hI (nI a) (nI b) with ⟨_, h10⟩ | ⟨_, _, _, _, _, h10⟩
          · exact absurd h7 (h10 a b rfl rfl)
          · exact absurd o2 h10
      · have hsq := sqAt (hF.SD hD) hI ha hb
        have same : ∀ a' b' : Nat, nI u + eB d = nI a' → nI v + sB d = nI b' → opn q N a' b' → a' = a ∧ b' = b := by
          intro a' b' h5 h6 h7
          have := h7.1
          have := h7.2.1
          rw [e1, nI_eq (by omega) (by omega)] at h5
          rw [e2, nI_eq (by omega) (by omega)] at h6
          exact ⟨h5.symm, h6.symm⟩
        have hadj : adj (U i, V i) (a, b) := by
          have := (q1 i hic).1.1
          have := (q1 i hic).1.2.1
          rw [hu, hv] at *
          exact dir_adj hd (by omega) (by omega) (by omega) (by omega) e1 e2
        rw [if_neg (by rw [o1]; decide), e1, e2, hsq.1]
        by_cases cU : X 0 3 (b * q.2.1 1 + a) = -1
        · have hp := cntU_p cU _ (sq_lt ha hb)
          have hcl : c < q.2.1 1 * q.2.1 2 := by omega
          rw [if_neg (nI_ge hcl (by omega)), if_pos cU, nI_clamp (by omega), nI_1 c, enc_or b (by omega) a (by omega)]
          have hne : ∀ j, j < c → ¬ (U j = a ∧ V j = b) := by
            rintro j hj ⟨rfl, rfl⟩
            have := (q1 j hj).2.2.1
            rw [cU] at this
            have hl := (q1 j hj).2.2.2.1
            exact nI_m1 (by omega) this.symm
          have s3 : ∀ t, t ≠ b * q.2.1 1 + a → mu (mu X 0 3 (b * q.2.1 1 + a) (nI (n + 1))) 0 4 c (nI (b * 32 + a)) 0 3 t = X 0 3 t := fun t ht => by rw [mu_at, if_neg (by omega), mu_at, if_neg (by omega)]
          have s3' : mu (mu X 0 3 (b * q.2.1 1 + a) (nI (n + 1))) 0 4 c (nI (b * 32 + a)) 0 3 (b * q.2.1 1 + a) = nI (n + 1) := by rw [mu_at, if_neg (by omega), mu_eq]
          have s4 : ∀ t, t ≠ c → mu (mu X 0 3 (b * q.2.1 1 + a) (nI (n + 1))) 0 4 c (nI (b * 32 + a)) 0 4 t = X 0 4 t := fun t ht => by rw [mu_at, if_neg (by omega), mu_at, if_neg (by omega)]
          have s4' : mu (mu X 0 3 (b * q.2.1 1 + a) (nI (n + 1))) 0 4 c (nI (b * 32 + a)) 0 4 c = nI (b * 32 + a) := mu_eq _ _ _ _ _
          have hF' : Fq M (mu (mu X 0 3 (b * q.2.1 1 + a) (nI (n + 1))) 0 4 c (nI (b * 32 + a))) := fun x y z h9 => by rw [mu_at, if_neg (by omega), mu_at, if_neg (by omega)]; exact hF x y z h9
          have hLi := (q1 i hic).2.2.2.1
          generalize mu (mu X 0 3 (b * q.2.1 1 + a) (nI (n + 1))) 0 4 c (nI (b * 32 + a)) = Z at *
          have hQ' : QJ q N g (c + 1) i Z (fun j => if j = c then a else U j) (fun j => if j = c then b else V j) (fun j => if j = c then n + 1 else L j) := by
            refine ⟨fun j hj => ?_, fun j j' h3 h4 => ?_, fun j hj h4 => ?_, fun x y hx hy h9 => ?_, fun j h3 h4 x y h5 h6 => ?_, ?_, by omega, ?_, ?_, ?_⟩
            · by_cases hjc : j = c
              · subst hjc
                simp only [if_pos]
                refine ⟨⟨ha, hb, hw⟩, s4', s3', by omega, (U i, V i), ?_, hadj, ha, hb, hw⟩
                rw [← hn]
                exact (q1 i hic).2.2.2.2
              · simp only [if_neg hjc]
                obtain ⟨p1, p2, p3, p4, p5⟩ := q1 j (by omega)
                refine ⟨p1, by rw [s4 j hjc]; exact p2, ?_, p4, p5⟩
                rw [s3 _ (fun z => hne j (by omega) (sq_inj p1.1 ha z))]
                exact p3
            · show (if j = c then n + 1 else L j) ≤ if j' = c then n + 1 else L j'
              by_cases hjc : j = c
              · rw [if_pos hjc, if_pos (by omega)]; omega
              · rw [if_neg hjc]
                by_cases hjc' : j' = c
                · rw [if_pos hjc', ← hn]; exact q3 j (by omega) hic
                · rw [if_neg hjc']; exact q2 j j' h3 (by omega)
            · show (if j = c then n + 1 else L j) ≤ (if i = c then n + 1 else L i) + 1
              rw [if_neg (show ¬ i = c by omega), hn]
              by_cases hjc : j = c
              · rw [if_pos hjc]; omega
              · rw [if_neg hjc, ← hn]; exact q3 j (by omega) hic
            · by_cases hxy : x = a ∧ y = b
              · exact ⟨c, by omega, by simp [hxy.1], by simp [hxy.2]⟩
              · rw [s3 _ (fun z => hxy (sq_inj hx ha z))] at h9
                obtain ⟨j, hj, h10, h11⟩ := q4 x y hx hy h9
                exact ⟨j, by omega, (if_neg (show ¬ j = c by omega)).trans h10, (if_neg (show ¬ j = c by omega)).trans h11⟩
            · simp only [if_neg (show ¬ j = c by omega)] at h5 ⊢
              obtain ⟨m, hm, e9⟩ := q5 j h3 (by omega) x y h5 h6
              refine ⟨m, hm, ?_⟩
              have hLj := (q1 j (by omega)).2.2.2.1
              rw [s3 _ (fun z => ?_)]
              · exact e9
              · rw [z, cU] at e9
                exact nI_m1 (by omega) e9.symm
            · have := cntU_s (f := X 0 3) (g := Z 0 3) cU (by rw [s3']; exact nI_m1 (by omega)) s3 _ (sq_lt ha hb)
              omega
            · show (if 0 = c then a else U 0) = g.1
              rw [if_neg (by omega)]; exact q8.1
            · show (if 0 = c then b else V 0) = g.2
              rw [if_neg (by omega)]; exact q8.2.1
            · show (if 0 = c then n + 1 else L 0) = 0
              rw [if_neg (by omega)]; exact q8.2.2
          obtain ⟨c', U', V', L', r1, r2, r3, r4, r5, r6, r7, r8, r9⟩ := ih (d + 1) (c + 1) Z _ _ _ (by omega) (by omega) hF' hQ' (by omega) ((if_neg (show ¬ i = c by omega)).trans hu) ((if_neg (show ¬ i = c by omega)).trans hv) ((if_neg (show ¬ i = c by omega)).trans hn)
          refine ⟨c', U', V', L', r1, r2, r3, r4, r5, r6, r7, fun t ht => ?_, fun e h3 h4 a' b' h5 h6 h7 => ?_⟩
          · have ht' : t ≠ b * q.2.1 1 + a := fun z => ht (by rw [z]; exact cU)
            rw [r8 t (by rw [s3 t ht']; exact ht), s3 t ht']
          · rcases Nat.lt_or_ge d e with h9 | h9
            · exact r9 e h9 h4 a' b' h5 h6 h7
            · have : e = d := by omega
              subst this
              obtain ⟨rfl, rfl⟩ := same a' b' h5 h6 h7
              exact ⟨n + 1, by omega, by rw [r8 _ (by rw [s3']; exact nI_m1 (by omega)), s3']⟩
        · have hih := ih (d + 1) c X U V L (by omega) (by omega) hF hQ0 hic hu hv hn
          have hfin : ∀ c' : Nat, ∀ U' V' L' : Nat → Nat, ∀ R : Int32 × Mem, (R.1 = nI c' ∧ Fq M R.2 ∧ QJ q N g c' i R.2 U' V' L' ∧ i < c' ∧ U' i = u ∧ V' i = v ∧ L' i = n ∧ (∀ t, ¬ X 0 3 t = -1 → R.2 0 3 t = X 0 3 t) ∧ ∀ e, d + 1 ≤ e → e < 4 → ∀ a b, nI u + eB e = nI a → nI v + sB e = nI b → opn q N a b → ∃ m, m ≤ n + 1 ∧ R.2 0 3 (b * q.2.1 1 + a) = nI m) → (R.1 = nI c' ∧ Fq M R.2 ∧ QJ q N g c' i R.2 U' V' L' ∧ i < c' ∧ U' i = u ∧ V' i = v ∧ L' i = n ∧ (∀ t, ¬ X 0 3 t = -1 → R.2 0 3 t = X 0 3 t) ∧ ∀ e, d ≤ e → e < 4 → ∀ a b, nI u + eB e = nI a → nI v + sB e = nI b → opn q N a b → ∃ m, m ≤ n + 1 ∧ R.2 0 3 (b * q.2.1 1 + a) = nI m) := by
            rintro c' U' V' L' R ⟨r1, r2, r3, r4, r5, r6, r7, r8, r9⟩
            refine ⟨r1, r2, r3, r4, r5, r6, r7, r8, fun e h3 h4 a' b' h5 h6 h7 => ?_⟩
            rcases Nat.lt_or_ge d e with h9 | h9
            · exact r9 e h9 h4 a' b' h5 h6 h7
            · have : e = d := by omega
              subst this
              obtain ⟨rfl, rfl⟩ := same a' b' h5 h6 h7
              obtain ⟨j, hj, rfl, rfl⟩ := q4 a' b' ha hb cU
              have hb' := q3 j hj hic
              rw [hn] at hb'
              exact ⟨L j, hb', by rw [r8 _ cU]; exact (q1 j hj).2.2.1⟩
          obtain ⟨c', U', V', L', hall⟩ := hih
          refine ⟨c', U', V', L', ?_⟩
          by_cases cW : nI (q.2.1 1 * q.2.1 2) ≤ nI c
          · rw [if_pos cW]; exact hfin c' U' V' L' _ hall
          · rw [if_neg cW, if_neg cU]; exact hfin c' U' V' L' _ hall
/-- the queue, entry by entry -/
theorem in55 {g : Nat × Nat} (hD : SD k q M) (hI : mI q N) (hS : SQ q M N) (hV : NV q N) : ∀ (f i c : Nat) (X : Mem) (U V L : Nat → Nat), i ≤ c → q.2.1 1 * q.2.1 2 < i + f → Fq M X → QJ q N g c i X U V L → ∃ (c' : Nat) (U' V' L' : Nat → Nat), Fq M (f_X1_measureFrom_L55 k f (nI c) (nI i) X) ∧ QJ q N g c' c' (f_X1_measureFrom_L55 k f (nI c) (nI i) X) U' V' L' := by
  have h8 := hI.2.1
  have hwh := wh_le hI
  intro f
  induction f with
  | zero =>
    intro i c X U V L h1 h2 hF hQ
    have := hQ.2.2.2.2.2.1
    omega
  | succ f ih =>
    intro i c X U V L h1 h2 hF hQ
    have hQ0 := hQ
    obtain ⟨q1, q2, q3, q4, q5, q6, q7, q8⟩ := hQ
    rw [f_X1_measureFrom_L55]
    by_cases c1 : c ≤ i
    · rw [if_pos (nI_le c1 (by omega))]
      have : c = i := by omega
      subst this
      exact ⟨c, U, V, L, hF, hQ0⟩
    · have hic : i < c := by omega
      rw [if_neg (nI_ge hic (by omega)), hD.1.2.1, if_neg (nI_ge (show i < q.2.1 1 * q.2.1 2 by omega) (by omega)), nI_clamp (show i < 2 ^ 31 by omega)]
      obtain ⟨p1, p2, p3, p4, p5⟩ := q1 i hic
      have hu := p1.1
      have hv := p1.2.1
      rw [p2, enc_x (V i) (by omega) (U i) (by omega), enc_y (V i) (by omega) (U i) (by omega), (sqAt (hF.SD hD) hI hu hv).1, p3, nI_1, nI_1]
      obtain ⟨c', U', V', L', r1, r2, r3, r4, r5, r6, r7, r8, r9⟩ := in117 (x5 := nI i) hD hI hS hV 5 0 c X U V L (by omega) (by omega) hF hQ0 hic rfl rfl rfl
      rw [nI_0] at r1 r2 r3 r8 r9
      rw [r1]
      have hQ' : QJ q N g c' (i + 1) (f_X1_measureFrom_L117 k (nI i) (nI (U i)) (nI (V i)) (nI (L i + 1)) 5 (nI c) 0 X).2 U' V' L' := by
        generalize (f_X1_measureFrom_L117 k (nI i) (nI (U i)) (nI (V i)) (nI (L i + 1)) 5 (nI c) 0 X).2 = Y at *
        obtain ⟨t1, t2, t3, t4, t5, t6, t7, t8⟩ := r3
        refine ⟨t1, t2, fun j hj h4 => ?_, t4, fun j h3 h4 x y h5 h6 => ?_, t6, t7, t8⟩
        · have a1 := t3 j hj r4
          have a2 := t2 i (i + 1) (by omega) h4
          omega
        · rcases Nat.lt_or_ge j i with h9 | h9
          · exact t5 j h9 h4 x y h5 h6
          · have : j = i := by omega
            subst this
            rw [r5, r6] at h5
            obtain ⟨d, hd, e1, e2⟩ := dir_of h5
            rw [r7]
            exact r9 d (by omega) hd x y e1 e2 h6
      exact ih (i + 1) c' _ U' V' L' (by omega) (by omega) r2 hQ'
theorem labC_e {n x y : Nat} (h : ∀ x y, x < q.2.1 1 → y < q.2.1 2 → Y 0 3 (y * q.2.1 1 + x) = -1 ∨ ∃ n : Nat, n ≤ 1024 ∧ Y 0 3 (y * q.2.1 1 + x) = nI n) (e : labC q Y x y = some n) : x < q.2.1 1 ∧ y < q.2.1 2 ∧ n ≤ 1024 ∧ Y 0 3 (y * q.2.1 1 + x) = nI n := by
  unfold labC at e
  by_cases c : x < q.2.1 1 ∧ y < q.2.1 2
  · rw [if_pos c] at e
    by_cases c1 : Y 0 3 (y * q.2.1 1 + x) = -1
    · rw [if_pos c1] at e; cases e
    · rw [if_neg c1] at e
      rcases h x y c.1 c.2 with h1 | ⟨m, hm, h1⟩
      · exact absurd h1 c1
      · have e' := Option.some.inj e
        rw [h1, nI_clamp (by omega)] at e'
        subst e'
        exact ⟨c.1, c.2, hm, h1⟩
  · rw [if_neg c] at e; cases e
theorem labC_i {n x y : Nat} (hx : x < q.2.1 1) (hy : y < q.2.1 2) (hn : n ≤ 2000) (e : Y 0 3 (y * q.2.1 1 + x) = nI n) : labC q Y x y = some n := by
  unfold labC
  rw [if_pos ⟨hx, hy⟩, e, if_neg (nI_m1 (by omega)), nI_clamp (by omega)]
theorem QJ_cert {g : Nat × Nat} {c : Nat} {U V L : Nat → Nat} (hI : mI q N) (h : QJ q N g c c Y U V L) : Cert (opn q N) g (labC q Y) ∧ ∀ x y, x < q.2.1 1 → y < q.2.1 2 → Y 0 3 (y * q.2.1 1 + x) = -1 ∨ ∃ n : Nat, n ≤ 1024 ∧ Y 0 3 (y * q.2.1 1 + x) = nI n := by
  have hwh := wh_le hI
  obtain ⟨q1, q2, q3, q4, q5, q6, q7, q8, q9, q10⟩ := h
  have dom : ∀ x y, x < q.2.1 1 → y < q.2.1 2 → Y 0 3 (y * q.2.1 1 + x) = -1 ∨ ∃ n : Nat, n ≤ 1024 ∧ Y 0 3 (y * q.2.1 1 + x) = nI n := by
    intro x y hx hy
    by_cases e : Y 0 3 (y * q.2.1 1 + x) = -1
    · exact Or.inl e
    · obtain ⟨j, hj, rfl, rfl⟩ := q4 x y hx hy e
      have := (q1 j hj).2.2.2.1
      exact Or.inr ⟨L j, by omega, (q1 j hj).2.2.1⟩
  have lab : ∀ x y n, labC q Y x y = some n → ∃ j, j < c ∧ U j = x ∧ V j = y ∧ L j = n := by
    intro x y n e
    obtain ⟨hx, hy, hn, e'⟩ := labC_e dom e
    obtain ⟨j, hj, rfl, rfl⟩ := q4 x y hx hy (by rw [e']; exact nI_m1 (by omega))
    refine ⟨j, hj, rfl, rfl, ?_⟩
    have h1 := (q1 j hj).2.2.1
    have h2 := (q1 j hj).2.2.2.1
    rw [e', nI_eq (by omega) (by omega)] at h1
    exact h1.symm
  refine ⟨⟨?_, ?_, ?_⟩, dom⟩
  · have h0 := q1 0 q7
    rw [q8, q9, q10] at h0
    exact labC_i h0.1.1 h0.1.2.1 (by omega) h0.2.2.1
  · intro x y n e
    obtain ⟨j, hj, rfl, rfl, rfl⟩ := lab x y n e
    exact (q1 j hj).2.2.2.2
  · intro x y n e p h1 h2
    obtain ⟨j, hj, rfl, rfl, rfl⟩ := lab x y n e
    obtain ⟨m, hm, e2⟩ := q5 j hj hj p.1 p.2 h1 h2
    have := (q1 j hj).2.2.2.1
    exact ⟨m, hm, labC_i h2.1 h2.2.1 (by omega) e2⟩
theorem CA.goal {gx gy : Nat} (hI : mI q N) (hC : CA q M N) (hx : gx < q.2.1 1) (hy : gy < q.2.1 2) (e : M 0 1 5 = nI (32 * gy + gx)) : Cert (opn q N) (gx, gy) (labC q M) ∧ ∀ x y, x < q.2.1 1 → y < q.2.1 2 → M 0 3 (y * q.2.1 1 + x) = -1 ∨ ∃ n : Nat, n ≤ 1024 ∧ M 0 3 (y * q.2.1 1 + x) = nI n := by
  have h8 := hI.2.1
  rcases hC with h | ⟨a, b, ha, hb, h1, h2, h3⟩
  · rw [e] at h; exact absurd h (nI_m1 (by omega))
  · rw [e, nI_eq (by omega) (by omega)] at h1
    have : gx = a ∧ gy = b := by omega
    obtain ⟨rfl, rfl⟩ := this
    exact ⟨h2, h3⟩
/-- only goal, steps and queue differ -/
def Fm (M X : Mem) : Prop := ∀ a b c : Nat, ¬ (a = 0 ∧ ((b = 1 ∧ c = 5) ∨ b = 3 ∨ b = 4)) → X a b c = M a b c
theorem mf_S {a b : Nat} (hD : SD k q M) (hI : mI q N) (hS : SQ q M N) (hV : NV q N) (hC : CA q M N) (ho : opn q N a b) : Fm M (f_X1_measureFrom k M (nI a) (nI b)) ∧ CA q (f_X1_measureFrom k M (nI a) (nI b)) N ∧ Cert (opn q N) (a, b) (labC q (f_X1_measureFrom k M (nI a) (nI b))) ∧ ∀ x y, x < q.2.1 1 → y < q.2.1 2 → f_X1_measureFrom k M (nI a) (nI b) 0 3 (y * q.2.1 1 + x) = -1 ∨ ∃ n : Nat, n ≤ 1024 ∧ f_X1_measureFrom k M (nI a) (nI b) 0 3 (y * q.2.1 1 + x) = nI n := by
  have h8 := hI.2.1
  have hwh := wh_le hI
  have ha := ho.1
  have hb := ho.2.1
  unfold f_X1_measureFrom
  rw [enc_or b (by omega) a (by omega), show b * 32 + a = 32 * b + a by omega]
  by_cases c : M 0 1 5 = nI (32 * b + a)
  · rw [if_pos c]
    obtain ⟨h1, h2⟩ := hC.goal hI ha hb c
    exact ⟨fun _ _ _ _ => rfl, hC, h1, h2⟩
  · rw [if_neg c]
    have e0 : (mr (mu M 0 1 5 (nI (32 * b + a))) 0 3 (fillF ((mu M 0 1 5 (nI (32 * b + a))) 0 3) (k.2.1 1) (-1))) 0 1 0 = nI (q.2.1 1) := by
      rw [mr_at, if_neg (by omega), mu_at, if_neg (by omega), hD.2.1]
    rw [e0, sqC ha hb (by omega) (by omega), show (0 : Int32).toNatClampNeg = 0 from rfl, hD.1.2.1]
    have hsq := sq_lt ha hb
    have x3 : ∀ t, t < q.2.1 1 * q.2.1 2 → t ≠ b * q.2.1 1 + a → (mu (mu (mr (mu M 0 1 5 (nI (32 * b + a))) 0 3 (fillF ((mu M 0 1 5 (nI (32 * b + a))) 0 3) (q.2.1 1 * q.2.1 2) (-1))) 0 3 (b * q.2.1 1 + a) 0) 0 4 0 (nI (32 * b + a))) 0 3 t = -1 := fun t ht hne => by
      rw [mu_at, if_neg (by omega), mu_at, if_neg (by omega), mr_at, if_pos ⟨rfl, rfl⟩]
      unfold fillF
      rw [if_pos ht]
    have x3' : (mu (mu (mr (mu M 0 1 5 (nI (32 * b + a))) 0 3 (fillF ((mu M 0 1 5 (nI (32 * b + a))) 0 3) (q.2.1 1 * q.2.1 2) (-1))) 0 3 (b * q.2.1 1 + a) 0) 0 4 0 (nI (32 * b + a))) 0 3 (b * q.2.1 1 + a) = 0 := by
      rw [mu_at, if_neg (by omega), mu_eq]
    have x4 : (mu (mu (mr (mu M 0 1 5 (nI (32 * b + a))) 0 3 (fillF ((mu M 0 1 5 (nI (32 * b + a))) 0 3) (q.2.1 1 * q.2.1 2) (-1))) 0 3 (b * q.2.1 1 + a) 0) 0 4 0 (nI (32 * b + a))) 0 4 0 = nI (32 * b + a) := mu_eq _ _ _ _ _
    have hF : Fq (mu M 0 1 5 (nI (32 * b + a))) (mu (mu (mr (mu M 0 1 5 (nI (32 * b + a))) 0 3 (fillF ((mu M 0 1 5 (nI (32 * b + a))) 0 3) (q.2.1 1 * q.2.1 2) (-1))) 0 3 (b * q.2.1 1 + a) 0) 0 4 0 (nI (32 * b + a))) := fun x y z h9 => by
      rw [mu_at, if_neg (by omega), mu_at, if_neg (by omega), mr_at, if_neg (by omega)]
    generalize (mu (mu (mr (mu M 0 1 5 (nI (32 * b + a))) 0 3 (fillF ((mu M 0 1 5 (nI (32 * b + a))) 0 3) (q.2.1 1 * q.2.1 2) (-1))) 0 3 (b * q.2.1 1 + a) 0) 0 4 0 (nI (32 * b + a))) = X at *
    have hD1 : SD k q (mu M 0 1 5 (nI (32 * b + a))) := hD.fr (by rw [mu_at, if_neg (by omega)]) (by rw [mu_at, if_neg (by omega)]) (fun i => by rw [mu_at, if_neg (by omega)])
    have hS1 : SQ q (mu M 0 1 5 (nI (32 * b + a))) N := hS.fr (mu_off M _ _ (by omega)) rfl rfl
    have hQ : QJ q N (a, b) 1 0 X (fun _ => a) (fun _ => b) (fun _ => 0) := by
      refine ⟨fun j hj => ?_, fun _ _ _ _ => Nat.le_refl _, fun _ _ _ => Nat.zero_le _, fun x y hx hy h9 => ?_, fun j h3 => by omega, ?_, by omega, rfl, rfl, rfl⟩
      · have : j = 0 := by omega
        subst this
        exact ⟨ho, by rw [x4, show b * 32 + a = 32 * b + a by omega], by rw [x3', nI_0], Nat.le_refl 0, rfl⟩
      · refine ⟨0, by omega, ?_⟩
        by_cases hxy : x = a ∧ y = b
        · exact ⟨hxy.1.symm, hxy.2.symm⟩
        · exact absurd (x3 _ (sq_lt hx hy) (fun z => hxy (sq_inj hx ha z))) h9
      · have h1 := cntU_s (f := fun t => if t = b * q.2.1 1 + a then -1 else X 0 3 t) (g := X 0 3) (u := b * q.2.1 1 + a) (if_pos rfl) (by rw [x3']; decide) (fun t ht => (if_neg ht).symm) _ hsq
        have h2 := cntU_all (f := fun t => if t = b * q.2.1 1 + a then -1 else X 0 3 t) (q.2.1 1 * q.2.1 2) (fun t ht => by
          by_cases e : t = b * q.2.1 1 + a
          · exact if_pos e
          · exact (if_neg e).trans (x3 t ht e))
        omega
    obtain ⟨c', U', V', L', r1, r2⟩ := in55 hD1 hI hS1 hV (q.2.1 1 * q.2.1 2 + 1) 0 1 X _ _ _ (by omega) (by omega) hF hQ
    rw [nI_0, show nI 1 = 1 from rfl] at r1 r2
    obtain ⟨r3, r4⟩ := QJ_cert hI r2
    have hg : f_X1_measureFrom_L55 k (q.2.1 1 * q.2.1 2 + 1) 1 0 X 0 1 5 = nI (32 * b + a) := by rw [r1 0 1 5 (by omega), mu_eq]
    refine ⟨fun x y z h9 => ?_, Or.inr ⟨a, b, ha, hb, hg, r3, r4⟩, r3, r4⟩
    rw [r1 x y z (by omega), mu_at, if_neg (by omega)]
end S2
