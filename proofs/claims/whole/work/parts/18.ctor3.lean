/-! the class's constructor: the world while robots are being made -/
def cEp (k : CK) (i g j : Nat) (f : Nat → Int32) : va_E := if g = 0 ∧ j = 5 then .inl (k.2.2.2.2, k.2.1 0, .inr (.inr (.inr (.inr (fun t => if t < i then some (k.1 (t + 1) 0) else none))))) else cE k g j f
def adN (ad : Nat → Nat → Nat) (i : Nat) (v : Nat → Nat) : Nat → Nat → Nat := fun g j => if g = i + 1 then v j else ad g j
def c0 (a b : Int32) : Mem := fun g j t => if g = 0 then (if j = 1 then (if t = 0 then a else if t = 1 then b else if t = 5 then -1 else 0) else 0) else (if j = 0 ∧ t = 0 then nI (g - 1) else 0)
theorem cIx_s (i : Nat) : cIx (i + 1) = cIx i ++ [(i + 1, 0), (i + 1, 1), (i + 1, 2), (i + 1, 3), (i + 1, 4)] := by
  simp [cIx, List.range_succ, List.flatMap_append]
theorem cIx_m {n g j : Nat} (h : (g, j) ∈ cIx n) : (g = 0 ∧ j < 6) ∨ (1 ≤ g ∧ g ≤ n) := by
  unfold cIx at h
  rcases List.mem_append.mp h with h | h
  · simp at h
    left
    omega
  · obtain ⟨i, hi, h⟩ := List.mem_flatMap.mp h
    have hi' := List.mem_range.mp hi
    simp at h
    right
    omega
theorem cEp_e {z : Nat → Nat} {D : va_G} {cI cR : ClassId} {ad : Nat → Nat → Nat} {i g j : Nat} {v : Nat → Nat} {f : Nat → Int32} (h : (g, j) ∈ cIx i) (hne : ¬ (g = 0 ∧ j = 5)) : cEp (adN ad i v, z, D, cI, cR) (i + 1) g j f = cEp (ad, z, D, cI, cR) i g j f := by
  have hm := cIx_m h
  unfold cEp
  rw [if_neg hne, if_neg hne]
  have e : ∀ a b : Nat, a ≤ i → adN ad i v a b = ad a b := fun a b h => by unfold adN; rw [if_neg (by omega)]
  cases g with
  | zero =>
    have hj : j < 6 := by omega
    rcases (show j = 0 ∨ j = 1 ∨ j = 2 ∨ j = 3 ∨ j = 4 by omega) with rfl | rfl | rfl | rfl | rfl <;> simp [cE, e]
  | succ g =>
    have hg : g + 1 ≤ i := by omega
    rcases j with _ | _ | _ | _ | j <;> simp [cE, e _ _ hg]
theorem pool_step {D : va_G} {cI cR : ClassId} {z : Nat → Nat} {ad : Nat → Nat → Nat} {i : Nat} {v : Nat → Nat} {M : Mem} {A : Nat → Prop} (hD : va_D A (pool (cIx i) ad (cEp (ad, z, D, cI, cR) i) M)) : (pool (cIx i) ad (cEp (ad, z, D, cI, cR) i) M ++ [(v 0, cE (adN ad i v, z, D, cI, cR) (i + 1) 0 (M (i + 1) 0)), (v 1, cE (adN ad i v, z, D, cI, cR) (i + 1) 1 (M (i + 1) 1)), (v 2, cE (adN ad i v, z, D, cI, cR) (i + 1) 2 (M (i + 1) 2)), (v 3, cE (adN ad i v, z, D, cI, cR) (i + 1) 3 (M (i + 1) 3)), (v 4, cE (adN ad i v, z, D, cI, cR) (i + 1) 4 (M (i + 1) 4))]).set 5 (ad 0 5, cEp (adN ad i v, z, D, cI, cR) (i + 1) 0 5 (M 0 5)) = pool (cIx (i + 1)) (adN ad i v) (cEp (adN ad i v, z, D, cI, cR) (i + 1)) M := by
  have h5 : (cIx i)[5]? = some (0, 5) := rfl
  have hl5 : 5 < (cIx i).length := (List.getElem?_eq_some_iff.mp h5).1
  have hlen : (pool (cIx i) ad (cEp (ad, z, D, cI, cR) i) M).length = (cIx i).length := by simp [pool]
  rw [cIx_s]
  unfold pool at *
  rw [List.map_append, List.set_append_left _ _ (by rw [hlen]; exact hl5)]
  congr 1
  · apply List.ext_getElem?
    intro t
    by_cases ht : t = 5
    · subst ht
      rw [List.getElem?_set_self (by rw [hlen]; exact hl5), List.getElem?_map, h5]
      simp [adN]
    · rw [List.getElem?_set_ne (Ne.symm ht), List.getElem?_map, List.getElem?_map]
      cases hx : (cIx i)[t]? with
      | none => rfl
      | some x =>
        obtain ⟨g, j⟩ := x
        have hm := List.mem_of_getElem? hx
        have hne : ¬ (g = 0 ∧ j = 5) := by
          rintro ⟨rfl, rfl⟩
          exact ht (hD.1 t 5 (ad 0 5, cEp (ad, z, D, cI, cR) i 0 5 (M 0 5)) (ad 0 5, cEp (ad, z, D, cI, cR) i 0 5 (M 0 5)) (by simp [hx]) (by simp [h5]) rfl)
        have hg := cIx_m hm
        simp only [Option.map_some]
        rw [cEp_e hm hne]
        have : adN ad i v g j = ad g j := by unfold adN; rw [if_neg (by omega)]
        rw [this]
  · simp [adN, cEp]
/-- when all robots are there -/
theorem pool_full {D : va_G} {cI cR : ClassId} {z : Nat → Nat} {ad : Nat → Nat → Nat} {M : Mem} {H : Heap} (hP : va_P D vwCl (pool (cIx (z 0)) ad (cEp (ad, z, D, cI, cR) (z 0)) M) H) : wP (cw (ad, z, D, cI, cR)) M H := by
  intro t q hq
  simp only [wW, pool, List.getElem?_map] at hq
  cases hx : (cIx (z 0))[t]? with
  | none => rw [hx] at hq; cases hq
  | some x =>
    obtain ⟨g, j⟩ := x
    rw [hx] at hq
    cases hq
    have h1 := hP t (ad g j, cEp (ad, z, D, cI, cR) (z 0) g j (M g j)) (by simp [pool, hx])
    by_cases hc : g = 0 ∧ j = 5
    · obtain ⟨rfl, rfl⟩ := hc
      have h2 : H[ad 0 5]? = some (vp_cell cR (z 0, .inr (.inr (.inr (.inr (fun t => if t < z 0 then some (ad (t + 1) 0) else none)))))) := h1
      show H[ad 0 5]? = some (vp_cell cR (z 0, .inr (.inr (.inr (.inr (fun t => some (ad (t + 1) 0)))))))
      rw [h2, vp_cell_q, vp_cell_q]
      unfold arrV
      have e9 : (fun x : Fin (z 0) => va_rf (if x.val < z 0 then some (ad (x.val + 1) 0) else none)) = (fun x : Fin (z 0) => va_rf (some (ad (x.val + 1) 0))) := by
        funext x
        rw [if_pos x.isLt]
      rw [e9]
    · have h2 : cEp (ad, z, D, cI, cR) (z 0) g j (M g j) = cE (ad, z, D, cI, cR) g j (M g j) := by unfold cEp; rw [if_neg hc]
      rw [h2] at h1
      exact h1
section LQ
variable {p : Program} {l : Launch} {e : Env} {R : Room} {s : State} {m : MethodId} {args : Array Value} {below : List Frame} {meth : Method} {c : Code} {H : Heap} {locs : List Loc} {cells slots : Nat} {Q : State → Prop}
variable {cc : ByteArray} {pc : Nat} {ls : Array Slot} {rest : List Value} {D : va_G} {cl : List vw_C} {A : Nat → Prop} {tys : List (ClassId × FieldType)} {ws : va_W} {H0 : Heap}
theorem vz_newq (hexec : p.tables.exec = Jvm.exec) (hb : c.code = cc) {own C : String} {index : Nat} (hown : s.vm.findClass own = some m.cls) (hclink : (Cond.classLink own index C).before args s = true) (hover : va_AO C s) (hK : va_K D cl tys s) {t0 : Nat} {cA : ClassId} (ht : tys[t0]? = some (cA, .object C)) (hP : va_P D cl ws H) (hD : va_D A ws) (hS : va_S A H0 H locs) (hA : ∀ q, H0.size ≤ q → A q)
    {n : Int32} {N' : Nat} (hn : ¬ n < 0) (hN : n.toNatClampNeg = N') (hbytes : N' * 4 ≤ 536870912) (hcells : cells + 1 ≤ R.cells) (hslots : slots + N' ≤ R.slots) (hdg : decode cc pc = .ok (.anewarray index, 3))
    (kk : ∀ (q : Nat) (H1 : Heap), va_P D cl (ws ++ [(q, .inl (cA, N', .inr (.inr (.inr (.inr (fun _ => none))))))]) H1 → va_D A (ws ++ [(q, .inl (cA, N', .inr (.inr (.inr (.inr (fun _ => none))))))]) → va_S A H0 H1 locs →
      W p l e R s m args below meth c H1 locs (cells + 1) (slots + N') Q (F0 m (pc + 3) ls (.ref q :: rest))) : W p l e R s m args below meth c H locs cells slots Q (F0 m pc ls (.int n :: rest)) := by
  refine va_newq hexec hb hown hclink hover hK hP hD hS hA hn hN hbytes hcells hslots hdg (fun q c1 H1 hK1 hP1 hD1 hS1 => ?_)
  have h1 : (tys ++ [(c1, FieldType.object C)])[tys.length]? = some (c1, .object C) := by simp
  obtain ⟨_, _, _, _, _, g1⟩ := (hK1.2 tys.length (c1, .object C) h1).2
  obtain ⟨_, _, _, _, _, g2⟩ := (hK.2 t0 (cA, .object C) ht).2
  have e1 : c1 = cA := Option.some.inj (Eq.trans (Eq.symm g1) g2)
  subst e1
  exact kk q H1 hP1 hD1 hS1
end LQ
/-- the class behind its constructor -/
def cAt (D : va_G) (yI yR : ClassId) (z : Nat → Nat) (A : Nat → Prop) (h0 : Nat) (M : Mem) (ad : Nat → Nat → Nat) (t : State) : Prop := ad 0 0 = h0 ∧ wP (cw (ad, z, D, yI, yR)) (f_X3_startOver (ad, z, D, yI, yR) M) t.heap ∧ va_D A (wW (cw (ad, z, D, yI, yR)) (f_X3_startOver (ad, z, D, yI, yR) M))
theorem c0_I {D : va_G} {yI yR : ClassId} {z : Nat → Nat} {ad : Nat → Nat → Nat} {x y : Int32} {a b : Nat} (ea : x = nI a) (eb : y = nI b) (ha : 1 ≤ a ∧ a ≤ 32) (hb : 1 ≤ b ∧ b ≤ 32) (hz0 : 1 ≤ z 0 ∧ z 0 ≤ 8) (hz1 : z 1 = a * b) (hz2 : 1 ≤ z 2 ∧ z 2 ≤ 100) (hz3 : 1 ≤ z 3 ∧ z 3 ≤ 16) : cI (ad, z, D, yI, yR) (c0 x y) := by
  refine ⟨⟨a, b, ?_, ?_, ha.1, ha.2, hb.1, hb.2, hz1⟩, hz0, hz2, hz3, fun i _ => ⟨?_, ?_⟩⟩
  · simp [c0, ea]
  · simp [c0, eb]
  · simp [c0]
  · simp [c0]
