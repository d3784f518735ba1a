/-! THE CLASS'S WORLD: group 0: 0 the object, 1 its land, 2 contents, 3 steps, 4 queue, 5 the robots' row; group i + 1: robot i: 0 itself, 1 program, 2 registers, 3 box, 4 the box's numbers.
CK: addresses; numbers (0 robots, 1 squares, 2 longest, 3 mails, 4 and 5 the two static rows); classes; class of int rows, of robot rows -/
abbrev CK : Type := (Nat → Nat → Nat) × (Nat → Nat) × va_G × ClassId × ClassId
def cIx (n : Nat) : List (Nat × Nat) := [(0, 0), (0, 1), (0, 2), (0, 3), (0, 4), (0, 5)] ++ (List.range n).flatMap (fun i => [(i + 1, 0), (i + 1, 1), (i + 1, 2), (i + 1, 3), (i + 1, 4)])
theorem cIx_0 {n j : Nat} (h : j < 6) : (0, j) ∈ cIx n := by
  unfold cIx
  apply List.mem_append_left
  rcases (show j = 0 ∨ j = 1 ∨ j = 2 ∨ j = 3 ∨ j = 4 ∨ j = 5 by omega) with rfl | rfl | rfl | rfl | rfl | rfl <;> simp
theorem cIx_r {n i j : Nat} (hi : i < n) (h : j < 5) : (i + 1, j) ∈ cIx n := by
  unfold cIx
  apply List.mem_append_right
  refine List.mem_flatMap.mpr ⟨i, List.mem_range.mpr hi, ?_⟩
  rcases (show j = 0 ∨ j = 1 ∨ j = 2 ∨ j = 3 ∨ j = 4 by omega) with rfl | rfl | rfl | rfl | rfl <;> simp
def eB (i : Nat) : Int32 := if i = 1 then 1 else if i = 3 then -1 else 0
def sB (i : Nat) : Int32 := if i = 0 then -1 else if i = 2 then 1 else 0
def cE (k : CK) (g j : Nat) (f : Nat → Int32) : va_E := match g, j with
  | 0, 0 => .inr (3, [.ref (k.1 0 1), .ref (k.1 0 5), .int (f 2), .int (f 3)])
  | 0, 1 => .inr (1, [.int (f 0), .int (f 1), .ref (k.1 0 2), .ref (k.1 0 3), .ref (k.1 0 4), .int (f 5)])
  | 0, 2 => .inl (k.2.2.2.1, k.2.1 1, .inl f)
  | 0, 3 => .inl (k.2.2.2.1, k.2.1 1, .inl f)
  | 0, 4 => .inl (k.2.2.2.1, k.2.1 1, .inl f)
  | 0, _ => .inl (k.2.2.2.2, k.2.1 0, .inr (.inr (.inr (.inr (fun i => some (k.1 (i + 1) 0))))))
  | g + 1, 0 => .inr (2, [.int (f 0), .ref (k.1 (g + 1) 1), .ref (k.1 (g + 1) 2), .ref (k.1 (g + 1) 3), .int (f 4), .int (f 5), .int (f 6), .int (f 7), .int (f 8), .int (f 9), .int (f 10), .int (f 11)])
  | _ + 1, 1 => .inl (k.2.2.2.1, k.2.1 2, .inl f)
  | _ + 1, 2 => .inl (k.2.2.2.1, 8, .inl f)
  | g + 1, 3 => .inr (0, [.ref (k.1 (g + 1) 4), .int (f 1)])
  | _ + 1, _ => .inl (k.2.2.2.1, k.2.1 3, .inl f)
/-- what the class needs besides: two static rows, and links among nest mates -/
def cZ (k : CK) (A : Nat → Prop) (U : State) (H : Heap) : Prop := va_Z RX3 "EAST_BY" "[I" (.ref (k.2.1 4)) A U H ∧ va_T .int (k.2.1 4) 4 (fun i => .int (eB i)) A U H ∧ va_Z RX3 "SOUTH_BY" "[I" (.ref (k.2.1 5)) A U H ∧ va_T .int (k.2.1 5) 4 (fun i => .int (sB i)) A U H ∧ va_Nw (.fieldLinkNest RX1 56 RX3 "EAST_BY" "[I" RX3) U ∧ va_Nw (.fieldLinkNest RX1 59 RX3 "SOUTH_BY" "[I" RX3) U ∧ va_Nw (.methodLinkNest RX2 64 yX3_opOf RX3) U ∧ va_Nw (.methodLinkNest RX2 68 yX3_sOf RX3) U ∧ va_Nw (.methodLinkNest RX2 71 yX3_rOf RX3) U
abbrev cw (k : CK) : WG := (cIx (k.2.1 0), k.1, cE k, k.2.2.1, [(k.2.2.2.1, .int), (k.2.2.2.2, .object RX2)], cZ k)
theorem cZok (k : CK) : wZok (cw k) := by
  refine ⟨fun A u U H h q => ?_, fun A u U H h q => ?_, fun A U H H1 h q => ?_⟩
  · obtain ⟨a1, a2, a3, a4, a5, a6, a7, a8, a9⟩ := q
    have hv : u.vm.Alike U.vm := h ▸ Vm.Alike.refl u.vm
    exact ⟨a1.moved hv, a2.moved hv, a3.moved hv, a4.moved hv, a5.same rfl h, a6.same rfl h, a7.same rfl h, a8.same rfl h, a9.same rfl h⟩
  · obtain ⟨a1, a2, a3, a4, a5, a6, a7, a8, a9⟩ := q
    exact ⟨a1.moved h.alike, a2.moved h.alike, a3.moved h.alike, a4.moved h.alike, a5.warmF h, a6.warmF h, a7.warmM h, a8.warmM h, a9.warmM h⟩
  · obtain ⟨a1, a2, a3, a4, a5, a6, a7, a8, a9⟩ := q
    exact ⟨a1.kept h, a2.kept h, a3.kept h, a4.kept h, a5, a6, a7, a8, a9⟩
/-! THE REFERENCE'S WORLD: group 0: 0 the object, then its rows in the order of its fields. MK: addresses; numbers (0 robots, 1 width, 2 height, 3 longest, 4 mails); classes; class of int rows, of boolean rows -/
abbrev MK : Type := (Nat → Nat → Nat) × (Nat → Nat) × va_G × ClassId × ClassId
def mIx : List (Nat × Nat) := [(0, 0), (0, 1), (0, 2), (0, 3), (0, 4), (0, 5), (0, 6), (0, 7), (0, 8), (0, 9), (0, 10), (0, 11), (0, 12), (0, 13), (0, 14), (0, 15)]
theorem mIx_0 {j : Nat} (h : j < 16) : (0, j) ∈ mIx := by
  unfold mIx
  rcases (show j = 0 ∨ j = 1 ∨ j = 2 ∨ j = 3 ∨ j = 4 ∨ j = 5 ∨ j = 6 ∨ j = 7 ∨ j = 8 ∨ j = 9 ∨ j = 10 ∨ j = 11 ∨ j = 12 ∨ j = 13 ∨ j = 14 ∨ j = 15 by omega) with rfl | rfl | rfl | rfl | rfl | rfl | rfl | rfl | rfl | rfl | rfl | rfl | rfl | rfl | rfl | rfl <;> simp
def mE (k : MK) (_g j : Nat) (f : Nat → Int32) : va_E := match j with
  | 0 => .inr (4, [.int (f 0), .int (f 1), .int (f 2), .int (f 3), .int (f 4), .ref (k.1 0 1), .ref (k.1 0 2), .ref (k.1 0 3), .ref (k.1 0 4), .ref (k.1 0 5), .ref (k.1 0 6), .ref (k.1 0 7), .ref (k.1 0 8), .ref (k.1 0 9), .ref (k.1 0 10), .ref (k.1 0 11), .ref (k.1 0 12), .ref (k.1 0 13), .ref (k.1 0 14), .int (f 19), .int (f 20), .ref (k.1 0 15)])
  | 1 => .inl (k.2.2.2.2, 1024, .inl f)
  | 2 => .inl (k.2.2.2.1, 1024, .inl f)
  | 3 => .inl (k.2.2.2.1, 8, .inl f)
  | 4 => .inl (k.2.2.2.1, 8, .inl f)
  | 5 => .inl (k.2.2.2.1, 8, .inl f)
  | 6 => .inl (k.2.2.2.1, 800, .inl f)
  | 7 => .inl (k.2.2.2.1, 8, .inl f)
  | 8 => .inl (k.2.2.2.1, 64, .inl f)
  | 9 => .inl (k.2.2.2.1, 8, .inl f)
  | 10 => .inl (k.2.2.2.1, 8, .inl f)
  | 11 => .inl (k.2.2.2.1, 128, .inl f)
  | 12 => .inl (k.2.2.2.1, 8, .inl f)
  | 13 => .inl (k.2.2.2.1, 8, .inl f)
  | 14 => .inl (k.2.2.2.1, 8, .inl f)
  | _ => .inl (k.2.2.2.1, 1024, .inl f)
abbrev mw (k : MK) : WG := (mIx, k.1, mE k, k.2.2.1, [(k.2.2.2.1, .int), (k.2.2.2.2, .boolean)], fun _ _ _ => True)
theorem mZok (k : MK) : wZok (mw k) := ⟨fun _ _ _ _ _ _ => trivial, fun _ _ _ _ _ _ => trivial, fun _ _ _ _ _ _ => trivial⟩
