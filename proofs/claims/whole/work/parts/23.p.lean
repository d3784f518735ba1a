/-- the two side by side in one heap -/
theorem keep2 {w w2 : WG} {N : Mem} {H H1 : Heap} (hQ : wP w2 N H) (hdis : ∀ a, wA w2 a → ¬ wA w a) (hk : ∀ a : Nat, a < H.size → ¬ wA w a → H1[a]? = H[a]?) : wP w2 N H1 := by
  intro t x hx
  have h1 := hQ t x hx
  refine h1.kept (hk x.1 h1.lt (hdis _ ?_))
  simp only [wW, pool, List.getElem?_map] at hx
  cases hy : (wI w2)[t]? with
  | none => rw [hy] at hx; cases hx
  | some y =>
    rw [hy] at hx
    cases hx
    exact ⟨y.1, y.2, List.mem_of_getElem? hy, rfl⟩
