/-! SUBSCRIBING, in the reference (behind the checks) -/
theorem want_bits {o : Int32} (h : ∃ n, n ≤ 7 ∧ o = nW n) : (iremE (o / nW 2) (nW 2) = nW 0 ↔ o &&& nW 2 = nW 0) ∧ (nW 4 ≤ o ↔ ¬ o &&& nW 4 = nW 0) := by
  obtain ⟨n, h1, rfl⟩ := h
  have : n = 0 ∨ n = 1 ∨ n = 2 ∨ n = 3 ∨ n = 4 ∨ n = 5 ∨ n = 6 ∨ n = 7 := by omega
  rcases this with rfl | rfl | rfl | rfl | rfl | rfl | rfl | rfl <;> decide
theorem spTail_L3 (σ : Sg) (c k : Nat) (gr o : Int32) (b : Bool) : cL (gCl (spTail σ c k gr o b) c) 3 = cL (gCl σ c) 3 := by
  unfold spTail; split
  · exact spGR_L3 _ _ _ _ _ _
  · rfl
