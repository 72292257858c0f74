/-! CALLS THAT READ of a client -/
theorem BrR_s {M : Mem} {A : Wh} (h : BrR M A) {c : Nat} (hc : c < 6) : gI 5 0 (8 + 2 + 60 * c + 34) M = some (zI (cB (gCl (oS A) c) 3)) ∧ gI 5 1 (8 + 2 + 60 * c + 34) M = some (zI (cB (gCl (oS A) c) 4)) ∧ gI 5 5 (8 + 2 + 60 * c + 34) M = some (nW (kcnt (cK (gCl (oS A) c)) 50)) ∧ gI 5 7 (8 + 2 + 60 * c + 34) M = some (nW (cL (gCl (oS A) c) 3).1) ∧ gR 5 6 (8 + 2 + 60 * c + 34) M = some (8 + 2 + 60 * c + 34 + 2) ∧ gR 5 8 (8 + 2 + 60 * c + 34) M = some (8 + 2 + 60 * c + 34 + 9) ∧ gR 5 9 (8 + 2 + 60 * c + 34) M = some (8 + 2 + 60 * c + 34 + 16) := by
  obtain ⟨⟨k1, k2, k3, k4, k5⟩, e0, e1, e2, e3, e4, e5, _⟩ := (h.2.2.2.2.2.2.2.1 c hc).2.2.2.1
  simp only [gR, gI, k1, k3, k4, k5, e0, e1, e4, e5, ↓reduceIte, and_self]
theorem w5 (x : Int32) : x = nW 0 ∨ x = nW 1 ∨ x = nW 2 ∨ x = nW 3 ∨ x = nW 4 ∨ (x ≠ nW 0 ∧ x ≠ nW 1 ∧ x ≠ nW 2 ∧ x ≠ nW 3 ∧ x ≠ nW 4) := by
  by_cases h0 : x = nW 0
  · exact Or.inl h0
  by_cases h1 : x = nW 1
  · exact Or.inr (Or.inl h1)
  by_cases h2 : x = nW 2
  · exact Or.inr (Or.inr (Or.inl h2))
  by_cases h3 : x = nW 3
  · exact Or.inr (Or.inr (Or.inr (Or.inl h3)))
  by_cases h4 : x = nW 4
  · exact Or.inr (Or.inr (Or.inr (Or.inr (Or.inl h4))))
  exact Or.inr (Or.inr (Or.inr (Or.inr (Or.inr ⟨h0, h1, h2, h3, h4⟩))))
theorem d10 : ¬ nW 1 = nW 0 := by decide
theorem d20 : ¬ nW 2 = nW 0 := by decide
theorem d30 : ¬ nW 3 = nW 0 := by decide
theorem d40 : ¬ nW 4 = nW 0 := by decide
theorem d50 : ¬ nW 5 = nW 0 := by decide
theorem d21 : ¬ nW 2 = nW 1 := by decide
theorem d31 : ¬ nW 3 = nW 1 := by decide
theorem d41 : ¬ nW 4 = nW 1 := by decide
theorem d51 : ¬ nW 5 = nW 1 := by decide
theorem d32 : ¬ nW 3 = nW 2 := by decide
theorem d42 : ¬ nW 4 = nW 2 := by decide
theorem d52 : ¬ nW 5 = nW 2 := by decide
theorem d43 : ¬ nW 4 = nW 3 := by decide
theorem d53 : ¬ nW 5 = nW 3 := by decide
theorem d54 : ¬ nW 5 = nW 4 := by decide
