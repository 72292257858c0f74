/-! MORE CALLS THAT READ -/
def asX (f : Mem → Option (Int32 × Mem)) : Mem → Option ((Int32 ⊕ Nat) × Mem) := fun M => (f M).map (fun p => (.inl p.1, p.2))
theorem TextR_n {M : Mem} {x : Nat} {t : Txt} (h : TextR M x t) : ∃ sa, gR 10 0 x M = some sa ∧ aN sa M = some (nW (txS t).length) ∧ gI 10 2 x M = some (nW t.length) ∧ (∀ j, j < (txS t).length → aI 16 sa (nW j) M = some (nW ((txS t).getD j 0))) ∧ (txS t).length ≤ 28 := by
  obtain ⟨h1, ⟨h2, h3⟩, h4, h5, h6, sa, la, ⟨h7, h8⟩, ⟨h9, h10⟩, h11, h12, h13, h14⟩ := h
  have hl : (txS t).length ≤ 28 := by
    have := (txS_ok h1.2.1).2
    have := h1.1; omega
  have r16 : 13 ≤ 16 ∧ 16 ≤ 23 := by omega
  refine ⟨sa, ?_, ?_, ?_, fun j hj => ?_, hl⟩
  · simp only [gR, h2, ↓reduceIte, h7]
  · simp only [aN, h11, r16, and_self, ↓reduceIte]; rfl
  · simp only [gI, h2, ↓reduceIte, h4]
  · simp (disch := omega) only [aI, h11, ↓reduceIte, ix_nW, Option.map_some, h13 j hj]
