/-! KEPT IDENTIFIERS, in the reference -/
theorem GI_K {g : GS} {i : Nat} {b : Bool} (h : GI g) (hex : cB g.2 3 = true) : GI (g.1, uK g.2 (fset (cK g.2) i b)) := by
  obtain ⟨h1, ⟨l1, l2, l3, l4⟩, h3, h4, h5, h6, h7, h8, h9, h10⟩ := h
  exact ⟨h1, ⟨l1, l2, l3, l4⟩, h3, h4, h5, h6, h7, h8, h9, fun e => absurd (hex.symm.trans e) (by decide)⟩
