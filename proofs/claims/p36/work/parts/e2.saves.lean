/-! SAVE and RESTORE -/
/-! the two calls -/
theorem BrR_T {M M' : Mem} {A : Wh} {σ : Sg} (h : BrR M A) (F : Fr (fun a => a = 0 ∨ SZ 458 a) M M') (h0 : mI M' 0 7 = nW 1) (h1 : ∀ j, j ≠ 7 → mI M' 0 j = mI M 0 j) (hR : mR M' 0 = mR M 0) (hS : StR M' 458 σ) : BrR M' (oB A, oE A, oP A, oS A, (true, σ)) := by
  obtain ⟨⟨k1, k2, k3, k4, k5, k6⟩, ⟨b1, b2, b3, b4, b5⟩, e1, ⟨p1, p2⟩, m7, ⟨t1, t2⟩, s1⟩ := h
  have y := F.2.2 5 (Or.inr (by unfold SZ; omega))
  exact ⟨⟨by rw [F.1]; exact k1, by rw [hR]; exact k2, by rw [hR]; exact k3, by rw [hR]; exact k4, by rw [hR]; exact k5, by rw [hR]; exact k6⟩, ⟨by rw [F.1]; exact b1, by rw [h1 1 (by omega)]; exact b2, b3, fun j hj => by rw [y.1]; exact b4 j hj, b5⟩, by rw [h1 2 (by omega)]; exact e1, ⟨by rw [h1 3 (by omega)]; exact p1, p2.gr F.gr (by unfold SZ; omega)⟩, by rw [F.1]; exact m7, ⟨h0, hS⟩, s1.gr F.gr (fun a ha => by unfold SZ at ha ⊢; omega)⟩
