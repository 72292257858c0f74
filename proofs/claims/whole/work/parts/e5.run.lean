/-! THE LAW to its end -/
theorem law_run {L : Nat} {xs : Nat → Int32} (hL : L ≤ 3072) : ∀ n k A M, 512 - k < n → 6 * k ≤ L → LI k A M → mN M ≤ 922 + 4 * k → ∃ MF, f_L_law_L23 L xs n 0 908 921 (nW (6 * k)) M = some (1, MF) ∧ mC MF ≤ mC M + 4 * (512 - k) ∧ mS MF ≤ mS M + 52 * (512 - k)
  | 0, k, A, M, hn, _, _, _ => absurd hn (by omega)
  | n + 1, k, A, M, hn, hk, h, hN => by
    by_cases q : 6 * k + 6 ≤ L
    · obtain ⟨A', M', h', ⟨b1, b2, b3⟩, e⟩ := law_one (n := n) (xs := xs) q hL h (by omega) (by omega)
      obtain ⟨MF, e2, c1, c2⟩ := law_run (xs := xs) hL n (k + 1) A' M' (by omega) (by omega) h' (by omega)
      refine ⟨MF, ?_, by omega, by omega⟩
      have e6 : nW (6 * k) + 6 = nW (6 * (k + 1)) := nW_add (6 * k) 6
      rw [e, e6]; exact e2
    · refine ⟨M, ?_, by omega, by omega⟩
      have hx : (Int32.ofNat L - (6 : Int32)) < nW (6 * k) := by
        by_cases q6 : 6 ≤ L
        · have e : Int32.ofNat L - (6 : Int32) = nW (L - 6) := nW_sub (a := L) (b := 6) q6
          rw [e, nW_lt (by omega) (by omega)]; omega
        · have k0 : k = 0 := by omega
          subst k0
          have : L = 0 ∨ L = 1 ∨ L = 2 ∨ L = 3 ∨ L = 4 ∨ L = 5 := by omega
          rcases this with rfl | rfl | rfl | rfl | rfl | rfl <;> decide
      rw [f_L_law_L23, if_pos hx]
      rfl
