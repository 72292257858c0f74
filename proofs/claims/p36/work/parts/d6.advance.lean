/-! TICKS in the reference, and ADVANCE -/
def itT : Nat → Sg → Sg
  | 0, σ => σ
  | n + 1, σ => itT n (spTick σ)
theorem SgI_itT {k : Nat} : ∀ n σ, SgI k σ → SgI k (itT n σ)
  | 0, _, h => h
  | n + 1, σ, h => SgI_itT n (spTick σ) (SgI_tick h)
theorem c_adv_L9 {M0 : Mem} {A : Wh} {k m : Nat} (hm : m ≤ 100) (h0 : (mK M0 0).1 = 11 ∧ mR M0 0 6 = some 8) : ∀ n i M σ, i ≤ m → m - i < n → (mK M 0).1 = 11 ∧ mR M 0 6 = some 8 → StR M 8 σ → SgI k σ → ∃ M', f_X11_advance_L9 n 0 (nW m) (nW i) M = some (.inl (gSc (itT (m - i) σ) 14), M') ∧ Fr (SZ 8) M M' ∧ StR M' 8 (itT (m - i) σ)
  | 0, i, M, σ, _, hn, _, _, _ => absurd hn (by omega)
  | n + 1, i, M, σ, hi, hn, hB, hR, hS => by
    have g6 : gR 11 6 0 M = some 8 := by simp only [gR, hB.1, hB.2, ↓reduceIte]
    by_cases he : i = m
    · subst he
      have g9 := BaR_clock hR.1
      refine ⟨M, ?_, Fr.refl _ _, ?_⟩
      · rw [Nat.sub_self]
        simp (disch := omega) only [f_X11_advance_L9, nW_le, Nat.le_refl, ↓reduceIte, g6, g9, Option.bind_some, itT]
      · rw [Nat.sub_self]; exact hR
    · have n1 : ¬ m ≤ i := by omega
      obtain ⟨M1, e1, F1, R1⟩ := St_tick ⟨by omega, by omega⟩ hR hS
      obtain ⟨M', e, F, R⟩ := c_adv_L9 (A := A) hm h0 n (i + 1) M1 (spTick σ) (by omega) (by omega) (fr_0 F1 (by unfold SZ; omega) hB) R1 (SgI_tick hS)
      rw [show m - i = (m - (i + 1)) + 1 by omega, itT]
      refine ⟨M', ?_, F1.trans F, R⟩
      simp (disch := omega) only [f_X11_advance_L9, nW_le, n1, ↓reduceIte, g6, e1, Option.bind_some, nW_lit, nW_add, e]
