/-! FLIGHTS, in the reference -/
theorem pigeon : ∀ (n : Nat) (f : Nat → Nat), (∀ i, i ≤ n → f i < n) → ∃ i j, i < j ∧ j ≤ n ∧ f i = f j
  | 0, f, h => absurd (h 0 (Nat.le_refl _)) (by omega)
  | n + 1, f, h => by
    by_cases hx : ∃ i, i ≤ n ∧ f i = f (n + 1)
    · obtain ⟨i, h1, h2⟩ := hx
      exact ⟨i, n + 1, by omega, by omega, h2⟩
    · have hno : ∀ i, i ≤ n → f i ≠ f (n + 1) := fun i hi e => hx ⟨i, hi, e⟩
      obtain ⟨i, j, h1, h2, h3⟩ := pigeon n (fun i => if f i = n then f (n + 1) else f i) (fun i hi => by
        have a := h i (by omega)
        have b := h (n + 1) (by omega)
        have c := hno i hi
        split <;> omega)
      have a := hno i (by omega)
      have b := hno j h2
      refine ⟨i, j, h1, by omega, ?_⟩
      split at h3 <;> split at h3
      · omega
      · exact absurd h3.symm b
      · exact absurd h3 a
      · exact h3
def spIt : Nat → Nat → Nat
  | 0, n => n
  | m + 1, n => spIt m (spNext n)
theorem spNext_rng (n : Nat) : 1 ≤ spNext n ∧ spNext n ≤ 50 := by unfold spNext; split <;> omega
theorem spNext_mod {n : Nat} (h : n ≤ 50) : n % 50 + 1 = spNext n := by unfold spNext; split <;> omega
theorem spIt_eq : ∀ (m : Nat) {n : Nat}, 1 ≤ n → n ≤ 50 → spIt m n = (n - 1 + m) % 50 + 1
  | 0, n, h1, h2 => by rw [spIt]; omega
  | m + 1, n, h1, h2 => by
    have := spNext_rng n
    rw [spIt, spIt_eq m this.1 this.2, ← spNext_mod h2]; omega
theorem spIt_free {l : Ls Row} (hl : l.1 ≤ 5) {n : Nat} (h1 : 1 ≤ n) (h2 : n ≤ 50) : ∃ m, m ≤ 5 ∧ spIn l (spIt m n) = false := by
  apply Classical.byContradiction
  intro hc
  have hall : ∀ m, m ≤ 5 → ∃ k, ffind (fun j => decide ((l.2 j).2 4 = nW (spIt m n))) l.1 0 = some k := by
    intro m hm
    cases e : spIn l (spIt m n) with
    | false => exact absurd ⟨m, hm, e⟩ hc
    | true => exact Option.isSome_iff_exists.mp e
  obtain ⟨i, j, a1, a2, a3⟩ := pigeon 5 (fun m => (ffind (fun j => decide ((l.2 j).2 4 = nW (spIt m n))) l.1 0).getD 0) (fun m hm => by
    obtain ⟨k, e⟩ := hall m hm
    simp only [e, Option.getD_some]
    have := (ffind_some e).2.1; omega)
  obtain ⟨k, e⟩ := hall i (by omega)
  obtain ⟨k', e'⟩ := hall j a2
  simp only [e, e', Option.getD_some] at a3
  subst a3
  have b1 := of_decide_eq_true (ffind_some e).2.2.1
  have b2 := of_decide_eq_true (ffind_some e').2.2.1
  rw [b1, spIt_eq i h1 h2, spIt_eq j h1 h2, nW_inj (by omega) (by omega)] at b2
  omega
theorem anyB_ffind (p : Nat → Bool) : ∀ n i, anyB p n i = (ffind p n i).isSome
  | 0, i => rfl
  | n + 1, i => by
    rw [anyB, ffind]
    cases p i with
    | true => simp
    | false => simp [anyB_ffind p n (i + 1)]
theorem spSend_uL (sc : Nat → Int32) (c : Cl) (r : Row) {i : Nat} (l : Ls Row) (hi : i ≠ 0) : spSend (sc, uL c i l) r = ((spSend (sc, c) r).1, uL (spSend (sc, c) r).2 i l) := by
  have e : fset (cL c) i l 0 = cL c 0 := fset_ne _ _ (Ne.symm hi)
  simp only [spSend, uB_B, uB_I, uB_F, uB_W, uB_K, uB_N, uB_L, uI_B, uI_I, uI_F, uI_W, uI_K, uI_N, uI_L, uF_B, uF_I, uF_F, uF_W, uF_K, uF_N, uF_L, uW_B, uW_I, uW_F, uW_W, uW_K, uW_N, uW_L, uK_B, uK_I, uK_F, uK_W, uK_K, uK_N, uK_L, uN_B, uN_I, uN_F, uN_W, uN_K, uN_N, uN_L, uL_B, uL_I, uL_F, uL_W, uL_K, uL_N, uL_L, e]
  by_cases h : (cL c 0).1 < 30
  · simp only [h, ↓reduceIte, uL, uI, Prod.mk.injEq, true_and]
    funext j
    by_cases h0 : j = 0
    · subst h0; rw [fset_eq, fset_ne _ _ (Ne.symm hi), fset_eq]
    · rw [fset_ne _ _ h0]
      by_cases h1 : j = i
      · subst h1; rw [fset_eq, fset_eq]
      · rw [fset_ne _ _ h1, fset_ne _ _ h1, fset_ne _ _ h0]
  · simp only [h, ↓reduceIte, uL, uI]
