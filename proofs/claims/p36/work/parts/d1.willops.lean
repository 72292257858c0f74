/-! WILLS, UNSUBSCRIBE -/
def wlC (x : Cl) (b : Bool) (t : Txt) (g p : Int32) : Cl := uW (uB (uB x 1 true) 2 b) (mkMs t g p (nW 0) (nW 0) (nW 0) (nW 0))
theorem wlC_f (x : Cl) (b : Bool) (t : Txt) (g p : Int32) : cB (wlC x b t g p) 0 = cB x 0 ∧ cB (wlC x b t g p) 3 = cB x 3 ∧ cB (wlC x b t g p) 4 = cB x 4 ∧ cB (wlC x b t g p) 1 = true ∧ cB (wlC x b t g p) 2 = b ∧ cW (wlC x b t g p) = mkMs t g p (nW 0) (nW 0) (nW 0) (nW 0) ∧ cL (wlC x b t g p) = cL x ∧ cN (wlC x b t g p) = cN x ∧ cK (wlC x b t g p) = cK x ∧ cI (wlC x b t g p) = cI x ∧ cF (wlC x b t g p) = cF x := by
  simp (disch := omega) only [wlC, uB_B, uB_I, uB_F, uB_W, uB_K, uB_N, uB_L, uI_B, uI_I, uI_F, uI_W, uI_K, uI_N, uI_L, uF_B, uF_I, uF_F, uF_W, uF_K, uF_N, uF_L, uW_B, uW_I, uW_F, uW_W, uW_K, uW_N, uW_L, uK_B, uK_I, uK_F, uK_W, uK_K, uK_N, uK_L, uN_B, uN_I, uN_F, uN_W, uN_K, uN_N, uN_L, uL_B, uL_I, uL_F, uL_W, uL_K, uL_N, uL_L, fset_ne, fset_eq, and_self]
theorem GI_will {g : GS} (h : GI g) (b : Bool) (t : Txt) (gr p : Int32) : GI (g.1, wlC g.2 b t gr p) := by
  obtain ⟨f0, f3, f4, f1, f2, fW, fL, fN, fK, fI, fF⟩ := wlC_f g.2 b t gr p
  unfold GI lim1 at *
  simp only [f0, f3, f4, fL, fN, fK] at *
  exact h
/-! unsubscribe -/
theorem NeS_drop {σ : Sg} {c k : Nat} (h : NeS σ) : NeS (spDrop σ c k) := by
  intro c' hc' j hj
  have e : gCl (spDrop σ c k) c' = if c' = c then uL (gCl σ c) 3 (ldel (cL (gCl σ c) 3) k) else gCl σ c' := rfl
  rw [e] at hj ⊢
  by_cases hcc : c' = c
  · subst hcc
    rw [if_pos rfl] at hj ⊢
    have e3 : cL (uL (gCl σ c') 3 (ldel (cL (gCl σ c') 3) k)) 3 = ldel (cL (gCl σ c') 3) k := by
      show fset (cL (gCl σ c')) 3 (ldel (cL (gCl σ c') 3) k) 3 = _
      exact fset_eq _ _ _
    rw [e3] at hj ⊢
    simp only [ldel] at hj ⊢
    split
    · exact h c' hc' j (by omega)
    · exact h c' hc' (j + 1) (by omega)
  · rw [if_neg hcc] at hj ⊢; exact h c' hc' j hj
theorem drop_f (σ : Sg) (c k c' : Nat) : cB (gCl (spDrop σ c k) c') = cB (gCl σ c') ∧ cF (gCl (spDrop σ c k) c') = cF (gCl σ c') := by
  have e : gCl (spDrop σ c k) c' = if c' = c then uL (gCl σ c) 3 (ldel (cL (gCl σ c) 3) k) else gCl σ c' := rfl
  rw [e]
  by_cases hcc : c' = c
  · subst hcc; rw [if_pos rfl]; exact ⟨rfl, rfl⟩
  · rw [if_neg hcc]; exact ⟨rfl, rfl⟩
