/-! A CLIENT CONNECTS, in the reference (behind a takeover) -/
theorem cnRes_new (sc : Nat → Int32) (x : Cl) (clean : Bool) : cnRes (sc, cnNew x clean) = (sc, cnNew x clean) := by
  have z1 : (cL (cnNew x clean) 1).1 = 0 := by simp (disch := omega) only [cnNew, spClear, uB_B, uB_I, uB_F, uB_W, uB_K, uB_N, uB_L, uI_B, uI_I, uI_F, uI_W, uI_K, uI_N, uI_L, uF_B, uF_I, uF_F, uF_W, uF_K, uF_N, uF_L, uW_B, uW_I, uW_F, uW_W, uW_K, uW_N, uW_L, uK_B, uK_I, uK_F, uK_W, uK_K, uK_N, uK_L, uN_B, uN_I, uN_F, uN_W, uN_K, uN_N, uN_L, uL_B, uL_I, uL_F, uL_W, uL_K, uL_N, uL_L, fset_ne, fset_eq]
  have z2 : (cL (cnNew x clean) 2).1 = 0 := by simp (disch := omega) only [cnNew, spClear, uB_B, uB_I, uB_F, uB_W, uB_K, uB_N, uB_L, uI_B, uI_I, uI_F, uI_W, uI_K, uI_N, uI_L, uF_B, uF_I, uF_F, uF_W, uF_K, uF_N, uF_L, uW_B, uW_I, uW_F, uW_W, uW_K, uW_N, uW_L, uK_B, uK_I, uK_F, uK_W, uK_K, uK_N, uK_L, uN_B, uN_I, uN_F, uN_W, uN_K, uN_N, uN_L, uL_B, uL_I, uL_F, uL_W, uL_K, uL_N, uL_L, fset_ne, fset_eq]
  unfold cnRes
  show spPend 8 (spResN (cL (cnNew x clean) 1).1 0 (sc, cnNew x clean)) = _
  rw [z1, spResN, spPend, if_neg (fun h => absurd h.1 (by show ¬ 0 < (cL (cnNew x clean) 2).1; omega))]
theorem cnNew_clear (x : Cl) (clean : Bool) : cnNew (spClear x) clean = cnNew x clean := by
  have : ∀ (f : Nat → Bool), fset (fset (fset (fset (fset f 3 false) 4 false) 0 true) 3 false) 4 false = fset (fset (fset f 0 true) 3 false) 4 false := by
    intro f; funext i
    simp only [fset]
    split
    · rfl
    · split
      · rfl
      · split
        · rfl
        · rfl
  have h3 : ∀ (f : Nat → Ls Row), fset (fset (fset (fset (fset (fset f 1 (0, (f 1).2)) 2 (0, (f 2).2)) 3 (0, (f 3).2)) 1 (0, (f 1).2)) 2 (0, (f 2).2)) 3 (0, (f 3).2) = fset (fset (fset f 1 (0, (f 1).2)) 2 (0, (f 2).2)) 3 (0, (f 3).2) := by
    intro f; funext i
    simp only [fset]
    split
    · rfl
    · split
      · rfl
      · split
        · rfl
        · rfl
  simp (disch := omega) only [cnNew, spClear, uB, uI, uK, uN, uL, cL, fset_fset, fset_eq, fset_ne]
  rw [this, h3]
