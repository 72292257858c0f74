/-! WHAT OPERATIONS LEAVE of loads and filters -/
def NL (σ σ' : Sg) : Prop := ∀ c, cF (gCl σ' c) = cF (gCl σ c) ∧ (cL (gCl σ' c) 3 = cL (gCl σ c) 3 ∨ (cL (gCl σ' c) 3).1 = 0)
theorem NL.refl (σ : Sg) : NL σ σ := fun _ => ⟨rfl, Or.inl rfl⟩
theorem NL.trans {σ σ' σ'' : Sg} (h : NL σ σ') (g : NL σ' σ'') : NL σ σ'' := fun c => by
  obtain ⟨a1, a2⟩ := h c
  obtain ⟨b1, b2⟩ := g c
  refine ⟨b1.trans a1, ?_⟩
  rcases b2 with b2 | b2
  · rw [b2]; exact a2
  · exact Or.inr b2
theorem SB.nl {σ σ' : Sg} (h : SB σ σ') : NL σ σ' := fun c => ⟨(h c).2.2.2.2, Or.inl (h c).2.2.2.1⟩
theorem NL_put {σ : Sg} {c : Nat} {g : GS} (h1 : cF g.2 = cF (gCl σ c)) (h2 : cL g.2 3 = cL (gCl σ c) 3 ∨ (cL g.2 3).1 = 0) : NL σ (putG σ c g) := by
  intro c'
  have ecl : gCl (putG σ c g) c' = if c' = c then g.2 else gCl σ c' := rfl
  rw [ecl]
  by_cases e : c' = c
  · subst e; rw [if_pos rfl]; exact ⟨h1, h2⟩
  · rw [if_neg e]; exact ⟨rfl, Or.inl rfl⟩
theorem NL.ne {σ σ' : Sg} (h : NeS σ) (g : NL σ σ') : NeS σ' := fun c hc j hj => by
  rcases (g c).2 with e | e
  · rw [e] at hj ⊢; exact h c hc j hj
  · rw [e] at hj; exact absurd hj (Nat.not_lt_zero j)
theorem NL_clear (x : Cl) : cF (spClear x) = cF x ∧ (cL (spClear x) 3).1 = 0 := by
  refine ⟨rfl, ?_⟩
  simp (disch := omega) only [spClear, uB_B, uB_I, uB_F, uB_W, uB_K, uB_N, uB_L, uI_B, uI_I, uI_F, uI_W, uI_K, uI_N, uI_L, uF_B, uF_I, uF_F, uF_W, uF_K, uF_N, uF_L, uW_B, uW_I, uW_F, uW_W, uW_K, uW_N, uW_L, uK_B, uK_I, uK_F, uK_W, uK_K, uK_N, uK_L, uN_B, uN_I, uN_F, uN_W, uN_K, uN_N, uN_L, uL_B, uL_I, uL_F, uL_W, uL_K, uL_N, uL_L, fset_eq]
theorem NL_remove (σ : Sg) (c : Nat) : NL σ (spRemove σ c) := by
  have : NL σ (putG σ c (gSc σ, spClear (gCl σ c))) := NL_put (NL_clear _).1 (Or.inr (NL_clear _).2)
  exact this
theorem NL_endC (σ : Sg) (c : Nat) : NL σ (spEndC σ c) := by
  have h1 : NL σ (putG σ c (gSc σ, spOff (gCl σ c) (gSc σ 14))) := NL_put rfl (Or.inl (by simp (disch := omega) only [spOff, uB_B, uB_I, uB_F, uB_W, uB_K, uB_N, uB_L, uI_B, uI_I, uI_F, uI_W, uI_K, uI_N, uI_L, uF_B, uF_I, uF_F, uF_W, uF_K, uF_N, uF_L, uW_B, uW_I, uW_F, uW_W, uW_K, uW_N, uW_L, uK_B, uK_I, uK_F, uK_W, uK_K, uK_N, uK_L, uN_B, uN_I, uN_F, uN_W, uN_K, uN_N, uN_L, uL_B, uL_I, uL_F, uL_W, uL_K, uL_N, uL_L, fset_ne]))
  unfold spEndC
  split
  · exact h1.trans (NL_remove _ c)
  · exact h1
theorem NL_fail (σ : Sg) (c : Nat) : NL σ (spFail σ c).2 := by
  unfold spFail
  split
  · refine (NL_endC σ c).trans (NL.trans ?_ (SB_publ _ _ _ _).1.nl)
    exact NL_put rfl (Or.inl rfl)
  · exact NL_endC σ c
theorem gTa_fail (σ : Sg) (c : Nat) : (gTa (spFail σ c).2).1 ≤ (gTa σ).1 + 1 := by
  unfold spFail
  split
  · have := spCount_le (gTa (spNoWill (spEndC σ c) c)) (cW (gCl (spEndC σ c) c)).1
    have e : gTa (spNoWill (spEndC σ c) c) = gTa σ := gTa_endC σ c
    rw [e] at this
    show (gTa (spPubl _ _ _ _).1).1 ≤ _
    rw [(SB_publ _ _ _ _).2, e]; exact this
  · show (gTa (spEndC σ c)).1 ≤ _
    rw [gTa_endC]; exact Nat.le_succ _
theorem NL_conn (σ : Sg) (c : Nat) (clean : Bool) : NL σ (spConn σ c clean).2 := by
  have h1 : NL σ (cnPre σ c clean) := by
    unfold cnPre; split
    · exact NL_remove σ c
    · exact NL.refl σ
  unfold spConn
  split
  · refine h1.trans (NL_put ?_ (Or.inl ?_))
    · unfold cnRes
      rw [(spPend_same _ _).2.2.2.1, (spResN_same _ _ _).2.2.2.1]; rfl
    · unfold cnRes
      rw [(spPend_same _ _).2.2.1, (spResN_same _ _ _).2.2.1]; rfl
  · refine h1.trans (NL_put rfl (Or.inr ?_))
    have := (NL_clear (uB (gCl (cnPre σ c clean) c) 0 true)).2
    simp only [cnNew, uB_B, uB_I, uB_F, uB_W, uB_K, uB_N, uB_L, uI_B, uI_I, uI_F, uI_W, uI_K, uI_N, uI_L, uF_B, uF_I, uF_F, uF_W, uF_K, uF_N, uF_L, uW_B, uW_I, uW_F, uW_W, uW_K, uW_N, uW_L, uK_B, uK_I, uK_F, uK_W, uK_K, uK_N, uK_L, uN_B, uN_I, uN_F, uN_W, uN_K, uN_N, uN_L, uL_B, uL_I, uL_F, uL_W, uL_K, uL_N, uL_L]; exact this
theorem gTa_conn (σ : Sg) (c : Nat) (clean : Bool) : gTa (spConn σ c clean).2 = gTa σ := by
  have h1 : gTa (cnPre σ c clean) = gTa σ := by unfold cnPre; split <;> rfl
  unfold spConn
  split
  · exact h1
  · exact h1
theorem SgI_of {k : Nat} {σ σ' : Sg} (h : SgI k σ) (hS : SI σ') (hP : Pe σ') (hN : NL σ σ') (hT : (gTa σ').1 ≤ (gTa σ).1 + 1) : SgI (k + 1) σ' := ⟨hS, hP, fun c hc => by rw [(hN c).1]; exact h.2.2.1 c hc, hN.ne h.2.2.2.1, by have := h.2.2.2.2; omega⟩
/-! a call of a connected client -/
