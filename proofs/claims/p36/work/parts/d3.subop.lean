/-! SUBSCRIBE -/
theorem tail_f (σ : Sg) (c k : Nat) (gr o : Int32) (b : Bool) : SB σ (spTail σ c k gr o b) ∧ gTa (spTail σ c k gr o b) = gTa σ := by
  unfold spTail
  split
  · exact SB_GR _ _ _ _ _ _
  · exact ⟨SB.refl σ, rfl⟩
theorem subset_f {σ : Sg} {c k : Nat} {g o : Int32} (h : NeS σ) (hk : k < (cL (gCl σ c) 3).1) : NeS (spSubSet σ c k g o) ∧ ∀ c', cB (gCl (spSubSet σ c k g o) c') = cB (gCl σ c') ∧ cF (gCl (spSubSet σ c k g o) c') = cF (gCl σ c') := by
  have e : ∀ c', gCl (spSubSet σ c k g o) c' = if c' = c then uL (gCl σ c) 3 (lset (cL (gCl σ c) 3) k (((cL (gCl σ c) 3).2 k).1, fset (fset ((cL (gCl σ c) 3).2 k).2 2 g) 3 o)) else gCl σ c' := fun _ => rfl
  refine ⟨fun c' hc' j hj => ?_, fun c' => ?_⟩
  · rw [e] at hj ⊢
    by_cases hcc : c' = c
    · subst hcc
      rw [if_pos rfl] at hj ⊢
      have e3 : ∀ l, cL (uL (gCl σ c') 3 l) 3 = l := fun l => by
        show fset (cL (gCl σ c')) 3 l 3 = _
        exact fset_eq _ _ _
      rw [e3] at hj ⊢
      simp only [lset] at hj ⊢
      by_cases e : j = k
      · subst e; simp only [↓reduceIte]; exact h c' hc' j hj
      · simp only [e, ↓reduceIte]; exact h c' hc' j hj
    · rw [if_neg hcc] at hj ⊢; exact h c' hc' j hj
  · rw [e]
    by_cases hcc : c' = c
    · subst hcc; rw [if_pos rfl]; exact ⟨rfl, rfl⟩
    · rw [if_neg hcc]; exact ⟨rfl, rfl⟩
theorem subnew_f {σ : Sg} {c : Nat} {r : Row} (h : NeS σ) (hr : r.1 ≠ []) : NeS (spSubNew σ c r) ∧ ∀ c', cB (gCl (spSubNew σ c r) c') = cB (gCl σ c') ∧ cF (gCl (spSubNew σ c r) c') = cF (gCl σ c') := by
  have e : ∀ c', gCl (spSubNew σ c r) c' = if c' = c then uL (gCl σ c) 3 (lpush (cL (gCl σ c) 3) r) else gCl σ c' := fun _ => rfl
  refine ⟨fun c' hc' j hj => ?_, fun c' => ?_⟩
  · rw [e] at hj ⊢
    by_cases hcc : c' = c
    · subst hcc
      rw [if_pos rfl] at hj ⊢
      have e3 : ∀ l, cL (uL (gCl σ c') 3 l) 3 = l := fun l => by
        show fset (cL (gCl σ c')) 3 l 3 = _
        exact fset_eq _ _ _
      rw [e3] at hj ⊢
      simp only [lpush] at hj ⊢
      by_cases e : j = (cL (gCl σ c') 3).1
      · simp only [e, ↓reduceIte]; exact hr
      · simp only [e, ↓reduceIte]; exact h c' hc' j (by omega)
    · rw [if_neg hcc] at hj ⊢; exact h c' hc' j hj
  · rw [e]
    by_cases hcc : c' = c
    · subst hcc; rw [if_pos rfl]; exact ⟨rfl, rfl⟩
    · rw [if_neg hcc]; exact ⟨rfl, rfl⟩
theorem SgI_sub {k : Nat} {σ σ1 : Sg} {c j : Nat} {gr o : Int32} {b : Bool} (h : SgI k σ) (hN : NeS σ1) (hf : ∀ c', cB (gCl σ1 c') = cB (gCl σ c') ∧ cF (gCl σ1 c') = cF (gCl σ c')) (hT : gTa σ1 = gTa σ) (hS : SI (spTail σ1 c j gr o b)) : SgI (k + 1) (spTail σ1 c j gr o b) ∧ ∀ c', cF (gCl (spTail σ1 c j gr o b) c') = cF (gCl σ c') := by
  obtain ⟨t1, t2⟩ := tail_f σ1 c j gr o b
  refine ⟨⟨hS, Pe_SB (Pe_B h.2.1 (fun c' _ _ _ => (hf c').1)) t1, fun c' hc' => ?_, t1.nl.ne hN, ?_⟩, fun c' => ?_⟩
  · rw [(t1.nl c').1, (hf c').2]; exact h.2.2.1 c' hc'
  · rw [t2, hT]; exact Nat.le_succ_of_le h.2.2.2.2
  · rw [(t1.nl c').1, (hf c').2]
theorem odd_bits : ∀ n : Fin 8, ((nW n.val &&& nW 1 = nW 0) ↔ ¬ iremE (nW n.val) (nW 2) = nW 1) := by decide
