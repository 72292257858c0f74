/-! MATCHING IN THE REFERENCE -/
theorem isOpen_at {t : Txt} {k : Nat} (hk : k + 1 = t.length) : isOpen t = decide (t.getD k [] = [35]) := by
  have h : t.getLast? = some (t.getD k []) := by
    rw [List.getLast?_eq_getElem?, show t.length - 1 = k by omega, gd_in _ _ (by omega), List.getElem?_eq_getElem (by omega)]
  rw [isOpen, h]
  by_cases e : t.getD k [] = [35]
  · rw [e]; rfl
  · rw [decide_eq_false e]
    have : ¬ (some (t.getD k []) = some [35]) := fun hh => e (Option.some.inj hh)
    simpa using this
theorem isOpen_nil : isOpen [] = false := rfl
theorem isOpen_no {t : Txt} (h : ∀ k, k < t.length → t.getD k [] ≠ [35]) : isOpen t = false := by
  by_cases e : t = []
  · subst e; rfl
  · have := len_pos e
    rw [isOpen_at (k := t.length - 1) (by omega), decide_eq_false (h _ (by omega))]
theorem top_getD {t : Txt} (h : topical t) {k : Nat} (hk : k < t.length) : t.getD k [] ≠ [43] ∧ t.getD k [] ≠ [35] := by
  rw [gd_in _ _ hk]; exact h _ (List.getElem_mem hk)
theorem lvA_top {t : Txt} (h : topical t) {k : Nat} (hk : k < t.length) : lvA t k = t.getD k [] := by
  have : tFix t = t.length := by unfold tFix; rw [isOpen_no (fun j hj => (top_getD h hj).2)]; rfl
  unfold lvA; rw [this, if_pos hk]
theorem lvA_fix {t : Txt} (ht : okTx t) {k : Nat} (hk : k < t.length) (h : t.getD k [] ≠ [35]) : lvA t k = t.getD k [] := by
  unfold lvA tFix
  cases ho : isOpen t with
  | false => simp only [Bool.false_eq_true, ↓reduceIte, hk]
  | true =>
    have e : (t.getD (t.length - 1) [] = [35]) := by
      have := isOpen_at (t := t) (k := t.length - 1) (by omega)
      rw [ho] at this; exact of_decide_eq_true this.symm
    have : k ≠ t.length - 1 := by rintro rfl; exact h e
    have : k < t.length - 1 := by omega
    simp only [↓reduceIte, this]
theorem cov1_iff (t t' : Txt) (k : Nat) : cov1 t t' k = true ↔ lvA t k = [43] ∨ lvA t k = lvA t' k := by simp [cov1]
theorem spMatch_end {t t' : Txt} (ht : okTx t) (ht' : topical t') (H : ∀ j, j < t.length → t.getD j [] ≠ [35] ∧ j < t'.length ∧ (t.getD j [] = [43] ∨ t.getD j [] = t'.getD j [])) : spMatch t t' = decide (t'.length = t.length) := by
  have ho : isOpen t = false := isOpen_no (fun k hk => (H k hk).1)
  have hf : tFix t = t.length := by unfold tFix; rw [ho]; rfl
  unfold spMatch spCov spFits
  rw [ho, hf]
  by_cases e : t'.length = t.length
  · have : allB (cov1 t t') t'.length 0 = true := by
      rw [allB_iff]; intro j _ hj
      have hj2 : j < t.length := by omega
      obtain ⟨h1, h2, h3⟩ := H j hj2
      rw [cov1_iff, lvA_fix ht hj2 h1, lvA_top ht' h2]; exact h3
    simp [e, this]
    rw [← e]; exact this
  · simp [e]
theorem spMatch_hash {t t' : Txt} (ht : okTx t) (ht' : topical t') {k : Nat} (hk : k < t.length) (h35 : t.getD k [] = [35]) (H : ∀ j, j < k → t.getD j [] ≠ [35] ∧ j < t'.length ∧ (t.getD j [] = [43] ∨ t.getD j [] = t'.getD j [])) : spMatch t t' = true := by
  have hk1 := ht.2.2 k hk h35
  have ho : isOpen t = true := by rw [isOpen_at hk1]; exact decide_eq_true h35
  have hf : tFix t = k := by unfold tFix; rw [ho]; simp only [↓reduceIte]; omega
  unfold spMatch spCov spFits
  rw [ho, hf]
  have h1 : k ≤ t'.length := by
    by_cases h0 : k = 0
    · omega
    · have := (H (k - 1) (by omega)).2.1; omega
  have : allB (cov1 t t') t'.length 0 = true := by
    rw [allB_iff]; intro j _ hj
    by_cases hjk : j < k
    · obtain ⟨h1, h2, h3⟩ := H j hjk
      rw [cov1_iff, lvA_fix ht (by omega) h1, lvA_top ht' h2]; exact h3
    · rw [cov1_iff]; unfold lvA; rw [hf, if_neg hjk]; exact Or.inl rfl
  simp [h1, this]
theorem spMatch_deep {t t' : Txt} (ht : okTx t) {k : Nat} (hk : k < t.length) (h35 : t.getD k [] ≠ [35]) (hd : t'.length ≤ k) : spMatch t t' = false := by
  unfold spMatch spCov spFits
  cases ho : isOpen t with
  | false =>
    have hf : tFix t = t.length := by unfold tFix; rw [ho]; rfl
    have : ¬ t'.length = t.length := by omega
    simp [hf, this]
  | true =>
    have e : (t.getD (t.length - 1) [] = [35]) := by
      have := isOpen_at (t := t) (k := t.length - 1) (by omega)
      rw [ho] at this; exact of_decide_eq_true this.symm
    have : k ≠ t.length - 1 := by rintro rfl; exact h35 e
    have hf : tFix t = t.length - 1 := by unfold tFix; rw [ho]; rfl
    have : ¬ t.length - 1 ≤ t'.length := by omega
    simp [hf, this]
theorem spMatch_no {t t' : Txt} (ht : okTx t) (ht' : topical t') {k : Nat} (hk : k < t.length) (hk' : k < t'.length) (h35 : t.getD k [] ≠ [35]) (h1 : t.getD k [] ≠ [43]) (h2 : t.getD k [] ≠ t'.getD k []) : spMatch t t' = false := by
  have : allB (cov1 t t') t'.length 0 = false := by
    rw [Bool.eq_false_iff]; intro h
    rw [allB_iff] at h
    have := h k (by omega) (by omega)
    rw [cov1_iff, lvA_fix ht hk h35, lvA_top ht' hk'] at this
    exact this.elim h1 h2
  simp [spMatch, spCov, this]
theorem lit_m1 : (-1 : Int64) = rc [43] := rfl
