/-! RETAINED MESSAGES, in the reference -/
def ReOk (l : Ls Row) : Prop := ∀ j, j < l.1 → okTx (l.2 j).1 ∧ topical (l.2 j).1 ∧ ∃ n, n ≤ 2 ∧ (l.2 j).2 1 = nW n
theorem ReOk_retain {l : Ls Row} {r : Row} (h : ReOk l) (hx : okTx r.1) (htop : topical r.1) (hg : ∃ n, n ≤ 2 ∧ r.2 1 = nW n) : ReOk (spRetain l r) := by
  have le := reAt_le l r.1
  unfold spRetain
  split
  · split
    · rename_i hkn
      have hlt : reAt l r.1 < l.1 := by unfold reKnown at hkn; rw [Bool.and_eq_true, decide_eq_true_eq] at hkn; exact hkn.1
      intro j hj
      obtain ⟨j', a, _, b⟩ := ldel_lt l _ hj hlt
      rw [b]; exact h j' a
    · exact h
  · split
    · intro j hj
      simp only [lset]
      split
      · exact ⟨hx, htop, hg⟩
      · exact h j hj
    · split
      · exact h
      · intro j hj
        have hj' : j < l.1 + 1 := hj
        simp only [lins]
        split
        · exact h j (by omega)
        · split
          · exact ⟨hx, htop, hg⟩
          · exact h (j - 1) (by omega)
