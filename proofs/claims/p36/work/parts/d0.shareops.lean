/-! SHARES ASKED FOR, WILLS, UNSUBSCRIBE -/
theorem ShDi_at {l : List Sh} (h : ShDi l) {i j : Nat} (hi : i < l.length) (hj : j < l.length) (e : shKey (l.getD i shD) = shKey (l.getD j shD)) : i = j := by
  unfold ShDi at h
  have h' := List.nodup_iff_pairwise_ne.mp h
  rw [List.pairwise_iff_getElem] at h'
  apply Decidable.byContradiction; intro hne
  have gi : (l.map shKey)[i]'(by simpa using hi) = shKey (l.getD i shD) := by rw [List.getElem_map, gd_in _ _ hi]
  have gj : (l.map shKey)[j]'(by simpa using hj) = shKey (l.getD j shD) := by rw [List.getElem_map, gd_in _ _ hj]
  by_cases hlt : i < j
  · exact h' i j (by simpa using hi) (by simpa using hj) hlt (by rw [gi, gj, e])
  · exact h' j i (by simpa using hj) (by simpa using hi) (by omega) (by rw [gi, gj, e])
