/-! ROWS OF REFERENCES THAT ARE TURNED, in the class -/
theorem rot_X5_removeSubscriptionAt_L31 {l c free : Nat} (hc : c ≤ 6) : ∀ n i M (p : Nat → Nat), i < c → c - i < n + 1 → ((mK M l).1 = 5 ∧ mR M l 6 = some (l + 2) ∧ mI M l 7 = nW c ∧ mK M (l + 2) = (22, 6) ∧ (mK M free).1 = 8) → (∀ j, j < 6 → mR M (l + 2) j = some (p j) ∧ (mK M (p j)).1 = 8) → ∃ M', f_X5_removeSubscriptionAt_L31 n l free (nW i) M = some M' ∧ (mI M' = up2 (mI M) l 7 (nW (c - 1)) ∧ mL M' = mL M ∧ mF M' = mF M ∧ (∀ a, a ≠ (l + 2) → mR M' a = mR M a) ∧ mK M' = mK M ∧ mN M' = mN M ∧ mC M' = mC M ∧ mS M' = mS M) ∧ ∀ j, j < 6 → mR M' (l + 2) j = some (if i ≤ j ∧ j + 1 < c then p (j + 1) else if j + 1 = c then free else p j)
  | 0, i, M, p, _, hn, _, _ => absurd hn (by omega)
  | n + 1, i, M, p, hi, hn, ⟨h1, h2, h3, h4, h5⟩, h6 => by
    by_cases he : c ≤ i + 1
    · have hic : i + 1 = c := by omega
      refine ⟨_, by simp (disch := omega) only [f_X5_removeSubscriptionAt_L31, gI, gL, gF, gR, pI, pZ_0, pZ_1, pZ_z, pL, pF, pR, aI, aL, aF, aR, wI, wL, wF, wR, aN, okZ_0, okZ_1, okZ_z, nar13, sI_mI, sI_mL, sI_mF, sI_mR, sI_mK, sI_mN, sI_mC, sI_mS, sL_mI, sL_mL, sL_mF, sL_mR, sL_mK, sL_mN, sL_mC, sL_mS, sF_mI, sF_mL, sF_mF, sF_mR, sF_mK, sF_mN, sF_mC, sF_mS, sR_mI, sR_mL, sR_mF, sR_mR, sR_mK, sR_mN, sR_mC, sR_mS, Option.bind_some, Option.map_some, bindP, bindX, bindH, ↓reduceIte, and_self, true_and, and_true, ne_eq, not_false_eq_true, not_true_eq_false, reduceCtorEq, Nat.reduceEqDiff, Nat.reduceLeDiff, Nat.reduceLT, Bool.false_eq_true, decide_true, decide_false, up2_eq, up2_ne, up2_nj, up2_fn, cl2_eq, cl2_ne, cl2_fn, nW_add, nW_mul, nW_sub, nW_le, nW_lt, nW_inj, irem_nW, ix_nW, nW_lit, h1, h2, h3, h4, h5, he, and_self]; rfl, ?_⟩
      refine ⟨⟨rfl, rfl, rfl, fun a ha => by simp only [sI_mI, sI_mL, sI_mF, sI_mR, sI_mK, sI_mN, sI_mC, sI_mS, sL_mI, sL_mL, sL_mF, sL_mR, sL_mK, sL_mN, sL_mC, sL_mS, sF_mI, sF_mL, sF_mF, sF_mR, sF_mK, sF_mN, sF_mC, sF_mS, sR_mI, sR_mL, sR_mF, sR_mR, sR_mK, sR_mN, sR_mC, sR_mS, up2_fn _ _ _ ha], rfl, rfl, rfl, rfl⟩, fun j hj => ?_⟩
      have n1 : ¬ (i ≤ j ∧ j + 1 < c) := by omega
      rw [if_neg n1]
      by_cases hj2 : j + 1 = c
      · rw [if_pos hj2]
        have : j = c - 1 := by omega
        subst this
        simp only [sI_mI, sI_mL, sI_mF, sI_mR, sI_mK, sI_mN, sI_mC, sI_mS, sL_mI, sL_mL, sL_mF, sL_mR, sL_mK, sL_mN, sL_mC, sL_mS, sF_mI, sF_mL, sF_mF, sF_mR, sF_mK, sF_mN, sF_mC, sF_mS, sR_mI, sR_mL, sR_mF, sR_mR, sR_mK, sR_mN, sR_mC, sR_mS, up2_eq]
      · rw [if_neg hj2]
        simp (disch := omega) only [sI_mI, sI_mL, sI_mF, sI_mR, sI_mK, sI_mN, sI_mC, sI_mS, sL_mI, sL_mL, sL_mF, sL_mR, sL_mK, sL_mN, sL_mC, sL_mS, sF_mI, sF_mL, sF_mF, sF_mR, sF_mK, sF_mN, sF_mC, sF_mS, sR_mI, sR_mL, sR_mF, sR_mR, sR_mK, sR_mN, sR_mC, sR_mS, up2_nj, (h6 j hj).1]
    · have h7 := h6 (i + 1) (by omega)
      obtain ⟨M2, e2, ⟨r1, r2, r3, r4, r5, r6, r7, r8⟩, r9⟩ := rot_X5_removeSubscriptionAt_L31 hc n (i + 1) (sR M (up2 (mR M) (l + 2) i (some (p (i + 1))))) (fset p i (p (i + 1))) (by omega) (by omega) ⟨h1, by simp (disch := omega) only [sI_mI, sI_mL, sI_mF, sI_mR, sI_mK, sI_mN, sI_mC, sI_mS, sL_mI, sL_mL, sL_mF, sL_mR, sL_mK, sL_mN, sL_mC, sL_mS, sF_mI, sF_mL, sF_mF, sF_mR, sF_mK, sF_mN, sF_mC, sF_mS, sR_mI, sR_mL, sR_mF, sR_mR, sR_mK, sR_mN, sR_mC, sR_mS, up2_ne, h2], h3, h4, h5⟩ (fun j hj => by
        by_cases hj2 : j = i
        · subst hj2; simp only [sI_mI, sI_mL, sI_mF, sI_mR, sI_mK, sI_mN, sI_mC, sI_mS, sL_mI, sL_mL, sL_mF, sL_mR, sL_mK, sL_mN, sL_mC, sL_mS, sF_mI, sF_mL, sF_mF, sF_mR, sF_mK, sF_mN, sF_mC, sF_mS, sR_mI, sR_mL, sR_mF, sR_mR, sR_mK, sR_mN, sR_mC, sR_mS, up2_eq, fset_eq, true_and]; exact h7.2
        · simp (disch := omega) only [sI_mI, sI_mL, sI_mF, sI_mR, sI_mK, sI_mN, sI_mC, sI_mS, sL_mI, sL_mL, sL_mF, sL_mR, sL_mK, sL_mN, sL_mC, sL_mS, sF_mI, sF_mL, sF_mF, sF_mR, sF_mK, sF_mN, sF_mC, sF_mS, sR_mI, sR_mL, sR_mF, sR_mR, sR_mK, sR_mN, sR_mC, sR_mS, up2_nj, fset_ne]; exact h6 j hj)
      refine ⟨M2, by simp (disch := omega) only [f_X5_removeSubscriptionAt_L31, gI, gL, gF, gR, pI, pZ_0, pZ_1, pZ_z, pL, pF, pR, aI, aL, aF, aR, wI, wL, wF, wR, aN, okZ_0, okZ_1, okZ_z, nar13, sI_mI, sI_mL, sI_mF, sI_mR, sI_mK, sI_mN, sI_mC, sI_mS, sL_mI, sL_mL, sL_mF, sL_mR, sL_mK, sL_mN, sL_mC, sL_mS, sF_mI, sF_mL, sF_mF, sF_mR, sF_mK, sF_mN, sF_mC, sF_mS, sR_mI, sR_mL, sR_mF, sR_mR, sR_mK, sR_mN, sR_mC, sR_mS, Option.bind_some, Option.map_some, bindP, bindX, bindH, ↓reduceIte, and_self, true_and, and_true, ne_eq, not_false_eq_true, not_true_eq_false, reduceCtorEq, Nat.reduceEqDiff, Nat.reduceLeDiff, Nat.reduceLT, Bool.false_eq_true, decide_true, decide_false, up2_eq, up2_ne, up2_nj, up2_fn, cl2_eq, cl2_ne, cl2_fn, nW_add, nW_mul, nW_sub, nW_le, nW_lt, nW_inj, irem_nW, ix_nW, nW_lit, h1, h2, h3, h4, h7.1, h7.2, he, and_self, e2], ⟨r1, r2, r3, fun a ha => by rw [r4 a ha]; simp only [sI_mI, sI_mL, sI_mF, sI_mR, sI_mK, sI_mN, sI_mC, sI_mS, sL_mI, sL_mL, sL_mF, sL_mR, sL_mK, sL_mN, sL_mC, sL_mS, sF_mI, sF_mL, sF_mF, sF_mR, sF_mK, sF_mN, sF_mC, sF_mS, sR_mI, sR_mL, sR_mF, sR_mR, sR_mK, sR_mN, sR_mC, sR_mS, up2_fn _ _ _ ha], r5, r6, r7, r8⟩, fun j hj => ?_⟩
      rw [r9 j hj]
      by_cases q1 : i + 1 ≤ j ∧ j + 1 < c
      · rw [if_pos q1, if_pos (by omega), fset_ne _ _ (by omega)]
      · rw [if_neg q1]
        by_cases q2 : j + 1 = c
        · rw [if_pos q2, if_neg (by omega), if_pos q2]
        · rw [if_neg q2]
          by_cases q3 : j = i
          · subst q3; rw [if_pos (by omega), fset_eq]
          · rw [if_neg (by omega), if_neg q2, fset_ne _ _ q3]
theorem rot_X7_leaveShare_L45 {l c free : Nat} (hc : c ≤ 36) : ∀ n i M (p : Nat → Nat), i < c → c - i < n + 1 → ((mK M l).1 = 7 ∧ mR M l 2 = some (l + 362) ∧ mI M l 3 = nW c ∧ mK M (l + 362) = (21, 36) ∧ (mK M free).1 = 6) → (∀ j, j < 36 → mR M (l + 362) j = some (p j) ∧ (mK M (p j)).1 = 6) → ∃ M', f_X7_leaveShare_L45 n l free (nW i) M = some M' ∧ (mI M' = up2 (mI M) l 3 (nW (c - 1)) ∧ mL M' = mL M ∧ mF M' = mF M ∧ (∀ a, a ≠ (l + 362) → mR M' a = mR M a) ∧ mK M' = mK M ∧ mN M' = mN M ∧ mC M' = mC M ∧ mS M' = mS M) ∧ ∀ j, j < 36 → mR M' (l + 362) j = some (if i ≤ j ∧ j + 1 < c then p (j + 1) else if j + 1 = c then free else p j)
  | 0, i, M, p, _, hn, _, _ => absurd hn (by omega)
  | n + 1, i, M, p, hi, hn, ⟨h1, h2, h3, h4, h5⟩, h6 => by
    by_cases he : c ≤ i + 1
    · have hic : i + 1 = c := by omega
      refine ⟨_, by simp (disch := omega) only [f_X7_leaveShare_L45, gI, gL, gF, gR, pI, pZ_0, pZ_1, pZ_z, pL, pF, pR, aI, aL, aF, aR, wI, wL, wF, wR, aN, okZ_0, okZ_1, okZ_z, nar13, sI_mI, sI_mL, sI_mF, sI_mR, sI_mK, sI_mN, sI_mC, sI_mS, sL_mI, sL_mL, sL_mF, sL_mR, sL_mK, sL_mN, sL_mC, sL_mS, sF_mI, sF_mL, sF_mF, sF_mR, sF_mK, sF_mN, sF_mC, sF_mS, sR_mI, sR_mL, sR_mF, sR_mR, sR_mK, sR_mN, sR_mC, sR_mS, Option.bind_some, Option.map_some, bindP, bindX, bindH, ↓reduceIte, and_self, true_and, and_true, ne_eq, not_false_eq_true, not_true_eq_false, reduceCtorEq, Nat.reduceEqDiff, Nat.reduceLeDiff, Nat.reduceLT, Bool.false_eq_true, decide_true, decide_false, up2_eq, up2_ne, up2_nj, up2_fn, cl2_eq, cl2_ne, cl2_fn, nW_add, nW_mul, nW_sub, nW_le, nW_lt, nW_inj, irem_nW, ix_nW, nW_lit, h1, h2, h3, h4, h5, he, and_self]; rfl, ?_⟩
      refine ⟨⟨rfl, rfl, rfl, fun a ha => by simp only [sI_mI, sI_mL, sI_mF, sI_mR, sI_mK, sI_mN, sI_mC, sI_mS, sL_mI, sL_mL, sL_mF, sL_mR, sL_mK, sL_mN, sL_mC, sL_mS, sF_mI, sF_mL, sF_mF, sF_mR, sF_mK, sF_mN, sF_mC, sF_mS, sR_mI, sR_mL, sR_mF, sR_mR, sR_mK, sR_mN, sR_mC, sR_mS, up2_fn _ _ _ ha], rfl, rfl, rfl, rfl⟩, fun j hj => ?_⟩
      have n1 : ¬ (i ≤ j ∧ j + 1 < c) := by omega
      rw [if_neg n1]
      by_cases hj2 : j + 1 = c
      · rw [if_pos hj2]
        have : j = c - 1 := by omega
        subst this
        simp only [sI_mI, sI_mL, sI_mF, sI_mR, sI_mK, sI_mN, sI_mC, sI_mS, sL_mI, sL_mL, sL_mF, sL_mR, sL_mK, sL_mN, sL_mC, sL_mS, sF_mI, sF_mL, sF_mF, sF_mR, sF_mK, sF_mN, sF_mC, sF_mS, sR_mI, sR_mL, sR_mF, sR_mR, sR_mK, sR_mN, sR_mC, sR_mS, up2_eq]
      · rw [if_neg hj2]
        simp (disch := omega) only [sI_mI, sI_mL, sI_mF, sI_mR, sI_mK, sI_mN, sI_mC, sI_mS, sL_mI, sL_mL, sL_mF, sL_mR, sL_mK, sL_mN, sL_mC, sL_mS, sF_mI, sF_mL, sF_mF, sF_mR, sF_mK, sF_mN, sF_mC, sF_mS, sR_mI, sR_mL, sR_mF, sR_mR, sR_mK, sR_mN, sR_mC, sR_mS, up2_nj, (h6 j hj).1]
    · have h7 := h6 (i + 1) (by omega)
      obtain ⟨M2, e2, ⟨r1, r2, r3, r4, r5, r6, r7, r8⟩, r9⟩ := rot_X7_leaveShare_L45 hc n (i + 1) (sR M (up2 (mR M) (l + 362) i (some (p (i + 1))))) (fset p i (p (i + 1))) (by omega) (by omega) ⟨h1, by simp (disch := omega) only [sI_mI, sI_mL, sI_mF, sI_mR, sI_mK, sI_mN, sI_mC, sI_mS, sL_mI, sL_mL, sL_mF, sL_mR, sL_mK, sL_mN, sL_mC, sL_mS, sF_mI, sF_mL, sF_mF, sF_mR, sF_mK, sF_mN, sF_mC, sF_mS, sR_mI, sR_mL, sR_mF, sR_mR, sR_mK, sR_mN, sR_mC, sR_mS, up2_ne, h2], h3, h4, h5⟩ (fun j hj => by
        by_cases hj2 : j = i
        · subst hj2; simp only [sI_mI, sI_mL, sI_mF, sI_mR, sI_mK, sI_mN, sI_mC, sI_mS, sL_mI, sL_mL, sL_mF, sL_mR, sL_mK, sL_mN, sL_mC, sL_mS, sF_mI, sF_mL, sF_mF, sF_mR, sF_mK, sF_mN, sF_mC, sF_mS, sR_mI, sR_mL, sR_mF, sR_mR, sR_mK, sR_mN, sR_mC, sR_mS, up2_eq, fset_eq, true_and]; exact h7.2
        · simp (disch := omega) only [sI_mI, sI_mL, sI_mF, sI_mR, sI_mK, sI_mN, sI_mC, sI_mS, sL_mI, sL_mL, sL_mF, sL_mR, sL_mK, sL_mN, sL_mC, sL_mS, sF_mI, sF_mL, sF_mF, sF_mR, sF_mK, sF_mN, sF_mC, sF_mS, sR_mI, sR_mL, sR_mF, sR_mR, sR_mK, sR_mN, sR_mC, sR_mS, up2_nj, fset_ne]; exact h6 j hj)
      refine ⟨M2, by simp (disch := omega) only [f_X7_leaveShare_L45, gI, gL, gF, gR, pI, pZ_0, pZ_1, pZ_z, pL, pF, pR, aI, aL, aF, aR, wI, wL, wF, wR, aN, okZ_0, okZ_1, okZ_z, nar13, sI_mI, sI_mL, sI_mF, sI_mR, sI_mK, sI_mN, sI_mC, sI_mS, sL_mI, sL_mL, sL_mF, sL_mR, sL_mK, sL_mN, sL_mC, sL_mS, sF_mI, sF_mL, sF_mF, sF_mR, sF_mK, sF_mN, sF_mC, sF_mS, sR_mI, sR_mL, sR_mF, sR_mR, sR_mK, sR_mN, sR_mC, sR_mS, Option.bind_some, Option.map_some, bindP, bindX, bindH, ↓reduceIte, and_self, true_and, and_true, ne_eq, not_false_eq_true, not_true_eq_false, reduceCtorEq, Nat.reduceEqDiff, Nat.reduceLeDiff, Nat.reduceLT, Bool.false_eq_true, decide_true, decide_false, up2_eq, up2_ne, up2_nj, up2_fn, cl2_eq, cl2_ne, cl2_fn, nW_add, nW_mul, nW_sub, nW_le, nW_lt, nW_inj, irem_nW, ix_nW, nW_lit, h1, h2, h3, h4, h7.1, h7.2, he, and_self, e2], ⟨r1, r2, r3, fun a ha => by rw [r4 a ha]; simp only [sI_mI, sI_mL, sI_mF, sI_mR, sI_mK, sI_mN, sI_mC, sI_mS, sL_mI, sL_mL, sL_mF, sL_mR, sL_mK, sL_mN, sL_mC, sL_mS, sF_mI, sF_mL, sF_mF, sF_mR, sF_mK, sF_mN, sF_mC, sF_mS, sR_mI, sR_mL, sR_mF, sR_mR, sR_mK, sR_mN, sR_mC, sR_mS, up2_fn _ _ _ ha], r5, r6, r7, r8⟩, fun j hj => ?_⟩
      rw [r9 j hj]
      by_cases q1 : i + 1 ≤ j ∧ j + 1 < c
      · rw [if_pos q1, if_pos (by omega), fset_ne _ _ (by omega)]
      · rw [if_neg q1]
        by_cases q2 : j + 1 = c
        · rw [if_pos q2, if_neg (by omega), if_pos q2]
        · rw [if_neg q2]
          by_cases q3 : j = i
          · subst q3; rw [if_pos (by omega), fset_eq]
          · rw [if_neg (by omega), if_neg q2, fset_ne _ _ q3]
theorem rot_X7_dropRetained_L9 {l c free : Nat} (hc : c ≤ 8) : ∀ n i M (p : Nat → Nat), i < c → c - i < n + 1 → ((mK M l).1 = 7 ∧ mR M l 4 = some (l + 435) ∧ mI M l 5 = nW c ∧ mK M (l + 435) = (19, 8) ∧ (mK M free).1 = 1) → (∀ j, j < 8 → mR M (l + 435) j = some (p j) ∧ (mK M (p j)).1 = 1) → ∃ M', f_X7_dropRetained_L9 n l free (nW i) M = some M' ∧ (mI M' = up2 (mI M) l 5 (nW (c - 1)) ∧ mL M' = mL M ∧ mF M' = mF M ∧ (∀ a, a ≠ (l + 435) → mR M' a = mR M a) ∧ mK M' = mK M ∧ mN M' = mN M ∧ mC M' = mC M ∧ mS M' = mS M) ∧ ∀ j, j < 8 → mR M' (l + 435) j = some (if i ≤ j ∧ j + 1 < c then p (j + 1) else if j + 1 = c then free else p j)
  | 0, i, M, p, _, hn, _, _ => absurd hn (by omega)
  | n + 1, i, M, p, hi, hn, ⟨h1, h2, h3, h4, h5⟩, h6 => by
    by_cases he : c ≤ i + 1
    · have hic : i + 1 = c := by omega
      refine ⟨_, by simp (disch := omega) only [f_X7_dropRetained_L9, gI, gL, gF, gR, pI, pZ_0, pZ_1, pZ_z, pL, pF, pR, aI, aL, aF, aR, wI, wL, wF, wR, aN, okZ_0, okZ_1, okZ_z, nar13, sI_mI, sI_mL, sI_mF, sI_mR, sI_mK, sI_mN, sI_mC, sI_mS, sL_mI, sL_mL, sL_mF, sL_mR, sL_mK, sL_mN, sL_mC, sL_mS, sF_mI, sF_mL, sF_mF, sF_mR, sF_mK, sF_mN, sF_mC, sF_mS, sR_mI, sR_mL, sR_mF, sR_mR, sR_mK, sR_mN, sR_mC, sR_mS, Option.bind_some, Option.map_some, bindP, bindX, bindH, ↓reduceIte, and_self, true_and, and_true, ne_eq, not_false_eq_true, not_true_eq_false, reduceCtorEq, Nat.reduceEqDiff, Nat.reduceLeDiff, Nat.reduceLT, Bool.false_eq_true, decide_true, decide_false, up2_eq, up2_ne, up2_nj, up2_fn, cl2_eq, cl2_ne, cl2_fn, nW_add, nW_mul, nW_sub, nW_le, nW_lt, nW_inj, irem_nW, ix_nW, nW_lit, h1, h2, h3, h4, h5, he, and_self]; rfl, ?_⟩
      refine ⟨⟨rfl, rfl, rfl, fun a ha => by simp only [sI_mI, sI_mL, sI_mF, sI_mR, sI_mK, sI_mN, sI_mC, sI_mS, sL_mI, sL_mL, sL_mF, sL_mR, sL_mK, sL_mN, sL_mC, sL_mS, sF_mI, sF_mL, sF_mF, sF_mR, sF_mK, sF_mN, sF_mC, sF_mS, sR_mI, sR_mL, sR_mF, sR_mR, sR_mK, sR_mN, sR_mC, sR_mS, up2_fn _ _ _ ha], rfl, rfl, rfl, rfl⟩, fun j hj => ?_⟩
      have n1 : ¬ (i ≤ j ∧ j + 1 < c) := by omega
      rw [if_neg n1]
      by_cases hj2 : j + 1 = c
      · rw [if_pos hj2]
        have : j = c - 1 := by omega
        subst this
        simp only [sI_mI, sI_mL, sI_mF, sI_mR, sI_mK, sI_mN, sI_mC, sI_mS, sL_mI, sL_mL, sL_mF, sL_mR, sL_mK, sL_mN, sL_mC, sL_mS, sF_mI, sF_mL, sF_mF, sF_mR, sF_mK, sF_mN, sF_mC, sF_mS, sR_mI, sR_mL, sR_mF, sR_mR, sR_mK, sR_mN, sR_mC, sR_mS, up2_eq]
      · rw [if_neg hj2]
        simp (disch := omega) only [sI_mI, sI_mL, sI_mF, sI_mR, sI_mK, sI_mN, sI_mC, sI_mS, sL_mI, sL_mL, sL_mF, sL_mR, sL_mK, sL_mN, sL_mC, sL_mS, sF_mI, sF_mL, sF_mF, sF_mR, sF_mK, sF_mN, sF_mC, sF_mS, sR_mI, sR_mL, sR_mF, sR_mR, sR_mK, sR_mN, sR_mC, sR_mS, up2_nj, (h6 j hj).1]
    · have h7 := h6 (i + 1) (by omega)
      obtain ⟨M2, e2, ⟨r1, r2, r3, r4, r5, r6, r7, r8⟩, r9⟩ := rot_X7_dropRetained_L9 hc n (i + 1) (sR M (up2 (mR M) (l + 435) i (some (p (i + 1))))) (fset p i (p (i + 1))) (by omega) (by omega) ⟨h1, by simp (disch := omega) only [sI_mI, sI_mL, sI_mF, sI_mR, sI_mK, sI_mN, sI_mC, sI_mS, sL_mI, sL_mL, sL_mF, sL_mR, sL_mK, sL_mN, sL_mC, sL_mS, sF_mI, sF_mL, sF_mF, sF_mR, sF_mK, sF_mN, sF_mC, sF_mS, sR_mI, sR_mL, sR_mF, sR_mR, sR_mK, sR_mN, sR_mC, sR_mS, up2_ne, h2], h3, h4, h5⟩ (fun j hj => by
        by_cases hj2 : j = i
        · subst hj2; simp only [sI_mI, sI_mL, sI_mF, sI_mR, sI_mK, sI_mN, sI_mC, sI_mS, sL_mI, sL_mL, sL_mF, sL_mR, sL_mK, sL_mN, sL_mC, sL_mS, sF_mI, sF_mL, sF_mF, sF_mR, sF_mK, sF_mN, sF_mC, sF_mS, sR_mI, sR_mL, sR_mF, sR_mR, sR_mK, sR_mN, sR_mC, sR_mS, up2_eq, fset_eq, true_and]; exact h7.2
        · simp (disch := omega) only [sI_mI, sI_mL, sI_mF, sI_mR, sI_mK, sI_mN, sI_mC, sI_mS, sL_mI, sL_mL, sL_mF, sL_mR, sL_mK, sL_mN, sL_mC, sL_mS, sF_mI, sF_mL, sF_mF, sF_mR, sF_mK, sF_mN, sF_mC, sF_mS, sR_mI, sR_mL, sR_mF, sR_mR, sR_mK, sR_mN, sR_mC, sR_mS, up2_nj, fset_ne]; exact h6 j hj)
      refine ⟨M2, by simp (disch := omega) only [f_X7_dropRetained_L9, gI, gL, gF, gR, pI, pZ_0, pZ_1, pZ_z, pL, pF, pR, aI, aL, aF, aR, wI, wL, wF, wR, aN, okZ_0, okZ_1, okZ_z, nar13, sI_mI, sI_mL, sI_mF, sI_mR, sI_mK, sI_mN, sI_mC, sI_mS, sL_mI, sL_mL, sL_mF, sL_mR, sL_mK, sL_mN, sL_mC, sL_mS, sF_mI, sF_mL, sF_mF, sF_mR, sF_mK, sF_mN, sF_mC, sF_mS, sR_mI, sR_mL, sR_mF, sR_mR, sR_mK, sR_mN, sR_mC, sR_mS, Option.bind_some, Option.map_some, bindP, bindX, bindH, ↓reduceIte, and_self, true_and, and_true, ne_eq, not_false_eq_true, not_true_eq_false, reduceCtorEq, Nat.reduceEqDiff, Nat.reduceLeDiff, Nat.reduceLT, Bool.false_eq_true, decide_true, decide_false, up2_eq, up2_ne, up2_nj, up2_fn, cl2_eq, cl2_ne, cl2_fn, nW_add, nW_mul, nW_sub, nW_le, nW_lt, nW_inj, irem_nW, ix_nW, nW_lit, h1, h2, h3, h4, h7.1, h7.2, he, and_self, e2], ⟨r1, r2, r3, fun a ha => by rw [r4 a ha]; simp only [sI_mI, sI_mL, sI_mF, sI_mR, sI_mK, sI_mN, sI_mC, sI_mS, sL_mI, sL_mL, sL_mF, sL_mR, sL_mK, sL_mN, sL_mC, sL_mS, sF_mI, sF_mL, sF_mF, sF_mR, sF_mK, sF_mN, sF_mC, sF_mS, sR_mI, sR_mL, sR_mF, sR_mR, sR_mK, sR_mN, sR_mC, sR_mS, up2_fn _ _ _ ha], r5, r6, r7, r8⟩, fun j hj => ?_⟩
      rw [r9 j hj]
      by_cases q1 : i + 1 ≤ j ∧ j + 1 < c
      · rw [if_pos q1, if_pos (by omega), fset_ne _ _ (by omega)]
      · rw [if_neg q1]
        by_cases q2 : j + 1 = c
        · rw [if_pos q2, if_neg (by omega), if_pos q2]
        · rw [if_neg q2]
          by_cases q3 : j = i
          · subst q3; rw [if_pos (by omega), fset_eq]
          · rw [if_neg (by omega), if_neg q2, fset_ne _ _ q3]
/-- a frame out of what such a loop leaves -/
theorem Fr_ir {P : Nat → Prop} {M M' : Mem} {l f b : Nat} {x : Int32} (h : mI M' = up2 (mI M) l f x ∧ mL M' = mL M ∧ mF M' = mF M ∧ (∀ a, a ≠ b → mR M' a = mR M a) ∧ mK M' = mK M ∧ mN M' = mN M ∧ mC M' = mC M ∧ mS M' = mS M) (hl : P l) (hb : P b) (hz : ¬ tz l ∧ ¬ tz b) : Fr P M M' := by
  obtain ⟨h1, h2, h3, h4, h5, h6, h7, h8⟩ := h
  refine ⟨h5, ⟨h6, h7, h8⟩, fun a ha => ⟨?_, by rw [h2], by rw [h3], h4 a ?_⟩⟩
  · rw [h1]; exact up2_fn _ _ _ (by rintro rfl; exact ha.elim hz.1 (fun h => h hl))
  · rintro rfl; exact ha.elim hz.2 (fun h => h hb)
theorem perm_ldel {i c : Nat} (hi : i < c) (p : Nat → Nat) (j free : Nat) (hf : free = p i) : (if i ≤ j ∧ j + 1 < c then p (j + 1) else if j + 1 = c then free else p j) = p (rotU i c j) := by
  unfold rotU
  split
  · rfl
  · split
    · exact hf
    · rfl
