/-! THE NETWORK QUEUE: a ring of packets -/
def QuR (M : Mem) (q : Nat) (l : Ls Row) : Prop := ((mK M q).1 = 4 ∧ mR M q 0 = some (q + 1) ∧ mK M (q + 1) = (20, 30)) ∧ (∀ j, j < 30 → mR M (q + 1) j = some (q + 2 + j) ∧ (mK M (q + 2 + j)).1 = 3) ∧ l.1 ≤ 30 ∧ mI M q 2 = nW l.1 ∧ ∃ f, f < 30 ∧ mI M q 1 = nW f ∧ ∀ j, j < l.1 → PkR M (q + 2 + (f + j) % 30) (l.2 j)
theorem QuR.gr {P : Nat → Prop} {M M' : Mem} (g : Gr P M M') {q : Nat} {l : Ls Row} (hp : ∀ a, q ≤ a → a < q + 32 → ¬ P a) (h : QuR M q l) : QuR M' q l := by
  obtain ⟨⟨h1, h2, h3⟩, h4, h5, h6, f, h7, h8, h9⟩ := h
  have k1 : (mK M q).1 ≠ 99 := by rw [h1]; decide
  have k2 : (mK M (q + 1)).1 ≠ 99 := by rw [h3]; decide
  obtain ⟨a1, a2, a3, a4⟩ := g.2 q k1 (Or.inr (hp q (by omega) (by omega)))
  obtain ⟨b1, b2, b3, b4⟩ := g.2 (q + 1) k2 (Or.inr (hp (q + 1) (by omega) (by omega)))
  refine ⟨⟨by rw [g.1 q k1]; exact h1, by rw [a4]; exact h2, by rw [g.1 _ k2]; exact h3⟩, fun j hj => ?_, h5, by rw [a1]; exact h6, f, h7, by rw [a1]; exact h8, fun j hj => (h9 j hj).gr g (hp _ (by omega) (by omega))⟩
  obtain ⟨c1, c2⟩ := h4 j hj
  exact ⟨by rw [b4]; exact c1, by rw [g.1 _ (by rw [c2]; decide)]; exact c2⟩
theorem X4_head {M : Mem} {q : Nat} {l : Ls Row} (h : QuR M q l) (hn : 0 < l.1) : ∃ x, f_X4_head q M = some (x, M) ∧ (q + 2 ≤ x ∧ x < q + 32) ∧ PkR M x (l.2 0) := by
  obtain ⟨⟨h1, h2, h3⟩, h4, h5, h6, f, h7, h8, h9⟩ := h
  have h10 := (h4 f h7).1
  refine ⟨q + 2 + f, by simp (disch := omega) only [f_X4_head, gI, gL, gF, gR, pI, pZ_0, pZ_1, pZ_z, pL, pF, pR, aI, aL, aF, aR, wI, wL, wF, wR, aN, okZ_0, okZ_1, okZ_z, nar13, sI_mI, sI_mL, sI_mF, sI_mR, sI_mK, sI_mN, sI_mC, sI_mS, sL_mI, sL_mL, sL_mF, sL_mR, sL_mK, sL_mN, sL_mC, sL_mS, sF_mI, sF_mL, sF_mF, sF_mR, sF_mK, sF_mN, sF_mC, sF_mS, sR_mI, sR_mL, sR_mF, sR_mR, sR_mK, sR_mN, sR_mC, sR_mS, Option.bind_some, Option.map_some, bindP, bindX, bindH, ↓reduceIte, and_self, true_and, and_true, ne_eq, not_false_eq_true, not_true_eq_false, reduceCtorEq, Nat.reduceEqDiff, Nat.reduceLeDiff, Nat.reduceLT, Bool.false_eq_true, decide_true, decide_false, up2_eq, up2_ne, up2_nj, up2_fn, cl2_eq, cl2_ne, cl2_fn, nW_add, nW_mul, nW_sub, nW_le, nW_lt, nW_inj, irem_nW, ix_nW, h1, h2, h3, h8, h10], by omega, ?_⟩
  have := h9 0 hn
  simpa only [Nat.add_zero, Nat.mod_eq_of_lt h7] using this
theorem X4_extend {M : Mem} {q : Nat} {l : Ls Row} (h : QuR M q l) (hz : 5 ≤ q ∧ q + 32 ≤ 908) (hn : l.1 < 30) : ∃ x M', f_X4_extend q M = some (x, M') ∧ Fr (fun a => a = q) M M' ∧ (q + 2 ≤ x ∧ x < q + 32 ∧ (mK M' x).1 = 3) ∧ ∀ M'' r, Fr (fun a => a = x) M' M'' → PkR M'' x r → QuR M'' q (lpush l r) := by
  obtain ⟨⟨h1, h2, h3⟩, h4, h5, h6, f, h7, h8, h9⟩ := h
  have hzq : ¬ tz q := by simp only [tz]; omega
  have hx := fun j hj => (h4 j hj).1
  have hn' : ¬ 30 ≤ l.1 := by omega
  refine ⟨q + 2 + (f + (l.1 + 1) - 1) % 30, _, by simp (disch := omega) only [f_X4_extend, f_X4_extend_J19, gI, gL, gF, gR, pI, pZ_0, pZ_1, pZ_z, pL, pF, pR, aI, aL, aF, aR, wI, wL, wF, wR, aN, okZ_0, okZ_1, okZ_z, nar13, sI_mI, sI_mL, sI_mF, sI_mR, sI_mK, sI_mN, sI_mC, sI_mS, sL_mI, sL_mL, sL_mF, sL_mR, sL_mK, sL_mN, sL_mC, sL_mS, sF_mI, sF_mL, sF_mF, sF_mR, sF_mK, sF_mN, sF_mC, sF_mS, sR_mI, sR_mL, sR_mF, sR_mR, sR_mK, sR_mN, sR_mC, sR_mS, Option.bind_some, Option.map_some, bindP, bindX, bindH, ↓reduceIte, and_self, true_and, and_true, ne_eq, not_false_eq_true, not_true_eq_false, reduceCtorEq, Nat.reduceEqDiff, Nat.reduceLeDiff, Nat.reduceLT, Bool.false_eq_true, decide_true, decide_false, up2_eq, up2_ne, up2_nj, up2_fn, cl2_eq, cl2_ne, cl2_fn, nW_add, nW_mul, nW_sub, nW_le, nW_lt, nW_inj, irem_nW, ix_nW, nW_lit, h1, h2, h3, h6, h8, hx, hn']; rfl, ?_⟩
  refine andD (fq_I M 2 _ hzq) (fun F => ?_)
  have e : f + (l.1 + 1) - 1 = f + l.1 := by omega
  rw [e]
  refine ⟨⟨by omega, by omega, (h4 _ (Nat.mod_lt _ (by omega))).2⟩, fun M'' r G hr => ?_⟩
  have G1 := (F.tr G (R := fun a => a = q ∨ a = q + 2 + (f + l.1) % 30) (fun a h => Or.inl h) (fun a h => Or.inr h)).gr
  obtain ⟨a1, a2, a3, a4⟩ := G.2.2 q (Or.inr (by omega))
  obtain ⟨b1, b2, b3, b4⟩ := G.2.2 (q + 1) (Or.inr (by omega))
  refine ⟨⟨by rw [G.1]; exact h1, by rw [a4]; exact h2, by rw [G.1]; exact h3⟩, fun j hj => ⟨by rw [b4]; exact hx j hj, by rw [G.1]; exact (h4 j hj).2⟩, by simp only [lpush]; omega, ?_, f, h7, ?_, fun j hj => ?_⟩
  · rw [a1]; simp only [sI_mI, sI_mL, sI_mF, sI_mR, sI_mK, sI_mN, sI_mC, sI_mS, sL_mI, sL_mL, sL_mF, sL_mR, sL_mK, sL_mN, sL_mC, sL_mS, sF_mI, sF_mL, sF_mF, sF_mR, sF_mK, sF_mN, sF_mC, sF_mS, sR_mI, sR_mL, sR_mF, sR_mR, sR_mK, sR_mN, sR_mC, sR_mS, up2_eq, lpush]
  · rw [a1]; simp (disch := omega) only [sI_mI, sI_mL, sI_mF, sI_mR, sI_mK, sI_mN, sI_mC, sI_mS, sL_mI, sL_mL, sL_mF, sL_mR, sL_mK, sL_mN, sL_mC, sL_mS, sF_mI, sF_mL, sF_mF, sF_mR, sF_mK, sF_mN, sF_mC, sF_mS, sR_mI, sR_mL, sR_mF, sR_mR, sR_mK, sR_mN, sR_mC, sR_mS, up2_nj, h8]
  · by_cases hj2 : j = l.1
    · subst hj2; simp only [lpush, ↓reduceIte]; exact hr
    · simp only [lpush] at hj
      simp only [lpush, hj2, ↓reduceIte]
      exact (h9 j (by omega)).gr G1 (by omega)
theorem X4_dropFirst {M : Mem} {q : Nat} {l : Ls Row} (h : QuR M q l) (hz : 5 ≤ q ∧ q + 32 ≤ 908) (hn : 0 < l.1) : ∃ M', f_X4_dropFirst q M = some M' ∧ Fr (fun a => a = q) M M' ∧ QuR M' q (ldel l 0) := by
  obtain ⟨⟨h1, h2, h3⟩, h4, h5, h6, f, h7, h8, h9⟩ := h
  have hzq : ¬ tz q := by simp only [tz]; omega
  have hp : ¬ l.1 ≤ 0 := by omega
  refine ⟨_, by simp (disch := omega) only [f_X4_dropFirst, gI, gL, gF, gR, pI, pZ_0, pZ_1, pZ_z, pL, pF, pR, aI, aL, aF, aR, wI, wL, wF, wR, aN, okZ_0, okZ_1, okZ_z, nar13, sI_mI, sI_mL, sI_mF, sI_mR, sI_mK, sI_mN, sI_mC, sI_mS, sL_mI, sL_mL, sL_mF, sL_mR, sL_mK, sL_mN, sL_mC, sL_mS, sF_mI, sF_mL, sF_mF, sF_mR, sF_mK, sF_mN, sF_mC, sF_mS, sR_mI, sR_mL, sR_mF, sR_mR, sR_mK, sR_mN, sR_mC, sR_mS, Option.bind_some, Option.map_some, bindP, bindX, bindH, ↓reduceIte, and_self, true_and, and_true, ne_eq, not_false_eq_true, not_true_eq_false, reduceCtorEq, Nat.reduceEqDiff, Nat.reduceLeDiff, Nat.reduceLT, Bool.false_eq_true, decide_true, decide_false, up2_eq, up2_ne, up2_nj, up2_fn, cl2_eq, cl2_ne, cl2_fn, nW_add, nW_mul, nW_sub, nW_le, nW_lt, nW_inj, irem_nW, ix_nW, nW_lit, h1, h6, h8, hp]; rfl, ?_⟩
  refine andD ((fq_I M 1 _ hzq).trans (fq_I _ 2 _ hzq)) (fun F => ?_)
  obtain ⟨b1, b2, b3, b4⟩ := F.2.2 (q + 1) (Or.inr (by omega))
  refine ⟨⟨by rw [F.1]; exact h1, h2, by rw [F.1]; exact h3⟩, fun j hj => ⟨by rw [b4]; exact (h4 j hj).1, by rw [F.1]; exact (h4 j hj).2⟩, by simp only [ldel]; omega, ?_, (f + 1) % 30, by omega, ?_, fun j hj => ?_⟩
  · simp only [sI_mI, sI_mL, sI_mF, sI_mR, sI_mK, sI_mN, sI_mC, sI_mS, sL_mI, sL_mL, sL_mF, sL_mR, sL_mK, sL_mN, sL_mC, sL_mS, sF_mI, sF_mL, sF_mF, sF_mR, sF_mK, sF_mN, sF_mC, sF_mS, sR_mI, sR_mL, sR_mF, sR_mR, sR_mK, sR_mN, sR_mC, sR_mS, up2_eq, ldel]
  · simp (disch := omega) only [sI_mI, sI_mL, sI_mF, sI_mR, sI_mK, sI_mN, sI_mC, sI_mS, sL_mI, sL_mL, sL_mF, sL_mR, sL_mK, sL_mN, sL_mC, sL_mS, sF_mI, sF_mL, sF_mF, sF_mR, sF_mK, sF_mN, sF_mC, sF_mS, sR_mI, sR_mL, sR_mF, sR_mR, sR_mK, sR_mN, sR_mC, sR_mS, up2_nj, up2_eq]
  · simp only [ldel] at hj
    have e : ((f + 1) % 30 + j) % 30 = (f + (j + 1)) % 30 := by omega
    rw [e]
    simp only [ldel, Nat.not_lt_zero, ↓reduceIte]
    exact (h9 (j + 1) (by omega)).gr F.gr (by omega)
theorem X4_clear {M : Mem} {q : Nat} {l : Ls Row} (h : QuR M q l) (hz : 5 ≤ q ∧ q + 32 ≤ 908) (g : Nat → Row) : ∃ M', f_X4_clear q M = some M' ∧ Fr (fun a => a = q) M M' ∧ QuR M' q (0, g) := by
  obtain ⟨⟨h1, h2, h3⟩, h4, h5, h6, f, h7, h8, h9⟩ := h
  have hzq : ¬ tz q := by simp only [tz]; omega
  refine ⟨_, by simp (disch := omega) only [f_X4_clear, gI, gL, gF, gR, pI, pZ_0, pZ_1, pZ_z, pL, pF, pR, aI, aL, aF, aR, wI, wL, wF, wR, aN, okZ_0, okZ_1, okZ_z, nar13, sI_mI, sI_mL, sI_mF, sI_mR, sI_mK, sI_mN, sI_mC, sI_mS, sL_mI, sL_mL, sL_mF, sL_mR, sL_mK, sL_mN, sL_mC, sL_mS, sF_mI, sF_mL, sF_mF, sF_mR, sF_mK, sF_mN, sF_mC, sF_mS, sR_mI, sR_mL, sR_mF, sR_mR, sR_mK, sR_mN, sR_mC, sR_mS, Option.bind_some, Option.map_some, bindP, bindX, bindH, ↓reduceIte, and_self, true_and, and_true, ne_eq, not_false_eq_true, not_true_eq_false, reduceCtorEq, Nat.reduceEqDiff, Nat.reduceLeDiff, Nat.reduceLT, Bool.false_eq_true, decide_true, decide_false, up2_eq, up2_ne, up2_nj, up2_fn, cl2_eq, cl2_ne, cl2_fn, nW_add, nW_mul, nW_sub, nW_le, nW_lt, nW_inj, irem_nW, ix_nW, nW_lit, h1]; rfl, ?_⟩
  refine andD ((fq_I M 1 _ hzq).trans (fq_I _ 2 _ hzq)) (fun F => ?_)
  obtain ⟨b1, b2, b3, b4⟩ := F.2.2 (q + 1) (Or.inr (by omega))
  refine ⟨⟨by rw [F.1]; exact h1, h2, by rw [F.1]; exact h3⟩, fun j hj => ⟨by rw [b4]; exact (h4 j hj).1, by rw [F.1]; exact (h4 j hj).2⟩, by simp only; omega, ?_, 0, by omega, ?_, fun j hj => absurd hj (by simp only; omega)⟩
  · simp only [sI_mI, sI_mL, sI_mF, sI_mR, sI_mK, sI_mN, sI_mC, sI_mS, sL_mI, sL_mL, sL_mF, sL_mR, sL_mK, sL_mN, sL_mC, sL_mS, sF_mI, sF_mL, sF_mF, sF_mR, sF_mK, sF_mN, sF_mC, sF_mS, sR_mI, sR_mL, sR_mF, sR_mR, sR_mK, sR_mN, sR_mC, sR_mS, up2_eq]
  · simp (disch := omega) only [sI_mI, sI_mL, sI_mF, sI_mR, sI_mK, sI_mN, sI_mC, sI_mS, sL_mI, sL_mL, sL_mF, sL_mR, sL_mK, sL_mN, sL_mC, sL_mS, sF_mI, sF_mL, sF_mF, sF_mR, sF_mK, sF_mN, sF_mC, sF_mS, sR_mI, sR_mL, sR_mF, sR_mR, sR_mK, sR_mN, sR_mC, sR_mS, up2_nj, up2_eq]
theorem X4_copyFrom_L15 {q q2 : Nat} {l : Ls Row} (hz : 5 ≤ q ∧ q + 32 ≤ 908) (hd : q + 32 ≤ q2 ∨ q2 + 32 ≤ q) : ∀ n i M, i ≤ l.1 → l.1 - i < n → QuR M q2 l → ((mK M q).1 = 4 ∧ mR M q 0 = some (q + 1) ∧ mK M (q + 1) = (20, 30) ∧ mI M q 2 = nW l.1) → (∀ j, j < 30 → mR M (q + 1) j = some (q + 2 + j) ∧ (mK M (q + 2 + j)).1 = 3) → (∀ j, j < i → PkR M (q + 2 + j) (l.2 j)) → ∃ M', f_X4_copyFrom_L15 n q q2 (nW i) M = some M' ∧ Fr (fun a => q + 2 ≤ a ∧ a < q + 32) M M' ∧ ∀ j, j < l.1 → PkR M' (q + 2 + j) (l.2 j)
  | 0, i, M, _, hn, _, _, _, _ => absurd hn (by omega)
  | n + 1, i, M, hi, hn, hs, ⟨g1, g2, g3, g4⟩, hrow, hdone => by
    have hs' := hs
    obtain ⟨⟨h1, h2, h3⟩, h4, h5, h6, f, h7, h8, h9⟩ := hs
    by_cases he : i = l.1
    · subst he
      exact ⟨M, by simp (disch := omega) only [f_X4_copyFrom_L15, gI, gL, gF, gR, pI, pZ_0, pZ_1, pZ_z, pL, pF, pR, aI, aL, aF, aR, wI, wL, wF, wR, aN, okZ_0, okZ_1, okZ_z, nar13, sI_mI, sI_mL, sI_mF, sI_mR, sI_mK, sI_mN, sI_mC, sI_mS, sL_mI, sL_mL, sL_mF, sL_mR, sL_mK, sL_mN, sL_mC, sL_mS, sF_mI, sF_mL, sF_mF, sF_mR, sF_mK, sF_mN, sF_mC, sF_mS, sR_mI, sR_mL, sR_mF, sR_mR, sR_mK, sR_mN, sR_mC, sR_mS, Option.bind_some, Option.map_some, bindP, bindX, bindH, ↓reduceIte, and_self, true_and, and_true, ne_eq, not_false_eq_true, not_true_eq_false, reduceCtorEq, Nat.reduceEqDiff, Nat.reduceLeDiff, Nat.reduceLT, Bool.false_eq_true, decide_true, decide_false, up2_eq, up2_ne, up2_nj, up2_fn, cl2_eq, cl2_ne, cl2_fn, nW_add, nW_mul, nW_sub, nW_le, nW_lt, nW_inj, irem_nW, ix_nW, nW_lit, g1, g4, Nat.le_refl], Fr.refl _ _, hdone⟩
    · have hx := fun j hj => (h4 j hj).1
      have hy := fun j hj => (hrow j hj).1
      have n1 : ¬ l.1 ≤ i := by omega
      have n2 : ¬ 30 ≤ i := by omega
      have hzr : ¬ tz (q + 2 + i) := by simp only [tz]; omega
      obtain ⟨M1, e1, F1, r1⟩ := X3_copyFrom (hrow i (by omega)).2 (h9 i (by omega)) (by omega) hzr
      have F1' := F1.gr
      obtain ⟨a1, a2, a3, a4⟩ := F1.2.2 q (Or.inr (by omega))
      obtain ⟨b1, b2, b3, b4⟩ := F1.2.2 (q + 1) (Or.inr (by omega))
      obtain ⟨M2, e2, F2, r2⟩ := X4_copyFrom_L15 hz hd n (i + 1) M1 (by omega) (by omega) (hs'.gr F1' (by intro a _ _; omega)) ⟨by rw [F1.1]; exact g1, by rw [a4]; exact g2, by rw [F1.1]; exact g3, by rw [a1]; exact g4⟩ (fun j hj => ⟨by rw [b4]; exact hy j hj, by rw [F1.1]; exact (hrow j hj).2⟩) (fun j hj => by
        by_cases hj2 : j = i
        · subst hj2; exact r1
        · exact (hdone j (by omega)).gr F1' (by omega))
      refine ⟨M2, ?_, F1.tr F2 (fun a h => by omega) (fun a h => h), r2⟩
      simp (disch := omega) only [f_X4_copyFrom_L15, gI, gL, gF, gR, pI, pZ_0, pZ_1, pZ_z, pL, pF, pR, aI, aL, aF, aR, wI, wL, wF, wR, aN, okZ_0, okZ_1, okZ_z, nar13, sI_mI, sI_mL, sI_mF, sI_mR, sI_mK, sI_mN, sI_mC, sI_mS, sL_mI, sL_mL, sL_mF, sL_mR, sL_mK, sL_mN, sL_mC, sL_mS, sF_mI, sF_mL, sF_mF, sF_mR, sF_mK, sF_mN, sF_mC, sF_mS, sR_mI, sR_mL, sR_mF, sR_mR, sR_mK, sR_mN, sR_mC, sR_mS, Option.bind_some, Option.map_some, bindP, bindX, bindH, ↓reduceIte, and_self, true_and, and_true, ne_eq, not_false_eq_true, not_true_eq_false, reduceCtorEq, Nat.reduceEqDiff, Nat.reduceLeDiff, Nat.reduceLT, Bool.false_eq_true, decide_true, decide_false, up2_eq, up2_ne, up2_nj, up2_fn, cl2_eq, cl2_ne, cl2_fn, nW_add, nW_mul, nW_sub, nW_le, nW_lt, nW_inj, irem_nW, ix_nW, nW_lit, g1, g2, g3, g4, n1, n2, h1, h2, h3, h8, hx, hy, e1, e2]
theorem X4_copyFrom {M : Mem} {q q2 : Nat} {l0 l : Ls Row} (h : QuR M q l0) (hs : QuR M q2 l) (hz : 5 ≤ q ∧ q + 32 ≤ 908) (hd : q + 32 ≤ q2 ∨ q2 + 32 ≤ q) : ∃ M', f_X4_copyFrom q q2 M = some M' ∧ Fr (fun a => q ≤ a ∧ a < q + 32) M M' ∧ QuR M' q l := by
  obtain ⟨⟨h1, h2, h3⟩, h4, _, _, _, _, _, _⟩ := h
  have hs' := hs
  obtain ⟨⟨s1, s2, s3⟩, s4, s5, s6, f, s7, s8, s9⟩ := hs
  have hzq : ¬ tz q := by simp only [tz]; omega
  have F0 : Fr (fun a => a = q) M (sI (sI M (up2 (mI M) q 1 (nW 0))) (up2 (mI (sI M (up2 (mI M) q 1 (nW 0)))) q 2 (nW l.1))) := (fq_I M 1 _ hzq).trans (fq_I _ 2 _ hzq)
  obtain ⟨b1, b2, b3, b4⟩ := F0.2.2 (q + 1) (Or.inr (by omega))
  have hq2 : q2 ≠ q := by omega
  obtain ⟨M2, e2, F2, r2⟩ := X4_copyFrom_L15 hz hd FU 0 _ (by omega) (by simp only [FU]; omega) (hs'.gr F0.gr (by intro a _ _; omega)) ⟨h1, h2, h3, by simp only [sI_mI, sI_mL, sI_mF, sI_mR, sI_mK, sI_mN, sI_mC, sI_mS, sL_mI, sL_mL, sL_mF, sL_mR, sL_mK, sL_mN, sL_mC, sL_mS, sF_mI, sF_mL, sF_mF, sF_mR, sF_mK, sF_mN, sF_mC, sF_mS, sR_mI, sR_mL, sR_mF, sR_mR, sR_mK, sR_mN, sR_mC, sR_mS, up2_eq]⟩ (fun j hj => ⟨by rw [b4]; exact (h4 j hj).1, (h4 j hj).2⟩) (fun j hj => absurd hj (by omega))
  have G := F0.tr F2 (R := fun a => q ≤ a ∧ a < q + 32) (fun a h => by omega) (fun a h => by omega)
  refine ⟨M2, ?_, G, ?_⟩
  · simp only [sI_mI, sI_mL, sI_mF, sI_mR, sI_mK, sI_mN, sI_mC, sI_mS, sL_mI, sL_mL, sL_mF, sL_mR, sL_mK, sL_mN, sL_mC, sL_mS, sF_mI, sF_mL, sF_mF, sF_mR, sF_mK, sF_mN, sF_mC, sF_mS, sR_mI, sR_mL, sR_mF, sR_mR, sR_mK, sR_mN, sR_mC, sR_mS] at e2
    simp (disch := omega) only [f_X4_copyFrom, gI, gL, gF, gR, pI, pZ_0, pZ_1, pZ_z, pL, pF, pR, aI, aL, aF, aR, wI, wL, wF, wR, aN, okZ_0, okZ_1, okZ_z, nar13, sI_mI, sI_mL, sI_mF, sI_mR, sI_mK, sI_mN, sI_mC, sI_mS, sL_mI, sL_mL, sL_mF, sL_mR, sL_mK, sL_mN, sL_mC, sL_mS, sF_mI, sF_mL, sF_mF, sF_mR, sF_mK, sF_mN, sF_mC, sF_mS, sR_mI, sR_mL, sR_mF, sR_mR, sR_mK, sR_mN, sR_mC, sR_mS, Option.bind_some, Option.map_some, bindP, bindX, bindH, ↓reduceIte, and_self, true_and, and_true, ne_eq, not_false_eq_true, not_true_eq_false, reduceCtorEq, Nat.reduceEqDiff, Nat.reduceLeDiff, Nat.reduceLT, Bool.false_eq_true, decide_true, decide_false, up2_eq, up2_ne, up2_nj, up2_fn, cl2_eq, cl2_ne, cl2_fn, nW_lit, h1, s1, s6, hq2, e2]
  · obtain ⟨a1, a2, a3, a4⟩ := F2.2.2 q (Or.inr (by omega))
    obtain ⟨c1, c2, c3, c4⟩ := F2.2.2 (q + 1) (Or.inr (by omega))
    refine ⟨⟨by rw [F2.1]; exact h1, by rw [a4]; exact h2, by rw [F2.1]; exact h3⟩, fun j hj => ⟨by rw [c4]; exact (h4 j hj).1, by rw [F2.1]; exact (h4 j hj).2⟩, s5, ?_, 0, by omega, ?_, fun j hj => ?_⟩
    · rw [a1]; simp only [sI_mI, sI_mL, sI_mF, sI_mR, sI_mK, sI_mN, sI_mC, sI_mS, sL_mI, sL_mL, sL_mF, sL_mR, sL_mK, sL_mN, sL_mC, sL_mS, sF_mI, sF_mL, sF_mF, sF_mR, sF_mK, sF_mN, sF_mC, sF_mS, sR_mI, sR_mL, sR_mF, sR_mR, sR_mK, sR_mN, sR_mC, sR_mS, up2_eq]
    · rw [a1]; simp (disch := omega) only [sI_mI, sI_mL, sI_mF, sI_mR, sI_mK, sI_mN, sI_mC, sI_mS, sL_mI, sL_mL, sL_mF, sL_mR, sL_mK, sL_mN, sL_mC, sL_mS, sF_mI, sF_mL, sF_mF, sF_mR, sF_mK, sF_mN, sF_mC, sF_mS, sR_mI, sR_mL, sR_mF, sR_mR, sR_mK, sR_mN, sR_mC, sR_mS, up2_nj, up2_eq]
    · have := r2 j hj
      rwa [Nat.zero_add, Nat.mod_eq_of_lt (by omega)]
