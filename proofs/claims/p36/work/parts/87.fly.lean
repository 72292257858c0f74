/-! FLIGHTS -/
theorem nW_m1 : ¬ nW 0 ≤ -nW 1 := by decide
theorem posI_ge {o : Option Nat} (h : ∀ i, o = some i → i < 2147483648) : (nW 0 ≤ posI o) = (o.isSome = true) := by
  cases o with
  | none => simp [posI, nW_m1]
  | some i => simp [posI, nW_le (show 0 < 2147483648 by omega) (h i rfl)]
theorem posI_lt {o : Option Nat} (h : ∀ i, o = some i → i < 2147483648) : (posI o < nW 0) = (o = none) := by
  cases o with
  | none => simp [posI]; decide
  | some i => simp [posI, nW_lt (h i rfl) (show 0 < 2147483648 by omega)]
def spIn (l : Ls Row) (n : Nat) : Bool := (ffind (fun j => decide ((l.2 j).2 4 = nW n)) l.1 0).isSome
def spNext (n : Nat) : Nat := if 50 ≤ n then 1 else n + 1
def spStep (l : Ls Row) : Nat → Nat → Nat
  | 0, n => n
  | k + 1, n => if spIn l (spNext n) then spStep l k (spNext n) else spNext n
theorem spNext_le (n : Nat) : spNext n ≤ 50 := by unfold spNext; split <;> omega
theorem SeO_uN {M : Mem} {s n : Nat} {c : Cl} (h : SeO M s c) (hz : ¬ tz s) (hn : n ≤ 50) : Fr (fun a => a = s) M (sI M (up2 (mI M) s 3 (nW n))) ∧ SeO (sI M (up2 (mI M) s 3 (nW n))) s (uN c n) := by
  refine ⟨fq_I M _ _ hz, ?_⟩
  obtain ⟨h1, h2, h3, h4, h5, h6, h7, h8⟩ := h
  refine ⟨h1, ?_, ?_, ?_, ?_, ?_, ?_, hn⟩
  · simp (disch := omega) only [sI_mI, sI_mL, sI_mF, sI_mR, sI_mK, sI_mN, sI_mC, sI_mS, sL_mI, sL_mL, sL_mF, sL_mR, sL_mK, sL_mN, sL_mC, sL_mS, sF_mI, sF_mL, sF_mF, sF_mR, sF_mK, sF_mN, sF_mC, sF_mS, sR_mI, sR_mL, sR_mF, sR_mR, sR_mK, sR_mN, sR_mC, sR_mS, up2_nj, uB_B, uB_I, uB_F, uB_W, uB_K, uB_N, uB_L, uI_B, uI_I, uI_F, uI_W, uI_K, uI_N, uI_L, uF_B, uF_I, uF_F, uF_W, uF_K, uF_N, uF_L, uW_B, uW_I, uW_F, uW_W, uW_K, uW_N, uW_L, uK_B, uK_I, uK_F, uK_W, uK_K, uK_N, uK_L, uN_B, uN_I, uN_F, uN_W, uN_K, uN_N, uN_L, uL_B, uL_I, uL_F, uL_W, uL_K, uL_N, uL_L, h2]
  · simp (disch := omega) only [sI_mI, sI_mL, sI_mF, sI_mR, sI_mK, sI_mN, sI_mC, sI_mS, sL_mI, sL_mL, sL_mF, sL_mR, sL_mK, sL_mN, sL_mC, sL_mS, sF_mI, sF_mL, sF_mF, sF_mR, sF_mK, sF_mN, sF_mC, sF_mS, sR_mI, sR_mL, sR_mF, sR_mR, sR_mK, sR_mN, sR_mC, sR_mS, up2_nj, uB_B, uB_I, uB_F, uB_W, uB_K, uB_N, uB_L, uI_B, uI_I, uI_F, uI_W, uI_K, uI_N, uI_L, uF_B, uF_I, uF_F, uF_W, uF_K, uF_N, uF_L, uW_B, uW_I, uW_F, uW_W, uW_K, uW_N, uW_L, uK_B, uK_I, uK_F, uK_W, uK_K, uK_N, uK_L, uN_B, uN_I, uN_F, uN_W, uN_K, uN_N, uN_L, uL_B, uL_I, uL_F, uL_W, uL_K, uL_N, uL_L, h3]
  · simp (disch := omega) only [sI_mI, sI_mL, sI_mF, sI_mR, sI_mK, sI_mN, sI_mC, sI_mS, sL_mI, sL_mL, sL_mF, sL_mR, sL_mK, sL_mN, sL_mC, sL_mS, sF_mI, sF_mL, sF_mF, sF_mR, sF_mK, sF_mN, sF_mC, sF_mS, sR_mI, sR_mL, sR_mF, sR_mR, sR_mK, sR_mN, sR_mC, sR_mS, up2_nj, uB_B, uB_I, uB_F, uB_W, uB_K, uB_N, uB_L, uI_B, uI_I, uI_F, uI_W, uI_K, uI_N, uI_L, uF_B, uF_I, uF_F, uF_W, uF_K, uF_N, uF_L, uW_B, uW_I, uW_F, uW_W, uW_K, uW_N, uW_L, uK_B, uK_I, uK_F, uK_W, uK_K, uK_N, uK_L, uN_B, uN_I, uN_F, uN_W, uN_K, uN_N, uN_L, uL_B, uL_I, uL_F, uL_W, uL_K, uL_N, uL_L, h4]
  · simp only [sI_mI, sI_mL, sI_mF, sI_mR, sI_mK, sI_mN, sI_mC, sI_mS, sL_mI, sL_mL, sL_mF, sL_mR, sL_mK, sL_mN, sL_mC, sL_mS, sF_mI, sF_mL, sF_mF, sF_mR, sF_mK, sF_mN, sF_mC, sF_mS, sR_mI, sR_mL, sR_mF, sR_mR, sR_mK, sR_mN, sR_mC, sR_mS, up2_eq, uB_B, uB_I, uB_F, uB_W, uB_K, uB_N, uB_L, uI_B, uI_I, uI_F, uI_W, uI_K, uI_N, uI_L, uF_B, uF_I, uF_F, uF_W, uF_K, uF_N, uF_L, uW_B, uW_I, uW_F, uW_W, uW_K, uW_N, uW_L, uK_B, uK_I, uK_F, uK_W, uK_K, uK_N, uK_L, uN_B, uN_I, uN_F, uN_W, uN_K, uN_N, uN_L, uL_B, uL_I, uL_F, uL_W, uL_K, uL_N, uL_L]
  · simp (disch := omega) only [sI_mI, sI_mL, sI_mF, sI_mR, sI_mK, sI_mN, sI_mC, sI_mS, sL_mI, sL_mL, sL_mF, sL_mR, sL_mK, sL_mN, sL_mC, sL_mS, sF_mI, sF_mL, sF_mF, sF_mR, sF_mK, sF_mN, sF_mC, sF_mS, sR_mI, sR_mL, sR_mF, sR_mR, sR_mK, sR_mN, sR_mC, sR_mS, up2_nj, uB_B, uB_I, uB_F, uB_W, uB_K, uB_N, uB_L, uI_B, uI_I, uI_F, uI_W, uI_K, uI_N, uI_L, uF_B, uF_I, uF_F, uF_W, uF_K, uF_N, uF_L, uW_B, uW_I, uW_F, uW_W, uW_K, uW_N, uW_L, uK_B, uK_I, uK_F, uK_W, uK_K, uK_N, uK_L, uN_B, uN_I, uN_F, uN_W, uN_K, uN_N, uN_L, uL_B, uL_I, uL_F, uL_W, uL_K, uL_N, uL_L, h6]
  · simp (disch := omega) only [sI_mI, sI_mL, sI_mF, sI_mR, sI_mK, sI_mN, sI_mC, sI_mS, sL_mI, sL_mL, sL_mF, sL_mR, sL_mK, sL_mN, sL_mC, sL_mS, sF_mI, sF_mL, sF_mF, sF_mR, sF_mK, sF_mN, sF_mC, sF_mS, sR_mI, sR_mL, sR_mF, sR_mR, sR_mK, sR_mN, sR_mC, sR_mS, up2_nj, uB_B, uB_I, uB_F, uB_W, uB_K, uB_N, uB_L, uI_B, uI_I, uI_F, uI_W, uI_K, uI_N, uI_L, uF_B, uF_I, uF_F, uF_W, uF_K, uF_N, uF_L, uW_B, uW_I, uW_F, uW_W, uW_K, uW_N, uW_L, uK_B, uK_I, uK_F, uK_W, uK_K, uK_N, uK_L, uN_B, uN_I, uN_F, uN_W, uN_K, uN_N, uN_L, uL_B, uL_I, uL_F, uL_W, uL_K, uL_N, uL_L, h7]
theorem X5_stepIdentifier_L2 {s : Nat} {l : Ls Row} (hz : 5 ≤ s ∧ s + 26 ≤ 908) : ∀ n i M c, i ≤ 50 → 50 - i < n → SeO M s c → MLR M (s + 9) 5 l → ∃ M', f_X5_stepIdentifier_L2 n s (nW i) M = some M' ∧ Fr (fun a => a = s) M M' ∧ SeO M' s (uN c (spStep l (50 - i) (cN c)))
  | 0, i, M, c, _, hn, _, _ => absurd hn (by omega)
  | n + 1, i, M, c, hi, hn, hS, hL => by
    have k0 := hS.1.1
    have k3 := hS.2.2.2.2.1
    have k4 := hS.1.2.2.2.1
    have hc := hS.2.2.2.2.2.2.2
    have hzs : ¬ tz s := by simp only [tz]; omega
    by_cases he : i = 50
    · subst he
      exact ⟨M, by simp (disch := omega) only [f_X5_stepIdentifier_L2, gI, gL, gF, gR, pI, pZ_0, pZ_1, pZ_z, pL, pF, pR, aI, aL, aF, aR, wI, wL, wF, wR, aN, okZ_0, okZ_1, okZ_z, nar13, sI_mI, sI_mL, sI_mF, sI_mR, sI_mK, sI_mN, sI_mC, sI_mS, sL_mI, sL_mL, sL_mF, sL_mR, sL_mK, sL_mN, sL_mC, sL_mS, sF_mI, sF_mL, sF_mF, sF_mR, sF_mK, sF_mN, sF_mC, sF_mS, sR_mI, sR_mL, sR_mF, sR_mR, sR_mK, sR_mN, sR_mC, sR_mS, Option.bind_some, Option.map_some, bindP, bindX, bindH, ↓reduceIte, and_self, true_and, and_true, ne_eq, not_false_eq_true, not_true_eq_false, reduceCtorEq, Nat.reduceEqDiff, Nat.reduceLeDiff, Nat.reduceLT, Bool.false_eq_true, decide_true, decide_false, up2_eq, up2_ne, up2_nj, up2_fn, cl2_eq, cl2_ne, cl2_fn, nW_add, nW_mul, nW_sub, nW_le, nW_lt, nW_inj, irem_nW, ix_nW, nW_lit, Nat.le_refl], Fr.refl _ _, hS⟩
    · have n1 : ¬ 50 ≤ i := by omega
      have hx : f_X5_stepIdentifier_L2 (n + 1) s (nW i) M = f_X5_stepIdentifier_J28 (f_X5_stepIdentifier_L2 n) s (nW i) (nW (spNext (cN c))) s M := by
        by_cases hn5 : cN c < 50
        · have : ¬ 50 ≤ cN c := by omega
          simp (disch := omega) only [f_X5_stepIdentifier_L2, gI, gL, gF, gR, pI, pZ_0, pZ_1, pZ_z, pL, pF, pR, aI, aL, aF, aR, wI, wL, wF, wR, aN, okZ_0, okZ_1, okZ_z, nar13, sI_mI, sI_mL, sI_mF, sI_mR, sI_mK, sI_mN, sI_mC, sI_mS, sL_mI, sL_mL, sL_mF, sL_mR, sL_mK, sL_mN, sL_mC, sL_mS, sF_mI, sF_mL, sF_mF, sF_mR, sF_mK, sF_mN, sF_mC, sF_mS, sR_mI, sR_mL, sR_mF, sR_mR, sR_mK, sR_mN, sR_mC, sR_mS, Option.bind_some, Option.map_some, bindP, bindX, bindH, ↓reduceIte, and_self, true_and, and_true, ne_eq, not_false_eq_true, not_true_eq_false, reduceCtorEq, Nat.reduceEqDiff, Nat.reduceLeDiff, Nat.reduceLT, Bool.false_eq_true, decide_true, decide_false, up2_eq, up2_ne, up2_nj, up2_fn, cl2_eq, cl2_ne, cl2_fn, nW_add, nW_mul, nW_sub, nW_le, nW_lt, nW_inj, irem_nW, ix_nW, nW_lit, k0, k3, n1, hn5, spNext, this]
        · have : 50 ≤ cN c := by omega
          simp (disch := omega) only [f_X5_stepIdentifier_L2, gI, gL, gF, gR, pI, pZ_0, pZ_1, pZ_z, pL, pF, pR, aI, aL, aF, aR, wI, wL, wF, wR, aN, okZ_0, okZ_1, okZ_z, nar13, sI_mI, sI_mL, sI_mF, sI_mR, sI_mK, sI_mN, sI_mC, sI_mS, sL_mI, sL_mL, sL_mF, sL_mR, sL_mK, sL_mN, sL_mC, sL_mS, sF_mI, sF_mL, sF_mF, sF_mR, sF_mK, sF_mN, sF_mC, sF_mS, sR_mI, sR_mL, sR_mF, sR_mR, sR_mK, sR_mN, sR_mC, sR_mS, Option.bind_some, Option.map_some, bindP, bindX, bindH, ↓reduceIte, and_self, true_and, and_true, ne_eq, not_false_eq_true, not_true_eq_false, reduceCtorEq, Nat.reduceEqDiff, Nat.reduceLeDiff, Nat.reduceLT, Bool.false_eq_true, decide_true, decide_false, up2_eq, up2_ne, up2_nj, up2_fn, cl2_eq, cl2_ne, cl2_fn, nW_add, nW_mul, nW_sub, nW_le, nW_lt, nW_inj, irem_nW, ix_nW, nW_lit, k0, k3, n1, hn5, spNext, this]
      obtain ⟨F1, S1⟩ := SeO_uN hS hzs (spNext_le (cN c))
      have L1 := hL.gr F1.gr (by intro a _ _; omega)
      have P1 := X2_placeOf (nW (spNext (cN c))) L1 (by omega)
      have hb : ∀ k, ffind (fun j => decide ((l.2 j).2 4 = nW (spNext (cN c)))) l.1 0 = some k → k < 2147483648 := by
        intro k hk
        have := (ffind_some hk).2.1
        have := hL.2.1
        omega
      rw [show 50 - i = (50 - (i + 1)) + 1 by omega]
      by_cases hin : spIn l (spNext (cN c)) = true
      · obtain ⟨M2, e2, F2, S2⟩ := X5_stepIdentifier_L2 hz n (i + 1) _ _ (by omega) (by omega) S1 L1
        refine ⟨M2, ?_, F1.trans F2, ?_⟩
        · unfold spIn at hin
          rw [hx]
          simp (disch := omega) only [f_X5_stepIdentifier_J28, gI, gL, gF, gR, pI, pZ_0, pZ_1, pZ_z, pL, pF, pR, aI, aL, aF, aR, wI, wL, wF, wR, aN, okZ_0, okZ_1, okZ_z, nar13, sI_mI, sI_mL, sI_mF, sI_mR, sI_mK, sI_mN, sI_mC, sI_mS, sL_mI, sL_mL, sL_mF, sL_mR, sL_mK, sL_mN, sL_mC, sL_mS, sF_mI, sF_mL, sF_mF, sF_mR, sF_mK, sF_mN, sF_mC, sF_mS, sR_mI, sR_mL, sR_mF, sR_mR, sR_mK, sR_mN, sR_mC, sR_mS, Option.bind_some, Option.map_some, bindP, bindX, bindH, ↓reduceIte, and_self, true_and, and_true, ne_eq, not_false_eq_true, not_true_eq_false, reduceCtorEq, Nat.reduceEqDiff, Nat.reduceLeDiff, Nat.reduceLT, Bool.false_eq_true, decide_true, decide_false, up2_eq, up2_ne, up2_nj, up2_fn, cl2_eq, cl2_ne, cl2_fn, nW_add, nW_mul, nW_sub, nW_le, nW_lt, nW_inj, irem_nW, ix_nW, nW_lit, k0, k4, P1, posI_ge hb, hin, e2]
        · simp only [spStep, hin, ↓reduceIte]; exact S2
      · refine ⟨_, ?_, F1, ?_⟩
        · unfold spIn at hin
          rw [hx]
          simp (disch := omega) only [f_X5_stepIdentifier_J28, gI, gL, gF, gR, pI, pZ_0, pZ_1, pZ_z, pL, pF, pR, aI, aL, aF, aR, wI, wL, wF, wR, aN, okZ_0, okZ_1, okZ_z, nar13, sI_mI, sI_mL, sI_mF, sI_mR, sI_mK, sI_mN, sI_mC, sI_mS, sL_mI, sL_mL, sL_mF, sL_mR, sL_mK, sL_mN, sL_mC, sL_mS, sF_mI, sF_mL, sF_mF, sF_mR, sF_mK, sF_mN, sF_mC, sF_mS, sR_mI, sR_mL, sR_mF, sR_mR, sR_mK, sR_mN, sR_mC, sR_mS, Option.bind_some, Option.map_some, bindP, bindX, bindH, ↓reduceIte, and_self, true_and, and_true, ne_eq, not_false_eq_true, not_true_eq_false, reduceCtorEq, Nat.reduceEqDiff, Nat.reduceLeDiff, Nat.reduceLT, Bool.false_eq_true, decide_true, decide_false, up2_eq, up2_ne, up2_nj, up2_fn, cl2_eq, cl2_ne, cl2_fn, nW_add, nW_mul, nW_sub, nW_le, nW_lt, nW_inj, irem_nW, ix_nW, nW_lit, k0, k4, P1, posI_ge hb, hin]
        · simp only [spStep, hin, ↓reduceIte]; exact S1
theorem X5_stepIdentifier {M : Mem} {s : Nat} {l : Ls Row} {c : Cl} (hz : 5 ≤ s ∧ s + 26 ≤ 908) (hS : SeO M s c) (hL : MLR M (s + 9) 5 l) : ∃ M', f_X5_stepIdentifier s M = some M' ∧ Fr (fun a => a = s) M M' ∧ SeO M' s (uN c (spStep l 50 (cN c))) := by
  obtain ⟨M', e, F, S⟩ := X5_stepIdentifier_L2 hz FU 0 M c (by omega) (by simp only [FU]; omega) hS hL
  exact ⟨M', by simp only [f_X5_stepIdentifier, hS.1.1, ↓reduceIte, nW_lit, e], F, S⟩
theorem spSend_B (g : GS) (r : Row) : cB (spSend g r).2 = cB g.2 := by unfold spSend; split <;> rfl
theorem spSend_W (g : GS) (r : Row) : cW (spSend g r).2 = cW g.2 := by unfold spSend; split <;> rfl
theorem spSend_F (g : GS) (r : Row) : cF (spSend g r).2 = cF g.2 := by unfold spSend; split <;> rfl
theorem spSend_K (g : GS) (r : Row) : cK (spSend g r).2 = cK g.2 := by unfold spSend; split <;> rfl
theorem spSend_N (g : GS) (r : Row) : cN (spSend g r).2 = cN g.2 := by unfold spSend; split <;> rfl
theorem spSend_I (g : GS) (r : Row) {i : Nat} (h : i ≠ 0) : cI (spSend g r).2 i = cI g.2 i := by
  unfold spSend; split <;> simp only [uB_B, uB_I, uB_F, uB_W, uB_K, uB_N, uB_L, uI_B, uI_I, uI_F, uI_W, uI_K, uI_N, uI_L, uF_B, uF_I, uF_F, uF_W, uF_K, uF_N, uF_L, uW_B, uW_I, uW_F, uW_W, uW_K, uW_N, uW_L, uK_B, uK_I, uK_F, uK_W, uK_K, uK_N, uK_L, uN_B, uN_I, uN_F, uN_W, uN_K, uN_N, uN_L, uL_B, uL_I, uL_F, uL_W, uL_K, uL_N, uL_L, uB_B, uB_I, uB_F, uB_W, uB_K, uB_N, uB_L, uI_B, uI_I, uI_F, uI_W, uI_K, uI_N, uI_L, uF_B, uF_I, uF_F, uF_W, uF_K, uF_N, uF_L, uW_B, uW_I, uW_F, uW_W, uW_K, uW_N, uW_L, uK_B, uK_I, uK_F, uK_W, uK_K, uK_N, uK_L, uN_B, uN_I, uN_F, uN_W, uN_K, uN_N, uN_L, uL_B, uL_I, uL_F, uL_W, uL_K, uL_N, uL_L, fset_ne _ _ h]
theorem spSend_L (g : GS) (r : Row) {i : Nat} (h : i ≠ 0) : cL (spSend g r).2 i = cL g.2 i := by
  unfold spSend; split <;> simp only [uB_B, uB_I, uB_F, uB_W, uB_K, uB_N, uB_L, uI_B, uI_I, uI_F, uI_W, uI_K, uI_N, uI_L, uF_B, uF_I, uF_F, uF_W, uF_K, uF_N, uF_L, uW_B, uW_I, uW_F, uW_W, uW_K, uW_N, uW_L, uK_B, uK_I, uK_F, uK_W, uK_K, uK_N, uK_L, uN_B, uN_I, uN_F, uN_W, uN_K, uN_N, uN_L, uL_B, uL_I, uL_F, uL_W, uL_K, uL_N, uL_L, uB_B, uB_I, uB_F, uB_W, uB_K, uB_N, uB_L, uI_B, uI_I, uI_F, uI_W, uI_K, uI_N, uI_L, uF_B, uF_I, uF_F, uF_W, uF_K, uF_N, uF_L, uW_B, uW_I, uW_F, uW_W, uW_K, uW_N, uW_L, uK_B, uK_I, uK_F, uK_W, uK_K, uK_N, uK_L, uN_B, uN_I, uN_F, uN_W, uN_K, uN_N, uN_L, uL_B, uL_I, uL_F, uL_W, uL_K, uL_N, uL_L, fset_ne _ _ h]
theorem spSend_sc (g : GS) (r : Row) {i : Nat} (h : i ≠ 8) : (spSend g r).1 i = g.1 i := by
  unfold spSend; split <;> simp only [tot, fset_ne _ _ h]
theorem SeO_send {M : Mem} {s : Nat} {g : GS} {r : Row} (h : SeO M s g.2) : SeO M s (spSend g r).2 := by
  unfold SeO
  rw [spSend_B, spSend_N, spSend_K, spSend_I _ _ (by decide), spSend_L _ _ (by decide)]
  exact h
def spMay (g : GS) : Bool := cB g.2 0 && decide (nW (cL g.2 1).1 < g.1 10)
theorem X7_mayStart {M : Mem} {S C : Nat} {sc : Nat → Int32} {c : Cl} (hB : BaR M S sc) (hO : ClO M C c) (hE : SeO M (C + 34) c) (hL : MLR M (C + 43) 5 (cL c 1)) : f_X7_mayStart S C M = some (zI (spMay (sc, c)), M) := by
  obtain ⟨⟨o1, o2, o3, o4⟩, o5, o6, o7, o8, o9⟩ := hO
  obtain ⟨⟨s1, s2, s3, s4, s5⟩, s6⟩ := hE
  obtain ⟨⟨b1, b2, b3, b4, b5, b6, b7, b8⟩, b9, b10, b11, b12, b13⟩ := hB
  obtain ⟨⟨l1, l2⟩, l3, l4, l5⟩ := hL
  have b11' := b11.2 0 (by omega)
  cases hb : cB c 0 with
  | false =>
    rw [hb] at o5
    simp (disch := omega) only [f_X7_mayStart, gI, gL, gF, gR, pI, pZ_0, pZ_1, pZ_z, pL, pF, pR, aI, aL, aF, aR, wI, wL, wF, wR, aN, okZ_0, okZ_1, okZ_z, nar13, sI_mI, sI_mL, sI_mF, sI_mR, sI_mK, sI_mN, sI_mC, sI_mS, sL_mI, sL_mL, sL_mF, sL_mR, sL_mK, sL_mN, sL_mC, sL_mS, sF_mI, sF_mL, sF_mF, sF_mR, sF_mK, sF_mN, sF_mC, sF_mS, sR_mI, sR_mL, sR_mF, sR_mR, sR_mK, sR_mN, sR_mC, sR_mS, Option.bind_some, Option.map_some, bindP, bindX, bindH, ↓reduceIte, and_self, true_and, and_true, ne_eq, not_false_eq_true, not_true_eq_false, reduceCtorEq, Nat.reduceEqDiff, Nat.reduceLeDiff, Nat.reduceLT, Bool.false_eq_true, decide_true, decide_false, up2_eq, up2_ne, up2_nj, up2_fn, cl2_eq, cl2_ne, cl2_fn, b1, o1, o5, zI_f, nW_lit, spMay, hb, Bool.false_and]
  | true =>
    rw [hb] at o5
    have t1 : ¬ nW 1 = nW 0 := by decide
    by_cases hlt : nW (cL c 1).1 < sc 10
    · have h2 : ¬ sc 10 ≤ nW (cL c 1).1 := Int32.not_le.mpr hlt
      simp (disch := omega) only [f_X7_mayStart, gI, gL, gF, gR, pI, pZ_0, pZ_1, pZ_z, pL, pF, pR, aI, aL, aF, aR, wI, wL, wF, wR, aN, okZ_0, okZ_1, okZ_z, nar13, sI_mI, sI_mL, sI_mF, sI_mR, sI_mK, sI_mN, sI_mC, sI_mS, sL_mI, sL_mL, sL_mF, sL_mR, sL_mK, sL_mN, sL_mC, sL_mS, sF_mI, sF_mL, sF_mF, sF_mR, sF_mK, sF_mN, sF_mC, sF_mS, sR_mI, sR_mL, sR_mF, sR_mR, sR_mK, sR_mN, sR_mC, sR_mS, Option.bind_some, Option.map_some, bindP, bindX, bindH, ↓reduceIte, and_self, true_and, and_true, ne_eq, not_false_eq_true, not_true_eq_false, reduceCtorEq, Nat.reduceEqDiff, Nat.reduceLeDiff, Nat.reduceLT, Bool.false_eq_true, decide_true, decide_false, up2_eq, up2_ne, up2_nj, up2_fn, cl2_eq, cl2_ne, cl2_fn, nW_add, nW_mul, nW_sub, nW_le, nW_lt, nW_inj, irem_nW, ix_nW, b1, b6, b11.1, b11', o1, o4, o5, s1, s4, l1, l4, zI_t, zI_f, nW_lit, t1, spMay, hb, Bool.true_and, decide_true, hlt, h2, Nat.add_zero]
    · have h2 : sc 10 ≤ nW (cL c 1).1 := Int32.not_lt.mp hlt
      simp (disch := omega) only [f_X7_mayStart, gI, gL, gF, gR, pI, pZ_0, pZ_1, pZ_z, pL, pF, pR, aI, aL, aF, aR, wI, wL, wF, wR, aN, okZ_0, okZ_1, okZ_z, nar13, sI_mI, sI_mL, sI_mF, sI_mR, sI_mK, sI_mN, sI_mC, sI_mS, sL_mI, sL_mL, sL_mF, sL_mR, sL_mK, sL_mN, sL_mC, sL_mS, sF_mI, sF_mL, sF_mF, sF_mR, sF_mK, sF_mN, sF_mC, sF_mS, sR_mI, sR_mL, sR_mF, sR_mR, sR_mK, sR_mN, sR_mC, sR_mS, Option.bind_some, Option.map_some, bindP, bindX, bindH, ↓reduceIte, and_self, true_and, and_true, ne_eq, not_false_eq_true, not_true_eq_false, reduceCtorEq, Nat.reduceEqDiff, Nat.reduceLeDiff, Nat.reduceLT, Bool.false_eq_true, decide_true, decide_false, up2_eq, up2_ne, up2_nj, up2_fn, cl2_eq, cl2_ne, cl2_fn, nW_add, nW_mul, nW_sub, nW_le, nW_lt, nW_inj, irem_nW, ix_nW, b1, b6, b11.1, b11', o1, o4, o5, s1, s4, l1, l4, zI_t, zI_f, nW_lit, t1, spMay, hb, Bool.true_and, decide_false, hlt, h2, Nat.add_zero]
