/-! TEXTS COMPARED, in the class -/
theorem lcmp0 (a b : Int64) : (lcmpE a b = nW 0) = (a = b) := propext (lg_cmp_eq a b)
def allB (p : Nat → Bool) : Nat → Nat → Bool
  | 0, _ => true
  | n + 1, i => p i && allB p n (i + 1)
def anyB (p : Nat → Bool) : Nat → Nat → Bool
  | 0, _ => false
  | n + 1, i => p i || anyB p n (i + 1)
theorem allB_iff {p : Nat → Bool} : ∀ {n i}, allB p n i = true ↔ ∀ j, i ≤ j → j < i + n → p j = true
  | 0, i => by simp only [allB, true_iff]; intro j h1 h2; omega
  | n + 1, i => by
    rw [allB, Bool.and_eq_true, allB_iff]
    refine ⟨fun h j h1 h2 => ?_, fun h => ⟨h i (Nat.le_refl _) (by omega), fun j h1 h2 => h j (by omega) (by omega)⟩⟩
    by_cases e : j = i
    · subst e; exact h.1
    · exact h.2 j (by omega) (by omega)
theorem anyB_iff {p : Nat → Bool} : ∀ {n i}, anyB p n i = true ↔ ∃ j, i ≤ j ∧ j < i + n ∧ p j = true
  | 0, i => by simp only [anyB, Bool.false_eq_true, false_iff]; rintro ⟨j, h1, h2, _⟩; omega
  | n + 1, i => by
    rw [anyB, Bool.or_eq_true, anyB_iff]
    refine ⟨fun h => ?_, fun ⟨j, h1, h2, h3⟩ => ?_⟩
    · rcases h with h | ⟨j, h1, h2, h3⟩
      · exact ⟨i, Nat.le_refl _, by omega, h⟩
      · exact ⟨j, by omega, by omega, h3⟩
    · by_cases e : j = i
      · subst e; exact Or.inl h3
      · exact Or.inr ⟨j, by omega, by omega, h3⟩
def lvA (t : Txt) (i : Nat) : List Nat := if i < tFix t then t.getD i [] else [43]
def spFits (t : Txt) (n : Nat) : Bool := if isOpen t then decide (tFix t ≤ n) else decide (n = tFix t)
def cov1 (t t' : Txt) (i : Nat) : Bool := decide (lvA t i = [43]) || decide (lvA t i = lvA t' i)
def spCov (t t' : Txt) (n : Nat) : Bool := spFits t n && allB (cov1 t t') n 0
def spMatch (t t' : Txt) : Bool := spCov t t' t'.length
def meet1 (t t' : Txt) (i : Nat) : Bool := decide (lvA t i = lvA t' i) || (decide (lvA t i = [43]) || decide (lvA t' i = [43]))
def spMeetAt (t t' : Txt) (n : Nat) : Bool := spFits t n && (spFits t' n && allB (meet1 t t') n 0)
def spMeets (t t' : Txt) : Bool := anyB (spMeetAt t t') 4 1
def spCovers (t t' : Txt) : Bool := allB (fun n => !(spFits t' n) || spCov t t' n) 4 1
theorem tFix_le {t : Txt} (h : okTx t) : tFix t ≤ 4 := by
  have := h.1; unfold tFix; split <;> omega
theorem okL0_lvA {t : Txt} (h : okTx t) (i : Nat) : okL0 (lvA t i) := by
  unfold lvA; split
  · exact okTx_lev h i
  · exact Or.inr (Or.inr (Or.inl rfl))
theorem X10_sameAs_L2 {M : Mem} {x y : Nat} {t t' : Txt} (hx : TextR M x t) (hy : TextR M y t') : ∀ n i, i ≤ 4 → 4 - i < n → (∀ j, j < i → t.getD j [] = t'.getD j []) → f_X10_sameAs_L2 n x y (nW i) M = some (zI (decide (t = t')), M)
  | 0, i, _, hn, _ => absurd hn (by omega)
  | n + 1, i, hi, hn, hd => by
    have ih := X10_sameAs_L2 hx hy n (i + 1)
    have hox := hx.1
    have hoy := hy.1
    by_cases he : i = 4
    · subst he
      have e := tx_ext hox hoy hd
      subst e
      simp (disch := omega) only [f_X10_sameAs_L2, nW_lit, nW_le, Nat.le_refl, ↓reduceIte, decide_true, zI_t, okZ_1]
    · have n1 : ¬ 4 ≤ i := by omega
      have ec := c70_inj (okTx_lev hox i) (okTx_lev hoy i)
      obtain ⟨_, ⟨a2, _⟩, _, _, _, sa, la, ⟨a6, a7⟩, _, _, a9, _, a11⟩ := hx
      obtain ⟨_, ⟨b2, _⟩, _, _, _, sb, lb, ⟨b6, b7⟩, _, _, b9, _, b11⟩ := hy
      have a12 := a11 i (by omega)
      have b12 := b11 i (by omega)
      by_cases hq : t.getD i [] = t'.getD i []
      · have i2 := ih (by omega) (by omega) (fun j hj => by
          by_cases e : j = i
          · subst e; exact hq
          · exact hd j (by omega))
        simp (disch := omega) only [f_X10_sameAs_L2, gI, gL, gF, gR, pI, pZ_0, pZ_1, pZ_z, pL, pF, pR, aI, aL, aF, aR, wI, wL, wF, wR, aN, okZ_0, okZ_1, okZ_z, nar13, sI_mI, sI_mL, sI_mF, sI_mR, sI_mK, sI_mN, sI_mC, sI_mS, sL_mI, sL_mL, sL_mF, sL_mR, sL_mK, sL_mN, sL_mC, sL_mS, sF_mI, sF_mL, sF_mF, sF_mR, sF_mK, sF_mN, sF_mC, sF_mS, sR_mI, sR_mL, sR_mF, sR_mR, sR_mK, sR_mN, sR_mC, sR_mS, Option.bind_some, Option.map_some, bindP, bindX, bindH, ↓reduceIte, and_self, true_and, and_true, ne_eq, not_false_eq_true, not_true_eq_false, reduceCtorEq, Nat.reduceEqDiff, Nat.reduceLeDiff, Nat.reduceLT, Bool.false_eq_true, decide_true, decide_false, up2_eq, up2_ne, up2_nj, up2_fn, cl2_eq, cl2_ne, cl2_fn, nW_add, nW_mul, nW_sub, nW_le, nW_lt, nW_inj, irem_nW, ix_nW, nW_lit, n1, a2, a7, a9, b2, b7, b9, a12, b12, lcmp0, ec, hq, i2]
      · have hne : ¬ t = t' := fun e => hq (e ▸ rfl)
        simp (disch := omega) only [f_X10_sameAs_L2, gI, gL, gF, gR, pI, pZ_0, pZ_1, pZ_z, pL, pF, pR, aI, aL, aF, aR, wI, wL, wF, wR, aN, okZ_0, okZ_1, okZ_z, nar13, sI_mI, sI_mL, sI_mF, sI_mR, sI_mK, sI_mN, sI_mC, sI_mS, sL_mI, sL_mL, sL_mF, sL_mR, sL_mK, sL_mN, sL_mC, sL_mS, sF_mI, sF_mL, sF_mF, sF_mR, sF_mK, sF_mN, sF_mC, sF_mS, sR_mI, sR_mL, sR_mF, sR_mR, sR_mK, sR_mN, sR_mC, sR_mS, Option.bind_some, Option.map_some, bindP, bindX, bindH, ↓reduceIte, and_self, true_and, and_true, ne_eq, not_false_eq_true, not_true_eq_false, reduceCtorEq, Nat.reduceEqDiff, Nat.reduceLeDiff, Nat.reduceLT, Bool.false_eq_true, decide_true, decide_false, up2_eq, up2_ne, up2_nj, up2_fn, cl2_eq, cl2_ne, cl2_fn, nW_add, nW_mul, nW_sub, nW_le, nW_lt, nW_inj, irem_nW, ix_nW, nW_lit, n1, a2, a7, a9, b2, b7, b9, a12, b12, lcmp0, ec, hq, hne, decide_false, zI_f]
theorem X10_sameAs {M : Mem} {x y : Nat} {t t' : Txt} (hx : TextR M x t) (hy : TextR M y t') : f_X10_sameAs x y M = some (zI (decide (t = t')), M) := by
  have := X10_sameAs_L2 hx hy FU 0 (by omega) (by simp only [FU]; omega) (fun j hj => by omega)
  simp only [f_X10_sameAs, hx.2.1.1, ↓reduceIte, nW_lit, this]
theorem zI_if {α : Type} (b : Bool) (x y : α) : (if zI b = nW 0 then x else y) = if b then y else x := by cases b <;> simp [zI_eq0]
theorem X10_fits {M : Mem} {x : Nat} {t : Txt} (hx : TextR M x t) {n : Nat} (hn : n < 1000) : f_X10_fits x (nW n) M = some (zI (spFits t n), M) := by
  have hf := tFix_le hx.1
  obtain ⟨_, ⟨a2, _⟩, _, a4, a5, _⟩ := hx
  cases ho : isOpen t with
  | true =>
    have n0 : ¬ nW 1 = nW 0 := by decide
    by_cases hq : tFix t ≤ n
    · have n1 : ¬ n < tFix t := by omega
      simp (disch := omega) only [f_X10_fits, gI, gL, gF, gR, pI, pZ_0, pZ_1, pZ_z, pL, pF, pR, aI, aL, aF, aR, wI, wL, wF, wR, aN, okZ_0, okZ_1, okZ_z, nar13, sI_mI, sI_mL, sI_mF, sI_mR, sI_mK, sI_mN, sI_mC, sI_mS, sL_mI, sL_mL, sL_mF, sL_mR, sL_mK, sL_mN, sL_mC, sL_mS, sF_mI, sF_mL, sF_mF, sF_mR, sF_mK, sF_mN, sF_mC, sF_mS, sR_mI, sR_mL, sR_mF, sR_mR, sR_mK, sR_mN, sR_mC, sR_mS, Option.bind_some, Option.map_some, bindP, bindX, bindH, ↓reduceIte, and_self, true_and, and_true, ne_eq, not_false_eq_true, not_true_eq_false, reduceCtorEq, Nat.reduceEqDiff, Nat.reduceLeDiff, Nat.reduceLT, Bool.false_eq_true, decide_true, decide_false, up2_eq, up2_ne, up2_nj, up2_fn, cl2_eq, cl2_ne, cl2_fn, nW_add, nW_mul, nW_sub, nW_le, nW_lt, nW_inj, irem_nW, ix_nW, nW_lit, a2, a4, a5, ho, zI_t, n0, spFits, n1, hq, decide_true]
    · have n1 : n < tFix t := by omega
      simp (disch := omega) only [f_X10_fits, gI, gL, gF, gR, pI, pZ_0, pZ_1, pZ_z, pL, pF, pR, aI, aL, aF, aR, wI, wL, wF, wR, aN, okZ_0, okZ_1, okZ_z, nar13, sI_mI, sI_mL, sI_mF, sI_mR, sI_mK, sI_mN, sI_mC, sI_mS, sL_mI, sL_mL, sL_mF, sL_mR, sL_mK, sL_mN, sL_mC, sL_mS, sF_mI, sF_mL, sF_mF, sF_mR, sF_mK, sF_mN, sF_mC, sF_mS, sR_mI, sR_mL, sR_mF, sR_mR, sR_mK, sR_mN, sR_mC, sR_mS, Option.bind_some, Option.map_some, bindP, bindX, bindH, ↓reduceIte, and_self, true_and, and_true, ne_eq, not_false_eq_true, not_true_eq_false, reduceCtorEq, Nat.reduceEqDiff, Nat.reduceLeDiff, Nat.reduceLT, Bool.false_eq_true, decide_true, decide_false, up2_eq, up2_ne, up2_nj, up2_fn, cl2_eq, cl2_ne, cl2_fn, nW_add, nW_mul, nW_sub, nW_le, nW_lt, nW_inj, irem_nW, ix_nW, nW_lit, a2, a4, a5, ho, zI_t, zI_f, n0, spFits, n1, hq, decide_false]
  | false =>
    by_cases hq : n = tFix t
    · simp (disch := omega) only [f_X10_fits, gI, gL, gF, gR, pI, pZ_0, pZ_1, pZ_z, pL, pF, pR, aI, aL, aF, aR, wI, wL, wF, wR, aN, okZ_0, okZ_1, okZ_z, nar13, sI_mI, sI_mL, sI_mF, sI_mR, sI_mK, sI_mN, sI_mC, sI_mS, sL_mI, sL_mL, sL_mF, sL_mR, sL_mK, sL_mN, sL_mC, sL_mS, sF_mI, sF_mL, sF_mF, sF_mR, sF_mK, sF_mN, sF_mC, sF_mS, sR_mI, sR_mL, sR_mF, sR_mR, sR_mK, sR_mN, sR_mC, sR_mS, Option.bind_some, Option.map_some, bindP, bindX, bindH, ↓reduceIte, and_self, true_and, and_true, ne_eq, not_false_eq_true, not_true_eq_false, reduceCtorEq, Nat.reduceEqDiff, Nat.reduceLeDiff, Nat.reduceLT, Bool.false_eq_true, decide_true, decide_false, up2_eq, up2_ne, up2_nj, up2_fn, cl2_eq, cl2_ne, cl2_fn, nW_add, nW_mul, nW_sub, nW_le, nW_lt, nW_inj, irem_nW, ix_nW, nW_lit, a2, a4, a5, ho, zI_f, zI_t, spFits, hq, decide_true]
    · simp (disch := omega) only [f_X10_fits, gI, gL, gF, gR, pI, pZ_0, pZ_1, pZ_z, pL, pF, pR, aI, aL, aF, aR, wI, wL, wF, wR, aN, okZ_0, okZ_1, okZ_z, nar13, sI_mI, sI_mL, sI_mF, sI_mR, sI_mK, sI_mN, sI_mC, sI_mS, sL_mI, sL_mL, sL_mF, sL_mR, sL_mK, sL_mN, sL_mC, sL_mS, sF_mI, sF_mL, sF_mF, sF_mR, sF_mK, sF_mN, sF_mC, sF_mS, sR_mI, sR_mL, sR_mF, sR_mR, sR_mK, sR_mN, sR_mC, sR_mS, Option.bind_some, Option.map_some, bindP, bindX, bindH, ↓reduceIte, and_self, true_and, and_true, ne_eq, not_false_eq_true, not_true_eq_false, reduceCtorEq, Nat.reduceEqDiff, Nat.reduceLeDiff, Nat.reduceLT, Bool.false_eq_true, decide_true, decide_false, up2_eq, up2_ne, up2_nj, up2_fn, cl2_eq, cl2_ne, cl2_fn, nW_add, nW_mul, nW_sub, nW_le, nW_lt, nW_inj, irem_nW, ix_nW, nW_lit, a2, a4, a5, ho, zI_f, spFits, hq, decide_false]
theorem lit43 : (43 : Int64) = nL (c7 [43]) := by decide
theorem X10_levelAt {M : Mem} {x : Nat} {t : Txt} (hx : TextR M x t) {i : Nat} (hi : i < 1000) : f_X10_levelAt x (nW i) M = some (nL (c7 (lvA t i)), M) := by
  have hf := tFix_le hx.1
  obtain ⟨_, ⟨a2, _⟩, _, a4, a5, sa, la, ⟨a6, a7⟩, _, _, a9, _, a11⟩ := hx
  have n0 : ¬ i < 0 := by omega
  by_cases hq : i < tFix t
  · have n1 : ¬ tFix t ≤ i := by omega
    have n2 : ¬ 4 ≤ i := by omega
    have a12 := a11 i (by omega)
    simp (disch := omega) only [f_X10_levelAt, gI, gL, gF, gR, pI, pZ_0, pZ_1, pZ_z, pL, pF, pR, aI, aL, aF, aR, wI, wL, wF, wR, aN, okZ_0, okZ_1, okZ_z, nar13, sI_mI, sI_mL, sI_mF, sI_mR, sI_mK, sI_mN, sI_mC, sI_mS, sL_mI, sL_mL, sL_mF, sL_mR, sL_mK, sL_mN, sL_mC, sL_mS, sF_mI, sF_mL, sF_mF, sF_mR, sF_mK, sF_mN, sF_mC, sF_mS, sR_mI, sR_mL, sR_mF, sR_mR, sR_mK, sR_mN, sR_mC, sR_mS, Option.bind_some, Option.map_some, bindP, bindX, bindH, ↓reduceIte, and_self, true_and, and_true, ne_eq, not_false_eq_true, not_true_eq_false, reduceCtorEq, Nat.reduceEqDiff, Nat.reduceLeDiff, Nat.reduceLT, Bool.false_eq_true, decide_true, decide_false, up2_eq, up2_ne, up2_nj, up2_fn, cl2_eq, cl2_ne, cl2_fn, nW_add, nW_mul, nW_sub, nW_le, nW_lt, nW_inj, irem_nW, ix_nW, nW_lit, a2, a5, n0, n1, n2, a7, a9, a12, lvA, hq]
  · have n1 : tFix t ≤ i := by omega
    simp (disch := omega) only [f_X10_levelAt, gI, gL, gF, gR, pI, pZ_0, pZ_1, pZ_z, pL, pF, pR, aI, aL, aF, aR, wI, wL, wF, wR, aN, okZ_0, okZ_1, okZ_z, nar13, sI_mI, sI_mL, sI_mF, sI_mR, sI_mK, sI_mN, sI_mC, sI_mS, sL_mI, sL_mL, sL_mF, sL_mR, sL_mK, sL_mN, sL_mC, sL_mS, sF_mI, sF_mL, sF_mF, sF_mR, sF_mK, sF_mN, sF_mC, sF_mS, sR_mI, sR_mL, sR_mF, sR_mR, sR_mK, sR_mN, sR_mC, sR_mS, Option.bind_some, Option.map_some, bindP, bindX, bindH, ↓reduceIte, and_self, true_and, and_true, ne_eq, not_false_eq_true, not_true_eq_false, reduceCtorEq, Nat.reduceEqDiff, Nat.reduceLeDiff, Nat.reduceLT, Bool.false_eq_true, decide_true, decide_false, up2_eq, up2_ne, up2_nj, up2_fn, cl2_eq, cl2_ne, cl2_fn, nW_add, nW_mul, nW_sub, nW_le, nW_lt, nW_inj, irem_nW, ix_nW, nW_lit, a2, a5, n0, n1, lvA, hq, lit43]
theorem X10_coversWith_L12 {M : Mem} {x y : Nat} {t t' : Txt} (hx : TextR M x t) (hy : TextR M y t') {c : Nat} (hc : c < 1000) : ∀ n i, i ≤ c → c - i < n → f_X10_coversWith_L12 n x y (nW c) (nW i) M = some (zI (allB (cov1 t t') (c - i) i), M)
  | 0, i, _, hn => absurd hn (by omega)
  | n + 1, i, hi, hn => by
    have ih := X10_coversWith_L12 hx hy hc n (i + 1)
    by_cases he : i = c
    · subst he
      simp (disch := omega) only [f_X10_coversWith_L12, nW_lit, nW_le, Nat.le_refl, ↓reduceIte, Nat.sub_self, allB, zI_t, okZ_1]
    · have n1 : ¬ c ≤ i := by omega
      have e1 := c7_eqp (okL0_lvA hx.1 i)
      have e2 := c70_inj (okL0_lvA hx.1 i) (okL0_lvA hy.1 i)
      have l1 := X10_levelAt hx (show i < 1000 by omega)
      have l2 := X10_levelAt hy (show i < 1000 by omega)
      have i2 := ih (by omega) (by omega)
      rw [show c - i = (c - (i + 1)) + 1 by omega, allB]
      by_cases h1 : lvA t i = [43]
      · simp (disch := omega) only [f_X10_coversWith_L12, Option.bind_some, Option.map_some, bindP, bindX, bindH, ↓reduceIte, and_self, true_and, and_true, ne_eq, not_false_eq_true, not_true_eq_false, reduceCtorEq, Nat.reduceEqDiff, Nat.reduceLeDiff, Nat.reduceLT, Bool.false_eq_true, decide_true, decide_false, nW_add, nW_mul, nW_sub, nW_le, nW_lt, nW_inj, irem_nW, ix_nW, nW_lit, n1, l1, lcmp0, e1.trans (eq_true h1), eq_true h1, i2, cov1, decide_true, Bool.true_or, Bool.true_and]
      · by_cases h2 : lvA t i = lvA t' i
        · simp (disch := omega) only [f_X10_coversWith_L12, Option.bind_some, Option.map_some, bindP, bindX, bindH, ↓reduceIte, and_self, true_and, and_true, ne_eq, not_false_eq_true, not_true_eq_false, reduceCtorEq, Nat.reduceEqDiff, Nat.reduceLeDiff, Nat.reduceLT, Bool.false_eq_true, decide_true, decide_false, nW_add, nW_mul, nW_sub, nW_le, nW_lt, nW_inj, irem_nW, ix_nW, nW_lit, n1, l1, l2, lcmp0, e1.trans (eq_false h1), eq_false h1, e2.trans (eq_true h2), eq_true h2, i2, cov1, decide_true, decide_false, Bool.or_true, Bool.true_and]
        · simp (disch := omega) only [f_X10_coversWith_L12, Option.bind_some, Option.map_some, bindP, bindX, bindH, ↓reduceIte, and_self, true_and, and_true, ne_eq, not_false_eq_true, not_true_eq_false, reduceCtorEq, Nat.reduceEqDiff, Nat.reduceLeDiff, Nat.reduceLT, Bool.false_eq_true, decide_true, decide_false, nW_add, nW_mul, nW_sub, nW_le, nW_lt, nW_inj, irem_nW, ix_nW, nW_lit, n1, l1, l2, lcmp0, e1, e2, h1, h2, cov1, Bool.or_self, Bool.false_and, zI_f, okZ_0]
theorem X10_coversWith {M : Mem} {x y : Nat} {t t' : Txt} (hx : TextR M x t) (hy : TextR M y t') {c : Nat} (hc : c < 1000) : f_X10_coversWith x y (nW c) M = some (zI (spCov t t' c), M) := by
  have := X10_coversWith_L12 hx hy hc FU 0 (by omega) (by simp only [FU]; omega)
  rw [Nat.sub_zero] at this
  simp only [f_X10_coversWith, hx.2.1.1, ↓reduceIte, nW_lit, X10_fits hx hc, bindP, zI_if, this, spCov]
  cases spFits t c <;> simp [zI_f, okZ_0]
theorem X10_matches {M : Mem} {x y : Nat} {t t' : Txt} (hx : TextR M x t) (hy : TextR M y t') : f_X10_matches x y M = some (zI (spMatch t t'), M) := by
  have := X10_coversWith hx hy (show t'.length < 1000 by have := hy.1.1; omega)
  simp only [f_X10_matches, hx.2.1.1, ↓reduceIte, gI, hy.2.1.1, hy.2.2.1, Option.bind_some, this, bindP, okZ_z, spMatch]
/-! the order of texts -/
theorem ltS_at : ∀ {i : Nat} {a b : List Nat}, i ≤ a.length → i ≤ b.length → (∀ j, j < i → a.getD j 0 = b.getD j 0) → ltS a b = ltS (a.drop i) (b.drop i)
  | 0, a, b, _, _, _ => by simp
  | i + 1, [], b, h, _, _ => by simp at h
  | i + 1, x :: a, [], _, h, _ => by simp at h
  | i + 1, x :: a, y :: b, h1, h2, h3 => by
    have e : x = y := by have := h3 0 (by omega); simpa using this
    subst e
    rw [ltS, if_pos rfl, List.drop_succ_cons, List.drop_succ_cons]
    exact ltS_at (by simpa using h1) (by simpa using h2) (fun j hj => by have := h3 (j + 1) (by omega); simpa using this)
theorem nW_sub_int {a b : Nat} (ha : a < 1000000) (hb : b < 1000000) : (nW a - nW b).toInt = (a : Int) - b := by
  rw [Int32.toInt_sub, nW_int (by omega), nW_int (by omega), Int.bmod_def]; split <;> omega
theorem nW_ge_sub {a b : Nat} (ha : a < 1000000) (hb : b < 1000000) : (nW 0 ≤ nW a - nW b) = (b ≤ a) := by
  rw [Int32.le_iff_toInt_le, nW_int (by omega), nW_sub_int ha hb]
  exact propext ⟨fun h => by omega, fun h => by omega⟩
theorem txS_ok : ∀ {t : Txt}, (∀ l ∈ t, okLev l) → (∀ c ∈ txS t, c < 128) ∧ (txS t).length ≤ 7 * t.length
  | [], _ => by simp [txS]
  | [l], h => by
    have := okLev_rng (h l List.mem_cons_self)
    refine ⟨fun c hc => (this.1 c hc).2, ?_⟩
    have h2 : (txS [l]).length = l.length := rfl
    rw [h2, List.length_singleton]; omega
  | l :: m :: r, h => by
    have := okLev_rng (h l List.mem_cons_self)
    have i := txS_ok (t := m :: r) (fun x hx => h x (List.mem_cons_of_mem _ hx))
    rw [txS]
    · refine ⟨fun c hc => ?_, ?_⟩
      · rcases List.mem_append.mp hc with hc | hc
        · exact (this.1 c hc).2
        · rcases List.mem_cons.mp hc with rfl | hc
          · omega
          · exact i.1 c hc
      · simp only [List.length_append, List.length_cons] at i ⊢; omega
    · simp
theorem X10_order_L16 {M : Mem} {x y : Nat} {t t' : Txt} (hx : TextR M x t) (hy : TextR M y t') {c : Nat} (hc : c ≤ (txS t).length ∧ c ≤ (txS t').length ∧ (c = (txS t).length ∨ c = (txS t').length)) : ∀ n i, i ≤ c → c - i < n → (∀ j, j < i → (txS t).getD j 0 = (txS t').getD j 0) → ∃ v, f_X10_order_L16 n x y (nW c) (nW i) M = some (v, M) ∧ (nW 0 ≤ v) = (ltS (txS t) (txS t') = false)
  | 0, i, _, hn, _ => absurd hn (by omega)
  | n + 1, i, hi, hn, hd => by
    have ih := X10_order_L16 hx hy hc n (i + 1)
    obtain ⟨x1, x2⟩ := txS_ok hx.1.2.1
    obtain ⟨y1, y2⟩ := txS_ok hy.1.2.1
    have x3 := hx.1.1
    have y3 := hy.1.1
    have hlt := ltS_at (show i ≤ (txS t).length by omega) (show i ≤ (txS t').length by omega) hd
    obtain ⟨_, ⟨a2, _⟩, _, _, _, sa, la, ⟨a6, a7⟩, _, a8, a9, a10, _⟩ := hx
    obtain ⟨_, ⟨b2, _⟩, _, _, _, sb, lb, ⟨b6, b7⟩, _, b8, b9, b10, _⟩ := hy
    have ha : Int32.ofNat (txS t).length = nW (txS t).length := rfl
    have hb : Int32.ofNat (txS t').length = nW (txS t').length := rfl
    by_cases he : i = c
    · subst he
      refine ⟨nW (txS t).length - nW (txS t').length, by simp (disch := omega) only [f_X10_order_L16, gI, gL, gF, gR, pI, pZ_0, pZ_1, pZ_z, pL, pF, pR, aI, aL, aF, aR, wI, wL, wF, wR, aN, okZ_0, okZ_1, okZ_z, nar13, Option.bind_some, Option.map_some, bindP, bindX, bindH, ↓reduceIte, and_self, true_and, and_true, ne_eq, not_false_eq_true, not_true_eq_false, reduceCtorEq, Nat.reduceEqDiff, Nat.reduceLeDiff, Nat.reduceLT, Bool.false_eq_true, decide_true, decide_false, nW_lit, nW_le, a2, a6, a8, b2, b6, b8, ha, hb, Nat.le_refl], ?_⟩
      rw [nW_ge_sub (by omega) (by omega), hlt]
      by_cases hq : (txS t').length ≤ (txS t).length
      · have : (txS t').drop i = [] := List.drop_eq_nil_of_le (by omega)
        rw [this]; simp [ltS, hq]
      · have e1 : (txS t).drop i = [] := List.drop_eq_nil_of_le (by omega)
        have e2 : (txS t').drop i ≠ [] := by rw [Ne, List.drop_eq_nil_iff]; omega
        rw [e1]
        cases h : (txS t').drop i with
        | nil => exact absurd h e2
        | cons p q => simp [ltS, hq]
    · have n1 : ¬ c ≤ i := by omega
      have hia : i < (txS t).length := by omega
      have hib : i < (txS t').length := by omega
      have va : (txS t).getD i 0 = (txS t)[i] := gd_in _ _ hia
      have vb : (txS t').getD i 0 = (txS t')[i] := gd_in _ _ hib
      have ra := x1 _ (List.getElem_mem hia)
      have rb := y1 _ (List.getElem_mem hib)
      have a11 := a10 i hia
      have b11 := b10 i hib
      rw [va] at a11
      rw [vb] at b11
      by_cases hq : (txS t)[i] = (txS t')[i]
      · obtain ⟨v, e, hv⟩ := ih (by omega) (by omega) (fun j hj => by
          by_cases e : j = i
          · subst e; rw [va, vb, hq]
          · exact hd j (by omega))
        refine ⟨v, ?_, hv⟩
        simp (disch := omega) only [f_X10_order_L16, gI, gL, gF, gR, pI, pZ_0, pZ_1, pZ_z, pL, pF, pR, aI, aL, aF, aR, wI, wL, wF, wR, aN, okZ_0, okZ_1, okZ_z, nar13, Option.bind_some, Option.map_some, bindP, bindX, bindH, ↓reduceIte, and_self, true_and, and_true, ne_eq, not_false_eq_true, not_true_eq_false, reduceCtorEq, Nat.reduceEqDiff, Nat.reduceLeDiff, Nat.reduceLT, Bool.false_eq_true, decide_true, decide_false, nW_lit, nW_le, nW_inj, nW_add, ix_nW, n1, a2, a6, a8, b2, b6, b8, a11, b11, hq, e]
      · refine ⟨nW (txS t)[i] - nW (txS t')[i], ?_, ?_⟩
        · simp (disch := omega) only [f_X10_order_L16, gI, gL, gF, gR, pI, pZ_0, pZ_1, pZ_z, pL, pF, pR, aI, aL, aF, aR, wI, wL, wF, wR, aN, okZ_0, okZ_1, okZ_z, nar13, Option.bind_some, Option.map_some, bindP, bindX, bindH, ↓reduceIte, and_self, true_and, and_true, ne_eq, not_false_eq_true, not_true_eq_false, reduceCtorEq, Nat.reduceEqDiff, Nat.reduceLeDiff, Nat.reduceLT, Bool.false_eq_true, decide_true, decide_false, nW_lit, nW_le, nW_inj, nW_add, ix_nW, n1, a2, a6, a8, b2, b6, b8, a11, b11, hq]
        · rw [nW_ge_sub (by omega) (by omega), hlt, List.drop_eq_getElem_cons hia, List.drop_eq_getElem_cons hib, ltS, if_neg hq, decide_eq_false_iff_not, Nat.not_lt]
theorem X10_order {M : Mem} {x y : Nat} {t t' : Txt} (hx : TextR M x t) (hy : TextR M y t') : ∃ v, f_X10_order x y M = some (v, M) ∧ (nW 0 ≤ v) = (ltS (txS t) (txS t') = false) := by
  obtain ⟨x1, x2⟩ := txS_ok hx.1.2.1
  obtain ⟨y1, y2⟩ := txS_ok hy.1.2.1
  have x3 := hx.1.1
  have y3 := hy.1.1
  have hm : iminE (nW (txS t).length) (nW (txS t').length) = nW (min (txS t).length (txS t').length) := by
    rw [iminE]
    by_cases h : (txS t').length < (txS t).length
    · rw [if_pos ((nW_lt (by omega) (by omega)).mpr h), Nat.min_eq_right (by omega)]
    · rw [if_neg (fun k => h ((nW_lt (by omega) (by omega)).mp k)), Nat.min_eq_left (by omega)]
  obtain ⟨v, e, hv⟩ := X10_order_L16 hx hy (c := min (txS t).length (txS t').length) (by omega) FU 0 (by omega) (by simp only [FU]; omega) (fun j hj => by omega)
  refine ⟨v, ?_, hv⟩
  obtain ⟨_, ⟨a2, _⟩, _, _, _, sa, la, ⟨a6, a7⟩, _, a8, _⟩ := hx
  obtain ⟨_, ⟨b2, _⟩, _, _, _, sb, lb, ⟨b6, b7⟩, _, b8, _⟩ := hy
  have ha : Int32.ofNat (txS t).length = nW (txS t).length := rfl
  have hb : Int32.ofNat (txS t').length = nW (txS t').length := rfl
  simp only [f_X10_order, gI, gL, gF, gR, pI, pZ_0, pZ_1, pZ_z, pL, pF, pR, aI, aL, aF, aR, wI, wL, wF, wR, aN, okZ_0, okZ_1, okZ_z, nar13, Option.bind_some, Option.map_some, bindP, bindX, bindH, ↓reduceIte, and_self, true_and, and_true, ne_eq, not_false_eq_true, not_true_eq_false, reduceCtorEq, Nat.reduceEqDiff, Nat.reduceLeDiff, Nat.reduceLT, Bool.false_eq_true, decide_true, decide_false, nW_lit, a2, a6, a8, b2, b6, b8, ha, hb, hm, e]
