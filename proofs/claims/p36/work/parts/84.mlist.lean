/-! MESSAGE LISTS: rows that are used again, in whatever order they stand -/
def Ar (M : Mem) (a k n kc lo hi : Nat) (p : Nat → Nat) : Prop := mK M a = (k, n) ∧ (∀ j, j < n → mR M a j = some (p j) ∧ (mK M (p j)).1 = kc ∧ lo ≤ p j ∧ p j < hi) ∧ ∀ i j, i < n → j < n → p i = p j → i = j
theorem Ar.gr {P : Nat → Prop} {M M' : Mem} (g : Gr P M M') {a k n kc lo hi : Nat} {p : Nat → Nat} (hk : k ≠ 99) (hc : kc ≠ 99) (hp : ¬ P a) (h : Ar M a k n kc lo hi p) : Ar M' a k n kc lo hi p := by
  obtain ⟨h1, h2, h3⟩ := h
  have k1 : (mK M a).1 ≠ 99 := by rw [h1]; exact hk
  obtain ⟨a1, a2, a3, a4⟩ := g.2 a k1 (Or.inr hp)
  refine ⟨by rw [g.1 a k1]; exact h1, fun j hj => ?_, h3⟩
  obtain ⟨b1, b2, b3⟩ := h2 j hj
  exact ⟨by rw [a4]; exact b1, by rw [g.1 _ (by rw [b2]; exact hc)]; exact b2, b3⟩
def ffind (p : Nat → Bool) : Nat → Nat → Option Nat
  | 0, _ => none
  | n + 1, i => if p i then some i else ffind p n (i + 1)
def posI (o : Option Nat) : Int32 := match o with
  | none => -nW 1
  | some i => nW i
theorem ffind_some {p : Nat → Bool} : ∀ {n i k}, ffind p n i = some k → i ≤ k ∧ k < i + n ∧ p k = true ∧ ∀ j, i ≤ j → j < k → p j = false
  | 0, i, k, h => by cases h
  | n + 1, i, k, h => by
    rw [ffind] at h
    split at h
    · cases h; exact ⟨by omega, by omega, by assumption, fun j h1 h2 => by omega⟩
    · obtain ⟨h1, h2, h3, h4⟩ := ffind_some h
      refine ⟨by omega, by omega, h3, fun j h5 h6 => ?_⟩
      by_cases hj : j = i
      · subst hj; simpa using (by assumption : ¬ p j = true)
      · exact h4 j (by omega) h6
theorem ffind_none {p : Nat → Bool} : ∀ {n i}, ffind p n i = none → ∀ j, i ≤ j → j < i + n → p j = false
  | 0, i, _, j, h1, h2 => by omega
  | n + 1, i, h, j, h1, h2 => by
    rw [ffind] at h
    split at h
    · cases h
    · by_cases hj : j = i
      · subst hj; simpa using (by assumption : ¬ p j = true)
      · exact ffind_none h j (by omega) (by omega)
theorem ffind_is {p : Nat → Bool} {n i k : Nat} (h1 : i ≤ k) (h2 : k < i + n) (h3 : p k = true) (h4 : ∀ j, i ≤ j → j < k → p j = false) : ffind p n i = some k := by
  cases h : ffind p n i with
  | none => exact absurd (ffind_none h k h1 h2) (by rw [h3]; decide)
  | some m =>
    obtain ⟨a1, a2, a3, a4⟩ := ffind_some h
    by_cases hm : m < k
    · exact absurd (h4 m a1 hm) (by rw [a3]; decide)
    · by_cases hk : k < m
      · exact absurd (a4 k h1 hk) (by rw [h3]; decide)
      · rw [show m = k by omega]
theorem ffind_no {p : Nat → Bool} {n i : Nat} (h : ∀ j, i ≤ j → j < i + n → p j = false) : ffind p n i = none := by
  cases e : ffind p n i with
  | none => rfl
  | some m =>
    obtain ⟨a1, a2, a3, a4⟩ := ffind_some e
    exact absurd (h m a1 a2) (by rw [a3]; decide)
def MLR (M : Mem) (l lim : Nat) (x : Ls Row) : Prop := ((mK M l).1 = 2 ∧ mR M l 0 = some (l + 1)) ∧ x.1 ≤ lim ∧ mI M l 1 = nW x.1 ∧ ∃ p, Ar M (l + 1) 19 lim 1 (l + 2) (l + 2 + lim) p ∧ ∀ j, j < x.1 → MsR M (p j) (x.2 j)
theorem MLR.gr {P : Nat → Prop} {M M' : Mem} (g : Gr P M M') {l lim : Nat} {x : Ls Row} (hp : ∀ a, l ≤ a → a < l + 2 + lim → ¬ P a) (h : MLR M l lim x) : MLR M' l lim x := by
  obtain ⟨⟨h1, h2⟩, h3, h4, p, h5, h6⟩ := h
  have k1 : (mK M l).1 ≠ 99 := by rw [h1]; decide
  obtain ⟨a1, a2, a3, a4⟩ := g.2 l k1 (Or.inr (hp l (by omega) (by omega)))
  refine ⟨⟨by rw [g.1 l k1]; exact h1, by rw [a4]; exact h2⟩, h3, by rw [a1]; exact h4, p, h5.gr g (by decide) (by decide) (hp _ (by omega) (by omega)), fun j hj => ?_⟩
  have := h5.2.1 j (by omega)
  exact (h6 j hj).gr g (hp _ (by omega) (by omega))
theorem MLR_row {M : Mem} {l lim : Nat} {x : Ls Row} (h : MLR M l lim x) {j : Nat} (hj : j < x.1) : ∃ a, mR M (l + 1) j = some a ∧ (l + 2 ≤ a ∧ a < l + 2 + lim) ∧ MsR M a (x.2 j) ∧ ∀ M' r, Gr (fun b => b = a) M M' → MsR M' a r → MLR M' l lim (lset x j r) := by
  obtain ⟨⟨h1, h2⟩, h3, h4, p, h5, h6⟩ := h
  have h7 := h5.2.1 j (by omega)
  refine ⟨p j, h7.1, h7.2.2, h6 j hj, fun M' r G hr => ?_⟩
  have k1 : (mK M l).1 ≠ 99 := by rw [h1]; decide
  obtain ⟨a1, a2, a3, a4⟩ := G.2 l k1 (Or.inr (by omega))
  refine ⟨⟨by rw [G.1 l k1]; exact h1, by rw [a4]; exact h2⟩, h3, by rw [a1]; exact h4, p, h5.gr G (by decide) (by decide) (by omega), fun i hi => ?_⟩
  by_cases he : i = j
  · subst he; simp only [lset, ↓reduceIte]; exact hr
  · simp only [lset, he, ↓reduceIte]
    exact (h6 i hi).gr G (fun hh => he (h5.2.2 i j (by simp only [lset] at hi; omega) (by omega) hh))
theorem X2_placeOf_L2 {M : Mem} {l lim : Nat} {x : Ls Row} (id : Int32) (h : MLR M l lim x) (hl : lim ≤ 1000) : ∀ n i, i ≤ x.1 → x.1 - i < n → f_X2_placeOf_L2 n l id (nW i) M = some (posI (ffind (fun j => decide ((x.2 j).2 4 = id)) (x.1 - i) i), M)
  | 0, i, _, hn => absurd hn (by omega)
  | n + 1, i, hi, hn => by
    have ih := X2_placeOf_L2 id h hl n (i + 1)
    obtain ⟨⟨h1, h2⟩, h3, h4, p, h5, h6⟩ := h
    by_cases he : i = x.1
    · subst he
      simp (disch := omega) only [f_X2_placeOf_L2, gI, gL, gF, gR, pI, pZ_0, pZ_1, pZ_z, pL, pF, pR, aI, aL, aF, aR, wI, wL, wF, wR, aN, okZ_0, okZ_1, okZ_z, nar13, sI_mI, sI_mL, sI_mF, sI_mR, sI_mK, sI_mN, sI_mC, sI_mS, sL_mI, sL_mL, sL_mF, sL_mR, sL_mK, sL_mN, sL_mC, sL_mS, sF_mI, sF_mL, sF_mF, sF_mR, sF_mK, sF_mN, sF_mC, sF_mS, sR_mI, sR_mL, sR_mF, sR_mR, sR_mK, sR_mN, sR_mC, sR_mS, Option.bind_some, Option.map_some, bindP, bindX, bindH, ↓reduceIte, and_self, true_and, and_true, ne_eq, not_false_eq_true, not_true_eq_false, reduceCtorEq, Nat.reduceEqDiff, Nat.reduceLeDiff, Nat.reduceLT, Bool.false_eq_true, decide_true, decide_false, up2_eq, up2_ne, up2_nj, up2_fn, cl2_eq, cl2_ne, cl2_fn, nW_add, nW_mul, nW_sub, nW_le, nW_lt, nW_inj, irem_nW, ix_nW, nW_lit, h1, h4, Nat.le_refl, Nat.sub_self, ffind, posI]
    · have n1 : ¬ x.1 ≤ i := by omega
      have n2 : ¬ lim ≤ i := by omega
      have h7 := (h5.2.1 i (by omega)).1
      have h8 := h6 i (by omega)
      have ha : Int32.ofNat lim = nW lim := rfl
      rw [show x.1 - i = (x.1 - (i + 1)) + 1 by omega]
      by_cases hid : (x.2 i).2 4 = id
      · simp (disch := omega) only [f_X2_placeOf_L2, gI, gL, gF, gR, pI, pZ_0, pZ_1, pZ_z, pL, pF, pR, aI, aL, aF, aR, wI, wL, wF, wR, aN, okZ_0, okZ_1, okZ_z, nar13, sI_mI, sI_mL, sI_mF, sI_mR, sI_mK, sI_mN, sI_mC, sI_mS, sL_mI, sL_mL, sL_mF, sL_mR, sL_mK, sL_mN, sL_mC, sL_mS, sF_mI, sF_mL, sF_mF, sF_mR, sF_mK, sF_mN, sF_mC, sF_mS, sR_mI, sR_mL, sR_mF, sR_mR, sR_mK, sR_mN, sR_mC, sR_mS, Option.bind_some, Option.map_some, bindP, bindX, bindH, ↓reduceIte, and_self, true_and, and_true, ne_eq, not_false_eq_true, not_true_eq_false, reduceCtorEq, Nat.reduceEqDiff, Nat.reduceLeDiff, Nat.reduceLT, Bool.false_eq_true, decide_true, decide_false, up2_eq, up2_ne, up2_nj, up2_fn, cl2_eq, cl2_ne, cl2_fn, nW_add, nW_mul, nW_sub, nW_le, nW_lt, nW_inj, irem_nW, ix_nW, nW_lit, h1, h2, h4, h5.1, n1, n2, h7, h8.1, h8.2.1, ha, hid, ffind, posI, decide_true, Nat.reduceLeDiff, and_self]
      · simp (disch := omega) only [f_X2_placeOf_L2, gI, gL, gF, gR, pI, pZ_0, pZ_1, pZ_z, pL, pF, pR, aI, aL, aF, aR, wI, wL, wF, wR, aN, okZ_0, okZ_1, okZ_z, nar13, sI_mI, sI_mL, sI_mF, sI_mR, sI_mK, sI_mN, sI_mC, sI_mS, sL_mI, sL_mL, sL_mF, sL_mR, sL_mK, sL_mN, sL_mC, sL_mS, sF_mI, sF_mL, sF_mF, sF_mR, sF_mK, sF_mN, sF_mC, sF_mS, sR_mI, sR_mL, sR_mF, sR_mR, sR_mK, sR_mN, sR_mC, sR_mS, Option.bind_some, Option.map_some, bindP, bindX, bindH, ↓reduceIte, and_self, true_and, and_true, ne_eq, not_false_eq_true, not_true_eq_false, reduceCtorEq, Nat.reduceEqDiff, Nat.reduceLeDiff, Nat.reduceLT, Bool.false_eq_true, decide_true, decide_false, up2_eq, up2_ne, up2_nj, up2_fn, cl2_eq, cl2_ne, cl2_fn, nW_add, nW_mul, nW_sub, nW_le, nW_lt, nW_inj, irem_nW, ix_nW, nW_lit, h1, h2, h4, h5.1, n1, n2, h7, h8.1, h8.2.1, ha, hid, ffind, decide_false, Nat.reduceLeDiff, and_self, ih (by omega) (by omega), Bool.false_eq_true]
theorem X2_placeOf {M : Mem} {l lim : Nat} {x : Ls Row} (id : Int32) (h : MLR M l lim x) (hl : lim ≤ 1000) : f_X2_placeOf l id M = some (posI (ffind (fun j => decide ((x.2 j).2 4 = id)) x.1 0), M) := by
  have := X2_placeOf_L2 id h hl FU 0 (by omega) (by have := h.2.1; simp only [FU]; omega)
  simp only [f_X2_placeOf, h.1.1, ↓reduceIte, nW_lit, this, Nat.sub_zero]
/-- the places after a row is taken out at i and put behind the last of c -/
def rotU (i c j : Nat) : Nat := if i ≤ j ∧ j + 1 < c then j + 1 else if j + 1 = c then i else j
theorem rotU_lt {i c j n : Nat} (h : i < c) (hc : c ≤ n) (hj : j < n) : rotU i c j < n := by
  unfold rotU; split
  · omega
  · split <;> omega
theorem rotU_inj {i c j k : Nat} (h : i < c) (e : rotU i c j = rotU i c k) : j = k := by
  unfold rotU at e
  split at e <;> split at e <;> first | omega | (split at e <;> first | omega | (split at e <;> omega))
theorem rotU_lo {i c j : Nat} (h : j < i) (hc : i < c) : rotU i c j = j := by
  unfold rotU; rw [if_neg (by omega), if_neg (by omega)]
theorem rotU_hi {i c j : Nat} (h : i ≤ j) (hc : j + 1 < c) : rotU i c j = j + 1 := by
  unfold rotU; rw [if_pos ⟨h, hc⟩]
theorem Ar_perm {M M' : Mem} {a k n kc lo hi : Nat} {p : Nat → Nat} (s : Nat → Nat) (h : Ar M a k n kc lo hi p) (hk : mK M' = mK M) (hs : ∀ j, j < n → s j < n) (hin : ∀ i j, i < n → j < n → s i = s j → i = j) (hr : ∀ j, j < n → mR M' a j = some (p (s j))) : Ar M' a k n kc lo hi (fun j => p (s j)) := by
  refine ⟨by rw [hk]; exact h.1, fun j hj => ⟨hr j hj, ?_⟩, fun i j h1 h2 e => hin i j h1 h2 (h.2.2 _ _ (hs i h1) (hs j h2) e)⟩
  rw [hk]; exact (h.2.1 _ (hs j hj)).2
theorem X2_rot {l lim c free : Nat} (hl : lim ≤ 1000) (hz : ¬ tz l ∧ ¬ tz (l + 1)) (hc : c ≤ lim) : ∀ n i M (p : Nat → Nat), i < c → c - i < n + 1 → ((mK M l).1 = 2 ∧ mR M l 0 = some (l + 1) ∧ mI M l 1 = nW c ∧ mK M (l + 1) = (19, lim) ∧ (mK M free).1 = 1) → (∀ j, j < lim → mR M (l + 1) j = some (p j) ∧ (mK M (p j)).1 = 1) → ∃ M', f_X2_removeAt_L34 n l free (nW i) M = some M' ∧ Fr (fun a => a = l ∨ a = l + 1) M M' ∧ mI M' l 1 = nW (c - 1) ∧ mR M' l 0 = some (l + 1) ∧ ∀ j, j < lim → mR M' (l + 1) j = some (if i ≤ j ∧ j + 1 < c then p (j + 1) else if j + 1 = c then free else p j)
  | 0, i, M, p, _, hn, _, _ => absurd hn (by omega)
  | n + 1, i, M, p, hi, hn, ⟨h1, h2, h3, h4, h5⟩, h6 => by
    by_cases he : c ≤ i + 1
    · have hic : i + 1 = c := by omega
      refine ⟨_, by simp (disch := omega) only [f_X2_removeAt_L34, gI, gL, gF, gR, pI, pZ_0, pZ_1, pZ_z, pL, pF, pR, aI, aL, aF, aR, wI, wL, wF, wR, aN, okZ_0, okZ_1, okZ_z, nar13, sI_mI, sI_mL, sI_mF, sI_mR, sI_mK, sI_mN, sI_mC, sI_mS, sL_mI, sL_mL, sL_mF, sL_mR, sL_mK, sL_mN, sL_mC, sL_mS, sF_mI, sF_mL, sF_mF, sF_mR, sF_mK, sF_mN, sF_mC, sF_mS, sR_mI, sR_mL, sR_mF, sR_mR, sR_mK, sR_mN, sR_mC, sR_mS, Option.bind_some, Option.map_some, bindP, bindX, bindH, ↓reduceIte, and_self, true_and, and_true, ne_eq, not_false_eq_true, not_true_eq_false, reduceCtorEq, Nat.reduceEqDiff, Nat.reduceLeDiff, Nat.reduceLT, Bool.false_eq_true, decide_true, decide_false, up2_eq, up2_ne, up2_nj, up2_fn, cl2_eq, cl2_ne, cl2_fn, nW_add, nW_mul, nW_sub, nW_le, nW_lt, nW_inj, irem_nW, ix_nW, nW_lit, h1, h2, h3, h4, h5, he, and_self]; rfl, ?_⟩
      refine ⟨(fr_R M _ _ (Or.inr rfl) hz.2).trans (fr_I _ 1 _ (Or.inl rfl) hz.1), by simp only [sI_mI, sI_mL, sI_mF, sI_mR, sI_mK, sI_mN, sI_mC, sI_mS, sL_mI, sL_mL, sL_mF, sL_mR, sL_mK, sL_mN, sL_mC, sL_mS, sF_mI, sF_mL, sF_mF, sF_mR, sF_mK, sF_mN, sF_mC, sF_mS, sR_mI, sR_mL, sR_mF, sR_mR, sR_mK, sR_mN, sR_mC, sR_mS, up2_eq], by simp (disch := omega) only [sI_mI, sI_mL, sI_mF, sI_mR, sI_mK, sI_mN, sI_mC, sI_mS, sL_mI, sL_mL, sL_mF, sL_mR, sL_mK, sL_mN, sL_mC, sL_mS, sF_mI, sF_mL, sF_mF, sF_mR, sF_mK, sF_mN, sF_mC, sF_mS, sR_mI, sR_mL, sR_mF, sR_mR, sR_mK, sR_mN, sR_mC, sR_mS, up2_ne, h2], fun j hj => ?_⟩
      have n1 : ¬ (i ≤ j ∧ j + 1 < c) := by omega
      rw [if_neg n1]
      by_cases hj2 : j + 1 = c
      · rw [if_pos hj2]
        have : j = c - 1 := by omega
        subst this
        simp only [sI_mI, sI_mL, sI_mF, sI_mR, sI_mK, sI_mN, sI_mC, sI_mS, sL_mI, sL_mL, sL_mF, sL_mR, sL_mK, sL_mN, sL_mC, sL_mS, sF_mI, sF_mL, sF_mF, sF_mR, sF_mK, sF_mN, sF_mC, sF_mS, sR_mI, sR_mL, sR_mF, sR_mR, sR_mK, sR_mN, sR_mC, sR_mS, up2_eq]
      · rw [if_neg hj2]
        simp (disch := omega) only [sI_mI, sI_mL, sI_mF, sI_mR, sI_mK, sI_mN, sI_mC, sI_mS, sL_mI, sL_mL, sL_mF, sL_mR, sL_mK, sL_mN, sL_mC, sL_mS, sF_mI, sF_mL, sF_mF, sF_mR, sF_mK, sF_mN, sF_mC, sF_mS, sR_mI, sR_mL, sR_mF, sR_mR, sR_mK, sR_mN, sR_mC, sR_mS, up2_nj, (h6 j hj).1]
    · have h7 := h6 (i + 1) (by omega)
      have F1 : Fr (fun a => a = l ∨ a = l + 1) M (sR M (up2 (mR M) (l + 1) i (some (p (i + 1))))) := fr_R M _ _ (Or.inr rfl) hz.2
      obtain ⟨M2, e2, F2, r1, r2, r3⟩ := X2_rot hl hz hc n (i + 1) (sR M (up2 (mR M) (l + 1) i (some (p (i + 1))))) (fset p i (p (i + 1))) (by omega) (by omega) ⟨h1, by simp (disch := omega) only [sI_mI, sI_mL, sI_mF, sI_mR, sI_mK, sI_mN, sI_mC, sI_mS, sL_mI, sL_mL, sL_mF, sL_mR, sL_mK, sL_mN, sL_mC, sL_mS, sF_mI, sF_mL, sF_mF, sF_mR, sF_mK, sF_mN, sF_mC, sF_mS, sR_mI, sR_mL, sR_mF, sR_mR, sR_mK, sR_mN, sR_mC, sR_mS, up2_ne, h2], h3, h4, h5⟩ (fun j hj => by
        by_cases hj2 : j = i
        · subst hj2; simp only [sI_mI, sI_mL, sI_mF, sI_mR, sI_mK, sI_mN, sI_mC, sI_mS, sL_mI, sL_mL, sL_mF, sL_mR, sL_mK, sL_mN, sL_mC, sL_mS, sF_mI, sF_mL, sF_mF, sF_mR, sF_mK, sF_mN, sF_mC, sF_mS, sR_mI, sR_mL, sR_mF, sR_mR, sR_mK, sR_mN, sR_mC, sR_mS, up2_eq, fset_eq, true_and]; exact h7.2
        · simp (disch := omega) only [sI_mI, sI_mL, sI_mF, sI_mR, sI_mK, sI_mN, sI_mC, sI_mS, sL_mI, sL_mL, sL_mF, sL_mR, sL_mK, sL_mN, sL_mC, sL_mS, sF_mI, sF_mL, sF_mF, sF_mR, sF_mK, sF_mN, sF_mC, sF_mS, sR_mI, sR_mL, sR_mF, sR_mR, sR_mK, sR_mN, sR_mC, sR_mS, up2_nj, fset_ne]; exact h6 j hj)
      refine ⟨M2, by simp (disch := omega) only [f_X2_removeAt_L34, gI, gL, gF, gR, pI, pZ_0, pZ_1, pZ_z, pL, pF, pR, aI, aL, aF, aR, wI, wL, wF, wR, aN, okZ_0, okZ_1, okZ_z, nar13, sI_mI, sI_mL, sI_mF, sI_mR, sI_mK, sI_mN, sI_mC, sI_mS, sL_mI, sL_mL, sL_mF, sL_mR, sL_mK, sL_mN, sL_mC, sL_mS, sF_mI, sF_mL, sF_mF, sF_mR, sF_mK, sF_mN, sF_mC, sF_mS, sR_mI, sR_mL, sR_mF, sR_mR, sR_mK, sR_mN, sR_mC, sR_mS, Option.bind_some, Option.map_some, bindP, bindX, bindH, ↓reduceIte, and_self, true_and, and_true, ne_eq, not_false_eq_true, not_true_eq_false, reduceCtorEq, Nat.reduceEqDiff, Nat.reduceLeDiff, Nat.reduceLT, Bool.false_eq_true, decide_true, decide_false, up2_eq, up2_ne, up2_nj, up2_fn, cl2_eq, cl2_ne, cl2_fn, nW_add, nW_mul, nW_sub, nW_le, nW_lt, nW_inj, irem_nW, ix_nW, nW_lit, h1, h2, h3, h4, h7.1, h7.2, he, and_self, e2], F1.trans F2, r1, r2, fun j hj => ?_⟩
      rw [r3 j hj]
      by_cases q1 : i + 1 ≤ j ∧ j + 1 < c
      · rw [if_pos q1, if_pos (by omega), fset_ne _ _ (by omega)]
      · rw [if_neg q1]
        by_cases q2 : j + 1 = c
        · rw [if_pos q2, if_neg (by omega), if_pos q2]
        · rw [if_neg q2]
          by_cases q3 : j = i
          · subst q3; rw [if_pos (by omega), fset_eq]
          · rw [if_neg (by omega), if_neg q2, fset_ne _ _ q3]
theorem X2_removeAt {M : Mem} {l lim : Nat} {x : Ls Row} {i : Nat} (h : MLR M l lim x) (hz : 5 ≤ l ∧ l + 2 + lim ≤ 908) (hi : i < x.1) : ∃ M', f_X2_removeAt l (nW i) M = some M' ∧ Fr (fun a => a = l ∨ a = l + 1) M M' ∧ MLR M' l lim (ldel x i) := by
  obtain ⟨⟨h1, h2⟩, h3, h4, p, h5, h6⟩ := h
  have hz1 : ¬ tz l ∧ ¬ tz (l + 1) := by simp only [tz]; omega
  have h7 := h5.2.1 i (by omega)
  obtain ⟨M', e, F, r1, r2, r3⟩ := X2_rot (free := p i) (by omega) hz1 h3 FU i M p hi (by simp only [FU]; omega) ⟨h1, h2, h4, h5.1, h7.2.1⟩ (fun j hj => ⟨(h5.2.1 j hj).1, (h5.2.1 j hj).2.1⟩)
  have hln : Int32.ofNat lim = nW lim := rfl
  have n0 : ¬ i < 0 := by omega
  have n1 : ¬ x.1 ≤ i := by omega
  refine ⟨M', by simp (disch := omega) only [f_X2_removeAt, gI, gL, gF, gR, pI, pZ_0, pZ_1, pZ_z, pL, pF, pR, aI, aL, aF, aR, wI, wL, wF, wR, aN, okZ_0, okZ_1, okZ_z, nar13, sI_mI, sI_mL, sI_mF, sI_mR, sI_mK, sI_mN, sI_mC, sI_mS, sL_mI, sL_mL, sL_mF, sL_mR, sL_mK, sL_mN, sL_mC, sL_mS, sF_mI, sF_mL, sF_mF, sF_mR, sF_mK, sF_mN, sF_mC, sF_mS, sR_mI, sR_mL, sR_mF, sR_mR, sR_mK, sR_mN, sR_mC, sR_mS, Option.bind_some, Option.map_some, bindP, bindX, bindH, ↓reduceIte, and_self, true_and, and_true, ne_eq, not_false_eq_true, not_true_eq_false, reduceCtorEq, Nat.reduceEqDiff, Nat.reduceLeDiff, Nat.reduceLT, Bool.false_eq_true, decide_true, decide_false, up2_eq, up2_ne, up2_nj, up2_fn, cl2_eq, cl2_ne, cl2_fn, nW_add, nW_mul, nW_sub, nW_le, nW_lt, nW_inj, irem_nW, ix_nW, nW_lit, h1, h2, h4, h5.1, h7.1, hln, n0, n1, h3, Nat.reduceLeDiff, and_self, e], F, ⟨by rw [F.1]; exact h1, r2⟩, by simp only [ldel]; omega, r1, fun j => p (rotU i x.1 j), ?_, fun j hj => ?_⟩
  · refine Ar_perm (rotU i x.1) h5 F.1 (fun j hj => rotU_lt hi h3 hj) (fun a b _ _ e => rotU_inj hi e) (fun j hj => ?_)
    rw [r3 j hj]; unfold rotU
    by_cases q1 : i ≤ j ∧ j + 1 < x.1
    · rw [if_pos q1, if_pos q1]
    · rw [if_neg q1, if_neg q1]
      by_cases q2 : j + 1 = x.1
      · rw [if_pos q2, if_pos q2]
      · rw [if_neg q2, if_neg q2]
  · simp only [ldel] at hj
    by_cases q : j < i
    · simp only [ldel, q, ↓reduceIte, rotU_lo q hi]
      have := h5.2.1 j (by omega)
      exact (h6 j (by omega)).gr F.gr (by omega)
    · simp only [ldel, q, ↓reduceIte, rotU_hi (show i ≤ j by omega) (show j + 1 < x.1 by omega)]
      have := h5.2.1 (j + 1) (by omega)
      exact (h6 (j + 1) (by omega)).gr F.gr (by omega)
theorem X2_add {M : Mem} {l lim m : Nat} {x : Ls Row} {r : Row} (h : MLR M l lim x) (hz : 5 ≤ l ∧ l + 2 + lim ≤ 908) (hn : x.1 < lim) (hm : MsR M m r) (hd : m < l ∨ l + 2 + lim ≤ m) : ∃ M', f_X2_add l m M = some M' ∧ Fr (fun a => l ≤ a ∧ a < l + 2 + lim) M M' ∧ MLR M' l lim (lpush x r) := by
  obtain ⟨⟨h1, h2⟩, h3, h4, p, h5, h6⟩ := h
  have h7 := h5.2.1 x.1 hn
  have hzp : ¬ tz (p x.1) := by simp only [tz]; omega
  have hzl : ¬ tz l := by simp only [tz]; omega
  obtain ⟨M1, e1, F1, r1⟩ := X1_copyFrom h7.2.1 hm (by omega) hzp
  obtain ⟨a1, a2, a3, a4⟩ := F1.2.2 l (Or.inr (by omega))
  obtain ⟨b1, b2, b3, b4⟩ := F1.2.2 (l + 1) (Or.inr (by omega))
  have hln : Int32.ofNat lim = nW lim := rfl
  have n0 : ¬ x.1 < 0 := by omega
  have n1 : ¬ lim ≤ x.1 := by omega
  have k1 : (mK M1 l).1 = 2 := by rw [F1.1]; exact h1
  have k2 : mI M1 l 1 = nW x.1 := by rw [a1]; exact h4
  refine ⟨_, by simp (disch := omega) only [f_X2_add, gI, gL, gF, gR, pI, pZ_0, pZ_1, pZ_z, pL, pF, pR, aI, aL, aF, aR, wI, wL, wF, wR, aN, okZ_0, okZ_1, okZ_z, nar13, sI_mI, sI_mL, sI_mF, sI_mR, sI_mK, sI_mN, sI_mC, sI_mS, sL_mI, sL_mL, sL_mF, sL_mR, sL_mK, sL_mN, sL_mC, sL_mS, sF_mI, sF_mL, sF_mF, sF_mR, sF_mK, sF_mN, sF_mC, sF_mS, sR_mI, sR_mL, sR_mF, sR_mR, sR_mK, sR_mN, sR_mC, sR_mS, Option.bind_some, Option.map_some, bindP, bindX, bindH, ↓reduceIte, and_self, true_and, and_true, ne_eq, not_false_eq_true, not_true_eq_false, reduceCtorEq, Nat.reduceEqDiff, Nat.reduceLeDiff, Nat.reduceLT, Bool.false_eq_true, decide_true, decide_false, up2_eq, up2_ne, up2_nj, up2_fn, cl2_eq, cl2_ne, cl2_fn, nW_add, nW_mul, nW_sub, nW_le, nW_lt, nW_inj, irem_nW, ix_nW, nW_lit, h1, h2, h4, h5.1, h7.1, hln, n0, n1, Nat.reduceLeDiff, and_self, e1, k1, k2]; rfl, ?_⟩
  refine andD (F1.tr (fq_I M1 1 _ hzl) (fun a h => by omega) (fun a h => by omega)) (fun F => ?_)
  refine ⟨⟨k1, by rw [← h2]; exact congrFun a4 0⟩, by simp only [lpush]; omega, by simp only [sI_mI, sI_mL, sI_mF, sI_mR, sI_mK, sI_mN, sI_mC, sI_mS, sL_mI, sL_mL, sL_mF, sL_mR, sL_mK, sL_mN, sL_mC, sL_mS, sF_mI, sF_mL, sF_mF, sF_mR, sF_mK, sF_mN, sF_mC, sF_mS, sR_mI, sR_mL, sR_mF, sR_mR, sR_mK, sR_mN, sR_mC, sR_mS, up2_eq, lpush], p, ⟨by rw [F.1]; exact h5.1, fun j hj => ⟨by rw [← (h5.2.1 j hj).1]; exact congrFun b4 j, by rw [F.1]; exact (h5.2.1 j hj).2⟩, h5.2.2⟩, fun j hj => ?_⟩
  have FI : Gr (fun a => a = l) M1 (sI M1 (up2 (mI M1) l 1 (nW (x.1 + 1)))) := (fq_I M1 1 _ hzl).gr
  by_cases hj2 : j = x.1
  · subst hj2
    simp only [lpush, ↓reduceIte]
    exact r1.gr FI (by omega)
  · simp only [lpush] at hj
    simp only [lpush, hj2, ↓reduceIte]
    have h8 := h5.2.1 j (by omega)
    exact ((h6 j (by omega)).gr F1.gr (fun hh => hj2 (h5.2.2 j x.1 (by omega) (by omega) hh))).gr FI (by omega)
theorem X2_copyFrom_L10 {l l2 lim : Nat} {x : Ls Row} {p : Nat → Nat} (hz : 5 ≤ l ∧ l + 2 + lim ≤ 908) (hd : l + 2 + lim ≤ l2 ∨ l2 + 2 + lim ≤ l) : ∀ n i M, i ≤ x.1 → x.1 - i < n → MLR M l2 lim x → ((mK M l).1 = 2 ∧ mR M l 0 = some (l + 1) ∧ mI M l 1 = nW x.1) → Ar M (l + 1) 19 lim 1 (l + 2) (l + 2 + lim) p → (∀ j, j < i → MsR M (p j) (x.2 j)) → ∃ M', f_X2_copyFrom_L10 n l l2 (nW i) M = some M' ∧ Fr (fun a => l + 2 ≤ a ∧ a < l + 2 + lim) M M' ∧ ∀ j, j < x.1 → MsR M' (p j) (x.2 j)
  | 0, i, M, _, hn, _, _, _, _ => absurd hn (by omega)
  | n + 1, i, M, hi, hn, hs, ⟨g1, g2, g3⟩, hA, hdone => by
    have hs' := hs
    obtain ⟨⟨h1, h2⟩, h3, h4, p2, h5, h6⟩ := hs
    by_cases he : i = x.1
    · subst he
      exact ⟨M, by simp (disch := omega) only [f_X2_copyFrom_L10, gI, gL, gF, gR, pI, pZ_0, pZ_1, pZ_z, pL, pF, pR, aI, aL, aF, aR, wI, wL, wF, wR, aN, okZ_0, okZ_1, okZ_z, nar13, sI_mI, sI_mL, sI_mF, sI_mR, sI_mK, sI_mN, sI_mC, sI_mS, sL_mI, sL_mL, sL_mF, sL_mR, sL_mK, sL_mN, sL_mC, sL_mS, sF_mI, sF_mL, sF_mF, sF_mR, sF_mK, sF_mN, sF_mC, sF_mS, sR_mI, sR_mL, sR_mF, sR_mR, sR_mK, sR_mN, sR_mC, sR_mS, Option.bind_some, Option.map_some, bindP, bindX, bindH, ↓reduceIte, and_self, true_and, and_true, ne_eq, not_false_eq_true, not_true_eq_false, reduceCtorEq, Nat.reduceEqDiff, Nat.reduceLeDiff, Nat.reduceLT, Bool.false_eq_true, decide_true, decide_false, up2_eq, up2_ne, up2_nj, up2_fn, cl2_eq, cl2_ne, cl2_fn, nW_add, nW_mul, nW_sub, nW_le, nW_lt, nW_inj, irem_nW, ix_nW, nW_lit, g1, g3, Nat.le_refl], Fr.refl _ _, hdone⟩
    · have n1 : ¬ x.1 ≤ i := by omega
      have n2 : ¬ lim ≤ i := by omega
      have hx := h5.2.1 i (by omega)
      have hy := hA.2.1 i (by omega)
      have hln : Int32.ofNat lim = nW lim := rfl
      have hzr : ¬ tz (p i) := by simp only [tz]; omega
      obtain ⟨M1, e1, F1, r1⟩ := X1_copyFrom hy.2.1 (h6 i (by omega)) (by omega) hzr
      have F1' := F1.gr
      obtain ⟨a1, a2, a3, a4⟩ := F1.2.2 l (Or.inr (by omega))
      obtain ⟨M2, e2, F2, r2⟩ := X2_copyFrom_L10 hz hd n (i + 1) M1 (by omega) (by omega) (hs'.gr F1' (by intro a _ _; omega)) ⟨by rw [F1.1]; exact g1, by rw [a4]; exact g2, by rw [a1]; exact g3⟩ (hA.gr F1' (by decide) (by decide) (by omega)) (fun j hj => by
        by_cases hj2 : j = i
        · subst hj2; exact r1
        · exact (hdone j (by omega)).gr F1' (fun hh => hj2 (hA.2.2 j i (by omega) (by omega) hh)))
      refine ⟨M2, ?_, F1.tr F2 (fun a h => by omega) (fun a h => h), r2⟩
      simp (disch := omega) only [f_X2_copyFrom_L10, gI, gL, gF, gR, pI, pZ_0, pZ_1, pZ_z, pL, pF, pR, aI, aL, aF, aR, wI, wL, wF, wR, aN, okZ_0, okZ_1, okZ_z, nar13, sI_mI, sI_mL, sI_mF, sI_mR, sI_mK, sI_mN, sI_mC, sI_mS, sL_mI, sL_mL, sL_mF, sL_mR, sL_mK, sL_mN, sL_mC, sL_mS, sF_mI, sF_mL, sF_mF, sF_mR, sF_mK, sF_mN, sF_mC, sF_mS, sR_mI, sR_mL, sR_mF, sR_mR, sR_mK, sR_mN, sR_mC, sR_mS, Option.bind_some, Option.map_some, bindP, bindX, bindH, ↓reduceIte, and_self, true_and, and_true, ne_eq, not_false_eq_true, not_true_eq_false, reduceCtorEq, Nat.reduceEqDiff, Nat.reduceLeDiff, Nat.reduceLT, Bool.false_eq_true, decide_true, decide_false, up2_eq, up2_ne, up2_nj, up2_fn, cl2_eq, cl2_ne, cl2_fn, nW_add, nW_mul, nW_sub, nW_le, nW_lt, nW_inj, irem_nW, ix_nW, nW_lit, g1, g2, g3, n1, n2, h1, h2, h5.1, hA.1, hx.1, hy.1, hln, Nat.reduceLeDiff, and_self, e1, e2]
theorem X2_copyFrom {M : Mem} {l l2 lim : Nat} {x0 x : Ls Row} (h : MLR M l lim x0) (hs : MLR M l2 lim x) (hz : 5 ≤ l ∧ l + 2 + lim ≤ 908) (hd : l + 2 + lim ≤ l2 ∨ l2 + 2 + lim ≤ l) : ∃ M', f_X2_copyFrom l l2 M = some M' ∧ Fr (fun a => l ≤ a ∧ a < l + 2 + lim) M M' ∧ MLR M' l lim x := by
  obtain ⟨⟨h1, h2⟩, _, _, p, h5, _⟩ := h
  have hzl : ¬ tz l := by simp only [tz]; omega
  have F0 : Fr (fun a => a = l) M (sI M (up2 (mI M) l 1 (nW x.1))) := fq_I M 1 _ hzl
  have hl2 : l2 ≠ l := by omega
  obtain ⟨M2, e2, F2, r2⟩ := X2_copyFrom_L10 hz hd FU 0 _ (by omega) (by have := hs.2.1; simp only [FU]; omega) (hs.gr F0.gr (by intro a _ _; omega)) ⟨h1, h2, by simp only [sI_mI, sI_mL, sI_mF, sI_mR, sI_mK, sI_mN, sI_mC, sI_mS, sL_mI, sL_mL, sL_mF, sL_mR, sL_mK, sL_mN, sL_mC, sL_mS, sF_mI, sF_mL, sF_mF, sF_mR, sF_mK, sF_mN, sF_mC, sF_mS, sR_mI, sR_mL, sR_mF, sR_mR, sR_mK, sR_mN, sR_mC, sR_mS, up2_eq]⟩ (h5.gr F0.gr (by decide) (by decide) (by omega)) (fun j hj => absurd hj (by omega))
  obtain ⟨⟨s1, s2⟩, s3, s4, _⟩ := hs
  obtain ⟨a1, a2, a3, a4⟩ := F2.2.2 l (Or.inr (by omega))
  obtain ⟨b1, b2, b3, b4⟩ := F2.2.2 (l + 1) (Or.inr (by omega))
  refine ⟨M2, by simp (disch := omega) only [f_X2_copyFrom, gI, gL, gF, gR, pI, pZ_0, pZ_1, pZ_z, pL, pF, pR, aI, aL, aF, aR, wI, wL, wF, wR, aN, okZ_0, okZ_1, okZ_z, nar13, sI_mI, sI_mL, sI_mF, sI_mR, sI_mK, sI_mN, sI_mC, sI_mS, sL_mI, sL_mL, sL_mF, sL_mR, sL_mK, sL_mN, sL_mC, sL_mS, sF_mI, sF_mL, sF_mF, sF_mR, sF_mK, sF_mN, sF_mC, sF_mS, sR_mI, sR_mL, sR_mF, sR_mR, sR_mK, sR_mN, sR_mC, sR_mS, Option.bind_some, Option.map_some, bindP, bindX, bindH, ↓reduceIte, and_self, true_and, and_true, ne_eq, not_false_eq_true, not_true_eq_false, reduceCtorEq, Nat.reduceEqDiff, Nat.reduceLeDiff, Nat.reduceLT, Bool.false_eq_true, decide_true, decide_false, up2_eq, up2_ne, up2_nj, up2_fn, cl2_eq, cl2_ne, cl2_fn, nW_lit, h1, s1, s4, hl2, e2], F0.tr F2 (fun a h => by omega) (fun a h => by omega), ⟨by rw [F2.1]; exact h1, by rw [a4]; exact h2⟩, s3, by rw [a1]; simp only [sI_mI, sI_mL, sI_mF, sI_mR, sI_mK, sI_mN, sI_mC, sI_mS, sL_mI, sL_mL, sL_mF, sL_mR, sL_mK, sL_mN, sL_mC, sL_mS, sF_mI, sF_mL, sF_mF, sF_mR, sF_mK, sF_mN, sF_mC, sF_mS, sR_mI, sR_mL, sR_mF, sR_mR, sR_mK, sR_mN, sR_mC, sR_mS, up2_eq], p, ⟨by rw [F2.1]; exact h5.1, fun j hj => ⟨by rw [b4]; exact (h5.2.1 j hj).1, by rw [F2.1]; exact (h5.2.1 j hj).2⟩, h5.2.2⟩, r2⟩
