/-! COUNTS OF TOPICS -/
def taP (l : Ls (Txt × Int32)) (t : Txt) (j : Nat) : Bool := decide ((l.2 j).1 = t)
def taAt (l : Ls (Txt × Int32)) (t : Txt) : Option Nat := ffind (taP l t) l.1 0
def spCount (l : Ls (Txt × Int32)) (t : Txt) : Ls (Txt × Int32) := match taAt l t with
  | none => lpush l (t, nW 1)
  | some k => lset l k ((l.2 k).1, (l.2 k).2 + nW 1)
def TaOk (l : Ls (Txt × Int32)) : Prop := (∀ j, j < l.1 → okTx (l.2 j).1) ∧ ∀ i j, i < l.1 → j < l.1 → (l.2 i).1 = (l.2 j).1 → i = j
theorem taAt_some {l : Ls (Txt × Int32)} {t : Txt} {k : Nat} (h : taAt l t = some k) : k < l.1 ∧ (l.2 k).1 = t := by
  obtain ⟨_, h2, h3, _⟩ := ffind_some h
  exact ⟨by omega, of_decide_eq_true h3⟩
theorem TaOk_count {l : Ls (Txt × Int32)} {t : Txt} (h : TaOk l) (ht : okTx t) : TaOk (spCount l t) ∧ (spCount l t).1 ≤ l.1 + 1 := by
  unfold spCount
  cases e : taAt l t with
  | none =>
    refine ⟨⟨fun j hj => ?_, fun i j hi hj he => ?_⟩, Nat.le_refl _⟩
    · simp only [lpush] at hj ⊢
      by_cases q : j = l.1
      · rw [if_pos q]; exact ht
      · rw [if_neg q]; exact h.1 j (by omega)
    · have no : ∀ k, k < l.1 → (l.2 k).1 ≠ t := fun k hk => of_decide_eq_false (ffind_none e k (by omega) (by omega))
      simp only [lpush] at hi hj he
      by_cases q : i = l.1 <;> by_cases q' : j = l.1
      · omega
      · rw [if_pos q, if_neg q'] at he; exact absurd he.symm (no j (by omega))
      · rw [if_neg q, if_pos q'] at he; exact absurd he (no i (by omega))
      · rw [if_neg q, if_neg q'] at he; exact h.2 i j (by omega) (by omega) he
  | some k =>
    have key : ∀ j, ((lset l k ((l.2 k).1, (l.2 k).2 + nW 1)).2 j).1 = (l.2 j).1 := fun j => by
      simp only [lset]
      by_cases q : j = k
      · subst q; rw [if_pos rfl]
      · rw [if_neg q]
    exact ⟨⟨fun j hj => by rw [key]; exact h.1 j hj, fun i j hi hj he => by rw [key, key] at he; exact h.2 i j hi hj he⟩, Nat.le_succ _⟩
/-! in the class -/
theorem X9_placeOf_L2 {M : Mem} {T x : Nat} {t : Txt} {l : Ls (Txt × Int32)} (hT : TalR M T l) (hx : TextR M x t) : ∀ n i, i ≤ l.1 → l.1 - i < n → f_X9_placeOf_L2 n T x (nW i) M = some (posI (ffind (taP l t) (l.1 - i) i), M)
  | 0, i, _, hn => absurd hn (by omega)
  | n + 1, i, hi, hn => by
    have ih := X9_placeOf_L2 hT hx n (i + 1)
    obtain ⟨⟨h1, h2, h3⟩, h4, h5, h6, h7, h8, h9⟩ := hT
    have k2 : gI 9 2 T M = some (nW l.1) := by simp only [gI, h1, h6, ↓reduceIte]
    have k0 : gR 9 0 T M = some (T + 1) := by simp only [gR, h1, h2, ↓reduceIte]
    by_cases he : i = l.1
    · have n1 : l.1 ≤ i := by omega
      rw [he, Nat.sub_self]
      simp (disch := omega) only [f_X9_placeOf_L2, k2, Option.bind_some, nW_le, Nat.le_refl, ↓reduceIte, ffind, posI, lit_m1i]
    · have n1 : ¬ l.1 ≤ i := by omega
      have n2 : ¬ 512 ≤ i := by omega
      obtain ⟨y, e1, hy⟩ := h8 i (by omega)
      have ea : aR 23 (T + 1) (nW i) M = some y := by simp (disch := omega) only [aR, h4, ↓reduceIte, ix_nW, Option.bind_some, e1]
      have sa := X10_sameAs hy hx
      have i2 := ih (by omega) (by omega)
      rw [show l.1 - i = (l.1 - (i + 1)) + 1 by omega, ffind, taP]
      by_cases h : (l.2 i).1 = t
      · have t1 : ¬ nW 1 = nW 0 := by decide
        simp (disch := omega) only [f_X9_placeOf_L2, k2, k0, Option.bind_some, nW_lit, nW_le, n1, n2, ↓reduceIte, ea, sa, bindP, eq_true h, decide_true, zI_t, t1, posI]
      · simp (disch := omega) only [f_X9_placeOf_L2, k2, k0, Option.bind_some, nW_lit, nW_le, nW_add, n1, n2, ↓reduceIte, ea, sa, bindP, eq_false h, decide_false, zI_f, i2, Bool.false_eq_true]
theorem X9_placeOf {M : Mem} {T x : Nat} {t : Txt} {l : Ls (Txt × Int32)} (hT : TalR M T l) (hx : TextR M x t) : f_X9_placeOf T x M = some (posI (taAt l t), M) := by
  have := X9_placeOf_L2 hT hx FU 0 (by omega) (by have := hT.2.2.2.2.1; simp only [FU]; omega)
  simp only [f_X9_placeOf, hT.1.1, ↓reduceIte, nW_lit, this, Nat.sub_zero, taAt]
theorem X9_count {M : Mem} {T x : Nat} {t : Txt} {l : Ls (Txt × Int32)} (hz : 5 ≤ T ∧ T + 3 ≤ 908) (hT : TalR M T l) (hx : TextR M x t) (hl : l.1 < 512) : ∃ M', f_X9_count T x M = some M' ∧ Fr (fun a => T ≤ a ∧ a < T + 3) M M' ∧ TalR M' T (spCount l t) := by
  have hp := X9_placeOf hT hx
  have z0 : ¬ tz T := by simp only [tz]; omega
  have z1 : ¬ tz (T + 1) := by simp only [tz]; omega
  have z2 : ¬ tz (T + 2) := by simp only [tz]; omega
  obtain ⟨⟨h1, h2, h3⟩, h4, h5, h6, h7, h8, h9⟩ := hT
  have hk : (mK M x).1 = 10 := hx.2.1.1
  unfold spCount
  cases e : taAt l t with
  | some k =>
    rw [e] at hp
    obtain ⟨hk2, hk3⟩ := taAt_some e
    have np : 0 ≤ k := by omega
    have n0 : ¬ k < 0 := by omega
    have F := fr_I (P := fun a => T ≤ a ∧ a < T + 3) M k ((l.2 k).2 + nW 1) (show T ≤ T + 2 ∧ T + 2 < T + 3 by omega) z2
    have hne : T ≠ T + 2 := by omega
    refine ⟨sI M (up2 (mI M) (T + 2) k ((l.2 k).2 + nW 1)), ?_, F, ⟨h1, h2, h3⟩, h4, h5, by simp only [sI_mI, sI_mL, sI_mF, sI_mR, sI_mK, sI_mN, sI_mC, sI_mS, sL_mI, sL_mL, sL_mF, sL_mR, sL_mK, sL_mN, sL_mC, sL_mS, sF_mI, sF_mL, sF_mF, sF_mR, sF_mK, sF_mN, sF_mC, sF_mS, sR_mI, sR_mL, sR_mF, sR_mR, sR_mK, sR_mN, sR_mC, sR_mS]; rw [up2_ne _ _ _ _ hne]; exact h6, h7, fun j hj => ?_, fun j hj => ?_⟩
    · have e9 := h9 k hk2
      simp (disch := omega) only [f_X9_count, f_X9_count_J56, h1, ↓reduceIte, hp, bindP, posI, nW_lit, nW_le, nW_lt, np, n0, gR, h3, Option.bind_some, aI, wI, h5, ix_nW, Option.map_some, e9, nar13]
    · obtain ⟨y, a, b⟩ := h8 j hj
      refine ⟨y, a, ?_⟩
      have : ((lset l k ((l.2 k).1, (l.2 k).2 + nW 1)).2 j).1 = (l.2 j).1 := by
        simp only [lset]
        by_cases q : j = k
        · subst q; rw [if_pos rfl]
        · rw [if_neg q]
      rw [this]; exact b.gr F.gr
    · simp only [sI_mI, sI_mL, sI_mF, sI_mR, sI_mK, sI_mN, sI_mC, sI_mS, sL_mI, sL_mL, sL_mF, sL_mR, sL_mK, sL_mN, sL_mC, sL_mS, sF_mI, sF_mL, sF_mF, sF_mR, sF_mK, sF_mN, sF_mC, sF_mS, sR_mI, sR_mL, sR_mF, sR_mR, sR_mK, sR_mN, sR_mC, sR_mS, lset]
      by_cases q : j = k
      · subst q; rw [if_pos rfl]; exact up2_eq _ _ _ _
      · rw [if_neg q, up2_nj _ _ _ _ q]; exact h9 j hj
  | none =>
    rw [e] at hp
    have np : ¬ nW 0 ≤ posI none := nW_m1
    have n0 : ¬ l.1 < 0 := by omega
    have n5 : ¬ 512 ≤ l.1 := by omega
    have hne : T ≠ T + 2 := by omega
    have hne1 : T + 2 ≠ T := by omega
    refine ⟨_, by simp (disch := omega) only [f_X9_count, f_X9_count_J56, gI, gL, gF, gR, pI, pZ_0, pZ_1, pZ_z, pL, pF, pR, aI, aL, aF, aR, wI, wL, wF, wR, aN, okZ_0, okZ_1, okZ_z, nar13, sI_mI, sI_mL, sI_mF, sI_mR, sI_mK, sI_mN, sI_mC, sI_mS, sL_mI, sL_mL, sL_mF, sL_mR, sL_mK, sL_mN, sL_mC, sL_mS, sF_mI, sF_mL, sF_mF, sF_mR, sF_mK, sF_mN, sF_mC, sF_mS, sR_mI, sR_mL, sR_mF, sR_mR, sR_mK, sR_mN, sR_mC, sR_mS, Option.bind_some, Option.map_some, bindP, bindX, bindH, ↓reduceIte, and_self, true_and, and_true, ne_eq, not_false_eq_true, not_true_eq_false, reduceCtorEq, Nat.reduceEqDiff, Nat.reduceLeDiff, Nat.reduceLT, Bool.false_eq_true, decide_true, decide_false, up2_eq, up2_ne, up2_nj, up2_fn, cl2_eq, cl2_ne, cl2_fn, nW_add, nW_mul, nW_sub, nW_le, nW_lt, nW_inj, irem_nW, ix_nW, nW_lit, hp, np, h1, h2, h3, h4, h5, h6, hk, n0, n5, hl]; rfl, ?_⟩
    have F := (((fr_R (P := fun a => T ≤ a ∧ a < T + 3) M l.1 (some x) (show T ≤ T + 1 ∧ T + 1 < T + 3 by omega) z1).trans (fr_I _ l.1 (nW 0) (show T ≤ T + 2 ∧ T + 2 < T + 3 by omega) z2)).trans (fr_I _ 2 (nW (l.1 + 1)) (show T ≤ T ∧ T < T + 3 by omega) z0)).trans (fr_I _ l.1 (nW 0 + nW 1) (show T ≤ T + 2 ∧ T + 2 < T + 3 by omega) z2)
    refine ⟨F, ⟨h1, by simp (disch := omega) only [sI_mI, sI_mL, sI_mF, sI_mR, sI_mK, sI_mN, sI_mC, sI_mS, sL_mI, sL_mL, sL_mF, sL_mR, sL_mK, sL_mN, sL_mC, sL_mS, sF_mI, sF_mL, sF_mF, sF_mR, sF_mK, sF_mN, sF_mC, sF_mS, sR_mI, sR_mL, sR_mF, sR_mR, sR_mK, sR_mN, sR_mC, sR_mS, up2_ne, h2], by simp (disch := omega) only [sI_mI, sI_mL, sI_mF, sI_mR, sI_mK, sI_mN, sI_mC, sI_mS, sL_mI, sL_mL, sL_mF, sL_mR, sL_mK, sL_mN, sL_mC, sL_mS, sF_mI, sF_mL, sF_mF, sF_mR, sF_mK, sF_mN, sF_mC, sF_mS, sR_mI, sR_mL, sR_mF, sR_mR, sR_mK, sR_mN, sR_mC, sR_mS, up2_ne, h3]⟩, h4, h5, by simp (disch := omega) only [sI_mI, sI_mL, sI_mF, sI_mR, sI_mK, sI_mN, sI_mC, sI_mS, sL_mI, sL_mL, sL_mF, sL_mR, sL_mK, sL_mN, sL_mC, sL_mS, sF_mI, sF_mL, sF_mF, sF_mR, sF_mK, sF_mN, sF_mC, sF_mS, sR_mI, sR_mL, sR_mF, sR_mR, sR_mK, sR_mN, sR_mC, sR_mS, up2_ne, up2_eq, lpush], by simp only [lpush]; omega, fun j hj => ?_, fun j hj => ?_⟩
    · simp only [lpush] at hj ⊢
      by_cases q : j = l.1
      · subst q
        exact ⟨x, by simp only [sI_mI, sI_mL, sI_mF, sI_mR, sI_mK, sI_mN, sI_mC, sI_mS, sL_mI, sL_mL, sL_mF, sL_mR, sL_mK, sL_mN, sL_mC, sL_mS, sF_mI, sF_mL, sF_mF, sF_mR, sF_mK, sF_mN, sF_mC, sF_mS, sR_mI, sR_mL, sR_mF, sR_mR, sR_mK, sR_mN, sR_mC, sR_mS, up2_eq], by rw [if_pos rfl]; exact hx.gr F.gr⟩
      · obtain ⟨y, a, b⟩ := h8 j (by omega)
        exact ⟨y, by simp (disch := omega) only [sI_mI, sI_mL, sI_mF, sI_mR, sI_mK, sI_mN, sI_mC, sI_mS, sL_mI, sL_mL, sL_mF, sL_mR, sL_mK, sL_mN, sL_mC, sL_mS, sF_mI, sF_mL, sF_mF, sF_mR, sF_mK, sF_mN, sF_mC, sF_mS, sR_mI, sR_mL, sR_mF, sR_mR, sR_mK, sR_mN, sR_mC, sR_mS, up2_nj, a], by rw [if_neg q]; exact b.gr F.gr⟩
    · simp only [lpush] at hj ⊢
      by_cases q : j = l.1
      · subst q; rw [if_pos rfl]; simp only [sI_mI, sI_mL, sI_mF, sI_mR, sI_mK, sI_mN, sI_mC, sI_mS, sL_mI, sL_mL, sL_mF, sL_mR, sL_mK, sL_mN, sL_mC, sL_mS, sF_mI, sF_mL, sF_mF, sF_mR, sF_mK, sF_mN, sF_mC, sF_mS, sR_mI, sR_mL, sR_mF, sR_mR, sR_mK, sR_mN, sR_mC, sR_mS, up2_eq]
      · rw [if_neg q]; simp (disch := omega) only [sI_mI, sI_mL, sI_mF, sI_mR, sI_mK, sI_mN, sI_mC, sI_mS, sL_mI, sL_mL, sL_mF, sL_mR, sL_mK, sL_mN, sL_mC, sL_mS, sF_mI, sF_mL, sF_mF, sF_mR, sF_mK, sF_mN, sF_mC, sF_mS, sR_mI, sR_mL, sR_mF, sR_mR, sR_mK, sR_mN, sR_mC, sR_mS, up2_nj, up2_ne]; exact h9 j (by omega)
/-! in the reference -/
def uTa (σ : Sg) (l : Ls (Txt × Int32)) : Sg := (σ.1, σ.2.1, σ.2.2.1, σ.2.2.2.1, l)
def uSc (σ : Sg) (sc : Nat → Int32) : Sg := (sc, σ.2)
