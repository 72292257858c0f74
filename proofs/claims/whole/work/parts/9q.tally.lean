/-! COUNTS OF TOPICS -/
def taP (l : Ls (Txt × Int32)) (t : Txt) (j : Nat) : Bool := decide ((l.2 j).1 = t)
def taAt (l : Ls (Txt × Int32)) (t : Txt) : Option Nat := ffind (taP l t) l.1 0
def spCount (l : Ls (Txt × Int32)) (t : Txt) : Ls (Txt × Int32) := match taAt l t with
  | none => lpush l (t, nW 1)
  | some k => lset l k ((l.2 k).1, (l.2 k).2 + nW 1)
def TaOk (l : Ls (Txt × Int32)) : Prop := (∀ j, j < l.1 → okTx (l.2 j).1) ∧ ∀ i j, i < l.1 → j < l.1 → (l.2 i).1 = (l.2 j).1 → i = j
theorem taAt_some {l : Ls (Txt × Int32)} {t : Txt} {k : Nat} (h : taAt l t = some k) : k < l.1 ∧ (l.2 k).1 = t := by
  obtain ⟨_, h2, h3, _⟩ := ffind_some h
  exact ⟨by omega, of_decide_eq_true h3⟩
theorem TaOk_count {l : Ls (Txt × Int32)} {t : Txt} (h : TaOk l) (ht : okTx t) : TaOk (spCount l t) ∧ (spCount l t).1 ≤ l.1 + 1 := by
  unfold spCount
  cases e : taAt l t with
  | none =>
    refine ⟨⟨fun j hj => ?_, fun i j hi hj he => ?_⟩, Nat.le_refl _⟩
    · simp only [lpush] at hj ⊢
      by_cases q : j = l.1
      · rw [if_pos q]; exact ht
      · rw [if_neg q]; exact h.1 j (by omega)
    · have no : ∀ k, k < l.1 → (l.2 k).1 ≠ t := fun k hk => of_decide_eq_false (ffind_none e k (by omega) (by omega))
      simp only [lpush] at hi hj he
      by_cases q : i = l.1 <;> by_cases q' : j = l.1
      · omega
      · rw [if_pos q, if_neg q'] at he; exact absurd he.symm (no j (by omega))
      · rw [if_neg q, if_pos q'] at he; exact absurd he (no i (by omega))
      · rw [if_neg q, if_neg q'] at he; exact h.2 i j (by omega) (by omega) he
  | some k =>
    have key : ∀ j, ((lset l k ((l.2 k).1, (l.2 k).2 + nW 1)).2 j).1 = (l.2 j).1 := fun j => by
      simp only [lset]
      by_cases q : j = k
      · subst q; rw [if_pos rfl]
      · rw [if_neg q]
    exact ⟨⟨fun j hj => by rw [key]; exact h.1 j hj, fun i j hi hj he => by rw [key, key] at he; exact h.2 i j hi hj he⟩, Nat.le_succ _⟩
/-! in the class -/
theorem X9_placeOf_L2 {M : Mem} {T x : Nat} {t : Txt} {l : Ls (Txt × Int32)} (hT : TalR M T l) (hx : TextR M x t) : ∀ n i, i ≤ l.1 → l.1 - i < n → f_X9_placeOf_L2 n T x (nW i) M = some (posI (ffind (taP l t) (l.1 - i) i), M)
  | 0, i, _, hn => absurd hn (by omega)
  | n + 1, i, hi, hn => by
    have ih := X9_placeOf_L2 hT hx n (i + 1)
    obtain ⟨⟨h1, h2, h3⟩, h4, h5, h6, h7, h8, h9⟩ := hT
    have k2 : gI 9 2 T M = some (nW l.1) := by simp only [gI, h1, h6, ↓reduceIte]
    have k0 : gR 9 0 T M = some (T + 1) := by simp only [gR, h1, h2, ↓reduceIte]
    by_cases he : i = l.1
    · have n1 : l.1 ≤ i := by omega
      rw [he, Nat.sub_self]
      simp (disch := omega) only [f_X9_placeOf_L2, k2, Option.bind_some, nW_le, Nat.le_refl, ↓reduceIte, ffind, posI, lit_m1i]
    · have n1 : ¬ l.1 ≤ i := by omega
      have n2 : ¬ 512 ≤ i := by omega
      obtain ⟨y, e1, hy⟩ := h8 i (by omega)
      have ea : aR 23 (T + 1) (nW i) M = some y := by simp (disch := omega) only [aR, h4, ↓reduceIte, ix_nW, Option.bind_some, e1]
      have sa := X10_sameAs hy hx
      have i2 := ih (by omega) (by omega)
      rw [show l.1 - i = (l.1 - (i + 1)) + 1 by omega, ffind, taP]
      by_cases h : (l.2 i).1 = t
      · have t1 : ¬ nW 1 = nW 0 := by decide
        simp (disch := omega) only [f_X9_placeOf_L2, k2, k0, Option.bind_some, nW_lit, nW_le, n1, n2, ↓reduceIte, ea, sa, bindP, eq_true h, decide_true, zI_t, t1, posI]
      · simp (disch := omega) only [f_X9_placeOf_L2, k2, k0, Option.bind_some, nW_lit, nW_le, nW_add, n1, n2, ↓reduceIte, ea, sa, bindP, eq_false h, decide_false, zI_f, i2, Bool.false_eq_true]
theorem X9_placeOf {M : Mem} {T x : Nat} {t : Txt} {l : Ls (Txt × Int32)} (hT : TalR M T l) (hx : TextR M x t) : f_X9_placeOf T x M = some (posI (taAt l t), M) := by
  have := X9_placeOf_L2 hT hx FU 0 (by omega) (by have := hT.2.2.2.2.1; simp only [FU]; omega)
  simp only [f_X9_placeOf, hT.1.1, ↓reduceIte, nW_lit, this, Nat.sub_zero, taAt]
theorem X9_count {M : Mem} {T x : Nat} {t : Txt} {l : Ls (Txt × Int32)} (hz : 5 ≤ T ∧ T + 3 ≤ 922) (hT : TalR M T l) (hx : TextR M x t) (hl : l.1 < 512) : ∃ M', f_X9_count T x M = some M' ∧ Fr (fun a => T ≤ a ∧ a < T + 3) M M' ∧ TalR M' T (spCount l t) := by
  have hp := X9_placeOf hT hx
  have z0 : ¬ tz T := by simp only [tz]; omega
  have z1 : ¬ tz (T + 1) := by simp only [tz]; omega
  have z2 : ¬ tz (T + 2) := by simp only [tz]; omega
  obtain ⟨⟨h1, h2, h3⟩, h4, h5, h6, h7, h8, h9⟩ := hT
  have hk : (mK M x).1 = 10 := hx.2.1.1
  unfold spCount
  cases e : taAt l t with
  | some k =>
    rw [e] at hp
    obtain ⟨hk2, hk3⟩ := taAt_some e
    have np : 0 ≤ k := by omega
    have n0 : ¬ k < 0 := by omega
    have F := fr_I (P := fun a => T ≤ a ∧ a < T + 3) M k ((l.2 k).2 + nW 1) (show T ≤ T + 2 ∧ T + 2 < T + 3 by omega) z2
    have hne : T ≠ T + 2 := by omega
    refine ⟨sI M (up2 (mI M) (T + 2) k ((l.2 k).2 + nW 1)), ?_, F, ⟨h1, h2, h3⟩, h4, h5, by simp only [sI_mI, sI_mL, sI_mF, sI_mR, sI_mK, sI_mN, sI_mC, sI_mS, sL_mI, sL_mL, sL_mF, sL_mR, sL_mK, sL_mN, sL_mC, sL_mS, sF_mI, sF_mL, sF_mF, sF_mR, sF_mK, sF_mN, sF_mC, sF_mS, sR_mI, sR_mL, sR_mF, sR_mR, sR_mK, sR_mN, sR_mC, sR_mS]; rw [up2_ne _ _ _ _ hne]; exact h6, h7, fun j hj => ?_, fun j hj => ?_⟩
    · have e9 := h9 k hk2
      simp (disch := omega) only [f_X9_count, f_X9_count_J56, h1, ↓reduceIte, hp, bindP, posI, nW_lit, nW_le, nW_lt, np, n0, gR, h3, Option.bind_some, aI, wI, h5, ix_nW, Option.map_some, e9, nar13]
    · obtain ⟨y, a, b⟩ := h8 j hj
      refine ⟨y, a, ?_⟩
      have : ((lset l k ((l.2 k).1, (l.2 k).2 + nW 1)).2 j).1 = (l.2 j).1 := by
        simp only [lset]
        by_cases q : j = k
        · subst q; rw [if_pos rfl]
        · rw [if_neg q]
      rw [this]; exact b.gr F.gr
    · simp only [sI_mI, sI_mL, sI_mF, sI_mR, sI_mK, sI_mN, sI_mC, sI_mS, sL_mI, sL_mL, sL_mF, sL_mR, sL_mK, sL_mN, sL_mC, sL_mS, sF_mI, sF_mL, sF_mF, sF_mR, sF_mK, sF_mN, sF_mC, sF_mS, sR_mI, sR_mL, sR_mF, sR_mR, sR_mK, sR_mN, sR_mC, sR_mS, lset]
      by_cases q : j = k
      · subst q; rw [if_pos rfl]; exact up2_eq _ _ _ _
      · rw [if_neg q, up2_nj _ _ _ _ q]; exact h9 j hj
  | none =>
    rw [e] at hp
    have np : ¬ nW 0 ≤ posI none := nW_m1
    have n0 : ¬ l.1 < 0 := by omega
    have n5 : ¬ 512 ≤ l.1 := by omega
    have hne : T ≠ T + 2 := by omega
    have hne1 : T + 2 ≠ T := by omega
    refine ⟨_, by simp (disch := omega) only [f_X9_count, f_X9_count_J56, gI, gL, gF, gR, pI, pZ_0, pZ_1, pZ_z, pL, pF, pR, aI, aL, aF, aR, wI, wL, wF, wR, aN, okZ_0, okZ_1, okZ_z, nar13, sI_mI, sI_mL, sI_mF, sI_mR, sI_mK, sI_mN, sI_mC, sI_mS, sL_mI, sL_mL, sL_mF, sL_mR, sL_mK, sL_mN, sL_mC, sL_mS, sF_mI, sF_mL, sF_mF, sF_mR, sF_mK, sF_mN, sF_mC, sF_mS, sR_mI, sR_mL, sR_mF, sR_mR, sR_mK, sR_mN, sR_mC, sR_mS, Option.bind_some, Option.map_some, bindP, bindX, bindH, ↓reduceIte, and_self, true_and, and_true, ne_eq, not_false_eq_true, not_true_eq_false, reduceCtorEq, Nat.reduceEqDiff, Nat.reduceLeDiff, Nat.reduceLT, Bool.false_eq_true, decide_true, decide_false, up2_eq, up2_ne, up2_nj, up2_fn, cl2_eq, cl2_ne, cl2_fn, nW_add, nW_mul, nW_sub, nW_le, nW_lt, nW_inj, irem_nW, ix_nW, nW_lit, hp, np, h1, h2, h3, h4, h5, h6, hk, n0, n5, hl]; rfl, ?_⟩
    have F := (((fr_R (P := fun a => T ≤ a ∧ a < T + 3) M l.1 (some x) (show T ≤ T + 1 ∧ T + 1 < T + 3 by omega) z1).trans (fr_I _ l.1 (nW 0) (show T ≤ T + 2 ∧ T + 2 < T + 3 by omega) z2)).trans (fr_I _ 2 (nW (l.1 + 1)) (show T ≤ T ∧ T < T + 3 by omega) z0)).trans (fr_I _ l.1 (nW 0 + nW 1) (show T ≤ T + 2 ∧ T + 2 < T + 3 by omega) z2)
    refine ⟨F, ⟨h1, by simp (disch := omega) only [sI_mI, sI_mL, sI_mF, sI_mR, sI_mK, sI_mN, sI_mC, sI_mS, sL_mI, sL_mL, sL_mF, sL_mR, sL_mK, sL_mN, sL_mC, sL_mS, sF_mI, sF_mL, sF_mF, sF_mR, sF_mK, sF_mN, sF_mC, sF_mS, sR_mI, sR_mL, sR_mF, sR_mR, sR_mK, sR_mN, sR_mC, sR_mS, up2_ne, h2], by simp (disch := omega) only [sI_mI, sI_mL, sI_mF, sI_mR, sI_mK, sI_mN, sI_mC, sI_mS, sL_mI, sL_mL, sL_mF, sL_mR, sL_mK, sL_mN, sL_mC, sL_mS, sF_mI, sF_mL, sF_mF, sF_mR, sF_mK, sF_mN, sF_mC, sF_mS, sR_mI, sR_mL, sR_mF, sR_mR, sR_mK, sR_mN, sR_mC, sR_mS, up2_ne, h3]⟩, h4, h5, by simp (disch := omega) only [sI_mI, sI_mL, sI_mF, sI_mR, sI_mK, sI_mN, sI_mC, sI_mS, sL_mI, sL_mL, sL_mF, sL_mR, sL_mK, sL_mN, sL_mC, sL_mS, sF_mI, sF_mL, sF_mF, sF_mR, sF_mK, sF_mN, sF_mC, sF_mS, sR_mI, sR_mL, sR_mF, sR_mR, sR_mK, sR_mN, sR_mC, sR_mS, up2_ne, up2_eq, lpush], by simp only [lpush]; omega, fun j hj => ?_, fun j hj => ?_⟩
    · simp only [lpush] at hj ⊢
      by_cases q : j = l.1
      · subst q
        exact ⟨x, by simp only [sI_mI, sI_mL, sI_mF, sI_mR, sI_mK, sI_mN, sI_mC, sI_mS, sL_mI, sL_mL, sL_mF, sL_mR, sL_mK, sL_mN, sL_mC, sL_mS, sF_mI, sF_mL, sF_mF, sF_mR, sF_mK, sF_mN, sF_mC, sF_mS, sR_mI, sR_mL, sR_mF, sR_mR, sR_mK, sR_mN, sR_mC, sR_mS, up2_eq], by rw [if_pos rfl]; exact hx.gr F.gr⟩
      · obtain ⟨y, a, b⟩ := h8 j (by omega)
        exact ⟨y, by simp (disch := omega) only [sI_mI, sI_mL, sI_mF, sI_mR, sI_mK, sI_mN, sI_mC, sI_mS, sL_mI, sL_mL, sL_mF, sL_mR, sL_mK, sL_mN, sL_mC, sL_mS, sF_mI, sF_mL, sF_mF, sF_mR, sF_mK, sF_mN, sF_mC, sF_mS, sR_mI, sR_mL, sR_mF, sR_mR, sR_mK, sR_mN, sR_mC, sR_mS, up2_nj, a], by rw [if_neg q]; exact b.gr F.gr⟩
    · simp only [lpush] at hj ⊢
      by_cases q : j = l.1
      · subst q; rw [if_pos rfl]; simp only [sI_mI, sI_mL, sI_mF, sI_mR, sI_mK, sI_mN, sI_mC, sI_mS, sL_mI, sL_mL, sL_mF, sL_mR, sL_mK, sL_mN, sL_mC, sL_mS, sF_mI, sF_mL, sF_mF, sF_mR, sF_mK, sF_mN, sF_mC, sF_mS, sR_mI, sR_mL, sR_mF, sR_mR, sR_mK, sR_mN, sR_mC, sR_mS, up2_eq]
      · rw [if_neg q]; simp (disch := omega) only [sI_mI, sI_mL, sI_mF, sI_mR, sI_mK, sI_mN, sI_mC, sI_mS, sL_mI, sL_mL, sL_mF, sL_mR, sL_mK, sL_mN, sL_mC, sL_mS, sF_mI, sF_mL, sF_mF, sF_mR, sF_mK, sF_mN, sF_mC, sF_mS, sR_mI, sR_mL, sR_mF, sR_mR, sR_mK, sR_mN, sR_mC, sR_mS, up2_nj, up2_ne]; exact h9 j (by omega)
/-! in the reference -/
theorem ref_publishedAt_L5 {N : Mem} {V : VR} {s : Nat → Int32} {t : Nat → Int64} (hk : KR N) {ka : Nat} {l : Ls (Txt × Int32)} {x : Txt} (hl : l.1 ≤ 512) (hR : R_pu s t l) (hok : TaOk l) (hT : TB (V.2.1 ka) 0 x) (hx : okTx x) (hka : 1 ≤ ka ∧ ka < 13) (hka2 : KA ka = (14, 4)) (hka3 : ka ≠ 2) : ∀ n i a, i ≤ l.1 → l.1 - i < n → (∀ k, a = some k → k < i ∧ (l.2 k).1 = x) → f_X12_publishedAt_L5 n 908 (908 + ka) (nW 0) (posI a) (nW i) (QW N V s t) = some (posI (a.or (ffind (taP l x) (l.1 - i) i)), QW N V s t)
  | 0, i, a, _, hn, _ => absurd hn (by omega)
  | n + 1, i, a, hi, hn, ha => by
    by_cases he : i = l.1
    · rw [he, Nat.sub_self]
      cases a with
      | none => simp (disch := omega) only [f_X12_publishedAt_L5, q_k hk, q_gR1 hk, q_gR2 hk, q_gR8 hk, q_gR11 hk, q_gR13 hk, q_gR14 hk, q_gR15 hk, q_gR16 hk, q_gI hk, q_pI hk, q_a hk, q_w hk, q_l hk, nW_add, nW_mul, nW_sub, nW_le, nW_lt, nW_inj, irem_nW, ix_nW, nW_lit, hR.1, Nat.le_refl, ↓reduceIte, Option.bind_some, ffind, Option.none_or]
      | some k => simp (disch := omega) only [f_X12_publishedAt_L5, q_k hk, q_gR1 hk, q_gR2 hk, q_gR8 hk, q_gR11 hk, q_gR13 hk, q_gR14 hk, q_gR15 hk, q_gR16 hk, q_gI hk, q_pI hk, q_a hk, q_w hk, q_l hk, nW_add, nW_mul, nW_sub, nW_le, nW_lt, nW_inj, irem_nW, ix_nW, nW_lit, hR.1, Nat.le_refl, ↓reduceIte, Option.bind_some, Option.some_or]
    · have n1 : ¬ l.1 ≤ i := by omega
      obtain ⟨y1, y2⟩ := hR.2 i (by omega)
      have A := LB_of (k := 2) (n := 3800) (i := 1400 + 4 * i) (V := VS V s t) hk (by omega) rfl (by omega) (by omega) y2
      have B := LB_of (k := ka) (n := 4) (i := 0) (t := x) (V := VS V s t) hk hka hka2 (by omega) (by omega) (by rw [VS_Lo _ _ _ hka3]; exact hT)
      have sa : f_X12_isSame 910 (nW (1400 + 4 * i)) (908 + ka) (nW 0) (QW N V s t) = some (zI (decide ((l.2 i).1 = x)), QW N V s t) := ref_isSame A B (hok.1 i (by omega)) hx
      have t1 : ¬ nW 1 = nW 0 := by decide
      rw [show l.1 - i = (l.1 - (i + 1)) + 1 by omega]
      by_cases h : (l.2 i).1 = x
      · have hp : taP l x i = true := decide_eq_true h
        cases a with
        | none =>
          have ih := ref_publishedAt_L5 (V := V) hk hl hR hok hT hx hka hka2 hka3 n (i + 1) (some i) (by omega) (by omega) (fun k e => by cases e; exact ⟨by omega, h⟩)
          simp only [posI, Option.some_or] at ih
          simp (disch := omega) only [f_X12_publishedAt_L5, q_k hk, q_gR1 hk, q_gR2 hk, q_gR8 hk, q_gR11 hk, q_gR13 hk, q_gR14 hk, q_gR15 hk, q_gR16 hk, q_gI hk, q_pI hk, q_a hk, q_w hk, q_l hk, nW_add, nW_mul, nW_sub, nW_le, nW_lt, nW_inj, irem_nW, ix_nW, nW_lit, hR.1, n1, ↓reduceIte, Option.bind_some, sa, bindP, eq_true h, decide_true, zI_t, t1, posI, ih, ffind, hp, Option.none_or]
        | some k =>
          have := hok.2 k i (by have := (ha k rfl).1; omega) (by omega) ((ha k rfl).2.trans h.symm)
          have := (ha k rfl).1
          omega
      · have hp : taP l x i = false := decide_eq_false h
        have ih := ref_publishedAt_L5 (V := V) hk hl hR hok hT hx hka hka2 hka3 n (i + 1) a (by omega) (by omega) (fun k e => ⟨by have := (ha k e).1; omega, (ha k e).2⟩)
        cases a with
        | none =>
          simp only [posI, Option.none_or] at ih
          simp (disch := omega) only [f_X12_publishedAt_L5, q_k hk, q_gR1 hk, q_gR2 hk, q_gR8 hk, q_gR11 hk, q_gR13 hk, q_gR14 hk, q_gR15 hk, q_gR16 hk, q_gI hk, q_pI hk, q_a hk, q_w hk, q_l hk, nW_add, nW_mul, nW_sub, nW_le, nW_lt, nW_inj, irem_nW, ix_nW, nW_lit, hR.1, n1, ↓reduceIte, Option.bind_some, sa, bindP, eq_false h, decide_false, zI_f, posI, ih, ffind, hp, Option.none_or, Bool.false_eq_true]
        | some k =>
          simp only [posI, Option.some_or] at ih
          simp (disch := omega) only [f_X12_publishedAt_L5, q_k hk, q_gR1 hk, q_gR2 hk, q_gR8 hk, q_gR11 hk, q_gR13 hk, q_gR14 hk, q_gR15 hk, q_gR16 hk, q_gI hk, q_pI hk, q_a hk, q_w hk, q_l hk, nW_add, nW_mul, nW_sub, nW_le, nW_lt, nW_inj, irem_nW, ix_nW, nW_lit, hR.1, n1, ↓reduceIte, Option.bind_some, sa, bindP, eq_false h, decide_false, zI_f, posI, ih, Option.some_or]
theorem ref_publishedAt {N : Mem} {V : VR} {s : Nat → Int32} {t : Nat → Int64} {ka : Nat} {l : Ls (Txt × Int32)} {x : Txt} (hk : KR N) (hl : l.1 ≤ 512) (hR : R_pu s t l) (hok : TaOk l) (hT : TB (V.2.1 ka) 0 x) (hx : okTx x) (hka : 1 ≤ ka ∧ ka < 13) (hka2 : KA ka = (14, 4)) (hka3 : ka ≠ 2) : f_X12_publishedAt 908 (908 + ka) (nW 0) (QW N V s t) = some (posI (taAt l x), QW N V s t) := by
  have := ref_publishedAt_L5 (N := N) (V := V) hk hl hR hok hT hx hka hka2 hka3 FU 0 none (by omega) (by simp only [FU]; omega) (fun k e => by cases e)
  simp only [posI, Option.none_or, Nat.sub_zero] at this
  simp only [f_X12_publishedAt, q_k hk, ↓reduceIte, lit_m1i, nW_lit, this]; rfl
def uTa (σ : Sg) (l : Ls (Txt × Int32)) : Sg := (σ.1, σ.2.1, σ.2.2.1, σ.2.2.2.1, l)
def uSc (σ : Sg) (sc : Nat → Int32) : Sg := (sc, σ.2)
theorem RSt_ta {s s' : Nat → Int32} {t t' : Nat → Int64} {σ : Sg} {l : Ls (Txt × Int32)} (h : RSt s t σ) (hs : ∀ i, i ≠ 17 → (i < 2118 ∨ 2718 ≤ i) → s' i = s i) (ht : ∀ i, i < 1400 → t' i = t i) (hR : R_pu s' t' l) (hl : l.1 ≤ 512) : RSt s' t' (uTa σ l) := by
  obtain ⟨h1, h2, ⟨a1, a2⟩, ⟨b1, b2⟩, _, d1, d2, d3, d4⟩ := h
  refine ⟨h1.fr (fun i hi => hs i (by omega) (by omega)), fun c hc => (h2 c hc).fr hc (fun i hi => hs i (by unfold cs at hi; omega) (by unfold cs at hi; omega)) (fun i hi => ht i (by unfold ct at hi; omega)), ⟨?_, ?_⟩, ⟨?_, ?_⟩, hR, d1, d2, hl, d4⟩
  · rw [hs 15 (by omega) (by omega)]; exact a1
  · intro j hj
    have d1' : (gRe σ).1 ≤ 8 := d1
    have hj' : j < (gRe σ).1 := hj
    obtain ⟨x1, x2, x3⟩ := a2 j hj
    rw [hs _ (by omega) (by omega), hs _ (by omega) (by omega)]
    exact ⟨x1, x2, x3.fr (fun k hk => ht _ (by omega))⟩
  · rw [hs 16 (by omega) (by omega)]; exact b1
  · intro j hj
    have d2' : (gSh σ).length ≤ 36 := d2
    have hj' : j < (gSh σ).length := hj
    exact (b2 j hj).fr (d4 j hj) (hs _ (by omega) (by omega)) (hs _ (by omega) (by omega)) (hs _ (by omega) (by omega)) (fun i hi => hs _ (by omega) (by omega)) (fun k hk => ht _ (by omega))
theorem RSt_sc {s s' : Nat → Int32} {t : Nat → Int64} {σ : Sg} {sc : Nat → Int32} (h : RSt s t σ) (hs : ∀ i, 15 ≤ i → s' i = s i) (hsc : R_sc s' sc) : RSt s' t (uSc σ sc) := by
  obtain ⟨h1, h2, h3⟩ := h
  exact ⟨hsc, fun c hc => (h2 c hc).fr hc (fun i hi => hs i (by unfold cs at hi; omega)) (fun _ _ => rfl), R_gl.fr (σ := uSc σ sc) h3 (fun i hi => hs i (by omega)) (fun _ _ => rfl)⟩
theorem RSt_tot {s : Nat → Int32} {t : Nat → Int64} {σ : Sg} (h : RSt s t σ) {i : Nat} (hi : i < 10) : RSt (fset s (5 + i) (s (5 + i) + nW 1)) t (uSc σ (tot (gSc σ) i)) := RSt_sc h (fun j hj => fset_ne _ _ (by omega)) (R_sc_tot h.1 hi)
theorem ref_counts {N : Mem} {V : VR} {s : Nat → Int32} {t : Nat → Int64} {σ : Sg} {x : Txt} (hk : KR N) (h : RSt s t σ) (hok : TaOk (gTa σ)) (hT : TB (V.2.1 9) 0 x) (hx : okTx x) (hl : (gTa σ).1 < 512) : ∃ s' t', f_X12_counts 908 (QW N V s t) = some (QW N V s' t') ∧ RSt s' t' (uSc (uTa σ (spCount (gTa σ) x)) (tot (gSc σ) 0)) := by
  have hR : R_pu s t (gTa σ) := h.2.2.2.2.1
  have e1 := ref_publishedAt (N := N) (V := V) (ka := 9) hk (by omega) hR hok hT hx (by omega) rfl (by omega)
  have m1 : (-1 : Int32) = -nW 1 := lit_m1i
  unfold spCount
  cases e : taAt (gTa σ) x with
  | some k =>
    rw [e] at e1
    obtain ⟨hk2, hk3⟩ := taAt_some e
    have nk : ¬ nW k = -nW 1 := nW_neg (by omega) (by omega) (by omega)
    have y1 := (hR.2 k hk2).1
    have H1 : RSt (fset s (2118 + k) (s (2118 + k) + nW 1)) t (uTa σ (lset (gTa σ) k (((gTa σ).2 k).1, ((gTa σ).2 k).2 + nW 1))) := by
      refine RSt_ta h (fun i a b => fset_ne _ _ (by omega)) (fun _ _ => rfl) ⟨by rw [fset_ne _ _ (by omega)]; exact hR.1, fun j hj => ?_⟩ (by show (gTa σ).1 ≤ 512; omega)
      have hj' : j < (gTa σ).1 := hj
      obtain ⟨z1, z2⟩ := hR.2 j hj'
      simp only [lset]
      by_cases q : j = k
      · subst q; rw [if_pos rfl, fset_eq, z1]; exact ⟨rfl, z2⟩
      · rw [if_neg q, fset_ne _ _ (by omega)]; exact ⟨z1, z2⟩
    have H2 := RSt_tot H1 (i := 0) (by omega)
    refine ⟨_, _, ?_, H2⟩
    have e1' : f_X12_publishedAt 908 917 (nW 0) (QW N V s t) = some (nW k, QW N V s t) := e1
    simp (disch := omega) only [f_X12_counts, f_X12_counts_J64, q_k hk, q_gR1 hk, q_gR2 hk, q_gR8 hk, q_gR11 hk, q_gR13 hk, q_gR14 hk, q_gR15 hk, q_gR16 hk, q_gI hk, q_pI hk, q_a hk, q_w hk, q_l hk, nW_add, nW_mul, nW_sub, nW_le, nW_lt, nW_inj, irem_nW, ix_nW, nW_lit, ↓reduceIte, Option.bind_some, e1', bindP, m1, nk, fset_ne]
  | none =>
    rw [e] at e1
    have e1' : f_X12_publishedAt 908 917 (nW 0) (QW N V s t) = some (-nW 1, QW N V s t) := e1
    have H1 : RSt (fset (fset (fset s (2118 + (gTa σ).1) (nW 0)) 17 (nW ((gTa σ).1 + 1))) (2118 + (gTa σ).1) (nW 0 + nW 1)) (blk t (1400 + 4 * (gTa σ).1) (fun x => V.2.1 9 (0 + x))) (uTa σ (lpush (gTa σ) (x, nW 1))) := by
      refine RSt_ta h (fun i a b => by simp (disch := omega) only [fset_ne]) (fun i hi => blk_out _ _ (by omega)) ⟨by simp (disch := omega) only [fset_ne, fset_eq, lpush], fun j hj => ?_⟩ (by simp only [lpush]; omega)
      simp only [lpush] at hj ⊢
      by_cases q : j = (gTa σ).1
      · subst q; rw [if_pos rfl]
        refine ⟨by rw [fset_eq]; rfl, TB.blk hT⟩
      · obtain ⟨z1, z2⟩ := hR.2 j (by omega)
        rw [if_neg q]
        refine ⟨by simp (disch := omega) only [fset_ne]; exact z1, z2.fr (fun k hk => blk_out _ _ (by omega))⟩
    have H2 := RSt_tot H1 (i := 0) (by omega)
    refine ⟨_, _, ?_, H2⟩
    have c17 := hR.1
    simp (disch := omega) only [f_X12_counts, f_X12_counts_J64, q_k hk, q_gR1 hk, q_gR2 hk, q_gR8 hk, q_gR11 hk, q_gR13 hk, q_gR14 hk, q_gR15 hk, q_gR16 hk, q_gI hk, q_pI hk, q_a hk, q_w hk, q_l hk, nW_add, nW_mul, nW_sub, nW_le, nW_lt, nW_inj, irem_nW, ix_nW, nW_lit, ↓reduceIte, Option.bind_some, e1', bindP, m1, c17, q_mv9 hk, fset_ne, fset_eq]
