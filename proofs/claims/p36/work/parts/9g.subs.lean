/-! SUBSCRIPTIONS of a session, in the class -/
def subP (l : Ls Row) (t : Txt) (gr : Int32) (j : Nat) : Bool := decide ((l.2 j).2 1 = gr) && decide ((l.2 j).1 = t)
def subAt (l : Ls Row) (t : Txt) (gr : Int32) : Option Nat := ffind (subP l t gr) l.1 0
def spGradeOf (l : Ls Row) (t : Txt) (gr : Int32) : Int32 := match subAt l t gr with
  | none => nW 0
  | some k => (l.2 k).2 2
def nown (o : Int32) : Bool := decide (¬ (o &&& nW 1) = nW 0)
def takes (r : Row) (t : Txt) (own : Bool) : Bool := decide (r.2 1 = nW 0) && (!(own && nown (r.2 3)) && spMatch r.1 t)
def bst (l : Ls Row) (t : Txt) (own : Bool) : Nat → Nat → Int32 → Int32
  | 0, _, b => b
  | n + 1, i, b => bst l t own n (i + 1) (if takes (l.2 i) t own = true then imaxE b ((l.2 i).2 2) else b)
def spBest (l : Ls Row) (t : Txt) (own : Bool) : Int32 := bst l t own l.1 0 (-nW 1)
def mkSu (t : Txt) (gr g o : Int32) : Row := (t, fun f => if f = 1 then gr else if f = 2 then g else if f = 3 then o else nW 0)
theorem lit_m1i : (-1 : Int32) = -nW 1 := by decide
theorem SubsR_at {M : Mem} {a : Nat} {l : Ls Row} (h : SubsR M a l) {j : Nat} (hj : j < l.1) : ∃ p, aR 22 a (nW j) M = some p ∧ (a + 1 ≤ p ∧ p < a + 7) ∧ SuR M p (l.2 j) := by
  obtain ⟨h1, p, h2, h3⟩ := h
  have h4 := h2.2.1 j (by omega)
  exact ⟨p j, by simp (disch := omega) only [aR, h2.1, ↓reduceIte, ix_nW, Option.bind_some, h4.1], h4.2.2, h3 j hj⟩
theorem SuR_get {M : Mem} {m : Nat} {r : Row} (h : SuR M m r) : gI 8 1 m M = some (r.2 1) ∧ gI 8 2 m M = some (r.2 2) ∧ gI 8 3 m M = some (r.2 3) ∧ ∃ x, gR 8 0 m M = some x ∧ TextR M x r.1 := by
  obtain ⟨a, ⟨b1, b2, b3⟩, x, c, d⟩ := h
  simp only [gI, gR, a, ↓reduceIte, b1, b2, b3, c]
  exact ⟨trivial, trivial, trivial, x, rfl, d⟩
theorem SeO_get {M : Mem} {s : Nat} {c : Cl} (h : SeO M s c) : (mK M s).1 = 5 ∧ gI 5 7 s M = some (nW (cL c 3).1) ∧ gR 5 6 s M = some (s + 2) := by
  obtain ⟨⟨h1, h2, h3, h4, h5⟩, a, b, d, e, f, g, i⟩ := h
  simp only [gI, gR, h1, ↓reduceIte, g, h3]
  exact ⟨trivial, trivial, trivial⟩
theorem X5_placeOf_L2 {M : Mem} {s x : Nat} {t : Txt} {c : Cl} (gr : Int32) (hE : SeO M s c) (hS : SubsR M (s + 2) (cL c 3)) (hx : TextR M x t) : ∀ n i, i ≤ (cL c 3).1 → (cL c 3).1 - i < n → f_X5_placeOf_L2 n s x gr (nW i) M = some (posI (ffind (subP (cL c 3) t gr) ((cL c 3).1 - i) i), M)
  | 0, i, _, hn => absurd hn (by omega)
  | n + 1, i, hi, hn => by
    have ih := X5_placeOf_L2 gr hE hS hx n (i + 1)
    obtain ⟨k1, k2, k3⟩ := SeO_get hE
    have l6 := hS.1
    by_cases he : i = (cL c 3).1
    · have n1 : (cL c 3).1 ≤ i := by omega
      rw [he, Nat.sub_self]
      simp (disch := omega) only [f_X5_placeOf_L2, k2, Option.bind_some, nW_le, Nat.le_refl, ↓reduceIte, ffind, posI, lit_m1i]
    · have n1 : ¬ (cL c 3).1 ≤ i := by omega
      have n2 : ¬ 6 ≤ i := by omega
      obtain ⟨p, e1, _, R⟩ := SubsR_at hS (show i < (cL c 3).1 by omega)
      obtain ⟨g1, g2, g3, y, g4, hy⟩ := SuR_get R
      have sa := X10_sameAs hy hx
      have i2 := ih (by omega) (by omega)
      rw [show (cL c 3).1 - i = ((cL c 3).1 - (i + 1)) + 1 by omega, ffind, subP]
      by_cases h1 : ((cL c 3).2 i).2 1 = gr
      · by_cases h2 : ((cL c 3).2 i).1 = t
        · have t1 : ¬ nW 1 = nW 0 := by decide
          simp (disch := omega) only [f_X5_placeOf_L2, k2, k3, Option.bind_some, nW_lit, nW_le, n1, n2, ↓reduceIte, e1, g1, eq_true h1, g4, sa, bindP, eq_true h2, decide_true, zI_t, t1, Bool.and_self, posI]
        · simp (disch := omega) only [f_X5_placeOf_L2, k2, k3, Option.bind_some, nW_lit, nW_le, nW_add, n1, n2, ↓reduceIte, e1, g1, eq_true h1, g4, sa, bindP, eq_false h2, decide_true, decide_false, zI_f, Bool.and_false, i2, Bool.false_eq_true]
      · simp (disch := omega) only [f_X5_placeOf_L2, k2, k3, Option.bind_some, nW_lit, nW_le, nW_add, n1, n2, ↓reduceIte, e1, g1, eq_false h1, decide_false, Bool.false_and, i2, Bool.false_eq_true]
theorem X5_placeOf {M : Mem} {s x : Nat} {t : Txt} {c : Cl} (gr : Int32) (hE : SeO M s c) (hS : SubsR M (s + 2) (cL c 3)) (hx : TextR M x t) : f_X5_placeOf s x gr M = some (posI (subAt (cL c 3) t gr), M) := by
  have := X5_placeOf_L2 gr hE hS hx FU 0 (by omega) (by have := hS.1; simp only [FU]; omega)
  simp only [f_X5_placeOf, hE.1.1, ↓reduceIte, nW_lit, this, Nat.sub_zero, subAt]
theorem subAt_lt {l : Ls Row} {t : Txt} {gr : Int32} {k : Nat} (h : subAt l t gr = some k) : k < l.1 ∧ (l.2 k).2 1 = gr ∧ (l.2 k).1 = t := by
  obtain ⟨_, h2, h3, _⟩ := ffind_some h
  rw [subP, Bool.and_eq_true, decide_eq_true_eq, decide_eq_true_eq] at h3
  exact ⟨by omega, h3⟩
theorem X5_gradeOf {M : Mem} {s x : Nat} {t : Txt} {c : Cl} (gr : Int32) (hE : SeO M s c) (hS : SubsR M (s + 2) (cL c 3)) (hx : TextR M x t) : f_X5_gradeOf s x gr M = some (spGradeOf (cL c 3) t gr, M) := by
  have h := X5_placeOf gr hE hS hx
  obtain ⟨k1, k2, k3⟩ := SeO_get hE
  have l6 := hS.1
  unfold spGradeOf
  cases e : subAt (cL c 3) t gr with
  | none =>
    rw [e] at h
    have np : ¬ nW 0 ≤ posI none := nW_m1
    simp only [f_X5_gradeOf, k1, ↓reduceIte, h, bindP, nW_lit, np]
  | some k =>
    rw [e] at h
    obtain ⟨hk, _⟩ := subAt_lt e
    obtain ⟨p, e1, _, R⟩ := SubsR_at hS hk
    have np : 0 ≤ k := by omega
    simp (disch := omega) only [f_X5_gradeOf, k1, ↓reduceIte, h, bindP, nW_lit, posI, nW_le, np, k3, Option.bind_some, e1, (SuR_get R).2.1]
theorem X5_greatest_L5 {M : Mem} {s x : Nat} {t : Txt} {c : Cl} (own : Bool) (hE : SeO M s c) (hS : SubsR M (s + 2) (cL c 3)) (hx : TextR M x t) : ∀ n i b, i ≤ (cL c 3).1 → (cL c 3).1 - i < n → f_X5_greatestGrade_L5 n s x (zI own) b (nW i) M = some (bst (cL c 3) t own ((cL c 3).1 - i) i b, M)
  | 0, i, b, _, hn => absurd hn (by omega)
  | n + 1, i, b, hi, hn => by
    have ih := fun b => X5_greatest_L5 own hE hS hx n (i + 1) b
    obtain ⟨k1, k2, k3⟩ := SeO_get hE
    have l6 := hS.1
    by_cases he : i = (cL c 3).1
    · have n1 : (cL c 3).1 ≤ i := by omega
      rw [he, Nat.sub_self]
      simp (disch := omega) only [f_X5_greatestGrade_L5, k2, Option.bind_some, nW_le, Nat.le_refl, ↓reduceIte, bst]
    · have n1 : ¬ (cL c 3).1 ≤ i := by omega
      have n2 : ¬ 6 ≤ i := by omega
      obtain ⟨p, e1, _, R⟩ := SubsR_at hS (show i < (cL c 3).1 by omega)
      obtain ⟨g1, g2, g3, y, g4, hy⟩ := SuR_get R
      have sm := X10_matches hy hx
      have i2 := fun b => ih b (by omega) (by omega)
      rw [show (cL c 3).1 - i = ((cL c 3).1 - (i + 1)) + 1 by omega, bst]
      have t1 : ¬ nW 1 = nW 0 := by decide
      have hJ : ∀ z, z = nW 0 ∨ z = nW 1 → z = zI (own && nown (((cL c 3).2 i).2 3)) → f_X5_greatestGrade_J49 (f_X5_greatestGrade_L5 n) s x (zI own) b (nW i) p z M = some (bst (cL c 3) t own ((cL c 3).1 - (i + 1)) (i + 1) (if takes ((cL c 3).2 i) t own = true then imaxE b (((cL c 3).2 i).2 2) else b), M) := by
        intro z hz0 hz
        subst hz
        unfold takes
        by_cases h1 : ((cL c 3).2 i).2 1 = nW 0
        · cases hb : (own && nown (((cL c 3).2 i).2 3)) with
          | true => simp (disch := omega) only [f_X5_greatestGrade_J49, nW_lit, nW_add, g1, Option.bind_some, eq_true h1, ↓reduceIte, zI_t, t1, i2, decide_true, Bool.not_true, Bool.false_and, Bool.and_false, Bool.false_eq_true]
          | false =>
            cases hm : spMatch ((cL c 3).2 i).1 t with
            | true => simp (disch := omega) only [f_X5_greatestGrade_J49, nW_lit, nW_add, g1, Option.bind_some, eq_true h1, ↓reduceIte, zI_f, g4, sm, hm, bindP, zI_t, t1, g2, i2, decide_true, Bool.not_false, Bool.and_self]
            | false => simp (disch := omega) only [f_X5_greatestGrade_J49, nW_lit, nW_add, g1, Option.bind_some, eq_true h1, ↓reduceIte, zI_f, g4, sm, hm, bindP, i2, decide_true, Bool.not_false, Bool.and_false, Bool.false_eq_true]
        · simp (disch := omega) only [f_X5_greatestGrade_J49, nW_lit, nW_add, g1, Option.bind_some, eq_false h1, ↓reduceIte, i2, decide_false, Bool.false_and, Bool.false_eq_true]
      cases own with
      | false =>
        have j := hJ (nW 0) (Or.inl rfl) (by rw [Bool.false_and, zI_f])
        rw [zI_f] at j
        simp (disch := omega) only [f_X5_greatestGrade_L5, f_X5_greatestGrade_J48, k2, k3, Option.bind_some, nW_lit, nW_le, n1, n2, ↓reduceIte, e1, zI_f, j]
      | true =>
        by_cases ho : (((cL c 3).2 i).2 3 &&& nW 1) = nW 0
        · have j := hJ (nW 0) (Or.inl rfl) (by simp [nown, ho, zI_f])
          rw [zI_t] at j
          simp (disch := omega) only [f_X5_greatestGrade_L5, f_X5_greatestGrade_J48, k2, k3, Option.bind_some, nW_lit, nW_le, n1, n2, ↓reduceIte, e1, zI_t, t1, g3, eq_true ho, j]
        · have j := hJ (nW 1) (Or.inr rfl) (by simp [nown, ho, zI_t])
          rw [zI_t] at j
          simp (disch := omega) only [f_X5_greatestGrade_L5, f_X5_greatestGrade_J48, k2, k3, Option.bind_some, nW_lit, nW_le, n1, n2, ↓reduceIte, e1, zI_t, t1, g3, eq_false ho, j]
theorem X5_greatest {M : Mem} {s x : Nat} {t : Txt} {c : Cl} (own : Bool) (hE : SeO M s c) (hS : SubsR M (s + 2) (cL c 3)) (hx : TextR M x t) : f_X5_greatestGrade s x (zI own) M = some (spBest (cL c 3) t own, M) := by
  have := X5_greatest_L5 own hE hS hx FU 0 (-nW 1) (by omega) (by have := hS.1; simp only [FU]; omega)
  simp only [f_X5_greatestGrade, hE.1.1, ↓reduceIte, lit_m1i, nW_lit, this, Nat.sub_zero, spBest]
