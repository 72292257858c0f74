/-! SUBSCRIPTIONS AND SHARES READ, in the reference -/
def SubOk (l : Ls Row) : Prop := ∀ j, j < l.1 → okTx (l.2 j).1 ∧ (∃ n, n ≤ 3 ∧ (l.2 j).2 1 = nW n) ∧ (∃ n, n ≤ 2 ∧ (l.2 j).2 2 = nW n) ∧ ∃ n, n ≤ 7 ∧ (l.2 j).2 3 = nW n
def SubDi (l : Ls Row) : Prop := ∀ i j, i < l.1 → j < l.1 → (l.2 i).1 = (l.2 j).1 → (l.2 i).2 1 = (l.2 j).2 1 → i = j
def ShTx (l : List Sh) : Prop := ∀ x ∈ l, okTx x.1 ∧ ∃ n, 1 ≤ n ∧ n ≤ 3 ∧ x.2.1 = nW n
def shKey (x : Sh) : Txt × Int32 := (x.1, x.2.1)
def ShDi (l : List Sh) : Prop := (l.map shKey).Nodup
theorem nown_n {n : Nat} (h : n ≤ 7) : nown (nW n) = decide (n % 2 = 1) := by
  have : n = 0 ∨ n = 1 ∨ n = 2 ∨ n = 3 ∨ n = 4 ∨ n = 5 ∨ n = 6 ∨ n = 7 := by omega
  rcases this with e | e | e | e | e | e | e | e <;> subst e <;> decide
theorem sub_flat {c m j : Nat} : 6 * c + m ≤ 6 * c + j ↔ m ≤ j := by omega
theorem ref_bestOf_L8 {N : Mem} {V : VR} {s : Nat → Int32} {t : Nat → Int64} (hk : KR N) {c p : Nat} {l : Ls Row} {tx : Txt} (hc : c < 6) (hp : p < 6) (hl : l.1 ≤ 6) (h1 : s (50 + c) = nW l.1) (h2 : R_su s t c l) (hok : SubOk l) (hT : TB (V.2.1 9) 0 tx) (ht : okTx tx) (htop : topical tx) : ∀ n j b, j ≤ l.1 → l.1 - j < n → f_X12_bestOf_L8 n 908 (nW c) (nW p) b (nW (6 * c + j)) (QW N V s t) = some (bst l tx (decide (c = p)) (l.1 - j) j b, QW N V s t)
  | 0, j, b, _, hn => absurd hn (by omega)
  | n + 1, j, b, hj, hn => by
    have ih := fun b => ref_bestOf_L8 hk hc hp hl h1 h2 hok hT ht htop n (j + 1) b
    by_cases he : j = l.1
    · have n1 : 6 * c + l.1 ≤ 6 * c + j := by omega
      rw [he, Nat.sub_self]
      simp (disch := omega) only [f_X12_bestOf_L8, q_k hk, q_gR1 hk, q_gR2 hk, q_gR8 hk, q_gR11 hk, q_gR13 hk, q_gR14 hk, q_gR15 hk, q_gR16 hk, q_gI hk, q_pI hk, q_a hk, q_w hk, q_l hk, nW_add, nW_mul, nW_sub, nW_le, nW_lt, nW_inj, irem_nW, ix_nW, nW_lit, h1, Nat.le_refl, ↓reduceIte, Option.bind_some, bst]
    · have n1 : ¬ 6 * c + l.1 ≤ 6 * c + j := by omega
      obtain ⟨y1, y2, y3, y4, y5⟩ := h2 j (by omega)
      obtain ⟨o1, ⟨g, g1, g2⟩, _, ⟨o, o2, o3⟩⟩ := hok j (by omega)
      have sm := ref_matches (N := N) (V := VS V s t) (i := 24 + 4 * (6 * c + j)) hk (by omega) y5 hT o1 ht htop
      have i2 := fun b => ih b (by omega) (by omega)
      have a1 : 6 * c + j + 1 = 6 * c + (j + 1) := by omega
      rw [show l.1 - j = (l.1 - (j + 1)) + 1 by omega, bst]
      have t1 : ¬ nW 1 = nW 0 := by decide
      have hno : ∀ b', b' = b → f_X12_bestOf_J82 (f_X12_bestOf_L8 n) 908 (nW c) (nW p) b (nW (6 * c + j)) (QW N V s t) = some (bst l tx (decide (c = p)) (l.1 - (j + 1)) (j + 1) b', QW N V s t) := by
        intro b' hb; subst hb
        simp (disch := omega) only [f_X12_bestOf_J82, f_X12_bestOf_J83, nW_lit, nW_add, ↓reduceIte, a1, i2]
      have hyes : (l.2 j).2 1 = nW 0 → (decide (c = p) && nown ((l.2 j).2 3)) = false → f_X12_bestOf_J63 (f_X12_bestOf_L8 n) 908 (nW c) (nW p) b (nW (6 * c + j)) (QW N V s t) = some (bst l tx (decide (c = p)) (l.1 - (j + 1)) (j + 1) (if takes (l.2 j) tx (decide (c = p)) = true then imaxE b ((l.2 j).2 2) else b), QW N V s t) := by
        intro hg hb
        unfold takes
        rw [decide_eq_true hg, hb]
        by_cases hle : (l.2 j).2 2 ≤ b
        · have em : imaxE b ((l.2 j).2 2) = b := by unfold imaxE; rw [if_neg (Int32.not_lt.mpr hle)]
          have := hno b rfl
          simp (disch := omega) only [f_X12_bestOf_J63, q_k hk, q_gR1 hk, q_gR2 hk, q_gR8 hk, q_gR11 hk, q_gR13 hk, q_gR14 hk, q_gR15 hk, q_gR16 hk, q_gI hk, q_pI hk, q_a hk, q_w hk, q_l hk, nW_add, nW_mul, nW_sub, nW_le, nW_lt, nW_inj, irem_nW, ix_nW, nW_lit, Option.bind_some, y1, hle, ↓reduceIte, this, em, ite_self]
        · have em : imaxE b ((l.2 j).2 2) = (l.2 j).2 2 := by unfold imaxE; rw [if_pos (Int32.not_le.mp hle)]
          cases hm : spMatch (l.2 j).1 tx with
          | true =>
            rw [hm] at sm
            simp (disch := omega) only [f_X12_bestOf_J63, f_X12_bestOf_J83, q_k hk, q_gR1 hk, q_gR2 hk, q_gR8 hk, q_gR11 hk, q_gR13 hk, q_gR14 hk, q_gR15 hk, q_gR16 hk, q_gI hk, q_pI hk, q_a hk, q_w hk, q_l hk, nW_add, nW_mul, nW_sub, nW_le, nW_lt, nW_inj, irem_nW, ix_nW, nW_lit, Option.bind_some, y1, y4, hle, ↓reduceIte, t1, zI_t, bindP, a1, i2, em, Bool.not_false, Bool.and_self]
            rw [show QW N V s t = RW N (VS V s t) from rfl, sm]
            simp (disch := omega) only [zI_t, t1, ↓reduceIte]
            rw [show RW N (VS V s t) = QW N V s t from rfl]
            simp (disch := omega) only [q_k hk, q_gR1 hk, q_gR2 hk, q_gR8 hk, q_gR11 hk, q_gR13 hk, q_gR14 hk, q_gR15 hk, q_gR16 hk, q_gI hk, q_pI hk, q_a hk, q_w hk, q_l hk, nW_add, nW_mul, nW_sub, nW_le, nW_lt, nW_inj, irem_nW, ix_nW, nW_lit, Option.bind_some, y1, a1, i2]
          | false =>
            rw [hm] at sm
            simp (disch := omega) only [f_X12_bestOf_J63, f_X12_bestOf_J83, q_k hk, q_gR1 hk, q_gR2 hk, q_gR8 hk, q_gR11 hk, q_gR13 hk, q_gR14 hk, q_gR15 hk, q_gR16 hk, q_gI hk, q_pI hk, q_a hk, q_w hk, q_l hk, nW_add, nW_mul, nW_sub, nW_le, nW_lt, nW_inj, irem_nW, ix_nW, nW_lit, Option.bind_some, y1, y4, hle, ↓reduceIte, t1, bindP, a1, Bool.and_false, Bool.false_eq_true]
            rw [show QW N V s t = RW N (VS V s t) from rfl, sm]
            simp (disch := omega) only [zI_f, ↓reduceIte]
            rw [show RW N (VS V s t) = QW N V s t from rfl, i2]
      have tk0 : ¬ (l.2 j).2 1 = nW 0 → takes (l.2 j) tx (decide (c = p)) = false := fun h => by unfold takes; rw [decide_eq_false h, Bool.false_and]
      by_cases hg : (l.2 j).2 1 = nW 0
      · by_cases hcp : c = p
        · subst hcp
          have eo := nown_n o2
          rw [← o3] at eo
          by_cases hodd : o % 2 = 1
          · have hbar : nown ((l.2 j).2 3) = true := by rw [eo]; exact decide_eq_true hodd
            have tk : takes (l.2 j) tx (decide (c = c)) = false := by unfold takes; rw [hbar]; simp
            have := hno b rfl
            rw [tk]
            simp (disch := omega) only [f_X12_bestOf_L8, q_k hk, q_gR1 hk, q_gR2 hk, q_gR8 hk, q_gR11 hk, q_gR13 hk, q_gR14 hk, q_gR15 hk, q_gR16 hk, q_gI hk, q_pI hk, q_a hk, q_w hk, q_l hk, nW_add, nW_mul, nW_sub, nW_le, nW_lt, nW_inj, irem_nW, ix_nW, nW_lit, h1, n1, ↓reduceIte, Option.bind_some, y2, eq_true hg, y3, o3, hodd, this, Bool.false_eq_true]
          · have hbar : (decide (c = c) && nown ((l.2 j).2 3)) = false := by rw [eo, decide_eq_false hodd, Bool.and_false]
            have := hyes hg hbar
            simp (disch := omega) only [f_X12_bestOf_L8, q_k hk, q_gR1 hk, q_gR2 hk, q_gR8 hk, q_gR11 hk, q_gR13 hk, q_gR14 hk, q_gR15 hk, q_gR16 hk, q_gI hk, q_pI hk, q_a hk, q_w hk, q_l hk, nW_add, nW_mul, nW_sub, nW_le, nW_lt, nW_inj, irem_nW, ix_nW, nW_lit, h1, n1, ↓reduceIte, Option.bind_some, y2, eq_true hg, y3, o3, hodd, this]
        · have hbar : (decide (c = p) && nown ((l.2 j).2 3)) = false := by rw [decide_eq_false hcp, Bool.false_and]
          have := hyes hg hbar
          simp (disch := omega) only [f_X12_bestOf_L8, q_k hk, q_gR1 hk, q_gR2 hk, q_gR8 hk, q_gR11 hk, q_gR13 hk, q_gR14 hk, q_gR15 hk, q_gR16 hk, q_gI hk, q_pI hk, q_a hk, q_w hk, q_l hk, nW_add, nW_mul, nW_sub, nW_le, nW_lt, nW_inj, irem_nW, ix_nW, nW_lit, h1, n1, ↓reduceIte, Option.bind_some, y2, eq_true hg, hcp, this]
      · have := hno b rfl
        rw [tk0 hg]
        simp (disch := omega) only [f_X12_bestOf_L8, q_k hk, q_gR1 hk, q_gR2 hk, q_gR8 hk, q_gR11 hk, q_gR13 hk, q_gR14 hk, q_gR15 hk, q_gR16 hk, q_gI hk, q_pI hk, q_a hk, q_w hk, q_l hk, nW_add, nW_mul, nW_sub, nW_le, nW_lt, nW_inj, irem_nW, ix_nW, nW_lit, h1, n1, ↓reduceIte, Option.bind_some, y2, eq_false hg, this, Bool.false_eq_true]
theorem ref_bestOf {N : Mem} {V : VR} {s : Nat → Int32} {t : Nat → Int64} {c p : Nat} {l : Ls Row} {tx : Txt} (hk : KR N) (hc : c < 6) (hp : p < 6) (hl : l.1 ≤ 6) (h1 : s (50 + c) = nW l.1) (h2 : R_su s t c l) (hok : SubOk l) (hT : TB (V.2.1 9) 0 tx) (ht : okTx tx) (htop : topical tx) : f_X12_bestOf 908 (nW c) (nW p) (QW N V s t) = some (spBest l tx (decide (c = p)), QW N V s t) := by
  have := ref_bestOf_L8 (N := N) (V := V) hk hc hp hl h1 h2 hok hT ht htop FU 0 (-nW 1) (by omega) (by simp only [FU]; omega)
  rw [Nat.add_zero, Nat.sub_zero] at this
  simp only [f_X12_bestOf, q_k hk, ↓reduceIte, lit_m1i, nW_lit, nW_mul, this, spBest]
/-- a subscription held against a share -/
theorem ref_isShareOf {N : Mem} {V : VR} {s : Nat → Int32} {t : Nat → Int64} {k h : Nat} {c : Int32} {r : Row} {x : Sh} (hk : KR N) (hk2 : k < 36) (hh : h < 36) (s1 : s (446 + k) = r.2 1) (s2 : s (1794 + h) = x.2.1) (t1 : TB t (24 + 4 * k) r.1) (t2 : TB t (1256 + 4 * h) x.1) (o1 : okTx r.1) (o2 : okTx x.1) : f_X12_isShareOf 908 (nW k) c (nW h) (QW N V s t) = some (zI (decide (x.2.1 = r.2 1) && decide (x.1 = r.1)), QW N V s t) := by
  have A := LB_of (k := 2) (n := 3800) (i := 24 + 4 * k) (V := VS V s t) hk (by omega) rfl (by omega) (by omega) t1
  have B := LB_of (k := 2) (n := 3800) (i := 1256 + 4 * h) (V := VS V s t) hk (by omega) rfl (by omega) (by omega) t2
  have sa : f_X12_isSame 910 (nW (24 + 4 * k)) 910 (nW (1256 + 4 * h)) (QW N V s t) = some (zI (decide (r.1 = x.1)), QW N V s t) := ref_isSame A B o1 o2
  by_cases e1 : r.2 1 = x.2.1
  · by_cases e2 : r.1 = x.1
    · have t1 : ¬ nW 1 = nW 0 := by decide
      simp (disch := omega) only [f_X12_isShareOf, q_k hk, q_gR1 hk, q_gR2 hk, q_gR8 hk, q_gR11 hk, q_gR13 hk, q_gR14 hk, q_gR15 hk, q_gR16 hk, q_gI hk, q_pI hk, q_a hk, q_w hk, q_l hk, nW_add, nW_mul, nW_sub, nW_le, nW_lt, nW_inj, irem_nW, ix_nW, nW_lit, ↓reduceIte, Option.bind_some, s1, s2, eq_true e1, sa, bindP, eq_true e2, decide_true, zI_t, t1, okZ_1, eq_true e1.symm, eq_true e2.symm, Bool.and_self]
    · simp (disch := omega) only [f_X12_isShareOf, q_k hk, q_gR1 hk, q_gR2 hk, q_gR8 hk, q_gR11 hk, q_gR13 hk, q_gR14 hk, q_gR15 hk, q_gR16 hk, q_gI hk, q_pI hk, q_a hk, q_w hk, q_l hk, nW_add, nW_mul, nW_sub, nW_le, nW_lt, nW_inj, irem_nW, ix_nW, nW_lit, ↓reduceIte, Option.bind_some, s1, s2, eq_true e1, sa, bindP, eq_false e2, decide_false, zI_f, okZ_0, eq_false (fun h => e2 (Eq.symm h)), Bool.and_false]
  · simp (disch := omega) only [f_X12_isShareOf, q_k hk, q_gR1 hk, q_gR2 hk, q_gR8 hk, q_gR11 hk, q_gR13 hk, q_gR14 hk, q_gR15 hk, q_gR16 hk, q_gI hk, q_pI hk, q_a hk, q_w hk, q_l hk, nW_add, nW_mul, nW_sub, nW_le, nW_lt, nW_inj, irem_nW, ix_nW, nW_lit, ↓reduceIte, Option.bind_some, s1, s2, eq_false e1, okZ_0, eq_false (fun h => e1 (Eq.symm h)), decide_false, Bool.false_and, zI_f]
theorem ffind_last {p : Nat → Bool} {m n : Nat} (hd : ∀ i j, i < n → j < n → p i = true → p j = true → i = j) {k : Nat} (hk : k < n) (hp : p k = true) : ffind p n 0 = some k := ffind_is (by omega) (by omega) hp (fun j _ hj => by
  cases e : p j with
  | false => rfl
  | true => have := hd j k (by omega) hk e hp; omega)
def grd (l : Ls Row) (a : Option Nat) : Int32 := match a with
  | none => nW 0
  | some k => (l.2 k).2 2
theorem spGradeOf_grd (l : Ls Row) (t : Txt) (g : Int32) : spGradeOf l t g = grd l (subAt l t g) := rfl
/-- the grade within a share -/
theorem ref_gradeIn_L8 {N : Mem} {V : VR} {s : Nat → Int32} {t : Nat → Int64} (hk : KR N) {c h : Nat} {l : Ls Row} {x : Sh} (hc : c < 6) (hh : h < 36) (hl : l.1 ≤ 6) (h1 : s (50 + c) = nW l.1) (h2 : R_su s t c l) (hok : SubOk l) (s2 : s (1794 + h) = x.2.1) (t2 : TB t (1256 + 4 * h) x.1) (o2 : okTx x.1) (hdi : SubDi l) : ∀ n j a, j ≤ l.1 → l.1 - j < n → (∀ k, a = some k → k < j ∧ subP l x.1 x.2.1 k = true) → f_X12_gradeIn_L8 n 908 (nW h) (nW c) (grd l a) (nW (6 * c + j)) (QW N V s t) = some (grd l (a.or (ffind (subP l x.1 x.2.1) (l.1 - j) j)), QW N V s t)
  | 0, j, a, _, hn, _ => absurd hn (by omega)
  | n + 1, j, a, hj, hn, ha => by
    by_cases he : j = l.1
    · rw [he, Nat.sub_self]
      cases a with
      | none => simp (disch := omega) only [f_X12_gradeIn_L8, q_k hk, q_gR1 hk, q_gR2 hk, q_gR8 hk, q_gR11 hk, q_gR13 hk, q_gR14 hk, q_gR15 hk, q_gR16 hk, q_gI hk, q_pI hk, q_a hk, q_w hk, q_l hk, nW_add, nW_mul, nW_sub, nW_le, nW_lt, nW_inj, irem_nW, ix_nW, nW_lit, h1, Nat.le_refl, ↓reduceIte, Option.bind_some, ffind, Option.none_or, grd]
      | some k => simp (disch := omega) only [f_X12_gradeIn_L8, q_k hk, q_gR1 hk, q_gR2 hk, q_gR8 hk, q_gR11 hk, q_gR13 hk, q_gR14 hk, q_gR15 hk, q_gR16 hk, q_gI hk, q_pI hk, q_a hk, q_w hk, q_l hk, nW_add, nW_mul, nW_sub, nW_le, nW_lt, nW_inj, irem_nW, ix_nW, nW_lit, h1, Nat.le_refl, ↓reduceIte, Option.bind_some, Option.some_or]
    · have n1 : ¬ 6 * c + l.1 ≤ 6 * c + j := by omega
      obtain ⟨y1, y2, y3, y4, y5⟩ := h2 j (by omega)
      obtain ⟨o1, _⟩ := hok j (by omega)
      have sa := ref_isShareOf (N := N) (V := V) (c := nW c) hk (show 6 * c + j < 36 by omega) hh y2 s2 y5 t2 o1 o2
      have a1 : 6 * c + j + 1 = 6 * c + (j + 1) := by omega
      have t1 : ¬ nW 1 = nW 0 := by decide
      have ep : (decide (x.2.1 = (l.2 j).2 1) && decide (x.1 = (l.2 j).1)) = subP l x.1 x.2.1 j := by
        unfold subP
        have e1 : decide (x.2.1 = (l.2 j).2 1) = decide ((l.2 j).2 1 = x.2.1) := decide_eq_decide.mpr ⟨Eq.symm, Eq.symm⟩
        have e2 : decide (x.1 = (l.2 j).1) = decide ((l.2 j).1 = x.1) := decide_eq_decide.mpr ⟨Eq.symm, Eq.symm⟩
        rw [e1, e2]
      rw [ep] at sa
      rw [show l.1 - j = (l.1 - (j + 1)) + 1 by omega]
      cases hp : subP l x.1 x.2.1 j with
      | true =>
        rw [hp, zI_t] at sa
        cases a with
        | none =>
          have ih := ref_gradeIn_L8 (V := V) hk hc hh hl h1 h2 hok s2 t2 o2 hdi n (j + 1) (some j) (by omega) (by omega) (fun k e => by cases e; exact ⟨by omega, hp⟩)
          simp only [grd, Option.none_or, Option.some_or] at ih
          simp (disch := omega) only [f_X12_gradeIn_L8, q_k hk, q_gR1 hk, q_gR2 hk, q_gR8 hk, q_gR11 hk, q_gR13 hk, q_gR14 hk, q_gR15 hk, q_gR16 hk, q_gI hk, q_pI hk, q_a hk, q_w hk, q_l hk, nW_add, nW_mul, nW_sub, nW_le, nW_lt, nW_inj, irem_nW, ix_nW, nW_lit, h1, n1, ↓reduceIte, Option.bind_some, sa, bindP, t1, y1, a1, ih, ffind, hp, grd, Option.none_or]
        | some k =>
          have h3 := ha k rfl
          have h4 := hp
          rw [subP, Bool.and_eq_true, decide_eq_true_eq, decide_eq_true_eq] at h4
          have h5 := h3.2
          rw [subP, Bool.and_eq_true, decide_eq_true_eq, decide_eq_true_eq] at h5
          have := hdi k j (by omega) (by omega) (h5.2.trans h4.2.symm) (h5.1.trans h4.1.symm)
          omega
      | false =>
        rw [hp, zI_f] at sa
        have ih := ref_gradeIn_L8 (V := V) hk hc hh hl h1 h2 hok s2 t2 o2 hdi n (j + 1) a (by omega) (by omega) (fun k e => ⟨by have := (ha k e).1; omega, (ha k e).2⟩)
        cases a with
        | none =>
          simp only [grd, Option.none_or, Option.some_or] at ih
          simp (disch := omega) only [f_X12_gradeIn_L8, q_k hk, q_gR1 hk, q_gR2 hk, q_gR8 hk, q_gR11 hk, q_gR13 hk, q_gR14 hk, q_gR15 hk, q_gR16 hk, q_gI hk, q_pI hk, q_a hk, q_w hk, q_l hk, nW_add, nW_mul, nW_sub, nW_le, nW_lt, nW_inj, irem_nW, ix_nW, nW_lit, h1, n1, ↓reduceIte, Option.bind_some, sa, bindP, a1, ih, ffind, hp, Bool.false_eq_true, grd, Option.none_or]
        | some k =>
          simp only [grd, Option.none_or, Option.some_or] at ih
          simp (disch := omega) only [f_X12_gradeIn_L8, q_k hk, q_gR1 hk, q_gR2 hk, q_gR8 hk, q_gR11 hk, q_gR13 hk, q_gR14 hk, q_gR15 hk, q_gR16 hk, q_gI hk, q_pI hk, q_a hk, q_w hk, q_l hk, nW_add, nW_mul, nW_sub, nW_le, nW_lt, nW_inj, irem_nW, ix_nW, nW_lit, h1, n1, ↓reduceIte, Option.bind_some, sa, bindP, a1, ih, grd, Option.some_or]
theorem ref_gradeIn {N : Mem} {V : VR} {s : Nat → Int32} {t : Nat → Int64} {c h : Nat} {l : Ls Row} {x : Sh} (hk : KR N) (hc : c < 6) (hh : h < 36) (hl : l.1 ≤ 6) (h1 : s (50 + c) = nW l.1) (h2 : R_su s t c l) (hok : SubOk l) (s2 : s (1794 + h) = x.2.1) (t2 : TB t (1256 + 4 * h) x.1) (o2 : okTx x.1) (hdi : SubDi l) : f_X12_gradeIn 908 (nW h) (nW c) (QW N V s t) = some (spGradeOf l x.1 x.2.1, QW N V s t) := by
  have := ref_gradeIn_L8 (N := N) (V := V) hk hc hh hl h1 h2 hok s2 t2 o2 hdi FU 0 none (by omega) (by simp only [FU]; omega) (fun k e => by cases e)
  rw [Nat.add_zero, Nat.sub_zero] at this
  rw [spGradeOf_grd]
  simp only [f_X12_gradeIn, q_k hk, ↓reduceIte, nW_lit, nW_mul]
  exact this
/-- the place of a subscription -/
def posK (b : Nat) (o : Option Nat) : Int32 := match o with
  | none => -nW 1
  | some k => nW (b + k)
theorem ref_placeOf_L8 {N : Mem} {V : VR} {s : Nat → Int32} {t : Nat → Int64} (hk : KR N) {c : Nat} {l : Ls Row} {tx : Txt} (gr : Int32) (hc : c < 6) (hl : l.1 ≤ 6) (h1 : s (50 + c) = nW l.1) (h2 : R_su s t c l) (hok : SubOk l) (hT : TB (V.2.1 8) 0 tx) (ht : okTx tx) (hdi : SubDi l) : ∀ n j a, j ≤ l.1 → l.1 - j < n → (∀ k, a = some k → k < j ∧ subP l tx gr k = true) → f_X12_placeOf_L8 n 908 (nW c) gr (posK (6 * c) a) (nW (6 * c + j)) (QW N V s t) = some (posK (6 * c) (a.or (ffind (subP l tx gr) (l.1 - j) j)), QW N V s t)
  | 0, j, a, _, hn, _ => absurd hn (by omega)
  | n + 1, j, a, hj, hn, ha => by
    by_cases he : j = l.1
    · rw [he, Nat.sub_self]
      cases a with
      | none => simp (disch := omega) only [f_X12_placeOf_L8, q_k hk, q_gR1 hk, q_gR2 hk, q_gR8 hk, q_gR11 hk, q_gR13 hk, q_gR14 hk, q_gR15 hk, q_gR16 hk, q_gI hk, q_pI hk, q_a hk, q_w hk, q_l hk, nW_add, nW_mul, nW_sub, nW_le, nW_lt, nW_inj, irem_nW, ix_nW, nW_lit, h1, Nat.le_refl, ↓reduceIte, Option.bind_some, ffind, Option.none_or]
      | some k => simp (disch := omega) only [f_X12_placeOf_L8, q_k hk, q_gR1 hk, q_gR2 hk, q_gR8 hk, q_gR11 hk, q_gR13 hk, q_gR14 hk, q_gR15 hk, q_gR16 hk, q_gI hk, q_pI hk, q_a hk, q_w hk, q_l hk, nW_add, nW_mul, nW_sub, nW_le, nW_lt, nW_inj, irem_nW, ix_nW, nW_lit, h1, Nat.le_refl, ↓reduceIte, Option.bind_some, Option.some_or]
    · have n1 : ¬ 6 * c + l.1 ≤ 6 * c + j := by omega
      obtain ⟨y1, y2, y3, y4, y5⟩ := h2 j (by omega)
      obtain ⟨o1, _⟩ := hok j (by omega)
      have A := LB_of (k := 2) (n := 3800) (i := 24 + 4 * (6 * c + j)) (V := VS V s t) hk (by omega) rfl (by omega) (by omega) y5
      have B := LB_of (k := 8) (n := 4) (i := 0) (V := VS V s t) hk (by omega) rfl (by omega) (by omega) hT
      have sa : f_X12_isSame 910 (nW (24 + 4 * (6 * c + j))) 916 (nW 0) (QW N V s t) = some (zI (decide ((l.2 j).1 = tx)), QW N V s t) := ref_isSame A B o1 ht
      have a1 : 6 * c + j + 1 = 6 * c + (j + 1) := by omega
      have t1 : ¬ nW 1 = nW 0 := by decide
      rw [show l.1 - j = (l.1 - (j + 1)) + 1 by omega]
      have hno : subP l tx gr j = false → f_X12_placeOf_L8 n 908 (nW c) gr (posK (6 * c) a) (nW (6 * c + (j + 1))) (QW N V s t) = some (posK (6 * c) (a.or (ffind (subP l tx gr) ((l.1 - (j + 1)) + 1) j)), QW N V s t) := by
        intro hp
        have ih := ref_placeOf_L8 (V := V) hk gr hc hl h1 h2 hok hT ht hdi n (j + 1) a (by omega) (by omega) (fun k e => ⟨by have := (ha k e).1; omega, (ha k e).2⟩)
        rw [ih]
        cases a with
        | none => simp only [ffind, hp, Bool.false_eq_true, ↓reduceIte, Option.none_or]
        | some k => rfl
      by_cases e1 : (l.2 j).2 1 = gr
      · by_cases e2 : (l.2 j).1 = tx
        · have hp : subP l tx gr j = true := by unfold subP; rw [decide_eq_true e1, decide_eq_true e2]; rfl
          cases a with
          | none =>
            have ih := ref_placeOf_L8 (V := V) hk gr hc hl h1 h2 hok hT ht hdi n (j + 1) (some j) (by omega) (by omega) (fun k e => by cases e; exact ⟨by omega, hp⟩)
            simp only [posK, Option.some_or] at ih
            simp (disch := omega) only [f_X12_placeOf_L8, q_k hk, q_gR1 hk, q_gR2 hk, q_gR8 hk, q_gR11 hk, q_gR13 hk, q_gR14 hk, q_gR15 hk, q_gR16 hk, q_gI hk, q_pI hk, q_a hk, q_w hk, q_l hk, nW_add, nW_mul, nW_sub, nW_le, nW_lt, nW_inj, irem_nW, ix_nW, nW_lit, h1, n1, ↓reduceIte, Option.bind_some, y2, eq_true e1, sa, bindP, eq_true e2, decide_true, zI_t, t1, a1, posK, ih, ffind, hp, Option.none_or]
          | some k =>
            have h5 := (ha k rfl).2
            rw [subP, Bool.and_eq_true, decide_eq_true_eq, decide_eq_true_eq] at h5
            have := hdi k j (by have := (ha k rfl).1; omega) (by omega) (h5.2.trans e2.symm) (h5.1.trans e1.symm)
            have := (ha k rfl).1
            omega
        · have hp : subP l tx gr j = false := by unfold subP; rw [decide_eq_false e2, Bool.and_false]
          have := hno hp
          simp (disch := omega) only [f_X12_placeOf_L8, q_k hk, q_gR1 hk, q_gR2 hk, q_gR8 hk, q_gR11 hk, q_gR13 hk, q_gR14 hk, q_gR15 hk, q_gR16 hk, q_gI hk, q_pI hk, q_a hk, q_w hk, q_l hk, nW_add, nW_mul, nW_sub, nW_le, nW_lt, nW_inj, irem_nW, ix_nW, nW_lit, h1, n1, ↓reduceIte, Option.bind_some, y2, eq_true e1, sa, bindP, eq_false e2, decide_false, zI_f, a1, this]
      · have hp : subP l tx gr j = false := by unfold subP; rw [decide_eq_false e1, Bool.false_and]
        have := hno hp
        simp (disch := omega) only [f_X12_placeOf_L8, q_k hk, q_gR1 hk, q_gR2 hk, q_gR8 hk, q_gR11 hk, q_gR13 hk, q_gR14 hk, q_gR15 hk, q_gR16 hk, q_gI hk, q_pI hk, q_a hk, q_w hk, q_l hk, nW_add, nW_mul, nW_sub, nW_le, nW_lt, nW_inj, irem_nW, ix_nW, nW_lit, h1, n1, ↓reduceIte, Option.bind_some, y2, eq_false e1, a1, this]
theorem ref_placeOf {N : Mem} {V : VR} {s : Nat → Int32} {t : Nat → Int64} {c : Nat} {l : Ls Row} {tx : Txt} (gr : Int32) (hk : KR N) (hc : c < 6) (hl : l.1 ≤ 6) (h1 : s (50 + c) = nW l.1) (h2 : R_su s t c l) (hok : SubOk l) (hT : TB (V.2.1 8) 0 tx) (ht : okTx tx) (hdi : SubDi l) : f_X12_placeOf 908 (nW c) gr (QW N V s t) = some (posK (6 * c) (subAt l tx gr), QW N V s t) := by
  have := ref_placeOf_L8 (N := N) (V := V) hk gr hc hl h1 h2 hok hT ht hdi FU 0 none (by omega) (by simp only [FU]; omega) (fun k e => by cases e)
  rw [Nat.add_zero, Nat.sub_zero] at this
  simp only [f_X12_placeOf, q_k hk, ↓reduceIte, lit_m1i, nW_lit, nW_mul]
  exact this
