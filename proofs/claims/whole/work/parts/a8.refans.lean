/-! AN ANSWER, in the reference (behind the checks) -/
theorem ref_in (x a b : Int32) (M : Mem) : f_X12_in x a b M = some (zI (decide (a ≤ x) && decide (x ≤ b)), M) := by
  unfold f_X12_in
  by_cases h1 : x < a
  · rw [if_pos h1, decide_eq_false (Int32.not_le.mpr h1), Bool.false_and, zI_f]; exact okZ_0 M
  · rw [if_neg h1, decide_eq_true (Int32.not_lt.mp h1), Bool.true_and]
    by_cases h2 : b < x
    · rw [if_pos h2, decide_eq_false (Int32.not_le.mpr h2), zI_f]; exact okZ_0 M
    · rw [if_neg h2, decide_eq_true (Int32.not_lt.mp h2), zI_t]; exact okZ_1 M
theorem ref_rel {N : Mem} {V : VR} {s : Nat → Int32} {t : Nat → Int64} {c k : Nat} {g : GS} {id : Int32} (hk : KR N) (hc : c < 6) (h : RG s t c g) (hkf : k < (cL g.2 1).1) (hid : ((cL g.2 1).2 k).2 4 = id) (h0 : TB (V.2.1 10) 0 []) : ∃ s' t', f_X12_answer_J163 908 (nW c) (nW 2) id (nW k) (nW (5 * c + k)) (nW 1) (QW N V s t) = some (nW 1, QW N V s' t') ∧ RG s' t' c (spRel g k) ∧ FT c s s' ∧ Ft c t t' := by
  have l2 := h.2.1.2.1
  obtain ⟨x1, x2, x3, x4, x5, x6, x7⟩ := h.2.2.2.2.2.2.2.1 k hkf
  have h14 : s 0 = g.1 14 := h.1.1
  obtain ⟨G1, F1⟩ := RG_lset (s' := fset (fset s (674 + (5 * c + k)) (nW 4)) (704 + (5 * c + k)) (s 0)) (r := rowRel ((cL g.2 1).2 k) (g.1 14)) hc h hkf (fun i h1 h2 => by rw [fset_ne _ _ h2, fset_ne _ _ h1]) (by simp (disch := omega) only [fset_ne, fset_eq, rowRel, setSent]) (by simp (disch := omega) only [fset_eq, rowRel, setSent]; exact h14) rfl (fun f h1 h2 => by simp (disch := omega) only [rowRel, setSent, fset_ne])
  obtain ⟨s3, t3, e3, G3, F3, Ft3⟩ := ref_answers (N := N) (V := V) (nW 3) id hk hc G1 h0
  have n1 : ¬ nW 1 = nW 0 := by decide
  refine ⟨s3, t3, ?_, ?_, F1.trans F3, Ft3⟩
  · simp (disch := omega) only [f_X12_answer_J163, q_k hk, q_gR1 hk, q_gR2 hk, q_gR8 hk, q_gR11 hk, q_gR13 hk, q_gR14 hk, q_gR15 hk, q_gR16 hk, q_gI hk, q_pI hk, q_a hk, q_w hk, q_l hk, nW_add, nW_mul, nW_sub, nW_le, nW_lt, nW_inj, irem_nW, ix_nW, nW_lit, n1, ↓reduceIte, Option.bind_some, fset_ne, e3]
  · unfold spRel
    unfold spSignR at G3 ⊢
    rw [spSend_uL _ _ _ _ (by decide)] at G3
    rw [hid]
    exact G3
theorem ref_answer {N : Mem} {V : VR} {s : Nat → Int32} {t : Nat → Int64} {c i : Nat} {g : GS} {kind : Int32} (hk : KR N) (hc : c < 6) (h : RG s t c g) (hG : GI g) (hon : cB g.2 0 = true) (h0 : TB (V.2.1 10) 0 []) (hi : 1 ≤ i ∧ i ≤ 50) (hkd : kind = nW 1 ∨ kind = nW 2 ∨ kind = nW 4) : ∃ s' t', f_X12_answer_J33 908 (nW c) kind (nW i) (QW N V s t) = some (zI (spAns g kind (nW i)).1, QW N V s' t') ∧ RG s' t' c (spAns g kind (nW i)).2 ∧ FT c s s' ∧ Ft c t t' := by
  have a2 := h.2.2.1.2.1
  have e1 := ref_isOn (N := N) (V := V) (t := t) hk hc a2
  rw [hon, zI_t] at e1
  have e2 := ref_flightOf (N := N) (V := V) (nW i) hk hc h hG
  have ein : f_X12_in (nW i) (nW 1) (nW 50) (QW N V s t) = some (nW 1, QW N V s t) := by
    have q1 : nW 1 ≤ nW i := by rw [nW_le (by omega) (by omega)]; exact hi.1
    have q2 : nW i ≤ nW 50 := by rw [nW_le (by omega) (by omega)]; exact hi.2
    rw [ref_in, decide_eq_true q1, decide_eq_true q2]; rfl
  have n1 : ¬ nW 1 = nW 0 := by decide
  have l5 : (cL g.2 1).1 ≤ 5 := hG.2.1.2.1
  unfold spAns
  cases e : flAt g (nW i) with
  | none =>
    rw [e] at e2
    refine ⟨s, t, ?_, h, FT.refl _ _, Ft.refl _ _⟩
    simp (disch := omega) only [f_X12_answer_J33, nW_lit, ein, bindP, n1, ↓reduceIte, e1, e2, posI, lit_m1i, zI_f]
  | some k =>
    rw [e] at e2
    obtain ⟨hkf, hid⟩ := flAt_some e
    have hr := hG.2.2.2.2.2.1 k hkf
    obtain ⟨⟨_, hg⟩, o1, o2, _⟩ := hr
    obtain ⟨x1, x2, x3, x4, x5, x6, x7⟩ := h.2.2.2.2.2.2.2.1 k hkf
    have np : ¬ nW k = -nW 1 := by
      intro hh
      have : k = 0 ∨ k = 1 ∨ k = 2 ∨ k = 3 ∨ k = 4 := by omega
      rcases this with rfl | rfl | rfl | rfl | rfl <;> exact absurd hh (by decide)
    have ends : ∃ s' t', f_X12_answer_J163 908 (nW c) kind (nW i) (nW k) (nW (5 * c + k)) (nW 1) (QW N V s t) = (if kind = nW 2 then f_X12_answer_J163 908 (nW c) kind (nW i) (nW k) (nW (5 * c + k)) (nW 1) (QW N V s t) else some (nW 1, QW N V s' t')) ∧ RG s' t' c (spEnd g k) ∧ FT c s s' ∧ Ft c t t' := by
      obtain ⟨s1, t1, e3, G, F, Ft1⟩ := ref_ends (N := N) (V := V) hk hc h hG hkf
      refine ⟨s1, t1, ?_, G, F, Ft1⟩
      split
      · rfl
      · rename_i hne
        simp (disch := omega) only [f_X12_answer_J163, nW_lit, n1, hne, ↓reduceIte, e3, Option.bind_some]
    have no : f_X12_answer_J163 908 (nW c) kind (nW i) (nW k) (nW (5 * c + k)) (nW 0) (QW N V s t) = some (nW 0, QW N V s t) := by
      simp only [f_X12_answer_J163, nW_lit, ↓reduceIte]
    show ∃ s' t', _ = some (zI (spAnsAt g kind k).1, QW N V s' t') ∧ RG s' t' c (spAnsAt g kind k).2 ∧ _
    unfold spAnsAt
    have d12 : ¬ nW 1 = nW 2 := by decide
    have d14 : ¬ nW 1 = nW 4 := by decide
    have d21 : ¬ nW 2 = nW 1 := by decide
    have d41 : ¬ nW 4 = nW 1 := by decide
    have d42 : ¬ nW 4 = nW 2 := by decide
    rcases hkd with rfl | rfl | rfl
    · rw [if_neg (fun hh => d12 hh.1)]
      obtain ⟨s1, t1, e3, G, F⟩ := ends
      rw [if_neg d12] at e3
      rcases hg with hg | hg
      · have h5 := o1 hg
        rw [if_pos h5]
        refine ⟨s1, t1, ?_, G, F⟩
        rw [hg] at x2
        simp (disch := omega) only [f_X12_answer_J33, q_k hk, q_gR1 hk, q_gR2 hk, q_gR8 hk, q_gR11 hk, q_gR13 hk, q_gR14 hk, q_gR15 hk, q_gR16 hk, q_gI hk, q_pI hk, q_a hk, q_w hk, q_l hk, nW_add, nW_mul, nW_sub, nW_le, nW_lt, nW_inj, irem_nW, ix_nW, nW_lit, ein, bindP, n1, ↓reduceIte, e1, e2, posI, np, lit_m1i, Option.bind_some, x2, e3, zI_t]
      · have h5 : ¬ ((cL g.2 1).2 k).2 5 = nW 1 := by
          rcases o2 hg with hh | hh
          · rw [hh]; decide
          · rw [hh]; decide
        rw [if_neg h5]
        refine ⟨s, t, ?_, h, FT.refl _ _, Ft.refl _ _⟩
        rw [hg] at x2
        simp (disch := omega) only [f_X12_answer_J33, q_k hk, q_gR1 hk, q_gR2 hk, q_gR8 hk, q_gR11 hk, q_gR13 hk, q_gR14 hk, q_gR15 hk, q_gR16 hk, q_gI hk, q_pI hk, q_a hk, q_w hk, q_l hk, nW_add, nW_mul, nW_sub, nW_le, nW_lt, nW_inj, irem_nW, ix_nW, nW_lit, ein, bindP, n1, ↓reduceIte, e1, e2, posI, np, lit_m1i, Option.bind_some, x2, d21, no, zI_f]
    · rcases hg with hg | hg
      · have h5 := o1 hg
        rw [if_neg (fun hh => by rw [hg] at hh; exact d12 hh.2), if_neg (by rw [h5]; exact d12)]
        refine ⟨s, t, ?_, h, FT.refl _ _, Ft.refl _ _⟩
        rw [hg] at x2
        simp (disch := omega) only [f_X12_answer_J33, q_k hk, q_gR1 hk, q_gR2 hk, q_gR8 hk, q_gR11 hk, q_gR13 hk, q_gR14 hk, q_gR15 hk, q_gR16 hk, q_gI hk, q_pI hk, q_a hk, q_w hk, q_l hk, nW_add, nW_mul, nW_sub, nW_le, nW_lt, nW_inj, irem_nW, ix_nW, nW_lit, ein, bindP, n1, ↓reduceIte, e1, e2, posI, np, lit_m1i, Option.bind_some, x2, d21, d12, no, zI_f]
      · rw [if_pos ⟨rfl, hg⟩]
        obtain ⟨s1, t1, e3, G, F⟩ := ref_rel (N := N) (V := V) hk hc h hkf hid h0
        refine ⟨s1, t1, ?_, G, F⟩
        rw [hg] at x2
        simp (disch := omega) only [f_X12_answer_J33, q_k hk, q_gR1 hk, q_gR2 hk, q_gR8 hk, q_gR11 hk, q_gR13 hk, q_gR14 hk, q_gR15 hk, q_gR16 hk, q_gI hk, q_pI hk, q_a hk, q_w hk, q_l hk, nW_add, nW_mul, nW_sub, nW_le, nW_lt, nW_inj, irem_nW, ix_nW, nW_lit, ein, bindP, n1, ↓reduceIte, e1, e2, posI, np, lit_m1i, Option.bind_some, x2, d21, e3, zI_t]
    · rw [if_neg (fun hh => d42 hh.1)]
      obtain ⟨s1, t1, e3, G, F⟩ := ends
      rw [if_neg d42] at e3
      by_cases h5 : ((cL g.2 1).2 k).2 5 = nW 4
      · rw [if_pos h5]
        refine ⟨s1, t1, ?_, G, F⟩
        rw [h5] at x5
        simp (disch := omega) only [f_X12_answer_J33, q_k hk, q_gR1 hk, q_gR2 hk, q_gR8 hk, q_gR11 hk, q_gR13 hk, q_gR14 hk, q_gR15 hk, q_gR16 hk, q_gI hk, q_pI hk, q_a hk, q_w hk, q_l hk, nW_add, nW_mul, nW_sub, nW_le, nW_lt, nW_inj, irem_nW, ix_nW, nW_lit, ein, bindP, n1, ↓reduceIte, e1, e2, posI, np, lit_m1i, Option.bind_some, d41, d42, x5, e3, zI_t]
      · rw [if_neg h5]
        refine ⟨s, t, ?_, h, FT.refl _ _, Ft.refl _ _⟩
        have h5' : ¬ s (674 + (5 * c + k)) = nW 4 := by rw [x5]; exact h5
        simp (disch := omega) only [f_X12_answer_J33, q_k hk, q_gR1 hk, q_gR2 hk, q_gR8 hk, q_gR11 hk, q_gR13 hk, q_gR14 hk, q_gR15 hk, q_gR16 hk, q_gI hk, q_pI hk, q_a hk, q_w hk, q_l hk, nW_add, nW_mul, nW_sub, nW_le, nW_lt, nW_inj, irem_nW, ix_nW, nW_lit, ein, bindP, n1, ↓reduceIte, e1, e2, posI, np, lit_m1i, Option.bind_some, d41, d42, h5', no, zI_f]
