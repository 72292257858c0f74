/-! ANSWERS, sending again: in the reference -/
theorem ref_answers {N : Mem} {V : VR} {s : Nat → Int32} {t : Nat → Int64} {c : Nat} {g : GS} (kind id : Int32) (hk : KR N) (hc : c < 6) (h : RG s t c g) (h0 : TB (V.2.1 10) 0 []) : ∃ s' t', f_X12_answers 908 (nW c) kind id (QW N V s t) = some (QW N V s' t') ∧ RG s' t' c (spSignR g kind id) ∧ FT c s s' ∧ Ft c t t' := by
  obtain ⟨s', t', e, r⟩ := ref_sends (N := N) (V := V) kind id (nW 0) (nW 0) (nW 0) hk hc h (Src_10 hk h0) (fun e => by cases e)
  exact ⟨s', t', by simp only [f_X12_answers, q_k hk, q_gR14 hk, ↓reduceIte, Option.bind_some, nW_lit, e], r⟩
theorem RG_lset {s s' : Nat → Int32} {t : Nat → Int64} {c k : Nat} {g : GS} {r : Row} (hc : c < 6) (h : RG s t c g) (hk : k < (cL g.2 1).1) (hs : ∀ i, i ≠ 674 + (5 * c + k) → i ≠ 704 + (5 * c + k) → s' i = s i) (h5 : s' (674 + (5 * c + k)) = r.2 5) (h6 : s' (704 + (5 * c + k)) = r.2 6) (h1 : r.1 = ((cL g.2 1).2 k).1) (hf : ∀ f, 1 ≤ f → f < 5 → r.2 f = ((cL g.2 1).2 k).2 f) : RG s' t c (g.1, uL g.2 1 (lset (cL g.2 1) k r)) ∧ FT c s s' := by
  obtain ⟨hsc, ⟨l1, l2, l3, l4⟩, ⟨a1, a2, a3, a4, a5, a6, a7, a8⟩, b, w, ke, u, f, p, q⟩ := h
  refine ⟨⟨hsc.fr (fun i hi => hs i (by omega) (by omega)), ⟨l1, l2, l3, l4⟩, ?_, b.fr hc (fun i h1 h2 => hs i (by omega) (by omega)), w.fr hc (fun i h1 h2 => hs i (by omega) (by omega)) (fun i h1 => rfl), ke.fr hc (fun i h1 h2 => hs i (by omega) (by omega)), u.fr hc l4 (fun i h1 h2 => hs i (by omega) (by omega)) (fun i h1 h2 => rfl), ?_, p.fr hc l3 (fun i h1 h2 => hs i (by omega) (by omega)) (fun i h1 h2 => rfl), q.fr hc l1 (fun i h1 h2 => hs i (by omega) (by omega)) (fun i h1 h2 => rfl)⟩, ?_⟩
  · unfold R_c1
    rw [hs _ (by omega) (by omega), hs _ (by omega) (by omega), hs _ (by omega) (by omega), hs _ (by omega) (by omega), hs _ (by omega) (by omega), hs _ (by omega) (by omega), hs _ (by omega) (by omega), hs _ (by omega) (by omega)]
    exact ⟨a1, a2, a3, a4, a5, a6, a7, a8⟩
  · intro j hj
    simp only [uB_B, uB_I, uB_F, uB_W, uB_K, uB_N, uB_L, uI_B, uI_I, uI_F, uI_W, uI_K, uI_N, uI_L, uF_B, uF_I, uF_F, uF_W, uF_K, uF_N, uF_L, uW_B, uW_I, uW_F, uW_W, uW_K, uW_N, uW_L, uK_B, uK_I, uK_F, uK_W, uK_K, uK_N, uK_L, uN_B, uN_I, uN_F, uN_W, uN_K, uN_N, uN_L, uL_B, uL_I, uL_F, uL_W, uL_K, uL_N, uL_L, fset_eq, lset] at hj ⊢
    obtain ⟨x1, x2, x3, x4, x5, x6, x7⟩ := f j hj
    by_cases e : j = k
    · subst e
      simp only [↓reduceIte]
      rw [hs _ (by omega) (by omega), hs _ (by omega) (by omega), hs _ (by omega) (by omega), hs _ (by omega) (by omega), hf 4 (by omega) (by omega), hf 1 (by omega) (by omega), hf 2 (by omega) (by omega), hf 3 (by omega) (by omega), h1]
      exact ⟨x1, x2, x3, x4, h5, h6, x7⟩
    · simp only [e, ↓reduceIte]
      rw [hs _ (by omega) (by omega), hs _ (by omega) (by omega), hs _ (by omega) (by omega), hs _ (by omega) (by omega), hs _ (by omega) (by omega), hs _ (by omega) (by omega)]
      exact ⟨x1, x2, x3, x4, x5, x6, x7⟩
  · intro i h1 h2
    simp only [cs] at h2; exact hs i (by omega) (by omega)
theorem ref_resend {N : Mem} {V : VR} {s : Nat → Int32} {t : Nat → Int64} {c k : Nat} {g : GS} (hk : KR N) (hc : c < 6) (h : RG s t c g) (hkf : k < (cL g.2 1).1) (h0 : TB (V.2.1 10) 0 []) : ∃ s' t', f_X12_sendsAgain 908 (nW c) (nW k) (QW N V s t) = some (QW N V s' t') ∧ RG s' t' c (spResend g k) ∧ FT c s s' ∧ Ft c t t' := by
  have l2 := h.2.1.2.1
  obtain ⟨x1, x2, x3, x4, x5, x6, x7⟩ := h.2.2.2.2.2.2.2.1 k hkf
  have h14 : s 0 = g.1 14 := h.1.1
  obtain ⟨G1, F1⟩ := RG_lset (s' := fset s (704 + (5 * c + k)) (s 0)) (r := setSent ((cL g.2 1).2 k) (g.1 14)) hc h hkf (fun i _ h2 => fset_ne _ _ h2) (by simp (disch := omega) only [fset_ne, setSent]; exact x5) (by simp (disch := omega) only [fset_eq, setSent]; exact h14) rfl (fun f h1 h2 => by simp (disch := omega) only [setSent, fset_ne])
  obtain ⟨G2, F2⟩ := RG_tot G1 hc (i := 4) (by omega)
  have y7 := x7
  by_cases h4 : ((cL g.2 1).2 k).2 5 = nW 4
  · obtain ⟨s3, t3, e3, G3, F3, Ft3⟩ := ref_answers (N := N) (V := V) (nW 3) (((cL g.2 1).2 k).2 4) hk hc G2 h0
    refine ⟨s3, t3, ?_, ?_, (F1.trans F2).trans F3, Ft3⟩
    · rw [h4] at x5
      simp (disch := omega) only [f_X12_sendsAgain, q_k hk, q_gR1 hk, q_gR2 hk, q_gR8 hk, q_gR11 hk, q_gR13 hk, q_gR14 hk, q_gR15 hk, q_gR16 hk, q_gI hk, q_pI hk, q_a hk, q_w hk, q_l hk, nW_add, nW_mul, nW_sub, nW_le, nW_lt, nW_inj, irem_nW, ix_nW, nW_lit, ↓reduceIte, Option.bind_some, fset_ne, x5, x1]
      simp (disch := omega) only [fset_ne] at e3
      rw [e3]; rfl
    · unfold spResend spAgain
      rw [if_pos h4]
      unfold spSignR at G3 ⊢
      rw [spSend_uL _ _ _ _ (by decide)] at G3
      exact G3
  · obtain ⟨s3, t3, e3, G3, F3, Ft3⟩ := ref_sends (N := N) (V := V) (nW 0) (((cL g.2 1).2 k).2 4) (((cL g.2 1).2 k).2 1) (((cL g.2 1).2 k).2 2) (nW 1 + nW 2 * s (644 + (5 * c + k))) hk hc G2 (Src_t hk (by omega) x7) (fun _ => by omega)
    refine ⟨s3, t3, ?_, ?_, (F1.trans F2).trans F3, Ft3⟩
    · have n4 : ¬ s (674 + (5 * c + k)) = nW 4 := by rw [x5]; exact h4
      simp (disch := omega) only [f_X12_sendsAgain, q_k hk, q_gR1 hk, q_gR2 hk, q_gR8 hk, q_gR11 hk, q_gR13 hk, q_gR14 hk, q_gR15 hk, q_gR16 hk, q_gI hk, q_pI hk, q_a hk, q_w hk, q_l hk, nW_add, nW_mul, nW_sub, nW_le, nW_lt, nW_inj, irem_nW, ix_nW, nW_lit, ↓reduceIte, Option.bind_some, fset_ne, n4, x1, x2, x3]
      simp (disch := omega) only [fset_ne] at e3
      rw [e3]; rfl
    · unfold spResend spAgain
      rw [if_neg h4]
      rw [spSend_uL _ _ _ _ (by decide)] at G3
      have e5 : nW 1 + nW 2 * s (644 + (5 * c + k)) = ((cL g.2 1).2 k).2 3 + nW 1 := by rw [x4, Int32.add_comm]
      rw [e5] at G3
      exact G3
theorem ref_ends {N : Mem} {V : VR} {s : Nat → Int32} {t : Nat → Int64} {c k : Nat} {g : GS} (hk : KR N) (hc : c < 6) (h : RG s t c g) (hG : GI g) (hkf : k < (cL g.2 1).1) : ∃ s' t', f_X12_ends 908 (nW c) (nW k) (QW N V s t) = some (QW N V s' t') ∧ RG s' t' c (spEnd g k) ∧ FT c s s' ∧ Ft c t t' := by
  have hh := h
  obtain ⟨hsc, ⟨l1, l2, l3, l4⟩, ⟨a1, a2, a3, a4, a5, a6, a7, a8⟩, b, w, ke, u, f, p, q⟩ := h
  obtain ⟨s', t', e, r0, r00, r1, r2, r3⟩ := sh_ends_L6 (N := N) (V := V) hk hc l2 FU k s t hkf (by simp only [FU]; omega) a4
  have R2 : ∀ i, i ≠ 56 + c → i ≠ 14 → (i < 554 + 5 * c + k ∨ 734 ≤ i) → s' i = s i := fun i h1 h2 h3 => r2 i h1 h2 (by omega) (by omega) (by omega) (by omega) (by omega) (by omega)
  have hsc' : R_sc s' (tot g.1 9) := by
    have := R_sc_tot hsc (i := 9) (by omega)
    refine this.fr (fun i hi => ?_)
    by_cases e : i = 14
    · subst e; rw [r00]; exact (fset_eq _ _ _).symm
    · rw [fset_ne _ _ (by omega)]; exact R2 i (by omega) e (by omega)
  have hG' : RG s' t' c (tot g.1 9, uL g.2 1 (ldel (cL g.2 1) k)) := by
    refine ⟨hsc', ⟨l1, by show (ldel (cL g.2 1) k).1 ≤ 5; simp only [ldel]; omega, l3, l4⟩, ?_, b.fr hc (fun i h1 h2 => R2 i (by omega) (by omega) (by omega)), w.fr hc (fun i h1 h2 => R2 i (by omega) (by omega) (by omega)) (fun i h1 => r3 i (by omega)), ke.fr hc (fun i h1 h2 => R2 i (by omega) (by omega) (by omega)), u.fr hc l4 (fun i h1 h2 => R2 i (by omega) (by omega) (by omega)) (fun i h1 h2 => r3 i (by omega)), ?_, p.fr hc l3 (fun i h1 h2 => R2 i (by omega) (by omega) (by omega)) (fun i h1 h2 => r3 i (by omega)), q.fr hc l1 (fun i h1 h2 => R2 i (by omega) (by omega) (by omega)) (fun i h1 h2 => r3 i (by omega))⟩
    · unfold R_c1
      simp (disch := omega) only [uB_B, uB_I, uB_F, uB_W, uB_K, uB_N, uB_L, uI_B, uI_I, uI_F, uI_W, uI_K, uI_N, uI_L, uF_B, uF_I, uF_F, uF_W, uF_K, uF_N, uF_L, uW_B, uW_I, uW_F, uW_W, uW_K, uW_N, uW_L, uK_B, uK_I, uK_F, uK_W, uK_K, uK_N, uK_L, uN_B, uN_I, uN_F, uN_W, uN_K, uN_N, uN_L, uL_B, uL_I, uL_F, uL_W, uL_K, uL_N, uL_L, fset_ne, fset_eq, ldel]
      rw [R2 _ (by omega) (by omega) (by omega), R2 _ (by omega) (by omega) (by omega), R2 _ (by omega) (by omega) (by omega), r0, R2 _ (by omega) (by omega) (by omega), R2 _ (by omega) (by omega) (by omega), R2 _ (by omega) (by omega) (by omega), R2 _ (by omega) (by omega) (by omega)]
      exact ⟨a1, a2, a3, rfl, a5, a6, a7, a8⟩
    · intro j hj
      simp only [uB_B, uB_I, uB_F, uB_W, uB_K, uB_N, uB_L, uI_B, uI_I, uI_F, uI_W, uI_K, uI_N, uI_L, uF_B, uF_I, uF_F, uF_W, uF_K, uF_N, uF_L, uW_B, uW_I, uW_F, uW_W, uW_K, uW_N, uW_L, uK_B, uK_I, uK_F, uK_W, uK_K, uK_N, uK_L, uN_B, uN_I, uN_F, uN_W, uN_K, uN_N, uN_L, uL_B, uL_I, uL_F, uL_W, uL_K, uL_N, uL_L, fset_eq, ldel] at hj ⊢
      by_cases hjk : j < k
      · obtain ⟨y1, y2, y3, y4, y5, y6, y7⟩ := f j (by omega)
        simp only [hjk, ↓reduceIte]
        have R : ∀ b, (b = 554 ∨ b = 584 ∨ b = 614 ∨ b = 644 ∨ b = 674 ∨ b = 704) → s' (b + (5 * c + j)) = s (b + (5 * c + j)) := fun b hb => r2 _ (by omega) (by omega) (by omega) (by omega) (by omega) (by omega) (by omega) (by omega)
        rw [R 554 (by omega), R 584 (by omega), R 614 (by omega), R 644 (by omega), R 674 (by omega), R 704 (by omega)]
        exact ⟨y1, y2, y3, y4, y5, y6, y7.fr (fun k hk => r3 _ (by omega))⟩
      · obtain ⟨x1, x2, x3, x4, x5, x6, x7⟩ := r1 j (by omega) (by omega)
        obtain ⟨y1, y2, y3, y4, y5, y6, y7⟩ := f (j + 1) (by omega)
        simp only [hjk, ↓reduceIte]
        exact ⟨by rw [x1]; exact y1, by rw [x2]; exact y2, by rw [x3]; exact y3, by rw [x4]; exact y4, by rw [x5]; exact y5, by rw [x6]; exact y6, fun k hk => by rw [x7 k hk]; exact y7 k hk⟩
  have FT1 : FT c s s' := fun i h1 h2 => by
    simp only [cs] at h2
    exact r2 i (by omega) (by omega) (by omega) (by omega) (by omega) (by omega) (by omega) (by omega)
  have Ft1 : Ft c t t' := fun i h2 => by simp only [ct] at h2; exact r3 i (by omega)
  obtain ⟨s2, t2, e2, G2, F2, Ft2⟩ := ref_pend (N := N) (V := V) hk hc hG' (GI.tot (g := (g.1, uL g.2 1 (ldel (cL g.2 1) k))) (GI_ldel1 hG hkf) (i := 9) (by omega))
  refine ⟨s2, t2, ?_, G2, FT1.trans F2, Ft1.trans Ft2⟩
  simp (disch := omega) only [f_X12_ends, q_k hk, ↓reduceIte, nW_lit, nW_add, nW_mul, nW_sub, nW_le, nW_lt, nW_inj, irem_nW, ix_nW]
  rw [e, e2]; rfl
theorem ref_flightOf_L5 {N : Mem} {V : VR} {s : Nat → Int32} {t : Nat → Int64} (hk : KR N) {c : Nat} {l : Ls Row} (id : Int32) (hc : c < 6) (hl : l.1 ≤ 5) (h1 : s (56 + c) = nW l.1) (h2 : ∀ j, j < l.1 → s (554 + 5 * c + j) = (l.2 j).2 4) (hd : ∀ i j, i < l.1 → j < l.1 → (l.2 i).2 4 = (l.2 j).2 4 → i = j) : ∀ n j a, j ≤ l.1 → l.1 - j < n → (a = none → True) → (∀ k, a = some k → k < j ∧ (l.2 k).2 4 = id) → f_X12_flightOf_L5 n 908 (nW c) id (posI a) (nW j) (QW N V s t) = some (posI (match a with | none => ffind (fun j => decide ((l.2 j).2 4 = id)) (l.1 - j) j | some k => some k), QW N V s t)
  | 0, j, a, _, hn, _, _ => absurd hn (by omega)
  | n + 1, j, a, hj, hn, _, ha => by
    by_cases he : j = l.1
    · subst he
      cases a with
      | none => simp (disch := omega) only [f_X12_flightOf_L5, q_k hk, q_gR1 hk, q_gR2 hk, q_gR8 hk, q_gR11 hk, q_gR13 hk, q_gR14 hk, q_gR15 hk, q_gR16 hk, q_gI hk, q_pI hk, q_a hk, q_w hk, q_l hk, nW_add, nW_mul, nW_sub, nW_le, nW_lt, nW_inj, irem_nW, ix_nW, nW_lit, h1, Nat.le_refl, ↓reduceIte, Option.bind_some, Nat.sub_self, ffind]
      | some k => simp (disch := omega) only [f_X12_flightOf_L5, q_k hk, q_gR1 hk, q_gR2 hk, q_gR8 hk, q_gR11 hk, q_gR13 hk, q_gR14 hk, q_gR15 hk, q_gR16 hk, q_gI hk, q_pI hk, q_a hk, q_w hk, q_l hk, nW_add, nW_mul, nW_sub, nW_le, nW_lt, nW_inj, irem_nW, ix_nW, nW_lit, h1, Nat.le_refl, ↓reduceIte, Option.bind_some]
    · have n1 : ¬ l.1 ≤ j := by omega
      have h3 := h2 j (by omega)
      rw [show l.1 - j = (l.1 - (j + 1)) + 1 by omega]
      by_cases hq : (l.2 j).2 4 = id
      · cases a with
        | none =>
          have ih := ref_flightOf_L5 (N := N) (V := V) (t := t) hk id hc hl h1 h2 hd n (j + 1) (some j) (by omega) (by omega) (fun _ => trivial) (fun k e => by cases e; exact ⟨by omega, hq⟩)
          simp only [posI] at ih
          simp (disch := omega) only [f_X12_flightOf_L5, q_k hk, q_gR1 hk, q_gR2 hk, q_gR8 hk, q_gR11 hk, q_gR13 hk, q_gR14 hk, q_gR15 hk, q_gR16 hk, q_gI hk, q_pI hk, q_a hk, q_w hk, q_l hk, nW_add, nW_mul, nW_sub, nW_le, nW_lt, nW_inj, irem_nW, ix_nW, nW_lit, h1, n1, ↓reduceIte, Option.bind_some, h3, eq_true hq, posI, ih, ffind, decide_true]
        | some k =>
          have := ha k rfl
          have := hd k j (by omega) (by omega) (this.2.trans hq.symm)
          omega
      · have ih := ref_flightOf_L5 (N := N) (V := V) (t := t) hk id hc hl h1 h2 hd n (j + 1) a (by omega) (by omega) (fun _ => trivial) (fun k e => ⟨by have := (ha k e).1; omega, (ha k e).2⟩)
        cases a with
        | none =>
          simp only [posI] at ih
          simp (disch := omega) only [f_X12_flightOf_L5, q_k hk, q_gR1 hk, q_gR2 hk, q_gR8 hk, q_gR11 hk, q_gR13 hk, q_gR14 hk, q_gR15 hk, q_gR16 hk, q_gI hk, q_pI hk, q_a hk, q_w hk, q_l hk, nW_add, nW_mul, nW_sub, nW_le, nW_lt, nW_inj, irem_nW, ix_nW, nW_lit, h1, n1, ↓reduceIte, Option.bind_some, h3, eq_false hq, posI, ih, ffind, decide_false, Bool.false_eq_true]
        | some k =>
          simp only [posI] at ih
          simp (disch := omega) only [f_X12_flightOf_L5, q_k hk, q_gR1 hk, q_gR2 hk, q_gR8 hk, q_gR11 hk, q_gR13 hk, q_gR14 hk, q_gR15 hk, q_gR16 hk, q_gI hk, q_pI hk, q_a hk, q_w hk, q_l hk, nW_add, nW_mul, nW_sub, nW_le, nW_lt, nW_inj, irem_nW, ix_nW, nW_lit, h1, n1, ↓reduceIte, Option.bind_some, h3, eq_false hq, posI, ih]
theorem ref_flightOf {N : Mem} {V : VR} {s : Nat → Int32} {t : Nat → Int64} {c : Nat} {g : GS} (id : Int32) (hk : KR N) (hc : c < 6) (h : RG s t c g) (hG : GI g) : f_X12_flightOf 908 (nW c) id (QW N V s t) = some (posI (flAt g id), QW N V s t) := by
  have := ref_flightOf_L5 (N := N) (V := V) (t := t) hk id hc h.2.1.2.1 h.2.2.1.2.2.2.1 (fun j hj => by rw [Nat.add_assoc]; exact (h.2.2.2.2.2.2.2.1 j hj).1) hG.2.2.2.2.2.2.1 FU 0 none (by omega) (by have := h.2.1.2.1; simp only [FU]; omega) (fun _ => trivial) (fun k e => by cases e)
  simp only [posI, Nat.sub_zero] at this
  have m1 : (-1 : Int32) = -nW 1 := by decide
  simp only [f_X12_flightOf, q_k hk, ↓reduceIte, m1, nW_lit, this]; rfl
theorem ref_late_L2 {N : Mem} {V : VR} (hk : KR N) {c : Nat} (hc : c < 6) (h0 : TB (V.2.1 10) 0 []) : ∀ n i s t g, i ≤ (cL g.2 1).1 → (cL g.2 1).1 - i < n → RG s t c g → ∃ s' t', f_X12_timesOut_L2 n 908 (nW c) (nW i) (QW N V s t) = some (QW N V s' t') ∧ RG s' t' c (spLate ((cL g.2 1).1 - i) i g) ∧ FT c s s' ∧ Ft c t t'
  | 0, i, s, t, g, _, hn, _ => absurd hn (by omega)
  | n + 1, i, s, t, g, hi, hn, h => by
    have l2 := h.2.1.2.1
    have a4 := h.2.2.1.2.2.2.1
    by_cases he : i = (cL g.2 1).1
    · have n1 : (cL g.2 1).1 ≤ i := by omega
      refine ⟨s, t, ?_, by rw [he, Nat.sub_self]; exact h, FT.refl _ _, Ft.refl _ _⟩
      simp (disch := omega) only [f_X12_timesOut_L2, q_k hk, q_gR1 hk, q_gR2 hk, q_gR8 hk, q_gR11 hk, q_gR13 hk, q_gR14 hk, q_gR15 hk, q_gR16 hk, q_gI hk, q_pI hk, q_a hk, q_w hk, q_l hk, nW_add, nW_mul, nW_sub, nW_le, nW_lt, nW_inj, irem_nW, ix_nW, nW_lit, a4, n1, ↓reduceIte, Option.bind_some]
    · have n1 : ¬ (cL g.2 1).1 ≤ i := by omega
      obtain ⟨x1, x2, x3, x4, x5, x6, x7⟩ := h.2.2.2.2.2.2.2.1 i (by omega)
      have x6' : s (704 + 5 * c + i) = ((cL g.2 1).2 i).2 6 := by rw [Nat.add_assoc]; exact x6
      have c14 : s 0 = g.1 14 := h.1.1
      have c11 : s 2 = g.1 11 := h.1.2.1 1 (by omega)
      have sn := spResend_n g i
      rw [show (cL g.2 1).1 - i = ((cL g.2 1).1 - (i + 1)) + 1 by omega, spLate]
      by_cases hl : g.1 11 ≤ g.1 14 - ((cL g.2 1).2 i).2 6
      · obtain ⟨s1, t1, e1, G1, F1, Ft1⟩ := ref_resend (N := N) (V := V) (k := i) hk hc h (by omega) h0
        obtain ⟨s2, t2, e2, G2, F2, Ft2⟩ := ref_late_L2 hk hc h0 n (i + 1) s1 t1 (spResend g i) (by omega) (by omega) G1
        rw [sn] at G2
        refine ⟨s2, t2, ?_, by rw [if_pos hl]; exact G2, F1.trans F2, Ft1.trans Ft2⟩
        simp (disch := omega) only [f_X12_timesOut_L2, q_k hk, q_gR1 hk, q_gR2 hk, q_gR8 hk, q_gR11 hk, q_gR13 hk, q_gR14 hk, q_gR15 hk, q_gR16 hk, q_gI hk, q_pI hk, q_a hk, q_w hk, q_l hk, nW_add, nW_mul, nW_sub, nW_le, nW_lt, nW_inj, irem_nW, ix_nW, nW_lit, a4, n1, ↓reduceIte, Option.bind_some, c14, c11, x6', (show ¬ g.1 14 - ((cL g.2 1).2 i).2 6 < g.1 11 from Int32.not_lt.mpr hl), e1, e2]
      · obtain ⟨s2, t2, e2, G2, F2, Ft2⟩ := ref_late_L2 (N := N) (V := V) hk hc h0 n (i + 1) s t g (by omega) (by omega) h
        refine ⟨s2, t2, ?_, by rw [if_neg hl]; exact G2, F2, Ft2⟩
        simp (disch := omega) only [f_X12_timesOut_L2, q_k hk, q_gR1 hk, q_gR2 hk, q_gR8 hk, q_gR11 hk, q_gR13 hk, q_gR14 hk, q_gR15 hk, q_gR16 hk, q_gI hk, q_pI hk, q_a hk, q_w hk, q_l hk, nW_add, nW_mul, nW_sub, nW_le, nW_lt, nW_inj, irem_nW, ix_nW, nW_lit, a4, n1, ↓reduceIte, Option.bind_some, c14, c11, x6', (show g.1 14 - ((cL g.2 1).2 i).2 6 < g.1 11 from Int32.not_le.mp hl), e2]
theorem ref_late {N : Mem} {V : VR} {s : Nat → Int32} {t : Nat → Int64} {c : Nat} {g : GS} (hk : KR N) (hc : c < 6) (h0 : TB (V.2.1 10) 0 []) (h : RG s t c g) : ∃ s' t', f_X12_timesOut 908 (nW c) (QW N V s t) = some (QW N V s' t') ∧ RG s' t' c (spLate (cL g.2 1).1 0 g) ∧ FT c s s' ∧ Ft c t t' := by
  obtain ⟨s', t', e, r⟩ := ref_late_L2 (N := N) (V := V) hk hc h0 FU 0 s t g (by omega) (by have := h.2.1.2.1; simp only [FU]; omega) h
  exact ⟨s', t', by simp only [f_X12_timesOut, q_k hk, ↓reduceIte, nW_lit, e], r⟩
