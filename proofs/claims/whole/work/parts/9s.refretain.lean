/-! RETAINED MESSAGES, in the reference -/
def ReOk (l : Ls Row) : Prop := ∀ j, j < l.1 → okTx (l.2 j).1 ∧ topical (l.2 j).1 ∧ ∃ n, n ≤ 2 ∧ (l.2 j).2 1 = nW n
theorem RSt_re {s s' : Nat → Int32} {t t' : Nat → Int64} {σ : Sg} {l : Ls Row} (h : RSt s t σ) (hs : ∀ i, i ≠ 15 → (i < 1778 ∨ 1794 ≤ i) → s' i = s i) (ht : ∀ i, (i < 1224 ∨ 1256 ≤ i) → t' i = t i) (hR : R_re s' t' l) (hl : l.1 ≤ 8) : RSt s' t' (uRe σ l) := by
  obtain ⟨h1, h2, _, ⟨b1, b2⟩, ⟨a1, a2⟩, d1, d2, d3, d4⟩ := h
  refine ⟨h1.fr (fun i hi => hs i (by omega) (by omega)), fun c hc => (h2 c hc).fr hc (fun i hi => hs i (by unfold cs at hi; omega) (by unfold cs at hi; omega)) (fun i hi => ht i (by unfold ct at hi; omega)), hR, ⟨?_, ?_⟩, ⟨?_, ?_⟩, hl, d2, d3, d4⟩
  · rw [hs 16 (by omega) (by omega)]; exact b1
  · intro j hj
    have d2' : (gSh σ).length ≤ 36 := d2
    have hj' : j < (gSh σ).length := hj
    exact (b2 j hj).fr (d4 j hj) (hs _ (by omega) (by omega)) (hs _ (by omega) (by omega)) (hs _ (by omega) (by omega)) (fun i hi => hs _ (by omega) (by omega)) (fun k hk => ht _ (by omega))
  · rw [hs 17 (by omega) (by omega)]; exact a1
  · intro j hj
    obtain ⟨x1, x2⟩ := a2 j hj
    rw [hs _ (by omega) (by omega)]
    exact ⟨x1, x2.fr (fun k hk => ht _ (by omega))⟩
theorem ref_L123 {N : Mem} {V : VR} (hk : KR N) {pl : Nat} (g pay : Int32) : ∀ n k s t, pl ≤ k → k - pl < n → k ≤ 7 → ∃ s' t', f_X12_retains_L123 n 908 g pay (nW pl) (nW 0) (nW k) (QW N V s t) = f_X12_retains_J217 908 g pay (nW pl) (nW 0) (QW N V s' t') ∧ (∀ j, pl < j → j ≤ k → s' (1778 + j) = s (1778 + (j - 1)) ∧ s' (1786 + j) = s (1786 + (j - 1)) ∧ ∀ x, x < 4 → t' (1224 + 4 * j + x) = t (1224 + 4 * (j - 1) + x)) ∧ (∀ i, (i ≤ 1778 + pl ∨ 1778 + k < i) → (i ≤ 1786 + pl ∨ 1786 + k < i) → s' i = s i) ∧ ∀ i, (i < 1224 + 4 * pl + 4 ∨ 1224 + 4 * k + 4 ≤ i) → t' i = t i
  | 0, k, s, t, _, hn, _ => absurd hn (by omega)
  | n + 1, k, s, t, hk1, hn, hk7 => by
    by_cases he : k ≤ pl
    · refine ⟨s, t, ?_, fun j h1 h2 => by omega, fun _ _ _ => rfl, fun _ _ => rfl⟩
      simp (disch := omega) only [f_X12_retains_L123, nW_lit, nW_le, he, ↓reduceIte]
    · obtain ⟨s', t', e, r1, r2, r3⟩ := ref_L123 (N := N) (V := V) hk (pl := pl) g pay n (k - 1) (fset (fset s (1778 + k) (s (1778 + (k - 1)))) (1786 + k) (s (1786 + (k - 1)))) (blk t (1224 + 4 * k) (fun x => t (1224 + 4 * (k - 1) + x))) (by omega) (by omega) (by omega)
      have x1 : 1778 + k - 1 = 1778 + (k - 1) := by omega
      have x2 : 1786 + k - 1 = 1786 + (k - 1) := by omega
      have e9 : nW k + (-1) = nW (k - 1) := by rw [sub_1, nW_sub (by omega)]
      refine ⟨s', t', ?_, fun j h1 h2 => ?_, fun i h1 h2 => ?_, fun i h1 => ?_⟩
      · have e8 : f_X12_retains_L123 (n + 1) 908 g pay (nW pl) (nW 0) (nW k) (QW N V s t) = f_X12_retains_L123 n 908 g pay (nW pl) (nW 0) (nW k + (-1)) (QW N V (fset (fset s (1778 + k) (s (1778 + (k - 1)))) (1786 + k) (s (1786 + (k - 1)))) (blk t (1224 + 4 * k) (fun x => t (1224 + 4 * (k - 1) + x)))) := by
          simp (disch := omega) only [f_X12_retains_L123, q_k hk, q_gR1 hk, q_gR2 hk, q_gR8 hk, q_gR11 hk, q_gR13 hk, q_gR14 hk, q_gR15 hk, q_gR16 hk, q_gI hk, q_pI hk, q_a hk, q_w hk, q_l hk, nW_add, nW_mul, nW_sub, nW_le, nW_lt, nW_inj, irem_nW, ix_nW, nW_lit, he, ↓reduceIte, Option.bind_some, fset_ne, x1, x2, q_mv hk]
        rw [e8, e9]; exact e
      · by_cases ej : j = k
        · subst ej
          refine ⟨?_, ?_, fun x hx => ?_⟩
          · rw [r2 _ (by omega) (by omega)]; simp (disch := omega) only [fset_ne, fset_eq]
          · rw [r2 _ (by omega) (by omega)]; simp (disch := omega) only [fset_eq]
          · rw [r3 _ (by omega), blk_in _ _ _ hx]
        · obtain ⟨y1, y2, y3⟩ := r1 j h1 (by omega)
          exact ⟨by rw [y1]; simp (disch := omega) only [fset_ne], by rw [y2]; simp (disch := omega) only [fset_ne], fun x hx => by rw [y3 x hx]; exact blk_out _ _ (by omega)⟩
      · rw [r2 i (by omega) (by omega)]; simp (disch := omega) only [fset_ne]
      · rw [r3 i (by omega)]; exact blk_out _ _ (by omega)
theorem ref_J79 {N : Mem} {V : VR} {s : Nat → Int32} {t : Nat → Int64} {σ : Sg} {r : Row} (hk : KR N) (h : RSt s t σ) (hT : TB (V.2.1 9) 0 r.1) : ∃ s' t', f_X12_retains_J79 908 (r.2 1) (r.2 2) (nW (reAt (gRe σ) r.1)) (zI (reKnown (gRe σ) r.1)) (QW N V s t) = some (QW N V s' t') ∧ RSt s' t' (uRe σ (spRetain (gRe σ) r)) := by
  obtain ⟨c15, rows⟩ := h.2.2.1
  have l8 : (gRe σ).1 ≤ 8 := h.2.2.2.2.2.1
  have le := reAt_le (gRe σ) r.1
  have t1 : ¬ nW 1 = nW 0 := by decide
  have eself : uRe σ (gRe σ) = σ := rfl
  unfold spRetain
  by_cases hp : r.2 2 = nW 0
  · rw [if_pos hp]
    cases hkn : reKnown (gRe σ) r.1 with
    | false =>
      refine ⟨s, t, ?_, by rw [if_neg (by decide), eself]; exact h⟩
      simp only [f_X12_retains_J79, nW_lit, eq_true hp, ↓reduceIte, zI_f]
    | true =>
      have hlt : reAt (gRe σ) r.1 < (gRe σ).1 := by
        unfold reKnown at hkn; rw [Bool.and_eq_true, decide_eq_true_eq] at hkn; exact hkn.1
      obtain ⟨s', t', e, r0, r1, r2, r3⟩ := sh_forgetsRetained_L2 (N := N) (V := V) hk l8 FU (reAt (gRe σ) r.1) s t hlt (by simp only [FU]; omega) c15
      refine ⟨s', t', ?_, ?_⟩
      · simp only [f_X12_retains_J79, f_X12_forgetsRetained, q_k hk, nW_lit, eq_true hp, ↓reduceIte, zI_t, t1, e, Option.bind_some]
      · rw [if_pos rfl]
        refine RSt_re h (fun i a b => r2 i a (by omega) (by omega)) (fun i a => r3 i (by omega)) ⟨r0, fun j hj => ?_⟩ (by simp only [ldel]; omega)
        simp only [ldel] at hj ⊢
        by_cases q : j < reAt (gRe σ) r.1
        · obtain ⟨y1, y2, y3⟩ := rows j (by omega)
          rw [if_pos q, r2 _ (by omega) (by omega) (by omega), r2 _ (by omega) (by omega) (by omega)]
          exact ⟨y1, y2, y3.fr (fun k hk => r3 _ (by omega))⟩
        · obtain ⟨x1, x2, x3⟩ := r1 j (by omega) (by omega)
          obtain ⟨y1, y2, y3⟩ := rows (j + 1) (by omega)
          rw [if_neg q]
          exact ⟨by rw [x1]; exact y1, by rw [x2]; exact y2, fun k hk => by rw [x3 k hk]; exact y3 k hk⟩
  · rw [if_neg hp]
    cases hkn : reKnown (gRe σ) r.1 with
    | true =>
      have hlt : reAt (gRe σ) r.1 < (gRe σ).1 := by
        unfold reKnown at hkn; rw [Bool.and_eq_true, decide_eq_true_eq] at hkn; exact hkn.1
      refine ⟨fset (fset (fset s 15 (nW (gRe σ).1 + nW 0)) (1778 + reAt (gRe σ) r.1) (r.2 1)) (1786 + reAt (gRe σ) r.1) (r.2 2), blk t (1224 + 4 * reAt (gRe σ) r.1) (fun x => V.2.1 9 (0 + x)), ?_, ?_⟩
      · have e123 : f_X12_retains_L123 FU 908 (r.2 1) (r.2 2) (nW (reAt (gRe σ) r.1)) (nW 1) (nW (gRe σ).1) (QW N V s t) = f_X12_retains_J217 908 (r.2 1) (r.2 2) (nW (reAt (gRe σ) r.1)) (nW 1) (QW N V s t) := by
          show f_X12_retains_L123 (4099 + 1) _ _ _ _ _ _ _ = _
          simp only [f_X12_retains_L123, nW_lit, t1, ↓reduceIte]
        simp (disch := omega) only [f_X12_retains_J79, f_X12_retains_J114, q_k hk, q_gR1 hk, q_gR2 hk, q_gR8 hk, q_gR11 hk, q_gR13 hk, q_gR14 hk, q_gR15 hk, q_gR16 hk, q_gI hk, q_pI hk, q_a hk, q_w hk, q_l hk, nW_lit, eq_false hp, ↓reduceIte, zI_t, t1, Option.bind_some, c15, e123, f_X12_retains_J217, f_X12_retains_J235, nW_add 1778, nW_add 1786, nW_mul, nW_add 1224, q_mv9 hk]
      · rw [if_pos rfl]
        refine RSt_re h (fun i a b => by simp (disch := omega) only [fset_ne]) (fun i a => blk_out _ _ (by omega)) ⟨by simp (disch := omega) only [fset_ne, fset_eq, lset]; exact nW_add _ _, fun j hj => ?_⟩ l8
        have hj' : j < (gRe σ).1 := hj
        obtain ⟨y1, y2, y3⟩ := rows j hj'
        simp only [lset]
        by_cases q : j = reAt (gRe σ) r.1
        · rw [if_pos q, q]
          simp (disch := omega) only [fset_ne, fset_eq, true_and]
          exact TB.blk hT
        · rw [if_neg q]
          simp (disch := omega) only [fset_ne]
          exact ⟨y1, y2, y3.fr (fun k hk => blk_out _ _ (by omega))⟩
    | false =>
      by_cases h8 : 8 ≤ (gRe σ).1
      · have n8 : (gRe σ).1 = 8 := by omega
        refine ⟨s, t, ?_, by rw [if_neg (by decide), if_pos h8, eself]; exact h⟩
        simp (disch := omega) only [f_X12_retains_J79, q_k hk, q_gR1 hk, q_gR2 hk, q_gR8 hk, q_gR11 hk, q_gR13 hk, q_gR14 hk, q_gR15 hk, q_gR16 hk, q_gI hk, q_pI hk, q_a hk, q_w hk, q_l hk, nW_lit, eq_false hp, ↓reduceIte, zI_f, Option.bind_some, c15, n8]
      · have n8 : ¬ (gRe σ).1 = 8 := by omega
        obtain ⟨s1, t1', e1, r1, r2, r3⟩ := ref_L123 (N := N) (V := V) hk (pl := reAt (gRe σ) r.1) (r.2 1) (r.2 2) FU (gRe σ).1 s t le (by simp only [FU]; omega) (by omega)
        have c15' : s1 15 = nW (gRe σ).1 := by rw [r2 _ (by omega) (by omega)]; exact c15
        refine ⟨fset (fset (fset s1 15 (nW ((gRe σ).1 + 1))) (1778 + reAt (gRe σ) r.1) (r.2 1)) (1786 + reAt (gRe σ) r.1) (r.2 2), blk t1' (1224 + 4 * reAt (gRe σ) r.1) (fun x => V.2.1 9 (0 + x)), ?_, ?_⟩
        · simp (disch := omega) only [f_X12_retains_J79, f_X12_retains_J114, q_k hk, q_gR1 hk, q_gR2 hk, q_gR8 hk, q_gR11 hk, q_gR13 hk, q_gR14 hk, q_gR15 hk, q_gR16 hk, q_gI hk, q_pI hk, q_a hk, q_w hk, q_l hk, nW_add, nW_mul, nW_sub, nW_le, nW_lt, nW_inj, irem_nW, ix_nW, nW_lit, eq_false hp, ↓reduceIte, zI_f, Option.bind_some, c15, n8, e1, f_X12_retains_J217, f_X12_retains_J235, c15', q_mv9 hk]
        · rw [if_neg (by decide), if_neg h8]
          refine RSt_re h (fun i a b => by simp (disch := omega) only [fset_ne]; exact r2 i (by omega) (by omega)) (fun i a => by rw [blk_out _ _ (by omega)]; exact r3 i (by omega)) ⟨by simp (disch := omega) only [fset_ne, fset_eq, lins], fun j hj => ?_⟩ (by simp only [lins]; omega)
          have hj' : j < (gRe σ).1 + 1 := hj
          simp only [lins]
          by_cases q : j = reAt (gRe σ) r.1
          · rw [q, if_neg (by omega), if_pos rfl]
            simp (disch := omega) only [fset_ne, fset_eq, true_and]
            exact TB.blk hT
          · by_cases q2 : j < reAt (gRe σ) r.1
            · obtain ⟨y1, y2, y3⟩ := rows j (by omega)
              rw [if_pos q2]
              simp (disch := omega) only [fset_ne]
              rw [r2 _ (by omega) (by omega), r2 _ (by omega) (by omega)]
              exact ⟨y1, y2, y3.fr (fun k hk => by rw [blk_out _ _ (by omega)]; exact r3 _ (by omega))⟩
            · obtain ⟨x1, x2, x3⟩ := r1 j (by omega) (by omega)
              obtain ⟨y1, y2, y3⟩ := rows (j - 1) (by omega)
              rw [if_neg q2, if_neg q]
              simp (disch := omega) only [fset_ne]
              exact ⟨by rw [x1]; exact y1, by rw [x2]; exact y2, fun k hk => by rw [blk_out _ _ (by omega), x3 k hk]; exact y3 k hk⟩
theorem ref_retains_L2 {N : Mem} {V : VR} {s : Nat → Int32} {t : Nat → Int64} {σ : Sg} {r : Row} (hk : KR N) (h : RSt s t σ) (hok : ReOk (gRe σ)) (hT : TB (V.2.1 9) 0 r.1) (hx : okTx r.1) (htop : topical r.1) : ∀ n i, i ≤ (gRe σ).1 → (gRe σ).1 - i < n → rePl (gRe σ) r.1 ((gRe σ).1 - i) i = reAt (gRe σ) r.1 → ∃ s' t', f_X12_retains_L2 n 908 (r.2 1) (r.2 2) (nW i) (QW N V s t) = some (QW N V s' t') ∧ RSt s' t' (uRe σ (spRetain (gRe σ) r))
  | 0, i, _, hn, _ => absurd hn (by omega)
  | n + 1, i, hi, hn, hpl => by
    obtain ⟨c15, rows⟩ := h.2.2.1
    have l8 : (gRe σ).1 ≤ 8 := h.2.2.2.2.2.1
    obtain ⟨s', t', e, R⟩ := ref_J79 (N := N) (V := V) hk h hT
    have cmp : ∀ j, j < (gRe σ).1 → f_X12_isSame 910 (nW (1224 + 4 * j)) 917 (nW 0) (QW N V s t) = some (zI (decide (((gRe σ).2 j).1 = r.1)), QW N V s t) ∧ f_X12_isBefore 910 (nW (1224 + 4 * j)) 917 (nW 0) (QW N V s t) = some (zI (ltS (txS ((gRe σ).2 j).1) (txS r.1)), QW N V s t) := by
      intro j hj
      obtain ⟨y1, y2, y3⟩ := rows j hj
      have A := LB_of (k := 2) (n := 3800) (i := 1224 + 4 * j) (V := VS V s t) hk (by omega) rfl (by omega) (by omega) y3
      have B := LB_of (k := 9) (n := 4) (i := 0) (t := r.1) (V := VS V s t) hk (by omega) rfl (by omega) (by omega) hT
      exact ⟨ref_isSame A B (hok j hj).1 hx, ref_isBefore A B (hok j hj).1 hx (hok j hj).2.1 htop⟩
    have t1 : ¬ nW 1 = nW 0 := by decide
    have stop : reAt (gRe σ) r.1 = i → f_X12_retains_J41 908 (r.2 1) (r.2 2) (nW i) (QW N V s t) = some (QW N V s' t') := by
      intro hr
      rw [hr] at e
      by_cases hlt : i < (gRe σ).1
      · have n1 : ¬ (gRe σ).1 ≤ i := by omega
        have sa := (cmp i hlt).1
        by_cases hs : ((gRe σ).2 i).1 = r.1
        · have hkn : reKnown (gRe σ) r.1 = true := by unfold reKnown; rw [hr, decide_eq_true hlt, decide_eq_true hs]; rfl
          rw [hkn, zI_t] at e
          simp (disch := omega) only [f_X12_retains_J41, q_k hk, q_gR1 hk, q_gR2 hk, q_gR8 hk, q_gR11 hk, q_gR13 hk, q_gR14 hk, q_gR15 hk, q_gR16 hk, q_gI hk, q_pI hk, q_a hk, q_w hk, q_l hk, nW_add, nW_mul, nW_sub, nW_le, nW_lt, nW_inj, irem_nW, ix_nW, nW_lit, c15, Option.bind_some, n1, ↓reduceIte, sa, bindP, eq_true hs, decide_true, zI_t, t1, e]
        · have hkn : reKnown (gRe σ) r.1 = false := by unfold reKnown; rw [hr, decide_eq_false hs, Bool.and_false]
          rw [hkn, zI_f] at e
          simp (disch := omega) only [f_X12_retains_J41, f_X12_retains_J78, q_k hk, q_gR1 hk, q_gR2 hk, q_gR8 hk, q_gR11 hk, q_gR13 hk, q_gR14 hk, q_gR15 hk, q_gR16 hk, q_gI hk, q_pI hk, q_a hk, q_w hk, q_l hk, nW_add, nW_mul, nW_sub, nW_le, nW_lt, nW_inj, irem_nW, ix_nW, nW_lit, c15, Option.bind_some, n1, ↓reduceIte, sa, bindP, eq_false hs, decide_false, zI_f, e]
      · have n1 : (gRe σ).1 ≤ i := by omega
        have hkn : reKnown (gRe σ) r.1 = false := by unfold reKnown; rw [hr, decide_eq_false hlt, Bool.false_and]
        rw [hkn, zI_f] at e
        simp (disch := omega) only [f_X12_retains_J41, f_X12_retains_J78, q_k hk, q_gR1 hk, q_gR2 hk, q_gR8 hk, q_gR11 hk, q_gR13 hk, q_gR14 hk, q_gR15 hk, q_gR16 hk, q_gI hk, q_pI hk, q_a hk, q_w hk, q_l hk, nW_add, nW_mul, nW_sub, nW_le, nW_lt, nW_inj, irem_nW, ix_nW, nW_lit, c15, Option.bind_some, n1, ↓reduceIte, e]
    by_cases he : i = (gRe σ).1
    · have n1 : (gRe σ).1 ≤ i := by omega
      have hr : reAt (gRe σ) r.1 = i := by rw [← hpl]; exact rePl_end (fun hh => by omega)
      have := stop hr
      refine ⟨s', t', ?_, R⟩
      simp (disch := omega) only [f_X12_retains_L2, q_k hk, q_gR1 hk, q_gR2 hk, q_gR8 hk, q_gR11 hk, q_gR13 hk, q_gR14 hk, q_gR15 hk, q_gR16 hk, q_gI hk, q_pI hk, q_a hk, q_w hk, q_l hk, nW_add, nW_mul, nW_sub, nW_le, nW_lt, nW_inj, irem_nW, ix_nW, nW_lit, c15, Option.bind_some, n1, ↓reduceIte, this]
    · have hlt : i < (gRe σ).1 := by omega
      have n1 : ¬ (gRe σ).1 ≤ i := by omega
      have sb := (cmp i hlt).2
      rw [show (gRe σ).1 - i = ((gRe σ).1 - (i + 1)) + 1 by omega, rePl] at hpl
      cases hs : ltS (txS ((gRe σ).2 i).1) (txS r.1) with
      | true =>
        rw [if_pos ⟨hlt, hs⟩] at hpl
        rw [hs, zI_t] at sb
        obtain ⟨s2, t2, e2, R2⟩ := ref_retains_L2 (N := N) (V := V) hk h hok hT hx htop n (i + 1) (by omega) (by omega) hpl
        refine ⟨s2, t2, ?_, R2⟩
        simp (disch := omega) only [f_X12_retains_L2, q_k hk, q_gR1 hk, q_gR2 hk, q_gR8 hk, q_gR11 hk, q_gR13 hk, q_gR14 hk, q_gR15 hk, q_gR16 hk, q_gI hk, q_pI hk, q_a hk, q_w hk, q_l hk, nW_add, nW_mul, nW_sub, nW_le, nW_lt, nW_inj, irem_nW, ix_nW, nW_lit, c15, Option.bind_some, n1, ↓reduceIte, sb, bindP, t1, e2]
      | false =>
        rw [if_neg (fun hh => absurd (hs.symm.trans hh.2) (by decide))] at hpl
        rw [hs, zI_f] at sb
        have := stop hpl.symm
        refine ⟨s', t', ?_, R⟩
        simp (disch := omega) only [f_X12_retains_L2, q_k hk, q_gR1 hk, q_gR2 hk, q_gR8 hk, q_gR11 hk, q_gR13 hk, q_gR14 hk, q_gR15 hk, q_gR16 hk, q_gI hk, q_pI hk, q_a hk, q_w hk, q_l hk, nW_add, nW_mul, nW_sub, nW_le, nW_lt, nW_inj, irem_nW, ix_nW, nW_lit, c15, Option.bind_some, n1, ↓reduceIte, sb, bindP, this]
theorem ref_retains {N : Mem} {V : VR} {s : Nat → Int32} {t : Nat → Int64} {σ : Sg} {r : Row} (hk : KR N) (h : RSt s t σ) (hok : ReOk (gRe σ)) (hT : TB (V.2.1 9) 0 r.1) (hx : okTx r.1) (htop : topical r.1) : ∃ s' t', f_X12_retains 908 (r.2 1) (r.2 2) (QW N V s t) = some (QW N V s' t') ∧ RSt s' t' (uRe σ (spRetain (gRe σ) r)) := by
  obtain ⟨s', t', e, R⟩ := ref_retains_L2 (N := N) (V := V) hk h hok hT hx htop FU 0 (by omega) (by have : (gRe σ).1 ≤ 8 := h.2.2.2.2.2.1; simp only [FU]; omega) rfl
  exact ⟨s', t', by simp only [f_X12_retains, q_k hk, ↓reduceIte, nW_lit, e], R⟩
theorem ReOk_retain {l : Ls Row} {r : Row} (h : ReOk l) (hx : okTx r.1) (htop : topical r.1) (hg : ∃ n, n ≤ 2 ∧ r.2 1 = nW n) : ReOk (spRetain l r) := by
  have le := reAt_le l r.1
  unfold spRetain
  split
  · split
    · rename_i hkn
      have hlt : reAt l r.1 < l.1 := by unfold reKnown at hkn; rw [Bool.and_eq_true, decide_eq_true_eq] at hkn; exact hkn.1
      intro j hj
      obtain ⟨j', a, _, b⟩ := ldel_lt l _ hj hlt
      rw [b]; exact h j' a
    · exact h
  · split
    · intro j hj
      simp only [lset]
      split
      · exact ⟨hx, htop, hg⟩
      · exact h j hj
    · split
      · exact h
      · intro j hj
        have hj' : j < l.1 + 1 := hj
        simp only [lins]
        split
        · exact h j (by omega)
        · split
          · exact ⟨hx, htop, hg⟩
          · exact h (j - 1) (by omega)
