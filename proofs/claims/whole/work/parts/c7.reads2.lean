/-! .. level by level -/
theorem ref_rd_A {N : Mem} {V : VR} {s : Nat → Int32} {t : Nat → Int64} {l : List Nat} {pre : Txt} (hk : KR N) (h : RB V l) (hp : RLv V pre) (wild : Bool) (n : Nat) {i : Nat} (hi : i ≤ l.length) : f_X12_reads_L34 (n + 1) 908 (zI wild) (nW i) (nW 1) (QW N V s t) = if lvl wild (l.drop i) = [] then f_X12_reads_L34 n 908 (zI wild) (nW i) (nW 0) (QW N (vI V 0 10 (nW i)) s t) else f_X12_reads_J241 (f_X12_reads_L34 n) 908 (zI wild) (nW (i + (lvl wild (l.drop i)).length)) (nW 0) (zI (decide (lvl wild (l.drop i) = [35]))) (rc (lvl wild (l.drop i))) (nW pre.length) 916 (QW N V s t) := by
  have h30 := h.2.1
  cases hw : isWc wild (l.drop i) with
  | true =>
    obtain ⟨ht, c, r, ed, hc, hl⟩ := lvl_wild hw
    subst ht
    have hil : i < l.length := by
      apply Decidable.byContradiction; intro hh
      rw [List.drop_eq_nil_of_le (by omega)] at ed; cases ed
    have ed' : l.drop i = l.getD i 0 :: l.drop (i + 1) := by rw [List.drop_eq_getElem_cons hil, gd_in _ _ hil]
    have hci : l.getD i 0 = c := by rw [ed'] at ed; exact (List.cons.inj ed).1
    have e7 := h.2.2.1 i hil
    rw [hci] at e7
    have n0 : ¬ l.length ≤ i := by omega
    have e9 := h.1
    have J : f_X12_reads_L34 (n + 1) 908 (zI true) (nW i) (nW 1) (QW N V s t) = f_X12_reads_J80 (f_X12_reads_L34 n) 908 (zI true) (nW i) (nW i) (nW 1) (QW N V s t) := by
      by_cases c43 : c = 43
      · simp (disch := omega) only [f_X12_reads_L34, f_X12_reads_J75, nW_lit, zI_t, z1n0, ↓reduceIte, q_k hk, q_gR1 hk, q_gR2 hk, q_gR8 hk, q_gR11 hk, q_gR13 hk, q_gR14 hk, q_gR15 hk, q_gR16 hk, q_gI hk, q_pI hk, q_a hk, q_w hk, q_l hk, Option.bind_some, e9, nW_le, n0, q_a7 hk, e7, nW_inj, Nat.reduceEqDiff, Nat.one_ne_zero, c43]
      · have c35 : c = 35 := by omega
        simp (disch := omega) only [f_X12_reads_L34, f_X12_reads_J75, nW_lit, zI_t, z1n0, ↓reduceIte, q_k hk, q_gR1 hk, q_gR2 hk, q_gR8 hk, q_gR11 hk, q_gR13 hk, q_gR14 hk, q_gR15 hk, q_gR16 hk, q_gI hk, q_pI hk, q_a hk, q_w hk, q_l hk, Option.bind_some, e9, nW_le, n0, q_a7 hk, e7, nW_inj, Nat.reduceEqDiff, Nat.one_ne_zero, c43, c35]
    have L : ∀ isl : Bool, f_X12_reads_L111 FU (f_X12_reads_L34 n) 908 (zI true) (nW i) (nW i) (nW 1) (zI isl) (nL 0) (nW 0) (QW N V s t) = f_X12_reads_J191 (f_X12_reads_L34 n) 908 (zI true) (nW i) (nW 1) (zI isl) (nL (rcK 6 [])) (nW 1) (nW i) (QW N V s t) := fun isl => by
      have e := ref_rd_L159 (M := QW N V s t) (f_X12_reads_L34 n) (zI true) (nW i) (nW i) (zI isl) true [] FU 6 0 (by simp only [FU]; omega) (by omega) (by simp)
      rw [zI_t] at e ⊢
      rw [← e]
      show f_X12_reads_L111 (4099 + 1) _ _ _ _ _ _ _ _ _ _ = _
      rw [f_X12_reads_L111, nW_lit, if_neg z1n0]
      rfl
    rw [J, hl, if_neg (by simp)]
    have e35 : f_X12_reads_J80 (f_X12_reads_L34 n) 908 (zI true) (nW i) (nW i) (nW 1) (QW N V s t) = f_X12_reads_L111 FU (f_X12_reads_L34 n) 908 (zI true) (nW i) (nW i) (nW 1) (zI (decide (c = 35))) (nL 0) (nW 0) (QW N V s t) := by
      have e0 : (0 : Int64) = nL 0 := rfl
      by_cases c35 : c = 35
      · simp (disch := omega) only [f_X12_reads_J80, nW_lit, z1n0, ↓reduceIte, q_k hk, q_gR1 hk, q_gR2 hk, q_gR8 hk, q_gR11 hk, q_gR13 hk, q_gR14 hk, q_gR15 hk, q_gR16 hk, q_gI hk, q_pI hk, q_a hk, q_w hk, q_l hk, Option.bind_some, q_a7 hk, e7, nW_inj, Nat.reduceEqDiff, Nat.one_ne_zero, c35, decide_true, zI_t, e0]
      · simp (disch := omega) only [f_X12_reads_J80, nW_lit, z1n0, ↓reduceIte, q_k hk, q_gR1 hk, q_gR2 hk, q_gR8 hk, q_gR11 hk, q_gR13 hk, q_gR14 hk, q_gR15 hk, q_gR16 hk, q_gI hk, q_pI hk, q_a hk, q_w hk, q_l hk, Option.bind_some, q_a7 hk, e7, nW_inj, Nat.reduceEqDiff, Nat.one_ne_zero, c35, decide_false, zI_f, e0]
    rw [e35, L]
    have ne : ¬ nW (i + 1) = nW i := nW_ne (by omega) (by omega) (by omega)
    have e12 := hp.1
    have r1 : (1 : Nat) = [c].length := rfl
    by_cases c35 : c = 35
    · subst c35
      simp (disch := omega) only [f_X12_reads_J191, nW_add, ne, ↓reduceIte, q_k hk, q_gR1 hk, q_gR2 hk, q_gR8 hk, q_gR11 hk, q_gR13 hk, q_gR14 hk, q_gR15 hk, q_gR16 hk, q_gI hk, q_pI hk, q_a hk, q_w hk, q_l hk, Option.bind_some, e12, nW_lit, z1n0, decide_true, zI_t, lit_m2, List.length_singleton]
    · have c43 : c = 43 := by omega
      subst c43
      simp (disch := omega) only [f_X12_reads_J191, nW_add, ne, ↓reduceIte, q_k hk, q_gR1 hk, q_gR2 hk, q_gR8 hk, q_gR11 hk, q_gR13 hk, q_gR14 hk, q_gR15 hk, q_gR16 hk, q_gI hk, q_pI hk, q_a hk, q_w hk, q_l hk, Option.bind_some, e12, nW_lit, z1n0, decide_true, zI_t, lit_m1, List.length_singleton]
      rfl
  | false =>
    have hl := lvl_plain hw
    obtain ⟨h1, h2, h3, h4⟩ := tkp_ok 6 (l.drop i)
    have p35 : tkp 6 (l.drop i) ≠ [35] := (pl_ne h1).2
    rw [hl, decide_eq_false p35]
    have e9 := h.1
    have e0 : (0 : Int64) = nL 0 := rfl
    have J : f_X12_reads_L34 (n + 1) 908 (zI wild) (nW i) (nW 1) (QW N V s t) = f_X12_reads_L111 FU (f_X12_reads_L34 n) 908 (zI wild) (nW i) (nW i) (nW 0) (nW 0) (nL 0) (nW 0) (QW N V s t) := by
      cases wild with
      | false => simp (disch := omega) only [f_X12_reads_L34, f_X12_reads_J79, f_X12_reads_J80, nW_lit, zI_f, z1n0, ↓reduceIte, e0]
      | true =>
        by_cases hil : i < l.length
        · have ed' : l.drop i = l.getD i 0 :: l.drop (i + 1) := by rw [List.drop_eq_getElem_cons hil, gd_in _ _ hil]
          have e7 := h.2.2.1 i hil
          have n0 : ¬ l.length ≤ i := by omega
          have hcr := h.2.2.2 (l.getD i 0) (by rw [gd_in _ _ hil]; exact List.getElem_mem hil)
          have nc : ¬ l.getD i 0 = 43 ∧ ¬ l.getD i 0 = 35 := by
            unfold isWc at hw
            rw [ed'] at hw
            simpa using hw
          simp (disch := omega) only [f_X12_reads_L34, f_X12_reads_J79, f_X12_reads_J80, nW_lit, zI_t, z1n0, ↓reduceIte, q_k hk, q_gR1 hk, q_gR2 hk, q_gR8 hk, q_gR11 hk, q_gR13 hk, q_gR14 hk, q_gR15 hk, q_gR16 hk, q_gI hk, q_pI hk, q_a hk, q_w hk, q_l hk, Option.bind_some, e9, nW_le, n0, q_a7 hk, e7, nW_inj, Nat.reduceEqDiff, Nat.one_ne_zero, nc.1, nc.2, e0]
        · have n0 : l.length ≤ i := by omega
          simp (disch := omega) only [f_X12_reads_L34, f_X12_reads_J79, f_X12_reads_J80, nW_lit, zI_t, z1n0, ↓reduceIte, q_k hk, q_gR1 hk, q_gR2 hk, q_gR8 hk, q_gR11 hk, q_gR13 hk, q_gR14 hk, q_gR15 hk, q_gR16 hk, q_gI hk, q_pI hk, q_a hk, q_w hk, q_l hk, Option.bind_some, e9, nW_le, n0, e0]
    have e1 := ref_rd_L111 (N := N) (s := s) (t := t) hk h (f_X12_reads_L34 n) (zI wild) (nW i) (nW 0) FU 6 i [] hi (by simp only [FU]; omega) (by simp) (fun c hc => by simp at hc)
    generalize hp' : tkp 6 (l.drop i) = p at h1 h2 h3 h4 e1
    simp only [List.length_nil, Nat.zero_add, List.nil_append] at e1
    have e2 := ref_rd_L159 (M := QW N V s t) (f_X12_reads_L34 n) (zI wild) (nW (i + p.length)) (nW i) (nW 0) false p FU (6 - p.length) p.length (by simp only [FU]; omega) (by omega) (Nat.le_refl _)
    rw [zI_f] at e2 ⊢
    have e1' : f_X12_reads_L111 FU (f_X12_reads_L34 n) 908 (zI wild) (nW i) (nW i) (nW 0) (nW 0) (nL 0) (nW 0) (QW N V s t) = _ := e1
    rw [J, e1', e2]
    have e12 := hp.1
    by_cases p0 : p = []
    · subst p0
      rw [if_pos rfl]
      simp (disch := omega) only [f_X12_reads_J191, List.length_nil, Nat.add_zero, nW_add, ↓reduceIte, q_pI hk, Option.bind_some, nW_lit]
    · have pl := len_pos p0
      have ne : ¬ nW (i + p.length) = nW i := nW_ne (by omega) (by omega) (by omega)
      rw [if_neg p0, rc_pl h1]
      simp (disch := omega) only [f_X12_reads_J191, Nat.add_zero, nW_add, ne, ↓reduceIte, q_k hk, q_gR1 hk, q_gR2 hk, q_gR8 hk, q_gR11 hk, q_gR13 hk, q_gR14 hk, q_gR15 hk, q_gR16 hk, q_gI hk, q_pI hk, q_a hk, q_w hk, q_l hk, Option.bind_some, e12, nW_lit]
theorem ref_rd {N : Mem} {s : Nat → Int32} {t : Nat → Int64} {l : List Nat} (hk : KR N) (wild : Bool) : ∀ m n i V (pre : Txt), m + 1 + pre.length = 4 → m + 1 < n → i ≤ l.length → RB V l → RLv V pre → ∃ V', f_X12_reads_L34 n 908 (zI wild) (nW i) (nW 1) (QW N V s t) = some (zI (rd wild (m + 1) (l.drop i) i).1.isSome, QW N V' s t) ∧ VRd V V' ∧ V'.1 0 9 = nW 0 ∧ V'.1 0 10 = (rd wild (m + 1) (l.drop i) i).2 ∧ ∀ tx, (rd wild (m + 1) (l.drop i) i).1 = some tx → V'.1 0 12 = nW (pre ++ tx).length ∧ ∀ k, k < 4 → V'.2.1 8 k = rc ((pre ++ tx).getD k [])
  | m, 0, i, V, pre, _, hn, _, _, _ => absurd hn (by omega)
  | m, n + 1, i, V, pre, hm, hn, hi, hB, hL => by
    have h30 := hB.2.1
    obtain ⟨n', rfl⟩ : ∃ n', n = n' + 1 := ⟨n - 1, by omega⟩
    have eA := ref_rd_A (N := N) (s := s) (t := t) hk hB hL wild (n' + 1) hi
    have err : ∀ (W : VR) (w i' : Int32) (j : Nat), j ≤ 1000 → W.1 0 10 = nW j → f_X12_reads_L34 (n' + 1) 908 w i' (nW 0) (QW N W s t) = some (zI false, QW N (vI W 0 9 (nW 0)) s t) := fun W w i' j hj hW => by
      have ne : ¬ nW j = -nW 1 := nW_neg (by omega) (by omega) (by omega)
      have := ref_rd_end (N := N) (s := s) (t := t) hk n' w i' hW
      rw [decide_eq_false ne] at this; exact this
    have e9 : ∀ (W : VR) (x : Int32), (vI W 0 9 x).1 0 9 = x := fun W x => by rw [vI_1, fset_eq]
    have e10 : ∀ (W : VR) (x y : Int32), (vI (vI W 0 10 y) 0 9 x).1 0 10 = y := fun W x y => by rw [vI_1, fset_ne _ _ (by omega), vI_1, fset_eq]
    rw [rd]
    by_cases h0 : lvl wild (l.drop i) = []
    · rw [if_pos h0] at eA ⊢
      refine ⟨vI (vI V 0 10 (nW i)) 0 9 (nW 0), ?_, (VRd_I V _ (by omega)).trans (VRd_I _ _ (by omega)), e9 _ _, e10 _ _ _, fun tx h => by cases h⟩
      rw [eA, err (vI V 0 10 (nW i)) _ _ i (by omega) (by rw [vI_1, fset_eq])]
      rfl
    · rw [if_neg h0] at eA ⊢
      obtain ⟨k1, k2, k3⟩ := lvl_ok h0
      have hr := okLev_rng k1
      generalize hlv : lvl wild (l.drop i) = lv at h0 eA k1 k2 k3 hr
      have hd : (l.drop i).drop lv.length = l.drop (i + lv.length) := List.drop_drop
      have hlen : i + lv.length ≤ l.length := by
        have := congrArg List.length k2
        simp only [List.length_append, List.length_drop] at this
        omega
      rw [hd] at k2 ⊢
      -- the level is stored
      have k4 : pre.length < 4 := by omega
      have R1 : VRd V (vI (vL V 8 pre.length (rc lv)) 0 12 (nW (pre.length + 1))) := (VRd_L V _ _).trans (VRd_I _ _ (by omega))
      have B1 : RB (vI (vL V 8 pre.length (rc lv)) 0 12 (nW (pre.length + 1))) l := hB.vrd R1 (by rw [vI_1, fset_ne _ _ (by omega)]; rfl)
      have L1 : RLv (vI (vL V 8 pre.length (rc lv)) 0 12 (nW (pre.length + 1))) (pre ++ [lv]) := by
        refine ⟨?_, ?_, ?_, fun k hk => ?_⟩
        · rw [vI_1, fset_eq, List.length_append]; rfl
        · rw [List.length_append]; simp; omega
        · rw [vI_1, fset_ne _ _ (by omega)]; exact hL.2.2.1
        · show (vL V 8 pre.length (rc lv)).2.1 8 k = _
          rw [vL_1]
          by_cases e : k = pre.length
          · subst e
            rw [fset_eq, List.getD_eq_getElem?_getD, List.getElem?_append_right (Nat.le_refl _), Nat.sub_self]; rfl
          · rw [fset_ne _ _ e, hL.2.2.2 k hk]
            by_cases hkp : k < pre.length
            · rw [List.getD_eq_getElem?_getD, List.getD_eq_getElem?_getD, List.getElem?_append_left hkp]
            · rw [List.getD_eq_getElem?_getD, List.getD_eq_getElem?_getD, List.getElem?_eq_none (by omega), List.getElem?_eq_none (by simp; omega)]
      have g12 : (vL V 8 pre.length (rc lv)).1 0 12 = nW pre.length := hL.1
      have g9 : (vI (vL V 8 pre.length (rc lv)) 0 12 (nW (pre.length + 1))).1 0 9 = nW l.length := B1.1
      have g12' : (vI (vL V 8 pre.length (rc lv)) 0 12 (nW (pre.length + 1))).1 0 12 = nW (pre.length + 1) := by rw [vI_1, fset_eq]
      have eJ : ∀ k34 isl, f_X12_reads_J241 k34 908 (zI wild) (nW (i + lv.length)) (nW 0) isl (rc lv) (nW pre.length) 916 (QW N V s t) = if l.length ≤ i + lv.length then k34 908 (zI wild) (nW (i + lv.length)) (nW 0) (QW N (vI (vL V 8 pre.length (rc lv)) 0 12 (nW (pre.length + 1))) s t) else if isl = nW 0 then (if 4 ≤ pre.length + 1 then f_X12_reads_J288 k34 908 (zI wild) (nW (i + lv.length)) (QW N (vI (vL V 8 pre.length (rc lv)) 0 12 (nW (pre.length + 1))) s t) else if l.getD (i + lv.length) 0 = 47 then f_X12_reads_J289 k34 908 (zI wild) (nW (i + lv.length)) (nW 1) (QW N (vI (vL V 8 pre.length (rc lv)) 0 12 (nW (pre.length + 1))) s t) else f_X12_reads_J288 k34 908 (zI wild) (nW (i + lv.length)) (QW N (vI (vL V 8 pre.length (rc lv)) 0 12 (nW (pre.length + 1))) s t)) else f_X12_reads_J288 k34 908 (zI wild) (nW (i + lv.length)) (QW N (vI (vL V 8 pre.length (rc lv)) 0 12 (nW (pre.length + 1))) s t) := fun k34 isl => by
        by_cases hle : l.length ≤ i + lv.length
        · simp (disch := omega) only [f_X12_reads_J241, q_w8 hk, q_k hk, q_gR1 hk, q_gR2 hk, q_gR8 hk, q_gR11 hk, q_gR13 hk, q_gR14 hk, q_gR15 hk, q_gR16 hk, q_gI hk, q_pI hk, q_a hk, q_w hk, q_l hk, Option.bind_some, nW_lit, nW_add, g12, g9, nW_le, hle, ↓reduceIte]
        · have e7 := B1.2.2.1 (i + lv.length) (by omega)
          have hcr := hB.2.2.2 (l.getD (i + lv.length) 0) (by rw [gd_in _ _ (by omega)]; exact List.getElem_mem _)
          simp (disch := omega) only [f_X12_reads_J241, q_w8 hk, q_k hk, q_gR1 hk, q_gR2 hk, q_gR8 hk, q_gR11 hk, q_gR13 hk, q_gR14 hk, q_gR15 hk, q_gR16 hk, q_gI hk, q_pI hk, q_a hk, q_w hk, q_l hk, Option.bind_some, nW_lit, nW_add, g12, g9, g12', nW_le, hle, ↓reduceIte, q_a7 hk, e7, nW_inj, Nat.reduceEqDiff, Nat.one_ne_zero]
      rw [eJ] at eA
      by_cases hle : l.length ≤ i + lv.length
      · -- nothing follows
        rw [if_pos hle] at eA
        rw [List.drop_eq_nil_of_le hle] at k2 ⊢
        have E := ref_rd_end (N := N) (s := s) (t := t) hk n' (zI wild) (nW (i + lv.length)) L1.2.2.1
        rw [decide_eq_true rfl] at E
        refine ⟨_, eA.trans E, R1.trans (VRd_I _ _ (by omega)), e9 _ _, ?_, fun tx h => ?_⟩
        · rw [vI_1, fset_ne _ _ (by omega)]; exact L1.2.2.1
        · simp only [Option.some.injEq] at h
          subst h
          refine ⟨?_, fun k hk => ?_⟩
          · rw [vI_1, fset_ne _ _ (by omega)]; exact L1.1
          · exact L1.2.2.2 k hk
      · rw [if_neg hle] at eA
        have ed' : l.drop (i + lv.length) = l.getD (i + lv.length) 0 :: l.drop (i + lv.length + 1) := by rw [List.drop_eq_getElem_cons (by omega), gd_in _ _ (by omega)]
        rw [ed'] at k2 ⊢
        generalize hcc : l.getD (i + lv.length) 0 = c at eA k2
        dsimp only
        have bad : f_X12_reads_J288 (f_X12_reads_L34 (n' + 1)) 908 (zI wild) (nW (i + lv.length)) (QW N (vI (vL V 8 pre.length (rc lv)) 0 12 (nW (pre.length + 1))) s t) = some (zI false, QW N (vI (vI (vI (vL V 8 pre.length (rc lv)) 0 12 (nW (pre.length + 1))) 0 10 (nW (i + lv.length))) 0 9 (nW 0)) s t) := by
          simp only [f_X12_reads_J288, f_X12_reads_J289, f_X12_reads_J300, nW_lit, ↓reduceIte, q_pI hk, Option.bind_some]
          exact err _ _ _ (i + lv.length) (by omega) (by rw [vI_1, fset_eq])
        have badX : ∃ V', f_X12_reads_J288 (f_X12_reads_L34 (n' + 1)) 908 (zI wild) (nW (i + lv.length)) (QW N (vI (vL V 8 pre.length (rc lv)) 0 12 (nW (pre.length + 1))) s t) = some (zI false, QW N V' s t) ∧ VRd V V' ∧ V'.1 0 9 = nW 0 ∧ V'.1 0 10 = nW (i + lv.length) := ⟨_, bad, R1.trans ((VRd_I _ _ (by omega)).trans (VRd_I _ _ (by omega))), e9 _ _, e10 _ _ _⟩
        by_cases hg : lv ≠ [35] ∧ 0 < m ∧ c = 47
        · rw [if_pos hg]
          obtain ⟨g1, g2, g3⟩ := hg
          rw [decide_eq_false g1, zI_f, if_pos rfl, if_neg (by omega), if_pos g3] at eA
          obtain ⟨m', rfl⟩ : ∃ m', m = m' + 1 := ⟨m - 1, by omega⟩
          have R2 : VRd V (vI (vI (vL V 8 pre.length (rc lv)) 0 12 (nW (pre.length + 1))) 0 10 (-nW 1)) := R1.trans (VRd_I _ _ (by omega))
          have B2 : RB (vI (vI (vL V 8 pre.length (rc lv)) 0 12 (nW (pre.length + 1))) 0 10 (-nW 1)) l := B1.vrd (VRd_I _ _ (by omega)) (by rw [vI_1, fset_ne _ _ (by omega)])
          have L2 : RLv (vI (vI (vL V 8 pre.length (rc lv)) 0 12 (nW (pre.length + 1))) 0 10 (-nW 1)) (pre ++ [lv]) := ⟨by rw [vI_1, fset_ne _ _ (by omega)]; exact L1.1, L1.2.1, by rw [vI_1, fset_eq], L1.2.2.2⟩
          obtain ⟨V', e, q, x9, x10, xt⟩ := ref_rd (N := N) (s := s) (t := t) hk wild m' (n' + 1) (i + lv.length + 1) _ (pre ++ [lv]) (by rw [List.length_append]; simp; omega) (by omega) (by omega) B2 L2
          refine ⟨V', ?_, R2.trans q, x9, x10, fun tx h => ?_⟩
          · rw [eA]
            simp only [f_X12_reads_J289, f_X12_reads_J300, nW_lit, z1n0, ↓reduceIte, q_pI hk, Option.bind_some, nW_add, lit_m1i]
            rw [e]
            cases (rd wild (m' + 1) (l.drop (i + lv.length + 1)) (i + lv.length + 1)).1 <;> rfl
          · cases hrec : (rd wild (m' + 1) (l.drop (i + lv.length + 1)) (i + lv.length + 1)).1 with
            | none => rw [hrec] at h; cases h
            | some u =>
              rw [hrec, Option.map_some, Option.some.injEq] at h
              subst h
              have := xt u hrec
              rw [List.append_assoc] at this
              exact this
        · rw [if_neg hg]
          obtain ⟨V', eb, q, x9, x10⟩ := badX
          refine ⟨V', ?_, q, x9, x10, fun tx h => by cases h⟩
          rw [eA]
          by_cases g1 : lv = [35]
          · rw [decide_eq_true g1, zI_t, if_neg z1n0]; exact eb
          · rw [decide_eq_false g1, zI_f, if_pos rfl]
            by_cases g2 : 0 < m
            · rw [if_neg (by omega), if_neg (fun g3 => hg ⟨g1, g2, g3⟩)]; exact eb
            · rw [if_pos (by omega)]; exact eb
theorem ref_rd_L2 {N : Mem} {s : Nat → Int32} {t : Nat → Int64} (hk : KR N) (w : Int32) : ∀ n i V, i ≤ 4 → 4 - i < n → (∀ k, k < i → V.2.1 8 k = nL 0) → ∃ V', f_X12_reads_L2 n 908 w (nW i) (QW N V s t) = f_X12_reads_L34 FU 908 w (nW 0) (nW 1) (QW N (vI (vI V' 0 12 (nW 0)) 0 10 (-nW 1)) s t) ∧ VRd V V' ∧ V'.1 0 9 = V.1 0 9 ∧ ∀ k, k < 4 → V'.2.1 8 k = nL 0
  | 0, i, V, _, hn, _ => absurd hn (by omega)
  | n + 1, i, V, hi, hn, h => by
    by_cases h4 : i = 4
    · subst h4
      refine ⟨V, ?_, VRd.refl V, rfl, h⟩
      simp (disch := omega) only [f_X12_reads_L2, nW_lit, nW_le, Nat.le_refl, ↓reduceIte, q_pI hk, Option.bind_some, lit_m1i]
    · have n4 : ¬ 4 ≤ i := by omega
      obtain ⟨V', e, q, e9, h8⟩ := ref_rd_L2 (N := N) (s := s) (t := t) hk w n (i + 1) (vL V 8 i (nL 0)) (by omega) (by omega) (fun k hk => by
        rw [vL_1]
        by_cases e : k = i
        · subst e; exact fset_eq _ _ _
        · rw [fset_ne _ _ e]; exact h k (by omega))
      refine ⟨V', ?_, (VRd_L V _ _).trans q, e9, h8⟩
      have e0 : (0 : Int64) = nL 0 := rfl
      simp (disch := omega) only [f_X12_reads_L2, nW_lit, nW_le, n4, ↓reduceIte, q_k hk, q_gR1 hk, q_gR2 hk, q_gR8 hk, q_gR11 hk, q_gR13 hk, q_gR14 hk, q_gR15 hk, q_gR16 hk, q_gI hk, q_pI hk, q_a hk, q_w hk, q_l hk, Option.bind_some, e0, q_w8 hk, nW_add, e]
theorem ref_reads {N : Mem} {V : VR} {s : Nat → Int32} {t : Nat → Int64} {l : List Nat} (hk : KR N) (wild : Bool) (h : RB V l) : ∃ V', f_X12_reads 908 (zI wild) (QW N V s t) = some (zI (parse wild l).1.isSome, QW N V' s t) ∧ VRd V V' ∧ V'.1 0 9 = nW 0 ∧ V'.1 0 10 = (parse wild l).2 ∧ ∀ tx, (parse wild l).1 = some tx → V'.1 0 12 = nW tx.length ∧ TB (V'.2.1 8) 0 tx := by
  obtain ⟨V1, e1, q1, e9, h8⟩ := ref_rd_L2 (N := N) (s := s) (t := t) hk (zI wild) FU 0 V (by omega) (by simp only [FU]; omega) (fun k hk => absurd hk (Nat.not_lt_zero k))
  have R2 : VRd V (vI (vI V1 0 12 (nW 0)) 0 10 (-nW 1)) := q1.trans ((VRd_I _ _ (by omega)).trans (VRd_I _ _ (by omega)))
  have B2 : RB (vI (vI V1 0 12 (nW 0)) 0 10 (-nW 1)) l := h.vrd R2 (by rw [vI_1, fset_ne _ _ (by omega), vI_1, fset_ne _ _ (by omega)]; exact e9)
  have L2 : RLv (vI (vI V1 0 12 (nW 0)) 0 10 (-nW 1)) [] := ⟨by rw [vI_1, fset_ne _ _ (by omega), vI_1, fset_eq]; rfl, Nat.zero_le _, by rw [vI_1, fset_eq], fun k hk => by
    have := h8 k hk
    show V1.2.1 8 k = rc []
    rw [this, rc_nil]; rfl⟩
  obtain ⟨V', e, q, x9, x10, xt⟩ := ref_rd (N := N) (s := s) (t := t) (l := l) hk wild 3 FU 0 _ [] (by simp) (by simp only [FU]; omega) (Nat.zero_le _) B2 L2
  rw [List.drop_zero] at e x10 xt
  refine ⟨V', ?_, R2.trans q, x9, x10, fun tx h => ?_⟩
  · simp only [f_X12_reads, q_k hk, ↓reduceIte, nW_lit]
    rw [e1]; exact e
  · obtain ⟨a, b⟩ := xt tx h
    rw [List.nil_append] at a b
    exact ⟨a, fun k hk => by rw [Nat.zero_add]; exact b k hk⟩
