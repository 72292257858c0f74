/-! ROWS THAT MOVE UP, in the reference -/
theorem sh_takesPending_L7 {N : Mem} {V : VR} (hk : KR N) {c cnt : Nat} (hc : c < 6) (hcnt : cnt ≤ 8) : ∀ n j s t, j < cnt → cnt - j < n + 1 → s (62 + c) = nW cnt → ∃ s' t', f_X12_takesPending_L7 n 908 (nW c) (nW (8 * c + j)) (QW N V s t) = some (QW N V s' t') ∧ s' (62 + c) = nW (cnt - 1) ∧ (∀ i, j ≤ i → i + 1 < cnt → s' (734 + (8 * c + i)) = s (734 + (8 * c + (i + 1))) ∧ s' (782 + (8 * c + i)) = s (782 + (8 * c + (i + 1))) ∧ s' (830 + (8 * c + i)) = s (830 + (8 * c + (i + 1))) ∧ ∀ k, k < 4 → t' (312 + 4 * (8 * c + i) + k) = t (312 + 4 * (8 * c + (i + 1)) + k)) ∧ (∀ i, i ≠ (62 + c) → (i < 734 + (8 * c + j) ∨ 734 + (8 * c + cnt) ≤ i + 1) → (i < 782 + (8 * c + j) ∨ 782 + (8 * c + cnt) ≤ i + 1) → (i < 830 + (8 * c + j) ∨ 830 + (8 * c + cnt) ≤ i + 1) → s' i = s i) ∧ (∀ i, (i < 312 + 4 * (8 * c + j) ∨ 312 + 4 * (8 * c + cnt) ≤ i + 4) → t' i = t i)
  | 0, j, s, t, _, hn, _ => absurd hn (by omega)
  | n + 1, j, s, t, hj, hn, hs => by
    by_cases he : j + 1 = cnt
    · have n1 : 8 * c + cnt - 1 ≤ 8 * c + j := by omega
      refine ⟨_, _, by simp (disch := omega) only [f_X12_takesPending_L7, q_k hk, q_gR1 hk, q_gR2 hk, q_gR8 hk, q_gR11 hk, q_gR13 hk, q_gR14 hk, q_gR15 hk, q_gR16 hk, q_gI hk, q_pI hk, q_a hk, q_w hk, q_l hk, nW_add, nW_mul, nW_sub, nW_le, nW_lt, nW_inj, irem_nW, ix_nW, nW_lit, hs, n1, ↓reduceIte, Option.bind_some, fset_ne, fset_eq]; rfl, ?_⟩
      exact ⟨by simp (disch := omega) only [fset_ne, fset_eq], fun i h1 h2 => by omega, fun i h0 _ _ _ => by simp (disch := omega) only [fset_ne], fun i _ => rfl⟩
    · have n1 : ¬ 8 * c + cnt - 1 ≤ 8 * c + j := by omega
      obtain ⟨s', t', e, r0, r1, r2, r3⟩ := sh_takesPending_L7 (N := N) (V := V) hk hc hcnt n (j + 1) (fset (fset (fset s (734 + (8 * c + j)) (s (734 + (8 * c + (j + 1))))) (782 + (8 * c + j)) (s (782 + (8 * c + (j + 1))))) (830 + (8 * c + j)) (s (830 + (8 * c + (j + 1))))) (blk t (312 + 4 * (8 * c + j)) (fun x => t (312 + 4 * (8 * c + (j + 1)) + x))) (by omega) (by omega) (by simp (disch := omega) only [fset_ne]; exact hs)
      have x734 : 734 + (8 * c + j) + 1 = 734 + (8 * c + (j + 1)) := by omega
      have x782 : 782 + (8 * c + j) + 1 = 782 + (8 * c + (j + 1)) := by omega
      have x830 : 830 + (8 * c + j) + 1 = 830 + (8 * c + (j + 1)) := by omega
      have xt : (8 * c + j) + 1 = (8 * c + (j + 1)) := by omega
      refine ⟨s', t', ?_, r0, ?_, ?_, ?_⟩
      · simp (disch := omega) only [f_X12_takesPending_L7, q_k hk, q_gR1 hk, q_gR2 hk, q_gR8 hk, q_gR11 hk, q_gR13 hk, q_gR14 hk, q_gR15 hk, q_gR16 hk, q_gI hk, q_pI hk, q_a hk, q_w hk, q_l hk, nW_add, nW_mul, nW_sub, nW_le, nW_lt, nW_inj, irem_nW, ix_nW, nW_lit, hs, n1, ↓reduceIte, Option.bind_some, fset_ne, x734, x782, x830, xt, q_mv hk, e]
      · intro i h1 h2
        by_cases hi : i = j
        · subst hi
          refine ⟨?_, ?_, ?_, fun k hk4 => ?_⟩
          · rw [r2 _ (by omega) (by omega) (by omega) (by omega)]; simp (disch := omega) only [fset_eq, fset_ne]
          · rw [r2 _ (by omega) (by omega) (by omega) (by omega)]; simp (disch := omega) only [fset_eq, fset_ne]
          · rw [r2 _ (by omega) (by omega) (by omega) (by omega)]; simp (disch := omega) only [fset_eq, fset_ne]
          · rw [r3 _ (by omega), blk_in _ _ _ hk4]
        · obtain ⟨y734, y782, y830, z⟩ := r1 i (by omega) h2
          refine ⟨by rw [y734]; simp (disch := omega) only [fset_ne], by rw [y782]; simp (disch := omega) only [fset_ne], by rw [y830]; simp (disch := omega) only [fset_ne], fun k hk4 => ?_⟩
          rw [z k hk4]; exact blk_out _ _ (by omega)
      · intro i h0 g734 g782 g830
        rw [r2 i h0 (by omega) (by omega) (by omega)]; simp (disch := omega) only [fset_ne]
      · intro i h0
        rw [r3 i (by omega)]; exact blk_out _ _ (by omega)
theorem sh_ends_L6 {N : Mem} {V : VR} (hk : KR N) {c cnt : Nat} (hc : c < 6) (hcnt : cnt ≤ 5) : ∀ n j s t, j < cnt → cnt - j < n + 1 → s (56 + c) = nW cnt → ∃ s' t', f_X12_ends_L6 n 908 (nW c) (nW (5 * c + j)) (QW N V s t) = (f_X12_goesOn 908 (nW c) (QW N V s' t')).bind (fun M9 => some M9) ∧ s' (56 + c) = nW (cnt - 1) ∧ s' 14 = s 14 + nW 1 ∧ (∀ i, j ≤ i → i + 1 < cnt → s' (554 + (5 * c + i)) = s (554 + (5 * c + (i + 1))) ∧ s' (584 + (5 * c + i)) = s (584 + (5 * c + (i + 1))) ∧ s' (614 + (5 * c + i)) = s (614 + (5 * c + (i + 1))) ∧ s' (644 + (5 * c + i)) = s (644 + (5 * c + (i + 1))) ∧ s' (674 + (5 * c + i)) = s (674 + (5 * c + (i + 1))) ∧ s' (704 + (5 * c + i)) = s (704 + (5 * c + (i + 1))) ∧ ∀ k, k < 4 → t' (168 + 4 * (5 * c + i) + k) = t (168 + 4 * (5 * c + (i + 1)) + k)) ∧ (∀ i, i ≠ (56 + c) → i ≠ 14 → (i < 554 + (5 * c + j) ∨ 554 + (5 * c + cnt) ≤ i + 1) → (i < 584 + (5 * c + j) ∨ 584 + (5 * c + cnt) ≤ i + 1) → (i < 614 + (5 * c + j) ∨ 614 + (5 * c + cnt) ≤ i + 1) → (i < 644 + (5 * c + j) ∨ 644 + (5 * c + cnt) ≤ i + 1) → (i < 674 + (5 * c + j) ∨ 674 + (5 * c + cnt) ≤ i + 1) → (i < 704 + (5 * c + j) ∨ 704 + (5 * c + cnt) ≤ i + 1) → s' i = s i) ∧ (∀ i, (i < 168 + 4 * (5 * c + j) ∨ 168 + 4 * (5 * c + cnt) ≤ i + 4) → t' i = t i)
  | 0, j, s, t, _, hn, _ => absurd hn (by omega)
  | n + 1, j, s, t, hj, hn, hs => by
    by_cases he : j + 1 = cnt
    · have n1 : 5 * c + cnt - 1 ≤ 5 * c + j := by omega
      refine ⟨_, _, by simp (disch := omega) only [f_X12_ends_L6, q_k hk, q_gR1 hk, q_gR2 hk, q_gR8 hk, q_gR11 hk, q_gR13 hk, q_gR14 hk, q_gR15 hk, q_gR16 hk, q_gI hk, q_pI hk, q_a hk, q_w hk, q_l hk, nW_add, nW_mul, nW_sub, nW_le, nW_lt, nW_inj, irem_nW, ix_nW, nW_lit, hs, n1, ↓reduceIte, Option.bind_some, fset_ne, fset_eq]; rfl, ?_⟩
      exact ⟨by simp (disch := omega) only [fset_ne, fset_eq], by simp (disch := omega) only [fset_ne, fset_eq], fun i h1 h2 => by omega, fun i h0 h00 _ _ _ _ _ _ => by simp (disch := omega) only [fset_ne], fun i _ => rfl⟩
    · have n1 : ¬ 5 * c + cnt - 1 ≤ 5 * c + j := by omega
      obtain ⟨s', t', e, r0, r00, r1, r2, r3⟩ := sh_ends_L6 (N := N) (V := V) hk hc hcnt n (j + 1) (fset (fset (fset (fset (fset (fset s (554 + (5 * c + j)) (s (554 + (5 * c + (j + 1))))) (584 + (5 * c + j)) (s (584 + (5 * c + (j + 1))))) (614 + (5 * c + j)) (s (614 + (5 * c + (j + 1))))) (644 + (5 * c + j)) (s (644 + (5 * c + (j + 1))))) (674 + (5 * c + j)) (s (674 + (5 * c + (j + 1))))) (704 + (5 * c + j)) (s (704 + (5 * c + (j + 1))))) (blk t (168 + 4 * (5 * c + j)) (fun x => t (168 + 4 * (5 * c + (j + 1)) + x))) (by omega) (by omega) (by simp (disch := omega) only [fset_ne]; exact hs)
      have x554 : 554 + (5 * c + j) + 1 = 554 + (5 * c + (j + 1)) := by omega
      have x584 : 584 + (5 * c + j) + 1 = 584 + (5 * c + (j + 1)) := by omega
      have x614 : 614 + (5 * c + j) + 1 = 614 + (5 * c + (j + 1)) := by omega
      have x644 : 644 + (5 * c + j) + 1 = 644 + (5 * c + (j + 1)) := by omega
      have x674 : 674 + (5 * c + j) + 1 = 674 + (5 * c + (j + 1)) := by omega
      have x704 : 704 + (5 * c + j) + 1 = 704 + (5 * c + (j + 1)) := by omega
      have xt : (5 * c + j) + 1 = (5 * c + (j + 1)) := by omega
      refine ⟨s', t', ?_, r0, by rw [r00]; simp (disch := omega) only [fset_ne], ?_, ?_, ?_⟩
      · simp (disch := omega) only [f_X12_ends_L6, q_k hk, q_gR1 hk, q_gR2 hk, q_gR8 hk, q_gR11 hk, q_gR13 hk, q_gR14 hk, q_gR15 hk, q_gR16 hk, q_gI hk, q_pI hk, q_a hk, q_w hk, q_l hk, nW_add, nW_mul, nW_sub, nW_le, nW_lt, nW_inj, irem_nW, ix_nW, nW_lit, hs, n1, ↓reduceIte, Option.bind_some, fset_ne, x554, x584, x614, x644, x674, x704, xt, q_mv hk, e]
      · intro i h1 h2
        by_cases hi : i = j
        · subst hi
          refine ⟨?_, ?_, ?_, ?_, ?_, ?_, fun k hk4 => ?_⟩
          · rw [r2 _ (by omega) (by omega) (by omega) (by omega) (by omega) (by omega) (by omega) (by omega)]; simp (disch := omega) only [fset_eq, fset_ne]
          · rw [r2 _ (by omega) (by omega) (by omega) (by omega) (by omega) (by omega) (by omega) (by omega)]; simp (disch := omega) only [fset_eq, fset_ne]
          · rw [r2 _ (by omega) (by omega) (by omega) (by omega) (by omega) (by omega) (by omega) (by omega)]; simp (disch := omega) only [fset_eq, fset_ne]
          · rw [r2 _ (by omega) (by omega) (by omega) (by omega) (by omega) (by omega) (by omega) (by omega)]; simp (disch := omega) only [fset_eq, fset_ne]
          · rw [r2 _ (by omega) (by omega) (by omega) (by omega) (by omega) (by omega) (by omega) (by omega)]; simp (disch := omega) only [fset_eq, fset_ne]
          · rw [r2 _ (by omega) (by omega) (by omega) (by omega) (by omega) (by omega) (by omega) (by omega)]; simp (disch := omega) only [fset_eq, fset_ne]
          · rw [r3 _ (by omega), blk_in _ _ _ hk4]
        · obtain ⟨y554, y584, y614, y644, y674, y704, z⟩ := r1 i (by omega) h2
          refine ⟨by rw [y554]; simp (disch := omega) only [fset_ne], by rw [y584]; simp (disch := omega) only [fset_ne], by rw [y614]; simp (disch := omega) only [fset_ne], by rw [y644]; simp (disch := omega) only [fset_ne], by rw [y674]; simp (disch := omega) only [fset_ne], by rw [y704]; simp (disch := omega) only [fset_ne], fun k hk4 => ?_⟩
          rw [z k hk4]; exact blk_out _ _ (by omega)
      · intro i h0 h00 g554 g584 g614 g644 g674 g704
        rw [r2 i h0 h00 (by omega) (by omega) (by omega) (by omega) (by omega) (by omega)]; simp (disch := omega) only [fset_ne]
      · intro i h0
        rw [r3 i (by omega)]; exact blk_out _ _ (by omega)
theorem sh_takesPacket_L5 {N : Mem} {V : VR} (hk : KR N) {c cnt : Nat} (hc : c < 6) (hcnt : cnt ≤ 30) : ∀ n j s t, j < cnt → cnt - j < n + 1 → s (68 + c) = nW cnt → ∃ s' t', f_X12_takesPacket_L5 n 908 (nW c) (nW (30 * c + j)) (QW N V s t) = some (QW N V s' t') ∧ s' (68 + c) = nW (cnt - 1) ∧ (∀ i, j ≤ i → i + 1 < cnt → s' (878 + (30 * c + i)) = s (878 + (30 * c + (i + 1))) ∧ s' (1058 + (30 * c + i)) = s (1058 + (30 * c + (i + 1))) ∧ s' (1238 + (30 * c + i)) = s (1238 + (30 * c + (i + 1))) ∧ s' (1418 + (30 * c + i)) = s (1418 + (30 * c + (i + 1))) ∧ s' (1598 + (30 * c + i)) = s (1598 + (30 * c + (i + 1))) ∧ ∀ k, k < 4 → t' (504 + 4 * (30 * c + i) + k) = t (504 + 4 * (30 * c + (i + 1)) + k)) ∧ (∀ i, i ≠ (68 + c) → (i < 878 + (30 * c + j) ∨ 878 + (30 * c + cnt) ≤ i + 1) → (i < 1058 + (30 * c + j) ∨ 1058 + (30 * c + cnt) ≤ i + 1) → (i < 1238 + (30 * c + j) ∨ 1238 + (30 * c + cnt) ≤ i + 1) → (i < 1418 + (30 * c + j) ∨ 1418 + (30 * c + cnt) ≤ i + 1) → (i < 1598 + (30 * c + j) ∨ 1598 + (30 * c + cnt) ≤ i + 1) → s' i = s i) ∧ (∀ i, (i < 504 + 4 * (30 * c + j) ∨ 504 + 4 * (30 * c + cnt) ≤ i + 4) → t' i = t i)
  | 0, j, s, t, _, hn, _ => absurd hn (by omega)
  | n + 1, j, s, t, hj, hn, hs => by
    by_cases he : j + 1 = cnt
    · have n1 : 30 * c + cnt - 1 ≤ 30 * c + j := by omega
      refine ⟨_, _, by simp (disch := omega) only [f_X12_takesPacket_L5, q_k hk, q_gR1 hk, q_gR2 hk, q_gR8 hk, q_gR11 hk, q_gR13 hk, q_gR14 hk, q_gR15 hk, q_gR16 hk, q_gI hk, q_pI hk, q_a hk, q_w hk, q_l hk, nW_add, nW_mul, nW_sub, nW_le, nW_lt, nW_inj, irem_nW, ix_nW, nW_lit, hs, n1, ↓reduceIte, Option.bind_some, fset_ne, fset_eq]; rfl, ?_⟩
      exact ⟨by simp (disch := omega) only [fset_ne, fset_eq], fun i h1 h2 => by omega, fun i h0 _ _ _ _ _ => by simp (disch := omega) only [fset_ne], fun i _ => rfl⟩
    · have n1 : ¬ 30 * c + cnt - 1 ≤ 30 * c + j := by omega
      obtain ⟨s', t', e, r0, r1, r2, r3⟩ := sh_takesPacket_L5 (N := N) (V := V) hk hc hcnt n (j + 1) (fset (fset (fset (fset (fset s (878 + (30 * c + j)) (s (878 + (30 * c + (j + 1))))) (1058 + (30 * c + j)) (s (1058 + (30 * c + (j + 1))))) (1238 + (30 * c + j)) (s (1238 + (30 * c + (j + 1))))) (1418 + (30 * c + j)) (s (1418 + (30 * c + (j + 1))))) (1598 + (30 * c + j)) (s (1598 + (30 * c + (j + 1))))) (blk t (504 + 4 * (30 * c + j)) (fun x => t (504 + 4 * (30 * c + (j + 1)) + x))) (by omega) (by omega) (by simp (disch := omega) only [fset_ne]; exact hs)
      have x878 : 878 + (30 * c + j) + 1 = 878 + (30 * c + (j + 1)) := by omega
      have x1058 : 1058 + (30 * c + j) + 1 = 1058 + (30 * c + (j + 1)) := by omega
      have x1238 : 1238 + (30 * c + j) + 1 = 1238 + (30 * c + (j + 1)) := by omega
      have x1418 : 1418 + (30 * c + j) + 1 = 1418 + (30 * c + (j + 1)) := by omega
      have x1598 : 1598 + (30 * c + j) + 1 = 1598 + (30 * c + (j + 1)) := by omega
      have xt : (30 * c + j) + 1 = (30 * c + (j + 1)) := by omega
      refine ⟨s', t', ?_, r0, ?_, ?_, ?_⟩
      · simp (disch := omega) only [f_X12_takesPacket_L5, q_k hk, q_gR1 hk, q_gR2 hk, q_gR8 hk, q_gR11 hk, q_gR13 hk, q_gR14 hk, q_gR15 hk, q_gR16 hk, q_gI hk, q_pI hk, q_a hk, q_w hk, q_l hk, nW_add, nW_mul, nW_sub, nW_le, nW_lt, nW_inj, irem_nW, ix_nW, nW_lit, hs, n1, ↓reduceIte, Option.bind_some, fset_ne, x878, x1058, x1238, x1418, x1598, xt, q_mv hk, e]
      · intro i h1 h2
        by_cases hi : i = j
        · subst hi
          refine ⟨?_, ?_, ?_, ?_, ?_, fun k hk4 => ?_⟩
          · rw [r2 _ (by omega) (by omega) (by omega) (by omega) (by omega) (by omega)]; simp (disch := omega) only [fset_eq, fset_ne]
          · rw [r2 _ (by omega) (by omega) (by omega) (by omega) (by omega) (by omega)]; simp (disch := omega) only [fset_eq, fset_ne]
          · rw [r2 _ (by omega) (by omega) (by omega) (by omega) (by omega) (by omega)]; simp (disch := omega) only [fset_eq, fset_ne]
          · rw [r2 _ (by omega) (by omega) (by omega) (by omega) (by omega) (by omega)]; simp (disch := omega) only [fset_eq, fset_ne]
          · rw [r2 _ (by omega) (by omega) (by omega) (by omega) (by omega) (by omega)]; simp (disch := omega) only [fset_eq, fset_ne]
          · rw [r3 _ (by omega), blk_in _ _ _ hk4]
        · obtain ⟨y878, y1058, y1238, y1418, y1598, z⟩ := r1 i (by omega) h2
          refine ⟨by rw [y878]; simp (disch := omega) only [fset_ne], by rw [y1058]; simp (disch := omega) only [fset_ne], by rw [y1238]; simp (disch := omega) only [fset_ne], by rw [y1418]; simp (disch := omega) only [fset_ne], by rw [y1598]; simp (disch := omega) only [fset_ne], fun k hk4 => ?_⟩
          rw [z k hk4]; exact blk_out _ _ (by omega)
      · intro i h0 g878 g1058 g1238 g1418 g1598
        rw [r2 i h0 (by omega) (by omega) (by omega) (by omega) (by omega)]; simp (disch := omega) only [fset_ne]
      · intro i h0
        rw [r3 i (by omega)]; exact blk_out _ _ (by omega)
theorem sh_drops_L21 {N : Mem} {V : VR} (hk : KR N) {c cnt : Nat} (hc : c < 6) (hcnt : cnt ≤ 6) : ∀ n j s t, j < cnt → cnt - j < n + 1 → s (50 + c) = nW cnt → ∃ s' t', f_X12_drops_L21 n 908 (nW c) (nW (6 * c + j)) (QW N V s t) = some (QW N V s' t') ∧ s' (50 + c) = nW (cnt - 1) ∧ (∀ i, j ≤ i → i + 1 < cnt → s' (410 + (6 * c + i)) = s (410 + (6 * c + (i + 1))) ∧ s' (446 + (6 * c + i)) = s (446 + (6 * c + (i + 1))) ∧ s' (482 + (6 * c + i)) = s (482 + (6 * c + (i + 1))) ∧ s' (518 + (6 * c + i)) = s (518 + (6 * c + (i + 1))) ∧ ∀ k, k < 4 → t' (24 + 4 * (6 * c + i) + k) = t (24 + 4 * (6 * c + (i + 1)) + k)) ∧ (∀ i, i ≠ (50 + c) → (i < 410 + (6 * c + j) ∨ 410 + (6 * c + cnt) ≤ i + 1) → (i < 446 + (6 * c + j) ∨ 446 + (6 * c + cnt) ≤ i + 1) → (i < 482 + (6 * c + j) ∨ 482 + (6 * c + cnt) ≤ i + 1) → (i < 518 + (6 * c + j) ∨ 518 + (6 * c + cnt) ≤ i + 1) → s' i = s i) ∧ (∀ i, (i < 24 + 4 * (6 * c + j) ∨ 24 + 4 * (6 * c + cnt) ≤ i + 4) → t' i = t i)
  | 0, j, s, t, _, hn, _ => absurd hn (by omega)
  | n + 1, j, s, t, hj, hn, hs => by
    by_cases he : j + 1 = cnt
    · have n1 : 6 * c + cnt - 1 ≤ 6 * c + j := by omega
      refine ⟨_, _, by simp (disch := omega) only [f_X12_drops_L21, q_k hk, q_gR1 hk, q_gR2 hk, q_gR8 hk, q_gR11 hk, q_gR13 hk, q_gR14 hk, q_gR15 hk, q_gR16 hk, q_gI hk, q_pI hk, q_a hk, q_w hk, q_l hk, nW_add, nW_mul, nW_sub, nW_le, nW_lt, nW_inj, irem_nW, ix_nW, nW_lit, hs, n1, ↓reduceIte, Option.bind_some, fset_ne, fset_eq]; rfl, ?_⟩
      exact ⟨by simp (disch := omega) only [fset_ne, fset_eq], fun i h1 h2 => by omega, fun i h0 _ _ _ _ => by simp (disch := omega) only [fset_ne], fun i _ => rfl⟩
    · have n1 : ¬ 6 * c + cnt - 1 ≤ 6 * c + j := by omega
      obtain ⟨s', t', e, r0, r1, r2, r3⟩ := sh_drops_L21 (N := N) (V := V) hk hc hcnt n (j + 1) (fset (fset (fset (fset s (410 + (6 * c + j)) (s (410 + (6 * c + (j + 1))))) (446 + (6 * c + j)) (s (446 + (6 * c + (j + 1))))) (482 + (6 * c + j)) (s (482 + (6 * c + (j + 1))))) (518 + (6 * c + j)) (s (518 + (6 * c + (j + 1))))) (blk t (24 + 4 * (6 * c + j)) (fun x => t (24 + 4 * (6 * c + (j + 1)) + x))) (by omega) (by omega) (by simp (disch := omega) only [fset_ne]; exact hs)
      have x410 : 410 + (6 * c + j) + 1 = 410 + (6 * c + (j + 1)) := by omega
      have x446 : 446 + (6 * c + j) + 1 = 446 + (6 * c + (j + 1)) := by omega
      have x482 : 482 + (6 * c + j) + 1 = 482 + (6 * c + (j + 1)) := by omega
      have x518 : 518 + (6 * c + j) + 1 = 518 + (6 * c + (j + 1)) := by omega
      have xt : (6 * c + j) + 1 = (6 * c + (j + 1)) := by omega
      refine ⟨s', t', ?_, r0, ?_, ?_, ?_⟩
      · simp (disch := omega) only [f_X12_drops_L21, q_k hk, q_gR1 hk, q_gR2 hk, q_gR8 hk, q_gR11 hk, q_gR13 hk, q_gR14 hk, q_gR15 hk, q_gR16 hk, q_gI hk, q_pI hk, q_a hk, q_w hk, q_l hk, nW_add, nW_mul, nW_sub, nW_le, nW_lt, nW_inj, irem_nW, ix_nW, nW_lit, hs, n1, ↓reduceIte, Option.bind_some, fset_ne, x410, x446, x482, x518, xt, q_mv hk, e]
      · intro i h1 h2
        by_cases hi : i = j
        · subst hi
          refine ⟨?_, ?_, ?_, ?_, fun k hk4 => ?_⟩
          · rw [r2 _ (by omega) (by omega) (by omega) (by omega) (by omega)]; simp (disch := omega) only [fset_eq, fset_ne]
          · rw [r2 _ (by omega) (by omega) (by omega) (by omega) (by omega)]; simp (disch := omega) only [fset_eq, fset_ne]
          · rw [r2 _ (by omega) (by omega) (by omega) (by omega) (by omega)]; simp (disch := omega) only [fset_eq, fset_ne]
          · rw [r2 _ (by omega) (by omega) (by omega) (by omega) (by omega)]; simp (disch := omega) only [fset_eq, fset_ne]
          · rw [r3 _ (by omega), blk_in _ _ _ hk4]
        · obtain ⟨y410, y446, y482, y518, z⟩ := r1 i (by omega) h2
          refine ⟨by rw [y410]; simp (disch := omega) only [fset_ne], by rw [y446]; simp (disch := omega) only [fset_ne], by rw [y482]; simp (disch := omega) only [fset_ne], by rw [y518]; simp (disch := omega) only [fset_ne], fun k hk4 => ?_⟩
          rw [z k hk4]; exact blk_out _ _ (by omega)
      · intro i h0 g410 g446 g482 g518
        rw [r2 i h0 (by omega) (by omega) (by omega) (by omega)]; simp (disch := omega) only [fset_ne]
      · intro i h0
        rw [r3 i (by omega)]; exact blk_out _ _ (by omega)
theorem sh_forgetsRetained_L2 {N : Mem} {V : VR} (hk : KR N) {cnt : Nat} (hcnt : cnt ≤ 8) : ∀ n j s t, j < cnt → cnt - j < n + 1 → s 15 = nW cnt → ∃ s' t', f_X12_forgetsRetained_L2 n 908 (nW j) (QW N V s t) = some (QW N V s' t') ∧ s' 15 = nW (cnt - 1) ∧ (∀ i, j ≤ i → i + 1 < cnt → s' (1778 + i) = s (1778 + (i + 1)) ∧ s' (1786 + i) = s (1786 + (i + 1)) ∧ ∀ k, k < 4 → t' (1224 + 4 * i + k) = t (1224 + 4 * (i + 1) + k)) ∧ (∀ i, i ≠ 15 → (i < 1778 + j ∨ 1778 + cnt ≤ i + 1) → (i < 1786 + j ∨ 1786 + cnt ≤ i + 1) → s' i = s i) ∧ (∀ i, (i < 1224 + 4 * j ∨ 1224 + 4 * cnt ≤ i + 4) → t' i = t i)
  | 0, j, s, t, _, hn, _ => absurd hn (by omega)
  | n + 1, j, s, t, hj, hn, hs => by
    have hc : True := trivial
    by_cases he : j + 1 = cnt
    · have n1 : cnt - 1 ≤ j := by omega
      refine ⟨_, _, by simp (disch := omega) only [f_X12_forgetsRetained_L2, q_k hk, q_gR1 hk, q_gR2 hk, q_gR8 hk, q_gR11 hk, q_gR13 hk, q_gR14 hk, q_gR15 hk, q_gR16 hk, q_gI hk, q_pI hk, q_a hk, q_w hk, q_l hk, nW_add, nW_mul, nW_sub, nW_le, nW_lt, nW_inj, irem_nW, ix_nW, nW_lit, hs, n1, ↓reduceIte, Option.bind_some, fset_ne, fset_eq]; rfl, ?_⟩
      exact ⟨by simp (disch := omega) only [fset_ne, fset_eq], fun i h1 h2 => by omega, fun i h0 _ _ => by simp (disch := omega) only [fset_ne], fun i _ => rfl⟩
    · have n1 : ¬ cnt - 1 ≤ j := by omega
      obtain ⟨s', t', e, r0, r1, r2, r3⟩ := sh_forgetsRetained_L2 (N := N) (V := V) hk hcnt n (j + 1) (fset (fset s (1778 + j) (s (1778 + (j + 1)))) (1786 + j) (s (1786 + (j + 1)))) (blk t (1224 + 4 * j) (fun x => t (1224 + 4 * (j + 1) + x))) (by omega) (by omega) (by simp (disch := omega) only [fset_ne]; exact hs)
      have x1778 : 1778 + j + 1 = 1778 + (j + 1) := by omega
      have x1786 : 1786 + j + 1 = 1786 + (j + 1) := by omega
      have xt : j + 1 = j + 1 := rfl
      refine ⟨s', t', ?_, r0, ?_, ?_, ?_⟩
      · simp (disch := omega) only [f_X12_forgetsRetained_L2, q_k hk, q_gR1 hk, q_gR2 hk, q_gR8 hk, q_gR11 hk, q_gR13 hk, q_gR14 hk, q_gR15 hk, q_gR16 hk, q_gI hk, q_pI hk, q_a hk, q_w hk, q_l hk, nW_add, nW_mul, nW_sub, nW_le, nW_lt, nW_inj, irem_nW, ix_nW, nW_lit, hs, n1, ↓reduceIte, Option.bind_some, fset_ne, x1778, x1786, q_mv hk, e]
      · intro i h1 h2
        by_cases hi : i = j
        · subst hi
          refine ⟨?_, ?_, fun k hk4 => ?_⟩
          · rw [r2 _ (by omega) (by omega) (by omega)]; simp (disch := omega) only [fset_eq, fset_ne]
          · rw [r2 _ (by omega) (by omega) (by omega)]; simp (disch := omega) only [fset_eq, fset_ne]
          · rw [r3 _ (by omega), blk_in _ _ _ hk4]
        · obtain ⟨y1778, y1786, z⟩ := r1 i (by omega) h2
          refine ⟨by rw [y1778]; simp (disch := omega) only [fset_ne], by rw [y1786]; simp (disch := omega) only [fset_ne], fun k hk4 => ?_⟩
          rw [z k hk4]; exact blk_out _ _ (by omega)
      · intro i h0 g1778 g1786
        rw [r2 i h0 (by omega) (by omega)]; simp (disch := omega) only [fset_ne]
      · intro i h0
        rw [r3 i (by omega)]; exact blk_out _ _ (by omega)
