/-! SHARES WRITTEN, in the reference -/
def FSh (s s' : Nat → Int32) : Prop := ∀ i, i ≠ 16 → (i < 1794 ∨ 2118 ≤ i) → s' i = s i
def FtS (t t' : Nat → Int64) : Prop := ∀ i, (i < 1256 ∨ 1400 ≤ i) → t' i = t i
theorem FSh.trans {s s' s'' : Nat → Int32} (h : FSh s s') (g : FSh s' s'') : FSh s s'' := fun i a b => (g i a b).trans (h i a b)
theorem FtS.trans {t t' t'' : Nat → Int64} (h : FtS t t') (g : FtS t' t'') : FtS t t'' := fun i a => (g i a).trans (h i a)
theorem RSt_sh {s s' : Nat → Int32} {t t' : Nat → Int64} {σ : Sg} {l : List Sh} (h : RSt s t σ) (hs : FSh s s') (ht : FtS t t') (hl : R_sh s' t' l) (h36 : l.length ≤ 36) (h6 : ∀ x ∈ l, x.2.2.length ≤ 6) : RSt s' t' (uSh σ l) := by
  obtain ⟨h1, h2, ⟨⟨a1, a2⟩, _, ⟨c1, c2⟩, d1, d2, d3, d4⟩⟩ := h
  refine ⟨h1.fr (fun i hi => hs i (by omega) (by omega)), fun c hc => (h2 c hc).fr hc (fun i hi => hs i (by unfold cs at hi; omega) (by unfold cs at hi; omega)) (fun i hi => ht i (by unfold ct at hi; omega)), ⟨?_, ?_⟩, hl, ⟨?_, ?_⟩, d1, h36, d3, fun j hj => h6 _ (by have hj' : j < l.length := hj; show l.getD j shD ∈ l; rw [gd_in _ _ hj']; exact List.getElem_mem hj')⟩
  · rw [hs 15 (by omega) (by omega)]; exact a1
  · intro j hj
    obtain ⟨x1, x2, x3⟩ := a2 j hj
    have d1' : (gRe σ).1 ≤ 8 := d1
    have hj' : j < (gRe σ).1 := hj
    rw [hs _ (by omega) (by omega), hs _ (by omega) (by omega)]
    exact ⟨x1, x2, x3.fr (fun k hk => ht _ (by omega))⟩
  · rw [hs 17 (by omega) (by omega)]; exact c1
  · intro j hj
    obtain ⟨x1, x2⟩ := c2 j hj
    rw [hs _ (by omega) (by omega)]
    exact ⟨x1, x2.fr (fun k hk => ht _ (by omega))⟩
theorem ref_L83 {N : Mem} {V : VR} {t : Nat → Int64} (hk : KR N) {h : Nat} (k2 : Nat → Int32 → Mem → Option Mem) (hh : h < 35) : ∀ n i s, i ≤ 6 → 6 - i < n → ∃ s', f_X12_forgetsShare_L83 n k2 908 (nW h) (nW i) (QW N V s t) = k2 908 (nW (h + 1)) (QW N V s' (blk t (1256 + 4 * h) (fun x => t (1256 + 4 * (h + 1) + x)))) ∧ (∀ j, i ≤ j → j < 6 → s' (1902 + (6 * h + j)) = s (1902 + (6 * (h + 1) + j))) ∧ ∀ j, (j < 1902 + 6 * h + i ∨ 1902 + 6 * h + 6 ≤ j) → s' j = s j
  | 0, i, s, _, hn => absurd hn (by omega)
  | n + 1, i, s, hi, hn => by
    by_cases he : i = 6
    · subst he
      refine ⟨s, ?_, fun j h1 h2 => by omega, fun _ _ => rfl⟩
      simp (disch := omega) only [f_X12_forgetsShare_L83, q_k hk, q_gR1 hk, q_gR2 hk, q_gR8 hk, q_gR11 hk, q_gR13 hk, q_gR14 hk, q_gR15 hk, q_gR16 hk, q_gI hk, q_pI hk, q_a hk, q_w hk, q_l hk, nW_add, nW_mul, nW_sub, nW_le, nW_lt, nW_inj, irem_nW, ix_nW, nW_lit, Nat.le_refl, ↓reduceIte, Option.bind_some, q_mv hk]
    · have n1 : ¬ 6 ≤ i := by omega
      obtain ⟨s', e, r1, r2⟩ := ref_L83 (N := N) (V := V) (t := t) hk k2 hh n (i + 1) (fset s (1902 + 6 * h + i) (s (1902 + 6 * (h + 1) + i))) (by omega) (by omega)
      refine ⟨s', ?_, fun j h1 h2 => ?_, fun j hj => ?_⟩
      · simp (disch := omega) only [f_X12_forgetsShare_L83, q_k hk, q_gR1 hk, q_gR2 hk, q_gR8 hk, q_gR11 hk, q_gR13 hk, q_gR14 hk, q_gR15 hk, q_gR16 hk, q_gI hk, q_pI hk, q_a hk, q_w hk, q_l hk, nW_add, nW_mul, nW_sub, nW_le, nW_lt, nW_inj, irem_nW, ix_nW, nW_lit, n1, ↓reduceIte, Option.bind_some, e]
      · by_cases ej : j = i
        · subst ej
          rw [r2 _ (by omega), ← Nat.add_assoc, fset_eq, Nat.add_assoc]
        · rw [r1 j (by omega) h2, fset_ne _ _ (by omega)]
      · rw [r2 j (by omega), fset_ne _ _ (by omega)]
theorem R_sh1.fr {s s' : Nat → Int32} {t t' : Nat → Int64} {j : Nat} {x : Sh} (h : R_sh1 s t j x) (h6 : x.2.2.length ≤ 6) (s1 : s' (1794 + j) = s (1794 + j)) (s2 : s' (1830 + j) = s (1830 + j)) (s3 : s' (1866 + j) = s (1866 + j)) (s4 : ∀ i, i < 6 → s' (1902 + (6 * j + i)) = s (1902 + (6 * j + i))) (ht : ∀ k, k < 4 → t' (1256 + 4 * j + k) = t (1256 + 4 * j + k)) : R_sh1 s' t' j x := by
  obtain ⟨h1, h2, h3, h4, h5⟩ := h
  exact ⟨by rw [s1]; exact h1, by rw [s2]; exact h2, by rw [s3]; exact h3, h4.fr ht, fun i hi => by rw [s4 i (by omega)]; exact h5 i hi⟩
theorem ref_forgets_L2 {N : Mem} {V : VR} (hk : KR N) {cnt : Nat} (hc : cnt ≤ 36) : ∀ n j s t, j < cnt → cnt - j < n + 1 → s 16 = nW cnt → ∃ s' t', f_X12_forgetsShare_L2 n 908 (nW j) (QW N V s t) = some (QW N V s' t') ∧ s' 16 = nW (cnt - 1) ∧ (∀ i x, j ≤ i → i + 1 < cnt → x.2.2.length ≤ 6 → R_sh1 s t (i + 1) x → R_sh1 s' t' i x) ∧ (∀ i x, i < j → x.2.2.length ≤ 6 → R_sh1 s t i x → R_sh1 s' t' i x) ∧ FSh s s' ∧ FtS t t'
  | 0, j, s, t, _, hn, _ => absurd hn (by omega)
  | n + 1, j, s, t, hj, hn, hs => by
    by_cases he : j + 1 = cnt
    · have n1 : cnt - 1 ≤ j := by omega
      refine ⟨fset s 16 (nW (cnt - 1)), t, ?_, fset_eq _ _ _, fun i x h1 h2 => by omega, fun i x h1 h6 h => ?_, fun i h1 _ => fset_ne _ _ h1, fun _ _ => rfl⟩
      · simp (disch := omega) only [f_X12_forgetsShare_L2, q_k hk, q_gR1 hk, q_gR2 hk, q_gR8 hk, q_gR11 hk, q_gR13 hk, q_gR14 hk, q_gR15 hk, q_gR16 hk, q_gI hk, q_pI hk, q_a hk, q_w hk, q_l hk, nW_add, nW_mul, nW_sub, nW_le, nW_lt, nW_inj, irem_nW, ix_nW, nW_lit, hs, n1, ↓reduceIte, Option.bind_some]
      · exact h.fr h6 (fset_ne _ _ (by omega)) (fset_ne _ _ (by omega)) (fset_ne _ _ (by omega)) (fun i hi => fset_ne _ _ (by omega)) (fun _ _ => rfl)
    · have n1 : ¬ cnt - 1 ≤ j := by omega
      obtain ⟨s1, e1, r1, r2⟩ := ref_L83 (N := N) (V := V) (t := t) hk (h := j) (f_X12_forgetsShare_L2 n) (by omega) FU 0 (fset (fset (fset s (1794 + j) (s (1794 + (j + 1)))) (1830 + j) (s (1830 + (j + 1)))) (1866 + j) (s (1866 + (j + 1)))) (by omega) (by simp only [FU]; omega)
      have x1 : 1794 + j + 1 = 1794 + (j + 1) := by omega
      have x2 : 1830 + j + 1 = 1830 + (j + 1) := by omega
      have x3 : 1866 + j + 1 = 1866 + (j + 1) := by omega
      obtain ⟨s', t', e2, q0, q1, q2, q3, q4⟩ := ref_forgets_L2 (N := N) (V := V) hk hc n (j + 1) s1 (blk t (1256 + 4 * j) (fun x => t (1256 + 4 * (j + 1) + x))) (by omega) (by omega) (by rw [r2 _ (by omega)]; simp (disch := omega) only [fset_ne]; exact hs)
      have stay : ∀ i x, i ≠ j → i < 36 → x.2.2.length ≤ 6 → R_sh1 s t i x → R_sh1 s1 (blk t (1256 + 4 * j) (fun x => t (1256 + 4 * (j + 1) + x))) i x := fun i x h1 h2 h6 h => h.fr h6 (by rw [r2 _ (by omega)]; simp (disch := omega) only [fset_ne]) (by rw [r2 _ (by omega)]; simp (disch := omega) only [fset_ne]) (by rw [r2 _ (by omega)]; simp (disch := omega) only [fset_ne]) (fun k hk => by rw [r2 _ (by omega)]; simp (disch := omega) only [fset_ne]) (fun k hk => blk_out _ _ (by omega))
      have move : ∀ x, x.2.2.length ≤ 6 → R_sh1 s t (j + 1) x → R_sh1 s1 (blk t (1256 + 4 * j) (fun x => t (1256 + 4 * (j + 1) + x))) j x := by
        intro x h6 ⟨y1, y2, y3, y4, y5⟩
        refine ⟨?_, ?_, ?_, TB.blk y4, fun i hi => ?_⟩
        · rw [r2 _ (by omega)]; simp (disch := omega) only [fset_ne, fset_eq]; exact y1
        · rw [r2 _ (by omega)]; simp (disch := omega) only [fset_ne, fset_eq]; exact y2
        · rw [r2 _ (by omega)]; simp (disch := omega) only [fset_eq]; exact y3
        · rw [r1 i (by omega) (by omega)]; simp (disch := omega) only [fset_ne]; exact y5 i hi
      refine ⟨s', t', ?_, q0, fun i x h1 h2 h6 h => ?_, fun i x h1 h6 h => q2 i x (by omega) h6 (stay i x (by omega) (by omega) h6 h), ?_, ?_⟩
      · simp (disch := omega) only [f_X12_forgetsShare_L2, q_k hk, q_gR1 hk, q_gR2 hk, q_gR8 hk, q_gR11 hk, q_gR13 hk, q_gR14 hk, q_gR15 hk, q_gR16 hk, q_gI hk, q_pI hk, q_a hk, q_w hk, q_l hk, nW_add, nW_mul, nW_sub, nW_le, nW_lt, nW_inj, irem_nW, ix_nW, nW_lit, hs, n1, ↓reduceIte, Option.bind_some, fset_ne, x1, x2, x3]
        rw [e1, e2]
      · by_cases ei : i = j
        · subst ei; exact q2 i x (by omega) h6 (move x h6 h)
        · exact q1 i x (by omega) h2 h6 (stay (i + 1) x (by omega) (by omega) h6 h)
      · refine FSh.trans (fun i h1 h2 => ?_) q3
        rw [r2 _ (by omega)]; simp (disch := omega) only [fset_ne]
      · exact FtS.trans (fun i h1 => blk_out _ _ (by omega)) q4
theorem ref_forgets {N : Mem} {V : VR} {s : Nat → Int32} {t : Nat → Int64} {l : List Sh} {h : Nat} (hk : KR N) (hR : R_sh s t l) (h36 : l.length ≤ 36) (h6 : ∀ x ∈ l, x.2.2.length ≤ 6) (hh : h < l.length) : ∃ s' t', f_X12_forgetsShare 908 (nW h) (QW N V s t) = some (QW N V s' t') ∧ R_sh s' t' (l.eraseIdx h) ∧ FSh s s' ∧ FtS t t' := by
  obtain ⟨s', t', e, q0, q1, q2, q3, q4⟩ := ref_forgets_L2 (N := N) (V := V) hk h36 FU h s t hh (by simp only [FU]; omega) hR.1
  have m6 : ∀ j, j < l.length → (l.getD j shD).2.2.length ≤ 6 := fun j hj => h6 _ (by rw [gd_in _ _ hj]; exact List.getElem_mem hj)
  refine ⟨s', t', by simp only [f_X12_forgetsShare, q_k hk, ↓reduceIte]; exact e, ⟨by rw [len_eraseIdx _ hh]; exact q0, fun j hj => ?_⟩, q3, q4⟩
  rw [len_eraseIdx _ hh] at hj
  rw [gd_erase]
  by_cases q : j < h
  · rw [if_pos q]; exact q2 j _ q (m6 j (by omega)) (hR.2 j (by omega))
  · rw [if_neg q]; exact q1 j _ (by omega) (by omega) (m6 _ (by omega)) (hR.2 (j + 1) (by omega))
/-- one share's members are others -/
theorem R_sh_put {s s' : Nat → Int32} {t : Nat → Int64} {l : List Sh} {h : Nat} {m : List Nat} (hR : R_sh s t l) (h36 : l.length ≤ 36) (h6 : ∀ x ∈ l, x.2.2.length ≤ 6) (hh : h < l.length) (hs : ∀ i, i ≠ 1866 + h → (i < 1902 + 6 * h ∨ 1902 + 6 * h + 6 ≤ i) → s' i = s i) (h1 : s' (1866 + h) = nW m.length) (h2 : ∀ i, i < m.length → s' (1902 + (6 * h + i)) = nW (m.getD i 0)) : R_sh s' t (shPut l h m) ∧ FSh s s' := by
  have m6 : ∀ j, j < l.length → (l.getD j shD).2.2.length ≤ 6 := fun j hj => h6 _ (by rw [gd_in _ _ hj]; exact List.getElem_mem hj)
  refine ⟨⟨by rw [hs _ (by omega) (by omega), shPut, len_setL]; exact hR.1, fun j hj => ?_⟩, fun i a b => hs i (by omega) (by omega)⟩
  rw [shPut, len_setL] at hj
  rw [shPut, gd_set _ _ _ _ _ hh]
  by_cases e : j = h
  · subst e
    rw [if_pos rfl]
    obtain ⟨y1, y2, y3, y4, y5⟩ := hR.2 j hj
    exact ⟨by rw [hs _ (by omega) (by omega)]; exact y1, by rw [hs _ (by omega) (by omega)]; exact y2, h1, y4, h2⟩
  · rw [if_neg e]
    exact (hR.2 j hj).fr (m6 j hj) (hs _ (by omega) (by omega)) (hs _ (by omega) (by omega)) (hs _ (by omega) (by omega)) (fun i hi => hs _ (by omega) (by omega)) (fun _ _ => rfl)
theorem ref_leaves_L78 {N : Mem} {V : VR} {t : Nat → Int64} (hk : KR N) {h cnt : Nat} (hh : h < 36) (hcnt : cnt ≤ 6) : ∀ n i s, i < cnt → cnt - i < n + 1 → s (1866 + h) = nW cnt → ∃ s', f_X12_leavesShare_L78 n 908 (nW h) (nW (1902 + 6 * h)) (nW i) (QW N V s t) = (if cnt - 1 = 0 then (f_X12_forgetsShare 908 (nW h) (QW N V s' t)).bind (fun M => some M) else some (QW N V s' t)) ∧ s' (1866 + h) = nW (cnt - 1) ∧ (∀ j, i ≤ j → j + 1 < cnt → s' (1902 + (6 * h + j)) = s (1902 + (6 * h + (j + 1)))) ∧ ∀ j, j ≠ 1866 + h → (j < 1902 + 6 * h + i ∨ 1902 + 6 * h + 6 ≤ j) → s' j = s j
  | 0, i, s, _, hn, _ => absurd hn (by omega)
  | n + 1, i, s, hi, hn, hs => by
    by_cases he : i + 1 = cnt
    · have n1 : cnt - 1 ≤ i := by omega
      refine ⟨fset s (1866 + h) (nW (cnt - 1)), ?_, fset_eq _ _ _, fun j h1 h2 => by omega, fun j h1 _ => fset_ne _ _ h1⟩
      by_cases hz : cnt - 1 = 0
      · simp (disch := omega) only [f_X12_leavesShare_L78, q_k hk, q_gR1 hk, q_gR2 hk, q_gR8 hk, q_gR11 hk, q_gR13 hk, q_gR14 hk, q_gR15 hk, q_gR16 hk, q_gI hk, q_pI hk, q_a hk, q_w hk, q_l hk, nW_add, nW_mul, nW_sub, nW_le, nW_lt, nW_inj, irem_nW, ix_nW, nW_lit, hs, n1, ↓reduceIte, Option.bind_some, fset_eq, hz, Nat.le_refl]
        rw [if_pos (by omega)]
      · simp (disch := omega) only [f_X12_leavesShare_L78, q_k hk, q_gR1 hk, q_gR2 hk, q_gR8 hk, q_gR11 hk, q_gR13 hk, q_gR14 hk, q_gR15 hk, q_gR16 hk, q_gI hk, q_pI hk, q_a hk, q_w hk, q_l hk, nW_add, nW_mul, nW_sub, nW_le, nW_lt, nW_inj, irem_nW, ix_nW, nW_lit, hs, n1, ↓reduceIte, Option.bind_some, fset_eq, hz]
    · have n1 : ¬ cnt - 1 ≤ i := by omega
      have x1 : 1902 + 6 * h + i + 1 = 1902 + 6 * h + (i + 1) := by omega
      obtain ⟨s', e, r1, r2, r3⟩ := ref_leaves_L78 (N := N) (V := V) (t := t) hk hh hcnt n (i + 1) (fset s (1902 + 6 * h + i) (s (1902 + 6 * h + (i + 1)))) (by omega) (by omega) (by rw [fset_ne _ _ (by omega)]; exact hs)
      refine ⟨s', ?_, r1, fun j h1 h2 => ?_, fun j h1 h2 => ?_⟩
      · simp (disch := omega) only [f_X12_leavesShare_L78, q_k hk, q_gR1 hk, q_gR2 hk, q_gR8 hk, q_gR11 hk, q_gR13 hk, q_gR14 hk, q_gR15 hk, q_gR16 hk, q_gI hk, q_pI hk, q_a hk, q_w hk, q_l hk, nW_add, nW_mul, nW_sub, nW_le, nW_lt, nW_inj, irem_nW, ix_nW, nW_lit, hs, n1, ↓reduceIte, Option.bind_some, x1, e]
      · by_cases ej : j = i
        · subst ej
          have e9 : 1902 + (6 * h + j) = 1902 + 6 * h + j := by omega
          rw [r3 _ (by omega) (by omega), e9, fset_eq]; congr 1; omega
        · rw [r2 j (by omega) h2, fset_ne _ _ (by omega)]
      · rw [r3 j h1 (by omega), fset_ne _ _ (by omega)]
theorem ref_leaves_L54 {N : Mem} {V : VR} {s : Nat → Int32} {t : Nat → Int64} (hk : KR N) {h c p : Nat} {m : List Nat} (hh : h < 36) (hc : c < 6) (hm : ∀ i, i < m.length → s (1902 + 6 * h + i) = nW (m.getD i 0)) (h6 : ∀ y ∈ m, y < 6) (hl : m.length ≤ 6) (hp : p < m.length) (hpc : m.getD p 0 = c) (hfirst : ∀ j, j < p → m.getD j 0 ≠ c) : ∀ n i, i ≤ p → p - i < n → f_X12_leavesShare_L54 n 908 (nW c) (nW h) (nW (1902 + 6 * h)) (nW i) (QW N V s t) = f_X12_leavesShare_L78 FU 908 (nW h) (nW (1902 + 6 * h)) (nW p) (QW N V s t)
  | 0, i, _, hn => absurd hn (by omega)
  | n + 1, i, hi, hn => by
    have hv := hm i (by omega)
    have hlt : m.getD i 0 < 6 := by rw [gd_in _ _ (show i < m.length by omega)]; exact h6 _ (List.getElem_mem _)
    by_cases he : i = p
    · subst he
      rw [hpc] at hv
      simp (disch := omega) only [f_X12_leavesShare_L54, q_k hk, q_gR1 hk, q_gR2 hk, q_gR8 hk, q_gR11 hk, q_gR13 hk, q_gR14 hk, q_gR15 hk, q_gR16 hk, q_gI hk, q_pI hk, q_a hk, q_w hk, q_l hk, nW_add, nW_mul, nW_sub, nW_le, nW_lt, nW_inj, irem_nW, ix_nW, nW_lit, Option.bind_some, hv, ↓reduceIte]
    · have hne := hfirst i (by omega)
      have ih := ref_leaves_L54 (N := N) (V := V) (s := s) (t := t) hk hh hc hm h6 hl hp hpc hfirst n (i + 1) (by omega) (by omega)
      simp (disch := omega) only [f_X12_leavesShare_L54, q_k hk, q_gR1 hk, q_gR2 hk, q_gR8 hk, q_gR11 hk, q_gR13 hk, q_gR14 hk, q_gR15 hk, q_gR16 hk, q_gI hk, q_pI hk, q_a hk, q_w hk, q_l hk, nW_add, nW_mul, nW_sub, nW_le, nW_lt, nW_inj, irem_nW, ix_nW, nW_lit, Option.bind_some, hv, hne, ↓reduceIte, ih]
def shLeaveK (l : List Sh) (t : Txt) (g : Int32) (c : Nat) : List Sh := match shAt l t g with
  | none => l
  | some h => shLeave l h c
theorem ref_leaves_J29 {N : Mem} {V : VR} {s : Nat → Int32} {t : Nat → Int64} {l : List Sh} {h c : Nat} (hk : KR N) (hR : R_sh s t l) (h36 : l.length ≤ 36) (hok : ShOk l) (h6 : ∀ x ∈ l, x.2.2.length ≤ 6) (hh : h < l.length) (hc : c < 6) (hmem : c ∈ (l.getD h shD).2.2) : ∃ s' t', f_X12_leavesShare_J29 908 (nW c) (nW h) (QW N V s t) = some (QW N V s' t') ∧ R_sh s' t' (shLeave l h c) ∧ FSh s s' ∧ FtS t t' := by
  have hx : l.getD h shD ∈ l := by rw [gd_in _ _ hh]; exact List.getElem_mem hh
  obtain ⟨k1, k2, k3⟩ := hok _ hx
  have k6 := h6 _ hx
  obtain ⟨y1, y2, y3, y4, y5⟩ := hR.2 h hh
  cases hp : posN (l.getD h shD).2.2 c with
  | none => exact absurd hmem (posN_none hp)
  | some p =>
    obtain ⟨p1, p2, p3⟩ := posN_some hp
    have pf := (ffind_some hp).2.2.2
    have e1 := ref_leaves_L54 (N := N) (V := V) (s := s) (t := t) hk (show h < 36 by omega) hc (fun i hi => by rw [Nat.add_assoc]; exact y5 i hi) k1 k6 p1 p2 (fun j hj => of_decide_eq_false (pf j (by omega) hj)) FU 0 (by omega) (by simp only [FU]; omega)
    obtain ⟨s1, e2, r1, r2, r3⟩ := ref_leaves_L78 (N := N) (V := V) (t := t) hk (show h < 36 by omega) k6 FU p s p1 (by simp only [FU]; omega) y3
    have le : ((l.getD h shD).2.2.erase c).length = (l.getD h shD).2.2.length - 1 := by rw [p3, len_eraseIdx _ p1]
    obtain ⟨R1, F1⟩ := R_sh_put (s' := s1) (m := (l.getD h shD).2.2.erase c) hR h36 h6 hh (fun i a b => r3 i a (by omega)) (by rw [le]; exact r1) (fun i hi => by
      rw [le] at hi
      rw [p3, gd_erase]
      by_cases q : i < p
      · rw [if_pos q, r3 _ (by omega) (by omega)]; exact y5 i (by omega)
      · rw [if_neg q, r2 i (by omega) (by omega)]; exact y5 (i + 1) (by omega))
    have n16 : ¬ h = l.length := by omega
    have hJ : f_X12_leavesShare_J29 908 (nW c) (nW h) (QW N V s t) = f_X12_leavesShare_L54 FU 908 (nW c) (nW h) (nW (1902 + 6 * h)) (nW 0) (QW N V s t) := by
      simp (disch := omega) only [f_X12_leavesShare_J29, q_k hk, q_gR1 hk, q_gR2 hk, q_gR8 hk, q_gR11 hk, q_gR13 hk, q_gR14 hk, q_gR15 hk, q_gR16 hk, q_gI hk, q_pI hk, q_a hk, q_w hk, q_l hk, nW_add, nW_mul, nW_sub, nW_le, nW_lt, nW_inj, irem_nW, ix_nW, nW_lit, Option.bind_some, hR.1, n16, ↓reduceIte]
    unfold shLeave
    by_cases hz : (l.getD h shD).2.2.length - 1 = 0
    · have he : (l.getD h shD).2.2.erase c = [] := List.length_eq_zero_iff.mp (by omega)
      rw [if_pos he]
      obtain ⟨s2, t2, e3, R2, F2, Ft2⟩ := ref_forgets (N := N) (V := V) (h := h) hk R1 (by rw [shPut, len_setL]; exact h36) (fun x hx => by
        rw [shPut] at hx
        rcases List.mem_or_eq_of_mem_set hx with hx | rfl
        · exact h6 x hx
        · show ((l.getD h shD).2.2.erase c).length ≤ 6; omega) (by rw [shPut, len_setL]; exact hh)
      refine ⟨s2, t2, ?_, ?_, F1.trans F2, Ft2⟩
      · rw [hJ, e1, e2, if_pos hz, e3]; rfl
      · have : (shPut l h ((l.getD h shD).2.2.erase c)).eraseIdx h = l.eraseIdx h := by
          unfold shPut; exact List.eraseIdx_set_eq
        rw [← this]; exact R2
    · have he : ¬ (l.getD h shD).2.2.erase c = [] := fun e => hz (by have h9 := congrArg List.length e; rw [le] at h9; exact h9)
      rw [if_neg he]
      exact ⟨s1, t, by rw [hJ, e1, e2, if_neg hz], R1, F1, fun _ _ => rfl⟩
