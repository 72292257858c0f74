/-! THE REFERENCE'S WORLD WITH ITS TWO ROWS IN VIEW -/
def VS (V : VR) (s : Nat → Int32) (t : Nat → Int64) : VR := (fun k => if k = 1 then s else V.1 k, fun k => if k = 2 then t else V.2.1 k, V.2.2)
def QW (N : Mem) (V : VR) (s : Nat → Int32) (t : Nat → Int64) : Mem := RW N (VS V s t)
theorem VS_I1 (V : VR) (s : Nat → Int32) (t : Nat → Int64) : (VS V s t).1 1 = s := rfl
theorem VS_Io (V : VR) (s : Nat → Int32) (t : Nat → Int64) {k : Nat} (h : k ≠ 1) : (VS V s t).1 k = V.1 k := by simp only [VS, h, ↓reduceIte]
theorem VS_L2 (V : VR) (s : Nat → Int32) (t : Nat → Int64) : (VS V s t).2.1 2 = t := rfl
theorem VS_Lo (V : VR) (s : Nat → Int32) (t : Nat → Int64) {k : Nat} (h : k ≠ 2) : (VS V s t).2.1 k = V.2.1 k := by simp only [VS, h, ↓reduceIte]
theorem VS_F (V : VR) (s : Nat → Int32) (t : Nat → Int64) : (VS V s t).2.2 = V.2.2 := rfl
theorem VS_self (V : VR) : VS V (V.1 1) (V.2.1 2) = V := by
  refine Prod.ext (funext fun k => ?_) (Prod.ext (funext fun k => ?_) rfl)
  · by_cases h : k = 1
    · subst h; rfl
    · simp only [VS, h, ↓reduceIte]
  · by_cases h : k = 2
    · subst h; rfl
    · simp only [VS, h, ↓reduceIte]
theorem VS_vI (V : VR) (s : Nat → Int32) (t : Nat → Int64) (i : Nat) (x : Int32) : vI (VS V s t) 1 i x = VS V (fset s i x) t := by
  refine Prod.ext (funext fun k => ?_) rfl
  by_cases h : k = 1
  · subst h; rw [vI_1]; rfl
  · rw [vI_o _ _ _ h]; simp only [VS, h, ↓reduceIte]
theorem VS_vIo (V : VR) (s : Nat → Int32) (t : Nat → Int64) {k : Nat} (i : Nat) (x : Int32) (hk : k ≠ 1) : vI (VS V s t) k i x = VS (vI V k i x) s t := by
  refine Prod.ext (funext fun a => ?_) rfl
  by_cases h : a = 1
  · subst h; rw [vI_o _ _ _ (Ne.symm hk)]; rfl
  · rw [VS_Io _ _ _ h]
    by_cases e : a = k
    · subst e; rw [vI_1, vI_1, VS_Io _ _ _ h]
    · rw [vI_o _ _ _ e, vI_o _ _ _ e, VS_Io _ _ _ h]
theorem VS_vB (V : VR) (s : Nat → Int32) (t : Nat → Int64) (j : Nat) (v : Nat → Int64) : vB (VS V s t) 2 j v = VS V s (blk t j v) := by
  refine Prod.ext rfl (Prod.ext (funext fun k => ?_) rfl)
  by_cases h : k = 2
  · subst h; rw [vB_1]; rfl
  · rw [vB_o _ _ _ h]; simp only [VS, h, ↓reduceIte]
theorem VS_vBo (V : VR) (s : Nat → Int32) (t : Nat → Int64) {k : Nat} (j : Nat) (v : Nat → Int64) (hk : k ≠ 2) : vB (VS V s t) k j v = VS (vB V k j v) s t := by
  refine Prod.ext rfl (Prod.ext (funext fun a => ?_) rfl)
  by_cases h : a = 2
  · subst h; rw [vB_o _ _ _ (Ne.symm hk)]; rfl
  · rw [VS_Lo _ _ _ h]
    by_cases e : a = k
    · subst e; rw [vB_1, vB_1, VS_Lo _ _ _ h]
    · rw [vB_o _ _ _ e, vB_o _ _ _ e, VS_Lo _ _ _ h]
theorem q_k {N : Mem} {V : VR} {s : Nat → Int32} {t : Nat → Int64} (h : KR N) : (mK (QW N V s t) 908).1 = 12 := h.1
theorem q_gR1 {N : Mem} {V : VR} {s : Nat → Int32} {t : Nat → Int64} (h : KR N) : gR 12 1 908 (QW N V s t) = some 909 := W_gR1 h
theorem q_gR2 {N : Mem} {V : VR} {s : Nat → Int32} {t : Nat → Int64} (h : KR N) : gR 12 2 908 (QW N V s t) = some 910 := W_gR2 h
theorem q_gR8 {N : Mem} {V : VR} {s : Nat → Int32} {t : Nat → Int64} (h : KR N) : gR 12 8 908 (QW N V s t) = some 915 := W_gR8 h
theorem q_gR11 {N : Mem} {V : VR} {s : Nat → Int32} {t : Nat → Int64} (h : KR N) : gR 12 11 908 (QW N V s t) = some 916 := W_gR11 h
theorem q_gR13 {N : Mem} {V : VR} {s : Nat → Int32} {t : Nat → Int64} (h : KR N) : gR 12 13 908 (QW N V s t) = some 917 := W_gR13 h
theorem q_gR14 {N : Mem} {V : VR} {s : Nat → Int32} {t : Nat → Int64} (h : KR N) : gR 12 14 908 (QW N V s t) = some 918 := W_gR14 h
theorem q_gR15 {N : Mem} {V : VR} {s : Nat → Int32} {t : Nat → Int64} (h : KR N) : gR 12 15 908 (QW N V s t) = some 919 := W_gR15 h
theorem q_gR16 {N : Mem} {V : VR} {s : Nat → Int32} {t : Nat → Int64} (h : KR N) : gR 12 16 908 (QW N V s t) = some 920 := W_gR16 h
theorem q_gI {N : Mem} {V : VR} {s : Nat → Int32} {t : Nat → Int64} (h : KR N) (f : Nat) : gI 12 f 908 (QW N V s t) = some (V.1 0 f) := W_gI h f
theorem q_pI {N : Mem} {V : VR} {s : Nat → Int32} {t : Nat → Int64} (h : KR N) (f : Nat) (x : Int32) : pI 12 f 908 x (QW N V s t) = some (QW N (vI V 0 f x) s t) := by
  rw [QW, W_pI h, VS_vIo _ _ _ _ _ (by omega)]; rfl
theorem q_a {N : Mem} {V : VR} {s : Nat → Int32} {t : Nat → Int64} (h : KR N) {i : Nat} (hi : i < 2718) : aI 13 909 (nW i) (QW N V s t) = some (s i) := W_aI1 h hi
theorem q_w {N : Mem} {V : VR} {s : Nat → Int32} {t : Nat → Int64} (h : KR N) {i : Nat} (x : Int32) (hi : i < 2718) : wI 13 909 (nW i) x (QW N V s t) = some (QW N V (fset s i x) t) := by
  rw [QW, W_wI1 h x hi, VS_vI]; rfl
theorem q_l {N : Mem} {V : VR} {s : Nat → Int32} {t : Nat → Int64} (h : KR N) {i : Nat} (hi : i < 3800) : aL 910 (nW i) (QW N V s t) = some (t i) := W_aL2 h hi
theorem q_mv {N : Mem} {V : VR} {s : Nat → Int32} {t : Nat → Int64} (h : KR N) {i j : Nat} (hi : i + 4 ≤ 3800) (hj : j + 4 ≤ 3800) (hd : i + 4 ≤ j ∨ j + 4 ≤ i) : f_X12_moves 910 (nW i) 910 (nW j) (QW N V s t) = some (QW N V s (blk t j (fun x => t (i + x)))) := by
  rw [QW, moves_2_2 h hi hj hd, VS_vB]; rfl
theorem q_mv9 {N : Mem} {V : VR} {s : Nat → Int32} {t : Nat → Int64} (h : KR N) {j : Nat} (hj : j + 4 ≤ 3800) : f_X12_moves 917 (nW 0) 910 (nW j) (QW N V s t) = some (QW N V s (blk t j (fun x => V.2.1 9 (0 + x)))) := by
  rw [QW, moves_9_2 h (by omega) hj, VS_vB]; rfl
theorem q_mv8 {N : Mem} {V : VR} {s : Nat → Int32} {t : Nat → Int64} (h : KR N) {j : Nat} (hj : j + 4 ≤ 3800) : f_X12_moves 916 (nW 0) 910 (nW j) (QW N V s t) = some (QW N V s (blk t j (fun x => V.2.1 8 (0 + x)))) := by
  rw [QW, moves_8_2 h (by omega) hj, VS_vB]; rfl
theorem q_mv29 {N : Mem} {V : VR} {s : Nat → Int32} {t : Nat → Int64} (h : KR N) {i : Nat} (hi : i + 4 ≤ 3800) : f_X12_moves 910 (nW i) 917 (nW 0) (QW N V s t) = some (QW N (vB V 9 0 (fun x => t (i + x))) s t) := by
  rw [QW, moves_2_9 h hi (by omega), VS_vBo _ _ _ _ _ (by omega)]; rfl
theorem q_mv89 {N : Mem} {V : VR} {s : Nat → Int32} {t : Nat → Int64} (h : KR N) : f_X12_moves 916 (nW 0) 917 (nW 0) (QW N V s t) = some (QW N (vB V 9 0 (fun x => V.2.1 8 (0 + x))) s t) := by
  rw [QW, moves_8_9 h (by omega) (by omega), VS_vBo _ _ _ _ _ (by omega)]; rfl
theorem q_mv212 {N : Mem} {V : VR} {s : Nat → Int32} {t : Nat → Int64} (h : KR N) {i : Nat} (hi : i + 4 ≤ 3800) : f_X12_moves 910 (nW i) 920 (nW 0) (QW N V s t) = some (QW N (vB V 12 0 (fun x => t (i + x))) s t) := by
  rw [QW, moves_2_12 h hi (by omega), VS_vBo _ _ _ _ _ (by omega)]; rfl
theorem q_mv10 {N : Mem} {V : VR} {s : Nat → Int32} {t : Nat → Int64} (h : KR N) {j : Nat} (hj : j + 4 ≤ 3800) : f_X12_moves 918 (nW 0) 910 (nW j) (QW N V s t) = some (QW N V s (blk t j (fun x => V.2.1 10 (0 + x)))) := by
  rw [QW, moves_10_2 h (by omega) hj, VS_vB]; rfl
/-- where a text's four longs come from: moved into the second row -/
def Src (N : Mem) (V : VR) (t : Nat → Int64) (a i : Nat) (x : Txt) : Prop := ∀ s t' j, (∀ k, k < 4 → t' (i + k) = t (i + k)) → (a = 910 → i + 4 ≤ j ∨ j + 4 ≤ i) → j + 4 ≤ 3800 → ∃ v, f_X12_moves a (nW i) 910 (nW j) (QW N V s t') = some (QW N V s (blk t' j v)) ∧ ∀ k, k < 4 → v k = rc (x.getD k [])
theorem Src_t {N : Mem} {V : VR} {t : Nat → Int64} {i : Nat} {x : Txt} (h : KR N) (hi : i + 4 ≤ 3800) (hT : TB t i x) : Src N V t 910 i x := fun s t' j ht hd hj => ⟨_, q_mv h hi hj (hd rfl), fun k hk => by rw [ht k hk]; exact hT k hk⟩
theorem Src_9 {N : Mem} {V : VR} {t : Nat → Int64} {x : Txt} (h : KR N) (hT : TB (V.2.1 9) 0 x) : Src N V t 917 0 x := fun s t' j _ _ hj => ⟨_, q_mv9 h hj, fun k hk => hT k hk⟩
theorem Src_10 {N : Mem} {V : VR} {t : Nat → Int64} (h : KR N) (hT : TB (V.2.1 10) 0 []) : Src N V t 918 0 [] := fun s t' j _ _ hj => ⟨_, q_mv10 h hj, fun k hk => hT k hk⟩
/-! SENDING, in the reference -/
theorem R_sc_tot {s : Nat → Int32} {sc : Nat → Int32} (h : R_sc s sc) {i : Nat} (hi : i < 10) : R_sc (fset s (5 + i) (s (5 + i) + nW 1)) (tot sc i) := by
  obtain ⟨h1, h2, h3⟩ := h
  refine ⟨?_, fun j hj => ?_, fun j hj => ?_⟩
  · rw [fset_ne _ _ (by omega), tot, fset_ne _ _ (by omega)]; exact h1
  · rw [fset_ne _ _ (by omega), tot, fset_ne _ _ (by omega)]; exact h2 j hj
  · by_cases e : j = i
    · subst e; rw [fset_eq, tot, fset_eq, h3 j hj]
    · rw [fset_ne _ _ (by omega), tot, fset_ne _ _ e]; exact h3 j hj
theorem R_sc.fr {s s' : Nat → Int32} {sc : Nat → Int32} (h : R_sc s sc) (hs : ∀ i, i < 15 → s' i = s i) : R_sc s' sc := by
  obtain ⟨h1, h2, h3⟩ := h
  refine ⟨?_, fun j hj => ?_, fun j hj => ?_⟩
  · rw [hs _ (by omega)]; exact h1
  · rw [hs _ (by omega)]; exact h2 j hj
  · rw [hs _ (by omega)]; exact h3 j hj
theorem ref_sends {N : Mem} {V : VR} {s : Nat → Int32} {t : Nat → Int64} {c a i : Nat} {g : GS} {x : Txt} (kind id gr pay fl : Int32) (hk : KR N) (hc : c < 6) (h : RG s t c g) (hsrc : Src N V t a i x) (hd : a = 910 → i + 4 ≤ 504) : ∃ s' t', f_X12_sends 908 (nW c) kind id gr pay fl a (nW i) (QW N V s t) = some (QW N V s' t') ∧ RG s' t' c (spSend g (mkPk x kind id gr pay fl)) ∧ FT c s s' ∧ Ft c t t' := by
  obtain ⟨hsc, ⟨l1, l2, l3, l4⟩, ⟨a1, a2, a3, a4, a5, a6, a7, a8⟩, b, w, k, u, f, p, q⟩ := h
  by_cases hq : (cL g.2 0).1 < 30
  · have hne : ¬ (cL g.2 0).1 = 30 := by omega
    obtain ⟨v, e1, hv⟩ := hsrc (fset (fset (fset (fset (fset (fset s (80 + c) (s (80 + c) + nW 1)) (878 + (30 * c + (cL g.2 0).1)) kind) (1058 + (30 * c + (cL g.2 0).1)) id) (1238 + (30 * c + (cL g.2 0).1)) gr) (1418 + (30 * c + (cL g.2 0).1)) pay) (1598 + (30 * c + (cL g.2 0).1)) fl) t (504 + 4 * (30 * c + (cL g.2 0).1)) (fun _ _ => rfl) (fun e => by have := hd e; omega) (by omega)
    refine ⟨_, _, by simp (disch := omega) only [f_X12_sends, f_X12_appends, q_k hk, q_gR1 hk, q_gR2 hk, q_gR8 hk, q_gR11 hk, q_gR13 hk, q_gR14 hk, q_gR15 hk, q_gR16 hk, q_gI hk, q_pI hk, q_a hk, q_w hk, q_l hk, nW_add, nW_mul, nW_sub, nW_le, nW_lt, nW_inj, irem_nW, ix_nW, nW_lit, a6, hne, e1, ↓reduceIte, Option.bind_some, fset_ne, fset_eq]; rfl, ?_⟩
    simp only [spSend, hq, ↓reduceIte]
    refine ⟨⟨hsc.fr (fun i hi => by simp (disch := omega) only [fset_ne]), ⟨by show (lpush (cL g.2 0) (mkPk x kind id gr pay fl)).1 ≤ 30; simp only [lpush]; omega, l2, l3, l4⟩, ?_, b.fr hc (fun i h1 h2 => by simp (disch := omega) only [fset_ne]), w.fr hc (fun i h1 h2 => by simp (disch := omega) only [fset_ne]) (fun i h1 => by simp (disch := omega) only [blk_out]), k.fr hc (fun i h1 h2 => by simp (disch := omega) only [fset_ne]), u.fr hc l4 (fun i h1 h2 => by simp (disch := omega) only [fset_ne]) (fun i h1 h2 => by simp (disch := omega) only [blk_out]), f.fr hc l2 (fun i h1 h2 => by simp (disch := omega) only [fset_ne]) (fun i h1 h2 => by simp (disch := omega) only [blk_out]), p.fr hc l3 (fun i h1 h2 => by simp (disch := omega) only [fset_ne]) (fun i h1 h2 => by simp (disch := omega) only [blk_out]), ?_⟩, fun i h1 h2 => ?_, fun i h2 => ?_⟩
    · unfold R_c1
      simp (disch := omega) only [uB_B, uB_I, uB_F, uB_W, uB_K, uB_N, uB_L, uI_B, uI_I, uI_F, uI_W, uI_K, uI_N, uI_L, uF_B, uF_I, uF_F, uF_W, uF_K, uF_N, uF_L, uW_B, uW_I, uW_F, uW_W, uW_K, uW_N, uW_L, uK_B, uK_I, uK_F, uK_W, uK_K, uK_N, uK_L, uN_B, uN_I, uN_F, uN_W, uN_K, uN_N, uN_L, uL_B, uL_I, uL_F, uL_W, uL_K, uL_N, uL_L, fset_ne, fset_eq, a1, a2, a3, a4, a5, a6, a7, a8, lpush, nW_add, and_self]
    · intro j hj
      simp only [uB_B, uB_I, uB_F, uB_W, uB_K, uB_N, uB_L, uI_B, uI_I, uI_F, uI_W, uI_K, uI_N, uI_L, uF_B, uF_I, uF_F, uF_W, uF_K, uF_N, uF_L, uW_B, uW_I, uW_F, uW_W, uW_K, uW_N, uW_L, uK_B, uK_I, uK_F, uK_W, uK_K, uK_N, uK_L, uN_B, uN_I, uN_F, uN_W, uN_K, uN_N, uN_L, uL_B, uL_I, uL_F, uL_W, uL_K, uL_N, uL_L, fset_eq, lpush] at hj ⊢
      by_cases e : j = (cL g.2 0).1
      · subst e
        simp (disch := omega) only [fset_ne, fset_eq, ↓reduceIte, mkPk, Nat.reduceEqDiff, reduceCtorEq, true_and, and_self]
        exact TB.blk hv
      · obtain ⟨h1, h2, h3, h4, h5, h6⟩ := q j (by omega)
        simp (disch := omega) only [fset_ne, e, ↓reduceIte, h1, h2, h3, h4, h5, true_and]
        exact h6.fr (fun k hk => blk_out _ _ (by omega))
    · simp only [cs] at h2; simp (disch := omega) only [fset_ne]
    · simp only [ct] at h2; exact blk_out _ _ (by omega)
  · have he : (cL g.2 0).1 = 30 := by omega
    refine ⟨_, _, by simp (disch := omega) only [f_X12_sends, q_k hk, q_gR1 hk, q_gR2 hk, q_gR8 hk, q_gR11 hk, q_gR13 hk, q_gR14 hk, q_gR15 hk, q_gR16 hk, q_gI hk, q_pI hk, q_a hk, q_w hk, q_l hk, nW_add, nW_mul, nW_sub, nW_le, nW_lt, nW_inj, irem_nW, ix_nW, nW_lit, a6, he, ↓reduceIte, Option.bind_some, fset_ne, fset_eq]; rfl, ?_⟩
    simp only [spSend, hq, ↓reduceIte]
    refine ⟨⟨?_, ⟨l1, l2, l3, l4⟩, ?_, b.fr hc (fun i h1 h2 => by simp (disch := omega) only [fset_ne]), w.fr hc (fun i h1 h2 => by simp (disch := omega) only [fset_ne]) (fun i h1 => rfl), k.fr hc (fun i h1 h2 => by simp (disch := omega) only [fset_ne]), u.fr hc l4 (fun i h1 h2 => by simp (disch := omega) only [fset_ne]) (fun i h1 h2 => rfl), f.fr hc l2 (fun i h1 h2 => by simp (disch := omega) only [fset_ne]) (fun i h1 h2 => rfl), p.fr hc l3 (fun i h1 h2 => by simp (disch := omega) only [fset_ne]) (fun i h1 h2 => rfl), q.fr hc l1 (fun i h1 h2 => by simp (disch := omega) only [fset_ne]) (fun i h1 h2 => rfl)⟩, fun i h1 h2 => ?_, fun i h2 => rfl⟩
    · have := R_sc_tot (hsc.fr (s' := fset s (80 + c) (s (80 + c) + nW 1)) (fun i hi => by simp (disch := omega) only [fset_ne])) (i := 8) (by omega)
      simp (disch := omega) only [fset_ne] at this
      exact this
    · unfold R_c1
      simp (disch := omega) only [uB_B, uB_I, uB_F, uB_W, uB_K, uB_N, uB_L, uI_B, uI_I, uI_F, uI_W, uI_K, uI_N, uI_L, uF_B, uF_I, uF_F, uF_W, uF_K, uF_N, uF_L, uW_B, uW_I, uW_F, uW_W, uW_K, uW_N, uW_L, uK_B, uK_I, uK_F, uK_W, uK_K, uK_N, uK_L, uN_B, uN_I, uN_F, uN_W, uN_K, uN_N, uN_L, uL_B, uL_I, uL_F, uL_W, uL_K, uL_N, uL_L, fset_ne, fset_eq, a1, a2, a3, a4, a5, a6, a7, a8, and_self]
    · simp only [cs] at h2; simp (disch := omega) only [fset_ne]
