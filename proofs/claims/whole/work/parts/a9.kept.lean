/-! KEPT IDENTIFIERS, in the reference -/
theorem RG_K {s : Nat → Int32} {t : Nat → Int64} {c i : Nat} {g : GS} (b : Bool) (hc : c < 6) (h : RG s t c g) (hi : i < 51) : RG (fset s (104 + (51 * c + i)) (zI b)) t c (g.1, uK g.2 (fset (cK g.2) i b)) ∧ FT c s (fset s (104 + (51 * c + i)) (zI b)) := by
  obtain ⟨hsc, ⟨l1, l2, l3, l4⟩, ⟨a1, a2, a3, a4, a5, a6, a7, a8⟩, b', w, k, u, f, p, q⟩ := h
  refine ⟨⟨hsc.fr (fun i hi => by simp (disch := omega) only [fset_ne]), ⟨l1, l2, l3, l4⟩, ?_, b'.fr hc (fun i h1 h2 => by simp (disch := omega) only [fset_ne]), w.fr hc (fun i h1 h2 => by simp (disch := omega) only [fset_ne]) (fun _ _ => rfl), ?_, u.fr hc l4 (fun i h1 h2 => by simp (disch := omega) only [fset_ne]) (fun _ _ _ => rfl), f.fr hc l2 (fun i h1 h2 => by simp (disch := omega) only [fset_ne]) (fun _ _ _ => rfl), p.fr hc l3 (fun i h1 h2 => by simp (disch := omega) only [fset_ne]) (fun _ _ _ => rfl), q.fr hc l1 (fun i h1 h2 => by simp (disch := omega) only [fset_ne]) (fun _ _ _ => rfl)⟩, fun j h1 h2 => ?_⟩
  · unfold R_c1
    simp (disch := omega) only [uB_B, uB_I, uB_F, uB_W, uB_K, uB_N, uB_L, uI_B, uI_I, uI_F, uI_W, uI_K, uI_N, uI_L, uF_B, uF_I, uF_F, uF_W, uF_K, uF_N, uF_L, uW_B, uW_I, uW_F, uW_W, uW_K, uW_N, uW_L, uK_B, uK_I, uK_F, uK_W, uK_K, uK_N, uK_L, uN_B, uN_I, uN_F, uN_W, uN_K, uN_N, uN_L, uL_B, uL_I, uL_F, uL_W, uL_K, uL_N, uL_L, fset_ne]
    exact ⟨a1, a2, a3, a4, a5, a6, a7, a8⟩
  · intro j h1 h2
    show fset s (104 + (51 * c + i)) (zI b) (104 + (51 * c + j)) = zI (fset (cK g.2) i b j)
    by_cases e : j = i
    · subst e; rw [fset_eq, fset_eq]
    · rw [fset_ne _ _ (by omega), fset_ne _ _ e]; exact k j h1 h2
  · unfold cs at h2; rw [fset_ne _ _ (by omega)]
theorem GI_K {g : GS} {i : Nat} {b : Bool} (h : GI g) (hex : cB g.2 3 = true) : GI (g.1, uK g.2 (fset (cK g.2) i b)) := by
  obtain ⟨h1, ⟨l1, l2, l3, l4⟩, h3, h4, h5, h6, h7, h8, h9, h10⟩ := h
  exact ⟨h1, ⟨l1, l2, l3, l4⟩, h3, h4, h5, h6, h7, h8, h9, fun e => absurd (hex.symm.trans e) (by decide)⟩
theorem ref_kepts_L4 {N : Mem} {V : VR} {s : Nat → Int32} {t : Nat → Int64} (hk : KR N) {c : Nat} {K : Nat → Bool} (hc : c < 6) (h : ∀ i, 1 ≤ i → i < 51 → s (104 + (51 * c + i)) = zI (K i)) : ∀ n i, 1 ≤ i → i ≤ 51 → 51 - i < n → f_X12_kepts_L4 n 908 (nW c) (nW (kcnt K (i - 1))) (nW i) (QW N V s t) = some (nW (kcnt K 50), QW N V s t)
  | 0, i, _, _, hn => absurd hn (by omega)
  | n + 1, i, h1, h2, hn => by
    have kle : ∀ m, kcnt K m ≤ m := by
      intro m
      induction m with
      | zero => exact Nat.le_refl _
      | succ m ih => unfold kcnt; split <;> omega
    by_cases he : i = 51
    · subst he
      simp (disch := omega) only [f_X12_kepts_L4, nW_lit, nW_lt, Nat.reduceLT, ↓reduceIte, Nat.reduceSub]
    · have n1 : ¬ 50 < i := by omega
      have ih := ref_kepts_L4 (N := N) (V := V) (t := t) hk hc h n (i + 1) (by omega) (by omega) (by omega)
      have hv : s (104 + 51 * c + i) = zI (K i) := by rw [Nat.add_assoc]; exact h i h1 (by omega)
      have k1 := kle (i - 1)
      have e : nW (kcnt K (i - 1)) + zI (K i) = nW (kcnt K (i + 1 - 1)) := by
        obtain ⟨m, rfl⟩ : ∃ m, i = m + 1 := ⟨i - 1, by omega⟩
        rw [show m + 1 + 1 - 1 = m + 1 by omega, show m + 1 - 1 = m by omega]
        rw [show m + 1 - 1 = m by omega] at k1
        cases hK : K (m + 1) with
        | true => rw [zI_t, nW_add, kcnt, if_pos hK]
        | false => rw [zI_f, nW_add, kcnt, if_neg (by rw [hK]; decide)]
      simp (disch := omega) only [f_X12_kepts_L4, q_k hk, q_gR1 hk, q_gR2 hk, q_gR8 hk, q_gR11 hk, q_gR13 hk, q_gR14 hk, q_gR15 hk, q_gR16 hk, q_gI hk, q_pI hk, q_a hk, q_w hk, q_l hk, nW_add, nW_mul, nW_sub, nW_le, nW_lt, nW_inj, irem_nW, ix_nW, nW_lit, n1, ↓reduceIte, Option.bind_some, hv]
      rw [e]; exact ih
theorem ref_kepts {N : Mem} {V : VR} {s : Nat → Int32} {t : Nat → Int64} (hk : KR N) {c : Nat} {g : GS} (hc : c < 6) (h : RG s t c g) : f_X12_kepts 908 (nW c) (QW N V s t) = some (nW (kcnt (cK g.2) 50), QW N V s t) := by
  have := ref_kepts_L4 (N := N) (V := V) (s := s) (t := t) (K := cK g.2) hk hc h.2.2.2.2.2.1 FU 1 (by omega) (by omega) (by simp only [FU]; omega)
  simp only [f_X12_kepts, q_k hk, ↓reduceIte, nW_lit]
  exact this
