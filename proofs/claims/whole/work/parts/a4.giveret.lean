/-! RETAINED MESSAGES GIVEN to a new subscription -/
def spGR (c : Nat) (t : Txt) (g : Int32) : Nat → Nat → Sg → Sg
  | 0, _, σ => σ
  | n + 1, i, σ => spGR c t g n (i + 1) (if spMatch t ((gRe σ).2 i).1 = true then putG σ c (spGive (getG σ c) (msg ((gRe σ).2 i).1 (iminE (((gRe σ).2 i).2 1) g) (((gRe σ).2 i).2 2) (nW 2))) else σ)
theorem gr_step {σ : Sg} {c i : Nat} {t : Txt} {g : Int32} (hS : SI σ) (hc : c < 6) (hi : i < (gRe σ).1) (hg : ∃ n, n ≤ 2 ∧ g = nW n) (hne : (cL (gCl σ c) 3).1 ≠ 0) : SI (if spMatch t ((gRe σ).2 i).1 = true then putG σ c (spGive (getG σ c) (msg ((gRe σ).2 i).1 (iminE (((gRe σ).2 i).2 1) g) (((gRe σ).2 i).2 2) (nW 2))) else σ) ∧ cL (gCl (if spMatch t ((gRe σ).2 i).1 = true then putG σ c (spGive (getG σ c) (msg ((gRe σ).2 i).1 (iminE (((gRe σ).2 i).2 1) g) (((gRe σ).2 i).2 2) (nW 2))) else σ) c) 3 = cL (gCl σ c) 3 ∧ gRe (if spMatch t ((gRe σ).2 i).1 = true then putG σ c (spGive (getG σ c) (msg ((gRe σ).2 i).1 (iminE (((gRe σ).2 i).2 1) g) (((gRe σ).2 i).2 2) (nW 2))) else σ) = gRe σ := by
  obtain ⟨_, o2, n, n1, n2⟩ := hS.2.2.2.2.1 i hi
  obtain ⟨m, m1, m2⟩ := hg
  split
  · refine ⟨SI_giveC hS hc o2 (by rw [n2, m2]; exact imin_nW n1 m1) hne, ?_, rfl⟩
    rw [gCl_putG]; exact (spGive_same _ _).2.2.2.1
  · exact ⟨hS, rfl, rfl⟩
theorem St_giveRetained_L3 {S x c : Nat} {t : Txt} {g : Int32} (hZ : inZ S) (hc : c < 6) (hg : ∃ n, n ≤ 2 ∧ g = nW n) : ∀ n i M σ, i ≤ (gRe σ).1 → (gRe σ).1 - i < n → StR M S σ → SI σ → (cL (gCl σ c) 3).1 ≠ 0 → TextR M x t → ∃ M', f_X7_giveRetained_L3 n S (nW c) x g (nW i) M = some M' ∧ Fr (SZ S) M M' ∧ StR M' S (spGR c t g ((gRe σ).1 - i) i σ) ∧ SI (spGR c t g ((gRe σ).1 - i) i σ)
  | 0, i, M, σ, _, hn, _, _, _, _ => absurd hn (by omega)
  | n + 1, i, M, σ, hi, hn, hR, hS, hne, hx => by
    obtain ⟨s1, s2, s3, s4, s5, s6, s7, s8⟩ := StR_k hR
    have l8 : (gRe σ).1 ≤ 8 := hR.2.2.2.1.2.1
    by_cases he : i = (gRe σ).1
    · have n1 : (gRe σ).1 ≤ i := by omega
      refine ⟨M, ?_, Fr.refl _ _, by rw [he, Nat.sub_self]; exact hR, by rw [he, Nat.sub_self]; exact hS⟩
      simp (disch := omega) only [f_X7_giveRetained_L3, s7, Option.bind_some, nW_le, n1, ↓reduceIte]
    · have hil : i < (gRe σ).1 := by omega
      have n1 : ¬ (gRe σ).1 ≤ i := by omega
      have n2 : ¬ 8 ≤ i := by omega
      obtain ⟨a, ea, ⟨a1, a2⟩, hm⟩ := RetR_at hR.2.2.2.1 hil
      obtain ⟨y, gy, hy⟩ := MsR_top hm
      have mt := X10_matches hx hy
      obtain ⟨q1, q2, q3⟩ := gr_step (t := t) hS hc hil hg hne
      rw [show (gRe σ).1 - i = ((gRe σ).1 - (i + 1)) + 1 by omega, spGR]
      have next : ∀ M1, Fr (SZ S) M M1 → StR M1 S (if spMatch t ((gRe σ).2 i).1 = true then putG σ c (spGive (getG σ c) (msg ((gRe σ).2 i).1 (iminE (((gRe σ).2 i).2 1) g) (((gRe σ).2 i).2 2) (nW 2))) else σ) → ∃ M', f_X7_giveRetained_L3 n S (nW c) x g (nW (i + 1)) M1 = some M' ∧ Fr (SZ S) M M' ∧ StR M' S (spGR c t g ((gRe σ).1 - (i + 1)) (i + 1) (if spMatch t ((gRe σ).2 i).1 = true then putG σ c (spGive (getG σ c) (msg ((gRe σ).2 i).1 (iminE (((gRe σ).2 i).2 1) g) (((gRe σ).2 i).2 2) (nW 2))) else σ)) ∧ SI (spGR c t g ((gRe σ).1 - (i + 1)) (i + 1) (if spMatch t ((gRe σ).2 i).1 = true then putG σ c (spGive (getG σ c) (msg ((gRe σ).2 i).1 (iminE (((gRe σ).2 i).2 1) g) (((gRe σ).2 i).2 2) (nW 2))) else σ)) := by
        intro M1 F1 R1
        obtain ⟨M', e, F, R⟩ := St_giveRetained_L3 hZ hc hg n (i + 1) M1 _ (by rw [q3]; omega) (by rw [q3]; omega) R1 q1 (by rw [q2]; exact hne) (hx.gr F1.gr)
        rw [q3] at R
        exact ⟨M', e, F1.trans F, R⟩
      cases hb : spMatch t ((gRe σ).2 i).1 with
      | false =>
        rw [hb, zI_f] at mt
        obtain ⟨M', e, F, R⟩ := next M (Fr.refl _ _) (by rw [if_neg (by rw [hb]; decide)]; exact hR)
        rw [hb] at R
        refine ⟨M', ?_, F, R⟩
        simp (disch := omega) only [f_X7_giveRetained_L3, s7, s4, Option.bind_some, nW_lit, nW_le, nW_add, n1, n2, ↓reduceIte, ea, gy, mt, bindP, e]
      | true =>
        have t1 : ¬ nW 1 = nW 0 := by decide
        rw [hb, zI_t] at mt
        have g1 : gI 1 1 a M = some (((gRe σ).2 i).2 1) := by
          obtain ⟨k, f, _⟩ := hm
          simp only [gI, k, ↓reduceIte, f]
        obtain ⟨M1, e1, F1, R1⟩ := C_give (iminE (((gRe σ).2 i).2 1) g) (nW 2) (hZ.s hc) (StR_get hR hc) (hS.1.2 c hc) hm (by omega)
        have F1' : Fr (SZ S) M M1 := F1.mono (fun a h => CZ_SZ hc h)
        have R1' := StR_put hR hc F1 R1
        obtain ⟨M', e, F, R⟩ := next M1 F1' (by rw [if_pos hb]; exact R1')
        rw [hb] at R
        refine ⟨M', ?_, F, R⟩
        simp (disch := omega) only [f_X7_giveRetained_L3, s7, s4, s2, s8 c hc, Option.bind_some, nW_lit, nW_le, nW_add, n1, n2, t1, ↓reduceIte, ea, gy, mt, bindP, g1, e1, e]
theorem St_giveRetained {M : Mem} {S x c : Nat} {σ : Sg} {t : Txt} {g : Int32} (hZ : inZ S) (hR : StR M S σ) (hS : SI σ) (hc : c < 6) (hg : ∃ n, n ≤ 2 ∧ g = nW n) (hne : (cL (gCl σ c) 3).1 ≠ 0) (hx : TextR M x t) : ∃ M', f_X7_giveRetained S (nW c) x g M = some M' ∧ Fr (SZ S) M M' ∧ StR M' S (spGR c t g (gRe σ).1 0 σ) ∧ SI (spGR c t g (gRe σ).1 0 σ) := by
  obtain ⟨s1, _⟩ := StR_k hR
  have l8 : (gRe σ).1 ≤ 8 := hR.2.2.2.1.2.1
  obtain ⟨M', e, F, R⟩ := St_giveRetained_L3 (x := x) (t := t) hZ hc hg FU 0 M σ (Nat.zero_le _) (by simp only [FU]; omega) hR hS hne hx
  exact ⟨M', by simp only [f_X7_giveRetained, s1, ↓reduceIte, nW_lit, e], F, R⟩
theorem ref_givesRetained_L2 {N : Mem} (hk : KR N) {c j : Nat} {u : Ls Row} (hc : c < 6) (hj : j < u.1) (hu : u.1 ≤ 6) (ht : okTx (u.2 j).1) (hg : ∃ n, n ≤ 2 ∧ (u.2 j).2 2 = nW n) : ∀ n i V s t σ, i ≤ (gRe σ).1 → (gRe σ).1 - i < n → RSt s t σ → SI σ → cL (gCl σ c) 3 = u → ∃ V' s' t', f_X12_givesRetained_L2 n 908 (nW c) (nW (6 * c + j)) (nW i) (QW N V s t) = some (QW N V' s' t') ∧ VE V V' ∧ RSt s' t' (spGR c (u.2 j).1 ((u.2 j).2 2) ((gRe σ).1 - i) i σ)
  | 0, i, V, s, t, σ, _, hn, _, _, _ => absurd hn (by omega)
  | n + 1, i, V, s, t, σ, hi, hn, hR, hS, hcl => by
    have l8 : (gRe σ).1 ≤ 8 := hR.2.2.2.2.2.1
    have c15 : s 15 = nW (gRe σ).1 := hR.2.2.1.1
    by_cases he : i = (gRe σ).1
    · have n1 : (gRe σ).1 ≤ i := by omega
      refine ⟨V, s, t, ?_, VE.refl _, by rw [he, Nat.sub_self]; exact hR⟩
      simp (disch := omega) only [f_X12_givesRetained_L2, q_k hk, q_gR1 hk, q_gR2 hk, q_gR8 hk, q_gR11 hk, q_gR13 hk, q_gR14 hk, q_gR15 hk, q_gR16 hk, q_gI hk, q_pI hk, q_a hk, q_w hk, q_l hk, nW_add, nW_mul, nW_sub, nW_le, nW_lt, nW_inj, irem_nW, ix_nW, nW_lit, c15, n1, ↓reduceIte, Option.bind_some]
    · have hil : i < (gRe σ).1 := by omega
      have n1 : ¬ (gRe σ).1 ≤ i := by omega
      obtain ⟨o1, o2, m, m1, m2⟩ := hS.2.2.2.2.1 i hil
      obtain ⟨x1, x2, x3⟩ := hR.2.2.1.2 i hil
      have su : R_su s t c (cL (gCl σ c) 3) := (RSt_get hR hc).2.2.2.2.2.2.1
      rw [hcl] at su
      obtain ⟨y1, y2, y3, y4, y5⟩ := su j hj
      have hT : TB ((vB V 9 0 (fun x => t (1224 + 4 * i + x))).2.1 9) 0 ((gRe σ).2 i).1 := by
        rw [vB_1]; exact TB.blk x3
      have mt : f_X12_matches 908 (nW (24 + 4 * (6 * c + j))) (nW (u.2 j).1.length) (QW N (vB V 9 0 (fun x => t (1224 + 4 * i + x))) s t) = some (zI (spMatch (u.2 j).1 ((gRe σ).2 i).1), QW N (vB V 9 0 (fun x => t (1224 + 4 * i + x))) s t) := ref_matches (V := VS (vB V 9 0 (fun x => t (1224 + 4 * i + x))) s t) hk (by omega) y5 (by rw [VS_Lo _ _ _ (by omega)]; exact hT) ht o1 o2
      obtain ⟨q1, q2, q3⟩ := gr_step (t := (u.2 j).1) hS hc hil hg (by rw [hcl]; omega)
      rw [show (gRe σ).1 - i = ((gRe σ).1 - (i + 1)) + 1 by omega, spGR]
      cases hb : spMatch (u.2 j).1 ((gRe σ).2 i).1 with
      | false =>
        rw [hb, zI_f] at mt
        have hne : ¬ spMatch (u.2 j).1 ((gRe σ).2 i).1 = true := by rw [hb]; decide
        obtain ⟨V', s', t', e, W, R⟩ := ref_givesRetained_L2 hk hc hj hu ht hg n (i + 1) (vB V 9 0 (fun x => t (1224 + 4 * i + x))) s t σ (by omega) (by omega) hR hS hcl
        refine ⟨V', s', t', ?_, (VE_9 V 0 _).trans W, R⟩
        simp (disch := omega) only [f_X12_givesRetained_L2, q_k hk, q_gR1 hk, q_gR2 hk, q_gR8 hk, q_gR11 hk, q_gR13 hk, q_gR14 hk, q_gR15 hk, q_gR16 hk, q_gI hk, q_pI hk, q_a hk, q_w hk, q_l hk, nW_add, nW_mul, nW_sub, nW_le, nW_lt, nW_inj, irem_nW, ix_nW, nW_lit, c15, n1, ↓reduceIte, Option.bind_some, q_mv29 hk, y4, mt, bindP, e]
      | true =>
        have t1 : ¬ nW 1 = nW 0 := by decide
        rw [hb, zI_t] at mt
        rw [if_pos hb] at q1 q2 q3
        have hgi : ∃ k, k ≤ 2 ∧ iminE (((gRe σ).2 i).2 1) ((u.2 j).2 2) = nW k := by
          obtain ⟨k, k1, k2⟩ := hg
          rw [m2, k2]; exact imin_nW m1 k1
        obtain ⟨s1, t1', e1, R1⟩ := ref_gives_S (N := N) (V := vB V 9 0 (fun x => t (1224 + 4 * i + x))) (iminE (((gRe σ).2 i).2 1) ((u.2 j).2 2)) (((gRe σ).2 i).2 2) (nW 1) (nW 2) hk hc hR hS hgi (by decide) hT
        obtain ⟨V', s', t', e, W, R⟩ := ref_givesRetained_L2 hk hc hj hu ht hg n (i + 1) (vB V 9 0 (fun x => t (1224 + 4 * i + x))) s1 t1' _ (by rw [q3]; omega) (by rw [q3]; omega) R1 q1 (q2.trans hcl)
        rw [q3] at R
        refine ⟨V', s', t', ?_, (VE_9 V 0 _).trans W, R⟩
        simp (disch := omega) only [f_X12_givesRetained_L2, q_k hk, q_gR1 hk, q_gR2 hk, q_gR8 hk, q_gR11 hk, q_gR13 hk, q_gR14 hk, q_gR15 hk, q_gR16 hk, q_gI hk, q_pI hk, q_a hk, q_w hk, q_l hk, nW_add, nW_mul, nW_sub, nW_le, nW_lt, nW_inj, irem_nW, ix_nW, nW_lit, c15, n1, t1, ↓reduceIte, Option.bind_some, q_mv29 hk, y4, mt, bindP, x1, x2, y1, ref_lesser, e1, e]
theorem ref_givesRetained {N : Mem} {V : VR} {s : Nat → Int32} {t : Nat → Int64} {σ : Sg} {c j : Nat} (hk : KR N) (hc : c < 6) (hj : j < (cL (gCl σ c) 3).1) (hR : RSt s t σ) (hS : SI σ) : ∃ V' s' t', f_X12_givesRetained 908 (nW c) (nW (6 * c + j)) (QW N V s t) = some (QW N V' s' t') ∧ VE V V' ∧ RSt s' t' (spGR c ((cL (gCl σ c) 3).2 j).1 (((cL (gCl σ c) 3).2 j).2 2) (gRe σ).1 0 σ) := by
  have l8 : (gRe σ).1 ≤ 8 := hR.2.2.2.2.2.1
  have l6 : (cL (gCl σ c) 3).1 ≤ 6 := (hS.1.2 c hc).2.1.2.2.2
  obtain ⟨o1, _, o2, _⟩ := (hS.2.1 c hc).1 j hj
  obtain ⟨V', s', t', e, W, R⟩ := ref_givesRetained_L2 (N := N) hk hc hj l6 o1 o2 FU 0 V s t σ (Nat.zero_le _) (by simp only [FU]; omega) hR hS rfl
  exact ⟨V', s', t', by simp only [f_X12_givesRetained, q_k hk, ↓reduceIte, nW_lit, e], W, R⟩
