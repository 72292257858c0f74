/-! A CLIENT CONNECTS, in the reference (behind a takeover) -/
theorem ref_conn_L136 {N : Mem} {V : VR} (b : Bool) (hk : KR N) {c : Nat} (hc : c < 6) (h0 : TB (V.2.1 10) 0 []) : ∀ n i s t g, i ≤ (cL g.2 1).1 → (cL g.2 1).1 - i < n → RG s t c g → GI g → cB g.2 0 = true → ∃ s' t', f_X12_connect_L136 n 908 (nW c) (zI b) (nW i) (QW N V s t) = some (zI b, QW N V s' t') ∧ RG s' t' c (spPend 8 (spResN ((cL g.2 1).1 - i) i g)) ∧ FT c s s' ∧ Ft c t t'
  | 0, i, s, t, g, _, hn, _, _, _ => absurd hn (by omega)
  | n + 1, i, s, t, g, hi, hn, h, hG, hon => by
    have l2 := h.2.1.2.1
    have a4 := h.2.2.1.2.2.2.1
    by_cases he : i = (cL g.2 1).1
    · have n1 : (cL g.2 1).1 ≤ i := by omega
      obtain ⟨s1, t1, e1, G1, F1, Ft1⟩ := ref_pend (N := N) (V := V) hk hc h hG
      refine ⟨s1, t1, ?_, by rw [he, Nat.sub_self]; exact G1, F1, Ft1⟩
      cases b with
      | false => simp (disch := omega) only [f_X12_connect_L136, q_k hk, q_gR1 hk, q_gR2 hk, q_gR8 hk, q_gR11 hk, q_gR13 hk, q_gR14 hk, q_gR15 hk, q_gR16 hk, q_gI hk, q_pI hk, q_a hk, q_w hk, q_l hk, nW_add, nW_mul, nW_sub, nW_le, nW_lt, nW_inj, irem_nW, ix_nW, nW_lit, a4, n1, ↓reduceIte, Option.bind_some, e1, zI_f]
      | true =>
        have t1 : ¬ nW 1 = nW 0 := by decide
        simp (disch := omega) only [f_X12_connect_L136, q_k hk, q_gR1 hk, q_gR2 hk, q_gR8 hk, q_gR11 hk, q_gR13 hk, q_gR14 hk, q_gR15 hk, q_gR16 hk, q_gI hk, q_pI hk, q_a hk, q_w hk, q_l hk, nW_add, nW_mul, nW_sub, nW_le, nW_lt, nW_inj, irem_nW, ix_nW, nW_lit, a4, n1, ↓reduceIte, Option.bind_some, e1, zI_t, t1]
    · have n1 : ¬ (cL g.2 1).1 ≤ i := by omega
      have sn := spResend_n g i
      obtain ⟨s1, t1, e1, G1, F1, Ft1⟩ := ref_resend (N := N) (V := V) (k := i) hk hc h (by omega) h0
      obtain ⟨s2, t2, e2, G2, F2, Ft2⟩ := ref_conn_L136 (N := N) (V := V) b hk hc h0 n (i + 1) s1 t1 (spResend g i) (by omega) (by omega) G1 (GI_resend hG hon (by omega)) (by rw [spResend_B]; exact hon)
      rw [sn] at G2
      refine ⟨s2, t2, ?_, by rw [show (cL g.2 1).1 - i = ((cL g.2 1).1 - (i + 1)) + 1 by omega, spResN]; exact G2, F1.trans F2, Ft1.trans Ft2⟩
      simp (disch := omega) only [f_X12_connect_L136, q_k hk, q_gR1 hk, q_gR2 hk, q_gR8 hk, q_gR11 hk, q_gR13 hk, q_gR14 hk, q_gR15 hk, q_gR16 hk, q_gI hk, q_pI hk, q_a hk, q_w hk, q_l hk, nW_add, nW_mul, nW_sub, nW_le, nW_lt, nW_inj, irem_nW, ix_nW, nW_lit, a4, n1, ↓reduceIte, Option.bind_some, e1, e2]
theorem cnRes_new (sc : Nat → Int32) (x : Cl) (clean : Bool) : cnRes (sc, cnNew x clean) = (sc, cnNew x clean) := by
  have z1 : (cL (cnNew x clean) 1).1 = 0 := by simp (disch := omega) only [cnNew, spClear, uB_B, uB_I, uB_F, uB_W, uB_K, uB_N, uB_L, uI_B, uI_I, uI_F, uI_W, uI_K, uI_N, uI_L, uF_B, uF_I, uF_F, uF_W, uF_K, uF_N, uF_L, uW_B, uW_I, uW_F, uW_W, uW_K, uW_N, uW_L, uK_B, uK_I, uK_F, uK_W, uK_K, uK_N, uK_L, uN_B, uN_I, uN_F, uN_W, uN_K, uN_N, uN_L, uL_B, uL_I, uL_F, uL_W, uL_K, uL_N, uL_L, fset_ne, fset_eq]
  have z2 : (cL (cnNew x clean) 2).1 = 0 := by simp (disch := omega) only [cnNew, spClear, uB_B, uB_I, uB_F, uB_W, uB_K, uB_N, uB_L, uI_B, uI_I, uI_F, uI_W, uI_K, uI_N, uI_L, uF_B, uF_I, uF_F, uF_W, uF_K, uF_N, uF_L, uW_B, uW_I, uW_F, uW_W, uW_K, uW_N, uW_L, uK_B, uK_I, uK_F, uK_W, uK_K, uK_N, uK_L, uN_B, uN_I, uN_F, uN_W, uN_K, uN_N, uN_L, uL_B, uL_I, uL_F, uL_W, uL_K, uL_N, uL_L, fset_ne, fset_eq]
  unfold cnRes
  show spPend 8 (spResN (cL (cnNew x clean) 1).1 0 (sc, cnNew x clean)) = _
  rw [z1, spResN, spPend, if_neg (fun h => absurd h.1 (by show ¬ 0 < (cL (cnNew x clean) 2).1; omega))]
theorem cnNew_clear (x : Cl) (clean : Bool) : cnNew (spClear x) clean = cnNew x clean := by
  have : ∀ (f : Nat → Bool), fset (fset (fset (fset (fset f 3 false) 4 false) 0 true) 3 false) 4 false = fset (fset (fset f 0 true) 3 false) 4 false := by
    intro f; funext i
    simp only [fset]
    split
    · rfl
    · split
      · rfl
      · split
        · rfl
        · rfl
  have h3 : ∀ (f : Nat → Ls Row), fset (fset (fset (fset (fset (fset f 1 (0, (f 1).2)) 2 (0, (f 2).2)) 3 (0, (f 3).2)) 1 (0, (f 1).2)) 2 (0, (f 2).2)) 3 (0, (f 3).2) = fset (fset (fset f 1 (0, (f 1).2)) 2 (0, (f 2).2)) 3 (0, (f 3).2) := by
    intro f; funext i
    simp only [fset]
    split
    · rfl
    · split
      · rfl
      · split
        · rfl
        · rfl
  simp (disch := omega) only [cnNew, spClear, uB, uI, uK, uN, uL, cL, fset_fset, fset_eq, fset_ne]
  rw [this, h3]
/-- behind the test: the writes and the loop -/
theorem ref_conn_J95 {N : Mem} {V : VR} {s : Nat → Int32} {t : Nat → Int64} {σ : Sg} {c : Nat} {y : Cl} (b clean : Bool) (hk : KR N) (hc : c < 6) (h0 : TB (V.2.1 10) 0 []) (hR : RSt (fset (fset (fset s (26 + c) (zI clean)) (32 + c) (nW 1)) (68 + c) (nW 0)) t (putG σ c (gSc σ, y))) (hG : GI (gSc σ, y)) (hon : cB y 0 = true) : ∃ s' t', f_X12_connect_J95 908 (nW c) (zI clean) (zI b) (QW N V s t) = some (zI b, QW N V s' t') ∧ RSt s' t' (putG σ c (cnRes (gSc σ, y))) := by
  have hg := RSt_get hR hc
  rw [getG_putG] at hg
  obtain ⟨s', t', e, G, F, Ft'⟩ := ref_conn_L136 (N := N) (V := V) b hk hc h0 FU 0 _ t (gSc σ, y) (Nat.zero_le _) (by have h5 : (cL y 1).1 ≤ 5 := hG.2.1.2.1; show (cL y 1).1 - 0 < FU; simp only [FU]; omega) hg hG hon
  have H := RSt_put hR G F Ft' hc
  rw [putG_putG] at H
  refine ⟨s', t', ?_, H⟩
  cases clean with
  | false =>
    rw [zI_f] at e ⊢
    simp (disch := omega) only [f_X12_connect_J95, f_X12_connect_J112, q_k hk, q_gR1 hk, q_gR2 hk, q_gR8 hk, q_gR11 hk, q_gR13 hk, q_gR14 hk, q_gR15 hk, q_gR16 hk, q_gI hk, q_pI hk, q_a hk, q_w hk, q_l hk, nW_add, nW_mul, nW_sub, nW_le, nW_lt, nW_inj, irem_nW, ix_nW, nW_lit, ↓reduceIte, Option.bind_some, e]
  | true =>
    have n1 : ¬ nW 1 = nW 0 := by decide
    rw [zI_t] at e ⊢
    simp (disch := omega) only [f_X12_connect_J95, f_X12_connect_J112, q_k hk, q_gR1 hk, q_gR2 hk, q_gR8 hk, q_gR11 hk, q_gR13 hk, q_gR14 hk, q_gR15 hk, q_gR16 hk, q_gI hk, q_pI hk, q_a hk, q_w hk, q_l hk, nW_add, nW_mul, nW_sub, nW_le, nW_lt, nW_inj, irem_nW, ix_nW, nW_lit, n1, ↓reduceIte, Option.bind_some, e]
theorem ref_connect {N : Mem} {V : VR} {s : Nat → Int32} {t : Nat → Int64} {σ : Sg} {c : Nat} (clean : Bool) (hk : KR N) (hR : RSt s t σ) (hS : SI σ) (hP : Pe σ) (hc : c < 6) (hon : cB (gCl σ c) 0 = false) (h0 : TB (V.2.1 10) 0 []) : ∃ s' t', f_X12_connect_J43 908 (nW c) (zI clean) (QW N V s t) = some (zI (spConn σ c clean).1, QW N V s' t') ∧ RSt s' t' (spConn σ c clean).2 := by
  have n1 : ¬ nW 1 = nW 0 := by decide
  have n2 : ¬ nW 0 = nW 1 := by decide
  have has : s (20 + c) = zI (cB (gCl σ c) 3) := (RSt_get hR hc).2.2.1.1
  -- a new session
  have fresh : ∃ s' t', f_X12_connect_J64 908 (nW c) (zI clean) (QW N V s t) = some (nW 0, QW N V s' t') ∧ RSt s' t' (putG (spRemove σ c) c (gSc σ, cnNew (gCl σ c) clean)) := by
    obtain ⟨s1, t1, e1, R1⟩ := ref_removes (N := N) (V := V) hk hc hR hS.2.2.1 (hS.2.1 c hc).1 (hS.2.1 c hc).2 (hS.2.2.2.1 c hc).1
    have ecl : gCl (spRemove σ c) c = spClear (gCl σ c) := fset_eq _ _ _
    have hg := RSt_get R1 hc
    have hG := GI_new (hS.1.2 c hc) hon clean
    have H : RSt (fset (fset (fset (fset (fset s1 (20 + c) (nW 1)) (44 + c) (nW 1)) (26 + c) (zI clean)) (32 + c) (nW 1)) (68 + c) (nW 0)) t1 (putG (spRemove σ c) c (gSc σ, cnNew (gCl σ c) clean)) := by
      refine RSt_put R1 ?_ (fun i h1 h2 => by unfold cs at h2; simp (disch := omega) only [fset_ne]) (fun _ _ => rfl) hc
      obtain ⟨hsc, hcl⟩ := hg
      have hcl' : R_cl s1 t1 c (spClear (gCl σ c)) := by rw [← ecl]; exact hcl
      obtain ⟨⟨l1, l2, l3, l4⟩, ⟨a1, a2, a3, a4, a5, a6, a7, a8⟩, b, w, kk, u, f, p, q⟩ := hcl'
      unfold R_wi at w
      unfold R_ke at kk
      simp (disch := omega) only [spClear, uB_B, uB_I, uB_F, uB_W, uB_K, uB_N, uB_L, uI_B, uI_I, uI_F, uI_W, uI_K, uI_N, uI_L, uF_B, uF_I, uF_F, uF_W, uF_K, uF_N, uF_L, uW_B, uW_I, uW_F, uW_W, uW_K, uW_N, uW_L, uK_B, uK_I, uK_F, uK_W, uK_K, uK_N, uK_L, uN_B, uN_I, uN_F, uN_W, uN_K, uN_N, uN_L, uL_B, uL_I, uL_F, uL_W, uL_K, uL_N, uL_L, fset_ne, fset_eq] at l1 a3 a4 a5 a6 a7 a8 w kk
      have q0 : (cL (gCl σ c) 0).1 = 0 := (hS.1.2 c hc).2.2.2.2.2.2.2.2.1 hon
      refine ⟨hsc.fr (fun i hi => by simp (disch := omega) only [fset_ne]), ⟨?_, ?_, ?_, ?_⟩, ?_, ?_, ?_, ?_, ?_, ?_, ?_, ?_⟩
      · simp (disch := omega) only [cnNew, spClear, uB_B, uB_I, uB_F, uB_W, uB_K, uB_N, uB_L, uI_B, uI_I, uI_F, uI_W, uI_K, uI_N, uI_L, uF_B, uF_I, uF_F, uF_W, uF_K, uF_N, uF_L, uW_B, uW_I, uW_F, uW_W, uW_K, uW_N, uW_L, uK_B, uK_I, uK_F, uK_W, uK_K, uK_N, uK_L, uN_B, uN_I, uN_F, uN_W, uN_K, uN_N, uN_L, uL_B, uL_I, uL_F, uL_W, uL_K, uL_N, uL_L, fset_ne]; omega
      · simp (disch := omega) only [cnNew, spClear, uB_B, uB_I, uB_F, uB_W, uB_K, uB_N, uB_L, uI_B, uI_I, uI_F, uI_W, uI_K, uI_N, uI_L, uF_B, uF_I, uF_F, uF_W, uF_K, uF_N, uF_L, uW_B, uW_I, uW_F, uW_W, uW_K, uW_N, uW_L, uK_B, uK_I, uK_F, uK_W, uK_K, uK_N, uK_L, uN_B, uN_I, uN_F, uN_W, uN_K, uN_N, uN_L, uL_B, uL_I, uL_F, uL_W, uL_K, uL_N, uL_L, fset_ne, fset_eq]; omega
      · simp (disch := omega) only [cnNew, spClear, uB_B, uB_I, uB_F, uB_W, uB_K, uB_N, uB_L, uI_B, uI_I, uI_F, uI_W, uI_K, uI_N, uI_L, uF_B, uF_I, uF_F, uF_W, uF_K, uF_N, uF_L, uW_B, uW_I, uW_F, uW_W, uW_K, uW_N, uW_L, uK_B, uK_I, uK_F, uK_W, uK_K, uK_N, uK_L, uN_B, uN_I, uN_F, uN_W, uN_K, uN_N, uN_L, uL_B, uL_I, uL_F, uL_W, uL_K, uL_N, uL_L, fset_ne, fset_eq]; omega
      · simp (disch := omega) only [cnNew, spClear, uB_B, uB_I, uB_F, uB_W, uB_K, uB_N, uB_L, uI_B, uI_I, uI_F, uI_W, uI_K, uI_N, uI_L, uF_B, uF_I, uF_F, uF_W, uF_K, uF_N, uF_L, uW_B, uW_I, uW_F, uW_W, uW_K, uW_N, uW_L, uK_B, uK_I, uK_F, uK_W, uK_K, uK_N, uK_L, uN_B, uN_I, uN_F, uN_W, uN_K, uN_N, uN_L, uL_B, uL_I, uL_F, uL_W, uL_K, uL_N, uL_L, fset_eq]; omega
      · unfold R_c1
        simp (disch := omega) only [cnNew, spClear, uB_B, uB_I, uB_F, uB_W, uB_K, uB_N, uB_L, uI_B, uI_I, uI_F, uI_W, uI_K, uI_N, uI_L, uF_B, uF_I, uF_F, uF_W, uF_K, uF_N, uF_L, uW_B, uW_I, uW_F, uW_W, uW_K, uW_N, uW_L, uK_B, uK_I, uK_F, uK_W, uK_K, uK_N, uK_L, uN_B, uN_I, uN_F, uN_W, uN_K, uN_N, uN_L, uL_B, uL_I, uL_F, uL_W, uL_K, uL_N, uL_L, fset_ne, fset_eq, zI_t]
        exact ⟨trivial, trivial, a3, a4, a5, by rw [q0], a7, a8⟩
      · intro _
        simp (disch := omega) only [cnNew, spClear, uB_B, uB_I, uB_F, uB_W, uB_K, uB_N, uB_L, uI_B, uI_I, uI_F, uI_W, uI_K, uI_N, uI_L, uF_B, uF_I, uF_F, uF_W, uF_K, uF_N, uF_L, uW_B, uW_I, uW_F, uW_W, uW_K, uW_N, uW_L, uK_B, uK_I, uK_F, uK_W, uK_K, uK_N, uK_L, uN_B, uN_I, uN_F, uN_W, uN_K, uN_N, uN_L, uL_B, uL_I, uL_F, uL_W, uL_K, uL_N, uL_L, fset_ne, fset_eq]
        exact ⟨trivial, trivial, fun e => absurd e (by decide)⟩
      · unfold R_wi
        simp (disch := omega) only [cnNew, spClear, uB_B, uB_I, uB_F, uB_W, uB_K, uB_N, uB_L, uI_B, uI_I, uI_F, uI_W, uI_K, uI_N, uI_L, uF_B, uF_I, uF_F, uF_W, uF_K, uF_N, uF_L, uW_B, uW_I, uW_F, uW_W, uW_K, uW_N, uW_L, uK_B, uK_I, uK_F, uK_W, uK_K, uK_N, uK_L, uN_B, uN_I, uN_F, uN_W, uN_K, uN_N, uN_L, uL_B, uL_I, uL_F, uL_W, uL_K, uL_N, uL_L, fset_ne]; exact w
      · intro i h1 h2
        simp (disch := omega) only [cnNew, spClear, uB_B, uB_I, uB_F, uB_W, uB_K, uB_N, uB_L, uI_B, uI_I, uI_F, uI_W, uI_K, uI_N, uI_L, uF_B, uF_I, uF_F, uF_W, uF_K, uF_N, uF_L, uW_B, uW_I, uW_F, uW_W, uW_K, uW_N, uW_L, uK_B, uK_I, uK_F, uK_W, uK_K, uK_N, uK_L, uN_B, uN_I, uN_F, uN_W, uN_K, uN_N, uN_L, uL_B, uL_I, uL_F, uL_W, uL_K, uL_N, uL_L, fset_ne]
        exact kk i h1 h2
      · intro j hj; simp (disch := omega) only [cnNew, spClear, uB_B, uB_I, uB_F, uB_W, uB_K, uB_N, uB_L, uI_B, uI_I, uI_F, uI_W, uI_K, uI_N, uI_L, uF_B, uF_I, uF_F, uF_W, uF_K, uF_N, uF_L, uW_B, uW_I, uW_F, uW_W, uW_K, uW_N, uW_L, uK_B, uK_I, uK_F, uK_W, uK_K, uK_N, uK_L, uN_B, uN_I, uN_F, uN_W, uN_K, uN_N, uN_L, uL_B, uL_I, uL_F, uL_W, uL_K, uL_N, uL_L, fset_eq] at hj; exact absurd hj (Nat.not_lt_zero j)
      · intro j hj; simp (disch := omega) only [cnNew, spClear, uB_B, uB_I, uB_F, uB_W, uB_K, uB_N, uB_L, uI_B, uI_I, uI_F, uI_W, uI_K, uI_N, uI_L, uF_B, uF_I, uF_F, uF_W, uF_K, uF_N, uF_L, uW_B, uW_I, uW_F, uW_W, uW_K, uW_N, uW_L, uK_B, uK_I, uK_F, uK_W, uK_K, uK_N, uK_L, uN_B, uN_I, uN_F, uN_W, uN_K, uN_N, uN_L, uL_B, uL_I, uL_F, uL_W, uL_K, uL_N, uL_L, fset_ne, fset_eq] at hj; exact absurd hj (Nat.not_lt_zero j)
      · intro j hj; simp (disch := omega) only [cnNew, spClear, uB_B, uB_I, uB_F, uB_W, uB_K, uB_N, uB_L, uI_B, uI_I, uI_F, uI_W, uI_K, uI_N, uI_L, uF_B, uF_I, uF_F, uF_W, uF_K, uF_N, uF_L, uW_B, uW_I, uW_F, uW_W, uW_K, uW_N, uW_L, uK_B, uK_I, uK_F, uK_W, uK_K, uK_N, uK_L, uN_B, uN_I, uN_F, uN_W, uN_K, uN_N, uN_L, uL_B, uL_I, uL_F, uL_W, uL_K, uL_N, uL_L, fset_ne, fset_eq] at hj; exact absurd hj (Nat.not_lt_zero j)
      · intro j hj; simp (disch := omega) only [cnNew, spClear, uB_B, uB_I, uB_F, uB_W, uB_K, uB_N, uB_L, uI_B, uI_I, uI_F, uI_W, uI_K, uI_N, uI_L, uF_B, uF_I, uF_F, uF_W, uF_K, uF_N, uF_L, uW_B, uW_I, uW_F, uW_W, uW_K, uW_N, uW_L, uK_B, uK_I, uK_F, uK_W, uK_K, uK_N, uK_L, uN_B, uN_I, uN_F, uN_W, uN_K, uN_N, uN_L, uL_B, uL_I, uL_F, uL_W, uL_K, uL_N, uL_L, fset_ne] at hj; omega
    obtain ⟨s', t', e, R⟩ := ref_conn_J95 (N := N) (V := V) (σ := spRemove σ c) (s := fset (fset s1 (20 + c) (nW 1)) (44 + c) (nW 1)) false clean hk hc h0 H hG (by simp (disch := omega) only [cnNew, spClear, uB_B, uB_I, uB_F, uB_W, uB_K, uB_N, uB_L, uI_B, uI_I, uI_F, uI_W, uI_K, uI_N, uI_L, uF_B, uF_I, uF_F, uF_W, uF_K, uF_N, uF_L, uW_B, uW_I, uW_F, uW_W, uW_K, uW_N, uW_L, uK_B, uK_I, uK_F, uK_W, uK_K, uK_N, uK_L, uN_B, uN_I, uN_F, uN_W, uN_K, uN_N, uN_L, uL_B, uL_I, uL_F, uL_W, uL_K, uL_N, uL_L, fset_ne, fset_eq])
    refine ⟨s', t', ?_, by rw [show gSc (spRemove σ c) = gSc σ from rfl, cnRes_new] at R; exact R⟩
    rw [zI_f] at e
    simp (disch := omega) only [f_X12_connect_J64, f_X12_connect_J65, q_k hk, q_gR1 hk, q_gR2 hk, q_gR8 hk, q_gR11 hk, q_gR13 hk, q_gR14 hk, q_gR15 hk, q_gR16 hk, q_gI hk, q_pI hk, q_a hk, q_w hk, q_l hk, nW_add, nW_mul, nW_sub, nW_le, nW_lt, nW_inj, irem_nW, ix_nW, nW_lit, ↓reduceIte, Option.bind_some, e1, e]
  -- where the session is not taken up
  have nores : cB (gCl (cnPre σ c clean) c) 3 = false → (∃ s' t', f_X12_connect_J64 908 (nW c) (zI clean) (QW N V s t) = some (nW 0, QW N V s' t') ∧ RSt s' t' (spConn σ c clean).2) ∧ (spConn σ c clean).1 = false := by
    intro hf
    have e : spConn σ c clean = (false, putG (cnPre σ c clean) c (gSc (cnPre σ c clean), cnNew (gCl (cnPre σ c clean) c) clean)) := by
      unfold spConn; rw [if_neg (by rw [hf]; decide)]
    obtain ⟨s', t', e1, R1⟩ := fresh
    rw [e]
    refine ⟨⟨s', t', e1, ?_⟩, rfl⟩
    show RSt s' t' (putG (cnPre σ c clean) c (gSc (cnPre σ c clean), cnNew (gCl (cnPre σ c clean) c) clean))
    unfold cnPre at hf ⊢
    split
    · have ecl : gCl (spRemove σ c) c = spClear (gCl σ c) := fset_eq _ _ _
      rw [ecl, cnNew_clear]; exact R1
    · rename_i hne
      rw [if_neg hne] at hf
      have z3 := ((hS.1.2 c hc).2.2.2.2.2.2.2.2.2 hf).2.2.1
      have hs0 : shGone (gSh σ) c = gSh σ := shGone_end hS.2.2.1.1 (hS.2.2.2.1 c hc).1 z3
      have : putG (spRemove σ c) c (gSc σ, cnNew (gCl σ c) clean) = putG σ c (gSc σ, cnNew (gCl σ c) clean) := by
        unfold spRemove
        rw [hs0]
        show (gSc σ, fset (fset (gCl σ) c (spClear (gCl σ c))) c (cnNew (gCl σ c) clean), σ.2.2) = (gSc σ, fset (gCl σ) c (cnNew (gCl σ c) clean), σ.2.2)
        rw [fset_fset]
      rw [this] at R1; exact R1
  cases hex : cB (gCl σ c) 3 with
  | false =>
    have ep : cnPre σ c clean = σ := by unfold cnPre; rw [if_neg (fun h => absurd (hex.symm.trans h.2) (by decide))]
    obtain ⟨⟨s', t', e1, R1⟩, e2⟩ := nores (by rw [ep]; exact hex)
    rw [hex, zI_f] at has
    refine ⟨s', t', ?_, R1⟩
    rw [e2, zI_f]
    simp (disch := omega) only [f_X12_connect_J43, q_k hk, q_gR1 hk, q_gR2 hk, q_gR8 hk, q_gR11 hk, q_gR13 hk, q_gR14 hk, q_gR15 hk, q_gR16 hk, q_gI hk, q_pI hk, q_a hk, q_w hk, q_l hk, nW_add, nW_mul, nW_sub, nW_le, nW_lt, nW_inj, irem_nW, ix_nW, nW_lit, has, n2, ↓reduceIte, Option.bind_some, e1]
  | true =>
    rw [hex, zI_t] at has
    cases clean with
    | true =>
      have ep : cnPre σ c true = spRemove σ c := by unfold cnPre; rw [if_pos ⟨rfl, hex⟩]
      have ecl : gCl (spRemove σ c) c = spClear (gCl σ c) := fset_eq _ _ _
      obtain ⟨⟨s', t', e1, R1⟩, e2⟩ := nores (by rw [ep, ecl]; simp (disch := omega) only [spClear, uB_B, uB_I, uB_F, uB_W, uB_K, uB_N, uB_L, uI_B, uI_I, uI_F, uI_W, uI_K, uI_N, uI_L, uF_B, uF_I, uF_F, uF_W, uF_K, uF_N, uF_L, uW_B, uW_I, uW_F, uW_W, uW_K, uW_N, uW_L, uK_B, uK_I, uK_F, uK_W, uK_K, uK_N, uK_L, uN_B, uN_I, uN_F, uN_W, uN_K, uN_N, uN_L, uL_B, uL_I, uL_F, uL_W, uL_K, uL_N, uL_L, fset_ne, fset_eq])
      refine ⟨s', t', ?_, R1⟩
      rw [e2, zI_f]
      rw [zI_t] at e1 ⊢
      simp (disch := omega) only [f_X12_connect_J43, q_k hk, q_gR1 hk, q_gR2 hk, q_gR8 hk, q_gR11 hk, q_gR13 hk, q_gR14 hk, q_gR15 hk, q_gR16 hk, q_gI hk, q_pI hk, q_a hk, q_w hk, q_l hk, nW_add, nW_mul, nW_sub, nW_le, nW_lt, nW_inj, irem_nW, ix_nW, nW_lit, has, n1, ↓reduceIte, Option.bind_some, e1]
    | false =>
      have ep : cnPre σ c false = σ := by unfold cnPre; rw [if_neg (fun h => absurd h.1 (by decide))]
      have es : spConn σ c false = (true, putG σ c (cnRes (gSc σ, uB (gCl σ c) 0 true))) := by
        unfold spConn; rw [ep, if_pos hex]
      have hp := hP c hc hex hon
      have H : RSt (fset (fset (fset s (26 + c) (zI false)) (32 + c) (nW 1)) (68 + c) (nW 0)) t (putG σ c (gSc σ, uB (gCl σ c) 0 true)) := by
        refine RSt_put hR ?_ (fun i h1 h2 => by unfold cs at h2; simp (disch := omega) only [fset_ne]) (fun _ _ => rfl) hc
        obtain ⟨hsc, ⟨l1, l2, l3, l4⟩, ⟨a1, a2, a3, a4, a5, a6, a7, a8⟩, b, w, kk, u, f, p, q⟩ := RSt_get hR hc
        have q0 : (cL (gCl σ c) 0).1 = 0 := (hS.1.2 c hc).2.2.2.2.2.2.2.2.1 hon
        refine ⟨hsc.fr (fun i hi => by simp (disch := omega) only [fset_ne]), ⟨l1, l2, l3, l4⟩, ?_, ?_, ?_, kk.fr hc (fun i h1 h2 => by simp (disch := omega) only [fset_ne]), u.fr hc l4 (fun i h1 h2 => by simp (disch := omega) only [fset_ne]) (fun _ _ _ => rfl), f.fr hc l2 (fun i h1 h2 => by simp (disch := omega) only [fset_ne]) (fun _ _ _ => rfl), p.fr hc l3 (fun i h1 h2 => by simp (disch := omega) only [fset_ne]) (fun _ _ _ => rfl), ?_⟩
        · unfold R_c1
          simp (disch := omega) only [uB_B, uB_I, uB_F, uB_W, uB_K, uB_N, uB_L, uI_B, uI_I, uI_F, uI_W, uI_K, uI_N, uI_L, uF_B, uF_I, uF_F, uF_W, uF_K, uF_N, uF_L, uW_B, uW_I, uW_F, uW_W, uW_K, uW_N, uW_L, uK_B, uK_I, uK_F, uK_W, uK_K, uK_N, uK_L, uN_B, uN_I, uN_F, uN_W, uN_K, uN_N, uN_L, uL_B, uL_I, uL_F, uL_W, uL_K, uL_N, uL_L, fset_ne, fset_eq, zI_t]
          exact ⟨a1, trivial, a3, a4, a5, by rw [show (cL (gCl σ c) 0).1 = 0 from q0], a7, a8⟩
        · intro _
          obtain ⟨b1, b2, b3⟩ := b hex
          simp (disch := omega) only [uB_B, uB_I, uB_F, uB_W, uB_K, uB_N, uB_L, uI_B, uI_I, uI_F, uI_W, uI_K, uI_N, uI_L, uF_B, uF_I, uF_F, uF_W, uF_K, uF_N, uF_L, uW_B, uW_I, uW_F, uW_W, uW_K, uW_N, uW_L, uK_B, uK_I, uK_F, uK_W, uK_K, uK_N, uK_L, uN_B, uN_I, uN_F, uN_W, uN_K, uN_N, uN_L, uL_B, uL_I, uL_F, uL_W, uL_K, uL_N, uL_L, fset_ne, fset_eq]
          exact ⟨by rw [hp], b2, fun e => absurd e (by decide)⟩
        · unfold R_wi at w ⊢
          simp (disch := omega) only [uB_B, uB_I, uB_F, uB_W, uB_K, uB_N, uB_L, uI_B, uI_I, uI_F, uI_W, uI_K, uI_N, uI_L, uF_B, uF_I, uF_F, uF_W, uF_K, uF_N, uF_L, uW_B, uW_I, uW_F, uW_W, uW_K, uW_N, uW_L, uK_B, uK_I, uK_F, uK_W, uK_K, uK_N, uK_L, uN_B, uN_I, uN_F, uN_W, uN_K, uN_N, uN_L, uL_B, uL_I, uL_F, uL_W, uL_K, uL_N, uL_L, fset_ne]; exact w
        · intro j hj; have hj' : j < (cL (gCl σ c) 0).1 := hj; omega
      obtain ⟨s', t', e, R⟩ := ref_conn_J95 (N := N) (V := V) true false hk hc h0 H (GI_on (hS.1.2 c hc) hex) (show fset (cB (gCl σ c)) 0 true 0 = true from fset_eq _ _ _)
      refine ⟨s', t', ?_, by rw [es]; exact R⟩
      rw [es, zI_t]
      rw [zI_t, zI_f] at e
      simp (disch := omega) only [f_X12_connect_J43, f_X12_connect_J65, q_k hk, q_gR1 hk, q_gR2 hk, q_gR8 hk, q_gR11 hk, q_gR13 hk, q_gR14 hk, q_gR15 hk, q_gR16 hk, q_gI hk, q_pI hk, q_a hk, q_w hk, q_l hk, nW_add, nW_mul, nW_sub, nW_le, nW_lt, nW_inj, irem_nW, ix_nW, nW_lit, has, n1, zI_f, ↓reduceIte, Option.bind_some, e]
