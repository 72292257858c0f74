/-! NETWORK QUEUES: receive, lose, repeat -/
def spTake (x : Cl) : Cl := uL x 0 (ldel (cL x 0) 0)
theorem ref_takes {N : Mem} {V : VR} {s : Nat → Int32} {t : Nat → Int64} {c : Nat} {g : GS} (hk : KR N) (hc : c < 6) (h : RG s t c g) (hn : 0 < (cL g.2 0).1) : ∃ s' t', f_X12_takesPacket 908 (nW c) (QW N V s t) = some (QW N V s' t') ∧ RG s' t' c (g.1, spTake g.2) ∧ FT c s s' ∧ Ft c t t' := by
  obtain ⟨hsc, ⟨l1, l2, l3, l4⟩, ⟨a1, a2, a3, a4, a5, a6, a7, a8⟩, b, w, k, u, f, p, q⟩ := h
  obtain ⟨s', t', e, x0, x1, x2, x3⟩ := sh_takesPacket_L5 (N := N) (V := V) hk hc l1 FU 0 s t hn (by simp only [FU]; omega) a6
  have hs : ∀ i, i ≠ 68 + c → (i < 878 ∨ 1778 ≤ i) → s' i = s i := fun i h1 h2 => x2 i h1 (by omega) (by omega) (by omega) (by omega) (by omega)
  have ht : ∀ i, (i < 504 ∨ 1224 ≤ i) → t' i = t i := fun i h1 => x3 i (by omega)
  refine ⟨s', t', ?_, ⟨hsc.fr (fun i hi => hs i (by omega) (by omega)), ⟨?_, l2, l3, l4⟩, ?_, b.fr hc (fun i h1 h2 => hs i (by omega) (by omega)), w.fr hc (fun i h1 h2 => hs i (by omega) (by omega)) (fun i h1 => ht i (by omega)), k.fr hc (fun i h1 h2 => hs i (by omega) (by omega)), u.fr hc l4 (fun i h1 h2 => hs i (by omega) (by omega)) (fun i h1 h2 => ht i (by omega)), f.fr hc l2 (fun i h1 h2 => hs i (by omega) (by omega)) (fun i h1 h2 => ht i (by omega)), p.fr hc l3 (fun i h1 h2 => hs i (by omega) (by omega)) (fun i h1 h2 => ht i (by omega)), ?_⟩, fun i h1 h2 => ?_, fun i h2 => ?_⟩
  · simp only [f_X12_takesPacket, q_k hk, ↓reduceIte, nW_lit, nW_mul]
    rw [Nat.add_zero] at e; exact e
  · show (ldel (cL g.2 0) 0).1 ≤ 30
    simp only [ldel]; omega
  · unfold R_c1
    simp (disch := omega) only [spTake, uB_B, uB_I, uB_F, uB_W, uB_K, uB_N, uB_L, uI_B, uI_I, uI_F, uI_W, uI_K, uI_N, uI_L, uF_B, uF_I, uF_F, uF_W, uF_K, uF_N, uF_L, uW_B, uW_I, uW_F, uW_W, uW_K, uW_N, uW_L, uK_B, uK_I, uK_F, uK_W, uK_K, uK_N, uK_L, uN_B, uN_I, uN_F, uN_W, uN_K, uN_N, uN_L, uL_B, uL_I, uL_F, uL_W, uL_K, uL_N, uL_L, fset_ne, fset_eq]
    rw [hs (20 + c) (by omega) (by omega), hs (32 + c) (by omega) (by omega), hs (50 + c) (by omega) (by omega), hs (56 + c) (by omega) (by omega), hs (62 + c) (by omega) (by omega), hs (74 + c) (by omega) (by omega), hs (80 + c) (by omega) (by omega)]
    exact ⟨a1, a2, a3, a4, a5, x0, a7, a8⟩
  · intro j hj
    simp only [spTake, uB_B, uB_I, uB_F, uB_W, uB_K, uB_N, uB_L, uI_B, uI_I, uI_F, uI_W, uI_K, uI_N, uI_L, uF_B, uF_I, uF_F, uF_W, uF_K, uF_N, uF_L, uW_B, uW_I, uW_F, uW_W, uW_K, uW_N, uW_L, uK_B, uK_I, uK_F, uK_W, uK_K, uK_N, uK_L, uN_B, uN_I, uN_F, uN_W, uN_K, uN_N, uN_L, uL_B, uL_I, uL_F, uL_W, uL_K, uL_N, uL_L, fset_eq, ldel] at hj ⊢
    obtain ⟨y1, y2, y3, y4, y5, y6⟩ := x1 j (by omega) (by omega)
    obtain ⟨z1, z2, z3, z4, z5, z6⟩ := q (j + 1) (by omega)
    have nj : ¬ j < 0 := by omega
    simp only [nj, ↓reduceIte]
    exact ⟨y1.trans z1, y2.trans z2, y3.trans z3, y4.trans z4, y5.trans z5, fun k hk => (y6 k hk).trans (z6 k hk)⟩
  · simp only [cs] at h2
    by_cases e68 : i = 68 + c
    · omega
    · exact x2 i e68 (by omega) (by omega) (by omega) (by omega) (by omega)
  · simp only [ct] at h2; exact x3 i (by omega)
theorem GI_take {g : GS} (h : GI g) : GI (g.1, spTake g.2) := by
  obtain ⟨h1, ⟨l1, l2, l3, l4⟩, h3, h4, h5, h6, h7, h8, h9, h10⟩ := h
  unfold GI spTake
  simp only [uB_B, uB_I, uB_F, uB_W, uB_K, uB_N, uB_L, uI_B, uI_I, uI_F, uI_W, uI_K, uI_N, uI_L, uF_B, uF_I, uF_F, uF_W, uF_K, uF_N, uF_L, uW_B, uW_I, uW_F, uW_W, uW_K, uW_N, uW_L, uK_B, uK_I, uK_F, uK_W, uK_K, uK_N, uK_L, uN_B, uN_I, uN_F, uN_W, uN_K, uN_N, uN_L, uL_B, uL_I, uL_F, uL_W, uL_K, uL_N, uL_L, fset_eq, fset_ne _ _ (show (1 : Nat) ≠ 0 by omega), fset_ne _ _ (show (2 : Nat) ≠ 0 by omega), fset_ne _ _ (show (3 : Nat) ≠ 0 by omega)]
  refine ⟨h1, ⟨by show (ldel (cL g.2 0) 0).1 ≤ 30; simp only [ldel]; omega, l2, l3, l4⟩, h3, h4, ?_, h6, h7, h8, fun e => by simp only [ldel, h9 e], h10⟩
  intro j hj
  simp only [ldel] at hj ⊢
  exact h5 (j + 1) (by omega)
theorem SI_take {σ : Sg} {c : Nat} (h : SI σ) (hc : c < 6) : SI (putG σ c (gSc σ, spTake (gCl σ c))) := by
  refine SI_put h hc (GI_take (h.1.2 c hc)) (fun _ _ _ => rfl) rfl ?_
  have := h.2.2.2.2.2.2 c hc
  exact this
theorem St_take {M : Mem} {S c : Nat} {σ : Sg} (hZ : inZ S) (hR : StR M S σ) (hc : c < 6) (hn : 0 < (cL (gCl σ c) 0).1) : ∃ M', f_X4_dropFirst (S + 2 + 60 * c + 2) M = some M' ∧ Fr (SZ S) M M' ∧ StR M' S (putG σ c (gSc σ, spTake (gCl σ c))) := by
  have hC := hZ.c hc
  unfold inC at hC
  obtain ⟨M', e, F, Q⟩ := X4_dropFirst (hR.2.1 c hc).2.2.1 (by omega) hn
  have R1 := Cl_queue (hR.2.1 c hc) F.gr (fun a h => by omega) Q
  obtain ⟨H1, F1⟩ := St_cl hR hc F (fun a h => by omega) R1
  exact ⟨M', e, F1, H1⟩
theorem Op_lose (x : Int32) : OpOK (cdB 3 2) (f_X11_lose 0 x) (f_X12_lose 908 x) := by
  intro k M A hk5 hB hF hN hW _
  obtain ⟨k1, k2, _⟩ := BrR_k hB
  have n1 : ¬ nW 1 ≤ nW 0 := by decide
  have n2 : ¬ nW 2 ≤ nW 0 := by decide
  have n00 : nW 0 ≤ nW 0 := by decide
  refine Op_cl (f := f_X11_lose 0) (g := f_X12_lose 908) (by omega) hB hW (fun cc => ?_) (fun hx0 N V s t hk hR => ?_) (fun c hc hx cc => ?_)
  · simp only [f_X11_lose, k1, ↓reduceIte, cc, bindX]
  · have hxn : ¬ inB x (nW 0) (nW 5) = true := by rw [hx0]; decide
    simp (disch := omega) only [f_X12_lose, q_k hk, q_pI hk, nW_lit, r_refused0 hk hxn, bindP, n1, ↓reduceIte, Option.bind_some, r_fails hk]
    rfl
  · have cn := c_conn hB hc
    cases hon : cB (gCl (oS A) c) 0 with
    | false =>
      rw [hon, if_neg (by decide)] at cn
      refine Op_noClient 2 (by omega) hB hW ?_ (fun N V s t hk hR => ?_)
      · simp only [f_X11_lose, k1, ↓reduceIte, cc, cn, bindX]
      · have e := r_refused (N := N) hk (hR.vq (VQ_0 V (nW 0))) hc
        rw [hon, if_neg (by decide)] at e
        simp (disch := omega) only [f_X12_lose, q_k hk, q_pI hk, nW_lit, e, bindP, n2, ↓reduceIte, Option.bind_some, r_fails hk]
        rfl
    | true =>
      rw [hon, if_pos rfl] at cn
      obtain ⟨r1, r2, r3, r4, r5⟩ := BrR_c hB hc
      have hSt := hB.2.2.2.2.2.2
      have hZ : inZ 8 := ⟨by omega, by omega⟩
      have hQ := (hSt.2.1 c hc).2.2.1
      have l30 : (cL (gCl (oS A) c) 0).1 ≤ 30 := hQ.2.2.1
      have gq : gI 4 2 (8 + 2 + 60 * c + 2) M = some (nW (cL (gCl (oS A) c) 0).1) := by
        simp only [gI, hQ.1.1, ↓reduceIte, hQ.2.2.2.1]
      by_cases h0 : (cL (gCl (oS A) c) 0).1 = 0
      · refine Op_tells (-nW 1) hB hW ?_ (fun N V s t hk hR => ?_)
        · rw [h0] at gq
          simp only [f_X11_lose, k1, ↓reduceIte, cc, cn, bindX, k2, r1, r2, r5, gq, nW_lit, Option.bind_some]
        · have e := r_refused (N := N) hk (hR.vq (VQ_0 V (nW 0))) hc
          rw [hon, if_pos rfl] at e
          have a6 := (hR.2.2.2.2.2.1.2.1 c hc).2.1.2.2.2.2.2.1
          rw [h0] at a6
          simp (disch := omega) only [f_X12_lose, q_k hk, q_pI hk, q_gR1 hk, q_a hk, nW_add, nW_lit, e, bindP, n00, ↓reduceIte, Option.bind_some, a6]
      · have n0 : ¬ nW (cL (gCl (oS A) c) 0).1 = nW 0 := by rw [nW_inj (by omega) (by omega)]; exact h0
        obtain ⟨p, e1, _, hp⟩ := X4_head hQ (by omega)
        obtain ⟨M2, e2, F2, R2⟩ := St_take hZ hSt hc (by omega)
        have gk : gI 3 0 p M = some (((cL (gCl (oS A) c) 0).2 0).2 0) := by simp only [gI, hp.1, hp.2.1.1, ↓reduceIte]
        have NLx : NL (oS A) (putG (oS A) c (gSc (oS A), spTake (gCl (oS A) c))) := NL_put rfl (Or.inl rfl)
        refine Op_S (((cL (gCl (oS A) c) 0).2 0).2 0) hB hW (M' := M2) ?_ F2 (fun a h => Or.inr h) R2 (SgI_of hW.1 (SI_take hW.1.1 hc) (Pe_put hW.1.2.1 (hW.1.2.1 c hc)) NLx (Nat.le_succ _)) (fun c' _ => (NLx c').1) (fun N V s t hk hR _ => ?_)
        · simp only [f_X11_lose, k1, ↓reduceIte, cc, cn, bindX, k2, r1, r2, r5, gq, n0, nW_lit, e1, bindP, gk, e2, Option.bind_some]
        · have e := r_refused (N := N) hk (hR.vq (VQ_0 V (nW 0))) hc
          rw [hon, if_pos rfl] at e
          have hRS := hR.2.2.2.2.2.1
          have a6 := (hRS.2.1 c hc).2.1.2.2.2.2.2.1
          have q0 := ((hRS.2.1 c hc).2.2.2.2.2.2.2.2 0 (by omega)).1
          rw [Nat.add_zero] at q0
          obtain ⟨s2, t2, e3, G2, FT2, Ft2⟩ := ref_takes (N := N) (V := vI V 0 0 (nW 0)) hk hc (RSt_get hRS hc) (show 0 < (cL (gCl (oS A) c) 0).1 by omega)
          refine ⟨_, s2, t2, ?_, VQ_0 V _, vI_00 _ _, RSt_put hRS G2 FT2 Ft2 hc⟩
          simp (disch := omega) only [f_X12_lose, q_k hk, q_pI hk, q_gR1 hk, q_a hk, nW_mul, nW_add, nW_lit, e, bindP, n00, n0, ↓reduceIte, Option.bind_some, a6, e3, q0]
theorem GI_rep {g : GS} (h : GI g) (hn : 0 < (cL g.2 0).1) (h30 : (cL g.2 0).1 < 30) : GI (g.1, uL g.2 0 (lpush (cL g.2 0) ((cL g.2 0).2 0))) := by
  obtain ⟨h1, ⟨l1, l2, l3, l4⟩, h3, h4, h5, h6, h7, h8, h9, h10⟩ := h
  unfold GI
  simp only [uB_B, uB_I, uB_F, uB_W, uB_K, uB_N, uB_L, uI_B, uI_I, uI_F, uI_W, uI_K, uI_N, uI_L, uF_B, uF_I, uF_F, uF_W, uF_K, uF_N, uF_L, uW_B, uW_I, uW_F, uW_W, uW_K, uW_N, uW_L, uK_B, uK_I, uK_F, uK_W, uK_K, uK_N, uK_L, uN_B, uN_I, uN_F, uN_W, uN_K, uN_N, uN_L, uL_B, uL_I, uL_F, uL_W, uL_K, uL_N, uL_L, fset_eq, fset_ne _ _ (show (1 : Nat) ≠ 0 by omega), fset_ne _ _ (show (2 : Nat) ≠ 0 by omega), fset_ne _ _ (show (3 : Nat) ≠ 0 by omega)]
  refine ⟨h1, ⟨by show (lpush (cL g.2 0) ((cL g.2 0).2 0)).1 ≤ 30; simp only [lpush]; omega, l2, l3, l4⟩, h3, h4, ?_, h6, h7, h8, fun e => by have := h9 e; omega, h10⟩
  intro j hj
  simp only [lpush] at hj ⊢
  split
  · exact h5 0 hn
  · exact h5 j (by omega)
theorem X4_ne {M M1 : Mem} {q p y : Nat} {l : Ls Row} (h : QuR M q l) (hn : 0 < l.1) (h30 : l.1 < 30) (e1 : f_X4_head q M = some (p, M)) (e2 : f_X4_extend q M = some (y, M1)) : p ≠ y := by
  obtain ⟨⟨h1, h2, h3⟩, h4, h5, h6, f, h7, h8, h9⟩ := h
  have h10 := (h4 f h7).1
  have hx := fun j hj => (h4 j hj).1
  have hn' : ¬ 30 ≤ l.1 := by omega
  have e1' : f_X4_head q M = some (q + 2 + f, M) := by simp (disch := omega) only [f_X4_head, gI, gL, gF, gR, pI, pZ_0, pZ_1, pZ_z, pL, pF, pR, aI, aL, aF, aR, wI, wL, wF, wR, aN, okZ_0, okZ_1, okZ_z, nar13, sI_mI, sI_mL, sI_mF, sI_mR, sI_mK, sI_mN, sI_mC, sI_mS, sL_mI, sL_mL, sL_mF, sL_mR, sL_mK, sL_mN, sL_mC, sL_mS, sF_mI, sF_mL, sF_mF, sF_mR, sF_mK, sF_mN, sF_mC, sF_mS, sR_mI, sR_mL, sR_mF, sR_mR, sR_mK, sR_mN, sR_mC, sR_mS, Option.bind_some, Option.map_some, bindP, bindX, bindH, ↓reduceIte, and_self, true_and, and_true, ne_eq, not_false_eq_true, not_true_eq_false, reduceCtorEq, Nat.reduceEqDiff, Nat.reduceLeDiff, Nat.reduceLT, Bool.false_eq_true, decide_true, decide_false, up2_eq, up2_ne, up2_nj, up2_fn, cl2_eq, cl2_ne, cl2_fn, nW_add, nW_mul, nW_sub, nW_le, nW_lt, nW_inj, irem_nW, ix_nW, h1, h2, h3, h8, h10]
  have e2' : ∃ M', f_X4_extend q M = some (q + 2 + (f + (l.1 + 1) - 1) % 30, M') := ⟨_, by simp (disch := omega) only [f_X4_extend, f_X4_extend_J19, gI, gL, gF, gR, pI, pZ_0, pZ_1, pZ_z, pL, pF, pR, aI, aL, aF, aR, wI, wL, wF, wR, aN, okZ_0, okZ_1, okZ_z, nar13, sI_mI, sI_mL, sI_mF, sI_mR, sI_mK, sI_mN, sI_mC, sI_mS, sL_mI, sL_mL, sL_mF, sL_mR, sL_mK, sL_mN, sL_mC, sL_mS, sF_mI, sF_mL, sF_mF, sF_mR, sF_mK, sF_mN, sF_mC, sF_mS, sR_mI, sR_mL, sR_mF, sR_mR, sR_mK, sR_mN, sR_mC, sR_mS, Option.bind_some, Option.map_some, bindP, bindX, bindH, ↓reduceIte, and_self, true_and, and_true, ne_eq, not_false_eq_true, not_true_eq_false, reduceCtorEq, Nat.reduceEqDiff, Nat.reduceLeDiff, Nat.reduceLT, Bool.false_eq_true, decide_true, decide_false, up2_eq, up2_ne, up2_nj, up2_fn, cl2_eq, cl2_ne, cl2_fn, nW_add, nW_mul, nW_sub, nW_le, nW_lt, nW_inj, irem_nW, ix_nW, nW_lit, h1, h2, h3, h6, h8, hx, hn']; rfl⟩
  obtain ⟨M', e2'⟩ := e2'
  rw [e1] at e1'
  rw [e2] at e2'
  have q1 := congrArg Prod.fst (Option.some.inj e1')
  have q2 := congrArg Prod.fst (Option.some.inj e2')
  simp only at q1 q2
  omega
theorem RG_app {N : Mem} {V : VR} {s : Nat → Int32} {t : Nat → Int64} {c : Nat} {g : GS} (hk : KR N) (hc : c < 6) (h : RG s t c g) (hn : 0 < (cL g.2 0).1) (hq : (cL g.2 0).1 < 30) : ∃ s' t', f_X12_appends 908 (nW c) (s (878 + 30 * c)) (s (1058 + 30 * c)) (s (1238 + 30 * c)) (s (1418 + 30 * c)) (s (1598 + 30 * c)) 910 (nW (504 + 4 * (30 * c))) (QW N V s t) = some (QW N V s' t') ∧ RG s' t' c (g.1, uL g.2 0 (lpush (cL g.2 0) ((cL g.2 0).2 0))) ∧ FT c s s' ∧ Ft c t t' ∧ s' (68 + c) = nW ((cL g.2 0).1 + 1) := by
  obtain ⟨hsc, ⟨l1, l2, l3, l4⟩, ⟨a1, a2, a3, a4, a5, a6, a7, a8⟩, b, w, k, u, f, p, q⟩ := h
  obtain ⟨z1, z2, z3, z4, z5, z6⟩ := q 0 hn
  rw [Nat.add_zero] at z1 z2 z3 z4 z5 z6
  refine ⟨_, _, by simp (disch := omega) only [f_X12_appends, q_k hk, q_gR1 hk, q_gR2 hk, q_gR8 hk, q_gR11 hk, q_gR13 hk, q_gR14 hk, q_gR15 hk, q_gR16 hk, q_gI hk, q_pI hk, q_a hk, q_w hk, q_l hk, nW_add, nW_mul, nW_le, nW_lt, irem_nW, ix_nW, nW_lit, a6, q_mv hk, ↓reduceIte, Option.bind_some, fset_ne, fset_eq]; rfl, ?_⟩
  refine ⟨⟨hsc.fr (fun i hi => by simp (disch := omega) only [fset_ne]), ⟨by show (lpush (cL g.2 0) ((cL g.2 0).2 0)).1 ≤ 30; simp only [lpush]; omega, l2, l3, l4⟩, ?_, b.fr hc (fun i h1 h2 => by simp (disch := omega) only [fset_ne]), w.fr hc (fun i h1 h2 => by simp (disch := omega) only [fset_ne]) (fun i h1 => by simp (disch := omega) only [blk_out]), k.fr hc (fun i h1 h2 => by simp (disch := omega) only [fset_ne]), u.fr hc l4 (fun i h1 h2 => by simp (disch := omega) only [fset_ne]) (fun i h1 h2 => by simp (disch := omega) only [blk_out]), f.fr hc l2 (fun i h1 h2 => by simp (disch := omega) only [fset_ne]) (fun i h1 h2 => by simp (disch := omega) only [blk_out]), p.fr hc l3 (fun i h1 h2 => by simp (disch := omega) only [fset_ne]) (fun i h1 h2 => by simp (disch := omega) only [blk_out]), ?_⟩, fun i h1 h2 => ?_, fun i h2 => ?_, ?_⟩
  · unfold R_c1
    simp (disch := omega) only [uB_B, uB_I, uB_F, uB_W, uB_K, uB_N, uB_L, uI_B, uI_I, uI_F, uI_W, uI_K, uI_N, uI_L, uF_B, uF_I, uF_F, uF_W, uF_K, uF_N, uF_L, uW_B, uW_I, uW_F, uW_W, uW_K, uW_N, uW_L, uK_B, uK_I, uK_F, uK_W, uK_K, uK_N, uK_L, uN_B, uN_I, uN_F, uN_W, uN_K, uN_N, uN_L, uL_B, uL_I, uL_F, uL_W, uL_K, uL_N, uL_L, fset_ne, fset_eq, a1, a2, a3, a4, a5, a6, a7, a8, lpush, nW_add, and_self]
  · intro j hj
    simp only [uB_B, uB_I, uB_F, uB_W, uB_K, uB_N, uB_L, uI_B, uI_I, uI_F, uI_W, uI_K, uI_N, uI_L, uF_B, uF_I, uF_F, uF_W, uF_K, uF_N, uF_L, uW_B, uW_I, uW_F, uW_W, uW_K, uW_N, uW_L, uK_B, uK_I, uK_F, uK_W, uK_K, uK_N, uK_L, uN_B, uN_I, uN_F, uN_W, uN_K, uN_N, uN_L, uL_B, uL_I, uL_F, uL_W, uL_K, uL_N, uL_L, fset_eq, lpush] at hj ⊢
    by_cases e : j = (cL g.2 0).1
    · subst e
      simp (disch := omega) only [fset_ne, fset_eq, ↓reduceIte, z1, z2, z3, z4, z5, true_and]
      exact TB.blk (fun k hk => z6 k hk)
    · obtain ⟨h1, h2, h3, h4, h5, h6⟩ := q j (by omega)
      simp (disch := omega) only [fset_ne, e, ↓reduceIte, h1, h2, h3, h4, h5, true_and]
      exact h6.fr (fun k hk => blk_out _ _ (by omega))
  · simp only [cs] at h2; simp (disch := omega) only [fset_ne]
  · simp only [ct] at h2; exact blk_out _ _ (by omega)
  · simp (disch := omega) only [fset_ne, fset_eq, a6, nW_add]
theorem Op_repeat (x : Int32) : OpOK (cdB 3 2) (f_X11_repeat 0 x) (f_X12_repeat 908 x) := by
  intro k M A hk5 hB hF hN hW _
  obtain ⟨k1, k2, _⟩ := BrR_k hB
  have n1 : ¬ nW 1 ≤ nW 0 := by decide
  have n2 : ¬ nW 2 ≤ nW 0 := by decide
  have n00 : nW 0 ≤ nW 0 := by decide
  refine Op_cl (f := f_X11_repeat 0) (g := f_X12_repeat 908) (by omega) hB hW (fun cc => ?_) (fun hx0 N V s t hk hR => ?_) (fun c hc hx cc => ?_)
  · simp only [f_X11_repeat, k1, ↓reduceIte, cc, bindX]
  · have hxn : ¬ inB x (nW 0) (nW 5) = true := by rw [hx0]; decide
    simp (disch := omega) only [f_X12_repeat, q_k hk, q_pI hk, nW_lit, r_refused0 hk hxn, bindP, n1, ↓reduceIte, Option.bind_some, r_fails hk]
    rfl
  · have cn := c_conn hB hc
    cases hon : cB (gCl (oS A) c) 0 with
    | false =>
      rw [hon, if_neg (by decide)] at cn
      refine Op_noClient 2 (by omega) hB hW ?_ (fun N V s t hk hR => ?_)
      · simp only [f_X11_repeat, k1, ↓reduceIte, cc, cn, bindX]
      · have e := r_refused (N := N) hk (hR.vq (VQ_0 V (nW 0))) hc
        rw [hon, if_neg (by decide)] at e
        simp (disch := omega) only [f_X12_repeat, q_k hk, q_pI hk, nW_lit, e, bindP, n2, ↓reduceIte, Option.bind_some, r_fails hk]
        rfl
    | true =>
      rw [hon, if_pos rfl] at cn
      obtain ⟨r1, r2, r3, r4, r5⟩ := BrR_c hB hc
      have hSt := hB.2.2.2.2.2.2
      have hZ : inZ 8 := ⟨by omega, by omega⟩
      have hC := hZ.c hc
      unfold inC at hC
      have hQ := (hSt.2.1 c hc).2.2.1
      have l30 : (cL (gCl (oS A) c) 0).1 ≤ 30 := hQ.2.2.1
      have gq : gI 4 2 (8 + 2 + 60 * c + 2) M = some (nW (cL (gCl (oS A) c) 0).1) := by
        simp only [gI, hQ.1.1, ↓reduceIte, hQ.2.2.2.1]
      by_cases h0 : (cL (gCl (oS A) c) 0).1 = 0
      · refine Op_noClient 2 (by omega) hB hW ?_ (fun N V s t hk hR => ?_)
        · rw [h0] at gq
          simp only [f_X11_repeat, k1, ↓reduceIte, cc, cn, bindX, k2, r1, r2, r5, gq, nW_lit, Option.bind_some]
        · have e := r_refused (N := N) hk (hR.vq (VQ_0 V (nW 0))) hc
          rw [hon, if_pos rfl] at e
          have a6 := (hR.2.2.2.2.2.1.2.1 c hc).2.1.2.2.2.2.2.1
          rw [h0] at a6
          simp (disch := omega) only [f_X12_repeat, q_k hk, q_pI hk, q_gR1 hk, q_a hk, nW_add, nW_lit, e, bindP, n00, ↓reduceIte, Option.bind_some, a6, r_fails hk]
          rfl
      · have n0 : ¬ nW (cL (gCl (oS A) c) 0).1 = nW 0 := by rw [nW_inj (by omega) (by omega)]; exact h0
        by_cases h30 : (cL (gCl (oS A) c) 0).1 < 30
        · have n30 : ¬ nW 30 ≤ nW (cL (gCl (oS A) c) 0).1 := by rw [nW_le (by omega) (by omega)]; omega
          obtain ⟨p, e1, hpr, hp⟩ := X4_head hQ (by omega)
          obtain ⟨y, M1, e2, F1, ⟨y1, y2, y3⟩, back⟩ := X4_extend hQ (by omega) h30
          have hp1 : PkR M1 p ((cL (gCl (oS A) c) 0).2 0) := hp.gr F1.gr (by show ¬ p = 8 + 2 + 60 * c + 2; omega)
          have hpy : p ≠ y := X4_ne hQ (by omega) h30 e1 e2
          obtain ⟨M2, e3, F2, R2⟩ := X3_copyFrom y3 hp1 hpy (by simp only [tz]; omega)
          have Q2 := back M2 _ F2 R2
          have F12 : Fr (fun a => 8 + 2 + 60 * c + 2 ≤ a ∧ a < 8 + 2 + 60 * c + 34) M M2 := F1.tr F2 (fun a h => by omega) (fun a h => by omega)
          have RC := Cl_queue (hSt.2.1 c hc) F12.gr (fun a h => h) Q2
          obtain ⟨H1, F3⟩ := St_cl hSt hc F12 (fun a h => by omega) RC
          have S1 : SI (putG (oS A) c (gSc (oS A), uL (gCl (oS A) c) 0 (lpush (cL (gCl (oS A) c) 0) ((cL (gCl (oS A) c) 0).2 0)))) := by
            refine SI_put hW.1.1 hc (GI_rep (hW.1.1.1.2 c hc) (by show 0 < (cL (gCl (oS A) c) 0).1; omega) h30) (fun _ _ _ => rfl) rfl ?_
            have := hW.1.1.2.2.2.2.2.2 c hc
            exact this
          have NLx : NL (oS A) (putG (oS A) c (gSc (oS A), uL (gCl (oS A) c) 0 (lpush (cL (gCl (oS A) c) 0) ((cL (gCl (oS A) c) 0).2 0)))) := NL_put rfl (Or.inl rfl)
          have gq2 : gI 4 2 (8 + 2 + 60 * c + 2) M2 = some (nW ((cL (gCl (oS A) c) 0).1 + 1)) := by
            simp only [gI, Q2.1.1, ↓reduceIte, Q2.2.2.2.1, lpush]
          refine Op_S (nW ((cL (gCl (oS A) c) 0).1 + 1)) hB hW (M' := M2) ?_ F3 (fun a h => Or.inr h) H1 (SgI_of hW.1 S1 (Pe_put hW.1.2.1 (hW.1.2.1 c hc)) NLx (Nat.le_succ _)) (fun c' _ => (NLx c').1) (fun N V s t hk hR _ => ?_)
          · simp only [f_X11_repeat, f_X11_repeat_J59, k1, ↓reduceIte, cc, cn, bindX, k2, r1, r2, r5, gq, n0, n30, nW_lit, e1, e2, e3, gq2, bindP, Option.bind_some]
          · have e := r_refused (N := N) hk (hR.vq (VQ_0 V (nW 0))) hc
            rw [hon, if_pos rfl] at e
            have hRS := hR.2.2.2.2.2.1
            have h := RSt_get hRS hc
            have hx := RG_app (V := vI V 0 0 (nW 0)) hk hc h (show 0 < (cL (gCl (oS A) c) 0).1 by omega) h30
            obtain ⟨s2, t2, e4, G2, FT2, Ft2, es⟩ := hx
            have a6 : s (68 + c) = nW (cL (gCl (oS A) c) 0).1 := h.2.2.1.2.2.2.2.2.1
            have es : s2 (68 + c) = nW ((cL (gCl (oS A) c) 0).1 + 1) := es
            refine ⟨_, s2, t2, ?_, VQ_0 V _, vI_00 _ _, RSt_put hRS G2 FT2 Ft2 hc⟩
            simp (disch := omega) only [f_X12_repeat, f_X12_repeat_J124, q_k hk, q_pI hk, q_gR1 hk, q_gR2 hk, q_a hk, nW_mul, nW_add, nW_lit, e, bindP, n00, n0, n30, ↓reduceIte, Option.bind_some, a6, e4, es]
        · have he : (cL (gCl (oS A) c) 0).1 = 30 := by omega
          have n30 : nW 30 ≤ nW 30 := by decide
          have n30' : ¬ nW 30 = nW 0 := by decide
          refine Op_tells (nW 30) hB hW ?_ (fun N V s t hk hR => ?_)
          · rw [he] at gq
            simp only [f_X11_repeat, f_X11_repeat_J59, k1, ↓reduceIte, cc, cn, bindX, k2, r1, r2, r5, gq, n30, n30', nW_lit, Option.bind_some]
          · have e := r_refused (N := N) hk (hR.vq (VQ_0 V (nW 0))) hc
            rw [hon, if_pos rfl] at e
            have a6 := (hR.2.2.2.2.2.1.2.1 c hc).2.1.2.2.2.2.2.1
            rw [he] at a6
            simp (disch := omega) only [f_X12_repeat, f_X12_repeat_J124, q_k hk, q_pI hk, q_gR1 hk, q_a hk, nW_mul, nW_add, nW_lit, e, bindP, n00, n30, n30', ↓reduceIte, Option.bind_some, a6]
/-! receive -/
theorem q_w11 {N : Mem} {V : VR} {s : Nat → Int32} {t : Nat → Int64} (h : KR N) {i : Nat} (x : Int32) (hi : i < 6) : wI 13 919 (nW i) x (QW N V s t) = some (QW N (vI V 11 i x) s t) := by
  have := W_wI11 (V := VS V s t) h x hi
  rw [VS_vIo _ _ _ _ _ (by omega)] at this; exact this
theorem q_pZ {N : Mem} {V : VR} {s : Nat → Int32} {t : Nat → Int64} (h : KR N) (f : Nat) : pZ 12 f 908 (nW 1) (QW N V s t) = some (QW N (vI V 0 f (nW 1)) s t) := by
  have := W_pZ (V := VS V s t) h f (nW 1) (Or.inr rfl)
  rw [VS_vIo _ _ _ _ _ (by omega)] at this; exact this
def vP (V : VR) (f : Nat → Int32) : Nat → VR
  | 0 => V
  | n + 1 => vI (vP V f n) 11 n (f n)
theorem vP_at (V : VR) (f : Nat → Int32) : ∀ n, (∀ j, j < n → (vP V f n).1 11 j = f j) ∧ (∀ k, k ≠ 11 → (vP V f n).1 k = V.1 k) ∧ (vP V f n).2 = V.2
  | 0 => ⟨fun j hj => absurd hj (Nat.not_lt_zero j), fun _ _ => rfl, rfl⟩
  | n + 1 => by
    obtain ⟨h1, h2, h3⟩ := vP_at V f n
    refine ⟨fun j hj => ?_, fun k hk => ?_, h3⟩
    · show (vI (vP V f n) 11 n (f n)).1 11 j = f j
      rw [vI_1]
      by_cases e : j = n
      · subst e; exact fset_eq _ _ _
      · rw [fset_ne _ _ e]; exact h1 j (by omega)
    · show (vI (vP V f n) 11 n (f n)).1 k = V.1 k
      rw [vI_o _ _ _ hk]; exact h2 k hk
theorem ref_rec_L43 {N : Mem} {V : VR} {s : Nat → Int32} {t : Nat → Int64} (hk : KR N) {c : Nat} (hc : c < 6) : ∀ n i, i ≤ 5 → 5 - i < n → f_X12_receive_L43 n 908 (nW c) (nW (30 * c)) (nW i) (QW N (vP V (fun j => s (878 + 180 * j + 30 * c)) i) s t) = f_X12_receive_L43 1 908 (nW c) (nW (30 * c)) (nW 5) (QW N (vP V (fun j => s (878 + 180 * j + 30 * c)) 5) s t)
  | 0, i, _, h => absurd h (by omega)
  | n + 1, i, h1, h2 => by
    by_cases hi : i = 5
    · subst hi
      simp (disch := omega) only [f_X12_receive_L43, nW_lit, nW_le, Nat.le_refl, ↓reduceIte]
    · have n0 : ¬ 5 ≤ i := by omega
      have ih := ref_rec_L43 (N := N) (V := V) (s := s) (t := t) hk hc n (i + 1) (by omega) (by omega)
      rw [f_X12_receive_L43]
      simp (disch := omega) only [q_k hk, q_gR1 hk, q_gR2 hk, q_gR8 hk, q_gR11 hk, q_gR13 hk, q_gR14 hk, q_gR15 hk, q_gR16 hk, q_gI hk, q_pI hk, q_a hk, q_w hk, q_l hk, nW_mul, nW_add, nW_le, nW_lit, n0, ↓reduceIte, Option.bind_some, q_w11 hk]
      exact ih
theorem Op_receive (x : Int32) : OpOK (cdB 3 2) (f_X11_receive 0 x) (f_X12_receive 908 x) := by
  intro k M A hk5 hB hF hN hW _
  obtain ⟨k1, k2, _, k4, _⟩ := BrR_k hB
  have n1 : ¬ nW 1 ≤ nW 0 := by decide
  have n2 : ¬ nW 2 ≤ nW 0 := by decide
  have n00 : nW 0 ≤ nW 0 := by decide
  refine Op_cl (f := f_X11_receive 0) (g := f_X12_receive 908) (by omega) hB hW (fun cc => ?_) (fun hx0 N V s t hk hR => ?_) (fun c hc hx cc => ?_)
  · simp only [f_X11_receive, k1, ↓reduceIte, cc, bindX]
  · have hxn : ¬ inB x (nW 0) (nW 5) = true := by rw [hx0]; decide
    simp (disch := omega) only [f_X12_receive, q_k hk, q_pI hk, nW_lit, r_refused0 hk hxn, bindP, n1, ↓reduceIte, Option.bind_some, r_fails hk]
    rfl
  · have cn := c_conn hB hc
    cases hon : cB (gCl (oS A) c) 0 with
    | false =>
      rw [hon, if_neg (by decide)] at cn
      refine Op_noClient 2 (by omega) hB hW ?_ (fun N V s t hk hR => ?_)
      · simp only [f_X11_receive, k1, ↓reduceIte, cc, cn, bindX]
      · have e := r_refused (N := N) hk (hR.vq (VQ_0 V (nW 0))) hc
        rw [hon, if_neg (by decide)] at e
        simp (disch := omega) only [f_X12_receive, q_k hk, q_pI hk, nW_lit, e, bindP, n2, ↓reduceIte, Option.bind_some, r_fails hk]
        rfl
    | true =>
      rw [hon, if_pos rfl] at cn
      obtain ⟨r1, r2, r3, r4, r5⟩ := BrR_c hB hc
      have hSt := hB.2.2.2.2.2.2
      have hZ : inZ 8 := ⟨by omega, by omega⟩
      have hC := hZ.c hc
      unfold inC at hC
      have hQ := (hSt.2.1 c hc).2.2.1
      have l30 : (cL (gCl (oS A) c) 0).1 ≤ 30 := hQ.2.2.1
      have gq : gI 4 2 (8 + 2 + 60 * c + 2) M = some (nW (cL (gCl (oS A) c) 0).1) := by
        simp only [gI, hQ.1.1, ↓reduceIte, hQ.2.2.2.1]
      by_cases h0 : (cL (gCl (oS A) c) 0).1 = 0
      · refine Op_tells (-nW 1) hB hW ?_ (fun N V s t hk hR => ?_)
        · rw [h0] at gq
          simp only [f_X11_receive, k1, ↓reduceIte, cc, cn, bindX, k2, r1, r2, r5, gq, nW_lit, Option.bind_some]
        · have e := r_refused (N := N) hk (hR.vq (VQ_0 V (nW 0))) hc
          rw [hon, if_pos rfl] at e
          have a6 := (hR.2.2.2.2.2.1.2.1 c hc).2.1.2.2.2.2.2.1
          rw [h0] at a6
          simp (disch := omega) only [f_X12_receive, q_k hk, q_pI hk, q_gR1 hk, q_a hk, nW_add, nW_lit, e, bindP, n00, ↓reduceIte, Option.bind_some, a6]
      · have n0 : ¬ nW (cL (gCl (oS A) c) 0).1 = nW 0 := by rw [nW_inj (by omega) (by omega)]; exact h0
        obtain ⟨p, e1, hpr, hp⟩ := X4_head hQ (by omega)
        obtain ⟨M1, e2, F1, R1⟩ := X3_copyFrom hB.2.2.2.1.2.1 hp (show p ≠ 6 by omega) (show ¬ tz 6 by simp only [tz]; omega)
        -- the broker's own mark
        have m11 : (mK M1 0).1 = 11 := by rw [F1.1]; exact hB.1.1
        have e3 : pZ 11 3 0 (nW 1) M1 = some (sI M1 (up2 (mI M1) 0 3 (nW 1))) := pZ_1 m11
        have F2 : Fr (fun a => a = 0) M1 (sI M1 (up2 (mI M1) 0 3 (nW 1))) := fq_I M1 3 _ (by simp only [tz]; omega)
        have F12 : Fr (fun a => a = 0 ∨ a = 6) M (sI M1 (up2 (mI M1) 0 3 (nW 1))) := F1.tr F2 (fun a h => Or.inr h) (fun a h => Or.inl h)
        have B2 : BrR (sI M1 (up2 (mI M1) 0 3 (nW 1))) (pP A (true, (cL (gCl (oS A) c) 0).2 0)) := by
          obtain ⟨⟨c1, c2, c3, c4, c5, c6⟩, ⟨b1, b2, b3, b4, b5⟩, e1, ⟨p1, p2⟩, m7, ⟨t1, t2⟩, s1⟩ := hB
          have x0 := F1.2.2 0 (Or.inr (by omega))
          have x5 := F1.2.2 5 (Or.inr (by omega))
          refine ⟨⟨m11, ?_, ?_, ?_, ?_, ?_⟩, ⟨?_, ?_, b3, fun j hj => ?_, b5⟩, ?_, ⟨?_, R1.gr F2.gr (by omega)⟩, ?_, ⟨?_, t2.gr F12.gr (fun a h => by unfold SZ at h; omega)⟩, s1.gr F12.gr (fun a h => by unfold SZ at h; omega)⟩
          · show mR M1 0 0 = _; rw [x0.2.2.2]; exact c2
          · show mR M1 0 4 = _; rw [x0.2.2.2]; exact c3
          · show mR M1 0 5 = _; rw [x0.2.2.2]; exact c4
          · show mR M1 0 6 = _; rw [x0.2.2.2]; exact c5
          · show mR M1 0 8 = _; rw [x0.2.2.2]; exact c6
          · show mK M1 5 = _; rw [F1.1]; exact b1
          · show up2 (mI M1) 0 3 (nW 1) 0 1 = _
            rw [up2_nj _ _ _ _ (by omega), x0.1]; exact b2
          · show up2 (mI M1) 0 3 (nW 1) 5 j = _
            rw [up2_ne _ _ _ _ (by omega), x5.1]; exact b4 j hj
          · show up2 (mI M1) 0 3 (nW 1) 0 2 = _
            rw [up2_nj _ _ _ _ (by omega), x0.1]; exact e1
          · show up2 (mI M1) 0 3 (nW 1) 0 3 = zI true
            rw [up2_eq]; rfl
          · show (mK M1 7).1 = _; rw [F1.1]; exact m7
          · show up2 (mI M1) 0 3 (nW 1) 0 7 = _
            rw [up2_nj _ _ _ _ (by omega), x0.1]; exact t1
        obtain ⟨M3, e4, F3, R3⟩ := St_take hZ B2.2.2.2.2.2.2 hc (by show 0 < (cL (gCl (oS A) c) 0).1; omega)
        have B3 := BrR_S B2 F3.gr (fun a h => Or.inr h) R3
        have k4' := (BrR_k B3).2.2.2.1
        have g30 : gI 3 0 6 M3 = some (((cL (gCl (oS A) c) 0).2 0).2 0) := by
          have := B3.2.2.2.1.2
          simp only [gI, this.1, this.2.1.1, ↓reduceIte]; rfl
        have Gx : Gk 4 M M3 := (Gk_fr F12 (fun a h => by omega) 2).trans (Gk_fr F3 (fun a h => by unfold SZ at h; omega) 2)
        have NLx : NL (oS A) (putG (oS A) c (gSc (oS A), spTake (gCl (oS A) c))) := NL_put rfl (Or.inl rfl)
        have htop : topical ((cL (gCl (oS A) c) 0).2 0).1 := (hW.1.1.1.2 c hc).2.2.2.2.1 0 (by show 0 < (cL (gCl (oS A) c) 0).1; omega)
        refine ⟨.inl (((cL (gCl (oS A) c) 0).2 0).2 0), M3, pS (pP A (true, (cL (gCl (oS A) c) 0).2 0)) (putG (oS A) c (gSc (oS A), spTake (gCl (oS A) c))), ?_, (by show 0 < 9; omega), Gx, B3, ⟨SgI_of hW.1 (SI_take hW.1.1 hc) (Pe_put hW.1.2.1 (hW.1.2.1 c hc)) NLx (Nat.le_succ _), hW.2.1.mono (Nat.le_succ _), htop⟩, fun N V s t hk hR _ => ?_⟩
        · simp only [f_X11_receive, k1, ↓reduceIte, cc, cn, bindX, k2, k4, r1, r2, r5, gq, n0, nW_lit, e1, e2, e3, e4, k4', g30, bindP, Option.bind_some]
        · have e := r_refused (N := N) hk (hR.vq (VQ_0 V (nW 0))) hc
          rw [hon, if_pos rfl] at e
          have hRS := hR.2.2.2.2.2.1
          have a6 := (hRS.2.1 c hc).2.1.2.2.2.2.2.1
          obtain ⟨z0, z1, z2, z3, z4, z5⟩ := (hRS.2.1 c hc).2.2.2.2.2.2.2.2 0 (by omega)
          rw [Nat.add_zero] at z0 z1 z2 z3 z4 z5
          have eL := ref_rec_L43 (N := N) (V := vI V 0 0 (nW 0)) (s := s) (t := t) hk hc FU 0 (by omega) (by simp only [FU]; omega)
          obtain ⟨w1, w2, w3⟩ := vP_at (vI V 0 0 (nW 0)) (fun j => s (878 + 180 * j + 30 * c)) 5
          have hv : ∀ j, j < 5 → s (878 + 180 * j + 30 * c) = ((cL (gCl (oS A) c) 0).2 0).2 j := fun j hj => by
            have h5 : j = 0 ∨ j = 1 ∨ j = 2 ∨ j = 3 ∨ j = 4 := by omega
            rcases h5 with rfl | rfl | rfl | rfl | rfl
            · exact z0
            · exact z1
            · exact z2
            · exact z3
            · exact z4
          generalize hV1 : vP (vI V 0 0 (nW 0)) (fun j => s (878 + 180 * j + 30 * c)) 5 = V1 at eL w1 w2 w3
          have okT : okTx ((cL (gCl (oS A) c) 0).2 0).1 := by
            obtain ⟨_, _, y, _, hy⟩ := hp
            exact hy.1
          have hL : LB (QW N (vB V1 12 0 (fun x => t (504 + 4 * (30 * c) + x))) s t) 920 0 ((cL (gCl (oS A) c) 0).2 0).1 := LB_of (V := VS (vB V1 12 0 (fun x => t (504 + 4 * (30 * c) + x))) s t) hk (k := 12) (by omega) rfl (by omega) (by omega) (by
            show TB ((vB V1 12 0 (fun x => t (504 + 4 * (30 * c) + x))).2.1 12) 0 _
            rw [vB_1]; exact TB.blk (fun k hk => z5 k hk))
          have el := ref_lengthOf hL okT htop
          obtain ⟨s2, t2, e5, G2, FT2, Ft2⟩ := ref_takes (N := N) (V := vI (vI (vB V1 12 0 (fun x => t (504 + 4 * (30 * c) + x))) 11 5 (nW (txS ((cL (gCl (oS A) c) 0).2 0).1).length)) 0 17 (nW 1)) hk hc (RSt_get hRS hc) (show 0 < (cL (gCl (oS A) c) 0).1 by omega)
          refine ⟨((cL (gCl (oS A) c) 0).2 0).2 0, vI (vI (vB V1 12 0 (fun x => t (504 + 4 * (30 * c) + x))) 11 5 (nW (txS ((cL (gCl (oS A) c) 0).2 0).1).length)) 0 17 (nW 1), s2, t2, ?_, ?_, ?_, fun v hv => by cases hv; rfl⟩
          · rw [show vP (vI V 0 0 (nW 0)) (fun j => s (878 + 180 * j + 30 * c)) 0 = vI V 0 0 (nW 0) from rfl] at eL
            have e11 := q_gR15' (N := N) (V := vI (vI (vB V1 12 0 (fun x => t (504 + 4 * (30 * c) + x))) 11 5 (nW (txS ((cL (gCl (oS A) c) 0).2 0).1).length)) 0 17 (nW 1)) (s := s2) (t := t2) hk (i := 0) (by omega)
            have ev : (vI (vI (vB V1 12 0 (fun x => t (504 + 4 * (30 * c) + x))) 11 5 (nW (txS ((cL (gCl (oS A) c) 0).2 0).1).length)) 0 17 (nW 1)).1 11 0 = ((cL (gCl (oS A) c) 0).2 0).2 0 := by
              rw [vI_o _ _ _ (by omega), vI_1, fset_ne _ _ (by omega)]
              show V1.1 11 0 = _
              rw [w1 0 (by omega)]; exact hv 0 (by omega)
            rw [ev] at e11
            simp (disch := omega) only [f_X12_receive, q_k hk, q_pI hk, q_gR1 hk, q_a hk, nW_mul, nW_add, nW_lit, e, bindP, n00, n0, ↓reduceIte, Option.bind_some, a6, eL]
            rw [f_X12_receive_L43]
            simp (disch := omega) only [q_k hk, q_gR1 hk, q_gR2 hk, q_gR8 hk, q_gR11 hk, q_gR13 hk, q_gR14 hk, q_gR15 hk, q_gR16 hk, q_gI hk, q_pI hk, q_a hk, q_w hk, q_l hk, nW_mul, nW_add, nW_le, nW_lit, Nat.le_refl, ↓reduceIte, Option.bind_some, q_mv212 hk, el, bindP, q_w11 hk, q_pZ hk, e5, e11]
          · have hR3 := RSt_put hRS G2 FT2 Ft2 hc
            obtain ⟨⟨h1, h1'⟩, h2, h3, ⟨h4, h4'⟩, h5, h6, h7⟩ := hR
            have wv : ∀ j, j ≠ 0 → j ≠ 17 → (vI (vI (vB V1 12 0 (fun x => t (504 + 4 * (30 * c) + x))) 11 5 (nW (txS ((cL (gCl (oS A) c) 0).2 0).1).length)) 0 17 (nW 1)).1 0 j = V.1 0 j := fun j hj hj2 => by
              rw [vI_1, fset_ne _ _ hj2, vI_o _ _ _ (by omega)]
              show V1.1 0 j = _
              rw [w2 0 (by omega)]; exact vI_0o _ _ hj
            have wk : ∀ k, k ≠ 0 → k ≠ 11 → (vI (vI (vB V1 12 0 (fun x => t (504 + 4 * (30 * c) + x))) 11 5 (nW (txS ((cL (gCl (oS A) c) 0).2 0).1).length)) 0 17 (nW 1)).1 k = V.1 k := fun k hk0 hk1 => by
              rw [vI_o _ _ _ hk0, vI_o _ _ _ hk1]
              show V1.1 k = _
              rw [w2 k hk1]; exact vI_o _ _ _ hk0
            have wl : ∀ k, k ≠ 12 → (vI (vI (vB V1 12 0 (fun x => t (504 + 4 * (30 * c) + x))) 11 5 (nW (txS ((cL (gCl (oS A) c) 0).2 0).1).length)) 0 17 (nW 1)).2.1 k = V.2.1 k := fun k hk0 => by
              show (vB V1 12 0 _).2.1 k = _
              rw [vB_o _ _ _ hk0, w3]; rfl
            have w4 : (vI (vI (vB V1 12 0 (fun x => t (504 + 4 * (30 * c) + x))) 11 5 (nW (txS ((cL (gCl (oS A) c) 0).2 0).1).length)) 0 17 (nW 1)).2.2 = V.2.2 := by
              show V1.2.2 = _
              rw [w3]; rfl
            refine ⟨⟨?_, fun j hj => ?_⟩, ?_, ⟨?_, fun _ => ⟨fun j hj => ?_, ?_, ?_⟩⟩, ⟨?_, fun h => ?_⟩, ?_, hR3, fun c' hc' => ?_⟩
            · rw [wv 9 (by omega) (by omega)]; exact h1
            · rw [wk 7 (by omega) (by omega)]; exact h1' j hj
            · rw [wv 10 (by omega) (by omega)]; exact h2
            · rw [vI_1, fset_eq]; rfl
            · rw [vI_o _ _ _ (by omega), vI_1, fset_ne _ _ (by omega)]
              show V1.1 11 j = _
              rw [w1 j hj]; exact hv j hj
            · rw [vI_o _ _ _ (by omega), vI_1, fset_eq]; rfl
            · show TB ((vB V1 12 0 (fun x => t (504 + 4 * (30 * c) + x))).2.1 12) 0 _
              rw [vB_1]; exact TB.blk (fun k hk => z5 k hk)
            · rw [wv 7 (by omega) (by omega)]; exact h4
            · rw [wk 4 (by omega) (by omega), wl 5 (by omega), w4]; exact h4' h
            · rw [wl 10 (by omega)]; exact h5
            · show _ = cF (gCl (putG (oS A) c (gSc (oS A), spTake (gCl (oS A) c))) c')
              rw [w4, (NLx c').1]; exact h7 c' hc'
          · rw [vI_1, fset_ne _ _ (by omega), vI_o _ _ _ (by omega)]
            show V1.1 0 0 = _
            rw [w2 0 (by omega)]; exact vI_00 _ _
