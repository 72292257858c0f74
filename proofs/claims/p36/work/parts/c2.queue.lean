/-! NETWORK QUEUES: receive, lose, repeat -/
def spTake (x : Cl) : Cl := uL x 0 (ldel (cL x 0) 0)
theorem GI_take {g : GS} (h : GI g) : GI (g.1, spTake g.2) := by
  obtain ⟨h1, ⟨l1, l2, l3, l4⟩, h3, h4, h5, h6, h7, h8, h9, h10⟩ := h
  unfold GI spTake
  simp only [uB_B, uB_I, uB_F, uB_W, uB_K, uB_N, uB_L, uI_B, uI_I, uI_F, uI_W, uI_K, uI_N, uI_L, uF_B, uF_I, uF_F, uF_W, uF_K, uF_N, uF_L, uW_B, uW_I, uW_F, uW_W, uW_K, uW_N, uW_L, uK_B, uK_I, uK_F, uK_W, uK_K, uK_N, uK_L, uN_B, uN_I, uN_F, uN_W, uN_K, uN_N, uN_L, uL_B, uL_I, uL_F, uL_W, uL_K, uL_N, uL_L, fset_eq, fset_ne _ _ (show (1 : Nat) ≠ 0 by omega), fset_ne _ _ (show (2 : Nat) ≠ 0 by omega), fset_ne _ _ (show (3 : Nat) ≠ 0 by omega)]
  refine ⟨h1, ⟨by show (ldel (cL g.2 0) 0).1 ≤ 30; simp only [ldel]; omega, l2, l3, l4⟩, h3, h4, ?_, h6, h7, h8, fun e => by simp only [ldel, h9 e], h10⟩
  intro j hj
  simp only [ldel] at hj ⊢
  exact h5 (j + 1) (by omega)
theorem SI_take {σ : Sg} {c : Nat} (h : SI σ) (hc : c < 6) : SI (putG σ c (gSc σ, spTake (gCl σ c))) := by
  refine SI_put h hc (GI_take (h.1.2 c hc)) (fun _ _ _ => rfl) rfl ?_
  have := h.2.2.2.2.2.2 c hc
  exact this
theorem St_take {M : Mem} {S c : Nat} {σ : Sg} (hZ : inZ S) (hR : StR M S σ) (hc : c < 6) (hn : 0 < (cL (gCl σ c) 0).1) : ∃ M', f_X4_dropFirst (S + 2 + 60 * c + 2) M = some M' ∧ Fr (SZ S) M M' ∧ StR M' S (putG σ c (gSc σ, spTake (gCl σ c))) := by
  have hC := hZ.c hc
  unfold inC at hC
  obtain ⟨M', e, F, Q⟩ := X4_dropFirst (hR.2.1 c hc).2.2.1 (by omega) hn
  have R1 := Cl_queue (hR.2.1 c hc) F.gr (fun a h => by omega) Q
  obtain ⟨H1, F1⟩ := St_cl hR hc F (fun a h => by omega) R1
  exact ⟨M', e, F1, H1⟩
theorem GI_rep {g : GS} (h : GI g) (hn : 0 < (cL g.2 0).1) (h30 : (cL g.2 0).1 < 30) : GI (g.1, uL g.2 0 (lpush (cL g.2 0) ((cL g.2 0).2 0))) := by
  obtain ⟨h1, ⟨l1, l2, l3, l4⟩, h3, h4, h5, h6, h7, h8, h9, h10⟩ := h
  unfold GI
  simp only [uB_B, uB_I, uB_F, uB_W, uB_K, uB_N, uB_L, uI_B, uI_I, uI_F, uI_W, uI_K, uI_N, uI_L, uF_B, uF_I, uF_F, uF_W, uF_K, uF_N, uF_L, uW_B, uW_I, uW_F, uW_W, uW_K, uW_N, uW_L, uK_B, uK_I, uK_F, uK_W, uK_K, uK_N, uK_L, uN_B, uN_I, uN_F, uN_W, uN_K, uN_N, uN_L, uL_B, uL_I, uL_F, uL_W, uL_K, uL_N, uL_L, fset_eq, fset_ne _ _ (show (1 : Nat) ≠ 0 by omega), fset_ne _ _ (show (2 : Nat) ≠ 0 by omega), fset_ne _ _ (show (3 : Nat) ≠ 0 by omega)]
  refine ⟨h1, ⟨by show (lpush (cL g.2 0) ((cL g.2 0).2 0)).1 ≤ 30; simp only [lpush]; omega, l2, l3, l4⟩, h3, h4, ?_, h6, h7, h8, fun e => by have := h9 e; omega, h10⟩
  intro j hj
  simp only [lpush] at hj ⊢
  split
  · exact h5 0 hn
  · exact h5 j (by omega)
theorem X4_ne {M M1 : Mem} {q p y : Nat} {l : Ls Row} (h : QuR M q l) (hn : 0 < l.1) (h30 : l.1 < 30) (e1 : f_X4_head q M = some (p, M)) (e2 : f_X4_extend q M = some (y, M1)) : p ≠ y := by
  obtain ⟨⟨h1, h2, h3⟩, h4, h5, h6, f, h7, h8, h9⟩ := h
  have h10 := (h4 f h7).1
  have hx := fun j hj => (h4 j hj).1
  have hn' : ¬ 30 ≤ l.1 := by omega
  have e1' : f_X4_head q M = some (q + 2 + f, M) := by simp (disch := omega) only [f_X4_head, gI, gL, gF, gR, pI, pZ_0, pZ_1, pZ_z, pL, pF, pR, aI, aL, aF, aR, wI, wL, wF, wR, aN, okZ_0, okZ_1, okZ_z, nar13, sI_mI, sI_mL, sI_mF, sI_mR, sI_mK, sI_mN, sI_mC, sI_mS, sL_mI, sL_mL, sL_mF, sL_mR, sL_mK, sL_mN, sL_mC, sL_mS, sF_mI, sF_mL, sF_mF, sF_mR, sF_mK, sF_mN, sF_mC, sF_mS, sR_mI, sR_mL, sR_mF, sR_mR, sR_mK, sR_mN, sR_mC, sR_mS, Option.bind_some, Option.map_some, bindP, bindX, bindH, ↓reduceIte, and_self, true_and, and_true, ne_eq, not_false_eq_true, not_true_eq_false, reduceCtorEq, Nat.reduceEqDiff, Nat.reduceLeDiff, Nat.reduceLT, Bool.false_eq_true, decide_true, decide_false, up2_eq, up2_ne, up2_nj, up2_fn, cl2_eq, cl2_ne, cl2_fn, nW_add, nW_mul, nW_sub, nW_le, nW_lt, nW_inj, irem_nW, ix_nW, h1, h2, h3, h8, h10]
  have e2' : ∃ M', f_X4_extend q M = some (q + 2 + (f + (l.1 + 1) - 1) % 30, M') := ⟨_, by simp (disch := omega) only [f_X4_extend, f_X4_extend_J19, gI, gL, gF, gR, pI, pZ_0, pZ_1, pZ_z, pL, pF, pR, aI, aL, aF, aR, wI, wL, wF, wR, aN, okZ_0, okZ_1, okZ_z, nar13, sI_mI, sI_mL, sI_mF, sI_mR, sI_mK, sI_mN, sI_mC, sI_mS, sL_mI, sL_mL, sL_mF, sL_mR, sL_mK, sL_mN, sL_mC, sL_mS, sF_mI, sF_mL, sF_mF, sF_mR, sF_mK, sF_mN, sF_mC, sF_mS, sR_mI, sR_mL, sR_mF, sR_mR, sR_mK, sR_mN, sR_mC, sR_mS, Option.bind_some, Option.map_some, bindP, bindX, bindH, ↓reduceIte, and_self, true_and, and_true, ne_eq, not_false_eq_true, not_true_eq_false, reduceCtorEq, Nat.reduceEqDiff, Nat.reduceLeDiff, Nat.reduceLT, Bool.false_eq_true, decide_true, decide_false, up2_eq, up2_ne, up2_nj, up2_fn, cl2_eq, cl2_ne, cl2_fn, nW_add, nW_mul, nW_sub, nW_le, nW_lt, nW_inj, irem_nW, ix_nW, nW_lit, h1, h2, h3, h6, h8, hx, hn']; rfl⟩
  obtain ⟨M', e2'⟩ := e2'
  rw [e1] at e1'
  rw [e2] at e2'
  have q1 := congrArg Prod.fst (Option.some.inj e1')
  have q2 := congrArg Prod.fst (Option.some.inj e2')
  simp only at q1 q2
  omega
/-! receive -/
