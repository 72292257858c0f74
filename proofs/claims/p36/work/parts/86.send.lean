/-! SENDING -/
abbrev GS : Type := (Nat → Int32) × Cl
def tot (sc : Nat → Int32) (i : Nat) : Nat → Int32 := fset sc i (sc i + nW 1)
theorem BaR_tot {M : Mem} {S : Nat} {sc : Nat → Int32} (h : BaR M S sc) (hS : 5 ≤ S ∧ S + 450 ≤ 908) {i : Nat} (hi : i < 10) : Fr (fun a => a = S + 445) M (sI M (up2 (mI M) (S + 445) i (sc i + nW 1))) ∧ BaR (sI M (up2 (mI M) (S + 445) i (sc i + nW 1))) S (tot sc i) := by
  have hz : ¬ tz (S + 445) := by simp only [tz]; omega
  refine andD (fq_I M _ _ hz) (fun F => ?_)
  obtain ⟨⟨h1, ⟨x, h2, h2'⟩, h3⟩, h4, h5, h6, h7, h8⟩ := h
  have n1 : S ≠ S + 445 := by omega
  have n2 : S + 444 ≠ S + 445 := by omega
  refine ⟨⟨h1, ⟨x, h2, h2'.gr F.gr⟩, h3⟩, ?_, h5, ⟨h6.1, fun j hj => ?_⟩, ⟨h7.1, fun j hj => ?_⟩, h8⟩
  · simp (disch := omega) only [sI_mI, sI_mL, sI_mF, sI_mR, sI_mK, sI_mN, sI_mC, sI_mS, sL_mI, sL_mL, sL_mF, sL_mR, sL_mK, sL_mN, sL_mC, sL_mS, sF_mI, sF_mL, sF_mF, sF_mR, sF_mK, sF_mN, sF_mC, sF_mS, sR_mI, sR_mL, sR_mF, sR_mR, sR_mK, sR_mN, sR_mC, sR_mS, up2_ne, tot, fset_ne, h4]
  · simp (disch := omega) only [sI_mI, sI_mL, sI_mF, sI_mR, sI_mK, sI_mN, sI_mC, sI_mS, sL_mI, sL_mL, sL_mF, sL_mR, sL_mK, sL_mN, sL_mC, sL_mS, sF_mI, sF_mL, sF_mF, sF_mR, sF_mK, sF_mN, sF_mC, sF_mS, sR_mI, sR_mL, sR_mF, sR_mR, sR_mK, sR_mN, sR_mC, sR_mS, up2_ne, tot, fset_ne, h6.2 j hj]
  · by_cases he : j = i
    · subst he; simp only [sI_mI, sI_mL, sI_mF, sI_mR, sI_mK, sI_mN, sI_mC, sI_mS, sL_mI, sL_mL, sL_mF, sL_mR, sL_mK, sL_mN, sL_mC, sL_mS, sF_mI, sF_mL, sF_mF, sF_mR, sF_mK, sF_mN, sF_mC, sF_mS, sR_mI, sR_mL, sR_mF, sR_mR, sR_mK, sR_mN, sR_mC, sR_mS, up2_eq, tot, fset_eq]
    · simp (disch := omega) only [sI_mI, sI_mL, sI_mF, sI_mR, sI_mK, sI_mN, sI_mC, sI_mS, sL_mI, sL_mL, sL_mF, sL_mR, sL_mK, sL_mN, sL_mC, sL_mS, sF_mI, sF_mL, sF_mF, sF_mR, sF_mK, sF_mN, sF_mC, sF_mS, sR_mI, sR_mL, sR_mF, sR_mR, sR_mK, sR_mN, sR_mC, sR_mS, up2_nj, tot, fset_ne, h7.2 j hj]
def spRoom (g : GS) : GS := (if (cL g.2 0).1 < 30 then g.1 else tot g.1 8, uI g.2 0 (cI g.2 0 + nW 1))
def spSend (g : GS) (r : Row) : GS := if (cL g.2 0).1 < 30 then (g.1, uL (uI g.2 0 (cI g.2 0 + nW 1)) 0 (lpush (cL g.2 0) r)) else (tot g.1 8, uI g.2 0 (cI g.2 0 + nW 1))
theorem X7_countSent {M : Mem} {S C : Nat} {sc : Nat → Int32} {c : Cl} (hS : 5 ≤ S ∧ S + 450 ≤ 908) (hC : S + 2 ≤ C ∧ C + 60 ≤ S + 362) (hB : BaR M S sc) (hO : ClO M C c) (hQ : QuR M (C + 2) (cL c 0)) : ∃ M', f_X7_countSent S C M = some (zI (decide ((cL c 0).1 < 30)), M') ∧ Fr (fun a => a = C ∨ a = S + 445) M M' ∧ BaR M' S (spRoom (sc, c)).1 ∧ ClO M' C (uI c 0 (cI c 0 + nW 1)) := by
  have hzC : ¬ tz C := by simp only [tz]; omega
  have F1 : Fr (fun a => a = C) M (sI M (up2 (mI M) C 7 (cI c 0 + nW 1))) := fq_I M _ _ hzC
  have B1 := hB.gr F1.gr (by omega)
  have hO1 : ClO (sI M (up2 (mI M) C 7 (cI c 0 + nW 1))) C (uI c 0 (cI c 0 + nW 1)) := by
    obtain ⟨h1, h2, h3, h4, h5, h6⟩ := hO
    refine ⟨h1, ?_, ?_, ?_, h5, ?_⟩
    · simp (disch := omega) only [sI_mI, sI_mL, sI_mF, sI_mR, sI_mK, sI_mN, sI_mC, sI_mS, sL_mI, sL_mL, sL_mF, sL_mR, sL_mK, sL_mN, sL_mC, sL_mS, sF_mI, sF_mL, sF_mF, sF_mR, sF_mK, sF_mN, sF_mC, sF_mS, sR_mI, sR_mL, sR_mF, sR_mR, sR_mK, sR_mN, sR_mC, sR_mS, up2_nj, uB_B, uB_I, uB_F, uB_W, uB_K, uB_N, uB_L, uI_B, uI_I, uI_F, uI_W, uI_K, uI_N, uI_L, uF_B, uF_I, uF_F, uF_W, uF_K, uF_N, uF_L, uW_B, uW_I, uW_F, uW_W, uW_K, uW_N, uW_L, uK_B, uK_I, uK_F, uK_W, uK_K, uK_N, uK_L, uN_B, uN_I, uN_F, uN_W, uN_K, uN_N, uN_L, uL_B, uL_I, uL_F, uL_W, uL_K, uL_N, uL_L, h2]
    · simp (disch := omega) only [sI_mI, sI_mL, sI_mF, sI_mR, sI_mK, sI_mN, sI_mC, sI_mS, sL_mI, sL_mL, sL_mF, sL_mR, sL_mK, sL_mN, sL_mC, sL_mS, sF_mI, sF_mL, sF_mF, sF_mR, sF_mK, sF_mN, sF_mC, sF_mS, sR_mI, sR_mL, sR_mF, sR_mR, sR_mK, sR_mN, sR_mC, sR_mS, up2_nj, uB_B, uB_I, uB_F, uB_W, uB_K, uB_N, uB_L, uI_B, uI_I, uI_F, uI_W, uI_K, uI_N, uI_L, uF_B, uF_I, uF_F, uF_W, uF_K, uF_N, uF_L, uW_B, uW_I, uW_F, uW_W, uW_K, uW_N, uW_L, uK_B, uK_I, uK_F, uK_W, uK_K, uK_N, uK_L, uN_B, uN_I, uN_F, uN_W, uN_K, uN_N, uN_L, uL_B, uL_I, uL_F, uL_W, uL_K, uL_N, uL_L, h3]
    · simp (disch := omega) only [sI_mI, sI_mL, sI_mF, sI_mR, sI_mK, sI_mN, sI_mC, sI_mS, sL_mI, sL_mL, sL_mF, sL_mR, sL_mK, sL_mN, sL_mC, sL_mS, sF_mI, sF_mL, sF_mF, sF_mR, sF_mK, sF_mN, sF_mC, sF_mS, sR_mI, sR_mL, sR_mF, sR_mR, sR_mK, sR_mN, sR_mC, sR_mS, up2_nj, uB_B, uB_I, uB_F, uB_W, uB_K, uB_N, uB_L, uI_B, uI_I, uI_F, uI_W, uI_K, uI_N, uI_L, uF_B, uF_I, uF_F, uF_W, uF_K, uF_N, uF_L, uW_B, uW_I, uW_F, uW_W, uW_K, uW_N, uW_L, uK_B, uK_I, uK_F, uK_W, uK_K, uK_N, uK_L, uN_B, uN_I, uN_F, uN_W, uN_K, uN_N, uN_L, uL_B, uL_I, uL_F, uL_W, uL_K, uL_N, uL_L, h4]
    · simp only [sI_mI, sI_mL, sI_mF, sI_mR, sI_mK, sI_mN, sI_mC, sI_mS, sL_mI, sL_mL, sL_mF, sL_mR, sL_mK, sL_mN, sL_mC, sL_mS, sF_mI, sF_mL, sF_mF, sF_mR, sF_mK, sF_mN, sF_mC, sF_mS, sR_mI, sR_mL, sR_mF, sR_mR, sR_mK, sR_mN, sR_mC, sR_mS, up2_eq, uB_B, uB_I, uB_F, uB_W, uB_K, uB_N, uB_L, uI_B, uI_I, uI_F, uI_W, uI_K, uI_N, uI_L, uF_B, uF_I, uF_F, uF_W, uF_K, uF_N, uF_L, uW_B, uW_I, uW_F, uW_W, uW_K, uW_N, uW_L, uK_B, uK_I, uK_F, uK_W, uK_K, uK_N, uK_L, uN_B, uN_I, uN_F, uN_W, uN_K, uN_N, uN_L, uL_B, uL_I, uL_F, uL_W, uL_K, uL_N, uL_L, fset_eq]
  obtain ⟨⟨o1, o2, o3, o4⟩, o5, o6, o7, o8, o9⟩ := hO
  obtain ⟨⟨q1, q2, q3⟩, q4, q5, q6, q7⟩ := hQ
  obtain ⟨⟨b1, b2, b3, b4, b5, b6, b7, b8⟩, b9, b10, b11, b12, b13⟩ := hB
  have n1 : C + 2 ≠ C := by omega
  have n2 : S + 445 ≠ C := by omega
  by_cases hq : (cL c 0).1 < 30
  · refine ⟨_, by simp (disch := omega) only [f_X7_countSent, gI, gL, gF, gR, pI, pZ_0, pZ_1, pZ_z, pL, pF, pR, aI, aL, aF, aR, wI, wL, wF, wR, aN, okZ_0, okZ_1, okZ_z, nar13, sI_mI, sI_mL, sI_mF, sI_mR, sI_mK, sI_mN, sI_mC, sI_mS, sL_mI, sL_mL, sL_mF, sL_mR, sL_mK, sL_mN, sL_mC, sL_mS, sF_mI, sF_mL, sF_mF, sF_mR, sF_mK, sF_mN, sF_mC, sF_mS, sR_mI, sR_mL, sR_mF, sR_mR, sR_mK, sR_mN, sR_mC, sR_mS, Option.bind_some, Option.map_some, bindP, bindX, bindH, ↓reduceIte, and_self, true_and, and_true, ne_eq, not_false_eq_true, not_true_eq_false, reduceCtorEq, Nat.reduceEqDiff, Nat.reduceLeDiff, Nat.reduceLT, Bool.false_eq_true, decide_true, decide_false, up2_eq, up2_ne, up2_nj, up2_fn, cl2_eq, cl2_ne, cl2_fn, nW_add, nW_mul, nW_sub, nW_le, nW_lt, nW_inj, irem_nW, ix_nW, nW_lit, b1, o1, o3, o9, q1, q6, hq, decide_true, zI_t], F1.mono (fun a h => Or.inl h), ?_, hO1⟩
    simp only [spRoom, hq, ↓reduceIte]; exact B1
  · have T := BaR_tot B1 hS (i := 8) (by omega)
    have e8 : mI M (S + 445) 8 = sc 8 := b12.2 8 (by omega)
    refine ⟨_, by simp (disch := omega) only [f_X7_countSent, gI, gL, gF, gR, pI, pZ_0, pZ_1, pZ_z, pL, pF, pR, aI, aL, aF, aR, wI, wL, wF, wR, aN, okZ_0, okZ_1, okZ_z, nar13, sI_mI, sI_mL, sI_mF, sI_mR, sI_mK, sI_mN, sI_mC, sI_mS, sL_mI, sL_mL, sL_mF, sL_mR, sL_mK, sL_mN, sL_mC, sL_mS, sF_mI, sF_mL, sF_mF, sF_mR, sF_mK, sF_mN, sF_mC, sF_mS, sR_mI, sR_mL, sR_mF, sR_mR, sR_mK, sR_mN, sR_mC, sR_mS, Option.bind_some, Option.map_some, bindP, bindX, bindH, ↓reduceIte, and_self, true_and, and_true, ne_eq, not_false_eq_true, not_true_eq_false, reduceCtorEq, Nat.reduceEqDiff, Nat.reduceLeDiff, Nat.reduceLT, Bool.false_eq_true, decide_true, decide_false, up2_eq, up2_ne, up2_nj, up2_fn, cl2_eq, cl2_ne, cl2_fn, nW_add, nW_mul, nW_sub, nW_le, nW_lt, nW_inj, irem_nW, ix_nW, nW_lit, b1, b7, b12.1, e8, o1, o3, o9, q1, q6, hq, decide_false, zI_f], F1.tr T.1 (fun a h => Or.inl h) (fun a h => Or.inr h), ?_, ?_⟩
    · simp only [spRoom, hq, ↓reduceIte]; exact T.2
    · exact hO1.gr T.1.gr (by omega)
theorem ClO_uL {M : Mem} {C : Nat} {c : Cl} (i : Nat) (l : Ls Row) (h : ClO M C c) : ClO M C (uL c i l) := h
theorem X7_sendSign {M : Mem} {S C : Nat} {sc : Nat → Int32} {c : Cl} (kind id : Int32) (hS : 5 ≤ S ∧ S + 450 ≤ 908) (hC : S + 2 ≤ C ∧ C + 60 ≤ S + 362) (hB : BaR M S sc) (hO : ClO M C c) (hQ : QuR M (C + 2) (cL c 0)) : ∃ M', f_X7_sendSign S C kind id M = some M' ∧ Fr (fun a => a = C ∨ (C + 2 ≤ a ∧ a < C + 34) ∨ a = S + 445) M M' ∧ BaR M' S (spSend (sc, c) (mkPk [] kind id (nW 0) (nW 0) (nW 0))).1 ∧ ClO M' C (spSend (sc, c) (mkPk [] kind id (nW 0) (nW 0) (nW 0))).2 ∧ QuR M' (C + 2) (cL (spSend (sc, c) (mkPk [] kind id (nW 0) (nW 0) (nW 0))).2 0) := by
  obtain ⟨M1, e1, F1, B1, O1⟩ := X7_countSent hS hC hB hO hQ
  have Q1 := hQ.gr F1.gr (by intro a _ _; omega)
  have k7 := hB.1.1
  by_cases hq : (cL c 0).1 < 30
  · obtain ⟨x, M2, e2, F2, ⟨x1, x2, x3⟩, K⟩ := X4_extend Q1 (by omega) hq
    have B2 := B1.gr F2.gr (by omega)
    obtain ⟨y, hy, hty⟩ := B2.1.2.1
    have hky : (mK M2 y).1 ≠ 99 := by rw [hty.2.1.1]; decide
    have k72 := B2.1.1
    have e4 := O1.1.2.2.1
    have k0 := O1.1.1
    have hzx : ¬ tz x := by simp only [tz]; omega
    have hSx : S ≠ x := by omega
    simp only [spRoom, hq, ↓reduceIte] at B1 B2
    have fin : ∀ M3, Fr (fun a => a = x) M2 M3 → (Fr (fun a => a = x) M2 M3 → PkR M3 x (mkPk [] kind id (nW 0) (nW 0) (nW 0))) → Fr (fun a => a = C ∨ (C + 2 ≤ a ∧ a < C + 34) ∨ a = S + 445) M M3 ∧ BaR M3 S (spSend (sc, c) (mkPk [] kind id (nW 0) (nW 0) (nW 0))).1 ∧ ClO M3 C (spSend (sc, c) (mkPk [] kind id (nW 0) (nW 0) (nW 0))).2 ∧ QuR M3 (C + 2) (cL (spSend (sc, c) (mkPk [] kind id (nW 0) (nW 0) (nW 0))).2 0) := by
      intro M3 F3 R3
      have G := (F2.tr F3 (R := fun a => a = C + 2 ∨ a = x) (fun a h => Or.inl h) (fun a h => Or.inr h)).gr
      simp only [spSend, hq, ↓reduceIte]
      exact ⟨(F1.tr F2 (R := fun a => a = C ∨ (C + 2 ≤ a ∧ a < C + 34) ∨ a = S + 445) (fun a h => by omega) (fun a h => by omega)).tr F3 (fun a h => h) (fun a h => by omega), B2.gr F3.gr (by omega), ClO_uL 0 _ (O1.gr G (by omega)), by simp only [uL, uB_B, uB_I, uB_F, uB_W, uB_K, uB_N, uB_L, uI_B, uI_I, uI_F, uI_W, uI_K, uI_N, uI_L, uF_B, uF_I, uF_F, uF_W, uF_K, uF_N, uF_L, uW_B, uW_I, uW_F, uW_W, uW_K, uW_N, uW_L, uK_B, uK_I, uK_F, uK_W, uK_K, uK_N, uK_L, uN_B, uN_I, uN_F, uN_W, uN_K, uN_N, uN_L, uL_B, uL_I, uL_F, uL_W, uL_K, uL_N, uL_L, fset_eq]; exact K M3 _ F3 (R3 F3)⟩
    refine ⟨_, by simp (disch := omega) only [f_X7_sendSign, gI, gL, gF, gR, pI, pZ_0, pZ_1, pZ_z, pL, pF, pR, aI, aL, aF, aR, wI, wL, wF, wR, aN, okZ_0, okZ_1, okZ_z, nar13, sI_mI, sI_mL, sI_mF, sI_mR, sI_mK, sI_mN, sI_mC, sI_mS, sL_mI, sL_mL, sL_mF, sL_mR, sL_mK, sL_mN, sL_mC, sL_mS, sF_mI, sF_mL, sF_mF, sF_mR, sF_mK, sF_mN, sF_mC, sF_mS, sR_mI, sR_mL, sR_mF, sR_mR, sR_mK, sR_mN, sR_mC, sR_mS, Option.bind_some, Option.map_some, bindP, bindX, bindH, ↓reduceIte, and_self, true_and, and_true, ne_eq, not_false_eq_true, not_true_eq_false, reduceCtorEq, Nat.reduceEqDiff, Nat.reduceLeDiff, Nat.reduceLT, Bool.false_eq_true, decide_true, decide_false, up2_eq, up2_ne, up2_nj, up2_fn, cl2_eq, cl2_ne, cl2_fn, nW_add, nW_mul, nW_sub, nW_le, nW_lt, nW_inj, irem_nW, ix_nW, nW_lit, k7, e1, hq, decide_true, zI_t, k0, e4, e2, x3, hy, hky, k72, and_self, ne_eq, not_false_eq_true, true_and, and_true]; rfl, ?_⟩
    refine fin _ ⟨rfl, ⟨rfl, rfl, rfl⟩, fun b hb => ?_⟩ (fun F3 => ?_)
    · have hne : b ≠ x := by rintro rfl; exact hb.elim hzx (fun h => h rfl)
      exact ⟨by simp only [sI_mI, sI_mL, sI_mF, sI_mR, sI_mK, sI_mN, sI_mC, sI_mS, sL_mI, sL_mL, sL_mF, sL_mR, sL_mK, sL_mN, sL_mC, sL_mS, sF_mI, sF_mL, sF_mF, sF_mR, sF_mK, sF_mN, sF_mC, sF_mS, sR_mI, sR_mL, sR_mF, sR_mR, sR_mK, sR_mN, sR_mC, sR_mS, up2_fn _ _ _ hne], rfl, rfl, by simp only [sI_mI, sI_mL, sI_mF, sI_mR, sI_mK, sI_mN, sI_mC, sI_mS, sL_mI, sL_mL, sL_mF, sL_mR, sL_mK, sL_mN, sL_mC, sL_mS, sF_mI, sF_mL, sF_mF, sF_mR, sF_mK, sF_mN, sF_mC, sF_mS, sR_mI, sR_mL, sR_mF, sR_mR, sR_mK, sR_mN, sR_mC, sR_mS, up2_fn _ _ _ hne]⟩
    · exact ⟨x3, by simp (disch := omega) only [sI_mI, sI_mL, sI_mF, sI_mR, sI_mK, sI_mN, sI_mC, sI_mS, sL_mI, sL_mL, sL_mF, sL_mR, sL_mK, sL_mN, sL_mC, sL_mS, sF_mI, sF_mL, sF_mF, sF_mR, sF_mK, sF_mN, sF_mC, sF_mS, sR_mI, sR_mL, sR_mF, sR_mR, sR_mK, sR_mN, sR_mC, sR_mS, up2_eq, up2_ne, up2_nj, up2_fn, cl2_eq, cl2_ne, cl2_fn, mkPk, ↓reduceIte, reduceCtorEq, Nat.reduceEqDiff, and_self], y, by simp (disch := omega) only [sI_mI, sI_mL, sI_mF, sI_mR, sI_mK, sI_mN, sI_mC, sI_mS, sL_mI, sL_mL, sL_mF, sL_mR, sL_mK, sL_mN, sL_mC, sL_mS, sF_mI, sF_mL, sF_mF, sF_mR, sF_mK, sF_mN, sF_mC, sF_mS, sR_mI, sR_mL, sR_mF, sR_mR, sR_mK, sR_mN, sR_mC, sR_mS, up2_eq, up2_ne, up2_nj, up2_fn, cl2_eq, cl2_ne, cl2_fn], hty.gr F3.gr⟩
  · refine ⟨M1, by simp (disch := omega) only [f_X7_sendSign, gI, gL, gF, gR, pI, pZ_0, pZ_1, pZ_z, pL, pF, pR, aI, aL, aF, aR, wI, wL, wF, wR, aN, okZ_0, okZ_1, okZ_z, nar13, sI_mI, sI_mL, sI_mF, sI_mR, sI_mK, sI_mN, sI_mC, sI_mS, sL_mI, sL_mL, sL_mF, sL_mR, sL_mK, sL_mN, sL_mC, sL_mS, sF_mI, sF_mL, sF_mF, sF_mR, sF_mK, sF_mN, sF_mC, sF_mS, sR_mI, sR_mL, sR_mF, sR_mR, sR_mK, sR_mN, sR_mC, sR_mS, Option.bind_some, Option.map_some, bindP, bindX, bindH, ↓reduceIte, and_self, true_and, and_true, ne_eq, not_false_eq_true, not_true_eq_false, reduceCtorEq, Nat.reduceEqDiff, Nat.reduceLeDiff, Nat.reduceLT, Bool.false_eq_true, decide_true, decide_false, up2_eq, up2_ne, up2_nj, up2_fn, cl2_eq, cl2_ne, cl2_fn, nW_lit, k7, e1, hq, decide_false, zI_f], F1.mono (fun a h => by omega), ?_⟩
    simp only [spSend, spRoom, hq, ↓reduceIte] at B1 ⊢
    exact ⟨B1, O1, Q1⟩
def setSent (r : Row) (t : Int32) : Row := (r.1, fset r.2 6 t)
theorem X7_sendMessage {M : Mem} {S C m : Nat} {sc : Nat → Int32} {c : Cl} {r : Row} (fl : Int32) (hS : 5 ≤ S ∧ S + 450 ≤ 908) (hC : S + 2 ≤ C ∧ C + 60 ≤ S + 362) (hB : BaR M S sc) (hO : ClO M C c) (hQ : QuR M (C + 2) (cL c 0)) (hm : MsR M m r) (hd : m ≠ C ∧ ¬ (C + 2 ≤ m ∧ m < C + 34) ∧ m ≠ S ∧ m ≠ S + 1 ∧ m ≠ S + 444 ∧ m ≠ S + 445 ∧ ¬ tz m) : ∃ M', f_X7_sendMessage S C m fl M = some M' ∧ Fr (fun a => a = m ∨ a = C ∨ (C + 2 ≤ a ∧ a < C + 34) ∨ a = S + 445) M M' ∧ MsR M' m (setSent r (sc 14)) ∧ BaR M' S (spSend (sc, c) (mkPk r.1 (nW 0) (r.2 4) (r.2 1) (r.2 2) (r.2 3 + fl))).1 ∧ ClO M' C (spSend (sc, c) (mkPk r.1 (nW 0) (r.2 4) (r.2 1) (r.2 2) (r.2 3 + fl))).2 ∧ QuR M' (C + 2) (cL (spSend (sc, c) (mkPk r.1 (nW 0) (r.2 4) (r.2 1) (r.2 2) (r.2 3 + fl))).2 0) := by
  obtain ⟨d1, d2, d3, d4, d5, d6, d7⟩ := hd
  have F0 : Fr (fun a => a = m) M (sI M (up2 (mI M) m 6 (sc 14))) := fq_I M _ _ d7
  have hm0 : MsR (sI M (up2 (mI M) m 6 (sc 14))) m (setSent r (sc 14)) := by
    obtain ⟨m1, ⟨m2, m3, m4, m5, m6, m7⟩, y, m8, m9⟩ := hm
    refine ⟨m1, ?_, y, m8, m9.gr F0.gr⟩
    simp (disch := omega) only [sI_mI, sI_mL, sI_mF, sI_mR, sI_mK, sI_mN, sI_mC, sI_mS, sL_mI, sL_mL, sL_mF, sL_mR, sL_mK, sL_mN, sL_mC, sL_mS, sF_mI, sF_mL, sF_mF, sF_mR, sF_mK, sF_mN, sF_mC, sF_mS, sR_mI, sR_mL, sR_mF, sR_mR, sR_mK, sR_mN, sR_mC, sR_mS, up2_nj, up2_eq, setSent, fset_ne, fset_eq, m2, m3, m4, m5, m6, and_self]
  obtain ⟨M1, e1, F1, B1, O1⟩ := X7_countSent hS hC (hB.gr F0.gr (by omega)) (hO.gr F0.gr (by omega)) (hQ.gr F0.gr (by intro a _ _; omega))
  have F01 := F0.tr F1 (R := fun a => a = m ∨ a = C ∨ a = S + 445) (fun a h => Or.inl h) (fun a h => Or.inr h)
  have Q1 := (hQ.gr F0.gr (by intro a _ _; omega)).gr F1.gr (by intro a _ _; omega)
  have hm1 := hm0.gr F1.gr (by omega)
  have k7 := hB.1.1
  have k9 := hB.2.1
  have km := hm.1
  by_cases hq : (cL c 0).1 < 30
  · obtain ⟨x, M2, e2, F2, ⟨x1, x2, x3⟩, K⟩ := X4_extend Q1 (by omega) hq
    have B2 := B1.gr F2.gr (by omega)
    have hm2 := hm1.gr F2.gr (by omega)
    obtain ⟨m1, ⟨m2, m3, m4, m5, m6, m7⟩, y, hy, hty⟩ := hm2
    have hky : (mK M2 y).1 ≠ 99 := by rw [hty.2.1.1]; decide
    have k72 := B2.1.1
    have e4 := O1.1.2.2.1
    have k0 := O1.1.1
    have hzx : ¬ tz x := by simp only [tz]; omega
    have hmx : m ≠ x := by omega
    simp only [spRoom, hq, ↓reduceIte] at B1 B2
    simp (disch := omega) only [setSent, fset_ne] at m2 m3 m4 m5 m6
    have fin : ∀ M3, Fr (fun a => a = x) M2 M3 → (Fr (fun a => a = x) M2 M3 → PkR M3 x (mkPk r.1 (nW 0) (r.2 4) (r.2 1) (r.2 2) (r.2 3 + fl))) → Fr (fun a => a = m ∨ a = C ∨ (C + 2 ≤ a ∧ a < C + 34) ∨ a = S + 445) M M3 ∧ MsR M3 m (setSent r (sc 14)) ∧ BaR M3 S (spSend (sc, c) (mkPk r.1 (nW 0) (r.2 4) (r.2 1) (r.2 2) (r.2 3 + fl))).1 ∧ ClO M3 C (spSend (sc, c) (mkPk r.1 (nW 0) (r.2 4) (r.2 1) (r.2 2) (r.2 3 + fl))).2 ∧ QuR M3 (C + 2) (cL (spSend (sc, c) (mkPk r.1 (nW 0) (r.2 4) (r.2 1) (r.2 2) (r.2 3 + fl))).2 0) := by
      intro M3 F3 R3
      have G := F2.tr F3 (R := fun a => a = C + 2 ∨ a = x) (fun a h => Or.inl h) (fun a h => Or.inr h)
      simp only [spSend, hq, ↓reduceIte]
      exact ⟨F01.tr G (fun a h => by omega) (fun a h => by omega), hm1.gr G.gr (by omega), B2.gr F3.gr (by omega), ClO_uL 0 _ (O1.gr G.gr (by omega)), by simp only [uL, uB_B, uB_I, uB_F, uB_W, uB_K, uB_N, uB_L, uI_B, uI_I, uI_F, uI_W, uI_K, uI_N, uI_L, uF_B, uF_I, uF_F, uF_W, uF_K, uF_N, uF_L, uW_B, uW_I, uW_F, uW_W, uW_K, uW_N, uW_L, uK_B, uK_I, uK_F, uK_W, uK_K, uK_N, uK_L, uN_B, uN_I, uN_F, uN_W, uN_K, uN_N, uN_L, uL_B, uL_I, uL_F, uL_W, uL_K, uL_N, uL_L, fset_eq]; exact K M3 _ F3 (R3 F3)⟩
    refine ⟨_, by simp (disch := omega) only [f_X7_sendMessage, gI, gL, gF, gR, pI, pZ_0, pZ_1, pZ_z, pL, pF, pR, aI, aL, aF, aR, wI, wL, wF, wR, aN, okZ_0, okZ_1, okZ_z, nar13, sI_mI, sI_mL, sI_mF, sI_mR, sI_mK, sI_mN, sI_mC, sI_mS, sL_mI, sL_mL, sL_mF, sL_mR, sL_mK, sL_mN, sL_mC, sL_mS, sF_mI, sF_mL, sF_mF, sF_mR, sF_mK, sF_mN, sF_mC, sF_mS, sR_mI, sR_mL, sR_mF, sR_mR, sR_mK, sR_mN, sR_mC, sR_mS, Option.bind_some, Option.map_some, bindP, bindX, bindH, ↓reduceIte, and_self, true_and, and_true, ne_eq, not_false_eq_true, not_true_eq_false, reduceCtorEq, Nat.reduceEqDiff, Nat.reduceLeDiff, Nat.reduceLT, Bool.false_eq_true, decide_true, decide_false, up2_eq, up2_ne, up2_nj, up2_fn, cl2_eq, cl2_ne, cl2_fn, nW_add, nW_mul, nW_sub, nW_le, nW_lt, nW_inj, irem_nW, ix_nW, nW_lit, k7, k9, km, e1, hq, decide_true, zI_t, k0, e4, e2, x3, m1, m2, m3, m4, m5, m6, hy, hky, k72, and_self, ne_eq, not_false_eq_true, true_and, and_true]; rfl, ?_⟩
    refine fin _ ⟨rfl, ⟨rfl, rfl, rfl⟩, fun b hb => ?_⟩ (fun F3 => ?_)
    · have hne : b ≠ x := by rintro rfl; exact hb.elim hzx (fun h => h rfl)
      exact ⟨by simp only [sI_mI, sI_mL, sI_mF, sI_mR, sI_mK, sI_mN, sI_mC, sI_mS, sL_mI, sL_mL, sL_mF, sL_mR, sL_mK, sL_mN, sL_mC, sL_mS, sF_mI, sF_mL, sF_mF, sF_mR, sF_mK, sF_mN, sF_mC, sF_mS, sR_mI, sR_mL, sR_mF, sR_mR, sR_mK, sR_mN, sR_mC, sR_mS, up2_fn _ _ _ hne], rfl, rfl, by simp only [sI_mI, sI_mL, sI_mF, sI_mR, sI_mK, sI_mN, sI_mC, sI_mS, sL_mI, sL_mL, sL_mF, sL_mR, sL_mK, sL_mN, sL_mC, sL_mS, sF_mI, sF_mL, sF_mF, sF_mR, sF_mK, sF_mN, sF_mC, sF_mS, sR_mI, sR_mL, sR_mF, sR_mR, sR_mK, sR_mN, sR_mC, sR_mS, up2_fn _ _ _ hne]⟩
    · exact ⟨x3, by simp (disch := omega) only [sI_mI, sI_mL, sI_mF, sI_mR, sI_mK, sI_mN, sI_mC, sI_mS, sL_mI, sL_mL, sL_mF, sL_mR, sL_mK, sL_mN, sL_mC, sL_mS, sF_mI, sF_mL, sF_mF, sF_mR, sF_mK, sF_mN, sF_mC, sF_mS, sR_mI, sR_mL, sR_mF, sR_mR, sR_mK, sR_mN, sR_mC, sR_mS, up2_eq, up2_ne, up2_nj, up2_fn, cl2_eq, cl2_ne, cl2_fn, mkPk, ↓reduceIte, reduceCtorEq, Nat.reduceEqDiff, and_self], y, by simp (disch := omega) only [sI_mI, sI_mL, sI_mF, sI_mR, sI_mK, sI_mN, sI_mC, sI_mS, sL_mI, sL_mL, sL_mF, sL_mR, sL_mK, sL_mN, sL_mC, sL_mS, sF_mI, sF_mL, sF_mF, sF_mR, sF_mK, sF_mN, sF_mC, sF_mS, sR_mI, sR_mL, sR_mF, sR_mR, sR_mK, sR_mN, sR_mC, sR_mS, up2_eq, up2_ne, up2_nj, up2_fn, cl2_eq, cl2_ne, cl2_fn], hty.gr F3.gr⟩
  · refine ⟨M1, by simp (disch := omega) only [f_X7_sendMessage, gI, gL, gF, gR, pI, pZ_0, pZ_1, pZ_z, pL, pF, pR, aI, aL, aF, aR, wI, wL, wF, wR, aN, okZ_0, okZ_1, okZ_z, nar13, sI_mI, sI_mL, sI_mF, sI_mR, sI_mK, sI_mN, sI_mC, sI_mS, sL_mI, sL_mL, sL_mF, sL_mR, sL_mK, sL_mN, sL_mC, sL_mS, sF_mI, sF_mL, sF_mF, sF_mR, sF_mK, sF_mN, sF_mC, sF_mS, sR_mI, sR_mL, sR_mF, sR_mR, sR_mK, sR_mN, sR_mC, sR_mS, Option.bind_some, Option.map_some, bindP, bindX, bindH, ↓reduceIte, and_self, true_and, and_true, ne_eq, not_false_eq_true, not_true_eq_false, reduceCtorEq, Nat.reduceEqDiff, Nat.reduceLeDiff, Nat.reduceLT, Bool.false_eq_true, decide_true, decide_false, up2_eq, up2_ne, up2_nj, up2_fn, cl2_eq, cl2_ne, cl2_fn, nW_lit, k7, k9, km, e1, hq, decide_false, zI_f], F01.mono (fun a h => by omega), hm1, ?_⟩
    simp only [spSend, spRoom, hq, ↓reduceIte] at B1 ⊢
    exact ⟨B1, O1, Q1⟩
