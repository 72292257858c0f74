/-! A SESSION'S ROWS written, in the class -/
def inC (C : Nat) : Prop := 5 ≤ C ∧ C + 60 ≤ 908
theorem inS.c {S C : Nat} (h : inS S C) : inC C := ⟨by have := h.2.1; have := h.1.1; omega, by have := h.2.2; have := h.1.2; omega⟩
theorem SubsR_rowP {M : Mem} {a : Nat} {l : Ls Row} (h : SubsR M a l) {j : Nat} (hj : j < l.1) : ∃ p, aR 22 a (nW j) M = some p ∧ (a + 1 ≤ p ∧ p < a + 7) ∧ SuR M p (l.2 j) ∧ ∀ P M' r, Gr P M M' → (∀ b, a ≤ b → b < a + 7 → b ≠ p → ¬ P b) → SuR M' p r → SubsR M' a (lset l j r) := by
  obtain ⟨h1, p, h2, h3⟩ := h
  have h4 := h2.2.1 j (by omega)
  refine ⟨p j, by simp (disch := omega) only [aR, h2.1, ↓reduceIte, ix_nW, Option.bind_some, h4.1], h4.2.2, h3 j hj, fun P M' r G hP hr => ⟨h1, p, h2.gr G (by decide) (by decide) (hP _ (by omega) (by omega) (by omega)), fun i hi => ?_⟩⟩
  have hi' : i < l.1 := hi
  by_cases he : i = j
  · subst he; simp only [lset, ↓reduceIte]; exact hr
  · simp only [lset, he, ↓reduceIte]
    have h8 := h2.2.1 i (by omega)
    exact (h3 i hi').gr G (hP _ (by omega) (by omega) (fun hh => he (h2.2.2 i j (by omega) (by omega) hh)))
theorem SuR_put {M : Mem} {m : Nat} {r : Row} (f : Nat) (x : Int32) (h : SuR M m r) (hz : ¬ tz m) : ∃ M1, pI 8 f m x M = some M1 ∧ Fr (fun a => a = m) M M1 ∧ SuR M1 m (r.1, fset r.2 f x) := by
  obtain ⟨h1, ⟨i1, i2, i3⟩, y, h3, h4⟩ := h
  refine ⟨sI M (up2 (mI M) m f x), by simp only [pI, h1, ↓reduceIte], andD (fq_I M f x hz) (fun F => ⟨h1, ?_, y, h3, h4.gr F.gr⟩)⟩
  simp only [sI_mI, sI_mL, sI_mF, sI_mR, sI_mK, sI_mN, sI_mC, sI_mS, sL_mI, sL_mL, sL_mF, sL_mR, sL_mK, sL_mN, sL_mC, sL_mS, sF_mI, sF_mL, sF_mF, sF_mR, sF_mK, sF_mN, sF_mC, sF_mS, sR_mI, sR_mL, sR_mF, sR_mR, sR_mK, sR_mN, sR_mC, sR_mS, up2, fset, true_and, i1, i2, i3, and_self]
theorem X8_fill {M : Mem} {p x : Nat} {t : Txt} (gr : Int32) (hp : (mK M p).1 = 8) (hx : TextR M x t) (hz : ¬ tz p) : ∃ M1 M2 M3 M4, pR 8 0 p x M = some M1 ∧ pI 8 1 p gr M1 = some M2 ∧ pI 8 2 p (nW 0) M2 = some M3 ∧ pI 8 3 p (nW 0) M3 = some M4 ∧ Fr (fun a => a = p) M M4 ∧ SuR M4 p (mkSu t gr (nW 0) (nW 0)) := by
  have hk : (mK M x).1 ≠ 99 := by rw [hx.2.1.1]; decide
  refine ⟨_, _, _, _, by simp only [pR, hp, hk, ne_eq, not_false_eq_true, and_self, ↓reduceIte]; rfl, by simp only [pI, sI_mI, sI_mL, sI_mF, sI_mR, sI_mK, sI_mN, sI_mC, sI_mS, sL_mI, sL_mL, sL_mF, sL_mR, sL_mK, sL_mN, sL_mC, sL_mS, sF_mI, sF_mL, sF_mF, sF_mR, sF_mK, sF_mN, sF_mC, sF_mS, sR_mI, sR_mL, sR_mF, sR_mR, sR_mK, sR_mN, sR_mC, sR_mS, hp, ↓reduceIte]; rfl, by simp only [pI, sI_mI, sI_mL, sI_mF, sI_mR, sI_mK, sI_mN, sI_mC, sI_mS, sL_mI, sL_mL, sL_mF, sL_mR, sL_mK, sL_mN, sL_mC, sL_mS, sF_mI, sF_mL, sF_mF, sF_mR, sF_mK, sF_mN, sF_mC, sF_mS, sR_mI, sR_mL, sR_mF, sR_mR, sR_mK, sR_mN, sR_mC, sR_mS, hp, ↓reduceIte]; rfl, by simp only [pI, sI_mI, sI_mL, sI_mF, sI_mR, sI_mK, sI_mN, sI_mC, sI_mS, sL_mI, sL_mL, sL_mF, sL_mR, sL_mK, sL_mN, sL_mC, sL_mS, sF_mI, sF_mL, sF_mF, sF_mR, sF_mK, sF_mN, sF_mC, sF_mS, sR_mI, sR_mL, sR_mF, sR_mR, sR_mK, sR_mN, sR_mC, sR_mS, hp, ↓reduceIte]; rfl, ?_⟩
  refine andD ⟨rfl, ⟨rfl, rfl, rfl⟩, fun c hc => ?_⟩ (fun F => ?_)
  · have hne : c ≠ p := by rintro rfl; exact hc.elim hz (fun h => h rfl)
    exact ⟨by simp only [sI_mI, sI_mL, sI_mF, sI_mR, sI_mK, sI_mN, sI_mC, sI_mS, sL_mI, sL_mL, sL_mF, sL_mR, sL_mK, sL_mN, sL_mC, sL_mS, sF_mI, sF_mL, sF_mF, sF_mR, sF_mK, sF_mN, sF_mC, sF_mS, sR_mI, sR_mL, sR_mF, sR_mR, sR_mK, sR_mN, sR_mC, sR_mS, up2_fn _ _ _ hne], rfl, rfl, by simp only [sI_mI, sI_mL, sI_mF, sI_mR, sI_mK, sI_mN, sI_mC, sI_mS, sL_mI, sL_mL, sL_mF, sL_mR, sL_mK, sL_mN, sL_mC, sL_mS, sF_mI, sF_mL, sF_mF, sF_mR, sF_mK, sF_mN, sF_mC, sF_mS, sR_mI, sR_mL, sR_mF, sR_mR, sR_mK, sR_mN, sR_mC, sR_mS, up2_fn _ _ _ hne]⟩
  · exact ⟨hp, by simp (disch := omega) only [sI_mI, sI_mL, sI_mF, sI_mR, sI_mK, sI_mN, sI_mC, sI_mS, sL_mI, sL_mL, sL_mF, sL_mR, sL_mK, sL_mN, sL_mC, sL_mS, sF_mI, sF_mL, sF_mF, sF_mR, sF_mK, sF_mN, sF_mC, sF_mS, sR_mI, sR_mL, sR_mF, sR_mR, sR_mK, sR_mN, sR_mC, sR_mS, up2_eq, up2_ne, up2_nj, up2_fn, cl2_eq, cl2_ne, cl2_fn, mkSu, ↓reduceIte, reduceCtorEq, Nat.reduceEqDiff, and_self], x, by simp (disch := omega) only [sI_mI, sI_mL, sI_mF, sI_mR, sI_mK, sI_mN, sI_mC, sI_mS, sL_mI, sL_mL, sL_mF, sL_mR, sL_mK, sL_mN, sL_mC, sL_mS, sF_mI, sF_mL, sF_mF, sF_mR, sF_mK, sF_mN, sF_mC, sF_mS, sR_mI, sR_mL, sR_mF, sR_mR, sR_mK, sR_mN, sR_mC, sR_mS, up2_eq, up2_ne, up2_nj, up2_fn, cl2_eq, cl2_ne, cl2_fn], hx.gr F.gr⟩
/-- a session's subscriptions are another list -/
theorem SeO_L3 {M : Mem} {s : Nat} {c : Cl} {n : Nat} (l : Ls Row) (h : SeO M s c) (hz : ¬ tz s) (hn : l.1 = n) : ∃ M1, pI 5 7 s (nW n) M = some M1 ∧ Fr (fun a => a = s) M M1 ∧ SeO M1 s (uL c 3 l) := by
  subst hn
  obtain ⟨h1, h2, h3, h4, h5, h6, h7, h8⟩ := h
  refine ⟨sI M (up2 (mI M) s 7 (nW l.1)), by simp only [pI, h1.1, ↓reduceIte], fq_I M 7 _ hz, h1, ?_, ?_, ?_, ?_, ?_, ?_, h8⟩
  · simp (disch := omega) only [sI_mI, sI_mL, sI_mF, sI_mR, sI_mK, sI_mN, sI_mC, sI_mS, sL_mI, sL_mL, sL_mF, sL_mR, sL_mK, sL_mN, sL_mC, sL_mS, sF_mI, sF_mL, sF_mF, sF_mR, sF_mK, sF_mN, sF_mC, sF_mS, sR_mI, sR_mL, sR_mF, sR_mR, sR_mK, sR_mN, sR_mC, sR_mS, up2_nj, uB_B, uB_I, uB_F, uB_W, uB_K, uB_N, uB_L, uI_B, uI_I, uI_F, uI_W, uI_K, uI_N, uI_L, uF_B, uF_I, uF_F, uF_W, uF_K, uF_N, uF_L, uW_B, uW_I, uW_F, uW_W, uW_K, uW_N, uW_L, uK_B, uK_I, uK_F, uK_W, uK_K, uK_N, uK_L, uN_B, uN_I, uN_F, uN_W, uN_K, uN_N, uN_L, uL_B, uL_I, uL_F, uL_W, uL_K, uL_N, uL_L, h2]
  · simp (disch := omega) only [sI_mI, sI_mL, sI_mF, sI_mR, sI_mK, sI_mN, sI_mC, sI_mS, sL_mI, sL_mL, sL_mF, sL_mR, sL_mK, sL_mN, sL_mC, sL_mS, sF_mI, sF_mL, sF_mF, sF_mR, sF_mK, sF_mN, sF_mC, sF_mS, sR_mI, sR_mL, sR_mF, sR_mR, sR_mK, sR_mN, sR_mC, sR_mS, up2_nj, uB_B, uB_I, uB_F, uB_W, uB_K, uB_N, uB_L, uI_B, uI_I, uI_F, uI_W, uI_K, uI_N, uI_L, uF_B, uF_I, uF_F, uF_W, uF_K, uF_N, uF_L, uW_B, uW_I, uW_F, uW_W, uW_K, uW_N, uW_L, uK_B, uK_I, uK_F, uK_W, uK_K, uK_N, uK_L, uN_B, uN_I, uN_F, uN_W, uN_K, uN_N, uN_L, uL_B, uL_I, uL_F, uL_W, uL_K, uL_N, uL_L, h3]
  · simp (disch := omega) only [sI_mI, sI_mL, sI_mF, sI_mR, sI_mK, sI_mN, sI_mC, sI_mS, sL_mI, sL_mL, sL_mF, sL_mR, sL_mK, sL_mN, sL_mC, sL_mS, sF_mI, sF_mL, sF_mF, sF_mR, sF_mK, sF_mN, sF_mC, sF_mS, sR_mI, sR_mL, sR_mF, sR_mR, sR_mK, sR_mN, sR_mC, sR_mS, up2_nj, uB_B, uB_I, uB_F, uB_W, uB_K, uB_N, uB_L, uI_B, uI_I, uI_F, uI_W, uI_K, uI_N, uI_L, uF_B, uF_I, uF_F, uF_W, uF_K, uF_N, uF_L, uW_B, uW_I, uW_F, uW_W, uW_K, uW_N, uW_L, uK_B, uK_I, uK_F, uK_W, uK_K, uK_N, uK_L, uN_B, uN_I, uN_F, uN_W, uN_K, uN_N, uN_L, uL_B, uL_I, uL_F, uL_W, uL_K, uL_N, uL_L, h4]
  · simp (disch := omega) only [sI_mI, sI_mL, sI_mF, sI_mR, sI_mK, sI_mN, sI_mC, sI_mS, sL_mI, sL_mL, sL_mF, sL_mR, sL_mK, sL_mN, sL_mC, sL_mS, sF_mI, sF_mL, sF_mF, sF_mR, sF_mK, sF_mN, sF_mC, sF_mS, sR_mI, sR_mL, sR_mF, sR_mR, sR_mK, sR_mN, sR_mC, sR_mS, up2_nj, uB_B, uB_I, uB_F, uB_W, uB_K, uB_N, uB_L, uI_B, uI_I, uI_F, uI_W, uI_K, uI_N, uI_L, uF_B, uF_I, uF_F, uF_W, uF_K, uF_N, uF_L, uW_B, uW_I, uW_F, uW_W, uW_K, uW_N, uW_L, uK_B, uK_I, uK_F, uK_W, uK_K, uK_N, uK_L, uN_B, uN_I, uN_F, uN_W, uN_K, uN_N, uN_L, uL_B, uL_I, uL_F, uL_W, uL_K, uL_N, uL_L, h5]
  · simp (disch := omega) only [sI_mI, sI_mL, sI_mF, sI_mR, sI_mK, sI_mN, sI_mC, sI_mS, sL_mI, sL_mL, sL_mF, sL_mR, sL_mK, sL_mN, sL_mC, sL_mS, sF_mI, sF_mL, sF_mF, sF_mR, sF_mK, sF_mN, sF_mC, sF_mS, sR_mI, sR_mL, sR_mF, sR_mR, sR_mK, sR_mN, sR_mC, sR_mS, up2_nj, uB_B, uB_I, uB_F, uB_W, uB_K, uB_N, uB_L, uI_B, uI_I, uI_F, uI_W, uI_K, uI_N, uI_L, uF_B, uF_I, uF_F, uF_W, uF_K, uF_N, uF_L, uW_B, uW_I, uW_F, uW_W, uW_K, uW_N, uW_L, uK_B, uK_I, uK_F, uK_W, uK_K, uK_N, uK_L, uN_B, uN_I, uN_F, uN_W, uN_K, uN_N, uN_L, uL_B, uL_I, uL_F, uL_W, uL_K, uL_N, uL_L, h6]
  · simp only [sI_mI, sI_mL, sI_mF, sI_mR, sI_mK, sI_mN, sI_mC, sI_mS, sL_mI, sL_mL, sL_mF, sL_mR, sL_mK, sL_mN, sL_mC, sL_mS, sF_mI, sF_mL, sF_mF, sF_mR, sF_mK, sF_mN, sF_mC, sF_mS, sR_mI, sR_mL, sR_mF, sR_mR, sR_mK, sR_mN, sR_mC, sR_mS, up2_eq, uB_B, uB_I, uB_F, uB_W, uB_K, uB_N, uB_L, uI_B, uI_I, uI_F, uI_W, uI_K, uI_N, uI_L, uF_B, uF_I, uF_F, uF_W, uF_K, uF_N, uF_L, uW_B, uW_I, uW_F, uW_W, uW_K, uW_N, uW_L, uK_B, uK_I, uK_F, uK_W, uK_K, uK_N, uK_L, uN_B, uN_I, uN_F, uN_W, uN_K, uN_N, uN_L, uL_B, uL_I, uL_F, uL_W, uL_K, uL_N, uL_L, fset_eq]
theorem ClR_L3gr {P : Nat → Prop} {M M' : Mem} {C : Nat} {c : Cl} {l : Ls Row} (G : Gr P M M') (h : ClR M C c) (hP : ∀ a, (C ≤ a ∧ a < C + 34) ∨ a = C + 35 ∨ (C + 43 ≤ a ∧ a < C + 60) → ¬ P a) (hE : SeO M' (C + 34) (uL c 3 l)) (hl : SubsR M' (C + 36) l) : ClR M' C (uL c 3 l) := by
  obtain ⟨hO, hW, hq, _, hK, hS, hF, hp⟩ := h
  refine ⟨hO.gr G (hP _ (by omega)), hW.gr G (hP _ (by omega)), ?_, hE, hK.gr G (hP _ (by omega)), ?_, ?_, ?_⟩
  · simp only [uB_B, uB_I, uB_F, uB_W, uB_K, uB_N, uB_L, uI_B, uI_I, uI_F, uI_W, uI_K, uI_N, uI_L, uF_B, uF_I, uF_F, uF_W, uF_K, uF_N, uF_L, uW_B, uW_I, uW_F, uW_W, uW_K, uW_N, uW_L, uK_B, uK_I, uK_F, uK_W, uK_K, uK_N, uK_L, uN_B, uN_I, uN_F, uN_W, uN_K, uN_N, uN_L, uL_B, uL_I, uL_F, uL_W, uL_K, uL_N, uL_L, fset_ne _ _ (show (0 : Nat) ≠ 3 by omega)]; exact hq.gr G (fun b _ _ => hP _ (by omega))
  · simp only [uB_B, uB_I, uB_F, uB_W, uB_K, uB_N, uB_L, uI_B, uI_I, uI_F, uI_W, uI_K, uI_N, uI_L, uF_B, uF_I, uF_F, uF_W, uF_K, uF_N, uF_L, uW_B, uW_I, uW_F, uW_W, uW_K, uW_N, uW_L, uK_B, uK_I, uK_F, uK_W, uK_K, uK_N, uK_L, uN_B, uN_I, uN_F, uN_W, uN_K, uN_N, uN_L, uL_B, uL_I, uL_F, uL_W, uL_K, uL_N, uL_L, fset_eq]; exact hl
  · simp only [uB_B, uB_I, uB_F, uB_W, uB_K, uB_N, uB_L, uI_B, uI_I, uI_F, uI_W, uI_K, uI_N, uI_L, uF_B, uF_I, uF_F, uF_W, uF_K, uF_N, uF_L, uW_B, uW_I, uW_F, uW_W, uW_K, uW_N, uW_L, uK_B, uK_I, uK_F, uK_W, uK_K, uK_N, uK_L, uN_B, uN_I, uN_F, uN_W, uN_K, uN_N, uN_L, uL_B, uL_I, uL_F, uL_W, uL_K, uL_N, uL_L, fset_ne _ _ (show (1 : Nat) ≠ 3 by omega)]; exact hF.gr G (fun b _ _ => hP _ (by omega))
  · simp only [uB_B, uB_I, uB_F, uB_W, uB_K, uB_N, uB_L, uI_B, uI_I, uI_F, uI_W, uI_K, uI_N, uI_L, uF_B, uF_I, uF_F, uF_W, uF_K, uF_N, uF_L, uW_B, uW_I, uW_F, uW_W, uW_K, uW_N, uW_L, uK_B, uK_I, uK_F, uK_W, uK_K, uK_N, uK_L, uN_B, uN_I, uN_F, uN_W, uN_K, uN_N, uN_L, uL_B, uL_I, uL_F, uL_W, uL_K, uL_N, uL_L, fset_ne _ _ (show (2 : Nat) ≠ 3 by omega)]; exact hp.gr G (fun b _ _ => hP _ (by omega))
theorem Cl_addSub {M : Mem} {C x : Nat} {c : Cl} {t : Txt} (gr : Int32) (hC : inC C) (h : ClR M C c) (hx : TextR M x t) (hn : (cL c 3).1 < 6) : ∃ M', f_X5_addSubscription (C + 34) x gr M = some M' ∧ Fr (fun a => C + 34 ≤ a ∧ a < C + 43) M M' ∧ ClR M' C (uL c 3 (lpush (cL c 3) (mkSu t gr (nW 0) (nW 0)))) := by
  obtain ⟨c1, c2⟩ := hC
  have hE := h.2.2.2.1
  have hS : SubsR M (C + 36) (cL c 3) := h.2.2.2.2.2.1
  obtain ⟨k1, k2, k3⟩ := SeO_get hE
  obtain ⟨l6, p, hA, hrow⟩ := hS
  have hp := hA.2.1 (cL c 3).1 hn
  have hzp : ¬ tz (p (cL c 3).1) := by simp only [tz]; omega
  have hzs : ¬ tz (C + 34) := by simp only [tz]; omega
  obtain ⟨M1, M2, M3, M4, e1, e2, e3, e4, F, R⟩ := X8_fill gr hp.2.1 hx hzp
  have hE4 := hE.gr F.gr (show ¬ C + 34 = p (cL c 3).1 by omega)
  obtain ⟨M5, e5, F5, hE5⟩ := SeO_L3 (lpush (cL c 3) (mkSu t gr (nW 0) (nW 0))) hE4 hzs (n := (cL c 3).1 + 1) rfl
  have F' : Fr (fun a => a = C + 34 ∨ (C + 36 < a ∧ a < C + 43)) M M5 := F.tr F5 (fun a h => by omega) (fun a h => by omega)
  have k4 := (SeO_get hE4).2.1
  have ear : aR 22 (C + 36) (nW (cL c 3).1) M = some (p (cL c 3).1) := by simp (disch := omega) only [aR, hA.1, ↓reduceIte, ix_nW, Option.bind_some, hp.1]
  have n0 : ¬ (cL c 3).1 < 0 := by omega
  have n6 : ¬ 6 ≤ (cL c 3).1 := by omega
  refine ⟨M5, ?_, F'.mono (fun a h => by omega), ClR_L3gr F'.gr h (fun a ha => by omega) hE5 ⟨by simp only [lpush]; omega, p, ?_, fun j hj => ?_⟩⟩
  · simp (disch := omega) only [f_X5_addSubscription, k1, ↓reduceIte, k2, k3, Option.bind_some, nW_lit, nW_lt, nW_le, n0, n6, ear, e1, e2, e3, e4, k4, nW_add, e5]
  · have hA2 := (hA.gr F.gr (by decide) (by decide) (by omega)).gr F5.gr (by decide) (by decide) (by omega)
    exact hA2
  · simp only [lpush] at hj ⊢
    by_cases ej : j = (cL c 3).1
    · subst ej; simp only [↓reduceIte]; exact R.gr F5.gr (by omega)
    · simp only [ej, ↓reduceIte]
      have h8 := hA.2.1 j (by omega)
      exact ((hrow j (by omega)).gr F.gr (fun hh => ej (hA.2.2 j _ (by omega) (by omega) hh))).gr F5.gr (by omega)
theorem Cl_delSub {M : Mem} {C k : Nat} {c : Cl} (hC : inC C) (h : ClR M C c) (hk : k < (cL c 3).1) : ∃ M', f_X5_removeSubscriptionAt (C + 34) (nW k) M = some M' ∧ Fr (fun a => C + 34 ≤ a ∧ a < C + 43) M M' ∧ ClR M' C (uL c 3 (ldel (cL c 3) k)) := by
  obtain ⟨c1, c2⟩ := hC
  have hE := h.2.2.2.1
  have hS : SubsR M (C + 36) (cL c 3) := h.2.2.2.2.2.1
  obtain ⟨k1, k2, k3⟩ := SeO_get hE
  obtain ⟨l6, p, hA, hrow⟩ := hS
  have hp := hA.2.1 k (by omega)
  obtain ⟨M', e, hx, r⟩ := rot_X5_removeSubscriptionAt_L31 (l := C + 34) (free := p k) l6 FU k M p hk (by simp only [FU]; omega) ⟨hE.1.1, hE.1.2.2.1, hE.2.2.2.2.2.2.1, hA.1, hp.2.1⟩ (fun j hj => ⟨(hA.2.1 j hj).1, (hA.2.1 j hj).2.1⟩)
  have F : Fr (fun a => a = C + 34 ∨ a = C + 36) M M' := Fr_ir hx (Or.inl rfl) (Or.inr rfl) (by simp only [tz]; omega)
  have ear : aR 22 (C + 36) (nW k) M = some (p k) := by simp (disch := omega) only [aR, hA.1, ↓reduceIte, ix_nW, Option.bind_some, hp.1]
  have n0 : ¬ k < 0 := by omega
  have n1 : ¬ (cL c 3).1 ≤ k := by omega
  have hE' : SeO M' (C + 34) (uL c 3 (ldel (cL c 3) k)) := by
    obtain ⟨x1, x2, x3, x4, x5, x6, x7, x8⟩ := hx
    obtain ⟨h1, h2, h3, h4, h5, h6, h7, h8⟩ := hE
    unfold SeO
    rw [x5, x1, x4 (C + 34) (by omega)]
    refine ⟨h1, ?_, ?_, ?_, ?_, ?_, ?_, h8⟩
    · simp (disch := omega) only [up2_nj, uB_B, uB_I, uB_F, uB_W, uB_K, uB_N, uB_L, uI_B, uI_I, uI_F, uI_W, uI_K, uI_N, uI_L, uF_B, uF_I, uF_F, uF_W, uF_K, uF_N, uF_L, uW_B, uW_I, uW_F, uW_W, uW_K, uW_N, uW_L, uK_B, uK_I, uK_F, uK_W, uK_K, uK_N, uK_L, uN_B, uN_I, uN_F, uN_W, uN_K, uN_N, uN_L, uL_B, uL_I, uL_F, uL_W, uL_K, uL_N, uL_L, h2]
    · simp (disch := omega) only [up2_nj, uB_B, uB_I, uB_F, uB_W, uB_K, uB_N, uB_L, uI_B, uI_I, uI_F, uI_W, uI_K, uI_N, uI_L, uF_B, uF_I, uF_F, uF_W, uF_K, uF_N, uF_L, uW_B, uW_I, uW_F, uW_W, uW_K, uW_N, uW_L, uK_B, uK_I, uK_F, uK_W, uK_K, uK_N, uK_L, uN_B, uN_I, uN_F, uN_W, uN_K, uN_N, uN_L, uL_B, uL_I, uL_F, uL_W, uL_K, uL_N, uL_L, h3]
    · simp (disch := omega) only [up2_nj, uB_B, uB_I, uB_F, uB_W, uB_K, uB_N, uB_L, uI_B, uI_I, uI_F, uI_W, uI_K, uI_N, uI_L, uF_B, uF_I, uF_F, uF_W, uF_K, uF_N, uF_L, uW_B, uW_I, uW_F, uW_W, uW_K, uW_N, uW_L, uK_B, uK_I, uK_F, uK_W, uK_K, uK_N, uK_L, uN_B, uN_I, uN_F, uN_W, uN_K, uN_N, uN_L, uL_B, uL_I, uL_F, uL_W, uL_K, uL_N, uL_L, h4]
    · simp (disch := omega) only [up2_nj, uB_B, uB_I, uB_F, uB_W, uB_K, uB_N, uB_L, uI_B, uI_I, uI_F, uI_W, uI_K, uI_N, uI_L, uF_B, uF_I, uF_F, uF_W, uF_K, uF_N, uF_L, uW_B, uW_I, uW_F, uW_W, uW_K, uW_N, uW_L, uK_B, uK_I, uK_F, uK_W, uK_K, uK_N, uK_L, uN_B, uN_I, uN_F, uN_W, uN_K, uN_N, uN_L, uL_B, uL_I, uL_F, uL_W, uL_K, uL_N, uL_L, h5]
    · simp (disch := omega) only [up2_nj, uB_B, uB_I, uB_F, uB_W, uB_K, uB_N, uB_L, uI_B, uI_I, uI_F, uI_W, uI_K, uI_N, uI_L, uF_B, uF_I, uF_F, uF_W, uF_K, uF_N, uF_L, uW_B, uW_I, uW_F, uW_W, uW_K, uW_N, uW_L, uK_B, uK_I, uK_F, uK_W, uK_K, uK_N, uK_L, uN_B, uN_I, uN_F, uN_W, uN_K, uN_N, uN_L, uL_B, uL_I, uL_F, uL_W, uL_K, uL_N, uL_L, h6]
    · simp only [up2_eq, uB_B, uB_I, uB_F, uB_W, uB_K, uB_N, uB_L, uI_B, uI_I, uI_F, uI_W, uI_K, uI_N, uI_L, uF_B, uF_I, uF_F, uF_W, uF_K, uF_N, uF_L, uW_B, uW_I, uW_F, uW_W, uW_K, uW_N, uW_L, uK_B, uK_I, uK_F, uK_W, uK_K, uK_N, uK_L, uN_B, uN_I, uN_F, uN_W, uN_K, uN_N, uN_L, uL_B, uL_I, uL_F, uL_W, uL_K, uL_N, uL_L, fset_eq, ldel]
  refine ⟨M', ?_, F.mono (fun a h => by omega), ClR_L3gr F.gr h (fun a ha => by omega) hE' ⟨by simp only [ldel]; omega, fun j => p (rotU k (cL c 3).1 j), ?_, fun j hj => ?_⟩⟩
  · simp (disch := omega) only [f_X5_removeSubscriptionAt, k1, ↓reduceIte, k2, k3, Option.bind_some, nW_lit, nW_lt, nW_le, n0, n1, l6, ear]
    exact e
  · refine Ar_perm (rotU k (cL c 3).1) hA hx.2.2.2.2.1 (fun j hj => rotU_lt hk l6 hj) (fun a b _ _ e => rotU_inj hk e) (fun j hj => ?_)
    rw [← perm_ldel hk p j (p k) rfl]; exact r j hj
  · simp only [ldel] at hj
    by_cases q : j < k
    · simp only [ldel, q, ↓reduceIte, rotU_lo q hk]
      have := hA.2.1 j (by omega)
      exact (hrow j (by omega)).gr F.gr (by omega)
    · simp only [ldel, q, ↓reduceIte, rotU_hi (show k ≤ j by omega) (show j + 1 < (cL c 3).1 by omega)]
      have := hA.2.1 (j + 1) (by omega)
      exact (hrow (j + 1) (by omega)).gr F.gr (by omega)
theorem Cl_setSub {M : Mem} {C k : Nat} {c : Cl} (g o : Int32) (hC : inC C) (h : ClR M C c) (hk : k < (cL c 3).1) : ∃ p, aR 22 (C + 36) (nW k) M = some p ∧ ∃ M1 M2, pI 8 2 p g M = some M1 ∧ (ClO M1 C c ∧ (mK M1 (C + 34)).1 = 5 ∧ mR M1 (C + 34) 6 = some (C + 36) ∧ aR 22 (C + 36) (nW k) M1 = some p) ∧ pI 8 3 p o M1 = some M2 ∧ Fr (fun a => C + 36 < a ∧ a < C + 43) M M1 ∧ Fr (fun a => C + 34 ≤ a ∧ a < C + 43) M M2 ∧ ClR M2 C (uL c 3 (lset (cL c 3) k (((cL c 3).2 k).1, fset (fset ((cL c 3).2 k).2 2 g) 3 o))) := by
  obtain ⟨c1, c2⟩ := hC
  have hE := h.2.2.2.1
  have hS : SubsR M (C + 36) (cL c 3) := h.2.2.2.2.2.1
  obtain ⟨p, e0, ⟨p1, p2⟩, R, back⟩ := SubsR_rowP hS hk
  have hz : ¬ tz p := by simp only [tz]; omega
  obtain ⟨M1, e1, F1, R1⟩ := SuR_put 2 g R hz
  obtain ⟨M2, e2, F2, R2⟩ := SuR_put 3 o R1 hz
  have F : Fr (fun a => a = p) M M2 := F1.trans F2
  have hE1 := hE.gr F1.gr (by omega)
  have hE2 := hE.gr F.gr (by omega)
  have S1 := back _ M1 _ F1.gr (fun b _ _ h => h) R1
  obtain ⟨p', e0', _, _, _⟩ := SubsR_rowP S1 (j := k) hk
  have S2 := back _ M2 _ F.gr (fun b _ _ h => h) R2
  have e0'' : aR 22 (C + 36) (nW k) M1 = some p := by
    rw [← e0]; unfold aR
    rw [F1.1, (F1.2.2 (C + 36) (Or.inr (by omega))).2.2.2]
  refine ⟨p, e0, M1, M2, e1, ⟨h.1.gr F1.gr (by omega), hE1.1.1, hE1.1.2.2.1, e0''⟩, e2, F1.mono (fun a h => by omega), F.mono (fun a h => by omega), ClR_L3gr F.gr h (fun a ha => by omega) ?_ S2⟩
  unfold SeO at hE2 ⊢
  simp only [uB_B, uB_I, uB_F, uB_W, uB_K, uB_N, uB_L, uI_B, uI_I, uI_F, uI_W, uI_K, uI_N, uI_L, uF_B, uF_I, uF_F, uF_W, uF_K, uF_N, uF_L, uW_B, uW_I, uW_F, uW_W, uW_K, uW_N, uW_L, uK_B, uK_I, uK_F, uK_W, uK_K, uK_N, uK_L, uN_B, uN_I, uN_F, uN_W, uN_K, uN_N, uN_L, uL_B, uL_I, uL_F, uL_W, uL_K, uL_N, uL_L, fset_eq, lset]
  exact hE2
/-! kept identifiers -/
theorem Cl_keeps {M : Mem} {C n : Nat} {c : Cl} (h : ClR M C c) (hn : n < 51) : f_X5_keeps (C + 34) (nW n) M = some (zI (cK c n), M) := by
  have hE := h.2.2.2.1
  obtain ⟨hK1, hK2⟩ := h.2.2.2.2.1
  have k1 := hE.1.1
  have k4 : gR 5 4 (C + 34) M = some (C + 35) := by simp only [gR, k1, ↓reduceIte, hE.1.2.1]
  have an : aN (C + 35) M = some (nW 51) := by simp only [aN, hK1]; rfl
  have n0 : ¬ n < 0 := by omega
  have n1 : ¬ 51 ≤ n := by omega
  have ea : aI 17 (C + 35) (nW n) M = some (zI (cK c n)) := by simp (disch := omega) only [aI, hK1, ↓reduceIte, ix_nW, Option.map_some, hK2 n hn]
  simp (disch := omega) only [f_X5_keeps, k1, ↓reduceIte, nW_lit, nW_lt, n0, k4, Option.bind_some, an, nW_le, n1, ea, zI_if]
  have t1 : ¬ nW 1 = nW 0 := by decide
  cases cK c n <;> simp [zI_f, zI_t, okZ_0, okZ_1, t1]
theorem Cl_K {M : Mem} {C n : Nat} {c : Cl} (b : Bool) (m : Nat) (hC : inC C) (h : ClR M C c) (hn : n < 51) (hm : kcnt (fset (cK c) n b) 50 = m) : ∃ M1 M2, wI 17 (C + 35) (nW n) (zI b) M = some M1 ∧ (mK M1 (C + 34)).1 = 5 ∧ mI M1 (C + 34) 5 = nW (kcnt (cK c) 50) ∧ pI 5 5 (C + 34) (nW m) M1 = some M2 ∧ Fr (fun a => C + 34 ≤ a ∧ a < C + 36) M M2 ∧ ClR M2 C (uK c (fset (cK c) n b)) := by
  obtain ⟨c1, c2⟩ := hC
  obtain ⟨hO, hW, hq, hE, ⟨hK1, hK2⟩, hS, hF, hp⟩ := h
  have hz1 : ¬ tz (C + 35) := by simp only [tz]; omega
  have hz2 : ¬ tz (C + 34) := by simp only [tz]; omega
  have F1 := fq_I M n (zI b) hz1
  have E1 := hE.gr F1.gr (show ¬ C + 34 = C + 35 by omega)
  refine ⟨sI M (up2 (mI M) (C + 35) n (zI b)), _, ?_, E1.1.1, E1.2.2.2.2.2.1, by simp only [pI, E1.1.1, ↓reduceIte]; rfl, ?_⟩
  · simp (disch := omega) only [wI, hK1, ↓reduceIte, ix_nW, Option.map_some, nar17]
  · have F2 := fq_I (sI M (up2 (mI M) (C + 35) n (zI b))) 5 (nW m) hz2
    have F : Fr (fun a => C + 34 ≤ a ∧ a < C + 36) M _ := F1.tr F2 (fun a h => by omega) (fun a h => by omega)
    refine ⟨F, hO.gr F.gr (by omega), hW.gr F.gr (by omega), hq.gr F.gr (fun a _ _ => by omega), ?_, ?_, hS.gr F.gr (fun a _ _ => by omega), hF.gr F.gr (fun a _ _ => by omega), hp.gr F.gr (fun a _ _ => by omega)⟩
    · obtain ⟨h1, h2, h3, h4, h5, h6, h7, h8⟩ := E1
      refine ⟨h1, ?_, ?_, ?_, ?_, ?_, ?_, h8⟩
      · simp (disch := omega) only [sI_mI, sI_mL, sI_mF, sI_mR, sI_mK, sI_mN, sI_mC, sI_mS, sL_mI, sL_mL, sL_mF, sL_mR, sL_mK, sL_mN, sL_mC, sL_mS, sF_mI, sF_mL, sF_mF, sF_mR, sF_mK, sF_mN, sF_mC, sF_mS, sR_mI, sR_mL, sR_mF, sR_mR, sR_mK, sR_mN, sR_mC, sR_mS, up2_nj, up2_ne, uB_B, uB_I, uB_F, uB_W, uB_K, uB_N, uB_L, uI_B, uI_I, uI_F, uI_W, uI_K, uI_N, uI_L, uF_B, uF_I, uF_F, uF_W, uF_K, uF_N, uF_L, uW_B, uW_I, uW_F, uW_W, uW_K, uW_N, uW_L, uK_B, uK_I, uK_F, uK_W, uK_K, uK_N, uK_L, uN_B, uN_I, uN_F, uN_W, uN_K, uN_N, uN_L, uL_B, uL_I, uL_F, uL_W, uL_K, uL_N, uL_L]
        simp (disch := omega) only [sI_mI, sI_mL, sI_mF, sI_mR, sI_mK, sI_mN, sI_mC, sI_mS, sL_mI, sL_mL, sL_mF, sL_mR, sL_mK, sL_mN, sL_mC, sL_mS, sF_mI, sF_mL, sF_mF, sF_mR, sF_mK, sF_mN, sF_mC, sF_mS, sR_mI, sR_mL, sR_mF, sR_mR, sR_mK, sR_mN, sR_mC, sR_mS, up2_ne] at h2; exact h2
      · simp (disch := omega) only [sI_mI, sI_mL, sI_mF, sI_mR, sI_mK, sI_mN, sI_mC, sI_mS, sL_mI, sL_mL, sL_mF, sL_mR, sL_mK, sL_mN, sL_mC, sL_mS, sF_mI, sF_mL, sF_mF, sF_mR, sF_mK, sF_mN, sF_mC, sF_mS, sR_mI, sR_mL, sR_mF, sR_mR, sR_mK, sR_mN, sR_mC, sR_mS, up2_nj, up2_ne, uB_B, uB_I, uB_F, uB_W, uB_K, uB_N, uB_L, uI_B, uI_I, uI_F, uI_W, uI_K, uI_N, uI_L, uF_B, uF_I, uF_F, uF_W, uF_K, uF_N, uF_L, uW_B, uW_I, uW_F, uW_W, uW_K, uW_N, uW_L, uK_B, uK_I, uK_F, uK_W, uK_K, uK_N, uK_L, uN_B, uN_I, uN_F, uN_W, uN_K, uN_N, uN_L, uL_B, uL_I, uL_F, uL_W, uL_K, uL_N, uL_L]
        simp (disch := omega) only [sI_mI, sI_mL, sI_mF, sI_mR, sI_mK, sI_mN, sI_mC, sI_mS, sL_mI, sL_mL, sL_mF, sL_mR, sL_mK, sL_mN, sL_mC, sL_mS, sF_mI, sF_mL, sF_mF, sF_mR, sF_mK, sF_mN, sF_mC, sF_mS, sR_mI, sR_mL, sR_mF, sR_mR, sR_mK, sR_mN, sR_mC, sR_mS, up2_ne] at h3; exact h3
      · simp (disch := omega) only [sI_mI, sI_mL, sI_mF, sI_mR, sI_mK, sI_mN, sI_mC, sI_mS, sL_mI, sL_mL, sL_mF, sL_mR, sL_mK, sL_mN, sL_mC, sL_mS, sF_mI, sF_mL, sF_mF, sF_mR, sF_mK, sF_mN, sF_mC, sF_mS, sR_mI, sR_mL, sR_mF, sR_mR, sR_mK, sR_mN, sR_mC, sR_mS, up2_nj, up2_ne, uB_B, uB_I, uB_F, uB_W, uB_K, uB_N, uB_L, uI_B, uI_I, uI_F, uI_W, uI_K, uI_N, uI_L, uF_B, uF_I, uF_F, uF_W, uF_K, uF_N, uF_L, uW_B, uW_I, uW_F, uW_W, uW_K, uW_N, uW_L, uK_B, uK_I, uK_F, uK_W, uK_K, uK_N, uK_L, uN_B, uN_I, uN_F, uN_W, uN_K, uN_N, uN_L, uL_B, uL_I, uL_F, uL_W, uL_K, uL_N, uL_L]
        simp (disch := omega) only [sI_mI, sI_mL, sI_mF, sI_mR, sI_mK, sI_mN, sI_mC, sI_mS, sL_mI, sL_mL, sL_mF, sL_mR, sL_mK, sL_mN, sL_mC, sL_mS, sF_mI, sF_mL, sF_mF, sF_mR, sF_mK, sF_mN, sF_mC, sF_mS, sR_mI, sR_mL, sR_mF, sR_mR, sR_mK, sR_mN, sR_mC, sR_mS, up2_ne] at h4; exact h4
      · simp (disch := omega) only [sI_mI, sI_mL, sI_mF, sI_mR, sI_mK, sI_mN, sI_mC, sI_mS, sL_mI, sL_mL, sL_mF, sL_mR, sL_mK, sL_mN, sL_mC, sL_mS, sF_mI, sF_mL, sF_mF, sF_mR, sF_mK, sF_mN, sF_mC, sF_mS, sR_mI, sR_mL, sR_mF, sR_mR, sR_mK, sR_mN, sR_mC, sR_mS, up2_nj, up2_ne, uB_B, uB_I, uB_F, uB_W, uB_K, uB_N, uB_L, uI_B, uI_I, uI_F, uI_W, uI_K, uI_N, uI_L, uF_B, uF_I, uF_F, uF_W, uF_K, uF_N, uF_L, uW_B, uW_I, uW_F, uW_W, uW_K, uW_N, uW_L, uK_B, uK_I, uK_F, uK_W, uK_K, uK_N, uK_L, uN_B, uN_I, uN_F, uN_W, uN_K, uN_N, uN_L, uL_B, uL_I, uL_F, uL_W, uL_K, uL_N, uL_L]
        simp (disch := omega) only [sI_mI, sI_mL, sI_mF, sI_mR, sI_mK, sI_mN, sI_mC, sI_mS, sL_mI, sL_mL, sL_mF, sL_mR, sL_mK, sL_mN, sL_mC, sL_mS, sF_mI, sF_mL, sF_mF, sF_mR, sF_mK, sF_mN, sF_mC, sF_mS, sR_mI, sR_mL, sR_mF, sR_mR, sR_mK, sR_mN, sR_mC, sR_mS, up2_ne] at h5; exact h5
      · simp only [sI_mI, sI_mL, sI_mF, sI_mR, sI_mK, sI_mN, sI_mC, sI_mS, sL_mI, sL_mL, sL_mF, sL_mR, sL_mK, sL_mN, sL_mC, sL_mS, sF_mI, sF_mL, sF_mF, sF_mR, sF_mK, sF_mN, sF_mC, sF_mS, sR_mI, sR_mL, sR_mF, sR_mR, sR_mK, sR_mN, sR_mC, sR_mS, up2_eq, uB_B, uB_I, uB_F, uB_W, uB_K, uB_N, uB_L, uI_B, uI_I, uI_F, uI_W, uI_K, uI_N, uI_L, uF_B, uF_I, uF_F, uF_W, uF_K, uF_N, uF_L, uW_B, uW_I, uW_F, uW_W, uW_K, uW_N, uW_L, uK_B, uK_I, uK_F, uK_W, uK_K, uK_N, uK_L, uN_B, uN_I, uN_F, uN_W, uN_K, uN_N, uN_L, uL_B, uL_I, uL_F, uL_W, uL_K, uL_N, uL_L, hm]
      · simp (disch := omega) only [sI_mI, sI_mL, sI_mF, sI_mR, sI_mK, sI_mN, sI_mC, sI_mS, sL_mI, sL_mL, sL_mF, sL_mR, sL_mK, sL_mN, sL_mC, sL_mS, sF_mI, sF_mL, sF_mF, sF_mR, sF_mK, sF_mN, sF_mC, sF_mS, sR_mI, sR_mL, sR_mF, sR_mR, sR_mK, sR_mN, sR_mC, sR_mS, up2_nj, up2_ne, uB_B, uB_I, uB_F, uB_W, uB_K, uB_N, uB_L, uI_B, uI_I, uI_F, uI_W, uI_K, uI_N, uI_L, uF_B, uF_I, uF_F, uF_W, uF_K, uF_N, uF_L, uW_B, uW_I, uW_F, uW_W, uW_K, uW_N, uW_L, uK_B, uK_I, uK_F, uK_W, uK_K, uK_N, uK_L, uN_B, uN_I, uN_F, uN_W, uN_K, uN_N, uN_L, uL_B, uL_I, uL_F, uL_W, uL_K, uL_N, uL_L]
        simp (disch := omega) only [sI_mI, sI_mL, sI_mF, sI_mR, sI_mK, sI_mN, sI_mC, sI_mS, sL_mI, sL_mL, sL_mF, sL_mR, sL_mK, sL_mN, sL_mC, sL_mS, sF_mI, sF_mL, sF_mF, sF_mR, sF_mK, sF_mN, sF_mC, sF_mS, sR_mI, sR_mL, sR_mF, sR_mR, sR_mK, sR_mN, sR_mC, sR_mS, up2_ne] at h7; exact h7
    · refine ⟨hK1, fun i hi => ?_⟩
      have hne : C + 34 + 1 ≠ C + 34 := by omega
      simp only [sI_mI, sI_mL, sI_mF, sI_mR, sI_mK, sI_mN, sI_mC, sI_mS, sL_mI, sL_mL, sL_mF, sL_mR, sL_mK, sL_mN, sL_mC, sL_mS, sF_mI, sF_mL, sF_mF, sF_mR, sF_mK, sF_mN, sF_mC, sF_mS, sR_mI, sR_mL, sR_mF, sR_mR, sR_mK, sR_mN, sR_mC, sR_mS, uB_B, uB_I, uB_F, uB_W, uB_K, uB_N, uB_L, uI_B, uI_I, uI_F, uI_W, uI_K, uI_N, uI_L, uF_B, uF_I, uF_F, uF_W, uF_K, uF_N, uF_L, uW_B, uW_I, uW_F, uW_W, uW_K, uW_N, uW_L, uK_B, uK_I, uK_F, uK_W, uK_K, uK_N, uK_L, uN_B, uN_I, uN_F, uN_W, uN_K, uN_N, uN_L, uL_B, uL_I, uL_F, uL_W, uL_K, uL_N, uL_L]
      rw [up2_ne _ _ _ _ hne]
      by_cases e : i = n
      · subst e; rw [fset_eq]; exact up2_eq _ _ _ _
      · rw [fset_ne _ _ e, up2_nj _ _ _ _ e]; exact hK2 i hi
def spKeep (c : Cl) (n : Nat) : Cl := uK c (fset (cK c) n true)
def spForget (c : Cl) (n : Nat) : Cl := uK c (fset (cK c) n false)
theorem fset_self {α : Type} (f : Nat → α) (n : Nat) (x : α) (h : f n = x) : fset f n x = f := by
  funext j; by_cases e : j = n
  · subst e; rw [fset_eq, h]
  · rw [fset_ne _ _ e]
theorem uK_self (c : Cl) : uK c (cK c) = c := rfl
theorem Cl_keep {M : Mem} {C n : Nat} {c : Cl} (hC : inC C) (h : ClR M C c) (h1 : 1 ≤ n) (h2 : n ≤ 50) : ∃ M', f_X5_keep (C + 34) (nW n) M = some M' ∧ Fr (fun a => C + 34 ≤ a ∧ a < C + 36) M M' ∧ ClR M' C (spKeep c n) := by
  have hE := h.2.2.2.1
  obtain ⟨hK1, hK2⟩ := h.2.2.2.2.1
  have k1 := hE.1.1
  have k4 : gR 5 4 (C + 34) M = some (C + 35) := by simp only [gR, k1, ↓reduceIte, hE.1.2.1]
  have an : aN (C + 35) M = some (nW 51) := by simp only [aN, hK1]; rfl
  have n0 : ¬ n < 0 := by omega
  have n1 : ¬ 51 ≤ n := by omega
  have ea : aI 17 (C + 35) (nW n) M = some (zI (cK c n)) := by simp (disch := omega) only [aI, hK1, ↓reduceIte, ix_nW, Option.map_some, hK2 n (by omega)]
  cases hk : cK c n with
  | true =>
    have t1 : ¬ nW 1 = nW 0 := by decide
    refine ⟨M, ?_, Fr.refl _ _, by unfold spKeep; rw [fset_self _ _ _ hk, uK_self]; exact h⟩
    simp (disch := omega) only [f_X5_keep, k1, ↓reduceIte, nW_lit, nW_lt, n0, k4, Option.bind_some, an, nW_le, n1, ea, hk, zI_t, t1]
  | false =>
    obtain ⟨M1, M2, e1, e2, e3, e4, F, R⟩ := Cl_K true (kcnt (cK c) 50 + 1) hC h (by omega) (kcnt_put h1 hk h2)
    refine ⟨M2, ?_, F, R⟩
    rw [zI_t] at e1
    have e5 : gI 5 5 (C + 34) M1 = some (nW (kcnt (cK c) 50)) := by simp only [gI, e2, e3, ↓reduceIte]
    simp (disch := omega) only [f_X5_keep, k1, ↓reduceIte, nW_lit, nW_lt, n0, k4, Option.bind_some, an, nW_le, n1, ea, hk, zI_f, e1, e5, nW_add, e4]
theorem Cl_forget {M : Mem} {C n : Nat} {c : Cl} (hC : inC C) (h : ClR M C c) (h1 : 1 ≤ n) (h2 : n ≤ 50) : ∃ M', f_X5_forget (C + 34) (nW n) M = some M' ∧ Fr (fun a => C + 34 ≤ a ∧ a < C + 36) M M' ∧ ClR M' C (spForget c n) := by
  have hE := h.2.2.2.1
  have hkp := Cl_keeps h (show n < 51 by omega)
  have k1 := hE.1.1
  have k4 : gR 5 4 (C + 34) M = some (C + 35) := by simp only [gR, k1, ↓reduceIte, hE.1.2.1]
  cases hk : cK c n with
  | false =>
    rw [hk, zI_f] at hkp
    refine ⟨M, ?_, Fr.refl _ _, by unfold spForget; rw [fset_self _ _ _ hk, uK_self]; exact h⟩
    simp (disch := omega) only [f_X5_forget, k1, ↓reduceIte, nW_lit, hkp, bindP]
  | true =>
    rw [hk, zI_t] at hkp
    have t1 : ¬ nW 1 = nW 0 := by decide
    have kc := kcnt_cut h1 hk h2
    obtain ⟨M1, M2, e1, e2, e3, e4, F, R⟩ := Cl_K false (kcnt (cK c) 50 - 1) hC h (show n < 51 by omega) (by omega)
    refine ⟨M2, ?_, F, R⟩
    rw [zI_f] at e1
    have e5 : gI 5 5 (C + 34) M1 = some (nW (kcnt (cK c) 50)) := by simp only [gI, e2, e3, ↓reduceIte]
    simp (disch := omega) only [f_X5_forget, k1, ↓reduceIte, nW_lit, hkp, bindP, t1, k4, Option.bind_some, e1, e5, nW_sub, e4]
