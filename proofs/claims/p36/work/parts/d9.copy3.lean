theorem sc_L10 {T U : Nat} {l : Ls (Txt × Int32)} (hz : 5 ≤ T ∧ T + 3 ≤ 908) (hd : T + 3 ≤ U ∨ U + 3 ≤ T) (hl : l.1 ≤ 512) : ∀ n i M, i ≤ l.1 → l.1 - i < n → (((mK M T).1 = 9 ∧ mR M T 0 = some (T + 1) ∧ mR M T 1 = some (T + 2)) ∧ mK M (T + 1) = (23, 512) ∧ mK M (T + 2) = (13, 512) ∧ mI M T 2 = nW l.1) → TalR M U l → (∀ j, j < i → (∃ x, mR M (T + 1) j = some x ∧ TextR M x (l.2 j).1) ∧ mI M (T + 2) j = (l.2 j).2) → ∃ M', f_X9_copyFrom_L10 n T U (nW i) M = some M' ∧ Fr (fun a => a = T + 1 ∨ a = T + 2) M M' ∧ TalR M' T l
  | 0, i, M, _, hn, _, _, _ => absurd hn (by omega)
  | n + 1, i, M, hi, hn, ⟨⟨t1, t2, t3⟩, t4, t5, t6⟩, hU, hj => by
    have g2 : gI 9 2 T M = some (nW l.1) := by simp only [gI, t1, ↓reduceIte, t6]
    by_cases he : i = l.1
    · subst he
      exact ⟨M, by simp (disch := omega) only [f_X9_copyFrom_L10, g2, Option.bind_some, nW_le, Nat.le_refl, ↓reduceIte], Fr.refl _ _, ⟨t1, t2, t3⟩, t4, t5, t6, hl, fun j h => (hj j h).1, fun j h => (hj j h).2⟩
    · have n1 : ¬ l.1 ≤ i := by omega
      have n5 : ¬ 512 ≤ i := by omega
      have U' := hU
      obtain ⟨⟨u1, u2, u3⟩, u4, u5, u6, u7, u8, u9⟩ := hU
      obtain ⟨y, e1, hy⟩ := u8 i (by omega)
      have hky : (mK M y).1 = 10 := hy.2.1.1
      have gT : gR 9 0 T M = some (T + 1) := by simp only [gR, t1, ↓reduceIte, t2]
      have gU : gR 9 0 U M = some (U + 1) := by simp only [gR, u1, ↓reduceIte, u2]
      have ea : aR 23 (U + 1) (nW i) M = some y := by simp (disch := omega) only [aR, u4, ↓reduceIte, ix_nW, Option.bind_some, e1]
      have ew : wR 23 10 (T + 1) (nW i) y M = some (sR M (up2 (mR M) (T + 1) i (some y))) := by
        simp (disch := omega) only [wR, t4, hky, and_self, ↓reduceIte, ix_nW, Option.map_some]
      have z1 : ¬ tz (T + 1) := by simp only [tz]; omega
      have z2 : ¬ tz (T + 2) := by simp only [tz]; omega
      have F1 := fr_R (P := fun a => a = T + 1 ∨ a = T + 2) M i (some y) (Or.inl rfl) z1
      have g1T : gR 9 1 T (sR M (up2 (mR M) (T + 1) i (some y))) = some (T + 2) := by
        have : (mK (sR M (up2 (mR M) (T + 1) i (some y))) T).1 = 9 := t1
        have hne : T ≠ T + 1 := by omega
        simp only [gR, sI_mI, sI_mL, sI_mF, sI_mR, sI_mK, sI_mN, sI_mC, sI_mS, sL_mI, sL_mL, sL_mF, sL_mR, sL_mK, sL_mN, sL_mC, sL_mS, sF_mI, sF_mL, sF_mF, sF_mR, sF_mK, sF_mN, sF_mC, sF_mS, sR_mI, sR_mL, sR_mF, sR_mR, sR_mK, sR_mN, sR_mC, sR_mS, t1, ↓reduceIte]; rw [up2_ne _ _ _ _ hne]; exact t3
      have g1U : gR 9 1 U (sR M (up2 (mR M) (T + 1) i (some y))) = some (U + 2) := by
        have : (mK (sR M (up2 (mR M) (T + 1) i (some y))) U).1 = 9 := u1
        have hne : U ≠ T + 1 := by omega
        simp only [gR, sI_mI, sI_mL, sI_mF, sI_mR, sI_mK, sI_mN, sI_mC, sI_mS, sL_mI, sL_mL, sL_mF, sL_mR, sL_mK, sL_mN, sL_mC, sL_mS, sF_mI, sF_mL, sF_mF, sF_mR, sF_mK, sF_mN, sF_mC, sF_mS, sR_mI, sR_mL, sR_mF, sR_mR, sR_mK, sR_mN, sR_mC, sR_mS, u1, ↓reduceIte]; rw [up2_ne _ _ _ _ hne]; exact u3
      have eb : aI 13 (U + 2) (nW i) (sR M (up2 (mR M) (T + 1) i (some y))) = some (l.2 i).2 := by
        have : mK (sR M (up2 (mR M) (T + 1) i (some y))) (U + 2) = (13, 512) := u5
        simp (disch := omega) only [aI, this, ↓reduceIte, ix_nW, Option.map_some]
        exact congrArg some (u9 i (by omega))
      have F2 := fr_I (P := fun a => a = T + 1 ∨ a = T + 2) (sR M (up2 (mR M) (T + 1) i (some y))) i (l.2 i).2 (Or.inr rfl) z2
      have ew2 : wI 13 (T + 2) (nW i) (l.2 i).2 (sR M (up2 (mR M) (T + 1) i (some y))) = some (sI (sR M (up2 (mR M) (T + 1) i (some y))) (up2 (mI (sR M (up2 (mR M) (T + 1) i (some y)))) (T + 2) i (l.2 i).2)) := by
        have : mK (sR M (up2 (mR M) (T + 1) i (some y))) (T + 2) = (13, 512) := t5
        simp (disch := omega) only [wI, this, ↓reduceIte, ix_nW, Option.map_some, nar13]
      have F12 := F1.trans F2
      have n21 : T ≠ T + 1 := by omega
      have n22 : T ≠ T + 2 := by omega
      obtain ⟨M', e, F', r⟩ := sc_L10 hz hd hl n (i + 1) (sI (sR M (up2 (mR M) (T + 1) i (some y))) (up2 (mI (sR M (up2 (mR M) (T + 1) i (some y)))) (T + 2) i (l.2 i).2)) (by omega) (by omega) ⟨⟨t1, by simp only [sI_mI, sI_mL, sI_mF, sI_mR, sI_mK, sI_mN, sI_mC, sI_mS, sL_mI, sL_mL, sL_mF, sL_mR, sL_mK, sL_mN, sL_mC, sL_mS, sF_mI, sF_mL, sF_mF, sF_mR, sF_mK, sF_mN, sF_mC, sF_mS, sR_mI, sR_mL, sR_mF, sR_mR, sR_mK, sR_mN, sR_mC, sR_mS]; rw [up2_ne _ _ _ _ n21]; exact t2, by simp only [sI_mI, sI_mL, sI_mF, sI_mR, sI_mK, sI_mN, sI_mC, sI_mS, sL_mI, sL_mL, sL_mF, sL_mR, sL_mK, sL_mN, sL_mC, sL_mS, sF_mI, sF_mL, sF_mF, sF_mR, sF_mK, sF_mN, sF_mC, sF_mS, sR_mI, sR_mL, sR_mF, sR_mR, sR_mK, sR_mN, sR_mC, sR_mS]; rw [up2_ne _ _ _ _ n21]; exact t3⟩, t4, t5, by simp only [sI_mI, sI_mL, sI_mF, sI_mR, sI_mK, sI_mN, sI_mC, sI_mS, sL_mI, sL_mL, sL_mF, sL_mR, sL_mK, sL_mN, sL_mC, sL_mS, sF_mI, sF_mL, sF_mF, sF_mR, sF_mK, sF_mN, sF_mC, sF_mS, sR_mI, sR_mL, sR_mF, sR_mR, sR_mK, sR_mN, sR_mC, sR_mS]; rw [up2_ne _ _ _ _ n22]; exact t6⟩ (U'.gr F12.gr (by omega)) (fun j hj' => by
        by_cases e : j = i
        · subst e
          exact ⟨⟨y, by simp only [sI_mI, sI_mL, sI_mF, sI_mR, sI_mK, sI_mN, sI_mC, sI_mS, sL_mI, sL_mL, sL_mF, sL_mR, sL_mK, sL_mN, sL_mC, sL_mS, sF_mI, sF_mL, sF_mF, sF_mR, sF_mK, sF_mN, sF_mC, sF_mS, sR_mI, sR_mL, sR_mF, sR_mR, sR_mK, sR_mN, sR_mC, sR_mS, up2_eq], hy.gr F12.gr⟩, by simp only [sI_mI, sI_mL, sI_mF, sI_mR, sI_mK, sI_mN, sI_mC, sI_mS, sL_mI, sL_mL, sL_mF, sL_mR, sL_mK, sL_mN, sL_mC, sL_mS, sF_mI, sF_mL, sF_mF, sF_mR, sF_mK, sF_mN, sF_mC, sF_mS, sR_mI, sR_mL, sR_mF, sR_mR, sR_mK, sR_mN, sR_mC, sR_mS, up2_eq]⟩
        · obtain ⟨⟨y', a, b⟩, c⟩ := hj j (by omega)
          exact ⟨⟨y', by simp only [sI_mI, sI_mL, sI_mF, sI_mR, sI_mK, sI_mN, sI_mC, sI_mS, sL_mI, sL_mL, sL_mF, sL_mR, sL_mK, sL_mN, sL_mC, sL_mS, sF_mI, sF_mL, sF_mF, sF_mR, sF_mK, sF_mN, sF_mC, sF_mS, sR_mI, sR_mL, sR_mF, sR_mR, sR_mK, sR_mN, sR_mC, sR_mS]; rw [up2_nj _ _ _ _ e]; exact a, b.gr F12.gr⟩, by simp only [sI_mI, sI_mL, sI_mF, sI_mR, sI_mK, sI_mN, sI_mC, sI_mS, sL_mI, sL_mL, sL_mF, sL_mR, sL_mK, sL_mN, sL_mC, sL_mS, sF_mI, sF_mL, sF_mF, sF_mR, sF_mK, sF_mN, sF_mC, sF_mS, sR_mI, sR_mL, sR_mF, sR_mR, sR_mK, sR_mN, sR_mC, sR_mS]; rw [up2_nj _ _ _ _ e]; exact c⟩)
      refine ⟨M', ?_, F12.trans F', r⟩
      rw [← e]
      conv => lhs; rw [f_X9_copyFrom_L10]
      simp (disch := omega) only [g2, nW_lit, nW_le, n1, n5, ↓reduceIte, gT, gU, ea, ew, g1T, g1U, eb, ew2, Option.bind_some, nW_add]
theorem X9_copyFrom {M : Mem} {T U : Nat} {l0 l : Ls (Txt × Int32)} (hz : 5 ≤ T ∧ T + 3 ≤ 908) (hd : T + 3 ≤ U ∨ U + 3 ≤ T) (h : TalR M T l0) (hs : TalR M U l) : ∃ M', f_X9_copyFrom T U M = some M' ∧ Fr (fun a => T ≤ a ∧ a < T + 3) M M' ∧ TalR M' T l := by
  obtain ⟨⟨t1, t2, t3⟩, t4, t5, _⟩ := h
  have hl := hs.2.2.2.2.1
  have g2 : gI 9 2 U M = some (nW l.1) := by simp only [gI, hs.1.1, ↓reduceIte, hs.2.2.2.1]
  have p2 : pI 9 2 T (nW l.1) M = some (sI M (up2 (mI M) T 2 (nW l.1))) := by simp only [pI, t1, ↓reduceIte]
  have F1 := fr_I (P := fun a => T ≤ a ∧ a < T + 3) M 2 (nW l.1) (show T ≤ T ∧ T < T + 3 by omega) (show ¬ tz T by simp only [tz]; omega)
  have F1' := fq_I M 2 (nW l.1) (show ¬ tz T by simp only [tz]; omega)
  obtain ⟨M', e, F, r⟩ := sc_L10 hz hd hl FU 0 (sI M (up2 (mI M) T 2 (nW l.1))) (by omega) (by simp only [FU]; omega) ⟨⟨t1, t2, t3⟩, t4, t5, by simp only [sI_mI, sI_mL, sI_mF, sI_mR, sI_mK, sI_mN, sI_mC, sI_mS, sL_mI, sL_mL, sL_mF, sL_mR, sL_mK, sL_mN, sL_mC, sL_mS, sF_mI, sF_mL, sF_mF, sF_mR, sF_mK, sF_mN, sF_mC, sF_mS, sR_mI, sR_mL, sR_mF, sR_mR, sR_mK, sR_mN, sR_mC, sR_mS, up2_eq]⟩ (hs.gr F1'.gr (by omega)) (fun j hj => absurd hj (Nat.not_lt_zero j))
  refine ⟨M', ?_, F1.trans (F.mono (fun a h => by omega)), r⟩
  simp only [f_X9_copyFrom, t1, ↓reduceIte, g2, p2, Option.bind_some, nW_lit]
  exact e
