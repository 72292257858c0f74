theorem sc_L2 {S D : Nat} {σ : Sg} (hZ : inZ S) (hd : S + 450 ≤ D ∨ D + 450 ≤ S) : ∀ n i M τ, i ≤ 6 → 6 - i < n → StR M S τ → StR M D σ → (∀ j, j < i → gCl τ j = gCl σ j) → ∃ M' τ', f_X7_copyFrom_L2 n S D (nW i) M = f_X7_copyFrom_L2 1 S D (nW 6) M' ∧ Fr (SZ S) M M' ∧ StR M' S τ' ∧ ∀ j, j < 6 → gCl τ' j = gCl σ j
  | 0, i, M, τ, _, hn, _, _, _ => absurd hn (by omega)
  | n + 1, i, M, τ, hi, hn, hS, hD, hj => by
    by_cases he : i = 6
    · subst he
      refine ⟨M, τ, ?_, Fr.refl _ _, hS, hj⟩
      simp (disch := omega) only [f_X7_copyFrom_L2, nW_lit, nW_le, Nat.le_refl, ↓reduceIte]
    · have n1 : ¬ 6 ≤ i := by omega
      obtain ⟨⟨b1, b2, b3, _⟩, _, ⟨b4, b5⟩, _⟩ := hS.1
      obtain ⟨⟨d1, d2, d3, _⟩, _, ⟨d4, d5⟩, _⟩ := hD.1
      have gS : gR 7 1 S M = some (S + 1) := by simp only [gR, b1, ↓reduceIte, b3]
      have gD : gR 7 1 D M = some (D + 1) := by simp only [gR, d1, ↓reduceIte, d3]
      have eS : aR 18 (S + 1) (nW i) M = some (S + 2 + 60 * i) := by simp (disch := omega) only [aR, b4, ↓reduceIte, ix_nW, Option.bind_some, b5]
      have eD : aR 18 (D + 1) (nW i) M = some (D + 2 + 60 * i) := by simp (disch := omega) only [aR, d4, ↓reduceIte, ix_nW, Option.bind_some, d5]
      have hZ' := hZ
      obtain ⟨z1, z2⟩ := hZ
      obtain ⟨M1, e1, F1, R1⟩ := X0_copyFrom (show 5 ≤ S + 2 + 60 * i ∧ S + 2 + 60 * i + 60 ≤ 908 by omega) (show S + 2 + 60 * i + 60 ≤ D + 2 + 60 * i ∨ D + 2 + 60 * i + 60 ≤ S + 2 + 60 * i by omega) (hS.2.1 i (by omega)) (hD.2.1 i (by omega))
      obtain ⟨H1, F1'⟩ := St_cl hS (show i < 6 by omega) F1 (fun a h => h) R1
      have D1 := hD.gr F1'.gr (fun a h hh => by unfold SZ at h hh; omega)
      obtain ⟨M', τ', e, F', r1, r2⟩ := sc_L2 hZ' hd n (i + 1) M1 (putG τ i (gSc τ, gCl σ i)) (by omega) (by omega) H1 D1 (fun j hj' => by
        show fset τ.2.1 i (gCl σ i) j = _
        by_cases e : j = i
        · subst e; exact fset_eq _ _ _
        · rw [fset_ne _ _ e]; exact hj j (by omega))
      refine ⟨M', τ', ?_, F1'.trans F', r1, r2⟩
      rw [← e]
      conv => lhs; rw [f_X7_copyFrom_L2]
      simp (disch := omega) only [nW_lit, nW_le, n1, ↓reduceIte, gS, gD, eS, eD, e1, Option.bind_some, nW_add]
theorem sc_L39 {S D : Nat} {l : List Sh} {p : Nat → Nat} (hZ : inZ S) (hd : S + 450 ≤ D ∨ D + 450 ≤ S) : ∀ n i M, i ≤ l.length → l.length - i < n → ((mK M S).1 = 7 ∧ mR M S 2 = some (S + 362) ∧ mI M S 3 = nW l.length) → Ar M (S + 362) 21 36 6 (S + 363) (S + 435) p → (∀ j, j < 36 → (p j - (S + 363)) % 2 = 0 ∧ ShK M (p j)) → StO M D → ShsR M D l → (∀ j, j < i → ShV M (p j) (l.getD j shD)) → ∃ M', f_X7_copyFrom_L39 n S D (nW i) M = f_X7_copyFrom_J74 S D M' ∧ Fr (fun a => S + 363 ≤ a ∧ a < S + 435) M M' ∧ ShsR M' S l
  | 0, i, M, _, hn, _, _, _, _, _, _ => absurd hn (by omega)
  | n + 1, i, M, hi, hn, ⟨t1, t2, t3⟩, hA, hK, hO, hD, hj => by
    obtain ⟨z1, z2⟩ := hZ
    have l36 := hD.2.1
    have g3 : gI 7 3 S M = some (nW l.length) := by simp only [gI, t1, ↓reduceIte, t3]
    by_cases he : i = l.length
    · subst he
      refine ⟨M, ?_, Fr.refl _ _, t3, l36, p, hA, hK, hj⟩
      simp (disch := omega) only [f_X7_copyFrom_L39, g3, Option.bind_some, nW_le, Nat.le_refl, ↓reduceIte]
    · have n1 : ¬ l.length ≤ i := by omega
      have n2 : ¬ 36 ≤ i := by omega
      have gS : gR 7 2 S M = some (S + 362) := by simp only [gR, t1, ↓reduceIte, t2]
      have gD : gR 7 2 D M = some (D + 362) := by simp only [gR, hO.1, ↓reduceIte, hO.2.2.1]
      obtain ⟨p1, p2, p3⟩ := hA.2.1 i (by omega)
      have q1 := hK i (by omega)
      have eS : aR 21 (S + 362) (nW i) M = some (p i) := by simp (disch := omega) only [aR, hA.1, ↓reduceIte, ix_nW, Option.bind_some, p1]
      obtain ⟨b, eD, hb, bK, bV, _⟩ := ShsR_at hD (show i < l.length by omega)
      obtain ⟨M1, e1, F1, K1, V1⟩ := X6_copyFrom (a := p i) (b := b) (by simp only [tz]; omega) (by omega) q1.2 bK bV
      have hS1 := F1.2.2 S (Or.inr (by omega))
      have hD1 := F1.2.2 D (Or.inr (by omega))
      have kD : (mK M D).1 ≠ 99 := by rw [hO.1]; decide
      obtain ⟨M', e, F', r⟩ := sc_L39 ⟨z1, z2⟩ hd n (i + 1) M1 (by omega) (by omega) ⟨by rw [F1.1]; exact t1, by rw [hS1.2.2.2]; exact t2, by rw [hS1.1]; exact t3⟩ (hA.gr F1.gr (by decide) (by decide) (by omega)) (fun j hj' => ⟨(hK j hj').1, by
        by_cases e : j = i
        · subst e; exact K1
        · have a1 := hA.2.1 j hj'
          have a2 := (hK j hj').1
          have a3 : p j ≠ p i := fun hh => e (hA.2.2 j i hj' (by omega) hh)
          exact (hK j hj').2.gr F1.gr (by omega)⟩) ⟨by rw [F1.1]; exact hO.1, by rw [hD1.2.2.2]; exact hO.2.1, by rw [hD1.2.2.2]; exact hO.2.2.1, by rw [hD1.2.2.2]; exact hO.2.2.2.1, by rw [hD1.2.2.2]; exact hO.2.2.2.2⟩ (hD.gr F1.gr kD (by omega) (fun a _ _ => by omega)) (fun j hj' => by
        by_cases e : j = i
        · subst e; exact V1
        · have a1 := hA.2.1 j (by omega)
          have a2 := (hK j (by omega)).1
          have a3 : p j ≠ p i := fun hh => e (hA.2.2 j i (by omega) (by omega) hh)
          exact (hj j (by omega)).gr F1.gr (hK j (by omega)).2 (by omega))
      refine ⟨M', ?_, (F1.mono (fun a h => by omega)).trans F', r⟩
      rw [← e]
      conv => lhs; rw [f_X7_copyFrom_L39]
      simp (disch := omega) only [g3, gS, gD, eS, eD, e1, Option.bind_some, nW_lit, nW_le, n1, n2, ↓reduceIte, nW_add]
theorem sc_L84 {S D : Nat} {l : Ls Row} {p : Nat → Nat} (hZ : inZ S) (hd : S + 450 ≤ D ∨ D + 450 ≤ S) : ∀ n i M, i ≤ l.1 → l.1 - i < n → ((mK M S).1 = 7 ∧ mR M S 4 = some (S + 435) ∧ mI M S 5 = nW l.1) → Ar M (S + 435) 19 8 1 (S + 436) (S + 444) p → StO M D → RetR M D l → (∀ j, j < i → MsR M (p j) (l.2 j)) → ∃ M', f_X7_copyFrom_L84 n S D (nW i) M = f_X7_copyFrom_L121 FU S D (nW 0) M' ∧ Fr (fun a => S + 436 ≤ a ∧ a < S + 444) M M' ∧ RetR M' S l
  | 0, i, M, _, hn, _, _, _, _, _ => absurd hn (by omega)
  | n + 1, i, M, hi, hn, ⟨t1, t2, t3⟩, hA, hO, hD, hj => by
    obtain ⟨z1, z2⟩ := hZ
    have l8 := hD.2.1
    have g3 : gI 7 5 S M = some (nW l.1) := by simp only [gI, t1, ↓reduceIte, t3]
    by_cases he : i = l.1
    · subst he
      refine ⟨M, ?_, Fr.refl _ _, t3, l8, p, hA, hj⟩
      simp (disch := omega) only [f_X7_copyFrom_L84, g3, Option.bind_some, nW_le, nW_lit, Nat.le_refl, ↓reduceIte]
    · have n1 : ¬ l.1 ≤ i := by omega
      have n2 : ¬ 8 ≤ i := by omega
      have gS : gR 7 4 S M = some (S + 435) := by simp only [gR, t1, ↓reduceIte, t2]
      have gD : gR 7 4 D M = some (D + 435) := by simp only [gR, hO.1, ↓reduceIte, hO.2.2.2.1]
      obtain ⟨p1, p2, p3⟩ := hA.2.1 i (by omega)
      have eS : aR 19 (S + 435) (nW i) M = some (p i) := by simp (disch := omega) only [aR, hA.1, ↓reduceIte, ix_nW, Option.bind_some, p1]
      have hD' := hD
      obtain ⟨_, _, q, hq, hm⟩ := hD
      obtain ⟨q1, q2, q3⟩ := hq.2.1 i (by omega)
      have eD : aR 19 (D + 435) (nW i) M = some (q i) := by simp (disch := omega) only [aR, hq.1, ↓reduceIte, ix_nW, Option.bind_some, q1]
      obtain ⟨M1, e1, F1, V1⟩ := X1_copyFrom p2 (hm i (by omega)) (by omega) (show ¬ tz (p i) by simp only [tz]; omega)
      have hS1 := F1.2.2 S (Or.inr (by omega))
      have hD1 := F1.2.2 D (Or.inr (by omega))
      have kD : (mK M D).1 ≠ 99 := by rw [hO.1]; decide
      obtain ⟨M', e, F', r⟩ := sc_L84 ⟨z1, z2⟩ hd n (i + 1) M1 (by omega) (by omega) ⟨by rw [F1.1]; exact t1, by rw [hS1.2.2.2]; exact t2, by rw [hS1.1]; exact t3⟩ (hA.gr F1.gr (by decide) (by decide) (by omega)) ⟨by rw [F1.1]; exact hO.1, by rw [hD1.2.2.2]; exact hO.2.1, by rw [hD1.2.2.2]; exact hO.2.2.1, by rw [hD1.2.2.2]; exact hO.2.2.2.1, by rw [hD1.2.2.2]; exact hO.2.2.2.2⟩ (hD'.gr F1.gr kD (by omega) (fun a _ _ => by omega)) (fun j hj' => by
        by_cases e : j = i
        · subst e; exact V1
        · have a3 : p j ≠ p i := fun hh => e (hA.2.2 j i (by omega) (by omega) hh)
          exact (hj j (by omega)).gr F1.gr a3)
      refine ⟨M', ?_, (F1.mono (fun a h => by omega)).trans F', r⟩
      rw [← e]
      conv => lhs; rw [f_X7_copyFrom_L84]
      simp (disch := omega) only [g3, gS, gD, eS, eD, e1, Option.bind_some, nW_lit, nW_le, n1, n2, ↓reduceIte, nW_add]
theorem sc_L121 {S D : Nat} {sc : Nat → Int32} (hZ : inZ S) (hd : S + 450 ≤ D ∨ D + 450 ≤ S) : ∀ n i M, i ≤ 4 → 4 - i < n → ((mK M S).1 = 7 ∧ mR M S 6 = some (S + 444) ∧ mK M (S + 444) = (13, 4)) → BaR M D sc → (∀ j, j < i → mI M (S + 444) j = sc (10 + j)) → ∃ M', f_X7_copyFrom_L121 n S D (nW i) M = f_X7_copyFrom_L150 FU S D (nW 0) M' ∧ Fr (fun a => a = S + 444) M M' ∧ ∀ j, j < 4 → mI M' (S + 444) j = sc (10 + j)
  | 0, i, M, _, hn, _, _, _ => absurd hn (by omega)
  | n + 1, i, M, hi, hn, ⟨t1, t2, t3⟩, hD, hj => by
    have z := hZ
    obtain ⟨z1, z2⟩ := hZ
    have r13 : 13 ≤ 13 ∧ 13 ≤ 23 := by omega
    have gS : gR 7 6 S M = some (S + 444) := by simp only [gR, t1, ↓reduceIte, t2]
    have en : aN (S + 444) M = some (nW 4) := by simp only [aN, t3]; rfl
    by_cases he : i = 4
    · subst he
      refine ⟨M, ?_, Fr.refl _ _, hj⟩
      simp (disch := omega) only [f_X7_copyFrom_L121, gS, en, Option.bind_some, nW_le, nW_lit, Nat.le_refl, ↓reduceIte]
    · have n1 : ¬ 4 ≤ i := by omega
      have hD' := hD
      obtain ⟨⟨d1, _, _, _, _, d2, _⟩, _, _, ⟨d3, d4⟩, _⟩ := hD
      have gD : gR 7 6 D M = some (D + 444) := by simp only [gR, d1, ↓reduceIte, d2]
      have ea : aI 13 (D + 444) (nW i) M = some (sc (10 + i)) := by simp (disch := omega) only [aI, d3, ↓reduceIte, ix_nW, Option.map_some, d4]
      have ew : wI 13 (S + 444) (nW i) (sc (10 + i)) M = some (sI M (up2 (mI M) (S + 444) i (sc (10 + i)))) := by simp (disch := omega) only [wI, t3, ↓reduceIte, ix_nW, Option.map_some, nar13]
      have F := fq_I M i (sc (10 + i)) (show ¬ tz (S + 444) by simp only [tz]; omega)
      obtain ⟨M', e, F', r⟩ := sc_L121 (sc := sc) z hd n (i + 1) (sI M (up2 (mI M) (S + 444) i (sc (10 + i)))) (by omega) (by omega) ⟨t1, t2, t3⟩ (hD'.gr F.gr (by omega)) (fun j hj' => by
        simp only [sI_mI, sI_mL, sI_mF, sI_mR, sI_mK, sI_mN, sI_mC, sI_mS, sL_mI, sL_mL, sL_mF, sL_mR, sL_mK, sL_mN, sL_mC, sL_mS, sF_mI, sF_mL, sF_mF, sF_mR, sF_mK, sF_mN, sF_mC, sF_mS, sR_mI, sR_mL, sR_mF, sR_mR, sR_mK, sR_mN, sR_mC, sR_mS]
        by_cases e : j = i
        · subst e; exact up2_eq _ _ _ _
        · rw [up2_nj _ _ _ _ e]; exact hj j (by omega))
      refine ⟨M', ?_, F.trans F', r⟩
      rw [← e]
      conv => lhs; rw [f_X7_copyFrom_L121]
      simp (disch := omega) only [gS, gD, en, ea, ew, Option.bind_some, nW_lit, nW_le, n1, ↓reduceIte, nW_add]
theorem sc_L150 {S D : Nat} {sc : Nat → Int32} (hZ : inZ S) (hd : S + 450 ≤ D ∨ D + 450 ≤ S) : ∀ n i M, i ≤ 10 → 10 - i < n → ((mK M S).1 = 7 ∧ mR M S 7 = some (S + 445) ∧ mK M (S + 445) = (13, 10)) → BaR M D sc → (∀ j, j < i → mI M (S + 445) j = sc j) → ∃ M', f_X7_copyFrom_L150 n S D (nW i) M = f_X7_copyFrom_L150 1 S D (nW 10) M' ∧ Fr (fun a => a = S + 445) M M' ∧ ∀ j, j < 10 → mI M' (S + 445) j = sc j
  | 0, i, M, _, hn, _, _, _ => absurd hn (by omega)
  | n + 1, i, M, hi, hn, ⟨t1, t2, t3⟩, hD, hj => by
    have z := hZ
    obtain ⟨z1, z2⟩ := hZ
    have gS : gR 7 7 S M = some (S + 445) := by simp only [gR, t1, ↓reduceIte, t2]
    by_cases he : i = 10
    · subst he
      refine ⟨M, ?_, Fr.refl _ _, hj⟩
      simp (disch := omega) only [f_X7_copyFrom_L150, nW_le, nW_lit, Nat.le_refl, ↓reduceIte]
    · have n1 : ¬ 10 ≤ i := by omega
      have hD' := hD
      obtain ⟨⟨d1, _, _, _, _, _, d2, _⟩, _, _, _, ⟨d3, d4⟩, _⟩ := hD
      have gD : gR 7 7 D M = some (D + 445) := by simp only [gR, d1, ↓reduceIte, d2]
      have ea : aI 13 (D + 445) (nW i) M = some (sc i) := by simp (disch := omega) only [aI, d3, ↓reduceIte, ix_nW, Option.map_some, d4]
      have ew : wI 13 (S + 445) (nW i) (sc i) M = some (sI M (up2 (mI M) (S + 445) i (sc i))) := by simp (disch := omega) only [wI, t3, ↓reduceIte, ix_nW, Option.map_some, nar13]
      have F := fq_I M i (sc i) (show ¬ tz (S + 445) by simp only [tz]; omega)
      obtain ⟨M', e, F', r⟩ := sc_L150 (sc := sc) z hd n (i + 1) (sI M (up2 (mI M) (S + 445) i (sc i))) (by omega) (by omega) ⟨t1, t2, t3⟩ (hD'.gr F.gr (by omega)) (fun j hj' => by
        simp only [sI_mI, sI_mL, sI_mF, sI_mR, sI_mK, sI_mN, sI_mC, sI_mS, sL_mI, sL_mL, sL_mF, sL_mR, sL_mK, sL_mN, sL_mC, sL_mS, sF_mI, sF_mL, sF_mF, sF_mR, sF_mK, sF_mN, sF_mC, sF_mS, sR_mI, sR_mL, sR_mF, sR_mR, sR_mK, sR_mN, sR_mC, sR_mS]
        by_cases e : j = i
        · subst e; exact up2_eq _ _ _ _
        · rw [up2_nj _ _ _ _ e]; exact hj j (by omega))
      refine ⟨M', ?_, F.trans F', r⟩
      rw [← e]
      conv => lhs; rw [f_X7_copyFrom_L150]
      simp (disch := omega) only [gS, gD, ea, ew, Option.bind_some, nW_lit, nW_le, n1, ↓reduceIte, nW_add]
