theorem X7_copyFrom {M : Mem} {S D : Nat} {σ0 σ : Sg} (hZ : inZ S) (hd : S + 450 ≤ D ∨ D + 450 ≤ S) (h : StR M S σ0) (hs : StR M D σ) : ∃ M', f_X7_copyFrom S D M = some M' ∧ Fr (SZ S) M M' ∧ StR M' S σ := by
  obtain ⟨M2, τ, e2, F2, H2, hc⟩ := sc_L2 hZ hd FU 0 M σ0 (by omega) (by simp only [FU]; omega) h hs (fun j hj => absurd hj (Nat.not_lt_zero j))
  have z := hZ
  obtain ⟨z1, z2⟩ := hZ
  have hS2 : StR M2 D σ := hs.gr F2.gr (fun a h hh => by unfold SZ at h hh; omega)
  have k1 : (mK M S).1 = 7 := h.1.1.1
  obtain ⟨⟨⟨b1, ⟨x, bx, bt⟩, b2, b3, b4, b5, b6, b7, b8⟩, _, ⟨c1, c2⟩, ⟨c3, _⟩, ⟨c4, _⟩, c5⟩, hC, ⟨_, _, p, hA, hK, _⟩, ⟨_, _, q, hB, _⟩, hT⟩ := H2
  have tS : ¬ tz S := by simp only [tz]; omega
  -- shares
  have l36 := hS2.2.2.1.2.1
  have g3 : gI 7 3 D M2 = some (nW (gSh σ).length) := by simp only [gI, hS2.1.1.1, ↓reduceIte, hS2.2.2.1.1]
  have p3 : pI 7 3 S (nW (gSh σ).length) M2 = some (sI M2 (up2 (mI M2) S 3 (nW (gSh σ).length))) := by simp only [pI, b1, ↓reduceIte]
  have F3 := fq_I M2 3 (nW (gSh σ).length) tS
  have R3 : mR (sI M2 (up2 (mI M2) S 3 (nW (gSh σ).length))) = mR M2 := rfl
  have i3 : mI (sI M2 (up2 (mI M2) S 3 (nW (gSh σ).length))) S 3 = nW (gSh σ).length := up2_eq _ _ _ _
  generalize hM3 : sI M2 (up2 (mI M2) S 3 (nW (gSh σ).length)) = M3 at F3 p3 R3 i3
  have hS3 : StR M3 D σ := hS2.gr F3.gr (fun a h => by unfold SZ at h; omega)
  obtain ⟨M4, e4, F4, Sh4⟩ := sc_L39 (p := p) z hd FU 0 M3 (by omega) (by simp only [FU]; omega) ⟨by rw [F3.1]; exact b1, by rw [R3]; exact b3, i3⟩ (hA.gr F3.gr (by decide) (by decide) (by omega)) (fun j hj => ⟨(hK j hj).1, (hK j hj).2.gr F3.gr (by have := (hA.2.1 j hj).2.2; omega)⟩) (BaR_O hS3.1) hS3.2.2.1 (fun j hj => absurd hj (Nat.not_lt_zero j))
  have hS4 : StR M4 D σ := hS3.gr F4.gr (fun a h => by unfold SZ at h; omega)
  have s4 := F4.2.2 S (Or.inr (by omega))
  -- retained
  have l8 := hS4.2.2.2.1.2.1
  have k4 : (mK M4 S).1 = 7 := by rw [F4.1, F3.1]; exact b1
  have g5 : gI 7 5 D M4 = some (nW (gRe σ).1) := by simp only [gI, hS4.1.1.1, ↓reduceIte, hS4.2.2.2.1.1]
  have p5 : pI 7 5 S (nW (gRe σ).1) M4 = some (sI M4 (up2 (mI M4) S 5 (nW (gRe σ).1))) := by simp only [pI, k4, ↓reduceIte]
  have F5 := fq_I M4 5 (nW (gRe σ).1) tS
  have R5 : mR (sI M4 (up2 (mI M4) S 5 (nW (gRe σ).1))) = mR M4 := rfl
  have i5 : mI (sI M4 (up2 (mI M4) S 5 (nW (gRe σ).1))) S 5 = nW (gRe σ).1 ∧ mI (sI M4 (up2 (mI M4) S 5 (nW (gRe σ).1))) S 3 = mI M4 S 3 := ⟨up2_eq _ _ _ _, up2_nj _ _ _ _ (by omega)⟩
  generalize hM5 : sI M4 (up2 (mI M4) S 5 (nW (gRe σ).1)) = M5 at F5 p5 R5 i5
  have hS5 : StR M5 D σ := hS4.gr F5.gr (fun a h => by unfold SZ at h; omega)
  have F25 : Fr (fun a => a = S ∨ (S + 363 ≤ a ∧ a < S + 435)) M2 M5 := ((F3.mono (fun a h => Or.inl h)).trans (F4.mono (fun a h => Or.inr h))).trans (F5.mono (fun a h => Or.inl h))
  have R5' : mR M5 S = mR M2 S := by rw [R5, s4.2.2.2, R3]
  obtain ⟨M6, e6, F6, Re6⟩ := sc_L84 (p := q) z hd FU 0 M5 (by omega) (by simp only [FU]; omega) ⟨by rw [F5.1]; exact k4, by rw [R5']; exact b4, i5.1⟩ (hB.gr F25.gr (by decide) (by decide) (by omega)) (BaR_O hS5.1) hS5.2.2.2.1 (fun j hj => absurd hj (Nat.not_lt_zero j))
  have hS6 : StR M6 D σ := hS5.gr F6.gr (fun a h => by unfold SZ at h; omega)
  have s6 := F6.2.2 S (Or.inr (by omega))
  have F26 : Fr (fun a => a = S ∨ (S + 363 ≤ a ∧ a < S + 444)) M2 M6 := F25.tr F6 (fun a h => by omega) (fun a h => by omega)
  -- options and totals
  obtain ⟨M7, e7, F7, O7⟩ := sc_L121 (sc := gSc σ) z hd FU 0 M6 (by omega) (by simp only [FU]; omega) ⟨by rw [F26.1]; exact b1, by rw [s6.2.2.2, R5']; exact b5, by rw [F26.1]; exact c3⟩ hS6.1 (fun j hj => absurd hj (Nat.not_lt_zero j))
  have hS7 : StR M7 D σ := hS6.gr F7.gr (fun a h => by unfold SZ at h; omega)
  have s7 := F7.2.2 S (Or.inr (by omega))
  have F27 : Fr (fun a => a = S ∨ (S + 363 ≤ a ∧ a < S + 445)) M2 M7 := F26.tr F7 (fun a h => by omega) (fun a h => by omega)
  obtain ⟨M8, e8, F8, T8⟩ := sc_L150 (sc := gSc σ) z hd FU 0 M7 (by omega) (by simp only [FU]; omega) ⟨by rw [F27.1]; exact b1, by rw [s7.2.2.2, s6.2.2.2, R5']; exact b6, by rw [F27.1]; exact c4⟩ hS7.1 (fun j hj => absurd hj (Nat.not_lt_zero j))
  have hS8 : StR M8 D σ := hS7.gr F8.gr (fun a h => by unfold SZ at h; omega)
  have s8 := F8.2.2 S (Or.inr (by omega))
  have F28 : Fr (fun a => a = S ∨ (S + 363 ≤ a ∧ a < S + 446)) M2 M8 := F27.tr F8 (fun a h => by omega) (fun a h => by omega)
  have R8 : mR M8 S = mR M2 S := by rw [s8.2.2.2, s7.2.2.2, s6.2.2.2, R5']
  have k8 : (mK M8 S).1 = 7 := by rw [F28.1]; exact b1
  -- the counts of topics
  obtain ⟨M9, e9, F9, T9⟩ := X9_copyFrom (show 5 ≤ S + 446 ∧ S + 446 + 3 ≤ 908 by omega) (show S + 446 + 3 ≤ D + 446 ∨ D + 446 + 3 ≤ S + 446 by omega) (hT.gr F28.gr (by omega)) hS8.2.2.2.2
  have hS9 : StR M9 D σ := hS8.gr F9.gr (fun a h => by unfold SZ at h; omega)
  have s9 := F9.2.2 S (Or.inr (by omega))
  have F29 : Fr (fun a => a = S ∨ (S + 363 ≤ a ∧ a < S + 449)) M2 M9 := F28.tr F9 (fun a h => by omega) (fun a h => by omega)
  have k9 : (mK M9 S).1 = 7 := by rw [F9.1]; exact k8
  have g9 : gI 7 9 D M9 = some (gSc σ 14) := by simp only [gI, hS9.1.1.1, ↓reduceIte, hS9.1.2.1]
  have p9 : pI 7 9 S (gSc σ 14) M9 = some (sI M9 (up2 (mI M9) S 9 (gSc σ 14))) := by simp only [pI, k9, ↓reduceIte]
  have F10 := fq_I M9 9 (gSc σ 14) tS
  have R10 : mR (sI M9 (up2 (mI M9) S 9 (gSc σ 14))) S = mR M2 S := by rw [← R8, ← s9.2.2.2]; rfl
  have i10 : mI (sI M9 (up2 (mI M9) S 9 (gSc σ 14))) S 9 = gSc σ 14 ∧ mI (sI M9 (up2 (mI M9) S 9 (gSc σ 14))) S 3 = nW (gSh σ).length ∧ mI (sI M9 (up2 (mI M9) S 9 (gSc σ 14))) S 5 = nW (gRe σ).1 := by
    simp (disch := omega) only [sI_mI, sI_mL, sI_mF, sI_mR, sI_mK, sI_mN, sI_mC, sI_mS, sL_mI, sL_mL, sL_mF, sL_mR, sL_mK, sL_mN, sL_mC, sL_mS, sF_mI, sF_mL, sF_mF, sF_mR, sF_mK, sF_mN, sF_mC, sF_mS, sR_mI, sR_mL, sR_mF, sR_mR, sR_mK, sR_mN, sR_mC, sR_mS, up2_eq, up2_nj]
    refine ⟨trivial, ?_, ?_⟩
    · rw [s9.1, s8.1, s7.1, s6.1, i5.2]; exact Sh4.1
    · rw [s9.1, s8.1, s7.1, s6.1]; exact i5.1
  generalize hM10 : sI M9 (up2 (mI M9) S 9 (gSc σ 14)) = M10 at F10 p9 R10 i10
  have F210 : Fr (fun a => a = S ∨ (S + 363 ≤ a ∧ a < S + 449)) M2 M10 := F29.trans (F10.mono (fun a h => Or.inl h))
  have G68 : Fr (fun a => S + 444 ≤ a ∧ a < S + 446) M6 M8 := F7.tr F8 (fun a h => by omega) (fun a h => by omega)
  have G6 : Fr (fun a => a = S ∨ (S + 444 ≤ a ∧ a < S + 449)) M6 M10 := ((G68.mono (fun a h => by omega)).trans (F9.mono (fun a h => by omega))).trans (F10.mono (fun a h => by omega))
  have G4 : Fr (fun a => a = S ∨ (S + 436 ≤ a ∧ a < S + 449)) M4 M10 := ((F5.mono (fun a h => by omega)).trans (F6.mono (fun a h => by omega))).trans (G6.mono (fun a h => by omega))
  have G8 : Fr (fun a => a = S ∨ (S + 446 ≤ a ∧ a < S + 449)) M8 M10 := (F9.mono (fun a h => by omega)).trans (F10.mono (fun a h => by omega))
  refine ⟨M10, ?_, F2.trans (F210.mono (fun a h => by unfold SZ; omega)), ?_, ?_, ?_, ?_, ?_⟩
  · have q7 : gR 7 8 S M8 = some (S + 446) := by simp only [gR, k8, ↓reduceIte, R8, b7]
    have q7' : gR 7 8 D M8 = some (D + 446) := by simp only [gR, hS8.1.1.1, ↓reduceIte, hS8.1.1.2.2.2.2.2.2.2.1]
    have le6 : nW 6 ≤ nW 6 := by decide
    have le10 : nW 10 ≤ nW 10 := by decide
    simp only [f_X7_copyFrom, k1, ↓reduceIte, nW_lit]
    rw [e2, f_X7_copyFrom_L2]
    simp only [nW_lit, le6, ↓reduceIte, g3, p3, Option.bind_some]
    rw [e4]
    simp only [f_X7_copyFrom_J74, nW_lit, g5, p5, Option.bind_some]
    rw [e6, e7, e8, f_X7_copyFrom_L150]
    simp only [nW_lit, le10, ↓reduceIte, q7, q7', e9, g9, p9, Option.bind_some]
  · have a44 := G8.2.2 (S + 444) (Or.inr (by omega))
    have a44' := F8.2.2 (S + 444) (Or.inr (by omega))
    have a45 := G8.2.2 (S + 445) (Or.inr (by omega))
    refine ⟨⟨by rw [F210.1]; exact b1, ⟨x, by rw [R10]; exact bx, bt.gr F210.gr⟩, by rw [R10]; exact b2, by rw [R10]; exact b3, by rw [R10]; exact b4, by rw [R10]; exact b5, by rw [R10]; exact b6, by rw [R10]; exact b7, by rw [R10]; exact b8⟩, i10.1, ⟨by rw [F210.1]; exact c1, fun c hc' => ?_⟩, ⟨by rw [F210.1]; exact c3, fun i hi => ?_⟩, ⟨by rw [F210.1]; exact c4, fun i hi => ?_⟩, by rw [F210.1]; exact c5⟩
    · have := F210.2.2 (S + 1) (Or.inr (by omega))
      rw [this.2.2.2]; exact c2 c hc'
    · rw [a44.1, a44'.1]; exact O7 i hi
    · rw [a45.1]; exact T8 i hi
  · intro c hc'
    rw [← hc c hc']
    exact (hC c hc').gr F210.gr (fun b _ _ => by omega)
  · obtain ⟨h1, h2, p', h3, h4, h5⟩ := Sh4
    have rng : ∀ j, j < 36 → S + 363 ≤ p' j ∧ p' j + 1 < S + 435 := fun j hj => by
      have := (h3.2.1 j hj).2.2; have := (h4 j hj).1; omega
    refine ⟨i10.2.1, h2, p', h3.gr G4.gr (by decide) (by decide) (by omega), fun j hj => ⟨(h4 j hj).1, (h4 j hj).2.gr G4.gr (by have := rng j hj; omega)⟩, fun j hj => ?_⟩
    have := rng j (by omega)
    exact (h5 j hj).gr G4.gr (h4 j (by omega)).2 (by omega)
  · obtain ⟨h1, h2, q', h3, h4⟩ := Re6
    refine ⟨i10.2.2, h2, q', h3.gr G6.gr (by decide) (by decide) (by omega), fun j hj => ?_⟩
    have := (h3.2.1 j (by omega)).2.2
    exact (h4 j hj).gr G6.gr (by omega)
  · exact T9.gr F10.gr (by omega)
