/-! SNAPSHOTS: a client's, a share's, a tally's and a state's copy -/
theorem X0_copyFrom {M : Mem} {C D : Nat} {x0 x : Cl} (hz : 5 ≤ C ∧ C + 60 ≤ 908) (hd : C + 60 ≤ D ∨ D + 60 ≤ C) (h : ClR M C x0) (hs : ClR M D x) : ∃ M', f_X0_copyFrom C D M = some M' ∧ Fr (fun a => C ≤ a ∧ a < C + 60) M M' ∧ ClR M' C x := by
  obtain ⟨⟨⟨k1, r3, r4, r5⟩, _⟩, hw, hq, hse⟩ := h
  have tzC : ¬ tz C := by simp only [tz]; omega
  have sd : ∀ {N}, ClR N D x → gI 0 0 D N = some (zI (cB x 0)) ∧ gI 0 1 D N = some (zI (cB x 1)) ∧ gI 0 2 D N = some (zI (cB x 2)) ∧ gR 0 3 D N = some (D + 1) ∧ gR 0 4 D N = some (D + 2) ∧ gR 0 5 D N = some (D + 34) ∧ gF 0 6 D N = some (cF x) ∧ gI 0 7 D N = some (cI x 0) := fun h => by
    obtain ⟨⟨⟨a1, a2, a3, a4⟩, a5, a6, a7, a8, a9⟩, _⟩ := h
    simp only [gI, gR, gF, a1, ↓reduceIte, a2, a3, a4, a5, a6, a7, a8, a9, and_self]
  have F1 := fq_I M 0 (zI (cB x 0)) tzC
  have z1 : pZ 0 0 C (zI (cB x 0)) M = some (sI M (up2 (mI M) C 0 (zI (cB x 0)))) := pZ_z _ k1
  have i1 : mI (sI M (up2 (mI M) C 0 (zI (cB x 0)))) C 0 = zI (cB x 0) := up2_eq _ _ _ _
  generalize hM1 : sI M (up2 (mI M) C 0 (zI (cB x 0))) = M1 at F1 z1 i1
  have F2 := fq_I M1 1 (zI (cB x 1)) tzC
  have k1a : (mK M1 C).1 = 0 := by rw [F1.1]; exact k1
  have z2 : pZ 0 1 C (zI (cB x 1)) M1 = some (sI M1 (up2 (mI M1) C 1 (zI (cB x 1)))) := pZ_z _ k1a
  have i2 : mI (sI M1 (up2 (mI M1) C 1 (zI (cB x 1)))) C 0 = zI (cB x 0) ∧ mI (sI M1 (up2 (mI M1) C 1 (zI (cB x 1)))) C 1 = zI (cB x 1) := by
    simp (disch := omega) only [sI_mI, sI_mL, sI_mF, sI_mR, sI_mK, sI_mN, sI_mC, sI_mS, sL_mI, sL_mL, sL_mF, sL_mR, sL_mK, sL_mN, sL_mC, sL_mS, sF_mI, sF_mL, sF_mF, sF_mR, sF_mK, sF_mN, sF_mC, sF_mS, sR_mI, sR_mL, sR_mF, sR_mR, sR_mK, sR_mN, sR_mC, sR_mS, up2_eq, up2_nj, i1, and_self]
  generalize hM2 : sI M1 (up2 (mI M1) C 1 (zI (cB x 1))) = M2 at F2 z2 i2
  have F3 := fq_I M2 2 (zI (cB x 2)) tzC
  have k1b : (mK M2 C).1 = 0 := by rw [F2.1]; exact k1a
  have z3 : pZ 0 2 C (zI (cB x 2)) M2 = some (sI M2 (up2 (mI M2) C 2 (zI (cB x 2)))) := pZ_z _ k1b
  have i3 : mI (sI M2 (up2 (mI M2) C 2 (zI (cB x 2)))) C 0 = zI (cB x 0) ∧ mI (sI M2 (up2 (mI M2) C 2 (zI (cB x 2)))) C 1 = zI (cB x 1) ∧ mI (sI M2 (up2 (mI M2) C 2 (zI (cB x 2)))) C 2 = zI (cB x 2) := by
    simp (disch := omega) only [sI_mI, sI_mL, sI_mF, sI_mR, sI_mK, sI_mN, sI_mC, sI_mS, sL_mI, sL_mL, sL_mF, sL_mR, sL_mK, sL_mN, sL_mC, sL_mS, sF_mI, sF_mL, sF_mF, sF_mR, sF_mK, sF_mN, sF_mC, sF_mS, sR_mI, sR_mL, sR_mF, sR_mR, sR_mK, sR_mN, sR_mC, sR_mS, up2_eq, up2_nj, i2, and_self]
  have R3 : mR (sI M2 (up2 (mI M2) C 2 (zI (cB x 2)))) = mR M := by rw [← hM2, ← hM1]; rfl
  generalize hM3 : sI M2 (up2 (mI M2) C 2 (zI (cB x 2))) = M3 at F3 z3 i3 R3
  have F13 : Fr (fun a => a = C) M M3 := (F1.trans F2).trans F3
  have s0 := sd hs
  have s1 := sd (hs.gr F1.gr (fun b _ _ => by omega))
  have s2 := sd (hs.gr (F1.trans F2).gr (fun b _ _ => by omega))
  have D3 := hs.gr F13.gr (fun b _ _ => by omega)
  have s3 := sd D3
  have k3 : (mK M3 C).1 = 0 := by rw [F13.1]; exact k1
  have q3 : gR 0 3 C M3 = some (C + 1) := by simp only [gR, k3, ↓reduceIte, R3, r3]
  obtain ⟨M4, e4, F4, W4⟩ := X1_copyFrom (show (mK M3 (C + 1)).1 = 1 by rw [F13.1]; exact hw.1) D3.2.1 (by omega) (show ¬ tz (C + 1) by simp only [tz]; omega)
  have D4 := D3.gr F4.gr (fun b _ _ => by omega)
  have c4 := F4.2.2 C (Or.inr (by omega))
  have k4 : (mK M4 C).1 = 0 := by rw [F4.1]; exact k3
  have q4 : gR 0 4 C M4 = some (C + 2) := by simp only [gR, k4, ↓reduceIte, c4.2.2.2, R3, r4]
  obtain ⟨M5, e5, F5, Q5⟩ := X4_copyFrom ((hq.gr F13.gr (fun a _ _ => by omega)).gr F4.gr (fun a _ _ => by omega)) D4.2.2.1 (by omega) (by omega)
  have D5 := D4.gr F5.gr (fun b _ _ => by omega)
  have c5 := F5.2.2 C (Or.inr (by omega))
  have k5 : (mK M5 C).1 = 0 := by rw [F5.1]; exact k4
  have q5 : gR 0 5 C M5 = some (C + 34) := by simp only [gR, k5, ↓reduceIte, c5.2.2.2, c4.2.2.2, R3, r5]
  obtain ⟨M6, e6, F6, S6⟩ := X5_copyFrom (show 5 ≤ C + 34 ∧ C + 34 + 26 ≤ 908 by omega) (show C + 34 + 26 ≤ D + 34 ∨ D + 34 + 26 ≤ C + 34 by omega) (((hse.gr F13.gr (fun a _ _ => by omega)).gr F4.gr (fun a _ _ => by omega)).gr F5.gr (fun a _ _ => by omega)) D5.2.2.2
  have D6 := D5.gr F6.gr (fun b _ _ => by omega)
  have c6 := F6.2.2 C (Or.inr (by omega))
  have k6 : (mK M6 C).1 = 0 := by rw [F6.1]; exact k5
  have F7 := fq_F M6 6 (cF x) tzC
  have D7 := D6.gr F7.gr (fun b _ _ => by omega)
  have F8 := fq_I (sF M6 (up2 (mF M6) C 6 (cF x))) 7 (cI x 0) tzC
  have FA : Fr (fun a => C ≤ a ∧ a < C + 60) M (sI (sF M6 (up2 (mF M6) C 6 (cF x))) (up2 (mI (sF M6 (up2 (mF M6) C 6 (cF x)))) C 7 (cI x 0))) := ((((F13.mono (fun a h => by omega)).trans (F4.mono (fun a h => by omega))).trans (F5.mono (fun a h => by omega))).trans (F6.mono (fun a h => by omega))).trans ((F7.trans F8).mono (fun a h => by omega))
  have I6 : mI M6 C = mI M3 C := by rw [c6.1, c5.1, c4.1]
  have R6 : mR M6 C = mR M C := by rw [c6.2.2.2, c5.2.2.2, c4.2.2.2, R3]
  have F46 := (F7.trans F8).gr
  have i6 : mI (sI (sF M6 (up2 (mF M6) C 6 (cF x))) (up2 (mI (sF M6 (up2 (mF M6) C 6 (cF x)))) C 7 (cI x 0))) C 0 = zI (cB x 0) ∧ mI (sI (sF M6 (up2 (mF M6) C 6 (cF x))) (up2 (mI (sF M6 (up2 (mF M6) C 6 (cF x)))) C 7 (cI x 0))) C 1 = zI (cB x 1) ∧ mI (sI (sF M6 (up2 (mF M6) C 6 (cF x))) (up2 (mI (sF M6 (up2 (mF M6) C 6 (cF x)))) C 7 (cI x 0))) C 2 = zI (cB x 2) := by
    simp (disch := omega) only [sI_mI, sI_mL, sI_mF, sI_mR, sI_mK, sI_mN, sI_mC, sI_mS, sL_mI, sL_mL, sL_mF, sL_mR, sL_mK, sL_mN, sL_mC, sL_mS, sF_mI, sF_mL, sF_mF, sF_mR, sF_mK, sF_mN, sF_mC, sF_mS, sR_mI, sR_mL, sR_mF, sR_mR, sR_mK, sR_mN, sR_mC, sR_mS, up2_nj, I6]
    exact i3
  refine ⟨_, ?_, FA, ⟨⟨by rw [FA.1]; exact k1, ?_, ?_, ?_⟩, i6.1, i6.2.1, i6.2.2, ?_, ?_⟩, ?_, ?_, ?_⟩
  · have g6 := (sd D6).2.2.2.2.2.2.1
    have g7 := (sd D7).2.2.2.2.2.2.2
    have p6 : pF 0 6 C (cF x) M6 = some (sF M6 (up2 (mF M6) C 6 (cF x))) := by simp only [pF, k6, ↓reduceIte]
    have p7 : pI 0 7 C (cI x 0) (sF M6 (up2 (mF M6) C 6 (cF x))) = some (sI (sF M6 (up2 (mF M6) C 6 (cF x))) (up2 (mI (sF M6 (up2 (mF M6) C 6 (cF x)))) C 7 (cI x 0))) := by
      have : (mK (sF M6 (up2 (mF M6) C 6 (cF x))) C).1 = 0 := k6
      simp only [pI, this, ↓reduceIte]
    simp only [f_X0_copyFrom, k1, ↓reduceIte, s0.1, z1, s1.2.1, z2, s2.2.2.1, z3, q3, s3.2.2.2.1, e4, q4, (sd D4).2.2.2.2.1, e5, q5, (sd D5).2.2.2.2.2.1, e6, g6, p6, g7, p7, Option.bind_some]
  · show mR M6 C 3 = _; rw [R6]; exact r3
  · show mR M6 C 4 = _; rw [R6]; exact r4
  · show mR M6 C 5 = _; rw [R6]; exact r5
  · show up2 (mF M6) C 6 (cF x) C 6 = _; exact up2_eq _ _ _ _
  · show up2 (mI M6) C 7 (cI x 0) C 7 = _; exact up2_eq _ _ _ _
  · exact ((W4.gr F5.gr (by omega)).gr F6.gr (by omega)).gr F46 (by omega)
  · exact (Q5.gr F6.gr (fun a _ _ => by omega)).gr F46 (fun a _ _ => by omega)
  · exact S6.gr F46 (fun a _ _ => by omega)
theorem sc_L18 {a b : Nat} {m : List Nat} (hz : ¬ tz a ∧ ¬ tz (a + 1)) (hd : a ≠ b ∧ a + 1 ≠ b ∧ a ≠ b + 1) : ∀ n i M, i ≤ 6 → 6 - i < n → ShK M a → ShK M b → (mI M b 3 = nW m.length ∧ ∀ j, j < m.length → mI M (b + 1) j = nW (m.getD j 0)) → (∀ j, j < i → j < m.length → mI M (a + 1) j = nW (m.getD j 0)) → m.length ≤ 6 → ∃ M', f_X6_copyFrom_L18 n a b (nW i) M = some M' ∧ Fr (fun c => c = a ∨ c = a + 1) M M' ∧ mI M' a 3 = nW m.length ∧ mI M' a 1 = mI M a 1 ∧ mR M' a = mR M a ∧ ∀ j, j < m.length → mI M' (a + 1) j = nW (m.getD j 0)
  | 0, i, M, _, hn, _, _, _, _, _ => absurd hn (by omega)
  | n + 1, i, M, hi, hn, ⟨k1, k2, k3⟩, ⟨l1, l2, l3⟩, ⟨e3, ej⟩, hj, hm => by
    have hne : a + 1 ≠ a := by omega
    by_cases he : i = 6
    · subst he
      have g3 : gI 6 3 b M = some (nW m.length) := by simp only [gI, l1, ↓reduceIte, e3]
      have p3 : pI 6 3 a (nW m.length) M = some (sI M (up2 (mI M) a 3 (nW m.length))) := by simp only [pI, k1, ↓reduceIte]
      refine ⟨_, by simp (disch := omega) only [f_X6_copyFrom_L18, nW_lit, nW_le, Nat.le_refl, ↓reduceIte, g3, p3, Option.bind_some], fr_I M _ _ (Or.inl rfl) hz.1, up2_eq _ _ _ _, by simp (disch := omega) only [sI_mI, sI_mL, sI_mF, sI_mR, sI_mK, sI_mN, sI_mC, sI_mS, sL_mI, sL_mL, sL_mF, sL_mR, sL_mK, sL_mN, sL_mC, sL_mS, sF_mI, sF_mL, sF_mF, sF_mR, sF_mK, sF_mN, sF_mC, sF_mS, sR_mI, sR_mL, sR_mF, sR_mR, sR_mK, sR_mN, sR_mC, sR_mS, up2_nj], rfl, fun j hj' => ?_⟩
      simp only [sI_mI, sI_mL, sI_mF, sI_mR, sI_mK, sI_mN, sI_mC, sI_mS, sL_mI, sL_mL, sL_mF, sL_mR, sL_mK, sL_mN, sL_mC, sL_mS, sF_mI, sF_mL, sF_mF, sF_mR, sF_mK, sF_mN, sF_mC, sF_mS, sR_mI, sR_mL, sR_mF, sR_mR, sR_mK, sR_mN, sR_mC, sR_mS]; rw [up2_ne _ _ _ _ hne]; exact hj j (by omega) hj'
    · have n1 : ¬ 6 ≤ i := by omega
      have ga : gR 6 2 a M = some (a + 1) := by simp only [gR, k1, ↓reduceIte, k2]
      have gb : gR 6 2 b M = some (b + 1) := by simp only [gR, l1, ↓reduceIte, l2]
      have ea : aI 13 (b + 1) (nW i) M = some (mI M (b + 1) i) := by
        simp (disch := omega) only [aI, l3, ↓reduceIte, ix_nW, Option.map_some]
      have ew : wI 13 (a + 1) (nW i) (mI M (b + 1) i) M = some (sI M (up2 (mI M) (a + 1) i (mI M (b + 1) i))) := by
        simp (disch := omega) only [wI, k3, ↓reduceIte, ix_nW, Option.map_some, nar13]
      have F := fr_I (P := fun c => c = a ∨ c = a + 1) M i (mI M (b + 1) i) (Or.inr rfl) hz.2
      have n1b : b ≠ a + 1 := by omega
      have n2b : b + 1 ≠ a + 1 := by omega
      obtain ⟨M', e, F', r1, r2, r3, r4⟩ := sc_L18 (m := m) hz hd n (i + 1) (sI M (up2 (mI M) (a + 1) i (mI M (b + 1) i))) (by omega) (by omega) ⟨k1, k2, k3⟩ ⟨l1, l2, l3⟩ ⟨by simp only [sI_mI, sI_mL, sI_mF, sI_mR, sI_mK, sI_mN, sI_mC, sI_mS, sL_mI, sL_mL, sL_mF, sL_mR, sL_mK, sL_mN, sL_mC, sL_mS, sF_mI, sF_mL, sF_mF, sF_mR, sF_mK, sF_mN, sF_mC, sF_mS, sR_mI, sR_mL, sR_mF, sR_mR, sR_mK, sR_mN, sR_mC, sR_mS]; rw [up2_ne _ _ _ _ n1b]; exact e3, fun j hj' => by simp only [sI_mI, sI_mL, sI_mF, sI_mR, sI_mK, sI_mN, sI_mC, sI_mS, sL_mI, sL_mL, sL_mF, sL_mR, sL_mK, sL_mN, sL_mC, sL_mS, sF_mI, sF_mL, sF_mF, sF_mR, sF_mK, sF_mN, sF_mC, sF_mS, sR_mI, sR_mL, sR_mF, sR_mR, sR_mK, sR_mN, sR_mC, sR_mS]; rw [up2_ne _ _ _ _ n2b]; exact ej j hj'⟩ (fun j h1 h2 => by
        simp only [sI_mI, sI_mL, sI_mF, sI_mR, sI_mK, sI_mN, sI_mC, sI_mS, sL_mI, sL_mL, sL_mF, sL_mR, sL_mK, sL_mN, sL_mC, sL_mS, sF_mI, sF_mL, sF_mF, sF_mR, sF_mK, sF_mN, sF_mC, sF_mS, sR_mI, sR_mL, sR_mF, sR_mR, sR_mK, sR_mN, sR_mC, sR_mS]
        by_cases e : j = i
        · subst e; rw [up2_eq]; exact ej j h2
        · rw [up2_nj _ _ _ _ e]; exact hj j (by omega) h2) hm
      have hne' : a ≠ a + 1 := by omega
      refine ⟨M', ?_, F.trans F', r1, by rw [r2]; simp only [sI_mI, sI_mL, sI_mF, sI_mR, sI_mK, sI_mN, sI_mC, sI_mS, sL_mI, sL_mL, sL_mF, sL_mR, sL_mK, sL_mN, sL_mC, sL_mS, sF_mI, sF_mL, sF_mF, sF_mR, sF_mK, sF_mN, sF_mC, sF_mS, sR_mI, sR_mL, sR_mF, sR_mR, sR_mK, sR_mN, sR_mC, sR_mS]; exact up2_ne _ _ _ _ hne', r3, r4⟩
      rw [← e]
      conv => lhs; rw [f_X6_copyFrom_L18]
      simp (disch := omega) only [nW_lit, nW_le, n1, ↓reduceIte, ga, gb, ea, ew, Option.bind_some, nW_add]
theorem X6_copyFrom {M : Mem} {a b : Nat} {x : Sh} (hz : ¬ tz a ∧ ¬ tz (a + 1)) (hd : a ≠ b ∧ a + 1 ≠ b ∧ a ≠ b + 1) (hk : ShK M a) (hk2 : ShK M b) (h : ShV M b x) : ∃ M', f_X6_copyFrom a b M = some M' ∧ Fr (fun c => c = a ∨ c = a + 1) M M' ∧ ShK M' a ∧ ShV M' a x := by
  obtain ⟨h1, h2, h3, ⟨y, h4, h5⟩, h6⟩ := h
  obtain ⟨k1, k2, k3⟩ := hk
  obtain ⟨l1, l2, l3⟩ := hk2
  have g0 : gR 6 0 b M = some y := by simp only [gR, l1, ↓reduceIte, h4]
  have hky : (mK M y).1 = 10 := h5.2.1.1
  have p0 : pR 6 0 a y M = some (sR M (up2 (mR M) a 0 (some y))) := by
    unfold pR; exact if_pos ⟨k1, by rw [hky]; decide⟩
  have F1 := fr_R (P := fun c => c = a ∨ c = a + 1) M 0 (some y) (Or.inl rfl) hz.1
  have g1 : gI 6 1 b (sR M (up2 (mR M) a 0 (some y))) = some x.2.1 := by
    have : (mK (sR M (up2 (mR M) a 0 (some y))) b).1 = 6 := l1
    simp only [gI, this, ↓reduceIte]; exact congrArg some h1
  have p1 : pI 6 1 a x.2.1 (sR M (up2 (mR M) a 0 (some y))) = some (sI (sR M (up2 (mR M) a 0 (some y))) (up2 (mI M) a 1 x.2.1)) := by
    have : (mK (sR M (up2 (mR M) a 0 (some y))) a).1 = 6 := k1
    simp only [pI, this, ↓reduceIte]; rfl
  have F2 : Fr (fun c => c = a ∨ c = a + 1) M (sI (sR M (up2 (mR M) a 0 (some y))) (up2 (mI M) a 1 x.2.1)) := F1.trans (fr_I (sR M (up2 (mR M) a 0 (some y))) 1 x.2.1 (Or.inl rfl) hz.1)
  have n2b : b + 1 ≠ a := by omega
  have n1b : b ≠ a := by omega
  obtain ⟨M', e, F', r1, r2, r3, r4⟩ := sc_L18 (m := x.2.2) hz hd FU 0 (sI (sR M (up2 (mR M) a 0 (some y))) (up2 (mI M) a 1 x.2.1)) (by omega) (by simp only [FU]; omega) ⟨k1, by simp (disch := omega) only [sI_mI, sI_mL, sI_mF, sI_mR, sI_mK, sI_mN, sI_mC, sI_mS, sL_mI, sL_mL, sL_mF, sL_mR, sL_mK, sL_mN, sL_mC, sL_mS, sF_mI, sF_mL, sF_mF, sF_mR, sF_mK, sF_mN, sF_mC, sF_mS, sR_mI, sR_mL, sR_mF, sR_mR, sR_mK, sR_mN, sR_mC, sR_mS, up2_nj, k2], k3⟩ ⟨l1, by simp only [sI_mI, sI_mL, sI_mF, sI_mR, sI_mK, sI_mN, sI_mC, sI_mS, sL_mI, sL_mL, sL_mF, sL_mR, sL_mK, sL_mN, sL_mC, sL_mS, sF_mI, sF_mL, sF_mF, sF_mR, sF_mK, sF_mN, sF_mC, sF_mS, sR_mI, sR_mL, sR_mF, sR_mR, sR_mK, sR_mN, sR_mC, sR_mS]; rw [up2_ne _ _ _ _ n1b]; exact l2, l3⟩ ⟨by simp only [sI_mI, sI_mL, sI_mF, sI_mR, sI_mK, sI_mN, sI_mC, sI_mS, sL_mI, sL_mL, sL_mF, sL_mR, sL_mK, sL_mN, sL_mC, sL_mS, sF_mI, sF_mL, sF_mF, sF_mR, sF_mK, sF_mN, sF_mC, sF_mS, sR_mI, sR_mL, sR_mF, sR_mR, sR_mK, sR_mN, sR_mC, sR_mS]; rw [up2_ne _ _ _ _ n1b]; exact h2, fun j hj => by simp only [sI_mI, sI_mL, sI_mF, sI_mR, sI_mK, sI_mN, sI_mC, sI_mS, sL_mI, sL_mL, sL_mF, sL_mR, sL_mK, sL_mN, sL_mC, sL_mS, sF_mI, sF_mL, sF_mF, sF_mR, sF_mK, sF_mN, sF_mC, sF_mS, sR_mI, sR_mL, sR_mF, sR_mR, sR_mK, sR_mN, sR_mC, sR_mS]; rw [up2_ne _ _ _ _ n2b]; exact h6 j hj⟩ (fun j hj => absurd hj (Nat.not_lt_zero j)) h3
  have FA := F2.trans F'
  refine ⟨M', ?_, FA, ⟨by rw [FA.1]; exact k1, by rw [r3]; simp (disch := omega) only [sI_mI, sI_mL, sI_mF, sI_mR, sI_mK, sI_mN, sI_mC, sI_mS, sL_mI, sL_mL, sL_mF, sL_mR, sL_mK, sL_mN, sL_mC, sL_mS, sF_mI, sF_mL, sF_mF, sF_mR, sF_mK, sF_mN, sF_mC, sF_mS, sR_mI, sR_mL, sR_mF, sR_mR, sR_mK, sR_mN, sR_mC, sR_mS, up2_nj, k2], by rw [FA.1]; exact k3⟩, by rw [r2]; simp only [sI_mI, sI_mL, sI_mF, sI_mR, sI_mK, sI_mN, sI_mC, sI_mS, sL_mI, sL_mL, sL_mF, sL_mR, sL_mK, sL_mN, sL_mC, sL_mS, sF_mI, sF_mL, sF_mF, sF_mR, sF_mK, sF_mN, sF_mC, sF_mS, sR_mI, sR_mL, sR_mF, sR_mR, sR_mK, sR_mN, sR_mC, sR_mS, up2_eq], r1, h3, ⟨y, by rw [r3]; simp only [sI_mI, sI_mL, sI_mF, sI_mR, sI_mK, sI_mN, sI_mC, sI_mS, sL_mI, sL_mL, sL_mF, sL_mR, sL_mK, sL_mN, sL_mC, sL_mS, sF_mI, sF_mL, sF_mF, sF_mR, sF_mK, sF_mN, sF_mC, sF_mS, sR_mI, sR_mL, sR_mF, sR_mR, sR_mK, sR_mN, sR_mC, sR_mS, up2_eq], h5.gr FA.gr⟩, r4⟩
  rw [← e]
  simp only [f_X6_copyFrom, k1, ↓reduceIte, g0, p0, g1, p1, Option.bind_some, nW_lit]
