/-! SNAPSHOTS: a session's and a client's copy -/
theorem sc_L34 {s s2 : Nat} {k : Nat → Bool} (hz : 5 ≤ s ∧ s + 26 ≤ 908) (hd : s + 26 ≤ s2 ∨ s2 + 26 ≤ s) : ∀ n i M, i ≤ 51 → 51 - i < n → ((mK M s).1 = 5 ∧ mR M s 4 = some (s + 1) ∧ mK M (s + 1) = (17, 51)) → ((mK M s2).1 = 5 ∧ mR M s2 4 = some (s2 + 1)) → KeR M (s2 + 1) k → (∀ j, j < i → mI M (s + 1) j = zI (k j)) → ∃ M', f_X5_copyFrom_L34 n s s2 (nW i) M = f_X5_copyFrom_L34 1 s s2 (nW 51) M' ∧ Fr (fun a => a = s + 1) M M' ∧ ∀ j, j < 51 → mI M' (s + 1) j = zI (k j)
  | 0, i, M, _, hn, _, _, _, _ => absurd hn (by omega)
  | n + 1, i, M, hi, hn, ht, hs, hk, hj => by
    obtain ⟨t1, t2, t3⟩ := ht
    obtain ⟨s1, s2'⟩ := hs
    have r17 : 13 ≤ 17 ∧ 17 ≤ 23 := by omega
    have en : aN (s + 1) M = some (nW 51) := by simp only [aN, t3]; rfl
    have er : gR 5 4 s M = some (s + 1) := by simp only [gR, t1, ↓reduceIte, t2]
    by_cases he : i = 51
    · subst he
      refine ⟨M, ?_, Fr.refl _ _, hj⟩
      simp (disch := omega) only [f_X5_copyFrom_L34, er, en, Option.bind_some, nW_le, Nat.le_refl, ↓reduceIte]
    · have n1 : ¬ 51 ≤ i := by omega
      have er2 : gR 5 4 s2 M = some (s2 + 1) := by simp only [gR, s1, ↓reduceIte, s2']
      have ea : aI 17 (s2 + 1) (nW i) M = some (zI (k i)) := by
        simp (disch := omega) only [aI, hk.1, ↓reduceIte, ix_nW, Option.map_some, hk.2 i (by omega)]
      have ew : wI 17 (s + 1) (nW i) (zI (k i)) M = some (sI M (up2 (mI M) (s + 1) i (zI (k i)))) := by
        simp (disch := omega) only [wI, t3, ↓reduceIte, ix_nW, Option.map_some, nar17]
      have F := fq_I M i (zI (k i)) (show ¬ tz (s + 1) by simp only [tz]; omega)
      obtain ⟨M', e, F', hj'⟩ := sc_L34 hz hd n (i + 1) (sI M (up2 (mI M) (s + 1) i (zI (k i)))) (by omega) (by omega) ⟨t1, t2, t3⟩ ⟨s1, s2'⟩ (hk.gr F.gr (by omega)) (fun j hj' => by
        show up2 (mI M) (s + 1) i (zI (k i)) (s + 1) j = _
        by_cases e : j = i
        · subst e; exact up2_eq _ _ _ _
        · rw [up2_nj _ _ _ _ e]; exact hj j (by omega))
      refine ⟨M', ?_, F.trans F', hj'⟩
      rw [← e]
      conv => lhs; rw [f_X5_copyFrom_L34]
      simp (disch := omega) only [er, en, er2, Option.bind_some, nW_le, n1, ↓reduceIte, ea, ew, nW_lit, nW_add]
theorem sc_L79 {s s2 : Nat} {l : Ls Row} {p : Nat → Nat} (hz : 5 ≤ s ∧ s + 26 ≤ 908) (hd : s + 26 ≤ s2 ∨ s2 + 26 ≤ s) (l6 : l.1 ≤ 6) : ∀ n i M, i ≤ l.1 → l.1 - i < n → ((mK M s).1 = 5 ∧ mR M s 6 = some (s + 2) ∧ mI M s 7 = nW l.1 ∧ Ar M (s + 2) 22 6 8 (s + 3) (s + 9) p) → ((mK M s2).1 = 5 ∧ mR M s2 6 = some (s2 + 2) ∧ SubsR M (s2 + 2) l) → (∀ j, j < i → SuR M (p j) (l.2 j)) → ∃ M', f_X5_copyFrom_L79 n s s2 (nW i) M = f_X5_copyFrom_J114 s s2 M' ∧ Fr (fun a => s + 3 ≤ a ∧ a < s + 9) M M' ∧ ∀ j, j < l.1 → SuR M' (p j) (l.2 j)
  | 0, i, M, _, hn, _, _, _ => absurd hn (by omega)
  | n + 1, i, M, hi, hn, ht, hs, hj => by
    obtain ⟨t1, t2, t3, t4⟩ := ht
    obtain ⟨s1, s3, s4⟩ := hs
    have eg : gI 5 7 s M = some (nW l.1) := by simp only [gI, t1, ↓reduceIte, t3]
    by_cases he : i = l.1
    · subst he
      refine ⟨M, ?_, Fr.refl _ _, hj⟩
      simp (disch := omega) only [f_X5_copyFrom_L79, eg, Option.bind_some, nW_le, Nat.le_refl, ↓reduceIte]
    · have n1 : ¬ l.1 ≤ i := by omega
      have n6 : ¬ 6 ≤ i := by omega
      have er : gR 5 6 s M = some (s + 2) := by simp only [gR, t1, ↓reduceIte, t2]
      have er2 : gR 5 6 s2 M = some (s2 + 2) := by simp only [gR, s1, ↓reduceIte, s3]
      obtain ⟨t5, t6, t7⟩ := t4
      obtain ⟨p1, p2, p3⟩ := t6 i (by omega)
      have ea : aR 22 (s + 2) (nW i) M = some (p i) := by
        simp (disch := omega) only [aR, t5, ↓reduceIte, ix_nW, Option.bind_some, p1]
      obtain ⟨q, eq, hq, hSu⟩ := SubsR_at s4 (show i < l.1 by omega)
      obtain ⟨M1, e1, F1, R1⟩ := X8_copyFrom p2 hSu (by omega) (show ¬ tz (p i) by simp only [tz]; omega)
      have hs1 := F1.2.2 s (Or.inr (by omega))
      have hs2 := F1.2.2 s2 (Or.inr (by omega))
      obtain ⟨M', e, F', hj'⟩ := sc_L79 (p := p) hz hd l6 n (i + 1) M1 (by omega) (by omega) ⟨by rw [F1.1]; exact t1, by rw [hs1.2.2.2]; exact t2, by rw [hs1.1]; exact t3, Ar.gr F1.gr (by decide) (by decide) (by omega) ⟨t5, t6, t7⟩⟩ ⟨by rw [F1.1]; exact s1, by rw [hs2.2.2.2]; exact s3, s4.gr F1.gr (fun b _ _ => by omega)⟩ (fun j hj' => by
        by_cases e : j = i
        · subst e; exact R1
        · refine (hj j (by omega)).gr F1.gr (fun h => ?_)
          exact e (t7 j i (by omega) (by omega) h))
      refine ⟨M', ?_, (F1.mono (fun a h => by omega)).trans F', hj'⟩
      rw [← e]
      conv => lhs; rw [f_X5_copyFrom_L79]
      simp (disch := omega) only [eg, er, er2, Option.bind_some, nW_le, n1, n6, ↓reduceIte, ea, eq, e1, nW_lit, nW_add]
theorem se_w {M : Mem} {s s2 : Nat} {x : Cl} (f : Nat) (v : Int32) (hz : 5 ≤ s ∧ s + 26 ≤ 908) (hd : s + 26 ≤ s2 ∨ s2 + 26 ≤ s) (hs : SeR M s2 x) (k1 : (mK M s).1 = 5) : pI 5 f s v M = some (sI M (up2 (mI M) s f v)) ∧ Fr (fun a => a = s) M (sI M (up2 (mI M) s f v)) ∧ SeR (sI M (up2 (mI M) s f v)) s2 x := by
  have F := fq_I M f v (show ¬ tz s by simp only [tz]; omega)
  exact ⟨by simp only [pI, k1, ↓reduceIte], F, hs.gr F.gr (fun b _ _ => by omega)⟩
theorem se_g {M : Mem} {s2 : Nat} {x : Cl} (hs : SeR M s2 x) : gI 5 0 s2 M = some (zI (cB x 3)) ∧ gI 5 1 s2 M = some (zI (cB x 4)) ∧ gI 5 2 s2 M = some (cI x 1) ∧ gI 5 3 s2 M = some (nW (cN x)) ∧ gI 5 5 s2 M = some (nW (kcnt (cK x) 50)) ∧ gI 5 7 s2 M = some (nW (cL x 3).1) ∧ gR 5 8 s2 M = some (s2 + 9) ∧ gR 5 9 s2 M = some (s2 + 16) := by
  obtain ⟨⟨⟨k1, k2, k3, k4, k5⟩, e0, e1, e2, e3, e4, e5, _⟩, _⟩ := hs
  simp only [gI, gR, k1, ↓reduceIte, e0, e1, e2, e3, e4, e5, k4, k5, and_self]
theorem X5_copyFrom {M : Mem} {s s2 : Nat} {x0 x : Cl} (hz : 5 ≤ s ∧ s + 26 ≤ 908) (hd : s + 26 ≤ s2 ∨ s2 + 26 ≤ s) (h : SeR M s x0) (hs : SeR M s2 x) : ∃ M', f_X5_copyFrom s s2 M = some M' ∧ Fr (fun a => s ≤ a ∧ a < s + 26) M M' ∧ SeR M' s x := by
  obtain ⟨⟨⟨k1, r4, r6, r8, r9⟩, _⟩, ⟨ke1, _⟩, ⟨_, p, hp, _⟩, mf, mp⟩ := h
  have l6 : (cL x 3).1 ≤ 6 := hs.2.2.1.1
  have n50 : cN x ≤ 50 := hs.1.2.2.2.2.2.2.2
  have g0 := (se_g hs).1
  obtain ⟨e1, F1, S1⟩ := se_w 0 (zI (cB x 3)) hz hd hs k1
  have z1 : pZ 5 0 s (zI (cB x 3)) M = some (sI M (up2 (mI M) s 0 (zI (cB x 3)))) := pZ_z _ k1
  generalize hM1 : sI M (up2 (mI M) s 0 (zI (cB x 3))) = M1 at F1 S1 z1
  have k1' : (mK M1 s).1 = 5 := by rw [F1.1]; exact k1
  have g1 := (se_g S1).2.1
  obtain ⟨e2, F2, S2⟩ := se_w 1 (zI (cB x 4)) hz hd S1 k1'
  have z2 : pZ 5 1 s (zI (cB x 4)) M1 = some (sI M1 (up2 (mI M1) s 1 (zI (cB x 4)))) := pZ_z _ k1'
  generalize hM2 : sI M1 (up2 (mI M1) s 1 (zI (cB x 4))) = M2 at F2 S2 z2
  have k2' : (mK M2 s).1 = 5 := by rw [F2.1]; exact k1'
  have g2 := (se_g S2).2.2.1
  obtain ⟨z3, F3, S3⟩ := se_w 2 (cI x 1) hz hd S2 k2'
  generalize hM3 : sI M2 (up2 (mI M2) s 2 (cI x 1)) = M3 at F3 S3 z3
  have k3' : (mK M3 s).1 = 5 := by rw [F3.1]; exact k2'
  have g3 := (se_g S3).2.2.2.1
  obtain ⟨z4, F4, S4⟩ := se_w 3 (nW (cN x)) hz hd S3 k3'
  generalize hM4 : sI M3 (up2 (mI M3) s 3 (nW (cN x))) = M4 at F4 S4 z4
  have F14 : Fr (fun a => a = s) M M4 := ((F1.trans F2).trans F3).trans F4
  have R4 : mR M4 = mR M := by rw [← hM4, ← hM3, ← hM2, ← hM1]; rfl
  have I4 : mI M4 s 0 = zI (cB x 3) ∧ mI M4 s 1 = zI (cB x 4) ∧ mI M4 s 2 = cI x 1 ∧ mI M4 s 3 = nW (cN x) := by
    rw [← hM4, ← hM3, ← hM2, ← hM1]
    simp (disch := omega) only [sI_mI, sI_mL, sI_mF, sI_mR, sI_mK, sI_mN, sI_mC, sI_mS, sL_mI, sL_mL, sL_mF, sL_mR, sL_mK, sL_mN, sL_mC, sL_mS, sF_mI, sF_mL, sF_mF, sF_mR, sF_mK, sF_mN, sF_mC, sF_mS, sR_mI, sR_mL, sR_mF, sR_mR, sR_mK, sR_mN, sR_mC, sR_mS, up2_eq, up2_nj, and_self]
  -- the kept identifiers
  obtain ⟨M5, e5, F5, K5⟩ := sc_L34 (k := cK x) hz hd FU 0 M4 (by omega) (by simp only [FU]; omega) ⟨by rw [F14.1]; exact k1, by rw [R4]; exact r4, by rw [F14.1]; exact ke1⟩ ⟨S4.1.1.1, S4.1.1.2.1⟩ S4.2.1 (fun j hj => absurd hj (Nat.not_lt_zero j))
  have S5 := S4.gr F5.gr (fun b _ _ => by omega)
  have k5' : (mK M5 s).1 = 5 := by rw [F5.1, F14.1]; exact k1
  have h5s := F5.2.2 s (Or.inr (by omega))
  have R5 : mR M5 s = mR M s := by rw [h5s.2.2.2, R4]
  have r5 : gR 5 4 s M5 = some (s + 1) := by simp only [gR, k5', ↓reduceIte, R5, r4]
  have n5 : aN (s + 1) M5 = some (nW 51) := by
    have : mK M5 (s + 1) = (17, 51) := by rw [F5.1, F14.1]; exact ke1
    simp only [aN, this]; rfl
  have g5 := (se_g S5).2.2.2.2.1
  obtain ⟨z6, F6, S6⟩ := se_w 5 (nW (kcnt (cK x) 50)) hz hd S5 k5'
  generalize hM6 : sI M5 (up2 (mI M5) s 5 (nW (kcnt (cK x) 50))) = M6 at F6 S6 z6
  have k6' : (mK M6 s).1 = 5 := by rw [F6.1]; exact k5'
  have g7 := (se_g S6).2.2.2.2.2.1
  obtain ⟨z7, F7, S7⟩ := se_w 7 (nW (cL x 3).1) hz hd S6 k6'
  generalize hM7 : sI M6 (up2 (mI M6) s 7 (nW (cL x 3).1)) = M7 at F7 S7 z7
  have F17 : Fr (fun a => a = s ∨ a = s + 1) M M7 := (((F14.mono (fun a h => Or.inl h)).trans (F5.mono (fun a h => Or.inr h))).trans (F6.mono (fun a h => Or.inl h))).trans (F7.mono (fun a h => Or.inl h))
  have R7 : mR M7 s = mR M s := by rw [← hM7, ← hM6]; exact R5
  have I7 : mI M7 s 0 = zI (cB x 3) ∧ mI M7 s 1 = zI (cB x 4) ∧ mI M7 s 2 = cI x 1 ∧ mI M7 s 3 = nW (cN x) ∧ mI M7 s 5 = nW (kcnt (cK x) 50) ∧ mI M7 s 7 = nW (cL x 3).1 := by
    rw [← hM7, ← hM6]
    simp (disch := omega) only [sI_mI, sI_mL, sI_mF, sI_mR, sI_mK, sI_mN, sI_mC, sI_mS, sL_mI, sL_mL, sL_mF, sL_mR, sL_mK, sL_mN, sL_mC, sL_mS, sF_mI, sF_mL, sF_mF, sF_mR, sF_mK, sF_mN, sF_mC, sF_mS, sR_mI, sR_mL, sR_mF, sR_mR, sR_mK, sR_mN, sR_mC, sR_mS, up2_eq, up2_nj, h5s.1]
    exact ⟨I4.1, I4.2.1, I4.2.2.1, I4.2.2.2, trivial, trivial⟩
  have K7 : ∀ j, j < 51 → mI M7 (s + 1) j = zI (cK x j) := fun j hj => by
    rw [← hM7, ← hM6]
    show up2 (up2 (mI M5) s 5 _) s 7 _ (s + 1) j = _
    rw [up2_ne _ _ _ _ (by omega), up2_ne _ _ _ _ (by omega)]; exact K5 j hj
  -- the subscriptions
  obtain ⟨M8, e8, F8, U8⟩ := sc_L79 (l := cL x 3) (p := p) hz hd l6 FU 0 M7 (by omega) (by simp only [FU]; omega) ⟨by rw [F17.1]; exact k1, by rw [R7]; exact r6, I7.2.2.2.2.2, hp.gr F17.gr (by decide) (by decide) (by omega)⟩ ⟨S7.1.1.1, S7.1.1.2.2.1, S7.2.2.1⟩ (fun j hj => absurd hj (Nat.not_lt_zero j))
  have S8 := S7.gr F8.gr (fun b _ _ => by omega)
  have F18 : Fr (fun a => a = s ∨ a = s + 1 ∨ (s + 3 ≤ a ∧ a < s + 9)) M M8 := F17.tr F8 (fun a h => by omega) (fun a h => Or.inr (Or.inr h))
  have h8s := F8.2.2 s (Or.inr (by omega))
  have k8' : (mK M8 s).1 = 5 := by rw [F18.1]; exact k1
  have q8 : gR 5 8 s M8 = some (s + 9) := by simp only [gR, k8', ↓reduceIte, h8s.2.2.2, R7, r8]
  -- the messages
  obtain ⟨M9, e9, F9, L9⟩ := X2_copyFrom (mf.gr F18.gr (fun a _ _ => by omega)) S8.2.2.2.1 (by omega) (by omega)
  have S9 := S8.gr F9.gr (fun b _ _ => by omega)
  have h9s := F9.2.2 s (Or.inr (by omega))
  have k9' : (mK M9 s).1 = 5 := by rw [F9.1]; exact k8'
  have q9 : gR 5 9 s M9 = some (s + 16) := by simp only [gR, k9', ↓reduceIte, h9s.2.2.2, h8s.2.2.2, R7, r9]
  have mp9 := (mp.gr F18.gr (fun a _ _ => by omega)).gr F9.gr (fun a _ _ => by omega)
  obtain ⟨M10, e10, F10, L10⟩ := X2_copyFrom mp9 S9.2.2.2.2 (by omega) (by omega)
  have h10s := F10.2.2 s (Or.inr (by omega))
  have F910 : Fr (fun a => s + 9 ≤ a ∧ a < s + 26) M8 M10 := F9.tr F10 (fun a h => by omega) (fun a h => by omega)
  have FA : Fr (fun a => s ≤ a ∧ a < s + 26) M M10 := F18.tr F910 (fun a h => by omega) (fun a h => by omega)
  have I10 : mI M10 s = mI M7 s := by rw [h10s.1, h9s.1, h8s.1]
  have R10 : mR M10 s = mR M s := by rw [h10s.2.2.2, h9s.2.2.2, h8s.2.2.2, R7]
  refine ⟨M10, ?_, FA, ⟨⟨by rw [FA.1]; exact k1, by rw [R10]; exact r4, by rw [R10]; exact r6, by rw [R10]; exact r8, by rw [R10]; exact r9⟩, by rw [I10]; exact I7.1, by rw [I10]; exact I7.2.1, by rw [I10]; exact I7.2.2.1, by rw [I10]; exact I7.2.2.2.1, by rw [I10]; exact I7.2.2.2.2.1, by rw [I10]; exact I7.2.2.2.2.2, n50⟩, ⟨by rw [FA.1]; exact ke1, fun j hj => ?_⟩, ⟨l6, p, ?_, fun j hj => (U8 j hj).gr F910.gr ?_⟩, L9.gr F10.gr (fun a _ _ => by omega), L10⟩
  · simp only [f_X5_copyFrom, k1, ↓reduceIte, g0, z1, g1, z2, g2, z3, g3, z4, Option.bind_some, nW_lit]
    rw [e5]
    rw [f_X5_copyFrom_L34]
    have le51 : nW 51 ≤ nW 51 := by decide
    simp only [r5, n5, le51, ↓reduceIte, g5, z6, g7, z7, Option.bind_some, nW_lit]
    rw [e8]
    simp only [f_X5_copyFrom_J114, q8, (se_g S8).2.2.2.2.2.2.1, e9, q9, (se_g S9).2.2.2.2.2.2.2, e10, Option.bind_some]
  · have h1 := F910.2.2 (s + 1) (Or.inr (by omega))
    have h2 := F8.2.2 (s + 1) (Or.inr (by omega))
    rw [h1.1, h2.1]; exact K7 j hj
  · exact (hp.gr F18.gr (by decide) (by decide) (by omega)).gr F910.gr (by decide) (by decide) (by omega)
  · have := (hp.2.1 j (by have : j < (cL x 3).1 := hj; omega)).2.2
    omega
