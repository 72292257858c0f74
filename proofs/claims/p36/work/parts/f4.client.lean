theorem X0_new {M : Mem} {x : Nat} (hF : F99 M) (hz : 5 ≤ mN M ∧ mN M + 60 ≤ 908) (hx : TextR M x []) : ∃ M1 M', nO 0 8 M = some (mN M, M1) ∧ f_X0_init (mN M) x M1 = some M' ∧ Mk 60 427 M M' ∧ ClR M' (mN M) cl0 := by
  generalize hq : mN M = C at *
  obtain ⟨M1, e1, m1, n1, k1, i1, _, f1⟩ := nO_new 0 8 hF (by omega)
  rw [hq] at e1 k1 i1 n1 f1
  have k1 : (mK M1 C).1 = 0 := by rw [k1]
  obtain ⟨M2, M3, e2, e3, m3, W3⟩ := X1_new m1.2.2 (by omega) (hx.gr m1.1)
  rw [n1] at e2 e3 W3
  have k3 := k99 m3.1 k1 (by decide)
  have s3 := r99 m3.1 k1 (by decide) (fun h => h)
  obtain ⟨M4, e4, m4, n4, kk4, ii4, ff4, x4, y4⟩ := own_pR (k := 0) (s := C) (x := C + 1) 3 (by omega) m3.2.2 k3 (by rw [W3.1]; decide)
  have q4 := ((m1.mp (fun a => a = C)).trans (m3.mp _)).trans m4
  have k4 : (mK M4 C).1 = 0 := by rw [kk4]; exact k3
  have n4' : mN M4 = C + 2 := by rw [n4, m3.2.1.1, n1]
  have W4 := W3.gr m4.1 (by omega)
  obtain ⟨M5, M6, e5, e6, m6, Q6⟩ := X4_new q4.2.2 (by omega) (hx.gr q4.1)
  rw [n4'] at e5 e6 Q6
  have k6 := k99 m6.1 k4 (by decide)
  have s6 := r99 m6.1 k4 (by decide) (fun h => h)
  obtain ⟨M7, e7, m7, n7, kk7, ii7, ff7, x7, y7⟩ := own_pR (k := 0) (s := C) (x := C + 2) 4 (by omega) m6.2.2 k6 (by rw [Q6.1.1]; decide)
  have q7 := (q4.trans (m6.mp _)).trans m7
  have k7 : (mK M7 C).1 = 0 := by rw [kk7]; exact k6
  have n7' : mN M7 = C + 34 := by rw [n7, m6.2.1.1, n4']
  have W7 := (W4.gr m6.1 (fun h => h)).gr m7.1 (by omega)
  have Q7 := Q6.gr m7.1 (fun a _ _ => by omega)
  obtain ⟨M8, M9, e8, e9, m9, S9⟩ := X5_new q7.2.2 (by omega) (hx.gr q7.1)
  rw [n7'] at e8 e9 S9
  have k9 := k99 m9.1 k7 (by decide)
  have s9 := r99 m9.1 k7 (by decide) (fun h => h)
  obtain ⟨M10, e10, m10, n10, kk10, ii10, ff10, x10, y10⟩ := own_pR (k := 0) (s := C) (x := C + 34) 5 (by omega) m9.2.2 k9 (by rw [S9.1.1.1]; decide)
  have q10 := (q7.trans (m9.mp _)).trans m10
  have I : ∀ j, mI M10 C j = nW 0 := fun j => by
    rw [ii10, s9.2.1, ii7, s6.2.1, ii4, s3.2.1]; exact i1 j
  have Ff : ∀ j, mF M10 C j = 0 := fun j => by
    rw [ff10, s9.2.2, ff7, s6.2.2, ff4, s3.2.2]; exact f1 j
  refine ⟨M1, M10, e1, ?_, q10.mk (fun a h => hF a (by omega)), ⟨⟨by rw [kk10]; exact k9, ?_, ?_, x10⟩, I 0, I 1, I 2, Ff 6, I 7⟩, (W7.gr m9.1 (fun h => h)).gr m10.1 (by omega), (Q7.gr m9.1 (fun a _ _ h => h)).gr m10.1 (fun a _ _ => by omega), S9.gr m10.1 (fun a _ _ => by omega)⟩
  · simp only [f_X0_init, e2, e3, e4, e5, e6, e7, e8, e9, e10, bindP, Option.bind_some]
  · rw [y10 3 (by omega), s9.1, y7 3 (by omega), s6.1]; exact x4
  · rw [y10 4 (by omega), s9.1]; exact x7
def ta0 : Ls (Txt × Int32) := (0, fun _ => ([], nW 0))
theorem X9_init_L25 {T x : Nat} (hz : 5 ≤ T ∧ T + 3 ≤ 908) : ∀ n i M, i ≤ 512 → 512 - i < n → F99 M → TextR M x [] → ((mK M T).1 = 9 ∧ mR M T 0 = some (T + 1) ∧ mK M (T + 1) = (23, 512)) → ∃ M', f_X9_init_L25 n T x (nW i) M = some M' ∧ Mp (fun a => a = T + 1) 0 0 M M'
  | 0, i, M, _, hn, _, _, _ => absurd hn (by omega)
  | n + 1, i, M, hi, hn, hF, hx, ⟨t1, t2, t3⟩ => by
    by_cases he : i = 512
    · subst he
      exact ⟨M, by simp (disch := omega) only [f_X9_init_L25, nW_lit, nW_le, Nat.le_refl, ↓reduceIte], Mp_fr (Fr.refl _ _) hF⟩
    · have n1 : ¬ 512 ≤ i := by omega
      have g0 : gR 9 0 T M = some (T + 1) := by simp only [gR, t1, ↓reduceIte, t2]
      have hkx : (mK M x).1 = 10 := hx.2.1.1
      have ew : wR 23 10 (T + 1) (nW i) x M = some (sR M (up2 (mR M) (T + 1) i (some x))) := by
        simp (disch := omega) only [wR, t3, hkx, and_self, ↓reduceIte, ix_nW, Option.map_some]
      have F := fq_R M i (some x) (not_tz (show 5 ≤ T + 1 ∧ T + 1 < 908 by omega))
      have q := Mp_fr F hF
      have hne : T ≠ T + 1 := by omega
      obtain ⟨M', e, m⟩ := X9_init_L25 (x := x) hz n (i + 1) (sR M (up2 (mR M) (T + 1) i (some x))) (by omega) (by omega) q.2.2 (hx.gr q.1) ⟨t1, by simp only [sI_mI, sI_mL, sI_mF, sI_mR, sI_mK, sI_mN, sI_mC, sI_mS, sL_mI, sL_mL, sL_mF, sL_mR, sL_mK, sL_mN, sL_mC, sL_mS, sF_mI, sF_mL, sF_mF, sF_mR, sF_mK, sF_mN, sF_mC, sF_mS, sR_mI, sR_mL, sR_mF, sR_mR, sR_mK, sR_mN, sR_mC, sR_mS]; rw [up2_ne _ _ _ _ hne]; exact t2, t3⟩
      refine ⟨M', ?_, q.trans m⟩
      rw [← e]
      conv => lhs; rw [f_X9_init_L25]
      simp (disch := omega) only [nW_lit, nW_le, n1, ↓reduceIte, g0, ew, Option.bind_some, nW_add]
theorem X9_new {M : Mem} {x : Nat} (hF : F99 M) (hz : 5 ≤ mN M ∧ mN M + 3 ≤ 908) (hx : TextR M x []) : ∃ M1 M', nO 9 3 M = some (mN M, M1) ∧ f_X9_init (mN M) x M1 = some M' ∧ Mk 3 1027 M M' ∧ TalR M' (mN M) ta0 := by
  generalize hq : mN M = T at *
  obtain ⟨M1, e1, m1, n1, k1, i1, _⟩ := nO_new 9 3 hF (by omega)
  rw [hq] at e1 k1 i1 n1
  have k1 : (mK M1 T).1 = 9 := by rw [k1]
  obtain ⟨M2, e2, m2, n2, k2, _⟩ := nA_new 23 512 m1.2.2 (by omega) (by omega)
  rw [n1] at e2 k2 n2
  have s2 := r99 m2.1 k1 (by decide) (fun h => h)
  obtain ⟨M3, e3, m3, n3, kk3, ii3, _, x3, y3⟩ := own_pR (k := 9) (s := T) (x := T + 1) 0 (by omega) m2.2.2 (k99 m2.1 k1 (by decide)) (by rw [k2]; decide)
  have k3 : (mK M3 T).1 = 9 := by rw [kk3]; exact k99 m2.1 k1 (by decide)
  obtain ⟨M4, e4, m4, n4, k4, _⟩ := nA_new 13 512 m3.2.2 (by omega) (by omega)
  rw [n3, n2] at e4 k4 n4
  have s4 := r99 m4.1 k3 (by decide) (fun h => h)
  obtain ⟨M5, e5, m5, n5, kk5, ii5, _, x5, y5⟩ := own_pR (k := 9) (s := T) (x := T + 2) 1 (by omega) m4.2.2 (k99 m4.1 k3 (by decide)) (by rw [show T + 2 = T + 1 + 1 by omega, k4]; decide)
  have q5 := (((m1.mp (fun a => a = T)).trans (m2.mp _)).trans m3).trans ((m4.mp _).trans m5)
  have k5 : (mK M5 T).1 = 9 := by rw [kk5]; exact k99 m4.1 k3 (by decide)
  have a5 : mK M5 (T + 1) = (23, 512) := by rw [kk5]; exact k99' m4.1 (by rw [kk3]; exact k2) (by decide)
  have b5 : mK M5 (T + 2) = (13, 512) := by rw [kk5]; exact k4
  have R0 : mR M5 T 0 = some (T + 1) := by rw [y5 0 (by omega), s4.1]; exact x3
  obtain ⟨M6, e6, m6⟩ := X9_init_L25 (T := T) (x := x) hz FU 0 M5 (by omega) (by simp only [FU]; omega) q5.2.2 (hx.gr q5.1) ⟨k5, R0, a5⟩
  have q6 := (q5.mono (Q := fun a => a = T ∨ a = T + 1) (fun a h => Or.inl h)).trans (m6.mono (fun a h => Or.inr h))
  have s6 := r99 m6.1 k5 (by decide) (show ¬ T = T + 1 by omega)
  refine ⟨M1, M6, e1, ?_, q6.mk (fun a h => hF a (by omega)), ⟨k99 m6.1 k5 (by decide), by rw [s6.1]; exact R0, by rw [s6.1]; exact x5⟩, k99' m6.1 a5 (by decide), k99' m6.1 b5 (by decide), by rw [s6.2.1, ii5, s4.2.1, ii3, s2.2.1]; exact i1 2, Nat.zero_le _, fun j hj => absurd hj (Nat.not_lt_zero j), fun j hj => absurd hj (Nat.not_lt_zero j)⟩
  have e4' : nA 13 (nW 512) M3 = some (T + 2, M4) := e4
  simp only [f_X9_init, nW_lit, e2, e3, e4', e5, bindP, Option.bind_some]
  exact e6
