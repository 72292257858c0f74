theorem nA_new {M : Mem} (k : Nat) (n : Nat) (hF : F99 M) (hN : mN M < 900000) (hn : n ≤ 100000) : ∃ M', nA k (nW n) M = some (mN M, M') ∧ Mk 1 n M M' ∧ mN M' = mN M + 1 ∧ mK M' (mN M) = (k, n) ∧ (∀ j, mI M' (mN M) j = nW 0) ∧ (∀ j, mL M' (mN M) j = 0) ∧ ∀ j, mF M' (mN M) j = 0 := by
  obtain ⟨m1, m2, m3, m4, m5⟩ := mk_new (k := k) (n := n) (s := n) hF
  exact ⟨_, nA_ok (by omega) hn, m1, rfl, m2, m3, m4, m5⟩
theorem nO_new {M : Mem} (k s : Nat) (hF : F99 M) (hN : mN M < 900000) : ∃ M', nO k s M = some (mN M, M') ∧ Mk 1 s M M' ∧ mN M' = mN M + 1 ∧ mK M' (mN M) = (k, 0) ∧ (∀ j, mI M' (mN M) j = nW 0) ∧ (∀ j, mL M' (mN M) j = 0) ∧ ∀ j, mF M' (mN M) j = 0 := by
  obtain ⟨m1, m2, m3, m4, m5⟩ := mk_new (k := k) (n := 0) (s := s) hF
  exact ⟨_, nO_ok (by omega), m1, rfl, m2, m3, m4, m5⟩
theorem own_pR {M : Mem} {k s x : Nat} (f : Nat) (hz : s = 0 ∨ 5 ≤ s ∧ s < 908) (hF : F99 M) (ho : (mK M s).1 = k) (hx : (mK M x).1 ≠ 99) : ∃ M', pR k f s x M = some M' ∧ Mp (fun a => a = s) 0 0 M M' ∧ mN M' = mN M ∧ mK M' = mK M ∧ mI M' = mI M ∧ mF M' = mF M ∧ mR M' s f = some x ∧ ∀ j, j ≠ f → mR M' s j = mR M s j := by
  have F := fq_R M f (some x) (show ¬ tz s by simp only [tz]; omega)
  exact ⟨_, pR_ok ho hx, Mp_fr F hF, rfl, rfl, rfl, rfl, up2_eq _ _ _ _, fun j hj => up2_nj _ _ _ _ hj⟩
theorem X5_new {M : Mem} {x : Nat} (hF : F99 M) (hz : 5 ≤ mN M ∧ mN M + 26 ≤ 908) (hx : TextR M x []) : ∃ M1 M', nO 5 10 M = some (mN M, M1) ∧ f_X5_init (mN M) x M1 = some M' ∧ Mk 26 199 M M' ∧ SeR M' (mN M) cl0 := by
  generalize hq : mN M = s at *
  obtain ⟨M1, e1, m1, n1, k1, i1, _⟩ := nO_new 5 10 hF (by omega)
  rw [hq] at e1 k1 i1 n1
  have k1 : (mK M1 s).1 = 5 := by rw [k1]
  -- the kept
  obtain ⟨M2, e2, m2, n2, k2, i2, _⟩ := nA_new 17 51 m1.2.2 (by omega) (by omega)
  rw [n1] at e2 k2 i2 n2
  have s2 := r99 m2.1 k1 (by decide) (fun h => h)
  obtain ⟨M3, e3, m3, n3, kk3, ii3, _, x3, y3⟩ := own_pR (k := 5) (s := s) (x := s + 1) 4 (by omega) m2.2.2 (k99 m2.1 k1 (by decide)) (by rw [k2]; decide)
  -- the row of subscriptions
  have k3 : (mK M3 s).1 = 5 := by rw [kk3]; exact k99 m2.1 k1 (by decide)
  obtain ⟨M4, e4, m4, n4, k4, _⟩ := nA_new 22 6 m3.2.2 (by omega) (by omega)
  rw [n3, n2] at e4 k4 n4
  have s4 := r99 m4.1 k3 (by decide) (fun h => h)
  obtain ⟨M5, e5, m5, n5, kk5, ii5, _, x5, y5⟩ := own_pR (k := 5) (s := s) (x := s + 2) 6 (by omega) m4.2.2 (k99 m4.1 k3 (by decide)) (by rw [show s + 2 = s + 1 + 1 by omega, k4]; decide)
  have k5 : (mK M5 s).1 = 5 := by rw [kk5]; exact k99 m4.1 k3 (by decide)
  have a5 : mK M5 (s + 2) = (22, 6) := by rw [kk5]; exact k4
  have q5 := (((m1.mp (fun a => a = s)).trans (m2.mp _)).trans m3).trans ((m4.mp _).trans m5)
  obtain ⟨n', M6, e6, m6, r6⟩ := arr_loop (f := fun n i M => f_X5_init_L23 n s x i M) (lim := 6) (e := 1) (s := 4) (arr := s + 2) (b := s + 3) (ka := 22) (kc := 8) (Inv := fun M => TextR M x [] ∧ (mK M s).1 = 5 ∧ mR M s 6 = some (s + 2)) (E := fun M a => (mK M a).1 = 8) (by omega) (by omega) (by omega) (fun M M' h g => ⟨h.1.gr g, k99 g h.2.1 (by decide), by rw [(r99 g h.2.1 (by decide) (by omega)).1]; exact h.2.2⟩) (fun M M' a h g _ => k99 g h (by decide)) (fun _ _ h => h) (by decide) (fun n i M hi hI hN hF => by
    obtain ⟨M4, M5, a1, a2, a3, a4⟩ := X8_new hF (by omega) hI.1
    rw [hN] at a1 a2 a4
    refine ⟨M5, a3, a4.1, ?_⟩
    have n1 : ¬ 6 ≤ i := by omega
    have g0 : gR 5 6 s M = some (s + 2) := by simp only [gR, hI.2.1, ↓reduceIte, hI.2.2]
    simp (disch := omega) only [f_X5_init_L23, nW_lit, nW_le, n1, ↓reduceIte, g0, a1, a2, bindP, Option.bind_some]) FU 0 M5 (by omega) (by simp only [FU]; omega) ⟨hx.gr q5.1, k5, x5⟩ q5.2.2 (by omega) a5 (fun j hj => absurd hj (Nat.not_lt_zero j))
  have q6 := (q5.mono (Q := fun a => a = s ∨ a = s + 2) (fun a h => Or.inl h)).trans (m6.mono (fun a h => Or.inr h))
  have k6 := k99 m6.1 k5 (by decide)
  have s6 := r99 m6.1 k5 (by decide) (show ¬ s = s + 2 by omega)
  have n6 : mN M6 = s + 9 := by rw [m6.2.1.1]; omega
  -- the lists
  obtain ⟨M7, M8, e7, e8, m8, L8⟩ := X2_new (lim := 5) (by decide) (by omega) q6.2.2 (by omega) (hx.gr q6.1)
  rw [n6] at e7 e8 L8
  have s8 := r99 m8.1 k6 (by decide) (fun h => h)
  have k8 := k99 m8.1 k6 (by decide)
  obtain ⟨M9, e9, m9, n9, kk9, ii9, _, x9, y9⟩ := own_pR (k := 5) (s := s) (x := s + 9) 8 (by omega) m8.2.2 k8 (by rw [L8.1.1]; decide)
  have q9 := ((q6.trans (m8.mp _)).trans (m9.mono (fun a h => Or.inl h)))
  have k9 : (mK M9 s).1 = 5 := by rw [kk9]; exact k8
  have n9' : mN M9 = s + 16 := by rw [n9, m8.2.1.1, n6]
  have L9 := L8.gr m9.1 (fun a _ _ => by omega)
  obtain ⟨M10, M11, e10, e11, m11, L11⟩ := X2_new (lim := 8) (by decide) (by omega) q9.2.2 (by omega) (hx.gr q9.1)
  rw [n9'] at e10 e11 L11
  have s11 := r99 m11.1 k9 (by decide) (fun h => h)
  have k11 := k99 m11.1 k9 (by decide)
  obtain ⟨M12, e12, m12, n12, kk12, ii12, _, x12, y12⟩ := own_pR (k := 5) (s := s) (x := s + 16) 9 (by omega) m11.2.2 k11 (by rw [L11.1.1]; decide)
  have q12 := ((q9.trans (m11.mp _)).trans (m12.mono (fun a h => Or.inl h)))
  have L12 := L11.gr m12.1 (fun a _ _ => by omega)
  have L9' := (L9.gr m11.1 (fun a _ _ h => h)).gr m12.1 (fun a _ _ => by omega)
  have I12 : ∀ j, mI M12 s j = nW 0 := fun j => by
    rw [ii12, s11.2.1, ii9, s8.2.1, s6.2.1, ii5, s4.2.1, ii3, s2.2.1]; exact i1 j
  have R4 : mR M12 s 4 = some (s + 1) := by
    rw [y12 4 (by omega), s11.1, y9 4 (by omega), s8.1, s6.1, y5 4 (by omega), s4.1]; exact x3
  have R6 : mR M12 s 6 = some (s + 2) := by
    rw [y12 6 (by omega), s11.1, y9 6 (by omega), s8.1, s6.1]; exact x5
  have R8 : mR M12 s 8 = some (s + 9) := by
    rw [y12 8 (by omega), s11.1]; exact x9
  have Ke : KeR M2 (s + 1) (fun _ => false) := ⟨k2, fun i _ => i2 i⟩
  have Ke6 : KeR M6 (s + 1) (fun _ => false) := (((Ke.gr m3.1 (by omega)).gr m4.1 (fun h => h)).gr m5.1 (by omega)).gr m6.1 (by omega)
  have Ke12 : KeR M12 (s + 1) (fun _ => false) := ((((Ke6.gr m8.1 (fun h => h)).gr m9.1 (by omega)).gr m11.1 (fun h => h)).gr m12.1 (by omega))
  have A6 : Ar M6 (s + 2) 22 6 8 (s + 3) (s + 9) (fun j => s + 3 + j) := ⟨k99' m6.1 a5 (by decide), fun j hj => by
    have := r6 j hj
    rw [Nat.one_mul] at this
    exact ⟨this.1, this.2, (by omega : s + 3 ≤ s + 3 + j), (by omega : s + 3 + j < s + 9)⟩, fun i j _ _ h => by have h' : s + 3 + i = s + 3 + j := h; omega⟩
  have A12 := (((A6.gr m8.1 (by decide) (by decide) (fun h => h)).gr m9.1 (by decide) (by decide) (by omega)).gr m11.1 (by decide) (by decide) (fun h => h)).gr m12.1 (by decide) (by decide) (by omega)
  have kc : kcnt (cK cl0) 50 = 0 := by decide
  refine ⟨M1, M12, e1, ?_, q12.mk (fun a h => hF a (by omega)), ⟨⟨by rw [kk12]; exact k11, R4, R6, R8, x12⟩, I12 0, I12 1, I12 2, I12 3, by rw [kc]; exact I12 5, I12 7, Nat.zero_le _⟩, Ke12, ⟨Nat.zero_le _, _, A12, fun j hj => absurd hj (Nat.not_lt_zero j)⟩, L9', L12⟩
  have e4' : nA 22 (nW 6) M3 = some (s + 2, M4) := e4
  simp only [f_X5_init, nW_lit, e2, e3, e4', e5, bindP, Option.bind_some]
  refine e6.trans ?_
  simp (disch := omega) only [f_X5_init_L23, nW_lit, nW_le, Nat.le_refl, ↓reduceIte, e7, e8, e9, e10, e11, e12, bindP, Option.bind_some]
