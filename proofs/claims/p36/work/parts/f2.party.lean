/-! a list, a session, a client, made -/
def cl0 : Cl := (fun _ => false, fun _ => nW 0, 0, ([], fun _ => nW 0), fun _ => false, 0, fun _ => l0)
theorem X2_new {M : Mem} {x lim : Nat} (hl : imaxE (1 : Int32) (nW lim) = nW lim) (h9 : lim ≤ 8) (hF : F99 M) (hz : 5 ≤ mN M ∧ mN M + 2 + lim ≤ 908) (hx : TextR M x []) : ∃ M1 M', nO 2 2 M = some (mN M, M1) ∧ f_X2_init (mN M) (nW lim) x M1 = some M' ∧ Mk (2 + lim) (2 + 8 * lim) M M' ∧ MLR M' (mN M) lim l0 := by
  obtain ⟨m1, m2, m3, _⟩ := mk_new (k := 2) (n := 0) (s := 2) hF
  have e1 : nO 2 2 M = some (mN M, mkM 2 0 2 M) := nO_ok (by omega)
  have n1 : mN (mkM 2 0 2 M) = mN M + 1 := m1.2.1.1
  generalize mkM 2 0 2 M = M1 at *
  generalize hq : mN M = q at *
  have k1 : (mK M1 q).1 = 2 := by rw [m2]
  obtain ⟨m4, m5, _⟩ := mk_new (k := 19) (n := lim) (s := lim) m1.2.2
  have e3 : nA 19 (nW lim) M1 = some (q + 1, mkM 19 lim lim M1) := by rw [← n1]; exact nA_ok (by omega) (by omega)
  rw [n1] at m5
  have n2 : mN (mkM 19 lim lim M1) = q + 2 := by rw [m4.2.1.1, n1]
  have k2 := k99 m4.1 k1 (by decide)
  have i2 := (r99 m4.1 k1 (by decide) (fun h => h)).2.1
  generalize mkM 19 lim lim M1 = M2 at *
  have p2 := pR_ok (f := 0) k2 (show (mK M2 (q + 1)).1 ≠ 99 by rw [m5]; exact (by decide : (19 : Nat) ≠ 99))
  have F3 := fq_R M2 0 (some (q + 1)) (not_tz (show 5 ≤ q ∧ q < 908 by omega))
  have q3 := ((m1.mp (fun a => a = q)).trans (m4.mp _)).trans (Mp_fr F3 m4.2.2)
  have k3 : (mK (sR M2 (up2 (mR M2) q 0 (some (q + 1)))) q).1 = 2 := k2
  have r3 : mR (sR M2 (up2 (mR M2) q 0 (some (q + 1)))) q 0 = some (q + 1) := up2_eq _ _ _ _
  have i3 : mI (sR M2 (up2 (mR M2) q 0 (some (q + 1)))) q = mI M1 q := i2
  have a3 : mK (sR M2 (up2 (mR M2) q 0 (some (q + 1)))) (q + 1) = (19, lim) := m5
  have n3 : mN (sR M2 (up2 (mR M2) q 0 (some (q + 1)))) = q + 2 := n2
  generalize sR M2 (up2 (mR M2) q 0 (some (q + 1))) = M3 at *
  have Ig : ∀ (M : Mem), (TextR M x [] ∧ (mK M q).1 = 2 ∧ mR M q 0 = some (q + 1) ∧ mK M (q + 1) = (19, lim)) → gR 2 0 q M = some (q + 1) ∧ aN (q + 1) M = some (nW lim) := fun M hI => by
    have r19 : 13 ≤ 19 ∧ 19 ≤ 23 := by omega
    refine ⟨by simp only [gR, hI.2.1, ↓reduceIte, hI.2.2.1], ?_⟩
    simp only [aN, hI.2.2.2]; rfl
  obtain ⟨n', M', e4, m6, r6⟩ := arr_loop (f := fun n i M => f_X2_init_L18 n q x i M) (lim := lim) (e := 1) (s := 7) (arr := q + 1) (b := q + 2) (ka := 19) (kc := 1) (Inv := fun M => TextR M x [] ∧ (mK M q).1 = 2 ∧ mR M q 0 = some (q + 1) ∧ mK M (q + 1) = (19, lim)) (E := fun M a => (mK M a).1 = 1) (by omega) (by omega) (by omega) (fun M M' h g => ⟨h.1.gr g, k99 g h.2.1 (by decide), by rw [(r99 g h.2.1 (by decide) (by omega)).1]; exact h.2.2.1, k99' g h.2.2.2 (by decide)⟩) (fun M M' a h g _ => k99 g h (by decide)) (fun _ _ h => h) (by decide) (fun n i M hi hI hN hF => by
    obtain ⟨M4, M5, a1, a2, a3, a4⟩ := X1_new hF (by omega) hI.1
    rw [hN] at a1 a2 a4
    refine ⟨M5, a3, a4.1, ?_⟩
    have n1 : ¬ lim ≤ i := by omega
    obtain ⟨g0, g1⟩ := Ig M hI
    simp (disch := omega) only [f_X2_init_L18, nW_le, n1, ↓reduceIte, g0, g1, a1, a2, bindP, Option.bind_some]) FU 0 M3 (by omega) (by simp only [FU]; omega) ⟨hx.gr q3.1, k3, r3, a3⟩ q3.2.2 (by omega) a3 (fun j hj => absurd hj (Nat.not_lt_zero j))
  have q4 := (q3.mono (Q := fun a => a = q ∨ a = q + 1) (fun a h => Or.inl h)).trans (m6.mono (fun a h => Or.inr h))
  have k4 := k99 m6.1 k3 (by decide)
  have r4 := r99 m6.1 k3 (by decide) (show ¬ q = q + 1 by omega)
  have a4 := k99' m6.1 a3 (by decide)
  have q5 := q4.mk (fun a h => hF a (by omega))
  refine ⟨M1, M', e1, ?_, ?_, ⟨k4, by rw [r4.1]; exact r3⟩, Nat.zero_le _, by rw [r4.2.1, i3]; exact m3 1, fun j => q + 2 + j, ⟨a4, fun j hj => ?_, fun i j _ _ h => by have h' : q + 2 + i = q + 2 + j := h; omega⟩, fun j hj => absurd hj (Nat.not_lt_zero j)⟩
  · have hl' : imaxE (nW 1) (nW lim) = nW lim := hl
    simp only [f_X2_init, nW_lit, hl', e3, p2, bindP, Option.bind_some]
    refine e4.trans ?_
    obtain ⟨g0, g1⟩ := Ig M' ⟨hx.gr q4.1, k4, by rw [r4.1]; exact r3, a4⟩
    simp (disch := omega) only [f_X2_init_L18, g0, g1, Option.bind_some, nW_le, Nat.le_refl, ↓reduceIte]
  · obtain ⟨h1, ⟨h2, h3, h4⟩, h5⟩ := q5
    exact ⟨h1, ⟨by omega, by omega, by omega⟩, h5⟩
  · have := r6 j hj
    rw [Nat.one_mul] at this
    exact ⟨this.1, this.2, (by omega : q + 2 ≤ q + 2 + j), (by omega : q + 2 + j < q + 2 + lim)⟩
