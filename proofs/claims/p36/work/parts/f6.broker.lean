/-! the blank text and the broker, made -/
theorem blank_new {M : Mem} (hF : F99 M) (hN : mN M = 1) : ∃ Ma Mb M', nO 10 5 M = some (1, Ma) ∧ nA 16 (nW 0) Ma = some (2, Mb) ∧ f_X10_init 1 2 (nW 0) Mb = some M' ∧ Mk 4 9 M M' ∧ TextR M' 1 [] := by
  obtain ⟨M1, e1, m1, n1, k1, i1, _⟩ := nO_new 10 5 hF (by omega)
  rw [hN] at e1 k1 i1 n1
  obtain ⟨M2, e2, m2, n2, k2, _⟩ := nA_new 16 0 m1.2.2 (by omega) (by omega)
  rw [n1] at e2 k2 n2
  obtain ⟨M3, e3, m3, n3, k3, _⟩ := nA_new 16 0 m2.2.2 (by omega) (by omega)
  rw [n2] at e3 k3 n3
  obtain ⟨M4, e4, m4, n4, k4, _, l4, _⟩ := nA_new 14 4 m3.2.2 (by omega) (by omega)
  rw [n3] at e4 k4 n4 l4
  have G : Mp (fun _ => False) (1 + 0 + (1 + (1 + 1))) (5 + 0 + (0 + (0 + 4))) M M4 := ((m1.mp _).trans (Mp_fr (Fr.refl _ _) m1.2.2)).trans ((m2.mp _).trans ((m3.mp _).trans (m4.mp _)))
  have h1 : (mK M4 1).1 = 10 := by rw [m4.1.1 1 (by rw [m3.1.1 1 (by rw [m2.1.1 1 (by rw [k1]; decide), k1]; decide), m2.1.1 1 (by rw [k1]; decide), k1]; decide), m3.1.1 1 (by rw [m2.1.1 1 (by rw [k1]; decide), k1]; decide), m2.1.1 1 (by rw [k1]; decide), k1]
  have h3 : mK M4 3 = (16, 0) := by rw [m4.1.1 3 (by rw [k3]; decide)]; exact k3
  have h4 : mK M4 4 = (14, 4) := k4
  have r10 : ∀ {N : Mem}, mK N = mK M4 → (mK N 1).1 = 10 := fun h => by rw [h]; exact h1
  refine ⟨M1, M2, sI (sI (sI (sR (sR M4 (up2 (mR M4) 1 0 (some 3))) (up2 (up2 (mR M4) 1 0 (some 3)) 1 1 (some 4))) (up2 (mI M4) 1 2 (nW 0))) (up2 (up2 (mI M4) 1 2 (nW 0)) 1 3 (nW 0))) (up2 (up2 (up2 (mI M4) 1 2 (nW 0)) 1 3 (nW 0)) 1 4 (nW 0)), e1, e2, ?_, ?_, ?_⟩
  · have ean : aN 2 M2 = some (nW 0) := by simp only [aN, k2]; rfl
    have eim : imaxE (nW 0) (iminE (nW 0) (nW 0)) = nW 0 := by decide
    have le0 : nW 0 ≤ nW 0 := by decide
    have n3 : (mK M4 3).1 ≠ 99 := by rw [h3]; decide
    have n4 : (mK M4 4).1 ≠ 99 := by rw [h4]; decide
    have p1 : pR 10 0 1 3 M4 = some (sR M4 (up2 (mR M4) 1 0 (some 3))) := pR_ok h1 n3
    have p2 : pR 10 1 1 4 (sR M4 (up2 (mR M4) 1 0 (some 3))) = some (sR (sR M4 (up2 (mR M4) 1 0 (some 3))) (up2 (up2 (mR M4) 1 0 (some 3)) 1 1 (some 4))) := pR_ok h1 n4
    simp only [f_X10_init, ean, Option.bind_some, nW_lit, eim, e3, e4, bindP]
    simp only [FU]
    rw [f_X10_init_L31]
    simp only [le0, ↓reduceIte, p1, p2, Option.bind_some, nW_lit, f_X10_init_J117, f_X10_init_J140, f_X10_init_J141, f_X10_init_J165, pI, pZ, gI, sI_mI, sI_mL, sI_mF, sI_mR, sI_mK, sI_mN, sI_mC, sI_mS, sL_mI, sL_mL, sL_mF, sL_mR, sL_mK, sL_mN, sL_mC, sL_mS, sF_mI, sF_mL, sF_mF, sF_mR, sF_mK, sF_mN, sF_mC, sF_mS, sR_mI, sR_mL, sR_mF, sR_mR, sR_mK, sR_mN, sR_mC, sR_mS, h1, up2_eq, true_or, and_self]
    rfl
  · refine ⟨⟨fun a h => (G.1.1 a h), fun a h _ => ?_⟩, G.2.1, G.2.2⟩
    have ha : a ≠ 1 := fun e => h (by rw [e]; exact hF 1 (by omega))
    obtain ⟨x1, x2, x3, x4⟩ := G.1.2 a h (Or.inr (fun f => f))
    refine ⟨?_, x2, x3, ?_⟩
    · show up2 (up2 (up2 (mI M4) 1 2 (nW 0)) 1 3 (nW 0)) 1 4 (nW 0) a = _
      rw [up2_fn _ _ _ ha, up2_fn _ _ _ ha, up2_fn _ _ _ ha]; exact x1
    · show up2 (up2 (mR M4) 1 0 (some 3)) 1 1 (some 4) a = _
      rw [up2_fn _ _ _ ha, up2_fn _ _ _ ha]; exact x4
  · refine ⟨?_, ⟨h1, by simp only [tz]; omega⟩, ?_, ?_, ?_, 3, 4, ⟨?_, ?_⟩, ⟨by simp only [tz]; omega, by simp only [tz]; omega⟩, h3, h4, fun j hj => absurd hj (Nat.not_lt_zero j), fun j hj => ?_⟩
    · exact ⟨by decide, fun x hx => absurd hx (List.not_mem_nil), by decide⟩
    · simp (disch := omega) only [sI_mI, sI_mL, sI_mF, sI_mR, sI_mK, sI_mN, sI_mC, sI_mS, sL_mI, sL_mL, sL_mF, sL_mR, sL_mK, sL_mN, sL_mC, sL_mS, sF_mI, sF_mL, sF_mF, sF_mR, sF_mK, sF_mN, sF_mC, sF_mS, sR_mI, sR_mL, sR_mF, sR_mR, sR_mK, sR_mN, sR_mC, sR_mS, up2_eq, up2_nj]; rfl
    · simp (disch := omega) only [sI_mI, sI_mL, sI_mF, sI_mR, sI_mK, sI_mN, sI_mC, sI_mS, sL_mI, sL_mL, sL_mF, sL_mR, sL_mK, sL_mN, sL_mC, sL_mS, sF_mI, sF_mL, sF_mF, sF_mR, sF_mK, sF_mN, sF_mC, sF_mS, sR_mI, sR_mL, sR_mF, sR_mR, sR_mK, sR_mN, sR_mC, sR_mS, up2_eq, up2_nj]; rfl
    · simp (disch := omega) only [sI_mI, sI_mL, sI_mF, sI_mR, sI_mK, sI_mN, sI_mC, sI_mS, sL_mI, sL_mL, sL_mF, sL_mR, sL_mK, sL_mN, sL_mC, sL_mS, sF_mI, sF_mL, sF_mF, sF_mR, sF_mK, sF_mN, sF_mC, sF_mS, sR_mI, sR_mL, sR_mF, sR_mR, sR_mK, sR_mN, sR_mC, sR_mS, up2_eq, up2_nj]; rfl
    · simp (disch := omega) only [sI_mI, sI_mL, sI_mF, sI_mR, sI_mK, sI_mN, sI_mC, sI_mS, sL_mI, sL_mL, sL_mF, sL_mR, sL_mK, sL_mN, sL_mC, sL_mS, sF_mI, sF_mL, sF_mF, sF_mR, sF_mK, sF_mN, sF_mC, sF_mS, sR_mI, sR_mL, sR_mF, sR_mR, sR_mK, sR_mN, sR_mC, sR_mS, up2_eq, up2_nj]
    · simp (disch := omega) only [sI_mI, sI_mL, sI_mF, sI_mR, sI_mK, sI_mN, sI_mC, sI_mS, sL_mI, sL_mL, sL_mF, sL_mR, sL_mK, sL_mN, sL_mC, sL_mS, sF_mI, sF_mL, sF_mF, sF_mR, sF_mK, sF_mN, sF_mC, sF_mS, sR_mI, sR_mL, sR_mF, sR_mR, sR_mK, sR_mN, sR_mC, sR_mS, up2_eq, up2_nj]
    · show mL M4 4 j = _
      rw [l4 j]
      have : j = 0 ∨ j = 1 ∨ j = 2 ∨ j = 3 := by omega
      rcases this with rfl | rfl | rfl | rfl <;> rfl
