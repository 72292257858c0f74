theorem Fi_p {M : Mem} {i : Nat} (h : Fi i M) (f : Nat) (v : Int32) : pI 12 f 908 v M = some (sI M (up2 (mI M) 908 f v)) ∧ Mp (fun a => a = 908) 0 0 M (sI M (up2 (mI M) 908 f v)) ∧ Fi i (sI M (up2 (mI M) 908 f v)) ∧ mI (sI M (up2 (mI M) 908 f v)) 908 f = v ∧ ∀ j, j ≠ f → mI (sI M (up2 (mI M) 908 f v)) 908 j = mI M 908 j := by
  obtain ⟨k9, hN, hF, hj⟩ := h
  have F := fq_I M f v (show ¬ tz 908 by simp only [tz]; omega)
  refine ⟨by simp only [pI, k9, ↓reduceIte], Mp_fr F hF, ⟨k9, hN, (Mp_fr F hF).2.2, fun j hj' => ?_⟩, by simp only [sI_mI, sI_mL, sI_mF, sI_mR, sI_mK, sI_mN, sI_mC, sI_mS, sL_mI, sL_mL, sL_mF, sL_mR, sL_mK, sL_mN, sL_mC, sL_mS, sF_mI, sF_mL, sF_mF, sF_mR, sF_mK, sF_mN, sF_mC, sF_mS, sR_mI, sR_mL, sR_mF, sR_mR, sR_mK, sR_mN, sR_mC, sR_mS]; exact up2_eq _ _ _ _, fun j hj' => by simp only [sI_mI, sI_mL, sI_mF, sI_mR, sI_mK, sI_mN, sI_mC, sI_mS, sL_mI, sL_mL, sL_mF, sL_mR, sL_mK, sL_mN, sL_mC, sL_mS, sF_mI, sF_mL, sF_mF, sF_mR, sF_mK, sF_mN, sF_mC, sF_mS, sR_mI, sR_mL, sR_mF, sR_mR, sR_mK, sR_mN, sR_mC, sR_mS]; rw [up2_nj _ _ _ _ hj']⟩
  obtain ⟨a1, a2, a3, a4, a5⟩ := hj j hj'
  have hne : 909 + j ≠ 908 := by omega
  exact ⟨a1, a2, fun k => by simp only [sI_mI, sI_mL, sI_mF, sI_mR, sI_mK, sI_mN, sI_mC, sI_mS, sL_mI, sL_mL, sL_mF, sL_mR, sL_mK, sL_mN, sL_mC, sL_mS, sF_mI, sF_mL, sF_mF, sF_mR, sF_mK, sF_mN, sF_mC, sF_mS, sR_mI, sR_mL, sR_mF, sR_mR, sR_mK, sR_mN, sR_mC, sR_mS]; rw [up2_ne _ _ _ _ hne]; exact a3 k, a4, a5⟩
theorem X12_A {M : Mem} (hF : F99 M) (hN : mN M = 908) : ∃ M1 M', nO 12 18 M = some (908, M1) ∧ f_X12_init 908 M1 = (gR 12 1 908 M').bind (fun v38 => (wI 13 v38 (1 : Int32) (3 : Int32) M').bind (fun M39 => (gR 12 1 908 M39).bind (fun v40 => (wI 13 v40 (3 : Int32) (20 : Int32) M39).bind (fun M41 => some M41)))) ∧ Mp (fun a => a = 908) 13 13118 M M' ∧ Fi 12 M' ∧ mI M' 908 10 = -nW 1 ∧ ∀ j, j ≠ 10 → mI M' 908 j = nW 0 := by
  obtain ⟨M1, e1, m1, n1, k1, i1, _⟩ := nO_new 12 18 hF (by omega)
  rw [hN] at e1 k1 i1 n1
  have h0 : Fi 0 M1 := ⟨by rw [k1], n1, m1.2.2, fun j hj => absurd hj (Nat.not_lt_zero j)⟩
  obtain ⟨A0, B0, a0, b0, p0, j0, h1⟩ := fld 13 2718 1 h0 (by omega) rfl rfl (by decide) (by omega) (by decide)
  obtain ⟨A1, B1, a1, b1, p1, j1, h2⟩ := fld 14 3800 2 h1 (by omega) rfl rfl (by decide) (by omega) (by decide)
  obtain ⟨A2, B2, a2, b2, p2, j2, h3⟩ := fld 15 6 3 h2 (by omega) rfl rfl (by decide) (by omega) (by decide)
  obtain ⟨A3, B3, a3, b3, p3, j3, h4⟩ := fld 13 2718 4 h3 (by omega) rfl rfl (by decide) (by omega) (by decide)
  obtain ⟨A4, B4, a4, b4, p4, j4, h5⟩ := fld 14 3800 5 h4 (by omega) rfl rfl (by decide) (by omega) (by decide)
  obtain ⟨A5, B5, a5, b5, p5, j5, h6⟩ := fld 15 6 6 h5 (by omega) rfl rfl (by decide) (by omega) (by decide)
  obtain ⟨A6, B6, a6, b6, p6, j6, h7⟩ := fld 13 30 8 h6 (by omega) rfl rfl (by decide) (by omega) (by decide)
  obtain ⟨c1, c2, hc, c3, c4⟩ := Fi_p h7 10 (-nW 1)
  generalize sI B6 (up2 (mI B6) 908 10 (-nW 1)) = C at *
  obtain ⟨A7, B7, a7, b7, p7, j7, h8⟩ := fld 14 4 11 hc (by omega) rfl rfl (by decide) (by omega) (by decide)
  obtain ⟨A8, B8, a8, b8, p8, j8, h9⟩ := fld 14 4 13 h8 (by omega) rfl rfl (by decide) (by omega) (by decide)
  obtain ⟨A9, B9, a9, b9, p9, j9, h10⟩ := fld 14 4 14 h9 (by omega) rfl rfl (by decide) (by omega) (by decide)
  obtain ⟨A10, B10, a10, b10, p10, j10, h11⟩ := fld 13 6 15 h10 (by omega) rfl rfl (by decide) (by omega) (by decide)
  obtain ⟨A11, B11, a11, b11, p11, j11, h12⟩ := fld 14 4 16 h11 (by omega) rfl rfl (by decide) (by omega) (by decide)
  have jA : ∀ j, mI B6 908 j = nW 0 := fun j => by rw [j6, j5, j4, j3, j2, j1, j0]; exact i1 j
  have jB : mI B11 908 = mI C 908 := by rw [j11, j10, j9, j8, j7]
  refine ⟨M1, B11, e1, ?_, ((((((((((((((m1.mp (fun a => a = 908)).trans p0).trans p1).trans p2).trans p3).trans p4).trans p5).trans p6).trans c2).trans p7).trans p8).trans p9).trans p10).trans p11), h12, by rw [jB]; exact c3, fun j hj => by rw [jB, c4 j hj]; exact jA j⟩
  have m1l : (-1 : Int32) = -nW 1 := rfl
  simp only [f_X12_init, m1l, nW_lit]
  rw [a0]; simp only [bindP]; rw [b0]; simp only [Option.bind_some]
  rw [a1]; simp only [bindP]; rw [b1]; simp only [Option.bind_some]
  rw [a2]; simp only [bindP]; rw [b2]; simp only [Option.bind_some]
  rw [a3]; simp only [bindP]; rw [b3]; simp only [Option.bind_some]
  rw [a4]; simp only [bindP]; rw [b4]; simp only [Option.bind_some]
  rw [a5]; simp only [bindP]; rw [b5]; simp only [Option.bind_some]
  rw [a6]; simp only [bindP]; rw [b6]; simp only [Option.bind_some]
  rw [c1]; simp only [Option.bind_some]
  rw [a7]; simp only [bindP]; rw [b7]; simp only [Option.bind_some]
  rw [a8]; simp only [bindP]; rw [b8]; simp only [Option.bind_some]
  rw [a9]; simp only [bindP]; rw [b9]; simp only [Option.bind_some]
  rw [a10]; simp only [bindP]; rw [b10]; simp only [Option.bind_some]
  rw [a11]; simp only [bindP]; rw [b11]; simp only [Option.bind_some]
