def wh0 : Wh := ([], -nW 1, (false, ([], fun _ => nW 0)), sg0, (false, sg0))
theorem X11_new {M : Mem} (hF : F99 M) (hN : mN M = 0) : ∃ M1 M', nO 11 9 M = some (0, M1) ∧ f_X11_init 0 M1 = some M' ∧ Mk 908 8235 M M' ∧ BrR M' wh0 := by
  obtain ⟨M1, e1, m1, n1, k1, i1, _⟩ := nO_new 11 9 hF (by omega)
  rw [hN] at e1 k1 i1 n1
  have k1 : (mK M1 0).1 = 11 := by rw [k1]
  obtain ⟨Ma, Mb, M2, ea, eb, e2, m2, T2⟩ := blank_new m1.2.2 n1
  have k2 := k99 m2.1 k1 (by decide)
  have s2 := r99 m2.1 k1 (by decide) (fun h => h)
  have n2 : mN M2 = 5 := by rw [m2.2.1.1, n1]
  -- the buffer
  obtain ⟨M3, e3, m3, n3, k3, _⟩ := nA_new 16 30 m2.2.2 (by omega) (by omega)
  rw [n2] at e3 k3 n3
  obtain ⟨M4, e4, m4, n4, kk4, ii4, _, x4, y4⟩ := own_pR (k := 11) (s := 0) (x := 5) 0 (by omega) m3.2.2 (k99 m3.1 k2 (by decide)) (by rw [k3]; decide)
  have s3 := r99 m3.1 k2 (by decide) (fun h => h)
  have k4 : (mK M4 0).1 = 11 := by rw [kk4]; exact k99 m3.1 k2 (by decide)
  have b4 : mK M4 5 = (16, 30) := by rw [kk4]; exact k3
  have i4 : ∀ j, mI M4 0 j = nW 0 := fun j => by rw [ii4, s3.2.1, s2.2.1]; exact i1 j
  have F5 := fq_I M4 2 (-nW 1) (show ¬ tz 0 by simp only [tz]; omega)
  have p5 : pI 11 2 0 (-nW 1) M4 = some (sI M4 (up2 (mI M4) 0 2 (-nW 1))) := by simp only [pI, k4, ↓reduceIte]
  have m5 := Mp_fr F5 m4.2.2
  have i5 : mI (sI M4 (up2 (mI M4) 0 2 (-nW 1))) 0 2 = -nW 1 ∧ ∀ j, j ≠ 2 → mI (sI M4 (up2 (mI M4) 0 2 (-nW 1))) 0 j = nW 0 := ⟨by simp only [sI_mI, sI_mL, sI_mF, sI_mR, sI_mK, sI_mN, sI_mC, sI_mS, sL_mI, sL_mL, sL_mF, sL_mR, sL_mK, sL_mN, sL_mC, sL_mS, sF_mI, sF_mL, sF_mF, sF_mR, sF_mK, sF_mN, sF_mC, sF_mS, sR_mI, sR_mL, sR_mF, sR_mR, sR_mK, sR_mN, sR_mC, sR_mS]; exact up2_eq _ _ _ _, fun j hj => by simp only [sI_mI, sI_mL, sI_mF, sI_mR, sI_mK, sI_mN, sI_mC, sI_mS, sL_mI, sL_mL, sL_mF, sL_mR, sL_mK, sL_mN, sL_mC, sL_mS, sF_mI, sF_mL, sF_mF, sF_mR, sF_mK, sF_mN, sF_mC, sF_mS, sR_mI, sR_mL, sR_mF, sR_mR, sR_mK, sR_mN, sR_mC, sR_mS]; rw [up2_nj _ _ _ _ hj]; exact i4 j⟩
  have R5 : mR (sI M4 (up2 (mI M4) 0 2 (-nW 1))) = mR M4 := rfl
  have K5 : mK (sI M4 (up2 (mI M4) 0 2 (-nW 1))) = mK M4 := rfl
  have n5 : mN (sI M4 (up2 (mI M4) 0 2 (-nW 1))) = 6 := by show mN M4 = 6; rw [n4, n3]
  generalize sI M4 (up2 (mI M4) 0 2 (-nW 1)) = M5 at *
  have k5 : (mK M5 0).1 = 11 := by rw [K5]; exact k4
  have q25 := ((m3.mp (fun a => a = 0)).trans m4).trans m5
  have T5 := T2.gr q25.1
  -- the present packet
  obtain ⟨M6, M7, e6, e7, m7, P7⟩ := X3_new q25.2.2 (by omega) T5
  rw [n5] at e6 e7 P7
  have s7 := r99 m7.1 k5 (by decide) (fun h => h)
  have k7 := k99 m7.1 k5 (by decide)
  obtain ⟨M8, e8, m8, n8, kk8, ii8, _, x8, y8⟩ := own_pR (k := 11) (s := 0) (x := 6) 4 (by omega) m7.2.2 k7 (by rw [P7.1]; decide)
  have k8 : (mK M8 0).1 = 11 := by rw [kk8]; exact k7
  have n8' : mN M8 = 7 := by rw [n8, m7.2.1.1, n5]
  have q58 := (m7.mp (fun a => a = 0)).trans m8
  have T8 := T5.gr q58.1
  -- the incoming message
  obtain ⟨M9, M10, e9, e10, m10, D10⟩ := X1_new q58.2.2 (by omega) T8
  rw [n8'] at e9 e10 D10
  have s10 := r99 m10.1 k8 (by decide) (fun h => h)
  have k10 := k99 m10.1 k8 (by decide)
  obtain ⟨M11, e11, m11, n11, kk11, ii11, _, x11, y11⟩ := own_pR (k := 11) (s := 0) (x := 7) 5 (by omega) m10.2.2 k10 (by rw [D10.1]; decide)
  have k11 : (mK M11 0).1 = 11 := by rw [kk11]; exact k10
  have n11' : mN M11 = 8 := by rw [n11, m10.2.1.1, n8']
  have q811 := (m10.mp (fun a => a = 0)).trans m11
  have T11 := T8.gr q811.1
  -- the state
  obtain ⟨M12, M13, e12, e13, m13, S13⟩ := X7_new q811.2.2 (by omega) T11
  rw [n11'] at e12 e13 S13
  have s13 := r99 m13.1 k11 (by decide) (fun h => h)
  have k13 := k99 m13.1 k11 (by decide)
  obtain ⟨M14, e14, m14, n14, kk14, ii14, _, x14, y14⟩ := own_pR (k := 11) (s := 0) (x := 8) 6 (by omega) m13.2.2 k13 (by rw [S13.1.1.1]; decide)
  have k14 : (mK M14 0).1 = 11 := by rw [kk14]; exact k13
  have n14' : mN M14 = 458 := by rw [n14, m13.2.1.1, n11']
  have q1114 := (m13.mp (fun a => a = 0)).trans m14
  have T14 := T11.gr q1114.1
  have S14 := S13.gr m14.1 (fun a h => by unfold SZ at h; omega)
  -- the snapshot
  obtain ⟨M15, M16, e15, e16, m16, S16⟩ := X7_new q1114.2.2 (by omega) T14
  rw [n14'] at e15 e16 S16
  have s16 := r99 m16.1 k14 (by decide) (fun h => h)
  have k16 := k99 m16.1 k14 (by decide)
  obtain ⟨M17, e17, m17, n17, kk17, ii17, _, x17, y17⟩ := own_pR (k := 11) (s := 0) (x := 458) 8 (by omega) m16.2.2 k16 (by rw [S16.1.1.1]; decide)
  have q1417 := (m16.mp (fun a => a = 0)).trans m17
  have q1117 := q1114.trans q1417
  have q817 := q811.trans q1117
  have q517 := q58.trans q817
  have qA : Mk 908 8235 M M17 := ((((m1.mp (fun a => a = 0)).trans (m2.mp _)).trans q25).trans q517).mk (fun a h => hF a (by omega))
  have I17 : ∀ j, mI M17 0 j = mI M5 0 j := fun j => by rw [ii17, s16.2.1, ii14, s13.2.1, ii11, s10.2.1, ii8, s7.2.1]
  have R6 : ∀ j, j ≠ 8 → mR M17 0 j = mR M14 0 j := fun j h => by rw [y17 j h, s16.1]
  have R4 : ∀ j, j ≠ 8 → j ≠ 6 → mR M17 0 j = mR M11 0 j := fun j h h6 => by rw [R6 j h, y14 j h6, s13.1]
  have R3 : ∀ j, j ≠ 8 → j ≠ 6 → j ≠ 5 → mR M17 0 j = mR M8 0 j := fun j h h6 h5 => by rw [R4 j h h6, y11 j h5, s10.1]
  have R2 : ∀ j, j ≠ 8 → j ≠ 6 → j ≠ 5 → j ≠ 4 → mR M17 0 j = mR M5 0 j := fun j h h6 h5 h4 => by rw [R3 j h h6 h5, y8 j h4, s7.1]
  have b5 : mK M5 5 = (16, 30) := by rw [K5]; exact b4
  refine ⟨M1, M17, e1, ?_, qA, ⟨by rw [kk17]; exact k16, ?_, ?_, ?_, ?_, x17⟩, ⟨k99' q517.1 b5 (by decide), by rw [I17]; exact i5.2 1 (by omega), Nat.zero_le _, fun j hj => absurd hj (Nat.not_lt_zero j), fun c hc => absurd hc (List.not_mem_nil)⟩, by rw [I17]; exact i5.1, ⟨by rw [I17]; exact i5.2 3 (by omega), (P7.gr m8.1 (by omega)).gr q817.1 (by omega)⟩, k99 (q1117.1) (k99 m11.1 D10.1 (by decide)) (by decide), ⟨by rw [I17]; exact i5.2 7 (by omega), S16.gr m17.1 (fun a h => by unfold SZ at h; omega)⟩, S14.gr q1417.1 (fun a h => by unfold SZ at h; omega)⟩
  · have m1l : (-1 : Int32) = -nW 1 := rfl
    simp only [f_X11_init, m1l, nW_lit, ea, eb, e2, e3, e4, p5, e6, e7, e8, e9, e10, e11, e12, e13, e14, e15, e16, e17, bindP, Option.bind_some]
  · rw [R2 0 (by omega) (by omega) (by omega) (by omega), R5]; exact x4
  · rw [R3 4 (by omega) (by omega) (by omega)]; exact x8
  · rw [R4 5 (by omega) (by omega)]; exact x11
  · rw [R6 6 (by omega)]; exact x14
