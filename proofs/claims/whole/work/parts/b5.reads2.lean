/-! CALLS THAT READ of a client -/
theorem BrR_s {M : Mem} {A : Wh} (h : BrR M A) {c : Nat} (hc : c < 6) : gI 5 0 (8 + 2 + 60 * c + 34) M = some (zI (cB (gCl (oS A) c) 3)) ∧ gI 5 1 (8 + 2 + 60 * c + 34) M = some (zI (cB (gCl (oS A) c) 4)) ∧ gI 5 5 (8 + 2 + 60 * c + 34) M = some (nW (kcnt (cK (gCl (oS A) c)) 50)) ∧ gI 5 7 (8 + 2 + 60 * c + 34) M = some (nW (cL (gCl (oS A) c) 3).1) ∧ gR 5 6 (8 + 2 + 60 * c + 34) M = some (8 + 2 + 60 * c + 34 + 2) ∧ gR 5 8 (8 + 2 + 60 * c + 34) M = some (8 + 2 + 60 * c + 34 + 9) ∧ gR 5 9 (8 + 2 + 60 * c + 34) M = some (8 + 2 + 60 * c + 34 + 16) := by
  obtain ⟨⟨k1, k2, k3, k4, k5⟩, e0, e1, e2, e3, e4, e5, _⟩ := (h.2.2.2.2.2.2.2.1 c hc).2.2.2.1
  simp only [gR, gI, k1, k3, k4, k5, e0, e1, e4, e5, ↓reduceIte, and_self]
theorem Op_sessionState (x : Int32) : OpOK (cdA 3) (f_X11_sessionState 0 x) (f_X12_sessionState 908 x) := by
  intro k M A hk5 hB hF hN hW _
  obtain ⟨k1, k2, _⟩ := BrR_k hB
  by_cases hx : inB x (nW 0) (nW 5) = true
  · obtain ⟨c, _, hc, rfl⟩ := inB_nat (by omega) hx (by omega)
    have hc6 : c < 6 := by omega
    obtain ⟨r1, r2, r3, r4, r5⟩ := BrR_c hB hc6
    obtain ⟨s0, s1, _⟩ := BrR_s hB hc6
    have cc := c_client (nW c) M
    rw [if_pos hx] at cc
    refine Op_tells (if cB (gCl (oS A) c) 3 = false then nW 0 else if cB (gCl (oS A) c) 0 = false then nW 1 else if cB (gCl (oS A) c) 4 = false then nW 2 else nW 3) hB hW ?_ (fun N V s t hk hR => ?_)
    · simp only [f_X11_sessionState, k1, ↓reduceIte, cc, bindX, k2, r1, r2, r3, r4, s0, s1, Option.bind_some, nW_lit, zI_eq0]
      cases cB (gCl (oS A) c) 3 <;> cases cB (gCl (oS A) c) 0 <;> cases cB (gCl (oS A) c) 4 <;> rfl
    · obtain ⟨a1, a2⟩ := RfR_on hR hc6
      have a3 := ((hR.2.2.2.2.2.1.2.1 c hc6).2.2.1)
      have e := ref_isOn (N := N) (V := vI V 0 0 (nW 0)) (t := t) hk hc6 a1
      cases h3 : cB (gCl (oS A) c) 3 with
      | false =>
        rw [h3, zI_f] at a2
        simp (disch := omega) only [f_X12_sessionState, q_k hk, q_gR1 hk, q_gR2 hk, q_gR8 hk, q_gR11 hk, q_gR13 hk, q_gR14 hk, q_gR15 hk, q_gR16 hk, q_gI hk, q_pI hk, q_a hk, q_w hk, q_l hk, nW_add, nW_mul, nW_le, nW_lt, irem_nW, ix_nW, nW_lit, r_client, bindP, hx, zI_t, z1n0, ↓reduceIte, Option.bind_some, a2]
      | true =>
        have a4 := (a3 h3).1
        rw [h3, zI_t] at a2
        cases h0 : cB (gCl (oS A) c) 0 with
        | false =>
          rw [h0, zI_f] at e
          simp (disch := omega) only [f_X12_sessionState, q_k hk, q_gR1 hk, q_gR2 hk, q_gR8 hk, q_gR11 hk, q_gR13 hk, q_gR14 hk, q_gR15 hk, q_gR16 hk, q_gI hk, q_pI hk, q_a hk, q_w hk, q_l hk, nW_add, nW_mul, nW_le, nW_lt, irem_nW, ix_nW, nW_lit, r_client, bindP, hx, zI_t, z1n0, ↓reduceIte, Option.bind_some, a2, e, Bool.true_eq_false]
        | true =>
          rw [h0, zI_t] at e
          cases h4 : cB (gCl (oS A) c) 4 with
          | false =>
            rw [h4, zI_f] at a4
            simp (disch := omega) only [f_X12_sessionState, q_k hk, q_gR1 hk, q_gR2 hk, q_gR8 hk, q_gR11 hk, q_gR13 hk, q_gR14 hk, q_gR15 hk, q_gR16 hk, q_gI hk, q_pI hk, q_a hk, q_w hk, q_l hk, nW_add, nW_mul, nW_le, nW_lt, irem_nW, ix_nW, nW_lit, r_client, bindP, hx, zI_t, z1n0, ↓reduceIte, Option.bind_some, a2, e, a4, Bool.true_eq_false]
          | true =>
            rw [h4, zI_t] at a4
            simp (disch := omega) only [f_X12_sessionState, q_k hk, q_gR1 hk, q_gR2 hk, q_gR8 hk, q_gR11 hk, q_gR13 hk, q_gR14 hk, q_gR15 hk, q_gR16 hk, q_gI hk, q_pI hk, q_a hk, q_w hk, q_l hk, nW_add, nW_mul, nW_le, nW_lt, irem_nW, ix_nW, nW_lit, r_client, bindP, hx, zI_t, z1n0, ↓reduceIte, Option.bind_some, a2, e, a4, Bool.true_eq_false]
  · have hx0 : inB x (nW 0) (nW 5) = false := by simpa using hx
    have cc := c_client x M
    rw [if_neg hx] at cc
    refine Op_noClient 3 (by omega) hB hW ?_ (fun N V s t hk hR => ?_)
    · simp only [f_X11_sessionState, k1, ↓reduceIte, cc, bindX]
    · simp (disch := omega) only [f_X12_sessionState, q_k hk, q_gR1 hk, q_gR2 hk, q_gR8 hk, q_gR11 hk, q_gR13 hk, q_gR14 hk, q_gR15 hk, q_gR16 hk, q_gI hk, q_pI hk, q_a hk, q_w hk, q_l hk, nW_lit, r_client, bindP, hx0, zI_f, ↓reduceIte, Option.bind_some, r_fails hk]
      rfl
theorem Op_total (x : Int32) : OpOK (cdA 1) (f_X11_total 0 x) (f_X12_total 908 x) := by
  intro k M A hk5 hB hF hN hW _
  obtain ⟨k1, k2, _⟩ := BrR_k hB
  have cc := c_range x (nW 0) (nW 9) M
  by_cases hx : inB x (nW 0) (nW 9) = true
  · obtain ⟨i, _, hi, rfl⟩ := inB_nat (by omega) hx (by omega)
    rw [if_pos hx] at cc
    obtain ⟨t1, t2, _⟩ := StR_inc (S := 8) ⟨by omega, by omega⟩ hB.2.2.2.2.2.2 (show i < 10 by omega)
    refine Op_tells (gSc (oS A) i) hB hW ?_ (fun N V s t hk hR => ?_)
    · simp only [f_X11_total, k1, ↓reduceIte, nW_lit, cc, bindX, k2, t1, t2, Option.bind_some]
    · have := hR.2.2.2.2.2.1.1.2.2 i (by omega)
      simp (disch := omega) only [f_X12_total, q_k hk, q_gR1 hk, q_gR2 hk, q_gR8 hk, q_gR11 hk, q_gR13 hk, q_gR14 hk, q_gR15 hk, q_gR16 hk, q_gI hk, q_pI hk, q_a hk, q_w hk, q_l hk, nW_add, nW_mul, nW_le, nW_lt, irem_nW, ix_nW, nW_lit, r_in, bindP, hx, zI_t, z1n0, ↓reduceIte, Option.bind_some, this]
  · have hx0 : inB x (nW 0) (nW 9) = false := by simpa using hx
    rw [if_neg hx] at cc
    refine Op_noClient 1 (by omega) hB hW ?_ (fun N V s t hk hR => ?_)
    · simp only [f_X11_total, k1, ↓reduceIte, nW_lit, cc, bindX]
    · simp (disch := omega) only [f_X12_total, q_k hk, q_gR1 hk, q_gR2 hk, q_gR8 hk, q_gR11 hk, q_gR13 hk, q_gR14 hk, q_gR15 hk, q_gR16 hk, q_gI hk, q_pI hk, q_a hk, q_w hk, q_l hk, nW_lit, r_in, bindP, hx0, zI_f, ↓reduceIte, Option.bind_some, r_fails hk]
      rfl
theorem Op_load (x : Int32) : OpOK (cdA 3) (f_X11_load 0 x) (f_X12_load 908 x) := by
  intro k M A hk5 hB hF hN hW _
  obtain ⟨k1, k2, _⟩ := BrR_k hB
  by_cases hx : inB x (nW 0) (nW 5) = true
  · obtain ⟨c, _, hc, rfl⟩ := inB_nat (by omega) hx (by omega)
    have hc6 : c < 6 := by omega
    obtain ⟨r1, r2, r3, r4, r5⟩ := BrR_c hB hc6
    have cc := c_client (nW c) M
    rw [if_pos hx] at cc
    obtain ⟨y, ey⟩ := LdOk_1000 (hW.1.2.2.1 c hc6)
    have g6 : gF 0 6 (8 + 2 + 60 * c) M = some (cF (gCl (oS A) c)) := by
      have o := (hB.2.2.2.2.2.2.2.1 c hc6).1
      simp only [gF, o.1.1, ↓reduceIte, o.2.2.2.2.1]
    refine Op_tells (FP.f2i y) hB hW ?_ (fun N V s t hk hR => ?_)
    · simp only [f_X11_load, k1, ↓reduceIte, cc, bindX, k2, r1, r2, g6, ey, Option.bind_some]
    · have a3 := hR.2.2.2.2.2.2 c hc6
      have e3 : gR 12 3 908 (QW N (vI V 0 0 (nW 0)) s t) = some 911 := W_gR3 hk
      have e4 : aF 911 (nW c) (QW N (vI V 0 0 (nW 0)) s t) = some (V.2.2 3 c) := W_aF3 hk hc6
      simp (disch := omega) only [f_X12_load, q_k hk, q_gR1 hk, q_gR2 hk, q_gR8 hk, q_gR11 hk, q_gR13 hk, q_gR14 hk, q_gR15 hk, q_gR16 hk, q_gI hk, q_pI hk, q_a hk, q_w hk, q_l hk, nW_lit, r_client, bindP, hx, zI_t, z1n0, ↓reduceIte, Option.bind_some, e3, e4, a3, ey]
  · have hx0 : inB x (nW 0) (nW 5) = false := by simpa using hx
    have cc := c_client x M
    rw [if_neg hx] at cc
    refine Op_noClient 3 (by omega) hB hW ?_ (fun N V s t hk hR => ?_)
    · simp only [f_X11_load, k1, ↓reduceIte, cc, bindX]
    · simp (disch := omega) only [f_X12_load, q_k hk, q_gR1 hk, q_gR2 hk, q_gR8 hk, q_gR11 hk, q_gR13 hk, q_gR14 hk, q_gR15 hk, q_gR16 hk, q_gI hk, q_pI hk, q_a hk, q_w hk, q_l hk, nW_lit, r_client, bindP, hx0, zI_f, ↓reduceIte, Option.bind_some, r_fails hk]
      rfl
theorem w5 (x : Int32) : x = nW 0 ∨ x = nW 1 ∨ x = nW 2 ∨ x = nW 3 ∨ x = nW 4 ∨ (x ≠ nW 0 ∧ x ≠ nW 1 ∧ x ≠ nW 2 ∧ x ≠ nW 3 ∧ x ≠ nW 4) := by
  by_cases h0 : x = nW 0
  · exact Or.inl h0
  by_cases h1 : x = nW 1
  · exact Or.inr (Or.inl h1)
  by_cases h2 : x = nW 2
  · exact Or.inr (Or.inr (Or.inl h2))
  by_cases h3 : x = nW 3
  · exact Or.inr (Or.inr (Or.inr (Or.inl h3)))
  by_cases h4 : x = nW 4
  · exact Or.inr (Or.inr (Or.inr (Or.inr (Or.inl h4))))
  exact Or.inr (Or.inr (Or.inr (Or.inr (Or.inr ⟨h0, h1, h2, h3, h4⟩))))
theorem d10 : ¬ nW 1 = nW 0 := by decide
theorem d20 : ¬ nW 2 = nW 0 := by decide
theorem d30 : ¬ nW 3 = nW 0 := by decide
theorem d40 : ¬ nW 4 = nW 0 := by decide
theorem d50 : ¬ nW 5 = nW 0 := by decide
theorem d21 : ¬ nW 2 = nW 1 := by decide
theorem d31 : ¬ nW 3 = nW 1 := by decide
theorem d41 : ¬ nW 4 = nW 1 := by decide
theorem d51 : ¬ nW 5 = nW 1 := by decide
theorem d32 : ¬ nW 3 = nW 2 := by decide
theorem d42 : ¬ nW 4 = nW 2 := by decide
theorem d52 : ¬ nW 5 = nW 2 := by decide
theorem d43 : ¬ nW 4 = nW 3 := by decide
theorem d53 : ¬ nW 5 = nW 3 := by decide
theorem d54 : ¬ nW 5 = nW 4 := by decide
theorem Op_length (x y : Int32) : OpOK (cdB 3 1) (f_X11_length 0 x y) (f_X12_length 908 x y) := by
  intro k M A hk5 hB hF hN hW _
  obtain ⟨k1, k2, _⟩ := BrR_k hB
  by_cases hx : inB x (nW 0) (nW 5) = true
  · obtain ⟨c, _, hc, rfl⟩ := inB_nat (by omega) hx (by omega)
    have hc6 : c < 6 := by omega
    obtain ⟨r1, r2, r3, r4, r5⟩ := BrR_c hB hc6
    obtain ⟨s0, s1, s5, s7, _, s8, s9⟩ := BrR_s hB hc6
    have cc := c_client (nW c) M
    rw [if_pos hx] at cc
    have hCl := hB.2.2.2.2.2.2.2.1 c hc6
    have gq : gI 4 2 (8 + 2 + 60 * c + 2) M = some (nW (cL (gCl (oS A) c) 0).1) := by
      have q := hCl.2.2.1
      simp only [gI, q.1.1, ↓reduceIte, q.2.2.2.1]
    have gf : gI 2 1 (8 + 2 + 60 * c + 34 + 9) M = some (nW (cL (gCl (oS A) c) 1).1) := MLR_cnt hCl.2.2.2.2.2.2.1
    have gp : gI 2 1 (8 + 2 + 60 * c + 34 + 16) M = some (nW (cL (gCl (oS A) c) 2).1) := MLR_cnt hCl.2.2.2.2.2.2.2
    have R1 : ∀ N V s t, KR N → RfR V s t A → R_c1 s c (gCl (oS A) c) := fun N V s t hk hR => (hR.2.2.2.2.2.1.2.1 c hc6).2.1
    rcases w5 y with rfl | rfl | rfl | rfl | rfl | ⟨y0, y1, y2, y3, y4⟩
    · refine Op_tells (nW (cL (gCl (oS A) c) 0).1) hB hW ?_ (fun N V s t hk hR => ?_)
      · simp only [f_X11_length, k1, ↓reduceIte, cc, bindX, k2, r1, r2, r4, r5, nW_lit, Option.bind_some, gq]
      · obtain ⟨a1, a2, a3, a4, a5, a6, _⟩ := R1 N V s t hk hR
        simp (disch := omega) only [f_X12_length, q_k hk, q_gR1 hk, q_gR2 hk, q_gR8 hk, q_gR11 hk, q_gR13 hk, q_gR14 hk, q_gR15 hk, q_gR16 hk, q_gI hk, q_pI hk, q_a hk, q_w hk, q_l hk, nW_add, nW_mul, nW_le, nW_lt, irem_nW, ix_nW, nW_lit, r_client, bindP, hx, zI_t, z1n0, ↓reduceIte, Option.bind_some, a6]
    · refine Op_tells (nW (cL (gCl (oS A) c) 1).1) hB hW ?_ (fun N V s t hk hR => ?_)
      · simp only [f_X11_length, k1, ↓reduceIte, cc, bindX, k2, r1, r2, r4, r5, nW_lit, Option.bind_some, d10, s8, gf]
      · obtain ⟨a1, a2, a3, a4, a5, a6, _⟩ := R1 N V s t hk hR
        simp (disch := omega) only [f_X12_length, q_k hk, q_gR1 hk, q_gR2 hk, q_gR8 hk, q_gR11 hk, q_gR13 hk, q_gR14 hk, q_gR15 hk, q_gR16 hk, q_gI hk, q_pI hk, q_a hk, q_w hk, q_l hk, nW_add, nW_mul, nW_le, nW_lt, irem_nW, ix_nW, nW_lit, r_client, bindP, hx, zI_t, z1n0, ↓reduceIte, Option.bind_some, a4]
    · refine Op_tells (nW (cL (gCl (oS A) c) 2).1) hB hW ?_ (fun N V s t hk hR => ?_)
      · simp only [f_X11_length, k1, ↓reduceIte, cc, bindX, k2, r1, r2, r4, r5, nW_lit, Option.bind_some, d20, d21, s9, gp]
      · obtain ⟨a1, a2, a3, a4, a5, a6, _⟩ := R1 N V s t hk hR
        simp (disch := omega) only [f_X12_length, q_k hk, q_gR1 hk, q_gR2 hk, q_gR8 hk, q_gR11 hk, q_gR13 hk, q_gR14 hk, q_gR15 hk, q_gR16 hk, q_gI hk, q_pI hk, q_a hk, q_w hk, q_l hk, nW_add, nW_mul, nW_le, nW_lt, irem_nW, ix_nW, nW_lit, r_client, bindP, hx, zI_t, z1n0, ↓reduceIte, Option.bind_some, d20, d21, a5]
    · refine Op_tells (nW (kcnt (cK (gCl (oS A) c)) 50)) hB hW ?_ (fun N V s t hk hR => ?_)
      · simp only [f_X11_length, k1, ↓reduceIte, cc, bindX, k2, r1, r2, r4, r5, nW_lit, Option.bind_some, d30, d31, d32, s5]
      · have e := ref_kepts (N := N) (V := vI V 0 0 (nW 0)) hk hc6 (RSt_get hR.2.2.2.2.2.1 hc6)
        simp (disch := omega) only [f_X12_length, q_k hk, q_gR1 hk, q_gR2 hk, q_gR8 hk, q_gR11 hk, q_gR13 hk, q_gR14 hk, q_gR15 hk, q_gR16 hk, q_gI hk, q_pI hk, q_a hk, q_w hk, q_l hk, nW_lit, r_client, bindP, hx, zI_t, z1n0, ↓reduceIte, Option.bind_some, d30, d31, d32, e]
        rfl
    · refine Op_tells (nW (cL (gCl (oS A) c) 3).1) hB hW ?_ (fun N V s t hk hR => ?_)
      · simp only [f_X11_length, k1, ↓reduceIte, cc, bindX, k2, r1, r2, r4, r5, nW_lit, Option.bind_some, d40, d41, d42, d43, s7]
      · obtain ⟨a1, a2, a3, a4, a5, a6, _⟩ := R1 N V s t hk hR
        simp (disch := omega) only [f_X12_length, q_k hk, q_gR1 hk, q_gR2 hk, q_gR8 hk, q_gR11 hk, q_gR13 hk, q_gR14 hk, q_gR15 hk, q_gR16 hk, q_gI hk, q_pI hk, q_a hk, q_w hk, q_l hk, nW_add, nW_mul, nW_le, nW_lt, irem_nW, ix_nW, nW_lit, r_client, bindP, hx, zI_t, z1n0, ↓reduceIte, Option.bind_some, d40, d41, d42, d43, a3]
    · refine Op_noClient 1 (by omega) hB hW ?_ (fun N V s t hk hR => ?_)
      · simp only [f_X11_length, k1, ↓reduceIte, cc, bindX, k2, r1, r2, nW_lit, Option.bind_some, y0, y1, y2, y3, y4]
      · simp (disch := omega) only [f_X12_length, q_k hk, q_gR1 hk, q_gR2 hk, q_gR8 hk, q_gR11 hk, q_gR13 hk, q_gR14 hk, q_gR15 hk, q_gR16 hk, q_gI hk, q_pI hk, q_a hk, q_w hk, q_l hk, nW_lit, r_client, bindP, hx, zI_t, z1n0, ↓reduceIte, Option.bind_some, y0, y1, y2, y3, y4, r_fails hk]
        rfl
  · have hx0 : inB x (nW 0) (nW 5) = false := by simpa using hx
    have cc := c_client x M
    rw [if_neg hx] at cc
    refine Op_noClient 3 (by omega) hB hW ?_ (fun N V s t hk hR => ?_)
    · simp only [f_X11_length, k1, ↓reduceIte, cc, bindX]
    · simp (disch := omega) only [f_X12_length, q_k hk, q_gR1 hk, q_gR2 hk, q_gR8 hk, q_gR11 hk, q_gR13 hk, q_gR14 hk, q_gR15 hk, q_gR16 hk, q_gI hk, q_pI hk, q_a hk, q_w hk, q_l hk, nW_lit, r_client, bindP, hx0, zI_f, ↓reduceIte, Option.bind_some, r_fails hk]
      rfl
theorem Op_inFlight (x i y : Int32) : OpOK (cdB 3 1) (f_X11_inFlight 0 x i y) (f_X12_inFlight 908 x i y) := by
  intro k M A hk5 hB hF hN hW _
  obtain ⟨k1, k2, _⟩ := BrR_k hB
  by_cases hx : inB x (nW 0) (nW 5) = true
  · obtain ⟨c, _, hc, rfl⟩ := inB_nat (by omega) hx (by omega)
    have hc6 : c < 6 := by omega
    obtain ⟨r1, r2, r3, r4, r5⟩ := BrR_c hB hc6
    obtain ⟨s0, s1, s5, s7, _, s8, s9⟩ := BrR_s hB hc6
    have cc := c_client (nW c) M
    rw [if_pos hx] at cc
    have hML := (hB.2.2.2.2.2.2.2.1 c hc6).2.2.2.2.2.2.1
    have gf : gI 2 1 (8 + 2 + 60 * c + 34 + 9) M = some (nW (cL (gCl (oS A) c) 1).1) := MLR_cnt hML
    have gr : gR 2 0 (8 + 2 + 60 * c + 34 + 9) M = some (8 + 2 + 60 * c + 34 + 9 + 1) := MLR_arr hML
    have l5 : (cL (gCl (oS A) c) 1).1 ≤ 5 := hML.2.1
    have gn : aN (8 + 2 + 60 * c + 34 + 9 + 1) M = some (nW 5) := by
      obtain ⟨_, _, _, p, hp, _⟩ := hML
      simp only [aN, hp.1]; rfl
    rcases idx (x := i) (show (cL (gCl (oS A) c) 1).1 < 100000 by omega) with ⟨j, hj, rfl, hi⟩ | ⟨hi, hn⟩
    · obtain ⟨a, ea, hra, hm, _⟩ := MLR_rowP hML hj
      have ga := MLR_at hML (by omega) (show j < 5 by omega) ea
      obtain ⟨m1, ⟨g1, g2, g3, g4, g5, g6⟩, _⟩ := hm
      have q1 : gI 1 1 a M = some (((cL (gCl (oS A) c) 1).2 j).2 1) := by simp only [gI, m1, g1, ↓reduceIte]
      have q2 : gI 1 2 a M = some (((cL (gCl (oS A) c) 1).2 j).2 2) := by simp only [gI, m1, g2, ↓reduceIte]
      have q4 : gI 1 4 a M = some (((cL (gCl (oS A) c) 1).2 j).2 4) := by simp only [gI, m1, g4, ↓reduceIte]
      have q5 : gI 1 5 a M = some (((cL (gCl (oS A) c) 1).2 j).2 5) := by simp only [gI, m1, g5, ↓reduceIte]
      have q6 : gI 1 6 a M = some (((cL (gCl (oS A) c) 1).2 j).2 6) := by simp only [gI, m1, g6, ↓reduceIte]
      have n0 : ¬ nW j < nW 0 := by rw [nW_lt (by omega) (by omega)]; omega
      have n1 : ¬ nW (cL (gCl (oS A) c) 1).1 ≤ nW j := by rw [nW_le (by omega) (by omega)]; omega
      have n5 : nW j < nW 5 := by rw [nW_lt (by omega) (by omega)]; omega
      have R1 : ∀ N V s t, KR N → RfR V s t A → s (56 + c) = nW (cL (gCl (oS A) c) 1).1 ∧ R_fl s t c (cL (gCl (oS A) c) 1) := fun N V s t hk hR => ⟨(hR.2.2.2.2.2.1.2.1 c hc6).2.1.2.2.2.1, (hR.2.2.2.2.2.1.2.1 c hc6).2.2.2.2.2.2.1⟩
      have base : ∀ f, f_X11_inFlight 0 (nW c) (nW j) f M = (if f = nW 0 then some (.inl (((cL (gCl (oS A) c) 1).2 j).2 4), M) else if f = nW 1 then some (.inl (((cL (gCl (oS A) c) 1).2 j).2 1), M) else if f = nW 2 then some (.inl (((cL (gCl (oS A) c) 1).2 j).2 2), M) else if f = nW 3 then some (.inl (((cL (gCl (oS A) c) 1).2 j).2 5), M) else if f = nW 4 then some (.inl (((cL (gCl (oS A) c) 1).2 j).2 6), M) else some (.inr 1, xM M)) := fun f => by
        simp only [f_X11_inFlight, k1, ↓reduceIte, cc, bindX, k2, r1, r2, r4, s8, nW_lit, Option.bind_some, n0, gf, n1, gr, gn, n5, ga, q1, q2, q4, q5, q6]
      rcases w5 y with rfl | rfl | rfl | rfl | rfl | ⟨y0, y1, y2, y3, y4⟩
      · refine Op_tells _ hB hW ((base _).trans (if_pos rfl)) (fun N V s t hk hR => ?_)
        obtain ⟨b1, b2⟩ := R1 N V s t hk hR
        obtain ⟨x1, x2, x3, x4, x5, x6, x7⟩ := b2 j hj
        simp (disch := omega) only [f_X12_inFlight, q_k hk, q_gR1 hk, q_gR2 hk, q_gR8 hk, q_gR11 hk, q_gR13 hk, q_gR14 hk, q_gR15 hk, q_gR16 hk, q_gI hk, q_pI hk, q_a hk, q_w hk, q_l hk, nW_add, nW_mul, nW_le, nW_lt, irem_nW, ix_nW, nW_lit, r_client, r_in, bindP, hx, zI_t, z1n0, ↓reduceIte, Option.bind_some, b1, x1]
        rw [hi, zI_t, if_neg z1n0]
      · refine Op_tells _ hB hW ((base _).trans (by rw [if_neg d10, if_pos rfl])) (fun N V s t hk hR => ?_)
        obtain ⟨b1, b2⟩ := R1 N V s t hk hR
        obtain ⟨x1, x2, x3, x4, x5, x6, x7⟩ := b2 j hj
        simp (disch := omega) only [f_X12_inFlight, q_k hk, q_gR1 hk, q_gR2 hk, q_gR8 hk, q_gR11 hk, q_gR13 hk, q_gR14 hk, q_gR15 hk, q_gR16 hk, q_gI hk, q_pI hk, q_a hk, q_w hk, q_l hk, nW_add, nW_mul, nW_le, nW_lt, irem_nW, ix_nW, nW_lit, r_client, r_in, bindP, hx, zI_t, z1n0, ↓reduceIte, Option.bind_some, b1, x2]
        rw [hi, zI_t, if_neg z1n0]
      · refine Op_tells _ hB hW ((base _).trans (by rw [if_neg d20, if_neg d21, if_pos rfl])) (fun N V s t hk hR => ?_)
        obtain ⟨b1, b2⟩ := R1 N V s t hk hR
        obtain ⟨x1, x2, x3, x4, x5, x6, x7⟩ := b2 j hj
        simp (disch := omega) only [f_X12_inFlight, q_k hk, q_gR1 hk, q_gR2 hk, q_gR8 hk, q_gR11 hk, q_gR13 hk, q_gR14 hk, q_gR15 hk, q_gR16 hk, q_gI hk, q_pI hk, q_a hk, q_w hk, q_l hk, nW_add, nW_mul, nW_le, nW_lt, irem_nW, ix_nW, nW_lit, r_client, r_in, bindP, hx, zI_t, z1n0, d20, d21, ↓reduceIte, Option.bind_some, b1, x3]
        rw [hi, zI_t, if_neg z1n0]
      · refine Op_tells _ hB hW ((base _).trans (by rw [if_neg d30, if_neg d31, if_neg d32, if_pos rfl])) (fun N V s t hk hR => ?_)
        obtain ⟨b1, b2⟩ := R1 N V s t hk hR
        obtain ⟨x1, x2, x3, x4, x5, x6, x7⟩ := b2 j hj
        simp (disch := omega) only [f_X12_inFlight, q_k hk, q_gR1 hk, q_gR2 hk, q_gR8 hk, q_gR11 hk, q_gR13 hk, q_gR14 hk, q_gR15 hk, q_gR16 hk, q_gI hk, q_pI hk, q_a hk, q_w hk, q_l hk, nW_add, nW_mul, nW_le, nW_lt, irem_nW, ix_nW, nW_lit, r_client, r_in, bindP, hx, zI_t, z1n0, d30, d31, d32, ↓reduceIte, Option.bind_some, b1, x5]
        rw [hi, zI_t, if_neg z1n0]
      · refine Op_tells _ hB hW ((base _).trans (by rw [if_neg d40, if_neg d41, if_neg d42, if_neg d43, if_pos rfl])) (fun N V s t hk hR => ?_)
        obtain ⟨b1, b2⟩ := R1 N V s t hk hR
        obtain ⟨x1, x2, x3, x4, x5, x6, x7⟩ := b2 j hj
        simp (disch := omega) only [f_X12_inFlight, q_k hk, q_gR1 hk, q_gR2 hk, q_gR8 hk, q_gR11 hk, q_gR13 hk, q_gR14 hk, q_gR15 hk, q_gR16 hk, q_gI hk, q_pI hk, q_a hk, q_w hk, q_l hk, nW_add, nW_mul, nW_le, nW_lt, irem_nW, ix_nW, nW_lit, r_client, r_in, bindP, hx, zI_t, z1n0, d40, d41, d42, d43, ↓reduceIte, Option.bind_some, b1, x6]
        rw [hi, zI_t, if_neg z1n0]
      · refine Op_noClient 1 (by omega) hB hW ((base _).trans (by rw [if_neg y0, if_neg y1, if_neg y2, if_neg y3, if_neg y4])) (fun N V s t hk hR => ?_)
        obtain ⟨b1, b2⟩ := R1 N V s t hk hR
        simp (disch := omega) only [f_X12_inFlight, q_k hk, q_gR1 hk, q_gR2 hk, q_gR8 hk, q_gR11 hk, q_gR13 hk, q_gR14 hk, q_gR15 hk, q_gR16 hk, q_gI hk, q_pI hk, q_a hk, q_w hk, q_l hk, nW_add, nW_mul, nW_le, nW_lt, irem_nW, ix_nW, nW_lit, r_client, r_in, bindP, hx, zI_t, z1n0, y0, y1, y2, y3, y4, ↓reduceIte, Option.bind_some, b1, r_fails hk]
        rw [hi, zI_t, if_neg z1n0]; rfl
    · refine Op_noClient 3 (by omega) hB hW ?_ (fun N V s t hk hR => ?_)
      · rcases hn with h | ⟨h, h'⟩
        · simp only [f_X11_inFlight, f_X11_inFlight_J44, k1, ↓reduceIte, cc, bindX, k2, r1, r2, r4, s8, nW_lit, Option.bind_some, h]
        · simp only [f_X11_inFlight, f_X11_inFlight_J44, k1, ↓reduceIte, cc, bindX, k2, r1, r2, r4, s8, nW_lit, Option.bind_some, h, gf, h']
      · have b1 := (hR.2.2.2.2.2.1.2.1 c hc6).2.1.2.2.2.1
        simp (disch := omega) only [f_X12_inFlight, f_X12_inFlight_J31, q_k hk, q_gR1 hk, q_gR2 hk, q_gR8 hk, q_gR11 hk, q_gR13 hk, q_gR14 hk, q_gR15 hk, q_gR16 hk, q_gI hk, q_pI hk, q_a hk, q_w hk, q_l hk, nW_add, nW_mul, nW_le, nW_lt, irem_nW, ix_nW, nW_lit, r_client, r_in, bindP, hx, zI_t, z1n0, ↓reduceIte, Option.bind_some, b1, r_fails hk]
        rw [hi, zI_f, if_pos rfl]; rfl
  · have hx0 : inB x (nW 0) (nW 5) = false := by simpa using hx
    have cc := c_client x M
    rw [if_neg hx] at cc
    refine Op_noClient 3 (by omega) hB hW ?_ (fun N V s t hk hR => ?_)
    · simp only [f_X11_inFlight, k1, ↓reduceIte, cc, bindX]
    · simp (disch := omega) only [f_X12_inFlight, f_X12_inFlight_J31, q_k hk, q_gR1 hk, q_gR2 hk, q_gR8 hk, q_gR11 hk, q_gR13 hk, q_gR14 hk, q_gR15 hk, q_gR16 hk, q_gI hk, q_pI hk, q_a hk, q_w hk, q_l hk, nW_lit, r_client, bindP, hx0, zI_f, ↓reduceIte, Option.bind_some, r_fails hk]
      rfl
