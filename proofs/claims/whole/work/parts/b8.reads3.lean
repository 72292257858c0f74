/-! MORE CALLS THAT READ -/
def asX (f : Mem → Option (Int32 × Mem)) : Mem → Option ((Int32 ⊕ Nat) × Mem) := fun M => (f M).map (fun p => (.inl p.1, p.2))
theorem vI_0o (V : VR) (x : Int32) {j : Nat} (h : j ≠ 0) : (vI V 0 0 x).1 0 j = V.1 0 j := by rw [vI_1, fset_ne _ _ h]
theorem Op_errorPosition : OpOK (cdA 0) (asX (f_X11_errorPosition 0)) (f_X12_errorPosition 908) := by
  intro k M A hk5 hB hF hN hW _
  obtain ⟨k1, k2, k3, k4, k5, _⟩ := BrR_k hB
  refine Op_tells (oE A) hB hW ?_ (fun N V s t hk hR => ?_)
  · simp only [asX, f_X11_errorPosition, k1, ↓reduceIte, k5, Option.bind_some, Option.map_some]
  · have e := hR.2.1
    simp (disch := omega) only [f_X12_errorPosition, q_k hk, q_gR1 hk, q_gR2 hk, q_gR8 hk, q_gR11 hk, q_gR13 hk, q_gR14 hk, q_gR15 hk, q_gR16 hk, q_gI hk, q_pI hk, q_a hk, q_w hk, q_l hk, nW_lit, ↓reduceIte, Option.bind_some, vI_0o, e]
theorem Op_retainedCount : OpOK (cdA 0) (asX (f_X11_retainedCount 0)) (f_X12_retainedCount 908) := by
  intro k M A hk5 hB hF hN hW _
  obtain ⟨k1, k2, k3, k4, k5, _⟩ := BrR_k hB
  have e5 := (StR_k hB.2.2.2.2.2.2).2.2.2.2.2.2.1
  refine Op_tells (nW (gRe (oS A)).1) hB hW ?_ (fun N V s t hk hR => ?_)
  · simp only [asX, f_X11_retainedCount, k1, ↓reduceIte, k2, e5, Option.bind_some, Option.map_some]
  · have e := hR.2.2.2.2.2.1.2.2.1.1
    simp (disch := omega) only [f_X12_retainedCount, q_k hk, q_gR1 hk, q_gR2 hk, q_gR8 hk, q_gR11 hk, q_gR13 hk, q_gR14 hk, q_gR15 hk, q_gR16 hk, q_gI hk, q_pI hk, q_a hk, q_w hk, q_l hk, nW_lit, ↓reduceIte, Option.bind_some, e]
theorem TextR_n {M : Mem} {x : Nat} {t : Txt} (h : TextR M x t) : ∃ sa, gR 10 0 x M = some sa ∧ aN sa M = some (nW (txS t).length) ∧ gI 10 2 x M = some (nW t.length) ∧ (∀ j, j < (txS t).length → aI 16 sa (nW j) M = some (nW ((txS t).getD j 0))) ∧ (txS t).length ≤ 28 := by
  obtain ⟨h1, ⟨h2, h3⟩, h4, h5, h6, sa, la, ⟨h7, h8⟩, ⟨h9, h10⟩, h11, h12, h13, h14⟩ := h
  have hl : (txS t).length ≤ 28 := by
    have := (txS_ok h1.2.1).2
    have := h1.1; omega
  have r16 : 13 ≤ 16 ∧ 16 ≤ 23 := by omega
  refine ⟨sa, ?_, ?_, ?_, fun j hj => ?_, hl⟩
  · simp only [gR, h2, ↓reduceIte, h7]
  · simp only [aN, h11, r16, and_self, ↓reduceIte]; rfl
  · simp only [gI, h2, ↓reduceIte, h4]
  · simp (disch := omega) only [aI, h11, ↓reduceIte, ix_nW, Option.map_some, h13 j hj]
theorem q_gR15' {N : Mem} {V : VR} {s : Nat → Int32} {t : Nat → Int64} (h : KR N) {i : Nat} (hi : i < 6) : aI 13 919 (nW i) (QW N V s t) = some (V.1 11 i) := W_aI11 h hi
theorem Op_packet (x : Int32) : OpOK (cdB 1 2) (f_X11_packet 0 x) (f_X12_packet 908 x) := by
  intro k M A hk5 hB hF hN hW _
  obtain ⟨k1, k2, k3, k4, k5, k6, _⟩ := BrR_k hB
  have cc := c_range x (nW 0) (nW 5) M
  by_cases hx : inB x (nW 0) (nW 5) = true
  · obtain ⟨i, _, hi, rfl⟩ := inB_nat (by omega) hx (by omega)
    rw [if_pos hx] at cc
    cases hp : (oP A).1 with
    | false =>
      rw [hp, zI_f] at k6
      refine Op_noClient 2 (by omega) hB hW ?_ (fun N V s t hk hR => ?_)
      · simp only [f_X11_packet, k1, ↓reduceIte, nW_lit, cc, bindX, k6, Option.bind_some]
      · have e := hR.2.2.1.1
        rw [hp, zI_f] at e
        simp (disch := omega) only [f_X12_packet, q_k hk, q_gR1 hk, q_gR2 hk, q_gR8 hk, q_gR11 hk, q_gR13 hk, q_gR14 hk, q_gR15 hk, q_gR16 hk, q_gI hk, q_pI hk, q_a hk, q_w hk, q_l hk, nW_lit, r_in, bindP, hx, zI_t, z1n0, ↓reduceIte, Option.bind_some, vI_0o, e, r_fails hk]
        rfl
    | true =>
      rw [hp, zI_t] at k6
      obtain ⟨p1, ⟨g0, g1, g2, g3, g4⟩, y, p2, p3⟩ := hB.2.2.2.1.2
      obtain ⟨sa, t1, t2, _⟩ := TextR_n p3
      have e5 : gR 3 5 6 M = some y := by simp only [gR, p1, ↓reduceIte, p2]
      have q0 : gI 3 0 6 M = some ((oP A).2.2 0) := by simp only [gI, p1, g0, ↓reduceIte]
      have q1 : gI 3 1 6 M = some ((oP A).2.2 1) := by simp only [gI, p1, g1, ↓reduceIte]
      have q2 : gI 3 2 6 M = some ((oP A).2.2 2) := by simp only [gI, p1, g2, ↓reduceIte]
      have q3 : gI 3 3 6 M = some ((oP A).2.2 3) := by simp only [gI, p1, g3, ↓reduceIte]
      have q4 : gI 3 4 6 M = some ((oP A).2.2 4) := by simp only [gI, p1, g4, ↓reduceIte]
      refine Op_tells (if i = 5 then nW (txS (oP A).2.1).length else (oP A).2.2 i) hB hW ?_ (fun N V s t hk hR => ?_)
      · have h6 : i = 0 ∨ i = 1 ∨ i = 2 ∨ i = 3 ∨ i = 4 ∨ i = 5 := by omega
        rcases h6 with rfl | rfl | rfl | rfl | rfl | rfl
        · simp only [f_X11_packet, k1, ↓reduceIte, nW_lit, cc, bindX, k6, z1n0, k4, Option.bind_some, q0]; rfl
        · simp only [f_X11_packet, k1, ↓reduceIte, nW_lit, cc, bindX, k6, z1n0, k4, Option.bind_some, q1]; rfl
        · simp only [f_X11_packet, k1, ↓reduceIte, nW_lit, cc, bindX, k6, z1n0, k4, Option.bind_some, q2, d20, d21]; rfl
        · simp only [f_X11_packet, k1, ↓reduceIte, nW_lit, cc, bindX, k6, z1n0, k4, Option.bind_some, q3, d30, d31, d32]; rfl
        · simp only [f_X11_packet, k1, ↓reduceIte, nW_lit, cc, bindX, k6, z1n0, k4, Option.bind_some, q4, d40, d41, d42, d43]; rfl
        · simp only [f_X11_packet, k1, ↓reduceIte, nW_lit, cc, bindX, k6, z1n0, k4, Option.bind_some, d50, d51, d52, d53, d54, e5, t1, t2]
      · obtain ⟨e, e'⟩ := hR.2.2.1
        obtain ⟨a1, a2, _⟩ := e' hp
        rw [hp, zI_t] at e
        have ev : V.1 11 i = if i = 5 then nW (txS (oP A).2.1).length else (oP A).2.2 i := by
          by_cases h5 : i = 5
          · rw [if_pos h5, h5]; exact a2
          · rw [if_neg h5]; exact a1 i (by omega)
        rw [← ev]
        have e11 := q_gR15' (N := N) (V := vI V 0 0 (nW 0)) (s := s) (t := t) hk (i := i) (by omega)
        simp (disch := omega) only [f_X12_packet, q_k hk, q_gR1 hk, q_gR2 hk, q_gR8 hk, q_gR11 hk, q_gR13 hk, q_gR14 hk, q_gR15 hk, q_gR16 hk, q_gI hk, q_pI hk, q_a hk, q_w hk, q_l hk, nW_lit, r_in, bindP, hx, zI_t, z1n0, ↓reduceIte, Option.bind_some, vI_0o, e, e11, vI_o]
  · have hx0 : inB x (nW 0) (nW 5) = false := by simpa using hx
    rw [if_neg hx] at cc
    refine Op_noClient 1 (by omega) hB hW ?_ (fun N V s t hk hR => ?_)
    · simp only [f_X11_packet, k1, ↓reduceIte, nW_lit, cc, bindX]
    · simp (disch := omega) only [f_X12_packet, q_k hk, q_gR1 hk, q_gR2 hk, q_gR8 hk, q_gR11 hk, q_gR13 hk, q_gR14 hk, q_gR15 hk, q_gR16 hk, q_gI hk, q_pI hk, q_a hk, q_w hk, q_l hk, nW_lit, r_in, bindP, hx0, zI_f, ↓reduceIte, Option.bind_some, r_fails hk]
      rfl
theorem Op_topicCharacter (x : Int32) : OpOK (cdB 2 3) (f_X11_topicCharacter 0 x) (f_X12_topicCharacter 908 x) := by
  intro k M A hk5 hB hF hN hW _
  obtain ⟨k1, k2, k3, k4, k5, k6, _⟩ := BrR_k hB
  cases hp : (oP A).1 with
  | false =>
    rw [hp, zI_f] at k6
    refine Op_noClient 2 (by omega) hB hW ?_ (fun N V s t hk hR => ?_)
    · simp only [f_X11_topicCharacter, k1, ↓reduceIte, nW_lit, k6, Option.bind_some]
    · have e := hR.2.2.1.1
      rw [hp, zI_f] at e
      simp (disch := omega) only [f_X12_topicCharacter, q_k hk, q_gR1 hk, q_gR2 hk, q_gR8 hk, q_gR11 hk, q_gR13 hk, q_gR14 hk, q_gR15 hk, q_gR16 hk, q_gI hk, q_pI hk, q_a hk, q_w hk, q_l hk, nW_lit, bindP, ↓reduceIte, Option.bind_some, vI_0o, e, r_fails hk]
      rfl
  | true =>
    rw [hp, zI_t] at k6
    obtain ⟨p1, _, y, p2, p3⟩ := hB.2.2.2.1.2
    obtain ⟨sa, t1, t2, _, t3, t4⟩ := TextR_n p3
    have e5 : gR 3 5 6 M = some y := by simp only [gR, p1, ↓reduceIte, p2]
    have RR : ∀ N V s t, KR N → RfR V s t A → V.1 0 17 = nW 1 ∧ V.1 11 5 = nW (txS (oP A).2.1).length ∧ TB (V.2.1 12) 0 (oP A).2.1 := fun N V s t hk hR => by
      obtain ⟨e, e'⟩ := hR.2.2.1
      obtain ⟨a1, a2, a3⟩ := e' hp
      rw [hp, zI_t] at e
      exact ⟨e, a2, a3⟩
    rcases idx (x := x) (show (txS (oP A).2.1).length < 100000 by omega) with ⟨j, hj, rfl, hi⟩ | ⟨hi, hn⟩
    · have n0 : ¬ nW j < nW 0 := by rw [nW_lt (by omega) (by omega)]; omega
      have n1 : nW j < nW (txS (oP A).2.1).length := by rw [nW_lt (by omega) (by omega)]; omega
      refine Op_tells (nW ((txS (oP A).2.1).getD j 0)) hB hW ?_ (fun N V s t hk hR => ?_)
      · simp only [f_X11_topicCharacter, k1, ↓reduceIte, nW_lit, k6, z1n0, k4, e5, t1, n0, t2, n1, t3 j hj, Option.bind_some]
      · obtain ⟨a1, a2, a3⟩ := RR N V s t hk hR
        have e11 := q_gR15' (N := N) (V := vI V 0 0 (nW 0)) (s := s) (t := t) hk (i := 5) (by omega)
        have hL : LB (QW N (vI V 0 0 (nW 0)) s t) 920 0 (oP A).2.1 := LB_of (V := VS (vI V 0 0 (nW 0)) s t) hk (k := 12) (by omega) rfl (by omega) (by omega) a3
        have ec := ref_characterOf hL p3.1 hW.2.2 hj
        simp (disch := omega) only [f_X12_topicCharacter, q_k hk, q_gR1 hk, q_gR2 hk, q_gR8 hk, q_gR11 hk, q_gR13 hk, q_gR14 hk, q_gR15 hk, q_gR16 hk, q_gI hk, q_pI hk, q_a hk, q_w hk, q_l hk, nW_lit, r_in, bindP, z1n0, ↓reduceIte, Option.bind_some, vI_0o, a1, e11, vI_o, a2]
        rw [hi, zI_t, if_neg z1n0]
        simp only [ec]
    · refine Op_noClient 3 (by omega) hB hW ?_ (fun N V s t hk hR => ?_)
      · rcases hn with h | ⟨h, h'⟩
        · simp only [f_X11_topicCharacter, f_X11_topicCharacter_J36, k1, ↓reduceIte, nW_lit, k6, z1n0, k4, e5, t1, h, Option.bind_some]
        · have h'' : ¬ x < nW (txS (oP A).2.1).length := Int32.not_lt.mpr h'
          simp only [f_X11_topicCharacter, f_X11_topicCharacter_J36, k1, ↓reduceIte, nW_lit, k6, z1n0, k4, e5, t1, h, t2, h'', Option.bind_some]
      · obtain ⟨a1, a2, a3⟩ := RR N V s t hk hR
        have e11 := q_gR15' (N := N) (V := vI V 0 0 (nW 0)) (s := s) (t := t) hk (i := 5) (by omega)
        simp (disch := omega) only [f_X12_topicCharacter, q_k hk, q_gR1 hk, q_gR2 hk, q_gR8 hk, q_gR11 hk, q_gR13 hk, q_gR14 hk, q_gR15 hk, q_gR16 hk, q_gI hk, q_pI hk, q_a hk, q_w hk, q_l hk, nW_lit, r_in, bindP, z1n0, ↓reduceIte, Option.bind_some, vI_0o, a1, e11, vI_o, a2]
        rw [hi, zI_f, if_pos rfl]
        simp only [r_fails hk]
        rfl
theorem Op_retained (x y : Int32) : OpOK (cdB 3 1) (f_X11_retained 0 x y) (f_X12_retained 908 x y) := by
  intro k M A hk5 hB hF hN hW _
  obtain ⟨k1, k2, k3, k4, k5, k6, _⟩ := BrR_k hB
  obtain ⟨_, _, _, e4, _, _, e5, _⟩ := StR_k hB.2.2.2.2.2.2
  have hRe := hB.2.2.2.2.2.2.2.2.2.1
  have l8 : (gRe (oS A)).1 ≤ 8 := hRe.2.1
  have gn : aN (8 + 435) M = some (nW 8) := by
    obtain ⟨_, _, p, hp, _⟩ := hRe
    simp only [aN, hp.1]; rfl
  rcases idx (x := x) (show (gRe (oS A)).1 < 100000 by omega) with ⟨j, hj, rfl, hi⟩ | ⟨hi, hn⟩
  · obtain ⟨a, ga, hra, hm⟩ := RetR_at hRe hj
    obtain ⟨yt, gt, ht⟩ := MsR_top hm
    obtain ⟨m1, ⟨g1, g2, g3, g4, g5, g6⟩, _⟩ := hm
    obtain ⟨sa, t1, t2, _⟩ := TextR_n ht
    have q1 : gI 1 1 a M = some (((gRe (oS A)).2 j).2 1) := by simp only [gI, m1, g1, ↓reduceIte]
    have q2 : gI 1 2 a M = some (((gRe (oS A)).2 j).2 2) := by simp only [gI, m1, g2, ↓reduceIte]
    have n0 : ¬ nW j < nW 0 := by rw [nW_lt (by omega) (by omega)]; omega
    have n1 : ¬ nW (gRe (oS A)).1 ≤ nW j := by rw [nW_le (by omega) (by omega)]; omega
    have n5 : nW j < nW 8 := by rw [nW_lt (by omega) (by omega)]; omega
    have base : ∀ f, f_X11_retained 0 (nW j) f M = (if f = nW 0 then some (.inl (((gRe (oS A)).2 j).2 1), M) else if f = nW 1 then some (.inl (((gRe (oS A)).2 j).2 2), M) else if f = nW 2 then some (.inl (nW (txS ((gRe (oS A)).2 j).1).length), M) else some (.inr 1, xM M)) := fun f => by
      simp only [f_X11_retained, k1, ↓reduceIte, k2, e4, e5, nW_lit, Option.bind_some, n0, n1, gn, n5, ga, q1, q2, gt, t1, t2]
    have R1 : ∀ N V s t, KR N → RfR V s t A → s 15 = nW (gRe (oS A)).1 ∧ s (1778 + j) = ((gRe (oS A)).2 j).2 1 ∧ s (1786 + j) = ((gRe (oS A)).2 j).2 2 ∧ TB t (1224 + 4 * j) ((gRe (oS A)).2 j).1 := fun N V s t hk hR => by
      have := hR.2.2.2.2.2.1.2.2.1
      exact ⟨this.1, this.2 j hj⟩
    rcases w5 y with rfl | rfl | rfl | rfl | rfl | ⟨y0, y1, y2, y3, y4⟩
    · refine Op_tells _ hB hW ((base _).trans (if_pos rfl)) (fun N V s t hk hR => ?_)
      obtain ⟨b1, b2, b3, b4⟩ := R1 N V s t hk hR
      simp (disch := omega) only [f_X12_retained, q_k hk, q_gR1 hk, q_gR2 hk, q_gR8 hk, q_gR11 hk, q_gR13 hk, q_gR14 hk, q_gR15 hk, q_gR16 hk, q_gI hk, q_pI hk, q_a hk, q_w hk, q_l hk, nW_add, nW_mul, nW_le, nW_lt, irem_nW, ix_nW, nW_lit, r_in, bindP, ↓reduceIte, Option.bind_some, b1, b2]
      rw [hi, zI_t, if_neg z1n0]
    · refine Op_tells _ hB hW ((base _).trans (by rw [if_neg d10, if_pos rfl])) (fun N V s t hk hR => ?_)
      obtain ⟨b1, b2, b3, b4⟩ := R1 N V s t hk hR
      simp (disch := omega) only [f_X12_retained, q_k hk, q_gR1 hk, q_gR2 hk, q_gR8 hk, q_gR11 hk, q_gR13 hk, q_gR14 hk, q_gR15 hk, q_gR16 hk, q_gI hk, q_pI hk, q_a hk, q_w hk, q_l hk, nW_add, nW_mul, nW_le, nW_lt, irem_nW, ix_nW, nW_lit, r_in, bindP, ↓reduceIte, Option.bind_some, b1, b3, z1n0]
      rw [hi, zI_t, if_neg z1n0]
    · refine Op_tells _ hB hW ((base _).trans (by rw [if_neg d20, if_neg d21, if_pos rfl])) (fun N V s t hk hR => ?_)
      obtain ⟨b1, b2, b3, b4⟩ := R1 N V s t hk hR
      have hok := hW.1.1.2.2.2.2.1 j hj
      have hL : LB (QW N (vI V 0 0 (nW 0)) s t) 910 (1224 + 4 * j) ((gRe (oS A)).2 j).1 := LB_of (V := VS (vI V 0 0 (nW 0)) s t) hk (k := 2) (by omega) rfl (by omega) (by omega) b4
      have el := ref_lengthOf hL hok.1 hok.2.1
      simp (disch := omega) only [f_X12_retained, q_k hk, q_gR1 hk, q_gR2 hk, q_gR8 hk, q_gR11 hk, q_gR13 hk, q_gR14 hk, q_gR15 hk, q_gR16 hk, q_gI hk, q_pI hk, q_a hk, q_w hk, q_l hk, nW_add, nW_mul, nW_le, nW_lt, irem_nW, ix_nW, nW_lit, r_in, bindP, ↓reduceIte, Option.bind_some, b1, d20, d21]
      rw [hi, zI_t, if_neg z1n0]
      simp only [el]
    · refine Op_noClient 1 (by omega) hB hW ((base _).trans (by rw [if_neg d30, if_neg d31, if_neg d32])) (fun N V s t hk hR => ?_)
      obtain ⟨b1, b2, b3, b4⟩ := R1 N V s t hk hR
      simp (disch := omega) only [f_X12_retained, q_k hk, q_gR1 hk, q_gR2 hk, q_gR8 hk, q_gR11 hk, q_gR13 hk, q_gR14 hk, q_gR15 hk, q_gR16 hk, q_gI hk, q_pI hk, q_a hk, q_w hk, q_l hk, nW_add, nW_mul, nW_le, nW_lt, irem_nW, ix_nW, nW_lit, r_in, bindP, ↓reduceIte, Option.bind_some, b1, d30, d31, d32, r_fails hk]
      rw [hi, zI_t, if_neg z1n0]; rfl
    · refine Op_noClient 1 (by omega) hB hW ((base _).trans (by rw [if_neg d40, if_neg d41, if_neg d42])) (fun N V s t hk hR => ?_)
      obtain ⟨b1, b2, b3, b4⟩ := R1 N V s t hk hR
      simp (disch := omega) only [f_X12_retained, q_k hk, q_gR1 hk, q_gR2 hk, q_gR8 hk, q_gR11 hk, q_gR13 hk, q_gR14 hk, q_gR15 hk, q_gR16 hk, q_gI hk, q_pI hk, q_a hk, q_w hk, q_l hk, nW_add, nW_mul, nW_le, nW_lt, irem_nW, ix_nW, nW_lit, r_in, bindP, ↓reduceIte, Option.bind_some, b1, d40, d41, d42, r_fails hk]
      rw [hi, zI_t, if_neg z1n0]; rfl
    · refine Op_noClient 1 (by omega) hB hW ((base _).trans (by rw [if_neg y0, if_neg y1, if_neg y2])) (fun N V s t hk hR => ?_)
      obtain ⟨b1, b2, b3, b4⟩ := R1 N V s t hk hR
      simp (disch := omega) only [f_X12_retained, q_k hk, q_gR1 hk, q_gR2 hk, q_gR8 hk, q_gR11 hk, q_gR13 hk, q_gR14 hk, q_gR15 hk, q_gR16 hk, q_gI hk, q_pI hk, q_a hk, q_w hk, q_l hk, nW_add, nW_mul, nW_le, nW_lt, irem_nW, ix_nW, nW_lit, r_in, bindP, ↓reduceIte, Option.bind_some, b1, y0, y1, y2, r_fails hk]
      rw [hi, zI_t, if_neg z1n0]; rfl
  · refine Op_noClient 3 (by omega) hB hW ?_ (fun N V s t hk hR => ?_)
    · rcases hn with h | ⟨h, h'⟩
      · simp only [f_X11_retained, f_X11_retained_J27, k1, ↓reduceIte, nW_lit, h]
      · simp only [f_X11_retained, f_X11_retained_J27, k1, ↓reduceIte, k2, e4, e5, nW_lit, Option.bind_some, h, h']
    · have b1 := hR.2.2.2.2.2.1.2.2.1.1
      simp (disch := omega) only [f_X12_retained, q_k hk, q_gR1 hk, q_gR2 hk, q_gR8 hk, q_gR11 hk, q_gR13 hk, q_gR14 hk, q_gR15 hk, q_gR16 hk, q_gI hk, q_pI hk, q_a hk, q_w hk, q_l hk, nW_add, nW_mul, nW_le, nW_lt, irem_nW, ix_nW, nW_lit, r_in, bindP, ↓reduceIte, Option.bind_some, b1, r_fails hk]
      rw [hi, zI_f, if_pos rfl]; rfl
