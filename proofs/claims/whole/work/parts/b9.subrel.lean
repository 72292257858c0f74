/-! SUBSCRIPTIONS ASKED FOR -/
theorem c_sub {M : Mem} {A : Wh} (h : BrR M A) {c : Nat} (hc : c < 6) (x : Int32) : f_X11_requireSubscription 0 (nW c) x M = if inB x (nW 0) (nW (cL (gCl (oS A) c) 3).1 - nW 1) = true then some (.inl (), M) else some (.inr 3, xM M) := by
  obtain ⟨k1, k2, _⟩ := BrR_k h
  obtain ⟨r1, r2, r3, r4, r5⟩ := BrR_c h hc
  obtain ⟨s0, s1, s5, s7, s6, s8, s9⟩ := BrR_s h hc
  have hSu := (h.2.2.2.2.2.2.2.1 c hc).2.2.2.2.2.1
  have l6 := hSu.1
  have gn : aN (8 + 2 + 60 * c + 34 + 2) M = some (nW 6) := by
    obtain ⟨_, p, hp, _⟩ := hSu
    have := hp.1
    simp only [aN, this]; rfl
  rcases idx (x := x) (show (cL (gCl (oS A) c) 3).1 < 100000 by omega) with ⟨j, hj, rfl, hi⟩ | ⟨hi, hn⟩
  · have n0 : ¬ nW j < nW 0 := by rw [nW_lt (by omega) (by omega)]; omega
    have n1 : ¬ nW (cL (gCl (oS A) c) 3).1 ≤ nW j := by rw [nW_le (by omega) (by omega)]; omega
    have n5 : nW j < nW 6 := by rw [nW_lt (by omega) (by omega)]; omega
    rw [hi, if_pos rfl]
    simp only [f_X11_requireSubscription, k1, ↓reduceIte, k2, r1, r2, r4, nW_lit, n0, s7, n1, s6, gn, n5, Option.bind_some]
  · rw [hi, if_neg (by decide)]
    rcases hn with h | ⟨h, h'⟩
    · simp only [f_X11_requireSubscription, f_X11_requireSubscription_J34, k1, ↓reduceIte, k2, r1, r2, r4, nW_lit, h, Option.bind_some]
    · simp only [f_X11_requireSubscription, f_X11_requireSubscription_J34, k1, ↓reduceIte, k2, r1, r2, r4, nW_lit, h, s7, h', Option.bind_some]
theorem r_isSub {N : Mem} {V : VR} {s : Nat → Int32} {t : Nat → Int64} {A : Wh} (hk : KR N) (h : RfR V s t A) {c : Nat} (hc : c < 6) (x : Int32) (V' : VR) : f_X12_isSubscription 908 (nW c) x (QW N V' s t) = some (zI (inB x (nW 0) (nW (cL (gCl (oS A) c) 3).1 - nW 1)), QW N V' s t) := by
  have hb := inB_of (k := c) (a := 0) (b := 5) (by omega) (by omega) (by omega)
  have a3 := (h.2.2.2.2.2.1.2.1 c hc).2.1.2.2.1
  simp (disch := omega) only [f_X12_isSubscription, q_k hk, q_gR1 hk, q_gR2 hk, q_gR8 hk, q_gR11 hk, q_gR13 hk, q_gR14 hk, q_gR15 hk, q_gR16 hk, q_gI hk, q_pI hk, q_a hk, q_w hk, q_l hk, nW_add, nW_lit, ↓reduceIte, r_client, bindP, hb, zI_t, z1n0, Option.bind_some, a3, r_in]
  cases inB x (nW 0) (nW (cL (gCl (oS A) c) 3).1 - nW 1)
  · simp only [zI_f, ↓reduceIte]; exact okZ_0 _
  · simp only [zI_t, z1n0, ↓reduceIte]; exact okZ_1 _
theorem r_isSub0 {N : Mem} {V : VR} {s : Nat → Int32} {t : Nat → Int64} (hk : KR N) {x : Int32} (hx : inB x (nW 0) (nW 5) = false) (y : Int32) : f_X12_isSubscription 908 x y (QW N V s t) = some (nW 0, QW N V s t) := by
  simp (disch := omega) only [f_X12_isSubscription, q_k hk, q_gR1 hk, q_gR2 hk, q_gR8 hk, q_gR11 hk, q_gR13 hk, q_gR14 hk, q_gR15 hk, q_gR16 hk, q_gI hk, q_pI hk, q_a hk, q_w hk, q_l hk, nW_lit, ↓reduceIte, r_client, bindP, hx, zI_f, okZ_0]
theorem c_subRow {M : Mem} {A : Wh} (h : BrR M A) {c j : Nat} (hc : c < 6) (hj : j < (cL (gCl (oS A) c) 3).1) : ∃ p y, aR 22 (8 + 2 + 60 * c + 34 + 2) (nW j) M = some p ∧ gI 8 1 p M = some (((cL (gCl (oS A) c) 3).2 j).2 1) ∧ gI 8 2 p M = some (((cL (gCl (oS A) c) 3).2 j).2 2) ∧ gI 8 3 p M = some (((cL (gCl (oS A) c) 3).2 j).2 3) ∧ gR 8 0 p M = some y ∧ TextR M y ((cL (gCl (oS A) c) 3).2 j).1 := by
  have hSu := (h.2.2.2.2.2.2.2.1 c hc).2.2.2.2.2.1
  obtain ⟨p, e, _, hp⟩ := SubsR_at hSu hj
  obtain ⟨g1, g2, g3, y, gy, hy⟩ := SuR_get hp
  exact ⟨p, y, e, g1, g2, g3, gy, hy⟩
theorem Op_subscription (x i y : Int32) : OpOK (cdB 3 1) (f_X11_subscription 0 x i y) (f_X12_subscription 908 x i y) := by
  intro k M A hk5 hB hF hN hW _
  obtain ⟨k1, k2, _⟩ := BrR_k hB
  by_cases hx : inB x (nW 0) (nW 5) = true
  · obtain ⟨c, _, hc, rfl⟩ := inB_nat (by omega) hx (by omega)
    have hc6 : c < 6 := by omega
    obtain ⟨r1, r2, r3, r4, r5⟩ := BrR_c hB hc6
    obtain ⟨s0, s1, s5, s7, s6, s8, s9⟩ := BrR_s hB hc6
    have cc := c_client (nW c) M
    rw [if_pos hx] at cc
    have cs := c_sub hB hc6 i
    have l6 : (cL (gCl (oS A) c) 3).1 ≤ 6 := (hB.2.2.2.2.2.2.2.1 c hc6).2.2.2.2.2.1.1
    rcases idx (x := i) (show (cL (gCl (oS A) c) 3).1 < 100000 by omega) with ⟨j, hj, rfl, hi⟩ | ⟨hi, hn⟩
    · rw [hi, if_pos rfl] at cs
      obtain ⟨p, q, ep, g1, g2, g3, gy, hy⟩ := c_subRow hB hc6 hj
      obtain ⟨sa, t1, t2, t3, _⟩ := TextR_n hy
      have base : ∀ f, f_X11_subscription 0 (nW c) (nW j) f M = (if f = nW 0 then some (.inl (((cL (gCl (oS A) c) 3).2 j).2 2), M) else if f = nW 1 then some (.inl (((cL (gCl (oS A) c) 3).2 j).2 1), M) else if f = nW 2 then some (.inl (((cL (gCl (oS A) c) 3).2 j).2 3), M) else if f = nW 3 then some (.inl (nW ((cL (gCl (oS A) c) 3).2 j).1.length), M) else some (.inr 1, xM M)) := fun f => by
        simp only [f_X11_subscription, k1, ↓reduceIte, cc, cs, bindX, k2, r1, r2, r4, s6, ep, nW_lit, Option.bind_some, g1, g2, g3, gy, t3]
      have R1 : ∀ N V s t, KR N → RfR V s t A → R_su s t c (cL (gCl (oS A) c) 3) := fun N V s t hk hR => (hR.2.2.2.2.2.1.2.1 c hc6).2.2.2.2.2.1
      have rs : ∀ N V s t, KR N → RfR V s t A → f_X12_isSubscription 908 (nW c) (nW j) (QW N (vI V 0 0 (nW 0)) s t) = some (nW 1, QW N (vI V 0 0 (nW 0)) s t) := fun N V s t hk hR => by
        have := r_isSub (N := N) hk hR hc6 (nW j) (vI V 0 0 (nW 0))
        rw [hi, zI_t] at this; exact this
      have bad : ¬ y = nW 0 → ¬ y = nW 1 → ¬ y = nW 2 → ¬ y = nW 3 → inB y (nW 0) (nW 3) = false := fun y0 y1 y2 y3 => by
        cases hb : inB y (nW 0) (nW 3) with
        | false => rfl
        | true =>
          obtain ⟨q, _, hq, rfl⟩ := inB_nat (by omega) hb (by omega)
          have : q = 0 ∨ q = 1 ∨ q = 2 ∨ q = 3 := by omega
          rcases this with rfl | rfl | rfl | rfl
          · exact absurd rfl y0
          · exact absurd rfl y1
          · exact absurd rfl y2
          · exact absurd rfl y3
      have good : ∀ f : Nat, f ≤ 3 → ∀ N V s t, KR N → RfR V s t A → f_X12_subscription 908 (nW c) (nW j) (nW f) (QW N V s t) = some (s (410 + 36 * f + 6 * c + j), QW N (vI V 0 0 (nW 0)) s t) := fun f hf N V s t hk hR => by
        have hb := inB_of (k := f) (a := 0) (b := 3) (by omega) (by omega) hf
        simp (disch := omega) only [f_X12_subscription, q_k hk, q_gR1 hk, q_gR2 hk, q_gR8 hk, q_gR11 hk, q_gR13 hk, q_gR14 hk, q_gR15 hk, q_gR16 hk, q_gI hk, q_pI hk, q_a hk, q_w hk, q_l hk, nW_mul, nW_add, nW_lit, rs N V s t hk hR, bindP, r_in, hb, zI_t, z1n0, ↓reduceIte, Option.bind_some]
      rcases w5 y with rfl | rfl | rfl | rfl | rfl | ⟨y0, y1, y2, y3, y4⟩
      · refine Op_tells _ hB hW ((base _).trans (if_pos rfl)) (fun N V s t hk hR => ?_)
        have x1 := (R1 N V s t hk hR j hj).1
        rw [good 0 (by omega) N V s t hk hR, show 410 + 36 * 0 + 6 * c + j = 410 + (6 * c + j) by omega, x1]
      · refine Op_tells _ hB hW ((base _).trans (by rw [if_neg d10, if_pos rfl])) (fun N V s t hk hR => ?_)
        have x1 := (R1 N V s t hk hR j hj).2.1
        rw [good 1 (by omega) N V s t hk hR, show 410 + 36 * 1 + 6 * c + j = 446 + (6 * c + j) by omega, x1]
      · refine Op_tells _ hB hW ((base _).trans (by rw [if_neg d20, if_neg d21, if_pos rfl])) (fun N V s t hk hR => ?_)
        have x1 := (R1 N V s t hk hR j hj).2.2.1
        rw [good 2 (by omega) N V s t hk hR, show 410 + 36 * 2 + 6 * c + j = 482 + (6 * c + j) by omega, x1]
      · refine Op_tells _ hB hW ((base _).trans (by rw [if_neg d30, if_neg d31, if_neg d32, if_pos rfl])) (fun N V s t hk hR => ?_)
        have x1 := (R1 N V s t hk hR j hj).2.2.2.1
        rw [good 3 (by omega) N V s t hk hR, show 410 + 36 * 3 + 6 * c + j = 518 + (6 * c + j) by omega, x1]
      · refine Op_noClient 1 (by omega) hB hW ((base _).trans (by rw [if_neg d40, if_neg d41, if_neg d42, if_neg d43])) (fun N V s t hk hR => ?_)
        have hb := bad d40 d41 d42 d43
        simp (disch := omega) only [f_X12_subscription, q_k hk, q_gR1 hk, q_gR2 hk, q_gR8 hk, q_gR11 hk, q_gR13 hk, q_gR14 hk, q_gR15 hk, q_gR16 hk, q_gI hk, q_pI hk, q_a hk, q_w hk, q_l hk, nW_lit, rs N V s t hk hR, bindP, r_in, hb, zI_f, z1n0, ↓reduceIte, Option.bind_some, r_fails hk]
        rfl
      · refine Op_noClient 1 (by omega) hB hW ((base _).trans (by rw [if_neg y0, if_neg y1, if_neg y2, if_neg y3])) (fun N V s t hk hR => ?_)
        have hb := bad y0 y1 y2 y3
        simp (disch := omega) only [f_X12_subscription, q_k hk, q_gR1 hk, q_gR2 hk, q_gR8 hk, q_gR11 hk, q_gR13 hk, q_gR14 hk, q_gR15 hk, q_gR16 hk, q_gI hk, q_pI hk, q_a hk, q_w hk, q_l hk, nW_lit, rs N V s t hk hR, bindP, r_in, hb, zI_f, z1n0, ↓reduceIte, Option.bind_some, r_fails hk]
        rfl
    · rw [hi, if_neg (by decide)] at cs
      refine Op_noClient 3 (by omega) hB hW ?_ (fun N V s t hk hR => ?_)
      · simp only [f_X11_subscription, k1, ↓reduceIte, cc, cs, bindX]
      · have rs := r_isSub (N := N) hk hR hc6 i (vI V 0 0 (nW 0))
        rw [hi, zI_f] at rs
        simp (disch := omega) only [f_X12_subscription, q_k hk, q_gR1 hk, q_gR2 hk, q_gR8 hk, q_gR11 hk, q_gR13 hk, q_gR14 hk, q_gR15 hk, q_gR16 hk, q_gI hk, q_pI hk, q_a hk, q_w hk, q_l hk, nW_lit, rs, bindP, ↓reduceIte, Option.bind_some, r_fails hk]
        rfl
  · have hx0 : inB x (nW 0) (nW 5) = false := by simpa using hx
    have cc := c_client x M
    rw [if_neg hx] at cc
    refine Op_noClient 3 (by omega) hB hW ?_ (fun N V s t hk hR => ?_)
    · simp only [f_X11_subscription, k1, ↓reduceIte, cc, bindX]
    · simp (disch := omega) only [f_X12_subscription, q_k hk, q_gR1 hk, q_gR2 hk, q_gR8 hk, q_gR11 hk, q_gR13 hk, q_gR14 hk, q_gR15 hk, q_gR16 hk, q_gI hk, q_pI hk, q_a hk, q_w hk, q_l hk, nW_lit, r_isSub0 hk hx0, bindP, ↓reduceIte, Option.bind_some, r_fails hk]
      rfl
def relV (x y : Txt) : Int32 := if spMeets x y = true then (if spCovers x y = true then (if spCovers y x = true then nW 7 else nW 3) else (if spCovers y x = true then nW 5 else nW 1)) else nW 0
theorem Op_relation (x i j : Int32) : OpOK (cdA 3) (f_X11_relation 0 x i j) (f_X12_relation 908 x i j) := by
  intro k M A hk5 hB hF hN hW _
  obtain ⟨k1, k2, _⟩ := BrR_k hB
  by_cases hx : inB x (nW 0) (nW 5) = true
  · obtain ⟨c, _, hc, rfl⟩ := inB_nat (by omega) hx (by omega)
    have hc6 : c < 6 := by omega
    obtain ⟨r1, r2, r3, r4, r5⟩ := BrR_c hB hc6
    obtain ⟨s0, s1, s5, s7, s6, s8, s9⟩ := BrR_s hB hc6
    have cc := c_client (nW c) M
    rw [if_pos hx] at cc
    have cs := c_sub hB hc6 i
    have cs' := c_sub hB hc6 j
    have l6 : (cL (gCl (oS A) c) 3).1 ≤ 6 := (hB.2.2.2.2.2.2.2.1 c hc6).2.2.2.2.2.1.1
    rcases idx (x := i) (show (cL (gCl (oS A) c) 3).1 < 100000 by omega) with ⟨a, ha, rfl, hi⟩ | ⟨hi, hn⟩
    · rw [hi, if_pos rfl] at cs
      rcases idx (x := j) (show (cL (gCl (oS A) c) 3).1 < 100000 by omega) with ⟨b, hb, rfl, hj⟩ | ⟨hj, hn⟩
      · rw [hj, if_pos rfl] at cs'
        obtain ⟨p, y, ep, _, _, _, gy, hy⟩ := c_subRow hB hc6 ha
        obtain ⟨p', y', ep', _, _, _, gy', hy'⟩ := c_subRow hB hc6 hb
        have RS : ∀ N V s t, KR N → RfR V s t A → ∀ q, q < (cL (gCl (oS A) c) 3).1 → RSu s t (6 * c + q) ((cL (gCl (oS A) c) 3).2 q).1 := fun N V s t hk hR q hq => by
          obtain ⟨z1, z2, z3, z4, z5⟩ := (hR.2.2.2.2.2.1.2.1 c hc6).2.2.2.2.2.1 q hq
          exact ⟨by omega, z4, z5, (hW.1.1.2.1 c hc6).1 q hq |>.1, hW.1.2.2.2.1 c hc6 q hq⟩
        refine Op_tells (relV ((cL (gCl (oS A) c) 3).2 a).1 ((cL (gCl (oS A) c) 3).2 b).1) hB hW ?_ (fun N V s t hk hR => ?_)
        · simp only [f_X11_relation, k1, ↓reduceIte, cc, cs, cs', bindX, k2, r1, r2, r4, s6, ep, gy, ep', gy', Option.bind_some, X10_meets hy hy', X10_covers hy hy', bindP, nW_lit, f_X11_relation_J79, X10_covers hy' hy, zI_eq0, nW_add, relV]
          cases spMeets ((cL (gCl (oS A) c) 3).2 a).1 ((cL (gCl (oS A) c) 3).2 b).1 <;> cases spCovers ((cL (gCl (oS A) c) 3).2 a).1 ((cL (gCl (oS A) c) 3).2 b).1 <;> cases spCovers ((cL (gCl (oS A) c) 3).2 b).1 ((cL (gCl (oS A) c) 3).2 a).1 <;> rfl
        · have e1 := r_isSub (N := N) hk hR hc6 (nW a) (vI V 0 0 (nW 0))
          have e2 := r_isSub (N := N) hk hR hc6 (nW b) (vI V 0 0 (nW 0))
          rw [hi, zI_t] at e1
          rw [hj, zI_t] at e2
          have Ra := RS N V s t hk hR a ha
          have Rb := RS N V s t hk hR b hb
          simp (disch := omega) only [f_X12_relation, q_k hk, q_gR1 hk, q_gR2 hk, q_gR8 hk, q_gR11 hk, q_gR13 hk, q_gR14 hk, q_gR15 hk, q_gR16 hk, q_gI hk, q_pI hk, q_a hk, q_w hk, q_l hk, nW_mul, nW_lit, e1, e2, bindP, z1n0, ↓reduceIte, Option.bind_some, nW_add, ref_areMeeting hk Ra Rb, ref_isOver hk Ra Rb, ref_isOver hk Rb Ra, zI_eq0, f_X12_relation_J73, relV]
          cases spMeets ((cL (gCl (oS A) c) 3).2 a).1 ((cL (gCl (oS A) c) 3).2 b).1 <;> cases spCovers ((cL (gCl (oS A) c) 3).2 a).1 ((cL (gCl (oS A) c) 3).2 b).1 <;> cases spCovers ((cL (gCl (oS A) c) 3).2 b).1 ((cL (gCl (oS A) c) 3).2 a).1 <;> rfl
      · rw [hj, if_neg (by decide)] at cs'
        refine Op_noClient 3 (by omega) hB hW ?_ (fun N V s t hk hR => ?_)
        · simp only [f_X11_relation, k1, ↓reduceIte, cc, cs, cs', bindX]
        · have e1 := r_isSub (N := N) hk hR hc6 (nW a) (vI V 0 0 (nW 0))
          have e2 := r_isSub (N := N) hk hR hc6 j (vI V 0 0 (nW 0))
          rw [hi, zI_t] at e1
          rw [hj, zI_f] at e2
          simp (disch := omega) only [f_X12_relation, f_X12_relation_J23, q_k hk, q_gR1 hk, q_gR2 hk, q_gR8 hk, q_gR11 hk, q_gR13 hk, q_gR14 hk, q_gR15 hk, q_gR16 hk, q_gI hk, q_pI hk, q_a hk, q_w hk, q_l hk, nW_lit, e1, e2, bindP, z1n0, ↓reduceIte, Option.bind_some, r_fails hk]
          rfl
    · rw [hi, if_neg (by decide)] at cs
      refine Op_noClient 3 (by omega) hB hW ?_ (fun N V s t hk hR => ?_)
      · simp only [f_X11_relation, k1, ↓reduceIte, cc, cs, bindX]
      · have e1 := r_isSub (N := N) hk hR hc6 i (vI V 0 0 (nW 0))
        rw [hi, zI_f] at e1
        simp (disch := omega) only [f_X12_relation, f_X12_relation_J23, q_k hk, q_gR1 hk, q_gR2 hk, q_gR8 hk, q_gR11 hk, q_gR13 hk, q_gR14 hk, q_gR15 hk, q_gR16 hk, q_gI hk, q_pI hk, q_a hk, q_w hk, q_l hk, nW_lit, e1, bindP, ↓reduceIte, Option.bind_some, r_fails hk]
        rfl
  · have hx0 : inB x (nW 0) (nW 5) = false := by simpa using hx
    have cc := c_client x M
    rw [if_neg hx] at cc
    refine Op_noClient 3 (by omega) hB hW ?_ (fun N V s t hk hR => ?_)
    · simp only [f_X11_relation, k1, ↓reduceIte, cc, bindX]
    · simp (disch := omega) only [f_X12_relation, f_X12_relation_J23, q_k hk, q_gR1 hk, q_gR2 hk, q_gR8 hk, q_gR11 hk, q_gR13 hk, q_gR14 hk, q_gR15 hk, q_gR16 hk, q_gI hk, q_pI hk, q_a hk, q_w hk, q_l hk, nW_lit, r_isSub0 hk hx0, bindP, ↓reduceIte, Option.bind_some, r_fails hk]
      rfl
