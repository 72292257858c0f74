/-! WHAT MUST BE REFUSED -/
theorem Cq_setOption0 {k n : Nat} {M : Mem} {A : Wh} (h : Jv k n M A) : f_X11_setOption 0 (nW 0) (nW 0) M = some (.inr 1, xM M) := by
  obtain ⟨k1, k2, _⟩ := BrR_k h.1
  have n0 : ¬ nW 0 < nW 0 := by decide
  have n4 : nW 0 < nW 4 := by decide
  have n1 : nW 0 < nW 1 := by decide
  have s0 : stI 0 (nW 0) = some (nW 1) := by decide
  simp only [f_X11_setOption, f_X11_setOption_J38, k1, ↓reduceIte, nW_lit, n0, n4, n1, s0, Option.bind_some]
theorem law_refused {s : Bool × Sg} {k n : Nat} {M : Mem} {A : Wh} (h : Jw s k n M A) (hn : n ≤ 80000) : Rt s k (n + 16) (f_L_areRefused 0 M) := by
  obtain ⟨v, hv⟩ := law_sum (SgP_of h)
  have t4 : ¬ nW 1 = nW 0 := by decide
  have z10 : flN' 1 0 = 0 := by decide
  obtain ⟨tf, htf⟩ := fil_t (show 0 < 27 by omega)
  obtain ⟨tt, htt⟩ := top_t (show 0 < 16 by omega)
  rw [z10] at htt
  have off5 : cB (gCl (oS A) 5) 0 = false := h.1.2.2.2.1.1.2.2.2.2.2
  have e0 := hv s k n M A h rfl
  obtain ⟨M1, e1, J1⟩ := Cq_type h.1 h.2.1 (show 0 < 27 by omega)
  obtain ⟨M2, e2, J2⟩ := Cq_subscribe6 (A := A) J1
  have eA0 : (([], A.2) : Wh) = A := by rw [← h.2.1]
  rw [eA0] at J2
  have W2 : Jw s k (n + 1) M2 A := ⟨J2, h.2⟩
  obtain ⟨M3, e3, J3⟩ := Cq_type W2.1 W2.2.1 (show 0 < 27 by omega)
  obtain ⟨M4, e4, J4⟩ := Cq_publishOff (A := A) (c := 5) (g := 1) (id := 1) (p := 5) true J3 (by omega) htt (by omega) (by omega) ⟨by omega, by omega⟩ (by omega) off5
  have W4 : Jw s k (n + 1 + 4) M4 (eA A) := h.e0 J4
  have e5 := Cq_break6 W4.1
  have e6 := Cq_breakOff W4.x.1 (c := 5) (by omega) off5
  have W6 := W4.x.x
  obtain ⟨M7, e7, J7⟩ := Cq_type W6.1 W6.2.1 (show 0 < 27 by omega)
  obtain ⟨M8, e8, J8⟩ := Cq_subscribe1 (A := eA A) J7 (by omega) htf
  have W8 : Jw s k (n + 1 + 4 + 1 + 1 + 4) M8 (eA A) := h.e0 J8
  have e9 := Cq_answer3 W8.1
  have e10 := Cq_setOption0 W8.x.1
  have e11 := Cq_receive6 W8.x.x.1
  have e12 := Cq_receiveOff W8.x.x.x.1 (c := 5) (by omega) off5
  have W12 := W8.x.x.x.x
  have e13 := hv s _ _ _ _ W12 rfl
  rw [zI_t] at e4
  refine (W12.rt (k := k) (n := n + 16) (by omega) (by omega)).of ?_
  simp only [f_L_areRefused, f_L_areRefused_J68, f_L_areRefused_J141, nW_lit, e0, bindX, e1, bindP, t4, ↓reduceIte, f_L_subscribe, e2, bindH, f_L_send, e3, f_L_publish, e4, x23, x21, f_L_breaks, e5, e6, e7, e8, x13, f_L_answer, e9, f_L_setOption, e10, f_L_receive, e11, e12, a11, e13]
/-! WHAT IS KEPT -/
theorem kept_17 {σ : Sg} {L : Nat} (xs : Nat → Int32) (hL : L ≤ 260) {j : Nat} (hj : j < 7000) {v2 v4 : Int32} (e2 : v2 = gSc σ 14) (hv : Sm σ (f_L_sum 0) v4) : ∀ r i nn k n M A, i + r = 5 → r < nn → k + 6 * r + 6 < 480 → n + 16 * r ≤ 79000 → Jw (true, σ) k n M A → Rt (true, σ) (k + 6 * r + 6) (n + 16 * r) (f_L_isKept_L17 L xs nn (nW j) 0 v2 v4 (nW 1) (nW i) M)
  | r, i, 0, _, _, _, _, _, hn, _, _, _ => absurd hn (by omega)
  | 0, i, nn + 1, k, n, M, A, hi, hn, hk, hN, h => by
    have h1 : nW 5 ≤ nW i := by rw [nW_le (by omega) (by omega)]; omega
    have t4 : ¬ nW 1 = nW 0 := by decide
    have hT := h.2.2.2
    obtain ⟨M1, e3, J1⟩ := Cq_restore h.1 (by rw [hT])
    rw [hT] at e3 J1
    have W1 : Jw (true, σ) k n M1 (pS A σ) := h.s1 J1
    have e4 := hv _ _ _ _ _ W1 rfl
    obtain ⟨M2, σ2, e5, J2⟩ := Cq_advance W1.1 (by omega) (m := 1) (by omega) (by omega)
    rw [show gSc (oS (pS A σ)) 14 = gSc σ 14 from rfl] at e5
    have e3 : f_X11_restore 0 M = some (.inl (gSc σ 14), M1) := e3
    refine ((W1.s1 J2).rt (by omega) (by omega)).of ?_
    rw [f_L_isKept_L17, e2]
    simp only [nW_lit, h1, ↓reduceIte, t4, f_L_restore, e3, bindH, bindP, e4, bindX, e5]
  | r + 1, i, nn + 1, k, n, M, A, hi, hn, hk, hN, h => by
    have h1 : ¬ nW 5 ≤ nW i := by rw [nW_le (by omega) (by omega)]; omega
    obtain ⟨M1, A1, e3, W1⟩ := law_step xs hL h (by omega) (by omega) (j := j + 6 * i + 3) (by omega)
    have ih := kept_17 xs hL hj e2 hv r (i + 1) nn (k + 6) (n + 16) M1 A1 (by omega) (by omega) (by omega) (by omega) W1
    rw [show k + 6 + 6 * r + 6 = k + 6 * (r + 1) + 6 by omega, show n + 16 + 16 * r = n + 16 * (r + 1) by omega] at ih
    refine ih.of ?_
    rw [f_L_isKept_L17]
    simp only [nW_lit, h1, ↓reduceIte, nW_mul, nW_add, e3, bindX, a11]
theorem law_kept {s : Bool × Sg} {k n : Nat} {M : Mem} {A : Wh} {L : Nat} (xs : Nat → Int32) (hL : L ≤ 260) (h : Jw s k n M A) {j : Nat} (hj : j < 7000) (hk : k < 400) (hn : n ≤ 70000) : ∃ s', Rt s' (k + 36) (n + 80) (f_L_isKept L xs (nW j) 0 M) := by
  obtain ⟨v, hv⟩ := law_sum (SgP_of h)
  obtain ⟨M1, e1, J1⟩ := Cq_save h.1
  have W1 : Jw (true, oS A) k n M1 (oB A, oE A, oP A, oS A, (true, oS A)) := ⟨J1, h.2.1, h.2.2.1, rfl⟩
  have e2 := hv _ _ _ _ _ W1 rfl
  have ih := kept_17 xs hL hj rfl hv 5 0 FU k n M1 _ (by omega) (by simp only [FU]; omega) (by omega) (by omega) W1
  refine ⟨_, Rt.of ih ?_⟩
  simp only [f_L_isKept, nW_lit, e1, bindP, e2, bindX]
