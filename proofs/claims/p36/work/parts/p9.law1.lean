/-! CONNECTS, SUBSCRIBES and the short ones -/
theorem law_connects {s : Bool × Sg} {k n : Nat} {M : Mem} {A : Wh} (h : Jw s k n M A) (hk : k < 480) {c : Nat} (hc : c < 5) (clean : Bool) : Rt s (k + 6) (n + 16) (f_L_connects 0 (nW c) (zI clean) M) := by
  have hc6 : c < 6 := by omega
  obtain ⟨M', σ, r, e, J, hr, hss, h5, hl⟩ := Cq_connect h.1 (by omega) hc clean
  have q1 := X_ss h.1.1 hc6
  have q2 := X_total h.1.1 (i := 5) (by omega)
  have q3 := X_ss J.1 hc6
  have q4 := X_total J.1 (i := 5) (by omega)
  have q5 := X_len J.1 hc6 (w := 4) (by omega)
  rw [show gCl (oS (pS A σ)) c = gCl σ c from rfl, hss] at q3
  rw [show gSc (oS (pS A σ)) 5 = gSc σ 5 from rfl, h5] at q4
  rw [show nW (lnV (gCl (oS (pS A σ)) c) 4) = nW (cL (gCl σ c) 3).1 from rfl] at q5
  have fin : Rt s (k + 6) (n + 16) (okZX (nW 1) M') := (h.s1 J).rt (by omega) (by omega)
  have hos := on_ss h.1 hc6
  have hex := h.1.on hc6
  have l6 : ¬ nW 6 < nW (cL (gCl σ c) 3).1 := by
    rw [nW_lt (by omega) (by have := (J.len hc6).2.2.2; show (cL (gCl (oS (pS A σ)) c) 3).1 < _; omega)]
    split at hl <;> omega
  have l0 : r = false → ¬ nW 0 < nW (cL (gCl σ c) 3).1 := fun hr0 => by
    rw [hr0, if_neg (by decide)] at hl
    rw [nW_lt (by omega) (by omega)]; omega
  have t1 : ¬ nW 2 = nW 1 := by decide
  have t2 : ¬ nW 3 = nW 1 := by decide
  have t3 : ¬ nW 3 = nW 2 := by decide
  have t4 : ¬ nW 1 = nW 0 := by decide
  have t5 : ¬ nW 0 = nW 1 := by decide
  have t6 : ¬ nW 0 = nW 2 := by decide
  have u0 : nW 0 ≤ nW 1 := by decide
  have u1 : nW 1 ≤ nW 1 := by decide
  have u2 : ¬ nW 2 ≤ nW 1 := by decide
  have u3 : ¬ nW 3 ≤ nW 1 := by decide
  refine fin.of ?_
  unfold ssV at q1
  cases h3 : cB (gCl (oS A) c) 3 <;> cases h0 : cB (gCl (oS A) c) 0 <;> cases h4 : cB (gCl (oS A) c) 4 <;> cases clean
  all_goals first
    | (have := hex h0; rw [h3] at this; exact absurd this (by decide))
    | (rw [h3, h0, h4] at hr
       simp only [Bool.not_true, Bool.not_false, Bool.and_true, Bool.and_false, Bool.false_and, Bool.true_and] at hr
       subst hr
       simp only [h3, h0, h4, ↓reduceIte, Bool.false_eq_true, reduceCtorEq] at q1 q3 q4
       simp only [zI_t, zI_f] at e
       simp only [f_L_connects, f_L_connects_J37, f_L_connects_J41, f_L_connects_J42, f_L_connects_J50, f_L_connects_J71, f_L_connects_J91, f_L_connects_J113, nW_lit, zI_t, zI_f, q1, q2, e, bindX, q3, q4, q5, ↓reduceIte, t1, t2, t3, t4, t5, t6, u0, u1, u2, u3, l6, l0])
