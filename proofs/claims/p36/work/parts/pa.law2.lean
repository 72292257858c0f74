/-! SUBSCRIBES -/
theorem law_subscribes {s : Bool × Sg} {k n : Nat} {M : Mem} {A : Wh} (h : Jw s k n M A) (hn : n ≤ 80000) {i c g gr o : Nat} (hi : i < 27) (hc : c < 5) (hg : g ≤ 2) (hq : gr ≤ 3) (ho : o ≤ 7) (hb : nW gr = nW 0 ∨ nW o &&& nW 1 = nW 0) : Rt s (k + 6) (n + 16) (f_L_subscribes 0 (SCR + 16 + i) (nW c) (nW g) (nW gr) (nW o) M) := by
  have hc6 : c < 6 := by omega
  have q1 := X_len h.1.1 hc6 (w := 4) (by omega)
  rw [show nW (lnV (gCl (oS A) c) 4) = nW (cL (gCl (oS A) c) 3).1 from rfl] at q1
  have q2 := X_ss h.1.1 hc6
  have l6 : (cL (gCl (oS A) c) 3).1 ≤ 6 := (h.1.len hc6).2.2.2
  obtain ⟨M1, e1, J1⟩ := Cq_type h.1 h.2.1 hi
  obtain ⟨t, ht⟩ := fil_t hi
  have hos := on_ss h.1 hc6
  have t4 : ¬ nW 1 = nW 0 := by decide
  have t5 : ¬ nW 0 ≤ -nW 3 := by decide
  have t6 : nW 0 ≤ nW 0 := by decide
  cases hon : cB (gCl (oS A) c) 0 with
  | false =>
    have hle := hos.mpr hon
    obtain ⟨M2, e2, J2⟩ := Cq_subscribeOff (A := A) J1 (by omega) ht hc6 hg hq ho hb hon
    have q3 := X_len J2.1 hc6 (w := 4) (by omega)
    rw [show nW (lnV (gCl (oS (eA A)) c) 4) = nW (cL (gCl (oS A) c) 3).1 from rfl] at q3
    refine ((h.e0 J2).rt (k := k + 6) (n := n + 16) (by omega) (by omega)).of ?_
    simp only [f_L_subscribes, f_L_subscribes_J22, f_L_subscribe, f_L_subscribes_J47, f_L_subscribes_J67, f_L_subscribes_J75, nW_lit, q1, q2, hle, bindX, ↓reduceIte, e1, bindP, t4, e2, bindH, x21, x23, q3, t5]
  | true =>
    have hle : ¬ ssV (gCl (oS A) c) ≤ nW 1 := fun q => by rw [hos.mp q] at hon; exact absurd hon (by decide)
    rcases Cq_subscribe (A := A) J1 (by omega) ht hc6 hg hq ho hb hon with ⟨M2, σ, w, e2, J2, ew, hw⟩ | ⟨M2, e2, J2, h6⟩
    · have q3 := X_len J2.1 hc6 (w := 4) (by omega)
      have e3 : (cL (gCl σ c) 3).1 = w := ew
      rw [show nW (lnV (gCl (oS (pS (eA A) σ)) c) 4) = nW (cL (gCl σ c) 3).1 from rfl, e3] at q3
      have hw : w = (cL (gCl (oS A) c) 3).1 ∨ w = (cL (gCl (oS A) c) 3).1 + 1 := hw
      have w0 : nW 0 ≤ nW w := by rw [nW_le (by omega) (by omega)]; omega
      have J3 : Jv (k + 2) (n + 3) M2 (pS (eA A) σ) := J2
      refine ((h.e1 J3).rt (k := k + 6) (n := n + 16) (by omega) (by omega)).of ?_
      simp only [f_L_subscribes, f_L_subscribes_J22, f_L_subscribe, f_L_subscribes_J47, f_L_subscribes_J67, f_L_subscribes_J75, nW_lit, q1, q2, hle, bindX, ↓reduceIte, e1, bindP, t4, e2, bindH, q3, w0, nW_add]
      rcases hw with rfl | rfl
      · simp only [↓reduceIte]
      · simp only [↓reduceIte, ite_self]
    · have h6 : (cL (gCl (oS A) c) 3).1 = 6 := h6
      have J3 : Jv k (n + 4) M2 (eA A) := J2
      have q3 := X_len J3.1 hc6 (w := 4) (by omega)
      rw [show nW (lnV (gCl (oS (eA A)) c) 4) = nW (cL (gCl (oS A) c) 3).1 from rfl] at q3
      rw [h6] at q1 q3
      have a1 : ¬ -nW 3 = nW 6 := by decide
      have a2 : ¬ -nW 3 = nW (6 + 1) := by decide
      refine ((h.e0 J3).rt (k := k + 6) (n := n + 16) (by omega) (by omega)).of ?_
      simp only [f_L_subscribes, f_L_subscribes_J22, f_L_subscribe, f_L_subscribes_J47, f_L_subscribes_J67, f_L_subscribes_J75, nW_lit, q1, q2, hle, bindX, ↓reduceIte, e1, bindP, t4, e2, bindH, x21, x23, q3, t5, a1, a2, nW_add]
