/-! ANSWERS and the short steps -/
theorem ans_none (g : GS) (y id : Int32) (h : (cL g.2 1).1 = 0) : (spAns g y id).1 = false := by
  unfold spAns flAt
  rw [h, ffind]
theorem law_answers {s : Bool × Sg} {k n : Nat} {M : Mem} {A : Wh} (h : Jw s k n M A) {c : Nat} (hc : c < 5) : Rt s (k + 6) (n + 16) (f_L_answers 0 (nW c) (zI (cB (gCl (oS A) c) 0)) M) := by
  have hc6 : c < 6 := by omega
  have t4 : ¬ nW 1 = nW 0 := by decide
  cases hon : cB (gCl (oS A) c) 0 with
  | false =>
    have e1 := Cq_answerOff h.1 hc6 hon
    refine (h.x.rt (k := k + 6) (n := n + 16) (by omega) (by omega)).of ?_
    simp only [f_L_answers, f_L_answers_J13, f_L_answers_J30, f_L_answer, nW_lit, zI_f, ↓reduceIte, e1, bindH, x21, x23, bindP]
  | true =>
    have q1 := X_len h.1.1 hc6 (w := 1) (by omega)
    rw [show nW (lnV (gCl (oS A) c) 1) = nW (cL (gCl (oS A) c) 1).1 from rfl] at q1
    have hG : GI (getG (oS A) c) := h.1.2.1.1.1.1.2 c hc6
    have l5 : (cL (gCl (oS A) c) 1).1 ≤ 5 := (h.1.len hc6).2.1
    have l8 : (cL (gCl (oS A) c) 2).1 ≤ 8 := (h.1.len hc6).2.2.1
    by_cases h0 : (cL (gCl (oS A) c) 1).1 = 0
    · obtain ⟨M', e1, J⟩ := Cq_answer h.1 hc6 (Or.inl rfl) (i := 1) (by omega) (by omega) hon
      have e2 : (spAns (getG (oS A) c) (nW 1) (nW 1)).1 = false := ans_none _ _ _ h0
      rw [e2, zI_f] at e1
      rw [h0] at q1
      refine ((h.s1 J).rt (k := k + 6) (n := n + 16) (by omega) (by omega)).of ?_
      simp only [f_L_answers, f_L_answers_J13, f_L_answers_J30, f_L_answer, nW_lit, zI_t, ↓reduceIte, t4, q1, bindX, e1, bindH, bindP]
    · have hp : 0 < (cL (gCl (oS A) c) 1).1 := by omega
      have n0 : ¬ nW (cL (gCl (oS A) c) 1).1 = nW 0 := by rw [nW_inj (by omega) (by omega)]; exact h0
      have q2 := X_len h.1.1 hc6 (w := 2) (by omega)
      rw [show nW (lnV (gCl (oS A) c) 2) = nW (cL (gCl (oS A) c) 2).1 from rfl] at q2
      have q3 := X_fly h.1.1 hc6 (j := 0) hp (w := 0) (by omega)
      rw [show flV ((cL (gCl (oS A) c) 1).2 0) 0 = ((cL (gCl (oS A) c) 1).2 0).2 4 from rfl] at q3
      have q4 := X_fly h.1.1 hc6 (j := 0) hp (w := 3) (by omega)
      rw [show flV ((cL (gCl (oS A) c) 1).2 0) 3 = ((cL (gCl (oS A) c) 1).2 0).2 5 from rfl] at q4
      have q5 := X_total h.1.1 (i := 9) (by omega)
      obtain ⟨_, _, _, i, hi1, hi2, ei⟩ := hG.2.2.2.2.2.1 0 hp
      have ei : ((cL (gCl (oS A) c) 1).2 0).2 4 = nW i := ei
      have hy := ans_first (getG (oS A) c) hG hp
      obtain ⟨a1, a2, a3⟩ := ans_step (getG (oS A) c) hG hp
      obtain ⟨M', e1, J⟩ := Cq_answer h.1 hc6 hy hi1 hi2 hon
      have ei' : ((cL (getG (oS A) c).2 1).2 0).2 4 = nW i := ei
      rw [ei'] at a1 a2 a3
      rw [a1, zI_t] at e1
      have e1 : f_X11_answer 0 (nW c) (((cL (gCl (oS A) c) 1).2 0).2 5) (nW i) M = some (.inl (nW 1), M') := e1
      have r1 := X_len J.1 hc6 (w := 1) (by omega)
      have r2 := X_len J.1 hc6 (w := 2) (by omega)
      have r5 := X_total J.1 (i := 9) (by omega)
      generalize hg : (spAns (getG (oS A) c) (((cL (getG (oS A) c).2 1).2 0).2 5) (nW i)).2 = g' at *
      rw [show nW (lnV (gCl (oS (pS A (putG (oS A) c g'))) c) 1) = nW (cL g'.2 1).1 from congrArg (fun x : Cl => nW (lnV x 1)) (gCl_putG _ _ _)] at r1
      rw [show nW (lnV (gCl (oS (pS A (putG (oS A) c g'))) c) 2) = nW (cL g'.2 2).1 from congrArg (fun x : Cl => nW (lnV x 2)) (gCl_putG _ _ _)] at r2
      rw [show gSc (oS (pS A (putG (oS A) c g'))) 9 = g'.1 9 from rfl] at r5
      rw [ei] at q3
      have a2 : g'.1 9 = gSc (oS A) 9 + nW (if ((cL (gCl (oS A) c) 1).2 0).2 5 = nW 2 then 0 else 1) := a2
      have a3 : (cL g'.2 1).1 + (cL g'.2 2).1 + (if ((cL (gCl (oS A) c) 1).2 0).2 5 = nW 2 then 0 else 1) = (cL (gCl (oS A) c) 1).1 + (cL (gCl (oS A) c) 2).1 := a3
      rw [a2] at r5
      refine ((h.s1 J).rt (k := k + 6) (n := n + 16) (by omega) (by omega)).of ?_
      by_cases h2 : ((cL (gCl (oS A) c) 1).2 0).2 5 = nW 2
      · rw [if_pos h2] at r5 a3
        rw [h2] at q4 e1
        have es : nW ((cL g'.2 1).1 + (cL g'.2 2).1) = nW ((cL (gCl (oS A) c) 1).1 + (cL (gCl (oS A) c) 2).1) - nW 0 := by
          rw [nW_sub (by omega)]; congr 1
        simp only [f_L_answers, f_L_answer, nW_lit, zI_t, t4, ↓reduceIte, q1, q2, q3, q4, q5, bindX, n0, e1, bindH, bindP, r5, f_L_answers_J110, f_L_answers_J119, r1, r2, nW_add, f_L_answers_J152, es]
      · rw [if_neg h2] at r5 a3
        have es : nW ((cL g'.2 1).1 + (cL g'.2 2).1) = nW ((cL (gCl (oS A) c) 1).1 + (cL (gCl (oS A) c) 2).1) - nW 1 := by
          rw [nW_sub (by omega)]; congr 1; omega
        simp only [f_L_answers, f_L_answer, nW_lit, zI_t, t4, ↓reduceIte, q1, q2, q3, q4, q5, bindX, n0, e1, bindH, bindP, r5, h2, f_L_answers_J110, f_L_answers_J119, r1, r2, nW_add, f_L_answers_J152, es]
/-- breakConnection -/
theorem law_break {s : Bool × Sg} {k n : Nat} {M : Mem} {A : Wh} (L : Nat) (xs : Nat → Int32) (h : Jw s k n M A) (hk : k < 480) {c : Nat} (hc : c < 5) : Rt s (k + 6) (n + 16) (bindP (f_L_breaks 0 (nW c) M) (fun v6 M5 => if v6 = -nW 2 then f_L_step_J229 L xs (zI (cB (gCl (oS A) c) 0)) (nW 1) M5 else f_L_step_J229 L xs (zI (cB (gCl (oS A) c) 0)) (nW 0) M5)) := by
  have t4 : ¬ nW 1 = nW 0 := by decide
  cases hon : cB (gCl (oS A) c) 0 with
  | false =>
    have e1 := Cq_breakOff h.1 (show c < 6 by omega) hon
    refine (h.x.rt (k := k + 6) (n := n + 16) (by omega) (by omega)).of ?_
    simp only [f_L_breaks, e1, bindH, x23, nW_lit, ↓reduceIte, bindP, f_L_step_J229, f_L_step_J239, zI_f]
  | true =>
    obtain ⟨M', σ, r, e1, J⟩ := Cq_break h.1 (by omega) hc hon
    have t5 : ¬ zI r = -nW 2 := by cases r <;> decide
    refine ((h.s1 J).rt (k := k + 6) (n := n + 16) (by omega) (by omega)).of ?_
    simp only [f_L_breaks, e1, bindH, nW_lit, ↓reduceIte, bindP, f_L_step_J229, f_L_step_J239, zI_t, t4, t5]
/-- setOption -/
theorem law_option {s : Bool × Sg} {k n : Nat} {M : Mem} {A : Wh} (h : Jw s k n M A) {o v : Nat} (ho : o < 4) (hv : v < 100) : Rt s (k + 6) (n + 16) (bindP (f_L_setOption 0 (nW o) (nW v) M) (fun v12 M11 => if v12 = -nW 1 then okZX (nW 0) M11 else okZX (nW 1) M11)) := by
  rcases Cq_setOption h.1 ho hv with ⟨M', σ, x, e1, hx, J⟩ | e1
  · have t5 : ¬ nW x = -nW 1 := nW_neg (by omega) (by omega) (by omega)
    refine ((h.s1 J).rt (k := k + 6) (n := n + 16) (by omega) (by omega)).of ?_
    simp only [f_L_setOption, e1, bindH, ↓reduceIte, bindP, t5]
  · have t5 : ¬ -nW 2 = -nW 1 := by decide
    refine (h.x.rt (k := k + 6) (n := n + 16) (by omega) (by omega)).of ?_
    simp only [f_L_setOption, e1, bindH, x13, nW_lit, ↓reduceIte, bindP, t5]
/-- unsubscribe -/
theorem law_unsub {s : Bool × Sg} {k n : Nat} {M : Mem} {A : Wh} {L : Nat} (xs : Nat → Int32) (hL : L ≤ 260) (h : Jw s k n M A) (hn : n ≤ 80000) {c i j : Nat} (hi : i < 27) (hj : j < 9000) (hc : c < 5) : Rt s (k + 6) (n + 16) (bindP (f_L_type 0 (SCR + 16 + i) M) (fun v9 M8 => if v9 = nW 0 then okZX (nW 0) M8 else bindP (f_L_pick L xs (nW j) (nW 3) M8) (fun v11 M10 => bindP (f_L_unsubscribe 0 (nW c) v11 M10) (fun v13 M12 => if (zI (cB (gCl (oS A) c) 0)) = nW 0 then f_L_step_J205 L xs (-nW 3) v13 M12 else f_L_step_J205 L xs (nW 0) v13 M12)))) := by
  have t4 : ¬ nW 1 = nW 0 := by decide
  obtain ⟨M1, e1, J1⟩ := Cq_type h.1 h.2.1 hi
  obtain ⟨t, ht⟩ := fil_t hi
  obtain ⟨v, hv, ev⟩ := pick_ok (L := L) xs hL (j := j) (m := 3) (by omega) (by omega) (by omega)
  cases hon : cB (gCl (oS A) c) 0 with
  | false =>
    obtain ⟨M2, e2, J2⟩ := Cq_unsubOff (A := A) J1 (by omega) ht (show c < 6 by omega) (gr := v) (by omega) hon
    have t5 : ¬ -nW 3 < -nW 3 := by decide
    refine ((h.e0 J2).rt (k := k + 6) (n := n + 16) (by omega) (by omega)).of ?_
    simp only [e1, bindP, t4, ↓reduceIte, ev, f_L_unsubscribe, e2, bindH, x23, x21, nW_lit, zI_f, f_L_step_J205, t5]
  | true =>
    obtain ⟨M2, σ, r, e2, J2⟩ := Cq_unsub (A := A) J1 (by omega) ht (show c < 6 by omega) (gr := v) (by omega) hon
    have t5 : ¬ zI r < nW 0 := by cases r <;> decide
    refine ((h.e1 J2).rt (k := k + 6) (n := n + 16) (by omega) (by omega)).of ?_
    simp only [e1, bindP, t4, ↓reduceIte, ev, f_L_unsubscribe, e2, bindH, nW_lit, zI_t, f_L_step_J205, t5]
/-- setWill -/
theorem law_will {s : Bool × Sg} {k n : Nat} {M : Mem} {A : Wh} {L : Nat} (xs : Nat → Int32) (hL : L ≤ 260) (h : Jw s k n M A) (hn : n ≤ 80000) {c v j g : Nat} (hv : v < 16) (hj : j < 9000) (hg : g ≤ 2) (hc : c < 5) : Rt s (k + 6) (n + 16) (bindP (f_L_type 0 (SCR + 16 + flN' 1 v) M) (fun v9 M8 => if v9 = nW 0 then okZX (nW 0) M8 else bindP (f_L_pick L xs (nW (j + 4)) (nW 2) M8) (fun v11 M10 => if v11 = nW 0 then f_L_step_J335 L xs (nW j) (zI (cB (gCl (oS A) c) 0)) (nW 1) (nW g) (nW c) 0 M10 else f_L_step_J335 L xs (nW j) (zI (cB (gCl (oS A) c) 0)) (nW 0) (nW g) (nW c) 0 M10))) := by
  have t4 : ¬ nW 1 = nW 0 := by decide
  obtain ⟨M1, e1, J1⟩ := Cq_type h.1 h.2.1 (flN_lt 1 (by omega) v hv)
  obtain ⟨t, ht⟩ := top_t hv
  obtain ⟨u, hu, eu⟩ := pick_ok (L := L) xs hL (j := j + 4) (m := 2) (by omega) (by omega) (by omega)
  obtain ⟨p, hp, ep⟩ := pick_ok (L := L) xs hL (j := j + 5) (m := 20) (by omega) (by omega) (by omega)
  have main : ∀ b : Bool, Rt s (k + 6) (n + 16) (f_L_step_J335 L xs (nW j) (zI (cB (gCl (oS A) c) 0)) (zI b) (nW g) (nW c) 0 M1) := fun b => by
    cases hon : cB (gCl (oS A) c) 0 with
    | false =>
      obtain ⟨M2, e2, J2⟩ := Cq_willOff (A := A) b J1 (by omega) ht (show c < 6 by omega) hg (p := p) (by omega) hon
      have t5 : ¬ -nW 3 < -nW 3 := by decide
      refine ((h.e0 J2).rt (k := k + 6) (n := n + 16) (by omega) (by omega)).of ?_
      simp only [f_L_step_J335, nW_lit, nW_add, ep, bindP, f_L_setWill, e2, bindH, x23, x21, ↓reduceIte, zI_f, f_L_step_J358, t5]
    | true =>
      obtain ⟨M2, σ, r, e2, J2⟩ := Cq_will (A := A) b J1 (by omega) ht hc hg (p := p) (by omega) hon
      have t5 : ¬ zI r < nW 0 := by cases r <;> decide
      refine ((h.e1 J2).rt (k := k + 6) (n := n + 16) (by omega) (by omega)).of ?_
      simp only [f_L_step_J335, nW_lit, nW_add, ep, bindP, f_L_setWill, e2, bindH, ↓reduceIte, zI_t, t4, f_L_step_J358, t5]
  simp only [e1, bindP, t4, ↓reduceIte, nW_add, eu]
  by_cases hu0 : nW u = nW 0
  · rw [if_pos hu0]; have := main true; rwa [zI_t] at this
  · rw [if_neg hu0]; have := main false; rwa [zI_f] at this
/-- advance -/
theorem law_advance {s : Bool × Sg} {k n : Nat} {M : Mem} {A : Wh} (h : Jw s k n M A) (hk : k < 480) {m : Nat} (h1 : 1 ≤ m) (h2 : m ≤ 5) : Rt s (k + 6) (n + 16) (bindX (f_X11_advance 0 (nW m) M) (fun v8 M7 => if v8 ≤ nW 0 then okZX (nW 0) M7 else okZX (nW 1) M7)) := by
  obtain ⟨M', σ, e1, J⟩ := Cq_advance h.1 (by omega) h1 h2
  obtain ⟨x, hx, ex⟩ := h.1.2.2.2.1.1.2.2.1
  rw [ex, nW_add] at e1
  have t5 : ¬ nW (x + m) ≤ nW 0 := by rw [nW_le (by omega) (by omega)]; omega
  refine ((h.s1 J).rt (k := k + 6) (n := n + 16) (by omega) (by omega)).of ?_
  simp only [e1, bindX, t5, ↓reduceIte]
