/-! ONE STEP -/
theorem Rt.ok {s : Bool × Sg} {k n : Nat} {r : Option ((Int32 ⊕ Nat) × Mem)} (h : Rt s k n r) : Rt s k n (bindX r (fun v M => okZX v M)) := by
  obtain ⟨M', A', e, J⟩ := h
  exact ⟨M', A', by rw [e]; exact okZX1 M', J⟩
theorem law_J23 {s : Bool × Sg} {k n : Nat} {M : Mem} {A : Wh} {L : Nat} (xs : Nat → Int32) (hL : L ≤ 260) (h : Jw s k n M A) (hk : k < 480) (hn : n ≤ 80000) {c j : Nat} (hj : j < 8000) (hc : c < 5) : Rt s (k + 6) (n + 16) (f_L_step_J23 L xs (nW j) 0 (nW c) (zI (cB (gCl (oS A) c) 0)) M) := by
  obtain ⟨g, hg, eg⟩ := pick_ok (L := L) xs hL (j := j + 2) (m := 3) (by omega) (by omega) (by omega)
  obtain ⟨v, hv, ev⟩ := pick_ok (L := L) xs hL (j := j) (m := 14) (by omega) (by omega) (by omega)
  simp only [f_L_step_J23, nW_lit, nW_add, eg, ev, bindP]
  have conn : Rt s (k + 6) (n + 16) (bindP (f_L_pick L xs (nW (j + 2)) (nW 2) M) (fun v6 M5 => if v6 = nW 0 then f_L_step_J118 L xs (nW 1) (nW c) 0 M5 else f_L_step_J118 L xs (nW 0) (nW c) 0 M5)) := by
    obtain ⟨u, hu, eu⟩ := pick_ok (L := L) xs hL (j := j + 2) (m := 2) (by omega) (by omega) (by omega)
    simp only [eu, bindP]
    by_cases h0 : nW u = nW 0
    · rw [if_pos h0]; exact (law_connects h hk hc true).ok
    · rw [if_neg h0]; exact (law_connects h hk hc false).ok
  have subs : Rt s (k + 6) (n + 16) (bindP (f_L_pick L xs (nW (j + 3)) (nW 16) M) (fun v6 M5 => (sFl 0 v6).bind (fun v7 => bindP (f_L_pick L xs (nW (j + 4)) (nW 3) M5) (fun v9 M8 => bindP (f_L_pick L xs (nW (j + 5)) (nW 4) M8) (fun v11 M10 => bindX (f_L_subscribes 0 v7 (nW c) (nW g) v9 (v11 * nW 2) M10) (fun v13 M12 => okZX v13 M12)))))) := by
    obtain ⟨f, hf, ef⟩ := pick_ok (L := L) xs hL (j := j + 3) (m := 16) (by omega) (by omega) (by omega)
    obtain ⟨q, hq, eq⟩ := pick_ok (L := L) xs hL (j := j + 4) (m := 3) (by omega) (by omega) (by omega)
    obtain ⟨o, ho, eo⟩ := pick_ok (L := L) xs hL (j := j + 5) (m := 4) (by omega) (by omega) (by omega)
    simp only [ef, bindP, sFl_ok hf, Option.bind_some, eq, eo, nW_mul]
    refine (law_subscribes h (by omega) (flN_lt 0 (by omega) f hf) hc (by omega) (by omega) (by omega) (Or.inr ?_)).ok
    have : o = 0 ∨ o = 1 ∨ o = 2 ∨ o = 3 := by omega
    rcases this with rfl | rfl | rfl | rfl <;> decide
  by_cases h0 : nW v = nW 0
  · simp only [eq_true h0, ↓reduceIte]; exact conn
  simp only [eq_false h0, ↓reduceIte]
  by_cases h1 : nW v = nW 1
  · simp only [eq_true h1, ↓reduceIte]; exact conn
  simp only [eq_false h1, ↓reduceIte]
  by_cases h2 : nW v = nW 2
  · simp only [eq_true h2, ↓reduceIte]; exact subs
  simp only [eq_false h2, ↓reduceIte]
  by_cases h3 : nW v = nW 3
  · simp only [eq_true h3, ↓reduceIte]; exact subs
  simp only [eq_false h3, ↓reduceIte]
  by_cases h4 : nW v = nW 4
  · simp only [eq_true h4, ↓reduceIte]; exact subs
  simp only [eq_false h4, ↓reduceIte]
  by_cases h5 : nW v = nW 5
  · simp only [eq_true h5, ↓reduceIte]
    obtain ⟨f, hf, ef⟩ := pick_ok (L := L) xs hL (j := j + 3) (m := 16) (by omega) (by omega) (by omega)
    simp only [ef, sFl_ok hf, Option.bind_some]
    exact law_unsub xs hL h hn (flN_lt 0 (by omega) f hf) (j := j + 4) (by omega) hc
  simp only [eq_false h5, ↓reduceIte]
  by_cases h6 : nW v = nW 6
  · simp only [eq_true h6, ↓reduceIte]; exact law_break L xs h hk hc
  simp only [eq_false h6, ↓reduceIte]
  by_cases h7 : nW v = nW 7
  · simp only [eq_true h7, ↓reduceIte]
    obtain ⟨o, ho, eo⟩ := pick_ok (L := L) xs hL (j := j + 2) (m := 4) (by omega) (by omega) (by omega)
    obtain ⟨a, ha, ea⟩ := pick_ok (L := L) xs hL (j := j + 3) (m := 2) (by omega) (by omega) (by omega)
    obtain ⟨b, hb, eb⟩ := pick_ok (L := L) xs hL (j := j + 4) (m := 3) (by omega) (by omega) (by omega)
    simp only [eo, ea, eb, nW_add]
    exact law_option h ho (v := a + b) (by omega)
  simp only [eq_false h7, ↓reduceIte]
  by_cases h8 : nW v = nW 8
  · simp only [eq_true h8, ↓reduceIte]; exact (law_answers h hc).ok
  simp only [eq_false h8, ↓reduceIte]
  by_cases h9 : nW v = nW 9
  · simp only [eq_true h9, ↓reduceIte]
    obtain ⟨f, hf, ef⟩ := pick_ok (L := L) xs hL (j := j + 3) (m := 16) (by omega) (by omega) (by omega)
    simp only [ef, sFl_ok hf, Option.bind_some]
    exact law_will xs hL h hn hf (by omega) (by omega) hc
  simp only [eq_false h9, ↓reduceIte]
  by_cases h10 : nW v = nW 10
  · simp only [eq_true h10, ↓reduceIte]
    obtain ⟨u, hu, eu⟩ := pick_ok (L := L) xs hL (j := j + 2) (m := 5) (by omega) (by omega) (by omega)
    simp only [eu, nW_add]
    exact law_advance h hk (m := 1 + u) (by omega) (by omega)
  simp only [eq_false h10, ↓reduceIte]
  exact (law_publishes xs hL h hk hn (by omega) hc (by omega)).ok
theorem law_step {s : Bool × Sg} {k n : Nat} {M : Mem} {A : Wh} {L : Nat} (xs : Nat → Int32) (hL : L ≤ 260) (h : Jw s k n M A) (hk : k < 480) (hn : n ≤ 80000) {j : Nat} (hj : j < 8000) : Rt s (k + 6) (n + 16) (f_L_step L xs (nW j) 0 M) := by
  obtain ⟨c, hc, ec⟩ := pick_ok (L := L) xs hL (j := j + 1) (m := 4) (by omega) (by omega) (by omega)
  have q0 := X_ss h.1.1 (c := c) (by omega)
  have hos := on_ss h.1 (c := c) (by omega)
  have main := law_J23 xs hL h hk hn hj (c := c) (by omega)
  refine main.of ?_
  simp only [f_L_step, nW_lit, nW_add, ec, bindP, q0, bindX]
  cases hon : cB (gCl (oS A) c) 0 with
  | false => simp only [eq_true (hos.mpr hon), ↓reduceIte, zI_f]
  | true =>
    have hn1 : ¬ ssV (gCl (oS A) c) ≤ nW 1 := fun q => by rw [hos.mp q] at hon; exact absurd hon (by decide)
    simp only [eq_false hn1, ↓reduceIte, zI_t]
