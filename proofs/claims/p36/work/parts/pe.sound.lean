/-! SOUND -/
theorem a11 : nW 1 &&& nW 1 = nW 1 := by decide
theorem snd_177 {M : Mem} {A : Wh} (hB : BrR M A) {c kk S id : Nat} (hc : c < 6) (hk : kk < (cL (gCl (oS A) c) 1).1) (l5 : (cL (gCl (oS A) c) 1).1 ≤ 5) (hid : 1 ≤ id ∧ id ≤ 50) (eid : ((cL (gCl (oS A) c) 1).2 kk).2 4 = nW id) (hF : okF ((cL (gCl (oS A) c) 1).2 kk)) (hD : ∀ j, j < kk → ¬ ((cL (gCl (oS A) c) 1).2 j).2 4 = nW id) (k25 : Nat → Int32 → Int32 → Mem → Option ((Int32 ⊕ Nat) × Mem)) (k153 : Nat → Int32 → Int32 → Int32 → Int32 → Mem → Option ((Int32 ⊕ Nat) × Mem)) : ∀ r j n, j + r = kk → r < n → f_L_isSound_L177 n k25 k153 0 (nW 1) (nW c) (nW S) (nW kk) (nW id) (nW j) M = k153 0 (nW 1) (nW c) (nW (S + id)) (nW (kk + 1)) M
  | r, j, 0, _, hn => absurd hn (by omega)
  | 0, j, n + 1, hj, hn => by
    have h1 : nW kk ≤ nW j := by rw [nW_le (by omega) (by omega)]; omega
    have h2 : ¬ nW id < nW 1 := by rw [nW_lt (by omega) (by omega)]; omega
    have h3 : ¬ nW 50 < nW id := by rw [nW_lt (by omega) (by omega)]; omega
    have q1 := X_fly hB hc hk (w := 1) (by omega)
    have q3 := X_fly hB hc hk (w := 3) (by omega)
    rw [show flV ((cL (gCl (oS A) c) 1).2 kk) 1 = ((cL (gCl (oS A) c) 1).2 kk).2 1 from rfl] at q1
    rw [show flV ((cL (gCl (oS A) c) 1).2 kk) 3 = ((cL (gCl (oS A) c) 1).2 kk).2 5 from rfl] at q3
    obtain ⟨⟨_, o2⟩, o3, o4, _⟩ := hF
    have b1 : ¬ nW 1 < nW 1 := by decide
    have b2 : ¬ nW 2 < nW 1 := by decide
    have b3 : ¬ nW 4 = nW 2 := by decide
    rw [f_L_isSound_L177]
    rcases o2 with e | e
    · rw [e] at q1
      rw [o3 e] at q3
      simp only [nW_lit, nW_add, h1, h2, h3, ↓reduceIte, q1, q3, bindX, b1, a11]
    · rw [e] at q1
      rcases o4 e with e5 | e5
      · rw [e5] at q3
        simp only [nW_lit, nW_add, h1, h2, h3, ↓reduceIte, q1, q3, bindX, b2, a11]
      · rw [e5] at q3
        simp only [nW_lit, nW_add, h1, h2, h3, ↓reduceIte, q1, q3, bindX, b2, b3, a11]
  | r + 1, j, n + 1, hj, hn => by
    have h1 : ¬ nW kk ≤ nW j := by rw [nW_le (by omega) (by omega)]; omega
    have q0 := X_fly hB hc (j := j) (show j < (cL (gCl (oS A) c) 1).1 by omega) (w := 0) (by omega)
    rw [show flV ((cL (gCl (oS A) c) 1).2 j) 0 = ((cL (gCl (oS A) c) 1).2 j).2 4 from rfl] at q0
    have ih := snd_177 (S := S) hB hc hk l5 hid eid hF hD k25 k153 r (j + 1) n (by omega) (by omega)
    rw [f_L_isSound_L177]
    simp only [nW_lit, nW_add, h1, ↓reduceIte, q0, bindX, hD j (by omega), a11]
    exact ih
theorem snd_153 {M : Mem} {A : Wh} (hB : BrR M A) {c : Nat} (hc : c < 6) (hG : GI (getG (oS A) c)) (k25 : Nat → Int32 → Int32 → Mem → Option ((Int32 ⊕ Nat) × Mem)) : ∀ r kk n S, kk + r = (cL (gCl (oS A) c) 1).1 → r < n → S ≤ 50 * kk → f_L_isSound_L153 n k25 0 (nW 1) (nW c) (nW S) (nW kk) M = k25 0 (nW 1) (nW (c + 1)) M
  | r, kk, 0, _, _, hn, _ => absurd hn (by omega)
  | 0, kk, n + 1, S, hk, hn, hS => by
    have l5 : (cL (gCl (oS A) c) 1).1 ≤ 5 := hG.2.1.2.1
    have q1 := X_len hB hc (w := 1) (by omega)
    rw [show nW (lnV (gCl (oS A) c) 1) = nW (cL (gCl (oS A) c) 1).1 from rfl] at q1
    have h1 : nW (cL (gCl (oS A) c) 1).1 ≤ nW kk := by rw [nW_le (by omega) (by omega)]; omega
    have h2 : ¬ nW 250 < nW S := by rw [nW_lt (by omega) (by omega)]; omega
    rw [f_L_isSound_L153]
    simp only [nW_lit, nW_add, q1, bindX, h1, h2, ↓reduceIte, a11]
  | r + 1, kk, n + 1, S, hk, hn, hS => by
    have l5 : (cL (gCl (oS A) c) 1).1 ≤ 5 := hG.2.1.2.1
    have hkk : kk < (cL (gCl (oS A) c) 1).1 := by omega
    have q1 := X_len hB hc (w := 1) (by omega)
    rw [show nW (lnV (gCl (oS A) c) 1) = nW (cL (gCl (oS A) c) 1).1 from rfl] at q1
    have h1 : ¬ nW (cL (gCl (oS A) c) 1).1 ≤ nW kk := by rw [nW_le (by omega) (by omega)]; omega
    have hF : okF ((cL (gCl (oS A) c) 1).2 kk) := hG.2.2.2.2.2.1 kk hkk
    obtain ⟨id, hi1, hi2, eid⟩ := hF.2.2.2
    have q0 := X_fly hB hc hkk (w := 0) (by omega)
    rw [show flV ((cL (gCl (oS A) c) 1).2 kk) 0 = ((cL (gCl (oS A) c) 1).2 kk).2 4 from rfl, eid] at q0
    have hD : ∀ j, j < kk → ¬ ((cL (gCl (oS A) c) 1).2 j).2 4 = nW id := fun j hj e => by
      have := hG.2.2.2.2.2.2.1 j kk (show j < (cL (gCl (oS A) c) 1).1 by omega) hkk (e.trans eid.symm)
      omega
    have e177 := snd_177 (S := S) hB hc hkk l5 ⟨hi1, hi2⟩ eid hF hD k25 (f_L_isSound_L153 n k25) kk 0 FU (by omega) (by simp only [FU]; omega)
    have ih := snd_153 hB hc hG k25 r (kk + 1) n (S + id) (by omega) (by omega) (by omega)
    rw [f_L_isSound_L153]
    simp only [nW_lit, q1, bindX, h1, ↓reduceIte, q0]
    exact e177.trans ih
theorem snd_25 {s : Bool × Sg} {k n0 : Nat} {M : Mem} {A : Wh} (h : Jw s k n0 M A) : ∀ r c n, c + r = 6 → r < n → f_L_isSound_L25 n 0 (nW 1) (nW c) M = f_L_isSound_L324 FU 0 (nW 1) (nW 0) M
  | r, c, 0, _, hn => absurd hn (by omega)
  | 0, c, n + 1, hc, hn => by
    have h1 : nW 6 ≤ nW c := by rw [nW_le (by omega) (by omega)]; omega
    rw [f_L_isSound_L25]
    simp only [nW_lit, h1, ↓reduceIte]
  | r + 1, c, n + 1, hc, hn => by
    have hc6 : c < 6 := by omega
    have h1 : ¬ nW 6 ≤ nW c := by rw [nW_le (by omega) (by omega)]; omega
    have hG : GI (getG (oS A) c) := h.1.2.1.1.1.1.2 c hc6
    obtain ⟨l1, l2, l3, l4⟩ := h.1.len hc6
    have hB := h.1.1
    have q0 := X_len hB hc6 (w := 0) (by omega)
    have q1 := X_len hB hc6 (w := 1) (by omega)
    have q2 := X_len hB hc6 (w := 2) (by omega)
    have q3 := X_len hB hc6 (w := 3) (by omega)
    have q4 := X_len hB hc6 (w := 4) (by omega)
    rw [show nW (lnV (gCl (oS A) c) 0) = nW (cL (gCl (oS A) c) 0).1 from rfl] at q0
    rw [show nW (lnV (gCl (oS A) c) 1) = nW (cL (gCl (oS A) c) 1).1 from rfl] at q1
    rw [show nW (lnV (gCl (oS A) c) 2) = nW (cL (gCl (oS A) c) 2).1 from rfl] at q2
    rw [show nW (lnV (gCl (oS A) c) 3) = nW (kcnt (cK (gCl (oS A) c)) 50) from rfl] at q3
    rw [show nW (lnV (gCl (oS A) c) 4) = nW (cL (gCl (oS A) c) 3).1 from rfl] at q4
    have qs := X_ss hB hc6
    have hX : PX k (oS A) := h.1.2.2.2.1.1
    have ql := X_load hB hc6 (h.1.2.1.1.2.2.1 c hc6)
    obtain ⟨m, hm, em⟩ := ld1000 (hX.1 c hc6)
    rw [show ldV (gCl (oS A) c) = nW m from em] at ql
    have e0 : ¬ nW m < nW 0 := by rw [nW_lt (by omega) (by omega)]; omega
    have e1 : ¬ nW 5 < nW (cL (gCl (oS A) c) 1).1 := by rw [nW_lt (by omega) (by omega)]; omega
    have e2 : ¬ nW 8 < nW (cL (gCl (oS A) c) 2).1 := by rw [nW_lt (by omega) (by omega)]; omega
    have e4 : ¬ nW 6 < nW (cL (gCl (oS A) c) 3).1 := by rw [nW_lt (by omega) (by omega)]; omega
    have e30 : ¬ nW 30 < nW (cL (gCl (oS A) c) 0).1 := by rw [nW_lt (by omega) (by omega)]; omega
    have hos := on_ss h.1 hc6
    have ih := (snd_153 hB hc6 hG (f_L_isSound_L25 n) (cL (gCl (oS A) c) 1).1 0 FU 0 (by omega) (by simp only [FU]; omega) (by omega)).trans (snd_25 h r (c + 1) n (by omega) (by omega))
    rw [f_L_isSound_L25]
    have x140 : f_L_isSound_J140 (f_L_isSound_L25 n) 0 (nW c) (nW 1) M = f_L_isSound_L324 FU 0 (nW 1) (nW 0) M := by
      simp only [f_L_isSound_J140, nW_lit, a11]
      exact ih
    have x103 : f_L_isSound_J103 (f_L_isSound_L25 n) 0 (nW c) (ssV (gCl (oS A) c)) (nW 1) (nW 1) M = f_L_isSound_L324 FU 0 (nW 1) (nW 0) M := by
      by_cases hp : nW 0 < ssV (gCl (oS A) c)
      · simp only [f_L_isSound_J103, nW_lit, eq_true hp, ↓reduceIte, a11]
        exact x140
      · have h3 : cB (gCl (oS A) c) 3 = false := by
          cases h3 : cB (gCl (oS A) c) 3 with
          | false => rfl
          | true =>
            exfalso
            apply hp
            unfold ssV
            rw [h3]
            cases cB (gCl (oS A) c) 0 <;> cases cB (gCl (oS A) c) 4 <;> decide
        obtain ⟨z1, z2, z3, z4⟩ := hG.2.2.2.2.2.2.2.2.2 h3
        have z1 : (cL (gCl (oS A) c) 1).1 = 0 := z1
        have z2 : (cL (gCl (oS A) c) 2).1 = 0 := z2
        have z3 : (cL (gCl (oS A) c) 3).1 = 0 := z3
        have z4 : kcnt (cK (gCl (oS A) c)) 50 = 0 := by
          have : cK (gCl (oS A) c) = fun _ => false := funext z4
          rw [this]; exact kcnt_none 50
        rw [z1] at q1
        rw [z2] at q2
        rw [z3] at q4
        rw [z4] at q3
        have zz : nW (0 + 0 + 0 + 0) = nW 0 := rfl
        simp only [f_L_isSound_J103, nW_lit, eq_false hp, ↓reduceIte, a11, q1, q2, q3, q4, bindX, nW_add, zz]
        exact x140
    cases hon : cB (gCl (oS A) c) 0 with
    | false =>
      have hle := hos.mpr hon
      have z0 : (cL (gCl (oS A) c) 0).1 = 0 := hG.2.2.2.2.2.2.2.2.1 hon
      rw [z0] at q0
      have z00 : ¬ nW 0 < nW 0 := by decide
      simp only [nW_lit, h1, ↓reduceIte, qs, q0, bindX, eq_true hle, f_L_isSound_J55, z00, q1, e1, q2, e2, q4, e4, ql, e0]
      exact x103
    | true =>
      have hle : ¬ ssV (gCl (oS A) c) ≤ nW 1 := fun q => by rw [hos.mp q] at hon; exact absurd hon (by decide)
      simp only [nW_lit, h1, ↓reduceIte, qs, q0, bindX, eq_false hle, f_L_isSound_J55, e30, q1, e1, q2, e2, q4, e4, ql, e0]
      exact x103
theorem snd_324 {s : Bool × Sg} {k n0 : Nat} {M : Mem} {A : Wh} (h : Jw s k n0 M A) : ∀ r j n, j + r = (gRe (oS A)).1 → r < n → f_L_isSound_L324 n 0 (nW 1) (nW j) M = some (.inl (nW 1), M)
  | r, j, 0, _, hn => absurd hn (by omega)
  | 0, j, n + 1, hj, hn => by
    have h8 := h.1.re
    have q := X_retN h.1.1
    have h1 : nW (gRe (oS A)).1 ≤ nW j := by rw [nW_le (by omega) (by omega)]; omega
    rw [f_L_isSound_L324]
    simp only [q, bindP, h1, ↓reduceIte]
    exact okZX1 M
  | r + 1, j, n + 1, hj, hn => by
    have h8 := h.1.re
    have q := X_retN h.1.1
    have hj2 : j < (gRe (oS A)).1 := by omega
    have h1 : ¬ nW (gRe (oS A)).1 ≤ nW j := by rw [nW_le (by omega) (by omega)]; omega
    have hX : PX k (oS A) := h.1.2.2.2.1.1
    obtain ⟨⟨p, p1, p2, ep⟩, hne⟩ := hX.2.2.2.1 j hj2
    obtain ⟨ok, _, g, hg, eg⟩ := h.1.2.1.1.1.2.2.2.2.1 j hj2
    have q1 := X_ret h.1.1 hj2 (w := 1) (by omega)
    have q2 := X_ret h.1.1 hj2 (w := 2) (by omega)
    have q0 := X_ret h.1.1 hj2 (w := 0) (by omega)
    rw [show reV ((gRe (oS A)).2 j) 1 = nW p from ep] at q1
    rw [show reV ((gRe (oS A)).2 j) 0 = nW g from eg] at q0
    rw [show reV ((gRe (oS A)).2 j) 2 = nW (txS ((gRe (oS A)).2 j).1).length from rfl] at q2
    have lt : (txS ((gRe (oS A)).2 j).1).length ≤ 7 * ((gRe (oS A)).2 j).1.length := (txS_ok ok.2.1).2
    have l4 := ok.1
    have l1 : 1 ≤ (txS ((gRe (oS A)).2 j).1).length := by
      have ho := ok.2.1
      revert hne ho
      cases ((gRe (oS A)).2 j).1 with
      | nil => intro hne; exact absurd rfl hne
      | cons l r =>
        intro _ ho
        have : txS (l :: r) ≠ [] := txS_ne (okLev_rng (ho l List.mem_cons_self)).2.2
        exact List.length_pos_iff.mpr this
    have b1 : ¬ nW p < nW 1 := by rw [nW_lt (by omega) (by omega)]; omega
    have b2 : ¬ nW (txS ((gRe (oS A)).2 j).1).length < nW 1 := by rw [nW_lt (by omega) (by omega)]; omega
    have b0 : ¬ nW 2 < nW g := by rw [nW_lt (by omega) (by omega)]; omega
    have ih := snd_324 h r (j + 1) n (by omega) (by omega)
    rw [f_L_isSound_L324]
    simp only [nW_lit, nW_add, q, bindP, h1, ↓reduceIte, q1, q2, q0, bindX, b1, b2, b0, a11]
    exact ih
theorem law_sound {s : Bool × Sg} {k n : Nat} {M : Mem} {A : Wh} (h : Jw s k n M A) : f_L_isSound 0 M = some (.inl (nW 1), M) := by
  have h8 := h.1.re
  have q := X_retN h.1.1
  have q2 := X_err h.1.1
  rw [h.2.2.1] at q2
  have h1 : ¬ nW 8 < nW (gRe (oS A)).1 := by rw [nW_lt (by omega) (by omega)]; omega
  have e1 := snd_25 h 6 0 FU (by omega) (by simp only [FU]; omega)
  have e2 := snd_324 h (gRe (oS A)).1 0 FU (by omega) (by simp only [FU]; omega)
  simp only [f_L_isSound, nW_lit, q, bindP, h1, ↓reduceIte, q2]
  exact e1.trans e2
