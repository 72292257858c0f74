/-! THE LAW from its start to its end -/
theorem SgI_0 : SgI 0 sg0 := by
  have hw : Win sc0 := ⟨3, by decide, by omega, by omega⟩
  refine ⟨⟨⟨⟨hw, ⟨0, by omega, by decide⟩, ⟨20, by omega, by decide⟩, ⟨0, by omega, by decide⟩⟩, fun c hc => ⟨hw, ⟨Nat.zero_le _, Nat.zero_le _, Nat.zero_le _, Nat.zero_le _⟩, (fun h => by cases h), (fun h => by cases h), fun j hj => absurd hj (Nat.not_lt_zero j), fun j hj => absurd hj (Nat.not_lt_zero j), fun i j hi => absurd hi (Nat.not_lt_zero i), fun j hj => absurd hj (Nat.not_lt_zero j), fun _ => rfl, fun _ => ⟨rfl, rfl, rfl, fun _ => rfl⟩⟩⟩, fun c hc => ⟨fun j hj => absurd hj (Nat.not_lt_zero j), fun i j hi => absurd hi (Nat.not_lt_zero i)⟩, ?_, fun c hc => ⟨fun x hx => absurd hx (List.not_mem_nil), fun j hj => absurd hj (Nat.not_lt_zero j)⟩, fun j hj => absurd hj (Nat.not_lt_zero j), ⟨fun j hj => absurd hj (Nat.not_lt_zero j), fun i j hi => absurd hi (Nat.not_lt_zero i)⟩, fun c hc h => by cases h⟩, fun c hc h => (by cases h), fun c hc => ?_, fun c hc j hj => absurd hj (Nat.not_lt_zero j), Nat.le_refl _⟩
  · refine ⟨fun x hx => absurd hx (List.not_mem_nil), ?_, ?_⟩
    · intro x hx; exact absurd hx (List.not_mem_nil)
    · exact List.Pairwise.nil
  · show (0 : UInt32) &&& 0x7fffffff ≤ 0x7f800000
    decide
theorem PX_0 : PX 0 sg0 := by
  refine ⟨fun c hc => ?_, fun c hc => ⟨0, by omega, rfl⟩, ⟨0, by omega, by decide⟩, fun j hj => absurd hj (Nat.not_lt_zero j), fun c hc h => (by cases h), rfl⟩
  show (0 : UInt32).toNat ≤ 2139095040
  decide
theorem law_loop {L : Nat} (xs : Nat → Int32) (hL : L ≤ 260) : ∀ r i nn s M A, i + r = 40 → r < nn → Jw s (6 * i + 36 * (i / 13)) (32 * i + 80 * (i / 13) + 4) M A → ∃ MF, f_L_law_L22 L xs nn 0 (nW (6 * i)) (nW i) M = some (.inl (nW 1), MF) ∧ mC MF ≤ 2500 ∧ mS MF ≤ 29000
  | r, i, 0, _, _, _, _, hn, _ => absurd hn (by omega)
  | 0, i, nn + 1, s, M, A, hi, hn, h => by
    have h1 : nW 40 ≤ nW i := by rw [nW_le (by omega) (by omega)]; omega
    have ei : i = 40 := by omega
    subst ei
    have b1 := h.1.2.2.2.2.2.1
    have b2 := h.1.2.2.2.2.2.2
    refine ⟨M, ?_, by omega, by omega⟩
    rw [f_L_law_L22]
    simp only [nW_lit, h1, ↓reduceIte]
    exact okZX1 M
  | r + 1, i, nn + 1, s, M, A, hi, hn, h => by
    have h1 : ¬ nW 40 ≤ nW i := by rw [nW_le (by omega) (by omega)]; omega
    have t4 : ¬ nW 1 = nW 0 := by decide
    obtain ⟨M1, A1, e1, W1⟩ := law_step xs hL h (by omega) (by omega) (j := 6 * i) (by omega)
    have e2 := law_sound W1
    obtain ⟨M2, A2, e3, W2⟩ := law_refused W1 (by omega)
    have er : iremE (nW i) (nW 13) = nW (i % 13) := irem_nW (by omega) (by omega) (by omega)
    by_cases h12 : i % 13 = 12
    · obtain ⟨s', M3, A3, e4, W3⟩ := law_kept xs hL W2 (j := 6 * i + 6) (by omega) (by omega) (by omega)
      obtain ⟨MF, e5, c1, c2⟩ := law_loop xs hL r (i + 1) nn s' M3 A3 (by omega) (by omega) (W3.mono (by omega) (by omega))
      refine ⟨MF, ?_, c1, c2⟩
      rw [show 6 * (i + 1) = 6 * i + 6 by omega] at e5
      rw [f_L_law_L22]
      simp only [nW_lit, nW_add, h1, ↓reduceIte, e1, e2, e3, bindX, t4, er, h12, e4]
      exact e5
    · obtain ⟨MF, e5, c1, c2⟩ := law_loop xs hL r (i + 1) nn s M2 A2 (by omega) (by omega) (W2.mono (by omega) (by omega))
      have n12 : ¬ nW (i % 13) = nW 12 := by rw [nW_inj (by omega) (by omega)]; exact h12
      refine ⟨MF, ?_, c1, c2⟩
      rw [show 6 * (i + 1) = 6 * i + 6 by omega] at e5
      rw [f_L_law_L22]
      simp only [nW_lit, nW_add, h1, ↓reduceIte, e1, e2, e3, bindX, t4, er, n12]
      exact e5
theorem law_true {M : Mem} (hF : F99 M) (hN : mN M = 0) (hC : mC M = 0) (hS : mS M = 0) {L : Nat} (hL : L ≤ 260) (xs : Nat → Int32) : ∃ MF, f_L_law L xs M = some (.inl 1, MF) ∧ mC MF ≤ 2500 ∧ mS MF ≤ 29000 := by
  obtain ⟨M1, M3, e1, e3, m3, B3⟩ := X11_new hF hN
  have n3 : mN M3 = 908 := by rw [m3.2.1.1, hN]
  have J3 : Jv 0 0 M3 wh0 := ⟨B3, ⟨SgI_0, SgI_0, fun x hx => absurd hx (List.not_mem_nil)⟩, ⟨by omega, m3.2.2⟩, ⟨PX_0, PX_0⟩, by omega, (by rw [m3.2.1.2.1, hC]; omega), (by rw [m3.2.1.2.2, hS]; omega)⟩
  have W3 : Jw (false, sg0) 0 0 M3 wh0 := ⟨J3, rfl, rfl, rfl⟩
  have e4 := Cq_restore0 B3 rfl
  have W4 : Jw (false, sg0) (6 * 0 + 36 * (0 / 13)) (32 * 0 + 80 * (0 / 13) + 4) (xM M3) wh0 := W3.x.mono (by omega) (by omega)
  obtain ⟨MF, e5, c1, c2⟩ := law_loop xs hL 40 0 FU _ _ _ (by omega) (by simp only [FU]; omega) W4
  refine ⟨MF, ?_, c1, c2⟩
  simp only [f_L_law, nW_lit, e1, bindP, e3, Option.bind_some, f_L_restore, e4, bindH, ↓reduceIte]
  exact e5
