/-- a row of new objects -/
theorem arr_loop {f : Nat → Int32 → Mem → Option Mem} {lim e s arr b ka kc : Nat} {Inv : Mem → Prop} {E : Mem → Nat → Prop} (hz : 5 ≤ arr ∧ arr < 908) (hb : arr < b) (hl : lim < 1000) (hInv : ∀ M M', Inv M → Gr (fun a => a = arr) M M' → Inv M') (hE : ∀ M M' a, E M a → Gr (fun a => a = arr) M M' → arr < a → E M' a) (hEk : ∀ M a, E M a → (mK M a).1 = kc) (hk : ka ≠ 99) (step : ∀ n i M, i < lim → Inv M → mN M = b + e * i → F99 M → ∃ M1, Mk e s M M1 ∧ E M1 (b + e * i) ∧ f (n + 1) (nW i) M = (wR ka kc arr (nW i) (b + e * i) M1).bind (fun M5 => f n (nW i + 1) M5)) : ∀ n i M, i ≤ lim → lim - i < n → Inv M → F99 M → mN M = b + e * i → mK M arr = (ka, lim) → (∀ j, j < i → mR M arr j = some (b + e * j) ∧ E M (b + e * j)) → ∃ n' M', f n (nW i) M = f (n' + 1) (nW lim) M' ∧ Mp (fun a => a = arr) (e * (lim - i)) (s * (lim - i)) M M' ∧ ∀ j, j < lim → mR M' arr j = some (b + e * j) ∧ E M' (b + e * j)
  | 0, i, M, _, hn, _, _, _, _, _ => absurd hn (by omega)
  | n + 1, i, M, hi, hn, hI, hF, hN, ha, hj => by
    by_cases he : i = lim
    · subst he
      refine ⟨n, M, rfl, ?_, hj⟩
      rw [Nat.sub_self, Nat.mul_zero, Nat.mul_zero]
      exact Mp_fr (Fr.refl _ _) hF
    · obtain ⟨M1, m1, r1, e1⟩ := step n i M (by omega) hI hN hF
      have g1 := (m1.mp (fun a => a = arr))
      have ha1 : mK M1 arr = (ka, lim) := by rw [m1.1.1 arr (by rw [ha]; exact hk)]; exact ha
      have ew : wR ka kc arr (nW i) (b + e * i) M1 = some (sR M1 (up2 (mR M1) arr i (some (b + e * i)))) := by
        have hc := hEk M1 _ r1
        simp (disch := omega) only [wR, ha1, hc, and_self, ↓reduceIte, ix_nW, Option.map_some]
      have F := fq_R M1 i (some (b + e * i)) (not_tz hz)
      have g2 := g1.trans (Mp_fr F m1.2.2)
      have ms : e * (i + 1) = e * i + e := Nat.mul_succ e i
      obtain ⟨n', M', e2, m2, r2⟩ := arr_loop (Inv := Inv) (E := E) hz hb hl hInv hE hEk hk step n (i + 1) (sR M1 (up2 (mR M1) arr i (some (b + e * i)))) (by omega) (by omega) (hInv _ _ hI g2.1) g2.2.2 (by rw [g2.2.1.1, hN]; omega) ha1 (fun j hj' => by
        by_cases q : j = i
        · subst q
          exact ⟨up2_eq _ _ _ _, hE _ _ _ r1 F.gr (by omega)⟩
        · obtain ⟨a1, a2⟩ := hj j (by omega)
          refine ⟨?_, hE _ _ _ a2 g2.1 (by omega)⟩
          show up2 (mR M1) arr i _ arr j = _
          rw [up2_nj _ _ _ _ q, (m1.1.2 arr (by rw [ha]; exact hk) (Or.inr (fun h => h))).2.2.2]; exact a1)
      refine ⟨n', M', ?_, ?_, r2⟩
      · rw [e1, ew]
        simp only [Option.bind_some]
        have : nW i + 1 = nW (i + 1) := nW_add i 1
        rw [this]; exact e2
      · have z1 : e * (lim - i) = e + 0 + e * (lim - (i + 1)) := by
          rw [show lim - i = (lim - (i + 1)) + 1 by omega, Nat.mul_succ]; omega
        have z2 : s * (lim - i) = s + 0 + s * (lim - (i + 1)) := by
          rw [show lim - i = (lim - (i + 1)) + 1 by omega, Nat.mul_succ]; omega
        rw [z1, z2]
        exact g2.trans m2
theorem k99 {M M' : Mem} {P : Nat → Prop} (G : Gr P M M') {a k : Nat} (h : (mK M a).1 = k) (hk : k ≠ 99) : (mK M' a).1 = k := by rw [G.1 a (by rw [h]; exact hk)]; exact h
theorem k99' {M M' : Mem} {P : Nat → Prop} (G : Gr P M M') {a k n : Nat} (h : mK M a = (k, n)) (hk : k ≠ 99) : mK M' a = (k, n) := by rw [G.1 a (by rw [h]; exact hk)]; exact h
theorem r99 {M M' : Mem} {P : Nat → Prop} (G : Gr P M M') {a k : Nat} (h : (mK M a).1 = k) (hk : k ≠ 99) (hp : ¬ P a) : mR M' a = mR M a ∧ mI M' a = mI M a ∧ mF M' a = mF M a := by
  obtain ⟨a1, a2, a3, a4⟩ := G.2 a (by rw [h]; exact hk) (Or.inr hp)
  exact ⟨a4, a1, a3⟩
def l0 : Ls Row := (0, fun _ => ([], fun _ => nW 0))
theorem X4_new {M : Mem} {x : Nat} (hF : F99 M) (hz : 5 ≤ mN M ∧ mN M + 32 ≤ 908) (hx : TextR M x []) : ∃ M1 M', nO 4 3 M = some (mN M, M1) ∧ f_X4_init (mN M) x M1 = some M' ∧ Mk 32 213 M M' ∧ QuR M' (mN M) l0 := by
  obtain ⟨m1, m2, m3, _⟩ := mk_new (k := 4) (n := 0) (s := 3) hF
  have e1 : nO 4 3 M = some (mN M, mkM 4 0 3 M) := nO_ok (by omega)
  have n1 : mN (mkM 4 0 3 M) = mN M + 1 := m1.2.1.1
  generalize mkM 4 0 3 M = M1 at *
  generalize hq : mN M = q at *
  have k1 : (mK M1 q).1 = 4 := by rw [m2]
  obtain ⟨m4, m5, _⟩ := mk_new (k := 20) (n := 30) (s := 30) m1.2.2
  have e3 : nA 20 (nW 30) M1 = some (q + 1, mkM 20 30 30 M1) := by rw [← n1]; exact nA_ok (by omega) (by omega)
  rw [n1] at m5
  have n2 : mN (mkM 20 30 30 M1) = q + 2 := by rw [m4.2.1.1, n1]
  have k2 := k99 m4.1 k1 (by decide)
  have i2 := (r99 m4.1 k1 (by decide) (fun h => h)).2.1
  generalize mkM 20 30 30 M1 = M2 at *
  have p2 := pR_ok (f := 0) k2 (show (mK M2 (q + 1)).1 ≠ 99 by rw [m5]; decide)
  have F3 := fq_R M2 0 (some (q + 1)) (not_tz (show 5 ≤ q ∧ q < 908 by omega))
  have q3 := ((m1.mp (fun a => a = q)).trans (m4.mp _)).trans (Mp_fr F3 m4.2.2)
  have k3 : (mK (sR M2 (up2 (mR M2) q 0 (some (q + 1)))) q).1 = 4 := k2
  have r3 : mR (sR M2 (up2 (mR M2) q 0 (some (q + 1)))) q 0 = some (q + 1) := up2_eq _ _ _ _
  have i3 : mI (sR M2 (up2 (mR M2) q 0 (some (q + 1)))) q = mI M1 q := i2
  have a3 : mK (sR M2 (up2 (mR M2) q 0 (some (q + 1)))) (q + 1) = (20, 30) := m5
  have n3 : mN (sR M2 (up2 (mR M2) q 0 (some (q + 1)))) = q + 2 := n2
  generalize sR M2 (up2 (mR M2) q 0 (some (q + 1))) = M3 at *
  obtain ⟨n', M', e4, m6, r6⟩ := arr_loop (f := fun n i M => f_X4_init_L15 n q x i M) (lim := 30) (e := 1) (s := 6) (arr := q + 1) (b := q + 2) (ka := 20) (kc := 3) (Inv := fun M => TextR M x [] ∧ (mK M q).1 = 4 ∧ mR M q 0 = some (q + 1)) (E := fun M a => (mK M a).1 = 3) (by omega) (by omega) (by omega) (fun M M' h g => ⟨h.1.gr g, k99 g h.2.1 (by decide), by rw [(r99 g h.2.1 (by decide) (by omega)).1]; exact h.2.2⟩) (fun M M' a h g _ => k99 g h (by decide)) (fun _ _ h => h) (by decide) (fun n i M hi hI hN hF => by
    obtain ⟨M4, M5, a1, a2, a3, a4⟩ := X3_new hF (by omega) hI.1
    rw [hN] at a1 a2 a4
    refine ⟨M5, a3, a4.1, ?_⟩
    have n1 : ¬ 30 ≤ i := by omega
    have g0 : gR 4 0 q M = some (q + 1) := by simp only [gR, hI.2.1, ↓reduceIte, hI.2.2]
    simp (disch := omega) only [f_X4_init_L15, nW_lit, nW_le, n1, ↓reduceIte, g0, a1, a2, bindP, Option.bind_some]) FU 0 M3 (by omega) (by simp only [FU]; omega) ⟨hx.gr q3.1, k3, r3⟩ q3.2.2 (by omega) a3 (fun j hj => absurd hj (Nat.not_lt_zero j))
  have q4 := (q3.mono (Q := fun a => a = q ∨ a = q + 1) (fun a h => Or.inl h)).trans (m6.mono (fun a h => Or.inr h))
  have k4 := k99 m6.1 k3 (by decide)
  have r4 := r99 m6.1 k3 (by decide) (show ¬ q = q + 1 by omega)
  refine ⟨M1, M', e1, ?_, q4.mk (fun a h => hF a (by omega)), ⟨k4, by rw [r4.1]; exact r3, k99' m6.1 a3 (by decide)⟩, fun j hj => ?_, by decide, by rw [r4.2.1, i3]; exact m3 2, 0, by decide, by rw [r4.2.1, i3]; exact m3 1, fun j hj => absurd hj (Nat.not_lt_zero j)⟩
  · simp only [f_X4_init, nW_lit, e3, p2, bindP, Option.bind_some]
    refine e4.trans ?_
    simp (disch := omega) only [f_X4_init_L15, nW_lit, nW_le, Nat.le_refl, ↓reduceIte]
  · have := r6 j hj
    rw [Nat.one_mul] at this; exact this
