/-! THE LAW, one call -/
/-- the reference's world lies in the memory -/
def InW (M : Mem) (V : VR) (s : Nat → Int32) (t : Nat → Int64) : Prop := ∀ k, k < 13 → mI M (908 + k) = (VS V s t).1 k ∧ mL M (908 + k) = (VS V s t).2.1 k ∧ mF M (908 + k) = (VS V s t).2.2 k
theorem InW_QW {M : Mem} {V : VR} {s : Nat → Int32} {t : Nat → Int64} (h : InW M V s t) : QW M V s t = M := by
  have w : ∀ {α : Type} (f g : Nat → Nat → α), (∀ k, k < 13 → g (908 + k) = f k) → wsel f g = g := fun f g hh => by
    funext a
    unfold wsel
    by_cases q : 908 ≤ a ∧ a < 921
    · rw [if_pos q]
      have := hh (a - 908) (by omega)
      rw [show 908 + (a - 908) = a by omega] at this
      exact this.symm
    · rw [if_neg q]
  show (wsel _ _, wsel _ _, wsel _ _, M.2.2.2) = M
  rw [w _ _ (fun k hk => (h k hk).1), w _ _ (fun k hk => (h k hk).2.1), w _ _ (fun k hk => (h k hk).2.2)]
theorem InW_self (N : Mem) (V : VR) (s : Nat → Int32) (t : Nat → Int64) : InW (QW N V s t) V s t := fun k hk => ⟨funext fun i => W_mI N _ hk i, funext fun i => W_mL N _ hk i, funext fun i => W_mF N _ hk i⟩
theorem Gr_QW {M : Mem} {V : VR} {s : Nat → Int32} {t : Nat → Int64} : Gr (fun a => 908 ≤ a ∧ a < 921) M (QW M V s t) := by
  have w : ∀ {α : Type} (f g : Nat → Nat → α) (a : Nat), ¬ (908 ≤ a ∧ a < 921) → wsel f g a = g a := fun f g a hh => by
    unfold wsel; rw [if_neg hh]
  refine ⟨fun _ _ => rfl, fun a _ h => ?_⟩
  have h' : ¬ (908 ≤ a ∧ a < 921) := by
    rcases h with h | h
    · simp only [tz] at h; omega
    · exact h
  exact ⟨w _ _ a h', w _ _ a h', w _ _ a h', rfl⟩
/-- what holds before each call -/
def LI (k : Nat) (A : Wh) (M : Mem) : Prop := (∃ V s t, InW M V s t ∧ RfR V s t A) ∧ KR M ∧ mK M 921 = (14, 1) ∧ BrR M A ∧ WI k A ∧ Fz M
def GB (M M' : Mem) : Prop := mN M' ≤ mN M + 4 ∧ mC M' ≤ mC M + 4 ∧ mS M' ≤ mS M + 52
theorem KR_gr {M M' : Mem} {P : Nat → Prop} (h : KR M) (G : Gr P M M') (hP : ∀ a, 908 ≤ a → a < 921 → ¬ P a) : KR M' ∧ ∀ k, k < 13 → mI M' (908 + k) = mI M (908 + k) ∧ mL M' (908 + k) = mL M (908 + k) ∧ mF M' (908 + k) = mF M (908 + k) := by
  obtain ⟨h1, h2, h3⟩ := h
  have kk : ∀ k, k < 13 → (mK M (908 + k)).1 ≠ 99 := fun k hk => by
    by_cases e : k = 0
    · subst e; rw [h1]; decide
    · rw [h2 k (by omega) hk]
      have : k = 1 ∨ k = 2 ∨ k = 3 ∨ k = 4 ∨ k = 5 ∨ k = 6 ∨ k = 7 ∨ k = 8 ∨ k = 9 ∨ k = 10 ∨ k = 11 ∨ k = 12 := by omega
      rcases this with rfl | rfl | rfl | rfl | rfl | rfl | rfl | rfl | rfl | rfl | rfl | rfl <;> decide
  have gg := fun k hk => G.2 (908 + k) (kk k hk) (Or.inr (hP _ (by omega) (by omega)))
  refine ⟨⟨by rw [G.1 908 (kk 0 (by omega))]; exact h1, fun k a b => by rw [G.1 _ (kk k b)]; exact h2 k a b, fun f a hf => by rw [(gg 0 (by omega)).2.2.2]; exact h3 f a hf⟩, fun k hk => ⟨(gg k hk).1, (gg k hk).2.1, (gg k hk).2.2.1⟩⟩
theorem LI_wt {k : Nat} {A : Wh} {M : Mem} (h : LI k A M) : WtR (oS A) := by
  obtain ⟨⟨V, s, t, _, hR⟩, hk, _⟩ := h
  exact ⟨M, s, t, hk, hR.2.2.2.2.2.1⟩
/-- both sides of one call -/
def wr (v : Int32) (M : Mem) : Option (Int32 × Mem) := (wL 921 (0 : Int32) (v.toInt64) M).bind (fun M3 => some ((0 : Int32), M3))
theorem LI_call {cd : Nat → Nat} {f : Mem → Option ((Int32 ⊕ Nat) × Mem)} {g : Mem → Option (Int32 × Mem)} (hO : OpOK cd f g) {k : Nat} {A : Wh} {M : Mem} (h : LI k A M) (hk : k < 512) (hN : mN M ≤ 100000) : ∃ out M1, f M = some (out, M1) ∧ cdo cd out < 9 ∧ GB M M1 ∧ ∀ M2, Gr (fun a => a = 921) M1 M2 → (mN M2 = mN M1 ∧ mC M2 = mC M1 ∧ mS M2 = mS M1) → (Fz M1 → Fz M2) → ∃ b M3 A', g M2 = some (b, M3) ∧ f_X12_thrown 908 M3 = some (nW (cdo cd out), M3) ∧ (∀ v, out = .inl v → b = v) ∧ (mK M3 921 = (14, 1) ∧ mL M3 921 = mL M2 921) ∧ LI (k + 1) A' M3 ∧ GB M M3 := by
  have hw := LI_wt h
  obtain ⟨⟨V, s, t, hI, hR⟩, hK, h921, hB, hW, hF⟩ := h
  obtain ⟨out, M1, A', e, h9, ⟨g1, g2, g3, g4, g5⟩, B1, W1, hr⟩ := hO k M A hk hB hF hN hW hw
  refine ⟨out, M1, e, h9, ⟨g2.2, g3.2, by omega⟩, fun M2 G2 c2 z2 => ?_⟩
  obtain ⟨K1, I1⟩ := KR_gr hK g1 (fun a _ _ => by omega)
  obtain ⟨K2, I2⟩ := KR_gr K1 G2 (fun a _ _ => by omega)
  have hI2 : InW M2 V s t := fun k hk => by
    obtain ⟨a1, a2, a3⟩ := hI k hk
    obtain ⟨b1, b2, b3⟩ := I1 k hk
    obtain ⟨c1, c2, c3⟩ := I2 k hk
    exact ⟨by rw [c1, b1, a1], by rw [c2, b2, a2], by rw [c3, b3, a3]⟩
  have n921 : (mK M 921).1 ≠ 99 := by rw [h921]; decide
  have k1 : mK M1 921 = (14, 1) := by rw [g1.1 921 n921]; exact h921
  have n921' : (mK M1 921).1 ≠ 99 := by rw [k1]; decide
  have k2 : mK M2 921 = (14, 1) := by rw [G2.1 921 n921']; exact k1
  have B2 : BrR M2 A' := B1.gr G2 (fun a _ _ => by omega)
  obtain ⟨b, V', s', t', e2, R', z', hv⟩ := hr M2 V s t K2 hR trivial
  rw [InW_QW hI2] at e2
  have G3 : Gr (fun a => 908 ≤ a ∧ a < 921) M2 (QW M2 V' s' t') := Gr_QW
  have n921'' : (mK M2 921).1 ≠ 99 := by rw [k2]; decide
  refine ⟨b, QW M2 V' s' t', A', e2, ?_, hv, ⟨k2, (G3.2 921 n921'' (Or.inr (by omega))).2.1⟩, ⟨⟨V', s', t', InW_self _ _ _ _, R'⟩, K2, k2, B2.gr G3 (fun a _ _ => by omega), W1, ?_⟩, ?_⟩
  · simp only [f_X12_thrown, q_k K2, ↓reduceIte, q_gI K2, Option.bind_some, z']
  · exact z2 (g5 hF)
  · obtain ⟨d1, d2, d3⟩ := c2
    refine ⟨?_, ?_, ?_⟩
    · show mN M2 ≤ mN M + 4; omega
    · show mC M2 ≤ mC M + 4; omega
    · show mS M2 ≤ mS M + 52; omega
/-- handlers -/
def Hd (cd : Nat → Nat) (hnd : Nat → Mem → Option (Int32 × Mem)) : Prop := ∀ e M, cd e < 9 → hnd e M = some (nW (cd e), M) ∧ cd e ≠ 0
theorem Hd_A (a : Nat) : Hd (cdA a) (fun e9 M1 => if e9 = a then some ((1 : Int32), M1) else none) := fun e M h => by
  unfold cdA at *
  by_cases q : e = a
  · simp only [q, ↓reduceIte]; exact ⟨rfl, by decide⟩
  · rw [if_neg q] at h; omega
theorem Hd_B (a b : Nat) : Hd (cdB a b) (fun e9 M1 => if e9 = a then some ((1 : Int32), M1) else if e9 = b then some ((2 : Int32), M1) else none) := fun e M h => by
  unfold cdB at *
  by_cases q : e = a
  · simp only [q, ↓reduceIte]; exact ⟨rfl, by decide⟩
  · rw [if_neg q] at h
    by_cases q2 : e = b
    · simp only [q, q2, ↓reduceIte]
      rw [q2] at q
      simp only [q, ↓reduceIte]; exact ⟨rfl, by decide⟩
    · rw [if_neg q2] at h; omega
theorem Hd_C (a b c : Nat) : Hd (cdC a b c) (fun e9 M1 => if e9 = a then some ((1 : Int32), M1) else if e9 = b then some ((2 : Int32), M1) else if e9 = c then some ((3 : Int32), M1) else none) := fun e M h => by
  unfold cdC at *
  by_cases q : e = a
  · simp only [q, ↓reduceIte]; exact ⟨rfl, by decide⟩
  · rw [if_neg q] at h
    by_cases q2 : e = b
    · rw [q2] at q
      simp only [q2, q, ↓reduceIte]; exact ⟨rfl, by decide⟩
    · rw [if_neg q2] at h
      by_cases q3 : e = c
      · rw [q3] at q q2
        simp only [q3, q, q2, ↓reduceIte]; exact ⟨rfl, by decide⟩
      · rw [if_neg q3] at h; omega
/-- the law goes on -/
def LStp (k : Nat) (M : Mem) (K : Mem → Option (Int32 × Mem)) (X : Option (Int32 × Mem)) : Prop := ∃ A' M', LI (k + 1) A' M' ∧ GB M M' ∧ X = K M'
theorem LStp_ite {k : Nat} {M : Mem} {K : Mem → Option (Int32 × Mem)} {c : Prop} [Decidable c] {X Y : Option (Int32 × Mem)} (h1 : c → LStp k M K X) (h2 : ¬ c → LStp k M K Y) : LStp k M K (if c then X else Y) := by
  by_cases h : c
  · rw [if_pos h]; exact h1 h
  · rw [if_neg h]; exact h2 h
theorem LStp_none {k : Nat} {A : Wh} {M : Mem} {K : Mem → Option (Int32 × Mem)} (h : LI k A M) : LStp k M K (K M) := by
  obtain ⟨a, b, c, d, e, f⟩ := h
  exact ⟨A, M, ⟨a, b, c, d, e.mono (Nat.le_succ _), f⟩, ⟨by omega, by omega, by omega⟩, rfl⟩
theorem st_X {cd : Nat → Nat} {f : Mem → Option ((Int32 ⊕ Nat) × Mem)} {g fL : Mem → Option (Int32 × Mem)} {hnd : Nat → Mem → Option (Int32 × Mem)} (hO : OpOK cd f g) (hH : Hd cd hnd) (hL : ∀ M, fL M = bindH (f M) wr hnd) {k : Nat} {A : Wh} {M : Mem} {K : Mem → Option (Int32 × Mem)} (h : LI k A M) (hk : k < 512) (hN : mN M ≤ 100000) : LStp k M K (bindP (fL M) (fun v4 M3 => bindP (g M3) (fun v7 M6 => bindP (f_X12_thrown 908 M6) (fun v9 M8 => if v9 = v4 then if v4 = 0 then (aL 921 (0 : Int32) M8).bind (fun v10 => if (lcmpE v10 (v7.toInt64)) = 0 then K M8 else okZ (0 : Int32) M8) else K M8 else okZ (0 : Int32) M8)))) := by
  obtain ⟨out, M1, e, h9, B1, hr⟩ := LI_call hO h hk hN
  cases out with
  | inl v =>
    have hk1 : mK M1 921 = (14, 1) := by
      obtain ⟨_, _, _, _, _, _, ⟨k3, _⟩, _⟩ := hr M1 (Gr.refl _ _) ⟨rfl, rfl, rfl⟩ (fun h => h)
      obtain ⟨b, M3, A', e2, _, _, _, _, _⟩ := hr M1 (Gr.refl _ _) ⟨rfl, rfl, rfl⟩ (fun h => h)
      obtain ⟨out', M1', A1, e1', _, ⟨g1, _⟩, _⟩ := hO k M A hk h.2.2.2.1 h.2.2.2.2.2 hN h.2.2.2.2.1 (LI_wt h)
      have := e.symm.trans e1'
      cases this
      have n : (mK M 921).1 ≠ 99 := by rw [h.2.2.1]; decide
      rw [g1.1 921 n]; exact h.2.2.1
    have ew : wL 921 (0 : Int32) v.toInt64 M1 = some (sL M1 (up2 (mL M1) 921 0 v.toInt64)) := by
      have : ix (0 : Int32) 1 = some 0 := by decide
      simp only [wL, hk1, ↓reduceIte, this, Option.map_some]
    have F := fq_L M1 0 v.toInt64 (show ¬ tz 921 by simp only [tz]; omega)
    obtain ⟨b, M3, A', e2, e3, hv, ⟨k3, l3⟩, L3, B3⟩ := hr _ F.gr ⟨rfl, rfl, rfl⟩ (fun h => h)
    have hb := hv v rfl
    subst hb
    have ea : aL 921 (0 : Int32) M3 = some b.toInt64 := by
      have : ix (0 : Int32) 1 = some 0 := by decide
      simp only [aL, k3, ↓reduceIte, this, Option.map_some, l3]
      show some (up2 (mL M1) 921 0 b.toInt64 921 0) = _
      rw [up2_eq]
    refine ⟨A', M3, L3, B3, ?_⟩
    have e4 : fL M = some ((0 : Int32), sL M1 (up2 (mL M1) 921 0 b.toInt64)) := by
      rw [hL M, e]; simp only [bindH, wr, ew, Option.bind_some]
    have lc : lcmpE b.toInt64 b.toInt64 = (0 : Int32) := (lg_cmp_eq _ _).mpr rfl
    rw [e4]; simp only [bindP]
    rw [e2]; simp only [bindP]
    rw [e3]
    simp only [bindP, cdo]
    have z0 : nW 0 = (0 : Int32) := rfl
    rw [if_pos z0, if_pos trivial, ea]
    simp only [Option.bind_some]
    rw [if_pos lc]
  | inr x =>
    obtain ⟨h1, h2⟩ := hH x M1 h9
    obtain ⟨b, M3, A', e2, e3, hv, ⟨k3, l3⟩, L3, B3⟩ := hr M1 (Gr.refl _ _) ⟨rfl, rfl, rfl⟩ (fun h => h)
    refine ⟨A', M3, L3, B3, ?_⟩
    have e4 : fL M = some (nW (cd x), M1) := by rw [hL M, e]; exact h1
    have h9' : cd x < 9 := h9
    have nz : ¬ nW (cd x) = (0 : Int32) := by
      show ¬ nW (cd x) = nW 0
      rw [nW_inj (by omega) (by omega)]; exact h2
    rw [e4]; simp only [bindP]
    rw [e2]; simp only [bindP]
    rw [e3]
    simp only [bindP, cdo]
    rw [if_pos trivial, if_neg nz]
theorem st_R {f g : Mem → Option (Int32 × Mem)} (hO : OpOK (cdA 0) (asX f) g) {k : Nat} {A : Wh} {M : Mem} {K : Mem → Option (Int32 × Mem)} (h : LI k A M) (hk : k < 512) (hN : mN M ≤ 100000) : LStp k M K (bindP (f M) (fun v3 M2 => bindP (g M2) (fun v5 M4 => if v3 = v5 then K M4 else okZ (0 : Int32) M4))) := by
  obtain ⟨out, M1, e, h9, B1, hr⟩ := LI_call hO h hk hN
  obtain ⟨b, M3, A', e2, e3, hv, ⟨k3, l3⟩, L3, B3⟩ := hr M1 (Gr.refl _ _) ⟨rfl, rfl, rfl⟩ (fun h => h)
  refine ⟨A', M3, L3, B3, ?_⟩
  cases ef : f M with
  | none => simp only [asX, ef, Option.map_none] at e; cases e
  | some p =>
    simp only [asX, ef, Option.map_some, Option.some.injEq, Prod.mk.injEq] at e
    obtain ⟨o1, o2⟩ := e
    have hb := hv p.1 o1.symm
    simp only [bindP]
    rw [o2, e2]
    simp only [bindP]
    rw [if_pos hb.symm]
