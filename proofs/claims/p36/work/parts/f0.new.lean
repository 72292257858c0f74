/-! THE START: cells made one after another -/
def F99 (M : Mem) : Prop := ∀ x, mN M ≤ x → (mK M x).1 = 99
/-- n cells of s slots are made, nothing else changes -/
def Mk (n s : Nat) (M M' : Mem) : Prop := Gr (fun _ => False) M M' ∧ (mN M' = mN M + n ∧ mC M' = mC M + n ∧ mS M' = mS M + s) ∧ F99 M'
/-- .. cells of P change too -/
def Mp (P : Nat → Prop) (n s : Nat) (M M' : Mem) : Prop := Gr P M M' ∧ (mN M' = mN M + n ∧ mC M' = mC M + n ∧ mS M' = mS M + s) ∧ F99 M'
theorem Mk.mp {n s : Nat} {M M' : Mem} (P : Nat → Prop) (h : Mk n s M M') : Mp P n s M M' := ⟨⟨h.1.1, fun a k e => h.1.2 a k (Or.inr (fun f => f))⟩, h.2⟩
theorem Mp.trans {P : Nat → Prop} {n s n' s' : Nat} {M M' M'' : Mem} (h : Mp P n s M M') (g : Mp P n' s' M' M'') : Mp P (n + n') (s + s') M M'' := by
  obtain ⟨h1, ⟨h2, h3, h4⟩, h5⟩ := h
  obtain ⟨g1, ⟨g2, g3, g4⟩, g5⟩ := g
  exact ⟨h1.trans g1, ⟨by omega, by omega, by omega⟩, g5⟩
theorem Mp.mono {P Q : Nat → Prop} {n s : Nat} {M M' : Mem} (h : Mp P n s M M') (hq : ∀ a, P a → Q a) : Mp Q n s M M' := ⟨⟨h.1.1, fun a k e => h.1.2 a k (e.elim Or.inl (fun f => Or.inr (fun p => f (hq a p))))⟩, h.2⟩
/-- what is changed was not there before -/
theorem Mp.mk {P : Nat → Prop} {n s : Nat} {M M' : Mem} (h : Mp P n s M M') (hp : ∀ a, P a → (mK M a).1 = 99) : Mk n s M M' := ⟨⟨h.1.1, fun a k _ => h.1.2 a k (Or.inr (fun p => k (hp a p)))⟩, h.2⟩
theorem Mp_fr {P : Nat → Prop} {M M' : Mem} (F : Fr P M M') (hF : F99 M) : Mp P 0 0 M M' := by
  obtain ⟨h1, ⟨h2, h3, h4⟩, h5⟩ := F
  exact ⟨⟨fun a _ => by rw [h1], fun a _ => h5 a⟩, ⟨by omega, by omega, by omega⟩, fun x hx => by rw [h1]; exact hF x (by omega)⟩
theorem mk_new {k n s : Nat} {M : Mem} (hF : F99 M) : Mk 1 s M (mkM k n s M) ∧ mK (mkM k n s M) (mN M) = (k, n) ∧ (∀ j, mI (mkM k n s M) (mN M) j = nW 0) ∧ (∀ j, mL (mkM k n s M) (mN M) j = 0) ∧ ∀ j, mF (mkM k n s M) (mN M) j = 0 := by
  have ne : ∀ a, (mK M a).1 ≠ 99 → a ≠ mN M := fun a h e => h (by rw [e]; exact hF _ (Nat.le_refl _))
  refine ⟨⟨⟨fun a h => ?_, fun a h _ => ?_⟩, ⟨rfl, rfl, rfl⟩, fun x hx => ?_⟩, ?_, fun j => cl2_eq _ _ _ _, fun j => cl2_eq _ _ _ _, fun j => cl2_eq _ _ _ _⟩
  · show (if a = mN M then (k, n) else mK M a) = _
    rw [if_neg (ne a h)]
  · exact ⟨funext fun j => cl2_ne _ _ _ (ne a h), funext fun j => cl2_ne _ _ _ (ne a h), funext fun j => cl2_ne _ _ _ (ne a h), funext fun j => cl2_ne _ _ _ (ne a h)⟩
  · have hx' : mN M + 1 ≤ x := hx
    show (if x = mN M then (k, n) else mK M x).1 = 99
    rw [if_neg (by omega)]; exact hF x (by omega)
  · show (if mN M = mN M then (k, n) else mK M (mN M)) = _
    rw [if_pos rfl]
theorem not_tz {a : Nat} (h : 5 ≤ a ∧ a < 908) : ¬ tz a := by simp only [tz]; omega
theorem F99.at {M : Mem} (h : F99 M) {x : Nat} (hx : mN M ≤ x) : (mK M x).1 = 99 := h x hx
theorem pR_ok {k f a x : Nat} {M : Mem} (ha : (mK M a).1 = k) (hx : (mK M x).1 ≠ 99) : pR k f a x M = some (sR M (up2 (mR M) a f (some x))) := if_pos ⟨ha, hx⟩
/-- an object of one link to the blank text -/
theorem X1_new {M : Mem} {x : Nat} (hF : F99 M) (hz : 5 ≤ mN M ∧ mN M < 908) (hx : TextR M x []) : ∃ M1 M', nO 1 7 M = some (mN M, M1) ∧ f_X1_init (mN M) x M1 = some M' ∧ Mk 1 7 M M' ∧ MsR M' (mN M) ([], fun _ => nW 0) := by
  obtain ⟨m1, m2, m3, m4, m5⟩ := mk_new (k := 1) (n := 0) (s := 7) hF
  have e1 : nO 1 7 M = some (mN M, mkM 1 0 7 M) := nO_ok (by omega)
  have hx1 := hx.gr m1.1
  generalize mkM 1 0 7 M = M1 at *
  have hkx : (mK M1 x).1 = 10 := hx1.2.1.1
  have F := fq_R M1 0 (some x) (not_tz hz)
  have k1 : (mK M1 (mN M)).1 = 1 := by rw [m2]
  refine ⟨M1, _, e1, by simp only [f_X1_init, pR_ok k1 (show (mK M1 x).1 ≠ 99 by rw [hkx]; decide), Option.bind_some], ((m1.mp _).trans (Mp_fr F m1.2.2)).mk (fun a h => by rw [h]; exact hF _ (Nat.le_refl _)), k1, ⟨m3 1, m3 2, m3 3, m3 4, m3 5, m3 6⟩, x, up2_eq _ _ _ _, hx1.gr F.gr⟩
theorem X3_new {M : Mem} {x : Nat} (hF : F99 M) (hz : 5 ≤ mN M ∧ mN M < 908) (hx : TextR M x []) : ∃ M1 M', nO 3 6 M = some (mN M, M1) ∧ f_X3_init (mN M) x M1 = some M' ∧ Mk 1 6 M M' ∧ PkR M' (mN M) ([], fun _ => nW 0) := by
  obtain ⟨m1, m2, m3, m4, m5⟩ := mk_new (k := 3) (n := 0) (s := 6) hF
  have e1 : nO 3 6 M = some (mN M, mkM 3 0 6 M) := nO_ok (by omega)
  have hx1 := hx.gr m1.1
  generalize mkM 3 0 6 M = M1 at *
  have hkx : (mK M1 x).1 = 10 := hx1.2.1.1
  have F := fq_R M1 5 (some x) (not_tz hz)
  have k1 : (mK M1 (mN M)).1 = 3 := by rw [m2]
  refine ⟨M1, _, e1, by simp only [f_X3_init, pR_ok k1 (show (mK M1 x).1 ≠ 99 by rw [hkx]; decide), Option.bind_some], ((m1.mp _).trans (Mp_fr F m1.2.2)).mk (fun a h => by rw [h]; exact hF _ (Nat.le_refl _)), k1, ⟨m3 0, m3 1, m3 2, m3 3, m3 4⟩, x, up2_eq _ _ _ _, hx1.gr F.gr⟩
theorem X8_new {M : Mem} {x : Nat} (hF : F99 M) (hz : 5 ≤ mN M ∧ mN M < 908) (hx : TextR M x []) : ∃ M1 M', nO 8 4 M = some (mN M, M1) ∧ f_X8_init (mN M) x M1 = some M' ∧ Mk 1 4 M M' ∧ SuR M' (mN M) ([], fun _ => nW 0) := by
  obtain ⟨m1, m2, m3, m4, m5⟩ := mk_new (k := 8) (n := 0) (s := 4) hF
  have e1 : nO 8 4 M = some (mN M, mkM 8 0 4 M) := nO_ok (by omega)
  have hx1 := hx.gr m1.1
  generalize mkM 8 0 4 M = M1 at *
  have hkx : (mK M1 x).1 = 10 := hx1.2.1.1
  have F := fq_R M1 0 (some x) (not_tz hz)
  have k1 : (mK M1 (mN M)).1 = 8 := by rw [m2]
  refine ⟨M1, _, e1, by simp only [f_X8_init, pR_ok k1 (show (mK M1 x).1 ≠ 99 by rw [hkx]; decide), Option.bind_some], ((m1.mp _).trans (Mp_fr F m1.2.2)).mk (fun a h => by rw [h]; exact hF _ (Nat.le_refl _)), k1, ⟨m3 1, m3 2, m3 3⟩, x, up2_eq _ _ _ _, hx1.gr F.gr⟩
theorem X6_new {M : Mem} {x : Nat} (hF : F99 M) (hz : 5 ≤ mN M ∧ mN M + 1 < 908) (hx : TextR M x []) : ∃ M1 M', nO 6 4 M = some (mN M, M1) ∧ f_X6_init (mN M) x M1 = some M' ∧ Mk 2 10 M M' ∧ ShK M' (mN M) := by
  obtain ⟨m1, m2, _⟩ := mk_new (k := 6) (n := 0) (s := 4) hF
  have e1 : nO 6 4 M = some (mN M, mkM 6 0 4 M) := nO_ok (by omega)
  have n1 : mN (mkM 6 0 4 M) = mN M + 1 := m1.2.1.1
  have hx1 := hx.gr m1.1
  generalize mkM 6 0 4 M = M1 at *
  have hkx : (mK M1 x).1 = 10 := hx1.2.1.1
  have F1 := fq_R M1 0 (some x) (not_tz (show 5 ≤ mN M ∧ mN M < 908 by omega))
  have k1 : (mK M1 (mN M)).1 = 6 := by rw [m2]
  have p1 := pR_ok (f := 0) k1 (show (mK M1 x).1 ≠ 99 by rw [hkx]; decide)
  have q1 := (m1.mp (fun a => a = mN M)).trans (Mp_fr F1 m1.2.2)
  have k2 : (mK (sR M1 (up2 (mR M1) (mN M) 0 (some x))) (mN M)).1 = 6 := k1
  have n2 : mN (sR M1 (up2 (mR M1) (mN M) 0 (some x))) = mN M + 1 := n1
  generalize sR M1 (up2 (mR M1) (mN M) 0 (some x)) = M2 at *
  obtain ⟨m3, m4, _⟩ := mk_new (k := 13) (n := 6) (s := 6) q1.2.2
  have e3 : nA 13 (nW 6) M2 = some (mN M + 1, mkM 13 6 6 M2) := by rw [← n2]; exact nA_ok (by omega) (by omega)
  rw [n2] at m4
  have k3 : (mK (mkM 13 6 6 M2) (mN M)).1 = 6 := by rw [m3.1.1 _ (by rw [k2]; decide)]; exact k2
  generalize mkM 13 6 6 M2 = M3 at *
  have p2 := pR_ok (f := 2) k3 (show (mK M3 (mN M + 1)).1 ≠ 99 by rw [m4]; decide)
  have F3 := fq_R M3 2 (some (mN M + 1)) (not_tz (show 5 ≤ mN M ∧ mN M < 908 by omega))
  have q3 := (q1.trans (m3.mp _)).trans (Mp_fr F3 m3.2.2)
  refine ⟨M1, _, e1, by simp only [f_X6_init, nW_lit, p1, e3, p2, bindP, Option.bind_some], q3.mk (fun a h => by rw [h]; exact hF _ (Nat.le_refl _)), k3, up2_eq _ _ _ _, m4⟩
