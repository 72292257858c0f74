/-! a state, made -/
def sc0 (i : Nat) : Int32 := if i = 10 then nW 3 else if i = 12 then nW 20 else nW 0
def sg0 : Sg := (sc0, fun _ => cl0, [], l0, ta0)
theorem X7_init_L132 {S x : Nat} (hz : 5 ≤ S ∧ S + 450 ≤ 908) : ∀ n i M, i ≤ 4 → 4 - i < n → F99 M → ((mK M S).1 = 7 ∧ mR M S 6 = some (S + 444) ∧ mK M (S + 444) = (13, 4)) → (∀ j, j < i → mI M (S + 444) j = optRow 2 j) → ∃ n' M', f_X7_init_L132 n S x (nW i) M = f_X7_init_L132 (n' + 1) S x (nW 4) M' ∧ Mp (fun a => a = S + 444) 0 0 M M' ∧ ∀ j, j < 4 → mI M' (S + 444) j = optRow 2 j
  | 0, i, M, _, hn, _, _, _ => absurd hn (by omega)
  | n + 1, i, M, hi, hn, hF, ⟨t1, t2, t3⟩, hj => by
    by_cases he : i = 4
    · subst he
      exact ⟨n, M, rfl, Mp_fr (Fr.refl _ _) hF, hj⟩
    · have n1 : ¬ 4 ≤ i := by omega
      have g0 : gR 7 6 S M = some (S + 444) := by simp only [gR, t1, ↓reduceIte, t2]
      have es : stI 2 (nW i) = some (optRow 2 i) := by simp (disch := omega) only [stI, ix_nW, Option.map_some]
      have ew : wI 13 (S + 444) (nW i) (optRow 2 i) M = some (sI M (up2 (mI M) (S + 444) i (optRow 2 i))) := by
        simp (disch := omega) only [wI, t3, ↓reduceIte, ix_nW, Option.map_some, nar13]
      have F := fq_I M i (optRow 2 i) (not_tz (show 5 ≤ S + 444 ∧ S + 444 < 908 by omega))
      have q := Mp_fr F hF
      obtain ⟨n', M', e, m, r⟩ := X7_init_L132 (x := x) hz n (i + 1) (sI M (up2 (mI M) (S + 444) i (optRow 2 i))) (by omega) (by omega) q.2.2 ⟨t1, t2, t3⟩ (fun j hj' => by
        show up2 (mI M) (S + 444) i (optRow 2 i) (S + 444) j = _
        by_cases z : j = i
        · subst z; exact up2_eq _ _ _ _
        · rw [up2_nj _ _ _ _ z]; exact hj j (by omega))
      refine ⟨n', M', ?_, q.trans m, r⟩
      rw [← e]
      conv => lhs; rw [f_X7_init_L132]
      simp (disch := omega) only [nW_lit, nW_le, n1, ↓reduceIte, g0, es, ew, Option.bind_some, nW_add]
theorem Mp.drop {P Q : Nat → Prop} {n s : Nat} {M M' : Mem} (h : Mp P n s M M') (hp : ∀ a, P a → Q a ∨ (mK M a).1 = 99) : Mp Q n s M M' := ⟨⟨h.1.1, fun a k e => h.1.2 a k (e.elim Or.inl (fun q => Or.inr (fun p => (hp a p).elim q k)))⟩, h.2⟩
theorem X7_A {M : Mem} {x S : Nat} (hF : F99 M) (hz : 5 ≤ S ∧ S + 450 ≤ 908) (hq : mN M = S) (hx : TextR M x []) : ∃ M1 w M5, nO 7 11 M = some (S, M1) ∧ f_X7_init S x M1 = f_X7_init_L20 (w + 1) S x (nW 6) M5 ∧ Mk 362 2579 M M5 ∧ (mN M5 = S + 362 ∧ (mK M5 S).1 = 7 ∧ (∀ j, mI M5 S j = nW 0)) ∧ (mR M5 S 0 = some x ∧ mR M5 S 1 = some (S + 1)) ∧ mK M5 (S + 1) = (18, 6) ∧ ∀ c, c < 6 → mR M5 (S + 1) c = some (S + 2 + 60 * c) ∧ ClR M5 (S + 2 + 60 * c) cl0 := by
  have hx10 : ∀ {N : Mem}, TextR N x [] → (mK N x).1 ≠ 99 := fun h => by rw [h.2.1.1]; decide
  obtain ⟨M1, e1, m1, n1, k1, i1, _⟩ := nO_new 7 11 hF (by omega)
  rw [hq] at e1 k1 i1 n1
  have k1 : (mK M1 S).1 = 7 := by rw [k1]
  obtain ⟨M2, e2, m2, n2, kk2, ii2, _, x2, y2⟩ := own_pR (k := 7) (s := S) (x := x) 0 (by omega) m1.2.2 k1 (hx10 (hx.gr m1.1))
  have k2 : (mK M2 S).1 = 7 := by rw [kk2]; exact k1
  have q2 := (m1.mp (fun a => a = S)).trans m2
  -- the clients
  obtain ⟨M3, e3, m3, n3, k3, _⟩ := nA_new 18 6 m2.2.2 (by omega) (by omega)
  rw [n2, n1] at e3 k3 n3
  have s3 := r99 m3.1 k2 (by decide) (fun h => h)
  obtain ⟨M4, e4, m4, n4, kk4, ii4, _, x4, y4⟩ := own_pR (k := 7) (s := S) (x := S + 1) 1 (by omega) m3.2.2 (k99 m3.1 k2 (by decide)) (by rw [k3]; decide)
  have k4 : (mK M4 S).1 = 7 := by rw [kk4]; exact k99 m3.1 k2 (by decide)
  have a4 : mK M4 (S + 1) = (18, 6) := by rw [kk4]; exact k3
  have q4 := (q2.trans (m3.mp _)).trans m4
  obtain ⟨w5, M5, e5, m5, r5⟩ := arr_loop (f := fun n i M => f_X7_init_L20 n S x i M) (lim := 6) (e := 60) (s := 427) (arr := S + 1) (b := S + 2) (ka := 18) (kc := 0) (Inv := fun M => TextR M x [] ∧ (mK M S).1 = 7 ∧ mR M S 1 = some (S + 1)) (E := fun M a => ClR M a cl0) (by omega) (by omega) (by omega) (fun M M' h g => ⟨h.1.gr g, k99 g h.2.1 (by decide), by rw [(r99 g h.2.1 (by decide) (by omega)).1]; exact h.2.2⟩) (fun M M' a h g ha => h.gr g (fun b _ _ => by omega)) (fun _ _ h => h.1.1.1) (by decide) (fun n i M hi hI hN hF => by
    obtain ⟨M4, M5, a1, a2, a3, a4⟩ := X0_new hF (by omega) hI.1
    rw [hN] at a1 a2 a4
    refine ⟨M5, a3, a4, ?_⟩
    have n1 : ¬ 6 ≤ i := by omega
    have g0 : gR 7 1 S M = some (S + 1) := by simp only [gR, hI.2.1, ↓reduceIte, hI.2.2]
    simp (disch := omega) only [f_X7_init_L20, nW_lit, nW_le, n1, ↓reduceIte, g0, a1, a2, bindP, Option.bind_some]) FU 0 M4 (by omega) (by simp only [FU]; omega) ⟨hx.gr q4.1, k4, x4⟩ q4.2.2 (by omega) a4 (fun j hj => absurd hj (Nat.not_lt_zero j))
  have q5 := (q4.mono (Q := fun a => a = S ∨ a = S + 1) (fun a h => Or.inl h)).trans (m5.mono (fun a h => Or.inr h))
  have k5 := k99 m5.1 k4 (by decide)
  have s5 := r99 m5.1 k4 (by decide) (show ¬ S = S + 1 by omega)
  have n5 : mN M5 = S + 362 := by rw [m5.2.1.1, n4, n3]
  refine ⟨M1, w5, M5, e1, ?_, q5.mk (fun a h => hF a (by omega)), ⟨n5, k5, fun j => by rw [s5.2.1, ii4, s3.2.1, ii2]; exact i1 j⟩, ⟨by rw [s5.1, y4 0 (by omega), s3.1]; exact x2, by rw [s5.1]; exact x4⟩, k99' m5.1 a4 (by decide), r5⟩
  simp only [f_X7_init, nW_lit, e2, e3, e4, bindP, Option.bind_some]
  exact e5
theorem X7_B {M5 : Mem} {x S w5 : Nat} (hF : F99 M5) (hz : 5 ≤ S ∧ S + 450 ≤ 908) (n5 : mN M5 = S + 362) (hx : TextR M5 x []) (k5 : (mK M5 S).1 = 7) : ∃ w M8, f_X7_init_L20 (w5 + 1) S x (nW 6) M5 = f_X7_init_L57 (w + 1) S x (nW 36) M8 ∧ Mp (fun a => a = S) 73 396 M5 M8 ∧ (mN M8 = S + 435 ∧ mI M8 S = mI M5 S) ∧ (mR M8 S 2 = some (S + 362) ∧ ∀ j, j ≠ 2 → mR M8 S j = mR M5 S j) ∧ mK M8 (S + 362) = (21, 36) ∧ ∀ j, j < 36 → mR M8 (S + 362) j = some (S + 363 + 2 * j) ∧ ShK M8 (S + 363 + 2 * j) := by
  obtain ⟨M6, e6, m6, n6, k6, _⟩ := nA_new 21 36 hF (by omega) (by omega)
  rw [n5] at e6 k6 n6
  have s6 := r99 m6.1 k5 (by decide) (fun h => h)
  obtain ⟨M7, e7, m7, n7, kk7, ii7, _, x7, y7⟩ := own_pR (k := 7) (s := S) (x := S + 362) 2 (by omega) m6.2.2 (k99 m6.1 k5 (by decide)) (by rw [k6]; decide)
  have k7 : (mK M7 S).1 = 7 := by rw [kk7]; exact k99 m6.1 k5 (by decide)
  have a7 : mK M7 (S + 362) = (21, 36) := by rw [kk7]; exact k6
  have q57 := (m6.mp (fun a => a = S)).trans m7
  obtain ⟨w8, M8, e8, m8, r8⟩ := arr_loop (f := fun n i M => f_X7_init_L57 n S x i M) (lim := 36) (e := 2) (s := 10) (arr := S + 362) (b := S + 363) (ka := 21) (kc := 6) (Inv := fun M => TextR M x [] ∧ (mK M S).1 = 7 ∧ mR M S 2 = some (S + 362)) (E := fun M a => ShK M a) (by omega) (by omega) (by omega) (fun M M' h g => ⟨h.1.gr g, k99 g h.2.1 (by decide), by rw [(r99 g h.2.1 (by decide) (by omega)).1]; exact h.2.2⟩) (fun M M' a h g ha => h.gr g (by omega)) (fun _ _ h => h.1) (by decide) (fun n i M hi hI hN hF => by
    obtain ⟨M4, M5, a1, a2, a3, a4⟩ := X6_new hF (by omega) hI.1
    rw [hN] at a1 a2 a4
    refine ⟨M5, a3, a4, ?_⟩
    have n1 : ¬ 36 ≤ i := by omega
    have g0 : gR 7 2 S M = some (S + 362) := by simp only [gR, hI.2.1, ↓reduceIte, hI.2.2]
    simp (disch := omega) only [f_X7_init_L57, nW_lit, nW_le, n1, ↓reduceIte, g0, a1, a2, bindP, Option.bind_some]) FU 0 M7 (by omega) (by simp only [FU]; omega) ⟨hx.gr q57.1, k7, x7⟩ q57.2.2 (by omega) a7 (fun j hj => absurd hj (Nat.not_lt_zero j))
  have q58 := (q57.mono (Q := fun a => a = S ∨ a = S + 362) (fun a h => Or.inl h)).trans (m8.mono (fun a h => Or.inr h))
  have k8 := k99 m8.1 k7 (by decide)
  have s8 := r99 m8.1 k7 (by decide) (show ¬ S = S + 362 by omega)
  have n8 : mN M8 = S + 435 := by rw [m8.2.1.1, n7, n6]
  refine ⟨w8, M8, ?_, q58.drop (fun a h => h.elim Or.inl (fun h => Or.inr (hF a (by omega)))), ⟨n8, by rw [s8.2.1, ii7, s6.2.1]⟩, ⟨by rw [s8.1]; exact x7, fun j hj => by rw [s8.1, y7 j hj, s6.1]⟩, k99' m8.1 a7 (by decide), r8⟩
  simp (disch := omega) only [f_X7_init_L20, nW_lit, nW_le, Nat.le_refl, ↓reduceIte, e6, e7, bindP, Option.bind_some]
  exact e8
theorem X7_C {M8 : Mem} {x S w8 : Nat} (hF : F99 M8) (hz : 5 ≤ S ∧ S + 450 ≤ 908) (n8 : mN M8 = S + 435) (hx : TextR M8 x []) (k8 : (mK M8 S).1 = 7) : ∃ w M11, f_X7_init_L57 (w8 + 1) S x (nW 36) M8 = f_X7_init_L94 (w + 1) S x (nW 8) M11 ∧ Mp (fun a => a = S) 9 64 M8 M11 ∧ (mN M11 = S + 444 ∧ mI M11 S = mI M8 S) ∧ (mR M11 S 4 = some (S + 435) ∧ ∀ j, j ≠ 4 → mR M11 S j = mR M8 S j) ∧ mK M11 (S + 435) = (19, 8) ∧ ∀ j, j < 8 → mR M11 (S + 435) j = some (S + 436 + 1 * j) ∧ (mK M11 (S + 436 + 1 * j)).1 = 1 := by
  obtain ⟨M9, e9, m9, n9, k9, _⟩ := nA_new 19 8 hF (by omega) (by omega)
  rw [n8] at e9 k9 n9
  have s9 := r99 m9.1 k8 (by decide) (fun h => h)
  obtain ⟨M10, e10, m10, n10, kk10, ii10, _, x10, y10⟩ := own_pR (k := 7) (s := S) (x := S + 435) 4 (by omega) m9.2.2 (k99 m9.1 k8 (by decide)) (by rw [k9]; decide)
  have k10 : (mK M10 S).1 = 7 := by rw [kk10]; exact k99 m9.1 k8 (by decide)
  have a10 : mK M10 (S + 435) = (19, 8) := by rw [kk10]; exact k9
  have q810 := (m9.mp (fun a => a = S)).trans m10
  have hx10' := hx.gr q810.1
  obtain ⟨w11, M11, e11, m11, r11⟩ := arr_loop (f := fun n i M => f_X7_init_L94 n S x i M) (lim := 8) (e := 1) (s := 7) (arr := S + 435) (b := S + 436) (ka := 19) (kc := 1) (Inv := fun M => TextR M x [] ∧ (mK M S).1 = 7 ∧ mR M S 4 = some (S + 435)) (E := fun M a => (mK M a).1 = 1) (by omega) (by omega) (by omega) (fun M M' h g => ⟨h.1.gr g, k99 g h.2.1 (by decide), by rw [(r99 g h.2.1 (by decide) (by omega)).1]; exact h.2.2⟩) (fun M M' a h g ha => k99 g h (by decide)) (fun _ _ h => h) (by decide) (fun n i M hi hI hN hF => by
    obtain ⟨M4, M5, a1, a2, a3, a4⟩ := X1_new hF (by omega) hI.1
    rw [hN] at a1 a2 a4
    refine ⟨M5, a3, a4.1, ?_⟩
    have n1 : ¬ 8 ≤ i := by omega
    have g0 : gR 7 4 S M = some (S + 435) := by simp only [gR, hI.2.1, ↓reduceIte, hI.2.2]
    simp (disch := omega) only [f_X7_init_L94, nW_lit, nW_le, n1, ↓reduceIte, g0, a1, a2, bindP, Option.bind_some]) FU 0 M10 (by omega) (by simp only [FU]; omega) ⟨hx10', k10, x10⟩ q810.2.2 (by omega) a10 (fun j hj => absurd hj (Nat.not_lt_zero j))
  have q811 := (q810.mono (Q := fun a => a = S ∨ a = S + 435) (fun a h => Or.inl h)).trans (m11.mono (fun a h => Or.inr h))
  have k11 := k99 m11.1 k10 (by decide)
  have s11 := r99 m11.1 k10 (by decide) (show ¬ S = S + 435 by omega)
  have n11 : mN M11 = S + 444 := by rw [m11.2.1.1, n10, n9]
  refine ⟨w11, M11, ?_, q811.drop (fun a h => h.elim Or.inl (fun h => Or.inr (hF a (by omega)))), ⟨n11, by rw [s11.2.1, ii10, s9.2.1]⟩, ⟨by rw [s11.1]; exact x10, fun j hj => by rw [s11.1, y10 j hj, s9.1]⟩, k99' m11.1 a10 (by decide), r11⟩
  simp (disch := omega) only [f_X7_init_L57, nW_lit, nW_le, Nat.le_refl, ↓reduceIte, e9, e10, bindP, Option.bind_some]
  exact e11
theorem X7_D {M11 : Mem} {x S w11 : Nat} (hF : F99 M11) (hz : 5 ≤ S ∧ S + 450 ≤ 908) (n11 : mN M11 = S + 444) (k11 : (mK M11 S).1 = 7) : ∃ w M14, f_X7_init_L94 (w11 + 1) S x (nW 8) M11 = f_X7_init_L132 (w + 1) S x (nW 4) M14 ∧ Mp (fun a => a = S) 1 4 M11 M14 ∧ (mN M14 = S + 445 ∧ mI M14 S = mI M11 S) ∧ (mR M14 S 6 = some (S + 444) ∧ ∀ j, j ≠ 6 → mR M14 S j = mR M11 S j) ∧ mK M14 (S + 444) = (13, 4) ∧ ∀ j, j < 4 → mI M14 (S + 444) j = optRow 2 j := by
  obtain ⟨M12, e12, m12, n12, k12, _⟩ := nA_new 13 4 hF (by omega) (by omega)
  rw [n11] at e12 k12 n12
  have s12 := r99 m12.1 k11 (by decide) (fun h => h)
  obtain ⟨M13, e13, m13, n13, kk13, ii13, _, x13, y13⟩ := own_pR (k := 7) (s := S) (x := S + 444) 6 (by omega) m12.2.2 (k99 m12.1 k11 (by decide)) (by rw [k12]; decide)
  have k13 : (mK M13 S).1 = 7 := by rw [kk13]; exact k99 m12.1 k11 (by decide)
  have a13 : mK M13 (S + 444) = (13, 4) := by rw [kk13]; exact k12
  obtain ⟨w14, M14, e14, m14, r14⟩ := X7_init_L132 (S := S) (x := x) hz FU 0 M13 (by omega) (by simp only [FU]; omega) m13.2.2 ⟨k13, x13, a13⟩ (fun j hj => absurd hj (Nat.not_lt_zero j))
  have q1114 := ((m12.mp (fun a => a = S ∨ a = S + 444)).trans (m13.mono (fun a h => Or.inl h))).trans (m14.mono (fun a h => Or.inr h))
  have k14 := k99 m14.1 k13 (by decide)
  have s14 := r99 m14.1 k13 (by decide) (show ¬ S = S + 444 by omega)
  have n14 : mN M14 = S + 445 := by rw [m14.2.1.1, n13, n12]
  refine ⟨w14, M14, ?_, q1114.drop (fun a h => h.elim Or.inl (fun h => Or.inr (hF a (by omega)))), ⟨n14, by rw [s14.2.1, ii13, s12.2.1]⟩, ⟨by rw [s14.1]; exact x13, fun j hj => by rw [s14.1, y13 j hj, s12.1]⟩, k99' m14.1 a13 (by decide), r14⟩
  simp (disch := omega) only [f_X7_init_L94, nW_lit, nW_le, Nat.le_refl, ↓reduceIte, e12, e13, bindP, Option.bind_some]
  exact e14
theorem X7_E {M14 : Mem} {x S w14 : Nat} (hF : F99 M14) (hz : 5 ≤ S ∧ S + 450 ≤ 908) (n14 : mN M14 = S + 445) (hx14 : TextR M14 x []) (k14 : (mK M14 S).1 = 7) : ∃ M22, f_X7_init_L132 (w14 + 1) S x (nW 4) M14 = some M22 ∧ Mp (fun a => a = S) 5 1044 M14 M22 ∧ mI M22 S = mI M14 S ∧ ((mR M22 S 7 = some (S + 445) ∧ mR M22 S 8 = some (S + 446) ∧ mR M22 S 10 = some (S + 449)) ∧ ∀ j, j ≠ 10 → j ≠ 8 → j ≠ 7 → mR M22 S j = mR M14 S j) ∧ (mK M22 (S + 445) = (13, 10) ∧ ∀ i, mI M22 (S + 445) i = nW 0) ∧ TalR M22 (S + 446) ta0 ∧ (mK M22 (S + 449)).1 = 1 := by
  obtain ⟨M15, e15, m15, n15, k15, i15, _⟩ := nA_new 13 10 hF (by omega) (by omega)
  rw [n14] at e15 k15 n15 i15
  have s15 := r99 m15.1 k14 (by decide) (fun h => h)
  obtain ⟨M16, e16, m16, n16, kk16, ii16, _, x16, y16⟩ := own_pR (k := 7) (s := S) (x := S + 445) 7 (by omega) m15.2.2 (k99 m15.1 k14 (by decide)) (by rw [k15]; decide)
  have k16 : (mK M16 S).1 = 7 := by rw [kk16]; exact k99 m15.1 k14 (by decide)
  have q1416 := (m15.mp (fun a => a = S)).trans m16
  have hx16 := hx14.gr q1416.1
  have n16' : mN M16 = S + 446 := by rw [n16, n15]
  -- the counts of topics
  obtain ⟨M17, M18, e17, e18, m18, T18⟩ := X9_new q1416.2.2 (by omega) hx16
  rw [n16'] at e17 e18 T18
  have s18 := r99 m18.1 k16 (by decide) (fun h => h)
  have k18 := k99 m18.1 k16 (by decide)
  obtain ⟨M19, e19, m19, n19, kk19, ii19, _, x19, y19⟩ := own_pR (k := 7) (s := S) (x := S + 446) 8 (by omega) m18.2.2 k18 (by rw [T18.1.1]; decide)
  have k19 : (mK M19 S).1 = 7 := by rw [kk19]; exact k18
  have q1619 := (m18.mp (fun a => a = S)).trans m19
  have n19' : mN M19 = S + 449 := by rw [n19, m18.2.1.1, n16']
  have T19 := T18.gr m19.1 (by omega)
  -- the draft
  obtain ⟨M20, M21, e20, e21, m21, D21⟩ := X1_new q1619.2.2 (by omega) (hx16.gr q1619.1)
  rw [n19'] at e20 e21 D21
  have s21 := r99 m21.1 k19 (by decide) (fun h => h)
  have k21 := k99 m21.1 k19 (by decide)
  obtain ⟨M22, e22, m22, n22, kk22, ii22, _, x22, y22⟩ := own_pR (k := 7) (s := S) (x := S + 449) 10 (by omega) m21.2.2 k21 (by rw [D21.1]; decide)
  have k22 : (mK M22 S).1 = 7 := by rw [kk22]; exact k21
  have q1922 := (m21.mp (fun a => a = S)).trans m22
  have g1622 := q1619.trans q1922
  have a16 : mK M16 (S + 445) = (13, 10) := by rw [kk16]; exact k15
  have R0 : ∀ j, j ≠ 10 → mR M22 S j = mR M19 S j := fun j h => by rw [y22 j h, s21.1]
  have R1 : ∀ j, j ≠ 10 → j ≠ 8 → mR M22 S j = mR M16 S j := fun j h h' => by rw [R0 j h, y19 j h', s18.1]
  refine ⟨M22, ?_, q1416.trans g1622, by rw [ii22, s21.2.1, ii19, s18.2.1, ii16, s15.2.1], ⟨⟨by rw [R1 7 (by omega) (by omega)]; exact x16, by rw [R0 8 (by omega)]; exact x19, x22⟩, fun j h h' h2 => by rw [R1 j h h', y16 j h2, s15.1]⟩, ⟨k99' g1622.1 a16 (by decide), fun i => ?_⟩, T19.gr q1922.1 (by omega), k99 m22.1 D21.1 (by decide)⟩
  · simp (disch := omega) only [f_X7_init_L132, nW_lit, nW_le, Nat.le_refl, ↓reduceIte, e15, e16, e17, e18, e19, e20, e21, e22, bindP, Option.bind_some]
  · rw [(r99 g1622.1 (show (mK M16 (S + 445)).1 = 13 by rw [a16]) (by decide) (by omega)).2.1, ii16]; exact i15 i
theorem X7_new {M : Mem} {x : Nat} (hF : F99 M) (hz : 5 ≤ mN M ∧ mN M + 450 ≤ 908) (hx : TextR M x []) : ∃ M1 M', nO 7 11 M = some (mN M, M1) ∧ f_X7_init (mN M) x M1 = some M' ∧ Mk 450 4087 M M' ∧ StR M' (mN M) sg0 := by
  generalize hq : mN M = S at *
  obtain ⟨M1, w5, M5, e1, e5, q5, ⟨n5, k5, i5⟩, ⟨b0, b1⟩, a5, r5⟩ := X7_A hF hz hq hx
  have hx5 := hx.gr q5.1
  obtain ⟨w8, M8, e8, q8, ⟨n8, i8⟩, ⟨b2, c8⟩, a8, r8⟩ := X7_B (w5 := w5) q5.2.2 hz n5 hx5 k5
  have k8 := k99 q8.1 k5 (by decide)
  have hx8 := hx5.gr q8.1
  obtain ⟨w11, M11, e11, q11, ⟨n11, i11⟩, ⟨b4, c11⟩, a11, r11⟩ := X7_C (w8 := w8) q8.2.2 hz n8 hx8 k8
  have k11 := k99 q11.1 k8 (by decide)
  have hx11 := hx8.gr q11.1
  obtain ⟨w14, M14, e14, q14, ⟨n14, i14⟩, ⟨b6, c14⟩, a14, r14⟩ := X7_D (w11 := w11) (x := x) q11.2.2 hz n11 k11
  have k14 := k99 q14.1 k11 (by decide)
  obtain ⟨M22, e22, q22, i22, ⟨⟨b7, b8, b10⟩, c22⟩, ⟨a22, r22⟩, T22, d22⟩ := X7_E (w14 := w14) q14.2.2 hz n14 (hx11.gr q14.1) k14
  have g11 := q14.trans q22
  have g8 := q11.trans g11
  have g5 := q8.trans g8
  have qM : Mk 450 4087 M M22 := ((q5.mp (fun a => a = S)).trans g5).mk (fun a h => hF a (by omega))
  have I22 : ∀ j, mI M22 S j = nW 0 := fun j => by rw [i22, i14, i11, i8]; exact i5 j
  refine ⟨M1, M22, e1, ?_, qM, ⟨⟨k99 q22.1 k14 (by decide), ⟨x, ?_, hx.gr qM.1⟩, ?_, ?_, ?_, ?_, b7, b8, b10⟩, I22 9, ⟨k99' g5.1 a5 (by decide), fun c hc => ?_⟩, ⟨k99' q22.1 a14 (by decide), fun i hi => ?_⟩, ⟨a22, fun i hi => ?_⟩, d22⟩, fun c hc => ?_, ?_, ?_, T22⟩
  · rw [e5, e8, e11, e14, e22]
  · rw [c22 0 (by omega) (by omega) (by omega), c14 0 (by omega), c11 0 (by omega), c8 0 (by omega)]; exact b0
  · rw [c22 1 (by omega) (by omega) (by omega), c14 1 (by omega), c11 1 (by omega), c8 1 (by omega)]; exact b1
  · rw [c22 2 (by omega) (by omega) (by omega), c14 2 (by omega), c11 2 (by omega)]; exact b2
  · rw [c22 4 (by omega) (by omega) (by omega), c14 4 (by omega)]; exact b4
  · rw [c22 6 (by omega) (by omega) (by omega)]; exact b6
  · rw [(r99 g5.1 (show (mK M5 (S + 1)).1 = 18 by rw [a5]) (by decide) (by omega)).1]; exact (r5 c hc).1
  · have : optRow 2 i = sc0 (10 + i) := by
      have h4 : i = 0 ∨ i = 1 ∨ i = 2 ∨ i = 3 := by omega
      rcases h4 with rfl | rfl | rfl | rfl <;> decide
    rw [(r99 q22.1 (show (mK M14 (S + 444)).1 = 13 by rw [a14]) (by decide) (by omega)).2.1, r14 i hi]
    exact this
  · rw [r22]
    show nW 0 = sc0 i
    unfold sc0
    rw [if_neg (by omega), if_neg (by omega)]
  · exact (r5 c hc).2.gr g5.1 (fun b _ _ => by omega)
  · refine ⟨I22 3, by decide, fun j => S + 363 + 2 * j, ⟨k99' g8.1 a8 (by decide), fun j hj => ?_, fun i j _ _ h => by have h' : S + 363 + 2 * i = S + 363 + 2 * j := h; omega⟩, fun j hj => ⟨by show (S + 363 + 2 * j - (S + 363)) % 2 = 0; omega, (r8 j hj).2.gr g8.1 (show ¬ S + 363 + 2 * j = S by omega)⟩, fun j hj => absurd hj (Nat.not_lt_zero j)⟩
    have h1 := (r99 g8.1 (show (mK M8 (S + 362)).1 = 21 by rw [a8]) (by decide) (by omega)).1
    exact ⟨by rw [h1]; exact (r8 j hj).1, k99 g8.1 (r8 j hj).2.1 (by decide), (by omega : S + 363 ≤ S + 363 + 2 * j), (by omega : S + 363 + 2 * j < S + 435)⟩
  · refine ⟨I22 5, Nat.zero_le _, fun j => S + 436 + j, ⟨k99' g11.1 a11 (by decide), fun j hj => ?_, fun i j _ _ h => by have h' : S + 436 + i = S + 436 + j := h; omega⟩, fun j hj => absurd hj (Nat.not_lt_zero j)⟩
    have h1 := (r99 g11.1 (show (mK M11 (S + 435)).1 = 19 by rw [a11]) (by decide) (by omega)).1
    have h2 := r11 j hj
    rw [Nat.one_mul] at h2
    exact ⟨by rw [h1]; exact h2.1, k99 g11.1 h2.2 (by decide), (by omega : S + 436 ≤ S + 436 + j), (by omega : S + 436 + j < S + 444)⟩
