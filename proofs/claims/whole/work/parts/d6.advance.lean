/-! TICKS in the reference, and ADVANCE -/
def VF (V V' : VR) : Prop := V'.1 = V.1 ∧ V'.2.1 = V.2.1 ∧ ∀ k, k ≠ 3 → V'.2.2 k = V.2.2 k
theorem VF.refl (V : VR) : VF V V := ⟨rfl, rfl, fun _ _ => rfl⟩
theorem VF.trans {V V' V'' : VR} (h : VF V V') (g : VF V' V'') : VF V V'' := ⟨g.1.trans h.1, g.2.1.trans h.2.1, fun k hk => (g.2.2 k hk).trans (h.2.2 k hk)⟩
def LdR (V : VR) (σ : Sg) : Prop := ∀ c, c < 6 → V.2.2 3 c = cF (gCl σ c)
theorem RfR_T {V V' : VR} {s s' : Nat → Int32} {t t' : Nat → Int64} {A : Wh} {σ : Sg} (h : RfR V s t A) (q : VF V V') (hR : RSt s' t' σ) (hL : LdR V' σ) : RfR V' s' t' (pS A σ) := by
  obtain ⟨h1, h2, h3, h4, h5, h6, h7⟩ := h
  obtain ⟨q1, q2, q3⟩ := q
  refine ⟨?_, ?_, ?_, ?_, ?_, hR, hL⟩
  · rw [q1]; exact h1
  · rw [q1]; exact h2
  · rw [q1, q2]; exact h3
  · rw [q1, q2, q3 6 (by omega)]; exact h4
  · rw [q2]; exact h5
theorem r_tk_L12 {N : Mem} {V : VR} {k : Nat} (hk : KR N) (h0 : TB (V.2.1 10) 0 []) : ∀ n c s t σ, c ≤ 6 → 6 - c < n → RSt s t σ → SgI k σ → ∃ s' t', f_X12_ticks_L12 n 908 (nW c) (QW N V s t) = f_X12_ticks_L48 FU 908 (nW 0) (QW N V s' t') ∧ RSt s' t' (itS tkLate (6 - c) c σ) ∧ ∀ c', cF (gCl (itS tkLate (6 - c) c σ) c') = cF (gCl σ c')
  | 0, c, s, t, σ, _, hn, _, _ => absurd hn (by omega)
  | n + 1, c, s, t, σ, hc, hn, hR, hS => by
    by_cases he : c = 6
    · subst he
      exact ⟨s, t, by simp (disch := omega) only [f_X12_ticks_L12, nW_lit, nW_le, Nat.le_refl, ↓reduceIte], hR, fun _ => rfl⟩
    · have hc6 : c < 6 := by omega
      have n6 : ¬ 6 ≤ c := by omega
      have a2 : s (32 + c) = zI (cB (gCl σ c) 0) := (hR.2.1 c hc6).2.1.2.1
      have e := ref_isOn (N := N) (V := V) (t := t) hk hc6 a2
      have e2 : s 2 = gSc σ 11 := hR.1.2.1 1 (by omega)
      rw [show 6 - c = (6 - (c + 1)) + 1 by omega, itS]
      cases hon : cB (gCl σ c) 0 with
      | false =>
        have es : tkLate c σ = σ := by unfold tkLate; rw [if_neg (by rw [hon]; simp)]
        rw [es]
        obtain ⟨s', t', e', R⟩ := r_tk_L12 (N := N) hk h0 n (c + 1) s t σ (by omega) (by omega) hR hS
        refine ⟨s', t', ?_, R⟩
        rw [hon, zI_f] at e
        simp (disch := omega) only [f_X12_ticks_L12, nW_lit, nW_le, n6, ↓reduceIte, e, bindP, nW_add, e']
      | true =>
        rw [hon, zI_t] at e
        obtain ⟨q, hq, eq⟩ := hS.1.1.1.2.1
        by_cases h11 : gSc σ 11 = nW 0
        · have es : tkLate c σ = σ := by unfold tkLate; rw [if_neg (fun h => h.2 h11)]
          rw [es]
          obtain ⟨s', t', e', R⟩ := r_tk_L12 (N := N) hk h0 n (c + 1) s t σ (by omega) (by omega) hR hS
          refine ⟨s', t', ?_, R⟩
          rw [h11] at e2
          have le0 : nW 0 ≤ nW 0 := by decide
          simp (disch := omega) only [f_X12_ticks_L12, nW_lit, nW_le, n6, ↓reduceIte, e, bindP, z1n0, q_gR1 hk, q_a hk, e2, Nat.le_refl, Option.bind_some, nW_add, e']
        · have es : tkLate c σ = putG σ c (spLate (cL (gCl σ c) 1).1 0 (getG σ c)) := by unfold tkLate; rw [if_pos ⟨hon, h11⟩]
          have hS1 := SgI_late hS hc6
          rw [es] at hS1 ⊢
          obtain ⟨s1, t1, e1, G1, F1, Ft1⟩ := ref_late (N := N) (V := V) hk hc6 h0 (RSt_get hR hc6)
          have H1 := RSt_put hR G1 F1 Ft1 hc6
          obtain ⟨s', t', e', R, L⟩ := r_tk_L12 (N := N) hk h0 n (c + 1) s1 t1 _ (by omega) (by omega) H1 hS1
          have ls := (late_same (cL (gCl σ c) 1).1 0 (getG σ c)).2.2.2.1
          refine ⟨s', t', ?_, R, fun c' => (L c').trans ((NL_put (σ := σ) (c := c) (g := spLate (cL (gCl σ c) 1).1 0 (getG σ c)) ls (Or.inl (late_same _ _ _).2.2.1)) c').1⟩
          rw [eq] at h11 e2
          have le0 : ¬ q ≤ 0 := fun h => h11 (by rw [show q = 0 by omega])
          simp (disch := omega) only [f_X12_ticks_L12, nW_lit, nW_le, n6, ↓reduceIte, e, bindP, z1n0, q_gR1 hk, q_a hk, e2, le0, Option.bind_some, e1, nW_add, e']
theorem q_aF3 {N : Mem} {V : VR} {s : Nat → Int32} {t : Nat → Int64} (h : KR N) {i : Nat} (hi : i < 6) : aF 911 (nW i) (QW N V s t) = some (V.2.2 3 i) := W_aF3 h hi
theorem q_gR3 {N : Mem} {V : VR} {s : Nat → Int32} {t : Nat → Int64} (h : KR N) : gR 12 3 908 (QW N V s t) = some 911 := W_gR3 h
theorem q_wF3 {N : Mem} {V : VR} {s : Nat → Int32} {t : Nat → Int64} (h : KR N) {i : Nat} (x : UInt32) (hi : i < 6) : wF 911 (nW i) x (QW N V s t) = some (QW N (vF V 3 i x) s t) := W_wF3 h x hi
theorem RSt_load {s : Nat → Int32} {t : Nat → Int64} {σ : Sg} {c : Nat} (hR : RSt s t σ) (hc : c < 6) : RSt (fset s (80 + c) (nW 0)) t (tkLoad c σ) := by
  unfold tkLoad
  refine RSt_put hR ?_ (fun i h1 h2 => by unfold cs at h2; simp (disch := omega) only [fset_ne]) (fun _ _ => rfl) hc
  obtain ⟨hsc, ⟨l1, l2, l3, l4⟩, ⟨a1, a2, a3, a4, a5, a6, a7, a8⟩, b, w, k, u, f, p, q⟩ := RSt_get hR hc
  refine ⟨hsc.fr (fun i hi => by simp (disch := omega) only [fset_ne]), ⟨l1, l2, l3, l4⟩, ?_, ?_, w.fr hc (fun i h1 h2 => by simp (disch := omega) only [fset_ne]) (fun _ _ => rfl), k.fr hc (fun i h1 h2 => by simp (disch := omega) only [fset_ne]), u.fr hc l4 (fun i h1 h2 => by simp (disch := omega) only [fset_ne]) (fun _ _ _ => rfl), f.fr hc l2 (fun i h1 h2 => by simp (disch := omega) only [fset_ne]) (fun _ _ _ => rfl), p.fr hc l3 (fun i h1 h2 => by simp (disch := omega) only [fset_ne]) (fun _ _ _ => rfl), q.fr hc l1 (fun i h1 h2 => by simp (disch := omega) only [fset_ne]) (fun _ _ _ => rfl)⟩
  · unfold R_c1
    simp (disch := omega) only [uB_B, uB_I, uB_F, uB_W, uB_K, uB_N, uB_L, uI_B, uI_I, uI_F, uI_W, uI_K, uI_N, uI_L, uF_B, uF_I, uF_F, uF_W, uF_K, uF_N, uF_L, uW_B, uW_I, uW_F, uW_W, uW_K, uW_N, uW_L, uK_B, uK_I, uK_F, uK_W, uK_K, uK_N, uK_L, uN_B, uN_I, uN_F, uN_W, uN_K, uN_N, uN_L, uL_B, uL_I, uL_F, uL_W, uL_K, uL_N, uL_L, fset_ne, fset_eq]
    exact ⟨a1, a2, a3, a4, a5, a6, a7, trivial⟩
  · have := b.fr hc (s' := fset s (80 + c) (nW 0)) (fun i h1 h2 => by simp (disch := omega) only [fset_ne])
    unfold R_c2 at this ⊢
    simp (disch := omega) only [uB_B, uB_I, uB_F, uB_W, uB_K, uB_N, uB_L, uI_B, uI_I, uI_F, uI_W, uI_K, uI_N, uI_L, uF_B, uF_I, uF_F, uF_W, uF_K, uF_N, uF_L, uW_B, uW_I, uW_F, uW_W, uW_K, uW_N, uW_L, uK_B, uK_I, uK_F, uK_W, uK_K, uK_N, uK_L, uN_B, uN_I, uN_F, uN_W, uN_K, uN_N, uN_L, uL_B, uL_I, uL_F, uL_W, uL_K, uL_N, uL_L, fset_ne] at this ⊢; exact this
theorem r_tk_L48 {N : Mem} {k : Nat} (hk : KR N) : ∀ n c V s t σ, c ≤ 6 → 6 - c < n → RSt s t σ → LdR V σ → SgI k σ → ∃ V' s', f_X12_ticks_L48 n 908 (nW c) (QW N V s t) = f_X12_ticks_L103 FU 908 (nW 0) (QW N V' s' t) ∧ VF V V' ∧ RSt s' t (itS tkLoad (6 - c) c σ) ∧ LdR V' (itS tkLoad (6 - c) c σ)
  | 0, c, V, s, t, σ, _, hn, _, _, _ => absurd hn (by omega)
  | n + 1, c, V, s, t, σ, hc, hn, hR, hL, hS => by
    by_cases he : c = 6
    · subst he
      exact ⟨V, s, by simp (disch := omega) only [f_X12_ticks_L48, nW_lit, nW_le, Nat.le_refl, ↓reduceIte], VF.refl V, hR, hL⟩
    · have hc6 : c < 6 := by omega
      have n6 : ¬ 6 ≤ c := by omega
      have a8 : s (80 + c) = cI (gCl σ c) 0 := (hR.2.1 c hc6).2.1.2.2.2.2.2.2.2
      have eL := hL c hc6
      obtain ⟨l1, l2, l3, _⟩ := ldv_ok (cI (gCl σ c) 0) (hS.2.2.1 c hc6)
      have q1 : VF V (vF V 3 c (ldv (cF (gCl σ c)) (cI (gCl σ c) 0))) := ⟨rfl, rfl, fun k hk3 => vF_o _ _ _ hk3⟩
      have L1 : LdR (vF V 3 c (ldv (cF (gCl σ c)) (cI (gCl σ c) 0))) (tkLoad c σ) := fun c' hc' => by
        have ecl : gCl (tkLoad c σ) c' = if c' = c then uI (uF (gCl σ c) (ldv (cF (gCl σ c)) (cI (gCl σ c) 0))) 0 (nW 0) else gCl σ c' := rfl
        rw [vF_1, ecl]
        by_cases e : c' = c
        · subst e; rw [fset_eq, if_pos rfl]; rfl
        · rw [fset_ne _ _ e, if_neg e]; exact hL c' hc'
      obtain ⟨V', s', e, q, R, L⟩ := r_tk_L48 (N := N) hk n (c + 1) _ _ t (tkLoad c σ) (by omega) (by omega) (RSt_load hR hc6) L1 (SgI_load hS hc6)
      rw [show 6 - c = (6 - (c + 1)) + 1 by omega, itS]
      refine ⟨V', s', ?_, q1.trans q, R, L⟩
      simp (disch := omega) only [f_X12_ticks_L48, nW_lit, nW_le, n6, ↓reduceIte, q_gR3 hk, q_aF3 hk, eL, l1, q_gR1 hk, q_a hk, nW_add, a8, l2, l3, q_wF3 hk, q_w hk, Option.bind_some, e]
theorem r_tk_L103 {N : Mem} {V : VR} {k : Nat} (hk : KR N) : ∀ n c s t σ, c ≤ 6 → 6 - c < n → RSt s t σ → SgI k σ → ∃ s' t', f_X12_ticks_L103 n 908 (nW c) (QW N V s t) = some (QW N V s' t') ∧ RSt s' t' (itS tkExp (6 - c) c σ) ∧ ∀ c', cF (gCl (itS tkExp (6 - c) c σ) c') = cF (gCl σ c')
  | 0, c, s, t, σ, _, hn, _, _ => absurd hn (by omega)
  | n + 1, c, s, t, σ, hc, hn, hR, hS => by
    by_cases he : c = 6
    · subst he
      exact ⟨s, t, by simp (disch := omega) only [f_X12_ticks_L103, nW_lit, nW_le, Nat.le_refl, ↓reduceIte], hR, fun _ => rfl⟩
    · have hc6 : c < 6 := by omega
      have n6 : ¬ 6 ≤ c := by omega
      have hcl := hR.2.1 c hc6
      have a1 : s (20 + c) = zI (cB (gCl σ c) 3) := hcl.2.1.1
      have a2 : s (32 + c) = zI (cB (gCl σ c) 0) := hcl.2.1.2.1
      have e := ref_isOn (N := N) (V := V) (t := t) hk hc6 a2
      have e0 : s 0 = gSc σ 14 := hR.1.1
      have e3 : s 3 = gSc σ 12 := hR.1.2.1 2 (by omega)
      have n01 : ¬ nW 0 = nW 1 := by decide
      rw [show 6 - c = (6 - (c + 1)) + 1 by omega, itS]
      have stay : tkExp c σ = σ → (f_X12_ticks_L103 (n + 1) 908 (nW c) (QW N V s t) = f_X12_ticks_L103 n 908 (nW (c + 1)) (QW N V s t)) → ∃ s' t', f_X12_ticks_L103 (n + 1) 908 (nW c) (QW N V s t) = some (QW N V s' t') ∧ RSt s' t' (itS tkExp (6 - (c + 1)) (c + 1) (tkExp c σ)) ∧ ∀ c', cF (gCl (itS tkExp (6 - (c + 1)) (c + 1) (tkExp c σ)) c') = cF (gCl σ c') := fun es ee => by
        rw [es, ee]
        exact r_tk_L103 (N := N) hk n (c + 1) s t σ (by omega) (by omega) hR hS
      cases h3 : cB (gCl σ c) 3 with
      | false =>
        rw [h3, zI_f] at a1
        refine stay (by unfold tkExp; rw [if_neg (by rw [h3]; simp)]) ?_
        simp (disch := omega) only [f_X12_ticks_L103, nW_lit, nW_le, n6, ↓reduceIte, q_gR1 hk, q_a hk, nW_add, a1, n01, Option.bind_some]
      | true =>
        rw [h3, zI_t] at a1
        cases h0 : cB (gCl σ c) 0 with
        | true =>
          rw [h0, zI_t] at e
          refine stay (by unfold tkExp; rw [if_neg (by rw [h0]; simp)]) ?_
          simp (disch := omega) only [f_X12_ticks_L103, nW_lit, nW_le, n6, ↓reduceIte, q_gR1 hk, q_a hk, nW_add, a1, e, bindP, z1n0, Option.bind_some]
        | false =>
          rw [h0, zI_f] at e
          have e38 : s (38 + c) = cI (gCl σ c) 1 := ((hcl.2.2.1) h3).2.2 h0
          by_cases ht : gSc σ 14 - cI (gCl σ c) 1 < gSc σ 12
          · refine stay (by unfold tkExp; rw [if_neg (fun h => h.2.2 ht)]) ?_
            simp (disch := omega) only [f_X12_ticks_L103, nW_lit, nW_le, n6, ↓reduceIte, q_gR1 hk, q_a hk, nW_add, a1, e, bindP, e0, e38, e3, ht, Option.bind_some]
          · have es : tkExp c σ = uSc (spRemove σ c) (tot (gSc σ) 7) := by unfold tkExp; rw [if_pos ⟨h3, h0, ht⟩]
            have hS1 := SgI_exp hS hc6
            rw [es] at hS1 ⊢
            obtain ⟨s1, t1, e1, R1⟩ := ref_removes (N := N) (V := V) hk hc6 hR hS.1.2.2.1 (hS.1.2.1 c hc6).1 (hS.1.2.1 c hc6).2 (hS.1.2.2.2.1 c hc6).1
            have R2 := RSt_tot R1 (i := 7) (by omega)
            have R2' : RSt (fset s1 (5 + 7) (s1 (5 + 7) + nW 1)) t1 (uSc (spRemove σ c) (tot (gSc σ) 7)) := R2
            obtain ⟨s', t', e', R, L⟩ := r_tk_L103 (N := N) hk n (c + 1) _ t1 _ (by omega) (by omega) R2' hS1
            refine ⟨s', t', ?_, R, fun c' => (L c').trans ((NL_remove σ c) c').1⟩
            simp (disch := omega) only [f_X12_ticks_L103, nW_lit, nW_le, n6, ↓reduceIte, q_gR1 hk, q_a hk, q_w hk, nW_add, a1, e, bindP, e0, e38, e3, ht, e1, Option.bind_some]
            exact e'
theorem ref_tick {N : Mem} {V : VR} {s : Nat → Int32} {t : Nat → Int64} {k : Nat} {σ : Sg} (hk : KR N) (h0 : TB (V.2.1 10) 0 []) (hR : RSt s t σ) (hL : LdR V σ) (hS : SgI k σ) : ∃ V' s' t', f_X12_ticks 908 (QW N V s t) = some (QW N V' s' t') ∧ VF V V' ∧ RSt s' t' (spTick σ) ∧ LdR V' (spTick σ) := by
  have e0 : s 0 = gSc σ 14 := hR.1.1
  have R1 : RSt (fset s 0 (gSc σ 14 + nW 1)) t (tkClock σ) := RSt_sc hR (fun i hi => fset_ne _ _ (by omega)) (by
    obtain ⟨h1, h2, h3⟩ := hR.1
    refine ⟨by rw [fset_eq, fset_eq], fun i hi => ?_, fun i hi => ?_⟩
    · rw [fset_ne _ _ (by omega), fset_ne _ _ (by omega)]; exact h2 i hi
    · rw [fset_ne _ _ (by omega), fset_ne _ _ (by omega)]; exact h3 i hi)
  have S1 := SgI_clock hS
  obtain ⟨s2, t2, e2, R2, L2⟩ := r_tk_L12 (N := N) (V := V) (k := k) hk h0 FU 0 _ t (tkClock σ) (by omega) (by simp only [FU]; omega) R1 S1
  have S2 := SgI_it (k := k) (fun _ _ hc h => SgI_late h hc) 6 0 (tkClock σ) (by omega) S1
  obtain ⟨V3, s3, e3, q3, R3, L3⟩ := r_tk_L48 (N := N) (k := k) hk FU 0 V s2 t2 _ (by omega) (by simp only [FU]; omega) R2 (fun c hc => by
    have : cF (gCl (tkClock σ) c) = cF (gCl σ c) := rfl
    rw [hL c hc]; exact ((L2 c).trans this).symm) S2
  have S3 := SgI_it (k := k) (fun _ _ hc h => SgI_load h hc) 6 0 _ (by omega) S2
  obtain ⟨s4, t4, e4, R4, L4⟩ := r_tk_L103 (N := N) (V := V3) (k := k) hk FU 0 s3 t2 _ (by omega) (by simp only [FU]; omega) R3 S3
  refine ⟨V3, s4, t4, ?_, q3, R4, fun c hc => by rw [L3 c hc]; exact (L4 c).symm⟩
  simp (disch := omega) only [f_X12_ticks, q_k hk, ↓reduceIte, q_gR1 hk, q_a hk, q_w hk, e0, nW_lit, Option.bind_some, e2, e3, e4]
def itT : Nat → Sg → Sg
  | 0, σ => σ
  | n + 1, σ => itT n (spTick σ)
theorem SgI_itT {k : Nat} : ∀ n σ, SgI k σ → SgI k (itT n σ)
  | 0, _, h => h
  | n + 1, σ, h => SgI_itT n (spTick σ) (SgI_tick h)
theorem c_adv_L9 {M0 : Mem} {A : Wh} {k m : Nat} (hm : m ≤ 100) (h0 : (mK M0 0).1 = 11 ∧ mR M0 0 6 = some 8) : ∀ n i M σ, i ≤ m → m - i < n → (mK M 0).1 = 11 ∧ mR M 0 6 = some 8 → StR M 8 σ → SgI k σ → ∃ M', f_X11_advance_L9 n 0 (nW m) (nW i) M = some (.inl (gSc (itT (m - i) σ) 14), M') ∧ Fr (SZ 8) M M' ∧ StR M' 8 (itT (m - i) σ)
  | 0, i, M, σ, _, hn, _, _, _ => absurd hn (by omega)
  | n + 1, i, M, σ, hi, hn, hB, hR, hS => by
    have g6 : gR 11 6 0 M = some 8 := by simp only [gR, hB.1, hB.2, ↓reduceIte]
    by_cases he : i = m
    · subst he
      have g9 := BaR_clock hR.1
      refine ⟨M, ?_, Fr.refl _ _, ?_⟩
      · rw [Nat.sub_self]
        simp (disch := omega) only [f_X11_advance_L9, nW_le, Nat.le_refl, ↓reduceIte, g6, g9, Option.bind_some, itT]
      · rw [Nat.sub_self]; exact hR
    · have n1 : ¬ m ≤ i := by omega
      obtain ⟨M1, e1, F1, R1⟩ := St_tick ⟨by omega, by omega⟩ hR hS
      obtain ⟨M', e, F, R⟩ := c_adv_L9 (A := A) hm h0 n (i + 1) M1 (spTick σ) (by omega) (by omega) (fr_0 F1 (by unfold SZ; omega) hB) R1 (SgI_tick hS)
      rw [show m - i = (m - (i + 1)) + 1 by omega, itT]
      refine ⟨M', ?_, F1.trans F, R⟩
      simp (disch := omega) only [f_X11_advance_L9, nW_le, n1, ↓reduceIte, g6, e1, Option.bind_some, nW_lit, nW_add, e]
theorem r_adv_L23 {N : Mem} {k m : Nat} (hk : KR N) (hm : m ≤ 100) : ∀ n i V s t σ, i ≤ m → m - i < n → TB (V.2.1 10) 0 [] → RSt s t σ → LdR V σ → SgI k σ → ∃ V' s' t', f_X12_advance_L23 n 908 (nW m) (nW i) (QW N V s t) = some (gSc (itT (m - i) σ) 14, QW N V' s' t') ∧ VF V V' ∧ RSt s' t' (itT (m - i) σ) ∧ LdR V' (itT (m - i) σ)
  | 0, i, V, s, t, σ, _, hn, _, _, _, _ => absurd hn (by omega)
  | n + 1, i, V, s, t, σ, hi, hn, h0, hR, hL, hS => by
    by_cases he : i = m
    · subst he
      have e0 : s 0 = gSc σ 14 := hR.1.1
      rw [Nat.sub_self]
      refine ⟨V, s, t, ?_, VF.refl V, hR, hL⟩
      simp (disch := omega) only [f_X12_advance_L23, nW_le, Nat.le_refl, ↓reduceIte, q_gR1 hk, q_a hk, nW_lit, e0, Option.bind_some, itT]
    · have n1 : ¬ m ≤ i := by omega
      obtain ⟨V1, s1, t1, e1, q1, R1, L1⟩ := ref_tick (N := N) hk h0 hR hL hS
      obtain ⟨V', s', t', e, q, R, L⟩ := r_adv_L23 (N := N) hk hm n (i + 1) V1 s1 t1 (spTick σ) (by omega) (by omega) (by rw [q1.2.1]; exact h0) R1 L1 (SgI_tick hS)
      rw [show m - i = (m - (i + 1)) + 1 by omega, itT]
      refine ⟨V', s', t', ?_, q1.trans q, R, L⟩
      simp (disch := omega) only [f_X12_advance_L23, nW_le, n1, ↓reduceIte, e1, Option.bind_some, nW_lit, nW_add, e]
theorem Op_advance (x : Int32) : OpOK (cdA 1) (f_X11_advance 0 x) (f_X12_advance 908 x) := by
  intro k M A hk5 hB hF hN hW hX
  have k1 := hB.1.1
  have cr := c_range x (nW 1) (nW 100) M
  by_cases hx : inB x (nW 1) (nW 100) = true
  · rw [if_pos hx] at cr
    obtain ⟨m, h1, h2, rfl⟩ := inB_nat (by omega) hx (by omega)
    obtain ⟨M', e, F, R⟩ := c_adv_L9 (k := k) (A := A) (m := m) h2 ⟨hB.1.1, hB.1.2.2.2.2.1⟩ FU 0 M (oS A) (by omega) (by simp only [FU]; omega) ⟨hB.1.1, hB.1.2.2.2.2.1⟩ hB.2.2.2.2.2.2 hW.1
    rw [Nat.sub_zero] at e R
    have S' := SgI_itT m (oS A) hW.1
    refine ⟨.inl (gSc (itT m (oS A)) 14), M', pS A (itT m (oS A)), ?_, (by show 0 < 9; omega), Gk_fr F (fun a h => by unfold SZ at h; omega) 4, BrR_S hB F.gr (fun a h => Or.inr h) R, WI_S hW (S'.mono (Nat.le_succ _)), fun N V s t hk hR _ => ?_⟩
    · simp only [f_X11_advance, k1, ↓reduceIte, nW_lit, cr, bindX]
      exact e
    · have hR0 := hR.vq (VQ_0 V (nW 0))
      obtain ⟨V', s', t', e', q, R', L'⟩ := r_adv_L23 (N := N) (k := k) (m := m) hk h2 FU 0 (vI V 0 0 (nW 0)) s t (oS A) (by omega) (by simp only [FU]; omega) hR0.2.2.2.2.1 hR0.2.2.2.2.2.1 hR0.2.2.2.2.2.2 hW.1
      rw [Nat.sub_zero] at e' R' L'
      refine ⟨_, V', s', t', ?_, RfR_T hR0 q R' L', by rw [q.1]; exact vI_00 _ _, fun v hv => by cases hv; rfl⟩
      simp only [f_X12_advance, q_k hk, ↓reduceIte, q_pI hk, Option.bind_some, nW_lit, r_in, hx, zI_t, z1n0, bindP]
      exact e'
  · rw [if_neg hx] at cr
    have hx0 : inB x (nW 1) (nW 100) = false := by simpa using hx
    refine Op_noClient 1 (by omega) hB hW ?_ (fun N V s t hk hR => ?_)
    · simp only [f_X11_advance, k1, ↓reduceIte, nW_lit, cr, bindX]
    · simp only [f_X12_advance, q_k hk, ↓reduceIte, q_pI hk, Option.bind_some, nW_lit, r_in, hx0, zI_f, bindP, r_fails hk]
      rfl
