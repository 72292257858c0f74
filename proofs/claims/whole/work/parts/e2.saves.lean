/-! SAVE and RESTORE -/
theorem VS_vLo (V : VR) (s : Nat → Int32) (t : Nat → Int64) {k : Nat} (i : Nat) (x : Int64) (hk : k ≠ 2) : vL (VS V s t) k i x = VS (vL V k i x) s t := by
  refine Prod.ext rfl (Prod.ext (funext fun a => ?_) rfl)
  by_cases h : a = 2
  · subst h; rw [vL_o _ _ _ (Ne.symm hk)]; rfl
  · rw [VS_Lo _ _ _ h]
    by_cases e : a = k
    · subst e; rw [vL_1, vL_1, VS_Lo _ _ _ h]
    · rw [vL_o _ _ _ e, vL_o _ _ _ e, VS_Lo _ _ _ h]
theorem VS_vL2 (V : VR) (s : Nat → Int32) (t : Nat → Int64) (i : Nat) (x : Int64) : vL (VS V s t) 2 i x = VS V s (fset t i x) := by
  refine Prod.ext rfl (Prod.ext (funext fun a => ?_) rfl)
  by_cases h : a = 2
  · subst h; rw [vL_1]; rfl
  · rw [vL_o _ _ _ h, VS_Lo _ _ _ h, VS_Lo _ _ _ h]
theorem q_wL5 {N : Mem} {V : VR} {s : Nat → Int32} {t : Nat → Int64} (h : KR N) {i : Nat} (x : Int64) (hi : i < 3800) : wL 913 (nW i) x (QW N V s t) = some (QW N (vL V 5 i x) s t) := by
  have := W_wL5 (V := VS V s t) h x hi
  rw [VS_vLo _ _ _ _ _ (by omega)] at this; exact this
theorem q_wL2 {N : Mem} {V : VR} {s : Nat → Int32} {t : Nat → Int64} (h : KR N) {i : Nat} (x : Int64) (hi : i < 3800) : wL 910 (nW i) x (QW N V s t) = some (QW N V s (fset t i x)) := by
  have := W_wL2 (V := VS V s t) h x hi
  rw [VS_vL2] at this; exact this
theorem q_w4 {N : Mem} {V : VR} {s : Nat → Int32} {t : Nat → Int64} (h : KR N) {i : Nat} (x : Int32) (hi : i < 2718) : wI 13 912 (nW i) x (QW N V s t) = some (QW N (vI V 4 i x) s t) := by
  have := W_wI4 (V := VS V s t) h x hi
  rw [VS_vIo _ _ _ _ _ (by omega)] at this; exact this
theorem q_a4 {N : Mem} {V : VR} {s : Nat → Int32} {t : Nat → Int64} (h : KR N) {i : Nat} (hi : i < 2718) : aI 13 912 (nW i) (QW N V s t) = some (V.1 4 i) := W_aI4 h hi
theorem q_l5 {N : Mem} {V : VR} {s : Nat → Int32} {t : Nat → Int64} (h : KR N) {i : Nat} (hi : i < 3800) : aL 913 (nW i) (QW N V s t) = some (V.2.1 5 i) := W_aL5 h hi
theorem q_aF6 {N : Mem} {V : VR} {s : Nat → Int32} {t : Nat → Int64} (h : KR N) {i : Nat} (hi : i < 6) : aF 914 (nW i) (QW N V s t) = some (V.2.2 6 i) := W_aF6 h hi
theorem q_wF6 {N : Mem} {V : VR} {s : Nat → Int32} {t : Nat → Int64} (h : KR N) {i : Nat} (x : UInt32) (hi : i < 6) : wF 914 (nW i) x (QW N V s t) = some (QW N (vF V 6 i x) s t) := W_wF6 h x hi
theorem q_gR4 {N : Mem} {V : VR} {s : Nat → Int32} {t : Nat → Int64} (h : KR N) : gR 12 4 908 (QW N V s t) = some 912 := W_gR4 h
theorem q_gR5 {N : Mem} {V : VR} {s : Nat → Int32} {t : Nat → Int64} (h : KR N) : gR 12 5 908 (QW N V s t) = some 913 := W_gR5 h
theorem q_gR6 {N : Mem} {V : VR} {s : Nat → Int32} {t : Nat → Int64} (h : KR N) : gR 12 6 908 (QW N V s t) = some 914 := W_gR6 h
theorem RSt_ext {s s' : Nat → Int32} {t t' : Nat → Int64} {σ : Sg} (h : RSt s t σ) (hs : ∀ i, i < 2718 → s' i = s i) (ht : ∀ i, i < 3800 → t' i = t i) : RSt s' t' σ := by
  obtain ⟨⟨h1, h2, h3⟩, hc, ⟨⟨r1, r2⟩, ⟨a1, a2⟩, ⟨p1, p2⟩, l1, l2, l3, l4⟩⟩ := h
  refine ⟨⟨by rw [hs _ (by omega)]; exact h1, fun i hi => by rw [hs _ (by omega)]; exact h2 i hi, fun i hi => by rw [hs _ (by omega)]; exact h3 i hi⟩, fun c hc' => (hc c hc').fr hc' (fun i hi => hs i (by unfold cs at hi; omega)) (fun i hi => ht i (by unfold ct at hi; omega)), ⟨by rw [hs _ (by omega)]; exact r1, fun j hj => ?_⟩, ⟨by rw [hs _ (by omega)]; exact a1, fun j hj => ?_⟩, ⟨by rw [hs _ (by omega)]; exact p1, fun j hj => ?_⟩, l1, l2, l3, l4⟩
  · obtain ⟨x1, x2, x3⟩ := r2 j hj
    exact ⟨by rw [hs _ (by omega)]; exact x1, by rw [hs _ (by omega)]; exact x2, x3.fr (fun k hk => ht _ (by omega))⟩
  · exact (a2 j hj).fr (l4 j hj) (hs _ (by omega)) (hs _ (by omega)) (hs _ (by omega)) (fun i hi => hs _ (by omega)) (fun k hk => ht _ (by omega))
  · obtain ⟨x1, x2⟩ := p2 j hj
    exact ⟨by rw [hs _ (by omega)]; exact x1, x2.fr (fun k hk => ht _ (by omega))⟩
theorem r_sv_L61 {N : Mem} {s : Nat → Int32} {t : Nat → Int64} (hk : KR N) : ∀ n i V, i ≤ 6 → 6 - i < n → (∀ c, c < i → V.2.2 6 c = V.2.2 3 c) → ∃ V', f_X12_save_L61 n 908 (nW i) (QW N V s t) = some (s 0, QW N V' s t) ∧ V'.1 0 7 = nW 1 ∧ (∀ j, j ≠ 7 → V'.1 0 j = V.1 0 j) ∧ (∀ k, k ≠ 0 → V'.1 k = V.1 k) ∧ V'.2.1 = V.2.1 ∧ (∀ k, k ≠ 6 → V'.2.2 k = V.2.2 k) ∧ ∀ c, c < 6 → V'.2.2 6 c = V.2.2 3 c
  | 0, i, V, _, hn, _ => absurd hn (by omega)
  | n + 1, i, V, hi, hn, hj => by
    by_cases he : i = 6
    · subst he
      refine ⟨vI V 0 7 (nW 1), ?_, by rw [vI_1, fset_eq], fun j hj => by rw [vI_1, fset_ne _ _ hj], fun k hk => vI_o _ _ _ hk, rfl, fun _ _ => rfl, hj⟩
      simp (disch := omega) only [f_X12_save_L61, nW_lit, nW_le, Nat.le_refl, ↓reduceIte, q_pZ hk, q_gR1 hk, q_a hk, Option.bind_some]
    · have n1 : ¬ 6 ≤ i := by omega
      obtain ⟨V', e, x1, x2, x3, x4, x5, x6⟩ := r_sv_L61 (s := s) (t := t) hk n (i + 1) (vF V 6 i (V.2.2 3 i)) (by omega) (by omega) (fun c hc => by
        rw [vF_1, vF_o _ _ _ (show 3 ≠ 6 by omega)]
        by_cases e : c = i
        · subst e; exact fset_eq _ _ _
        · rw [fset_ne _ _ e]; exact hj c (by omega))
      refine ⟨V', ?_, x1, x2, x3, x4, fun k hk => (x5 k hk).trans (vF_o _ _ _ hk), fun c hc => (x6 c hc).trans (by rw [vF_o _ _ _ (show 3 ≠ 6 by omega)])⟩
      rw [← e]
      conv => lhs; rw [f_X12_save_L61]
      simp (disch := omega) only [nW_lit, nW_le, n1, ↓reduceIte, q_gR6 hk, q_gR3 hk, q_aF3 hk, q_wF6 hk, Option.bind_some, nW_add]
theorem r_sv_L34 {N : Mem} {s : Nat → Int32} {t : Nat → Int64} (hk : KR N) : ∀ n i V, i ≤ 3800 → 3800 - i < n → (∀ j, j < i → V.2.1 5 j = t j) → ∃ V', f_X12_save_L34 n 908 (nW i) (QW N V s t) = f_X12_save_L61 FU 908 (nW 0) (QW N V' s t) ∧ V'.1 = V.1 ∧ V'.2.2 = V.2.2 ∧ (∀ k, k ≠ 5 → V'.2.1 k = V.2.1 k) ∧ ∀ j, j < 3800 → V'.2.1 5 j = t j
  | 0, i, V, _, hn, _ => absurd hn (by omega)
  | n + 1, i, V, hi, hn, hj => by
    by_cases he : i = 3800
    · subst he
      refine ⟨V, ?_, rfl, rfl, fun _ _ => rfl, hj⟩
      simp (disch := omega) only [f_X12_save_L34, nW_lit, nW_le, Nat.le_refl, ↓reduceIte]
    · have n1 : ¬ 3800 ≤ i := by omega
      obtain ⟨V', e, x1, x2, x3, x4⟩ := r_sv_L34 (s := s) (t := t) hk n (i + 1) (vL V 5 i (t i)) (by omega) (by omega) (fun j hj' => by
        rw [vL_1]
        by_cases e : j = i
        · subst e; exact fset_eq _ _ _
        · rw [fset_ne _ _ e]; exact hj j (by omega))
      refine ⟨V', ?_, x1, x2, fun k hk => (x3 k hk).trans (vL_o _ _ _ hk), x4⟩
      rw [← e]
      conv => lhs; rw [f_X12_save_L34]
      simp (disch := omega) only [nW_lit, nW_le, n1, ↓reduceIte, q_gR5 hk, q_gR2 hk, q_l hk, q_wL5 hk, Option.bind_some, nW_add]
theorem r_sv_L7 {N : Mem} {s : Nat → Int32} {t : Nat → Int64} (hk : KR N) : ∀ n i V, i ≤ 2718 → 2718 - i < n → (∀ j, j < i → V.1 4 j = s j) → ∃ V', f_X12_save_L7 n 908 (nW i) (QW N V s t) = f_X12_save_L34 FU 908 (nW 0) (QW N V' s t) ∧ V'.2 = V.2 ∧ (∀ k, k ≠ 4 → V'.1 k = V.1 k) ∧ ∀ j, j < 2718 → V'.1 4 j = s j
  | 0, i, V, _, hn, _ => absurd hn (by omega)
  | n + 1, i, V, hi, hn, hj => by
    by_cases he : i = 2718
    · subst he
      refine ⟨V, ?_, rfl, fun _ _ => rfl, hj⟩
      simp (disch := omega) only [f_X12_save_L7, nW_lit, nW_le, Nat.le_refl, ↓reduceIte]
    · have n1 : ¬ 2718 ≤ i := by omega
      obtain ⟨V', e, x1, x3, x4⟩ := r_sv_L7 (s := s) (t := t) hk n (i + 1) (vI V 4 i (s i)) (by omega) (by omega) (fun j hj' => by
        rw [vI_1]
        by_cases e : j = i
        · subst e; exact fset_eq _ _ _
        · rw [fset_ne _ _ e]; exact hj j (by omega))
      refine ⟨V', ?_, x1, fun k hk => (x3 k hk).trans (vI_o _ _ _ hk), x4⟩
      rw [← e]
      conv => lhs; rw [f_X12_save_L7]
      simp (disch := omega) only [nW_lit, nW_le, n1, ↓reduceIte, q_gR4 hk, q_gR1 hk, q_a hk, q_w4 hk, Option.bind_some, nW_add]
theorem r_rs_L74 {N : Mem} {s : Nat → Int32} {t : Nat → Int64} (hk : KR N) : ∀ n i V, i ≤ 6 → 6 - i < n → (∀ c, c < i → V.2.2 3 c = V.2.2 6 c) → ∃ V', f_X12_restore_L74 n 908 (nW i) (QW N V s t) = some (s 0, QW N V' s t) ∧ VF V V' ∧ ∀ c, c < 6 → V'.2.2 3 c = V.2.2 6 c
  | 0, i, V, _, hn, _ => absurd hn (by omega)
  | n + 1, i, V, hi, hn, hj => by
    by_cases he : i = 6
    · subst he
      refine ⟨V, ?_, VF.refl V, hj⟩
      simp (disch := omega) only [f_X12_restore_L74, nW_lit, nW_le, Nat.le_refl, ↓reduceIte, q_gR1 hk, q_a hk, Option.bind_some]
    · have n1 : ¬ 6 ≤ i := by omega
      obtain ⟨V', e, x5, x6⟩ := r_rs_L74 (s := s) (t := t) hk n (i + 1) (vF V 3 i (V.2.2 6 i)) (by omega) (by omega) (fun c hc => by
        rw [vF_1, vF_o _ _ _ (show 6 ≠ 3 by omega)]
        by_cases e : c = i
        · subst e; exact fset_eq _ _ _
        · rw [fset_ne _ _ e]; exact hj c (by omega))
      refine ⟨V', ?_, ⟨x5.1, x5.2.1, fun k hk => (x5.2.2 k hk).trans (vF_o _ _ _ hk)⟩, fun c hc => (x6 c hc).trans (by rw [vF_o _ _ _ (show 6 ≠ 3 by omega)])⟩
      rw [← e]
      conv => lhs; rw [f_X12_restore_L74]
      simp (disch := omega) only [nW_lit, nW_le, n1, ↓reduceIte, q_gR6 hk, q_gR3 hk, q_aF6 hk, q_wF3 hk, Option.bind_some, nW_add]
theorem r_rs_L47 {N : Mem} {V : VR} {s : Nat → Int32} (hk : KR N) : ∀ n i t, i ≤ 3800 → 3800 - i < n → (∀ j, j < i → t j = V.2.1 5 j) → ∃ t', f_X12_restore_L47 n 908 (nW i) (QW N V s t) = f_X12_restore_L74 FU 908 (nW 0) (QW N V s t') ∧ ∀ j, j < 3800 → t' j = V.2.1 5 j
  | 0, i, t, _, hn, _ => absurd hn (by omega)
  | n + 1, i, t, hi, hn, hj => by
    by_cases he : i = 3800
    · subst he
      refine ⟨t, ?_, hj⟩
      simp (disch := omega) only [f_X12_restore_L47, nW_lit, nW_le, Nat.le_refl, ↓reduceIte]
    · have n1 : ¬ 3800 ≤ i := by omega
      obtain ⟨t', e, x4⟩ := r_rs_L47 (V := V) (s := s) hk n (i + 1) (fset t i (V.2.1 5 i)) (by omega) (by omega) (fun j hj' => by
        by_cases e : j = i
        · subst e; exact fset_eq _ _ _
        · rw [fset_ne _ _ e]; exact hj j (by omega))
      refine ⟨t', ?_, x4⟩
      rw [← e]
      conv => lhs; rw [f_X12_restore_L47]
      simp (disch := omega) only [nW_lit, nW_le, n1, ↓reduceIte, q_gR5 hk, q_gR2 hk, q_l5 hk, q_wL2 hk, Option.bind_some, nW_add]
theorem r_rs_L20 {N : Mem} {V : VR} {t : Nat → Int64} (hk : KR N) : ∀ n i s, i ≤ 2718 → 2718 - i < n → (∀ j, j < i → s j = V.1 4 j) → ∃ s', f_X12_restore_L20 n 908 (nW i) (QW N V s t) = f_X12_restore_L47 FU 908 (nW 0) (QW N V s' t) ∧ ∀ j, j < 2718 → s' j = V.1 4 j
  | 0, i, s, _, hn, _ => absurd hn (by omega)
  | n + 1, i, s, hi, hn, hj => by
    by_cases he : i = 2718
    · subst he
      refine ⟨s, ?_, hj⟩
      simp (disch := omega) only [f_X12_restore_L20, nW_lit, nW_le, Nat.le_refl, ↓reduceIte]
    · have n1 : ¬ 2718 ≤ i := by omega
      obtain ⟨s', e, x4⟩ := r_rs_L20 (V := V) (t := t) hk n (i + 1) (fset s i (V.1 4 i)) (by omega) (by omega) (fun j hj' => by
        by_cases e : j = i
        · subst e; exact fset_eq _ _ _
        · rw [fset_ne _ _ e]; exact hj j (by omega))
      refine ⟨s', ?_, x4⟩
      rw [← e]
      conv => lhs; rw [f_X12_restore_L20]
      simp (disch := omega) only [nW_lit, nW_le, n1, ↓reduceIte, q_gR4 hk, q_gR1 hk, q_a4 hk, q_w hk, Option.bind_some, nW_add]
/-! the two calls -/
theorem BrR_T {M M' : Mem} {A : Wh} {σ : Sg} (h : BrR M A) (F : Fr (fun a => a = 0 ∨ SZ 458 a) M M') (h0 : mI M' 0 7 = nW 1) (h1 : ∀ j, j ≠ 7 → mI M' 0 j = mI M 0 j) (hR : mR M' 0 = mR M 0) (hS : StR M' 458 σ) : BrR M' (oB A, oE A, oP A, oS A, (true, σ)) := by
  obtain ⟨⟨k1, k2, k3, k4, k5, k6⟩, ⟨b1, b2, b3, b4, b5⟩, e1, ⟨p1, p2⟩, m7, ⟨t1, t2⟩, s1⟩ := h
  have y := F.2.2 5 (Or.inr (by unfold SZ; omega))
  exact ⟨⟨by rw [F.1]; exact k1, by rw [hR]; exact k2, by rw [hR]; exact k3, by rw [hR]; exact k4, by rw [hR]; exact k5, by rw [hR]; exact k6⟩, ⟨by rw [F.1]; exact b1, by rw [h1 1 (by omega)]; exact b2, b3, fun j hj => by rw [y.1]; exact b4 j hj, b5⟩, by rw [h1 2 (by omega)]; exact e1, ⟨by rw [h1 3 (by omega)]; exact p1, p2.gr F.gr (by unfold SZ; omega)⟩, by rw [F.1]; exact m7, ⟨h0, hS⟩, s1.gr F.gr (fun a ha => by unfold SZ at ha ⊢; omega)⟩
theorem Op_save : OpOK (cdA 0) (asX (f_X11_save 0)) (f_X12_save 908) := by
  intro k M A hk5 hB hF hN hW _
  obtain ⟨k1, k2, k3, _⟩ := BrR_k hB
  obtain ⟨M1, e1, F1, R1⟩ := X7_copyFrom (show inZ 458 by unfold inZ; omega) (show 458 + 450 ≤ 8 ∨ 8 + 450 ≤ 458 by omega) hB.2.2.2.2.2.1.2 hB.2.2.2.2.2.2
  have x0 := F1.2.2 0 (Or.inr (by unfold SZ; omega))
  have k1' : (mK M1 0).1 = 11 := by rw [F1.1]; exact k1
  have hz : pZ 11 7 0 (nW 1) M1 = some (sI M1 (up2 (mI M1) 0 7 (nW 1))) := pZ_z true k1'
  have F2 := fq_I M1 7 (nW 1) (show ¬ tz 0 by simp only [tz]; omega)
  have F12 : Fr (fun a => a = 0 ∨ SZ 458 a) M (sI M1 (up2 (mI M1) 0 7 (nW 1))) := (F1.mono (fun a h => Or.inr h)).trans (F2.mono (fun a h => Or.inl h))
  have R2 := R1.gr F2.gr (fun a h => by unfold SZ at h; omega)
  have B2 := BrR_T hB F12 (by simp only [sI_mI, sI_mL, sI_mF, sI_mR, sI_mK, sI_mN, sI_mC, sI_mS, sL_mI, sL_mL, sL_mF, sL_mR, sL_mK, sL_mN, sL_mC, sL_mS, sF_mI, sF_mL, sF_mF, sF_mR, sF_mK, sF_mN, sF_mC, sF_mS, sR_mI, sR_mL, sR_mF, sR_mR, sR_mK, sR_mN, sR_mC, sR_mS, up2_eq]) (fun j hj => by simp only [sI_mI, sI_mL, sI_mF, sI_mR, sI_mK, sI_mN, sI_mC, sI_mS, sL_mI, sL_mL, sL_mF, sL_mR, sL_mK, sL_mN, sL_mC, sL_mS, sF_mI, sF_mL, sF_mF, sF_mR, sF_mK, sF_mN, sF_mC, sF_mS, sR_mI, sR_mL, sR_mF, sR_mR, sR_mK, sR_mN, sR_mC, sR_mS]; rw [up2_nj _ _ _ _ hj, x0.1]) (by simp only [sI_mI, sI_mL, sI_mF, sI_mR, sI_mK, sI_mN, sI_mC, sI_mS, sL_mI, sL_mL, sL_mF, sL_mR, sL_mK, sL_mN, sL_mC, sL_mS, sF_mI, sF_mL, sF_mF, sF_mR, sF_mK, sF_mN, sF_mC, sF_mS, sR_mI, sR_mL, sR_mF, sR_mR, sR_mK, sR_mN, sR_mC, sR_mS]; rw [x0.2.2.2]) R2
  have g9 := BaR_clock B2.2.2.2.2.2.2.1
  have g6 := (BrR_k B2).2.1
  refine ⟨.inl (gSc (oS A) 14), _, _, ?_, (by show 0 < 9; omega), Gk_fr F12 (fun a h => by unfold SZ at h; omega) 4, B2, ⟨hW.1.mono (Nat.le_succ _), hW.1.mono (Nat.le_succ _), hW.2.2⟩, fun N V s t hk hR _ => ?_⟩
  · simp only [asX, f_X11_save, k1, ↓reduceIte, k3, k2, e1, nW_lit, hz, g6, g9, Option.bind_some, Option.map_some]
  · obtain ⟨V1, r1, a1, a2, a3⟩ := r_sv_L7 (N := N) (s := s) (t := t) hk FU 0 (vI V 0 0 (nW 0)) (by omega) (by simp only [FU]; omega) (fun j hj => absurd hj (Nat.not_lt_zero j))
    obtain ⟨V2, r2, b1, b2, b3, b4⟩ := r_sv_L34 (N := N) (s := s) (t := t) hk FU 0 V1 (by omega) (by simp only [FU]; omega) (fun j hj => absurd hj (Nat.not_lt_zero j))
    obtain ⟨V3, r3, c1, c2, c3, c4, c5, c6⟩ := r_sv_L61 (N := N) (s := s) (t := t) hk FU 0 V2 (by omega) (by simp only [FU]; omega) (fun j hj => absurd hj (Nat.not_lt_zero j))
    have e0 : s 0 = gSc (oS A) 14 := hR.2.2.2.2.2.1.1.1
    have I0 : ∀ j, j ≠ 0 → j ≠ 7 → V3.1 0 j = V.1 0 j := fun j h0 h7 => by
      rw [c2 j h7, b1, a2 0 (by omega), vI_1, fset_ne _ _ h0]
    have Ik : ∀ k, k ≠ 0 → k ≠ 4 → V3.1 k = V.1 k := fun k h0 h4 => by
      rw [c3 k h0, b1, a2 k h4, vI_o _ _ _ h0]
    have I4 : ∀ j, j < 2718 → V3.1 4 j = s j := fun j hj => by
      rw [c3 4 (by omega), b1]; exact a3 j hj
    have Lk : ∀ k, k ≠ 5 → V3.2.1 k = V.2.1 k := fun k h5 => by
      rw [c4, b3 k h5, a1]; rfl
    have L5 : ∀ j, j < 3800 → V3.2.1 5 j = t j := fun j hj => by rw [c4]; exact b4 j hj
    have Fk : ∀ k, k ≠ 6 → V3.2.2 k = V.2.2 k := fun k h6 => by
      rw [c5 k h6, b2, a1]; rfl
    have F6 : ∀ c, c < 6 → V3.2.2 6 c = V.2.2 3 c := fun c hc => by
      rw [c6 c hc, b2, a1]; rfl
    refine ⟨s 0, V3, s, t, ?_, ?_, ?_, fun v hv => by cases hv; exact e0⟩
    · simp only [f_X12_save, q_k hk, ↓reduceIte, q_pI hk, Option.bind_some, nW_lit]
      rw [r1, r2, r3]
    · obtain ⟨⟨h1, h1'⟩, h2, ⟨h3, h3'⟩, _, h5, h6, h7⟩ := hR
      refine ⟨⟨by rw [I0 9 (by omega) (by omega)]; exact h1, fun j hj => by rw [Ik 7 (by omega) (by omega)]; exact h1' j hj⟩, by rw [I0 10 (by omega) (by omega)]; exact h2, ⟨by rw [I0 17 (by omega) (by omega)]; exact h3, fun hp => ?_⟩, ⟨c1, fun _ => ⟨RSt_ext h6 I4 L5, fun c hc => (F6 c hc).trans (h7 c hc)⟩⟩, by rw [Lk 10 (by omega)]; exact h5, h6, fun c hc => by rw [Fk 3 (by omega)]; exact h7 c hc⟩
      rw [Ik 11 (by omega) (by omega), Lk 12 (by omega)]; exact h3' hp
    · rw [c2 0 (by omega), b1, a2 0 (by omega)]; exact vI_00 _ _
theorem Op_restore : OpOK (cdA 2) (f_X11_restore 0) (f_X12_restore 908) := by
  intro k M A hk5 hB hF hN hW _
  obtain ⟨k1, k2, k3, k4, k5, k6, k7⟩ := BrR_k hB
  have z1n : ¬ nW 1 = nW 0 := by decide
  cases hp : (oT A).1 with
  | false =>
    rw [hp, zI_f] at k7
    refine Op_noClient 2 (by omega) hB hW ?_ (fun N V s t hk hR => ?_)
    · simp only [f_X11_restore, k1, ↓reduceIte, k7, Option.bind_some, nW_lit]
    · have e := hR.2.2.2.1.1
      rw [hp, zI_f] at e
      simp only [f_X12_restore, q_k hk, q_pI hk, q_gI hk, ↓reduceIte, Option.bind_some, nW_lit, bindP, vI_0o V _ (show 7 ≠ 0 by omega), e, r_fails hk]
      rfl
  | true =>
    rw [hp, zI_t] at k7
    obtain ⟨M1, e1, F1, R1⟩ := X7_copyFrom (show inZ 8 by unfold inZ; omega) (show 8 + 450 ≤ 458 ∨ 458 + 450 ≤ 8 by omega) hB.2.2.2.2.2.2 hB.2.2.2.2.2.1.2
    have B1 := BrR_S hB F1.gr (fun a h => Or.inr h) R1
    have g9 := BaR_clock R1.1
    have g6 := (BrR_k B1).2.1
    refine ⟨.inl (gSc (oT A).2 14), M1, pS A (oT A).2, ?_, (by show 0 < 9; omega), Gk_fr F1 (fun a h => by unfold SZ at h; omega) 4, B1, WI_S hW (hW.2.1.mono (Nat.le_succ _)), fun N V s t hk hR _ => ?_⟩
    · simp only [f_X11_restore, k1, ↓reduceIte, k7, Option.bind_some, nW_lit, z1n, k2, k3, e1, g6, g9]
    · have hR0 := hR.vq (VQ_0 V (nW 0))
      obtain ⟨u1, u2⟩ := hR0.2.2.2.1.2 hp
      have e := hR0.2.2.2.1.1
      rw [hp, zI_t] at e
      obtain ⟨s1, r1, a1⟩ := r_rs_L20 (N := N) (V := vI V 0 0 (nW 0)) (t := t) hk FU 0 s (by omega) (by simp only [FU]; omega) (fun j hj => absurd hj (Nat.not_lt_zero j))
      obtain ⟨t1, r2, a2⟩ := r_rs_L47 (N := N) (V := vI V 0 0 (nW 0)) (s := s1) hk FU 0 t (by omega) (by simp only [FU]; omega) (fun j hj => absurd hj (Nat.not_lt_zero j))
      obtain ⟨V', r3, q, a3⟩ := r_rs_L74 (N := N) (s := s1) (t := t1) hk FU 0 (vI V 0 0 (nW 0)) (by omega) (by simp only [FU]; omega) (fun j hj => absurd hj (Nat.not_lt_zero j))
      have R' := RSt_ext u1 a1 a2
      refine ⟨s1 0, V', s1, t1, ?_, RfR_T hR0 q R' (fun c hc => (a3 c hc).trans (u2 c hc)), by rw [q.1]; exact vI_00 _ _, fun v hv => by cases hv; exact R'.1.1⟩
      simp only [f_X12_restore, q_k hk, q_pI hk, q_gI hk, ↓reduceIte, Option.bind_some, nW_lit, e, z1n]
      rw [r1, r2, r3]
