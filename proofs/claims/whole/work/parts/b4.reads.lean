/-! CALLS THAT READ, and setOption -/
theorem idx {x : Int32} {n : Nat} (hn : n < 100000) : (∃ k, k < n ∧ x = nW k ∧ inB x (nW 0) (nW n - nW 1) = true) ∨ (inB x (nW 0) (nW n - nW 1) = false ∧ (x < nW 0 ∨ (¬ x < nW 0 ∧ nW n ≤ x))) := by
  by_cases h0 : x < nW 0
  · right
    have : ¬ nW 0 ≤ x := Int32.not_le.mpr h0
    exact ⟨by simp only [inB, this, decide_false, Bool.false_and], Or.inl h0⟩
  · obtain ⟨k, hk, rfl⟩ := nW_of h0
    by_cases h1 : k < n
    · left
      refine ⟨k, h1, rfl, ?_⟩
      rw [nW_sub (by omega)]; exact inB_of (by omega) (by omega) (by omega)
    · right
      refine ⟨?_, Or.inr ⟨h0, by rw [nW_le (by omega) hk]; omega⟩⟩
      by_cases hn0 : n = 0
      · subst hn0
        have e : nW 0 - nW 1 = -nW 1 := by decide
        have : ¬ nW k ≤ -nW 1 := by
          have h2 : (-nW 1 : Int32).toInt = -1 := by decide
          rw [Int32.le_iff_toInt_le, nW_int hk, h2]; omega
        rw [e]; simp only [inB, this, decide_false, Bool.and_false]
      · rw [nW_sub (by omega)]; exact inB_not hk (by omega) (by omega) (by omega)
/-! setOption -/
theorem SI_opt {σ : Sg} {sc : Nat → Int32} (h : SI σ) (ho : OpOk sc) : SI (uSc σ sc) := ⟨⟨ho, fun c hc => ⟨ho.1, (h.1.2 c hc).2⟩⟩, h.2⟩
theorem StR_opt {M : Mem} {S k : Nat} {σ : Sg} (v : Int32) (hZ : inZ S) (h : StR M S σ) (hk : k < 4) : gR 7 6 S M = some (S + 444) ∧ aI 13 (S + 444) (nW k) M = some (gSc σ (10 + k)) ∧ ∃ M1, wI 13 (S + 444) (nW k) v M = some M1 ∧ Fr (fun a => a = S + 444) M M1 ∧ StR M1 S (uSc σ (fset (gSc σ) (10 + k) v)) := by
  have k0 := CR_k (StR_get h (c := 0) (by omega))
  have hz : ¬ tz (S + 444) := by unfold inZ at hZ; simp only [tz]; omega
  have F := fq_I M k v hz
  obtain ⟨⟨⟨h1, ⟨x, h2, h2'⟩, h3⟩, h4, h5, h6, h7, h8⟩, hc, hs, hr, ht⟩ := h
  have n1 : S ≠ S + 444 := by omega
  have n2 : S + 445 ≠ S + 444 := by omega
  have hk9 : (mK M S).1 ≠ 99 := by rw [h1]; decide
  refine ⟨k0.2.2.2.2.2.2.2.2, ?_, sI M (up2 (mI M) (S + 444) k v), ?_, F, ⟨⟨h1, ⟨x, h2, h2'.gr F.gr⟩, h3⟩, ?_, h5, ⟨h6.1, fun j hj => ?_⟩, ⟨h7.1, fun j hj => ?_⟩, h8⟩, fun c hc6 => (hc c hc6).gr F.gr (fun b _ _ => by omega), hs.gr F.gr hk9 (by omega) (fun a _ _ => by omega), hr.gr F.gr hk9 (by omega) (fun a _ _ => by omega), ht.gr F.gr (by omega)⟩
  · simp (disch := omega) only [aI, h6.1, ↓reduceIte, ix_nW, Option.map_some, h6.2 k hk]
  · simp (disch := omega) only [wI, h6.1, ↓reduceIte, ix_nW, Option.map_some, nar13]
  · show up2 (mI M) (S + 444) k v S 9 = fset (gSc σ) (10 + k) v 14
    rw [up2_ne _ _ _ _ n1, fset_ne _ _ (by omega), h4]
  · show up2 (mI M) (S + 444) k v (S + 444) j = fset (gSc σ) (10 + k) v (10 + j)
    by_cases he : j = k
    · subst he; rw [up2_eq, fset_eq]
    · rw [up2_nj _ _ _ _ he, fset_ne _ _ (by omega), h6.2 j hj]
  · show up2 (mI M) (S + 444) k v (S + 445) j = fset (gSc σ) (10 + k) v j
    rw [up2_ne _ _ _ _ n2, fset_ne _ _ (by omega), h7.2 j hj]
theorem Op_setOption (o v : Int32) : OpOK (cdB 3 1) (f_X11_setOption 0 o v) (f_X12_setOption 908 o v) := by
  intro k M A hk5 hB hF hN hW _
  obtain ⟨k1, k2, _⟩ := BrR_k hB
  by_cases ho : inB o (nW 0) (nW 3) = true
  · obtain ⟨j, _, hj, rfl⟩ := inB_nat (by omega) ho (by omega)
    have n0 : ¬ nW j < nW 0 := by rw [nW_lt (by omega) (by omega)]; omega
    have n4 : nW j < nW 4 := by rw [nW_lt (by omega) (by omega)]; omega
    have main : ∀ lo hi : Nat, lo ≤ hi → hi < 1000 → stI 0 (nW j) = some (nW lo) → stI 1 (nW j) = some (nW hi) → (∀ M', f_X12_isValue (nW j) v M' = some (zI (inB v (nW lo) (nW hi)), M')) → (∀ x, lo ≤ x → x ≤ hi → OpOk (fset (gSc (oS A)) (10 + j) (nW x))) → OpAt 4 (cdB 3 1) k M A (fun _ => True) (f_X11_setOption 0 (nW j) v) (f_X12_setOption 908 (nW j) v) := by
      intro lo hi hlh hh s0 s1 hv hok
      by_cases hr : inB v (nW lo) (nW hi) = true
      · have hr' := hr
        rw [inB, Bool.and_eq_true, decide_eq_true_eq, decide_eq_true_eq] at hr'
        have hlo : ¬ v < nW lo := Int32.not_lt.mpr hr'.1
        obtain ⟨e6, ea, M1, e1, F1, R1⟩ := StR_opt v (S := 8) ⟨by omega, by omega⟩ hB.2.2.2.2.2.2 (show j < 4 by omega)
        have hOp : OpOk (fset (gSc (oS A)) (10 + j) v) := by
          obtain ⟨x, h1, h2, rfl⟩ := inB_nat (by omega) hr hlh
          exact hok x h1 h2
        refine Op_S (gSc (oS A) (10 + j)) hB hW (M' := M1) ?_ F1 (fun a h => Or.inr (by unfold SZ; omega)) R1 ⟨SI_opt hW.1.1 hOp, hW.1.2.1, hW.1.2.2.1, hW.1.2.2.2.1, Nat.le_succ_of_le hW.1.2.2.2.2⟩ (fun _ _ => rfl) (fun N V s t hk hR _ => ?_)
        · simp only [f_X11_setOption, k1, ↓reduceIte, nW_lit, n0, n4, s0, s1, Option.bind_some, hlo, hr'.2, k2, e6, ea, e1]
        · have hs := hR.2.2.2.2.2.1
          refine ⟨_, fset s (1 + j) v, t, ?_, VQ_0 V _, vI_00 _ _, RSt_sc hs (fun i hi => fset_ne _ _ (by omega)) ⟨?_, fun i hi => ?_, fun i hi => ?_⟩⟩
          · have hb := ho
            simp (disch := omega) only [f_X12_setOption, q_k hk, q_gR1 hk, q_gR2 hk, q_gR8 hk, q_gR11 hk, q_gR13 hk, q_gR14 hk, q_gR15 hk, q_gR16 hk, q_gI hk, q_pI hk, q_a hk, q_w hk, q_l hk, nW_add, nW_mul, nW_le, nW_lt, irem_nW, ix_nW, nW_lit, r_in, bindP, hb, zI_t, z1n0, ↓reduceIte, hv, hr, Option.bind_some, hs.1.2.1 j (show j < 4 by omega)]
          · rw [fset_ne _ _ (by omega), fset_ne _ _ (by omega)]; exact hs.1.1
          · by_cases he : i = j
            · subst he; rw [fset_eq, fset_eq]
            · rw [fset_ne _ _ (by omega), fset_ne _ _ (by omega)]; exact hs.1.2.1 i hi
          · rw [fset_ne _ _ (by omega), fset_ne _ _ (by omega)]; exact hs.1.2.2 i hi
      · have hr0 : inB v (nW lo) (nW hi) = false := by simpa using hr
        refine Op_noClient 1 (by omega) hB hW ?_ (fun N V s t hk hR => ?_)
        · simp only [f_X11_setOption, f_X11_setOption_J38, k1, ↓reduceIte, nW_lit, n0, n4, s0, s1, Option.bind_some]
          rw [inB, Bool.and_eq_false_iff, decide_eq_false_iff_not, decide_eq_false_iff_not] at hr0
          rcases hr0 with h | h
          · have : v < nW lo := Int32.not_le.mp h
            simp only [this, ↓reduceIte]
          · simp only [h, ↓reduceIte, ite_self]
        · simp (disch := omega) only [f_X12_setOption, q_k hk, q_gR1 hk, q_gR2 hk, q_gR8 hk, q_gR11 hk, q_gR13 hk, q_gR14 hk, q_gR15 hk, q_gR16 hk, q_gI hk, q_pI hk, q_a hk, q_w hk, q_l hk, nW_add, nW_mul, nW_le, nW_lt, irem_nW, ix_nW, nW_lit, r_in, bindP, ho, zI_t, z1n0, ↓reduceIte, hv, hr0, zI_f, Option.bind_some, r_fails hk]
          rfl
    obtain ⟨⟨w1, w2⟩, o1, o2, o3⟩ := hW.1.1.1.1
    have hj4 : j = 0 ∨ j = 1 ∨ j = 2 ∨ j = 3 := by omega
    have d1 : ¬ nW 1 = nW 0 := by decide
    have d2 : ¬ nW 2 = nW 0 := by decide
    have d3 : ¬ nW 3 = nW 0 := by decide
    have d21 : ¬ nW 2 = nW 1 := by decide
    have d31 : ¬ nW 3 = nW 1 := by decide
    have d32 : ¬ nW 3 = nW 2 := by decide
    rcases hj4 with rfl | rfl | rfl | rfl
    · refine main 1 5 (by omega) (by omega) (by decide) (by decide) (fun M' => ?_) (fun x h1 h2 => ⟨⟨x, fset_eq _ _ _, h1, h2⟩, ?_, ?_, ?_⟩)
      · simp only [f_X12_isValue, nW_lit, ↓reduceIte, r_in, bindP, okZ_z]
      · rw [fset_ne _ _ (by omega)]; exact o1
      · rw [fset_ne _ _ (by omega)]; exact o2
      · rw [fset_ne _ _ (by omega)]; exact o3
    · refine main 0 20 (by omega) (by omega) (by decide) (by decide) (fun M' => ?_) (fun x h1 h2 => ⟨⟨w1, ?_⟩, ⟨x, h2, fset_eq _ _ _⟩, ?_, ?_⟩)
      · simp only [f_X12_isValue, nW_lit, d1, ↓reduceIte, r_in, bindP, okZ_z]
      · rw [fset_ne _ _ (by omega)]; exact w2
      · rw [fset_ne _ _ (by omega)]; exact o2
      · rw [fset_ne _ _ (by omega)]; exact o3
    · refine main 1 100 (by omega) (by omega) (by decide) (by decide) (fun M' => ?_) (fun x h1 h2 => ⟨⟨w1, ?_⟩, ?_, ⟨x, h2, fset_eq _ _ _⟩, ?_⟩)
      · simp only [f_X12_isValue, nW_lit, d2, d21, ↓reduceIte, r_in, bindP, okZ_z]
      · rw [fset_ne _ _ (by omega)]; exact w2
      · rw [fset_ne _ _ (by omega)]; exact o1
      · rw [fset_ne _ _ (by omega)]; exact o3
    · refine main 0 1 (by omega) (by omega) (by decide) (by decide) (fun M' => ?_) (fun x h1 h2 => ⟨⟨w1, ?_⟩, ?_, ?_, ⟨x, h2, fset_eq _ _ _⟩⟩)
      · simp only [f_X12_isValue, nW_lit, d3, d31, d32, ↓reduceIte, r_in, bindP, okZ_z]
      · rw [fset_ne _ _ (by omega)]; exact w2
      · rw [fset_ne _ _ (by omega)]; exact o1
      · rw [fset_ne _ _ (by omega)]; exact o2
  · have ho0 : inB o (nW 0) (nW 3) = false := by simpa using ho
    refine Op_noClient 3 (by omega) hB hW ?_ (fun N V s t hk hR => ?_)
    · have e : o < nW 4 ↔ o ≤ nW 3 := lt_suc (by omega)
      rw [inB, Bool.and_eq_false_iff, decide_eq_false_iff_not, decide_eq_false_iff_not] at ho0
      simp only [f_X11_setOption, f_X11_setOption_J12, k1, ↓reduceIte, nW_lit, e]
      rcases ho0 with h | h
      · have : o < nW 0 := Int32.not_le.mp h
        simp only [this, ↓reduceIte]
      · simp only [h, ↓reduceIte, ite_self]
    · simp (disch := omega) only [f_X12_setOption, q_k hk, q_gR1 hk, q_gR2 hk, q_gR8 hk, q_gR11 hk, q_gR13 hk, q_gR14 hk, q_gR15 hk, q_gR16 hk, q_gI hk, q_pI hk, q_a hk, q_w hk, q_l hk, nW_lit, r_in, bindP, ho0, zI_f, ↓reduceIte, Option.bind_some, r_fails hk]
      rfl
