/-! SUBSCRIBING, in the reference (behind the checks) -/
theorem want_bits {o : Int32} (h : ∃ n, n ≤ 7 ∧ o = nW n) : (iremE (o / nW 2) (nW 2) = nW 0 ↔ o &&& nW 2 = nW 0) ∧ (nW 4 ≤ o ↔ ¬ o &&& nW 4 = nW 0) := by
  obtain ⟨n, h1, rfl⟩ := h
  have : n = 0 ∨ n = 1 ∨ n = 2 ∨ n = 3 ∨ n = 4 ∨ n = 5 ∨ n = 6 ∨ n = 7 := by omega
  rcases this with rfl | rfl | rfl | rfl | rfl | rfl | rfl | rfl <;> decide
theorem ref_sub_tail {N : Mem} {V : VR} {s : Nat → Int32} {t : Nat → Int64} {σ : Sg} {c k : Nat} (added : Bool) {gr o : Int32} (hk : KR N) (hR : RSt s t σ) (hS : SI σ) (hc : c < 6) (hkc : k < (cL (gCl σ c) 3).1) (ho : ∃ n, n ≤ 7 ∧ o = nW n) : ∃ V' s' t', f_X12_subscribe_J259 908 (nW c) gr o (nW (6 * c + k)) (zI added) (QW N V s t) = some (nW (cL (gCl σ c) 3).1, QW N V' s' t') ∧ VE V V' ∧ RSt s' t' (spTail σ c k gr o added) := by
  obtain ⟨w1, w2⟩ := want_bits ho
  obtain ⟨V', s', t', e, W, R⟩ := ref_givesRetained (N := N) (V := V) hk hc hkc hR hS
  have c0 : s (50 + c) = nW (cL (gCl σ c) 3).1 := (RSt_get hR hc).2.2.1.2.2.1
  have c1 : s' (50 + c) = nW (cL (gCl σ c) 3).1 := by
    have := (RSt_get R hc).2.2.1.2.2.1
    rw [this]
    show nW (cL (gCl (spGR c _ _ _ _ σ) c) 3).1 = _
    rw [spGR_L3]
  have yes : f_X12_subscribe_J283 908 (nW c) (nW (6 * c + k)) (QW N V s t) = some (nW (cL (gCl σ c) 3).1, QW N V' s' t') := by
    simp (disch := omega) only [f_X12_subscribe_J283, f_X12_subscribe_J290, q_k hk, q_gR1 hk, q_gR2 hk, q_gR8 hk, q_gR11 hk, q_gR13 hk, q_gR14 hk, q_gR15 hk, q_gR16 hk, q_gI hk, q_pI hk, q_a hk, q_w hk, q_l hk, nW_add, nW_mul, nW_sub, nW_le, nW_lt, nW_inj, irem_nW, ix_nW, nW_lit, e, Option.bind_some, c1]
  have no : f_X12_subscribe_J290 908 (nW c) (QW N V s t) = some (nW (cL (gCl σ c) 3).1, QW N V s t) := by
    simp (disch := omega) only [f_X12_subscribe_J290, q_k hk, q_gR1 hk, q_gR2 hk, q_gR8 hk, q_gR11 hk, q_gR13 hk, q_gR14 hk, q_gR15 hk, q_gR16 hk, q_gI hk, q_pI hk, q_a hk, q_w hk, q_l hk, nW_add, nW_mul, nW_sub, nW_le, nW_lt, nW_inj, irem_nW, ix_nW, nW_lit, Option.bind_some, c0]
  have t1 : ¬ nW 1 = nW 0 := by decide
  unfold spTail wantR
  by_cases g0 : gr = nW 0
  · by_cases b2 : o &&& nW 2 = nW 0
    · have b2' := w1.mpr b2
      cases added with
      | true =>
        rw [if_pos ⟨g0, by rw [decide_eq_true b2]; rfl⟩]
        refine ⟨V', s', t', ?_, W, R⟩
        simp only [f_X12_subscribe_J259, nW_lit, g0, b2', zI_t, t1, ↓reduceIte, yes]
      | false =>
        by_cases b4 : o &&& nW 4 = nW 0
        · have b4' : ¬ nW 4 ≤ o := fun h => w2.mp h b4
          rw [if_pos ⟨g0, by rw [decide_eq_true b2, decide_eq_true b4]; rfl⟩]
          refine ⟨V', s', t', ?_, W, R⟩
          simp only [f_X12_subscribe_J259, nW_lit, g0, b2', b4', zI_f, ↓reduceIte, yes]
        · have b4' : nW 4 ≤ o := w2.mpr b4
          rw [if_neg (fun h => by have := h.2; rw [decide_eq_true b2, decide_eq_false b4] at this; cases this)]
          refine ⟨V, s, t, ?_, VE.refl _, hR⟩
          simp only [f_X12_subscribe_J259, nW_lit, g0, b2', b4', zI_f, ↓reduceIte, no]
    · have b2' : ¬ iremE (o / nW 2) (nW 2) = nW 0 := fun h => b2 (w1.mp h)
      rw [if_neg (fun h => by have := h.2; rw [decide_eq_false b2] at this; cases this)]
      refine ⟨V, s, t, ?_, VE.refl _, hR⟩
      simp only [f_X12_subscribe_J259, nW_lit, g0, b2', ↓reduceIte, no]
  · rw [if_neg (fun h => g0 h.1)]
    refine ⟨V, s, t, ?_, VE.refl _, hR⟩
    simp only [f_X12_subscribe_J259, nW_lit, g0, ↓reduceIte, no]
theorem spTail_L3 (σ : Sg) (c k : Nat) (gr o : Int32) (b : Bool) : cL (gCl (spTail σ c k gr o b) c) 3 = cL (gCl σ c) 3 := by
  unfold spTail; split
  · exact spGR_L3 _ _ _ _ _ _
  · rfl
theorem ref_sub_old {N : Mem} {V : VR} {s : Nat → Int32} {t : Nat → Int64} {σ : Sg} {c k : Nat} {g gr o : Int32} (hk : KR N) (hR : RSt s t σ) (hS : SI σ) (hc : c < 6) (hkc : k < (cL (gCl σ c) 3).1) (hg : ∃ n, n ≤ 2 ∧ g = nW n) (ho : ∃ n, n ≤ 7 ∧ o = nW n) : ∃ V' s' t', f_X12_subscribe_J106 908 (nW c) g gr o (nW (6 * c + k)) (nW 0) (QW N V s t) = some (nW (cL (gCl σ c) 3).1, QW N V' s' t') ∧ VE V V' ∧ RSt s' t' (spTail (spSubSet σ c k g o) c k gr o false) := by
  have l6 : (cL (gCl σ c) 3).1 ≤ 6 := (hS.1.2 c hc).2.1.2.2.2
  have ecl : cL (gCl (spSubSet σ c k g o) c) 3 = lset (cL (gCl σ c) 3) k (((cL (gCl σ c) 3).2 k).1, fset (fset ((cL (gCl σ c) 3).2 k).2 2 g) 3 o) := by
    show cL (gCl (putG σ c _) c) 3 = _
    rw [gCl_putG, uL_L, fset_eq]
  have H : RSt (fset (fset s (410 + (6 * c + k)) g) (482 + (6 * c + k)) o) t (spSubSet σ c k g o) := by
    have su : R_su s t c (cL (gCl σ c) 3) := (RSt_get hR hc).2.2.2.2.2.2.1
    have cnt : s (50 + c) = nW (cL (gCl σ c) 3).1 := (RSt_get hR hc).2.2.1.2.2.1
    refine RSt_L3 hc hR l6 (by simp (disch := omega) only [fset_ne]; exact cnt) (fun i h1 h2 => by simp (disch := omega) only [fset_ne]) (fun i h => rfl) (fun j hj => ?_)
    have hj' : j < (cL (gCl σ c) 3).1 := hj
    obtain ⟨y1, y2, y3, y4, y5⟩ := su j hj'
    simp only [lset]
    by_cases e : j = k
    · subst e
      rw [if_pos rfl]
      refine ⟨?_, ?_, ?_, ?_, y5⟩
      · simp (disch := omega) only [fset_ne, fset_eq]
      · simp (disch := omega) only [fset_ne]; exact y2
      · simp (disch := omega) only [fset_eq]
      · simp (disch := omega) only [fset_ne]; exact y4
    · rw [if_neg e]
      refine ⟨?_, ?_, ?_, ?_, y5⟩
      · simp (disch := omega) only [fset_ne]; exact y1
      · simp (disch := omega) only [fset_ne]; exact y2
      · simp (disch := omega) only [fset_ne]; exact y3
      · simp (disch := omega) only [fset_ne]; exact y4
  obtain ⟨V', s', t', e, W, R⟩ := ref_sub_tail (N := N) (V := V) (gr := gr) (k := k) false hk H (SI_subSet hS hc hkc hg ho) hc (by rw [ecl]; exact hkc) ho
  refine ⟨V', s', t', ?_, W, R⟩
  have ec : (cL (gCl (spSubSet σ c k g o) c) 3).1 = (cL (gCl σ c) 3).1 := by rw [ecl]; rfl
  rw [ec, zI_f] at e
  simp (disch := omega) only [f_X12_subscribe_J106, f_X12_subscribe_J133, f_X12_subscribe_J157, q_k hk, q_gR1 hk, q_gR2 hk, q_gR8 hk, q_gR11 hk, q_gR13 hk, q_gR14 hk, q_gR15 hk, q_gR16 hk, q_gI hk, q_pI hk, q_a hk, q_w hk, q_l hk, nW_add, nW_mul, nW_sub, nW_le, nW_lt, nW_inj, irem_nW, ix_nW, nW_lit, ↓reduceIte, Option.bind_some, e]
theorem ref_sub_new {N : Mem} {V : VR} {s : Nat → Int32} {t : Nat → Int64} {σ : Sg} {c : Nat} {x : Txt} {g gr o : Int32} (hk : KR N) (hR : RSt s t σ) (hS : SI σ) (hc : c < 6) (hex : cB (gCl σ c) 3 = true) (h6 : (cL (gCl σ c) 3).1 < 6) (hok : okS (mkSu x gr g o)) (hno : subAt (cL (gCl σ c) 3) x gr = none) (hT : TB (V.2.1 8) 0 x) (h12 : V.1 0 12 = nW x.length) : ∃ V' s' t', f_X12_subscribe_J106 908 (nW c) g gr o (-nW 1) (nW 1) (QW N V s t) = some (nW ((cL (gCl σ c) 3).1 + 1), QW N V' s' t') ∧ VE V V' ∧ RSt s' t' (spTail (spSubNew σ c (mkSu x gr g o)) c (cL (gCl σ c) 3).1 gr o true) ∧ SI (spSubNew σ c (mkSu x gr g o)) := by
  have hkey : ∀ j, j < (cL (gCl σ c) 3).1 → suKey ((cL (gCl σ c) 3).2 j) ≠ suKey (mkSu x gr g o) := by
    intro j hj hh
    have := ffind_none hno j (by omega) (by omega)
    rw [subP, Bool.and_eq_false_iff] at this
    rcases this with h | h
    · exact of_decide_eq_false h (Prod.mk.inj hh).2
    · exact of_decide_eq_false h (Prod.mk.inj hh).1
  have S2 : SI (spSubNew σ c (mkSu x gr g o)) := SI_subNew hS hc hex h6 hok hkey
  have cnt : s (50 + c) = nW (cL (gCl σ c) 3).1 := (RSt_get hR hc).2.2.1.2.2.1
  have su : R_su s t c (cL (gCl σ c) 3) := (RSt_get hR hc).2.2.2.2.2.2.1
  obtain ⟨ok1, ⟨gn, gn1, gn2⟩, _, oo⟩ := hok
  have gn2' : gr = nW gn := gn2
  have H : RSt (fset (fset (fset (fset (fset s (410 + (6 * c + (cL (gCl σ c) 3).1)) g) (482 + (6 * c + (cL (gCl σ c) 3).1)) o) (446 + (6 * c + (cL (gCl σ c) 3).1)) gr) (518 + (6 * c + (cL (gCl σ c) 3).1)) (nW x.length)) (50 + c) (nW ((cL (gCl σ c) 3).1 + 1))) (blk t (24 + 4 * (6 * c + (cL (gCl σ c) 3).1)) (fun i => V.2.1 8 (0 + i))) (putG σ c (gSc σ, uL (gCl σ c) 3 (lpush (cL (gCl σ c) 3) (mkSu x gr g o)))) := by
    refine RSt_L3 hc hR (by simp only [lpush]; omega) (by rw [fset_eq]; rfl) (fun i h1 h2 => by simp (disch := omega) only [fset_ne]) (fun i h => blk_out _ _ (by omega)) (fun j hj => ?_)
    rcases (lpush_at _ _).mp hj with h1 | h1
    · rw [lpush_lo _ _ h1]
      obtain ⟨y1, y2, y3, y4, y5⟩ := su j h1
      refine ⟨?_, ?_, ?_, ?_, y5.fr (fun k hk => blk_out _ _ (by omega))⟩
      · simp (disch := omega) only [fset_ne]; exact y1
      · simp (disch := omega) only [fset_ne]; exact y2
      · simp (disch := omega) only [fset_ne]; exact y3
      · simp (disch := omega) only [fset_ne]; exact y4
    · rw [h1, lpush_hi]
      refine ⟨?_, ?_, ?_, ?_, TB.blk hT⟩
      · simp (disch := omega) only [fset_ne, fset_eq]; rfl
      · simp (disch := omega) only [fset_ne, fset_eq]; rfl
      · simp (disch := omega) only [fset_ne, fset_eq]; rfl
      · simp (disch := omega) only [fset_ne, fset_eq]; rfl
  have ecl2 : cL (gCl (spSubNew σ c (mkSu x gr g o)) c) 3 = lpush (cL (gCl σ c) 3) (mkSu x gr g o) := by
    have : gCl (spSubNew σ c (mkSu x gr g o)) c = uL (gCl σ c) 3 (lpush (cL (gCl σ c) 3) (mkSu x gr g o)) := fset_eq _ _ _
    rw [this, uL_L, fset_eq]
  have tail : ∀ V1 s1 t1, RSt s1 t1 (spSubNew σ c (mkSu x gr g o)) → ∃ V' s' t', f_X12_subscribe_J259 908 (nW c) gr o (nW (6 * c + (cL (gCl σ c) 3).1)) (nW 1) (QW N V1 s1 t1) = some (nW ((cL (gCl σ c) 3).1 + 1), QW N V' s' t') ∧ VE V1 V' ∧ RSt s' t' (spTail (spSubNew σ c (mkSu x gr g o)) c (cL (gCl σ c) 3).1 gr o true) := by
    intro V1 s1 t1 R1
    obtain ⟨V', s', t', e, W, R⟩ := ref_sub_tail (N := N) (V := V1) (gr := gr) (k := (cL (gCl σ c) 3).1) true hk R1 S2 hc (by rw [ecl2]; simp only [lpush]; omega) oo
    rw [ecl2, zI_t] at e
    exact ⟨V', s', t', e, W, R⟩
  have n6 : ¬ (cL (gCl σ c) 3).1 = 6 := by omega
  have t1 : ¬ nW 1 = nW 0 := by decide
  by_cases g0 : gn = 0
  · have hs : spSubNew σ c (mkSu x gr g o) = putG σ c (gSc σ, uL (gCl σ c) 3 (lpush (cL (gCl σ c) 3) (mkSu x gr g o))) := by
      unfold spSubNew shOf
      rw [if_pos (show (mkSu x gr g o).2 1 = nW 0 by rw [gn2, g0])]; rfl
    obtain ⟨V', s', t', e, W, R⟩ := tail V _ _ (by rw [hs]; exact H)
    refine ⟨V', s', t', ?_, W, R, S2⟩
    have gz : gr = nW 0 := by rw [gn2', g0]
    rw [gz] at e ⊢
    simp (disch := omega) only [f_X12_subscribe_J106, f_X12_subscribe_J133, f_X12_subscribe_J157, q_k hk, q_gR1 hk, q_gR2 hk, q_gR8 hk, q_gR11 hk, q_gR13 hk, q_gR14 hk, q_gR15 hk, q_gR16 hk, q_gI hk, q_pI hk, q_a hk, q_w hk, q_l hk, nW_add, nW_mul, nW_sub, nW_le, nW_lt, nW_inj, irem_nW, ix_nW, nW_lit, t1, n6, ↓reduceIte, Option.bind_some, cnt, fset_ne, q_mv8 hk, h12, Nat.le_refl, e]
  · have gne : (mkSu x gr g o).2 1 ≠ nW 0 := by
      rw [gn2]; intro hh; rw [nW_inj (by omega) (by omega)] at hh; exact g0 hh
    have gz : ¬ gn ≤ 0 := by omega
    have h36 : (gSh σ).length ≤ 36 := hR.2.2.2.2.2.2.1
    have s6 := sh6 hR
    obtain ⟨s2, t2, e2, R2, F2, Ft2⟩ := ref_join (N := N) (V := V) (c := c) (j := (cL (gCl σ c) 3).1) (r := mkSu x gr g o) (l := gSh σ) hk hc h6 H.2.2.2.1 h36 hS.2.2.1 s6 (by simp (disch := omega) only [fset_ne, fset_eq]; rfl) (by simp (disch := omega) only [fset_ne, fset_eq]; rfl) (TB.blk hT) ok1 (fun _ => shares_lt hS hc h6 h36) (join_ok hS hc ⟨ok1, ⟨gn, gn1, gn2⟩, by assumption, oo⟩ hkey gne).2
    have lj : (shJoin (gSh σ) x gr c).length ≤ 36 ∧ ∀ y ∈ shJoin (gSh σ) x gr c, y.2.2.length ≤ 6 := by
      have jo := join_ok hS hc ⟨ok1, ⟨gn, gn1, gn2⟩, by assumption, oo⟩ hkey gne
      have lt := shares_lt hS hc h6 h36
      constructor
      · unfold shJoin
        cases shAt (gSh σ) x gr with
        | none => simp only [List.length_append, List.length_singleton]; omega
        | some h => simp only [shPut, List.length_set]; exact h36
      · intro y hy
        obtain ⟨m1, m2, _⟩ := jo.1.1 y hy
        apply Classical.byContradiction
        intro hlt
        obtain ⟨i, j, a1, a2, a3⟩ := pigeon 6 (fun i => y.2.2.getD i 0) (fun i hi => by
          show y.2.2.getD i 0 < 6
          have hl : i < y.2.2.length := by omega
          rw [gd_in _ _ hl]; exact m1 _ (List.getElem_mem hl))
        exact nodup_getD m2 a1 (by omega) a3
    have hs : spSubNew σ c (mkSu x gr g o) = uSh (putG σ c (gSc σ, uL (gCl σ c) 3 (lpush (cL (gCl σ c) 3) (mkSu x gr g o)))) (shJoin (gSh σ) x gr c) := by
      unfold spSubNew shOf
      rw [if_neg gne]; rfl
    have H2 := RSt_sh H F2 Ft2 R2 lj.1 lj.2
    obtain ⟨V', s', t', e, W, R⟩ := tail V s2 t2 (by rw [hs]; exact H2)
    refine ⟨V', s', t', ?_, W, R, S2⟩
    have gz' : ¬ gr ≤ nW 0 := by rw [gn2', nW_le (by omega) (by omega)]; exact gz
    simp (disch := omega) only [f_X12_subscribe_J106, f_X12_subscribe_J133, f_X12_subscribe_J157, q_k hk, q_gR1 hk, q_gR2 hk, q_gR8 hk, q_gR11 hk, q_gR13 hk, q_gR14 hk, q_gR15 hk, q_gR16 hk, q_gI hk, q_pI hk, q_a hk, q_w hk, q_l hk, nW_add, nW_mul, nW_sub, nW_le, nW_lt, nW_inj, irem_nW, ix_nW, nW_lit, t1, n6, gz', ↓reduceIte, Option.bind_some, cnt, fset_ne, q_mv8 hk, h12, e2, e]
