/-! SHARES in the class -/
def ShK (M : Mem) (a : Nat) : Prop := (mK M a).1 = 6 ∧ mR M a 2 = some (a + 1) ∧ mK M (a + 1) = (13, 6)
def ShV (M : Mem) (a : Nat) (x : Sh) : Prop := mI M a 1 = x.2.1 ∧ mI M a 3 = nW x.2.2.length ∧ x.2.2.length ≤ 6 ∧ (∃ y, mR M a 0 = some y ∧ TextR M y x.1) ∧ ∀ i, i < x.2.2.length → mI M (a + 1) i = nW (x.2.2.getD i 0)
def ShsR (M : Mem) (S : Nat) (l : List Sh) : Prop := mI M S 3 = nW l.length ∧ l.length ≤ 36 ∧ ∃ p, Ar M (S + 362) 21 36 6 (S + 363) (S + 435) p ∧ (∀ j, j < 36 → (p j - (S + 363)) % 2 = 0 ∧ ShK M (p j)) ∧ ∀ j, j < l.length → ShV M (p j) (l.getD j shD)
theorem ShK.gr {P : Nat → Prop} {M M' : Mem} (g : Gr P M M') {a : Nat} (hp : ¬ P a) (h : ShK M a) : ShK M' a := by
  obtain ⟨h1, h2, h3⟩ := h
  have k1 : (mK M a).1 ≠ 99 := by rw [h1]; decide
  have k2 : (mK M (a + 1)).1 ≠ 99 := by rw [h3]; decide
  exact ⟨by rw [g.1 a k1]; exact h1, by rw [(g.2 a k1 (Or.inr hp)).2.2.2]; exact h2, by rw [g.1 _ k2]; exact h3⟩
theorem ShV.gr {P : Nat → Prop} {M M' : Mem} (g : Gr P M M') {a : Nat} {x : Sh} (hk : ShK M a) (hp : ¬ P a ∧ ¬ P (a + 1)) (h : ShV M a x) : ShV M' a x := by
  obtain ⟨h1, h2, h3, ⟨y, h4, h5⟩, h6⟩ := h
  have k1 : (mK M a).1 ≠ 99 := by rw [hk.1]; decide
  have k2 : (mK M (a + 1)).1 ≠ 99 := by rw [hk.2.2]; decide
  obtain ⟨a1, a2, a3, a4⟩ := g.2 a k1 (Or.inr hp.1)
  obtain ⟨b1, b2, b3, b4⟩ := g.2 _ k2 (Or.inr hp.2)
  exact ⟨by rw [a1]; exact h1, by rw [a1]; exact h2, h3, ⟨y, by rw [a4]; exact h4, h5.gr g⟩, fun i hi => by rw [b1]; exact h6 i hi⟩
theorem ShsR.gr {P : Nat → Prop} {M M' : Mem} (g : Gr P M M') {S : Nat} {l : List Sh} (hk : (mK M S).1 ≠ 99) (h0 : ¬ P S) (hp : ∀ a, S + 362 ≤ a → a < S + 435 → ¬ P a) (h : ShsR M S l) : ShsR M' S l := by
  obtain ⟨h1, h2, p, h3, h4, h5⟩ := h
  have rng : ∀ j, j < 36 → S + 363 ≤ p j ∧ p j + 1 < S + 435 := fun j hj => by
    have := (h3.2.1 j hj).2.2; have := (h4 j hj).1; omega
  refine ⟨by rw [(g.2 S hk (Or.inr h0)).1]; exact h1, h2, p, h3.gr g (by decide) (by decide) (hp _ (by omega) (by omega)), fun j hj => ⟨(h4 j hj).1, (h4 j hj).2.gr g (hp _ (by have := rng j hj; omega) (by have := rng j hj; omega))⟩, fun j hj => ?_⟩
  have := rng j (by omega)
  exact (h5 j hj).gr g (h4 j (by omega)).2 ⟨hp _ (by omega) (by omega), hp _ (by omega) (by omega)⟩
theorem removeMember_L4 {a c : Nat} {m : List Nat} (hz : ¬ tz a ∧ ¬ tz (a + 1)) (hm : ∀ x ∈ m, x < 6) (hc : c < 6) (hl : m.length ≤ 6) : ∀ n i M, i ≤ m.length → m.length - i < n → ShK M a → mI M a 3 = nW m.length → (∀ j, j < ((m.take i).filter (· ≠ c)).length → mI M (a + 1) j = nW (((m.take i).filter (· ≠ c)).getD j 0)) → (∀ j, i ≤ j → j < m.length → mI M (a + 1) j = nW (m.getD j 0)) → ∃ M', f_X6_removeMember_L4 n a (nW c) (nW ((m.take i).filter (· ≠ c)).length) (nW i) M = some M' ∧ Fr (fun b => b = a ∨ b = a + 1) M M' ∧ mI M' a 3 = nW (m.filter (· ≠ c)).length ∧ mI M' a 1 = mI M a 1 ∧ mR M' a = mR M a ∧ ∀ j, j < (m.filter (· ≠ c)).length → mI M' (a + 1) j = nW ((m.filter (· ≠ c)).getD j 0)
  | 0, i, M, _, hn, _, _, _, _ => absurd hn (by omega)
  | n + 1, i, M, hi, hn, hk, h3, hlo, hhi => by
    obtain ⟨k1, k2, k3⟩ := hk
    have fl : ((m.take i).filter (· ≠ c)).length ≤ i := Nat.le_trans (List.length_filter_le _ _) (by rw [List.length_take]; omega)
    by_cases he : i = m.length
    · have n1 : m.length ≤ i := by omega
      have et : m.take i = m := List.take_of_length_le n1
      rw [et] at hlo fl ⊢
      refine ⟨sI M (up2 (mI M) a 3 (nW (m.filter (· ≠ c)).length)), by simp (disch := omega) only [f_X6_removeMember_L4, f_X6_removeMember_J49, gI, gL, gF, gR, pI, pZ_0, pZ_1, pZ_z, pL, pF, pR, aI, aL, aF, aR, wI, wL, wF, wR, aN, okZ_0, okZ_1, okZ_z, nar13, sI_mI, sI_mL, sI_mF, sI_mR, sI_mK, sI_mN, sI_mC, sI_mS, sL_mI, sL_mL, sL_mF, sL_mR, sL_mK, sL_mN, sL_mC, sL_mS, sF_mI, sF_mL, sF_mF, sF_mR, sF_mK, sF_mN, sF_mC, sF_mS, sR_mI, sR_mL, sR_mF, sR_mR, sR_mK, sR_mN, sR_mC, sR_mS, Option.bind_some, Option.map_some, bindP, bindX, bindH, ↓reduceIte, and_self, true_and, and_true, ne_eq, not_false_eq_true, not_true_eq_false, reduceCtorEq, Nat.reduceEqDiff, Nat.reduceLeDiff, Nat.reduceLT, Bool.false_eq_true, decide_true, decide_false, up2_eq, up2_ne, up2_nj, up2_fn, cl2_eq, cl2_ne, cl2_fn, nW_add, nW_mul, nW_sub, nW_le, nW_lt, nW_inj, irem_nW, ix_nW, nW_lit, k1, h3, n1], fr_I M _ _ (Or.inl rfl) hz.1, by simp only [sI_mI, sI_mL, sI_mF, sI_mR, sI_mK, sI_mN, sI_mC, sI_mS, sL_mI, sL_mL, sL_mF, sL_mR, sL_mK, sL_mN, sL_mC, sL_mS, sF_mI, sF_mL, sF_mF, sF_mR, sF_mK, sF_mN, sF_mC, sF_mS, sR_mI, sR_mL, sR_mF, sR_mR, sR_mK, sR_mN, sR_mC, sR_mS, up2_eq], by simp (disch := omega) only [sI_mI, sI_mL, sI_mF, sI_mR, sI_mK, sI_mN, sI_mC, sI_mS, sL_mI, sL_mL, sL_mF, sL_mR, sL_mK, sL_mN, sL_mC, sL_mS, sF_mI, sF_mL, sF_mF, sF_mR, sF_mK, sF_mN, sF_mC, sF_mS, sR_mI, sR_mL, sR_mF, sR_mR, sR_mK, sR_mN, sR_mC, sR_mS, up2_nj], rfl, fun j hj => ?_⟩
      have hne : a + 1 ≠ a := by omega
      simp only [sI_mI, sI_mL, sI_mF, sI_mR, sI_mK, sI_mN, sI_mC, sI_mS, sL_mI, sL_mL, sL_mF, sL_mR, sL_mK, sL_mN, sL_mC, sL_mS, sF_mI, sF_mL, sF_mF, sF_mR, sF_mK, sF_mN, sF_mC, sF_mS, sR_mI, sR_mL, sR_mF, sR_mR, sR_mK, sR_mN, sR_mC, sR_mS]; rw [up2_ne _ _ _ _ hne]; exact hlo j hj
    · have n1 : ¬ m.length ≤ i := by omega
      have n2 : ¬ 6 ≤ i := by omega
      have hil : i < m.length := by omega
      have hv := hhi i (Nat.le_refl _) hil
      have hx : m.getD i 0 < 6 := by rw [gd_in _ _ hil]; exact hm _ (List.getElem_mem hil)
      have ets : m.take (i + 1) = m.take i ++ [m.getD i 0] := by rw [gd_in _ _ hil]; exact List.take_succ_eq_append_getElem hil
      by_cases hq : m.getD i 0 = c
      · have ef : (m.take (i + 1)).filter (· ≠ c) = (m.take i).filter (· ≠ c) := by rw [ets, List.filter_append, hq]; simp
        obtain ⟨M', e, r⟩ := removeMember_L4 hz hm hc hl n (i + 1) M (by omega) (by omega) ⟨k1, k2, k3⟩ h3 (by rw [ef]; exact hlo) (fun j h1 h2 => hhi j (by omega) h2)
        rw [ef] at e
        refine ⟨M', ?_, r⟩
        simp (disch := omega) only [f_X6_removeMember_L4, gI, gL, gF, gR, pI, pZ_0, pZ_1, pZ_z, pL, pF, pR, aI, aL, aF, aR, wI, wL, wF, wR, aN, okZ_0, okZ_1, okZ_z, nar13, sI_mI, sI_mL, sI_mF, sI_mR, sI_mK, sI_mN, sI_mC, sI_mS, sL_mI, sL_mL, sL_mF, sL_mR, sL_mK, sL_mN, sL_mC, sL_mS, sF_mI, sF_mL, sF_mF, sF_mR, sF_mK, sF_mN, sF_mC, sF_mS, sR_mI, sR_mL, sR_mF, sR_mR, sR_mK, sR_mN, sR_mC, sR_mS, Option.bind_some, Option.map_some, bindP, bindX, bindH, ↓reduceIte, and_self, true_and, and_true, ne_eq, not_false_eq_true, not_true_eq_false, reduceCtorEq, Nat.reduceEqDiff, Nat.reduceLeDiff, Nat.reduceLT, Bool.false_eq_true, decide_true, decide_false, up2_eq, up2_ne, up2_nj, up2_fn, cl2_eq, cl2_ne, cl2_fn, nW_add, nW_mul, nW_sub, nW_le, nW_lt, nW_inj, irem_nW, ix_nW, nW_lit, k1, k2, k3, h3, n1, n2, hv, hq, e]
      · have ef : (m.take (i + 1)).filter (· ≠ c) = (m.take i).filter (· ≠ c) ++ [m.getD i 0] := by
          have : decide (m.getD i 0 ≠ c) = true := decide_eq_true hq
          rw [ets, List.filter_append, List.filter_cons, if_pos this, List.filter_nil]
        have el : ((m.take (i + 1)).filter (· ≠ c)).length = ((m.take i).filter (· ≠ c)).length + 1 := by rw [ef, List.length_append]; rfl
        have F1 := fr_I (P := fun b => b = a ∨ b = a + 1) M ((m.take i).filter (· ≠ c)).length (nW (m.getD i 0)) (Or.inr rfl) hz.2
        have hne : a ≠ a + 1 := by omega
        obtain ⟨M', e, F, r1, r2, r3, r4⟩ := removeMember_L4 hz hm hc hl n (i + 1) (sI M (up2 (mI M) (a + 1) ((m.take i).filter (· ≠ c)).length (nW (m.getD i 0)))) (by omega) (by omega) ⟨k1, k2, k3⟩ (by simp only [sI_mI, sI_mL, sI_mF, sI_mR, sI_mK, sI_mN, sI_mC, sI_mS, sL_mI, sL_mL, sL_mF, sL_mR, sL_mK, sL_mN, sL_mC, sL_mS, sF_mI, sF_mL, sF_mF, sF_mR, sF_mK, sF_mN, sF_mC, sF_mS, sR_mI, sR_mL, sR_mF, sR_mR, sR_mK, sR_mN, sR_mC, sR_mS]; rw [up2_ne _ _ _ _ hne]; exact h3) (fun j hj => by
            rw [el] at hj
            rw [ef, gd_snoc _ _ _ _ (by omega)]
            simp only [sI_mI, sI_mL, sI_mF, sI_mR, sI_mK, sI_mN, sI_mC, sI_mS, sL_mI, sL_mL, sL_mF, sL_mR, sL_mK, sL_mN, sL_mC, sL_mS, sF_mI, sF_mL, sF_mF, sF_mR, sF_mK, sF_mN, sF_mC, sF_mS, sR_mI, sR_mL, sR_mF, sR_mR, sR_mK, sR_mN, sR_mC, sR_mS]
            by_cases e : j = ((m.take i).filter (· ≠ c)).length
            · rw [if_pos e, e, up2_eq]
            · rw [if_neg e, up2_nj _ _ _ _ e]; exact hlo j (by omega)) (fun j h1 h2 => by
            simp only [sI_mI, sI_mL, sI_mF, sI_mR, sI_mK, sI_mN, sI_mC, sI_mS, sL_mI, sL_mL, sL_mF, sL_mR, sL_mK, sL_mN, sL_mC, sL_mS, sF_mI, sF_mL, sF_mF, sF_mR, sF_mK, sF_mN, sF_mC, sF_mS, sR_mI, sR_mL, sR_mF, sR_mR, sR_mK, sR_mN, sR_mC, sR_mS]; rw [up2_nj _ _ _ _ (by omega)]; exact hhi j (by omega) h2)
        rw [el] at e
        refine ⟨M', ?_, F1.trans F, r1, by rw [r2]; simp only [sI_mI, sI_mL, sI_mF, sI_mR, sI_mK, sI_mN, sI_mC, sI_mS, sL_mI, sL_mL, sL_mF, sL_mR, sL_mK, sL_mN, sL_mC, sL_mS, sF_mI, sF_mL, sF_mF, sF_mR, sF_mK, sF_mN, sF_mC, sF_mS, sR_mI, sR_mL, sR_mF, sR_mR, sR_mK, sR_mN, sR_mC, sR_mS]; exact up2_ne _ _ _ _ hne, r3, r4⟩
        simp (disch := omega) only [f_X6_removeMember_L4, gI, gL, gF, gR, pI, pZ_0, pZ_1, pZ_z, pL, pF, pR, aI, aL, aF, aR, wI, wL, wF, wR, aN, okZ_0, okZ_1, okZ_z, nar13, Option.bind_some, Option.map_some, ↓reduceIte, nW_add, nW_mul, nW_sub, nW_le, nW_lt, nW_inj, irem_nW, ix_nW, nW_lit, k1, k2, k3, h3, n1, n2, hv, hq, e]
theorem filter_erase {m : List Nat} (hd : m.Nodup) (c : Nat) : m.filter (· ≠ c) = m.erase c := by
  rw [hd.erase_eq_filter]; congr 1; funext x; simp [bne, BEq.beq]
theorem X6_removeMember {M : Mem} {a c : Nat} {x : Sh} (hz : ¬ tz a ∧ ¬ tz (a + 1)) (hk : ShK M a) (h : ShV M a x) (hm : ∀ y ∈ x.2.2, y < 6) (hd : x.2.2.Nodup) (hc : c < 6) : ∃ M', f_X6_removeMember a (nW c) M = some M' ∧ Fr (fun b => b = a ∨ b = a + 1) M M' ∧ ShK M' a ∧ ShV M' a (x.1, x.2.1, x.2.2.erase c) := by
  obtain ⟨h1, h2, h3, ⟨y, h4, h5⟩, h6⟩ := h
  obtain ⟨M', e, F, r1, r2, r3, r4⟩ := removeMember_L4 hz hm hc h3 FU 0 M (by omega) (by simp only [FU]; omega) hk h2 (fun j hj => by simp at hj) (fun j _ hj => h6 j hj)
  rw [filter_erase hd] at r1 r4
  refine ⟨M', ?_, F, ⟨by rw [F.1]; exact hk.1, by rw [r3]; exact hk.2.1, by rw [F.1]; exact hk.2.2⟩, by rw [r2]; exact h1, r1, Nat.le_trans (List.length_erase_le ..) h3, ⟨y, by rw [r3]; exact h4, h5.gr F.gr⟩, r4⟩
  simp only [f_X6_removeMember, hk.1, ↓reduceIte, nW_lit]; exact e
theorem X6_addMember {M : Mem} {a c : Nat} {x : Sh} (hz : ¬ tz a ∧ ¬ tz (a + 1)) (hk : ShK M a) (h : ShV M a x) (hn : x.2.2.length < 6) : ∃ M', f_X6_addMember a (nW c) M = some M' ∧ Fr (fun b => b = a ∨ b = a + 1) M M' ∧ ShK M' a ∧ ShV M' a (x.1, x.2.1, x.2.2 ++ [c]) := by
  obtain ⟨h1, h2, h3, ⟨y, h4, h5⟩, h6⟩ := h
  obtain ⟨k1, k2, k3⟩ := hk
  have n0 : ¬ x.2.2.length < 0 := by omega
  have n6 : ¬ 6 ≤ x.2.2.length := by omega
  have hne : a ≠ a + 1 := by omega
  have hne' : a + 1 ≠ a := by omega
  refine ⟨_, by simp (disch := omega) only [f_X6_addMember, gI, gL, gF, gR, pI, pZ_0, pZ_1, pZ_z, pL, pF, pR, aI, aL, aF, aR, wI, wL, wF, wR, aN, okZ_0, okZ_1, okZ_z, nar13, sI_mI, sI_mL, sI_mF, sI_mR, sI_mK, sI_mN, sI_mC, sI_mS, sL_mI, sL_mL, sL_mF, sL_mR, sL_mK, sL_mN, sL_mC, sL_mS, sF_mI, sF_mL, sF_mF, sF_mR, sF_mK, sF_mN, sF_mC, sF_mS, sR_mI, sR_mL, sR_mF, sR_mR, sR_mK, sR_mN, sR_mC, sR_mS, Option.bind_some, Option.map_some, bindP, bindX, bindH, ↓reduceIte, and_self, true_and, and_true, ne_eq, not_false_eq_true, not_true_eq_false, reduceCtorEq, Nat.reduceEqDiff, Nat.reduceLeDiff, Nat.reduceLT, Bool.false_eq_true, decide_true, decide_false, up2_eq, up2_ne, up2_nj, up2_fn, cl2_eq, cl2_ne, cl2_fn, nW_add, nW_mul, nW_sub, nW_le, nW_lt, nW_inj, irem_nW, ix_nW, nW_lit, k1, k2, k3, h2, n0, n6]; rfl, ?_⟩
  have F := (fr_I (P := fun b => b = a ∨ b = a + 1) M x.2.2.length (nW c) (Or.inr rfl) hz.2).trans (fr_I (sI M (up2 (mI M) (a + 1) x.2.2.length (nW c))) 3 (nW (x.2.2.length + 1)) (Or.inl rfl) hz.1)
  refine ⟨F, ⟨k1, k2, k3⟩, ?_, ?_, ?_, ⟨y, h4, h5.gr F.gr⟩, fun i hi => ?_⟩
  · simp (disch := omega) only [sI_mI, sI_mL, sI_mF, sI_mR, sI_mK, sI_mN, sI_mC, sI_mS, sL_mI, sL_mL, sL_mF, sL_mR, sL_mK, sL_mN, sL_mC, sL_mS, sF_mI, sF_mL, sF_mF, sF_mR, sF_mK, sF_mN, sF_mC, sF_mS, sR_mI, sR_mL, sR_mF, sR_mR, sR_mK, sR_mN, sR_mC, sR_mS, up2_nj, up2_ne, h1]
  · simp only [sI_mI, sI_mL, sI_mF, sI_mR, sI_mK, sI_mN, sI_mC, sI_mS, sL_mI, sL_mL, sL_mF, sL_mR, sL_mK, sL_mN, sL_mC, sL_mS, sF_mI, sF_mL, sF_mF, sF_mR, sF_mK, sF_mN, sF_mC, sF_mS, sR_mI, sR_mL, sR_mF, sR_mR, sR_mK, sR_mN, sR_mC, sR_mS, up2_eq, List.length_append, List.length_singleton]
  · simp only [List.length_append, List.length_singleton]; omega
  · simp only [List.length_append, List.length_singleton] at hi
    simp only [sI_mI, sI_mL, sI_mF, sI_mR, sI_mK, sI_mN, sI_mC, sI_mS, sL_mI, sL_mL, sL_mF, sL_mR, sL_mK, sL_mN, sL_mC, sL_mS, sF_mI, sF_mL, sF_mF, sF_mR, sF_mK, sF_mN, sF_mC, sF_mS, sR_mI, sR_mL, sR_mF, sR_mR, sR_mK, sR_mN, sR_mC, sR_mS]
    rw [up2_ne _ _ _ _ hne', gd_snoc _ _ _ _ (by omega)]
    by_cases e : i = x.2.2.length
    · rw [if_pos e, e, up2_eq]
    · rw [if_neg e, up2_nj _ _ _ _ e]; exact h6 i (by omega)
/-- what is known of a state's object itself -/
def StO (M : Mem) (S : Nat) : Prop := (mK M S).1 = 7 ∧ mR M S 1 = some (S + 1) ∧ mR M S 2 = some (S + 362) ∧ mR M S 4 = some (S + 435) ∧ mR M S 8 = some (S + 446)
theorem BaR_O {M : Mem} {S : Nat} {sc : Nat → Int32} (h : BaR M S sc) : StO M S := by
  obtain ⟨⟨h1, h2, h3, h4, h5, h6, h7, h8, h9⟩, _⟩ := h
  exact ⟨h1, h3, h4, h5, h8⟩
theorem ShsR_at {M : Mem} {S : Nat} {l : List Sh} (h : ShsR M S l) {j : Nat} (hj : j < l.length) : ∃ a, aR 21 (S + 362) (nW j) M = some a ∧ (S + 363 ≤ a ∧ a + 1 < S + 435) ∧ ShK M a ∧ ShV M a (l.getD j shD) ∧ ∀ P M' x, Gr P M M' → ¬ P S → (∀ b, S + 362 ≤ b → b < S + 435 → b ≠ a → b ≠ a + 1 → ¬ P b) → ShK M' a → ShV M' a x → (mK M S).1 ≠ 99 → ShsR M' S (l.set j x) := by
  obtain ⟨h1, h2, p, h3, h4, h5⟩ := h
  have hp := h3.2.1 j (by omega)
  have hq := h4 j (by omega)
  refine ⟨p j, by simp (disch := omega) only [aR, h3.1, ↓reduceIte, ix_nW, Option.bind_some, hp.1], by omega, hq.2, h5 j hj, fun P M' x G hS hP hK hV hk => ?_⟩
  refine ⟨by rw [(G.2 S hk (Or.inr hS)).1, len_setL]; exact h1, by rw [len_setL]; exact h2, p, h3.gr G (by decide) (by decide) (hP _ (by omega) (by omega) (by omega) (by omega)), fun i hi => ⟨(h4 i hi).1, ?_⟩, fun i hi => ?_⟩
  · by_cases e : i = j
    · subst e; exact hK
    · have a1 := h3.2.1 i hi
      have a2 := (h4 i hi).1
      have a3 : p i ≠ p j := fun hh => e (h3.2.2 i j hi (by omega) hh)
      exact (h4 i hi).2.gr G (hP _ (by omega) (by omega) (by omega) (by omega))
  · rw [len_setL] at hi
    rw [gd_set _ _ _ _ _ hj]
    by_cases e : i = j
    · subst e; rw [if_pos rfl]; exact hV
    · rw [if_neg e]
      have a1 := h3.2.1 i (by omega)
      have a2 := (h4 i (by omega)).1
      have a3 : p i ≠ p j := fun hh => e (h3.2.2 i j (by omega) (by omega) hh)
      exact (h5 i hi).gr G (h4 i (by omega)).2 ⟨hP _ (by omega) (by omega) (by omega) (by omega), hP _ (by omega) (by omega) (by omega) (by omega)⟩
theorem X7_placeOfShare_L2 {M : Mem} {S x : Nat} {t : Txt} {l : List Sh} (gr : Int32) (hO : StO M S) (hS : ShsR M S l) (hx : TextR M x t) : ∀ n i, i ≤ l.length → l.length - i < n → f_X7_placeOfShare_L2 n S x gr (nW i) M = some (posI (ffind (shP l t gr) (l.length - i) i), M)
  | 0, i, _, hn => absurd hn (by omega)
  | n + 1, i, hi, hn => by
    have ih := X7_placeOfShare_L2 gr hO hS hx n (i + 1)
    have l36 := hS.2.1
    have k3 : gI 7 3 S M = some (nW l.length) := by simp only [gI, hO.1, hS.1, ↓reduceIte]
    have k2 : gR 7 2 S M = some (S + 362) := by simp only [gR, hO.1, hO.2.2.1, ↓reduceIte]
    by_cases he : i = l.length
    · have n1 : l.length ≤ i := by omega
      rw [he, Nat.sub_self]
      simp (disch := omega) only [f_X7_placeOfShare_L2, k3, Option.bind_some, nW_le, Nat.le_refl, ↓reduceIte, ffind, posI, lit_m1i]
    · have n1 : ¬ l.length ≤ i := by omega
      have n2 : ¬ 36 ≤ i := by omega
      obtain ⟨a, e1, _, hK, ⟨v1, v2, v3, ⟨y, v4, hy⟩, v5⟩, _⟩ := ShsR_at hS (show i < l.length by omega)
      have g1 : gI 6 1 a M = some (l.getD i shD).2.1 := by simp only [gI, hK.1, v1, ↓reduceIte]
      have g0 : gR 6 0 a M = some y := by simp only [gR, hK.1, v4, ↓reduceIte]
      have sa := X10_sameAs hy hx
      have i2 := ih (by omega) (by omega)
      rw [show l.length - i = (l.length - (i + 1)) + 1 by omega, ffind, shP]
      by_cases h1 : (l.getD i shD).2.1 = gr
      · by_cases h2 : (l.getD i shD).1 = t
        · have t1 : ¬ nW 1 = nW 0 := by decide
          simp (disch := omega) only [f_X7_placeOfShare_L2, k2, k3, Option.bind_some, nW_lit, nW_le, n1, n2, ↓reduceIte, e1, g1, eq_true h1, g0, sa, bindP, eq_true h2, decide_true, zI_t, t1, Bool.and_self, posI]
        · simp (disch := omega) only [f_X7_placeOfShare_L2, k2, k3, Option.bind_some, nW_lit, nW_le, nW_add, n1, n2, ↓reduceIte, e1, g1, eq_true h1, g0, sa, bindP, eq_false h2, decide_true, decide_false, zI_f, Bool.and_false, i2, Bool.false_eq_true]
      · simp (disch := omega) only [f_X7_placeOfShare_L2, k2, k3, Option.bind_some, nW_lit, nW_le, nW_add, n1, n2, ↓reduceIte, e1, g1, eq_false h1, decide_false, Bool.false_and, i2, Bool.false_eq_true]
theorem X7_placeOfShare {M : Mem} {S x : Nat} {t : Txt} {l : List Sh} (gr : Int32) (hO : StO M S) (hS : ShsR M S l) (hx : TextR M x t) : f_X7_placeOfShare S x gr M = some (posI (shAt l t gr), M) := by
  have := X7_placeOfShare_L2 gr hO hS hx FU 0 (by omega) (by have := hS.2.1; simp only [FU]; omega)
  simp only [f_X7_placeOfShare, hO.1, ↓reduceIte, nW_lit, this, Nat.sub_zero, shAt]
