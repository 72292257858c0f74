/-! APPEND -/
theorem and255 (y : Int32) : ∃ b, b ≤ 255 ∧ y &&& nW 255 = nW b := by
  refine ⟨y.toBitVec.toNat % 256, by omega, ?_⟩
  apply Int32.toBitVec_inj.1
  rw [Int32.toBitVec_and]
  apply BitVec.eq_of_toNat_eq
  rw [BitVec.toNat_and]
  have e1 : (nW 255).toBitVec.toNat = 2 ^ 8 - 1 := by decide
  have e2 : (nW (y.toBitVec.toNat % 256)).toBitVec.toNat = y.toBitVec.toNat % 256 := by
    show y.toBitVec.toNat % 256 % 2 ^ 32 = y.toBitVec.toNat % 256
    omega
  rw [e1, e2, Nat.and_two_pow_sub_one_eq_mod]
theorem i2c256 : ∀ c : Fin 256, i2cE (nW c.val) = nW c.val := by decide +kernel
/-- the place of the byte that comes next, m bytes before the end -/
def shp (m : Nat) : Int32 := nW (8 * m) - nW 8
theorem shp_neg : shp 0 < nW 0 := by decide
theorem shp_pos {m : Nat} (h : m < 4) : ¬ shp (m + 1) < nW 0 := by
  have : m = 0 ∨ m = 1 ∨ m = 2 ∨ m = 3 := by omega
  rcases this with rfl | rfl | rfl | rfl <;> decide
theorem shp_next {m : Nat} (h : m < 4) : shp (m + 1) + -nW 8 = shp m := by
  have : m = 0 ∨ m = 1 ∨ m = 2 ∨ m = 3 := by omega
  rcases this with rfl | rfl | rfl | rfl <;> decide
theorem shp_4 : shp 4 = nW 24 := by decide
theorem lit_m8 : (-8 : Int32) = -nW 8 := by decide
def apC (g : Nat → Nat) : Nat → Nat → Option Nat
  | 0, cnt => some cnt
  | m + 1, cnt => if g m = 0 then apC g m cnt else if g m < 33 ∨ 126 < g m then none else apC g m (cnt + 1)
def apL (g : Nat → Nat) : Nat → List Nat → List Nat
  | 0, l => l
  | m + 1, l => if g m = 0 then apL g m l else apL g m (l ++ [g m])
theorem apC_ok (g : Nat → Nat) : ∀ m cnt c, apC g m cnt = some c → (∀ j, j < m → g j ≠ 0 → 33 ≤ g j ∧ g j ≤ 126) ∧ (∀ l : List Nat, (apL g m l).length + cnt = l.length + c) ∧ c ≤ cnt + m
  | 0, cnt, c, h => by
    simp only [apC, Option.some.injEq] at h
    subst h
    exact ⟨fun j hj => absurd hj (Nat.not_lt_zero j), fun l => rfl, Nat.le_refl _⟩
  | m + 1, cnt, c, h => by
    rw [apC] at h
    by_cases h0 : g m = 0
    · rw [if_pos h0] at h
      obtain ⟨h1, h2, h3⟩ := apC_ok g m cnt c h
      refine ⟨fun j hj hne => ?_, fun l => by rw [apL, if_pos h0]; exact h2 l, by omega⟩
      by_cases e : j = m
      · subst e; exact absurd h0 hne
      · exact h1 j (by omega) hne
    · rw [if_neg h0] at h
      by_cases hb : g m < 33 ∨ 126 < g m
      · rw [if_pos hb] at h; cases h
      · rw [if_neg hb] at h
        obtain ⟨h1, h2, h3⟩ := apC_ok g m (cnt + 1) c h
        refine ⟨fun j hj hne => ?_, fun l => ?_, by omega⟩
        · by_cases e : j = m
          · subst e; omega
          · exact h1 j (by omega) hne
        · rw [apL, if_neg h0]
          have := h2 (l ++ [g m])
          rw [List.length_append, List.length_singleton] at this
          omega
theorem apL_le (g : Nat → Nat) : ∀ m (l : List Nat), l.length ≤ (apL g m l).length
  | 0, l => Nat.le_refl _
  | m + 1, l => by
    rw [apL]
    split
    · exact apL_le g m l
    · have := apL_le g m (l ++ [g m])
      rw [List.length_append] at this; omega
theorem c_ap_L5 {M : Mem} {A : Wh} {x : Int32} {g : Nat → Nat} (hB : BrR M A) (hg : ∀ j, j < 4 → iushrE x (shp (j + 1)) &&& nW 255 = nW (g j) ∧ g j ≤ 255) : ∀ n m cnt, m < n → m ≤ 4 → cnt + m ≤ 100 → f_X11_append_L5 n 0 x (nW cnt) (shp m) M = match apC g m cnt with
    | none => some (.inr 1, xM M)
    | some c => if (oB A).length + c ≤ 30 then f_X11_append_L76 FU 0 x (nW 24) M else some (.inr 2, xM M)
  | 0, m, cnt, h, _, _ => absurd h (by omega)
  | n + 1, 0, cnt, _, _, hc => by
    have k1 := hB.1.1
    have e1 := hB.2.1.2.1
    have l30 := hB.2.1.2.2.1
    rw [apC]
    by_cases h30 : (oB A).length + cnt ≤ 30
    · simp (disch := omega) only [f_X11_append_L5, nW_lit, shp_neg, ↓reduceIte, gI, k1, e1, Option.bind_some, nW_add, nW_le, h30]
    · simp (disch := omega) only [f_X11_append_L5, nW_lit, shp_neg, ↓reduceIte, gI, k1, e1, Option.bind_some, nW_add, nW_le, h30]
  | n + 1, m + 1, cnt, hn, hm, hc => by
    obtain ⟨hb, h255⟩ := hg m (by omega)
    have ih := fun cnt' hc' => c_ap_L5 hB hg n m cnt' (by omega) (by omega) hc'
    rw [apC]
    by_cases h0 : g m = 0
    · rw [if_pos h0]
      rw [h0] at hb
      simp only [f_X11_append_L5, nW_lit, shp_pos (show m < 4 by omega), ↓reduceIte, hb, lit_m8, shp_next (show m < 4 by omega)]
      exact ih cnt (by omega)
    · rw [if_neg h0]
      have d0 : ¬ nW (g m) = nW 0 := nW_ne (by omega) (by omega) h0
      by_cases h1 : g m < 33
      · rw [if_pos (Or.inl h1)]
        simp (disch := omega) only [f_X11_append_L5, f_X11_append_J37, nW_lit, shp_pos (show m < 4 by omega), ↓reduceIte, hb, d0, nW_lt, h1]
      · by_cases h2 : 126 < g m
        · rw [if_pos (Or.inr h2)]
          have h3 : ¬ g m ≤ 126 := by omega
          simp (disch := omega) only [f_X11_append_L5, f_X11_append_J37, nW_lit, shp_pos (show m < 4 by omega), ↓reduceIte, hb, d0, nW_lt, nW_le, h1, h3]
        · rw [if_neg (by omega)]
          have h3 : g m ≤ 126 := by omega
          simp (disch := omega) only [f_X11_append_L5, nW_lit, shp_pos (show m < 4 by omega), ↓reduceIte, hb, d0, nW_lt, nW_le, h1, h3, nW_add, lit_m8, shp_next (show m < 4 by omega)]
          exact ih (cnt + 1) (by omega)
theorem BrR_buf {M : Mem} {A : Wh} {l : List Nat} {c : Nat} (h : BrR M (l, A.2)) (hl : l.length < 30) (hc : 33 ≤ c ∧ c ≤ 126) : BrR (sI (sI M (up2 (mI M) 5 l.length (nW c))) (up2 (up2 (mI M) 5 l.length (nW c)) 0 1 (nW (l.length + 1)))) (l ++ [c], A.2) ∧ Fr (fun a => a = 0 ∨ a = 5) M (sI (sI M (up2 (mI M) 5 l.length (nW c))) (up2 (up2 (mI M) 5 l.length (nW c)) 0 1 (nW (l.length + 1)))) := by
  have F1 : Fr (fun a => a = 5) M (sI M (up2 (mI M) 5 l.length (nW c))) := fq_I M _ _ (by simp only [tz]; omega)
  have F2 : Fr (fun a => a = 0) (sI M (up2 (mI M) 5 l.length (nW c))) (sI (sI M (up2 (mI M) 5 l.length (nW c))) (up2 (up2 (mI M) 5 l.length (nW c)) 0 1 (nW (l.length + 1)))) := fq_I _ _ _ (by simp only [tz]; omega)
  have F : Fr (fun a => a = 0 ∨ a = 5) M (sI (sI M (up2 (mI M) 5 l.length (nW c))) (up2 (up2 (mI M) 5 l.length (nW c)) 0 1 (nW (l.length + 1)))) := F1.tr F2 (fun a h => Or.inr h) (fun a h => Or.inl h)
  refine ⟨?_, F⟩
  obtain ⟨⟨c1, c2, c3, c4, c5, c6⟩, ⟨b1, b2, b3, b4, b5⟩, e1, ⟨p1, p2⟩, m7, ⟨t1, t2⟩, s1⟩ := h
  have I0 : ∀ f, f ≠ 1 → up2 (up2 (mI M) 5 l.length (nW c)) 0 1 (nW (l.length + 1)) 0 f = mI M 0 f := fun f hf => by
    rw [up2_nj _ _ _ _ hf, up2_ne _ _ _ _ (by omega)]
  refine ⟨⟨c1, c2, c3, c4, c5, c6⟩, ⟨b1, ?_, ?_, fun j hj => ?_, fun d hd => ?_⟩, (I0 2 (by omega)).trans e1, ⟨(I0 3 (by omega)).trans p1, p2.gr F.gr (by omega)⟩, m7, ⟨(I0 7 (by omega)).trans t1, t2.gr F.gr (fun a h => by unfold SZ at h; omega)⟩, s1.gr F.gr (fun a h => by unfold SZ at h; omega)⟩
  · show up2 (up2 (mI M) 5 l.length (nW c)) 0 1 (nW (l.length + 1)) 0 1 = nW (l ++ [c]).length
    rw [up2_eq, List.length_append]; rfl
  · show (l ++ [c]).length ≤ 30
    rw [List.length_append, List.length_singleton]; omega
  · have hj : j < (l ++ [c]).length := hj
    show up2 (up2 (mI M) 5 l.length (nW c)) 0 1 (nW (l.length + 1)) 5 j = nW ((l ++ [c]).getD j 0)
    rw [List.length_append, List.length_singleton] at hj
    rw [up2_ne _ _ _ _ (by omega), gd_snoc _ _ _ _ (by omega)]
    by_cases e : j = l.length
    · subst e; rw [up2_eq, if_pos rfl]
    · rw [up2_nj _ _ _ _ e, if_neg e]; exact b4 j (by show j < l.length; omega)
  · have hd : d ∈ l ++ [c] := hd
    rcases List.mem_append.mp hd with hd | hd
    · exact b5 d hd
    · rw [List.mem_singleton.mp hd]; exact hc
theorem c_ap_L76 {A : Wh} {x : Int32} {g : Nat → Nat} (hg : ∀ j, j < 4 → iushrE x (shp (j + 1)) &&& nW 255 = nW (g j) ∧ g j ≤ 255) : ∀ n m l M, m < n → m ≤ 4 → BrR M (l, A.2) → (∀ j, j < m → g j ≠ 0 → 33 ≤ g j ∧ g j ≤ 126) → (apL g m l).length ≤ 30 → ∃ M', f_X11_append_L76 n 0 x (shp m) M = some (.inl (nW (apL g m l).length), M') ∧ BrR M' (apL g m l, A.2) ∧ Fr (fun a => a = 0 ∨ a = 5) M M'
  | 0, m, l, M, h, _, _, _, _ => absurd h (by omega)
  | n + 1, 0, l, M, _, _, hB, _, _ => by
    have k1 := hB.1.1
    have e1 : mI M 0 1 = nW l.length := hB.2.1.2.1
    refine ⟨M, ?_, hB, Fr.refl _ _⟩
    simp only [f_X11_append_L76, nW_lit, shp_neg, ↓reduceIte, gI, k1, e1, Option.bind_some, apL]
  | n + 1, m + 1, l, M, hn, hm, hB, hv, hl => by
    obtain ⟨hb, h255⟩ := hg m (by omega)
    have hl' := apL_le g (m + 1) l
    rw [apL] at hl ⊢
    by_cases h0 : g m = 0
    · rw [if_pos h0] at hl ⊢
      obtain ⟨M', e, B, F⟩ := c_ap_L76 (A := A) hg n m l M (by omega) (by omega) hB (fun j hj => hv j (by omega)) hl
      refine ⟨M', ?_, B, F⟩
      rw [h0] at hb
      simp only [f_X11_append_L76, nW_lit, shp_pos (show m < 4 by omega), ↓reduceIte, hb, lit_m8, shp_next (show m < 4 by omega)]
      exact e
    · rw [if_neg h0] at hl ⊢
      have hr := hv m (by omega) h0
      have d0 : ¬ nW (g m) = nW 0 := nW_ne (by omega) (by omega) h0
      have hlt := apL_le g m (l ++ [g m])
      rw [List.length_append, List.length_singleton] at hlt
      obtain ⟨B1, F1⟩ := BrR_buf hB (show l.length < 30 by omega) hr
      obtain ⟨M', e, B, F⟩ := c_ap_L76 (A := A) hg n m (l ++ [g m]) _ (by omega) (by omega) B1 (fun j hj => hv j (by omega)) hl
      refine ⟨M', ?_, B, F1.trans F⟩
      have k1 := hB.1.1
      have kr := hB.1.2.1
      have k5 : mK M 5 = (16, 30) := hB.2.1.1
      have e1 : mI M 0 1 = nW l.length := hB.2.1.2.1
      have n0 : ¬ l.length < 0 := by omega
      have n30 : ¬ 30 ≤ l.length := by omega
      have ec : i2cE (nW (g m)) = nW (g m) := i2c256 ⟨g m, by omega⟩
      have en : aN 5 M = some (nW 30) := by simp only [aN, k5]; rfl
      have ew : wI 16 5 (nW l.length) (nW (g m)) M = some (sI M (up2 (mI M) 5 l.length (nW (g m)))) := by
        simp (disch := omega) only [wI, k5, ↓reduceIte, ix_nW, Option.map_some, nar16']
      have e1' : gI 11 1 0 M = some (nW l.length) := by simp only [gI, k1, ↓reduceIte, e1]
      have er : gR 11 0 0 M = some 5 := by simp only [gR, k1, ↓reduceIte, kr]
      have e1'' : gI 11 1 0 (sI M (up2 (mI M) 5 l.length (nW (g m)))) = some (nW l.length) := by
        have : up2 (mI M) 5 l.length (nW (g m)) 0 1 = nW l.length := by rw [up2_ne _ _ _ _ (by omega)]; exact e1
        simp only [gI, sI_mI, sI_mL, sI_mF, sI_mR, sI_mK, sI_mN, sI_mC, sI_mS, sL_mI, sL_mL, sL_mF, sL_mR, sL_mK, sL_mN, sL_mC, sL_mS, sF_mI, sF_mL, sF_mF, sF_mR, sF_mK, sF_mN, sF_mC, sF_mS, sR_mI, sR_mL, sR_mF, sR_mR, sR_mK, sR_mN, sR_mC, sR_mS, k1, ↓reduceIte, this]
      have ep : pI 11 1 0 (nW (l.length + 1)) (sI M (up2 (mI M) 5 l.length (nW (g m)))) = some (sI (sI M (up2 (mI M) 5 l.length (nW (g m)))) (up2 (up2 (mI M) 5 l.length (nW (g m))) 0 1 (nW (l.length + 1)))) := by
        simp only [pI, sI_mI, sI_mL, sI_mF, sI_mR, sI_mK, sI_mN, sI_mC, sI_mS, sL_mI, sL_mL, sL_mF, sL_mR, sL_mK, sL_mN, sL_mC, sL_mS, sF_mI, sF_mL, sF_mF, sF_mR, sF_mK, sF_mN, sF_mC, sF_mS, sR_mI, sR_mL, sR_mF, sR_mR, sR_mK, sR_mN, sR_mC, sR_mS, k1, ↓reduceIte]
      simp (disch := omega) only [f_X11_append_L76, nW_lit, shp_pos (show m < 4 by omega), ↓reduceIte, hb, d0, e1', er, en, Option.bind_some, nW_lt, nW_le, n0, n30, ec, ew, e1'', nW_add, ep, lit_m8, shp_next (show m < 4 by omega)]
      exact e
