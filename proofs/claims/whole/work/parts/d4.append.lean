/-! APPEND -/
theorem and255 (y : Int32) : ∃ b, b ≤ 255 ∧ y &&& nW 255 = nW b := by
  refine ⟨y.toBitVec.toNat % 256, by omega, ?_⟩
  apply Int32.toBitVec_inj.1
  rw [Int32.toBitVec_and]
  apply BitVec.eq_of_toNat_eq
  rw [BitVec.toNat_and]
  have e1 : (nW 255).toBitVec.toNat = 2 ^ 8 - 1 := by decide
  have e2 : (nW (y.toBitVec.toNat % 256)).toBitVec.toNat = y.toBitVec.toNat % 256 := by
    show y.toBitVec.toNat % 256 % 2 ^ 32 = y.toBitVec.toNat % 256
    omega
  rw [e1, e2, Nat.and_two_pow_sub_one_eq_mod]
theorem i2c256 : ∀ c : Fin 256, i2cE (nW c.val) = nW c.val := by decide +kernel
/-- the place of the byte that comes next, m bytes before the end -/
def shp (m : Nat) : Int32 := nW (8 * m) - nW 8
theorem shp_neg : shp 0 < nW 0 := by decide
theorem shp_pos {m : Nat} (h : m < 4) : ¬ shp (m + 1) < nW 0 := by
  have : m = 0 ∨ m = 1 ∨ m = 2 ∨ m = 3 := by omega
  rcases this with rfl | rfl | rfl | rfl <;> decide
theorem shp_next {m : Nat} (h : m < 4) : shp (m + 1) + -nW 8 = shp m := by
  have : m = 0 ∨ m = 1 ∨ m = 2 ∨ m = 3 := by omega
  rcases this with rfl | rfl | rfl | rfl <;> decide
theorem shp_4 : shp 4 = nW 24 := by decide
theorem lit_m8 : (-8 : Int32) = -nW 8 := by decide
def apC (g : Nat → Nat) : Nat → Nat → Option Nat
  | 0, cnt => some cnt
  | m + 1, cnt => if g m = 0 then apC g m cnt else if g m < 33 ∨ 126 < g m then none else apC g m (cnt + 1)
def apL (g : Nat → Nat) : Nat → List Nat → List Nat
  | 0, l => l
  | m + 1, l => if g m = 0 then apL g m l else apL g m (l ++ [g m])
theorem apC_ok (g : Nat → Nat) : ∀ m cnt c, apC g m cnt = some c → (∀ j, j < m → g j ≠ 0 → 33 ≤ g j ∧ g j ≤ 126) ∧ (∀ l : List Nat, (apL g m l).length + cnt = l.length + c) ∧ c ≤ cnt + m
  | 0, cnt, c, h => by
    simp only [apC, Option.some.injEq] at h
    subst h
    exact ⟨fun j hj => absurd hj (Nat.not_lt_zero j), fun l => rfl, Nat.le_refl _⟩
  | m + 1, cnt, c, h => by
    rw [apC] at h
    by_cases h0 : g m = 0
    · rw [if_pos h0] at h
      obtain ⟨h1, h2, h3⟩ := apC_ok g m cnt c h
      refine ⟨fun j hj hne => ?_, fun l => by rw [apL, if_pos h0]; exact h2 l, by omega⟩
      by_cases e : j = m
      · subst e; exact absurd h0 hne
      · exact h1 j (by omega) hne
    · rw [if_neg h0] at h
      by_cases hb : g m < 33 ∨ 126 < g m
      · rw [if_pos hb] at h; cases h
      · rw [if_neg hb] at h
        obtain ⟨h1, h2, h3⟩ := apC_ok g m (cnt + 1) c h
        refine ⟨fun j hj hne => ?_, fun l => ?_, by omega⟩
        · by_cases e : j = m
          · subst e; omega
          · exact h1 j (by omega) hne
        · rw [apL, if_neg h0]
          have := h2 (l ++ [g m])
          rw [List.length_append, List.length_singleton] at this
          omega
theorem apL_le (g : Nat → Nat) : ∀ m (l : List Nat), l.length ≤ (apL g m l).length
  | 0, l => Nat.le_refl _
  | m + 1, l => by
    rw [apL]
    split
    · exact apL_le g m l
    · have := apL_le g m (l ++ [g m])
      rw [List.length_append] at this; omega
theorem c_ap_L5 {M : Mem} {A : Wh} {x : Int32} {g : Nat → Nat} (hB : BrR M A) (hg : ∀ j, j < 4 → iushrE x (shp (j + 1)) &&& nW 255 = nW (g j) ∧ g j ≤ 255) : ∀ n m cnt, m < n → m ≤ 4 → cnt + m ≤ 100 → f_X11_append_L5 n 0 x (nW cnt) (shp m) M = match apC g m cnt with
    | none => some (.inr 1, xM M)
    | some c => if (oB A).length + c ≤ 30 then f_X11_append_L76 FU 0 x (nW 24) M else some (.inr 2, xM M)
  | 0, m, cnt, h, _, _ => absurd h (by omega)
  | n + 1, 0, cnt, _, _, hc => by
    have k1 := hB.1.1
    have e1 := hB.2.1.2.1
    have l30 := hB.2.1.2.2.1
    rw [apC]
    by_cases h30 : (oB A).length + cnt ≤ 30
    · simp (disch := omega) only [f_X11_append_L5, nW_lit, shp_neg, ↓reduceIte, gI, k1, e1, Option.bind_some, nW_add, nW_le, h30]
    · simp (disch := omega) only [f_X11_append_L5, nW_lit, shp_neg, ↓reduceIte, gI, k1, e1, Option.bind_some, nW_add, nW_le, h30]
  | n + 1, m + 1, cnt, hn, hm, hc => by
    obtain ⟨hb, h255⟩ := hg m (by omega)
    have ih := fun cnt' hc' => c_ap_L5 hB hg n m cnt' (by omega) (by omega) hc'
    rw [apC]
    by_cases h0 : g m = 0
    · rw [if_pos h0]
      rw [h0] at hb
      simp only [f_X11_append_L5, nW_lit, shp_pos (show m < 4 by omega), ↓reduceIte, hb, lit_m8, shp_next (show m < 4 by omega)]
      exact ih cnt (by omega)
    · rw [if_neg h0]
      have d0 : ¬ nW (g m) = nW 0 := nW_ne (by omega) (by omega) h0
      by_cases h1 : g m < 33
      · rw [if_pos (Or.inl h1)]
        simp (disch := omega) only [f_X11_append_L5, f_X11_append_J37, nW_lit, shp_pos (show m < 4 by omega), ↓reduceIte, hb, d0, nW_lt, h1]
      · by_cases h2 : 126 < g m
        · rw [if_pos (Or.inr h2)]
          have h3 : ¬ g m ≤ 126 := by omega
          simp (disch := omega) only [f_X11_append_L5, f_X11_append_J37, nW_lit, shp_pos (show m < 4 by omega), ↓reduceIte, hb, d0, nW_lt, nW_le, h1, h3]
        · rw [if_neg (by omega)]
          have h3 : g m ≤ 126 := by omega
          simp (disch := omega) only [f_X11_append_L5, nW_lit, shp_pos (show m < 4 by omega), ↓reduceIte, hb, d0, nW_lt, nW_le, h1, h3, nW_add, lit_m8, shp_next (show m < 4 by omega)]
          exact ih (cnt + 1) (by omega)
theorem BrR_buf {M : Mem} {A : Wh} {l : List Nat} {c : Nat} (h : BrR M (l, A.2)) (hl : l.length < 30) (hc : 33 ≤ c ∧ c ≤ 126) : BrR (sI (sI M (up2 (mI M) 5 l.length (nW c))) (up2 (up2 (mI M) 5 l.length (nW c)) 0 1 (nW (l.length + 1)))) (l ++ [c], A.2) ∧ Fr (fun a => a = 0 ∨ a = 5) M (sI (sI M (up2 (mI M) 5 l.length (nW c))) (up2 (up2 (mI M) 5 l.length (nW c)) 0 1 (nW (l.length + 1)))) := by
  have F1 : Fr (fun a => a = 5) M (sI M (up2 (mI M) 5 l.length (nW c))) := fq_I M _ _ (by simp only [tz]; omega)
  have F2 : Fr (fun a => a = 0) (sI M (up2 (mI M) 5 l.length (nW c))) (sI (sI M (up2 (mI M) 5 l.length (nW c))) (up2 (up2 (mI M) 5 l.length (nW c)) 0 1 (nW (l.length + 1)))) := fq_I _ _ _ (by simp only [tz]; omega)
  have F : Fr (fun a => a = 0 ∨ a = 5) M (sI (sI M (up2 (mI M) 5 l.length (nW c))) (up2 (up2 (mI M) 5 l.length (nW c)) 0 1 (nW (l.length + 1)))) := F1.tr F2 (fun a h => Or.inr h) (fun a h => Or.inl h)
  refine ⟨?_, F⟩
  obtain ⟨⟨c1, c2, c3, c4, c5, c6⟩, ⟨b1, b2, b3, b4, b5⟩, e1, ⟨p1, p2⟩, m7, ⟨t1, t2⟩, s1⟩ := h
  have I0 : ∀ f, f ≠ 1 → up2 (up2 (mI M) 5 l.length (nW c)) 0 1 (nW (l.length + 1)) 0 f = mI M 0 f := fun f hf => by
    rw [up2_nj _ _ _ _ hf, up2_ne _ _ _ _ (by omega)]
  refine ⟨⟨c1, c2, c3, c4, c5, c6⟩, ⟨b1, ?_, ?_, fun j hj => ?_, fun d hd => ?_⟩, (I0 2 (by omega)).trans e1, ⟨(I0 3 (by omega)).trans p1, p2.gr F.gr (by omega)⟩, m7, ⟨(I0 7 (by omega)).trans t1, t2.gr F.gr (fun a h => by unfold SZ at h; omega)⟩, s1.gr F.gr (fun a h => by unfold SZ at h; omega)⟩
  · show up2 (up2 (mI M) 5 l.length (nW c)) 0 1 (nW (l.length + 1)) 0 1 = nW (l ++ [c]).length
    rw [up2_eq, List.length_append]; rfl
  · show (l ++ [c]).length ≤ 30
    rw [List.length_append, List.length_singleton]; omega
  · have hj : j < (l ++ [c]).length := hj
    show up2 (up2 (mI M) 5 l.length (nW c)) 0 1 (nW (l.length + 1)) 5 j = nW ((l ++ [c]).getD j 0)
    rw [List.length_append, List.length_singleton] at hj
    rw [up2_ne _ _ _ _ (by omega), gd_snoc _ _ _ _ (by omega)]
    by_cases e : j = l.length
    · subst e; rw [up2_eq, if_pos rfl]
    · rw [up2_nj _ _ _ _ e, if_neg e]; exact b4 j (by show j < l.length; omega)
  · have hd : d ∈ l ++ [c] := hd
    rcases List.mem_append.mp hd with hd | hd
    · exact b5 d hd
    · rw [List.mem_singleton.mp hd]; exact hc
theorem c_ap_L76 {A : Wh} {x : Int32} {g : Nat → Nat} (hg : ∀ j, j < 4 → iushrE x (shp (j + 1)) &&& nW 255 = nW (g j) ∧ g j ≤ 255) : ∀ n m l M, m < n → m ≤ 4 → BrR M (l, A.2) → (∀ j, j < m → g j ≠ 0 → 33 ≤ g j ∧ g j ≤ 126) → (apL g m l).length ≤ 30 → ∃ M', f_X11_append_L76 n 0 x (shp m) M = some (.inl (nW (apL g m l).length), M') ∧ BrR M' (apL g m l, A.2) ∧ Fr (fun a => a = 0 ∨ a = 5) M M'
  | 0, m, l, M, h, _, _, _, _ => absurd h (by omega)
  | n + 1, 0, l, M, _, _, hB, _, _ => by
    have k1 := hB.1.1
    have e1 : mI M 0 1 = nW l.length := hB.2.1.2.1
    refine ⟨M, ?_, hB, Fr.refl _ _⟩
    simp only [f_X11_append_L76, nW_lit, shp_neg, ↓reduceIte, gI, k1, e1, Option.bind_some, apL]
  | n + 1, m + 1, l, M, hn, hm, hB, hv, hl => by
    obtain ⟨hb, h255⟩ := hg m (by omega)
    have hl' := apL_le g (m + 1) l
    rw [apL] at hl ⊢
    by_cases h0 : g m = 0
    · rw [if_pos h0] at hl ⊢
      obtain ⟨M', e, B, F⟩ := c_ap_L76 (A := A) hg n m l M (by omega) (by omega) hB (fun j hj => hv j (by omega)) hl
      refine ⟨M', ?_, B, F⟩
      rw [h0] at hb
      simp only [f_X11_append_L76, nW_lit, shp_pos (show m < 4 by omega), ↓reduceIte, hb, lit_m8, shp_next (show m < 4 by omega)]
      exact e
    · rw [if_neg h0] at hl ⊢
      have hr := hv m (by omega) h0
      have d0 : ¬ nW (g m) = nW 0 := nW_ne (by omega) (by omega) h0
      have hlt := apL_le g m (l ++ [g m])
      rw [List.length_append, List.length_singleton] at hlt
      obtain ⟨B1, F1⟩ := BrR_buf hB (show l.length < 30 by omega) hr
      obtain ⟨M', e, B, F⟩ := c_ap_L76 (A := A) hg n m (l ++ [g m]) _ (by omega) (by omega) B1 (fun j hj => hv j (by omega)) hl
      refine ⟨M', ?_, B, F1.trans F⟩
      have k1 := hB.1.1
      have kr := hB.1.2.1
      have k5 : mK M 5 = (16, 30) := hB.2.1.1
      have e1 : mI M 0 1 = nW l.length := hB.2.1.2.1
      have n0 : ¬ l.length < 0 := by omega
      have n30 : ¬ 30 ≤ l.length := by omega
      have ec : i2cE (nW (g m)) = nW (g m) := i2c256 ⟨g m, by omega⟩
      have en : aN 5 M = some (nW 30) := by simp only [aN, k5]; rfl
      have ew : wI 16 5 (nW l.length) (nW (g m)) M = some (sI M (up2 (mI M) 5 l.length (nW (g m)))) := by
        simp (disch := omega) only [wI, k5, ↓reduceIte, ix_nW, Option.map_some, nar16']
      have e1' : gI 11 1 0 M = some (nW l.length) := by simp only [gI, k1, ↓reduceIte, e1]
      have er : gR 11 0 0 M = some 5 := by simp only [gR, k1, ↓reduceIte, kr]
      have e1'' : gI 11 1 0 (sI M (up2 (mI M) 5 l.length (nW (g m)))) = some (nW l.length) := by
        have : up2 (mI M) 5 l.length (nW (g m)) 0 1 = nW l.length := by rw [up2_ne _ _ _ _ (by omega)]; exact e1
        simp only [gI, sI_mI, sI_mL, sI_mF, sI_mR, sI_mK, sI_mN, sI_mC, sI_mS, sL_mI, sL_mL, sL_mF, sL_mR, sL_mK, sL_mN, sL_mC, sL_mS, sF_mI, sF_mL, sF_mF, sF_mR, sF_mK, sF_mN, sF_mC, sF_mS, sR_mI, sR_mL, sR_mF, sR_mR, sR_mK, sR_mN, sR_mC, sR_mS, k1, ↓reduceIte, this]
      have ep : pI 11 1 0 (nW (l.length + 1)) (sI M (up2 (mI M) 5 l.length (nW (g m)))) = some (sI (sI M (up2 (mI M) 5 l.length (nW (g m)))) (up2 (up2 (mI M) 5 l.length (nW (g m))) 0 1 (nW (l.length + 1)))) := by
        simp only [pI, sI_mI, sI_mL, sI_mF, sI_mR, sI_mK, sI_mN, sI_mC, sI_mS, sL_mI, sL_mL, sL_mF, sL_mR, sL_mK, sL_mN, sL_mC, sL_mS, sF_mI, sF_mL, sF_mF, sF_mR, sF_mK, sF_mN, sF_mC, sF_mS, sR_mI, sR_mL, sR_mF, sR_mR, sR_mK, sR_mN, sR_mC, sR_mS, k1, ↓reduceIte]
      simp (disch := omega) only [f_X11_append_L76, nW_lit, shp_pos (show m < 4 by omega), ↓reduceIte, hb, d0, e1', er, en, Option.bind_some, nW_lt, nW_le, n0, n30, ec, ew, e1'', nW_add, ep, lit_m8, shp_next (show m < 4 by omega)]
      exact e
theorem q_w7 {N : Mem} {V : VR} {s : Nat → Int32} {t : Nat → Int64} (h : KR N) {i : Nat} (x : Int32) (hi : i < 30) : wI 13 915 (nW i) x (QW N V s t) = some (QW N (vI V 7 i x) s t) := by
  have := W_wI7 (V := VS V s t) h x hi
  rw [VS_vIo _ _ _ _ _ (by omega)] at this; exact this
theorem RfR_buf {V : VR} {s : Nat → Int32} {t : Nat → Int64} {A : Wh} {l : List Nat} {c : Nat} (h : RfR V s t (l, A.2)) : RfR (vI (vI V 7 l.length (nW c)) 0 9 (nW (l.length + 1))) s t (l ++ [c], A.2) := by
  obtain ⟨⟨a1, a2⟩, b, ⟨c1, c2⟩, ⟨d1, d2⟩, f, g, i⟩ := h
  have e0 : ∀ j, j ≠ 9 → (vI (vI V 7 l.length (nW c)) 0 9 (nW (l.length + 1))).1 0 j = V.1 0 j := fun j hj => by
    rw [vI_1, fset_ne _ _ hj, vI_o _ _ _ (by omega)]
  have ek : ∀ k, k ≠ 0 → k ≠ 7 → (vI (vI V 7 l.length (nW c)) 0 9 (nW (l.length + 1))).1 k = V.1 k := fun k h0 h7 => by
    rw [vI_o _ _ _ h0, vI_o _ _ _ h7]
  refine ⟨⟨?_, fun j hj => ?_⟩, (e0 10 (by omega)).trans b, ⟨(e0 17 (by omega)).trans c1, ?_⟩, ⟨(e0 7 (by omega)).trans d1, ?_⟩, f, g, i⟩
  · rw [vI_1, fset_eq]
    show _ = nW (l ++ [c]).length
    rw [List.length_append]; rfl
  · have hj : j < (l ++ [c]).length := hj
    show (vI (vI V 7 l.length (nW c)) 0 9 (nW (l.length + 1))).1 7 j = nW ((l ++ [c]).getD j 0)
    rw [List.length_append, List.length_singleton] at hj
    rw [vI_o _ _ _ (by omega), vI_1, gd_snoc _ _ _ _ (by omega)]
    by_cases e : j = l.length
    · subst e; rw [fset_eq, if_pos rfl]
    · rw [fset_ne _ _ e, if_neg e]; exact a2 j (by show j < l.length; omega)
  · rw [ek 11 (by omega) (by omega)]; exact c2
  · rw [ek 4 (by omega) (by omega)]; exact d2
theorem r_ap_L85 {N : Mem} {s : Nat → Int32} {t : Nat → Int64} {A : Wh} {x : Int32} {g : Nat → Nat} (hk : KR N) (hg : ∀ j, j < 4 → iushrE x (shp (j + 1)) &&& nW 255 = nW (g j) ∧ g j ≤ 255) : ∀ n m l V, m < n → m ≤ 4 → RfR V s t (l, A.2) → V.1 0 0 = nW 0 → (apL g m l).length ≤ 30 → ∃ V', f_X12_append_L85 n 908 x (shp m) (QW N V s t) = some (nW (apL g m l).length, QW N V' s t) ∧ RfR V' s t (apL g m l, A.2) ∧ V'.1 0 0 = nW 0
  | 0, m, l, V, h, _, _, _, _ => absurd h (by omega)
  | n + 1, 0, l, V, _, _, hR, hz, _ => by
    have e9 : V.1 0 9 = nW l.length := hR.1.1
    refine ⟨V, ?_, hR, hz⟩
    simp only [f_X12_append_L85, nW_lit, shp_neg, ↓reduceIte, q_gI hk, e9, Option.bind_some, apL]
  | n + 1, m + 1, l, V, hn, hm, hR, hz, hl => by
    obtain ⟨hb, h255⟩ := hg m (by omega)
    rw [apL] at hl ⊢
    by_cases h0 : g m = 0
    · rw [if_pos h0] at hl ⊢
      obtain ⟨V', e, B⟩ := r_ap_L85 (N := N) (A := A) hk hg n m l V (by omega) (by omega) hR hz hl
      refine ⟨V', ?_, B⟩
      rw [h0] at hb
      simp only [f_X12_append_L85, nW_lit, shp_pos (show m < 4 by omega), ↓reduceIte, hb, lit_m8, shp_next (show m < 4 by omega)]
      exact e
    · rw [if_neg h0] at hl ⊢
      have d0 : ¬ nW (g m) = nW 0 := nW_ne (by omega) (by omega) h0
      have hlt := apL_le g m (l ++ [g m])
      rw [List.length_append, List.length_singleton] at hlt
      have e9 : V.1 0 9 = nW l.length := hR.1.1
      obtain ⟨V', e, B⟩ := r_ap_L85 (N := N) (A := A) hk hg n m (l ++ [g m]) _ (by omega) (by omega) (RfR_buf (c := g m) hR) (by rw [vI_1, fset_ne _ _ (by omega), vI_o _ _ _ (by omega)]; exact hz) hl
      refine ⟨V', ?_, B⟩
      have e9' : (vI V 7 l.length (nW (g m))).1 0 9 = nW l.length := by rw [vI_o _ _ _ (by omega)]; exact e9
      simp (disch := omega) only [f_X12_append_L85, nW_lit, shp_pos (show m < 4 by omega), ↓reduceIte, hb, d0, q_gR8 hk, q_gI hk, e9, Option.bind_some, q_w7 hk, e9', nW_add, q_pI hk, lit_m8, shp_next (show m < 4 by omega)]
      exact e
theorem r_ap_L10 {N : Mem} {V : VR} {s : Nat → Int32} {t : Nat → Int64} {A : Wh} {x : Int32} {g : Nat → Nat} (hk : KR N) (hR : RfR V s t A) (hl : (oB A).length ≤ 30) (hg : ∀ j, j < 4 → iushrE x (shp (j + 1)) &&& nW 255 = nW (g j) ∧ g j ≤ 255) : ∀ n m cnt, m < n → m ≤ 4 → cnt + m ≤ 100 → f_X12_append_L10 n 908 x (nW cnt) (shp m) (QW N V s t) = match apC g m cnt with
    | none => some (nW 0, QW N (vI V 0 0 (nW 1)) s t)
    | some c => if (oB A).length + c ≤ 30 then f_X12_append_L85 FU 908 x (nW 24) (QW N V s t) else some (nW 0, QW N (vI V 0 0 (nW 2)) s t)
  | 0, m, cnt, h, _, _ => absurd h (by omega)
  | n + 1, 0, cnt, _, _, hc => by
    have e9 : V.1 0 9 = nW (oB A).length := hR.1.1
    rw [apC]
    by_cases h30 : (oB A).length + cnt ≤ 30
    · simp (disch := omega) only [f_X12_append_L10, nW_lit, shp_neg, ↓reduceIte, q_gI hk, e9, Option.bind_some, nW_add, nW_le, h30]
    · simp (disch := omega) only [f_X12_append_L10, nW_lit, shp_neg, ↓reduceIte, q_gI hk, e9, Option.bind_some, nW_add, nW_le, h30, r_fails hk, bindP]
  | n + 1, m + 1, cnt, hn, hm, hc => by
    obtain ⟨hb, h255⟩ := hg m (by omega)
    have ih := fun cnt' hc' => r_ap_L10 (N := N) hk hR hl hg n m cnt' (by omega) (by omega) hc'
    rw [apC]
    by_cases h0 : g m = 0
    · rw [if_pos h0]
      rw [h0] at hb
      simp only [f_X12_append_L10, f_X12_append_J46, nW_lit, shp_pos (show m < 4 by omega), ↓reduceIte, hb, nW_add, Nat.add_zero, lit_m8, shp_next (show m < 4 by omega)]
      exact ih cnt (by omega)
    · rw [if_neg h0]
      have d0 : ¬ nW (g m) = nW 0 := nW_ne (by omega) (by omega) h0
      by_cases h1 : g m < 33 ∨ 126 < g m
      · rw [if_pos h1]
        have hin := inB_not (k := g m) (a := 33) (b := 126) (by omega) (by omega) (by omega) h1
        simp only [f_X12_append_L10, nW_lit, shp_pos (show m < 4 by omega), ↓reduceIte, hb, d0, r_in, hin, zI_f, bindP, r_fails hk]
      · rw [if_neg h1]
        have hin := inB_of (k := g m) (a := 33) (b := 126) (by omega) (by omega) (by omega)
        simp only [f_X12_append_L10, f_X12_append_J46, nW_lit, shp_pos (show m < 4 by omega), ↓reduceIte, hb, d0, r_in, hin, zI_t, z1n0, bindP, nW_add, lit_m8, shp_next (show m < 4 by omega)]
        exact ih (cnt + 1) (by omega)
theorem Op_append (x : Int32) : OpOK (cdB 1 2) (f_X11_append 0 x) (f_X12_append 908 x) := by
  intro k M A hk5 hB hF hN hW hX
  have k1 := hB.1.1
  have l30 := hB.2.1.2.2.1
  have hgx : ∀ j : Nat, ∃ b, b ≤ 255 ∧ iushrE x (shp (j + 1)) &&& nW 255 = nW b := fun j => and255 _
  obtain ⟨g, hg0⟩ : ∃ g : Nat → Nat, ∀ j, g j ≤ 255 ∧ iushrE x (shp (j + 1)) &&& nW 255 = nW (g j) := ⟨fun j => (hgx j).choose, fun j => (hgx j).choose_spec⟩
  have hg : ∀ j, j < 4 → iushrE x (shp (j + 1)) &&& nW 255 = nW (g j) ∧ g j ≤ 255 := fun j _ => ⟨(hg0 j).2, (hg0 j).1⟩
  have e5 := c_ap_L5 hB hg FU 4 0 (by simp only [FU]; omega) (Nat.le_refl _) (by omega)
  have RR : ∀ N V s t, KR N → RfR V s t A → f_X12_append 908 x (QW N V s t) = match apC g 4 0 with
    | none => some (nW 0, QW N (vI (vI V 0 0 (nW 0)) 0 0 (nW 1)) s t)
    | some c => if (oB A).length + c ≤ 30 then f_X12_append_L85 FU 908 x (nW 24) (QW N (vI V 0 0 (nW 0)) s t) else some (nW 0, QW N (vI (vI V 0 0 (nW 0)) 0 0 (nW 2)) s t) := fun N V s t hk hR => by
    have e10 := r_ap_L10 (N := N) hk (hR.vq (VQ_0 V (nW 0))) l30 hg FU 4 0 (by simp only [FU]; omega) (Nat.le_refl _) (by omega)
    rw [shp_4] at e10
    simp only [f_X12_append, q_k hk, ↓reduceIte, q_pI hk, Option.bind_some, nW_lit]
    exact e10
  rw [shp_4] at e5
  have eC : f_X11_append 0 x M = f_X11_append_L5 FU 0 x (nW 0) (nW 24) M := by simp only [f_X11_append, k1, ↓reduceIte, nW_lit]
  cases hc : apC g 4 0 with
  | none =>
    rw [hc] at e5
    refine Op_noClient 1 (by omega) hB hW (eC.trans e5) (fun N V s t hk hR => ?_)
    have := RR N V s t hk hR
    rw [hc] at this; exact this
  | some c =>
    rw [hc] at e5
    obtain ⟨v1, v2, v3⟩ := apC_ok g 4 0 c hc
    have vl := v2 (oB A)
    by_cases h30 : (oB A).length + c ≤ 30
    · have e5 : f_X11_append_L5 FU 0 x (nW 0) (nW 24) M = f_X11_append_L76 FU 0 x (nW 24) M := e5.trans (if_pos h30)
      obtain ⟨M', e, B, F⟩ := c_ap_L76 (A := A) hg FU 4 (oB A) M (by simp only [FU]; omega) (Nat.le_refl _) hB v1 (by omega)
      rw [shp_4] at e
      refine ⟨_, M', (apL g 4 (oB A), A.2), (eC.trans e5).trans e, (by show 0 < 9; omega), Gk_fr F (fun a h => by omega) 4, B, hW.mono (Nat.le_succ _), fun N V s t hk hR _ => ?_⟩
      obtain ⟨V', e', R, z⟩ := r_ap_L85 (N := N) (A := A) hk hg FU 4 (oB A) _ (by simp only [FU]; omega) (Nat.le_refl _) (hR.vq (VQ_0 V (nW 0))) (vI_00 _ _) (by omega)
      rw [shp_4] at e'
      have := RR N V s t hk hR
      rw [hc] at this
      exact ⟨_, V', s, t, (this.trans (if_pos h30)).trans e', R, z, fun v hv => by cases hv; rfl⟩
    · have e5 : f_X11_append_L5 FU 0 x (nW 0) (nW 24) M = some (.inr 2, xM M) := e5.trans (if_neg h30)
      refine Op_noClient 2 (by omega) hB hW (eC.trans e5) (fun N V s t hk hR => ?_)
      have := RR N V s t hk hR
      rw [hc] at this; exact this.trans (if_neg h30)
