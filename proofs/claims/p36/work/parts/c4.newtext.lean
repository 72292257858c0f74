/-! READING A TEXT, in the class: the place of an error, and the text object -/
theorem nW_ne {a b : Nat} (ha : a < 2147483648) (hb : b < 2147483648) (h : a ≠ b) : ¬ nW a = nW b := by rw [nW_inj ha hb]; exact h
theorem X10_isPlain (c : Nat) (hc : c < 1000) (M : Mem) : f_X10_isPlain (nW c) M = some (zI (plain c), M) := by
  by_cases h1 : c < 97
  · by_cases h2 : c < 48
    · have e : plain c = false := by
        rw [Bool.eq_false_iff]; intro h; have := plain_rng h; omega
      simp (disch := omega) only [f_X10_isPlain, f_X10_isPlain_J12, nW_lit, nW_lt, h1, h2, ↓reduceIte, e, zI_f, okZ_0]
    · by_cases h3 : 57 < c
      · have e : plain c = false := by
          rw [Bool.eq_false_iff]; intro h; have := plain_rng h; omega
        simp (disch := omega) only [f_X10_isPlain, f_X10_isPlain_J12, nW_lit, nW_lt, h1, h2, h3, ↓reduceIte, e, zI_f, okZ_0]
      · have e : plain c = true := by unfold plain; simp; omega
        simp (disch := omega) only [f_X10_isPlain, f_X10_isPlain_J12, nW_lit, nW_lt, h1, h2, h3, ↓reduceIte, e, zI_t, okZ_1]
  · by_cases h2 : c ≤ 122
    · have e : plain c = true := by unfold plain; simp; omega
      simp (disch := omega) only [f_X10_isPlain, nW_lit, nW_lt, nW_le, h1, h2, ↓reduceIte, e, zI_t, okZ_1]
    · have e : plain c = false := by
        rw [Bool.eq_false_iff]; intro h; have := plain_rng h; omega
      have h3 : ¬ c < 48 := by omega
      have h4 : 57 < c := by omega
      simp (disch := omega) only [f_X10_isPlain, f_X10_isPlain_J12, nW_lit, nW_lt, nW_le, h1, h2, h3, h4, ↓reduceIte, e, zI_f, okZ_0]
theorem BuR_at {M : Mem} {l : List Nat} (h : mK M 5 = (16, 30) ∧ l.length ≤ 30 ∧ ∀ j, j < l.length → mI M 5 j = nW (l.getD j 0)) {j : Nat} (hj : j < l.length) : aI 16 5 (nW j) M = some (nW (l.getD j 0)) ∧ aN 5 M = some (nW 30) := by
  obtain ⟨h1, h2, h3⟩ := h
  refine ⟨?_, by simp only [aN, h1]; rfl⟩
  simp (disch := omega) only [aI, h1, ↓reduceIte, ix_nW, Option.map_some, h3 j hj]
theorem X10_fe_L11 {M : Mem} {l : List Nat} (wild : Bool) (h : mK M 5 = (16, 30) ∧ l.length ≤ 30 ∧ ∀ j, j < l.length → mI M 5 j = nW (l.getD j 0)) (hc : ∀ c ∈ l, 33 ≤ c ∧ c ≤ 126) : ∀ n i lev sg w, i ≤ l.length → l.length - i < n → lev ≤ 4 → sg ≤ 6 → w < 1000 → f_X10_findError_L11 n 5 (nW l.length) (zI wild) (nW lev) (nW sg) (nW w) (nW i) M = some (fe wild (l.drop i) lev sg w i, M)
  | 0, i, lev, sg, w, _, hn, _, _, _ => absurd hn (by omega)
  | n + 1, i, lev, sg, w, hi, hn, h4, h6, hw => by
    have h30 := h.2.1
    by_cases he : i = l.length
    · subst he
      rw [List.drop_length, fe]
      by_cases h0 : sg = 0
      · simp (disch := omega) only [f_X10_findError_L11, f_X10_findError_J137, nW_le, Nat.le_refl, ↓reduceIte, nW_lit, nW_inj, Nat.reduceEqDiff, Nat.one_ne_zero, h0]
      · simp (disch := omega) only [f_X10_findError_L11, f_X10_findError_J137, nW_le, Nat.le_refl, ↓reduceIte, nW_lit, nW_inj, Nat.reduceEqDiff, Nat.one_ne_zero, h0]
    · have hi' : i < l.length := by omega
      have ed : l.drop i = l.getD i 0 :: l.drop (i + 1) := by rw [List.drop_eq_getElem_cons hi', gd_in _ _ hi']
      obtain ⟨ea, en⟩ := BuR_at h hi'
      have hcr := hc (l.getD i 0) (by rw [gd_in _ _ hi']; exact List.getElem_mem hi')
      generalize hcc : l.getD i 0 = c at ed ea hcr
      have n0 : ¬ l.length ≤ i := by omega
      have n30 : ¬ 30 ≤ i := by omega
      rw [ed, fe]
      have ih := fun lev sg w a b d => X10_fe_L11 wild h hc n (i + 1) lev sg w (by omega) (by omega) a b d
      by_cases c47 : c = 47
      · rw [if_pos c47]
        by_cases g1 : sg = 0
        · rw [if_pos (Or.inl g1)]
          simp (disch := omega) only [f_X10_findError_L11, nW_le, n0, n30, ↓reduceIte, nW_lit, nW_inj, Nat.reduceEqDiff, Nat.one_ne_zero, en, ea, Option.bind_some, c47, g1]
        · by_cases g2 : w = 35
          · rw [if_pos (Or.inr (Or.inl g2))]
            simp (disch := omega) only [f_X10_findError_L11, nW_le, n0, n30, ↓reduceIte, nW_lit, nW_inj, Nat.reduceEqDiff, Nat.one_ne_zero, en, ea, Option.bind_some, c47, g1, g2]
          · by_cases g3 : lev = 4
            · rw [if_pos (Or.inr (Or.inr g3))]
              simp (disch := omega) only [f_X10_findError_L11, nW_le, n0, n30, ↓reduceIte, nW_lit, nW_inj, Nat.reduceEqDiff, Nat.one_ne_zero, en, ea, Option.bind_some, c47, g1, g2, g3]
            · rw [if_neg (by omega)]
              simp (disch := omega) only [f_X10_findError_L11, nW_le, n0, n30, ↓reduceIte, nW_lit, nW_inj, Nat.reduceEqDiff, Nat.one_ne_zero, nW_add, en, ea, Option.bind_some, c47, g1, g2, g3, ih (lev + 1) 0 0 (by omega) (by omega) (by omega)]
      · rw [if_neg c47]
        by_cases cw : c = 43 ∨ c = 35
        · rw [if_pos cw]
          have J : f_X10_findError_L11 (n + 1) 5 (nW l.length) (zI wild) (nW lev) (nW sg) (nW w) (nW i) M = f_X10_findError_J83 (f_X10_findError_L11 n) 5 (nW l.length) (zI wild) (nW lev) (nW sg) (nW i) (nW c) M := by
            by_cases c43 : c = 43
            · simp (disch := omega) only [f_X10_findError_L11, nW_le, n0, n30, ↓reduceIte, nW_lit, nW_inj, Nat.reduceEqDiff, Nat.one_ne_zero, en, ea, Option.bind_some, c47, c43]
            · have c35 : c = 35 := by omega
              simp (disch := omega) only [f_X10_findError_L11, nW_le, n0, n30, ↓reduceIte, nW_lit, nW_inj, Nat.reduceEqDiff, Nat.one_ne_zero, en, ea, Option.bind_some, c47, c43, c35]
          rw [J]
          cases wild with
          | false => simp only [f_X10_findError_J83, zI_f, nW_lit, ↓reduceIte]
          | true =>
            have iht := ih lev 1 c (by omega) (by omega) (by omega)
            rw [zI_t] at iht
            rw [if_neg (by decide)]
            by_cases g1 : sg = 0
            · rw [if_pos g1]
              simp (disch := omega) only [f_X10_findError_J83, zI_t, z1n0, ↓reduceIte, nW_lit, nW_inj, Nat.reduceEqDiff, Nat.one_ne_zero, nW_add, g1, iht]
            · rw [if_neg g1]
              simp (disch := omega) only [f_X10_findError_J83, zI_t, z1n0, ↓reduceIte, nW_lit, nW_inj, Nat.reduceEqDiff, Nat.one_ne_zero, nW_add, g1]
        · rw [if_neg cw]
          have c43 : ¬ c = 43 := fun hh => cw (Or.inl hh)
          have c35 : ¬ c = 35 := fun hh => cw (Or.inr hh)
          have ep := X10_isPlain c (by omega) M
          cases hp : plain c with
          | false =>
            rw [hp, zI_f] at ep
            rw [if_pos rfl]
            simp (disch := omega) only [f_X10_findError_L11, nW_le, n0, n30, ↓reduceIte, nW_lit, nW_inj, Nat.reduceEqDiff, Nat.one_ne_zero, en, ea, Option.bind_some, c47, c43, c35, ep, bindP]
          | true =>
            rw [hp, zI_t] at ep
            rw [if_neg (by decide)]
            by_cases g1 : w = 0
            · rw [if_pos g1]
              by_cases g2 : sg = 6
              · rw [if_pos g2]
                simp (disch := omega) only [f_X10_findError_L11, nW_le, n0, n30, ↓reduceIte, nW_lit, nW_inj, Nat.reduceEqDiff, Nat.one_ne_zero, en, ea, Option.bind_some, c47, c43, c35, ep, bindP, z1n0, g1, g2]
              · rw [if_neg g2]
                have iht := ih lev (sg + 1) w (by omega) (by omega) (by omega)
                rw [g1] at iht
                simp (disch := omega) only [f_X10_findError_L11, nW_le, n0, n30, ↓reduceIte, nW_lit, nW_inj, Nat.reduceEqDiff, Nat.one_ne_zero, nW_add, en, ea, Option.bind_some, c47, c43, c35, ep, bindP, z1n0, g1, g2, iht]
            · rw [if_neg g1]
              simp (disch := omega) only [f_X10_findError_L11, nW_le, n0, n30, ↓reduceIte, nW_lit, nW_inj, Nat.reduceEqDiff, Nat.one_ne_zero, en, ea, Option.bind_some, c47, c43, c35, ep, bindP, z1n0, g1]
theorem X10_findError {M : Mem} {l : List Nat} (wild : Bool) (h : mK M 5 = (16, 30) ∧ l.length ≤ 30 ∧ ∀ j, j < l.length → mI M 5 j = nW (l.getD j 0)) (hc : ∀ c ∈ l, 33 ≤ c ∧ c ≤ 126) : f_X10_findError 5 (nW l.length) (zI wild) M = some ((parse wild l).2, M) := by
  have h30 := h.2.1
  have := X10_fe_L11 wild h hc FU 0 1 0 0 (by omega) (by simp only [FU]; omega) (by omega) (by omega) (by omega)
  rw [List.drop_zero, parse_fe] at this
  simp only [f_X10_findError, nW_lit]; exact this
/-! the levels' codes, sign by sign -/
def cst : List Nat → Nat × (Nat → Nat) → Nat × (Nat → Nat)
  | [], s => s
  | c :: r, s => cst r (if c = 47 then (s.1 + 1, s.2) else (s.1, fset s.2 s.1 (s.2 s.1 * 128 + c)))
theorem cst_app : ∀ (l r : List Nat) (k : Nat) (f : Nat → Nat), 47 ∉ l → cst (l ++ r) (k, f) = cst r (k, fset f k (l.foldl (fun a c => a * 128 + c) (f k)))
  | [], r, k, f, _ => by rw [List.nil_append, List.foldl_nil, fset_self _ _ _ rfl]
  | c :: l, r, k, f, h => by
    have hc : c ≠ 47 := fun e => h (by rw [e]; exact List.mem_cons_self)
    have ih := cst_app l r k (fset f k (f k * 128 + c)) (fun hh => h (List.mem_cons_of_mem _ hh))
    rw [List.cons_append, cst, if_neg hc, ih, fset_eq, fset_fset, List.foldl_cons]
theorem cst_tx : ∀ (t : Txt) (k : Nat) (f : Nat → Nat), (∀ l ∈ t, 47 ∉ l) → t ≠ [] → (∀ j, k ≤ j → f j = 0) → (cst (txS t) (k, f)).1 = k + t.length - 1 ∧ ∀ j, (cst (txS t) (k, f)).2 j = if j < k then f j else c7 (t.getD (j - k) [])
  | [], k, f, _, h, _ => absurd rfl h
  | l :: r, k, f, h, _, hf => by
    have hl := h l List.mem_cons_self
    have hc : l.foldl (fun a c => a * 128 + c) (f k) = c7 l := by rw [hf k (Nat.le_refl _)]; rfl
    cases r with
    | nil =>
      have := cst_app l [] k f hl
      rw [List.append_nil] at this
      show (cst l (k, f)).1 = _ ∧ ∀ j, (cst l (k, f)).2 j = _
      rw [this, hc]
      refine ⟨by simp [cst], fun j => ?_⟩
      show fset f k (c7 l) j = _
      by_cases e : j = k
      · subst e; rw [fset_eq, if_neg (by omega), Nat.sub_self]; rfl
      · rw [fset_ne _ _ e]
        by_cases hjk : j < k
        · rw [if_pos hjk]
        · rw [if_neg hjk, hf j (by omega), show j - k = (j - k - 1) + 1 by omega]; rfl
    | cons m q =>
      have := cst_app l (47 :: txS (m :: q)) k f hl
      show (cst (l ++ 47 :: txS (m :: q)) (k, f)).1 = _ ∧ ∀ j, (cst (l ++ 47 :: txS (m :: q)) (k, f)).2 j = _
      rw [this, hc, cst, if_pos rfl]
      obtain ⟨i1, i2⟩ := cst_tx (m :: q) (k + 1) (fset f k (c7 l)) (fun x hx => h x (List.mem_cons_of_mem _ hx)) (by simp) (fun j hj => by rw [fset_ne _ _ (by omega)]; exact hf j (by omega))
      refine ⟨by rw [i1]; simp only [List.length_cons]; omega, fun j => ?_⟩
      show (cst (txS (m :: q)) (k + 1, fset f k (c7 l))).2 j = _
      rw [i2 j]
      by_cases e : j = k
      · subst e; rw [if_pos (by omega), fset_eq, if_neg (by omega), Nat.sub_self]; rfl
      · by_cases hjk : j < k
        · rw [if_pos (by omega), fset_ne _ _ e, if_pos hjk]
        · rw [if_neg (by omega), if_neg hjk, show j - k = (j - (k + 1)) + 1 by omega]; rfl
theorem cst_mono : ∀ (l : List Nat) (s : Nat × (Nat → Nat)), s.1 ≤ (cst l s).1 ∧ ∀ k, s.2 k ≤ (cst l s).2 k
  | [], s => ⟨Nat.le_refl _, fun _ => Nat.le_refl _⟩
  | c :: r, s => by
    rw [cst]
    by_cases h : c = 47
    · rw [if_pos h]
      obtain ⟨i1, i2⟩ := cst_mono r (s.1 + 1, s.2)
      exact ⟨by simp only at i1; omega, i2⟩
    · rw [if_neg h]
      obtain ⟨i1, i2⟩ := cst_mono r (s.1, fset s.2 s.1 (s.2 s.1 * 128 + c))
      refine ⟨i1, fun k => Nat.le_trans ?_ (i2 k)⟩
      show s.2 k ≤ fset s.2 s.1 (s.2 s.1 * 128 + c) k
      by_cases e : k = s.1
      · subst e; rw [fset_eq]; omega
      · rw [fset_ne _ _ e]; exact Nat.le_refl _
theorem last_txS : ∀ {t : Txt}, t ≠ [] → (∀ l ∈ t, okLev l) → ((txS t).getD ((txS t).length - 1) 0 = 35 ↔ isOpen t = true) ∧ 0 < (txS t).length
  | [], h, _ => absurd rfl h
  | [l], _, h => by
    have hl := h l List.mem_cons_self
    show (l.getD (l.length - 1) 0 = 35 ↔ isOpen [l] = true) ∧ 0 < l.length
    have ho : isOpen [l] = true ↔ l = [35] := by unfold isOpen; simp
    rw [ho]
    rcases hl with ⟨h1, h2, h3⟩ | rfl | rfl
    · have hp := len_pos h1
      refine ⟨⟨fun e => ?_, fun e => by rw [e]; rfl⟩, hp⟩
      have hm : l.getD (l.length - 1) 0 ∈ l := by rw [gd_in _ _ (by omega)]; exact List.getElem_mem _
      rw [e] at hm
      exact absurd (h3 35 hm) (by decide)
    · simp
    · simp
  | l :: m :: q, _, h => by
    obtain ⟨i1, i2⟩ := last_txS (t := m :: q) (by simp) (fun x hx => h x (List.mem_cons_of_mem _ hx))
    have e : txS (l :: m :: q) = l ++ 47 :: txS (m :: q) := rfl
    have el : (txS (l :: m :: q)).length = l.length + ((txS (m :: q)).length + 1) := by rw [e]; simp
    refine ⟨?_, by omega⟩
    have eo : isOpen (l :: m :: q) = isOpen (m :: q) := by unfold isOpen; rfl
    rw [eo, ← i1, el, e, List.getD_eq_getElem?_getD, List.getElem?_append_right (by omega), show l.length + ((txS (m :: q)).length + 1) - 1 - l.length = ((txS (m :: q)).length - 1) + 1 by omega, List.getElem?_cons_succ, ← List.getD_eq_getElem?_getD]
theorem nar16 : ∀ c : Fin 256, nar 16 (nW c.val) = nW c.val := by decide +kernel
theorem nar16' {c : Nat} (h : c < 256) : nar 16 (nW c) = nW c := nar16 ⟨c, h⟩
theorem nW_toL {c : Nat} (h : c < 2147483648) : (nW c).toInt64 = nL c := by
  rw [← Int64.toInt_inj, Int32.toInt_toInt64, nW_int h, nL_int (by omega)]
theorem shl_or {a c : Nat} (ha : a < 2 ^ 50) (hc : c < 128) : (lshlE (nL a) (nW 7) ||| nL c) = nL (a * 128 + c) := by
  have e7 : (nW 7).toInt64 &&& 63 = 7 := by decide
  unfold lshlE
  rw [e7]
  apply Int64.toBitVec_inj.1
  rw [Int64.toBitVec_or, Int64.toBitVec_shiftLeft]
  apply BitVec.eq_of_toNat_eq
  have s7 : (7 : Int64).toBitVec.smod 64 = 7#64 := by decide
  have ta : (nL a).toBitVec.toNat = a := by
    show a % 2 ^ 64 = a
    exact Nat.mod_eq_of_lt (by omega)
  have tc : (nL c).toBitVec.toNat = c := by
    show c % 2 ^ 64 = c
    exact Nat.mod_eq_of_lt (by omega)
  have tr : (nL (a * 128 + c)).toBitVec.toNat = a * 128 + c := by
    show (a * 128 + c) % 2 ^ 64 = a * 128 + c
    exact Nat.mod_eq_of_lt (by omega)
  rw [s7, BitVec.toNat_or, tc, tr]
  have sh : ((nL a).toBitVec <<< (7#64)).toNat = a * 128 := by
    show (nL a).toBitVec.toNat <<< 7 % 2 ^ 64 = a * 128
    rw [ta, Nat.shiftLeft_eq]
    exact Nat.mod_eq_of_lt (by omega)
  have hx := Nat.shiftLeft_add_eq_or_of_lt (show c < 2 ^ 7 by omega) a
  rw [Nat.shiftLeft_eq] at hx
  rw [sh]; exact hx.symm
