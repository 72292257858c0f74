/-! HOW FILTERS ARE RELATED, in the reference -/
/-- a subscription's row in the reference -/
def RSu (s : Nat → Int32) (t : Nat → Int64) (a : Nat) (x : Txt) : Prop := a < 36 ∧ s (518 + a) = nW x.length ∧ TB t (24 + 4 * a) x ∧ okTx x ∧ x ≠ []
theorem lit_m2 : (-2 : Int64) = rc [35] := by decide
theorem okL0_35 : okL0 [35] := Or.inr (Or.inr (Or.inr rfl))
theorem okL0_43 : okL0 [43] := Or.inr (Or.inr (Or.inl rfl))
theorem ref_isHashed {N : Mem} {V : VR} {s : Nat → Int32} {t : Nat → Int64} {a : Nat} {x : Txt} (hk : KR N) (h : RSu s t a x) : f_X12_isHashed 908 (nW a) (QW N V s t) = some (zI (isOpen x), QW N V s t) := by
  obtain ⟨h1, h2, h3, h4, h5⟩ := h
  have hl := len_pos h5
  have h4' := h4.1
  have e := h3 (x.length - 1) (by omega)
  have ei : 24 + 4 * a + x.length - 1 = 24 + 4 * a + (x.length - 1) := by omega
  rw [isOpen_at (k := x.length - 1) (by omega)]
  simp (disch := omega) only [f_X12_isHashed, q_k hk, q_gR1 hk, q_gR2 hk, q_gR8 hk, q_gR11 hk, q_gR13 hk, q_gR14 hk, q_gR15 hk, q_gR16 hk, q_gI hk, q_pI hk, q_a hk, q_w hk, q_l hk, nW_add, nW_mul, nW_sub, nW_le, nW_lt, nW_inj, irem_nW, ix_nW, nW_lit, ↓reduceIte, Option.bind_some, h2, ei, e, lit_m2, lcmp0, rc_inj (okTx_lev h4 _) okL0_35]
  by_cases hh : x.getD (x.length - 1) [] = [35]
  · rw [if_pos hh, decide_eq_true hh, zI_t]; exact okZ_1 _
  · rw [if_neg hh, decide_eq_false hh, zI_f]; exact okZ_0 _
theorem ref_reaches {N : Mem} {V : VR} {s : Nat → Int32} {t : Nat → Int64} {a d : Nat} {x : Txt} (hk : KR N) (h : RSu s t a x) (hd : d < 1000) : f_X12_reaches 908 (nW a) (nW d) (QW N V s t) = some (zI (spFits x d), QW N V s t) := by
  have eh := ref_isHashed (N := N) (V := V) hk h
  obtain ⟨h1, h2, h3, h4, h5⟩ := h
  have hl := len_pos h5
  have h4' := h4.1
  unfold spFits tFix
  cases ho : isOpen x with
  | true =>
    rw [ho, zI_t] at eh
    simp (disch := omega) only [f_X12_reaches, q_k hk, q_gR1 hk, q_gR2 hk, q_gR8 hk, q_gR11 hk, q_gR13 hk, q_gR14 hk, q_gR15 hk, q_gR16 hk, q_gI hk, q_pI hk, q_a hk, q_w hk, q_l hk, nW_add, nW_mul, nW_sub, nW_le, nW_lt, nW_inj, irem_nW, ix_nW, nW_lit, ↓reduceIte, Option.bind_some, h2, eh, bindP, z1n0]
    by_cases hh : d < x.length - 1
    · rw [if_pos hh, decide_eq_false (by omega), zI_f]; exact okZ_0 _
    · rw [if_neg hh, decide_eq_true (by omega), zI_t]; exact okZ_1 _
  | false =>
    rw [ho, zI_f] at eh
    simp (disch := omega) only [f_X12_reaches, q_k hk, q_gR1 hk, q_gR2 hk, q_gR8 hk, q_gR11 hk, q_gR13 hk, q_gR14 hk, q_gR15 hk, q_gR16 hk, q_gI hk, q_pI hk, q_a hk, q_w hk, q_l hk, nW_add, nW_mul, nW_sub, nW_le, nW_lt, nW_inj, irem_nW, ix_nW, nW_lit, ↓reduceIte, Option.bind_some, h2, eh, bindP, Bool.false_eq_true]
    by_cases hh : d = x.length
    · rw [if_pos hh, decide_eq_true hh, zI_t]; exact okZ_1 _
    · rw [if_neg hh, decide_eq_false hh, zI_f]; exact okZ_0 _
theorem ref_levelAt {N : Mem} {V : VR} {s : Nat → Int32} {t : Nat → Int64} {a d : Nat} {x : Txt} (hk : KR N) (h : RSu s t a x) (hd : d < 1000) : f_X12_levelAt 908 (nW a) (nW d) (QW N V s t) = some (rc (lvA x d), QW N V s t) := by
  obtain ⟨h1, h2, h3, h4, h5⟩ := h
  have h4' := h4.1
  by_cases hx : x.length ≤ d
  · have e : lvA x d = [43] := by
      unfold lvA tFix; split <;> rw [if_neg (by omega)]
    rw [e]
    simp (disch := omega) only [f_X12_levelAt, q_k hk, q_gR1 hk, q_gR2 hk, q_gR8 hk, q_gR11 hk, q_gR13 hk, q_gR14 hk, q_gR15 hk, q_gR16 hk, q_gI hk, q_pI hk, q_a hk, q_w hk, q_l hk, nW_add, nW_mul, nW_sub, nW_le, nW_lt, nW_inj, irem_nW, ix_nW, nW_lit, ↓reduceIte, Option.bind_some, h2, hx, lit_m1]
  · have e := h3 d (by omega)
    simp (disch := omega) only [f_X12_levelAt, q_k hk, q_gR1 hk, q_gR2 hk, q_gR8 hk, q_gR11 hk, q_gR13 hk, q_gR14 hk, q_gR15 hk, q_gR16 hk, q_gI hk, q_pI hk, q_a hk, q_w hk, q_l hk, nW_add, nW_mul, nW_sub, nW_le, nW_lt, nW_inj, irem_nW, ix_nW, nW_lit, ↓reduceIte, Option.bind_some, h2, hx, e, lit_m2, lcmp0, rc_inj (okTx_lev h4 _) okL0_35]
    by_cases hh : x.getD d [] = [35]
    · have hd1 := h4.2.2 d (by omega) hh
      have ho : isOpen x = true := by rw [isOpen_at hd1]; exact decide_eq_true hh
      have e2 : lvA x d = [43] := by unfold lvA tFix; rw [ho, if_pos rfl, if_neg (by omega)]
      rw [if_pos hh, e2, lit_m1]
    · rw [if_neg hh, lvA_fix h4 (by omega) hh]
theorem m1_rc {x : Txt} (h : okTx x) (d : Nat) : (lcmpE (rc (lvA x d)) (-1 : Int64) = nW 0) = (lvA x d = [43]) := by
  rw [lcmp0, rc_eqm1 (okL0_lvA h d)]
theorem ref_meet_L41 {N : Mem} {V : VR} {s : Nat → Int32} {t : Nat → Int64} {a b : Nat} {x y : Txt} (hk : KR N) (hx : RSu s t a x) (hy : RSu s t b y) (k5 : Nat → Int32 → Int32 → Int32 → Int32 → Mem → Option (Int32 × Mem)) (an : Int32) {d : Nat} (hd : d < 1000) : ∀ n k (f : Bool), k ≤ d → d - k < n → f_X12_areMeeting_L41 n k5 908 (nW a) (nW b) an (nW d) (zI f) (nW k) (QW N V s t) = f_X12_areMeeting_J112 k5 908 (nW a) (nW b) an (nW d) (zI (f && allB (meet1 x y) (d - k) k)) (QW N V s t)
  | 0, k, f, _, h => absurd h (by omega)
  | n + 1, k, false, h1, h2 => by
    by_cases hkd : d ≤ k
    · simp (disch := omega) only [f_X12_areMeeting_L41, nW_lit, nW_le, hkd, ↓reduceIte, Bool.false_and]
    · simp (disch := omega) only [f_X12_areMeeting_L41, nW_lit, nW_le, hkd, zI_f, ↓reduceIte, Bool.false_and]
  | n + 1, k, true, h1, h2 => by
    by_cases hkd : k = d
    · subst hkd
      simp (disch := omega) only [f_X12_areMeeting_L41, nW_lit, nW_le, Nat.le_refl, ↓reduceIte, Nat.sub_self, allB, Bool.and_self]
    · have n0 : ¬ d ≤ k := by omega
      have ih := fun f => ref_meet_L41 (N := N) (V := V) hk hx hy k5 an hd n (k + 1) f (by omega) (by omega)
      have e1 := ref_levelAt (N := N) (V := V) hk hx (show k < 1000 by omega)
      have e2 := ref_levelAt (N := N) (V := V) hk hy (show k < 1000 by omega)
      have ed : d - k = (d - (k + 1)) + 1 := by omega
      have it := ih true
      have iF := ih false
      rw [zI_t] at it
      rw [zI_f] at iF
      simp (disch := omega) only [f_X12_areMeeting_L41, nW_lit, nW_le, n0, zI_t, z1n0, ↓reduceIte, e1, e2, bindP, m1_rc hx.2.2.2.1, m1_rc hy.2.2.2.1, nW_add, lcmp0, rc_inj (okL0_lvA hx.2.2.2.1 k) (okL0_lvA hy.2.2.2.1 k), it, iF]
      rw [ed, allB]
      simp only [Bool.true_and, Bool.false_and, meet1]
      by_cases q1 : lvA x k = [43]
      · rw [if_pos q1, decide_eq_true q1]; simp
      · rw [if_neg q1, decide_eq_false q1]
        by_cases q2 : lvA y k = [43]
        · rw [if_pos q2, decide_eq_true q2]; simp
        · rw [if_neg q2, decide_eq_false q2]
          by_cases q3 : lvA x k = lvA y k
          · rw [if_pos q3, decide_eq_true q3]; simp
          · rw [if_neg q3, decide_eq_false q3]; simp
theorem ref_meet_L5 {N : Mem} {V : VR} {s : Nat → Int32} {t : Nat → Int64} {a b : Nat} {x y : Txt} (hk : KR N) (hx : RSu s t a x) (hy : RSu s t b y) : ∀ n d (f : Bool), d ≤ 5 → 5 - d < n → f_X12_areMeeting_L5 n 908 (nW a) (nW b) (zI f) (nW d) (QW N V s t) = some (zI (f || anyB (spMeetAt x y) (5 - d) d), QW N V s t)
  | 0, d, f, _, h => absurd h (by omega)
  | n + 1, d, f, h1, h2 => by
    by_cases hd : d = 5
    · subst hd
      simp (disch := omega) only [f_X12_areMeeting_L5, nW_lit, nW_lt, Nat.reduceLT, ↓reduceIte, Nat.sub_self, anyB, Bool.or_false, okZ_z]
    · have n0 : ¬ 4 < d := by omega
      have e1 := ref_reaches (N := N) (V := V) hk hx (show d < 1000 by omega)
      have e2 := ref_reaches (N := N) (V := V) hk hy (show d < 1000 by omega)
      have iL := fun f' => ref_meet_L41 (N := N) (V := V) hk hx hy (f_X12_areMeeting_L5 n) (zI f) (d := d) (by omega) FU 0 f' (by omega) (by simp only [FU]; omega)
      have it := iL true
      have iF := iL false
      rw [zI_t] at it
      rw [zI_f] at iF
      have ed : 5 - d = (5 - (d + 1)) + 1 := by omega
      have J : ∀ g : Bool, f_X12_areMeeting_J112 (f_X12_areMeeting_L5 n) 908 (nW a) (nW b) (zI f) (nW d) (zI g) (QW N V s t) = some (zI ((f || g) || anyB (spMeetAt x y) (5 - (d + 1)) (d + 1)), QW N V s t) := fun g => by
        have ih := fun f' => ref_meet_L5 (N := N) (V := V) hk hx hy n (d + 1) f' (by omega) (by omega)
        have h1 := ih true
        have h0 := ih false
        rw [zI_t] at h1
        rw [zI_f] at h0
        cases f <;> cases g <;> simp only [f_X12_areMeeting_J112, nW_lit, zI_t, zI_f, z1n0, ↓reduceIte, nW_add, h0, h1, Bool.or_self, Bool.or_true, Bool.true_or, Bool.or_false]
      simp (disch := omega) only [f_X12_areMeeting_L5, nW_lit, nW_lt, n0, ↓reduceIte, e1, e2, bindP, zI_eq0, it, iF, Nat.sub_zero, Bool.true_and, Bool.false_and, J]
      rw [ed, anyB, spMeetAt]
      cases spFits x d <;> cases spFits y d <;> simp [Bool.or_assoc]
theorem ref_areMeeting {N : Mem} {V : VR} {s : Nat → Int32} {t : Nat → Int64} {a b : Nat} {x y : Txt} (hk : KR N) (hx : RSu s t a x) (hy : RSu s t b y) : f_X12_areMeeting 908 (nW a) (nW b) (QW N V s t) = some (zI (spMeets x y), QW N V s t) := by
  have := ref_meet_L5 (N := N) (V := V) hk hx hy FU 1 false (by omega) (by simp only [FU]; omega)
  rw [zI_f, Bool.false_or] at this
  simp only [f_X12_areMeeting, q_k hk, ↓reduceIte, nW_lit]
  exact this
theorem ref_over_L23 {N : Mem} {V : VR} {s : Nat → Int32} {t : Nat → Int64} {a b : Nat} {x y : Txt} (hk : KR N) (hx : RSu s t a x) (hy : RSu s t b y) (k5 : Nat → Int32 → Int32 → Int32 → Int32 → Mem → Option (Int32 × Mem)) (an : Int32) {d : Nat} (hd : d < 1000) : ∀ n k (f : Bool), k ≤ d → d - k < n → f_X12_isOver_L23 n k5 908 (nW a) (nW b) an (nW d) (zI f) (nW k) (QW N V s t) = f_X12_isOver_J80 k5 908 (nW a) (nW b) an (nW d) (zI (f && allB (cov1 x y) (d - k) k)) (QW N V s t)
  | 0, k, f, _, h => absurd h (by omega)
  | n + 1, k, false, h1, h2 => by
    by_cases hkd : d ≤ k
    · simp (disch := omega) only [f_X12_isOver_L23, nW_lit, nW_le, hkd, ↓reduceIte, Bool.false_and]
    · simp (disch := omega) only [f_X12_isOver_L23, nW_lit, nW_le, hkd, zI_f, ↓reduceIte, Bool.false_and]
  | n + 1, k, true, h1, h2 => by
    by_cases hkd : k = d
    · subst hkd
      simp (disch := omega) only [f_X12_isOver_L23, nW_lit, nW_le, Nat.le_refl, ↓reduceIte, Nat.sub_self, allB, Bool.and_self]
    · have n0 : ¬ d ≤ k := by omega
      have ih := fun f => ref_over_L23 (N := N) (V := V) hk hx hy k5 an hd n (k + 1) f (by omega) (by omega)
      have e1 := ref_levelAt (N := N) (V := V) hk hx (show k < 1000 by omega)
      have e2 := ref_levelAt (N := N) (V := V) hk hy (show k < 1000 by omega)
      have ed : d - k = (d - (k + 1)) + 1 := by omega
      have it := ih true
      have iF := ih false
      rw [zI_t] at it
      rw [zI_f] at iF
      simp (disch := omega) only [f_X12_isOver_L23, nW_lit, nW_le, n0, zI_t, z1n0, ↓reduceIte, e1, e2, bindP, m1_rc hx.2.2.2.1, nW_add, lcmp0, rc_inj (okL0_lvA hx.2.2.2.1 k) (okL0_lvA hy.2.2.2.1 k), it, iF]
      rw [ed, allB]
      simp only [Bool.true_and, Bool.false_and, cov1]
      by_cases q1 : lvA x k = [43]
      · rw [if_pos q1, decide_eq_true q1]; simp
      · rw [if_neg q1, decide_eq_false q1]
        by_cases q3 : lvA x k = lvA y k
        · rw [if_pos q3, decide_eq_true q3]; simp
        · rw [if_neg q3, decide_eq_false q3]; simp
theorem ref_over_L5 {N : Mem} {V : VR} {s : Nat → Int32} {t : Nat → Int64} {a b : Nat} {x y : Txt} (hk : KR N) (hx : RSu s t a x) (hy : RSu s t b y) : ∀ n d (f : Bool), d ≤ 5 → 5 - d < n → f_X12_isOver_L5 n 908 (nW a) (nW b) (zI f) (nW d) (QW N V s t) = some (zI (f && allB (fun n => !(spFits y n) || spCov x y n) (5 - d) d), QW N V s t)
  | 0, d, f, _, h => absurd h (by omega)
  | n + 1, d, f, h1, h2 => by
    by_cases hd : d = 5
    · subst hd
      simp (disch := omega) only [f_X12_isOver_L5, nW_lit, nW_lt, Nat.reduceLT, ↓reduceIte, Nat.sub_self, allB, Bool.and_true, okZ_z]
    · have n0 : ¬ 4 < d := by omega
      have e1 := ref_reaches (N := N) (V := V) hk hx (show d < 1000 by omega)
      have e2 := ref_reaches (N := N) (V := V) hk hy (show d < 1000 by omega)
      have iL := fun f' => ref_over_L23 (N := N) (V := V) hk hx hy (f_X12_isOver_L5 n) (zI f) (d := d) (by omega) FU 0 f' (by omega) (by simp only [FU]; omega)
      have ed : 5 - d = (5 - (d + 1)) + 1 := by omega
      have J : ∀ g : Bool, f_X12_isOver_J80 (f_X12_isOver_L5 n) 908 (nW a) (nW b) (zI f) (nW d) (zI g) (QW N V s t) = some (zI ((f && (!(spFits y d) || g)) && allB (fun n => !(spFits y n) || spCov x y n) (5 - (d + 1)) (d + 1)), QW N V s t) := fun g => by
        have ih := fun f' => ref_over_L5 (N := N) (V := V) hk hx hy n (d + 1) f' (by omega) (by omega)
        have h1 := ih true
        have h0 := ih false
        rw [zI_t] at h1
        rw [zI_f] at h0
        cases f
        · simp only [f_X12_isOver_J80, nW_lit, zI_f, ↓reduceIte, nW_add, h0, Bool.false_and]
        · cases g
          · simp only [f_X12_isOver_J80, nW_lit, zI_t, zI_f, z1n0, ↓reduceIte, nW_add, e2, bindP, zI_eq0]
            cases spFits y d
            · simp only [↓reduceIte, h1, Bool.not_false, Bool.true_or, Bool.true_and]
            · simp only [Bool.true_eq_false, ↓reduceIte, h0, Bool.not_true, Bool.or_self, Bool.and_false, Bool.false_and]
          · simp only [f_X12_isOver_J80, nW_lit, zI_t, z1n0, ↓reduceIte, nW_add, h1, Bool.or_true, Bool.true_and]
      simp (disch := omega) only [f_X12_isOver_L5, nW_lit, nW_lt, n0, ↓reduceIte, e1, bindP, iL, Nat.sub_zero, J]
      rw [ed, allB, spCov, Bool.and_assoc]
theorem ref_isOver {N : Mem} {V : VR} {s : Nat → Int32} {t : Nat → Int64} {a b : Nat} {x y : Txt} (hk : KR N) (hx : RSu s t a x) (hy : RSu s t b y) : f_X12_isOver 908 (nW a) (nW b) (QW N V s t) = some (zI (spCovers x y), QW N V s t) := by
  have := ref_over_L5 (N := N) (V := V) hk hx hy FU 1 true (by omega) (by simp only [FU]; omega)
  rw [zI_t, Bool.true_and] at this
  simp only [f_X12_isOver, q_k hk, ↓reduceIte, nW_lit]
  exact this
