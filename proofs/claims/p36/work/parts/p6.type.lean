/-! TYPE: a text goes into the buffer -/
def chN (i : Nat) : List Nat := (byJS.getD i []).map (fun b => b.toInt.toNat)
def ckN (i q : Nat) : List Nat := ((chN i).drop (4 * q)).take 4
def pkF (l : List Nat) : Int32 := l.foldl (fun p c => ishlE p (nW 8) ||| nW c) (nW 0)
def gkN (i q j : Nat) : Nat := (ckN i q).reverse.getD j 0
theorem ty_t1 : ∀ i, i < 27 → ∀ q, q < 3 → ∀ j, j < 4 → iushrE (pkF (ckN i q)) (shp (j + 1)) &&& nW 255 = nW (gkN i q j) ∧ gkN i q j ≤ 255 := by decide +kernel
theorem ty_t2 : ∀ i, i < 27 → ∀ q, q < 3 → ∀ j, j < 4 → gkN i q j = 0 ∨ (33 ≤ gkN i q j ∧ gkN i q j ≤ 126) := by decide +kernel
theorem ty_t3 : ∀ i, i < 27 → ∀ q, q < 3 → apL (gkN i q) 4 [] = ckN i q := by decide +kernel
theorem ty_t4 : ∀ i, i < 27 → ∀ q, q < 3 → apC (gkN i q) 4 0 = some (ckN i q).length := by decide +kernel
theorem ty_len : ∀ i, i < 27 → (chN i).length = leJS.getD i 0 ∧ leJS.getD i 0 ≤ 11 ∧ ∀ j, j < leJS.getD i 0 → (byJS.getD i []).getD j 0 = nW ((chN i).getD j 0) := by decide +kernel
theorem apL_app (g : Nat → Nat) : ∀ m (l : List Nat), apL g m l = l ++ apL g m []
  | 0, l => by rw [apL, apL, List.append_nil]
  | m + 1, l => by
    rw [apL, apL]
    by_cases h : g m = 0
    · rw [if_pos h, if_pos h]; exact apL_app g m l
    · rw [if_neg h, if_neg h, apL_app g m (l ++ [g m]), apL_app g m ([] ++ [g m]), List.nil_append, List.append_assoc]
theorem Cq_append {k n : Nat} {M : Mem} {A : Wh} {i q : Nat} (h : Jv k n M A) (hi : i < 27) (hq : q < 3) (hl : (oB A).length + (ckN i q).length ≤ 30) : ∃ M', f_L_append 0 (pkF (ckN i q)) M = some (nW ((oB A).length + (ckN i q).length), M') ∧ Jv k n M' (oB A ++ ckN i q, A.2) := by
  have t1 := ty_t1 i hi q hq
  have t2 : ∀ j, j < 4 → gkN i q j ≠ 0 → 33 ≤ gkN i q j ∧ gkN i q j ≤ 126 := fun j hj hne => (ty_t2 i hi q hq j hj).resolve_left hne
  have t3 := ty_t3 i hi q hq
  have t4 := ty_t4 i hi q hq
  have hB := h.1
  have k1 := hB.1.1
  have e5 := c_ap_L5 hB t1 FU 4 0 (by simp only [FU]; omega) (Nat.le_refl _) (by omega)
  rw [shp_4, t4] at e5
  have e5 : f_X11_append_L5 FU 0 (pkF (ckN i q)) (nW 0) (nW 24) M = f_X11_append_L76 FU 0 (pkF (ckN i q)) (nW 24) M := e5.trans (if_pos hl)
  have eC : f_X11_append 0 (pkF (ckN i q)) M = f_X11_append_L5 FU 0 (pkF (ckN i q)) (nW 0) (nW 24) M := by simp only [f_X11_append, k1, ↓reduceIte, nW_lit]
  have ea : apL (gkN i q) 4 (oB A) = oB A ++ ckN i q := by rw [apL_app, t3]
  obtain ⟨M', e, B, F⟩ := c_ap_L76 (A := A) t1 FU 4 (oB A) M (by simp only [FU]; omega) (Nat.le_refl _) hB t2 (by rw [ea, List.length_append]; exact hl)
  rw [shp_4, ea, List.length_append] at e
  rw [ea] at B
  refine ⟨M', ?_, B, h.2.1, ?_, h.2.2.2.1, ?_, ?_, ?_⟩
  · simp only [f_L_append, eC, e5, e, bindH]
  · have := h.2.2.1
    unfold Fz at *; rw [F.1, F.2.1.1]; exact this
  · rw [F.2.1.1]; exact h.2.2.2.2.1
  · rw [F.2.1.2.1]; exact h.2.2.2.2.2.1
  · rw [F.2.1.2.2]; exact h.2.2.2.2.2.2
theorem ck_len (i q : Nat) : (ckN i q).length = min 4 ((chN i).length - 4 * q) := by
  unfold ckN; rw [List.length_take, List.length_drop]
theorem ck_at {i q t : Nat} (h : t < 4) : (ckN i q)[t]? = (chN i)[4 * q + t]? := by
  unfold ckN; rw [List.getElem?_take_of_lt h, List.getElem?_drop]
theorem s_len {i : Nat} (hi : i < 27) : sLen (SCR + 16 + i) = some (nW (chN i).length) := by
  unfold sLen
  rw [if_pos ⟨by omega, by omega⟩, show SCR + 16 + i - (SCR + 16) = i by omega, (ty_len i hi).1]; rfl
theorem s_chr {i j : Nat} (hi : i < 27) (hj : j < (chN i).length) : sChr (SCR + 16 + i) (nW j) = some (nW ((chN i).getD j 0)) := by
  obtain ⟨l1, l2, l3⟩ := ty_len i hi
  unfold sChr
  rw [if_pos ⟨by omega, by omega⟩, show SCR + 16 + i - (SCR + 16) = i by omega, ix_nW (by omega) (by omega), Option.map_some, l3 j (by omega)]
theorem ty_in {i q : Nat} (hi : i < 27) (hq : 4 * q < (chN i).length) (k4 : Nat → Nat → Int32 → Int32 → Mem → Option (Int32 × Mem)) (is : Int32) (M : Mem) : ∀ r t n, t + r = (ckN i q).length → r < n → f_L_type_L18 n k4 0 (SCR + 16 + i) is (nW (4 * q)) (pkF ((ckN i q).take t)) (nW (4 * q + t)) M = f_L_type_J55 k4 0 (SCR + 16 + i) is (nW (4 * q)) (pkF (ckN i q)) M
  | r, t, 0, _, hn => absurd hn (by omega)
  | 0, t, n + 1, ht, hn => by
    have l11 : (chN i).length ≤ 11 := by obtain ⟨l1, l2, _⟩ := ty_len i hi; omega
    have cl := ck_len i q
    have et : (ckN i q).take t = ckN i q := List.take_of_length_le (by omega)
    rw [et, f_L_type_L18]
    simp only [nW_lit, nW_add]
    by_cases h4 : nW (4 * q + 4) ≤ nW (4 * q + t)
    · rw [if_pos h4]
    · rw [if_neg h4, s_len hi]
      rw [nW_le (by omega) (by omega)] at h4
      have h5 : nW (chN i).length ≤ nW (4 * q + t) := by rw [nW_le (by omega) (by omega)]; omega
      simp only [Option.bind_some, h5, ↓reduceIte]
  | r + 1, t, n + 1, ht, hn => by
    have l11 : (chN i).length ≤ 11 := by obtain ⟨l1, l2, _⟩ := ty_len i hi; omega
    have cl := ck_len i q
    have h4 : ¬ nW (4 * q + 4) ≤ nW (4 * q + t) := by rw [nW_le (by omega) (by omega)]; omega
    have h5 : ¬ nW (chN i).length ≤ nW (4 * q + t) := by rw [nW_le (by omega) (by omega)]; omega
    have hj : 4 * q + t < (chN i).length := by omega
    have ep : (ckN i q).take (t + 1) = (ckN i q).take t ++ [(chN i).getD (4 * q + t) 0] := by
      rw [List.take_add_one, ck_at (by omega), List.getD_eq_getElem?_getD, List.getElem?_eq_getElem hj]; rfl
    have ef : pkF ((ckN i q).take (t + 1)) = ishlE (pkF ((ckN i q).take t)) (nW 8) ||| nW ((chN i).getD (4 * q + t) 0) := by
      rw [ep]; unfold pkF; rw [List.foldl_append]; rfl
    have ih := ty_in hi hq k4 is M r (t + 1) n (by omega) (by omega)
    rw [ef] at ih
    rw [f_L_type_L18]
    simp only [nW_lit, nW_add, h4, ↓reduceIte, s_len hi, Option.bind_some, h5, s_chr hi hj]
    exact ih
theorem ty_out {i : Nat} (hi : i < 27) {k0 n0 : Nat} {A : Wh} : ∀ r q n M, (chN i).length ≤ 4 * q + 4 * r → q + r ≤ 3 → r < n → Jv k0 n0 M ((chN i).take (4 * q), A.2) → ∃ M', f_L_type_L4 n 0 (SCR + 16 + i) (nW 1) (nW (4 * q)) M = some (nW 1, M') ∧ Jv k0 n0 M' (chN i, A.2)
  | r, q, 0, M, _, _, hn, _ => absurd hn (by omega)
  | r, q, n + 1, M, hr, hq3, hn, h => by
    have l11 : (chN i).length ≤ 11 := by obtain ⟨l1, l2, _⟩ := ty_len i hi; omega
    by_cases he : (chN i).length ≤ 4 * q
    · have et : (chN i).take (4 * q) = chN i := List.take_of_length_le he
      rw [et] at h
      refine ⟨M, ?_, h⟩
      have h5 : nW (chN i).length ≤ nW (4 * q) := by rw [nW_le (by omega) (by omega)]; exact he
      rw [f_L_type_L4]
      simp only [s_len hi, Option.bind_some, h5, ↓reduceIte]
      exact if_pos (Or.inr (by decide))
    · have h5 : ¬ nW (chN i).length ≤ nW (4 * q) := by rw [nW_le (by omega) (by omega)]; omega
      have cl := ck_len i q
      match r, hr, hq3, hn with
      | 0, hr, _, _ => exact absurd hr (by omega)
      | r + 1, hr, hq3, hn =>
      have ein := ty_in (q := q) hi (by omega) (f_L_type_L4 n) (nW 1) M (ckN i q).length 0 FU (by omega) (by simp only [FU]; omega)
      have e0 : pkF ((ckN i q).take 0) = nW 0 := by rw [List.take_zero]; rfl
      rw [e0, show 4 * q + 0 = 4 * q from rfl] at ein
      have ltk : ((chN i).take (4 * q)).length = 4 * q := by rw [List.length_take]; omega
      obtain ⟨M1, e1, J1⟩ := Cq_append h hi (show q < 3 by omega) (by show ((chN i).take (4 * q)).length + _ ≤ 30; rw [ltk]; omega)
      have e1 : f_L_append 0 (pkF (ckN i q)) M = some (nW (4 * q + (ckN i q).length), M1) := by rw [e1]; show some (nW (((chN i).take (4 * q)).length + _), M1) = _; rw [ltk]
      have J1 : Jv k0 n0 M1 ((chN i).take (4 * (q + 1)), A.2) := by
        have : (chN i).take (4 * (q + 1)) = (chN i).take (4 * q) ++ ckN i q := by
          rw [show 4 * (q + 1) = 4 * q + 4 by omega, List.take_add]; rfl
        rw [this]; exact J1
      obtain ⟨M', e2, J2⟩ := ty_out hi r (q + 1) n M1 (by omega) (by omega) (by omega) J1
      refine ⟨M', ?_, J2⟩
      rw [f_L_type_L4]
      simp only [s_len hi, Option.bind_some, h5, ↓reduceIte, nW_lit]
      rw [ein]
      have em : nW (4 * q + (ckN i q).length) = iminE (nW (4 * q + 4)) (nW (chN i).length) := by
        unfold iminE
        by_cases hlt : nW (chN i).length < nW (4 * q + 4)
        · rw [if_pos hlt]
          rw [nW_lt (by omega) (by omega)] at hlt
          rw [show 4 * q + (ckN i q).length = (chN i).length by omega]
        · rw [if_neg hlt]
          rw [nW_lt (by omega) (by omega)] at hlt
          rw [show 4 * q + (ckN i q).length = 4 * q + 4 by omega]
      have a1 : nW 1 &&& nW 1 = nW 1 := by decide
      simp only [f_L_type_J55, e1, bindP, s_len hi, Option.bind_some, nW_lit, nW_add, em, ↓reduceIte, a1]
      rw [show 4 * q + 4 = 4 * (q + 1) by omega]
      exact e2
theorem Cq_type {k n i : Nat} {M : Mem} {A : Wh} (h : Jv k n M A) (hb : oB A = []) (hi : i < 27) : ∃ M', f_L_type 0 (SCR + 16 + i) M = some (nW 1, M') ∧ Jv k n M' (chN i, A.2) := by
  have l11 : (chN i).length ≤ 11 := by obtain ⟨l1, l2, _⟩ := ty_len i hi; omega
  have h0 : Jv k n M ((chN i).take (4 * 0), A.2) := by
    have : ((chN i).take (4 * 0), A.2) = A := by rw [Nat.mul_zero, List.take_zero, ← hb]
    rw [this]; exact h
  obtain ⟨M', e, J⟩ := ty_out hi 3 0 FU M (by omega) (by omega) (by simp only [FU]; omega) h0
  refine ⟨M', ?_, J⟩
  simp only [f_L_type, nW_lit]
  exact e
