/-! WHAT THE CALLS ASK OF THEIR ARGUMENTS, on both sides -/
def inB (x a b : Int32) : Bool := decide (a ≤ x) && decide (x ≤ b)
theorem inB_nat {x : Int32} {a b : Nat} (hb : b < 2147483648) (h : inB x (nW a) (nW b) = true) (hab : a ≤ b) : ∃ k, a ≤ k ∧ k ≤ b ∧ x = nW k := by
  rw [inB, Bool.and_eq_true, decide_eq_true_eq, decide_eq_true_eq] at h
  obtain ⟨h1, h2⟩ := h
  rw [Int32.le_iff_toInt_le, nW_int (by omega)] at h1 h2
  refine ⟨x.toInt.toNat, by omega, by omega, ?_⟩
  rw [← Int32.toInt_inj, nW_int (by omega)]; omega
theorem inB_of {k a b : Nat} (hb : b < 2147483648) (h1 : a ≤ k) (h2 : k ≤ b) : inB (nW k) (nW a) (nW b) = true := by
  rw [inB, Bool.and_eq_true, decide_eq_true_eq, decide_eq_true_eq, nW_le (by omega) (by omega), nW_le (by omega) (by omega)]; exact ⟨h1, h2⟩
theorem inB_not {k a b : Nat} (hk : k < 2147483648) (ha : a < 2147483648) (hb : b < 2147483648) (h : k < a ∨ b < k) : inB (nW k) (nW a) (nW b) = false := by
  rw [Bool.eq_false_iff, Ne, inB, Bool.and_eq_true, decide_eq_true_eq, decide_eq_true_eq, nW_le (by omega) (by omega), nW_le (by omega) (by omega)]; omega
theorem lt_suc {x : Int32} {n : Nat} (hn : n + 1 < 2147483648) : x < nW (n + 1) ↔ x ≤ nW n := by
  rw [Int32.le_iff_toInt_le, Int32.lt_iff_toInt_lt, nW_int (by omega), nW_int (by omega)]; omega
theorem c_client (x : Int32) (M : Mem) : f_X11_requireClient x M = if inB x (nW 0) (nW 5) = true then some (.inl (), M) else some (.inr 3, xM M) := by
  have e : x < nW 6 ↔ x ≤ nW 5 := lt_suc (by omega)
  simp only [f_X11_requireClient, f_X11_requireClient_J10, nW_lit, inB, Bool.and_eq_true, decide_eq_true_eq, e]
  by_cases h1 : x < nW 0
  · have : ¬ nW 0 ≤ x := Int32.not_le.mpr h1
    simp only [h1, this, ↓reduceIte, false_and]
  · have : nW 0 ≤ x := Int32.not_lt.mp h1
    simp only [h1, this, ↓reduceIte, true_and]
theorem c_range (x a b : Int32) (M : Mem) : f_X11_requireRange x a b M = if inB x a b = true then some (.inl (), M) else some (.inr 1, xM M) := by
  simp only [f_X11_requireRange, f_X11_requireRange_J10, inB, Bool.and_eq_true, decide_eq_true_eq]
  by_cases h1 : x < a
  · have : ¬ a ≤ x := Int32.not_le.mpr h1
    simp only [h1, this, ↓reduceIte, false_and]
  · have : a ≤ x := Int32.not_lt.mp h1
    simp only [h1, this, ↓reduceIte, true_and]
theorem BrR_k {M : Mem} {A : Wh} (h : BrR M A) : (mK M 0).1 = 11 ∧ gR 11 6 0 M = some 8 ∧ gR 11 8 0 M = some 458 ∧ gR 11 4 0 M = some 6 ∧ gI 11 2 0 M = some (oE A) ∧ gI 11 3 0 M = some (zI (oP A).1) ∧ gI 11 7 0 M = some (zI (oT A).1) := by
  obtain ⟨⟨k1, k2, k3, k4, k5, k6⟩, b, e1, ⟨p1, p2⟩, m7, ⟨t1, t2⟩, s1⟩ := h
  simp only [gR, gI, k1, k3, k5, k6, e1, p1, t1, ↓reduceIte, and_self]
theorem BrR_c {M : Mem} {A : Wh} (h : BrR M A) {c : Nat} (hc : c < 6) : gR 7 1 8 M = some (8 + 1) ∧ aR 18 (8 + 1) (nW c) M = some (8 + 2 + 60 * c) ∧ gI 0 0 (8 + 2 + 60 * c) M = some (zI (cB (gCl (oS A) c) 0)) ∧ gR 0 5 (8 + 2 + 60 * c) M = some (8 + 2 + 60 * c + 34) ∧ gR 0 4 (8 + 2 + 60 * c) M = some (8 + 2 + 60 * c + 2) := by
  have k := StR_k h.2.2.2.2.2.2
  have r := CR_k (StR_get h.2.2.2.2.2.2 hc)
  exact ⟨k.2.1, k.2.2.2.2.2.2.2 c hc, r.2.2.2.2.2.1, r.2.1, r.2.2.1⟩
theorem c_conn {M : Mem} {A : Wh} (h : BrR M A) {c : Nat} (hc : c < 6) : f_X11_requireConnection 0 (nW c) M = if cB (gCl (oS A) c) 0 = true then some (.inl (), M) else some (.inr 2, xM M) := by
  obtain ⟨k1, k2, _⟩ := BrR_k h
  obtain ⟨r1, r2, r3, _⟩ := BrR_c h hc
  simp only [f_X11_requireConnection, k1, ↓reduceIte, k2, Option.bind_some, r1, r2, r3, nW_lit, zI_eq0]
  cases cB (gCl (oS A) c) 0 <;> rfl
/-! the reference -/
theorem z1n0 : ¬ nW 1 = nW 0 := by decide
