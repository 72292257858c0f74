/-! NUMBERS: machine words that are small natural numbers -/
def nI (n : Nat) : Int32 := Int32.ofNat n
theorem nI_lit (n : Nat) : (no_index (OfNat.ofNat n : Int32)) = nI n := rfl
theorem nI_add (a b : Nat) : nI a + nI b = nI (a + b) := (Int32.ofNat_add a b).symm
theorem nI_mul (a b : Nat) : nI a * nI b = nI (a * b) := (Int32.ofNat_mul a b).symm
theorem nI_sub {a b : Nat} (h : b ≤ a) : nI a - nI b = nI (a - b) := (Int32.ofNat_sub a b h).symm
theorem nI_int {a : Nat} (h : a < 2147483648) : (nI a).toInt = a := Int32.toInt_ofNat_of_lt h
theorem nI_nat {a : Nat} (h : a < 2147483648) : (nI a).toNatClampNeg = a := Int32.toNatClampNeg_ofNat_of_lt h
theorem nI_le {a b : Nat} (ha : a < 2147483648) (hb : b < 2147483648) : nI a ≤ nI b ↔ a ≤ b := by
  rw [Int32.le_iff_toInt_le, nI_int ha, nI_int hb]; omega
theorem nI_lt {a b : Nat} (ha : a < 2147483648) (hb : b < 2147483648) : nI a < nI b ↔ a < b := by
  rw [Int32.lt_iff_toInt_lt, nI_int ha, nI_int hb]; omega
theorem nI_inj {a b : Nat} (ha : a < 2147483648) (hb : b < 2147483648) : nI a = nI b ↔ a = b := by
  rw [← Int32.toInt_inj, nI_int ha, nI_int hb]; omega
theorem nI_neg {a b : Nat} (ha : a < 2147483648) (hb : b < 2147483648) (h : b ≠ 0) : nI a ≠ -nI b := by
  intro e
  have := congrArg Int32.toInt e
  rw [Int32.toInt_neg, nI_int ha, nI_int hb] at this
  rw [Int.bmod_def] at this; split at this <;> omega
theorem nI_of {x : Int32} (h : ¬ x < nI 0) : ∃ a, a < 2147483648 ∧ x = nI a := by
  have h1 : 0 ≤ x.toInt := by
    have := mt Int32.lt_iff_toInt_lt.mpr h
    rw [nI_int (by omega)] at this; omega
  have h2 := Int32.toInt_lt x
  refine ⟨x.toInt.toNat, by omega, ?_⟩
  rw [← Int32.toInt_inj, nI_int (by omega)]; omega
theorem nI_upto {x : Int32} {n : Nat} (hn : n < 2147483648) (h : ¬ x < nI 0) (h2 : ¬ nI n ≤ x) : ∃ a, a < n ∧ x = nI a := by
  obtain ⟨a, ha, rfl⟩ := nI_of h
  rw [nI_le hn ha] at h2
  exact ⟨a, by omega, rfl⟩
theorem nI_mod {a b : Nat} (ha : a < 2147483648) (hb : b < 2147483648) : nI a % nI b = nI (a % b) := (Int32.ofNat_mod ha hb).symm
theorem nI_div {a b : Nat} (ha : a < 2147483648) (hb : b < 2147483648) : nI a / nI b = nI (a / b) := (Int32.ofNat_div ha hb).symm
theorem ix_nI {a n : Nat} (h : a < n) (ha : a < 2147483648) : ix (nI a) n = some a := by
  have : ¬ (nI a < 0 ∨ n ≤ (nI a).toNatClampNeg) := by
    rw [nI_lit 0, nI_lt ha (by omega), nI_nat ha]; omega
  simp [ix, this, nI_nat ha]
theorem irem_nI {a b : Nat} (ha : a < 2147483648) (hb : b < 2147483648) (h0 : 0 < b) : iremE (nI a) (nI b) = nI (a % b) := by
  have h1 : a / b * b ≤ a := Nat.div_mul_le_self a b
  have h2 : a % b = a - a / b * b := by
    have := Nat.div_add_mod a b
    rw [Nat.mul_comm] at this; omega
  rw [iremE, nI_div ha hb, nI_mul, nI_sub h1, h2]
theorem nI_ix {x : Int32} {n : Nat} {a : Nat} (hx : x = nI a) (h : a < n) (ha : a < 2147483648) : ix x n = some a := hx ▸ ix_nI h ha
