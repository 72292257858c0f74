/-! NUMBERS: machine words that are small natural numbers -/
def nW (n : Nat) : Int32 := Int32.ofNat n
theorem nW_lit (n : Nat) : (no_index (OfNat.ofNat n : Int32)) = nW n := rfl
theorem nW_add (a b : Nat) : nW a + nW b = nW (a + b) := (Int32.ofNat_add a b).symm
theorem nW_mul (a b : Nat) : nW a * nW b = nW (a * b) := (Int32.ofNat_mul a b).symm
theorem nW_sub {a b : Nat} (h : b ≤ a) : nW a - nW b = nW (a - b) := (Int32.ofNat_sub a b h).symm
theorem nW_int {a : Nat} (h : a < 2147483648) : (nW a).toInt = a := Int32.toInt_ofNat_of_lt h
theorem nW_nat {a : Nat} (h : a < 2147483648) : (nW a).toNatClampNeg = a := Int32.toNatClampNeg_ofNat_of_lt h
theorem nW_le {a b : Nat} (ha : a < 2147483648) (hb : b < 2147483648) : nW a ≤ nW b ↔ a ≤ b := by
  rw [Int32.le_iff_toInt_le, nW_int ha, nW_int hb]; omega
theorem nW_lt {a b : Nat} (ha : a < 2147483648) (hb : b < 2147483648) : nW a < nW b ↔ a < b := by
  rw [Int32.lt_iff_toInt_lt, nW_int ha, nW_int hb]; omega
theorem nW_inj {a b : Nat} (ha : a < 2147483648) (hb : b < 2147483648) : nW a = nW b ↔ a = b := by
  rw [← Int32.toInt_inj, nW_int ha, nW_int hb]; omega
theorem nW_neg {a b : Nat} (ha : a < 2147483648) (hb : b < 2147483648) (h : b ≠ 0) : nW a ≠ -nW b := by
  intro e
  have := congrArg Int32.toInt e
  rw [Int32.toInt_neg, nW_int ha, nW_int hb] at this
  rw [Int.bmod_def] at this; split at this <;> omega
theorem nW_of {x : Int32} (h : ¬ x < nW 0) : ∃ a, a < 2147483648 ∧ x = nW a := by
  have h1 : 0 ≤ x.toInt := by
    have := mt Int32.lt_iff_toInt_lt.mpr h
    rw [nW_int (by omega)] at this; omega
  have h2 := Int32.toInt_lt x
  refine ⟨x.toInt.toNat, by omega, ?_⟩
  rw [← Int32.toInt_inj, nW_int (by omega)]; omega
theorem nW_upto {x : Int32} {n : Nat} (hn : n < 2147483648) (h : ¬ x < nW 0) (h2 : ¬ nW n ≤ x) : ∃ a, a < n ∧ x = nW a := by
  obtain ⟨a, ha, rfl⟩ := nW_of h
  rw [nW_le hn ha] at h2
  exact ⟨a, by omega, rfl⟩
theorem nW_mod {a b : Nat} (ha : a < 2147483648) (hb : b < 2147483648) : nW a % nW b = nW (a % b) := (Int32.ofNat_mod ha hb).symm
theorem nW_div {a b : Nat} (ha : a < 2147483648) (hb : b < 2147483648) : nW a / nW b = nW (a / b) := (Int32.ofNat_div ha hb).symm
theorem ix_nW {a n : Nat} (h : a < n) (ha : a < 2147483648) : ix (nW a) n = some a := by
  have : ¬ (nW a < 0 ∨ n ≤ (nW a).toNatClampNeg) := by
    rw [nW_lit 0, nW_lt ha (by omega), nW_nat ha]; omega
  rw [ix, if_neg this, nW_nat ha]
theorem irem_nW {a b : Nat} (ha : a < 2147483648) (hb : b < 2147483648) (h0 : 0 < b) : iremE (nW a) (nW b) = nW (a % b) := by
  have h1 : a / b * b ≤ a := Nat.div_mul_le_self a b
  have h2 : a % b = a - a / b * b := by
    have := Nat.div_add_mod a b
    rw [Nat.mul_comm] at this; omega
  rw [iremE, nW_div ha hb, nW_mul, nW_sub h1, h2]
theorem nW_ix {x : Int32} {n : Nat} {a : Nat} (hx : x = nW a) (h : a < n) (ha : a < 2147483648) : ix x n = some a := hx ▸ ix_nW h ha
