/-! FLOATS: no NaN is made -/
theorem f_dec (n : Nat) : FP.Core.decode FP.Core.b32 n = if n / 8388608 % 256 = 255 then (if n % 8388608 = 0 then .inf (n / 8388608 / 256 % 2 == 1) else .nan) else if n / 8388608 % 256 = 0 then .fin (n / 8388608 / 256 % 2 == 1) (n % 8388608) (-149) else .fin (n / 8388608 / 256 % 2 == 1) (8388608 + n % 8388608) (-149 + (((n / 8388608 % 256 : Nat) : Int) - 1)) := rfl
theorem f_encF (s : Bool) (c : Nat) (q : Int) : FP.Core.encode FP.Core.b32 (.fin s c q) = if c < 8388608 then (s.toNat * 256 + 0) * 8388608 + c else (s.toNat * 256 + ((q - (-149)).toNat + 1)) * 8388608 + (c - 8388608) := rfl
theorem f_encI (s : Bool) : FP.Core.encode FP.Core.b32 (.inf s) = (s.toNat * 256 + 255) * 8388608 + 0 := rfl
theorem f_settle (s : Bool) (c : Nat) (q : Int) : FP.Core.settle FP.Core.b32 s c q = if c < 16777216 then (if q ≤ 104 then .fin s c q else .inf s) else (if q + 1 ≤ 104 then .fin s 8388608 (q + 1) else .inf s) := rfl
theorem f_quantum (num den : Nat) (e : Int) : FP.Core.quantum FP.Core.b32 num den e = max (-149) (FP.Core.leading num den + e - (24 - 1)) := rfl
theorem dec_nn {n : Nat} (h : n % 2147483648 ≤ 2139095040) : FP.Core.decode FP.Core.b32 n ≠ .nan := by
  rw [f_dec]
  split
  · split
    · intro hh; cases hh
    · omega
  · split
    · intro hh; cases hh
    · intro hh; cases hh
theorem dec_fin {n k : Nat} (h : n % 2147483648 < (k + 1) * 8388608) (h1 : 1 ≤ k) (hk : k ≤ 254) : ∃ s c q, FP.Core.decode FP.Core.b32 n = .fin s c q ∧ c < 16777216 ∧ q ≤ (k : Int) - 150 := by
  rw [f_dec, if_neg (by omega)]
  split
  · exact ⟨_, _, _, rfl, by omega, by omega⟩
  · exact ⟨_, _, _, rfl, by omega, by omega⟩
theorem enc_fin {s : Bool} {c k : Nat} {q : Int} (hc : c < 16777216) (hq : q ≤ (k : Int) - 150) (h1 : 1 ≤ k) (hk : k ≤ 254) : FP.Core.encode FP.Core.b32 (.fin s c q) % 2147483648 < (k + 1) * 8388608 := by
  rw [f_encF]
  cases s <;> simp only [Bool.toNat_false, Bool.toNat_true] <;> split <;> omega
theorem enc_inf (s : Bool) : FP.Core.encode FP.Core.b32 (.inf s) % 2147483648 ≤ 2139095040 := by
  rw [f_encI]; cases s <;> simp only [Bool.toNat_false, Bool.toNat_true] <;> omega
theorem settle_or (s : Bool) (c : Nat) (q : Int) : (∃ t, FP.Core.settle FP.Core.b32 s c q = .inf t) ∨ ∃ s' c' q', FP.Core.settle FP.Core.b32 s c q = .fin s' c' q' ∧ c' < 16777216 ∧ q' ≤ 104 := by
  rw [f_settle]
  split
  · split
    · exact Or.inr ⟨_, _, _, rfl, by assumption, by assumption⟩
    · exact Or.inl ⟨_, rfl⟩
  · split
    · exact Or.inr ⟨_, _, _, rfl, by omega, by assumption⟩
    · exact Or.inl ⟨_, rfl⟩
theorem rr_or (s : Bool) (num den : Nat) (e : Int) : (∃ t, FP.Core.roundRatio FP.Core.b32 s num den e = .inf t) ∨ ∃ s' c' q', FP.Core.roundRatio FP.Core.b32 s num den e = .fin s' c' q' ∧ c' < 16777216 ∧ q' ≤ 104 := by
  unfold FP.Core.roundRatio
  split
  · exact Or.inr ⟨s, 0, -149, rfl, by omega, by omega⟩
  · exact settle_or _ _ _
theorem rr_fin (s : Bool) (num den : Nat) (e q0 : Int) (h0 : -149 ≤ q0) (h1 : FP.Core.leading num den + e - 23 ≤ q0) (h2 : q0 ≤ 100) : ∃ s' c' q', FP.Core.roundRatio FP.Core.b32 s num den e = .fin s' c' q' ∧ c' < 16777216 ∧ q' ≤ q0 + 1 := by
  unfold FP.Core.roundRatio
  split
  · exact ⟨s, 0, -149, rfl, by omega, by omega⟩
  · unfold FP.Core.roundAt
    have hq : FP.Core.quantum FP.Core.b32 num den e ≤ q0 := by rw [f_quantum]; omega
    rw [f_settle]
    split
    · rw [if_pos (by omega)]; exact ⟨_, _, _, rfl, by assumption, by omega⟩
    · rw [if_pos (by omega)]; exact ⟨_, _, _, rfl, by omega, by omega⟩
theorem rnd_nn {s : Bool} {num den : Nat} {e : Int} : FP.Core.encode FP.Core.b32 (FP.Core.roundRatio FP.Core.b32 s num den e) % 2147483648 ≤ 2139095040 := by
  rcases rr_or s num den e with ⟨t, h⟩ | ⟨s', c', q', h, h1, h2⟩
  · rw [h]; exact enc_inf t
  · rw [h]
    have := enc_fin (s := s') (q := q') (k := 254) h1 (by omega) (by omega) (by omega)
    omega
theorem mul_nn {x y : Nat} {t : Bool} {d : Nat} {r : Int} (hx : x % 2147483648 ≤ 2139095040) (hy : FP.Core.decode FP.Core.b32 y = .fin t d r) (hd : d ≠ 0) : FP.Core.mul FP.Core.b32 x y % 2147483648 ≤ 2139095040 := by
  have hn := dec_nn hx
  unfold FP.Core.mul
  rw [hy]
  cases e : FP.Core.decode FP.Core.b32 x with
  | nan => exact absurd e hn
  | inf s =>
    show FP.Core.encode FP.Core.b32 (FP.Core.round FP.Core.b32 (if d = 0 then .nan else .inf (s != t))) % 2147483648 ≤ 2139095040
    rw [if_neg hd]; exact enc_inf _
  | fin s c q => exact rnd_nn
theorem add_nn {x y : Nat} {t : Bool} {d : Nat} {r : Int} (hx : x % 2147483648 ≤ 2139095040) (hy : FP.Core.decode FP.Core.b32 y = .fin t d r) : FP.Core.add FP.Core.b32 x y % 2147483648 ≤ 2139095040 := by
  have hn := dec_nn hx
  unfold FP.Core.add
  rw [hy]
  cases e : FP.Core.decode FP.Core.b32 x with
  | nan => exact absurd e hn
  | inf s => exact enc_inf _
  | fin s c q => exact rnd_nn
theorem lead_le {num k : Nat} (h : num < 2 ^ (k + 1)) : FP.Core.leading num 1 ≤ (k : Int) := by
  have hl : num.log2 ≤ k := by
    by_cases h0 : num = 0
    · subst h0; exact Nat.zero_le _
    · have := (Nat.log2_lt h0).mpr h; omega
  have h1 : (1 : Nat).log2 = 0 := by decide
  unfold FP.Core.leading
  rw [h1]
  dsimp only
  split <;> omega
/-! on the bits -/
theorem nnU (x : UInt32) : x &&& 0x7fffffff ≤ 0x7f800000 ↔ x.toNat % 2147483648 ≤ 2139095040 := by
  rw [UInt32.le_iff_toNat_le, UInt32.toNat_and]
  have e : x.toNat &&& 2147483647 = x.toNat % 2147483648 := Nat.and_two_pow_sub_one_eq_mod x.toNat 31
  show x.toNat &&& 2147483647 ≤ 2139095040 ↔ _
  rw [e]
theorem ofN (n : Nat) : (UInt32.ofNat n).toNat % 2147483648 = n % 2147483648 := by
  rw [UInt32.toNat_ofNat']
  show n % 4294967296 % 2147483648 = n % 2147483648
  omega
theorem fmul_ok {x y : UInt32} {t : Bool} {d : Nat} {r : Int} (hx : LdOk x) (hy : FP.Core.decode FP.Core.b32 y.toNat = .fin t d r) (hd : d ≠ 0) : ∃ z, fmulO x y = some z ∧ LdOk z := by
  have h : LdOk (FP.fmul x y) := by
    unfold LdOk at *
    rw [nnU] at *
    show (UInt32.ofNat (FP.Core.mul FP.Core.b32 x.toNat y.toNat)).toNat % 2147483648 ≤ 2139095040
    rw [ofN]; exact mul_nn hx hy hd
  exact ⟨_, by unfold fmulO; unfold LdOk at h; rw [if_pos h], h⟩
theorem fadd_ok {x y : UInt32} {t : Bool} {d : Nat} {r : Int} (hx : LdOk x) (hy : FP.Core.decode FP.Core.b32 y.toNat = .fin t d r) : ∃ z, faddO x y = some z ∧ LdOk z := by
  have h : LdOk (FP.fadd x y) := by
    unfold LdOk at *
    rw [nnU] at *
    show (UInt32.ofNat (FP.Core.add FP.Core.b32 x.toNat y.toNat)).toNat % 2147483648 ≤ 2139095040
    rw [ofN]; exact add_nn hx hy
  exact ⟨_, by unfold faddO; unfold LdOk at h; rw [if_pos h], h⟩
theorem LdOk_1000 {x : UInt32} (h : LdOk x) : ∃ y, fmulO x (1148846080 : UInt32) = some y := by
  obtain ⟨z, e, _⟩ := fmul_ok (y := 1148846080) (t := false) (d := 16384000) (r := -14) h (by decide) (by decide)
  exact ⟨z, e⟩
theorem i2f_lt (n : Int32) : (FP.i2f n).toNat % 2147483648 < 160 * 8388608 := by
  show (UInt32.ofNat (FP.Core.fromInt FP.Core.b32 n.toInt)).toNat % 2147483648 < 160 * 8388608
  rw [ofN]
  show FP.Core.encode FP.Core.b32 (FP.Core.roundRatio FP.Core.b32 (decide (n.toInt < 0)) n.toInt.natAbs 1 0) % 2147483648 < 160 * 8388608
  have h1 := Int32.toInt_lt n
  have h2 := Int32.le_toInt n
  have hl := lead_le (num := n.toInt.natAbs) (k := 31) (by omega)
  obtain ⟨s', c', q', e, e1, e2⟩ := rr_fin (decide (n.toInt < 0)) n.toInt.natAbs 1 0 8 (by omega) (by omega) (by omega)
  rw [e]
  exact enc_fin (k := 159) e1 (by omega) (by omega) (by omega)
theorem quarter (n : Int32) : ∃ z, fmulO (FP.i2f n) (1048576000 : UInt32) = some z ∧ ∃ t d r, FP.Core.decode FP.Core.b32 z.toNat = .fin t d r := by
  have h1 := i2f_lt n
  have hL : LdOk (FP.i2f n) := by unfold LdOk; rw [nnU]; omega
  obtain ⟨s, c, q, e, e1, e2⟩ := dec_fin (k := 159) h1 (by omega) (by omega)
  have hy : FP.Core.decode FP.Core.b32 (1048576000 : UInt32).toNat = .fin false 8388608 (-25) := by decide
  obtain ⟨z, ez, hz⟩ := fmul_ok hL hy (by decide)
  refine ⟨z, ez, ?_⟩
  have ez' : z = FP.fmul (FP.i2f n) 1048576000 := by
    unfold fmulO at ez
    split at ez
    · exact (Option.some.inj ez).symm
    · cases ez
  have h3 : z.toNat % 2147483648 < 161 * 8388608 := by
    rw [ez']
    show (UInt32.ofNat (FP.Core.mul FP.Core.b32 (FP.i2f n).toNat (1048576000 : UInt32).toNat)).toNat % 2147483648 < 161 * 8388608
    rw [ofN]
    unfold FP.Core.mul
    rw [e, hy]
    show FP.Core.encode FP.Core.b32 (FP.Core.roundRatio FP.Core.b32 (s != false) (c * 8388608) 1 (q + (-25))) % 2147483648 < 161 * 8388608
    have hl := lead_le (num := c * 8388608) (k := 46) (by
      have : c * 8388608 < 16777216 * 8388608 := Nat.mul_lt_mul_of_pos_right e1 (by omega)
      exact Nat.lt_of_lt_of_le this (by decide))
    obtain ⟨s', c', q', e', e1', e2'⟩ := rr_fin (s != false) (c * 8388608) 1 (q + (-25)) 9 (by omega) (by omega) (by omega)
    rw [e']
    exact enc_fin (k := 160) e1' (by omega) (by omega) (by omega)
  obtain ⟨s', c', q', e', _⟩ := dec_fin (k := 160) h3 (by omega) (by omega)
  exact ⟨s', c', q', e'⟩
/-- a client's load, one tick on -/
theorem ld_step {x : UInt32} (n : Int32) (h : LdOk x) : ∃ a b z, fmulO x (1061158912 : UInt32) = some a ∧ fmulO (FP.i2f n) (1048576000 : UInt32) = some b ∧ faddO a b = some z ∧ LdOk z := by
  obtain ⟨a, ea, ha⟩ := fmul_ok (y := 1061158912) (t := false) (d := 12582912) (r := -24) h (by decide) (by decide)
  obtain ⟨b, eb, t, d, r, hb⟩ := quarter n
  obtain ⟨z, ez, hz⟩ := fadd_ok ha hb
  exact ⟨a, b, z, ea, eb, ez, hz⟩
