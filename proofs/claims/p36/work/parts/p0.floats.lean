/-! LOADS are never negative -/
def LdP (x : UInt32) : Prop := x.toNat ≤ 2139095040
theorem dec_pos {n : Nat} (h : n ≤ 2139095040) : FP.Core.decode FP.Core.b32 n = .inf false ∨ ∃ c q, FP.Core.decode FP.Core.b32 n = .fin false c q := by
  have hs : (n / 8388608 / 256 % 2 == 1) = false := by
    have : n / 8388608 / 256 = 0 := by omega
    rw [this]; rfl
  rw [f_dec, hs]
  split
  · split
    · exact Or.inl rfl
    · omega
  · split
    · exact Or.inr ⟨_, _, rfl⟩
    · exact Or.inr ⟨_, _, rfl⟩
theorem enc_pos {c : Nat} {q : Int} (hc : c < 16777216) (hq : q ≤ 104) : FP.Core.encode FP.Core.b32 (.fin false c q) ≤ 2139095040 := by
  rw [f_encF]; simp only [Bool.toNat_false]; split <;> omega
theorem enc_ipos : FP.Core.encode FP.Core.b32 (.inf false) ≤ 2139095040 := by
  rw [f_encI]; simp only [Bool.toNat_false]; omega
theorem rr_s (s : Bool) (num den : Nat) (e : Int) : FP.Core.roundRatio FP.Core.b32 s num den e = .inf s ∨ ∃ c' q', FP.Core.roundRatio FP.Core.b32 s num den e = .fin s c' q' ∧ c' < 16777216 ∧ q' ≤ 104 := by
  unfold FP.Core.roundRatio
  split
  · exact Or.inr ⟨0, -149, rfl, by omega, by omega⟩
  · unfold FP.Core.roundAt
    rw [f_settle]
    split
    · split
      · exact Or.inr ⟨_, _, rfl, by assumption, by assumption⟩
      · exact Or.inl rfl
    · split
      · exact Or.inr ⟨_, _, rfl, by omega, by assumption⟩
      · exact Or.inl rfl
theorem rr_pos (num den : Nat) (e : Int) : FP.Core.encode FP.Core.b32 (FP.Core.roundRatio FP.Core.b32 false num den e) ≤ 2139095040 := by
  rcases rr_s false num den e with h | ⟨c, q, h, h1, h2⟩
  · rw [h]; exact enc_ipos
  · rw [h]; exact enc_pos h1 h2
theorem ofP {n : Nat} (h : n ≤ 2139095040) : LdP (UInt32.ofNat n) := by
  show (UInt32.ofNat n).toNat ≤ 2139095040
  rw [UInt32.toNat_ofNat']
  show n % 4294967296 ≤ 2139095040
  omega
theorem mul_pos' {x y : UInt32} {d : Nat} {r : Int} (hx : LdP x) (hy : FP.Core.decode FP.Core.b32 y.toNat = .fin false d r) (hd : d ≠ 0) : LdP (FP.fmul x y) := by
  have key : FP.Core.mul FP.Core.b32 x.toNat y.toNat ≤ 2139095040 := by
    unfold FP.Core.mul
    rw [hy]
    rcases dec_pos hx with h | ⟨c, q, h⟩
    · rw [h]
      show FP.Core.encode FP.Core.b32 (FP.Core.round FP.Core.b32 (if d = 0 then .nan else .inf (false != false))) ≤ 2139095040
      rw [if_neg hd]; exact enc_ipos
    · rw [h]; exact rr_pos _ _ _
  exact ofP key
theorem add_pos' {x y : UInt32} (hx : LdP x) (hy : LdP y) : LdP (FP.fadd x y) := by
  have key : FP.Core.add FP.Core.b32 x.toNat y.toNat ≤ 2139095040 := by
    unfold FP.Core.add
    rcases dec_pos hx with h | ⟨c, q, h⟩
    · rcases dec_pos hy with g | ⟨d, r, g⟩
      · rw [h, g]; exact enc_ipos
      · rw [h, g]; exact enc_ipos
    · rcases dec_pos hy with g | ⟨d, r, g⟩
      · rw [h, g]; exact enc_ipos
      · rw [h, g]
        have hs : FP.Core.sumSign false false (FP.Core.sumUnits false c q false d r (min q r)) = false := by
          unfold FP.Core.sumSign
          split
          · rfl
          · have : ¬ FP.Core.sumUnits false c q false d r (min q r) < 0 := by
              show ¬ ((FP.Core.inUnits c q (min q r) : Int) + (FP.Core.inUnits d r (min q r) : Int) < 0)
              omega
            exact decide_eq_false this
        show FP.Core.encode FP.Core.b32 (FP.Core.round FP.Core.b32 (.fin (FP.Core.sumSign false false (FP.Core.sumUnits false c q false d r (min q r))) _ _)) ≤ 2139095040
        rw [hs]; exact rr_pos _ _ _
  exact ofP key
theorem i2f_pos {n : Nat} (h : n < 2147483648) : LdP (FP.i2f (nW n)) := by
  have key : FP.Core.fromInt FP.Core.b32 (nW n).toInt ≤ 2139095040 := by
    show FP.Core.encode FP.Core.b32 (FP.Core.roundRatio FP.Core.b32 (decide ((nW n).toInt < 0)) (nW n).toInt.natAbs 1 0) ≤ 2139095040
    rw [show decide ((nW n).toInt < 0) = false from by rw [nW_int h]; exact decide_eq_false (by omega)]
    exact rr_pos _ _ _
  exact ofP key
theorem ld_pos {x : UInt32} {n : Nat} (h : LdP x) (hn : n < 2147483648) : LdP (ldv x (nW n)) := by
  unfold ldv
  exact add_pos' (mul_pos' (d := 12582912) (r := -24) h (by decide) (by decide)) (mul_pos' (d := 8388608) (r := -25) (i2f_pos hn) (by decide) (by decide))
theorem f2i_pos {x : UInt32} (h : LdP x) : ∃ m, m < 2147483648 ∧ FP.f2i x = nW m := by
  have key : ∀ v : Int, 0 ≤ v → v ≤ 2147483647 → ∃ m, m < 2147483648 ∧ Int32.ofInt v = nW m := fun v h1 h2 => by
    refine ⟨v.toNat, by omega, ?_⟩
    have e : v = (v.toNat : Int) := by omega
    rw [e]; rfl
  rcases dec_pos h with g | ⟨c, q, g⟩
  · have e : FP.f2i x = Int32.ofInt 2147483647 := by
      show FP.Core.toI (FP.Core.decode FP.Core.b32 x.toNat) = _
      rw [g]; rfl
    rw [e]; exact key _ (by omega) (by omega)
  · have e : FP.f2i x = Int32.ofInt (max (-2147483648) (min 2147483647 (FP.Core.truncate false c q))) := by
      show FP.Core.toI (FP.Core.decode FP.Core.b32 x.toNat) = _
      rw [g]; rfl
    have ht : 0 ≤ FP.Core.truncate false c q := by
      show (0 : Int) ≤ ((c * 2 ^ q.toNat / 2 ^ (-q).toNat : Nat) : Int)
      exact Int.natCast_nonneg _
    rw [e]; exact key _ (by omega) (by omega)
theorem ld1000 {x : UInt32} (h : LdP x) : ∃ m, m < 2147483648 ∧ FP.f2i (FP.fmul x (1148846080 : UInt32)) = nW m := f2i_pos (mul_pos' (d := 16384000) (r := -14) h (by decide) (by decide))
