/-! READING A TEXT, in the reference -/
theorem rcK_pad : ∀ (k : Nat) (l : List Nat), l.length ≤ k → rcK (k + 1) l = rcK k l * 37
  | 0, l, h => by
    have : l = [] := List.length_eq_zero_iff.mp (by omega)
    subst this; rfl
  | k + 1, [], _ => rfl
  | k + 1, c :: r, h => by
    have ih := rcK_pad k r (by simpa using h)
    rw [rcK, ih]
    conv => rhs; rw [rcK]
    rw [Nat.pow_succ, Nat.add_mul, Nat.mul_assoc]
theorem rcK_snoc : ∀ (l : List Nat) (c : Nat), rcK (l.length + 1) (l ++ [c]) = rcK l.length l * 37 + sg c
  | [], c => by simp [rcK]
  | a :: r, c => by
    have ih := rcK_snoc r c
    simp only [List.length_cons, List.cons_append]
    rw [rcK, ih]
    conv => rhs; rw [rcK]
    rw [Nat.pow_succ, Nat.add_mul, Nat.mul_assoc, Nat.add_assoc]
