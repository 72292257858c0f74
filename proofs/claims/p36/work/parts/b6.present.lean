/-! THE LENGTH AND THE SIGNS of a topic, in the reference -/
theorem nL_div {a b : Nat} (ha : a < 9223372036854775808) (hb : b < 9223372036854775808) : nL a / nL b = nL (a / b) := (Int64.ofNat_div ha hb).symm
theorem nL_mul (a b : Nat) : nL a * nL b = nL (a * b) := (Int64.ofNat_mul a b).symm
theorem nL_add (a b : Nat) : nL a + nL b = nL (a + b) := (Int64.ofNat_add a b).symm
theorem nL_sub {a b : Nat} (h : b ≤ a) : nL a - nL b = nL (a - b) := (Int64.ofNat_sub a b h).symm
theorem lrem_nL {a b : Nat} (ha : a < 9223372036854775808) (hb : b < 9223372036854775808) : lremE (nL a) (nL b) = nL (a % b) := by
  have h1 : a / b * b ≤ a := Nat.div_mul_le_self a b
  have h2 : a % b = a - a / b * b := by
    have := Nat.div_add_mod a b
    rw [Nat.mul_comm] at this; omega
  rw [lremE, nL_div ha hb, nL_mul, nL_sub h1, h2]
theorem rcK_dig : ∀ (k : Nat) {l : List Nat} (j : Nat), (∀ c ∈ l, plain c = true) → j < k → rcK k l / 37 ^ (k - 1 - j) % 37 = if j < l.length then sg (l.getD j 0) else 0
  | 0, _, j, _, h => absurd h (by omega)
  | k + 1, [], j, _, _ => by
    show 0 / 37 ^ (k + 1 - 1 - j) % 37 = _
    rw [Nat.zero_div]; simp
  | k + 1, c :: r, 0, hl, _ => by
    have hr := rcK_lt k (l := r) (fun d hd => hl d (List.mem_cons_of_mem _ hd))
    have b := sg_rng (hl c List.mem_cons_self)
    rw [rcK, show k + 1 - 1 - 0 = k by omega, Nat.mul_comm, Nat.mul_add_div (Nat.pow_pos (by omega)), Nat.div_eq_of_lt hr, Nat.add_zero, Nat.mod_eq_of_lt b.2]
    simp
  | k + 1, c :: r, j + 1, hl, h => by
    have ih := rcK_dig k (l := r) j (fun d hd => hl d (List.mem_cons_of_mem _ hd)) (by omega)
    have e : 37 ^ k = 37 ^ (k - 1 - j) * (37 * 37 ^ j) := by
      rw [← Nat.pow_succ', ← Nat.pow_add]; congr 1; omega
    rw [rcK, show k + 1 - 1 - (j + 1) = k - 1 - j by omega, e, Nat.mul_comm (sg c), Nat.mul_assoc, Nat.mul_add_div (Nat.pow_pos (by omega)), Nat.mul_assoc, Nat.mul_add_mod, ih]
    simp
def slT (t : Txt) : Nat := (t.map List.length).sum
theorem txS_len : ∀ t : Txt, (txS t).length = t.length - 1 + slT t
  | [] => rfl
  | [l] => by simp [txS, slT]
  | l :: m :: r => by
    have := txS_len (m :: r)
    simp only [txS, List.length_append, List.length_cons, slT, List.map_cons, List.sum_cons] at this ⊢
    omega
theorem slT_le {t : Txt} (h : plTx t) : slT t ≤ 6 * t.length := by
  induction t with
  | nil => exact Nat.le_refl _
  | cons l r ih =>
    have h1 := (h l List.mem_cons_self).2.1
    have := ih (fun x hx => h x (List.mem_cons_of_mem _ hx))
    simp only [slT, List.map_cons, List.sum_cons, List.length_cons] at this ⊢
    omega
