/-! SUBSCRIPTIONS AND SHARES READ, in the reference -/
def SubOk (l : Ls Row) : Prop := ∀ j, j < l.1 → okTx (l.2 j).1 ∧ (∃ n, n ≤ 3 ∧ (l.2 j).2 1 = nW n) ∧ (∃ n, n ≤ 2 ∧ (l.2 j).2 2 = nW n) ∧ ∃ n, n ≤ 7 ∧ (l.2 j).2 3 = nW n
def SubDi (l : Ls Row) : Prop := ∀ i j, i < l.1 → j < l.1 → (l.2 i).1 = (l.2 j).1 → (l.2 i).2 1 = (l.2 j).2 1 → i = j
def ShTx (l : List Sh) : Prop := ∀ x ∈ l, okTx x.1 ∧ ∃ n, 1 ≤ n ∧ n ≤ 3 ∧ x.2.1 = nW n
def shKey (x : Sh) : Txt × Int32 := (x.1, x.2.1)
def ShDi (l : List Sh) : Prop := (l.map shKey).Nodup
theorem nown_n {n : Nat} (h : n ≤ 7) : nown (nW n) = decide (n % 2 = 1) := by
  have : n = 0 ∨ n = 1 ∨ n = 2 ∨ n = 3 ∨ n = 4 ∨ n = 5 ∨ n = 6 ∨ n = 7 := by omega
  rcases this with e | e | e | e | e | e | e | e <;> subst e <;> decide
theorem sub_flat {c m j : Nat} : 6 * c + m ≤ 6 * c + j ↔ m ≤ j := by omega
theorem ffind_last {p : Nat → Bool} {m n : Nat} (hd : ∀ i j, i < n → j < n → p i = true → p j = true → i = j) {k : Nat} (hk : k < n) (hp : p k = true) : ffind p n 0 = some k := ffind_is (by omega) (by omega) hp (fun j _ hj => by
  cases e : p j with
  | false => rfl
  | true => have := hd j k (by omega) hk e hp; omega)
def grd (l : Ls Row) (a : Option Nat) : Int32 := match a with
  | none => nW 0
  | some k => (l.2 k).2 2
theorem spGradeOf_grd (l : Ls Row) (t : Txt) (g : Int32) : spGradeOf l t g = grd l (subAt l t g) := rfl
/-- the place of a subscription -/
def posK (b : Nat) (o : Option Nat) : Int32 := match o with
  | none => -nW 1
  | some k => nW (b + k)
