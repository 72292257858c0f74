/-! THE REFERENCE'S WORLD: its cells lie at 908 to 920 -/
abbrev VR : Type := (Nat → Nat → Int32) × (Nat → Nat → Int64) × (Nat → Nat → UInt32)
def wsel {α : Type} (f g : Nat → Nat → α) : Nat → Nat → α := fun a => if 908 ≤ a ∧ a < 921 then f (a - 908) else g a
/-- kinds and links of the reference, by place: kind 13 ints, 14 longs, 15 floats -/
def KA (k : Nat) : Nat × Nat := (([(12, 0), (13, 2718), (14, 3800), (15, 6), (13, 2718), (14, 3800), (15, 6), (13, 30), (14, 4), (14, 4), (14, 4), (13, 6), (14, 4)] : List (Nat × Nat)).getD k (0, 0))
def KF (f : Nat) : Option Nat := (([none, some 909, some 910, some 911, some 912, some 913, some 914, none, some 915, none, none, some 916, none, some 917, some 918, some 919, some 920, none] : List (Option Nat)).getD f none)
/-! blocks of four longs: a text's levels -/
def blk (f : Nat → Int64) (i : Nat) (v : Nat → Int64) : Nat → Int64 := fun j => if i ≤ j ∧ j < i + 4 then v (j - i) else f j
theorem blk_in (f : Nat → Int64) (i : Nat) (v : Nat → Int64) {x : Nat} (h : x < 4) : blk f i v (i + x) = v x := by
  have : i ≤ i + x ∧ i + x < i + 4 := by omega
  simp only [blk, this, and_self, ↓reduceIte, Nat.add_sub_cancel_left]
theorem blk_out (f : Nat → Int64) {i j : Nat} (v : Nat → Int64) (h : j < i ∨ i + 4 ≤ j) : blk f i v j = f j := by
  have : ¬ (i ≤ j ∧ j < i + 4) := by omega
  simp only [blk, this, ↓reduceIte]
