/-! SHARES WRITTEN, in the reference -/
def FSh (s s' : Nat → Int32) : Prop := ∀ i, i ≠ 16 → (i < 1794 ∨ 2118 ≤ i) → s' i = s i
def FtS (t t' : Nat → Int64) : Prop := ∀ i, (i < 1256 ∨ 1400 ≤ i) → t' i = t i
theorem FSh.trans {s s' s'' : Nat → Int32} (h : FSh s s') (g : FSh s' s'') : FSh s s'' := fun i a b => (g i a b).trans (h i a b)
theorem FtS.trans {t t' t'' : Nat → Int64} (h : FtS t t') (g : FtS t' t'') : FtS t t'' := fun i a => (g i a).trans (h i a)
def shLeaveK (l : List Sh) (t : Txt) (g : Int32) (c : Nat) : List Sh := match shAt l t g with
  | none => l
  | some h => shLeave l h c
