/-! THE MEMORY: a picture of the heap by addresses of its own (0, 1, 2 ..), typed: the ints, longs, floats and references of a cell by its address and place; a cell's kind and length; the next address; how many cells and slots were made. -/
abbrev Mem : Type := (Nat → Nat → Int32) × (Nat → Nat → Int64) × (Nat → Nat → UInt32) × (Nat → Nat → Option Nat) × (Nat → Nat × Nat) × Nat × Nat × Nat
abbrev mI (M : Mem) : Nat → Nat → Int32 := M.1
abbrev mL (M : Mem) : Nat → Nat → Int64 := M.2.1
abbrev mF (M : Mem) : Nat → Nat → UInt32 := M.2.2.1
abbrev mR (M : Mem) : Nat → Nat → Option Nat := M.2.2.2.1
abbrev mK (M : Mem) : Nat → Nat × Nat := M.2.2.2.2.1
abbrev mN (M : Mem) : Nat := M.2.2.2.2.2.1
abbrev mC (M : Mem) : Nat := M.2.2.2.2.2.2.1
abbrev mS (M : Mem) : Nat := M.2.2.2.2.2.2.2
def sI (M : Mem) (f : Nat → Nat → Int32) : Mem := (f, M.2)
def sL (M : Mem) (f : Nat → Nat → Int64) : Mem := (M.1, f, M.2.2)
def sF (M : Mem) (f : Nat → Nat → UInt32) : Mem := (M.1, M.2.1, f, M.2.2.2)
def sR (M : Mem) (f : Nat → Nat → Option Nat) : Mem := (M.1, M.2.1, M.2.2.1, f, M.2.2.2.2)
def up2 {α : Type} (f : Nat → Nat → α) (a i : Nat) (x : α) : Nat → Nat → α := fun b j => if b = a ∧ j = i then x else f b j
def cl2 {α : Type} (f : Nat → Nat → α) (a : Nat) (x : α) : Nat → Nat → α := fun b j => if b = a then x else f b j
theorem up2_eq {α : Type} (f : Nat → Nat → α) (a i : Nat) (x : α) : up2 f a i x a i = x := by simp [up2]
theorem up2_ne {α : Type} (f : Nat → Nat → α) {a b : Nat} (i j : Nat) (x : α) (h : b ≠ a) : up2 f a i x b j = f b j := by simp [up2, h]
theorem up2_nj {α : Type} (f : Nat → Nat → α) (a b : Nat) {i j : Nat} (x : α) (h : j ≠ i) : up2 f a i x b j = f b j := by simp [up2, h]
theorem cl2_eq {α : Type} (f : Nat → Nat → α) (a j : Nat) (x : α) : cl2 f a x a j = x := by simp [cl2]
theorem cl2_ne {α : Type} (f : Nat → Nat → α) {a b : Nat} (j : Nat) (x : α) (h : b ≠ a) : cl2 f a x b j = f b j := by simp [cl2, h]
/-- an index in a row of n places -/
def ix (i : Int32) (n : Nat) : Option Nat := if i < 0 ∨ n ≤ i.toNatClampNeg then none else some i.toNatClampNeg
/-- the fields of an object of class k, the elements of an array of kind k -/
def gI (k f a : Nat) (M : Mem) : Option Int32 := if (mK M a).1 = k then some (mI M a f) else none
def gL (k f a : Nat) (M : Mem) : Option Int64 := if (mK M a).1 = k then some (mL M a f) else none
def gF (k f a : Nat) (M : Mem) : Option UInt32 := if (mK M a).1 = k then some (mF M a f) else none
def gR (k f a : Nat) (M : Mem) : Option Nat := if (mK M a).1 = k then mR M a f else none
def pI (k f a : Nat) (x : Int32) (M : Mem) : Option Mem := if (mK M a).1 = k then some (sI M (up2 (mI M) a f x)) else none
def pZ (k f a : Nat) (x : Int32) (M : Mem) : Option Mem := if (mK M a).1 = k ∧ (x = 0 ∨ x = 1) then some (sI M (up2 (mI M) a f x)) else none
def pL (k f a : Nat) (x : Int64) (M : Mem) : Option Mem := if (mK M a).1 = k then some (sL M (up2 (mL M) a f x)) else none
def pF (k f a : Nat) (x : UInt32) (M : Mem) : Option Mem := if (mK M a).1 = k then some (sF M (up2 (mF M) a f x)) else none
def pR (k f a : Nat) (x : Nat) (M : Mem) : Option Mem := if (mK M a).1 = k ∧ (mK M x).1 ≠ 99 then some (sR M (up2 (mR M) a f (some x))) else none
def aI (k a : Nat) (i : Int32) (M : Mem) : Option Int32 := if (mK M a).1 = k then (ix i (mK M a).2).map (mI M a) else none
def aL (a : Nat) (i : Int32) (M : Mem) : Option Int64 := if (mK M a).1 = 14 then (ix i (mK M a).2).map (mL M a) else none
def aF (a : Nat) (i : Int32) (M : Mem) : Option UInt32 := if (mK M a).1 = 15 then (ix i (mK M a).2).map (mF M a) else none
def aR (k a : Nat) (i : Int32) (M : Mem) : Option Nat := if (mK M a).1 = k then (ix i (mK M a).2).bind (mR M a) else none
def nar (k : Nat) (x : Int32) : Int32 := if k = 16 then vp_nar .char x else if k = 17 then vp_nar .boolean x else x
def wI (k a : Nat) (i x : Int32) (M : Mem) : Option Mem := if (mK M a).1 = k then (ix i (mK M a).2).map (fun j => sI M (up2 (mI M) a j (nar k x))) else none
def wL (a : Nat) (i : Int32) (x : Int64) (M : Mem) : Option Mem := if (mK M a).1 = 14 then (ix i (mK M a).2).map (fun j => sL M (up2 (mL M) a j x)) else none
def wF (a : Nat) (i : Int32) (x : UInt32) (M : Mem) : Option Mem := if (mK M a).1 = 15 then (ix i (mK M a).2).map (fun j => sF M (up2 (mF M) a j x)) else none
/-- a reference into a row of references to objects of class kc -/
def wR (k kc a : Nat) (i : Int32) (x : Nat) (M : Mem) : Option Mem := if (mK M a).1 = k ∧ (mK M x).1 = kc then (ix i (mK M a).2).map (fun j => sR M (up2 (mR M) a j (some x))) else none
/-- an array's length (kinds from 13 on) -/
def aN (a : Nat) (M : Mem) : Option Int32 := if 13 ≤ (mK M a).1 ∧ (mK M a).1 ≤ 23 then some (Int32.ofNat (mK M a).2) else none
def SCR : Nat := 1000000000
/-- a new cell of kind k, with length n and s slots, at the next address -/
def mkM (k n s : Nat) (M : Mem) : Mem := (cl2 (mI M) (mN M) 0, cl2 (mL M) (mN M) 0, cl2 (mF M) (mN M) 0, cl2 (mR M) (mN M) none, (fun a => if a = mN M then (k, n) else mK M a), mN M + 1, mC M + 1, mS M + s)
def nO (k s : Nat) (M : Mem) : Option (Nat × Mem) := if mN M + 1 < SCR then some (mN M, mkM k 0 s M) else none
def nA (k : Nat) (n : Int32) (M : Mem) : Option (Nat × Mem) := if mN M + 1 < SCR ∧ ¬ n < 0 ∧ n.toNatClampNeg ≤ 100000 then some (mN M, mkM k n.toNatClampNeg n.toNatClampNeg M) else none
/-- an exception is made: a cell of six slots that the picture doesn't hold -/
def xM (M : Mem) : Mem := (M.1, M.2.1, M.2.2.1, M.2.2.2.1, M.2.2.2.2.1, M.2.2.2.2.2.1, mC M + 1, mS M + 6)
/-- the three static rows: least, greatest, first -/
def optRow (w : Nat) (j : Nat) : Int32 := ((([[1, 0, 1, 0], [5, 20, 100, 1], [3, 0, 20, 0]] : List (List Int32)).getD w []).getD j 0)
def stI (w : Nat) (i : Int32) : Option Int32 := (ix i 4).map (optRow w)
/-- the script -/
def scI (L : Nat) (xs : Nat → Int32) (i : Int32) : Option Int32 := (ix i L).map xs
/-- floats: no NaN is made -/
def fmulO (x y : UInt32) : Option UInt32 := if FP.fmul x y &&& 0x7fffffff ≤ 0x7f800000 then some (FP.fmul x y) else none
def faddO (x y : UInt32) : Option UInt32 := if FP.fadd x y &&& 0x7fffffff ≤ 0x7f800000 then some (FP.fadd x y) else none
def imaxE (x y : Int32) : Int32 := if x < y then y else x
def iminE (x y : Int32) : Int32 := if y < x then y else x
def okZ (x : Int32) (M : Mem) : Option (Int32 × Mem) := if x = 0 ∨ x = 1 then some (x, M) else none
/-- how a method ends: what it returns, or which exception it throws (1 IllegalArgument, 2 IllegalState, 3 IndexOutOfBounds) -/
abbrev Out : Type := Option Value ⊕ Nat
def FU : Nat := 4100
/-- a call's answer and memory -/
def bindP {α β : Type} (o : Option (α × Mem)) (f : α → Mem → Option β) : Option β := match o with
  | none => none
  | some p => f p.1 p.2
/-- .. of a method that may throw; what it throws goes on -/
def bindX {α β : Type} (o : Option ((α ⊕ Nat) × Mem)) (f : α → Mem → Option ((β ⊕ Nat) × Mem)) : Option ((β ⊕ Nat) × Mem) := match o with
  | none => none
  | some (.inl a, M1) => f a M1
  | some (.inr e, M1) => some (.inr e, M1)
/-- .. what it throws is caught -/
def bindH {α β : Type} (o : Option ((α ⊕ Nat) × Mem)) (f : α → Mem → Option β) (g : Nat → Mem → Option β) : Option β := match o with
  | none => none
  | some (.inl a, M1) => f a M1
  | some (.inr e, M1) => g e M1
theorem bind_some {α β : Type} {o : Option α} {f : α → Option β} {r : β} (h : o.bind f = some r) : ∃ a, o = some a ∧ f a = some r := Option.bind_eq_some_iff.mp h
theorem bindP_some {α β : Type} {o : Option (α × Mem)} {f : α → Mem → Option β} {r : β} (h : bindP o f = some r) : ∃ a M1, o = some (a, M1) ∧ f a M1 = some r := by
  cases o with
  | none => cases h
  | some p => exact ⟨p.1, p.2, rfl, h⟩
theorem bindX_some {α β : Type} {o : Option ((α ⊕ Nat) × Mem)} {f : α → Mem → Option ((β ⊕ Nat) × Mem)} {r : β ⊕ Nat} {MF : Mem} (h : bindX o f = some (r, MF)) : (∃ a M1, o = some (.inl a, M1) ∧ f a M1 = some (r, MF)) ∨ ∃ e, o = some (.inr e, MF) ∧ r = .inr e := by
  rcases o with _ | ⟨a | e, M1⟩
  · cases h
  · exact Or.inl ⟨a, M1, rfl, h⟩
  · cases h; exact Or.inr ⟨e, rfl, rfl⟩
theorem bindH_some {α β : Type} {o : Option ((α ⊕ Nat) × Mem)} {f : α → Mem → Option β} {g : Nat → Mem → Option β} {r : β} (h : bindH o f g = some r) : (∃ a M1, o = some (.inl a, M1) ∧ f a M1 = some r) ∨ ∃ e M1, o = some (.inr e, M1) ∧ g e M1 = some r := by
  rcases o with _ | ⟨a | e, M1⟩
  · cases h
  · exact Or.inl ⟨a, M1, rfl, h⟩
  · exact Or.inr ⟨e, M1, rfl, h⟩
def cvV (_ : Unit) : Out := .inl none
def cvI (x : Int32) : Out := .inl (some (.int x))
def cvL (x : Int64) : Out := .inl (some (.long x))
def cvR (x : Nat) : Out := .inl (some (.ref x))
def cxV : Unit ⊕ Nat → Out := fun o => match o with
  | .inl _ => .inl none
  | .inr e => .inr e
def cxI : Int32 ⊕ Nat → Out := fun o => match o with
  | .inl x => .inl (some (.int x))
  | .inr e => .inr e
def cxR : Nat ⊕ Nat → Out := fun o => match o with
  | .inl x => .inl (some (.ref x))
  | .inr e => .inr e
