/-! THE ABSTRACT STATE: scalars (0 to 9 totals, 10 to 13 options, 14 clock), clients, shares (filter, group, members), retained messages, counts of topics -/
abbrev Sh : Type := Txt × Int32 × List Nat
def shD : Sh := ([], nW 0, [])
abbrev Sg : Type := (Nat → Int32) × (Nat → Cl) × List Sh × Ls Row × Ls (Txt × Int32)
abbrev gSc (σ : Sg) : Nat → Int32 := σ.1
abbrev gCl (σ : Sg) : Nat → Cl := σ.2.1
abbrev gSh (σ : Sg) : List Sh := σ.2.2.1
abbrev gRe (σ : Sg) : Ls Row := σ.2.2.2.1
abbrev gTa (σ : Sg) : Ls (Txt × Int32) := σ.2.2.2.2
def getG (σ : Sg) (c : Nat) : GS := (σ.1, σ.2.1 c)
def putG (σ : Sg) (c : Nat) (g : GS) : Sg := (g.1, fset σ.2.1 c g.2, σ.2.2)
/-! .. in the reference's rows of numbers -/
def R_sc (s : Nat → Int32) (sc : Nat → Int32) : Prop := s 0 = sc 14 ∧ (∀ i, i < 4 → s (1 + i) = sc (10 + i)) ∧ ∀ i, i < 10 → s (5 + i) = sc i
def R_c1 (s : Nat → Int32) (c : Nat) (x : Cl) : Prop := s (20 + c) = zI (cB x 3) ∧ s (32 + c) = zI (cB x 0) ∧ s (50 + c) = nW (cL x 3).1 ∧ s (56 + c) = nW (cL x 1).1 ∧ s (62 + c) = nW (cL x 2).1 ∧ s (68 + c) = nW (cL x 0).1 ∧ s (74 + c) = zI (cB x 1) ∧ s (80 + c) = cI x 0
def R_c2 (s : Nat → Int32) (c : Nat) (x : Cl) : Prop := cB x 3 = true → s (26 + c) = zI (cB x 4) ∧ s (44 + c) = nW (cN x) ∧ (cB x 0 = false → s (38 + c) = cI x 1)
def R_ke (s : Nat → Int32) (c : Nat) (x : Cl) : Prop := ∀ i, 1 ≤ i → i < 51 → s (104 + (51 * c + i)) = zI (cK x i)
/-- limits -/
def lim1 (x : Cl) : Prop := (cL x 0).1 ≤ 30 ∧ (cL x 1).1 ≤ 5 ∧ (cL x 2).1 ≤ 8 ∧ (cL x 3).1 ≤ 6
/-- the places of client c -/
def cs (c i : Nat) : Prop := (20 ≤ i ∧ i < 104 ∧ (i - 20) % 6 = c) ∨ (104 ≤ i ∧ i < 410 ∧ (i - 104) / 51 = c) ∨ (410 ≤ i ∧ i < 554 ∧ (i - 410) % 36 / 6 = c) ∨ (554 ≤ i ∧ i < 734 ∧ (i - 554) % 30 / 5 = c) ∨ (734 ≤ i ∧ i < 878 ∧ (i - 734) % 48 / 8 = c) ∨ (878 ≤ i ∧ i < 1778 ∧ (i - 878) % 180 / 30 = c)
def ct (c i : Nat) : Prop := (i < 24 ∧ i / 4 = c) ∨ (24 ≤ i ∧ i < 168 ∧ (i - 24) / 24 = c) ∨ (168 ≤ i ∧ i < 288 ∧ (i - 168) / 20 = c) ∨ (312 ≤ i ∧ i < 504 ∧ (i - 312) / 32 = c) ∨ (504 ≤ i ∧ i < 1224 ∧ (i - 504) / 120 = c)
theorem cs_ne {c c' i : Nat} (h : cs c i) (hc : c ≠ c') : ¬ cs c' i := by
  unfold cs at *; omega
theorem ct_ne {c c' i : Nat} (h : ct c i) (hc : c ≠ c') : ¬ ct c' i := by
  unfold ct at *; omega
/-- what a client's operation may change -/
def FT (c : Nat) (s s' : Nat → Int32) : Prop := ∀ i, 15 ≤ i → ¬ cs c i → s' i = s i
def Ft (c : Nat) (t t' : Nat → Int64) : Prop := ∀ i, ¬ ct c i → t' i = t i
theorem FT.refl (c : Nat) (s : Nat → Int32) : FT c s s := fun _ _ _ => rfl
theorem Ft.refl (c : Nat) (t : Nat → Int64) : Ft c t t := fun _ _ => rfl
theorem FT.trans {c : Nat} {s s' s'' : Nat → Int32} (h : FT c s s') (g : FT c s' s'') : FT c s s'' := fun i h1 h2 => (g i h1 h2).trans (h i h1 h2)
theorem Ft.trans {c : Nat} {t t' t'' : Nat → Int64} (h : Ft c t t') (g : Ft c t' t'') : Ft c t t'' := fun i h2 => (g i h2).trans (h i h2)
theorem R_c2.fr {s s' : Nat → Int32} {c : Nat} {x : Cl} (hc : c < 6) (h : R_c2 s c x) (hs : ∀ i, 26 ≤ i → i < 50 → s' i = s i) : R_c2 s' c x := by
  unfold R_c2 at *
  rw [hs _ (by omega) (by omega), hs _ (by omega) (by omega), hs _ (by omega) (by omega)]; exact h
theorem R_ke.fr {s s' : Nat → Int32} {c : Nat} {x : Cl} (hc : c < 6) (h : R_ke s c x) (hs : ∀ i, 104 ≤ i → i < 410 → s' i = s i) : R_ke s' c x := fun i h1 h2 => by
  rw [hs _ (by omega) (by omega)]; exact h i h1 h2
