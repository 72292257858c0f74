/-! A CLIENT of the abstract state: booleans 0 connected, 1 hasWill, 2 retainWill, 3 exists, 4 clean; ints 0 sent since the last load, 1 offline since; the load; the will; the kept identifiers; the next identifier; lists 0 queue, 1 flights, 2 pending, 3 subscriptions -/
abbrev Cl : Type := (Nat → Bool) × (Nat → Int32) × UInt32 × Row × (Nat → Bool) × Nat × (Nat → Ls Row)
abbrev cB (c : Cl) : Nat → Bool := c.1
abbrev cI (c : Cl) : Nat → Int32 := c.2.1
abbrev cF (c : Cl) : UInt32 := c.2.2.1
abbrev cW (c : Cl) : Row := c.2.2.2.1
abbrev cK (c : Cl) : Nat → Bool := c.2.2.2.2.1
abbrev cN (c : Cl) : Nat := c.2.2.2.2.2.1
abbrev cL (c : Cl) : Nat → Ls Row := c.2.2.2.2.2.2
def uB (c : Cl) (i : Nat) (b : Bool) : Cl := (fset c.1 i b, c.2)
def uI (c : Cl) (i : Nat) (x : Int32) : Cl := (c.1, fset c.2.1 i x, c.2.2)
def uF (c : Cl) (x : UInt32) : Cl := (c.1, c.2.1, x, c.2.2.2)
def uW (c : Cl) (r : Row) : Cl := (c.1, c.2.1, c.2.2.1, r, c.2.2.2.2)
def uK (c : Cl) (k : Nat → Bool) : Cl := (c.1, c.2.1, c.2.2.1, c.2.2.2.1, k, c.2.2.2.2.2)
def uN (c : Cl) (n : Nat) : Cl := (c.1, c.2.1, c.2.2.1, c.2.2.2.1, c.2.2.2.2.1, n, c.2.2.2.2.2.2)
def uL (c : Cl) (i : Nat) (l : Ls Row) : Cl := (c.1, c.2.1, c.2.2.1, c.2.2.2.1, c.2.2.2.2.1, c.2.2.2.2.2.1, fset c.2.2.2.2.2.2 i l)
theorem uB_B (c : Cl) (i : Nat) (x : Bool) : cB (uB c i x) = fset (cB c) i x := rfl
theorem uB_I (c : Cl) (i : Nat) (x : Bool) : cI (uB c i x) = cI c := rfl
theorem uB_F (c : Cl) (i : Nat) (x : Bool) : cF (uB c i x) = cF c := rfl
theorem uB_W (c : Cl) (i : Nat) (x : Bool) : cW (uB c i x) = cW c := rfl
theorem uB_K (c : Cl) (i : Nat) (x : Bool) : cK (uB c i x) = cK c := rfl
theorem uB_N (c : Cl) (i : Nat) (x : Bool) : cN (uB c i x) = cN c := rfl
theorem uB_L (c : Cl) (i : Nat) (x : Bool) : cL (uB c i x) = cL c := rfl
theorem uI_B (c : Cl) (i : Nat) (x : Int32) : cB (uI c i x) = cB c := rfl
theorem uI_I (c : Cl) (i : Nat) (x : Int32) : cI (uI c i x) = fset (cI c) i x := rfl
theorem uI_F (c : Cl) (i : Nat) (x : Int32) : cF (uI c i x) = cF c := rfl
theorem uI_W (c : Cl) (i : Nat) (x : Int32) : cW (uI c i x) = cW c := rfl
theorem uI_K (c : Cl) (i : Nat) (x : Int32) : cK (uI c i x) = cK c := rfl
theorem uI_N (c : Cl) (i : Nat) (x : Int32) : cN (uI c i x) = cN c := rfl
theorem uI_L (c : Cl) (i : Nat) (x : Int32) : cL (uI c i x) = cL c := rfl
theorem uF_B (c : Cl) (x : UInt32) : cB (uF c x) = cB c := rfl
theorem uF_I (c : Cl) (x : UInt32) : cI (uF c x) = cI c := rfl
theorem uF_F (c : Cl) (x : UInt32) : cF (uF c x) = x := rfl
theorem uF_W (c : Cl) (x : UInt32) : cW (uF c x) = cW c := rfl
theorem uF_K (c : Cl) (x : UInt32) : cK (uF c x) = cK c := rfl
theorem uF_N (c : Cl) (x : UInt32) : cN (uF c x) = cN c := rfl
theorem uF_L (c : Cl) (x : UInt32) : cL (uF c x) = cL c := rfl
theorem uW_B (c : Cl) (x : Row) : cB (uW c x) = cB c := rfl
theorem uW_I (c : Cl) (x : Row) : cI (uW c x) = cI c := rfl
theorem uW_F (c : Cl) (x : Row) : cF (uW c x) = cF c := rfl
theorem uW_W (c : Cl) (x : Row) : cW (uW c x) = x := rfl
theorem uW_K (c : Cl) (x : Row) : cK (uW c x) = cK c := rfl
theorem uW_N (c : Cl) (x : Row) : cN (uW c x) = cN c := rfl
theorem uW_L (c : Cl) (x : Row) : cL (uW c x) = cL c := rfl
theorem uK_B (c : Cl) (x : Nat → Bool) : cB (uK c x) = cB c := rfl
theorem uK_I (c : Cl) (x : Nat → Bool) : cI (uK c x) = cI c := rfl
theorem uK_F (c : Cl) (x : Nat → Bool) : cF (uK c x) = cF c := rfl
theorem uK_W (c : Cl) (x : Nat → Bool) : cW (uK c x) = cW c := rfl
theorem uK_K (c : Cl) (x : Nat → Bool) : cK (uK c x) = x := rfl
theorem uK_N (c : Cl) (x : Nat → Bool) : cN (uK c x) = cN c := rfl
theorem uK_L (c : Cl) (x : Nat → Bool) : cL (uK c x) = cL c := rfl
theorem uN_B (c : Cl) (x : Nat) : cB (uN c x) = cB c := rfl
theorem uN_I (c : Cl) (x : Nat) : cI (uN c x) = cI c := rfl
theorem uN_F (c : Cl) (x : Nat) : cF (uN c x) = cF c := rfl
theorem uN_W (c : Cl) (x : Nat) : cW (uN c x) = cW c := rfl
theorem uN_K (c : Cl) (x : Nat) : cK (uN c x) = cK c := rfl
theorem uN_N (c : Cl) (x : Nat) : cN (uN c x) = x := rfl
theorem uN_L (c : Cl) (x : Nat) : cL (uN c x) = cL c := rfl
theorem uL_B (c : Cl) (i : Nat) (x : Ls Row) : cB (uL c i x) = cB c := rfl
theorem uL_I (c : Cl) (i : Nat) (x : Ls Row) : cI (uL c i x) = cI c := rfl
theorem uL_F (c : Cl) (i : Nat) (x : Ls Row) : cF (uL c i x) = cF c := rfl
theorem uL_W (c : Cl) (i : Nat) (x : Ls Row) : cW (uL c i x) = cW c := rfl
theorem uL_K (c : Cl) (i : Nat) (x : Ls Row) : cK (uL c i x) = cK c := rfl
theorem uL_N (c : Cl) (i : Nat) (x : Ls Row) : cN (uL c i x) = cN c := rfl
theorem uL_L (c : Cl) (i : Nat) (x : Ls Row) : cL (uL c i x) = fset (cL c) i x := rfl
/-- how many of the identifiers 1 to n are kept -/
def kcnt (k : Nat → Bool) : Nat → Nat
  | 0 => 0
  | n + 1 => kcnt k n + (if k (n + 1) then 1 else 0)
theorem kcnt_le (k : Nat → Bool) : ∀ n, kcnt k n ≤ n
  | 0 => by simp [kcnt]
  | n + 1 => by have := kcnt_le k n; simp only [kcnt]; split <;> omega
theorem kcnt_out {k : Nat → Bool} {i : Nat} (b : Bool) : ∀ {n}, n < i → kcnt (fset k i b) n = kcnt k n
  | 0, _ => rfl
  | n + 1, h => by simp only [kcnt, kcnt_out (k := k) (i := i) (n := n) b (by omega), fset_ne (f := k) (j := n + 1) (i := i) b (by omega)]
theorem kcnt_put {k : Nat → Bool} {i : Nat} (hi : 1 ≤ i) (hk : k i = false) : ∀ {n}, i ≤ n → kcnt (fset k i true) n = kcnt k n + 1
  | 0, h => by omega
  | n + 1, h => by
    by_cases he : i = n + 1
    · subst he; simp only [kcnt, kcnt_out (k := k) (i := n + 1) true (Nat.lt_succ_self n), fset_eq, ↓reduceIte, hk, Bool.false_eq_true]
    · simp only [kcnt, kcnt_put hi hk (n := n) (by omega), fset_ne (f := k) (j := n + 1) (i := i) true (by omega)]; omega
theorem kcnt_cut {k : Nat → Bool} {i : Nat} (hi : 1 ≤ i) (hk : k i = true) : ∀ {n}, i ≤ n → kcnt (fset k i false) n + 1 = kcnt k n
  | 0, h => by omega
  | n + 1, h => by
    by_cases he : i = n + 1
    · subst he; simp only [kcnt, kcnt_out (k := k) (i := n + 1) false (Nat.lt_succ_self n), fset_eq, ↓reduceIte, hk, Bool.false_eq_true]
    · have := kcnt_cut hi hk (n := n) (by omega)
      simp only [kcnt, fset_ne (f := k) (j := n + 1) (i := i) false (by omega)]; omega
theorem kcnt_none : ∀ n, kcnt (fun _ => false) n = 0
  | 0 => rfl
  | n + 1 => by simp only [kcnt, kcnt_none n, Bool.false_eq_true, ↓reduceIte]
/-! .. in the memory of the class -/
def SubsR (M : Mem) (a : Nat) (l : Ls Row) : Prop := l.1 ≤ 6 ∧ ∃ p, Ar M a 22 6 8 (a + 1) (a + 7) p ∧ ∀ j, j < l.1 → SuR M (p j) (l.2 j)
def SeO (M : Mem) (s : Nat) (c : Cl) : Prop := ((mK M s).1 = 5 ∧ mR M s 4 = some (s + 1) ∧ mR M s 6 = some (s + 2) ∧ mR M s 8 = some (s + 9) ∧ mR M s 9 = some (s + 16)) ∧ mI M s 0 = zI (cB c 3) ∧ mI M s 1 = zI (cB c 4) ∧ mI M s 2 = cI c 1 ∧ mI M s 3 = nW (cN c) ∧ mI M s 5 = nW (kcnt (cK c) 50) ∧ mI M s 7 = nW (cL c 3).1 ∧ cN c ≤ 50
def KeR (M : Mem) (a : Nat) (k : Nat → Bool) : Prop := mK M a = (17, 51) ∧ ∀ i, i < 51 → mI M a i = zI (k i)
def SeR (M : Mem) (s : Nat) (c : Cl) : Prop := SeO M s c ∧ KeR M (s + 1) (cK c) ∧ SubsR M (s + 2) (cL c 3) ∧ MLR M (s + 9) 5 (cL c 1) ∧ MLR M (s + 16) 8 (cL c 2)
def ClO (M : Mem) (C : Nat) (c : Cl) : Prop := ((mK M C).1 = 0 ∧ mR M C 3 = some (C + 1) ∧ mR M C 4 = some (C + 2) ∧ mR M C 5 = some (C + 34)) ∧ mI M C 0 = zI (cB c 0) ∧ mI M C 1 = zI (cB c 1) ∧ mI M C 2 = zI (cB c 2) ∧ mF M C 6 = cF c ∧ mI M C 7 = cI c 0
def ClR (M : Mem) (C : Nat) (c : Cl) : Prop := ClO M C c ∧ MsR M (C + 1) (cW c) ∧ QuR M (C + 2) (cL c 0) ∧ SeR M (C + 34) c
/-- the frame of a state: scalars 0 to 9 totals, 10 to 13 options, 14 clock -/
def BaR (M : Mem) (S : Nat) (sc : Nat → Int32) : Prop := ((mK M S).1 = 7 ∧ (∃ x, mR M S 0 = some x ∧ TextR M x []) ∧ mR M S 1 = some (S + 1) ∧ mR M S 2 = some (S + 362) ∧ mR M S 4 = some (S + 435) ∧ mR M S 6 = some (S + 444) ∧ mR M S 7 = some (S + 445) ∧ mR M S 8 = some (S + 446) ∧ mR M S 10 = some (S + 449)) ∧ mI M S 9 = sc 14 ∧ (mK M (S + 1) = (18, 6) ∧ ∀ c, c < 6 → mR M (S + 1) c = some (S + 2 + 60 * c)) ∧ (mK M (S + 444) = (13, 4) ∧ ∀ i, i < 4 → mI M (S + 444) i = sc (10 + i)) ∧ (mK M (S + 445) = (13, 10) ∧ ∀ i, i < 10 → mI M (S + 445) i = sc i) ∧ (mK M (S + 449)).1 = 1
theorem SubsR.gr {P : Nat → Prop} {M M' : Mem} (g : Gr P M M') {a : Nat} {l : Ls Row} (hp : ∀ b, a ≤ b → b < a + 7 → ¬ P b) (h : SubsR M a l) : SubsR M' a l := by
  obtain ⟨h1, p, h2, h3⟩ := h
  refine ⟨h1, p, h2.gr g (by decide) (by decide) (hp a (by omega) (by omega)), fun j hj => ?_⟩
  have := h2.2.1 j (by omega)
  exact (h3 j hj).gr g (hp _ (by omega) (by omega))
theorem SeO.gr {P : Nat → Prop} {M M' : Mem} (g : Gr P M M') {s : Nat} {c : Cl} (hp : ¬ P s) (h : SeO M s c) : SeO M' s c := by
  obtain ⟨⟨h1, h2⟩, h3⟩ := h
  have k1 : (mK M s).1 ≠ 99 := by rw [h1]; decide
  obtain ⟨a1, a2, a3, a4⟩ := g.2 s k1 (Or.inr hp)
  unfold SeO
  rw [g.1 s k1, a1, a4]; exact ⟨⟨h1, h2⟩, h3⟩
theorem KeR.gr {P : Nat → Prop} {M M' : Mem} (g : Gr P M M') {a : Nat} {k : Nat → Bool} (hp : ¬ P a) (h : KeR M a k) : KeR M' a k := by
  have k1 : (mK M a).1 ≠ 99 := by rw [h.1]; decide
  obtain ⟨a1, a2, a3, a4⟩ := g.2 a k1 (Or.inr hp)
  unfold KeR
  rw [g.1 a k1, a1]; exact h
theorem SeR.gr {P : Nat → Prop} {M M' : Mem} (g : Gr P M M') {s : Nat} {c : Cl} (hp : ∀ b, s ≤ b → b < s + 26 → ¬ P b) (h : SeR M s c) : SeR M' s c := by
  obtain ⟨h1, h2, h3, h4, h5⟩ := h
  exact ⟨h1.gr g (hp _ (by omega) (by omega)), h2.gr g (hp _ (by omega) (by omega)), h3.gr g (fun b _ _ => hp b (by omega) (by omega)), h4.gr g (fun b _ _ => hp b (by omega) (by omega)), h5.gr g (fun b _ _ => hp b (by omega) (by omega))⟩
theorem ClO.gr {P : Nat → Prop} {M M' : Mem} (g : Gr P M M') {C : Nat} {c : Cl} (hp : ¬ P C) (h : ClO M C c) : ClO M' C c := by
  obtain ⟨⟨h1, h2⟩, h3⟩ := h
  have k1 : (mK M C).1 ≠ 99 := by rw [h1]; decide
  obtain ⟨a1, a2, a3, a4⟩ := g.2 C k1 (Or.inr hp)
  unfold ClO
  rw [g.1 C k1, a1, a3, a4]; exact ⟨⟨h1, h2⟩, h3⟩
theorem ClR.gr {P : Nat → Prop} {M M' : Mem} (g : Gr P M M') {C : Nat} {c : Cl} (hp : ∀ b, C ≤ b → b < C + 60 → ¬ P b) (h : ClR M C c) : ClR M' C c := by
  obtain ⟨h1, h2, h3, h4⟩ := h
  exact ⟨h1.gr g (hp _ (by omega) (by omega)), h2.gr g (hp _ (by omega) (by omega)), h3.gr g (fun b _ _ => hp b (by omega) (by omega)), h4.gr g (fun b _ _ => hp b (by omega) (by omega))⟩
theorem BaR.gr {P : Nat → Prop} {M M' : Mem} (g : Gr P M M') {S : Nat} {sc : Nat → Int32} (hp : ¬ P S ∧ ¬ P (S + 1) ∧ ¬ P (S + 444) ∧ ¬ P (S + 445)) (h : BaR M S sc) : BaR M' S sc := by
  obtain ⟨⟨h1, ⟨x, h2, h2'⟩, h3⟩, h4, h5, h6, h7, h8⟩ := h
  have k1 : (mK M S).1 ≠ 99 := by rw [h1]; decide
  have k2 : (mK M (S + 1)).1 ≠ 99 := by rw [h5.1]; decide
  have k3 : (mK M (S + 444)).1 ≠ 99 := by rw [h6.1]; decide
  have k4 : (mK M (S + 445)).1 ≠ 99 := by rw [h7.1]; decide
  have k5 : (mK M (S + 449)).1 ≠ 99 := by rw [h8]; decide
  obtain ⟨a1, a2, a3, a4⟩ := g.2 S k1 (Or.inr hp.1)
  obtain ⟨b1, b2, b3, b4⟩ := g.2 _ k2 (Or.inr hp.2.1)
  obtain ⟨c1, c2, c3, c4⟩ := g.2 _ k3 (Or.inr hp.2.2.1)
  obtain ⟨d1, d2, d3, d4⟩ := g.2 _ k4 (Or.inr hp.2.2.2)
  unfold BaR
  rw [g.1 S k1, g.1 _ k2, g.1 _ k3, g.1 _ k4, g.1 _ k5, a1, a4, b4, c1, d1]
  exact ⟨⟨h1, ⟨x, h2, h2'.gr g⟩, h3⟩, h4, h5, h6, h7, h8⟩
