/-! THE WHOLE STATE on both sides: the buffer's signs, the place of an error, the present packet, the state, the snapshot -/
abbrev Wh : Type := List Nat × Int32 × (Bool × Row) × Sg × (Bool × Sg)
abbrev oB (A : Wh) : List Nat := A.1
abbrev oE (A : Wh) : Int32 := A.2.1
abbrev oP (A : Wh) : Bool × Row := A.2.2.1
abbrev oS (A : Wh) : Sg := A.2.2.2.1
abbrev oT (A : Wh) : Bool × Sg := A.2.2.2.2
def pS (A : Wh) (σ : Sg) : Wh := (A.1, A.2.1, A.2.2.1, σ, A.2.2.2.2)
def pP (A : Wh) (p : Bool × Row) : Wh := (A.1, A.2.1, p, A.2.2.2)
def BrK (M : Mem) : Prop := (mK M 0).1 = 11 ∧ mR M 0 0 = some 5 ∧ mR M 0 4 = some 6 ∧ mR M 0 5 = some 7 ∧ mR M 0 6 = some 8 ∧ mR M 0 8 = some 458
def BuR (M : Mem) (l : List Nat) : Prop := mK M 5 = (16, 30) ∧ mI M 0 1 = nW l.length ∧ l.length ≤ 30 ∧ (∀ j, j < l.length → mI M 5 j = nW (l.getD j 0)) ∧ ∀ c ∈ l, 33 ≤ c ∧ c ≤ 126
def BrR (M : Mem) (A : Wh) : Prop := BrK M ∧ BuR M (oB A) ∧ mI M 0 2 = oE A ∧ (mI M 0 3 = zI (oP A).1 ∧ PkR M 6 (oP A).2) ∧ (mK M 7).1 = 1 ∧ (mI M 0 7 = zI (oT A).1 ∧ StR M 458 (oT A).2) ∧ StR M 8 (oS A)
theorem BrR.gr {P : Nat → Prop} {M M' : Mem} {A : Wh} (G : Gr P M M') (hP : ∀ a, a < 908 → a ≠ 7 → ¬ P a) (h : BrR M A) : BrR M' A := by
  obtain ⟨⟨k1, k2, k3, k4, k5, k6⟩, ⟨b1, b2, b3, b4, b5⟩, e1, ⟨p1, p2⟩, m7, ⟨t1, t2⟩, s1⟩ := h
  have n0 : (mK M 0).1 ≠ 99 := by rw [k1]; decide
  have n5 : (mK M 5).1 ≠ 99 := by rw [b1]; decide
  have n7 : (mK M 7).1 ≠ 99 := by rw [m7]; decide
  obtain ⟨x1, x2, x3, x4⟩ := G.2 0 n0 (Or.inr (hP 0 (by omega) (by omega)))
  obtain ⟨y1, y2, y3, y4⟩ := G.2 5 n5 (Or.inr (hP 5 (by omega) (by omega)))
  refine ⟨⟨by rw [G.1 0 n0]; exact k1, by rw [x4]; exact k2, by rw [x4]; exact k3, by rw [x4]; exact k4, by rw [x4]; exact k5, by rw [x4]; exact k6⟩, ⟨by rw [G.1 5 n5]; exact b1, by rw [x1]; exact b2, b3, fun j hj => by rw [y1]; exact b4 j hj, b5⟩, by rw [x1]; exact e1, ⟨by rw [x1]; exact p1, p2.gr G (hP 6 (by omega) (by omega))⟩, by rw [G.1 7 n7]; exact m7, ⟨by rw [x1]; exact t1, t2.gr G (fun a ha => hP a (by unfold SZ at ha; omega) (by unfold SZ at ha; omega))⟩, s1.gr G (fun a ha => hP a (by unfold SZ at ha; omega) (by unfold SZ at ha; omega))⟩
theorem BrR_S {P : Nat → Prop} {M M' : Mem} {A : Wh} {σ : Sg} (h : BrR M A) (G : Gr P M M') (hP : ∀ a, P a → a = 7 ∨ SZ 8 a) (hS : StR M' 8 σ) : BrR M' (pS A σ) := by
  obtain ⟨⟨k1, k2, k3, k4, k5, k6⟩, ⟨b1, b2, b3, b4, b5⟩, e1, ⟨p1, p2⟩, m7, ⟨t1, t2⟩, s1⟩ := h
  have np : ∀ a, a ≠ 7 → ¬ SZ 8 a → ¬ P a := fun a h7 h8 hp => (hP a hp).elim h7 h8
  have n0 : (mK M 0).1 ≠ 99 := by rw [k1]; decide
  have n5 : (mK M 5).1 ≠ 99 := by rw [b1]; decide
  have n7 : (mK M 7).1 ≠ 99 := by rw [m7]; decide
  obtain ⟨x1, x2, x3, x4⟩ := G.2 0 n0 (Or.inr (np 0 (by omega) (by unfold SZ; omega)))
  obtain ⟨y1, y2, y3, y4⟩ := G.2 5 n5 (Or.inr (np 5 (by omega) (by unfold SZ; omega)))
  exact ⟨⟨by rw [G.1 0 n0]; exact k1, by rw [x4]; exact k2, by rw [x4]; exact k3, by rw [x4]; exact k4, by rw [x4]; exact k5, by rw [x4]; exact k6⟩, ⟨by rw [G.1 5 n5]; exact b1, by rw [x1]; exact b2, b3, fun j hj => by rw [y1]; exact b4 j hj, b5⟩, by rw [x1]; exact e1, ⟨by rw [x1]; exact p1, p2.gr G (np 6 (by omega) (by unfold SZ; omega))⟩, by rw [G.1 7 n7]; exact m7, ⟨by rw [x1]; exact t1, t2.gr G (fun a ha => np a (by unfold SZ at ha; omega) (by unfold SZ at ha ⊢; omega))⟩, hS⟩
/-- what a call makes -/
def Fz (M : Mem) : Prop := 908 ≤ mN M ∧ ∀ a, mN M ≤ a → (mK M a).1 = 99
def Gk (k : Nat) (M M' : Mem) : Prop := Gr (fun a => a < 908) M M' ∧ (mN M ≤ mN M' ∧ mN M' ≤ mN M + k) ∧ (mC M ≤ mC M' ∧ mC M' ≤ mC M + k) ∧ (mS M ≤ mS M' ∧ mS M' ≤ mS M + 13 * k) ∧ (Fz M → Fz M')
theorem Gk_fr {P : Nat → Prop} {M M' : Mem} (F : Fr P M M') (hP : ∀ a, P a → a < 908) (k : Nat) : Gk k M M' := by
  obtain ⟨h1, ⟨h2, h3, h4⟩, h5⟩ := F
  refine ⟨(Fr.mono ⟨h1, ⟨h2, h3, h4⟩, h5⟩ hP).gr, by rw [h2]; omega, by rw [h3]; omega, by rw [h4]; omega, fun h => ?_⟩
  unfold Fz at *; rw [h1, h2]; exact h
theorem Gk.refl (k : Nat) (M : Mem) : Gk k M M := Gk_fr (Fr.refl (fun _ => False) M) (fun _ h => h.elim) k
theorem Gk_x (M : Mem) : Gk 1 M (xM M) := by
  refine ⟨⟨fun _ _ => rfl, fun _ _ _ => ⟨rfl, rfl, rfl, rfl⟩⟩, ⟨Nat.le_refl _, Nat.le_add_right _ _⟩, ⟨Nat.le_add_right _ _, Nat.le_refl _⟩, ⟨Nat.le_add_right _ _, ?_⟩, fun h => h⟩
  show mS M + 6 ≤ mS M + 13 * 1; omega
theorem Gk.trans {j k : Nat} {M M' M'' : Mem} (h : Gk j M M') (g : Gk k M' M'') : Gk (j + k) M M'' := by
  obtain ⟨h1, h2, h3, h4, h5⟩ := h
  obtain ⟨g1, g2, g3, g4, g5⟩ := g
  exact ⟨h1.trans g1, by omega, by omega, by omega, fun h => g5 (h5 h)⟩
theorem Gk.mono {j k : Nat} {M M' : Mem} (h : Gk j M M') (hk : j ≤ k) : Gk k M M' := by
  obtain ⟨h1, h2, h3, h4, h5⟩ := h
  exact ⟨h1, by omega, by omega, by omega, h5⟩
theorem BrR_x {M : Mem} {A : Wh} (h : BrR M A) : BrR (xM M) A :=
  BrR.gr (P := fun _ => False) ⟨fun _ _ => rfl, fun _ _ _ => ⟨rfl, rfl, rfl, rfl⟩⟩ (fun _ _ _ h => h) h
/-! the reference's side -/
/-! what always holds -/
def LdOk (x : UInt32) : Prop := x &&& 0x7fffffff ≤ 0x7f800000
/-- no filter is empty -/
def NeS (σ : Sg) : Prop := ∀ c, c < 6 → ∀ j, j < (cL (gCl σ c) 3).1 → ((cL (gCl σ c) 3).2 j).1 ≠ []
def SgI (k : Nat) (σ : Sg) : Prop := SI σ ∧ Pe σ ∧ (∀ c, c < 6 → LdOk (cF (gCl σ c))) ∧ NeS σ ∧ (gTa σ).1 ≤ k
def WI (k : Nat) (A : Wh) : Prop := SgI k (oS A) ∧ SgI k (oT A).2 ∧ topical (oP A).2.1
theorem SgI.mono {j k : Nat} {σ : Sg} (h : SgI j σ) (hk : j ≤ k) : SgI k σ := ⟨h.1, h.2.1, h.2.2.1, h.2.2.2.1, Nat.le_trans h.2.2.2.2 hk⟩
theorem WI.mono {j k : Nat} {A : Wh} (h : WI j A) (hk : j ≤ k) : WI k A := ⟨h.1.mono hk, h.2.1.mono hk, h.2.2⟩
theorem WI_S {k : Nat} {A : Wh} {σ : Sg} (h : WI k A) (hS : SgI (k + 1) σ) : WI (k + 1) (pS A σ) := ⟨hS, h.2.1.mono (Nat.le_succ _), h.2.2⟩
/-! one call on both sides -/
def cdo (cd : Nat → Nat) (o : Int32 ⊕ Nat) : Nat := match o with
  | .inl _ => 0
  | .inr e => cd e
/-- codes of exceptions: the first is 1, the second 2, the third 3, any other 9 -/
def cdA (a e : Nat) : Nat := if e = a then 1 else 9
def cdB (a b e : Nat) : Nat := if e = a then 1 else if e = b then 2 else 9
def cdC (a b c e : Nat) : Nat := if e = a then 1 else if e = b then 2 else if e = c then 3 else 9
