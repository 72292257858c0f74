/-! FRAMES: what a piece of code leaves as it was -/
theorem sI_mI (M : Mem) (f : Nat → Nat → Int32) : mI (sI M f) = f := rfl
theorem sI_mL (M : Mem) (f : Nat → Nat → Int32) : mL (sI M f) = mL M := rfl
theorem sI_mF (M : Mem) (f : Nat → Nat → Int32) : mF (sI M f) = mF M := rfl
theorem sI_mR (M : Mem) (f : Nat → Nat → Int32) : mR (sI M f) = mR M := rfl
theorem sI_mK (M : Mem) (f : Nat → Nat → Int32) : mK (sI M f) = mK M := rfl
theorem sI_mN (M : Mem) (f : Nat → Nat → Int32) : mN (sI M f) = mN M := rfl
theorem sI_mC (M : Mem) (f : Nat → Nat → Int32) : mC (sI M f) = mC M := rfl
theorem sI_mS (M : Mem) (f : Nat → Nat → Int32) : mS (sI M f) = mS M := rfl
theorem sL_mI (M : Mem) (f : Nat → Nat → Int64) : mI (sL M f) = mI M := rfl
theorem sL_mL (M : Mem) (f : Nat → Nat → Int64) : mL (sL M f) = f := rfl
theorem sL_mF (M : Mem) (f : Nat → Nat → Int64) : mF (sL M f) = mF M := rfl
theorem sL_mR (M : Mem) (f : Nat → Nat → Int64) : mR (sL M f) = mR M := rfl
theorem sL_mK (M : Mem) (f : Nat → Nat → Int64) : mK (sL M f) = mK M := rfl
theorem sL_mN (M : Mem) (f : Nat → Nat → Int64) : mN (sL M f) = mN M := rfl
theorem sL_mC (M : Mem) (f : Nat → Nat → Int64) : mC (sL M f) = mC M := rfl
theorem sL_mS (M : Mem) (f : Nat → Nat → Int64) : mS (sL M f) = mS M := rfl
theorem sF_mI (M : Mem) (f : Nat → Nat → UInt32) : mI (sF M f) = mI M := rfl
theorem sF_mL (M : Mem) (f : Nat → Nat → UInt32) : mL (sF M f) = mL M := rfl
theorem sF_mF (M : Mem) (f : Nat → Nat → UInt32) : mF (sF M f) = f := rfl
theorem sF_mR (M : Mem) (f : Nat → Nat → UInt32) : mR (sF M f) = mR M := rfl
theorem sF_mK (M : Mem) (f : Nat → Nat → UInt32) : mK (sF M f) = mK M := rfl
theorem sF_mN (M : Mem) (f : Nat → Nat → UInt32) : mN (sF M f) = mN M := rfl
theorem sF_mC (M : Mem) (f : Nat → Nat → UInt32) : mC (sF M f) = mC M := rfl
theorem sF_mS (M : Mem) (f : Nat → Nat → UInt32) : mS (sF M f) = mS M := rfl
theorem sR_mI (M : Mem) (f : Nat → Nat → Option Nat) : mI (sR M f) = mI M := rfl
theorem sR_mL (M : Mem) (f : Nat → Nat → Option Nat) : mL (sR M f) = mL M := rfl
theorem sR_mF (M : Mem) (f : Nat → Nat → Option Nat) : mF (sR M f) = mF M := rfl
theorem sR_mR (M : Mem) (f : Nat → Nat → Option Nat) : mR (sR M f) = f := rfl
theorem sR_mK (M : Mem) (f : Nat → Nat → Option Nat) : mK (sR M f) = mK M := rfl
theorem sR_mN (M : Mem) (f : Nat → Nat → Option Nat) : mN (sR M f) = mN M := rfl
theorem sR_mC (M : Mem) (f : Nat → Nat → Option Nat) : mC (sR M f) = mC M := rfl
theorem sR_mS (M : Mem) (f : Nat → Nat → Option Nat) : mS (sR M f) = mS M := rfl
theorem up2_fn {α : Type} (f : Nat → Nat → α) {a b : Nat} (i : Nat) (x : α) (h : b ≠ a) : up2 f a i x b = f b := by
  funext j; simp [up2, h]
theorem cl2_fn {α : Type} (f : Nat → Nat → α) {a b : Nat} (x : α) (h : b ≠ a) : cl2 f a x b = f b := by
  funext j; simp [cl2, h]
/-- the zone of the texts, in which nothing is ever written again -/
def tz (a : Nat) : Prop := (1 ≤ a ∧ a < 5) ∨ 908 ≤ a
/-- all cells that are taken keep their kinds; outside P they keep what they hold -/
def Gr (P : Nat → Prop) (M M' : Mem) : Prop := (∀ a, (mK M a).1 ≠ 99 → mK M' a = mK M a) ∧ ∀ a, (mK M a).1 ≠ 99 → (tz a ∨ ¬ P a) → mI M' a = mI M a ∧ mL M' a = mL M a ∧ mF M' a = mF M a ∧ mR M' a = mR M a
/-- .. and nothing was made -/
def Fr (P : Nat → Prop) (M M' : Mem) : Prop := mK M' = mK M ∧ (mN M' = mN M ∧ mC M' = mC M ∧ mS M' = mS M) ∧ ∀ a, (tz a ∨ ¬ P a) → mI M' a = mI M a ∧ mL M' a = mL M a ∧ mF M' a = mF M a ∧ mR M' a = mR M a
theorem Fr.gr {P : Nat → Prop} {M M' : Mem} (h : Fr P M M') : Gr P M M' := ⟨fun a _ => by rw [h.1], fun a _ => h.2.2 a⟩
theorem Fr.refl (P : Nat → Prop) (M : Mem) : Fr P M M := ⟨rfl, ⟨rfl, rfl, rfl⟩, fun _ _ => ⟨rfl, rfl, rfl, rfl⟩⟩
theorem Gr.refl (P : Nat → Prop) (M : Mem) : Gr P M M := (Fr.refl P M).gr
theorem Fr.trans {P : Nat → Prop} {M M' M'' : Mem} (h : Fr P M M') (g : Fr P M' M'') : Fr P M M'' := by
  obtain ⟨h1, ⟨h2, h3, h4⟩, h5⟩ := h
  obtain ⟨g1, ⟨g2, g3, g4⟩, g5⟩ := g
  refine ⟨g1.trans h1, ⟨g2.trans h2, g3.trans h3, g4.trans h4⟩, fun a ha => ?_⟩
  obtain ⟨a1, a2, a3, a4⟩ := h5 a ha
  obtain ⟨b1, b2, b3, b4⟩ := g5 a ha
  exact ⟨b1.trans a1, b2.trans a2, b3.trans a3, b4.trans a4⟩
theorem Fr.mono {P Q : Nat → Prop} {M M' : Mem} (h : Fr P M M') (hpq : ∀ a, P a → Q a) : Fr Q M M' :=
  ⟨h.1, h.2.1, fun a ha => h.2.2 a (ha.imp id (mt (hpq a)))⟩
theorem Gr.mono {P Q : Nat → Prop} {M M' : Mem} (h : Gr P M M') (hpq : ∀ a, P a → Q a) : Gr Q M M' :=
  ⟨h.1, fun a hk ha => h.2 a hk (ha.imp id (mt (hpq a)))⟩
theorem Gr.trans {P : Nat → Prop} {M M' M'' : Mem} (h : Gr P M M') (g : Gr P M' M'') : Gr P M M'' := by
  refine ⟨fun a hk => ?_, fun a hk ha => ?_⟩
  · have h1 := h.1 a hk
    rw [g.1 a (by rw [h1]; exact hk), h1]
  · have h1 := h.1 a hk
    obtain ⟨a1, a2, a3, a4⟩ := h.2 a hk ha
    obtain ⟨b1, b2, b3, b4⟩ := g.2 a (by rw [h1]; exact hk) ha
    exact ⟨b1.trans a1, b2.trans a2, b3.trans a3, b4.trans a4⟩
theorem Fr.tr {P Q R : Nat → Prop} {M M' M'' : Mem} (h : Fr P M M') (g : Fr Q M' M'') (hp : ∀ a, P a → R a) (hq : ∀ a, Q a → R a) : Fr R M M'' := (h.mono hp).trans (g.mono hq)
theorem fr_I {P : Nat → Prop} (M : Mem) {a : Nat} (i : Nat) (x : Int32) (h : P a) (ht : ¬ tz a) : Fr P M (sI M (up2 (mI M) a i x)) := by
  refine ⟨rfl, ⟨rfl, rfl, rfl⟩, fun b hb => ⟨up2_fn _ _ _ ?_, rfl, rfl, rfl⟩⟩
  rintro rfl
  exact hb.elim ht (fun hn => hn h)
theorem fr_L {P : Nat → Prop} (M : Mem) {a : Nat} (i : Nat) (x : Int64) (h : P a) (ht : ¬ tz a) : Fr P M (sL M (up2 (mL M) a i x)) := by
  refine ⟨rfl, ⟨rfl, rfl, rfl⟩, fun b hb => ⟨rfl, up2_fn _ _ _ ?_, rfl, rfl⟩⟩
  rintro rfl
  exact hb.elim ht (fun hn => hn h)
theorem fr_F {P : Nat → Prop} (M : Mem) {a : Nat} (i : Nat) (x : UInt32) (h : P a) (ht : ¬ tz a) : Fr P M (sF M (up2 (mF M) a i x)) := by
  refine ⟨rfl, ⟨rfl, rfl, rfl⟩, fun b hb => ⟨rfl, rfl, up2_fn _ _ _ ?_, rfl⟩⟩
  rintro rfl
  exact hb.elim ht (fun hn => hn h)
theorem fr_R {P : Nat → Prop} (M : Mem) {a : Nat} (i : Nat) (x : Option Nat) (h : P a) (ht : ¬ tz a) : Fr P M (sR M (up2 (mR M) a i x)) := by
  refine ⟨rfl, ⟨rfl, rfl, rfl⟩, fun b hb => ⟨rfl, rfl, rfl, up2_fn _ _ _ ?_⟩⟩
  rintro rfl
  exact hb.elim ht (fun hn => hn h)
theorem fq_I (M : Mem) {a : Nat} (i : Nat) (x : Int32) (ht : ¬ tz a) : Fr (fun c => c = a) M (sI M (up2 (mI M) a i x)) := fr_I M i x rfl ht
theorem fq_L (M : Mem) {a : Nat} (i : Nat) (x : Int64) (ht : ¬ tz a) : Fr (fun c => c = a) M (sL M (up2 (mL M) a i x)) := fr_L M i x rfl ht
theorem fq_F (M : Mem) {a : Nat} (i : Nat) (x : UInt32) (ht : ¬ tz a) : Fr (fun c => c = a) M (sF M (up2 (mF M) a i x)) := fr_F M i x rfl ht
theorem fq_R (M : Mem) {a : Nat} (i : Nat) (x : Option Nat) (ht : ¬ tz a) : Fr (fun c => c = a) M (sR M (up2 (mR M) a i x)) := fr_R M i x rfl ht
theorem okZ_0 (M : Mem) : okZ (nW 0) M = some (nW 0, M) := rfl
theorem okZ_1 (M : Mem) : okZ (nW 1) M = some (nW 1, M) := rfl
def zI (b : Bool) : Int32 := if b then nW 1 else nW 0
theorem okZ_z (b : Bool) (M : Mem) : okZ (zI b) M = some (zI b, M) := by cases b <;> rfl
theorem pZ_0 {M : Mem} {k f a : Nat} (h : (mK M a).1 = k) : pZ k f a (nW 0) M = some (sI M (up2 (mI M) a f (nW 0))) := by
  have : (nW 0 = 0 ∨ nW 0 = 1) := Or.inl rfl
  simp only [pZ, h, this, and_self, ↓reduceIte]
theorem pZ_1 {M : Mem} {k f a : Nat} (h : (mK M a).1 = k) : pZ k f a (nW 1) M = some (sI M (up2 (mI M) a f (nW 1))) := by
  have : (nW 1 = 0 ∨ nW 1 = 1) := Or.inr rfl
  simp only [pZ, h, this, and_self, ↓reduceIte]
theorem pZ_z {M : Mem} {k f a : Nat} (b : Bool) (h : (mK M a).1 = k) : pZ k f a (zI b) M = some (sI M (up2 (mI M) a f (zI b))) := by
  cases b
  · exact pZ_0 h
  · exact pZ_1 h
theorem zI_t : zI true = nW 1 := rfl
theorem zI_f : zI false = nW 0 := rfl
theorem zI_eq0 (b : Bool) : (zI b = nW 0) = (b = false) := by cases b <;> simp [zI, nW]
theorem zI_eq1 (b : Bool) : (zI b = nW 1) = (b = true) := by cases b <;> simp [zI, nW]
theorem nar13 (x : Int32) : nar 13 x = x := rfl
theorem nar17 (b : Bool) : nar 17 (zI b) = zI b := by cases b <;> rfl
/-! LISTS: a count and a row for each place; what lies behind the count means nothing -/
abbrev Ls (α : Type) : Type := Nat × (Nat → α)
def lpush {α : Type} (l : Ls α) (x : α) : Ls α := (l.1 + 1, fun j => if j = l.1 then x else l.2 j)
def ldel {α : Type} (l : Ls α) (i : Nat) : Ls α := (l.1 - 1, fun j => if j < i then l.2 j else l.2 (j + 1))
def lset {α : Type} (l : Ls α) (i : Nat) (x : α) : Ls α := (l.1, fun j => if j = i then x else l.2 j)
def lins {α : Type} (l : Ls α) (i : Nat) (x : α) : Ls α := (l.1 + 1, fun j => if j < i then l.2 j else if j = i then x else l.2 (j - 1))
def fset {α : Type} (f : Nat → α) (i : Nat) (x : α) : Nat → α := fun j => if j = i then x else f j
theorem fset_eq {α : Type} (f : Nat → α) (i : Nat) (x : α) : fset f i x i = x := by simp [fset]
theorem fset_ne {α : Type} (f : Nat → α) {i j : Nat} (x : α) (h : j ≠ i) : fset f i x j = f j := by simp [fset, h]
/-! TEXTS: the levels, each the codes of its signs -/
abbrev Txt : Type := List (List Nat)
abbrev Row : Type := Txt × (Nat → Int32)
def nL (n : Nat) : Int64 := Int64.ofNat n
def plain (c : Nat) : Bool := (97 ≤ c && c ≤ 122) || (48 ≤ c && c ≤ 57)
def okLev (l : List Nat) : Prop := (l ≠ [] ∧ l.length ≤ 6 ∧ ∀ c ∈ l, plain c = true) ∨ l = [43] ∨ l = [35]
def okTx (t : Txt) : Prop := t.length ≤ 4 ∧ (∀ l ∈ t, okLev l) ∧ ∀ i, i < t.length → t.getD i [] = [35] → i + 1 = t.length
def topical (t : Txt) : Prop := ∀ l ∈ t, l ≠ [43] ∧ l ≠ [35]
def txS : Txt → List Nat
  | [] => []
  | [l] => l
  | l :: r => l ++ 47 :: txS r
def c7 (l : List Nat) : Nat := l.foldl (fun a c => a * 128 + c) 0
def isOpen (t : Txt) : Bool := t.getLast? == some [35]
def tFix (t : Txt) : Nat := if isOpen t then t.length - 1 else t.length
/-- the text object at x says t -/
def TextR (M : Mem) (x : Nat) (t : Txt) : Prop := okTx t ∧ ((mK M x).1 = 10 ∧ tz x) ∧ mI M x 2 = nW t.length ∧ mI M x 3 = zI (isOpen t) ∧ mI M x 4 = nW (tFix t) ∧ ∃ sa la, (mR M x 0 = some sa ∧ mR M x 1 = some la) ∧ (tz sa ∧ tz la) ∧ mK M sa = (16, (txS t).length) ∧ mK M la = (14, 4) ∧ (∀ j, j < (txS t).length → mI M sa j = nW ((txS t).getD j 0)) ∧ ∀ j, j < 4 → mL M la j = nL (c7 (t.getD j []))
theorem TextR.gr {P : Nat → Prop} {M M' : Mem} (g : Gr P M M') {x : Nat} {t : Txt} (h : TextR M x t) : TextR M' x t := by
  obtain ⟨h1, ⟨h2, h3⟩, h4, h5, h6, sa, la, ⟨h7, h8⟩, ⟨h9, h10⟩, h11, h12, h13, h14⟩ := h
  have k1 : (mK M x).1 ≠ 99 := by rw [h2]; decide
  have k2 : (mK M sa).1 ≠ 99 := by rw [h11]; exact (by decide : (16 : Nat) ≠ 99)
  have k3 : (mK M la).1 ≠ 99 := by rw [h12]; decide
  obtain ⟨a1, a2, a3, a4⟩ := g.2 x k1 (Or.inl h3)
  obtain ⟨b1, b2, b3, b4⟩ := g.2 sa k2 (Or.inl h9)
  obtain ⟨c1, c2, c3, c4⟩ := g.2 la k3 (Or.inl h10)
  refine ⟨h1, ⟨by rw [g.1 x k1]; exact h2, h3⟩, by rw [a1]; exact h4, by rw [a1]; exact h5, by rw [a1]; exact h6, sa, la, ⟨by rw [a4]; exact h7, by rw [a4]; exact h8⟩, ⟨h9, h10⟩, by rw [g.1 sa k2]; exact h11, by rw [g.1 la k3]; exact h12, fun j hj => by rw [b1]; exact h13 j hj, fun j hj => by rw [c2]; exact h14 j hj⟩
/-! ROWS: messages, packets, subscriptions -/
def MsR (M : Mem) (m : Nat) (r : Row) : Prop := (mK M m).1 = 1 ∧ (mI M m 1 = r.2 1 ∧ mI M m 2 = r.2 2 ∧ mI M m 3 = r.2 3 ∧ mI M m 4 = r.2 4 ∧ mI M m 5 = r.2 5 ∧ mI M m 6 = r.2 6) ∧ ∃ x, mR M m 0 = some x ∧ TextR M x r.1
def PkR (M : Mem) (m : Nat) (r : Row) : Prop := (mK M m).1 = 3 ∧ (mI M m 0 = r.2 0 ∧ mI M m 1 = r.2 1 ∧ mI M m 2 = r.2 2 ∧ mI M m 3 = r.2 3 ∧ mI M m 4 = r.2 4) ∧ ∃ x, mR M m 5 = some x ∧ TextR M x r.1
def SuR (M : Mem) (m : Nat) (r : Row) : Prop := (mK M m).1 = 8 ∧ (mI M m 1 = r.2 1 ∧ mI M m 2 = r.2 2 ∧ mI M m 3 = r.2 3) ∧ ∃ x, mR M m 0 = some x ∧ TextR M x r.1
theorem MsR.gr {P : Nat → Prop} {M M' : Mem} (g : Gr P M M') {m : Nat} {r : Row} (hp : ¬ P m) (h : MsR M m r) : MsR M' m r := by
  obtain ⟨h1, h2, x, h3, h4⟩ := h
  have k1 : (mK M m).1 ≠ 99 := by rw [h1]; decide
  obtain ⟨a1, a2, a3, a4⟩ := g.2 m k1 (Or.inr hp)
  exact ⟨by rw [g.1 m k1]; exact h1, by rw [a1]; exact h2, x, by rw [a4]; exact h3, h4.gr g⟩
theorem PkR.gr {P : Nat → Prop} {M M' : Mem} (g : Gr P M M') {m : Nat} {r : Row} (hp : ¬ P m) (h : PkR M m r) : PkR M' m r := by
  obtain ⟨h1, h2, x, h3, h4⟩ := h
  have k1 : (mK M m).1 ≠ 99 := by rw [h1]; decide
  obtain ⟨a1, a2, a3, a4⟩ := g.2 m k1 (Or.inr hp)
  exact ⟨by rw [g.1 m k1]; exact h1, by rw [a1]; exact h2, x, by rw [a4]; exact h3, h4.gr g⟩
theorem SuR.gr {P : Nat → Prop} {M M' : Mem} (g : Gr P M M') {m : Nat} {r : Row} (hp : ¬ P m) (h : SuR M m r) : SuR M' m r := by
  obtain ⟨h1, h2, x, h3, h4⟩ := h
  have k1 : (mK M m).1 ≠ 99 := by rw [h1]; decide
  obtain ⟨a1, a2, a3, a4⟩ := g.2 m k1 (Or.inr hp)
  exact ⟨by rw [g.1 m k1]; exact h1, by rw [a1]; exact h2, x, by rw [a4]; exact h3, h4.gr g⟩
