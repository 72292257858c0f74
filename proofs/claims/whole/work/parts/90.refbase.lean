/-! THE REFERENCE'S WORLD: its cells lie at 908 to 920 -/
abbrev VR : Type := (Nat → Nat → Int32) × (Nat → Nat → Int64) × (Nat → Nat → UInt32)
def wsel {α : Type} (f g : Nat → Nat → α) : Nat → Nat → α := fun a => if 908 ≤ a ∧ a < 921 then f (a - 908) else g a
def RW (N : Mem) (V : VR) : Mem := (wsel V.1 (mI N), wsel V.2.1 (mL N), wsel V.2.2 (mF N), N.2.2.2)
def vI (V : VR) (k i : Nat) (x : Int32) : VR := (up2 V.1 k i x, V.2)
def vL (V : VR) (k i : Nat) (x : Int64) : VR := (V.1, up2 V.2.1 k i x, V.2.2)
def vF (V : VR) (k i : Nat) (x : UInt32) : VR := (V.1, V.2.1, up2 V.2.2 k i x)
theorem wsel_up {α : Type} (f g : Nat → Nat → α) {k : Nat} (hk : k < 13) (i : Nat) (x : α) : up2 (wsel f g) (908 + k) i x = wsel (up2 f k i x) g := by
  funext a j
  simp only [up2, wsel]
  by_cases h : 908 ≤ a ∧ a < 921
  · by_cases h2 : a = 908 + k
    · subst h2; simp only [h, and_self, ↓reduceIte, Nat.add_sub_cancel_left, true_and, up2]
    · have h3 : ¬ a - 908 = k := by omega
      simp only [h, and_self, ↓reduceIte, h2, h3, false_and, up2]
  · have h2 : ¬ a = 908 + k := by omega
    simp only [h, ↓reduceIte, h2, false_and]
theorem W_sI (N : Mem) (V : VR) {k : Nat} (hk : k < 13) (i : Nat) (x : Int32) : sI (RW N V) (up2 (mI (RW N V)) (908 + k) i x) = RW N (vI V k i x) := by
  simp only [sI, RW, vI, wsel_up _ _ hk]
theorem W_sL (N : Mem) (V : VR) {k : Nat} (hk : k < 13) (i : Nat) (x : Int64) : sL (RW N V) (up2 (mL (RW N V)) (908 + k) i x) = RW N (vL V k i x) := by
  simp only [sL, RW, vL, wsel_up _ _ hk]
theorem W_sF (N : Mem) (V : VR) {k : Nat} (hk : k < 13) (i : Nat) (x : UInt32) : sF (RW N V) (up2 (mF (RW N V)) (908 + k) i x) = RW N (vF V k i x) := by
  simp only [sF, RW, vF, wsel_up _ _ hk]
theorem W_mI (N : Mem) (V : VR) {k : Nat} (hk : k < 13) (i : Nat) : mI (RW N V) (908 + k) i = V.1 k i := by
  have h : 908 ≤ 908 + k ∧ 908 + k < 921 := by omega
  show wsel V.1 (mI N) (908 + k) i = _
  simp only [wsel, h, and_self, ↓reduceIte, Nat.add_sub_cancel_left]
theorem W_mL (N : Mem) (V : VR) {k : Nat} (hk : k < 13) (i : Nat) : mL (RW N V) (908 + k) i = V.2.1 k i := by
  have h : 908 ≤ 908 + k ∧ 908 + k < 921 := by omega
  show wsel V.2.1 (mL N) (908 + k) i = _
  simp only [wsel, h, and_self, ↓reduceIte, Nat.add_sub_cancel_left]
theorem W_mF (N : Mem) (V : VR) {k : Nat} (hk : k < 13) (i : Nat) : mF (RW N V) (908 + k) i = V.2.2 k i := by
  have h : 908 ≤ 908 + k ∧ 908 + k < 921 := by omega
  show wsel V.2.2 (mF N) (908 + k) i = _
  simp only [wsel, h, and_self, ↓reduceIte, Nat.add_sub_cancel_left]
theorem W_mK (N : Mem) (V : VR) : mK (RW N V) = mK N := rfl
theorem W_mR (N : Mem) (V : VR) : mR (RW N V) = mR N := rfl
/-- kinds and links of the reference, by place: kind 13 ints, 14 longs, 15 floats -/
def KA (k : Nat) : Nat × Nat := (([(12, 0), (13, 2718), (14, 3800), (15, 6), (13, 2718), (14, 3800), (15, 6), (13, 30), (14, 4), (14, 4), (14, 4), (13, 6), (14, 4)] : List (Nat × Nat)).getD k (0, 0))
def KF (f : Nat) : Option Nat := (([none, some 909, some 910, some 911, some 912, some 913, some 914, none, some 915, none, none, some 916, none, some 917, some 918, some 919, some 920, none] : List (Option Nat)).getD f none)
def KR (N : Mem) : Prop := (mK N 908).1 = 12 ∧ (∀ k, 1 ≤ k → k < 13 → mK N (908 + k) = KA k) ∧ ∀ f a, KF f = some a → mR N 908 f = some a
theorem W_k {N : Mem} {V : VR} (h : KR N) : (mK (RW N V) 908).1 = 12 := h.1
theorem W_gI {N : Mem} {V : VR} (h : KR N) (f : Nat) : gI 12 f 908 (RW N V) = some (V.1 0 f) := by
  have := W_mI N V (k := 0) (by omega) f
  simp only [gI, W_mK, h.1, ↓reduceIte]; rw [this]
theorem W_pI {N : Mem} {V : VR} (h : KR N) (f : Nat) (x : Int32) : pI 12 f 908 x (RW N V) = some (RW N (vI V 0 f x)) := by
  have := W_sI N V (k := 0) (by omega) f x
  simp only [pI, W_mK, h.1, ↓reduceIte]; rw [this]
theorem W_pZ {N : Mem} {V : VR} (h : KR N) (f : Nat) (x : Int32) (hx : x = 0 ∨ x = 1) : pZ 12 f 908 x (RW N V) = some (RW N (vI V 0 f x)) := by
  have := W_sI N V (k := 0) (by omega) f x
  simp only [pZ, W_mK, h.1, hx, and_self, ↓reduceIte]; rw [this]
theorem W_gRg {N : Mem} {V : VR} (h : KR N) {f a : Nat} (hf : KF f = some a) : gR 12 f 908 (RW N V) = some a := by
  simp only [gR, W_mK, h.1, ↓reduceIte, W_mR, h.2.2 f a hf]
theorem W_aIg {N : Mem} {V : VR} (h : KR N) {k n i : Nat} (hk : 1 ≤ k ∧ k < 13) (ha : KA k = (13, n)) (hi : i < n) (hn : n < 5000) : aI 13 (908 + k) (nW i) (RW N V) = some (V.1 k i) := by
  have h2 := h.2.1 k hk.1 hk.2
  simp only [aI, W_mK, h2, ha, ↓reduceIte, ix_nW hi (by omega), Option.map_some, W_mI N V hk.2]
theorem W_aLg {N : Mem} {V : VR} (h : KR N) {k n i : Nat} (hk : 1 ≤ k ∧ k < 13) (ha : KA k = (14, n)) (hi : i < n) (hn : n < 5000) : aL (908 + k) (nW i) (RW N V) = some (V.2.1 k i) := by
  have h2 := h.2.1 k hk.1 hk.2
  simp only [aL, W_mK, h2, ha, ↓reduceIte, ix_nW hi (by omega), Option.map_some, W_mL N V hk.2]
theorem W_aFg {N : Mem} {V : VR} (h : KR N) {k n i : Nat} (hk : 1 ≤ k ∧ k < 13) (ha : KA k = (15, n)) (hi : i < n) (hn : n < 5000) : aF (908 + k) (nW i) (RW N V) = some (V.2.2 k i) := by
  have h2 := h.2.1 k hk.1 hk.2
  simp only [aF, W_mK, h2, ha, ↓reduceIte, ix_nW hi (by omega), Option.map_some, W_mF N V hk.2]
theorem W_wIg {N : Mem} {V : VR} (h : KR N) {k n i : Nat} (x : Int32) (hk : 1 ≤ k ∧ k < 13) (ha : KA k = (13, n)) (hi : i < n) (hn : n < 5000) : wI 13 (908 + k) (nW i) x (RW N V) = some (RW N (vI V k i x)) := by
  have h2 := h.2.1 k hk.1 hk.2
  simp only [wI, W_mK, h2, ha, ↓reduceIte, ix_nW hi (by omega), Option.map_some, nar13, W_sI N V hk.2]
theorem W_wLg {N : Mem} {V : VR} (h : KR N) {k n i : Nat} (x : Int64) (hk : 1 ≤ k ∧ k < 13) (ha : KA k = (14, n)) (hi : i < n) (hn : n < 5000) : wL (908 + k) (nW i) x (RW N V) = some (RW N (vL V k i x)) := by
  have h2 := h.2.1 k hk.1 hk.2
  simp only [wL, W_mK, h2, ha, ↓reduceIte, ix_nW hi (by omega), Option.map_some, W_sL N V hk.2]
theorem W_wFg {N : Mem} {V : VR} (h : KR N) {k n i : Nat} (x : UInt32) (hk : 1 ≤ k ∧ k < 13) (ha : KA k = (15, n)) (hi : i < n) (hn : n < 5000) : wF (908 + k) (nW i) x (RW N V) = some (RW N (vF V k i x)) := by
  have h2 := h.2.1 k hk.1 hk.2
  simp only [wF, W_mK, h2, ha, ↓reduceIte, ix_nW hi (by omega), Option.map_some, W_sF N V hk.2]
theorem W_gR1 {N : Mem} {V : VR} (h : KR N) : gR 12 1 908 (RW N V) = some 909 := W_gRg h rfl
theorem W_gR2 {N : Mem} {V : VR} (h : KR N) : gR 12 2 908 (RW N V) = some 910 := W_gRg h rfl
theorem W_gR3 {N : Mem} {V : VR} (h : KR N) : gR 12 3 908 (RW N V) = some 911 := W_gRg h rfl
theorem W_gR4 {N : Mem} {V : VR} (h : KR N) : gR 12 4 908 (RW N V) = some 912 := W_gRg h rfl
theorem W_gR5 {N : Mem} {V : VR} (h : KR N) : gR 12 5 908 (RW N V) = some 913 := W_gRg h rfl
theorem W_gR6 {N : Mem} {V : VR} (h : KR N) : gR 12 6 908 (RW N V) = some 914 := W_gRg h rfl
theorem W_gR8 {N : Mem} {V : VR} (h : KR N) : gR 12 8 908 (RW N V) = some 915 := W_gRg h rfl
theorem W_gR11 {N : Mem} {V : VR} (h : KR N) : gR 12 11 908 (RW N V) = some 916 := W_gRg h rfl
theorem W_gR13 {N : Mem} {V : VR} (h : KR N) : gR 12 13 908 (RW N V) = some 917 := W_gRg h rfl
theorem W_gR14 {N : Mem} {V : VR} (h : KR N) : gR 12 14 908 (RW N V) = some 918 := W_gRg h rfl
theorem W_gR15 {N : Mem} {V : VR} (h : KR N) : gR 12 15 908 (RW N V) = some 919 := W_gRg h rfl
theorem W_gR16 {N : Mem} {V : VR} (h : KR N) : gR 12 16 908 (RW N V) = some 920 := W_gRg h rfl
theorem W_aI1 {N : Mem} {V : VR} (h : KR N) {i : Nat} (hi : i < 2718) : aI 13 909 (nW i) (RW N V) = some (V.1 1 i) := W_aIg (k := 1) h (by omega) rfl hi (by omega)
theorem W_wI1 {N : Mem} {V : VR} (h : KR N) {i : Nat} (x : Int32) (hi : i < 2718) : wI 13 909 (nW i) x (RW N V) = some (RW N (vI V 1 i x)) := W_wIg (k := 1) h x (by omega) rfl hi (by omega)
theorem W_aI4 {N : Mem} {V : VR} (h : KR N) {i : Nat} (hi : i < 2718) : aI 13 912 (nW i) (RW N V) = some (V.1 4 i) := W_aIg (k := 4) h (by omega) rfl hi (by omega)
theorem W_wI4 {N : Mem} {V : VR} (h : KR N) {i : Nat} (x : Int32) (hi : i < 2718) : wI 13 912 (nW i) x (RW N V) = some (RW N (vI V 4 i x)) := W_wIg (k := 4) h x (by omega) rfl hi (by omega)
theorem W_aI7 {N : Mem} {V : VR} (h : KR N) {i : Nat} (hi : i < 30) : aI 13 915 (nW i) (RW N V) = some (V.1 7 i) := W_aIg (k := 7) h (by omega) rfl hi (by omega)
theorem W_wI7 {N : Mem} {V : VR} (h : KR N) {i : Nat} (x : Int32) (hi : i < 30) : wI 13 915 (nW i) x (RW N V) = some (RW N (vI V 7 i x)) := W_wIg (k := 7) h x (by omega) rfl hi (by omega)
theorem W_aI11 {N : Mem} {V : VR} (h : KR N) {i : Nat} (hi : i < 6) : aI 13 919 (nW i) (RW N V) = some (V.1 11 i) := W_aIg (k := 11) h (by omega) rfl hi (by omega)
theorem W_wI11 {N : Mem} {V : VR} (h : KR N) {i : Nat} (x : Int32) (hi : i < 6) : wI 13 919 (nW i) x (RW N V) = some (RW N (vI V 11 i x)) := W_wIg (k := 11) h x (by omega) rfl hi (by omega)
theorem W_aL2 {N : Mem} {V : VR} (h : KR N) {i : Nat} (hi : i < 3800) : aL 910 (nW i) (RW N V) = some (V.2.1 2 i) := W_aLg (k := 2) h (by omega) rfl hi (by omega)
theorem W_wL2 {N : Mem} {V : VR} (h : KR N) {i : Nat} (x : Int64) (hi : i < 3800) : wL 910 (nW i) x (RW N V) = some (RW N (vL V 2 i x)) := W_wLg (k := 2) h x (by omega) rfl hi (by omega)
theorem W_aL5 {N : Mem} {V : VR} (h : KR N) {i : Nat} (hi : i < 3800) : aL 913 (nW i) (RW N V) = some (V.2.1 5 i) := W_aLg (k := 5) h (by omega) rfl hi (by omega)
theorem W_wL5 {N : Mem} {V : VR} (h : KR N) {i : Nat} (x : Int64) (hi : i < 3800) : wL 913 (nW i) x (RW N V) = some (RW N (vL V 5 i x)) := W_wLg (k := 5) h x (by omega) rfl hi (by omega)
theorem W_aL8 {N : Mem} {V : VR} (h : KR N) {i : Nat} (hi : i < 4) : aL 916 (nW i) (RW N V) = some (V.2.1 8 i) := W_aLg (k := 8) h (by omega) rfl hi (by omega)
theorem W_wL8 {N : Mem} {V : VR} (h : KR N) {i : Nat} (x : Int64) (hi : i < 4) : wL 916 (nW i) x (RW N V) = some (RW N (vL V 8 i x)) := W_wLg (k := 8) h x (by omega) rfl hi (by omega)
theorem W_aL9 {N : Mem} {V : VR} (h : KR N) {i : Nat} (hi : i < 4) : aL 917 (nW i) (RW N V) = some (V.2.1 9 i) := W_aLg (k := 9) h (by omega) rfl hi (by omega)
theorem W_wL9 {N : Mem} {V : VR} (h : KR N) {i : Nat} (x : Int64) (hi : i < 4) : wL 917 (nW i) x (RW N V) = some (RW N (vL V 9 i x)) := W_wLg (k := 9) h x (by omega) rfl hi (by omega)
theorem W_aL10 {N : Mem} {V : VR} (h : KR N) {i : Nat} (hi : i < 4) : aL 918 (nW i) (RW N V) = some (V.2.1 10 i) := W_aLg (k := 10) h (by omega) rfl hi (by omega)
theorem W_wL10 {N : Mem} {V : VR} (h : KR N) {i : Nat} (x : Int64) (hi : i < 4) : wL 918 (nW i) x (RW N V) = some (RW N (vL V 10 i x)) := W_wLg (k := 10) h x (by omega) rfl hi (by omega)
theorem W_aL12 {N : Mem} {V : VR} (h : KR N) {i : Nat} (hi : i < 4) : aL 920 (nW i) (RW N V) = some (V.2.1 12 i) := W_aLg (k := 12) h (by omega) rfl hi (by omega)
theorem W_wL12 {N : Mem} {V : VR} (h : KR N) {i : Nat} (x : Int64) (hi : i < 4) : wL 920 (nW i) x (RW N V) = some (RW N (vL V 12 i x)) := W_wLg (k := 12) h x (by omega) rfl hi (by omega)
theorem W_aF3 {N : Mem} {V : VR} (h : KR N) {i : Nat} (hi : i < 6) : aF 911 (nW i) (RW N V) = some (V.2.2 3 i) := W_aFg (k := 3) h (by omega) rfl hi (by omega)
theorem W_wF3 {N : Mem} {V : VR} (h : KR N) {i : Nat} (x : UInt32) (hi : i < 6) : wF 911 (nW i) x (RW N V) = some (RW N (vF V 3 i x)) := W_wFg (k := 3) h x (by omega) rfl hi (by omega)
theorem W_aF6 {N : Mem} {V : VR} (h : KR N) {i : Nat} (hi : i < 6) : aF 914 (nW i) (RW N V) = some (V.2.2 6 i) := W_aFg (k := 6) h (by omega) rfl hi (by omega)
theorem W_wF6 {N : Mem} {V : VR} (h : KR N) {i : Nat} (x : UInt32) (hi : i < 6) : wF 914 (nW i) x (RW N V) = some (RW N (vF V 6 i x)) := W_wFg (k := 6) h x (by omega) rfl hi (by omega)
theorem vI_1 (V : VR) (k i : Nat) (x : Int32) : (vI V k i x).1 k = fset (V.1 k) i x := by
  funext j; simp only [vI, up2, fset, true_and]
theorem vI_o (V : VR) {k k' : Nat} (i : Nat) (x : Int32) (h : k' ≠ k) : (vI V k i x).1 k' = V.1 k' := by
  funext j; simp only [vI, up2, h, false_and, ↓reduceIte]
theorem vI_2 (V : VR) (k i : Nat) (x : Int32) : (vI V k i x).2 = V.2 := rfl
theorem vL_1 (V : VR) (k i : Nat) (x : Int64) : (vL V k i x).2.1 k = fset (V.2.1 k) i x := by
  funext j; simp only [vL, up2, fset, true_and]
theorem vL_o (V : VR) {k k' : Nat} (i : Nat) (x : Int64) (h : k' ≠ k) : (vL V k i x).2.1 k' = V.2.1 k' := by
  funext j; simp only [vL, up2, h, false_and, ↓reduceIte]
theorem vL_i (V : VR) (k i : Nat) (x : Int64) : (vL V k i x).1 = V.1 := rfl
theorem vL_2 (V : VR) (k i : Nat) (x : Int64) : (vL V k i x).2.2 = V.2.2 := rfl
theorem vF_1 (V : VR) (k i : Nat) (x : UInt32) : (vF V k i x).2.2 k = fset (V.2.2 k) i x := by
  funext j; simp only [vF, up2, fset, true_and]
theorem vF_o (V : VR) {k k' : Nat} (i : Nat) (x : UInt32) (h : k' ≠ k) : (vF V k i x).2.2 k' = V.2.2 k' := by
  funext j; simp only [vF, up2, h, false_and, ↓reduceIte]
theorem vF_i (V : VR) (k i : Nat) (x : UInt32) : (vF V k i x).1 = V.1 := rfl
theorem vF_l (V : VR) (k i : Nat) (x : UInt32) : (vF V k i x).2.1 = V.2.1 := rfl
/-! blocks of four longs: a text's levels -/
def blk (f : Nat → Int64) (i : Nat) (v : Nat → Int64) : Nat → Int64 := fun j => if i ≤ j ∧ j < i + 4 then v (j - i) else f j
def vB (V : VR) (k i : Nat) (v : Nat → Int64) : VR := (V.1, fun a => if a = k then blk (V.2.1 k) i v else V.2.1 a, V.2.2)
theorem vB_1 (V : VR) (k i : Nat) (v : Nat → Int64) : (vB V k i v).2.1 k = blk (V.2.1 k) i v := by simp only [vB, ↓reduceIte]
theorem vB_o (V : VR) {k k' : Nat} (i : Nat) (v : Nat → Int64) (h : k' ≠ k) : (vB V k i v).2.1 k' = V.2.1 k' := by simp only [vB, h, ↓reduceIte]
theorem vB_i (V : VR) (k i : Nat) (v : Nat → Int64) : (vB V k i v).1 = V.1 := rfl
theorem vB_2 (V : VR) (k i : Nat) (v : Nat → Int64) : (vB V k i v).2.2 = V.2.2 := rfl
theorem blk_in (f : Nat → Int64) (i : Nat) (v : Nat → Int64) {x : Nat} (h : x < 4) : blk f i v (i + x) = v x := by
  have : i ≤ i + x ∧ i + x < i + 4 := by omega
  simp only [blk, this, and_self, ↓reduceIte, Nat.add_sub_cancel_left]
theorem blk_out (f : Nat → Int64) {i j : Nat} (v : Nat → Int64) (h : j < i ∨ i + 4 ≤ j) : blk f i v j = f j := by
  have : ¬ (i ≤ j ∧ j < i + 4) := by omega
  simp only [blk, this, ↓reduceIte]
theorem vB_self {V : VR} {k i : Nat} {v : Nat → Int64} (h : ∀ x, x < 4 → V.2.1 k (i + x) = v x) : vB V k i v = V := by
  have : (fun a => if a = k then blk (V.2.1 k) i v else V.2.1 a) = V.2.1 := by
    funext a j
    by_cases ha : a = k
    · subst ha
      simp only [↓reduceIte, blk]
      by_cases hj : i ≤ j ∧ j < i + 4
      · have := h (j - i) (by omega)
        rw [show i + (j - i) = j by omega] at this
        simp only [hj, and_self, ↓reduceIte, this]
      · simp only [hj, ↓reduceIte]
    · simp only [ha, ↓reduceIte]
  unfold vB; rw [this]
theorem vB_vL (V : VR) (k i : Nat) (v : Nat → Int64) {x : Nat} (y : Int64) (h : x < 4) : vB (vL V k (i + x) y) k i v = vB V k i v := by
  have : (fun a => if a = k then blk ((vL V k (i + x) y).2.1 k) i v else (vL V k (i + x) y).2.1 a) = (fun a => if a = k then blk (V.2.1 k) i v else V.2.1 a) := by
    funext a j
    by_cases ha : a = k
    · subst ha
      simp only [↓reduceIte, blk]
      by_cases hj : i ≤ j ∧ j < i + 4
      · simp only [hj, and_self, ↓reduceIte]
      · have : ¬ j = i + x := by omega
        simp only [hj, ↓reduceIte, vL, up2, this, and_false]
    · simp only [ha, ↓reduceIte, vL, up2, false_and]
  simp only [vB]; rw [this]; simp only [vL]
theorem moves_L3 {N : Mem} (hk : KR N) {ka kb na nb i j : Nat} {v : Nat → Int64} (h1 : 1 ≤ ka ∧ ka < 13) (h2 : 1 ≤ kb ∧ kb < 13) (ha : KA ka = (14, na)) (hb : KA kb = (14, nb)) (hi : i + 4 ≤ na) (hj : j + 4 ≤ nb) (hn : na < 5000 ∧ nb < 5000) (hd : ka ≠ kb ∨ i + 4 ≤ j ∨ j + 4 ≤ i) : ∀ n m V, m ≤ 4 → 4 - m < n → (∀ x, x < m → V.2.1 kb (j + x) = v x) → (∀ x, m ≤ x → x < 4 → V.2.1 ka (i + x) = v x) → f_X12_moves_L3 n (908 + ka) (nW i) (908 + kb) (nW j) (nW m) (RW N V) = some (RW N (vB V kb j v))
  | 0, m, V, _, hn, _, _ => absurd hn (by omega)
  | n + 1, m, V, hm, hn2, hx, hy => by
    by_cases he : m = 4
    · subst he
      simp (disch := omega) only [f_X12_moves_L3, nW_lit, nW_le, Nat.le_refl, ↓reduceIte, vB_self hx]
    · have n1 : ¬ 4 ≤ m := by omega
      have ih := moves_L3 (v := v) hk h1 h2 ha hb hi hj hn hd n (m + 1) (vL V kb (j + m) (v m)) (by omega) (by omega) (fun x hx2 => by
        rw [vL_1]
        by_cases e : x = m
        · subst e; exact fset_eq _ _ _
        · rw [fset_ne _ _ (by omega)]; exact hx x (by omega)) (fun x hx2 hx3 => by
        by_cases e : ka = kb
        · subst e
          rw [vL_1, fset_ne _ _ (by omega)]; exact hy x (by omega) hx3
        · rw [vL_o _ _ _ e]; exact hy x (by omega) hx3)
      rw [vB_vL _ _ _ _ _ (by omega)] at ih
      simp (disch := omega) only [f_X12_moves_L3, nW_lit, nW_le, nW_add, n1, ↓reduceIte, W_aLg hk h1 ha (show i + m < na by omega) (by omega), W_wLg hk _ h2 hb (show j + m < nb by omega) (by omega), Option.bind_some, hy m (Nat.le_refl _) (by omega), ih]
theorem moves_g {N : Mem} {V : VR} (hk : KR N) {ka kb na nb i j : Nat} (h1 : 1 ≤ ka ∧ ka < 13) (h2 : 1 ≤ kb ∧ kb < 13) (ha : KA ka = (14, na)) (hb : KA kb = (14, nb)) (hi : i + 4 ≤ na) (hj : j + 4 ≤ nb) (hn : na < 5000 ∧ nb < 5000) (hd : ka ≠ kb ∨ i + 4 ≤ j ∨ j + 4 ≤ i) : f_X12_moves (908 + ka) (nW i) (908 + kb) (nW j) (RW N V) = some (RW N (vB V kb j (fun x => V.2.1 ka (i + x)))) := by
  have := moves_L3 hk h1 h2 ha hb hi hj hn hd FU 0 V (by omega) (by simp only [FU]; omega) (fun x hx => by omega) (fun x _ _ => rfl)
  simp only [f_X12_moves, nW_lit, this]
theorem moves_2_2 {N : Mem} {V : VR} (hk : KR N) {i j : Nat} (hi : i + 4 ≤ 3800) (hj : j + 4 ≤ 3800) (hd : i + 4 ≤ j ∨ j + 4 ≤ i) : f_X12_moves 910 (nW i) 910 (nW j) (RW N V) = some (RW N (vB V 2 j (fun x => V.2.1 2 (i + x)))) := moves_g (ka := 2) (kb := 2) hk (by omega) (by omega) rfl rfl hi hj (by omega) (Or.inr hd)
theorem moves_2_9 {N : Mem} {V : VR} (hk : KR N) {i j : Nat} (hi : i + 4 ≤ 3800) (hj : j + 4 ≤ 4) : f_X12_moves 910 (nW i) 917 (nW j) (RW N V) = some (RW N (vB V 9 j (fun x => V.2.1 2 (i + x)))) := moves_g (ka := 2) (kb := 9) hk (by omega) (by omega) rfl rfl hi hj (by omega) (Or.inl (by omega))
theorem moves_2_12 {N : Mem} {V : VR} (hk : KR N) {i j : Nat} (hi : i + 4 ≤ 3800) (hj : j + 4 ≤ 4) : f_X12_moves 910 (nW i) 920 (nW j) (RW N V) = some (RW N (vB V 12 j (fun x => V.2.1 2 (i + x)))) := moves_g (ka := 2) (kb := 12) hk (by omega) (by omega) rfl rfl hi hj (by omega) (Or.inl (by omega))
theorem moves_8_2 {N : Mem} {V : VR} (hk : KR N) {i j : Nat} (hi : i + 4 ≤ 4) (hj : j + 4 ≤ 3800) : f_X12_moves 916 (nW i) 910 (nW j) (RW N V) = some (RW N (vB V 2 j (fun x => V.2.1 8 (i + x)))) := moves_g (ka := 8) (kb := 2) hk (by omega) (by omega) rfl rfl hi hj (by omega) (Or.inl (by omega))
theorem moves_8_9 {N : Mem} {V : VR} (hk : KR N) {i j : Nat} (hi : i + 4 ≤ 4) (hj : j + 4 ≤ 4) : f_X12_moves 916 (nW i) 917 (nW j) (RW N V) = some (RW N (vB V 9 j (fun x => V.2.1 8 (i + x)))) := moves_g (ka := 8) (kb := 9) hk (by omega) (by omega) rfl rfl hi hj (by omega) (Or.inl (by omega))
theorem moves_9_2 {N : Mem} {V : VR} (hk : KR N) {i j : Nat} (hi : i + 4 ≤ 4) (hj : j + 4 ≤ 3800) : f_X12_moves 917 (nW i) 910 (nW j) (RW N V) = some (RW N (vB V 2 j (fun x => V.2.1 9 (i + x)))) := moves_g (ka := 9) (kb := 2) hk (by omega) (by omega) rfl rfl hi hj (by omega) (Or.inl (by omega))
theorem moves_10_2 {N : Mem} {V : VR} (hk : KR N) {i j : Nat} (hi : i + 4 ≤ 4) (hj : j + 4 ≤ 3800) : f_X12_moves 918 (nW i) 910 (nW j) (RW N V) = some (RW N (vB V 2 j (fun x => V.2.1 10 (i + x)))) := moves_g (ka := 10) (kb := 2) hk (by omega) (by omega) rfl rfl hi hj (by omega) (Or.inl (by omega))
