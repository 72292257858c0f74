/-! PICKS, TEXTS AND WRAPPERS OF THE LAW -/
theorem iushr_1 (x : Int32) : ∃ w, w < 2147483648 ∧ iushrE x (nW 1) = nW w := by
  have hx : x.toUInt32.toNat < 4294967296 := x.toUInt32.toNat_lt
  refine ⟨x.toUInt32.toNat / 2, by omega, ?_⟩
  have e1 : ((nW 1).toUInt32 &&& Int32.toUInt32 31) = 1 := by decide
  unfold iushrE
  rw [e1]
  have e2 : x.toUInt32 >>> 1 = UInt32.ofNat (x.toUInt32.toNat / 2) := by
    apply UInt32.toNat_inj.mp
    rw [UInt32.toNat_shiftRight, UInt32.toNat_ofNat']
    show x.toUInt32.toNat >>> 1 = x.toUInt32.toNat / 2 % 4294967296
    rw [Nat.shiftRight_eq_div_pow, Nat.pow_one]
    omega
  rw [e2]
  rfl
theorem pick_ok {L : Nat} (xs : Nat → Int32) (hL : L ≤ 260) {j m : Nat} (hj : j < 10000) (hm : 0 < m) (hm2 : m < 1000) : ∃ v, v < m ∧ ∀ M, f_L_pick L xs (nW j) (nW m) M = some (nW v, M) := by
  have key : ∃ y, ∀ M, f_L_cell L xs (nW j) M = some (y, M) := by
    by_cases h : L ≤ j
    · refine ⟨(40503 : Int32) * nW j, fun M => ?_⟩
      have : Int32.ofNat L ≤ nW j := (nW_le (a := L) (by omega) (by omega)).mpr h
      rw [f_L_cell, if_pos this]
    · refine ⟨xs j, fun M => ?_⟩
      have h2 : ¬ Int32.ofNat L ≤ nW j := fun q => h ((nW_le (a := L) (by omega) (by omega)).mp q)
      rw [f_L_cell, if_neg h2]
      simp (disch := omega) only [scI, ix_nW, Option.map_some, Option.bind_some]
  obtain ⟨y, ey⟩ := key
  obtain ⟨w, hw, ew⟩ := iushr_1 y
  refine ⟨w % m, Nat.mod_lt _ hm, fun M => ?_⟩
  have h0 : ¬ nW m = nW 0 := by rw [nW_inj (by omega) (by omega)]; omega
  simp only [f_L_pick, ey, bindP, nW_lit, ew, iremO, h0, ↓reduceIte, irem_nW hw (show m < 2147483648 by omega) hm, Option.bind_some]
def flN' (w v : Nat) : Nat := (flJS.getD w []).getD v 0
theorem flN_lt : ∀ w, w < 2 → ∀ v, v < 16 → flN' w v < 27 := by decide
theorem sFl_ok {w v : Nat} (hv : v < 16) : sFl w (nW v) = some (SCR + 16 + flN' w v) := by
  unfold sFl
  rw [ix_nW hv (by omega)]; rfl
theorem fil_ok : ∀ i, i < 27 → ((parse true (chN i)).1.isSome = true) := by decide +kernel
theorem top_ok : ∀ v, v < 16 → ((parse false (chN (flN' 1 v))).1.isSome = true) := by decide +kernel
theorem fil_t {i : Nat} (hi : i < 27) : ∃ t, (parse true (chN i)).1 = some t := Option.isSome_iff_exists.mp (fil_ok i hi)
theorem top_t {v : Nat} (hv : v < 16) : ∃ t, (parse false (chN (flN' 1 v))).1 = some t := Option.isSome_iff_exists.mp (top_ok v hv)
theorem okZX1 (M : Mem) : okZX (nW 1) M = some (.inl (nW 1), M) := if_pos (Or.inr (by decide))
/-! what a step keeps -/
def Jw (s : Bool × Sg) (k n : Nat) (M : Mem) (A : Wh) : Prop := Jv k n M A ∧ oB A = [] ∧ oE A = -nW 1 ∧ oT A = s
def Rt (s : Bool × Sg) (k n : Nat) (r : Option ((Int32 ⊕ Nat) × Mem)) : Prop := ∃ M' A', r = some (.inl (nW 1), M') ∧ Jw s k n M' A'
theorem Jw.mono {s : Bool × Sg} {j k m n : Nat} {M : Mem} {A : Wh} (h : Jw s j m M A) (h1 : j ≤ k) (h2 : m ≤ n) : Jw s k n M A := ⟨h.1.mono h1 h2, h.2⟩
theorem Jw.rt {s : Bool × Sg} {j k m n : Nat} {M : Mem} {A : Wh} (h : Jw s j m M A) (h1 : j ≤ k) (h2 : m ≤ n) : Rt s k n (okZX (nW 1) M) := ⟨M, A, okZX1 M, h.mono h1 h2⟩
theorem Jw.x {s : Bool × Sg} {k n : Nat} {M : Mem} {A : Wh} (h : Jw s k n M A) : Jw s k (n + 1) (xM M) A := ⟨Jv_x h.1, h.2⟩
theorem Jw.s1 {s : Bool × Sg} {k k' n n' : Nat} {M M' : Mem} {A : Wh} {σ : Sg} (h : Jw s k n M A) (h' : Jv k' n' M' (pS A σ)) : Jw s k' n' M' (pS A σ) := ⟨h', h.2⟩
theorem Jw.e0 {s : Bool × Sg} {k k' n n' : Nat} {M M' : Mem} {A : Wh} (h : Jw s k n M A) (h' : Jv k' n' M' (eA A)) : Jw s k' n' M' (eA A) := ⟨h', rfl, rfl, h.2.2.2⟩
theorem Jw.e1 {s : Bool × Sg} {k k' n n' : Nat} {M M' : Mem} {A : Wh} {σ : Sg} (h : Jw s k n M A) (h' : Jv k' n' M' (pS (eA A) σ)) : Jw s k' n' M' (pS (eA A) σ) := ⟨h', rfl, rfl, h.2.2.2⟩
theorem Rt.of {s : Bool × Sg} {k n : Nat} {r r' : Option ((Int32 ⊕ Nat) × Mem)} (h : Rt s k n r') (e : r = r') : Rt s k n r := e ▸ h
theorem on_ss {k n : Nat} {M : Mem} {A : Wh} (h : Jv k n M A) {c : Nat} (hc : c < 6) : ssV (gCl (oS A) c) ≤ nW 1 ↔ cB (gCl (oS A) c) 0 = false := by
  have hx := h.on hc
  have a1 : ¬ nW 2 ≤ nW 1 := by decide
  have a2 : ¬ nW 3 ≤ nW 1 := by decide
  have a0 : nW 0 ≤ nW 1 := by decide
  have a3 : nW 1 ≤ nW 1 := by decide
  unfold ssV
  cases h3 : cB (gCl (oS A) c) 3 <;> cases h0 : cB (gCl (oS A) c) 0 <;> cases h4 : cB (gCl (oS A) c) 4
  all_goals first
    | (have := hx h0; rw [h3] at this; exact absurd this (by decide))
    | simp [a0, a1, a2, a3]
theorem neg_lt {a b : Nat} (ha : a < 2147483648) (hb : b < 2147483648) (h : 0 < b) : -nW b < nW a := by
  have e1 : (-nW b).toInt = -(b : Int) := by
    have := nW_sub_int (a := 0) (b := b)
    rw [Int32.toInt_neg, nW_int hb]
    have e : ((-(b : Int)).bmod (2 ^ 32)) = -(b : Int) := by
      rw [Int.bmod_eq_of_le] <;> omega
    exact e
  rw [Int32.lt_iff_toInt_lt, e1, nW_int ha]
  omega
theorem x21 : ¬ (2 : Nat) = 1 := by decide
theorem x23 : ¬ (2 : Nat) = 3 := by decide
theorem x13 : ¬ (1 : Nat) = 3 := by decide
