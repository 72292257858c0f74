/-! SMALL ROWS for the walks -/
theorem cb_6 : (Int8.ofInt 6).toInt32 = (6 : Int32) := by decide
theorem cb_7 : (Int8.ofInt 7).toInt32 = (7 : Int32) := by decide
theorem cb_8 : (Int8.ofInt 8).toInt32 = (8 : Int32) := by decide
theorem cb_9 : (Int8.ofInt 9).toInt32 = (9 : Int32) := by decide
theorem cb_10 : (Int8.ofInt 10).toInt32 = (10 : Int32) := by decide
theorem cb_24 : (Int8.ofInt 24).toInt32 = (24 : Int32) := by decide
theorem cb_30 : (Int8.ofInt 30).toInt32 = (30 : Int32) := by decide
theorem cb_33 : (Int8.ofInt 33).toInt32 = (33 : Int32) := by decide
theorem cb_35 : (Int8.ofInt 35).toInt32 = (35 : Int32) := by decide
theorem cb_36 : (Int8.ofInt 36).toInt32 = (36 : Int32) := by decide
theorem cb_43 : (Int8.ofInt 43).toInt32 = (43 : Int32) := by decide
theorem cb_47 : (Int8.ofInt 47).toInt32 = (47 : Int32) := by decide
theorem cb_48 : (Int8.ofInt 48).toInt32 = (48 : Int32) := by decide
theorem cb_50 : (Int8.ofInt 50).toInt32 = (50 : Int32) := by decide
theorem cb_51 : (Int8.ofInt 51).toInt32 = (51 : Int32) := by decide
theorem cb_57 : (Int8.ofInt 57).toInt32 = (57 : Int32) := by decide
theorem cb_97 : (Int8.ofInt 97).toInt32 = (97 : Int32) := by decide
theorem cb_100 : (Int8.ofInt 100).toInt32 = (100 : Int32) := by decide
theorem cb_122 : (Int8.ofInt 122).toInt32 = (122 : Int32) := by decide
theorem cb_126 : (Int8.ofInt 126).toInt32 = (126 : Int32) := by decide
theorem ci_m8 : Int32.ofInt (-8) = (-8 : Int32) := by decide
theorem ci_m1 : Int32.ofInt (-1) = (-1 : Int32) := by decide
theorem ci_0 : Int32.ofInt 0 = (0 : Int32) := by decide
theorem ci_1 : Int32.ofInt 1 = (1 : Int32) := by decide
theorem ci_2 : Int32.ofInt 2 = (2 : Int32) := by decide
theorem ci_3 : Int32.ofInt 3 = (3 : Int32) := by decide
theorem ci_4 : Int32.ofInt 4 = (4 : Int32) := by decide
theorem ci_5 : Int32.ofInt 5 = (5 : Int32) := by decide
theorem cs_255 : (Int16.ofInt 255).toInt32 = (255 : Int32) := by decide
theorem cs_512 : (Int16.ofInt 512).toInt32 = (512 : Int32) := by decide
theorem cs_9999 : (Int16.ofInt 9999).toInt32 = (9999 : Int32) := by decide
theorem ifP {c : Prop} [Decidable c] {α : Type} {a b r : α} (hc : c) (h : (if c then a else b) = r) : a = r := by rw [if_pos hc] at h; exact h
theorem ifN {c : Prop} [Decidable c] {α : Type} {a b r : α} (hc : ¬ c) (h : (if c then a else b) = r) : b = r := by rw [if_neg hc] at h; exact h
theorem ifS {c : Prop} [Decidable c] {α : Type} {a : Option α} {r : α} (h : (if c then a else none) = some r) : c ∧ a = some r := by
  by_cases hc : c
  · rw [if_pos hc] at h; exact ⟨hc, h⟩
  · rw [if_neg hc] at h; cases h
theorem okZ_some {x r : Int32} {M MF : Mem} (h : okZ x M = some (r, MF)) : (x = 0 ∨ x = 1) ∧ x = r ∧ M = MF := by
  unfold okZ at h
  obtain ⟨h1, h2⟩ := ifS h
  cases h2
  exact ⟨h1, rfl, rfl⟩
section
variable {G : Gl} {B : Bx} {own : String} {cc : ByteArray} {ret : Option FieldType} {fr lo nL : Nat} {mn : String} {hh : List (Nat × Nat × Nat × Nat)} {pc : Nat} {ls : List (Nat × Value)} {st : List Value} {M : Mem}
theorem v_tsw {dflt lo' hi off : Int} {offs : Array Int} {len tgt : Nat} {y v : Int32} (hd : decode cc pc = .ok (.tableswitch dflt lo' hi offs, len)) (hx : y = v) (h1 : ¬ v.toInt < lo') (h2 : ¬ hi < v.toInt) (ho : offs[(v.toInt - lo').toNat]? = some off) (ht : (pc : Int) + off = (tgt : Int)) (k : V G (own, cc, ret, fr, lo, nL, mn, hh) B tgt ls st M) : V G (own, cc, ret, fr, lo, nL, mn, hh) B pc ls (.int y :: st) M := by
  rw [hx]
  exact v_tableIn hd h1 h2 ho ht k
theorem v_tswOut {dflt lo' hi : Int} {offs : Array Int} {len tgt : Nat} {y : Int32} (hd : decode cc pc = .ok (.tableswitch dflt lo' hi offs, len)) (hx : ∀ k : Int, lo' ≤ k → k ≤ hi → ¬ y = Int32.ofInt k) (ht : (pc : Int) + dflt = (tgt : Int)) (k : V G (own, cc, ret, fr, lo, nL, mn, hh) B tgt ls st M) : V G (own, cc, ret, fr, lo, nL, mn, hh) B pc ls (.int y :: st) M := by
  refine v_tableOut hd ?_ ht k
  rcases Int.lt_or_le y.toInt lo' with h | h
  · exact Or.inl h
  · rcases Int.lt_or_le hi y.toInt with h' | h'
    · exact Or.inr h'
    · exact absurd (Int32.ofInt_toInt y).symm (hx _ h h')
end
