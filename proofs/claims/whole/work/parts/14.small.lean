/-! SMALL ROWS for the walks -/
theorem cb_6 : (Int8.ofInt 6).toInt32 = (6 : Int32) := by decide
theorem cb_7 : (Int8.ofInt 7).toInt32 = (7 : Int32) := by decide
theorem cb_8 : (Int8.ofInt 8).toInt32 = (8 : Int32) := by decide
theorem cb_9 : (Int8.ofInt 9).toInt32 = (9 : Int32) := by decide
theorem cb_10 : (Int8.ofInt 10).toInt32 = (10 : Int32) := by decide
theorem cb_11 : (Int8.ofInt 11).toInt32 = (11 : Int32) := by decide
theorem cb_12 : (Int8.ofInt 12).toInt32 = (12 : Int32) := by decide
theorem cb_13 : (Int8.ofInt 13).toInt32 = (13 : Int32) := by decide
theorem cb_14 : (Int8.ofInt 14).toInt32 = (14 : Int32) := by decide
theorem cb_15 : (Int8.ofInt 15).toInt32 = (15 : Int32) := by decide
theorem cb_16 : (Int8.ofInt 16).toInt32 = (16 : Int32) := by decide
theorem cb_17 : (Int8.ofInt 17).toInt32 = (17 : Int32) := by decide
theorem cb_20 : (Int8.ofInt 20).toInt32 = (20 : Int32) := by decide
theorem cb_24 : (Int8.ofInt 24).toInt32 = (24 : Int32) := by decide
theorem cb_26 : (Int8.ofInt 26).toInt32 = (26 : Int32) := by decide
theorem cb_30 : (Int8.ofInt 30).toInt32 = (30 : Int32) := by decide
theorem cb_32 : (Int8.ofInt 32).toInt32 = (32 : Int32) := by decide
theorem cb_33 : (Int8.ofInt 33).toInt32 = (33 : Int32) := by decide
theorem cb_35 : (Int8.ofInt 35).toInt32 = (35 : Int32) := by decide
theorem cb_36 : (Int8.ofInt 36).toInt32 = (36 : Int32) := by decide
theorem cb_38 : (Int8.ofInt 38).toInt32 = (38 : Int32) := by decide
theorem cb_43 : (Int8.ofInt 43).toInt32 = (43 : Int32) := by decide
theorem cb_44 : (Int8.ofInt 44).toInt32 = (44 : Int32) := by decide
theorem cb_47 : (Int8.ofInt 47).toInt32 = (47 : Int32) := by decide
theorem cb_48 : (Int8.ofInt 48).toInt32 = (48 : Int32) := by decide
theorem cb_50 : (Int8.ofInt 50).toInt32 = (50 : Int32) := by decide
theorem cb_51 : (Int8.ofInt 51).toInt32 = (51 : Int32) := by decide
theorem cb_56 : (Int8.ofInt 56).toInt32 = (56 : Int32) := by decide
theorem cb_57 : (Int8.ofInt 57).toInt32 = (57 : Int32) := by decide
theorem cb_62 : (Int8.ofInt 62).toInt32 = (62 : Int32) := by decide
theorem cb_68 : (Int8.ofInt 68).toInt32 = (68 : Int32) := by decide
theorem cb_74 : (Int8.ofInt 74).toInt32 = (74 : Int32) := by decide
theorem cb_80 : (Int8.ofInt 80).toInt32 = (80 : Int32) := by decide
theorem cb_86 : (Int8.ofInt 86).toInt32 = (86 : Int32) := by decide
theorem cb_92 : (Int8.ofInt 92).toInt32 = (92 : Int32) := by decide
theorem cb_97 : (Int8.ofInt 97).toInt32 = (97 : Int32) := by decide
theorem cb_98 : (Int8.ofInt 98).toInt32 = (98 : Int32) := by decide
theorem cb_100 : (Int8.ofInt 100).toInt32 = (100 : Int32) := by decide
theorem cb_104 : (Int8.ofInt 104).toInt32 = (104 : Int32) := by decide
theorem cb_122 : (Int8.ofInt 122).toInt32 = (122 : Int32) := by decide
theorem cb_126 : (Int8.ofInt 126).toInt32 = (126 : Int32) := by decide
theorem ci_m8 : Int32.ofInt (-8) = (-8 : Int32) := by decide
theorem ci_m1 : Int32.ofInt (-1) = (-1 : Int32) := by decide
theorem ci_0 : Int32.ofInt 0 = (0 : Int32) := by decide
theorem ci_1 : Int32.ofInt 1 = (1 : Int32) := by decide
theorem ci_2 : Int32.ofInt 2 = (2 : Int32) := by decide
theorem ci_3 : Int32.ofInt 3 = (3 : Int32) := by decide
theorem ci_4 : Int32.ofInt 4 = (4 : Int32) := by decide
theorem ci_5 : Int32.ofInt 5 = (5 : Int32) := by decide
theorem cs_168 : (Int16.ofInt 168).toInt32 = (168 : Int32) := by decide
theorem cs_180 : (Int16.ofInt 180).toInt32 = (180 : Int32) := by decide
theorem cs_255 : (Int16.ofInt 255).toInt32 = (255 : Int32) := by decide
theorem cs_312 : (Int16.ofInt 312).toInt32 = (312 : Int32) := by decide
theorem cs_410 : (Int16.ofInt 410).toInt32 = (410 : Int32) := by decide
theorem cs_446 : (Int16.ofInt 446).toInt32 = (446 : Int32) := by decide
theorem cs_482 : (Int16.ofInt 482).toInt32 = (482 : Int32) := by decide
theorem cs_504 : (Int16.ofInt 504).toInt32 = (504 : Int32) := by decide
theorem cs_512 : (Int16.ofInt 512).toInt32 = (512 : Int32) := by decide
theorem cs_518 : (Int16.ofInt 518).toInt32 = (518 : Int32) := by decide
theorem cs_554 : (Int16.ofInt 554).toInt32 = (554 : Int32) := by decide
theorem cs_584 : (Int16.ofInt 584).toInt32 = (584 : Int32) := by decide
theorem cs_614 : (Int16.ofInt 614).toInt32 = (614 : Int32) := by decide
theorem cs_644 : (Int16.ofInt 644).toInt32 = (644 : Int32) := by decide
theorem cs_674 : (Int16.ofInt 674).toInt32 = (674 : Int32) := by decide
theorem cs_704 : (Int16.ofInt 704).toInt32 = (704 : Int32) := by decide
theorem cs_734 : (Int16.ofInt 734).toInt32 = (734 : Int32) := by decide
theorem cs_782 : (Int16.ofInt 782).toInt32 = (782 : Int32) := by decide
theorem cs_830 : (Int16.ofInt 830).toInt32 = (830 : Int32) := by decide
theorem cs_878 : (Int16.ofInt 878).toInt32 = (878 : Int32) := by decide
theorem cs_1058 : (Int16.ofInt 1058).toInt32 = (1058 : Int32) := by decide
theorem cs_1224 : (Int16.ofInt 1224).toInt32 = (1224 : Int32) := by decide
theorem cs_1238 : (Int16.ofInt 1238).toInt32 = (1238 : Int32) := by decide
theorem cs_1256 : (Int16.ofInt 1256).toInt32 = (1256 : Int32) := by decide
theorem cs_1400 : (Int16.ofInt 1400).toInt32 = (1400 : Int32) := by decide
theorem cs_1418 : (Int16.ofInt 1418).toInt32 = (1418 : Int32) := by decide
theorem cs_1598 : (Int16.ofInt 1598).toInt32 = (1598 : Int32) := by decide
theorem cs_1778 : (Int16.ofInt 1778).toInt32 = (1778 : Int32) := by decide
theorem cs_1786 : (Int16.ofInt 1786).toInt32 = (1786 : Int32) := by decide
theorem cs_1794 : (Int16.ofInt 1794).toInt32 = (1794 : Int32) := by decide
theorem cs_1830 : (Int16.ofInt 1830).toInt32 = (1830 : Int32) := by decide
theorem cs_1866 : (Int16.ofInt 1866).toInt32 = (1866 : Int32) := by decide
theorem cs_1902 : (Int16.ofInt 1902).toInt32 = (1902 : Int32) := by decide
theorem cs_2118 : (Int16.ofInt 2118).toInt32 = (2118 : Int32) := by decide
theorem cs_2718 : (Int16.ofInt 2718).toInt32 = (2718 : Int32) := by decide
theorem cs_3800 : (Int16.ofInt 3800).toInt32 = (3800 : Int32) := by decide
theorem cs_9999 : (Int16.ofInt 9999).toInt32 = (9999 : Int32) := by decide
theorem ifP {c : Prop} [Decidable c] {α : Type} {a b r : α} (hc : c) (h : (if c then a else b) = r) : a = r := by rw [if_pos hc] at h; exact h
theorem ifN {c : Prop} [Decidable c] {α : Type} {a b r : α} (hc : ¬ c) (h : (if c then a else b) = r) : b = r := by rw [if_neg hc] at h; exact h
theorem ifS {c : Prop} [Decidable c] {α : Type} {a : Option α} {r : α} (h : (if c then a else none) = some r) : c ∧ a = some r := by
  by_cases hc : c
  · rw [if_pos hc] at h; exact ⟨hc, h⟩
  · rw [if_neg hc] at h; cases h
theorem okZ_some {x r : Int32} {M MF : Mem} (h : okZ x M = some (r, MF)) : (x = 0 ∨ x = 1) ∧ x = r ∧ M = MF := by
  unfold okZ at h
  obtain ⟨h1, h2⟩ := ifS h
  cases h2
  exact ⟨h1, rfl, rfl⟩
section
variable {G : Gl} {B : Bx} {own : String} {cc : ByteArray} {ret : Option FieldType} {fr lo nL : Nat} {mn : String} {hh : List (Nat × Nat × Nat × Nat)} {pc : Nat} {ls : List (Nat × Value)} {st : List Value} {M : Mem}
theorem v_tsw {dflt lo' hi off : Int} {offs : Array Int} {len tgt : Nat} {y v : Int32} (hd : decode cc pc = .ok (.tableswitch dflt lo' hi offs, len)) (hx : y = v) (h1 : ¬ v.toInt < lo') (h2 : ¬ hi < v.toInt) (ho : offs[(v.toInt - lo').toNat]? = some off) (ht : (pc : Int) + off = (tgt : Int)) (k : V G (own, cc, ret, fr, lo, nL, mn, hh) B tgt ls st M) : V G (own, cc, ret, fr, lo, nL, mn, hh) B pc ls (.int y :: st) M := by
  rw [hx]
  exact v_tableIn hd h1 h2 ho ht k
theorem v_tswOut {dflt lo' hi : Int} {offs : Array Int} {len tgt : Nat} {y : Int32} (hd : decode cc pc = .ok (.tableswitch dflt lo' hi offs, len)) (hx : ∀ k : Int, lo' ≤ k → k ≤ hi → ¬ y = Int32.ofInt k) (ht : (pc : Int) + dflt = (tgt : Int)) (k : V G (own, cc, ret, fr, lo, nL, mn, hh) B tgt ls st M) : V G (own, cc, ret, fr, lo, nL, mn, hh) B pc ls (.int y :: st) M := by
  refine v_tableOut hd ?_ ht k
  rcases Int.lt_or_le y.toInt lo' with h | h
  · exact Or.inl h
  · rcases Int.lt_or_le hi y.toInt with h' | h'
    · exact Or.inr h'
    · exact absurd (Int32.ofInt_toInt y).symm (hx _ h h')
end
