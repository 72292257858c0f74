/-! SUBSCRIPTIONS ASKED FOR -/
theorem c_sub {M : Mem} {A : Wh} (h : BrR M A) {c : Nat} (hc : c < 6) (x : Int32) : f_X11_requireSubscription 0 (nW c) x M = if inB x (nW 0) (nW (cL (gCl (oS A) c) 3).1 - nW 1) = true then some (.inl (), M) else some (.inr 3, xM M) := by
  obtain ⟨k1, k2, _⟩ := BrR_k h
  obtain ⟨r1, r2, r3, r4, r5⟩ := BrR_c h hc
  obtain ⟨s0, s1, s5, s7, s6, s8, s9⟩ := BrR_s h hc
  have hSu := (h.2.2.2.2.2.2.2.1 c hc).2.2.2.2.2.1
  have l6 := hSu.1
  have gn : aN (8 + 2 + 60 * c + 34 + 2) M = some (nW 6) := by
    obtain ⟨_, p, hp, _⟩ := hSu
    have := hp.1
    simp only [aN, this]; rfl
  rcases idx (x := x) (show (cL (gCl (oS A) c) 3).1 < 100000 by omega) with ⟨j, hj, rfl, hi⟩ | ⟨hi, hn⟩
  · have n0 : ¬ nW j < nW 0 := by rw [nW_lt (by omega) (by omega)]; omega
    have n1 : ¬ nW (cL (gCl (oS A) c) 3).1 ≤ nW j := by rw [nW_le (by omega) (by omega)]; omega
    have n5 : nW j < nW 6 := by rw [nW_lt (by omega) (by omega)]; omega
    rw [hi, if_pos rfl]
    simp only [f_X11_requireSubscription, k1, ↓reduceIte, k2, r1, r2, r4, nW_lit, n0, s7, n1, s6, gn, n5, Option.bind_some]
  · rw [hi, if_neg (by decide)]
    rcases hn with h | ⟨h, h'⟩
    · simp only [f_X11_requireSubscription, f_X11_requireSubscription_J34, k1, ↓reduceIte, k2, r1, r2, r4, nW_lit, h, Option.bind_some]
    · simp only [f_X11_requireSubscription, f_X11_requireSubscription_J34, k1, ↓reduceIte, k2, r1, r2, r4, nW_lit, h, s7, h', Option.bind_some]
theorem c_subRow {M : Mem} {A : Wh} (h : BrR M A) {c j : Nat} (hc : c < 6) (hj : j < (cL (gCl (oS A) c) 3).1) : ∃ p y, aR 22 (8 + 2 + 60 * c + 34 + 2) (nW j) M = some p ∧ gI 8 1 p M = some (((cL (gCl (oS A) c) 3).2 j).2 1) ∧ gI 8 2 p M = some (((cL (gCl (oS A) c) 3).2 j).2 2) ∧ gI 8 3 p M = some (((cL (gCl (oS A) c) 3).2 j).2 3) ∧ gR 8 0 p M = some y ∧ TextR M y ((cL (gCl (oS A) c) 3).2 j).1 := by
  have hSu := (h.2.2.2.2.2.2.2.1 c hc).2.2.2.2.2.1
  obtain ⟨p, e, _, hp⟩ := SubsR_at hSu hj
  obtain ⟨g1, g2, g3, y, gy, hy⟩ := SuR_get hp
  exact ⟨p, y, e, g1, g2, g3, gy, hy⟩
def relV (x y : Txt) : Int32 := if spMeets x y = true then (if spCovers x y = true then (if spCovers y x = true then nW 7 else nW 3) else (if spCovers y x = true then nW 5 else nW 1)) else nW 0
