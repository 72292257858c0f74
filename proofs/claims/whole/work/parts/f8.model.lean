/-! the reference, made -/
def flN (j : Nat) : Nat := ([1, 2, 3, 4, 5, 6, 8, 11, 13, 14, 15, 16] : List Nat).getD j 99
/-- the first i of its rows are there, and empty -/
def Fi (i : Nat) (M : Mem) : Prop := (mK M 908).1 = 12 ∧ mN M = 909 + i ∧ F99 M ∧ ∀ j, j < i → mK M (909 + j) = KA (j + 1) ∧ mR M 908 (flN j) = some (909 + j) ∧ (∀ k, mI M (909 + j) k = nW 0) ∧ (∀ k, mL M (909 + j) k = 0) ∧ ∀ k, mF M (909 + j) k = 0
theorem fld {M : Mem} {i : Nat} (kd n f : Nat) (h : Fi i M) (hi : i < 12) (hk : KA (i + 1) = (kd, n)) (hf : flN i = f) (hd : ∀ j, j < i → flN j ≠ f) (hn : n ≤ 100000) (h99 : kd ≠ 99) : ∃ M1 M2, nA kd (nW n) M = some (909 + i, M1) ∧ pR 12 f 908 (909 + i) M1 = some M2 ∧ Mp (fun a => a = 908) 1 n M M2 ∧ mI M2 908 = mI M 908 ∧ Fi (i + 1) M2 := by
  obtain ⟨k9, hN, hF, hj⟩ := h
  obtain ⟨M1, e1, m1, n1, k1, i1, l1, f1⟩ := nA_new kd n hF (by omega) hn
  rw [hN] at e1 k1 i1 l1 f1 n1
  have s1 := r99 m1.1 k9 (by decide) (fun h => h)
  have k91 := k99 m1.1 k9 (by decide)
  have F2 := fq_R M1 f (some (909 + i)) (show ¬ tz 908 by simp only [tz]; omega)
  have e2 : pR 12 f 908 (909 + i) M1 = some (sR M1 (up2 (mR M1) 908 f (some (909 + i)))) := pR_ok k91 (by rw [k1]; exact h99)
  have m2 := Mp_fr F2 m1.2.2
  have q := (m1.mp (fun a => a = 908)).trans m2
  refine ⟨M1, _, e1, e2, q, s1.2.1, k91, n1, q.2.2, fun j hj' => ?_⟩
  by_cases z : j = i
  · subst z
    refine ⟨by rw [hk]; exact k1, ?_, i1, l1, f1⟩
    show up2 (mR M1) 908 f (some (909 + j)) 908 (flN j) = _
    rw [hf]; exact up2_eq _ _ _ _
  · obtain ⟨a1, a2, a3, a4, a5⟩ := hj j (by omega)
    have hne : (mK M (909 + j)).1 ≠ 99 := by
      rw [a1]
      have : j = 0 ∨ j = 1 ∨ j = 2 ∨ j = 3 ∨ j = 4 ∨ j = 5 ∨ j = 6 ∨ j = 7 ∨ j = 8 ∨ j = 9 ∨ j = 10 ∨ j = 11 := by omega
      rcases this with rfl | rfl | rfl | rfl | rfl | rfl | rfl | rfl | rfl | rfl | rfl | rfl <;> decide
    obtain ⟨g1, g2, g3, g4⟩ := q.1.2 (909 + j) hne (Or.inr (by omega))
    refine ⟨by rw [q.1.1 _ hne]; exact a1, ?_, fun k => by rw [g1]; exact a3 k, fun k => by rw [g2]; exact a4 k, fun k => by rw [g3]; exact a5 k⟩
    show up2 (mR M1) 908 f (some (909 + i)) 908 (flN j) = _
    rw [up2_nj _ _ _ _ (hd j (by omega)), s1.1]; exact a2
theorem fd {i f : Nat} (hi : i ≤ 12) (h : ∀ j, j < 12 → j < i → flN j ≠ f) : ∀ j, j < i → flN j ≠ f := fun j hj => h j (by omega) hj
