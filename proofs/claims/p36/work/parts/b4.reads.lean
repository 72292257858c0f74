/-! CALLS THAT READ, and setOption -/
theorem idx {x : Int32} {n : Nat} (hn : n < 100000) : (∃ k, k < n ∧ x = nW k ∧ inB x (nW 0) (nW n - nW 1) = true) ∨ (inB x (nW 0) (nW n - nW 1) = false ∧ (x < nW 0 ∨ (¬ x < nW 0 ∧ nW n ≤ x))) := by
  by_cases h0 : x < nW 0
  · right
    have : ¬ nW 0 ≤ x := Int32.not_le.mpr h0
    exact ⟨by simp only [inB, this, decide_false, Bool.false_and], Or.inl h0⟩
  · obtain ⟨k, hk, rfl⟩ := nW_of h0
    by_cases h1 : k < n
    · left
      refine ⟨k, h1, rfl, ?_⟩
      rw [nW_sub (by omega)]; exact inB_of (by omega) (by omega) (by omega)
    · right
      refine ⟨?_, Or.inr ⟨h0, by rw [nW_le (by omega) hk]; omega⟩⟩
      by_cases hn0 : n = 0
      · subst hn0
        have e : nW 0 - nW 1 = -nW 1 := by decide
        have : ¬ nW k ≤ -nW 1 := by
          have h2 : (-nW 1 : Int32).toInt = -1 := by decide
          rw [Int32.le_iff_toInt_le, nW_int hk, h2]; omega
        rw [e]; simp only [inB, this, decide_false, Bool.and_false]
      · rw [nW_sub (by omega)]; exact inB_not hk (by omega) (by omega) (by omega)
/-! setOption -/
theorem SI_opt {σ : Sg} {sc : Nat → Int32} (h : SI σ) (ho : OpOk sc) : SI (uSc σ sc) := ⟨⟨ho, fun c hc => ⟨ho.1, (h.1.2 c hc).2⟩⟩, h.2⟩
theorem StR_opt {M : Mem} {S k : Nat} {σ : Sg} (v : Int32) (hZ : inZ S) (h : StR M S σ) (hk : k < 4) : gR 7 6 S M = some (S + 444) ∧ aI 13 (S + 444) (nW k) M = some (gSc σ (10 + k)) ∧ ∃ M1, wI 13 (S + 444) (nW k) v M = some M1 ∧ Fr (fun a => a = S + 444) M M1 ∧ StR M1 S (uSc σ (fset (gSc σ) (10 + k) v)) := by
  have k0 := CR_k (StR_get h (c := 0) (by omega))
  have hz : ¬ tz (S + 444) := by unfold inZ at hZ; simp only [tz]; omega
  have F := fq_I M k v hz
  obtain ⟨⟨⟨h1, ⟨x, h2, h2'⟩, h3⟩, h4, h5, h6, h7, h8⟩, hc, hs, hr, ht⟩ := h
  have n1 : S ≠ S + 444 := by omega
  have n2 : S + 445 ≠ S + 444 := by omega
  have hk9 : (mK M S).1 ≠ 99 := by rw [h1]; decide
  refine ⟨k0.2.2.2.2.2.2.2.2, ?_, sI M (up2 (mI M) (S + 444) k v), ?_, F, ⟨⟨h1, ⟨x, h2, h2'.gr F.gr⟩, h3⟩, ?_, h5, ⟨h6.1, fun j hj => ?_⟩, ⟨h7.1, fun j hj => ?_⟩, h8⟩, fun c hc6 => (hc c hc6).gr F.gr (fun b _ _ => by omega), hs.gr F.gr hk9 (by omega) (fun a _ _ => by omega), hr.gr F.gr hk9 (by omega) (fun a _ _ => by omega), ht.gr F.gr (by omega)⟩
  · simp (disch := omega) only [aI, h6.1, ↓reduceIte, ix_nW, Option.map_some, h6.2 k hk]
  · simp (disch := omega) only [wI, h6.1, ↓reduceIte, ix_nW, Option.map_some, nar13]
  · show up2 (mI M) (S + 444) k v S 9 = fset (gSc σ) (10 + k) v 14
    rw [up2_ne _ _ _ _ n1, fset_ne _ _ (by omega), h4]
  · show up2 (mI M) (S + 444) k v (S + 444) j = fset (gSc σ) (10 + k) v (10 + j)
    by_cases he : j = k
    · subst he; rw [up2_eq, fset_eq]
    · rw [up2_nj _ _ _ _ he, fset_ne _ _ (by omega), h6.2 j hj]
  · show up2 (mI M) (S + 444) k v (S + 445) j = fset (gSc σ) (10 + k) v j
    rw [up2_ne _ _ _ _ n2, fset_ne _ _ (by omega), h7.2 j hj]
