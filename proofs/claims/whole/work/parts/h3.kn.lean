/-- what is known of the tables at the law's start -/
theorem st_tab : ∀ w ∈ BW, w ∈ lw_tbl ∧ bw w = true := fun w hw => ⟨(List.mem_filter.mp hw).1, (List.mem_filter.mp hw).2⟩
theorem start_KN {s : State} {b : Addr} (hts : ∀ w ∈ lw_tbl, w.before #[Value.ref b] s = true) (hgv : (Jvm.Cond.and given_1 narrow_1).before #[Value.ref b] s = true) (hb : ∀ w ∈ BW, w.before #[] s = true) {L : Nat} {xs : Nat → Int32} (hX : va_X b L xs s s.heap) (hbl : b < s.heap.size) : ∃ (G : Gl) (ρ : Nat → Nat), G.2.2.2 = (s.heap.size, L, xs) ∧ ρ SCR = b ∧ KN G ρ s := by
  obtain ⟨dC, dI, hC⟩ := st_cls hts
  obtain ⟨cT, hT⟩ := st_tys hts
  have hA : ∀ a : Nat, a < s.heap.size → ¬ (fun q : Nat => s.heap.size ≤ q) a := fun a h => by show ¬ s.heap.size ≤ a; omega
  have hS := st_static hts hgv hA
  obtain ⟨z1, z2, z3⟩ := st_zq hts hgv hA
  obtain ⟨t0, a0, b0⟩ := hS 0 (by omega)
  obtain ⟨t1, a1, b1⟩ := hS 1 (by omega)
  obtain ⟨t2, a2, b2⟩ := hS 2 (by omega)
  refine ⟨(dC, dI, cT, s.heap.size, L, xs), fun a => if a = SCR then b else if a = SCR + 1 then t0 else if a = SCR + 1 + 1 then t1 else t2, rfl, if_pos rfl, ⟨hC, fun k q hq => ?_⟩, hb, Nat.le_refl _, fun i hi => ?_, z1, z2, z3, ?_⟩
  · unfold tyG at hq
    have hk : k < 11 := by
      have := (List.getElem?_eq_some_iff.mp hq).1
      simpa using this
    rw [List.getElem?_map, List.getElem?_range hk] at hq
    cases hq
    exact hT k hk
  · have h3 : i = 0 ∨ i = 1 ∨ i = 2 := by omega
    rcases h3 with rfl | rfl | rfl
    · have e1 : ¬ SCR + 1 + 0 = SCR := by omega
      simp only [e1, ↓reduceIte]; exact ⟨a0, b0⟩
    · have e1 : ¬ SCR + 1 + 1 = SCR := by omega
      have e2 : ¬ SCR + 1 + 1 = SCR + 1 := by omega
      simp only [e1, e2, ↓reduceIte]; exact ⟨a1, b1⟩
    · have e1 : ¬ SCR + 1 + 2 = SCR := by omega
      have e2 : ¬ SCR + 1 + 2 = SCR + 1 := by omega
      have e3 : ¬ SCR + 1 + 2 = SCR + 1 + 1 := by omega
      simp only [e1, e2, e3, ↓reduceIte]; exact ⟨a2, b2⟩
  · simp only [↓reduceIte]
    exact ⟨hX, hbl, hA b hbl⟩
