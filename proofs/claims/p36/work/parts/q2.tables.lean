/-- the classes of arrays -/
theorem st_prim {s : State} {a : Array Value} {ty : FieldType} (h : (Cond.arrayClass ty).before a s = true) (hp : ∀ cA, s.vm.findClass ("[" ++ ty.toString) = some cA → va_RA s cA ty) : ∃ cA, ArrOfT s cA ty ∧ va_RA s cA ty := by
  obtain ⟨cA, kA, comp, h1, h2, h3⟩ := Cond.arrayClass_spec h
  exact ⟨cA, fun n z => ⟨fun k h => (by cases h), kA, h2, comp, h3⟩, hp cA h1⟩
theorem st_obj {s : State} {a : Array Value} {C : String} (h : (Cond.arrayOver (.object C)).before a s = true) : ∃ cA, ArrOfT s cA (.object C) ∧ va_RA s cA (.object C) := by
  obtain ⟨comp, c, k, h1, h2, h3, h4, h5⟩ := Cond.arrayOver_spec h
  exact ⟨c, fun n z => ⟨fun k h => (by cases h), k, h3, comp, h4⟩, k, comp, h3, h4, h1, h5⟩
theorem st_ov0 : Cond.arrayOver (.object RX0) ∈ lw_tbl := by decide +kernel
theorem st_ov1 : Cond.arrayOver (.object RX1) ∈ lw_tbl := by decide +kernel
theorem st_ov3 : Cond.arrayOver (.object RX3) ∈ lw_tbl := by decide +kernel
theorem st_ov6 : Cond.arrayOver (.object RX6) ∈ lw_tbl := by decide +kernel
theorem st_ov8 : Cond.arrayOver (.object RX8) ∈ lw_tbl := by decide +kernel
theorem st_ov10 : Cond.arrayOver (.object RX10) ∈ lw_tbl := by decide +kernel
theorem st_in0 : Cond.instantiable RX0 8 ∈ lw_tbl := by decide +kernel
theorem st_in1 : Cond.instantiable RX1 7 ∈ lw_tbl := by decide +kernel
theorem st_in2 : Cond.instantiable RX2 2 ∈ lw_tbl := by decide +kernel
theorem st_in3 : Cond.instantiable RX3 6 ∈ lw_tbl := by decide +kernel
theorem st_in4 : Cond.instantiable RX4 3 ∈ lw_tbl := by decide +kernel
theorem st_in5 : Cond.instantiable RX5 10 ∈ lw_tbl := by decide +kernel
theorem st_in6 : Cond.instantiable RX6 4 ∈ lw_tbl := by decide +kernel
theorem st_in7 : Cond.instantiable RX7 11 ∈ lw_tbl := by decide +kernel
theorem st_in8 : Cond.instantiable RX8 4 ∈ lw_tbl := by decide +kernel
theorem st_in9 : Cond.instantiable RX9 3 ∈ lw_tbl := by decide +kernel
theorem st_in10 : Cond.instantiable RX10 5 ∈ lw_tbl := by decide +kernel
theorem st_in11 : Cond.instantiable RX11 9 ∈ lw_tbl := by decide +kernel
theorem st_tys {s : State} {b : Addr} (hts : ∀ w ∈ lw_tbl, w.before #[Value.ref b] s = true) : ∃ cT : Nat → ClassId, ∀ j, j < 11 → ArrOfT s (cT j) (tyA.getD j .int) ∧ va_RA s (cT j) (tyA.getD j .int) := by
  have gw : ∀ {w}, w ∈ GW → w ∈ lw_tbl := fun h => (List.mem_filter.mp h).1
  have key : ∀ j, j < 11 → ∃ cA, ArrOfT s cA (tyA.getD j .int) ∧ va_RA s cA (tyA.getD j .int) := fun j hj => by
    have h : j = 0 ∨ j = 1 ∨ j = 2 ∨ j = 3 ∨ j = 4 ∨ j = 5 ∨ j = 6 ∨ j = 7 ∨ j = 8 ∨ j = 9 ∨ j = 10 := by omega
    rcases h with rfl | rfl | rfl | rfl | rfl | rfl | rfl | rfl | rfl | rfl | rfl
    · exact st_prim (ty := .int) (hts _ (gw aw_int)) (fun _ h => h)
    · exact st_prim (ty := .long) (hts _ (gw aw_long)) (fun _ h => h)
    · exact st_prim (ty := .int) (hts _ (gw aw_int)) (fun _ h => h)
    · exact st_prim (ty := .char) (hts _ (gw aw_char)) (fun _ h => h)
    · exact st_prim (ty := .boolean) (hts _ (gw aw_boolean)) (fun _ h => h)
    · exact st_obj (C := RX0) (hts _ st_ov0)
    · exact st_obj (C := RX1) (hts _ st_ov1)
    · exact st_obj (C := RX3) (hts _ st_ov3)
    · exact st_obj (C := RX6) (hts _ st_ov6)
    · exact st_obj (C := RX8) (hts _ st_ov8)
    · exact st_obj (C := RX10) (hts _ st_ov10)
  exact ⟨fun j => if h : j < 11 then (key j h).choose else 0, fun j hj => by
    simp only [dif_pos hj]; exact (key j hj).choose_spec⟩
theorem st_cls {s : State} {b : Addr} (hts : ∀ w ∈ lw_tbl, w.before #[Value.ref b] s = true) : ∃ (dC : Nat → ClassId) (dI : Nat → Nat → Nat), ∀ (k : Nat) (q : vw_C), vwCl[k]? = some q → u_Kn s q.1 q.2.1 q.2.2 (dC k) (dI k) := by
  have gw : ∀ {w}, w ∈ GW → w ∈ lw_tbl := fun h => (List.mem_filter.mp h).1
  have key : ∀ (k : Nat) (q : vw_C), vwCl[k]? = some q → ∃ (cC : ClassId) (iS : Nat → Nat), u_Kn s q.1 q.2.1 q.2.2 cC iS := by
    intro k q hq
    have hk : k < 12 := (List.getElem?_eq_some_iff.mp hq).1
    have h : k = 0 ∨ k = 1 ∨ k = 2 ∨ k = 3 ∨ k = 4 ∨ k = 5 ∨ k = 6 ∨ k = 7 ∨ k = 8 ∨ k = 9 ∨ k = 10 ∨ k = 11 := by omega
    rcases h with rfl | rfl | rfl | rfl | rfl | rfl | rfl | rfl | rfl | rfl | rfl | rfl
    · cases hq; exact u_known (C := RX0) (T := TX0) (N := 8) (n := 8) hts (fun w hw => gw (inGX0 w hw)) (hts _ st_in0)
    · cases hq; exact u_known (C := RX1) (T := TX1) (N := 7) (n := 7) hts (fun w hw => gw (inGX1 w hw)) (hts _ st_in1)
    · cases hq; exact u_known (C := RX2) (T := TX2) (N := 2) (n := 2) hts (fun w hw => gw (inGX2 w hw)) (hts _ st_in2)
    · cases hq; exact u_known (C := RX3) (T := TX3) (N := 6) (n := 6) hts (fun w hw => gw (inGX3 w hw)) (hts _ st_in3)
    · cases hq; exact u_known (C := RX4) (T := TX4) (N := 3) (n := 3) hts (fun w hw => gw (inGX4 w hw)) (hts _ st_in4)
    · cases hq; exact u_known (C := RX5) (T := TX5) (N := 10) (n := 10) hts (fun w hw => gw (inGX5 w hw)) (hts _ st_in5)
    · cases hq; exact u_known (C := RX6) (T := TX6) (N := 4) (n := 4) hts (fun w hw => gw (inGX6 w hw)) (hts _ st_in6)
    · cases hq; exact u_known (C := RX7) (T := TX7) (N := 11) (n := 11) hts (fun w hw => gw (inGX7 w hw)) (hts _ st_in7)
    · cases hq; exact u_known (C := RX8) (T := TX8) (N := 4) (n := 4) hts (fun w hw => gw (inGX8 w hw)) (hts _ st_in8)
    · cases hq; exact u_known (C := RX9) (T := TX9) (N := 3) (n := 3) hts (fun w hw => gw (inGX9 w hw)) (hts _ st_in9)
    · cases hq; exact u_known (C := RX10) (T := TX10) (N := 5) (n := 5) hts (fun w hw => gw (inGX10 w hw)) (hts _ st_in10)
    · cases hq; exact u_known (C := RX11) (T := TX11) (N := 9) (n := 9) hts (fun w hw => gw (inGX11 w hw)) (hts _ st_in11)
  refine ⟨fun k => if h : k < 12 then (key k _ (List.getElem?_eq_getElem (l := vwCl) h)).choose else 0, fun k => if h : k < 12 then (key k _ (List.getElem?_eq_getElem (l := vwCl) h)).choose_spec.choose else fun _ => 0, fun k q hq => ?_⟩
  have hk : k < 12 := (List.getElem?_eq_some_iff.mp hq).1
  simp only [dif_pos hk]
  have e : q = vwCl[k] := (List.getElem?_eq_some_iff.mp hq).2.symm
  subst e
  exact (key k _ (List.getElem?_eq_getElem (l := vwCl) hk)).choose_spec.choose_spec
