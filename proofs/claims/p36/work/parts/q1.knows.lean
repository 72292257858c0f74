/-! THE MACHINE'S SIDE: what the start gives -/
theorem st_lay0 : Cond.laysStatic RX11 "OPTION_LEAST" "[I" ∈ lw_tbl := by decide +kernel
theorem st_arr0 : Cond.arrayOf (Term.static RX11 "OPTION_LEAST" "[I") .int ∈ flatC (Jvm.Cond.and given_1 narrow_1) ∧ Cond.eq (.length (Term.static RX11 "OPTION_LEAST" "[I")) (.int 4) ∈ flatC (Jvm.Cond.and given_1 narrow_1) := by decide +kernel
theorem st_el0 : ∀ j, j < 4 → Cond.eq (.elem (Term.static RX11 "OPTION_LEAST" "[I") (.int (Int32.ofNat j))) (.int (optRow 0 j)) ∈ flatC (Jvm.Cond.and given_1 narrow_1) := by decide +kernel
theorem st_lay1 : Cond.laysStatic RX11 "OPTION_GREATEST" "[I" ∈ lw_tbl := by decide +kernel
theorem st_arr1 : Cond.arrayOf (Term.static RX11 "OPTION_GREATEST" "[I") .int ∈ flatC (Jvm.Cond.and given_1 narrow_1) ∧ Cond.eq (.length (Term.static RX11 "OPTION_GREATEST" "[I")) (.int 4) ∈ flatC (Jvm.Cond.and given_1 narrow_1) := by decide +kernel
theorem st_el1 : ∀ j, j < 4 → Cond.eq (.elem (Term.static RX11 "OPTION_GREATEST" "[I") (.int (Int32.ofNat j))) (.int (optRow 1 j)) ∈ flatC (Jvm.Cond.and given_1 narrow_1) := by decide +kernel
theorem st_lay2 : Cond.laysStatic RX11 "OPTION_FIRST" "[I" ∈ lw_tbl := by decide +kernel
theorem st_arr2 : Cond.arrayOf (Term.static RX11 "OPTION_FIRST" "[I") .int ∈ flatC (Jvm.Cond.and given_1 narrow_1) ∧ Cond.eq (.length (Term.static RX11 "OPTION_FIRST" "[I")) (.int 4) ∈ flatC (Jvm.Cond.and given_1 narrow_1) := by decide +kernel
theorem st_el2 : ∀ j, j < 4 → Cond.eq (.elem (Term.static RX11 "OPTION_FIRST" "[I") (.int (Int32.ofNat j))) (.int (optRow 2 j)) ∈ flatC (Jvm.Cond.and given_1 narrow_1) := by decide +kernel
theorem st_ini : Cond.initialized RX11 ∈ lw_tbl := (List.mem_filter.mp nw_X11).1
theorem st_static {s : State} {b : Addr} {A : Nat → Prop} (hts : ∀ w ∈ lw_tbl, w.before #[Value.ref b] s = true) (hgv : (Jvm.Cond.and given_1 narrow_1).before #[Value.ref b] s = true) (hA : ∀ a : Nat, a < s.heap.size → ¬ A a) : ∀ i, i < 3 → ∃ t, va_Z RX11 (stN i) "[I" (.ref t) A s s.heap ∧ va_T .int t 4 (fun j => .int (optRow i j)) A s s.heap := by
  have hs := flat_of_before _ hgv
  have one : ∀ (nm : String) (i : Nat), Cond.laysStatic RX11 nm "[I" ∈ lw_tbl → (Cond.arrayOf (Term.static RX11 nm "[I") .int ∈ flatC (Jvm.Cond.and given_1 narrow_1) ∧ Cond.eq (.length (Term.static RX11 nm "[I")) (.int 4) ∈ flatC (Jvm.Cond.and given_1 narrow_1)) → (∀ j, j < 4 → Cond.eq (.elem (Term.static RX11 nm "[I") (.int (Int32.ofNat j))) (.int (optRow i j)) ∈ flatC (Jvm.Cond.and given_1 narrow_1)) → ∃ t, va_Z RX11 nm "[I" (.ref t) A s s.heap ∧ va_T .int t 4 (fun j => .int (optRow i j)) A s s.heap := fun nm i h1 h2 h3 => by
    obtain ⟨t, ht, hT⟩ := va_Tof (f := fun j => .int (optRow i j)) (A := A) (N := 4) (by decide) (hs _ h2.1) (va_eqt (hs _ h2.2)) (fun j hj => va_eqt (hs _ (h3 j hj))) hA
    exact ⟨t, va_Zof (hts _ h1) (hts _ st_ini) ht hA, hT⟩
  intro i hi
  have h3 : i = 0 ∨ i = 1 ∨ i = 2 := by omega
  rcases h3 with rfl | rfl | rfl
  · exact one _ 0 st_lay0 st_arr0 st_el0
  · exact one _ 1 st_lay1 st_arr1 st_el1
  · exact one _ 2 st_lay2 st_arr2 st_el2
theorem st_ncs : ∀ q ∈ ncs, Cond.not (.castable q.1 q.2) ∈ flatC (Jvm.Cond.and given_1 narrow_1) := by decide +kernel
theorem st_thr : (Cond.laysStatic Bundle.tN "UNASSIGNED_STACK" Bundle.steD ∈ lw_tbl ∧ Cond.laysStatic Bundle.tN "SUPPRESSED_SENTINEL" Bundle.listD ∈ lw_tbl ∧ Cond.initialized Bundle.tN ∈ lw_tbl) ∧ Cond.isRef (.static Bundle.tN "UNASSIGNED_STACK" Bundle.steD) ∈ flatC (Jvm.Cond.and given_1 narrow_1) ∧ Cond.isRef (.static Bundle.tN "SUPPRESSED_SENTINEL" Bundle.listD) ∈ flatC (Jvm.Cond.and given_1 narrow_1) := by decide +kernel
theorem st_zq {s : State} {b : Addr} {A : Nat → Prop} (hts : ∀ w ∈ lw_tbl, w.before #[Value.ref b] s = true) (hgv : (Jvm.Cond.and given_1 narrow_1).before #[Value.ref b] s = true) (hA : ∀ a : Nat, a < s.heap.size → ¬ A a) : vx_Zq Bundle.tN "UNASSIGNED_STACK" Bundle.steD A s s.heap ∧ vx_Zq Bundle.tN "SUPPRESSED_SENTINEL" Bundle.listD A s s.heap ∧ ∀ q ∈ ncs, va_Nc q.1 q.2 s := by
  have hs := flat_of_before _ hgv
  obtain ⟨⟨h1, h2, h3⟩, h4, h5⟩ := st_thr
  exact ⟨vx_Zqof (hts _ h1) (hts _ h3) (hs _ h4) hA, vx_Zqof (hts _ h2) (hts _ h3) (hs _ h5) hA, fun q hq => va_Nc.of (hs _ (st_ncs q hq))⟩
