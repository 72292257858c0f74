/-- what is known of the tables at the law's start -/
theorem st_tab : ∀ w ∈ BW, w ∈ lw_tbl ∧ bw w = true := fun w hw => ⟨(List.mem_filter.mp hw).1, (List.mem_filter.mp hw).2⟩
def rho0 (b : Nat) (st adK adV : Nat → Nat) (a : Nat) : Nat := if a = SCR then b else if a < SCR + 16 then st (a - SCR) else if a < SCR + 64 then adK (a - (SCR + 16)) else adV (a - (SCR + 64))
theorem rho_b {b : Nat} {st adK adV : Nat → Nat} : rho0 b st adK adV SCR = b := if_pos rfl
theorem rho_s {b : Nat} {st adK adV : Nat → Nat} {a j : Nat} (h : a = SCR + j) (h1 : 0 < j) (h2 : j < 16) : rho0 b st adK adV a = st j := by
  unfold rho0
  rw [if_neg (by omega), if_pos (by omega), show a - SCR = j by omega]
theorem rho_k {b : Nat} {st adK adV : Nat → Nat} {i : Nat} (h : i < 48) : rho0 b st adK adV (SCR + 16 + i) = adK i := by
  unfold rho0
  rw [if_neg (by omega), if_neg (by omega), if_pos (by omega), show SCR + 16 + i - (SCR + 16) = i by omega]
theorem rho_v {b : Nat} {st adK adV : Nat → Nat} {i : Nat} : rho0 b st adK adV (SCR + 64 + i) = adV i := by
  unfold rho0
  rw [if_neg (by omega), if_neg (by omega), if_neg (by omega), show SCR + 64 + i - (SCR + 64) = i by omega]
theorem T_congr {ty : FieldType} {t N : Nat} {f f' : Nat → Value} {A : Nat → Prop} {U : State} {H : Heap} (hf : ∀ j, j < N → f j = f' j) (h : va_T ty t N f A U H) : va_T ty t N f' A U H := by
  obtain ⟨cell, a1, a2, a3, a4, a5, a6, a7⟩ := h
  exact ⟨cell, a1, a2, a3, a4, a5, fun j hj => (a6 j hj).trans (congrArg some (hf j hj)), a7⟩
def st0 (t0 t1 t2 f0 f1 fm : Nat) (j : Nat) : Nat := if j = 1 then t0 else if j = 2 then t1 else if j = 3 then t2 else if j = 4 then f0 else if j = 5 then f1 else fm
theorem start_Str {s : State} {b : Addr} {G : Gl} (hts : ∀ w ∈ lw_tbl, w.before #[Value.ref b] s = true) (hgv : (Jvm.Cond.and given_1 narrow_1).before #[Value.ref b] s = true) (hA : ∀ a : Nat, a < s.heap.size → ¬ AO G a) (t0 t1 t2 : Nat) : ∃ (f0 f1 fm : Nat) (adK adV : Nat → Nat), KStr G (rho0 b (st0 t0 t1 t2 f0 f1 fm) adK adV) s := by
  have hs := flat_of_before _ hgv
  obtain ⟨adK, adV, hS, hK⟩ := st_txt (A := AO G) hgv hA
  obtain ⟨f0, a0, b0⟩ := st_rows (A := AO G) hts hgv hA hK 0 (by omega)
  obtain ⟨f1, a1, b1⟩ := st_rows (A := AO G) hts hgv hA hK 1 (by omega)
  obtain ⟨-, i1, i2, i3, i4⟩ := sf_ini
  have hq := va_Zqof (A := AO G) (hts _ i4) (hts _ i2) (hs _ sf_cmp.2) hA
  have hc : va_Z "java/lang/String" "COMPACT_STRINGS" "Z" (.int 1) (AO G) s s.heap := va_Zof (hts _ i3) (hts _ i1) (va_eqi (hs _ sf_cmp.1)) hA
  have main : ∀ fm, (va_Z qfC qfN qfD .null (AO G) s s.heap ∨ va_Z qfC qfN qfD (.ref fm) (AO G) s s.heap) → KStr G (rho0 b (st0 t0 t1 t2 f0 f1 fm) adK adV) s := fun fm hf => by
    refine ⟨fun i hi => ?_, ⟨fun i hi => ?_, fun i j hi hj e => ?_⟩, fun i hi => ?_, hc, ?_⟩
    · have h2 : i = 0 ∨ i = 1 := by omega
      rcases h2 with rfl | rfl
      · rw [rho_s (j := 4) (by omega) (by omega) (by omega)]
        exact ⟨a0, T_congr (fun j hj => by rw [rho_k (by have := sf_lt 0 (by omega) j hj; omega)]) b0⟩
      · rw [rho_s (j := 5) (by omega) (by omega) (by omega)]
        exact ⟨a1, T_congr (fun j hj => by rw [rho_k (by have := sf_lt 1 (by omega) j hj; omega)]) b1⟩
    · dsimp only
      rw [rho_k (by omega), rho_v]
      exact hS.1 i hi
    · dsimp only at e
      rw [rho_k (by omega), rho_k (by omega)] at e
      exact hS.2 i j hi hj e
    · rw [rho_k (by omega)]
      exact vk_R.of (hts _ (ss_ref i hi)) (hK i hi)
    · rw [rho_s (j := 6) (by omega) (by omega) (by omega)]
      exact hf
  rcases hq with h | ⟨t, h⟩
  · exact ⟨f0, f1, 0, adK, adV, main 0 (Or.inl h)⟩
  · exact ⟨f0, f1, t, adK, adV, main t (Or.inr h)⟩
theorem start_KN {s : State} {b : Addr} (hts : ∀ w ∈ lw_tbl, w.before #[Value.ref b] s = true) (hgv : (Jvm.Cond.and given_1 narrow_1).before #[Value.ref b] s = true) (hb : ∀ w ∈ BW, w.before #[] s = true) {L : Nat} {xs : Nat → Int32} (hX : va_X b L xs s s.heap) (hbl : b < s.heap.size) : ∃ (G : Gl) (ρ : Nat → Nat), G.2.2.2 = (s.heap.size, L, xs) ∧ ρ SCR = b ∧ KN G ρ s := by
  obtain ⟨dC, dI, hC⟩ := st_cls hts
  obtain ⟨cT, hT⟩ := st_tys hts
  have hA : ∀ a : Nat, a < s.heap.size → ¬ (fun q : Nat => s.heap.size ≤ q) a := fun a h => by show ¬ s.heap.size ≤ a; omega
  have hS := st_static hts hgv hA
  obtain ⟨z1, z2, z3⟩ := st_zq hts hgv hA
  obtain ⟨t0, a0, b0⟩ := hS 0 (by omega)
  obtain ⟨t1, a1, b1⟩ := hS 1 (by omega)
  obtain ⟨t2, a2, b2⟩ := hS 2 (by omega)
  obtain ⟨f0, f1, fm, adK, adV, hStr⟩ := start_Str (G := (dC, dI, cT, s.heap.size, L, xs)) hts hgv hA t0 t1 t2
  refine ⟨(dC, dI, cT, s.heap.size, L, xs), rho0 b (st0 t0 t1 t2 f0 f1 fm) adK adV, rfl, rho_b, ⟨hC, fun k q hq => ?_⟩, hb, Nat.le_refl _, fun i hi => ?_, z1, z2, z3, ?_⟩
  · unfold tyG at hq
    have hk : k < 11 := by
      have := (List.getElem?_eq_some_iff.mp hq).1
      simpa using this
    rw [List.getElem?_map, List.getElem?_range hk] at hq
    cases hq
    exact hT k hk
  · have h3 : i = 0 ∨ i = 1 ∨ i = 2 := by omega
    rcases h3 with rfl | rfl | rfl
    · rw [rho_s (j := 1) (by omega) (by omega) (by omega)]; exact ⟨a0, b0⟩
    · rw [rho_s (j := 2) (by omega) (by omega) (by omega)]; exact ⟨a1, b1⟩
    · rw [rho_s (j := 3) (by omega) (by omega) (by omega)]; exact ⟨a2, b2⟩
  · rw [rho_b]
    exact ⟨hX, hbl, hA b hbl, hStr⟩
