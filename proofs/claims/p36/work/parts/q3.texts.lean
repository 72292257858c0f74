/-! THE MACHINE'S SIDE: what the start gives of the law's texts -/
abbrev tmS (i : Nat) : Term := .string RL (poJS.getD i 0)
abbrev vlS (i : Nat) : Term := .field (tmS i) "java/lang/String" "value" "[B"
theorem ss_ex : ∀ i, i < 27 → Cond.exactly (tmS i) "java/lang/String" ∈ flatC (Jvm.Cond.and given_1 narrow_1) := by decide +kernel
theorem ss_co : ∀ i, i < 27 → Cond.eq (.field (tmS i) "java/lang/String" "coder" "B") (.int 0) ∈ flatC (Jvm.Cond.and given_1 narrow_1) := by decide +kernel
theorem ss_ar : ∀ i, i < 27 → Cond.arrayOf (vlS i) .byte ∈ flatC (Jvm.Cond.and given_1 narrow_1) := by decide +kernel
theorem ss_le : ∀ i, i < 27 → Cond.eq (.length (vlS i)) (.int (Int32.ofNat (leJS.getD i 0))) ∈ flatC (Jvm.Cond.and given_1 narrow_1) := by decide +kernel
theorem ss_el0 : ∀ r, r < 3 → ∀ j, j < leJS.getD (0 + r) 0 → Cond.eq (.elem (vlS (0 + r)) (.int (Int32.ofNat j))) (.int ((byJS.getD (0 + r) []).getD j 0)) ∈ flatC (Jvm.Cond.and given_1 narrow_1) := by decide +kernel
theorem ss_el1 : ∀ r, r < 3 → ∀ j, j < leJS.getD (3 + r) 0 → Cond.eq (.elem (vlS (3 + r)) (.int (Int32.ofNat j))) (.int ((byJS.getD (3 + r) []).getD j 0)) ∈ flatC (Jvm.Cond.and given_1 narrow_1) := by decide +kernel
theorem ss_el2 : ∀ r, r < 3 → ∀ j, j < leJS.getD (6 + r) 0 → Cond.eq (.elem (vlS (6 + r)) (.int (Int32.ofNat j))) (.int ((byJS.getD (6 + r) []).getD j 0)) ∈ flatC (Jvm.Cond.and given_1 narrow_1) := by decide +kernel
theorem ss_el3 : ∀ r, r < 3 → ∀ j, j < leJS.getD (9 + r) 0 → Cond.eq (.elem (vlS (9 + r)) (.int (Int32.ofNat j))) (.int ((byJS.getD (9 + r) []).getD j 0)) ∈ flatC (Jvm.Cond.and given_1 narrow_1) := by decide +kernel
theorem ss_el4 : ∀ r, r < 3 → ∀ j, j < leJS.getD (12 + r) 0 → Cond.eq (.elem (vlS (12 + r)) (.int (Int32.ofNat j))) (.int ((byJS.getD (12 + r) []).getD j 0)) ∈ flatC (Jvm.Cond.and given_1 narrow_1) := by decide +kernel
theorem ss_el5 : ∀ r, r < 3 → ∀ j, j < leJS.getD (15 + r) 0 → Cond.eq (.elem (vlS (15 + r)) (.int (Int32.ofNat j))) (.int ((byJS.getD (15 + r) []).getD j 0)) ∈ flatC (Jvm.Cond.and given_1 narrow_1) := by decide +kernel
theorem ss_el6 : ∀ r, r < 3 → ∀ j, j < leJS.getD (18 + r) 0 → Cond.eq (.elem (vlS (18 + r)) (.int (Int32.ofNat j))) (.int ((byJS.getD (18 + r) []).getD j 0)) ∈ flatC (Jvm.Cond.and given_1 narrow_1) := by decide +kernel
theorem ss_el7 : ∀ r, r < 3 → ∀ j, j < leJS.getD (21 + r) 0 → Cond.eq (.elem (vlS (21 + r)) (.int (Int32.ofNat j))) (.int ((byJS.getD (21 + r) []).getD j 0)) ∈ flatC (Jvm.Cond.and given_1 narrow_1) := by decide +kernel
theorem ss_el8 : ∀ r, r < 3 → ∀ j, j < leJS.getD (24 + r) 0 → Cond.eq (.elem (vlS (24 + r)) (.int (Int32.ofNat j))) (.int ((byJS.getD (24 + r) []).getD j 0)) ∈ flatC (Jvm.Cond.and given_1 narrow_1) := by decide +kernel
theorem ss_el : ∀ i, i < 27 → ∀ j, j < leJS.getD i 0 → Cond.eq (.elem (vlS i) (.int (Int32.ofNat j))) (.int ((byJS.getD i []).getD j 0)) ∈ flatC (Jvm.Cond.and given_1 narrow_1) := fun i hi => by
  have key : ∀ g r, r < 3 → i = g + r → (∀ r, r < 3 → ∀ j, j < leJS.getD (g + r) 0 → Cond.eq (.elem (vlS (g + r)) (.int (Int32.ofNat j))) (.int ((byJS.getD (g + r) []).getD j 0)) ∈ flatC (Jvm.Cond.and given_1 narrow_1)) → ∀ j, j < leJS.getD i 0 → Cond.eq (.elem (vlS i) (.int (Int32.ofNat j))) (.int ((byJS.getD i []).getD j 0)) ∈ flatC (Jvm.Cond.and given_1 narrow_1) := fun g r hr e h => by subst e; exact h r hr
  have hg : i / 3 = 0 ∨ i / 3 = 1 ∨ i / 3 = 2 ∨ i / 3 = 3 ∨ i / 3 = 4 ∨ i / 3 = 5 ∨ i / 3 = 6 ∨ i / 3 = 7 ∨ i / 3 = 8 := by omega
  rcases hg with h | h | h | h | h | h | h | h | h
  · exact key 0 (i % 3) (by omega) (by omega) ss_el0
  · exact key 3 (i % 3) (by omega) (by omega) ss_el1
  · exact key 6 (i % 3) (by omega) (by omega) ss_el2
  · exact key 9 (i % 3) (by omega) (by omega) ss_el3
  · exact key 12 (i % 3) (by omega) (by omega) ss_el4
  · exact key 15 (i % 3) (by omega) (by omega) ss_el5
  · exact key 18 (i % 3) (by omega) (by omega) ss_el6
  · exact key 21 (i % 3) (by omega) (by omega) ss_el7
  · exact key 24 (i % 3) (by omega) (by omega) ss_el8
theorem ss_ref : ∀ i, i < 27 → Cond.stringRef RL (poJS.getD i 0) (txJS.getD i "") ∈ lw_tbl := by decide +kernel
theorem ss_len : ∀ i, i < 27 → leJS.getD i 0 < 2 ^ 31 ∧ leJS.getD i 0 < 12 := by decide +kernel
theorem ss_ne : ∀ i, i < 27 → ∀ j, j < 27 → leJS.getD i 0 = leJS.getD j 0 → (∀ k, k < leJS.getD i 0 → (byJS.getD i []).getD k 0 = (byJS.getD j []).getD k 0) → i = j := by decide +kernel
theorem OF_fun {o n d : String} {v v' : Value} {t : Nat} {A : Nat → Prop} {U : State} {H : Heap} (h : va_OF o n d v t A U H) (h' : va_OF o n d v' t A U H) : v = v' := by
  obtain ⟨cf, k, i, f, cell, a1, a2, a3, a4, a5, a6⟩ := h
  obtain ⟨cf', k', i', f', cell', b1, b2, b3, b4, b5, b6⟩ := h'
  have e := a1.symm.trans b1
  simp only [Option.some.injEq, Prod.mk.injEq] at e
  obtain ⟨_, _, _, rfl⟩ := e
  have e2 := Option.some.inj (a3.symm.trans b3)
  subst e2
  exact Option.some.inj (a5.symm.trans b5)
theorem T_fun {ty : FieldType} {t N N' : Nat} {f f' : Nat → Value} {A : Nat → Prop} {U : State} {H : Heap} (hN : N < 2147483648) (hN' : N' < 2147483648) (h : va_T ty t N f A U H) (h' : va_T ty t N' f' A U H) : N = N' ∧ ∀ j, j < N → f j = f' j := by
  obtain ⟨cell, a1, a2, a3, a4, a5, a6, a7⟩ := h
  obtain ⟨cell', b1, b2, b3, b4, b5, b6, b7⟩ := h'
  have e2 := Option.some.inj (a1.symm.trans b1)
  subst e2
  have e3 : N = N' := (nW_inj hN hN').mp (a5.symm.trans b5)
  subst e3
  exact ⟨rfl, fun j hj => Option.some.inj ((a6 j hj).symm.trans (b6 j hj))⟩
theorem st_txt {s : State} {b : Addr} {A : Nat → Prop} (hgv : (Jvm.Cond.and given_1 narrow_1).before #[Value.ref b] s = true) (hA : ∀ a : Nat, a < s.heap.size → ¬ A a) : ∃ adK adV : Nat → Nat, vk_S 27 leJS byJS adK adV A s s.heap ∧ ∀ i, i < 27 → (tmS i).eval #[Value.ref b] s none [] s = some (.ref (adK i)) := by
  have hs := flat_of_before _ hgv
  have h0 : ∀ i : Nat, ∃ q : Nat × Nat, i < 27 → (tmS i).eval #[Value.ref b] s none [] s = some (.ref q.1) ∧ va_O "java/lang/String" q.1 A s s.heap ∧ va_OF "java/lang/String" "coder" "B" (.int 0) q.1 A s s.heap ∧ va_OF "java/lang/String" "value" "[B" (.ref q.2) q.1 A s s.heap ∧ va_T .byte q.2 (leJS.getD i 0) (fun j => .int ((byJS.getD i []).getD j 0)) A s s.heap := by
    intro i
    by_cases hi : i < 27
    · obtain ⟨a, c, cA, kA, q1, q2, q3, q4, q5, q6, -⟩ := Cond.exactly_spec (args := #[Value.ref b]) (first := s) (o := none) (s := s) (idx := []) (t := tmS i) (cls := "java/lang/String") (hs _ (ss_ex i hi))
      obtain ⟨t, ht, hT⟩ := va_Tof (f := fun j => .int ((byJS.getD i []).getD j 0)) (A := A) (ss_len i hi).1 (hs _ (ss_ar i hi)) (va_eqt (hs _ (ss_le i hi))) (fun j hj => va_eqt (hs _ (ss_el i hi j hj))) hA
      exact ⟨(a, t), fun _ => ⟨q1, ⟨cA, q3, q5, by rw [q6]; exact q2, hA a (Array.getElem?_eq_some_iff.mp q3).1⟩, vk_OFof q1 (va_eqt (hs _ (ss_co i hi))) hA, vk_OFof q1 ht hA, hT⟩⟩
    · exact ⟨(0, 0), fun h => absurd h hi⟩
  obtain ⟨ad, had⟩ := Classical.axiomOfChoice h0
  refine ⟨fun i => (ad i).1, fun i => (ad i).2, ⟨fun i hi => (had i hi).2, fun i j hi hj e => ?_⟩, fun i hi => (had i hi).1⟩
  have e : (ad i).1 = (ad j).1 := e
  have v1 := (had i hi).2.2.2.1
  have v2 := (had j hj).2.2.2.1
  rw [e] at v1
  have ev : (ad i).2 = (ad j).2 := by
    have := OF_fun v1 v2
    injection this
  have t1 := (had i hi).2.2.2.2
  have t2 := (had j hj).2.2.2.2
  rw [ev] at t1
  have l1 := (ss_len i hi).2
  have l2 := (ss_len j hj).2
  obtain ⟨e1, e2⟩ := T_fun (by omega) (by omega) t1 t2
  exact ss_ne i hi j hj e1 (fun k hk => by
    have := e2 k hk
    injection this)
theorem sf_lay : ∀ i, i < 2 → Cond.laysStatic RL (flN i) "[Ljava/lang/String;" ∈ lw_tbl := by decide +kernel
theorem sf_ini : Cond.initialized RL ∈ lw_tbl ∧ Cond.initialized "java/lang/String" ∈ lw_tbl ∧ Cond.initialized qfC ∈ lw_tbl ∧ Cond.laysStatic "java/lang/String" "COMPACT_STRINGS" "Z" ∈ lw_tbl ∧ Cond.laysStatic qfC qfN qfD ∈ lw_tbl := by decide +kernel
theorem sf_arr : ∀ i, i < 2 → Cond.arrayOf (.static RL (flN i) "[Ljava/lang/String;") (.object "java/lang/String") ∈ flatC (Jvm.Cond.and given_1 narrow_1) ∧ Cond.eq (.length (.static RL (flN i) "[Ljava/lang/String;")) (.int 16) ∈ flatC (Jvm.Cond.and given_1 narrow_1) := by decide +kernel
theorem sf_el : ∀ i, i < 2 → ∀ j, j < 16 → Cond.eq (.elem (.static RL (flN i) "[Ljava/lang/String;") (.int (Int32.ofNat j))) (tmS ((flJS.getD i []).getD j 0)) ∈ flatC (Jvm.Cond.and given_1 narrow_1) := by decide +kernel
theorem sf_lt : ∀ i, i < 2 → ∀ j, j < 16 → (flJS.getD i []).getD j 0 < 27 := by decide
theorem sf_cmp : Cond.eq (.static "java/lang/String" "COMPACT_STRINGS" "Z") (.int 1) ∈ flatC (Jvm.Cond.and given_1 narrow_1) ∧ Cond.isRef (.static qfC qfN qfD) ∈ flatC (Jvm.Cond.and given_1 narrow_1) := by decide +kernel
theorem st_rows {s : State} {b : Addr} {A : Nat → Prop} {adK : Nat → Nat} (hts : ∀ w ∈ lw_tbl, w.before #[Value.ref b] s = true) (hgv : (Jvm.Cond.and given_1 narrow_1).before #[Value.ref b] s = true) (hA : ∀ a : Nat, a < s.heap.size → ¬ A a) (hK : ∀ i, i < 27 → (tmS i).eval #[Value.ref b] s none [] s = some (.ref (adK i))) : ∀ i, i < 2 → ∃ t, va_Z RL (flN i) "[Ljava/lang/String;" (.ref t) A s s.heap ∧ va_T (.object "java/lang/String") t 16 (fun j => .ref (adK ((flJS.getD i []).getD j 0))) A s s.heap := by
  have hs := flat_of_before _ hgv
  intro i hi
  obtain ⟨t, ht, hT⟩ := va_Tof (f := fun j => .ref (adK ((flJS.getD i []).getD j 0))) (A := A) (N := 16) (by decide) (hs _ (sf_arr i hi).1) (va_eqt (hs _ (sf_arr i hi).2)) (fun j hj => va_eqv (hs _ (sf_el i hi j hj)) (hK _ (sf_lt i hi j hj))) hA
  exact ⟨t, va_Zof (hts _ (sf_lay i hi)) (hts _ sf_ini.1) ht hA, hT⟩
