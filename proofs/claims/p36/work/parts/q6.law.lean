/-- the law, from its start to its end with true -/
theorem start_ends {p : Program} {l : Launch} {e : Env} {s : State} {m : MethodId} {below : List Frame} {meth : Method} {c : Code} {b L : Nat} {xs : Nat → Int32} (hL : L ≤ 260) (hst : l.stackTraces = false) (hx : p.tables.exec = Jvm.exec) (hb : c.code = code) (hr : meth.sig.returnType = ret) (hml : c.maxLocals = 4) (hown : s.vm.findClass RL = some m.cls) (hts : ∀ w ∈ lw_tbl, w.before #[Value.ref b] s = true) (hX : va_X b L xs s s.heap) (hbl : b < s.heap.size) (hlocks : meth.locks = false) (hgv : (Jvm.Cond.and given_1 narrow_1).before #[Value.ref b] s = true) (hnm : meth.name = "law") (htab : c.exceptionTable.toList = tableOf []) : ∀ T : State, T.heap = s.heap → Stand p l e room_1 s m #[Value.ref b] below meth c T [] 0 0 → ∃ t, Steps p.tables e below (T.setTop (entryFrame m ([Value.ref b] : List Value).toArray 4)) t ∧ ∃ o, t.status = .running ∧ Ended t below o ∧ o = .returned (some (.int 1)) ∧ s.WarmedH t.vm ∧ s.sameButNew ({ t with vm := s.vm } : State) [] 649593 7152919 := by
  obtain ⟨MF, hf, hc, hs⟩ := law_true (M := Mz) (fun _ _ => rfl) rfl rfl rfl hL xs
  obtain ⟨G, ρ, hG, hρ, hK⟩ := start_KN hts hgv (fun w hw => bw_warm (List.mem_filter.mp hw).2 (State.WarmedH.refl s) (hts w (List.mem_filter.mp hw).1)) hX hbl
  have g1 : G.2.2.2.1 = s.heap.size := by rw [hG]
  have g2 : G.2.2.2.2.1 = L := by rw [hG]
  have g3 : G.2.2.2.2.2 = xs := by rw [hG]
  have hV := w_L_law (G := G) (ρ0 := ρ) (M0 := Mz) (MF := MF) (r := .inl 1) L xs ⟨g2, g3⟩ Mz hf
  exact start_run hc hs hst hx hb hr hml hown hts hlocks hnm htab (fun q h => by rw [← g1]; exact h) hρ hK hV
