/-- the empty memory -/
def Mz : Mem := (fun _ _ => 0, fun _ _ => 0, fun _ _ => 0, fun _ _ => none, fun _ => (99, 0), 0, 0, 0)
theorem HR_z (G : Gl) (ρ : Nat → Nat) (H : Heap) : HR G Mz ρ H := by
  have e : wsM G Mz ρ = [] := rfl
  refine ⟨?_, ?_, fun _ _ => rfl, fun a i b h => (by cases h), by decide⟩
  · rw [e]; intro k q h; simp at h
  · rw [e]; exact ⟨fun i j p q h => (by simp at h), fun k q h => (by simp at h)⟩
theorem start_run {p : Program} {l : Launch} {e : Env} {s : State} {m : MethodId} {below : List Frame} {meth : Method} {c : Code} {b : Addr} {G : Gl} {ρ : Nat → Nat} {MF : Mem} (hc : mC MF ≤ 2500) (hs : mS MF ≤ 29000) (hst : l.stackTraces = false) (hx : p.tables.exec = Jvm.exec) (hb : c.code = code) (hr : meth.sig.returnType = ret) (hml : c.maxLocals = 4) (hown : s.vm.findClass RL = some m.cls) (hts : ∀ w ∈ lw_tbl, w.before #[Value.ref b] s = true) (hlocks : meth.locks = false) (hnm : meth.name = "law") (htab : c.exceptionTable.toList = tableOf []) (hA : ∀ q, AO G q → s.heap.size ≤ q) (hρ : ρ SCR = b) (hK : KN G ρ s) (hV : V G (RL, cL_law, (some .boolean), 14, 299, 4, "law", []) (ρ, Mz, cvI 1, MF) 0 [(0, .ref SCR)] [] Mz) : ∀ T : State, T.heap = s.heap → Stand p l e room_1 s m #[Value.ref b] below meth c T [] 0 0 → ∃ t, Steps p.tables e below (T.setTop (entryFrame m ([Value.ref b] : List Value).toArray 4)) t ∧ ∃ o, t.status = .running ∧ Ended t below o ∧ o = .returned (some (.int 1)) ∧ s.WarmedH t.vm ∧ s.sameButNew ({ t with vm := s.vm } : State) [] 649593 7152919 := by
  intro T hT X
  have hl := lv_entry ([.ref b]) (n := 4) (Nat.le_of_ble_eq_true rfl)
  rw [lg_entry_eq]
  generalize (lg_sl ([.ref b]) ++ List.replicate (4 - (lg_sl ([.ref b])).length) Slot.unset).toArray = ls at hl ⊢
  have hl : lv_has ls 4 [(0, .ref b)] := hl
  have c0 : mC Mz = 0 := rfl
  have s0 : mS Mz = 0 := rfl
  have X' := Stand_small (R' := { frames := 14, cells := mC MF - mC Mz, slots := mS MF - mS Mz, locals := 299 }) X (Nat.le_of_ble_eq_true rfl) (by show mC MF - mC Mz ≤ 649593; omega) (by show mS MF - mS Mz ≤ 7152919; omega) (Nat.le_of_ble_eq_true rfl)
  have hW := hV.2 (p, l, e, { frames := 14, cells := mC MF - mC Mz, slots := mS MF - mS Mz, locals := 299 }, s, m, #[Value.ref b], below, meth, c, vx_MQ below (QcP G (ρ, Mz, cvI 1, MF)) (XcP G (ρ, Mz, cvI 1, MF)) #[Value.ref b] s (mC MF - mC Mz) (mS MF - mS Mz) (AO G)) ⟨hx, hb, hown, fun w hw => hts w (List.mem_filter.mp hw).1, hK, hlocks, hst, rfl, rfl, hr, hml, hnm, htab⟩ ρ s.heap [] 0 0 ls (HR_z G ρ _) ⟨Or.inr (Nat.le_refl _), trivial⟩ trivial (Ext.rf _ _) va_S.rf (show 0 + 0 ≤ mC Mz from Nat.zero_le _) (show 0 + 0 ≤ mS Mz from Nat.zero_le _) (by
    show lv_has ls c.maxLocals [ml ρ (0, .ref SCR)]
    rw [hml]
    show lv_has ls 4 [(0, .ref (ρ SCR))]
    rw [hρ]; exact hl)
  obtain ⟨t, h1, h2⟩ := hW T hT X'
  exact ⟨t, h1, end_small h2 hA (by omega) (by omega)⟩
