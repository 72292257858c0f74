/-! METHODS WITH A TABLE: what they call may throw, and they catch it -/
section
variable {G : Gl} {B : Bx} {own : String} {cc : ByteArray} {ret : Option FieldType} {fr lo nL : Nat} {mn : String} {hh : List (Nat × Nat × Nat × Nat)} {pc : Nat} {ls : List (Nat × Value)} {st st0 : List Value} {M M1 M' : Mem} {kk : Nat} {C : String} {T : u_T} {N : Nat} {ty : Nat → FieldType} {f a index : Nat}
variable {y : MethodName} {cy : ByteArray} {nY fy ly n b : Nat} {rety : Option FieldType} {As : List Value}
def CtrW (G : Gl) (y : MethodName) (cc : ByteArray) (nL : Nat) (ret : Option FieldType) (hh : List (Nat × Nat × Nat × Nat)) (fr lo : Nat) (av : List Value) (M : Mem) (o : Out) (M' : Mem) : Prop :=
  (mC M ≤ mC M' ∧ mS M ≤ mS M') ∧ ∀ l : Launch, l.stackTraces = false → ∀ ρ, vx_Met l y (.codeWith y cc nL ret hh :: GW) (rmP fr lo M M') (Pcc G ρ av M) (QcP G (ρ, M, o, M')) (XcP G (ρ, M, o, M')) (mC M' - mC M) (mS M' - mS M) (AO G)
theorem ctrW_of {av : List Value} {o : Out} (hy : plainName y.cls = true) (hn : (lg_sl av).length ≤ nL)
    (k : ∀ ρ, V G (y.cls, cc, ret, fr, lo, nL, y.name, hh) (ρ, M, o, M') 0 (lv_args 0 av) [] M) : CtrW G y cc nL ret hh fr lo av M o M' := by
  refine ⟨(k id).1, fun l hst ρ => vx_ofWH (ws' := GW) (cc := cc) (maxL := nL) (ret := ret) (hh := hh) hy rfl ?_⟩
  intro p e s m args below meth c s₁ B hml hv
  obtain ⟨rfl, hok, hK, hH⟩ := hv
  have hl := lv_entry (av.map (mv ρ)) (n := nL) (by rw [lg_sl_len]; exact hn)
  rw [lg_entry_eq]
  rw [lv_args_map] at hl
  have hts := atoms_spec (ws := Cond.codeWith y cc nL ret hh :: GW) B.pre
  have htb' := vx_table (x := y) B (hts _ List.mem_cons_self)
  exact (k ρ).2 (p, l, e, rmP fr lo M M', s, m, (av.map (mv ρ)).toArray, below, meth, c, vx_MQ below (QcP G (ρ, M, o, M')) (XcP G (ρ, M, o, M')) (av.map (mv ρ)).toArray s (mC M' - mC M) (mS M' - mS M) (AO G))
    ⟨B.exec, B.bytes, findClass_of_methodNamed B.named, fun w hw => hts w (List.mem_cons_of_mem _ hw), hK, B.notSynchronized, hst, rfl, rfl, B.returns, hml, (name_of_methodNamed B.named B.method).1, htb'⟩
    ρ s.heap [] 0 0 _ hH (lok_args hok) trivial (Ext.rf M ρ) va_S.rf (by show 0 + mC M ≤ mC M; omega) (by show 0 + mS M ≤ mS M; omega) (by rw [hml]; exact hl)
def wdW (own : String) (index : Nat) (y : MethodName) (cy : ByteArray) (nY : Nat) (rety : Option FieldType) (hy : List (Nat × Nat × Nat × Nat)) (n : Nat) : Prop :=
  Cond.methodLink own index y ∈ GW ∧ Cond.static y ∈ GW ∧ Cond.initialized y.cls ∈ GW ∧ Cond.codeWith y cy nY rety hy ∈ GW ∧ (y.cls ≠ "java/lang/invoke/MethodHandle" ∧ y.cls ≠ "java/lang/invoke/VarHandle" ∧ (parseMethodDescriptor y.desc).map (fun d => d.parameters.length) = some n)
theorem runW_of {X : Cx} {ρ : Nat → Nat} {H : Heap} {locs : List Loc} {cells slots : Nat} {la : Array Slot} {o : Out} {hy : List (Nat × Nat × Nat × Nat)} (h : Ok X G (own, cc, ret, fr, lo, nL, mn, hh) B) (hC : CtrW G y cy nY rety hy fy ly As M o M') (w : wdW own index y cy nY rety hy n)
    (hn : As.length = n) (hcat : (st.map fun v => v.category).sum ≤ 8) (hR : fy + 1 ≤ fr ∧ 8 + (nY + 11) + ly ≤ lo) (hd : decode cc pc = .ok (.invokestatic index, 3))
    (hH : HR G M ρ H) (hs : sok (mN M) (As.reverse ++ st)) (he : Ext B.2.1 B.1 M ρ) (hS : va_S (AO G) X.s.heap H locs) (hla : lv_has la X.c.maxLocals (ls.map (ml ρ))) (hcells : cells + (mC M' - mC M) ≤ mC B.2.2.2 - mC B.2.1 ∧ slots + (mS M' - mS M) ≤ mS B.2.2.2 - mS B.2.1) :
    vx_Run X.p X.l X.e X.R X.s X.m X.args X.below X.meth X.c H locs cells slots (mC M' - mC M) (mS M' - mS M) (F0 X.m pc la ((As.reverse ++ st).map (mv ρ))) (st.map (mv ρ)) (QcP G (ρ, M, o, M') (As.map (mv ρ)).toArray) (XcP G (ρ, M, o, M')) (AO G) := by
  obtain ⟨w1, w2, w3, w4, w5, w6, w7⟩ := w
  have hRR := h.2.2.2.2.2.2.2.2.1
  have hP := pcc_at h hH he hS (av := As) (sok_rev (sok_app hs).1)
  refine vx_runSX (Ts := GW) (hh := hy) (n := n) (As := As.map (mv ρ)) (rest := st.map (mv ρ)) ⟨h.1, h.2.1, h.2.2.2.2.2.2.2.2.2.2.1, h.2.2.1, h.2.2.2.1⟩ (hC.2 X.l h.2.2.2.2.2.2.1 ρ)
    ⟨⟨rfl, rfl, by rw [hRR]; exact hR.1, by rw [hRR]; exact hR.2, fun q hq a' U hW => ?_, List.mem_cons_self⟩, h.2.2.2.1 _ w4, h.2.2.2.1 _ w3, ⟨w5, w6⟩, fun sig hsig => ?_, h.2.2.2.1 _ w1, h.2.2.2.1 _ w2⟩ hP rfl (by rw [List.length_map]; exact hn) (by rw [← h.2.2.2.2.2.2.2.2.2.2.1]; exact hla.1) (st_revS ρ As st) (by rw [mv_cats]; show 2 * 0 + _ ≤ 8; omega) hd (by rw [hRR]; exact hcells)
  · rcases List.mem_cons.mp hq with rfl | hq
    · exact gw_warm hW w4 (h.2.2.2.1 _ w4)
    · exact gw_warm hW hq (h.2.2.2.1 _ hq)
  · rw [hsig] at w7
    exact (Option.some.inj w7).symm
theorem v_callWi {x : Int32} {hy : List (Nat × Nat × Nat × Nat)} (hC : CtrW G y cy nY rety hy fy ly As M (.inl (some (.int x))) M') (w : wdW own index y cy nY rety hy n) (hd : decode cc pc = .ok (.invokestatic index, 3)) (hs0 : st0 = As.reverse ++ st) (hn : As.length = n) (hcat : (st.map fun v => v.category).sum ≤ 8) (hR : fy + 1 ≤ fr ∧ 8 + (nY + 11) + ly ≤ lo) (k : V G (own, cc, ret, fr, lo, nL, mn, hh) B (pc + 3) ls (.int x :: st) M') : V G (own, cc, ret, fr, lo, nL, mn, hh) B pc ls st0 M := by
  have hle := hC.1
  refine ⟨⟨Nat.le_trans hle.1 k.1.1, Nat.le_trans hle.2 k.1.2⟩, fun X h ρ H locs cells slots la hH hl hs he hS hcc hn2 hla => ?_⟩
  have hle2 := k.1
  subst hs0
  exact run_on rfl h (runW_of (ls := ls) h hC w hn hcat hR hd hH hs he hS hla ⟨by omega, by omega⟩) hle hH hl (sok_app hs).2 he hS hcc hn2 hla (fun v9 h9 => by cases h9; exact k) (fun e9 h9 => nomatch h9)
theorem v_catch_n {e hpc i : Nat} {ls' : List (Nat × Value)} (hC : CtrP G y cy nY rety fy ly (.ref b :: As) M (.inr e) M') (w : wdV own index C y cy nY rety n) (hc : CLk kk C T N ty) (hk : (mK M b).1 = kk) (hd : decode cc pc = .ok (.invokevirtual index, 3)) (hs0 : st0 = As.reverse ++ .ref b :: st) (hn : As.length = n) (hcat : (st.map fun v => v.category).sum ≤ 8) (hR : fy + 1 ≤ fr ∧ 8 + (nY + 11) + ly ≤ lo)
    (pre : List (Nat × Nat × Nat × Nat)) (xh : Nat × Nat × Nat × Nat) (suf : List (Nat × Nat × Nat × Nat)) (hsp : hh = pre ++ xh :: suf) (hcov : covers ⟨xh.1, xh.2.1, xh.2.2.1, xh.2.2.2⟩ pc = true) (hhp : xh.2.2.1 = hpc) (h0 : xh.2.2.2 ≠ 0)
    (hpre : ∀ z ∈ pre, z.2.2.2 ≠ 0 ∧ ∃ nm : String, Cond.classLink own z.2.2.2 nm ∈ GW ∧ (exN e, nm) ∈ ncs) (hlk : Cond.classLink own xh.2.2.2 (exN e) ∈ GW) (hca : Cond.castable (exN e) (exN e) ∈ BW)
    {n9 : Fin 4} (hd2 : decode cc hpc = .ok (.astore_n n9, 1)) (hi : (n9 : Nat) = i) (hin : i < nL) (hls : ls.filter (fun q => !(q.1 == i) && !(q.1 + 1 == i && q.2.category == 2)) = ls') (k : V G (own, cc, ret, fr, lo, nL, mn, hh) B (hpc + 1) ls' [] M') : V G (own, cc, ret, fr, lo, nL, mn, hh) B pc ls st0 M := by
  have hle := hC.1
  refine ⟨⟨Nat.le_trans hle.1 k.1.1, Nat.le_trans hle.2 k.1.2⟩, fun X h ρ H locs cells slots la hH hl hs he hS hcc hn2 hla => ?_⟩
  have hle2 := k.1
  subst hs0
  refine run_on (pcn := pc + 3) rfl h (runV_of (ls := ls) h hC w hc hk hn hcat hR hd hH hs he hS hla ⟨by omega, by omega⟩) hle hH hl (sok_app hs).2.2 he hS hcc hn2 hla (fun v9 h9 => nomatch h9) (fun e9 h9 ρ1 ce q9 H1 locs1 g1 g2 g3 g4 g5 g6 g7 g8 g9 g10 => ?_)
  cases h9
  have h' := h
  obtain ⟨hx, hb, hown, hts, hK, -, htr, hQ, hR2, hr, hml, hmn, htb⟩ := h
  have htb : X.c.exceptionTable.toList = tableOf hh := htb
  have hml : X.c.maxLocals = nL := hml
  have hsplit : X.c.exceptionTable.toList = tableOf pre ++ ⟨xh.1, xh.2.1, xh.2.2.1, xh.2.2.2⟩ :: tableOf suf := by rw [htb, hsp]; unfold tableOf; rw [List.map_append, List.map_cons]
  refine vx_catch hown (tableOf pre) ⟨xh.1, xh.2.1, xh.2.2.1, xh.2.2.2⟩ (tableOf suf) hsplit (fun z hz => Or.inr ?_) hcov h0 (hts _ hlk) (bw_warm (List.mem_filter.mp hca).2 (State.WarmedH.refl _) (hK.2.1 _ hca)) g8 g9 g10 ?_
  · obtain ⟨z0, hz0, rfl⟩ := List.mem_map.mp hz
    obtain ⟨h1, nm, h2, h3⟩ := hpre z0 hz0
    exact ⟨h1, nm, hts _ h2, hK.2.2.2.2.2.2.1 _ h3⟩
  · show W X.p X.l X.e X.R X.s X.m X.args X.below X.meth X.c H1 locs1 _ _ X.Q (F0 X.m xh.2.2.1 la [.ref q9])
    rw [hhp]
    refine lv_astore_n hx hb hd2 hi g5 (by rw [hml]; exact hin) (lv' := (i, .ref q9) :: ls'.map (ml ρ1)) (by rw [← hls, ml_filter ρ1 _ (fun q => by simp [ml, mv_cat])]) (fun la' hla' => ?_)
    exact k.2 X h' ρ1 H1 locs1 _ _ la' g1 (by rw [← hls]; exact lok_filter _ g6) trivial g3 g4 (by have := hle.1; omega) (by have := hle.2; omega) ⟨hla'.1, hla'.2.1, fun q hq => hla'.2.2 q (List.mem_cons_of_mem _ hq)⟩
theorem v_catch {e hpc i : Nat} {ls' : List (Nat × Value)} (hC : CtrP G y cy nY rety fy ly (.ref b :: As) M (.inr e) M') (w : wdV own index C y cy nY rety n) (hc : CLk kk C T N ty) (hk : (mK M b).1 = kk) (hd : decode cc pc = .ok (.invokevirtual index, 3)) (hs0 : st0 = As.reverse ++ .ref b :: st) (hn : As.length = n) (hcat : (st.map fun v => v.category).sum ≤ 8) (hR : fy + 1 ≤ fr ∧ 8 + (nY + 11) + ly ≤ lo)
    (pre : List (Nat × Nat × Nat × Nat)) (xh : Nat × Nat × Nat × Nat) (suf : List (Nat × Nat × Nat × Nat)) (hsp : hh = pre ++ xh :: suf) (hcov : covers ⟨xh.1, xh.2.1, xh.2.2.1, xh.2.2.2⟩ pc = true) (hhp : xh.2.2.1 = hpc) (h0 : xh.2.2.2 ≠ 0)
    (hpre : ∀ z ∈ pre, z.2.2.2 ≠ 0 ∧ ∃ nm : String, Cond.classLink own z.2.2.2 nm ∈ GW ∧ (exN e, nm) ∈ ncs) (hlk : Cond.classLink own xh.2.2.2 (exN e) ∈ GW) (hca : Cond.castable (exN e) (exN e) ∈ BW)
    (hd2 : decode cc hpc = .ok (.astore i, 2)) (hin : i < nL) (hls : ls.filter (fun q => !(q.1 == i) && !(q.1 + 1 == i && q.2.category == 2)) = ls') (k : V G (own, cc, ret, fr, lo, nL, mn, hh) B (hpc + 2) ls' [] M') : V G (own, cc, ret, fr, lo, nL, mn, hh) B pc ls st0 M := by
  have hle := hC.1
  refine ⟨⟨Nat.le_trans hle.1 k.1.1, Nat.le_trans hle.2 k.1.2⟩, fun X h ρ H locs cells slots la hH hl hs he hS hcc hn2 hla => ?_⟩
  have hle2 := k.1
  subst hs0
  refine run_on (pcn := pc + 3) rfl h (runV_of (ls := ls) h hC w hc hk hn hcat hR hd hH hs he hS hla ⟨by omega, by omega⟩) hle hH hl (sok_app hs).2.2 he hS hcc hn2 hla (fun v9 h9 => nomatch h9) (fun e9 h9 ρ1 ce q9 H1 locs1 g1 g2 g3 g4 g5 g6 g7 g8 g9 g10 => ?_)
  cases h9
  have h' := h
  obtain ⟨hx, hb, hown, hts, hK, -, htr, hQ, hR2, hr, hml, hmn, htb⟩ := h
  have htb : X.c.exceptionTable.toList = tableOf hh := htb
  have hml : X.c.maxLocals = nL := hml
  have hsplit : X.c.exceptionTable.toList = tableOf pre ++ ⟨xh.1, xh.2.1, xh.2.2.1, xh.2.2.2⟩ :: tableOf suf := by rw [htb, hsp]; unfold tableOf; rw [List.map_append, List.map_cons]
  refine vx_catch hown (tableOf pre) ⟨xh.1, xh.2.1, xh.2.2.1, xh.2.2.2⟩ (tableOf suf) hsplit (fun z hz => Or.inr ?_) hcov h0 (hts _ hlk) (bw_warm (List.mem_filter.mp hca).2 (State.WarmedH.refl _) (hK.2.1 _ hca)) g8 g9 g10 ?_
  · obtain ⟨z0, hz0, rfl⟩ := List.mem_map.mp hz
    obtain ⟨h1, nm, h2, h3⟩ := hpre z0 hz0
    exact ⟨h1, nm, hts _ h2, hK.2.2.2.2.2.2.1 _ h3⟩
  · show W X.p X.l X.e X.R X.s X.m X.args X.below X.meth X.c H1 locs1 _ _ X.Q (F0 X.m xh.2.2.1 la [.ref q9])
    rw [hhp]
    refine lv_astore hx hb hd2 g5 (by rw [hml]; exact hin) (lv' := (i, .ref q9) :: ls'.map (ml ρ1)) (by rw [← hls, ml_filter ρ1 _ (fun q => by simp [ml, mv_cat])]) (fun la' hla' => ?_)
    exact k.2 X h' ρ1 H1 locs1 _ _ la' g1 (by rw [← hls]; exact lok_filter _ g6) trivial g3 g4 (by have := hle.1; omega) (by have := hle.2; omega) ⟨hla'.1, hla'.2.1, fun q hq => hla'.2.2 q (List.mem_cons_of_mem _ hq)⟩
theorem v_scld {L : Nat} {xs : Nat → Int32} {i : Int32} {z : Int32} (hX : G.2.2.2.2.1 = L ∧ G.2.2.2.2.2 = xs) (hd : decode cc pc = .ok (.iaload, 1)) (hx : scI L xs i = some z) (k : V G (own, cc, ret, fr, lo, nL, mn, hh) B (pc + 1) ls (.int z :: st) M) : V G (own, cc, ret, fr, lo, nL, mn, hh) B pc ls (.int i :: .ref SCR :: st) M := by
  refine ⟨k.1, fun X h ρ H locs cells slots la hH hl hs he hS hcc hn hla => ?_⟩
  obtain ⟨j, hj, rfl⟩ := Option.map_eq_some_iff.mp hx
  obtain ⟨h1, rfl⟩ := ix_spec hj
  obtain ⟨rfl, rfl⟩ := hX
  obtain ⟨x1, x2, x3, -⟩ := h.2.2.2.2.1.2.2.2.2.2.2.2
  rw [← he.2 SCR (Or.inr (Nat.le_refl _))] at x1 x2 x3
  exact va_sld h.1 h.2.1 x1 x2 x3 hS h1 hd (k.2 X h ρ H locs cells slots la hH hl ⟨trivial, hs.2.2⟩ he hS hcc hn hla)
theorem v_sclen {L : Nat} {xs : Nat → Int32} (hX : G.2.2.2.2.1 = L ∧ G.2.2.2.2.2 = xs) (hd : decode cc pc = .ok (.arraylength, 1)) (k : V G (own, cc, ret, fr, lo, nL, mn, hh) B (pc + 1) ls (.int (Int32.ofNat L) :: st) M) : V G (own, cc, ret, fr, lo, nL, mn, hh) B pc ls (.ref SCR :: st) M := by
  refine ⟨k.1, fun X h ρ H locs cells slots la hH hl hs he hS hcc hn hla => ?_⟩
  obtain ⟨rfl, rfl⟩ := hX
  obtain ⟨x1, x2, x3, -⟩ := h.2.2.2.2.1.2.2.2.2.2.2.2
  rw [← he.2 SCR (Or.inr (Nat.le_refl _))] at x1 x2 x3
  exact va_slen h.1 h.2.1 x1 x2 x3 hS hd (k.2 X h ρ H locs cells slots la hH hl ⟨trivial, hs.2⟩ he hS hcc hn hla)
end
