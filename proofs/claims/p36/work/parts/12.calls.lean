/-! CONTRACTS AND CALLS -/
theorem KN.calling {G : Gl} {ρ : Nat → Nat} {a : Array Value} {U : State} {g : JFrame} {mk : MethodId} (h : KN G ρ U) : KN G ρ (U.calling g mk a) :=
  h.moved (U := U.calling g mk a) (State.WarmedH.refl U) (Nat.le_refl _) (fun _ _ _ => rfl) (fun _ _ => rfl)
/-- what a caller knows of a method: on these arguments and this memory it ends with o and M' -/
def Pcc (G : Gl) (ρ : Nat → Nat) (av : List Value) (M : Mem) : Array Value → State → Prop := va_Pc (av.map (mv ρ)) (fun U => sok (mN M) av ∧ KN G ρ U ∧ HR G M ρ U.heap)
theorem Pcc.blind (G : Gl) (ρ : Nat → Nat) (av : List Value) (M : Mem) : FrameBlind (Pcc G ρ av M) := fun a U g mk h => ⟨h.1, h.2.1, h.2.2.1.calling, h.2.2.2⟩
def rmP (fr lo : Nat) (M M' : Mem) : Room := { frames := fr, cells := mC M' - mC M, slots := mS M' - mS M, locals := lo }
def CtrP (G : Gl) (y : MethodName) (cc : ByteArray) (nL : Nat) (ret : Option FieldType) (fr lo : Nat) (av : List Value) (M : Mem) (o : Out) (M' : Mem) : Prop :=
  (mC M ≤ mC M' ∧ mS M ≤ mS M') ∧ ∀ l : Launch, l.stackTraces = false → ∀ ρ, vx_Met l y (.code y cc nL ret :: GW) (rmP fr lo M M') (Pcc G ρ av M) (QcP G (ρ, M, o, M')) (XcP G (ρ, M, o, M')) (mC M' - mC M) (mS M' - mS M) (AO G)
theorem lv_args_map (ρ : Nat → Nat) : ∀ (i : Nat) (vs : List Value), lv_args i (vs.map (mv ρ)) = (lv_args i vs).map (ml ρ) := by
  intro i vs
  induction vs generalizing i with
  | nil => rfl
  | cons v r ih =>
    rw [List.map_cons]
    unfold lv_args
    rw [List.map_cons, ← ih, mv_cat]
    rfl
theorem lok_args {n : Nat} : ∀ {i : Nat} {vs : List Value}, sok n vs → lok n (lv_args i vs) := by
  intro i vs h
  induction vs generalizing i with
  | nil => exact trivial
  | cons v r ih =>
    unfold lv_args
    exact ⟨h.1, ih h.2⟩
theorem lg_sl_len (ρ : Nat → Nat) (vs : List Value) : (lg_sl (vs.map (mv ρ))).length = (lg_sl vs).length := by
  induction vs with
  | nil => rfl
  | cons v r ih =>
    rw [List.map_cons]
    unfold lg_sl at ih ⊢
    rw [List.flatMap_cons, List.flatMap_cons, List.length_append, List.length_append, ih, mv_cat]
    split <;> rfl
/-- a method's contract, from the judgement at its entry -/
theorem ctr_of {G : Gl} {y : MethodName} {cc : ByteArray} {nL fr lo : Nat} {ret : Option FieldType} {av : List Value} {M M' : Mem} {o : Out} (hy : plainName y.cls = true) (hn : (lg_sl av).length ≤ nL)
    (k : ∀ ρ, V G (y.cls, cc, ret, fr, lo, nL, y.name, []) (ρ, M, o, M') 0 (lv_args 0 av) [] M) : CtrP G y cc nL ret fr lo av M o M' := by
  refine ⟨(k id).1, fun l hst ρ => vx_ofW (ws' := GW) (cc := cc) (maxL := nL) (ret := ret) hy rfl ?_⟩
  intro p e s m args below meth c s₁ B hml htb hv
  obtain ⟨rfl, hok, hK, hH⟩ := hv
  have hl := lv_entry (av.map (mv ρ)) (n := nL) (by rw [lg_sl_len]; exact hn)
  rw [lg_entry_eq]
  rw [lv_args_map] at hl
  have hts := atoms_spec (ws := Cond.code y cc nL ret :: GW) B.pre
  have htb' : c.exceptionTable.toList = [] := by
    cases h9 : c.exceptionTable.toList with
    | nil => rfl
    | cons x r => exact absurd (htb x (by rw [h9]; exact List.mem_cons_self)) id
  exact (k ρ).2 (p, l, e, rmP fr lo M M', s, m, (av.map (mv ρ)).toArray, below, meth, c, vx_MQ below (QcP G (ρ, M, o, M')) (XcP G (ρ, M, o, M')) (av.map (mv ρ)).toArray s (mC M' - mC M) (mS M' - mS M) (AO G))
    ⟨B.exec, B.bytes, findClass_of_methodNamed B.named, fun w hw => hts w (List.mem_cons_of_mem _ hw), hK, B.notSynchronized, hst, rfl, rfl, B.returns, hml, (name_of_methodNamed B.named B.method).1, htb'⟩
    ρ s.heap [] 0 0 _ hH (lok_args hok) trivial (Ext.rf M ρ) va_S.rf (by show 0 + mC M ≤ mC M; omega) (by show 0 + mS M ≤ mS M; omega) (by rw [hml]; exact hl)

section
variable {G : Gl} {B : Bx} {own : String} {cc : ByteArray} {ret : Option FieldType} {fr lo nL : Nat} {mn : String} {hh : List (Nat × Nat × Nat × Nat)} {pc : Nat} {ls : List (Nat × Value)} {st : List Value} {M M1 : Mem} {kk : Nat} {C : String} {T : u_T} {N : Nat} {ty : Nat → FieldType} {f a index : Nat}
theorem gw_warm {s U : State} {args a' : Array Value} (hW : s.WarmedH U.vm) {w : Cond} (hw : w ∈ GW) (h : w.before args s = true) : w.before a' U = true := word_at hW (good_of_word (List.mem_filter.mp hw).2) h
/-- what the callee finds, from what the walk holds -/
theorem pcc_at {X : Cx} {S : Sx} {ρ : Nat → Nat} {H : Heap} {locs : List Loc} (h : Ok X G S B) (hH : HR G M ρ H) (he : Ext B.2.1 B.1 M ρ) (hS : va_S (AO G) X.s.heap H locs) {av : List Value} (ha : sok (mN M) av) : FrameBlind (Pcc G ρ av M) ∧ ∀ U : State, U.heap = H → X.s.WarmedH U.vm → Pcc G ρ av M (av.map (mv ρ)).toArray U :=
  ⟨Pcc.blind G ρ av M, fun U hU hW => ⟨rfl, ha, h.2.2.2.2.1.moved hW (by rw [hU]; exact hS.1) (fun q h1 h2 => by rw [hU]; exact hS.2.1 q h1 h2) (fun q hq => he.2 q (Or.inr hq)), by rw [hU]; exact hH⟩⟩
/-- behind a call that has come back, or thrown -/
theorem run_on {X : Cx} {ρ : Nat → Nat} {H : Heap} {locs : List Loc} {cells slots : Nat} {la : Array Slot} {st0 : List Value} {a : Array Value} {o : Out} {M' : Mem} {pcn : Nat} (hp : pcn = pc + 3) (h : Ok X G (own, cc, ret, fr, lo, nL, mn, hh) B)
    (hr : vx_Run X.p X.l X.e X.R X.s X.m X.args X.below X.meth X.c H locs cells slots (mC M' - mC M) (mS M' - mS M) (F0 X.m pc la st0) (st.map (mv ρ)) (QcP G (ρ, M, o, M') a) (XcP G (ρ, M, o, M')) (AO G))
    (hle : mC M ≤ mC M' ∧ mS M ≤ mS M') (hH : HR G M ρ H) (hl : lok (mN M) ls) (hs : sok (mN M) st) (he : Ext B.2.1 B.1 M ρ) (hS : va_S (AO G) X.s.heap H locs) (hcc : cells + mC B.2.1 ≤ mC M) (hn : slots + mS B.2.1 ≤ mS M) (hla : lv_has la X.c.maxLocals (ls.map (ml ρ)))
    (kv : ∀ v, o = .inl v → V G (own, cc, ret, fr, lo, nL, mn, hh) B pcn ls (v.toList ++ st) M')
    (kx : ∀ e, o = .inr e → ∀ (ρ1 : Nat → Nat) (ce : Cell) (q9 : Addr) (H1 : Heap) (locs1 : List Loc), HR G M' ρ1 H1 → Ext M ρ M' ρ1 → Ext B.2.1 B.1 M' ρ1 → va_S (AO G) X.s.heap H1 locs1 → lv_has la X.c.maxLocals (ls.map (ml ρ1)) → lok (mN M') ls → sok (mN M') st → H1[q9]? = some ce → ce.vm = .none → X.s.vm.findClass (exN e) = some ce.cls →
      vx_W X.p X.l X.e X.R X.s X.m X.args X.below X.meth X.c H1 locs1 (cells + (mC M' - mC M)) (slots + (mS M' - mS M)) X.Q (F0 X.m pc la (st.map (mv ρ1))) q9) :
    W X.p X.l X.e X.R X.s X.m X.args X.below X.meth X.c H locs cells slots X.Q (F0 X.m pc la st0) := by
  subst hp
  intro T hT Y
  rcases hr T hT Y with ⟨v, st₀, t, T', L, h0, X', hL, e1, e2, ⟨⟨w, ρ1, ho, hv, hw, hE, hH1⟩, hF⟩, gs⟩ | ⟨q, st₀, t, T', L, E, ce, h0, X', hL, e1, e2, ⟨⟨e9, ρ1, ho, hee, hE, hH1⟩, hF⟩, hce, hcv, hcl, gs⟩
  · obtain ⟨k1, k2, k3⟩ := vx_keep h0 e1 hS (fun _ _ h => h) (fun _ h => h) hL hF
    have hv' : v = w.map (mv ρ1) := by cases hv; rfl
    subst hv'
    rw [← e1] at hH1
    have hE' : Ext M ρ M' ρ1 := hE
    have hw' : vokO (mN M') w := hw
    have hgo := (kv w ho).2 X h ρ1 T'.heap (locs ++ L) (cells + (mC M' - mC M)) (slots + (mS M' - mS M)) la hH1 (lok_mono hE'.1 hl)
      (by cases w with
        | none => exact sok_mono hE'.1 hs
        | some w => exact ⟨hw', sok_mono hE'.1 hs⟩) (he.tr hE') k3 (by have := hle.1; omega) (by have := hle.2; omega) (by rw [mls_ext hE'.2 hl]; exact hla)
    obtain ⟨t2, a1, b1⟩ := hgo T' rfl X'
    refine ⟨t2, gs t2 ?_, b1⟩
    have e9 : (w.toList ++ st).map (mv ρ1) = (w.map (mv ρ1)).toList ++ st.map (mv ρ) := by
      rw [List.map_append, mvs_ext hE'.2 hs]
      cases w <;> rfl
    rw [e9] at a1
    exact a1
  · obtain ⟨k1, k2, k3⟩ := vx_keep h0 e1 hS (fun _ _ h => h) (fun _ h => h) hL hF
    have hE' : Ext M ρ M' ρ1 := hE
    rw [← e1] at hH1 hce
    subst hee
    have hx := kx e9 ho ρ1 ce q T'.heap (locs ++ L) hH1 hE' (he.tr hE') k3 (by rw [mls_ext hE'.2 hl]; exact hla) (lok_mono hE'.1 hl) (sok_mono hE'.1 hs) hce hcv hcl
    obtain ⟨t2, a1, b1⟩ := hx T' rfl X'
    refine ⟨t2, gs.trans ?_, b1⟩
    rw [mvs_ext hE'.2 hs] at a1
    exact a1
end
-- CALL ROWS, by program
section
variable {G : Gl} {B : Bx} {own : String} {cc : ByteArray} {ret : Option FieldType} {fr lo nL : Nat} {mn : String} {hh : List (Nat × Nat × Nat × Nat)} {pc : Nat} {ls : List (Nat × Value)} {st st0 : List Value} {M M1 M' : Mem} {kk : Nat} {C : String} {T : u_T} {N : Nat} {ty : Nat → FieldType} {f a index : Nat}
variable {y : MethodName} {cy : ByteArray} {nY fy ly n b : Nat} {rety : Option FieldType} {As : List Value}
theorem good_sub {ws : List Cond} (h : ∀ w ∈ ws, w ∈ GW) : GoodIn GW ws := fun w hw => ⟨h w hw, good_of_word (List.mem_filter.mp (h w hw)).2⟩
/-- the words of a virtual call -/
def wdV (own : String) (index : Nat) (C : String) (y : MethodName) (cy : ByteArray) (nY : Nat) (rety : Option FieldType) (n : Nat) : Prop :=
  Cond.methodLink own index y ∈ GW ∧ Cond.instanceMethod y ∈ GW ∧ Cond.selects C y y ∈ GW ∧ Cond.initialized C ∈ GW ∧ Cond.code y cy nY rety ∈ GW ∧ (y.cls = C ∧ y.cls ≠ "java/lang/invoke/MethodHandle" ∧ y.cls ≠ "java/lang/invoke/VarHandle" ∧ (parseMethodDescriptor y.desc).map (fun d => d.parameters.length) = some n)
def wdS (own : String) (index : Nat) (y : MethodName) (cy : ByteArray) (nY : Nat) (rety : Option FieldType) (n : Nat) : Prop :=
  Cond.methodLink own index y ∈ GW ∧ Cond.static y ∈ GW ∧ Cond.initialized own ∈ GW ∧ Cond.code y cy nY rety ∈ GW ∧ (y.cls = own ∧ y.cls ≠ "java/lang/invoke/MethodHandle" ∧ y.cls ≠ "java/lang/invoke/VarHandle" ∧ (parseMethodDescriptor y.desc).map (fun d => d.parameters.length) = some n)
def wdT (own : String) (index : Nat) (y : MethodName) (cy : ByteArray) (nY : Nat) (rety : Option FieldType) (n : Nat) : Prop :=
  Cond.methodLink own index y ∈ GW ∧ Cond.static y ∈ GW ∧ Cond.initialized y.cls ∈ GW ∧ Cond.code y cy nY rety ∈ GW ∧ (y.cls ≠ "java/lang/invoke/MethodHandle" ∧ y.cls ≠ "java/lang/invoke/VarHandle" ∧ (parseMethodDescriptor y.desc).map (fun d => d.parameters.length) = some n)
def wdI (own : String) (index : Nat) (y : MethodName) (cy : ByteArray) (nY : Nat) (n : Nat) : Prop :=
  Cond.methodLink own index y ∈ GW ∧ Cond.instanceMethod y ∈ GW ∧ Cond.initialized y.cls ∈ GW ∧ Cond.code y cy nY none ∈ GW ∧ y.name = "<init>" ∧ (y.cls ≠ "java/lang/invoke/MethodHandle" ∧ y.cls ≠ "java/lang/invoke/VarHandle" ∧ (parseMethodDescriptor y.desc).map (fun d => d.parameters.length) = some n)
theorem st_rev (ρ : Nat → Nat) (As st : List Value) (b : Nat) : (As.reverse ++ .ref b :: st).map (mv ρ) = (As.map (mv ρ)).reverse ++ .ref (ρ b) :: st.map (mv ρ) := by
  rw [List.map_append, List.map_reverse, List.map_cons]; rfl
theorem st_revS (ρ : Nat → Nat) (As st : List Value) : (As.reverse ++ st).map (mv ρ) = (As.map (mv ρ)).reverse ++ st.map (mv ρ) := by
  rw [List.map_append, List.map_reverse]
theorem sok_app {n : Nat} : ∀ {l r : List Value}, sok n (l ++ r) → sok n l ∧ sok n r
  | [], _, h => ⟨trivial, h⟩
  | _ :: _, _, h => ⟨⟨h.1, (sok_app h.2).1⟩, (sok_app h.2).2⟩
theorem sok_of {n : Nat} : ∀ {l : List Value}, (∀ v ∈ l, vok n v) → sok n l
  | [], _ => trivial
  | _ :: _, h => ⟨h _ List.mem_cons_self, sok_of (fun q hq => h q (List.mem_cons_of_mem _ hq))⟩
theorem sok_mem {n : Nat} : ∀ {l : List Value} {v : Value}, sok n l → v ∈ l → vok n v
  | _ :: _, _, hv, h => by
    rcases List.mem_cons.mp h with rfl | h
    · exact hv.1
    · exact sok_mem hv.2 h
theorem sok_rev {n : Nat} {l : List Value} (h : sok n l.reverse) : sok n l := sok_of fun _ hv => sok_mem h (List.mem_reverse.mpr hv)
theorem runV_of {X : Cx} {ρ : Nat → Nat} {H : Heap} {locs : List Loc} {cells slots : Nat} {la : Array Slot} {o : Out} (h : Ok X G (own, cc, ret, fr, lo, nL, mn, hh) B) (hC : CtrP G y cy nY rety fy ly (.ref b :: As) M o M') (w : wdV own index C y cy nY rety n)
    (hc : CLk kk C T N ty) (hk : (mK M b).1 = kk) (hn : As.length = n) (hcat : (st.map fun v => v.category).sum ≤ 8) (hR : fy + 1 ≤ fr ∧ 8 + (nY + 11) + ly ≤ lo) (hd : decode cc pc = .ok (.invokevirtual index, 3))
    (hH : HR G M ρ H) (hs : sok (mN M) (As.reverse ++ .ref b :: st)) (he : Ext B.2.1 B.1 M ρ) (hS : va_S (AO G) X.s.heap H locs) (hla : lv_has la X.c.maxLocals (ls.map (ml ρ))) (hcells : cells + (mC M' - mC M) ≤ mC B.2.2.2 - mC B.2.1 ∧ slots + (mS M' - mS M) ≤ mS B.2.2.2 - mS B.2.1) :
    vx_Run X.p X.l X.e X.R X.s X.m X.args X.below X.meth X.c H locs cells slots (mC M' - mC M) (mS M' - mS M) (F0 X.m pc la ((As.reverse ++ .ref b :: st).map (mv ρ))) (st.map (mv ρ)) (QcP G (ρ, M, o, M') ((Value.ref b :: As).map (mv ρ)).toArray) (XcP G (ρ, M, o, M')) (AO G) := by
  obtain ⟨w1, w2, w3, w4, w5, w6⟩ := w
  have hRR := h.2.2.2.2.2.2.2.2.1
  have hP := pcc_at h hH he hS (av := .ref b :: As) ⟨(sok_app hs).2.1, sok_rev (sok_app hs).1⟩
  refine vx_runV (Ts := GW) (As := As.map (mv ρ)) (rest := st.map (mv ρ)) ⟨h.1, h.2.1, h.2.2.2.2.2.2.2.2.2.2.1, h.2.2.1, h.2.2.2.1⟩ (hC.2 X.l h.2.2.2.2.2.2.1 ρ)
    (cwV (ws' := GW) n h.2.2.2.1 (good_sub ?_) rfl rfl rfl w6 (by rw [hRR]; exact hR)) ⟨hP.1, va_recv h.2.2.2.2.1.1 hH.1 hc.1 (ws_obj hH hk hc.2.2.2.2.1), hP.2⟩ rfl (by rw [List.length_map]; exact hn) (by rw [← h.2.2.2.2.2.2.2.2.2.2.1]; exact hla.1) (st_rev ρ As st b) (by rw [mv_cats]; show 2 * 0 + _ ≤ 8; omega) hd (by rw [hRR]; exact hcells)
  intro q hq
  rcases List.mem_append.mp hq with hq | hq
  · simp only [List.mem_cons, List.not_mem_nil, or_false] at hq
    rcases hq with rfl | rfl | rfl | rfl
    · exact w1
    · exact w2
    · exact w3
    · exact w4
  · rcases List.mem_cons.mp hq with rfl | hq
    · exact w5
    · exact hq
theorem runT_of {X : Cx} {ρ : Nat → Nat} {H : Heap} {locs : List Loc} {cells slots : Nat} {la : Array Slot} {o : Out} (h : Ok X G (own, cc, ret, fr, lo, nL, mn, hh) B) (hC : CtrP G y cy nY rety fy ly As M o M') (w : wdT own index y cy nY rety n)
    (hn : As.length = n) (hcat : (st.map fun v => v.category).sum ≤ 8) (hR : fy + 1 ≤ fr ∧ 8 + (nY + 11) + ly ≤ lo) (hd : decode cc pc = .ok (.invokestatic index, 3))
    (hH : HR G M ρ H) (hs : sok (mN M) (As.reverse ++ st)) (he : Ext B.2.1 B.1 M ρ) (hS : va_S (AO G) X.s.heap H locs) (hla : lv_has la X.c.maxLocals (ls.map (ml ρ))) (hcells : cells + (mC M' - mC M) ≤ mC B.2.2.2 - mC B.2.1 ∧ slots + (mS M' - mS M) ≤ mS B.2.2.2 - mS B.2.1) :
    vx_Run X.p X.l X.e X.R X.s X.m X.args X.below X.meth X.c H locs cells slots (mC M' - mC M) (mS M' - mS M) (F0 X.m pc la ((As.reverse ++ st).map (mv ρ))) (st.map (mv ρ)) (QcP G (ρ, M, o, M') (As.map (mv ρ)).toArray) (XcP G (ρ, M, o, M')) (AO G) := by
  obtain ⟨w1, w2, w3, w4, w5, w6, w7⟩ := w
  have hRR := h.2.2.2.2.2.2.2.2.1
  have hP := pcc_at h hH he hS (av := As) (sok_rev (sok_app hs).1)
  refine vx_runS (Ts := GW) (As := As.map (mv ρ)) (rest := st.map (mv ρ)) ⟨h.1, h.2.1, h.2.2.2.2.2.2.2.2.2.2.1, h.2.2.1, h.2.2.2.1⟩ (hC.2 X.l h.2.2.2.2.2.2.1 ρ)
    ⟨callB_of (ws' := GW) n h.2.2.2.1 (good_sub ?_) rfl rfl rfl (h.2.2.2.1 _ w3) (h.2.2.2.1 _ w1) ⟨w5, w6, w7⟩ (by rw [hRR]; exact hR), h.2.2.2.1 _ w2⟩ hP rfl (by rw [List.length_map]; exact hn) (by rw [← h.2.2.2.2.2.2.2.2.2.2.1]; exact hla.1) (st_revS ρ As st) (by rw [mv_cats]; show 2 * 0 + _ ≤ 8; omega) hd (by rw [hRR]; exact hcells)
  intro q hq
  rcases List.mem_cons.mp hq with rfl | hq
  · exact w4
  · exact hq
/-- what a contract gives where nothing is thrown -/
theorem met_of {G : Gl} {l : Launch} {ws : List Cond} {rm : Room} {Pc : Array Value → State → Prop} {B : Bx} {v : Option Value} {mc ms : Nat} {fre : Addr → Prop} (h : vx_Met l y ws rm Pc (QcP G (B.1, B.2.1, .inl v, M')) (XcP G (B.1, B.2.1, .inl v, M')) mc ms fre) : Met l y ws rm Pc (QcP G (B.1, B.2.1, .inl v, M')) mc ms fre := by
  intro p e h1 h2 h3 s m args below h4 h5 h6 h7
  obtain ⟨n, o, g1, g2, g3, g4⟩ := h p e h1 h2 h3 s m args below h4 h5 h6 h7
  refine ⟨n, o, g1, g2, g3, ?_⟩
  rcases g4 with g4 | ⟨q, -, E, ce, L, hx, -⟩
  · exact g4
  · obtain ⟨⟨e9, ρ9, h9, -⟩, -⟩ := hx
    cases h9
theorem runI_of {X : Cx} {ρ : Nat → Nat} {H : Heap} {locs : List Loc} {cells slots : Nat} {la : Array Slot} {v : Option Value} (h : Ok X G (own, cc, ret, fr, lo, nL, mn, hh) B) (hC : CtrP G y cy nY none fy ly (.ref b :: As) M (.inl v) M') (w : wdI own index y cy nY n)
    (hn : As.length = n) (hcat : (st.map fun v => v.category).sum ≤ 8) (hR : fy + 1 ≤ fr ∧ 8 + (nY + 11) + ly ≤ lo) (hd : decode cc pc = .ok (.invokespecial index, 3))
    (hH : HR G M ρ H) (hs : sok (mN M) (As.reverse ++ .ref b :: st)) (he : Ext B.2.1 B.1 M ρ) (hS : va_S (AO G) X.s.heap H locs) (hla : lv_has la X.c.maxLocals (ls.map (ml ρ))) (hcells : cells + (mC M' - mC M) ≤ mC B.2.2.2 - mC B.2.1 ∧ slots + (mS M' - mS M) ≤ mS B.2.2.2 - mS B.2.1) :
    vx_Run X.p X.l X.e X.R X.s X.m X.args X.below X.meth X.c H locs cells slots (mC M' - mC M) (mS M' - mS M) (F0 X.m pc la ((As.reverse ++ .ref b :: st).map (mv ρ))) (st.map (mv ρ)) (QcP G (ρ, M, .inl v, M') ((Value.ref b :: As).map (mv ρ)).toArray) (XcP G (ρ, M, .inl v, M')) (AO G) := by
  obtain ⟨w1, w2, w3, w4, w5, w6, w7, w8⟩ := w
  have hRR := h.2.2.2.2.2.2.2.2.1
  have hP := pcc_at h hH he hS (av := .ref b :: As) ⟨(sok_app hs).2.1, sok_rev (sok_app hs).1⟩
  have hr := va_runI (p := X.p) (e := X.e) (R := X.R) (s := X.s) (m := X.m) (args := X.args) (below := X.below) (meth := X.meth) (c := X.c) (Ts := GW) (As := As.map (mv ρ)) (b := ρ b) (rest := st.map (mv ρ)) (H := H) (locs := locs) (cells := cells) (slots := slots) (g := F0 X.m pc la ((As.reverse ++ .ref b :: st).map (mv ρ))) ⟨h.1, h.2.1, h.2.2.2.2.2.2.2.2.2.2.1, h.2.2.1, h.2.2.2.1⟩ (met_of (B := (ρ, M, .inl v, M')) (hC.2 X.l h.2.2.2.2.2.2.1 ρ))
    (cwI (ws' := GW) n h.2.2.2.1 (good_sub (fun q hq => by
      rcases List.mem_cons.mp hq with rfl | hq
      · exact w4
      · exact hq)) rfl rfl rfl (h.2.2.2.1 _ w3) (h.2.2.2.1 _ w1) (h.2.2.2.1 _ w2) w5 ⟨w6, w7, w8⟩ (by rw [hRR]; exact hR)) hP rfl (by rw [List.length_map]; exact hn) (by rw [← h.2.2.2.2.2.2.2.2.2.2.1]; exact hla.1) (st_rev ρ As st b) (by rw [mv_cats]; show 2 * 0 + _ ≤ 8; omega) hd (by rw [hRR]; exact hcells)
  intro T0 hT0 Y
  exact Or.inl (hr T0 hT0 Y)
theorem v_callV0 (hC : CtrP G y cy nY rety fy ly (.ref b :: As) M (.inl (none)) M') (w : wdV own index C y cy nY rety n) (hc : CLk kk C T N ty) (hk : (mK M b).1 = kk) (hd : decode cc pc = .ok (.invokevirtual index, 3)) (hs0 : st0 = As.reverse ++ .ref b :: st) (hn : As.length = n) (hcat : (st.map fun v => v.category).sum ≤ 8) (hR : fy + 1 ≤ fr ∧ 8 + (nY + 11) + ly ≤ lo) (k : V G (own, cc, ret, fr, lo, nL, mn, hh) B (pc + 3) ls (st) M') : V G (own, cc, ret, fr, lo, nL, mn, hh) B pc ls st0 M := by
  have hle := hC.1
  refine ⟨⟨Nat.le_trans hle.1 k.1.1, Nat.le_trans hle.2 k.1.2⟩, fun X h ρ H locs cells slots la hH hl hs he hS hcc hn2 hla => ?_⟩
  have hle2 := k.1
  subst hs0
  exact run_on rfl h (runV_of (ls := ls) h hC w hc hk hn hcat hR hd hH hs he hS hla ⟨by omega, by omega⟩) hle hH hl ((sok_app hs).2.2) he hS hcc hn2 hla (fun v9 h9 => by cases h9; exact k) (fun e9 h9 => nomatch h9)
theorem v_callS0 (hC : CtrP G y cy nY rety fy ly As M (.inl (none)) M') (w : wdT own index y cy nY rety n) (hd : decode cc pc = .ok (.invokestatic index, 3)) (hs0 : st0 = As.reverse ++ st) (hn : As.length = n) (hcat : (st.map fun v => v.category).sum ≤ 8) (hR : fy + 1 ≤ fr ∧ 8 + (nY + 11) + ly ≤ lo) (k : V G (own, cc, ret, fr, lo, nL, mn, hh) B (pc + 3) ls (st) M') : V G (own, cc, ret, fr, lo, nL, mn, hh) B pc ls st0 M := by
  have hle := hC.1
  refine ⟨⟨Nat.le_trans hle.1 k.1.1, Nat.le_trans hle.2 k.1.2⟩, fun X h ρ H locs cells slots la hH hl hs he hS hcc hn2 hla => ?_⟩
  have hle2 := k.1
  subst hs0
  exact run_on rfl h (runT_of (ls := ls) h hC w hn hcat hR hd hH hs he hS hla ⟨by omega, by omega⟩) hle hH hl ((sok_app hs).2) he hS hcc hn2 hla (fun v9 h9 => by cases h9; exact k) (fun e9 h9 => nomatch h9)
theorem v_callVi {x : Int32} (hC : CtrP G y cy nY rety fy ly (.ref b :: As) M (.inl (some (.int x))) M') (w : wdV own index C y cy nY rety n) (hc : CLk kk C T N ty) (hk : (mK M b).1 = kk) (hd : decode cc pc = .ok (.invokevirtual index, 3)) (hs0 : st0 = As.reverse ++ .ref b :: st) (hn : As.length = n) (hcat : (st.map fun v => v.category).sum ≤ 8) (hR : fy + 1 ≤ fr ∧ 8 + (nY + 11) + ly ≤ lo) (k : V G (own, cc, ret, fr, lo, nL, mn, hh) B (pc + 3) ls (.int x :: st) M') : V G (own, cc, ret, fr, lo, nL, mn, hh) B pc ls st0 M := by
  have hle := hC.1
  refine ⟨⟨Nat.le_trans hle.1 k.1.1, Nat.le_trans hle.2 k.1.2⟩, fun X h ρ H locs cells slots la hH hl hs he hS hcc hn2 hla => ?_⟩
  have hle2 := k.1
  subst hs0
  exact run_on rfl h (runV_of (ls := ls) h hC w hc hk hn hcat hR hd hH hs he hS hla ⟨by omega, by omega⟩) hle hH hl ((sok_app hs).2.2) he hS hcc hn2 hla (fun v9 h9 => by cases h9; exact k) (fun e9 h9 => nomatch h9)
theorem v_callSi {x : Int32} (hC : CtrP G y cy nY rety fy ly As M (.inl (some (.int x))) M') (w : wdT own index y cy nY rety n) (hd : decode cc pc = .ok (.invokestatic index, 3)) (hs0 : st0 = As.reverse ++ st) (hn : As.length = n) (hcat : (st.map fun v => v.category).sum ≤ 8) (hR : fy + 1 ≤ fr ∧ 8 + (nY + 11) + ly ≤ lo) (k : V G (own, cc, ret, fr, lo, nL, mn, hh) B (pc + 3) ls (.int x :: st) M') : V G (own, cc, ret, fr, lo, nL, mn, hh) B pc ls st0 M := by
  have hle := hC.1
  refine ⟨⟨Nat.le_trans hle.1 k.1.1, Nat.le_trans hle.2 k.1.2⟩, fun X h ρ H locs cells slots la hH hl hs he hS hcc hn2 hla => ?_⟩
  have hle2 := k.1
  subst hs0
  exact run_on rfl h (runT_of (ls := ls) h hC w hn hcat hR hd hH hs he hS hla ⟨by omega, by omega⟩) hle hH hl ((sok_app hs).2) he hS hcc hn2 hla (fun v9 h9 => by cases h9; exact k) (fun e9 h9 => nomatch h9)
theorem v_callVl {x : Int64} (hC : CtrP G y cy nY rety fy ly (.ref b :: As) M (.inl (some (.long x))) M') (w : wdV own index C y cy nY rety n) (hc : CLk kk C T N ty) (hk : (mK M b).1 = kk) (hd : decode cc pc = .ok (.invokevirtual index, 3)) (hs0 : st0 = As.reverse ++ .ref b :: st) (hn : As.length = n) (hcat : (st.map fun v => v.category).sum ≤ 8) (hR : fy + 1 ≤ fr ∧ 8 + (nY + 11) + ly ≤ lo) (k : V G (own, cc, ret, fr, lo, nL, mn, hh) B (pc + 3) ls (.long x :: st) M') : V G (own, cc, ret, fr, lo, nL, mn, hh) B pc ls st0 M := by
  have hle := hC.1
  refine ⟨⟨Nat.le_trans hle.1 k.1.1, Nat.le_trans hle.2 k.1.2⟩, fun X h ρ H locs cells slots la hH hl hs he hS hcc hn2 hla => ?_⟩
  have hle2 := k.1
  subst hs0
  exact run_on rfl h (runV_of (ls := ls) h hC w hc hk hn hcat hR hd hH hs he hS hla ⟨by omega, by omega⟩) hle hH hl ((sok_app hs).2.2) he hS hcc hn2 hla (fun v9 h9 => by cases h9; exact k) (fun e9 h9 => nomatch h9)
theorem v_callSl {x : Int64} (hC : CtrP G y cy nY rety fy ly As M (.inl (some (.long x))) M') (w : wdT own index y cy nY rety n) (hd : decode cc pc = .ok (.invokestatic index, 3)) (hs0 : st0 = As.reverse ++ st) (hn : As.length = n) (hcat : (st.map fun v => v.category).sum ≤ 8) (hR : fy + 1 ≤ fr ∧ 8 + (nY + 11) + ly ≤ lo) (k : V G (own, cc, ret, fr, lo, nL, mn, hh) B (pc + 3) ls (.long x :: st) M') : V G (own, cc, ret, fr, lo, nL, mn, hh) B pc ls st0 M := by
  have hle := hC.1
  refine ⟨⟨Nat.le_trans hle.1 k.1.1, Nat.le_trans hle.2 k.1.2⟩, fun X h ρ H locs cells slots la hH hl hs he hS hcc hn2 hla => ?_⟩
  have hle2 := k.1
  subst hs0
  exact run_on rfl h (runT_of (ls := ls) h hC w hn hcat hR hd hH hs he hS hla ⟨by omega, by omega⟩) hle hH hl ((sok_app hs).2) he hS hcc hn2 hla (fun v9 h9 => by cases h9; exact k) (fun e9 h9 => nomatch h9)
theorem v_callVr {x : Nat} (hC : CtrP G y cy nY rety fy ly (.ref b :: As) M (.inl (some (.ref x))) M') (w : wdV own index C y cy nY rety n) (hc : CLk kk C T N ty) (hk : (mK M b).1 = kk) (hd : decode cc pc = .ok (.invokevirtual index, 3)) (hs0 : st0 = As.reverse ++ .ref b :: st) (hn : As.length = n) (hcat : (st.map fun v => v.category).sum ≤ 8) (hR : fy + 1 ≤ fr ∧ 8 + (nY + 11) + ly ≤ lo) (k : V G (own, cc, ret, fr, lo, nL, mn, hh) B (pc + 3) ls (.ref x :: st) M') : V G (own, cc, ret, fr, lo, nL, mn, hh) B pc ls st0 M := by
  have hle := hC.1
  refine ⟨⟨Nat.le_trans hle.1 k.1.1, Nat.le_trans hle.2 k.1.2⟩, fun X h ρ H locs cells slots la hH hl hs he hS hcc hn2 hla => ?_⟩
  have hle2 := k.1
  subst hs0
  exact run_on rfl h (runV_of (ls := ls) h hC w hc hk hn hcat hR hd hH hs he hS hla ⟨by omega, by omega⟩) hle hH hl ((sok_app hs).2.2) he hS hcc hn2 hla (fun v9 h9 => by cases h9; exact k) (fun e9 h9 => nomatch h9)
theorem v_callSr {x : Nat} (hC : CtrP G y cy nY rety fy ly As M (.inl (some (.ref x))) M') (w : wdT own index y cy nY rety n) (hd : decode cc pc = .ok (.invokestatic index, 3)) (hs0 : st0 = As.reverse ++ st) (hn : As.length = n) (hcat : (st.map fun v => v.category).sum ≤ 8) (hR : fy + 1 ≤ fr ∧ 8 + (nY + 11) + ly ≤ lo) (k : V G (own, cc, ret, fr, lo, nL, mn, hh) B (pc + 3) ls (.ref x :: st) M') : V G (own, cc, ret, fr, lo, nL, mn, hh) B pc ls st0 M := by
  have hle := hC.1
  refine ⟨⟨Nat.le_trans hle.1 k.1.1, Nat.le_trans hle.2 k.1.2⟩, fun X h ρ H locs cells slots la hH hl hs he hS hcc hn2 hla => ?_⟩
  have hle2 := k.1
  subst hs0
  exact run_on rfl h (runT_of (ls := ls) h hC w hn hcat hR hd hH hs he hS hla ⟨by omega, by omega⟩) hle hH hl ((sok_app hs).2) he hS hcc hn2 hla (fun v9 h9 => by cases h9; exact k) (fun e9 h9 => nomatch h9)
theorem v_callI (hC : CtrP G y cy nY none fy ly (.ref b :: As) M (.inl none) M') (w : wdI own index y cy nY n) (hd : decode cc pc = .ok (.invokespecial index, 3)) (hs0 : st0 = As.reverse ++ .ref b :: st) (hn : As.length = n) (hcat : (st.map fun v => v.category).sum ≤ 8) (hR : fy + 1 ≤ fr ∧ 8 + (nY + 11) + ly ≤ lo) (k : V G (own, cc, ret, fr, lo, nL, mn, hh) B (pc + 3) ls st M') : V G (own, cc, ret, fr, lo, nL, mn, hh) B pc ls st0 M := by
  have hle := hC.1
  refine ⟨⟨Nat.le_trans hle.1 k.1.1, Nat.le_trans hle.2 k.1.2⟩, fun X h ρ H locs cells slots la hH hl hs he hS hcc hn2 hla => ?_⟩
  have hle2 := k.1
  subst hs0
  exact run_on rfl h (runI_of (ls := ls) h hC w hn hcat hR hd hH hs he hS hla ⟨by omega, by omega⟩) hle hH hl ((sok_app hs).2.2) he hS hcc hn2 hla (fun v9 h9 => by cases h9; exact k) (fun e9 h9 => nomatch h9)
theorem v_callVx {ρ0 : Nat → Nat} {M0 : Mem} {e : Nat} (hC : CtrP G y cy nY rety fy ly (.ref b :: As) M (.inr e) M') (w : wdV own index C y cy nY rety n) (hc : CLk kk C T N ty) (hk : (mK M b).1 = kk) (hd : decode cc pc = .ok (.invokevirtual index, 3)) (hs0 : st0 = As.reverse ++ .ref b :: st) (hn : As.length = n) (hcat : (st.map fun v => v.category).sum ≤ 8) (hR : fy + 1 ≤ fr ∧ 8 + (nY + 11) + ly ≤ lo) : V G (own, cc, ret, fr, lo, nL, mn, []) (ρ0, M0, Sum.inr e, M') pc ls st0 M := by
  have hle := hC.1
  refine ⟨hle, fun X h ρ H locs cells slots la hH hl hs he hS hcc hn2 hla => ?_⟩
  subst hs0
  have hcc : cells + mC M0 ≤ mC M := hcc
  have hn2 : slots + mS M0 ≤ mS M := hn2
  refine run_on rfl h (runV_of (ls := ls) h hC w hc hk hn hcat hR hd hH hs he hS hla ⟨by show _ ≤ mC M' - mC M0; omega, by show _ ≤ mS M' - mS M0; omega⟩) hle hH hl ((sok_app hs).2.2) he hS hcc hn2 hla (fun v9 h9 => nomatch h9) (fun e9 h9 ρ1 ce q9 H1 locs1 g1 g2 g3 g4 g5 g6 g7 g8 g9 g10 => ?_)
  cases h9
  obtain ⟨hx, hb, hown, hts, hK, hlk, htr, hQ, hR2, hr, hml, hmn, htb⟩ := h
  have htb : X.c.exceptionTable.toList = [] := htb
  rw [hQ]
  exact vx_out (by rw [htb]; exact fun _ hq => nomatch hq) hlk g8 g9 g10 (fun t ht hal => ⟨⟨e, ρ1, rfl, rfl, g3, by rw [ht]; exact g1⟩, by rw [ht]; exact g4.1, fun q h1 h2 => by rw [ht]; exact g4.2.1 q h1 h2⟩) g4.2.2 (by show _ ≤ mC M' - mC M0; omega) (by show _ ≤ mS M' - mS M0; omega)
theorem v_callSx {ρ0 : Nat → Nat} {M0 : Mem} {e : Nat} (hC : CtrP G y cy nY rety fy ly As M (.inr e) M') (w : wdT own index y cy nY rety n) (hd : decode cc pc = .ok (.invokestatic index, 3)) (hs0 : st0 = As.reverse ++ st) (hn : As.length = n) (hcat : (st.map fun v => v.category).sum ≤ 8) (hR : fy + 1 ≤ fr ∧ 8 + (nY + 11) + ly ≤ lo) : V G (own, cc, ret, fr, lo, nL, mn, []) (ρ0, M0, Sum.inr e, M') pc ls st0 M := by
  have hle := hC.1
  refine ⟨hle, fun X h ρ H locs cells slots la hH hl hs he hS hcc hn2 hla => ?_⟩
  subst hs0
  have hcc : cells + mC M0 ≤ mC M := hcc
  have hn2 : slots + mS M0 ≤ mS M := hn2
  refine run_on rfl h (runT_of (ls := ls) h hC w hn hcat hR hd hH hs he hS hla ⟨by show _ ≤ mC M' - mC M0; omega, by show _ ≤ mS M' - mS M0; omega⟩) hle hH hl ((sok_app hs).2) he hS hcc hn2 hla (fun v9 h9 => nomatch h9) (fun e9 h9 ρ1 ce q9 H1 locs1 g1 g2 g3 g4 g5 g6 g7 g8 g9 g10 => ?_)
  cases h9
  obtain ⟨hx, hb, hown, hts, hK, hlk, htr, hQ, hR2, hr, hml, hmn, htb⟩ := h
  have htb : X.c.exceptionTable.toList = [] := htb
  rw [hQ]
  exact vx_out (by rw [htb]; exact fun _ hq => nomatch hq) hlk g8 g9 g10 (fun t ht hal => ⟨⟨e, ρ1, rfl, rfl, g3, by rw [ht]; exact g1⟩, by rw [ht]; exact g4.1, fun q h1 h2 => by rw [ht]; exact g4.2.1 q h1 h2⟩) g4.2.2 (by show _ ≤ mC M' - mC M0; omega) (by show _ ≤ mS M' - mS M0; omega)
end
