/-! ROWS: what is made; statics; the throw -/
theorem HR_push {G : Gl} {M : Mem} {ρ : Nat → Nat} {H H1 : Heap} {k n s q : Nat} {e : va_E} (hH : HR G M ρ H) (hlt : mN M + 1 < SCR) (he : cE G (mkM k n s M) (fun b => if b = mN M then q else ρ b) (mN M) = e)
    (hP : va_P (G.1, G.2.1) vwCl (wsM G M ρ ++ [(q, e)]) H1) (hD : va_D (AO G) (wsM G M ρ ++ [(q, e)])) : HR G (mkM k n s M) (fun b => if b = mN M then q else ρ b) H1 := by
  have hw : wsM G M ρ ++ [(q, e)] = wsM G (mkM k n s M) (fun b => if b = mN M then q else ρ b) := by
    refine ws_push rfl he (if_pos rfl) fun b hb => ?_
    have hne : b ≠ mN M := by omega
    refine Prod.ext (if_neg hne) (cE_congr (if_neg hne) (fun j => cl2_ne _ _ _ hne) (fun j => cl2_ne _ _ _ hne) (fun j => cl2_ne _ _ _ hne) (fun j => ?_))
    show (cl2 (mR M) (mN M) none b j).map _ = _
    rw [cl2_ne _ _ _ hne]
    cases hr : mR M b j with
    | none => rfl
    | some c =>
      have := hH.2.2.2.1 _ _ _ hr
      exact congrArg some (if_neg (by omega))
  rw [hw] at hP hD
  refine ⟨hP, hD, fun a ha => ?_, fun a i b hb => ?_, hlt⟩
  · have ha' : mN M + 1 ≤ a := ha
    show (if a = mN M then (k, n) else mK M a).1 = 99
    rw [if_neg (by omega)]
    exact hH.2.2.1 a (by omega)
  · show b < mN M + 1
    have hb' : cl2 (mR M) (mN M) none a i = some b := hb
    unfold cl2 at hb'
    split at hb'
    · cases hb'
    · exact Nat.lt_succ_of_lt (hH.2.2.2.1 _ _ _ hb')
theorem HR.kept {G : Gl} {M : Mem} {ρ : Nat → Nat} {H H1 : Heap} (h : HR G M ρ H) (hq : ∀ q : Nat, q < H.size → H1[q]? = H[q]?) : HR G M ρ H1 :=
  ⟨fun k q hk => (h.1 k q hk).kept (hq _ (h.1 k q hk).lt), h.2⟩
def dv (t : Nat) : Value := match t with
  | 0 => .int 0
  | 1 => .long 0
  | 2 => .float 0
  | _ => .null
section
variable {G : Gl} {B : Bx} {own : String} {cc : ByteArray} {ret : Option FieldType} {fr lo nL : Nat} {mn : String} {hh : List (Nat × Nat × Nat × Nat)} {pc : Nat} {ls : List (Nat × Value)} {st : List Value} {M M1 : Mem} {kk : Nat} {C : String} {T : u_T} {N : Nat} {ty : Nat → FieldType} {f a index : Nat}
theorem v_push_rest {X : Cx} {k n s q : Nat} {H1 : Heap} {ρ : Nat → Nat} {H : Heap} {locs : List Loc} {cells slots : Nat} {la : Array Slot} {e : va_E} (h : Ok X G (own, cc, ret, fr, lo, nL, mn, hh) B) (hlt : mN M + 1 < SCR)
    (kv : V G (own, cc, ret, fr, lo, nL, mn, hh) B pc ls (.ref (mN M) :: st) (mkM k n s M))
    (hH : HR G M ρ H) (hl : lok (mN M) ls) (hs : sok (mN M) st) (he : Ext B.2.1 B.1 M ρ) (hcc : cells + mC B.2.1 ≤ mC M) (hn : slots + mS B.2.1 ≤ mS M) (hla : lv_has la X.c.maxLocals (ls.map (ml ρ)))
    (hE : cE G (mkM k n s M) (fun b => if b = mN M then q else ρ b) (mN M) = e) (hP : va_P (G.1, G.2.1) vwCl (wsM G M ρ ++ [(q, e)]) H1) (hD : va_D (AO G) (wsM G M ρ ++ [(q, e)])) (hS : va_S (AO G) X.s.heap H1 locs) :
    W X.p X.l X.e X.R X.s X.m X.args X.below X.meth X.c H1 locs (cells + 1) (slots + s) X.Q (F0 X.m pc la (.ref q :: st.map (mv ρ))) := by
  have hx : ∀ a, (a < mN M ∨ SCR ≤ a) → (fun b => if b = mN M then q else ρ b) a = ρ a := fun a ha => if_neg (by rcases ha with ha | ha <;> omega)
  have hH1 := HR_push (s := s) hH hlt hE hP hD
  have he1 : Ext M ρ (mkM k n s M) (fun b => if b = mN M then q else ρ b) := ⟨Nat.le_succ _, hx⟩
  have := kv.2 X h _ H1 locs (cells + 1) (slots + s) la hH1 (lok_mono (Nat.le_succ _) hl) ⟨Or.inl (Nat.lt_succ_self _), sok_mono (Nat.le_succ _) hs⟩ (he.tr he1) hS (by show cells + 1 + mC B.2.1 ≤ mC M + 1; omega) (by show slots + s + mS B.2.1 ≤ mS M + s; omega) (by rw [mls_ext hx hl]; exact hla)
  rw [List.map_cons, mvs_ext hx hs] at this
  have e : mv (fun b => if b = mN M then q else ρ b) (.ref (mN M)) = .ref q := congrArg Value.ref (if_pos rfl)
  rw [e] at this
  exact this
theorem v_new (hc : CLk kk C T N ty) (hdv : ∀ j, j < N → defaultValue (ty j) = dv (fT kk j)) (hw : Cond.classLink own index C ∈ GW) (hi : Cond.instantiable C N ∈ GW) (hni : Cond.initialized C ∈ GW) (hd : decode cc pc = .ok (.new index, 3)) {x : Nat} (hx : nO kk N M = some (x, M1)) (k : V G (own, cc, ret, fr, lo, nL, mn, hh) B (pc + 3) ls (.ref x :: st) M1) : V G (own, cc, ret, fr, lo, nL, mn, hh) B pc ls st M := by
  unfold nO at hx
  split at hx
  · rename_i hlt
    cases hx
    have hk1 : mC M + 1 ≤ mC B.2.2.2 := k.1.1
    have hk2 : mS M + N ≤ mS B.2.2.2 := k.1.2
    refine ⟨⟨by omega, by omega⟩, fun X h ρ H locs cells slots la hH hl hs he hS hcc hn hla => ?_⟩
    have hR := h.2.2.2.2.2.2.2.2.1
    refine va_new (c0 := X.c) (D := (G.1, G.2.1)) (cl := vwCl) (ci := kk) (fs := (List.range (nF kk)).map (fun j => dv (fT kk j))) (C := C) (T := T) (N := N) h.1 h.2.1 h.2.2.2.1 hc.2.1 ty hc.2.2.1 h.2.2.1 (h.2.2.2.1 _ hw) (h.2.2.2.1 _ hi) (h.2.2.2.1 _ hni) h.2.2.2.2.1.1 hH.1 hH.2.1 hS (fun q hq => Nat.le_trans h.2.2.2.2.1.2.2.1 hq) hc.1 (fun j hj => ?_) (by rw [hR]; show cells + 1 ≤ mC B.2.2.2 - mC B.2.1; omega) (by rw [hR]; show slots + N ≤ mS B.2.2.2 - mS B.2.1; omega) hd (fun q H1 hP hD hS1 => ?_)
    · rw [hdv j hj]
      unfold vp_V
      rw [List.getD_eq_getElem?_getD, List.getElem?_map, List.getElem?_range (by rw [hc.2.2.2.2.2]; exact hj)]
      rfl
    · refine v_push_rest (k := kk) (n := 0) (s := N) h hlt k hH hl hs he hcc hn hla ?_ hP hD hS1
      have e0 : (mK (mkM kk 0 N M) (mN M)).1 = kk := congrArg Prod.fst (if_pos rfl)
      rw [cE, e0, if_pos hc.2.2.2.2.1]
      refine congrArg _ (congrArg _ (List.map_congr_left fun j _ => ?_))
      unfold fv dv
      have e1 : mI (mkM kk 0 N M) (mN M) j = 0 := cl2_eq _ _ _ _
      have e2 : mL (mkM kk 0 N M) (mN M) j = 0 := cl2_eq _ _ _ _
      have e3 : mF (mkM kk 0 N M) (mN M) j = 0 := cl2_eq _ _ _ _
      have e4 : mR (mkM kk 0 N M) (mN M) j = none := cl2_eq _ _ _ _
      rw [e1, e2, e3, e4]
      rfl
  · cases hx
theorem v_newq {n : Int32} {t0 : Nat} (hd : decode cc pc = .ok (.anewarray index, 3)) (ht : 5 ≤ t0) (ht2 : t0 < 11) (hty : tyA.getD t0 .int = .object C) (hw : Cond.classLink own index C ∈ GW) (hov : Cond.arrayOver (.object C) ∈ BW) {x : Nat} (hx : nA (t0 + 13) n M = some (x, M1)) (k : V G (own, cc, ret, fr, lo, nL, mn, hh) B (pc + 3) ls (.ref x :: st) M1) : V G (own, cc, ret, fr, lo, nL, mn, hh) B pc ls (.int n :: st) M := by
  unfold nA at hx
  split at hx
  · rename_i hlt
    obtain ⟨hlt, hn0, hn1⟩ := hlt
    cases hx
    have hk1 : mC M + 1 ≤ mC B.2.2.2 := k.1.1
    have hk2 : mS M + n.toNatClampNeg ≤ mS B.2.2.2 := k.1.2
    refine ⟨⟨by omega, by omega⟩, fun X h ρ H locs cells slots la hH hl hs he hS hcc hn hla => ?_⟩
    have hR := h.2.2.2.2.2.2.2.2.1
    refine va_newq (D := (G.1, G.2.1)) (cl := vwCl) (N' := n.toNatClampNeg) h.1 h.2.1 h.2.2.1 (h.2.2.2.1 _ hw) (va_AO.of (h.2.2.2.2.1.2.1 _ hov)) h.2.2.2.2.1.1 hH.1 hH.2.1 hS (fun q hq => Nat.le_trans h.2.2.2.2.1.2.2.1 hq) hn0 rfl (by omega) (by rw [hR]; show cells + 1 ≤ mC B.2.2.2 - mC B.2.1; omega) (by rw [hR]; show slots + _ ≤ mS B.2.2.2 - mS B.2.1; omega) hd (fun q cA H1 hK hP hD hS1 => ?_)
    have hcA : cA = G.2.2.1 t0 := by
      have e1 := (hK.2 (tyG G).length (cA, .object C) (by rw [List.getElem?_append_right (Nat.le_refl _), Nat.sub_self]; rfl)).2
      have e2 := (h.2.2.2.2.1.1.2 t0 _ (tyG_at G ht2)).2
      rw [hty] at e2
      exact va_RA_inj e1 e2
    subst hcA
    refine v_push_rest (k := t0 + 13) (n := n.toNatClampNeg) (s := n.toNatClampNeg) h hlt k hH hl hs.2 he hcc hn hla ?_ hP hD hS1
    have e0 : mK (mkM (t0 + 13) n.toNatClampNeg n.toNatClampNeg M) (mN M) = (t0 + 13, n.toNatClampNeg) := if_pos rfl
    rw [cE_ref (congrArg Prod.fst e0) (by omega), e0, Nat.add_sub_cancel]
    have e4 : ∀ j, mR (mkM (t0 + 13) n.toNatClampNeg n.toNatClampNeg M) (mN M) j = none := fun j => cl2_eq _ _ _ _
    simp only [e4]
    rfl
  · cases hx
theorem v_newa {n : Int32} {t0 : Nat} {atype : ArrayType} {tyx : FieldType} (z : Nat → (Nat → Int32) ⊕ (Nat → Int64) ⊕ (Nat → UInt32) ⊕ (Nat → UInt64) ⊕ (Nat → Option Nat)) (hd : decode cc pc = .ok (.newarray atype, 2)) (ht2 : t0 < 5) (hty : tyA.getD t0 .int = tyx) (hat : newarray.typeOf atype = tyx) (hcb : componentBytes tyx ≤ 8) (har : Cond.arrayClass tyx ∈ GW)
    (hz : ∀ (cA : ClassId) (m : Nat), vp_cell cA (m, z 0) = arrV cA m (fun _ => defaultValue tyx)) (hz2 : ∀ (Mx : Mem) (ρ : Nat → Nat) (b m : Nat), mK Mx b = (t0 + 13, m) → (∀ j, mI Mx b j = 0) → (∀ j, mL Mx b j = 0) → (∀ j, mF Mx b j = 0) → cE G Mx ρ b = .inl (G.2.2.1 t0, m, z 0))
    {x : Nat} (hx : nA (t0 + 13) n M = some (x, M1)) (k : V G (own, cc, ret, fr, lo, nL, mn, hh) B (pc + 2) ls (.ref x :: st) M1) : V G (own, cc, ret, fr, lo, nL, mn, hh) B pc ls (.int n :: st) M := by
  unfold nA at hx
  split at hx
  · rename_i hlt
    obtain ⟨hlt, hn0, hn1⟩ := hlt
    cases hx
    have hk1 : mC M + 1 ≤ mC B.2.2.2 := k.1.1
    have hk2 : mS M + n.toNatClampNeg ≤ mS B.2.2.2 := k.1.2
    refine ⟨⟨by omega, by omega⟩, fun X h ρ H locs cells slots la hH hl hs he hS hcc hn hla => ?_⟩
    have hR := h.2.2.2.2.2.2.2.2.1
    refine va_newa (D := (G.1, G.2.1)) (cl := vwCl) (N' := n.toNatClampNeg) (a0 := (n.toNatClampNeg, z 0)) h.1 h.2.1 (by rw [hat]; exact h.2.2.2.1 _ har) hat h.2.2.2.2.1.1 hH.1 hH.2.1 hS (fun q hq => Nat.le_trans h.2.2.2.2.1.2.2.1 hq) (fun cA => hz cA _) hn0 rfl (by have := Nat.mul_le_mul hn1 hcb; omega) (by rw [hR]; show cells + 1 ≤ mC B.2.2.2 - mC B.2.1; omega) (by rw [hR]; show slots + _ ≤ mS B.2.2.2 - mS B.2.1; omega) hd (fun q cA H1 hK hP hD hS1 => ?_)
    have hcA : cA = G.2.2.1 t0 := by
      have e1 := (hK.2 (tyG G).length (cA, tyx) (by rw [List.getElem?_append_right (Nat.le_refl _), Nat.sub_self]; rfl)).2
      have e2 := (h.2.2.2.2.1.1.2 t0 _ (tyG_at G (Nat.lt_trans ht2 (by decide)))).2
      rw [hty] at e2
      exact va_RA_inj e1 e2
    subst hcA
    refine v_push_rest (k := t0 + 13) (n := n.toNatClampNeg) (s := n.toNatClampNeg) h hlt k hH hl hs.2 he hcc hn hla ?_ hP hD hS1
    exact hz2 _ _ _ _ (if_pos rfl) (fun j => cl2_eq _ _ _ _) (fun j => cl2_eq _ _ _ _) (fun j => cl2_eq _ _ _ _)
  · cases hx
theorem cE_i {G : Gl} {t0 : Nat} (h : t0 = 0 ∨ t0 = 3 ∨ t0 = 4) (Mx : Mem) (ρ : Nat → Nat) (b m : Nat) (hk : mK Mx b = (t0 + 13, m)) (h1 : ∀ j, mI Mx b j = 0) : cE G Mx ρ b = .inl (G.2.2.1 t0, m, .inl (fun _ => 0)) := by
  rw [cE, hk]
  have e : mI Mx b = fun _ => 0 := funext h1
  rw [e]
  rcases h with rfl | rfl | rfl <;> rfl
theorem v_newa_int {n : Int32} (hd : decode cc pc = .ok (.newarray .int, 2)) (har : Cond.arrayClass .int ∈ GW) {x : Nat} (hx : nA 13 n M = some (x, M1)) (k : V G (own, cc, ret, fr, lo, nL, mn, hh) B (pc + 2) ls (.ref x :: st) M1) : V G (own, cc, ret, fr, lo, nL, mn, hh) B pc ls (.int n :: st) M :=
  v_newa (t0 := 0) (fun _ => .inl (fun _ => 0)) hd (by decide) rfl rfl (by decide) har (fun cA m => rfl) (fun Mx ρ b m hk h1 _ _ => cE_i (Or.inl rfl) Mx ρ b m hk h1) hx k
theorem v_newa_char {n : Int32} (hd : decode cc pc = .ok (.newarray .char, 2)) (har : Cond.arrayClass .char ∈ GW) {x : Nat} (hx : nA 16 n M = some (x, M1)) (k : V G (own, cc, ret, fr, lo, nL, mn, hh) B (pc + 2) ls (.ref x :: st) M1) : V G (own, cc, ret, fr, lo, nL, mn, hh) B pc ls (.int n :: st) M :=
  v_newa (t0 := 3) (fun _ => .inl (fun _ => 0)) hd (by decide) rfl rfl (by decide) har (fun cA m => rfl) (fun Mx ρ b m hk h1 _ _ => cE_i (Or.inr (Or.inl rfl)) Mx ρ b m hk h1) hx k
theorem v_newa_boolean {n : Int32} (hd : decode cc pc = .ok (.newarray .boolean, 2)) (har : Cond.arrayClass .boolean ∈ GW) {x : Nat} (hx : nA 17 n M = some (x, M1)) (k : V G (own, cc, ret, fr, lo, nL, mn, hh) B (pc + 2) ls (.ref x :: st) M1) : V G (own, cc, ret, fr, lo, nL, mn, hh) B pc ls (.int n :: st) M :=
  v_newa (t0 := 4) (fun _ => .inl (fun _ => 0)) hd (by decide) rfl rfl (by decide) har (fun cA m => rfl) (fun Mx ρ b m hk h1 _ _ => cE_i (Or.inr (Or.inr rfl)) Mx ρ b m hk h1) hx k
theorem v_newa_long {n : Int32} (hd : decode cc pc = .ok (.newarray .long, 2)) (har : Cond.arrayClass .long ∈ GW) {x : Nat} (hx : nA 14 n M = some (x, M1)) (k : V G (own, cc, ret, fr, lo, nL, mn, hh) B (pc + 2) ls (.ref x :: st) M1) : V G (own, cc, ret, fr, lo, nL, mn, hh) B pc ls (.int n :: st) M :=
  v_newa (t0 := 1) (fun _ => .inr (.inl (fun _ => 0))) hd (by decide) rfl rfl (by decide) har (fun cA m => rfl) (fun Mx ρ b m hk _ h2 _ => by rw [cE, hk]; have e : mL Mx b = fun _ => 0 := funext h2; rw [e]; rfl) hx k
theorem v_objInit (hl1 : Cond.methodLink own index objectInit ∈ GW) (hin : Cond.instanceMethod objectInit ∈ GW) (hco : Cond.code objectInit ⟨#[0xb1]⟩ 1 none ∈ GW) (hd : decode cc pc = .ok (.invokespecial index, 3)) (hfr : 1 ≤ fr) (hlo : (st.map fun v => v.category).sum + 12 ≤ lo) (k : V G (own, cc, ret, fr, lo, nL, mn, hh) B (pc + 3) ls st M) : V G (own, cc, ret, fr, lo, nL, mn, hh) B pc ls (.ref a :: st) M := by
  refine ⟨k.1, fun X h ρ H locs cells slots la hH hl hs he hS hcc hn hla => ?_⟩
  have hR := h.2.2.2.2.2.2.2.2.1
  refine W.objInit h.1 h.2.1 h.2.2.1 (h.2.2.2.1 _ hl1) (h.2.2.2.1 _ hin) (h.2.2.2.1 _ hco) rfl hla.1 rfl hd (by rw [hR]; exact hfr) (by rw [hR, mv_cats]; show 2 * 0 + _ + 12 ≤ lo; omega) (k.2 X h ρ H locs cells slots la hH hl hs.2 he hS hcc hn hla)
theorem v_gets {i : Nat} (hi : i < 3) (hw : Cond.fieldLink own index RX11 (stN i) "[I" ∈ GW) (hd : decode cc pc = .ok (.getstatic index, 3)) (k : V G (own, cc, ret, fr, lo, nL, mn, hh) B (pc + 3) ls (.ref (SCR + 1 + i) :: st) M) : V G (own, cc, ret, fr, lo, nL, mn, hh) B pc ls st M := by
  refine ⟨k.1, fun X h ρ H locs cells slots la hH hl hs he hS hcc hn hla => ?_⟩
  have hZ := (h.2.2.2.2.1.2.2.2.1 i hi).1
  rw [← he.2 (SCR + 1 + i) (Or.inr (by omega))] at hZ
  exact va_gets h.1 h.2.1 hZ hS h.2.2.1 (h.2.2.2.1 _ hw) (fun _ h9 => h9) hd (k.2 X h ρ H locs cells slots la hH hl ⟨Or.inr (by omega), hs⟩ he hS hcc hn hla)
theorem v_getsN {i : Nat} {host : String} (hi : i < 3) (hw : Cond.fieldLinkNest own index RX11 (stN i) "[I" host ∈ BW) (hd : decode cc pc = .ok (.getstatic index, 3)) (k : V G (own, cc, ret, fr, lo, nL, mn, hh) B (pc + 3) ls (.ref (SCR + 1 + i) :: st) M) : V G (own, cc, ret, fr, lo, nL, mn, hh) B pc ls st M := by
  refine ⟨k.1, fun X h ρ H locs cells slots la hH hl hs he hS hcc hn hla => ?_⟩
  have hZ := (h.2.2.2.2.1.2.2.2.1 i hi).1
  rw [← he.2 (SCR + 1 + i) (Or.inr (by omega))] at hZ
  exact va_getsN h.1 h.2.1 hZ hS h.2.2.1 (bw_warm (List.mem_filter.mp hw).2 (State.WarmedH.refl _) (h.2.2.2.2.1.2.1 _ hw)) (fun _ h9 => h9) hd (k.2 X h ρ H locs cells slots la hH hl ⟨Or.inr (by omega), hs⟩ he hS hcc hn hla)
theorem v_stld {i : Int32} {w : Nat} (hi : w < 3) (hd : decode cc pc = .ok (.iaload, 1)) {x : Int32} (hx : stI w i = some x) (k : V G (own, cc, ret, fr, lo, nL, mn, hh) B (pc + 1) ls (.int x :: st) M) : V G (own, cc, ret, fr, lo, nL, mn, hh) B pc ls (.int i :: .ref (SCR + 1 + w) :: st) M := by
  refine ⟨k.1, fun X h ρ H locs cells slots la hH hl hs he hS hcc hn hla => ?_⟩
  obtain ⟨j, hj, rfl⟩ := Option.map_eq_some_iff.mp hx
  obtain ⟨h1, rfl⟩ := ix_spec hj
  have hT := (h.2.2.2.2.1.2.2.2.1 w hi).2
  rw [← he.2 (SCR + 1 + w) (Or.inr (by omega))] at hT
  exact va_ti h.1 h.2.1 hT hS h1 rfl hd (k.2 X h ρ H locs cells slots la hH hl ⟨trivial, hs.2.2⟩ he hS hcc hn hla)
theorem v_stlen {w : Nat} (hi : w < 3) (hd : decode cc pc = .ok (.arraylength, 1)) (k : V G (own, cc, ret, fr, lo, nL, mn, hh) B (pc + 1) ls (.int 4 :: st) M) : V G (own, cc, ret, fr, lo, nL, mn, hh) B pc ls (.ref (SCR + 1 + w) :: st) M := by
  refine ⟨k.1, fun X h ρ H locs cells slots la hH hl hs he hS hcc hn hla => ?_⟩
  have hT := (h.2.2.2.2.1.2.2.2.1 w hi).2
  rw [← he.2 (SCR + 1 + w) (Or.inr (by omega))] at hT
  exact va_tlen h.1 h.2.1 hT hS rfl hd (k.2 X h ρ H locs cells slots la hH hl ⟨trivial, hs.2⟩ he hS hcc hn hla)
/-- 'throw new E()' in a method without a table -/
theorem v_throw {ρ0 : Nat → Nat} {M0 : Mem} {ik ic e : Nat} {cls : String} {names : List String} (hcl : cls = exN e) (hfit : Bundle.fit cls = true) (hnm : ∀ n ∈ names, Bundle.fit n = true) (hk : Cond.classLink own ik cls ∈ GW) (hini : Cond.initialized cls ∈ GW) (hat : ∀ w ∈ vx_at0 own ic cls names, w ∈ GW ∨ w ∈ BW)
    (hgood : ∀ w ∈ Cond.classLink own ik cls :: Cond.initialized cls :: vx_at0 own ic cls names, vx_ot w = true)
    (d0 : decode cc pc = .ok (.new ik, 3)) (d3 : decode cc (pc + 3) = .ok (.dup, 1)) (d4 : decode cc (pc + 4) = .ok (.invokespecial ic, 3)) (d7 : decode cc (pc + 7) = .ok (.athrow, 1))
    (hfr : names.length + 3 < fr) (hlo : (st.map fun v => v.category).sum + (13 * (names.length + 1) + 42) ≤ lo) : V G (own, cc, ret, fr, lo, nL, mn, []) (ρ0, M0, Sum.inr e, xM M) pc ls st M := by
  refine ⟨⟨Nat.le_succ _, Nat.le_add_right _ _⟩, fun X h ρ H locs cells slots la hH hl hs he hS hcc hn hla => ?_⟩
  obtain ⟨hx, hb, hown, hts, hK, hlk, htr, hQ, hR, hr, hml, hmn, htb⟩ := h
  have htb : X.c.exceptionTable.toList = [] := htb
  have hcc : cells + mC M0 ≤ mC M := hcc
  have hn : slots + mS M0 ≤ mS M := hn
  rw [hQ]
  refine vx_throw0 (A := AO G) (mc := mC (xM M) - mC M0) (ms := mS (xM M) - mS M0) hx hb htr hown hfit hnm (hts _ hk) (hts _ hini) (fun w hw => ?_) hgood hK.2.2.2.2.1 hK.2.2.2.2.2.1 hS hla.1 d0 d3 d4 d7 (by rw [htb]; exact fun _ hq => nomatch hq) (by rw [hR]; exact hfr) (by rw [hR, mv_cats]; exact hlo) (by rw [hR]; show cells + 1 ≤ mC M + 1 - mC M0; omega) (by rw [hR]; show slots + 6 ≤ mS M + 6 - mS M0; omega) hlk (fun t hal hz hq => ⟨⟨e, ρ, rfl, hcl, he, HR.kept hH hq⟩, Nat.le_trans hS.1 hz, fun q h1 h2 => (hq q (Nat.lt_of_lt_of_le h1 hS.1)).trans (hS.2.1 q h1 h2)⟩) hS.2.2 (by show cells + 1 ≤ mC M + 1 - mC M0; omega) (by show slots + 6 ≤ mS M + 6 - mS M0; omega)
  rcases hat w hw with q | q
  · exact hts w q
  · exact bw_warm (List.mem_filter.mp q).2 (State.WarmedH.refl _) (hK.2.1 w q)
end
