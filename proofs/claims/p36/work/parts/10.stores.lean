/-! ROWS: stores into fields, arrays -/
theorem va_RA_inj {U : State} {cA cB : ClassId} {ty : FieldType} (h : va_RA U cA ty) (k : va_RA U cB ty) : cA = cB := by
  cases ty with
  | object C =>
    obtain ⟨_, _, -, -, -, h4⟩ := h
    obtain ⟨_, _, -, -, -, k4⟩ := k
    exact Option.some.inj (h4.symm.trans k4)
  | _ => exact Option.some.inj (Eq.trans (Eq.symm h) k)
theorem tyG_at (G : Gl) {j : Nat} (hj : j < 11) : (tyG G)[j]? = some (G.2.2.1 j, tyA.getD j .int) := by
  unfold tyG
  rw [List.getElem?_map, List.getElem?_range hj]
  rfl
theorem ix_spec {i : Int32} {n j : Nat} (h : ix i n = some j) : vp_in i n ∧ i.toNatClampNeg = j := by
  unfold ix at h
  split at h
  · cases h
  · rename_i q
    cases h
    exact ⟨q, rfl⟩
theorem ws_arr {G : Gl} {M : Mem} {ρ : Nat → Nat} {H : Heap} (h : HR G M ρ H) {a k : Nat} (hk : (mK M a).1 = k) (hlt : k ≠ 99) : (wsM G M ρ)[a]? = some (ρ a, cE G M ρ a) := ws_at (kd_lt h hk hlt)
section
variable {G : Gl} {B : Bx} {own : String} {cc : ByteArray} {ret : Option FieldType} {fr lo nL : Nat} {mn : String} {hh : List (Nat × Nat × Nat × Nat)} {pc : Nat} {ls : List (Nat × Value)} {st : List Value} {M M1 : Mem} {kk : Nat} {C : String} {T : u_T} {N : Nat} {ty : Nat → FieldType} {f a index : Nat}
theorem v_putI {x : Int32}  (hc : CLk kk C T N ty) (hf : f < N) (ht : fT kk f = 0) (hty : ty f = .int) (hfin : (T f).2.2.2 = false) (hw : Cond.fieldLink own index (T f).1 (T f).2.1 (T f).2.2.1 ∈ GW) (hd : decode cc pc = .ok (.putfield index, 3)) (hx : pI kk f a x M = some M1) (k : V G (own, cc, ret, fr, lo, nL, mn, hh) B (pc + 3) ls st M1) : V G (own, cc, ret, fr, lo, nL, mn, hh) B pc ls (.int x :: .ref a :: st) M := by
  unfold pI at hx
  split at hx
  · rename_i hk
    cases hx
    refine ⟨k.1, fun X h ρ H locs cells slots la hH hl hs he hS hcc hn hla => ?_⟩
    refine va_put (D := (G.1, G.2.1)) (cl := vwCl) (ci := kk) (v := .int x) (ty := .int) h.1 h.2.1 h.2.2.2.1 hc.2.1 ty hc.2.2.1 hc.2.2.2.1 h.2.2.1 h.2.2.2.2.1.1 hH.1 hH.2.1 hS a (ws_obj hH hk hc.2.2.2.2.1) hc.1 f hf (h.2.2.2.1 _ hw) (fun _ h9 => h9) hfin (by rw [hc.2.2.1 f hf]; first | rw [hty] | rfl) rfl rfl (by rw [flds_len, hc.2.2.2.2.2]; exact hf) hd (fun H1 locs1 hP hD hS1 => k.2 X h ρ H1 locs1 cells slots la (HR_set hH rfl rfl hH.2.2.2.1 ?_ ?_ hP hD) hl hs.2.2 he hS1 hcc hn hla)
    · have e := flds_set (M := M) (M' := sI M (up2 (mI M) a f x)) (ρ := ρ) (k := kk) (a := a) (f := f) (v := .int x) (by unfold fv; rw [ht]; exact congrArg Value.int (up2_eq _ _ _ _)) (fun j hj => fv_congr (up2_nj _ _ _ _ hj) rfl rfl rfl)
      rw [e, cE, show (mK (sI M (up2 (mI M) a f x)) a).1 = kk from hk, if_pos hc.2.2.2.2.1]
    · exact fun b hb => cE_congr rfl (fun j => up2_ne _ _ _ _ hb) (fun j => rfl) (fun j => rfl) (fun j => rfl)
  · cases hx
theorem v_putZ {x : Int32}  (hc : CLk kk C T N ty) (hf : f < N) (ht : fT kk f = 0) (hty : ty f = .boolean) (hfin : (T f).2.2.2 = false) (hw : Cond.fieldLink own index (T f).1 (T f).2.1 (T f).2.2.1 ∈ GW) (hd : decode cc pc = .ok (.putfield index, 3)) (hx : pZ kk f a x M = some M1) (k : V G (own, cc, ret, fr, lo, nL, mn, hh) B (pc + 3) ls st M1) : V G (own, cc, ret, fr, lo, nL, mn, hh) B pc ls (.int x :: .ref a :: st) M := by
  unfold pZ at hx
  split at hx
  · rename_i hk
    obtain ⟨hk, hz⟩ := hk
    cases hx
    refine ⟨k.1, fun X h ρ H locs cells slots la hH hl hs he hS hcc hn hla => ?_⟩
    refine va_put (D := (G.1, G.2.1)) (cl := vwCl) (ci := kk) (v := .int x) (ty := .boolean) h.1 h.2.1 h.2.2.2.1 hc.2.1 ty hc.2.2.1 hc.2.2.2.1 h.2.2.1 h.2.2.2.2.1.1 hH.1 hH.2.1 hS a (ws_obj hH hk hc.2.2.2.2.1) hc.1 f hf (h.2.2.2.1 _ hw) (fun _ h9 => h9) hfin (by rw [hc.2.2.1 f hf]; first | rw [hty] | rfl) (by rcases hz with rfl | rfl <;> decide) (by rcases hz with rfl | rfl <;> decide) (by rw [flds_len, hc.2.2.2.2.2]; exact hf) hd (fun H1 locs1 hP hD hS1 => k.2 X h ρ H1 locs1 cells slots la (HR_set hH rfl rfl hH.2.2.2.1 ?_ ?_ hP hD) hl hs.2.2 he hS1 hcc hn hla)
    · have e := flds_set (M := M) (M' := sI M (up2 (mI M) a f x)) (ρ := ρ) (k := kk) (a := a) (f := f) (v := .int x) (by unfold fv; rw [ht]; exact congrArg Value.int (up2_eq _ _ _ _)) (fun j hj => fv_congr (up2_nj _ _ _ _ hj) rfl rfl rfl)
      rw [e, cE, show (mK (sI M (up2 (mI M) a f x)) a).1 = kk from hk, if_pos hc.2.2.2.2.1]
    · exact fun b hb => cE_congr rfl (fun j => up2_ne _ _ _ _ hb) (fun j => rfl) (fun j => rfl) (fun j => rfl)
  · cases hx
theorem v_putL {x : Int64}  (hc : CLk kk C T N ty) (hf : f < N) (ht : fT kk f = 1) (hty : ty f = .long) (hfin : (T f).2.2.2 = false) (hw : Cond.fieldLink own index (T f).1 (T f).2.1 (T f).2.2.1 ∈ GW) (hd : decode cc pc = .ok (.putfield index, 3)) (hx : pL kk f a x M = some M1) (k : V G (own, cc, ret, fr, lo, nL, mn, hh) B (pc + 3) ls st M1) : V G (own, cc, ret, fr, lo, nL, mn, hh) B pc ls (.long x :: .ref a :: st) M := by
  unfold pL at hx
  split at hx
  · rename_i hk
    cases hx
    refine ⟨k.1, fun X h ρ H locs cells slots la hH hl hs he hS hcc hn hla => ?_⟩
    refine va_put (D := (G.1, G.2.1)) (cl := vwCl) (ci := kk) (v := .long x) (ty := .long) h.1 h.2.1 h.2.2.2.1 hc.2.1 ty hc.2.2.1 hc.2.2.2.1 h.2.2.1 h.2.2.2.2.1.1 hH.1 hH.2.1 hS a (ws_obj hH hk hc.2.2.2.2.1) hc.1 f hf (h.2.2.2.1 _ hw) (fun _ h9 => h9) hfin (by rw [hc.2.2.1 f hf]; first | rw [hty] | rfl) rfl rfl (by rw [flds_len, hc.2.2.2.2.2]; exact hf) hd (fun H1 locs1 hP hD hS1 => k.2 X h ρ H1 locs1 cells slots la (HR_set hH rfl rfl hH.2.2.2.1 ?_ ?_ hP hD) hl hs.2.2 he hS1 hcc hn hla)
    · have e := flds_set (M := M) (M' := sL M (up2 (mL M) a f x)) (ρ := ρ) (k := kk) (a := a) (f := f) (v := .long x) (by unfold fv; rw [ht]; exact congrArg Value.long (up2_eq _ _ _ _)) (fun j hj => fv_congr rfl (up2_nj _ _ _ _ hj) rfl rfl)
      rw [e, cE, show (mK (sL M (up2 (mL M) a f x)) a).1 = kk from hk, if_pos hc.2.2.2.2.1]
    · exact fun b hb => cE_congr rfl (fun j => rfl) (fun j => up2_ne _ _ _ _ hb) (fun j => rfl) (fun j => rfl)
  · cases hx
theorem v_putF {x : UInt32}  (hc : CLk kk C T N ty) (hf : f < N) (ht : fT kk f = 2) (hty : ty f = .float) (hfin : (T f).2.2.2 = false) (hw : Cond.fieldLink own index (T f).1 (T f).2.1 (T f).2.2.1 ∈ GW) (hd : decode cc pc = .ok (.putfield index, 3)) (hx : pF kk f a x M = some M1) (k : V G (own, cc, ret, fr, lo, nL, mn, hh) B (pc + 3) ls st M1) : V G (own, cc, ret, fr, lo, nL, mn, hh) B pc ls (.float x :: .ref a :: st) M := by
  unfold pF at hx
  split at hx
  · rename_i hk
    cases hx
    refine ⟨k.1, fun X h ρ H locs cells slots la hH hl hs he hS hcc hn hla => ?_⟩
    refine va_put (D := (G.1, G.2.1)) (cl := vwCl) (ci := kk) (v := .float x) (ty := .float) h.1 h.2.1 h.2.2.2.1 hc.2.1 ty hc.2.2.1 hc.2.2.2.1 h.2.2.1 h.2.2.2.2.1.1 hH.1 hH.2.1 hS a (ws_obj hH hk hc.2.2.2.2.1) hc.1 f hf (h.2.2.2.1 _ hw) (fun _ h9 => h9) hfin (by rw [hc.2.2.1 f hf]; first | rw [hty] | rfl) rfl rfl (by rw [flds_len, hc.2.2.2.2.2]; exact hf) hd (fun H1 locs1 hP hD hS1 => k.2 X h ρ H1 locs1 cells slots la (HR_set hH rfl rfl hH.2.2.2.1 ?_ ?_ hP hD) hl hs.2.2 he hS1 hcc hn hla)
    · have e := flds_set (M := M) (M' := sF M (up2 (mF M) a f x)) (ρ := ρ) (k := kk) (a := a) (f := f) (v := .float x) (by unfold fv; rw [ht]; exact congrArg Value.float (up2_eq _ _ _ _)) (fun j hj => fv_congr rfl rfl (up2_nj _ _ _ _ hj) rfl)
      rw [e, cE, show (mK (sF M (up2 (mF M) a f x)) a).1 = kk from hk, if_pos hc.2.2.2.2.1]
    · exact fun b hb => cE_congr rfl (fun j => rfl) (fun j => rfl) (fun j => up2_ne _ _ _ _ hb) (fun j => rfl)
  · cases hx
theorem v_putR {x : Nat}  (hc : CLk kk C T N ty) (hf : f < N) (ht : fT kk f = 3) {tr : FieldType} (hty : ty f = tr) (hrr : (∃ c, tr = .object c) ∨ ∃ t, tr = .array t) (hfin : (T f).2.2.2 = false) (hw : Cond.fieldLink own index (T f).1 (T f).2.1 (T f).2.2.1 ∈ GW) (hd : decode cc pc = .ok (.putfield index, 3)) (hx : pR kk f a x M = some M1) (k : V G (own, cc, ret, fr, lo, nL, mn, hh) B (pc + 3) ls st M1) : V G (own, cc, ret, fr, lo, nL, mn, hh) B pc ls (.ref x :: .ref a :: st) M := by
  unfold pR at hx
  split at hx
  · rename_i hk
    obtain ⟨hk, hz⟩ := hk
    cases hx
    refine ⟨k.1, fun X h ρ H locs cells slots la hH hl hs he hS hcc hn hla => ?_⟩
    refine va_put (D := (G.1, G.2.1)) (cl := vwCl) (ci := kk) (v := .ref (ρ x)) (ty := tr) h.1 h.2.1 h.2.2.2.1 hc.2.1 ty hc.2.2.1 hc.2.2.2.1 h.2.2.1 h.2.2.2.2.1.1 hH.1 hH.2.1 hS a (ws_obj hH hk hc.2.2.2.2.1) hc.1 f hf (h.2.2.2.1 _ hw) (fun _ h9 => h9) hfin (by rw [hc.2.2.1 f hf]; first | rw [hty] | rfl) (by rcases hrr with ⟨c, rfl⟩ | ⟨t, rfl⟩ <;> rfl) (by rcases hrr with ⟨c, rfl⟩ | ⟨t, rfl⟩ <;> rfl) (by rw [flds_len, hc.2.2.2.2.2]; exact hf) hd (fun H1 locs1 hP hD hS1 => k.2 X h ρ H1 locs1 cells slots la (HR_set hH rfl rfl (up2_clo hH.2.2.2.1 (kd_lt hH rfl hz)) ?_ ?_ hP hD) hl hs.2.2 he hS1 hcc hn hla)
    · have e := flds_set (M := M) (M' := sR M (up2 (mR M) a f (some x))) (ρ := ρ) (k := kk) (a := a) (f := f) (v := .ref (ρ x)) (by unfold fv; rw [ht]; exact congrArg (fun z : Option Nat => va_rf (z.map ρ)) (up2_eq _ _ _ _)) (fun j hj => fv_congr rfl rfl rfl (congrArg (Option.map ρ) (up2_nj _ _ _ _ hj)))
      rw [e, cE, show (mK (sR M (up2 (mR M) a f (some x))) a).1 = kk from hk, if_pos hc.2.2.2.2.1]
    · exact fun b hb => cE_congr rfl (fun j => rfl) (fun j => rfl) (fun j => rfl) (fun j => congrArg (Option.map ρ) (up2_ne _ _ _ _ hb))
  · cases hx
theorem v_putIX {x : Int32}  (hc : CLk kk C T N ty) (hf : f < N) (ht : fT kk f = 0) (hty : ty f = .int) (hfin : (T f).2.2.2 = true) (hin : mn = "<init>") (hdc : (T f).1 = own) (hw : Cond.fieldLink own index (T f).1 (T f).2.1 (T f).2.2.1 ∈ GW) (hd : decode cc pc = .ok (.putfield index, 3)) (hx : pI kk f a x M = some M1) (k : V G (own, cc, ret, fr, lo, nL, mn, hh) B (pc + 3) ls st M1) : V G (own, cc, ret, fr, lo, nL, mn, hh) B pc ls (.int x :: .ref a :: st) M := by
  unfold pI at hx
  split at hx
  · rename_i hk
    cases hx
    refine ⟨k.1, fun X h ρ H locs cells slots la hH hl hs he hS hcc hn hla => ?_⟩
    refine va_putF (D := (G.1, G.2.1)) (cl := vwCl) (ci := kk) (v := .int x) (ty := .int) h.1 h.2.1 h.2.2.2.1 hc.2.1 ty hc.2.2.1 hc.2.2.2.1 h.2.2.1 h.2.2.2.2.1.1 hH.1 hH.2.1 hS a (ws_obj hH hk hc.2.2.2.2.1) hc.1 f hf (h.2.2.2.1 _ hw) (fun _ h9 => h9) hfin (h.2.2.2.2.2.2.2.2.2.2.2.1.trans hin) hdc (by rw [hc.2.2.1 f hf]; first | rw [hty] | rfl) rfl rfl (by rw [flds_len, hc.2.2.2.2.2]; exact hf) hd (fun H1 locs1 hP hD hS1 => k.2 X h ρ H1 locs1 cells slots la (HR_set hH rfl rfl hH.2.2.2.1 ?_ ?_ hP hD) hl hs.2.2 he hS1 hcc hn hla)
    · have e := flds_set (M := M) (M' := sI M (up2 (mI M) a f x)) (ρ := ρ) (k := kk) (a := a) (f := f) (v := .int x) (by unfold fv; rw [ht]; exact congrArg Value.int (up2_eq _ _ _ _)) (fun j hj => fv_congr (up2_nj _ _ _ _ hj) rfl rfl rfl)
      rw [e, cE, show (mK (sI M (up2 (mI M) a f x)) a).1 = kk from hk, if_pos hc.2.2.2.2.1]
    · exact fun b hb => cE_congr rfl (fun j => up2_ne _ _ _ _ hb) (fun j => rfl) (fun j => rfl) (fun j => rfl)
  · cases hx
theorem v_putZX {x : Int32}  (hc : CLk kk C T N ty) (hf : f < N) (ht : fT kk f = 0) (hty : ty f = .boolean) (hfin : (T f).2.2.2 = true) (hin : mn = "<init>") (hdc : (T f).1 = own) (hw : Cond.fieldLink own index (T f).1 (T f).2.1 (T f).2.2.1 ∈ GW) (hd : decode cc pc = .ok (.putfield index, 3)) (hx : pZ kk f a x M = some M1) (k : V G (own, cc, ret, fr, lo, nL, mn, hh) B (pc + 3) ls st M1) : V G (own, cc, ret, fr, lo, nL, mn, hh) B pc ls (.int x :: .ref a :: st) M := by
  unfold pZ at hx
  split at hx
  · rename_i hk
    obtain ⟨hk, hz⟩ := hk
    cases hx
    refine ⟨k.1, fun X h ρ H locs cells slots la hH hl hs he hS hcc hn hla => ?_⟩
    refine va_putF (D := (G.1, G.2.1)) (cl := vwCl) (ci := kk) (v := .int x) (ty := .boolean) h.1 h.2.1 h.2.2.2.1 hc.2.1 ty hc.2.2.1 hc.2.2.2.1 h.2.2.1 h.2.2.2.2.1.1 hH.1 hH.2.1 hS a (ws_obj hH hk hc.2.2.2.2.1) hc.1 f hf (h.2.2.2.1 _ hw) (fun _ h9 => h9) hfin (h.2.2.2.2.2.2.2.2.2.2.2.1.trans hin) hdc (by rw [hc.2.2.1 f hf]; first | rw [hty] | rfl) (by rcases hz with rfl | rfl <;> decide) (by rcases hz with rfl | rfl <;> decide) (by rw [flds_len, hc.2.2.2.2.2]; exact hf) hd (fun H1 locs1 hP hD hS1 => k.2 X h ρ H1 locs1 cells slots la (HR_set hH rfl rfl hH.2.2.2.1 ?_ ?_ hP hD) hl hs.2.2 he hS1 hcc hn hla)
    · have e := flds_set (M := M) (M' := sI M (up2 (mI M) a f x)) (ρ := ρ) (k := kk) (a := a) (f := f) (v := .int x) (by unfold fv; rw [ht]; exact congrArg Value.int (up2_eq _ _ _ _)) (fun j hj => fv_congr (up2_nj _ _ _ _ hj) rfl rfl rfl)
      rw [e, cE, show (mK (sI M (up2 (mI M) a f x)) a).1 = kk from hk, if_pos hc.2.2.2.2.1]
    · exact fun b hb => cE_congr rfl (fun j => up2_ne _ _ _ _ hb) (fun j => rfl) (fun j => rfl) (fun j => rfl)
  · cases hx
theorem v_putLX {x : Int64}  (hc : CLk kk C T N ty) (hf : f < N) (ht : fT kk f = 1) (hty : ty f = .long) (hfin : (T f).2.2.2 = true) (hin : mn = "<init>") (hdc : (T f).1 = own) (hw : Cond.fieldLink own index (T f).1 (T f).2.1 (T f).2.2.1 ∈ GW) (hd : decode cc pc = .ok (.putfield index, 3)) (hx : pL kk f a x M = some M1) (k : V G (own, cc, ret, fr, lo, nL, mn, hh) B (pc + 3) ls st M1) : V G (own, cc, ret, fr, lo, nL, mn, hh) B pc ls (.long x :: .ref a :: st) M := by
  unfold pL at hx
  split at hx
  · rename_i hk
    cases hx
    refine ⟨k.1, fun X h ρ H locs cells slots la hH hl hs he hS hcc hn hla => ?_⟩
    refine va_putF (D := (G.1, G.2.1)) (cl := vwCl) (ci := kk) (v := .long x) (ty := .long) h.1 h.2.1 h.2.2.2.1 hc.2.1 ty hc.2.2.1 hc.2.2.2.1 h.2.2.1 h.2.2.2.2.1.1 hH.1 hH.2.1 hS a (ws_obj hH hk hc.2.2.2.2.1) hc.1 f hf (h.2.2.2.1 _ hw) (fun _ h9 => h9) hfin (h.2.2.2.2.2.2.2.2.2.2.2.1.trans hin) hdc (by rw [hc.2.2.1 f hf]; first | rw [hty] | rfl) rfl rfl (by rw [flds_len, hc.2.2.2.2.2]; exact hf) hd (fun H1 locs1 hP hD hS1 => k.2 X h ρ H1 locs1 cells slots la (HR_set hH rfl rfl hH.2.2.2.1 ?_ ?_ hP hD) hl hs.2.2 he hS1 hcc hn hla)
    · have e := flds_set (M := M) (M' := sL M (up2 (mL M) a f x)) (ρ := ρ) (k := kk) (a := a) (f := f) (v := .long x) (by unfold fv; rw [ht]; exact congrArg Value.long (up2_eq _ _ _ _)) (fun j hj => fv_congr rfl (up2_nj _ _ _ _ hj) rfl rfl)
      rw [e, cE, show (mK (sL M (up2 (mL M) a f x)) a).1 = kk from hk, if_pos hc.2.2.2.2.1]
    · exact fun b hb => cE_congr rfl (fun j => rfl) (fun j => up2_ne _ _ _ _ hb) (fun j => rfl) (fun j => rfl)
  · cases hx
theorem v_putFX {x : UInt32}  (hc : CLk kk C T N ty) (hf : f < N) (ht : fT kk f = 2) (hty : ty f = .float) (hfin : (T f).2.2.2 = true) (hin : mn = "<init>") (hdc : (T f).1 = own) (hw : Cond.fieldLink own index (T f).1 (T f).2.1 (T f).2.2.1 ∈ GW) (hd : decode cc pc = .ok (.putfield index, 3)) (hx : pF kk f a x M = some M1) (k : V G (own, cc, ret, fr, lo, nL, mn, hh) B (pc + 3) ls st M1) : V G (own, cc, ret, fr, lo, nL, mn, hh) B pc ls (.float x :: .ref a :: st) M := by
  unfold pF at hx
  split at hx
  · rename_i hk
    cases hx
    refine ⟨k.1, fun X h ρ H locs cells slots la hH hl hs he hS hcc hn hla => ?_⟩
    refine va_putF (D := (G.1, G.2.1)) (cl := vwCl) (ci := kk) (v := .float x) (ty := .float) h.1 h.2.1 h.2.2.2.1 hc.2.1 ty hc.2.2.1 hc.2.2.2.1 h.2.2.1 h.2.2.2.2.1.1 hH.1 hH.2.1 hS a (ws_obj hH hk hc.2.2.2.2.1) hc.1 f hf (h.2.2.2.1 _ hw) (fun _ h9 => h9) hfin (h.2.2.2.2.2.2.2.2.2.2.2.1.trans hin) hdc (by rw [hc.2.2.1 f hf]; first | rw [hty] | rfl) rfl rfl (by rw [flds_len, hc.2.2.2.2.2]; exact hf) hd (fun H1 locs1 hP hD hS1 => k.2 X h ρ H1 locs1 cells slots la (HR_set hH rfl rfl hH.2.2.2.1 ?_ ?_ hP hD) hl hs.2.2 he hS1 hcc hn hla)
    · have e := flds_set (M := M) (M' := sF M (up2 (mF M) a f x)) (ρ := ρ) (k := kk) (a := a) (f := f) (v := .float x) (by unfold fv; rw [ht]; exact congrArg Value.float (up2_eq _ _ _ _)) (fun j hj => fv_congr rfl rfl (up2_nj _ _ _ _ hj) rfl)
      rw [e, cE, show (mK (sF M (up2 (mF M) a f x)) a).1 = kk from hk, if_pos hc.2.2.2.2.1]
    · exact fun b hb => cE_congr rfl (fun j => rfl) (fun j => rfl) (fun j => up2_ne _ _ _ _ hb) (fun j => rfl)
  · cases hx
theorem v_putRX {x : Nat}  (hc : CLk kk C T N ty) (hf : f < N) (ht : fT kk f = 3) {tr : FieldType} (hty : ty f = tr) (hrr : (∃ c, tr = .object c) ∨ ∃ t, tr = .array t) (hfin : (T f).2.2.2 = true) (hin : mn = "<init>") (hdc : (T f).1 = own) (hw : Cond.fieldLink own index (T f).1 (T f).2.1 (T f).2.2.1 ∈ GW) (hd : decode cc pc = .ok (.putfield index, 3)) (hx : pR kk f a x M = some M1) (k : V G (own, cc, ret, fr, lo, nL, mn, hh) B (pc + 3) ls st M1) : V G (own, cc, ret, fr, lo, nL, mn, hh) B pc ls (.ref x :: .ref a :: st) M := by
  unfold pR at hx
  split at hx
  · rename_i hk
    obtain ⟨hk, hz⟩ := hk
    cases hx
    refine ⟨k.1, fun X h ρ H locs cells slots la hH hl hs he hS hcc hn hla => ?_⟩
    refine va_putF (D := (G.1, G.2.1)) (cl := vwCl) (ci := kk) (v := .ref (ρ x)) (ty := tr) h.1 h.2.1 h.2.2.2.1 hc.2.1 ty hc.2.2.1 hc.2.2.2.1 h.2.2.1 h.2.2.2.2.1.1 hH.1 hH.2.1 hS a (ws_obj hH hk hc.2.2.2.2.1) hc.1 f hf (h.2.2.2.1 _ hw) (fun _ h9 => h9) hfin (h.2.2.2.2.2.2.2.2.2.2.2.1.trans hin) hdc (by rw [hc.2.2.1 f hf]; first | rw [hty] | rfl) (by rcases hrr with ⟨c, rfl⟩ | ⟨t, rfl⟩ <;> rfl) (by rcases hrr with ⟨c, rfl⟩ | ⟨t, rfl⟩ <;> rfl) (by rw [flds_len, hc.2.2.2.2.2]; exact hf) hd (fun H1 locs1 hP hD hS1 => k.2 X h ρ H1 locs1 cells slots la (HR_set hH rfl rfl (up2_clo hH.2.2.2.1 (kd_lt hH rfl hz)) ?_ ?_ hP hD) hl hs.2.2 he hS1 hcc hn hla)
    · have e := flds_set (M := M) (M' := sR M (up2 (mR M) a f (some x))) (ρ := ρ) (k := kk) (a := a) (f := f) (v := .ref (ρ x)) (by unfold fv; rw [ht]; exact congrArg (fun z : Option Nat => va_rf (z.map ρ)) (up2_eq _ _ _ _)) (fun j hj => fv_congr rfl rfl rfl (congrArg (Option.map ρ) (up2_nj _ _ _ _ hj)))
      rw [e, cE, show (mK (sR M (up2 (mR M) a f (some x))) a).1 = kk from hk, if_pos hc.2.2.2.2.1]
    · exact fun b hb => cE_congr rfl (fun j => rfl) (fun j => rfl) (fun j => rfl) (fun j => congrArg (Option.map ρ) (up2_ne _ _ _ _ hb))
  · cases hx
theorem v_iaload  {i : Int32} {x : Int32} (hd : decode cc pc = .ok (.iaload, 1)) (hx : aI 13 a i M = some x) (k : V G (own, cc, ret, fr, lo, nL, mn, hh) B (pc + 1) ls (.int x :: st) M) : V G (own, cc, ret, fr, lo, nL, mn, hh) B pc ls (.int i :: .ref a :: st) M := by
  unfold aI at hx
  split at hx
  · rename_i hk
    obtain ⟨j, hj, rfl⟩ := Option.map_eq_some_iff.mp hx
    obtain ⟨h1, rfl⟩ := ix_spec hj
    refine ⟨k.1, fun X h ρ H locs cells slots la hH hl hs he hS hcc hn hla => ?_⟩
    exact va_iald (D := (G.1, G.2.1)) (cl := vwCl) h.1 h.2.1 h.2.2.2.2.1.1 hH.1 a 0 ((ws_arr hH hk (by decide)).trans (by rw [cE, hk]; rfl)) (tyG_at G (by decide)) h1 hd (k.2 X h ρ H locs cells slots la hH hl ⟨trivial, hs.2.2⟩ he hS hcc hn hla)
  · cases hx
theorem v_laload  {i : Int32} {x : Int64} (hd : decode cc pc = .ok (.laload, 1)) (hx : aL a i M = some x) (k : V G (own, cc, ret, fr, lo, nL, mn, hh) B (pc + 1) ls (.long x :: st) M) : V G (own, cc, ret, fr, lo, nL, mn, hh) B pc ls (.int i :: .ref a :: st) M := by
  unfold aL at hx
  split at hx
  · rename_i hk
    obtain ⟨j, hj, rfl⟩ := Option.map_eq_some_iff.mp hx
    obtain ⟨h1, rfl⟩ := ix_spec hj
    refine ⟨k.1, fun X h ρ H locs cells slots la hH hl hs he hS hcc hn hla => ?_⟩
    exact va_lald (D := (G.1, G.2.1)) (cl := vwCl) h.1 h.2.1 h.2.2.2.2.1.1 hH.1 a 1 ((ws_arr hH hk (by decide)).trans (by rw [cE, hk]; rfl)) (tyG_at G (by decide)) h1 hd (k.2 X h ρ H locs cells slots la hH hl ⟨trivial, hs.2.2⟩ he hS hcc hn hla)
  · cases hx
theorem v_caload  {i : Int32} {x : Int32} (hd : decode cc pc = .ok (.caload, 1)) (hx : aI 16 a i M = some x) (k : V G (own, cc, ret, fr, lo, nL, mn, hh) B (pc + 1) ls (.int x :: st) M) : V G (own, cc, ret, fr, lo, nL, mn, hh) B pc ls (.int i :: .ref a :: st) M := by
  unfold aI at hx
  split at hx
  · rename_i hk
    obtain ⟨j, hj, rfl⟩ := Option.map_eq_some_iff.mp hx
    obtain ⟨h1, rfl⟩ := ix_spec hj
    refine ⟨k.1, fun X h ρ H locs cells slots la hH hl hs he hS hcc hn hla => ?_⟩
    exact va_cald (D := (G.1, G.2.1)) (cl := vwCl) h.1 h.2.1 h.2.2.2.2.1.1 hH.1 a 3 ((ws_arr hH hk (by decide)).trans (by rw [cE, hk]; rfl)) (tyG_at G (by decide)) h1 hd (k.2 X h ρ H locs cells slots la hH hl ⟨trivial, hs.2.2⟩ he hS hcc hn hla)
  · cases hx
theorem v_zaload  {i : Int32} {x : Int32} (hd : decode cc pc = .ok (.baload, 1)) (hx : aI 17 a i M = some x) (k : V G (own, cc, ret, fr, lo, nL, mn, hh) B (pc + 1) ls (.int x :: st) M) : V G (own, cc, ret, fr, lo, nL, mn, hh) B pc ls (.int i :: .ref a :: st) M := by
  unfold aI at hx
  split at hx
  · rename_i hk
    obtain ⟨j, hj, rfl⟩ := Option.map_eq_some_iff.mp hx
    obtain ⟨h1, rfl⟩ := ix_spec hj
    refine ⟨k.1, fun X h ρ H locs cells slots la hH hl hs he hS hcc hn hla => ?_⟩
    exact va_zald (D := (G.1, G.2.1)) (cl := vwCl) h.1 h.2.1 h.2.2.2.2.1.1 hH.1 a 4 ((ws_arr hH hk (by decide)).trans (by rw [cE, hk]; rfl)) (tyG_at G (by decide)) h1 hd (k.2 X h ρ H locs cells slots la hH hl ⟨trivial, hs.2.2⟩ he hS hcc hn hla)
  · cases hx
theorem v_iastore  {i : Int32} {x : Int32} (hd : decode cc pc = .ok (.iastore, 1)) (hx : wI 13 a i x M = some M1) (k : V G (own, cc, ret, fr, lo, nL, mn, hh) B (pc + 1) ls st M1) : V G (own, cc, ret, fr, lo, nL, mn, hh) B pc ls (.int x :: .int i :: .ref a :: st) M := by
  unfold wI at hx
  split at hx
  · rename_i hk
    obtain ⟨j, hj, rfl⟩ := Option.map_eq_some_iff.mp hx
    obtain ⟨h1, rfl⟩ := ix_spec hj
    refine ⟨k.1, fun X h ρ H locs cells slots la hH hl hs he hS hcc hn hla => ?_⟩
    refine va_iast (D := (G.1, G.2.1)) (cl := vwCl) h.1 h.2.1 h.2.2.2.2.1.1 hH.1 hH.2.1 hS a 0 ((ws_arr hH hk (by decide)).trans (by rw [cE, hk]; rfl)) (tyG_at G (by decide)) h1 hd (fun H1 locs1 hP hD hS1 => k.2 X h ρ H1 locs1 cells slots la (HR_set hH rfl rfl hH.2.2.2.1 ?_ ?_ hP hD) hl hs.2.2.2 he hS1 hcc hn hla)
    · have e2 : (fun j => up2 (mI M) a i.toNatClampNeg (nar 13 x) a j) = fun j => if j = i.toNatClampNeg then nar 13 x else mI M a j := funext (up2_row _ _ _ _)
      show cE G (sI M (up2 (mI M) a i.toNatClampNeg (nar 13 x))) ρ a = _
      rw [cE, show (mK (sI M (up2 (mI M) a i.toNatClampNeg (nar 13 x))) a).1 = 13 from hk]
      show _ = Sum.inl (_, _, _)
      exact congrArg (fun g => (Sum.inl (G.2.2.1 0, (mK M a).2, .inl g) : va_E)) e2
    · exact fun b hb => cE_congr rfl (fun j => up2_ne _ _ _ _ hb) (fun j => rfl) (fun j => rfl) (fun j => rfl)
  · cases hx
theorem v_lastore  {i : Int32} {x : Int64} (hd : decode cc pc = .ok (.lastore, 1)) (hx : wL a i x M = some M1) (k : V G (own, cc, ret, fr, lo, nL, mn, hh) B (pc + 1) ls st M1) : V G (own, cc, ret, fr, lo, nL, mn, hh) B pc ls (.long x :: .int i :: .ref a :: st) M := by
  unfold wL at hx
  split at hx
  · rename_i hk
    obtain ⟨j, hj, rfl⟩ := Option.map_eq_some_iff.mp hx
    obtain ⟨h1, rfl⟩ := ix_spec hj
    refine ⟨k.1, fun X h ρ H locs cells slots la hH hl hs he hS hcc hn hla => ?_⟩
    refine va_last (D := (G.1, G.2.1)) (cl := vwCl) h.1 h.2.1 h.2.2.2.2.1.1 hH.1 hH.2.1 hS a 1 ((ws_arr hH hk (by decide)).trans (by rw [cE, hk]; rfl)) (tyG_at G (by decide)) h1 hd (fun H1 locs1 hP hD hS1 => k.2 X h ρ H1 locs1 cells slots la (HR_set hH rfl rfl hH.2.2.2.1 ?_ ?_ hP hD) hl hs.2.2.2 he hS1 hcc hn hla)
    · have e2 : (fun j => up2 (mL M) a i.toNatClampNeg (x) a j) = fun j => if j = i.toNatClampNeg then x else mL M a j := funext (up2_row _ _ _ _)
      show cE G (sL M (up2 (mL M) a i.toNatClampNeg (x))) ρ a = _
      rw [cE, show (mK (sL M (up2 (mL M) a i.toNatClampNeg (x))) a).1 = 14 from hk]
      show _ = Sum.inl (_, _, _)
      exact congrArg (fun g => (Sum.inl (G.2.2.1 1, (mK M a).2, .inr (.inl g)) : va_E)) e2
    · exact fun b hb => cE_congr rfl (fun j => rfl) (fun j => up2_ne _ _ _ _ hb) (fun j => rfl) (fun j => rfl)
  · cases hx
theorem v_castore  {i : Int32} {x : Int32} (hd : decode cc pc = .ok (.castore, 1)) (hx : wI 16 a i x M = some M1) (k : V G (own, cc, ret, fr, lo, nL, mn, hh) B (pc + 1) ls st M1) : V G (own, cc, ret, fr, lo, nL, mn, hh) B pc ls (.int x :: .int i :: .ref a :: st) M := by
  unfold wI at hx
  split at hx
  · rename_i hk
    obtain ⟨j, hj, rfl⟩ := Option.map_eq_some_iff.mp hx
    obtain ⟨h1, rfl⟩ := ix_spec hj
    refine ⟨k.1, fun X h ρ H locs cells slots la hH hl hs he hS hcc hn hla => ?_⟩
    refine va_cast (D := (G.1, G.2.1)) (cl := vwCl) h.1 h.2.1 h.2.2.2.2.1.1 hH.1 hH.2.1 hS a 3 ((ws_arr hH hk (by decide)).trans (by rw [cE, hk]; rfl)) (tyG_at G (by decide)) h1 hd (fun H1 locs1 hP hD hS1 => k.2 X h ρ H1 locs1 cells slots la (HR_set hH rfl rfl hH.2.2.2.1 ?_ ?_ hP hD) hl hs.2.2.2 he hS1 hcc hn hla)
    · have e2 : (fun j => up2 (mI M) a i.toNatClampNeg (nar 16 x) a j) = fun j => if j = i.toNatClampNeg then nar 16 x else mI M a j := funext (up2_row _ _ _ _)
      show cE G (sI M (up2 (mI M) a i.toNatClampNeg (nar 16 x))) ρ a = _
      rw [cE, show (mK (sI M (up2 (mI M) a i.toNatClampNeg (nar 16 x))) a).1 = 16 from hk]
      show _ = Sum.inl (_, _, _)
      exact congrArg (fun g => (Sum.inl (G.2.2.1 3, (mK M a).2, .inl g) : va_E)) e2
    · exact fun b hb => cE_congr rfl (fun j => up2_ne _ _ _ _ hb) (fun j => rfl) (fun j => rfl) (fun j => rfl)
  · cases hx
theorem v_zastore  {i : Int32} {x : Int32} (hd : decode cc pc = .ok (.bastore, 1)) (hx : wI 17 a i x M = some M1) (k : V G (own, cc, ret, fr, lo, nL, mn, hh) B (pc + 1) ls st M1) : V G (own, cc, ret, fr, lo, nL, mn, hh) B pc ls (.int x :: .int i :: .ref a :: st) M := by
  unfold wI at hx
  split at hx
  · rename_i hk
    obtain ⟨j, hj, rfl⟩ := Option.map_eq_some_iff.mp hx
    obtain ⟨h1, rfl⟩ := ix_spec hj
    refine ⟨k.1, fun X h ρ H locs cells slots la hH hl hs he hS hcc hn hla => ?_⟩
    refine va_zast (D := (G.1, G.2.1)) (cl := vwCl) h.1 h.2.1 h.2.2.2.2.1.1 hH.1 hH.2.1 hS a 4 ((ws_arr hH hk (by decide)).trans (by rw [cE, hk]; rfl)) (tyG_at G (by decide)) h1 hd (fun H1 locs1 hP hD hS1 => k.2 X h ρ H1 locs1 cells slots la (HR_set hH rfl rfl hH.2.2.2.1 ?_ ?_ hP hD) hl hs.2.2.2 he hS1 hcc hn hla)
    · have e2 : (fun j => up2 (mI M) a i.toNatClampNeg (nar 17 x) a j) = fun j => if j = i.toNatClampNeg then nar 17 x else mI M a j := funext (up2_row _ _ _ _)
      show cE G (sI M (up2 (mI M) a i.toNatClampNeg (nar 17 x))) ρ a = _
      rw [cE, show (mK (sI M (up2 (mI M) a i.toNatClampNeg (nar 17 x))) a).1 = 17 from hk]
      show _ = Sum.inl (_, _, _)
      exact congrArg (fun g => (Sum.inl (G.2.2.1 4, (mK M a).2, .inl g) : va_E)) e2
    · exact fun b hb => cE_congr rfl (fun j => up2_ne _ _ _ _ hb) (fun j => rfl) (fun j => rfl) (fun j => rfl)
  · cases hx
theorem cE_ref {G : Gl} {M : Mem} {ρ : Nat → Nat} {a k : Nat} (hk : (mK M a).1 = k) (h1 : 18 ≤ k) : cE G M ρ a = .inl (G.2.2.1 (k - 13), (mK M a).2, .inr (.inr (.inr (.inr (fun i => (mR M a i).map ρ))))) := by
  rw [cE, hk, if_neg (by omega), if_neg (by omega), if_neg (by omega), if_neg (by omega)]
theorem v_aaload  {i : Int32} {x t0 : Nat} {cn : String} (hd : decode cc pc = .ok (.aaload, 1)) (ht : 5 ≤ t0) (ht2 : t0 < 11) (hty : tyA.getD t0 .int = .object cn) (hx : aR (t0 + 13) a i M = some x) (k : V G (own, cc, ret, fr, lo, nL, mn, hh) B (pc + 1) ls (.ref x :: st) M) : V G (own, cc, ret, fr, lo, nL, mn, hh) B pc ls (.int i :: .ref a :: st) M := by
  unfold aR at hx
  split at hx
  · rename_i hk
    obtain ⟨j, hj, hr⟩ := Option.bind_eq_some_iff.mp hx
    obtain ⟨h1, rfl⟩ := ix_spec hj
    refine ⟨k.1, fun X h ρ H locs cells slots la hH hl hs he hS hcc hn hla => ?_⟩
    have e := va_aldq (l := X.l) (e := X.e) (R := X.R) (m := X.m) (args := X.args) (below := X.below) (meth := X.meth) (f := fun i => (mR M a i).map ρ) (D := (G.1, G.2.1)) (cl := vwCl) (Q := X.Q) (cells := cells) (slots := slots) (locs := locs) (rest := st.map (mv ρ)) (ls := la) h.1 h.2.1 h.2.2.2.2.1.1 hH.1 a t0 ((ws_arr hH hk (by omega)).trans (by rw [cE_ref hk (by omega)])) ((tyG_at G ht2).trans (by rw [hty, Nat.add_sub_cancel])) h1 hd
    simp only [hr] at e
    exact e (k.2 X h ρ H locs cells slots la hH hl ⟨Or.inl (hH.2.2.2.1 _ _ _ hr), hs.2.2⟩ he hS hcc hn hla)
  · cases hx
theorem v_aastore  (hc : CLk kk C T N ty) {i : Int32} {x t0 : Nat} (hd : decode cc pc = .ok (.aastore, 1)) (ht : 5 ≤ t0) (ht2 : t0 < 11) (hty : tyA.getD t0 .int = .object C) (hx : wR (t0 + 13) kk a i x M = some M1) (k : V G (own, cc, ret, fr, lo, nL, mn, hh) B (pc + 1) ls st M1) : V G (own, cc, ret, fr, lo, nL, mn, hh) B pc ls (.ref x :: .int i :: .ref a :: st) M := by
  unfold wR at hx
  split at hx
  · rename_i hk
    obtain ⟨hk, hk2⟩ := hk
    obtain ⟨j, hj, rfl⟩ := Option.map_eq_some_iff.mp hx
    obtain ⟨h1, rfl⟩ := ix_spec hj
    refine ⟨k.1, fun X h ρ H locs cells slots la hH hl hs he hS hcc hn hla => ?_⟩
    refine va_astq (D := (G.1, G.2.1)) (cl := vwCl) (r := (C, T, N)) h.1 h.2.1 h.2.2.2.2.1.1 hH.1 hH.2.1 hS a t0 x kk ((ws_arr hH hk (by omega)).trans (by rw [cE_ref hk (by omega)])) ((tyG_at G ht2).trans (by rw [hty, Nat.add_sub_cancel])) (ws_obj hH hk2 hc.2.2.2.2.1) hc.1 h1 hd (fun H1 locs1 hP hD hS1 => k.2 X h ρ H1 locs1 cells slots la (HR_set hH rfl rfl (up2_clo hH.2.2.2.1 (kd_lt hH hk2 (by have := hc.2.2.2.2.1; omega))) ?_ ?_ hP hD) hl hs.2.2.2 he hS1 hcc hn hla)
    · have e2 : (fun j => (up2 (mR M) a i.toNatClampNeg (some x) a j).map ρ) = va_up (fun j => (mR M a j).map ρ) i.toNatClampNeg (some (ρ x)) := funext fun j => by
        rw [up2_row]
        unfold va_up
        by_cases hj : j = i.toNatClampNeg
        · rw [if_pos hj, if_pos hj]; rfl
        · rw [if_neg hj, if_neg hj]
      show cE G (sR M (up2 (mR M) a i.toNatClampNeg (some x))) ρ a = _
      rw [cE_ref (M := sR M (up2 (mR M) a i.toNatClampNeg (some x))) hk (by omega)]
      exact congrArg (fun g => (Sum.inl (G.2.2.1 (t0 + 13 - 13), (mK M a).2, .inr (.inr (.inr (.inr g)))) : va_E)) e2
    · exact fun b hb => cE_congr rfl (fun j => rfl) (fun j => rfl) (fun j => rfl) (fun j => congrArg (Option.map ρ) (up2_ne _ _ _ _ hb))
  · cases hx
theorem v_alen  {x : Int32} (hd : decode cc pc = .ok (.arraylength, 1)) (hx : aN a M = some x) (k : V G (own, cc, ret, fr, lo, nL, mn, hh) B (pc + 1) ls (.int x :: st) M) : V G (own, cc, ret, fr, lo, nL, mn, hh) B pc ls (.ref a :: st) M := by
  unfold aN at hx
  split at hx
  · rename_i hk
    cases hx
    refine ⟨k.1, fun X h ρ H locs cells slots la hH hl hs he hS hcc hn hla => ?_⟩
    have e : ∃ x : vp_A, x.1 = (mK M a).2 ∧ cE G M ρ a = .inl (G.2.2.1 ((mK M a).1 - 13), x) := by
      unfold cE
      rw [if_neg (by omega)]
      by_cases h1 : (mK M a).1 = 14
      · rw [if_pos h1, h1]; exact ⟨_, rfl, rfl⟩
      · rw [if_neg h1]
        by_cases h2 : (mK M a).1 = 15
        · rw [if_pos h2, h2]; exact ⟨_, rfl, rfl⟩
        · rw [if_neg h2]
          by_cases h3 : (mK M a).1 < 18
          · rw [if_pos h3]; exact ⟨_, rfl, rfl⟩
          · rw [if_neg h3]; exact ⟨_, rfl, rfl⟩
    obtain ⟨x, e1, e2⟩ := e
    exact va_alen (D := (G.1, G.2.1)) (cl := vwCl) h.1 h.2.1 h.2.2.2.2.1.1 hH.1 a ((mK M a).1 - 13) ((ws_arr hH rfl (by omega)).trans (by rw [e2])) (tyG_at G (by omega)) (by rw [e1]) hd (k.2 X h ρ H locs cells slots la hH hl ⟨trivial, hs.2⟩ he hS hcc hn hla)
  · cases hx
end
