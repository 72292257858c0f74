/-! ROWS: fields and arrays over the picture -/
/-- a class of objects: its number, name, fields, their types -/
def CLk (k : Nat) (C : String) (T : u_T) (N : Nat) (ty : Nat → FieldType) : Prop :=
  vwCl[k]? = some (C, T, N) ∧ (∀ w ∈ u_ws C T N, w ∈ GW) ∧ (∀ j, j < N → parseFieldDescriptor (T j).2.2.1 = some (ty j)) ∧ (∀ a, a < N → ∀ b, b < N → a ≠ b → (T a).2.1 ≠ (T b).2.1) ∧ k < 13 ∧ nF k = N
theorem flds_at {M : Mem} {ρ : Nat → Nat} {k a f : Nat} (hf : f < nF k) : (flds M ρ k a)[f]? = some (fv M ρ k a f) := by
  unfold flds
  rw [List.getElem?_map, List.getElem?_range hf]
  rfl
theorem flds_len (M : Mem) (ρ : Nat → Nat) (k a : Nat) : (flds M ρ k a).length = nF k := by simp [flds]
theorem flds_set {M M' : Mem} {ρ : Nat → Nat} {k a f : Nat} {v : Value} (hv : fv M' ρ k a f = v) (ho : ∀ j, j ≠ f → fv M' ρ k a j = fv M ρ k a j) : (flds M ρ k a).set f v = flds M' ρ k a := by
  subst hv
  apply List.ext_getElem?
  intro j
  rw [List.getElem?_set, flds_len]
  by_cases hj : f = j
  · subst hj
    rw [if_pos rfl]
    by_cases hl : f < nF k
    · rw [if_pos hl, flds_at hl]
    · rw [if_neg hl, List.getElem?_eq_none (by rw [flds_len]; omega)]
  · rw [if_neg hj]
    by_cases hl : j < nF k
    · rw [flds_at hl, flds_at hl, ho j (fun q => hj q.symm)]
    · rw [List.getElem?_eq_none (by rw [flds_len]; omega), List.getElem?_eq_none (by rw [flds_len]; omega)]
theorem fv_congr {M M' : Mem} {ρ ρ' : Nat → Nat} {k a j : Nat} (h1 : mI M' a j = mI M a j) (h2 : mL M' a j = mL M a j) (h3 : mF M' a j = mF M a j) (h4 : (mR M' a j).map ρ' = (mR M a j).map ρ) : fv M' ρ' k a j = fv M ρ k a j := by
  unfold fv
  rw [h1, h2, h3, h4]
theorem cE_congr {G : Gl} {M M' : Mem} {ρ ρ' : Nat → Nat} {b : Nat} (h0 : mK M' b = mK M b) (h1 : ∀ j, mI M' b j = mI M b j) (h2 : ∀ j, mL M' b j = mL M b j) (h3 : ∀ j, mF M' b j = mF M b j) (h4 : ∀ j, (mR M' b j).map ρ' = (mR M b j).map ρ) : cE G M' ρ' b = cE G M ρ b := by
  have e : flds M' ρ' (mK M b).1 b = flds M ρ (mK M b).1 b := List.map_congr_left fun j _ => fv_congr (h1 j) (h2 j) (h3 j) (h4 j)
  unfold cE
  rw [h0, e, funext h1, funext h2, funext h3, funext h4]
theorem HR_set {G : Gl} {M M' : Mem} {ρ : Nat → Nat} {H H1 : Heap} {a : Nat} {e : va_E} (hH : HR G M ρ H) (hK : mK M' = mK M) (hn : mN M' = mN M) (hr : ∀ a i b, mR M' a i = some b → b < mN M) (he : cE G M' ρ a = e) (ho : ∀ b, b ≠ a → cE G M' ρ b = cE G M ρ b)
    (hP : va_P (G.1, G.2.1) vwCl ((wsM G M ρ).set a (ρ a, e)) H1) (hD : va_D (AO G) ((wsM G M ρ).set a (ρ a, e))) : HR G M' ρ H1 := by
  rw [ws_set hn he ho] at hP hD
  exact ⟨hP, hD, fun b hb => by rw [hK]; exact hH.2.2.1 b (by rw [← hn]; exact hb), fun b i c hc => by rw [hn]; exact hr b i c hc, by rw [hn]; exact hH.2.2.2.2⟩
theorem up2_row {α : Type} (f : Nat → Nat → α) (a i : Nat) (x : α) (j : Nat) : up2 f a i x a j = if j = i then x else f a j := by
  simp [up2]
theorem up2_clo {f : Nat → Nat → Option Nat} {n a i x : Nat} (h : ∀ a i b, f a i = some b → b < n) (hx : x < n) : ∀ b j c, up2 f a i (some x) b j = some c → c < n := by
  intro b j c hc
  unfold up2 at hc
  split at hc
  · cases hc; exact hx
  · exact h b j c hc
section
variable {G : Gl} {B : Bx} {own : String} {cc : ByteArray} {ret : Option FieldType} {fr lo nL : Nat} {mn : String} {hh : List (Nat × Nat × Nat × Nat)} {pc : Nat} {ls : List (Nat × Value)} {st : List Value} {M : Mem} {kk : Nat} {C : String} {T : u_T} {N : Nat} {ty : Nat → FieldType} {f a index : Nat}
theorem v_getI (hc : CLk kk C T N ty) (hf : f < N) (ht : fT kk f = 0) (hw : Cond.fieldLink own index (T f).1 (T f).2.1 (T f).2.2.1 ∈ GW) (hd : decode cc pc = .ok (.getfield index, 3)) {x : Int32} (hx : gI kk f a M = some x) (k : V G (own, cc, ret, fr, lo, nL, mn, hh) B (pc + 3) ls (.int x :: st) M) : V G (own, cc, ret, fr, lo, nL, mn, hh) B pc ls (.ref a :: st) M := by
  unfold gI at hx
  split at hx
  · rename_i hk
    refine ⟨k.1, fun X h ρ H locs cells slots la hH hl hs he hS hcc hn hla => ?_⟩
    refine va_get (D := (G.1, G.2.1)) (cl := vwCl) (ci := kk) (v := .int x) h.1 h.2.1 h.2.2.2.1 hc.2.1 h.2.2.1 h.2.2.2.2.1.1 hH.1 a (ws_obj hH hk hc.2.2.2.2.1) hc.1 f hf (h.2.2.2.1 _ hw) (fun _ h9 => h9) ?_ hd (k.2 X h ρ H locs cells slots la hH hl ⟨trivial, hs.2⟩ he hS hcc hn hla)
    rw [flds_at (by rw [hc.2.2.2.2.2]; exact hf)]
    unfold fv
    rw [ht]
    cases hx
    rfl
  · cases hx
theorem v_getL (hc : CLk kk C T N ty) (hf : f < N) (ht : fT kk f = 1) (hw : Cond.fieldLink own index (T f).1 (T f).2.1 (T f).2.2.1 ∈ GW) (hd : decode cc pc = .ok (.getfield index, 3)) {x : Int64} (hx : gL kk f a M = some x) (k : V G (own, cc, ret, fr, lo, nL, mn, hh) B (pc + 3) ls (.long x :: st) M) : V G (own, cc, ret, fr, lo, nL, mn, hh) B pc ls (.ref a :: st) M := by
  unfold gL at hx
  split at hx
  · rename_i hk
    refine ⟨k.1, fun X h ρ H locs cells slots la hH hl hs he hS hcc hn hla => ?_⟩
    refine va_get (D := (G.1, G.2.1)) (cl := vwCl) (ci := kk) (v := .long x) h.1 h.2.1 h.2.2.2.1 hc.2.1 h.2.2.1 h.2.2.2.2.1.1 hH.1 a (ws_obj hH hk hc.2.2.2.2.1) hc.1 f hf (h.2.2.2.1 _ hw) (fun _ h9 => h9) ?_ hd (k.2 X h ρ H locs cells slots la hH hl ⟨trivial, hs.2⟩ he hS hcc hn hla)
    rw [flds_at (by rw [hc.2.2.2.2.2]; exact hf)]
    unfold fv
    rw [ht]
    cases hx
    rfl
  · cases hx
theorem v_getF (hc : CLk kk C T N ty) (hf : f < N) (ht : fT kk f = 2) (hw : Cond.fieldLink own index (T f).1 (T f).2.1 (T f).2.2.1 ∈ GW) (hd : decode cc pc = .ok (.getfield index, 3)) {x : UInt32} (hx : gF kk f a M = some x) (k : V G (own, cc, ret, fr, lo, nL, mn, hh) B (pc + 3) ls (.float x :: st) M) : V G (own, cc, ret, fr, lo, nL, mn, hh) B pc ls (.ref a :: st) M := by
  unfold gF at hx
  split at hx
  · rename_i hk
    refine ⟨k.1, fun X h ρ H locs cells slots la hH hl hs he hS hcc hn hla => ?_⟩
    refine va_get (D := (G.1, G.2.1)) (cl := vwCl) (ci := kk) (v := .float x) h.1 h.2.1 h.2.2.2.1 hc.2.1 h.2.2.1 h.2.2.2.2.1.1 hH.1 a (ws_obj hH hk hc.2.2.2.2.1) hc.1 f hf (h.2.2.2.1 _ hw) (fun _ h9 => h9) ?_ hd (k.2 X h ρ H locs cells slots la hH hl ⟨trivial, hs.2⟩ he hS hcc hn hla)
    rw [flds_at (by rw [hc.2.2.2.2.2]; exact hf)]
    unfold fv
    rw [ht]
    cases hx
    rfl
  · cases hx
theorem v_getR (hc : CLk kk C T N ty) (hf : f < N) (ht : fT kk f = 3) (hw : Cond.fieldLink own index (T f).1 (T f).2.1 (T f).2.2.1 ∈ GW) (hd : decode cc pc = .ok (.getfield index, 3)) {x : Nat} (hx : gR kk f a M = some x) (k : V G (own, cc, ret, fr, lo, nL, mn, hh) B (pc + 3) ls (.ref x :: st) M) : V G (own, cc, ret, fr, lo, nL, mn, hh) B pc ls (.ref a :: st) M := by
  unfold gR at hx
  split at hx
  · rename_i hk
    refine ⟨k.1, fun X h ρ H locs cells slots la hH hl hs he hS hcc hn hla => ?_⟩
    refine va_get (D := (G.1, G.2.1)) (cl := vwCl) (ci := kk) (v := .ref (ρ x)) h.1 h.2.1 h.2.2.2.1 hc.2.1 h.2.2.1 h.2.2.2.2.1.1 hH.1 a (ws_obj hH hk hc.2.2.2.2.1) hc.1 f hf (h.2.2.2.1 _ hw) (fun _ h9 => h9) ?_ hd (k.2 X h ρ H locs cells slots la hH hl ⟨Or.inl (hH.2.2.2.1 _ _ _ hx), hs.2⟩ he hS hcc hn hla)
    rw [flds_at (by rw [hc.2.2.2.2.2]; exact hf)]
    unfold fv
    rw [ht, hx]
    rfl
  · cases hx
end
