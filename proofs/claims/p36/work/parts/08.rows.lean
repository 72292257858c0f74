/-! ROWS: one instruction, over the picture -/
def iremE (x y : Int32) : Int32 := x - x / y * y
def lremE (x y : Int64) : Int64 := x - x / y * y
def i2cE (x : Int32) : Int32 := (x.toUInt32 % 65536).toInt32
def iushrE (x y : Int32) : Int32 := (x.toUInt32 >>> (y.toUInt32 &&& Int32.toUInt32 31)).toInt32
def lshlE (x : Int64) (y : Int32) : Int64 := x <<< (y.toInt64 &&& 63)
def lcmpE (x y : Int64) : Int32 := lg_cmp x y
section
variable {G : Gl} {B : Bx} {own : String} {cc : ByteArray} {ret : Option FieldType} {fr lo nL : Nat} {mn : String} {hh : List (Nat × Nat × Nat × Nat)} {pc : Nat} {ls : List (Nat × Value)} {st : List Value} {M : Mem}
theorem v_iconst  {n : Int} (hd : decode cc pc = .ok (.iconst n, 1)) {v : Int32} (hv : Int32.ofInt n = v) (k : V G (own, cc, ret, fr, lo, nL, mn, hh) B (pc + 1) ls (.int v :: st) M) : V G (own, cc, ret, fr, lo, nL, mn, hh) B pc ls (st) M :=
  ⟨k.1, fun X h ρ H locs cells slots la hH hl hs he hS hc hn hla => lv_iconst h.1 h.2.1 hd hv (k.2 X h ρ H locs cells slots la hH hl ⟨trivial, hs⟩ he hS hc hn hla)⟩
theorem v_bipush  {n : Int} (hd : decode cc pc = .ok (.bipush n, 2)) {v : Int32} (hv : (Int8.ofInt n).toInt32 = v) (k : V G (own, cc, ret, fr, lo, nL, mn, hh) B (pc + 2) ls (.int v :: st) M) : V G (own, cc, ret, fr, lo, nL, mn, hh) B pc ls (st) M :=
  ⟨k.1, fun X h ρ H locs cells slots la hH hl hs he hS hc hn hla => lv_bipush h.1 h.2.1 hd hv (k.2 X h ρ H locs cells slots la hH hl ⟨trivial, hs⟩ he hS hc hn hla)⟩
theorem v_sipush  {n : Int} (hd : decode cc pc = .ok (.sipush n, 3)) {v : Int32} (hv : (Int16.ofInt n).toInt32 = v) (k : V G (own, cc, ret, fr, lo, nL, mn, hh) B (pc + 3) ls (.int v :: st) M) : V G (own, cc, ret, fr, lo, nL, mn, hh) B pc ls (st) M :=
  ⟨k.1, fun X h ρ H locs cells slots la hH hl hs he hS hc hn hla => lv_sipush h.1 h.2.1 hd hv (k.2 X h ρ H locs cells slots la hH hl ⟨trivial, hs⟩ he hS hc hn hla)⟩
theorem v_lconst  {n : Fin 2} (hd : decode cc pc = .ok (.lconst n, 1)) {v : Int64} (hv : Int64.ofNat (n : Nat) = v) (k : V G (own, cc, ret, fr, lo, nL, mn, hh) B (pc + 1) ls (.long v :: st) M) : V G (own, cc, ret, fr, lo, nL, mn, hh) B pc ls (st) M :=
  ⟨k.1, fun X h ρ H locs cells slots la hH hl hs he hS hc hn hla => lv_lconst h.1 h.2.1 hd hv (k.2 X h ρ H locs cells slots la hH hl ⟨trivial, hs⟩ he hS hc hn hla)⟩
theorem v_iload_n  {n : Fin 4} {i : Nat} {x : Int32} (hd : decode cc pc = .ok (.iload_n n, 1)) (hi : (n : Nat) = i) (q : Nat) (hq : ls[q]? = some (i, .int x)) (k : V G (own, cc, ret, fr, lo, nL, mn, hh) B (pc + 1) ls (.int x :: st) M) : V G (own, cc, ret, fr, lo, nL, mn, hh) B pc ls (st) M :=
  ⟨k.1, fun X h ρ H locs cells slots la hH hl hs he hS hc hn hla => lv_iload_n h.1 h.2.1 hd hi (lv_at hla q (by rw [List.getElem?_map, hq]; rfl)) (k.2 X h ρ H locs cells slots la hH hl ⟨trivial, hs⟩ he hS hc hn hla)⟩
theorem v_iload  {i : Nat} {x : Int32} (hd : decode cc pc = .ok (.iload i, 2)) (q : Nat) (hq : ls[q]? = some (i, .int x)) (k : V G (own, cc, ret, fr, lo, nL, mn, hh) B (pc + 2) ls (.int x :: st) M) : V G (own, cc, ret, fr, lo, nL, mn, hh) B pc ls (st) M :=
  ⟨k.1, fun X h ρ H locs cells slots la hH hl hs he hS hc hn hla => lv_iload h.1 h.2.1 hd (lv_at hla q (by rw [List.getElem?_map, hq]; rfl)) (k.2 X h ρ H locs cells slots la hH hl ⟨trivial, hs⟩ he hS hc hn hla)⟩
theorem v_lload_n  {n : Fin 4} {i : Nat} {x : Int64} (hd : decode cc pc = .ok (.lload_n n, 1)) (hi : (n : Nat) = i) (q : Nat) (hq : ls[q]? = some (i, .long x)) (k : V G (own, cc, ret, fr, lo, nL, mn, hh) B (pc + 1) ls (.long x :: st) M) : V G (own, cc, ret, fr, lo, nL, mn, hh) B pc ls (st) M :=
  ⟨k.1, fun X h ρ H locs cells slots la hH hl hs he hS hc hn hla => lv_lload_n h.1 h.2.1 hd hi (lv_at hla q (by rw [List.getElem?_map, hq]; rfl)) (k.2 X h ρ H locs cells slots la hH hl ⟨trivial, hs⟩ he hS hc hn hla)⟩
theorem v_lload  {i : Nat} {x : Int64} (hd : decode cc pc = .ok (.lload i, 2)) (q : Nat) (hq : ls[q]? = some (i, .long x)) (k : V G (own, cc, ret, fr, lo, nL, mn, hh) B (pc + 2) ls (.long x :: st) M) : V G (own, cc, ret, fr, lo, nL, mn, hh) B pc ls (st) M :=
  ⟨k.1, fun X h ρ H locs cells slots la hH hl hs he hS hc hn hla => lv_lload h.1 h.2.1 hd (lv_at hla q (by rw [List.getElem?_map, hq]; rfl)) (k.2 X h ρ H locs cells slots la hH hl ⟨trivial, hs⟩ he hS hc hn hla)⟩
theorem v_aload_n  {n : Fin 4} {i : Nat} {x : Nat} (hd : decode cc pc = .ok (.aload_n n, 1)) (hi : (n : Nat) = i) (q : Nat) (hq : ls[q]? = some (i, .ref x)) (k : V G (own, cc, ret, fr, lo, nL, mn, hh) B (pc + 1) ls (.ref x :: st) M) : V G (own, cc, ret, fr, lo, nL, mn, hh) B pc ls (st) M :=
  ⟨k.1, fun X h ρ H locs cells slots la hH hl hs he hS hc hn hla => lv_aload_n h.1 h.2.1 hd hi (lv_at hla q (by rw [List.getElem?_map, hq]; rfl)) (k.2 X h ρ H locs cells slots la hH hl ⟨lok_at hl hq, hs⟩ he hS hc hn hla)⟩
theorem v_aload  {i : Nat} {x : Nat} (hd : decode cc pc = .ok (.aload i, 2)) (q : Nat) (hq : ls[q]? = some (i, .ref x)) (k : V G (own, cc, ret, fr, lo, nL, mn, hh) B (pc + 2) ls (.ref x :: st) M) : V G (own, cc, ret, fr, lo, nL, mn, hh) B pc ls (st) M :=
  ⟨k.1, fun X h ρ H locs cells slots la hH hl hs he hS hc hn hla => lv_aload h.1 h.2.1 hd (lv_at hla q (by rw [List.getElem?_map, hq]; rfl)) (k.2 X h ρ H locs cells slots la hH hl ⟨lok_at hl hq, hs⟩ he hS hc hn hla)⟩
theorem v_istore_n  {n : Fin 4} {i : Nat} {x : Int32} {ls' : List (Nat × Value)} (hd : decode cc pc = .ok (.istore_n n, 1)) (hi : (n : Nat) = i) (hn : i < nL) (hq : (i, Value.int x) :: ls.filter (fun q => !(q.1 == i) && !(q.1 + 1 == i && q.2.category == 2)) = ls') (k : V G (own, cc, ret, fr, lo, nL, mn, hh) B (pc + 1) ls' st M) : V G (own, cc, ret, fr, lo, nL, mn, hh) B pc ls (.int x :: st) M :=
  ⟨k.1, fun X h ρ H locs cells slots la hH hl hs he hS hc hn' hla => lv_istore_n h.1 h.2.1 hd hi hla (by rw [h.2.2.2.2.2.2.2.2.2.2.1]; exact hn) (lv' := ls'.map (ml ρ)) (by rw [← hq, ml_filter ρ _ (fun q => by simp [ml, mv_cat])]; rfl) (fun la' hla' => k.2 X h ρ H locs cells slots la' hH (by rw [← hq]; exact ⟨hs.1, lok_filter _ hl⟩) hs.2 he hS hc hn' hla')⟩
theorem v_istore  {i : Nat} {x : Int32} {ls' : List (Nat × Value)} (hd : decode cc pc = .ok (.istore i, 2)) (hn : i < nL) (hq : (i, Value.int x) :: ls.filter (fun q => !(q.1 == i) && !(q.1 + 1 == i && q.2.category == 2)) = ls') (k : V G (own, cc, ret, fr, lo, nL, mn, hh) B (pc + 2) ls' st M) : V G (own, cc, ret, fr, lo, nL, mn, hh) B pc ls (.int x :: st) M :=
  ⟨k.1, fun X h ρ H locs cells slots la hH hl hs he hS hc hn' hla => lv_istore h.1 h.2.1 hd hla (by rw [h.2.2.2.2.2.2.2.2.2.2.1]; exact hn) (lv' := ls'.map (ml ρ)) (by rw [← hq, ml_filter ρ _ (fun q => by simp [ml, mv_cat])]; rfl) (fun la' hla' => k.2 X h ρ H locs cells slots la' hH (by rw [← hq]; exact ⟨hs.1, lok_filter _ hl⟩) hs.2 he hS hc hn' hla')⟩
theorem v_astore_n  {n : Fin 4} {i : Nat} {x : Nat} {ls' : List (Nat × Value)} (hd : decode cc pc = .ok (.astore_n n, 1)) (hi : (n : Nat) = i) (hn : i < nL) (hq : (i, Value.ref x) :: ls.filter (fun q => !(q.1 == i) && !(q.1 + 1 == i && q.2.category == 2)) = ls') (k : V G (own, cc, ret, fr, lo, nL, mn, hh) B (pc + 1) ls' st M) : V G (own, cc, ret, fr, lo, nL, mn, hh) B pc ls (.ref x :: st) M :=
  ⟨k.1, fun X h ρ H locs cells slots la hH hl hs he hS hc hn' hla => lv_astore_n h.1 h.2.1 hd hi hla (by rw [h.2.2.2.2.2.2.2.2.2.2.1]; exact hn) (lv' := ls'.map (ml ρ)) (by rw [← hq, ml_filter ρ _ (fun q => by simp [ml, mv_cat])]; rfl) (fun la' hla' => k.2 X h ρ H locs cells slots la' hH (by rw [← hq]; exact ⟨hs.1, lok_filter _ hl⟩) hs.2 he hS hc hn' hla')⟩
theorem v_astore  {i : Nat} {x : Nat} {ls' : List (Nat × Value)} (hd : decode cc pc = .ok (.astore i, 2)) (hn : i < nL) (hq : (i, Value.ref x) :: ls.filter (fun q => !(q.1 == i) && !(q.1 + 1 == i && q.2.category == 2)) = ls') (k : V G (own, cc, ret, fr, lo, nL, mn, hh) B (pc + 2) ls' st M) : V G (own, cc, ret, fr, lo, nL, mn, hh) B pc ls (.ref x :: st) M :=
  ⟨k.1, fun X h ρ H locs cells slots la hH hl hs he hS hc hn' hla => lv_astore h.1 h.2.1 hd hla (by rw [h.2.2.2.2.2.2.2.2.2.2.1]; exact hn) (lv' := ls'.map (ml ρ)) (by rw [← hq, ml_filter ρ _ (fun q => by simp [ml, mv_cat])]; rfl) (fun la' hla' => k.2 X h ρ H locs cells slots la' hH (by rw [← hq]; exact ⟨hs.1, lok_filter _ hl⟩) hs.2 he hS hc hn' hla')⟩
theorem v_lstore_n  {n : Fin 4} {i : Nat} {x : Int64} {ls' : List (Nat × Value)} (hd : decode cc pc = .ok (.lstore_n n, 1)) (hi : (n : Nat) = i) (hn : i + 1 < nL) (hq : (i, Value.long x) :: ls.filter (fun q => !(q.1 == i) && (!(q.1 == i + 1) && !(q.1 + 1 == i && q.2.category == 2))) = ls') (k : V G (own, cc, ret, fr, lo, nL, mn, hh) B (pc + 1) ls' st M) : V G (own, cc, ret, fr, lo, nL, mn, hh) B pc ls (.long x :: st) M :=
  ⟨k.1, fun X h ρ H locs cells slots la hH hl hs he hS hc hn' hla => lv_lstore_n h.1 h.2.1 hd hi hla (by rw [h.2.2.2.2.2.2.2.2.2.2.1]; exact hn) (lv' := ls'.map (ml ρ)) (by rw [← hq, ml_filter ρ _ (fun q => by simp [ml, mv_cat])]; rfl) (fun la' hla' => k.2 X h ρ H locs cells slots la' hH (by rw [← hq]; exact ⟨hs.1, lok_filter _ hl⟩) hs.2 he hS hc hn' hla')⟩
theorem v_lstore  {i : Nat} {x : Int64} {ls' : List (Nat × Value)} (hd : decode cc pc = .ok (.lstore i, 2)) (hn : i + 1 < nL) (hq : (i, Value.long x) :: ls.filter (fun q => !(q.1 == i) && (!(q.1 == i + 1) && !(q.1 + 1 == i && q.2.category == 2))) = ls') (k : V G (own, cc, ret, fr, lo, nL, mn, hh) B (pc + 2) ls' st M) : V G (own, cc, ret, fr, lo, nL, mn, hh) B pc ls (.long x :: st) M :=
  ⟨k.1, fun X h ρ H locs cells slots la hH hl hs he hS hc hn' hla => lv_lstore h.1 h.2.1 hd hla (by rw [h.2.2.2.2.2.2.2.2.2.2.1]; exact hn) (lv' := ls'.map (ml ρ)) (by rw [← hq, ml_filter ρ _ (fun q => by simp [ml, mv_cat])]; rfl) (fun la' hla' => k.2 X h ρ H locs cells slots la' hH (by rw [← hq]; exact ⟨hs.1, lok_filter _ hl⟩) hs.2 he hS hc hn' hla')⟩
theorem v_iinc  {i : Nat} {n : Int} {x v : Int32} {ls' : List (Nat × Value)} (hd : decode cc pc = .ok (.iinc i n, 3)) (q : Nat) (hk : ls[q]? = some (i, .int x)) (hv : Int32.ofInt n = v) (hn : i < nL) (hq : (i, Value.int (x + v)) :: ls.filter (fun q => !(q.1 == i) && !(q.1 + 1 == i && q.2.category == 2)) = ls') (k : V G (own, cc, ret, fr, lo, nL, mn, hh) B (pc + 3) ls' st M) : V G (own, cc, ret, fr, lo, nL, mn, hh) B pc ls (st) M :=
  ⟨k.1, fun X h ρ H locs cells slots la hH hl hs he hS hc hn' hla => lv_iinc h.1 h.2.1 hd hla (k := q) (by rw [List.getElem?_map, hk]; rfl) (by rw [hv]) (by rw [h.2.2.2.2.2.2.2.2.2.2.1]; exact hn) (lv' := ls'.map (ml ρ)) (by rw [← hq, ml_filter ρ _ (fun q => by simp [ml, mv_cat])]; rfl) (fun la' hla' => k.2 X h ρ H locs cells slots la' hH (by rw [← hq]; exact ⟨trivial, lok_filter _ hl⟩) hs he hS hc hn' hla')⟩
theorem v_iadd  {x y : Int32} (hd : decode cc pc = .ok (.iadd, 1)) (k : V G (own, cc, ret, fr, lo, nL, mn, hh) B (pc + 1) ls (.int (x + y) :: st) M) : V G (own, cc, ret, fr, lo, nL, mn, hh) B pc ls (.int y :: .int x :: st) M :=
  ⟨k.1, fun X h ρ H locs cells slots la hH hl hs he hS hc hn hla => lv_iadd h.1 h.2.1 hd (k.2 X h ρ H locs cells slots la hH hl ⟨trivial, hs.2.2⟩ he hS hc hn hla)⟩
theorem v_isub  {x y : Int32} (hd : decode cc pc = .ok (.isub, 1)) (k : V G (own, cc, ret, fr, lo, nL, mn, hh) B (pc + 1) ls (.int (x - y) :: st) M) : V G (own, cc, ret, fr, lo, nL, mn, hh) B pc ls (.int y :: .int x :: st) M :=
  ⟨k.1, fun X h ρ H locs cells slots la hH hl hs he hS hc hn hla => lv_isub h.1 h.2.1 hd (k.2 X h ρ H locs cells slots la hH hl ⟨trivial, hs.2.2⟩ he hS hc hn hla)⟩
theorem v_imul  {x y : Int32} (hd : decode cc pc = .ok (.imul, 1)) (k : V G (own, cc, ret, fr, lo, nL, mn, hh) B (pc + 1) ls (.int (x * y) :: st) M) : V G (own, cc, ret, fr, lo, nL, mn, hh) B pc ls (.int y :: .int x :: st) M :=
  ⟨k.1, fun X h ρ H locs cells slots la hH hl hs he hS hc hn hla => lv_imul h.1 h.2.1 hd (k.2 X h ρ H locs cells slots la hH hl ⟨trivial, hs.2.2⟩ he hS hc hn hla)⟩
theorem v_iand  {x y : Int32} (hd : decode cc pc = .ok (.iand, 1)) (k : V G (own, cc, ret, fr, lo, nL, mn, hh) B (pc + 1) ls (.int (x &&& y) :: st) M) : V G (own, cc, ret, fr, lo, nL, mn, hh) B pc ls (.int y :: .int x :: st) M :=
  ⟨k.1, fun X h ρ H locs cells slots la hH hl hs he hS hc hn hla => lv_iand h.1 h.2.1 hd (k.2 X h ρ H locs cells slots la hH hl ⟨trivial, hs.2.2⟩ he hS hc hn hla)⟩
theorem v_idiv  {x y : Int32} (hd : decode cc pc = .ok (.idiv, 1)) (hne : ¬ y = 0) (k : V G (own, cc, ret, fr, lo, nL, mn, hh) B (pc + 1) ls (.int (x / y) :: st) M) : V G (own, cc, ret, fr, lo, nL, mn, hh) B pc ls (.int y :: .int x :: st) M :=
  ⟨k.1, fun X h ρ H locs cells slots la hH hl hs he hS hc hn hla => lv_idiv h.1 h.2.1 hd hne (k.2 X h ρ H locs cells slots la hH hl ⟨trivial, hs.2.2⟩ he hS hc hn hla)⟩
theorem v_irem  {x y : Int32} (hd : decode cc pc = .ok (.irem, 1)) (hne : ¬ y = 0) (k : V G (own, cc, ret, fr, lo, nL, mn, hh) B (pc + 1) ls (.int (iremE x y) :: st) M) : V G (own, cc, ret, fr, lo, nL, mn, hh) B pc ls (.int y :: .int x :: st) M :=
  ⟨k.1, fun X h ρ H locs cells slots la hH hl hs he hS hc hn hla => lv_irem h.1 h.2.1 hd hne (k.2 X h ρ H locs cells slots la hH hl ⟨trivial, hs.2.2⟩ he hS hc hn hla)⟩
theorem v_ladd  {x y : Int64} (hd : decode cc pc = .ok (.ladd, 1)) (k : V G (own, cc, ret, fr, lo, nL, mn, hh) B (pc + 1) ls (.long (x + y) :: st) M) : V G (own, cc, ret, fr, lo, nL, mn, hh) B pc ls (.long y :: .long x :: st) M :=
  ⟨k.1, fun X h ρ H locs cells slots la hH hl hs he hS hc hn hla => lv_ladd h.1 h.2.1 hd (k.2 X h ρ H locs cells slots la hH hl ⟨trivial, hs.2.2⟩ he hS hc hn hla)⟩
theorem v_lmul  {x y : Int64} (hd : decode cc pc = .ok (.lmul, 1)) (k : V G (own, cc, ret, fr, lo, nL, mn, hh) B (pc + 1) ls (.long (x * y) :: st) M) : V G (own, cc, ret, fr, lo, nL, mn, hh) B pc ls (.long y :: .long x :: st) M :=
  ⟨k.1, fun X h ρ H locs cells slots la hH hl hs he hS hc hn hla => lv_lmul h.1 h.2.1 hd (k.2 X h ρ H locs cells slots la hH hl ⟨trivial, hs.2.2⟩ he hS hc hn hla)⟩
theorem v_lor  {x y : Int64} (hd : decode cc pc = .ok (.lor, 1)) (k : V G (own, cc, ret, fr, lo, nL, mn, hh) B (pc + 1) ls (.long (x ||| y) :: st) M) : V G (own, cc, ret, fr, lo, nL, mn, hh) B pc ls (.long y :: .long x :: st) M :=
  ⟨k.1, fun X h ρ H locs cells slots la hH hl hs he hS hc hn hla => lv_lor h.1 h.2.1 hd (k.2 X h ρ H locs cells slots la hH hl ⟨trivial, hs.2.2⟩ he hS hc hn hla)⟩
theorem v_ldiv  {x y : Int64} (hd : decode cc pc = .ok (.ldiv, 1)) (hne : ¬ y = 0) (k : V G (own, cc, ret, fr, lo, nL, mn, hh) B (pc + 1) ls (.long (x / y) :: st) M) : V G (own, cc, ret, fr, lo, nL, mn, hh) B pc ls (.long y :: .long x :: st) M :=
  ⟨k.1, fun X h ρ H locs cells slots la hH hl hs he hS hc hn hla => lv_ldiv h.1 h.2.1 hd hne (k.2 X h ρ H locs cells slots la hH hl ⟨trivial, hs.2.2⟩ he hS hc hn hla)⟩
theorem v_lrem  {x y : Int64} (hd : decode cc pc = .ok (.lrem, 1)) (hne : ¬ y = 0) (k : V G (own, cc, ret, fr, lo, nL, mn, hh) B (pc + 1) ls (.long (lremE x y) :: st) M) : V G (own, cc, ret, fr, lo, nL, mn, hh) B pc ls (.long y :: .long x :: st) M :=
  ⟨k.1, fun X h ρ H locs cells slots la hH hl hs he hS hc hn hla => lv_lrem h.1 h.2.1 hd hne (k.2 X h ρ H locs cells slots la hH hl ⟨trivial, hs.2.2⟩ he hS hc hn hla)⟩
theorem v_i2l  {x : Int32} (hd : decode cc pc = .ok (.i2l, 1)) (k : V G (own, cc, ret, fr, lo, nL, mn, hh) B (pc + 1) ls (.long x.toInt64 :: st) M) : V G (own, cc, ret, fr, lo, nL, mn, hh) B pc ls (.int x :: st) M :=
  ⟨k.1, fun X h ρ H locs cells slots la hH hl hs he hS hc hn hla => lv_i2l h.1 h.2.1 hd rfl (k.2 X h ρ H locs cells slots la hH hl ⟨trivial, hs.2⟩ he hS hc hn hla)⟩
theorem v_l2i  {x : Int64} (hd : decode cc pc = .ok (.l2i, 1)) (k : V G (own, cc, ret, fr, lo, nL, mn, hh) B (pc + 1) ls (.int x.toInt32 :: st) M) : V G (own, cc, ret, fr, lo, nL, mn, hh) B pc ls (.long x :: st) M :=
  ⟨k.1, fun X h ρ H locs cells slots la hH hl hs he hS hc hn hla => lv_l2i h.1 h.2.1 hd rfl (k.2 X h ρ H locs cells slots la hH hl ⟨trivial, hs.2⟩ he hS hc hn hla)⟩
theorem v_i2c  {x : Int32} (hd : decode cc pc = .ok (.i2c, 1)) (k : V G (own, cc, ret, fr, lo, nL, mn, hh) B (pc + 1) ls (.int (i2cE x) :: st) M) : V G (own, cc, ret, fr, lo, nL, mn, hh) B pc ls (.int x :: st) M :=
  ⟨k.1, fun X h ρ H locs cells slots la hH hl hs he hS hc hn hla => lv_i2c h.1 h.2.1 hd rfl (k.2 X h ρ H locs cells slots la hH hl ⟨trivial, hs.2⟩ he hS hc hn hla)⟩
theorem v_iushr  {x y : Int32} (hd : decode cc pc = .ok (.iushr, 1)) (k : V G (own, cc, ret, fr, lo, nL, mn, hh) B (pc + 1) ls (.int (iushrE x y) :: st) M) : V G (own, cc, ret, fr, lo, nL, mn, hh) B pc ls (.int y :: .int x :: st) M :=
  ⟨k.1, fun X h ρ H locs cells slots la hH hl hs he hS hc hn hla => lv_iushr h.1 h.2.1 hd rfl (k.2 X h ρ H locs cells slots la hH hl ⟨trivial, hs.2.2⟩ he hS hc hn hla)⟩
theorem v_lshl  {x : Int64} {y : Int32} (hd : decode cc pc = .ok (.lshl, 1)) (k : V G (own, cc, ret, fr, lo, nL, mn, hh) B (pc + 1) ls (.long (lshlE x y) :: st) M) : V G (own, cc, ret, fr, lo, nL, mn, hh) B pc ls (.int y :: .long x :: st) M :=
  ⟨k.1, fun X h ρ H locs cells slots la hH hl hs he hS hc hn hla => lv_lshl h.1 h.2.1 hd rfl (k.2 X h ρ H locs cells slots la hH hl ⟨trivial, hs.2.2⟩ he hS hc hn hla)⟩
theorem v_lcmp  {x y : Int64} (hd : decode cc pc = .ok (.lcmp, 1)) (k : V G (own, cc, ret, fr, lo, nL, mn, hh) B (pc + 1) ls (.int (lcmpE x y) :: st) M) : V G (own, cc, ret, fr, lo, nL, mn, hh) B pc ls (.long y :: .long x :: st) M :=
  ⟨k.1, fun X h ρ H locs cells slots la hH hl hs he hS hc hn hla => W.lcmp h.1 h.2.1 hd (k.2 X h ρ H locs cells slots la hH hl ⟨trivial, hs.2.2⟩ he hS hc hn hla)⟩
theorem v_i2f  {x : Int32} (hd : decode cc pc = .ok (.i2f, 1)) (k : V G (own, cc, ret, fr, lo, nL, mn, hh) B (pc + 1) ls (.float (FP.i2f x) :: st) M) : V G (own, cc, ret, fr, lo, nL, mn, hh) B pc ls (.int x :: st) M :=
  ⟨k.1, fun X h ρ H locs cells slots la hH hl hs he hS hc hn hla => lv_i2f h.1 h.2.1 hd (k.2 X h ρ H locs cells slots la hH hl ⟨trivial, hs.2⟩ he hS hc hn hla)⟩
theorem v_f2i  {x : UInt32} (hd : decode cc pc = .ok (.f2i, 1)) (k : V G (own, cc, ret, fr, lo, nL, mn, hh) B (pc + 1) ls (.int (FP.f2i x) :: st) M) : V G (own, cc, ret, fr, lo, nL, mn, hh) B pc ls (.float x :: st) M :=
  ⟨k.1, fun X h ρ H locs cells slots la hH hl hs he hS hc hn hla => lv_f2i h.1 h.2.1 hd (k.2 X h ρ H locs cells slots la hH hl ⟨trivial, hs.2⟩ he hS hc hn hla)⟩
theorem v_fmul  {x y z : UInt32} (hd : decode cc pc = .ok (.fmul, 1)) (hz : fmulO x y = some z) (k : V G (own, cc, ret, fr, lo, nL, mn, hh) B (pc + 1) ls (.float z :: st) M) : V G (own, cc, ret, fr, lo, nL, mn, hh) B pc ls (.float y :: .float x :: st) M := by
  unfold fmulO at hz
  split at hz
  · rename_i hne
    cases hz
    exact ⟨k.1, fun X h ρ H locs cells slots la hH hl hs he hS hc hn hla => lv_fmul h.1 h.2.1 hd hne (k.2 X h ρ H locs cells slots la hH hl ⟨trivial, hs.2.2⟩ he hS hc hn hla)⟩
  · cases hz
theorem v_fadd  {x y z : UInt32} (hd : decode cc pc = .ok (.fadd, 1)) (hz : faddO x y = some z) (k : V G (own, cc, ret, fr, lo, nL, mn, hh) B (pc + 1) ls (.float z :: st) M) : V G (own, cc, ret, fr, lo, nL, mn, hh) B pc ls (.float y :: .float x :: st) M := by
  unfold faddO at hz
  split at hz
  · rename_i hne
    cases hz
    exact ⟨k.1, fun X h ρ H locs cells slots la hH hl hs he hS hc hn hla => lv_fadd h.1 h.2.1 hd hne (k.2 X h ρ H locs cells slots la hH hl ⟨trivial, hs.2.2⟩ he hS hc hn hla)⟩
  · cases hz
theorem v_dup  {v : Value} (hd : decode cc pc = .ok (.dup, 1)) (hv : v.category = 1) (k : V G (own, cc, ret, fr, lo, nL, mn, hh) B (pc + 1) ls (v :: v :: st) M) : V G (own, cc, ret, fr, lo, nL, mn, hh) B pc ls (v :: st) M :=
  ⟨k.1, fun X h ρ H locs cells slots la hH hl hs he hS hc hn hla => lv_dup h.1 h.2.1 hd (by rw [mv_cat]; exact hv) (k.2 X h ρ H locs cells slots la hH hl ⟨hs.1, hs⟩ he hS hc hn hla)⟩
theorem v_pop  {v : Value} (hd : decode cc pc = .ok (.pop, 1)) (hv : v.category = 1) (k : V G (own, cc, ret, fr, lo, nL, mn, hh) B (pc + 1) ls (st) M) : V G (own, cc, ret, fr, lo, nL, mn, hh) B pc ls (v :: st) M :=
  ⟨k.1, fun X h ρ H locs cells slots la hH hl hs he hS hc hn hla => lv_pop h.1 h.2.1 hd (by rw [mv_cat]; exact hv) (k.2 X h ρ H locs cells slots la hH hl hs.2 he hS hc hn hla)⟩
theorem v_dup2  {v w : Value} (hd : decode cc pc = .ok (.dup2, 1)) (hv : v.category = 1) (hw : w.category = 1) (k : V G (own, cc, ret, fr, lo, nL, mn, hh) B (pc + 1) ls (v :: w :: v :: w :: st) M) : V G (own, cc, ret, fr, lo, nL, mn, hh) B pc ls (v :: w :: st) M :=
  ⟨k.1, fun X h ρ H locs cells slots la hH hl hs he hS hc hn hla => lv_dup2_11 h.1 h.2.1 hd (by rw [mv_cat]; exact hv) (by rw [mv_cat]; exact hw) (k.2 X h ρ H locs cells slots la hH hl ⟨hs.1, hs.2.1, hs⟩ he hS hc hn hla)⟩
theorem v_if_eq  {x : Int32} {off : Int} {tgt : Nat} (hd : decode cc pc = .ok (.ifCond .eq off, 3)) (ht : (pc : Int) + off = (tgt : Int)) (kt : x = 0 → V G (own, cc, ret, fr, lo, nL, mn, hh) B tgt ls (st) M) (kf : ¬ x = 0 → V G (own, cc, ret, fr, lo, nL, mn, hh) B (pc + 3) ls (st) M) : V G (own, cc, ret, fr, lo, nL, mn, hh) B pc ls (.int x :: st) M :=
  ⟨by by_cases hx : x = 0
      · exact (kt hx).1
      · exact (kf hx).1, fun X h ρ H locs cells slots la hH hl hs he hS hc hn hla => lv_if_eq h.1 h.2.1 hd ht (fun hx => (kt hx).2 X h ρ H locs cells slots la hH hl hs.2 he hS hc hn hla) (fun hx => (kf hx).2 X h ρ H locs cells slots la hH hl hs.2 he hS hc hn hla)⟩
theorem v_if_ne  {x : Int32} {off : Int} {tgt : Nat} (hd : decode cc pc = .ok (.ifCond .ne off, 3)) (ht : (pc : Int) + off = (tgt : Int)) (kt : ¬ x = 0 → V G (own, cc, ret, fr, lo, nL, mn, hh) B tgt ls (st) M) (kf : x = 0 → V G (own, cc, ret, fr, lo, nL, mn, hh) B (pc + 3) ls (st) M) : V G (own, cc, ret, fr, lo, nL, mn, hh) B pc ls (.int x :: st) M :=
  ⟨by by_cases hx : x = 0
      · exact (kf hx).1
      · exact (kt hx).1, fun X h ρ H locs cells slots la hH hl hs he hS hc hn hla => lv_if_ne h.1 h.2.1 hd ht (fun hx => (kt hx).2 X h ρ H locs cells slots la hH hl hs.2 he hS hc hn hla) (fun hx => (kf hx).2 X h ρ H locs cells slots la hH hl hs.2 he hS hc hn hla)⟩
theorem v_if_lt  {x : Int32} {off : Int} {tgt : Nat} (hd : decode cc pc = .ok (.ifCond .lt off, 3)) (ht : (pc : Int) + off = (tgt : Int)) (kt : x < 0 → V G (own, cc, ret, fr, lo, nL, mn, hh) B tgt ls (st) M) (kf : ¬ x < 0 → V G (own, cc, ret, fr, lo, nL, mn, hh) B (pc + 3) ls (st) M) : V G (own, cc, ret, fr, lo, nL, mn, hh) B pc ls (.int x :: st) M :=
  ⟨by by_cases hx : x < 0
      · exact (kt hx).1
      · exact (kf hx).1, fun X h ρ H locs cells slots la hH hl hs he hS hc hn hla => lv_if_lt h.1 h.2.1 hd ht (fun hx => (kt hx).2 X h ρ H locs cells slots la hH hl hs.2 he hS hc hn hla) (fun hx => (kf hx).2 X h ρ H locs cells slots la hH hl hs.2 he hS hc hn hla)⟩
theorem v_if_ge  {x : Int32} {off : Int} {tgt : Nat} (hd : decode cc pc = .ok (.ifCond .ge off, 3)) (ht : (pc : Int) + off = (tgt : Int)) (kt : 0 ≤ x → V G (own, cc, ret, fr, lo, nL, mn, hh) B tgt ls (st) M) (kf : ¬ 0 ≤ x → V G (own, cc, ret, fr, lo, nL, mn, hh) B (pc + 3) ls (st) M) : V G (own, cc, ret, fr, lo, nL, mn, hh) B pc ls (.int x :: st) M :=
  ⟨by by_cases hx : 0 ≤ x
      · exact (kt hx).1
      · exact (kf hx).1, fun X h ρ H locs cells slots la hH hl hs he hS hc hn hla => lv_if_ge h.1 h.2.1 hd ht (fun hx => (kt hx).2 X h ρ H locs cells slots la hH hl hs.2 he hS hc hn hla) (fun hx => (kf hx).2 X h ρ H locs cells slots la hH hl hs.2 he hS hc hn hla)⟩
theorem v_if_gt  {x : Int32} {off : Int} {tgt : Nat} (hd : decode cc pc = .ok (.ifCond .gt off, 3)) (ht : (pc : Int) + off = (tgt : Int)) (kt : 0 < x → V G (own, cc, ret, fr, lo, nL, mn, hh) B tgt ls (st) M) (kf : ¬ 0 < x → V G (own, cc, ret, fr, lo, nL, mn, hh) B (pc + 3) ls (st) M) : V G (own, cc, ret, fr, lo, nL, mn, hh) B pc ls (.int x :: st) M :=
  ⟨by by_cases hx : 0 < x
      · exact (kt hx).1
      · exact (kf hx).1, fun X h ρ H locs cells slots la hH hl hs he hS hc hn hla => lv_if_gt h.1 h.2.1 hd ht (fun hx => (kt hx).2 X h ρ H locs cells slots la hH hl hs.2 he hS hc hn hla) (fun hx => (kf hx).2 X h ρ H locs cells slots la hH hl hs.2 he hS hc hn hla)⟩
theorem v_if_le  {x : Int32} {off : Int} {tgt : Nat} (hd : decode cc pc = .ok (.ifCond .le off, 3)) (ht : (pc : Int) + off = (tgt : Int)) (kt : x ≤ 0 → V G (own, cc, ret, fr, lo, nL, mn, hh) B tgt ls (st) M) (kf : ¬ x ≤ 0 → V G (own, cc, ret, fr, lo, nL, mn, hh) B (pc + 3) ls (st) M) : V G (own, cc, ret, fr, lo, nL, mn, hh) B pc ls (.int x :: st) M :=
  ⟨by by_cases hx : x ≤ 0
      · exact (kt hx).1
      · exact (kf hx).1, fun X h ρ H locs cells slots la hH hl hs he hS hc hn hla => lv_if_le h.1 h.2.1 hd ht (fun hx => (kt hx).2 X h ρ H locs cells slots la hH hl hs.2 he hS hc hn hla) (fun hx => (kf hx).2 X h ρ H locs cells slots la hH hl hs.2 he hS hc hn hla)⟩
theorem v_icmp_eq  {x y : Int32} {off : Int} {tgt : Nat} (hd : decode cc pc = .ok (.if_icmp .eq off, 3)) (ht : (pc : Int) + off = (tgt : Int)) (kt : x = y → V G (own, cc, ret, fr, lo, nL, mn, hh) B tgt ls (st) M) (kf : ¬ x = y → V G (own, cc, ret, fr, lo, nL, mn, hh) B (pc + 3) ls (st) M) : V G (own, cc, ret, fr, lo, nL, mn, hh) B pc ls (.int y :: .int x :: st) M :=
  ⟨by by_cases hx : x = y
      · exact (kt hx).1
      · exact (kf hx).1, fun X h ρ H locs cells slots la hH hl hs he hS hc hn hla => lv_icmp_eq h.1 h.2.1 hd ht (fun hx => (kt hx).2 X h ρ H locs cells slots la hH hl hs.2.2 he hS hc hn hla) (fun hx => (kf hx).2 X h ρ H locs cells slots la hH hl hs.2.2 he hS hc hn hla)⟩
theorem v_icmp_ne  {x y : Int32} {off : Int} {tgt : Nat} (hd : decode cc pc = .ok (.if_icmp .ne off, 3)) (ht : (pc : Int) + off = (tgt : Int)) (kt : ¬ x = y → V G (own, cc, ret, fr, lo, nL, mn, hh) B tgt ls (st) M) (kf : x = y → V G (own, cc, ret, fr, lo, nL, mn, hh) B (pc + 3) ls (st) M) : V G (own, cc, ret, fr, lo, nL, mn, hh) B pc ls (.int y :: .int x :: st) M :=
  ⟨by by_cases hx : x = y
      · exact (kf hx).1
      · exact (kt hx).1, fun X h ρ H locs cells slots la hH hl hs he hS hc hn hla => lv_icmp_ne h.1 h.2.1 hd ht (fun hx => (kt hx).2 X h ρ H locs cells slots la hH hl hs.2.2 he hS hc hn hla) (fun hx => (kf hx).2 X h ρ H locs cells slots la hH hl hs.2.2 he hS hc hn hla)⟩
theorem v_icmp_lt  {x y : Int32} {off : Int} {tgt : Nat} (hd : decode cc pc = .ok (.if_icmp .lt off, 3)) (ht : (pc : Int) + off = (tgt : Int)) (kt : x < y → V G (own, cc, ret, fr, lo, nL, mn, hh) B tgt ls (st) M) (kf : ¬ x < y → V G (own, cc, ret, fr, lo, nL, mn, hh) B (pc + 3) ls (st) M) : V G (own, cc, ret, fr, lo, nL, mn, hh) B pc ls (.int y :: .int x :: st) M :=
  ⟨by by_cases hx : x < y
      · exact (kt hx).1
      · exact (kf hx).1, fun X h ρ H locs cells slots la hH hl hs he hS hc hn hla => lv_icmp_lt h.1 h.2.1 hd ht (fun hx => (kt hx).2 X h ρ H locs cells slots la hH hl hs.2.2 he hS hc hn hla) (fun hx => (kf hx).2 X h ρ H locs cells slots la hH hl hs.2.2 he hS hc hn hla)⟩
theorem v_icmp_ge  {x y : Int32} {off : Int} {tgt : Nat} (hd : decode cc pc = .ok (.if_icmp .ge off, 3)) (ht : (pc : Int) + off = (tgt : Int)) (kt : y ≤ x → V G (own, cc, ret, fr, lo, nL, mn, hh) B tgt ls (st) M) (kf : ¬ y ≤ x → V G (own, cc, ret, fr, lo, nL, mn, hh) B (pc + 3) ls (st) M) : V G (own, cc, ret, fr, lo, nL, mn, hh) B pc ls (.int y :: .int x :: st) M :=
  ⟨by by_cases hx : y ≤ x
      · exact (kt hx).1
      · exact (kf hx).1, fun X h ρ H locs cells slots la hH hl hs he hS hc hn hla => lv_icmp_ge h.1 h.2.1 hd ht (fun hx => (kt hx).2 X h ρ H locs cells slots la hH hl hs.2.2 he hS hc hn hla) (fun hx => (kf hx).2 X h ρ H locs cells slots la hH hl hs.2.2 he hS hc hn hla)⟩
theorem v_icmp_gt  {x y : Int32} {off : Int} {tgt : Nat} (hd : decode cc pc = .ok (.if_icmp .gt off, 3)) (ht : (pc : Int) + off = (tgt : Int)) (kt : y < x → V G (own, cc, ret, fr, lo, nL, mn, hh) B tgt ls (st) M) (kf : ¬ y < x → V G (own, cc, ret, fr, lo, nL, mn, hh) B (pc + 3) ls (st) M) : V G (own, cc, ret, fr, lo, nL, mn, hh) B pc ls (.int y :: .int x :: st) M :=
  ⟨by by_cases hx : y < x
      · exact (kt hx).1
      · exact (kf hx).1, fun X h ρ H locs cells slots la hH hl hs he hS hc hn hla => lv_icmp_gt h.1 h.2.1 hd ht (fun hx => (kt hx).2 X h ρ H locs cells slots la hH hl hs.2.2 he hS hc hn hla) (fun hx => (kf hx).2 X h ρ H locs cells slots la hH hl hs.2.2 he hS hc hn hla)⟩
theorem v_icmp_le  {x y : Int32} {off : Int} {tgt : Nat} (hd : decode cc pc = .ok (.if_icmp .le off, 3)) (ht : (pc : Int) + off = (tgt : Int)) (kt : x ≤ y → V G (own, cc, ret, fr, lo, nL, mn, hh) B tgt ls (st) M) (kf : ¬ x ≤ y → V G (own, cc, ret, fr, lo, nL, mn, hh) B (pc + 3) ls (st) M) : V G (own, cc, ret, fr, lo, nL, mn, hh) B pc ls (.int y :: .int x :: st) M :=
  ⟨by by_cases hx : x ≤ y
      · exact (kt hx).1
      · exact (kf hx).1, fun X h ρ H locs cells slots la hH hl hs he hS hc hn hla => lv_icmp_le h.1 h.2.1 hd ht (fun hx => (kt hx).2 X h ρ H locs cells slots la hH hl hs.2.2 he hS hc hn hla) (fun hx => (kf hx).2 X h ρ H locs cells slots la hH hl hs.2.2 he hS hc hn hla)⟩
theorem v_goto  {off : Int} {tgt : Nat} (hd : decode cc pc = .ok (.goto off, 3)) (ht : (pc : Int) + off = (tgt : Int)) (k : V G (own, cc, ret, fr, lo, nL, mn, hh) B tgt ls (st) M) : V G (own, cc, ret, fr, lo, nL, mn, hh) B pc ls (st) M :=
  ⟨k.1, fun X h ρ H locs cells slots la hH hl hs he hS hc hn hla => lv_goto h.1 h.2.1 hd ht (k.2 X h ρ H locs cells slots la hH hl hs he hS hc hn hla)⟩
theorem v_tableOut  {dflt lo' hi : Int} {offs : Array Int} {len tgt : Nat} {x : Int32} (hd : decode cc pc = .ok (.tableswitch dflt lo' hi offs, len)) (hx : x.toInt < lo' ∨ hi < x.toInt) (ht : (pc : Int) + dflt = (tgt : Int)) (k : V G (own, cc, ret, fr, lo, nL, mn, hh) B tgt ls (st) M) : V G (own, cc, ret, fr, lo, nL, mn, hh) B pc ls (.int x :: st) M :=
  ⟨k.1, fun X h ρ H locs cells slots la hH hl hs he hS hc hn hla => lv_tableOut h.1 h.2.1 hd hx ht (k.2 X h ρ H locs cells slots la hH hl hs.2 he hS hc hn hla)⟩
theorem v_tableIn  {dflt lo' hi off : Int} {offs : Array Int} {len tgt : Nat} {x : Int32} (hd : decode cc pc = .ok (.tableswitch dflt lo' hi offs, len)) (h1 : ¬ x.toInt < lo') (h2 : ¬ hi < x.toInt) (ho : offs[(x.toInt - lo').toNat]? = some off) (ht : (pc : Int) + off = (tgt : Int)) (k : V G (own, cc, ret, fr, lo, nL, mn, hh) B tgt ls (st) M) : V G (own, cc, ret, fr, lo, nL, mn, hh) B pc ls (.int x :: st) M :=
  ⟨k.1, fun X h ρ H locs cells slots la hH hl hs he hS hc hn hla => lv_tableIn h.1 h.2.1 hd h1 h2 ho ht (k.2 X h ρ H locs cells slots la hH hl hs.2 he hS hc hn hla)⟩
theorem v_ldc2  {index : Nat} {v : Int64} (hw : Cond.constantLong own index v ∈ GW) (hd : decode cc pc = .ok (.ldc2_w index, 3)) (k : V G (own, cc, ret, fr, lo, nL, mn, hh) B (pc + 3) ls (.long v :: st) M) : V G (own, cc, ret, fr, lo, nL, mn, hh) B pc ls (st) M :=
  ⟨k.1, fun X h ρ H locs cells slots la hH hl hs he hS hc hn hla => lv_ldc2 h.1 h.2.1 h.2.2.1 (h.2.2.2.1 _ hw) hd (k.2 X h ρ H locs cells slots la hH hl ⟨trivial, hs⟩ he hS hc hn hla)⟩
theorem lv_ldcfw {p : Program} {l : Launch} {e : Env} {R : Room} {s : State} {m : MethodId} {args : Array Value} {below : List Frame} {meth : Method} {c : Code} {H : Heap} {locs : List Loc} {cells slots : Nat} {Q : State → Prop} {pc : Nat} {la : Array Slot} {rest : List Value} (hexec : p.tables.exec = Jvm.exec) (hb : c.code = cc) {own : String} {index : Nat} {v : UInt32} (hown : s.vm.findClass own = some m.cls) (hconst : (Jvm.Cond.constantFloat own index v).before args s = true) (hdg : decode cc pc = .ok (.ldc_w index, 3)) (k : W p l e R s m args below meth c H locs cells slots Q (F0 m (pc + 3) la (.float v :: rest))) : W p l e R s m args below meth c H locs cells slots Q (F0 m pc la rest) := by
  intro T hT X
  obtain ⟨t, a, b⟩ := k T hT X
  obtain ⟨k0, cf, hk, hcf, hcp⟩ := Cond.constantFloat_spec hown hconst
  obtain ⟨k', hk', he⟩ := X.warmed.alike.2.2 _ _ hk
  refine ⟨t, ?_, b⟩
  jvm_step X.here [hexec, hb, hdg, ldc_w.wp_float (s := T) (f := F0 m pc la rest) X.here.top hk' (by rw [he]; exact hcf) hcp]
  exact a
theorem v_ldcf  {index : Nat} {v : UInt32} (hw : Cond.constantFloat own index v ∈ GW) (hd : decode cc pc = .ok (.ldc_w index, 3)) (k : V G (own, cc, ret, fr, lo, nL, mn, hh) B (pc + 3) ls (.float v :: st) M) : V G (own, cc, ret, fr, lo, nL, mn, hh) B pc ls (st) M :=
  ⟨k.1, fun X h ρ H locs cells slots la hH hl hs he hS hc hn hla => lv_ldcfw h.1 h.2.1 h.2.2.1 (h.2.2.2.1 _ hw) hd (k.2 X h ρ H locs cells slots la hH hl ⟨trivial, hs⟩ he hS hc hn hla)⟩
theorem v_ireturn {ρ0 : Nat → Nat} {M0 : Mem} {x : Int32} (hd : decode cc pc = .ok (.ireturn, 1)) : V G (own, cc, (some .int), fr, lo, nL, mn, hh) (ρ0, M0, Sum.inl (some (.int x)), M) pc ls (.int x :: []) M := by
  refine ⟨⟨Nat.le_refl _, Nat.le_refl _⟩, fun X h ρ H locs cells slots la hH hl hs he hS hc hn hla => ?_⟩
  obtain ⟨hx, hb, hown, hts, hK, hlk, htr, hQ, hR, hr, -⟩ := h
  rw [hQ]
  refine W.widen (k := mC M - mC M0) (n := mS M - mS M0) (Nat.le_sub_of_add_le hc) (Nat.le_sub_of_add_le hn) (vx_ret (W.iret hx hb hr (fun t ht hW => ⟨⟨some (.int x), ρ, rfl, rfl, trivial, he, by rw [ht]; exact hH⟩, by rw [ht]; exact hS.1, fun q hq hA => by rw [ht]; exact hS.2.1 q hq hA⟩) hS.2.2 hd hlk))
theorem v_zreturn {ρ0 : Nat → Nat} {M0 : Mem} {x : Int32} (hd : decode cc pc = .ok (.ireturn, 1)) (hz : x = 0 ∨ x = 1) : V G (own, cc, (some .boolean), fr, lo, nL, mn, hh) (ρ0, M0, Sum.inl (some (.int x)), M) pc ls (.int x :: []) M := by
  refine ⟨⟨Nat.le_refl _, Nat.le_refl _⟩, fun X h ρ H locs cells slots la hH hl hs he hS hc hn hla => ?_⟩
  obtain ⟨hx, hb, hown, hts, hK, hlk, htr, hQ, hR, hr, -⟩ := h
  rw [hQ]
  refine W.widen (k := mC M - mC M0) (n := mS M - mS M0) (Nat.le_sub_of_add_le hc) (Nat.le_sub_of_add_le hn) (vx_ret (W.zret hx hb hr (by rcases hz with rfl | rfl <;> decide) (fun t ht hW => ⟨⟨some (.int x), ρ, rfl, rfl, trivial, he, by rw [ht]; exact hH⟩, by rw [ht]; exact hS.1, fun q hq hA => by rw [ht]; exact hS.2.1 q hq hA⟩) hS.2.2 hd hlk))
theorem v_lreturn {ρ0 : Nat → Nat} {M0 : Mem} {x : Int64} (hd : decode cc pc = .ok (.lreturn, 1)) : V G (own, cc, (some .long), fr, lo, nL, mn, hh) (ρ0, M0, Sum.inl (some (.long x)), M) pc ls (.long x :: []) M := by
  refine ⟨⟨Nat.le_refl _, Nat.le_refl _⟩, fun X h ρ H locs cells slots la hH hl hs he hS hc hn hla => ?_⟩
  obtain ⟨hx, hb, hown, hts, hK, hlk, htr, hQ, hR, hr, -⟩ := h
  rw [hQ]
  refine W.widen (k := mC M - mC M0) (n := mS M - mS M0) (Nat.le_sub_of_add_le hc) (Nat.le_sub_of_add_le hn) (vx_ret (W.lret hx hb hr (fun t ht hW => ⟨⟨some (.long x), ρ, rfl, rfl, trivial, he, by rw [ht]; exact hH⟩, by rw [ht]; exact hS.1, fun q hq hA => by rw [ht]; exact hS.2.1 q hq hA⟩) hS.2.2 hd hlk))
theorem v_vreturn {ρ0 : Nat → Nat} {M0 : Mem} (hd : decode cc pc = .ok (.return_, 1)) : V G (own, cc, none, fr, lo, nL, mn, hh) (ρ0, M0, Sum.inl none, M) pc ls ([]) M := by
  refine ⟨⟨Nat.le_refl _, Nat.le_refl _⟩, fun X h ρ H locs cells slots la hH hl hs he hS hc hn hla => ?_⟩
  obtain ⟨hx, hb, hown, hts, hK, hlk, htr, hQ, hR, hr, -⟩ := h
  rw [hQ]
  refine W.widen (k := mC M - mC M0) (n := mS M - mS M0) (Nat.le_sub_of_add_le hc) (Nat.le_sub_of_add_le hn) (vx_ret (W.vret hx hb hr (fun t ht hW => ⟨⟨none, ρ, rfl, rfl, trivial, he, by rw [ht]; exact hH⟩, by rw [ht]; exact hS.1, fun q hq hA => by rw [ht]; exact hS.2.1 q hq hA⟩) hS.2.2 hd hlk))
theorem v_areturn {ρ0 : Nat → Nat} {M0 : Mem} {x : Nat} {cn : String} (hd : decode cc pc = .ok (.areturn, 1)) : V G (own, cc, (some (.object cn)), fr, lo, nL, mn, hh) (ρ0, M0, Sum.inl (some (.ref x)), M) pc ls (.ref x :: []) M := by
  refine ⟨⟨Nat.le_refl _, Nat.le_refl _⟩, fun X h ρ H locs cells slots la hH hl hs he hS hc hn hla => ?_⟩
  obtain ⟨hx, hb, hown, hts, hK, hlk, htr, hQ, hR, hr, -⟩ := h
  rw [hQ]
  refine W.widen (k := mC M - mC M0) (n := mS M - mS M0) (Nat.le_sub_of_add_le hc) (Nat.le_sub_of_add_le hn) (vx_ret (W.aret hx hb hr (Or.inl ⟨cn, rfl⟩) (Or.inr ⟨_, rfl⟩) (fun t ht hW => ⟨⟨some (.ref x), ρ, rfl, rfl, hs.1, he, by rw [ht]; exact hH⟩, by rw [ht]; exact hS.1, fun q hq hA => by rw [ht]; exact hS.2.1 q hq hA⟩) hS.2.2 hd hlk))
theorem v_sub  (ks : List Nat) {ls' : List (Nat × Value)} (hq : lv_pick ls ks = ls') (k : V G (own, cc, ret, fr, lo, nL, mn, hh) B pc ls' st M) : V G (own, cc, ret, fr, lo, nL, mn, hh) B pc ls (st) M :=
  ⟨k.1, fun X h ρ H locs cells slots la hH hl hs he hS hc hn hla => (k.2 X h ρ H locs cells slots la hH (by rw [← hq]; exact lok_pick hl ks) hs he hS hc hn (lv_sub hla ks (by rw [ml_pick, hq])))⟩
end
