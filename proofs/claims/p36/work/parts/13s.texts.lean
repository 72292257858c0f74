/-! TEXTS: String constants of the law, the two rows of them, length() and charAt() -/
def RJ0 : String := "java/lang/String"
abbrev cJ0_length_8abf5 : ByteArray := prog_21_method_54_code
def yJ0_length_8abf5 : MethodName := ⟨RJ0, "length", "()I"⟩
abbrev cJ0_charAt_5068e : ByteArray := prog_21_method_56_code
def yJ0_charAt_5068e : MethodName := ⟨RJ0, "charAt", "(I)C"⟩
abbrev cJ0_coder_7d493 : ByteArray := prog_21_method_152_code
def yJ0_coder_7d493 : MethodName := ⟨RJ0, "coder", "()B"⟩
abbrev cJ0_isLatin1_aae02 : ByteArray := prog_21_method_154_code
def yJ0_isLatin1_aae02 : MethodName := ⟨RJ0, "isLatin1", "()Z"⟩
abbrev cJ0_checkIndex_df160 : ByteArray := prog_21_method_155_code
def yJ0_checkIndex_df160 : MethodName := ⟨RJ0, "checkIndex", "(II)V"⟩
def RJ1 : String := "java/lang/StringLatin1"
abbrev cJ1_charAt_3b067 : ByteArray := prog_22_method_2_code
def yJ1_charAt_3b067 : MethodName := ⟨RJ1, "charAt", "([BI)C"⟩
def RJ3 : String := "jdk/internal/util/Preconditions"
abbrev cJ3_checkIndex_8e157 : ByteArray := prog_25_method_11_code
def yJ3_checkIndex_8e157 : MethodName := ⟨RJ3, "checkIndex", "(IILjava/util/function/BiFunction;)I"⟩
theorem dJ0_length_8abf5_0 : decode cJ0_length_8abf5 0 = .ok (.aload_n 0, 1) := by decide +kernel
theorem dJ0_length_8abf5_1 : decode cJ0_length_8abf5 1 = .ok (.getfield 9, 3) := by decide +kernel
theorem dJ0_length_8abf5_4 : decode cJ0_length_8abf5 4 = .ok (.arraylength, 1) := by decide +kernel
theorem dJ0_length_8abf5_5 : decode cJ0_length_8abf5 5 = .ok (.aload_n 0, 1) := by decide +kernel
theorem dJ0_length_8abf5_6 : decode cJ0_length_8abf5 6 = .ok (.invokevirtual 335, 3) := by decide +kernel
theorem dJ0_length_8abf5_9 : decode cJ0_length_8abf5 9 = .ok (.ishr, 1) := by decide +kernel
theorem dJ0_length_8abf5_10 : decode cJ0_length_8abf5 10 = .ok (.ireturn, 1) := by decide +kernel
theorem dJ0_charAt_5068e_0 : decode cJ0_charAt_5068e 0 = .ok (.aload_n 0, 1) := by decide +kernel
theorem dJ0_charAt_5068e_1 : decode cJ0_charAt_5068e 1 = .ok (.invokevirtual 492, 3) := by decide +kernel
theorem dJ0_charAt_5068e_4 : decode cJ0_charAt_5068e 4 = .ok (.ifCond .eq 12, 3) := by decide +kernel
theorem dJ0_charAt_5068e_7 : decode cJ0_charAt_5068e 7 = .ok (.aload_n 0, 1) := by decide +kernel
theorem dJ0_charAt_5068e_8 : decode cJ0_charAt_5068e 8 = .ok (.getfield 9, 3) := by decide +kernel
theorem dJ0_charAt_5068e_11 : decode cJ0_charAt_5068e 11 = .ok (.iload_n 1, 1) := by decide +kernel
theorem dJ0_charAt_5068e_12 : decode cJ0_charAt_5068e 12 = .ok (.invokestatic 495, 3) := by decide +kernel
theorem dJ0_charAt_5068e_15 : decode cJ0_charAt_5068e 15 = .ok (.ireturn, 1) := by decide +kernel
theorem dJ0_charAt_5068e_16 : decode cJ0_charAt_5068e 16 = .ok (.aload_n 0, 1) := by decide +kernel
theorem dJ0_charAt_5068e_17 : decode cJ0_charAt_5068e 17 = .ok (.getfield 9, 3) := by decide +kernel
theorem dJ0_charAt_5068e_20 : decode cJ0_charAt_5068e 20 = .ok (.iload_n 1, 1) := by decide +kernel
theorem dJ0_charAt_5068e_21 : decode cJ0_charAt_5068e 21 = .ok (.invokestatic 498, 3) := by decide +kernel
theorem dJ0_charAt_5068e_24 : decode cJ0_charAt_5068e 24 = .ok (.ireturn, 1) := by decide +kernel
theorem dJ0_coder_7d493_0 : decode cJ0_coder_7d493 0 = .ok (.getstatic 38, 3) := by decide +kernel
theorem dJ0_coder_7d493_3 : decode cJ0_coder_7d493 3 = .ok (.ifCond .eq 10, 3) := by decide +kernel
theorem dJ0_coder_7d493_6 : decode cJ0_coder_7d493 6 = .ok (.aload_n 0, 1) := by decide +kernel
theorem dJ0_coder_7d493_7 : decode cJ0_coder_7d493 7 = .ok (.getfield 15, 3) := by decide +kernel
theorem dJ0_coder_7d493_10 : decode cJ0_coder_7d493 10 = .ok (.goto 4, 3) := by decide +kernel
theorem dJ0_coder_7d493_13 : decode cJ0_coder_7d493 13 = .ok (.iconst 1, 1) := by decide +kernel
theorem dJ0_coder_7d493_14 : decode cJ0_coder_7d493 14 = .ok (.ireturn, 1) := by decide +kernel
theorem dJ0_isLatin1_aae02_0 : decode cJ0_isLatin1_aae02 0 = .ok (.getstatic 38, 3) := by decide +kernel
theorem dJ0_isLatin1_aae02_3 : decode cJ0_isLatin1_aae02 3 = .ok (.ifCond .eq 14, 3) := by decide +kernel
theorem dJ0_isLatin1_aae02_6 : decode cJ0_isLatin1_aae02 6 = .ok (.aload_n 0, 1) := by decide +kernel
theorem dJ0_isLatin1_aae02_7 : decode cJ0_isLatin1_aae02 7 = .ok (.getfield 15, 3) := by decide +kernel
theorem dJ0_isLatin1_aae02_10 : decode cJ0_isLatin1_aae02 10 = .ok (.ifCond .ne 7, 3) := by decide +kernel
theorem dJ0_isLatin1_aae02_13 : decode cJ0_isLatin1_aae02 13 = .ok (.iconst 1, 1) := by decide +kernel
theorem dJ0_isLatin1_aae02_14 : decode cJ0_isLatin1_aae02 14 = .ok (.goto 4, 3) := by decide +kernel
theorem dJ0_isLatin1_aae02_17 : decode cJ0_isLatin1_aae02 17 = .ok (.iconst 0, 1) := by decide +kernel
theorem dJ0_isLatin1_aae02_18 : decode cJ0_isLatin1_aae02 18 = .ok (.ireturn, 1) := by decide +kernel
theorem dJ0_checkIndex_df160_0 : decode cJ0_checkIndex_df160 0 = .ok (.iload_n 0, 1) := by decide +kernel
theorem dJ0_checkIndex_df160_1 : decode cJ0_checkIndex_df160 1 = .ok (.iload_n 1, 1) := by decide +kernel
theorem dJ0_checkIndex_df160_2 : decode cJ0_checkIndex_df160 2 = .ok (.getstatic 1053, 3) := by decide +kernel
theorem dJ0_checkIndex_df160_5 : decode cJ0_checkIndex_df160 5 = .ok (.invokestatic 1059, 3) := by decide +kernel
theorem dJ0_checkIndex_df160_8 : decode cJ0_checkIndex_df160 8 = .ok (.pop, 1) := by decide +kernel
theorem dJ0_checkIndex_df160_9 : decode cJ0_checkIndex_df160 9 = .ok (.return_, 1) := by decide +kernel
theorem dJ1_charAt_3b067_0 : decode cJ1_charAt_3b067 0 = .ok (.iload_n 1, 1) := by decide +kernel
theorem dJ1_charAt_3b067_1 : decode cJ1_charAt_3b067 1 = .ok (.aload_n 0, 1) := by decide +kernel
theorem dJ1_charAt_3b067_2 : decode cJ1_charAt_3b067 2 = .ok (.arraylength, 1) := by decide +kernel
theorem dJ1_charAt_3b067_3 : decode cJ1_charAt_3b067 3 = .ok (.invokestatic 9, 3) := by decide +kernel
theorem dJ1_charAt_3b067_6 : decode cJ1_charAt_3b067 6 = .ok (.aload_n 0, 1) := by decide +kernel
theorem dJ1_charAt_3b067_7 : decode cJ1_charAt_3b067 7 = .ok (.iload_n 1, 1) := by decide +kernel
theorem dJ1_charAt_3b067_8 : decode cJ1_charAt_3b067 8 = .ok (.baload, 1) := by decide +kernel
theorem dJ1_charAt_3b067_9 : decode cJ1_charAt_3b067 9 = .ok (.sipush 255, 3) := by decide +kernel
theorem dJ1_charAt_3b067_12 : decode cJ1_charAt_3b067 12 = .ok (.iand, 1) := by decide +kernel
theorem dJ1_charAt_3b067_13 : decode cJ1_charAt_3b067 13 = .ok (.i2c, 1) := by decide +kernel
theorem dJ1_charAt_3b067_14 : decode cJ1_charAt_3b067 14 = .ok (.ireturn, 1) := by decide +kernel
theorem dJ3_checkIndex_8e157_0 : decode cJ3_checkIndex_8e157 0 = .ok (.iload_n 0, 1) := by decide +kernel
theorem dJ3_checkIndex_8e157_1 : decode cJ3_checkIndex_8e157 1 = .ok (.ifCond .lt 8, 3) := by decide +kernel
theorem dJ3_checkIndex_8e157_4 : decode cJ3_checkIndex_8e157 4 = .ok (.iload_n 0, 1) := by decide +kernel
theorem dJ3_checkIndex_8e157_5 : decode cJ3_checkIndex_8e157 5 = .ok (.iload_n 1, 1) := by decide +kernel
theorem dJ3_checkIndex_8e157_6 : decode cJ3_checkIndex_8e157 6 = .ok (.if_icmp .lt 10, 3) := by decide +kernel
theorem dJ3_checkIndex_8e157_9 : decode cJ3_checkIndex_8e157 9 = .ok (.aload_n 2, 1) := by decide +kernel
theorem dJ3_checkIndex_8e157_10 : decode cJ3_checkIndex_8e157 10 = .ok (.iload_n 0, 1) := by decide +kernel
theorem dJ3_checkIndex_8e157_11 : decode cJ3_checkIndex_8e157 11 = .ok (.iload_n 1, 1) := by decide +kernel
theorem dJ3_checkIndex_8e157_12 : decode cJ3_checkIndex_8e157 12 = .ok (.invokestatic 95, 3) := by decide +kernel
theorem dJ3_checkIndex_8e157_15 : decode cJ3_checkIndex_8e157 15 = .ok (.athrow, 1) := by decide +kernel
theorem dJ3_checkIndex_8e157_16 : decode cJ3_checkIndex_8e157 16 = .ok (.iload_n 0, 1) := by decide +kernel
theorem dJ3_checkIndex_8e157_17 : decode cJ3_checkIndex_8e157 17 = .ok (.ireturn, 1) := by decide +kernel
def sLen (a : Nat) : Option Int32 := if SCR + 16 ≤ a ∧ a < SCR + 43 then some (Int32.ofNat (leJS.getD (a - (SCR + 16)) 0)) else none
def sChr (a : Nat) (k : Int32) : Option Int32 := if SCR + 16 ≤ a ∧ a < SCR + 43 then (ix k (leJS.getD (a - (SCR + 16)) 0)).map (fun j => (byJS.getD (a - (SCR + 16)) []).getD j 0) else none
def sFl (w : Nat) (i : Int32) : Option Nat := (ix i 16).map (fun j => SCR + 16 + (flJS.getD w []).getD j 0)
def ishlE (x y : Int32) : Int32 := x <<< (y &&& 31)
def iremO (x y : Int32) : Option Int32 := if y = 0 then none else some (iremE x y)
def okZX (x : Int32) (M : Mem) : Option ((Int32 ⊕ Nat) × Mem) := if x = 0 ∨ x = 1 then some (.inl x, M) else none
theorem okZX_some {x : Int32} {r : Int32 ⊕ Nat} {M MF : Mem} (h : okZX x M = some (r, MF)) : (x = 0 ∨ x = 1) ∧ .inl x = r ∧ M = MF := by
  unfold okZX at h
  by_cases hc : x = 0 ∨ x = 1
  · rw [if_pos hc] at h
    cases h
    exact ⟨hc, rfl, rfl⟩
  · rw [if_neg hc] at h; cases h
theorem gd_mem {l : List Int32} {n : Nat} (h : n < l.length) : l.getD n 0 ∈ l := by
  rw [List.getD_eq_getElem?_getD, List.getElem?_eq_getElem h]; exact List.getElem_mem h
theorem KN.str {G : Gl} {ρ : Nat → Nat} {U : State} (h : KN G ρ U) : KStr G ρ U := h.2.2.2.2.2.2.2.2.2.2
section
variable {G : Gl} {B : Bx} {own : String} {cc : ByteArray} {ret : Option FieldType} {fr lo nL : Nat} {mn : String} {hh : List (Nat × Nat × Nat × Nat)} {pc : Nat} {ls : List (Nat × Value)} {st st0 : List Value} {M M1 M' : Mem}
variable {y : MethodName} {cy : ByteArray} {nY fy ly n b index : Nat} {rety : Option FieldType} {As : List Value}
theorem v_ldci {v : Int32} (hw : Cond.constant own index v ∈ GW) (hd : decode cc pc = .ok (.ldc index, 2)) (k : V G (own, cc, ret, fr, lo, nL, mn, hh) B (pc + 2) ls (.int v :: st) M) : V G (own, cc, ret, fr, lo, nL, mn, hh) B pc ls st M :=
  ⟨k.1, fun X h ρ H locs cells slots la hH hl hs he hS hc hn hla => lv_ldc h.1 h.2.1 h.2.2.1 (h.2.2.2.1 _ hw) hd (k.2 X h ρ H locs cells slots la hH hl ⟨trivial, hs⟩ he hS hc hn hla)⟩
theorem v_ior {x y : Int32} (hd : decode cc pc = .ok (.ior, 1)) (k : V G (own, cc, ret, fr, lo, nL, mn, hh) B (pc + 1) ls (.int (x ||| y) :: st) M) : V G (own, cc, ret, fr, lo, nL, mn, hh) B pc ls (.int y :: .int x :: st) M :=
  ⟨k.1, fun X h ρ H locs cells slots la hH hl hs he hS hc hn hla => lv_ior h.1 h.2.1 hd (k.2 X h ρ H locs cells slots la hH hl ⟨trivial, hs.2.2⟩ he hS hc hn hla)⟩
theorem v_ishl {x y : Int32} (hd : decode cc pc = .ok (.ishl, 1)) (k : V G (own, cc, ret, fr, lo, nL, mn, hh) B (pc + 1) ls (.int (ishlE x y) :: st) M) : V G (own, cc, ret, fr, lo, nL, mn, hh) B pc ls (.int y :: .int x :: st) M :=
  ⟨k.1, fun X h ρ H locs cells slots la hH hl hs he hS hc hn hla => lv_ishl h.1 h.2.1 hd (k.2 X h ρ H locs cells slots la hH hl ⟨trivial, hs.2.2⟩ he hS hc hn hla)⟩
theorem v_ishr {x y : Int32} (hd : decode cc pc = .ok (.ishr, 1)) (k : V G (own, cc, ret, fr, lo, nL, mn, hh) B (pc + 1) ls (.int (x >>> (y &&& 31)) :: st) M) : V G (own, cc, ret, fr, lo, nL, mn, hh) B pc ls (.int y :: .int x :: st) M :=
  ⟨k.1, fun X h ρ H locs cells slots la hH hl hs he hS hc hn hla => lv_ishr h.1 h.2.1 hd (k.2 X h ρ H locs cells slots la hH hl ⟨trivial, hs.2.2⟩ he hS hc hn hla)⟩
theorem v_iremO {x y z : Int32} (hd : decode cc pc = .ok (.irem, 1)) (e : iremO x y = some z) (k : V G (own, cc, ret, fr, lo, nL, mn, hh) B (pc + 1) ls (.int z :: st) M) : V G (own, cc, ret, fr, lo, nL, mn, hh) B pc ls (.int y :: .int x :: st) M := by
  unfold iremO at e
  by_cases hy : y = 0
  · rw [if_pos hy] at e; cases e
  · rw [if_neg hy] at e
    cases e
    exact v_irem hd hy k
theorem v_ldcS {i : Nat} (hi : i < 27) (hp : poJS.getD i 0 = index) (ho : own = "GradedTopicBrokerLaw") (hd : decode cc pc = .ok (.ldc index, 2)) (k : V G (own, cc, ret, fr, lo, nL, mn, hh) B (pc + 2) ls (.ref (SCR + 16 + i) :: st) M) : V G (own, cc, ret, fr, lo, nL, mn, hh) B pc ls st M := by
  subst hp; subst ho
  refine ⟨k.1, fun X h ρ H locs cells slots la hH hl hs he hS hcc hn hla => ?_⟩
  have hR := h.2.2.2.2.1.str.2.2.1 i hi
  rw [← he.2 (SCR + 16 + i) (Or.inr (by omega))] at hR
  exact va_ldcS h.1 h.2.1 h.2.2.1 hR hd (k.2 X h ρ H locs cells slots la hH hl ⟨Or.inr (by omega), hs⟩ he hS hcc hn hla)
theorem v_getsS {i : Nat} (hi : i < 2) (hw : Cond.fieldLink own index "GradedTopicBrokerLaw" (flN i) "[Ljava/lang/String;" ∈ GW) (hd : decode cc pc = .ok (.getstatic index, 3)) (k : V G (own, cc, ret, fr, lo, nL, mn, hh) B (pc + 3) ls (.ref (SCR + 4 + i) :: st) M) : V G (own, cc, ret, fr, lo, nL, mn, hh) B pc ls st M := by
  refine ⟨k.1, fun X h ρ H locs cells slots la hH hl hs he hS hcc hn hla => ?_⟩
  have hZ := (h.2.2.2.2.1.str.1 i hi).1
  rw [← he.2 (SCR + 4 + i) (Or.inr (by omega))] at hZ
  exact va_gets h.1 h.2.1 hZ hS h.2.2.1 (h.2.2.2.1 _ hw) (fun _ h9 => h9) hd (k.2 X h ρ H locs cells slots la hH hl ⟨Or.inr (by omega), hs⟩ he hS hcc hn hla)
theorem v_sald {i : Int32} {w : Nat} (hi : w < 2) (hd : decode cc pc = .ok (.aaload, 1)) {x : Nat} (hx : sFl w i = some x) (k : V G (own, cc, ret, fr, lo, nL, mn, hh) B (pc + 1) ls (.ref x :: st) M) : V G (own, cc, ret, fr, lo, nL, mn, hh) B pc ls (.int i :: .ref (SCR + 4 + w) :: st) M := by
  refine ⟨k.1, fun X h ρ H locs cells slots la hH hl hs he hS hcc hn hla => ?_⟩
  obtain ⟨j, hj, rfl⟩ := Option.map_eq_some_iff.mp hx
  obtain ⟨h1, rfl⟩ := ix_spec hj
  have hT := (h.2.2.2.2.1.str.1 w hi).2
  rw [← he.2 (SCR + 4 + w) (Or.inr (by omega))] at hT
  exact vb_tq h.1 h.2.1 hT hS h1 (show Value.ref (B.1 _) = Value.ref (ρ _) by rw [he.2 _ (Or.inr (by omega))]) hd (k.2 X h ρ H locs cells slots la hH hl ⟨Or.inr (by omega), hs.2.2⟩ he hS hcc hn hla)
/-- the bytes of a text -/
theorem v_sval {i : Nat} {ref : String} (hi : i < 27) (hw : Cond.fieldLink own index "java/lang/String" "value" "[B" ∈ GW) (hd : decode cc pc = .ok (.getfield index, 3)) (k : V G (own, cc, ret, fr, lo, nL, mn, hh) B (pc + 3) ls (.ref (SCR + 64 + i) :: st) M) : V G (own, cc, ret, fr, lo, nL, mn, hh) B pc ls (.ref (SCR + 16 + i) :: st) M := by
  refine ⟨k.1, fun X h ρ H locs cells slots la hH hl hs he hS hcc hn hla => ?_⟩
  have hE := (h.2.2.2.2.1.str.2.1.1 i hi).2.2.1
  have hE : va_OF "java/lang/String" "value" "[B" (.ref (B.1 (SCR + 64 + i))) (B.1 (SCR + 16 + i)) (AO G) X.s X.s.heap := hE
  rw [← he.2 (SCR + 16 + i) (Or.inr (by omega)), ← he.2 (SCR + 64 + i) (Or.inr (by omega))] at hE
  exact vk_getf h.1 h.2.1 hE hS h.2.2.1 (h.2.2.2.1 _ hw) (fun _ h9 => h9) hd (k.2 X h ρ H locs cells slots la hH hl ⟨Or.inr (by omega), hs.2⟩ he hS hcc hn hla)
theorem v_scod {i : Nat} (hi : i < 27) (hw : Cond.fieldLink own index "java/lang/String" "coder" "B" ∈ GW) (hd : decode cc pc = .ok (.getfield index, 3)) (k : V G (own, cc, ret, fr, lo, nL, mn, hh) B (pc + 3) ls (.int 0 :: st) M) : V G (own, cc, ret, fr, lo, nL, mn, hh) B pc ls (.ref (SCR + 16 + i) :: st) M := by
  refine ⟨k.1, fun X h ρ H locs cells slots la hH hl hs he hS hcc hn hla => ?_⟩
  have hE := (h.2.2.2.2.1.str.2.1.1 i hi).2.1
  have hE : va_OF "java/lang/String" "coder" "B" (.int 0) (B.1 (SCR + 16 + i)) (AO G) X.s X.s.heap := hE
  rw [← he.2 (SCR + 16 + i) (Or.inr (by omega))] at hE
  exact vk_getf h.1 h.2.1 hE hS h.2.2.1 (h.2.2.2.1 _ hw) (fun _ h9 => h9) hd (k.2 X h ρ H locs cells slots la hH hl ⟨trivial, hs.2⟩ he hS hcc hn hla)
theorem v_sbl {i : Nat} (hi : i < 27) (hd : decode cc pc = .ok (.arraylength, 1)) (k : V G (own, cc, ret, fr, lo, nL, mn, hh) B (pc + 1) ls (.int (Int32.ofNat (leJS.getD i 0)) :: st) M) : V G (own, cc, ret, fr, lo, nL, mn, hh) B pc ls (.ref (SCR + 64 + i) :: st) M := by
  refine ⟨k.1, fun X h ρ H locs cells slots la hH hl hs he hS hcc hn hla => ?_⟩
  have hT := (h.2.2.2.2.1.str.2.1.1 i hi).2.2.2
  have hT : va_T .byte (B.1 (SCR + 64 + i)) (leJS.getD i 0) (fun j => .int ((byJS.getD i []).getD j 0)) (AO G) X.s X.s.heap := hT
  rw [← he.2 (SCR + 64 + i) (Or.inr (by omega))] at hT
  exact va_tlen h.1 h.2.1 hT hS rfl hd (k.2 X h ρ H locs cells slots la hH hl ⟨trivial, hs.2⟩ he hS hcc hn hla)
theorem v_sba {i : Nat} {k9 : Int32} {j : Nat} (hi : i < 27) (hj : ix k9 (leJS.getD i 0) = some j) (hd : decode cc pc = .ok (.baload, 1)) (k : V G (own, cc, ret, fr, lo, nL, mn, hh) B (pc + 1) ls (.int ((byJS.getD i []).getD j 0) :: st) M) : V G (own, cc, ret, fr, lo, nL, mn, hh) B pc ls (.int k9 :: .ref (SCR + 64 + i) :: st) M := by
  refine ⟨k.1, fun X h ρ H locs cells slots la hH hl hs he hS hcc hn hla => ?_⟩
  obtain ⟨h1, rfl⟩ := ix_spec hj
  have hT := (h.2.2.2.2.1.str.2.1.1 i hi).2.2.2
  have hT : va_T .byte (B.1 (SCR + 64 + i)) (leJS.getD i 0) (fun j => .int ((byJS.getD i []).getD j 0)) (AO G) X.s X.s.heap := hT
  rw [← he.2 (SCR + 64 + i) (Or.inr (by omega))] at hT
  exact va_tb h.1 h.2.1 hT hS h1 rfl hd (k.2 X h ρ H locs cells slots la hH hl ⟨trivial, hs.2.2⟩ he hS hcc hn hla)
theorem v_cmps (hw : Cond.fieldLink own index "java/lang/String" "COMPACT_STRINGS" "Z" ∈ GW) (hd : decode cc pc = .ok (.getstatic index, 3)) (k : V G (own, cc, ret, fr, lo, nL, mn, hh) B (pc + 3) ls (.int 1 :: st) M) : V G (own, cc, ret, fr, lo, nL, mn, hh) B pc ls st M := by
  refine ⟨k.1, fun X h ρ H locs cells slots la hH hl hs he hS hcc hn hla => ?_⟩
  exact va_gets h.1 h.2.1 h.2.2.2.2.1.str.2.2.2.1 hS h.2.2.1 (h.2.2.2.1 _ hw) (fun _ h9 => h9) hd (k.2 X h ρ H locs cells slots la hH hl ⟨trivial, hs⟩ he hS hcc hn hla)
theorem v_fmt (hw : Cond.fieldLink own index qfC qfN qfD ∈ GW) (hd : decode cc pc = .ok (.getstatic index, 3)) (k : ∀ w : Value, w.category = 1 → V G (own, cc, ret, fr, lo, nL, mn, hh) B (pc + 3) ls (w :: st) M) : V G (own, cc, ret, fr, lo, nL, mn, hh) B pc ls st M := by
  refine ⟨(k .null rfl).1, fun X h ρ H locs cells slots la hH hl hs he hS hcc hn hla => ?_⟩
  rcases h.2.2.2.2.1.str.2.2.2.2 with hZ | hZ
  · exact va_gets h.1 h.2.1 hZ hS h.2.2.1 (h.2.2.2.1 _ hw) (fun _ h9 => h9) hd ((k .null rfl).2 X h ρ H locs cells slots la hH hl ⟨trivial, hs⟩ he hS hcc hn hla)
  · rw [← he.2 (SCR + 6) (Or.inr (by omega))] at hZ
    exact va_gets h.1 h.2.1 hZ hS h.2.2.1 (h.2.2.2.1 _ hw) (fun _ h9 => h9) hd ((k (.ref (SCR + 6)) rfl).2 X h ρ H locs cells slots la hH hl ⟨Or.inr (by omega), hs⟩ he hS hcc hn hla)
/-- a return of a value of any small type -/
theorem v_nreturn {ρ0 : Nat → Nat} {M0 : Mem} {x : Int32} {ty : FieldType} (hd : decode cc pc = .ok (.ireturn, 1)) (hz : narrow ty (.int x) = .int x) : V G (own, cc, (some ty), fr, lo, nL, mn, hh) (ρ0, M0, Sum.inl (some (.int x)), M) pc ls (.int x :: []) M := by
  refine ⟨⟨Nat.le_refl _, Nat.le_refl _⟩, fun X h ρ H locs cells slots la hH hl hs he hS hc hn hla => ?_⟩
  obtain ⟨hx, hb, hown, hts, hK, hlk, htr, hQ, hR, hr, -⟩ := h
  rw [hQ]
  exact W.widen (k := mC M - mC M0) (n := mS M - mS M0) (Nat.le_sub_of_add_le hc) (Nat.le_sub_of_add_le hn) (vx_ret (W.zret hx hb hr hz (fun t ht hW => ⟨⟨some (.int x), ρ, rfl, rfl, trivial, he, by rw [ht]; exact hH⟩, by rw [ht]; exact hS.1, fun q hq hA => by rw [ht]; exact hS.2.1 q hq hA⟩) hS.2.2 hd hlk))
/-- a virtual call on a text -/
theorem runVs_of {X : Cx} {ρ : Nat → Nat} {H : Heap} {locs : List Loc} {cells slots : Nat} {la : Array Slot} {o : Out} {i : Nat} (h : Ok X G (own, cc, ret, fr, lo, nL, mn, hh) B) (hC : CtrP G y cy nY rety fy ly (.ref (SCR + 16 + i) :: As) M o M') (w : wdV own index "java/lang/String" y cy nY rety n)
    (hi : i < 27) (hn : As.length = n) (hcat : (st.map fun v => v.category).sum ≤ 8) (hR : fy + 1 ≤ fr ∧ 8 + (nY + 11) + ly ≤ lo) (hd : decode cc pc = .ok (.invokevirtual index, 3))
    (hH : HR G M ρ H) (hs : sok (mN M) (As.reverse ++ .ref (SCR + 16 + i) :: st)) (he : Ext B.2.1 B.1 M ρ) (hS : va_S (AO G) X.s.heap H locs) (hla : lv_has la X.c.maxLocals (ls.map (ml ρ))) (hcells : cells + (mC M' - mC M) ≤ mC B.2.2.2 - mC B.2.1 ∧ slots + (mS M' - mS M) ≤ mS B.2.2.2 - mS B.2.1) :
    vx_Run X.p X.l X.e X.R X.s X.m X.args X.below X.meth X.c H locs cells slots (mC M' - mC M) (mS M' - mS M) (F0 X.m pc la ((As.reverse ++ .ref (SCR + 16 + i) :: st).map (mv ρ))) (st.map (mv ρ)) (QcP G (ρ, M, o, M') ((Value.ref (SCR + 16 + i) :: As).map (mv ρ)).toArray) (XcP G (ρ, M, o, M')) (AO G) := by
  obtain ⟨w1, w2, w3, w4, w5, w6⟩ := w
  have hRR := h.2.2.2.2.2.2.2.2.1
  have hP := pcc_at h hH he hS (av := .ref (SCR + 16 + i) :: As) ⟨(sok_app hs).2.1, sok_rev (sok_app hs).1⟩
  have hrec := vk_recv (H := H) (locs := locs) h.2.2.2.2.1.str.2.1 hi hS
  have hrec : ∃ cell : Cell, H[B.1 (SCR + 16 + i)]? = some cell ∧ cell.vm.isStatics = false ∧ X.s.vm.findClass "java/lang/String" = some cell.cls := hrec
  rw [← he.2 (SCR + 16 + i) (Or.inr (by omega))] at hrec
  refine vx_runV (Ts := GW) (As := As.map (mv ρ)) (rest := st.map (mv ρ)) ⟨h.1, h.2.1, h.2.2.2.2.2.2.2.2.2.2.1, h.2.2.1, h.2.2.2.1⟩ (hC.2 X.l h.2.2.2.2.2.2.1 ρ)
    (cwV (ws' := GW) n h.2.2.2.1 (good_sub ?_) rfl rfl rfl w6 (by rw [hRR]; exact hR)) ⟨hP.1, hrec, hP.2⟩ rfl (by rw [List.length_map]; exact hn) (by rw [← h.2.2.2.2.2.2.2.2.2.2.1]; exact hla.1) (st_rev ρ As st (SCR + 16 + i)) (by rw [mv_cats]; show 2 * 0 + _ ≤ 8; omega) hd (by rw [hRR]; exact hcells)
  intro q hq
  rcases List.mem_append.mp hq with hq | hq
  · simp only [List.mem_cons, List.not_mem_nil, or_false] at hq
    rcases hq with rfl | rfl | rfl | rfl
    · exact w1
    · exact w2
    · exact w3
    · exact w4
  · rcases List.mem_cons.mp hq with rfl | hq
    · exact w5
    · exact hq
theorem v_callVs {x : Int32} {i : Nat} (hC : CtrP G y cy nY rety fy ly (.ref (SCR + 16 + i) :: As) M (.inl (some (.int x))) M') (w : wdV own index "java/lang/String" y cy nY rety n) (hi : i < 27) (hd : decode cc pc = .ok (.invokevirtual index, 3)) (hs0 : st0 = As.reverse ++ .ref (SCR + 16 + i) :: st) (hn : As.length = n) (hcat : (st.map fun v => v.category).sum ≤ 8) (hR : fy + 1 ≤ fr ∧ 8 + (nY + 11) + ly ≤ lo) (k : V G (own, cc, ret, fr, lo, nL, mn, hh) B (pc + 3) ls (.int x :: st) M') : V G (own, cc, ret, fr, lo, nL, mn, hh) B pc ls st0 M := by
  have hle := hC.1
  refine ⟨⟨Nat.le_trans hle.1 k.1.1, Nat.le_trans hle.2 k.1.2⟩, fun X h ρ H locs cells slots la hH hl hs he hS hcc hn2 hla => ?_⟩
  have hle2 := k.1
  subst hs0
  exact run_on rfl h (runVs_of (ls := ls) h hC w hi hn hcat hR hd hH hs he hS hla ⟨by omega, by omega⟩) hle hH hl ((sok_app hs).2.2) he hS hcc hn2 hla (fun v9 h9 => by cases h9; exact k) (fun e9 h9 => nomatch h9)
end
theorem ws_S_335 : wdV "java/lang/String" 335 "java/lang/String" yJ0_coder_7d493 cJ0_coder_7d493 1 (some .byte) 0 := ⟨gwi 822 (by decide +kernel) (by decide +kernel), gwi 823 (by decide +kernel) (by decide +kernel), gwi 824 (by decide +kernel) (by decide +kernel), gwi 46 (by decide +kernel) (by decide +kernel), gwi 825 (by decide +kernel) (by decide +kernel), ⟨rfl, by decide +kernel, by decide +kernel, by decide +kernel⟩⟩
theorem ws_S_492 : wdV "java/lang/String" 492 "java/lang/String" yJ0_isLatin1_aae02 cJ0_isLatin1_aae02 1 (some .boolean) 0 := ⟨gwi 832 (by decide +kernel) (by decide +kernel), gwi 833 (by decide +kernel) (by decide +kernel), gwi 834 (by decide +kernel) (by decide +kernel), gwi 46 (by decide +kernel) (by decide +kernel), gwi 835 (by decide +kernel) (by decide +kernel), ⟨rfl, by decide +kernel, by decide +kernel, by decide +kernel⟩⟩
theorem ws_L_24 : wdV RL 24 "java/lang/String" yJ0_length_8abf5 cJ0_length_8abf5 1 (some .int) 0 := ⟨gwi 818 (by decide +kernel) (by decide +kernel), gwi 819 (by decide +kernel) (by decide +kernel), gwi 820 (by decide +kernel) (by decide +kernel), gwi 46 (by decide +kernel) (by decide +kernel), gwi 821 (by decide +kernel) (by decide +kernel), ⟨rfl, by decide +kernel, by decide +kernel, by decide +kernel⟩⟩
theorem ws_L_30 : wdV RL 30 "java/lang/String" yJ0_charAt_5068e cJ0_charAt_5068e 2 (some .char) 1 := ⟨gwi 828 (by decide +kernel) (by decide +kernel), gwi 829 (by decide +kernel) (by decide +kernel), gwi 830 (by decide +kernel) (by decide +kernel), gwi 46 (by decide +kernel) (by decide +kernel), gwi 831 (by decide +kernel) (by decide +kernel), ⟨rfl, by decide +kernel, by decide +kernel, by decide +kernel⟩⟩
theorem wt_S_495 : wdT "java/lang/String" 495 yJ1_charAt_3b067 cJ1_charAt_3b067 2 (some .char) 2 := ⟨gwi 836 (by decide +kernel) (by decide +kernel), gwi 837 (by decide +kernel) (by decide +kernel), gwi 47 (by decide +kernel) (by decide +kernel), gwi 838 (by decide +kernel) (by decide +kernel), ⟨by decide +kernel, by decide +kernel, by decide +kernel⟩⟩
theorem wt_S_9 : wdT "java/lang/StringLatin1" 9 yJ0_checkIndex_df160 cJ0_checkIndex_df160 2 none 2 := ⟨gwi 839 (by decide +kernel) (by decide +kernel), gwi 840 (by decide +kernel) (by decide +kernel), gwi 46 (by decide +kernel) (by decide +kernel), gwi 841 (by decide +kernel) (by decide +kernel), ⟨by decide +kernel, by decide +kernel, by decide +kernel⟩⟩
theorem wt_S_1059 : wdT "java/lang/String" 1059 yJ3_checkIndex_8e157 cJ3_checkIndex_8e157 3 (some .int) 3 := ⟨gwi 844 (by decide +kernel) (by decide +kernel), gwi 845 (by decide +kernel) (by decide +kernel), gwi 48 (by decide +kernel) (by decide +kernel), gwi 846 (by decide +kernel) (by decide +kernel), ⟨by decide +kernel, by decide +kernel, by decide +kernel⟩⟩
theorem fs_val : Cond.fieldLink "java/lang/String" 9 "java/lang/String" "value" "[B" ∈ GW := gwi 1115 (by decide +kernel) (by decide +kernel)
theorem fs_cod : Cond.fieldLink "java/lang/String" 15 "java/lang/String" "coder" "B" ∈ GW := gwi 1116 (by decide +kernel) (by decide +kernel)
theorem fs_cmp : Cond.fieldLink "java/lang/String" 38 "java/lang/String" "COMPACT_STRINGS" "Z" ∈ GW := gwi 826 (by decide +kernel) (by decide +kernel)
theorem fs_fmt : Cond.fieldLink "java/lang/String" 1053 qfC qfN qfD ∈ GW := gwi 842 (by decide +kernel) (by decide +kernel)
theorem k_coder {G : Gl} {i : Nat} (hi : i < 27) {M : Mem} : CtrP G yJ0_coder_7d493 cJ0_coder_7d493 1 (some .byte) 0 0 [.ref (SCR + 16 + i)] M (cvI 0) M := by
  refine ctr_of (by decide +kernel) (Nat.le_of_ble_eq_true rfl) (fun ρ => ?_)
  refine v_cmps (own := "java/lang/String") fs_cmp dJ0_coder_7d493_0 ?_
  refine v_if_eq (tgt := 13) dJ0_coder_7d493_3 (by decide) (fun c => absurd c (by decide)) (fun _ => ?_)
  refine v_aload_n dJ0_coder_7d493_6 rfl 0 rfl ?_
  refine v_scod hi fs_cod dJ0_coder_7d493_7 ?_
  refine v_goto (tgt := 14) dJ0_coder_7d493_10 (by decide) ?_
  exact v_nreturn dJ0_coder_7d493_14 (by decide)
theorem k_latin {G : Gl} {i : Nat} (hi : i < 27) {M : Mem} : CtrP G yJ0_isLatin1_aae02 cJ0_isLatin1_aae02 1 (some .boolean) 0 0 [.ref (SCR + 16 + i)] M (cvI 1) M := by
  refine ctr_of (by decide +kernel) (Nat.le_of_ble_eq_true rfl) (fun ρ => ?_)
  refine v_cmps (own := "java/lang/String") fs_cmp dJ0_isLatin1_aae02_0 ?_
  refine v_if_eq (tgt := 17) dJ0_isLatin1_aae02_3 (by decide) (fun c => absurd c (by decide)) (fun _ => ?_)
  refine v_aload_n dJ0_isLatin1_aae02_6 rfl 0 rfl ?_
  refine v_scod hi fs_cod dJ0_isLatin1_aae02_7 ?_
  refine v_if_ne (tgt := 17) dJ0_isLatin1_aae02_10 (by decide) (fun c => absurd rfl c) (fun _ => ?_)
  refine v_iconst (v := 1) dJ0_isLatin1_aae02_13 (by decide) ?_
  refine v_goto (tgt := 18) dJ0_isLatin1_aae02_14 (by decide) ?_
  exact v_nreturn dJ0_isLatin1_aae02_18 (by decide)
theorem k_slen {G : Gl} {i : Nat} (hi : i < 27) {M : Mem} : CtrP G yJ0_length_8abf5 cJ0_length_8abf5 1 (some .int) 1 20 [.ref (SCR + 16 + i)] M (cvI (Int32.ofNat (leJS.getD i 0))) M := by
  refine ctr_of (by decide +kernel) (Nat.le_of_ble_eq_true rfl) (fun ρ => ?_)
  refine v_aload_n dJ0_length_8abf5_0 rfl 0 rfl ?_
  refine v_sval (own := "java/lang/String") (ref := "") hi fs_val dJ0_length_8abf5_1 ?_
  refine v_sbl hi dJ0_length_8abf5_4 ?_
  refine v_aload_n dJ0_length_8abf5_5 rfl 0 rfl ?_
  refine v_callVs (As := []) (k_coder hi) ws_S_335 hi dJ0_length_8abf5_6 rfl rfl (Nat.le_of_ble_eq_true rfl) (by decide) ?_
  refine v_ishr dJ0_length_8abf5_9 ?_
  have e : Int32.ofNat (leJS.getD i 0) >>> ((0 : Int32) &&& 31) = Int32.ofNat (leJS.getD i 0) :=
    (show ∀ j, j < 27 → Int32.ofNat (leJS.getD j 0) >>> ((0 : Int32) &&& 31) = Int32.ofNat (leJS.getD j 0) by decide +kernel) i hi
  rw [e]
  exact v_ireturn dJ0_length_8abf5_10
theorem k_prec {G : Gl} {i : Nat} {k9 : Int32} {j : Nat} (hi : i < 27) (hj : ix k9 (leJS.getD i 0) = some j) {w : Value} (hw : w.category = 1) {M : Mem} : CtrP G yJ3_checkIndex_8e157 cJ3_checkIndex_8e157 3 (some .int) 0 0 [.int k9, .int (Int32.ofNat (leJS.getD i 0)), w] M (cvI k9) M := by
  obtain ⟨h1, rfl⟩ := ix_spec hj
  have hL : leJS.getD i 0 < 1000 := (show ∀ j, j < 27 → leJS.getD j 0 < 1000 by decide +kernel) i hi
  have hk0 : ¬ k9 < 0 := fun q => h1 (Or.inl q)
  have hk1 : k9.toNatClampNeg < leJS.getD i 0 := Nat.not_le.mp fun q => h1 (Or.inr q)
  have hlt : k9 < Int32.ofNat (leJS.getD i 0) := by
    rw [Int32.lt_iff_toInt_lt]
    have e1 : (Int32.ofNat (leJS.getD i 0)).toInt = (leJS.getD i 0 : Int) := by
      rw [Int32.toInt_ofNat_of_lt (by omega)]
    rw [e1]
    have e2 : k9.toInt = (k9.toNatClampNeg : Int) := by
      have hz0 : (0 : Int) ≤ k9.toInt := by
        have := Int32.not_lt.mp hk0
        simpa using Int32.le_iff_toInt_le.mp this
      show k9.toInt = ((k9.toInt.toNat : Nat) : Int)
      omega
    omega
  refine ctr_of (by decide +kernel) (by
    generalize Int32.ofNat (leJS.getD i 0) = z
    show (lg_sl [Value.int k9, Value.int z, w]).length ≤ 3
    unfold lg_sl
    simp [hw, show (Value.int k9).category = 1 from rfl, show (Value.int z).category = 1 from rfl]) (fun ρ => ?_)
  refine v_iload_n dJ3_checkIndex_8e157_0 rfl 0 rfl ?_
  refine v_if_lt (tgt := 9) dJ3_checkIndex_8e157_1 (by decide) (fun c => absurd c hk0) (fun _ => ?_)
  refine v_iload_n dJ3_checkIndex_8e157_4 rfl 0 rfl ?_
  refine v_iload_n dJ3_checkIndex_8e157_5 rfl 1 rfl ?_
  refine v_icmp_lt (tgt := 16) dJ3_checkIndex_8e157_6 (by decide) (fun _ => ?_) (fun c => absurd hlt c)
  refine v_iload_n dJ3_checkIndex_8e157_16 rfl 0 rfl ?_
  exact v_ireturn dJ3_checkIndex_8e157_17
theorem k_sci {G : Gl} {i : Nat} {k9 : Int32} {j : Nat} (hi : i < 27) (hj : ix k9 (leJS.getD i 0) = some j) {M : Mem} : CtrP G yJ0_checkIndex_df160 cJ0_checkIndex_df160 2 none 1 22 [.int k9, .int (Int32.ofNat (leJS.getD i 0))] M (cvV ()) M := by
  refine ctr_of (by decide +kernel) (Nat.le_of_ble_eq_true rfl) (fun ρ => ?_)
  refine v_iload_n dJ0_checkIndex_df160_0 rfl 0 rfl ?_
  refine v_iload_n dJ0_checkIndex_df160_1 rfl 1 rfl ?_
  refine v_fmt (own := "java/lang/String") fs_fmt dJ0_checkIndex_df160_2 (fun w hw => ?_)
  refine v_callSi (As := [.int k9, .int (Int32.ofNat (leJS.getD i 0)), w]) (k_prec hi hj hw) wt_S_1059 dJ0_checkIndex_df160_5 rfl rfl (Nat.le_of_ble_eq_true rfl) (by decide) ?_
  refine v_pop dJ0_checkIndex_df160_8 rfl ?_
  exact v_vreturn dJ0_checkIndex_df160_9
theorem k_lat {G : Gl} {i : Nat} {k9 : Int32} {j : Nat} (hi : i < 27) (hj : ix k9 (leJS.getD i 0) = some j) {M : Mem} : CtrP G yJ1_charAt_3b067 cJ1_charAt_3b067 2 (some .char) 2 43 [.ref (SCR + 64 + i), .int k9] M (cvI ((byJS.getD i []).getD j 0)) M := by
  refine ctr_of (by decide +kernel) (Nat.le_of_ble_eq_true rfl) (fun ρ => ?_)
  refine v_iload_n dJ1_charAt_3b067_0 rfl 1 rfl ?_
  refine v_aload_n dJ1_charAt_3b067_1 rfl 0 rfl ?_
  refine v_sbl hi dJ1_charAt_3b067_2 ?_
  refine v_callS0 (As := [.int k9, .int (Int32.ofNat (leJS.getD i 0))]) (k_sci hi hj) wt_S_9 dJ1_charAt_3b067_3 rfl rfl (Nat.le_of_ble_eq_true rfl) (by decide) ?_
  refine v_aload_n dJ1_charAt_3b067_6 rfl 0 rfl ?_
  refine v_iload_n dJ1_charAt_3b067_7 rfl 1 rfl ?_
  refine v_sba hi hj dJ1_charAt_3b067_8 ?_
  refine v_sipush (v := 255) dJ1_charAt_3b067_9 (by decide) ?_
  refine v_iand dJ1_charAt_3b067_12 ?_
  refine v_i2c dJ1_charAt_3b067_13 ?_
  have hb : ∀ c : Int32, c ∈ byJS.getD i [] → i2cE (c &&& 255) = c ∧ narrow .char (.int c) = .int c := by
    have q : ∀ i, i < 27 → ∀ c ∈ byJS.getD i [], i2cE (c &&& 255) = c ∧ vp_nar .char c = c := by decide +kernel
    intro c hc
    refine ⟨(q i hi c hc).1, ?_⟩
    have := (q i hi c hc).2
    show Value.int (vp_nar .char c) = .int c
    rw [this]
  obtain ⟨h1, rfl⟩ := ix_spec hj
  have hk1 : k9.toNatClampNeg < leJS.getD i 0 := Nat.not_le.mp fun q => h1 (Or.inr q)
  have hlen : leJS.getD i 0 = (byJS.getD i []).length := (show ∀ j, j < 27 → leJS.getD j 0 = (byJS.getD j []).length by decide +kernel) i hi
  rw [hlen] at hk1
  have hm : (byJS.getD i []).getD k9.toNatClampNeg 0 ∈ byJS.getD i [] := by
    exact gd_mem hk1
  obtain ⟨b1, b2⟩ := hb _ hm
  rw [b1]
  exact v_nreturn dJ1_charAt_3b067_14 b2
theorem k_schr {G : Gl} {i : Nat} {k9 : Int32} {j : Nat} (hi : i < 27) (hj : ix k9 (leJS.getD i 0) = some j) {M : Mem} : CtrP G yJ0_charAt_5068e cJ0_charAt_5068e 2 (some .char) 3 64 [.ref (SCR + 16 + i), .int k9] M (cvI ((byJS.getD i []).getD j 0)) M := by
  refine ctr_of (by decide +kernel) (Nat.le_of_ble_eq_true rfl) (fun ρ => ?_)
  refine v_aload_n dJ0_charAt_5068e_0 rfl 0 rfl ?_
  refine v_callVs (As := []) (k_latin hi) ws_S_492 hi dJ0_charAt_5068e_1 rfl rfl (Nat.le_of_ble_eq_true rfl) (by decide) ?_
  refine v_if_eq (tgt := 16) dJ0_charAt_5068e_4 (by decide) (fun c => absurd c (by decide)) (fun _ => ?_)
  refine v_aload_n dJ0_charAt_5068e_7 rfl 0 rfl ?_
  refine v_sval (own := "java/lang/String") (ref := "") hi fs_val dJ0_charAt_5068e_8 ?_
  refine v_iload_n dJ0_charAt_5068e_11 rfl 1 rfl ?_
  refine v_callSi (As := [.ref (SCR + 64 + i), .int k9]) (k_lat hi hj) wt_S_495 dJ0_charAt_5068e_12 rfl rfl (Nat.le_of_ble_eq_true rfl) (by decide) ?_
  exact v_nreturn dJ0_charAt_5068e_15 (by
    obtain ⟨h1, rfl⟩ := ix_spec hj
    have hk1 : k9.toNatClampNeg < leJS.getD i 0 := Nat.not_le.mp fun q => h1 (Or.inr q)
    have hlen : leJS.getD i 0 = (byJS.getD i []).length := (show ∀ j, j < 27 → leJS.getD j 0 = (byJS.getD j []).length by decide +kernel) i hi
    rw [hlen] at hk1
    have hm : (byJS.getD i []).getD k9.toNatClampNeg 0 ∈ byJS.getD i [] := by
      exact gd_mem hk1
    have q : ∀ i, i < 27 → ∀ c ∈ byJS.getD i [], vp_nar .char c = c := by decide +kernel
    show Value.int (vp_nar .char _) = .int _
    rw [q i hi _ hm])
theorem sLen_at {a : Nat} {x : Int32} (h : sLen a = some x) : ∃ i, i < 27 ∧ a = SCR + 16 + i ∧ x = Int32.ofNat (leJS.getD i 0) := by
  unfold sLen at h
  by_cases hc : SCR + 16 ≤ a ∧ a < SCR + 43
  · rw [if_pos hc] at h
    exact ⟨a - (SCR + 16), by omega, by omega, (Option.some.inj h).symm⟩
  · rw [if_neg hc] at h; cases h
theorem sChr_at {a : Nat} {k x : Int32} (h : sChr a k = some x) : ∃ i j, i < 27 ∧ a = SCR + 16 + i ∧ ix k (leJS.getD i 0) = some j ∧ x = (byJS.getD i []).getD j 0 := by
  unfold sChr at h
  by_cases hc : SCR + 16 ≤ a ∧ a < SCR + 43
  · rw [if_pos hc] at h
    obtain ⟨j, hj, rfl⟩ := Option.map_eq_some_iff.mp h
    exact ⟨a - (SCR + 16), j, by omega, by omega, hj, rfl⟩
  · rw [if_neg hc] at h; cases h
section
variable {G : Gl} {B : Bx} {cc : ByteArray} {ret : Option FieldType} {fr lo nL : Nat} {mn : String} {hh : List (Nat × Nat × Nat × Nat)} {pc : Nat} {ls : List (Nat × Value)} {st : List Value} {M : Mem}
theorem sx_length_24 {a : Nat} {x : Int32} (e : sLen a = some x) (hd : decode cc pc = .ok (.invokevirtual 24, 3)) (hcat : (st.map fun v => v.category).sum ≤ 8) (hR : 6 ≤ fr ∧ 89 ≤ lo) (k : V G (RL, cc, ret, fr, lo, nL, mn, hh) B (pc + 3) ls (.int x :: st) M) : V G (RL, cc, ret, fr, lo, nL, mn, hh) B pc ls (.ref a :: st) M := by
  obtain ⟨i, hi, rfl, rfl⟩ := sLen_at e
  exact v_callVs (As := []) (k_slen hi) ws_L_24 hi hd rfl rfl hcat ⟨by omega, by omega⟩ k
theorem sx_charAt_30 {a : Nat} {k9 x : Int32} (e : sChr a k9 = some x) (hd : decode cc pc = .ok (.invokevirtual 30, 3)) (hcat : (st.map fun v => v.category).sum ≤ 8) (hR : 6 ≤ fr ∧ 89 ≤ lo) (k : V G (RL, cc, ret, fr, lo, nL, mn, hh) B (pc + 3) ls (.int x :: st) M) : V G (RL, cc, ret, fr, lo, nL, mn, hh) B pc ls (.int k9 :: .ref a :: st) M := by
  obtain ⟨i, j, hi, rfl, hj, rfl⟩ := sChr_at e
  exact v_callVs (As := [.int k9]) (k_schr hi hj) ws_L_30 hi hd rfl rfl hcat ⟨by omega, by omega⟩ k
theorem kc_L_7 (hd : decode cc pc = .ok (.ldc 7, 2)) (k : V G (RL, cc, ret, fr, lo, nL, mn, hh) B (pc + 2) ls (.int 40503 :: st) M) : V G (RL, cc, ret, fr, lo, nL, mn, hh) B pc ls st M := v_ldci (gwi 578 (by decide +kernel) (by decide +kernel)) hd k
theorem kc_L_218 (hd : decode cc pc = .ok (.ldc 218, 2)) (k : V G (RL, cc, ret, fr, lo, nL, mn, hh) B (pc + 2) ls (.int 40000 :: st) M) : V G (RL, cc, ret, fr, lo, nL, mn, hh) B pc ls st M := v_ldci (gwi 1088 (by decide +kernel) (by decide +kernel)) hd k
theorem gs_L_148 (hd : decode cc pc = .ok (.getstatic 148, 3)) (k : V G (RL, cc, ret, fr, lo, nL, mn, hh) B (pc + 3) ls (.ref (SCR + 4 + 0) :: st) M) : V G (RL, cc, ret, fr, lo, nL, mn, hh) B pc ls st M := v_getsS (i := 0) (by decide) (gwi 810 (by decide +kernel) (by decide +kernel)) hd k
theorem gs_L_167 (hd : decode cc pc = .ok (.getstatic 167, 3)) (k : V G (RL, cc, ret, fr, lo, nL, mn, hh) B (pc + 3) ls (.ref (SCR + 4 + 1) :: st) M) : V G (RL, cc, ret, fr, lo, nL, mn, hh) B pc ls st M := v_getsS (i := 1) (by decide) (gwi 976 (by decide +kernel) (by decide +kernel)) hd k
end
