/-! THE LAW, walked -/
theorem cb_63 : (Int8.ofInt 63).toInt32 = (63 : Int32) := by decide
theorem ci_6 : Int32.ofInt 6 = (6 : Int32) := by decide
theorem lcw_13 : Cond.classLink RL 13 (exN 1) ∈ GW := gwi 569 (by decide +kernel) (by decide +kernel)
theorem lcw_15 : Cond.classLink RL 15 (exN 2) ∈ GW := gwi 570 (by decide +kernel) (by decide +kernel)
theorem lcw_21 : Cond.classLink RL 21 (exN 3) ∈ GW := gwi 656 (by decide +kernel) (by decide +kernel)
theorem lca_1 : Cond.castable (exN 1) (exN 1) ∈ BW := bwi 577 (by decide +kernel) (by decide +kernel)
theorem lca_2 : Cond.castable (exN 2) (exN 2) ∈ BW := bwi 640 (by decide +kernel) (by decide +kernel)
theorem lca_3 : Cond.castable (exN 3) (exN 3) ∈ BW := bwi 664 (by decide +kernel) (by decide +kernel)
theorem hp_1_21 {l : List (Nat × Nat × Nat × Nat)} (hl : l.map (fun q => q.2.2.2) = [21]) : ∀ z ∈ l, z.2.2.2 ≠ 0 ∧ ∃ nm : String, Cond.classLink RL z.2.2.2 nm ∈ GW ∧ (exN 1, nm) ∈ ncs := by
  intro z hz
  have h := List.mem_map_of_mem (f := fun q : Nat × Nat × Nat × Nat => q.2.2.2) hz
  rw [hl] at h
  simp only [List.mem_cons, List.not_mem_nil, or_false] at h
  rcases h with h
  · rw [h]; exact ⟨by decide, _, lcw_21, by decide +kernel⟩
theorem hp_2_13 {l : List (Nat × Nat × Nat × Nat)} (hl : l.map (fun q => q.2.2.2) = [13]) : ∀ z ∈ l, z.2.2.2 ≠ 0 ∧ ∃ nm : String, Cond.classLink RL z.2.2.2 nm ∈ GW ∧ (exN 2, nm) ∈ ncs := by
  intro z hz
  have h := List.mem_map_of_mem (f := fun q : Nat × Nat × Nat × Nat => q.2.2.2) hz
  rw [hl] at h
  simp only [List.mem_cons, List.not_mem_nil, or_false] at h
  rcases h with h
  · rw [h]; exact ⟨by decide, _, lcw_13, by decide +kernel⟩
theorem hp_2_21 {l : List (Nat × Nat × Nat × Nat)} (hl : l.map (fun q => q.2.2.2) = [21]) : ∀ z ∈ l, z.2.2.2 ≠ 0 ∧ ∃ nm : String, Cond.classLink RL z.2.2.2 nm ∈ GW ∧ (exN 2, nm) ∈ ncs := by
  intro z hz
  have h := List.mem_map_of_mem (f := fun q : Nat × Nat × Nat × Nat => q.2.2.2) hz
  rw [hl] at h
  simp only [List.mem_cons, List.not_mem_nil, or_false] at h
  rcases h with h
  · rw [h]; exact ⟨by decide, _, lcw_21, by decide +kernel⟩
theorem hp_2_21_13 {l : List (Nat × Nat × Nat × Nat)} (hl : l.map (fun q => q.2.2.2) = [21, 13]) : ∀ z ∈ l, z.2.2.2 ≠ 0 ∧ ∃ nm : String, Cond.classLink RL z.2.2.2 nm ∈ GW ∧ (exN 2, nm) ∈ ncs := by
  intro z hz
  have h := List.mem_map_of_mem (f := fun q : Nat × Nat × Nat × Nat => q.2.2.2) hz
  rw [hl] at h
  simp only [List.mem_cons, List.not_mem_nil, or_false] at h
  rcases h with h | h
  · rw [h]; exact ⟨by decide, _, lcw_21, by decide +kernel⟩
  · rw [h]; exact ⟨by decide, _, lcw_13, by decide +kernel⟩
theorem hp_3_13 {l : List (Nat × Nat × Nat × Nat)} (hl : l.map (fun q => q.2.2.2) = [13]) : ∀ z ∈ l, z.2.2.2 ≠ 0 ∧ ∃ nm : String, Cond.classLink RL z.2.2.2 nm ∈ GW ∧ (exN 3, nm) ∈ ncs := by
  intro z hz
  have h := List.mem_map_of_mem (f := fun q : Nat × Nat × Nat × Nat => q.2.2.2) hz
  rw [hl] at h
  simp only [List.mem_cons, List.not_mem_nil, or_false] at h
  rcases h with h
  · rw [h]; exact ⟨by decide, _, lcw_13, by decide +kernel⟩
theorem hp_3_15 {l : List (Nat × Nat × Nat × Nat)} (hl : l.map (fun q => q.2.2.2) = [15]) : ∀ z ∈ l, z.2.2.2 ≠ 0 ∧ ∃ nm : String, Cond.classLink RL z.2.2.2 nm ∈ GW ∧ (exN 3, nm) ∈ ncs := by
  intro z hz
  have h := List.mem_map_of_mem (f := fun q : Nat × Nat × Nat × Nat => q.2.2.2) hz
  rw [hl] at h
  simp only [List.mem_cons, List.not_mem_nil, or_false] at h
  rcases h with h
  · rw [h]; exact ⟨by decide, _, lcw_15, by decide +kernel⟩
theorem wd_L_113 : wdI RL 113 yX11_init cX11_init 2 0 := ⟨gwi 98 (by decide +kernel) (by decide +kernel), gwi 99 (by decide +kernel) (by decide +kernel), nw_X11, gwi 100 (by decide +kernel) (by decide +kernel), rfl, ⟨by decide +kernel, by decide +kernel, by decide +kernel⟩⟩
theorem ca_L_113 {G : Gl} {B : Bx} {cc : ByteArray} {ret : Option FieldType} {fr lo nL : Nat} {mn : String} {hh : List (Nat × Nat × Nat × Nat)} {pc : Nat} {ls : List (Nat × Value)} {st : List Value} {M M1 : Mem} {l0 : Nat} (e : f_X11_init l0 M = some M1) (hd : decode cc pc = .ok (.invokespecial 113, 3)) (hcat : (st.map fun v => v.category).sum ≤ 8) (hR : 6 + 1 ≤ fr ∧ 8 + (2 + 11) + 129 ≤ lo) (k : V G (RL, cc, ret, fr, lo, nL, mn, hh) B (pc + 3) ls (st) M1) : V G (RL, cc, ret, fr, lo, nL, mn, hh) B pc ls (.ref l0 :: st) M := v_callI (As := []) (k_X11_init e) wd_L_113 hd rfl rfl hcat hR k
theorem wd_L_7 : wdV RL 7 RX11 yX11_append cX11_append 5 (some .int) 1 := ⟨gwi 571 (by decide +kernel) (by decide +kernel), gwi 572 (by decide +kernel) (by decide +kernel), gwi 573 (by decide +kernel) (by decide +kernel), nw_X11, gwi 574 (by decide +kernel) (by decide +kernel), ⟨rfl, by decide +kernel, by decide +kernel, by decide +kernel⟩⟩
theorem ca_L_7 {G : Gl} {B : Bx} {cc : ByteArray} {ret : Option FieldType} {fr lo nL : Nat} {mn : String} {hh : List (Nat × Nat × Nat × Nat)} {pc : Nat} {ls : List (Nat × Value)} {st : List Value} {M M1 : Mem} {l0 : Nat} {l1 : Int32} {x : Int32} (e : f_X11_append l0 l1 M = some (.inl x, M1)) (hd : decode cc pc = .ok (.invokevirtual 7, 3)) (hcat : (st.map fun v => v.category).sum ≤ 8) (hR : 6 + 1 ≤ fr ∧ 8 + (5 + 11) + 89 ≤ lo) (k : V G (RL, cc, ret, fr, lo, nL, mn, hh) B (pc + 3) ls (.int x :: st) M1) : V G (RL, cc, ret, fr, lo, nL, mn, hh) B pc ls (.int l1 :: .ref l0 :: st) M := v_callVi (As := [.int l1]) (k_X11_append e) wd_L_7 clX11 (kd_X11_append e) hd rfl rfl hcat hR k
theorem wd_L_126 : wdV RL 126 RX11 yX11_errorPosition cX11_errorPosition 1 (some .int) 0 := ⟨gwi 512 (by decide +kernel) (by decide +kernel), gwi 513 (by decide +kernel) (by decide +kernel), gwi 514 (by decide +kernel) (by decide +kernel), nw_X11, gwi 515 (by decide +kernel) (by decide +kernel), ⟨rfl, by decide +kernel, by decide +kernel, by decide +kernel⟩⟩
theorem ca_L_126 {G : Gl} {B : Bx} {cc : ByteArray} {ret : Option FieldType} {fr lo nL : Nat} {mn : String} {hh : List (Nat × Nat × Nat × Nat)} {pc : Nat} {ls : List (Nat × Value)} {st : List Value} {M M1 : Mem} {l0 : Nat} {x : Int32} (e : f_X11_errorPosition l0 M = some (x, M1)) (hd : decode cc pc = .ok (.invokevirtual 126, 3)) (hcat : (st.map fun v => v.category).sum ≤ 8) (hR : 0 + 1 ≤ fr ∧ 8 + (1 + 11) + 0 ≤ lo) (k : V G (RL, cc, ret, fr, lo, nL, mn, hh) B (pc + 3) ls (.int x :: st) M1) : V G (RL, cc, ret, fr, lo, nL, mn, hh) B pc ls (.ref l0 :: st) M := v_callVi (As := []) (k_X11_errorPosition e) wd_L_126 clX11 (kd_X11_errorPosition e) hd rfl rfl hcat hR k
theorem wd_L_17 : wdV RL 17 RX11 yX11_setOption cX11_setOption 4 (some .int) 2 := ⟨gwi 657 (by decide +kernel) (by decide +kernel), gwi 658 (by decide +kernel) (by decide +kernel), gwi 659 (by decide +kernel) (by decide +kernel), nw_X11, gwi 660 (by decide +kernel) (by decide +kernel), ⟨rfl, by decide +kernel, by decide +kernel, by decide +kernel⟩⟩
theorem ca_L_17 {G : Gl} {B : Bx} {cc : ByteArray} {ret : Option FieldType} {fr lo nL : Nat} {mn : String} {hh : List (Nat × Nat × Nat × Nat)} {pc : Nat} {ls : List (Nat × Value)} {st : List Value} {M M1 : Mem} {l0 : Nat} {l1 : Int32} {l2 : Int32} {x : Int32} (e : f_X11_setOption l0 l1 l2 M = some (.inl x, M1)) (hd : decode cc pc = .ok (.invokevirtual 17, 3)) (hcat : (st.map fun v => v.category).sum ≤ 8) (hR : 6 + 1 ≤ fr ∧ 8 + (4 + 11) + 89 ≤ lo) (k : V G (RL, cc, ret, fr, lo, nL, mn, hh) B (pc + 3) ls (.int x :: st) M1) : V G (RL, cc, ret, fr, lo, nL, mn, hh) B pc ls (.int l2 :: .int l1 :: .ref l0 :: st) M := v_callVi (As := [.int l1, .int l2]) (k_X11_setOption e) wd_L_17 clX11 (kd_X11_setOption e) hd rfl rfl hcat hR k
theorem wd_L_23 : wdV RL 23 RX11 yX11_connect cX11_connect 4 (some .int) 2 := ⟨gwi 684 (by decide +kernel) (by decide +kernel), gwi 685 (by decide +kernel) (by decide +kernel), gwi 686 (by decide +kernel) (by decide +kernel), nw_X11, gwi 687 (by decide +kernel) (by decide +kernel), ⟨rfl, by decide +kernel, by decide +kernel, by decide +kernel⟩⟩
theorem ca_L_23 {G : Gl} {B : Bx} {cc : ByteArray} {ret : Option FieldType} {fr lo nL : Nat} {mn : String} {hh : List (Nat × Nat × Nat × Nat)} {pc : Nat} {ls : List (Nat × Value)} {st : List Value} {M M1 : Mem} {l0 : Nat} {l1 : Int32} {l2 : Int32} {x : Int32} (e : f_X11_connect l0 l1 l2 M = some (.inl x, M1)) (hd : decode cc pc = .ok (.invokevirtual 23, 3)) (hcat : (st.map fun v => v.category).sum ≤ 8) (hR : 7 + 1 ≤ fr ∧ 8 + (4 + 11) + 143 ≤ lo) (k : V G (RL, cc, ret, fr, lo, nL, mn, hh) B (pc + 3) ls (.int x :: st) M1) : V G (RL, cc, ret, fr, lo, nL, mn, hh) B pc ls (.int l2 :: .int l1 :: .ref l0 :: st) M := v_callVi (As := [.int l1, .int l2]) (k_X11_connect e) wd_L_23 clX11 (kd_X11_connect e) hd rfl rfl hcat hR k
theorem wd_L_27 : wdV RL 27 RX11 yX11_disconnect cX11_disconnect 3 (some .int) 1 := ⟨gwi 870 (by decide +kernel) (by decide +kernel), gwi 871 (by decide +kernel) (by decide +kernel), gwi 872 (by decide +kernel) (by decide +kernel), nw_X11, gwi 873 (by decide +kernel) (by decide +kernel), ⟨rfl, by decide +kernel, by decide +kernel, by decide +kernel⟩⟩
theorem ca_L_27 {G : Gl} {B : Bx} {cc : ByteArray} {ret : Option FieldType} {fr lo nL : Nat} {mn : String} {hh : List (Nat × Nat × Nat × Nat)} {pc : Nat} {ls : List (Nat × Value)} {st : List Value} {M M1 : Mem} {l0 : Nat} {l1 : Int32} {x : Int32} (e : f_X11_disconnect l0 l1 M = some (.inl x, M1)) (hd : decode cc pc = .ok (.invokevirtual 27, 3)) (hcat : (st.map fun v => v.category).sum ≤ 8) (hR : 7 + 1 ≤ fr ∧ 8 + (3 + 11) + 110 ≤ lo) (k : V G (RL, cc, ret, fr, lo, nL, mn, hh) B (pc + 3) ls (.int x :: st) M1) : V G (RL, cc, ret, fr, lo, nL, mn, hh) B pc ls (.int l1 :: .ref l0 :: st) M := v_callVi (As := [.int l1]) (k_X11_disconnect e) wd_L_27 clX11 (kd_X11_disconnect e) hd rfl rfl hcat hR k
theorem wd_L_30 : wdV RL 30 RX11 yX11_breakConnection cX11_breakConnection 2 (some .int) 1 := ⟨gwi 882 (by decide +kernel) (by decide +kernel), gwi 883 (by decide +kernel) (by decide +kernel), gwi 884 (by decide +kernel) (by decide +kernel), nw_X11, gwi 885 (by decide +kernel) (by decide +kernel), ⟨rfl, by decide +kernel, by decide +kernel, by decide +kernel⟩⟩
theorem ca_L_30 {G : Gl} {B : Bx} {cc : ByteArray} {ret : Option FieldType} {fr lo nL : Nat} {mn : String} {hh : List (Nat × Nat × Nat × Nat)} {pc : Nat} {ls : List (Nat × Value)} {st : List Value} {M M1 : Mem} {l0 : Nat} {l1 : Int32} {x : Int32} (e : f_X11_breakConnection l0 l1 M = some (.inl x, M1)) (hd : decode cc pc = .ok (.invokevirtual 30, 3)) (hcat : (st.map fun v => v.category).sum ≤ 8) (hR : 7 + 1 ≤ fr ∧ 8 + (2 + 11) + 143 ≤ lo) (k : V G (RL, cc, ret, fr, lo, nL, mn, hh) B (pc + 3) ls (.int x :: st) M1) : V G (RL, cc, ret, fr, lo, nL, mn, hh) B pc ls (.int l1 :: .ref l0 :: st) M := v_callVi (As := [.int l1]) (k_X11_breakConnection e) wd_L_30 clX11 (kd_X11_breakConnection e) hd rfl rfl hcat hR k
theorem wd_L_33 : wdV RL 33 RX11 yX11_setWill cX11_setWill 9 (some .int) 4 := ⟨gwi 889 (by decide +kernel) (by decide +kernel), gwi 890 (by decide +kernel) (by decide +kernel), gwi 891 (by decide +kernel) (by decide +kernel), nw_X11, gwi 892 (by decide +kernel) (by decide +kernel), ⟨rfl, by decide +kernel, by decide +kernel, by decide +kernel⟩⟩
theorem ca_L_33 {G : Gl} {B : Bx} {cc : ByteArray} {ret : Option FieldType} {fr lo nL : Nat} {mn : String} {hh : List (Nat × Nat × Nat × Nat)} {pc : Nat} {ls : List (Nat × Value)} {st : List Value} {M M1 : Mem} {l0 : Nat} {l1 : Int32} {l2 : Int32} {l3 : Int32} {l4 : Int32} {x : Int32} (e : f_X11_setWill l0 l1 l2 l3 l4 M = some (.inl x, M1)) (hd : decode cc pc = .ok (.invokevirtual 33, 3)) (hcat : (st.map fun v => v.category).sum ≤ 8) (hR : 8 + 1 ≤ fr ∧ 8 + (9 + 11) + 132 ≤ lo) (k : V G (RL, cc, ret, fr, lo, nL, mn, hh) B (pc + 3) ls (.int x :: st) M1) : V G (RL, cc, ret, fr, lo, nL, mn, hh) B pc ls (.int l4 :: .int l3 :: .int l2 :: .int l1 :: .ref l0 :: st) M := v_callVi (As := [.int l1, .int l2, .int l3, .int l4]) (k_X11_setWill e) wd_L_33 clX11 (kd_X11_setWill e) hd rfl rfl hcat hR k
theorem wd_L_37 : wdV RL 37 RX11 yX11_sessionState cX11_sessionState 3 (some .int) 1 := ⟨gwi 918 (by decide +kernel) (by decide +kernel), gwi 919 (by decide +kernel) (by decide +kernel), gwi 920 (by decide +kernel) (by decide +kernel), nw_X11, gwi 921 (by decide +kernel) (by decide +kernel), ⟨rfl, by decide +kernel, by decide +kernel, by decide +kernel⟩⟩
theorem ca_L_37 {G : Gl} {B : Bx} {cc : ByteArray} {ret : Option FieldType} {fr lo nL : Nat} {mn : String} {hh : List (Nat × Nat × Nat × Nat)} {pc : Nat} {ls : List (Nat × Value)} {st : List Value} {M M1 : Mem} {l0 : Nat} {l1 : Int32} {x : Int32} (e : f_X11_sessionState l0 l1 M = some (.inl x, M1)) (hd : decode cc pc = .ok (.invokevirtual 37, 3)) (hcat : (st.map fun v => v.category).sum ≤ 8) (hR : 7 + 1 ≤ fr ∧ 8 + (3 + 11) + 109 ≤ lo) (k : V G (RL, cc, ret, fr, lo, nL, mn, hh) B (pc + 3) ls (.int x :: st) M1) : V G (RL, cc, ret, fr, lo, nL, mn, hh) B pc ls (.int l1 :: .ref l0 :: st) M := v_callVi (As := [.int l1]) (k_X11_sessionState e) wd_L_37 clX11 (kd_X11_sessionState e) hd rfl rfl hcat hR k
theorem wd_L_40 : wdV RL 40 RX11 yX11_subscribe cX11_subscribe 11 (some .int) 4 := ⟨gwi 925 (by decide +kernel) (by decide +kernel), gwi 926 (by decide +kernel) (by decide +kernel), gwi 927 (by decide +kernel) (by decide +kernel), nw_X11, gwi 928 (by decide +kernel) (by decide +kernel), ⟨rfl, by decide +kernel, by decide +kernel, by decide +kernel⟩⟩
theorem ca_L_40 {G : Gl} {B : Bx} {cc : ByteArray} {ret : Option FieldType} {fr lo nL : Nat} {mn : String} {hh : List (Nat × Nat × Nat × Nat)} {pc : Nat} {ls : List (Nat × Value)} {st : List Value} {M M1 : Mem} {l0 : Nat} {l1 : Int32} {l2 : Int32} {l3 : Int32} {l4 : Int32} {x : Int32} (e : f_X11_subscribe l0 l1 l2 l3 l4 M = some (.inl x, M1)) (hd : decode cc pc = .ok (.invokevirtual 40, 3)) (hcat : (st.map fun v => v.category).sum ≤ 8) (hR : 8 + 1 ≤ fr ∧ 8 + (11 + 11) + 132 ≤ lo) (k : V G (RL, cc, ret, fr, lo, nL, mn, hh) B (pc + 3) ls (.int x :: st) M1) : V G (RL, cc, ret, fr, lo, nL, mn, hh) B pc ls (.int l4 :: .int l3 :: .int l2 :: .int l1 :: .ref l0 :: st) M := v_callVi (As := [.int l1, .int l2, .int l3, .int l4]) (k_X11_subscribe e) wd_L_40 clX11 (kd_X11_subscribe e) hd rfl rfl hcat hR k
theorem wd_L_44 : wdV RL 44 RX11 yX11_unsubscribe cX11_unsubscribe 5 (some .int) 2 := ⟨gwi 953 (by decide +kernel) (by decide +kernel), gwi 954 (by decide +kernel) (by decide +kernel), gwi 955 (by decide +kernel) (by decide +kernel), nw_X11, gwi 956 (by decide +kernel) (by decide +kernel), ⟨rfl, by decide +kernel, by decide +kernel, by decide +kernel⟩⟩
theorem ca_L_44 {G : Gl} {B : Bx} {cc : ByteArray} {ret : Option FieldType} {fr lo nL : Nat} {mn : String} {hh : List (Nat × Nat × Nat × Nat)} {pc : Nat} {ls : List (Nat × Value)} {st : List Value} {M M1 : Mem} {l0 : Nat} {l1 : Int32} {l2 : Int32} {x : Int32} (e : f_X11_unsubscribe l0 l1 l2 M = some (.inl x, M1)) (hd : decode cc pc = .ok (.invokevirtual 44, 3)) (hcat : (st.map fun v => v.category).sum ≤ 8) (hR : 8 + 1 ≤ fr ∧ 8 + (5 + 11) + 132 ≤ lo) (k : V G (RL, cc, ret, fr, lo, nL, mn, hh) B (pc + 3) ls (.int x :: st) M1) : V G (RL, cc, ret, fr, lo, nL, mn, hh) B pc ls (.int l2 :: .int l1 :: .ref l0 :: st) M := v_callVi (As := [.int l1, .int l2]) (k_X11_unsubscribe e) wd_L_44 clX11 (kd_X11_unsubscribe e) hd rfl rfl hcat hR k
theorem wd_L_47 : wdV RL 47 RX11 yX11_subscription cX11_subscription 5 (some .int) 3 := ⟨gwi 969 (by decide +kernel) (by decide +kernel), gwi 970 (by decide +kernel) (by decide +kernel), gwi 971 (by decide +kernel) (by decide +kernel), nw_X11, gwi 972 (by decide +kernel) (by decide +kernel), ⟨rfl, by decide +kernel, by decide +kernel, by decide +kernel⟩⟩
theorem ca_L_47 {G : Gl} {B : Bx} {cc : ByteArray} {ret : Option FieldType} {fr lo nL : Nat} {mn : String} {hh : List (Nat × Nat × Nat × Nat)} {pc : Nat} {ls : List (Nat × Value)} {st : List Value} {M M1 : Mem} {l0 : Nat} {l1 : Int32} {l2 : Int32} {l3 : Int32} {x : Int32} (e : f_X11_subscription l0 l1 l2 l3 M = some (.inl x, M1)) (hd : decode cc pc = .ok (.invokevirtual 47, 3)) (hcat : (st.map fun v => v.category).sum ≤ 8) (hR : 7 + 1 ≤ fr ∧ 8 + (5 + 11) + 112 ≤ lo) (k : V G (RL, cc, ret, fr, lo, nL, mn, hh) B (pc + 3) ls (.int x :: st) M1) : V G (RL, cc, ret, fr, lo, nL, mn, hh) B pc ls (.int l3 :: .int l2 :: .int l1 :: .ref l0 :: st) M := v_callVi (As := [.int l1, .int l2, .int l3]) (k_X11_subscription e) wd_L_47 clX11 (kd_X11_subscription e) hd rfl rfl hcat hR k
theorem wd_L_51 : wdV RL 51 RX11 yX11_relation cX11_relation 7 (some .int) 3 := ⟨gwi 980 (by decide +kernel) (by decide +kernel), gwi 981 (by decide +kernel) (by decide +kernel), gwi 982 (by decide +kernel) (by decide +kernel), nw_X11, gwi 983 (by decide +kernel) (by decide +kernel), ⟨rfl, by decide +kernel, by decide +kernel, by decide +kernel⟩⟩
theorem ca_L_51 {G : Gl} {B : Bx} {cc : ByteArray} {ret : Option FieldType} {fr lo nL : Nat} {mn : String} {hh : List (Nat × Nat × Nat × Nat)} {pc : Nat} {ls : List (Nat × Value)} {st : List Value} {M M1 : Mem} {l0 : Nat} {l1 : Int32} {l2 : Int32} {l3 : Int32} {x : Int32} (e : f_X11_relation l0 l1 l2 l3 M = some (.inl x, M1)) (hd : decode cc pc = .ok (.invokevirtual 51, 3)) (hcat : (st.map fun v => v.category).sum ≤ 8) (hR : 7 + 1 ≤ fr ∧ 8 + (7 + 11) + 112 ≤ lo) (k : V G (RL, cc, ret, fr, lo, nL, mn, hh) B (pc + 3) ls (.int x :: st) M1) : V G (RL, cc, ret, fr, lo, nL, mn, hh) B pc ls (.int l3 :: .int l2 :: .int l1 :: .ref l0 :: st) M := v_callVi (As := [.int l1, .int l2, .int l3]) (k_X11_relation e) wd_L_51 clX11 (kd_X11_relation e) hd rfl rfl hcat hR k
theorem wd_L_54 : wdV RL 54 RX11 yX11_shareSize cX11_shareSize 5 (some .int) 1 := ⟨gwi 999 (by decide +kernel) (by decide +kernel), gwi 1000 (by decide +kernel) (by decide +kernel), gwi 1001 (by decide +kernel) (by decide +kernel), nw_X11, gwi 1002 (by decide +kernel) (by decide +kernel), ⟨rfl, by decide +kernel, by decide +kernel, by decide +kernel⟩⟩
theorem ca_L_54 {G : Gl} {B : Bx} {cc : ByteArray} {ret : Option FieldType} {fr lo nL : Nat} {mn : String} {hh : List (Nat × Nat × Nat × Nat)} {pc : Nat} {ls : List (Nat × Value)} {st : List Value} {M M1 : Mem} {l0 : Nat} {l1 : Int32} {x : Int32} (e : f_X11_shareSize l0 l1 M = some (.inl x, M1)) (hd : decode cc pc = .ok (.invokevirtual 54, 3)) (hcat : (st.map fun v => v.category).sum ≤ 8) (hR : 8 + 1 ≤ fr ∧ 8 + (5 + 11) + 132 ≤ lo) (k : V G (RL, cc, ret, fr, lo, nL, mn, hh) B (pc + 3) ls (.int x :: st) M1) : V G (RL, cc, ret, fr, lo, nL, mn, hh) B pc ls (.int l1 :: .ref l0 :: st) M := v_callVi (As := [.int l1]) (k_X11_shareSize e) wd_L_54 clX11 (kd_X11_shareSize e) hd rfl rfl hcat hR k
theorem wd_L_57 : wdV RL 57 RX11 yX11_shareMember cX11_shareMember 6 (some .int) 2 := ⟨gwi 1007 (by decide +kernel) (by decide +kernel), gwi 1008 (by decide +kernel) (by decide +kernel), gwi 1009 (by decide +kernel) (by decide +kernel), nw_X11, gwi 1010 (by decide +kernel) (by decide +kernel), ⟨rfl, by decide +kernel, by decide +kernel, by decide +kernel⟩⟩
theorem ca_L_57 {G : Gl} {B : Bx} {cc : ByteArray} {ret : Option FieldType} {fr lo nL : Nat} {mn : String} {hh : List (Nat × Nat × Nat × Nat)} {pc : Nat} {ls : List (Nat × Value)} {st : List Value} {M M1 : Mem} {l0 : Nat} {l1 : Int32} {l2 : Int32} {x : Int32} (e : f_X11_shareMember l0 l1 l2 M = some (.inl x, M1)) (hd : decode cc pc = .ok (.invokevirtual 57, 3)) (hcat : (st.map fun v => v.category).sum ≤ 8) (hR : 8 + 1 ≤ fr ∧ 8 + (6 + 11) + 132 ≤ lo) (k : V G (RL, cc, ret, fr, lo, nL, mn, hh) B (pc + 3) ls (.int x :: st) M1) : V G (RL, cc, ret, fr, lo, nL, mn, hh) B pc ls (.int l2 :: .int l1 :: .ref l0 :: st) M := v_callVi (As := [.int l1, .int l2]) (k_X11_shareMember e) wd_L_57 clX11 (kd_X11_shareMember e) hd rfl rfl hcat hR k
theorem wd_L_60 : wdV RL 60 RX11 yX11_publish cX11_publish 10 (some .int) 5 := ⟨gwi 1014 (by decide +kernel) (by decide +kernel), gwi 1015 (by decide +kernel) (by decide +kernel), gwi 1016 (by decide +kernel) (by decide +kernel), nw_X11, gwi 1017 (by decide +kernel) (by decide +kernel), ⟨rfl, by decide +kernel, by decide +kernel, by decide +kernel⟩⟩
theorem ca_L_60 {G : Gl} {B : Bx} {cc : ByteArray} {ret : Option FieldType} {fr lo nL : Nat} {mn : String} {hh : List (Nat × Nat × Nat × Nat)} {pc : Nat} {ls : List (Nat × Value)} {st : List Value} {M M1 : Mem} {l0 : Nat} {l1 : Int32} {l2 : Int32} {l3 : Int32} {l4 : Int32} {l5 : Int32} {x : Int32} (e : f_X11_publish l0 l1 l2 l3 l4 l5 M = some (.inl x, M1)) (hd : decode cc pc = .ok (.invokevirtual 60, 3)) (hcat : (st.map fun v => v.category).sum ≤ 8) (hR : 8 + 1 ≤ fr ∧ 8 + (10 + 11) + 132 ≤ lo) (k : V G (RL, cc, ret, fr, lo, nL, mn, hh) B (pc + 3) ls (.int x :: st) M1) : V G (RL, cc, ret, fr, lo, nL, mn, hh) B pc ls (.int l5 :: .int l4 :: .int l3 :: .int l2 :: .int l1 :: .ref l0 :: st) M := v_callVi (As := [.int l1, .int l2, .int l3, .int l4, .int l5]) (k_X11_publish e) wd_L_60 clX11 (kd_X11_publish e) hd rfl rfl hcat hR k
theorem wd_L_64 : wdV RL 64 RX11 yX11_release cX11_release 5 (some .int) 2 := ⟨gwi 1031 (by decide +kernel) (by decide +kernel), gwi 1032 (by decide +kernel) (by decide +kernel), gwi 1033 (by decide +kernel) (by decide +kernel), nw_X11, gwi 1034 (by decide +kernel) (by decide +kernel), ⟨rfl, by decide +kernel, by decide +kernel, by decide +kernel⟩⟩
theorem ca_L_64 {G : Gl} {B : Bx} {cc : ByteArray} {ret : Option FieldType} {fr lo nL : Nat} {mn : String} {hh : List (Nat × Nat × Nat × Nat)} {pc : Nat} {ls : List (Nat × Value)} {st : List Value} {M M1 : Mem} {l0 : Nat} {l1 : Int32} {l2 : Int32} {x : Int32} (e : f_X11_release l0 l1 l2 M = some (.inl x, M1)) (hd : decode cc pc = .ok (.invokevirtual 64, 3)) (hcat : (st.map fun v => v.category).sum ≤ 8) (hR : 7 + 1 ≤ fr ∧ 8 + (5 + 11) + 111 ≤ lo) (k : V G (RL, cc, ret, fr, lo, nL, mn, hh) B (pc + 3) ls (.int x :: st) M1) : V G (RL, cc, ret, fr, lo, nL, mn, hh) B pc ls (.int l2 :: .int l1 :: .ref l0 :: st) M := v_callVi (As := [.int l1, .int l2]) (k_X11_release e) wd_L_64 clX11 (kd_X11_release e) hd rfl rfl hcat hR k
theorem wd_L_67 : wdV RL 67 RX11 yX11_answer cX11_answer 4 (some .int) 3 := ⟨gwi 1043 (by decide +kernel) (by decide +kernel), gwi 1044 (by decide +kernel) (by decide +kernel), gwi 1045 (by decide +kernel) (by decide +kernel), nw_X11, gwi 1046 (by decide +kernel) (by decide +kernel), ⟨rfl, by decide +kernel, by decide +kernel, by decide +kernel⟩⟩
theorem ca_L_67 {G : Gl} {B : Bx} {cc : ByteArray} {ret : Option FieldType} {fr lo nL : Nat} {mn : String} {hh : List (Nat × Nat × Nat × Nat)} {pc : Nat} {ls : List (Nat × Value)} {st : List Value} {M M1 : Mem} {l0 : Nat} {l1 : Int32} {l2 : Int32} {l3 : Int32} {x : Int32} (e : f_X11_answer l0 l1 l2 l3 M = some (.inl x, M1)) (hd : decode cc pc = .ok (.invokevirtual 67, 3)) (hcat : (st.map fun v => v.category).sum ≤ 8) (hR : 7 + 1 ≤ fr ∧ 8 + (4 + 11) + 117 ≤ lo) (k : V G (RL, cc, ret, fr, lo, nL, mn, hh) B (pc + 3) ls (.int x :: st) M1) : V G (RL, cc, ret, fr, lo, nL, mn, hh) B pc ls (.int l3 :: .int l2 :: .int l1 :: .ref l0 :: st) M := v_callVi (As := [.int l1, .int l2, .int l3]) (k_X11_answer e) wd_L_67 clX11 (kd_X11_answer e) hd rfl rfl hcat hR k
theorem wd_L_70 : wdV RL 70 RX11 yX11_audience cX11_audience 4 (some .int) 1 := ⟨gwi 1055 (by decide +kernel) (by decide +kernel), gwi 1056 (by decide +kernel) (by decide +kernel), gwi 1057 (by decide +kernel) (by decide +kernel), nw_X11, gwi 1058 (by decide +kernel) (by decide +kernel), ⟨rfl, by decide +kernel, by decide +kernel, by decide +kernel⟩⟩
theorem ca_L_70 {G : Gl} {B : Bx} {cc : ByteArray} {ret : Option FieldType} {fr lo nL : Nat} {mn : String} {hh : List (Nat × Nat × Nat × Nat)} {pc : Nat} {ls : List (Nat × Value)} {st : List Value} {M M1 : Mem} {l0 : Nat} {l1 : Int32} {x : Int32} (e : f_X11_audience l0 l1 M = some (.inl x, M1)) (hd : decode cc pc = .ok (.invokevirtual 70, 3)) (hcat : (st.map fun v => v.category).sum ≤ 8) (hR : 8 + 1 ≤ fr ∧ 8 + (4 + 11) + 132 ≤ lo) (k : V G (RL, cc, ret, fr, lo, nL, mn, hh) B (pc + 3) ls (.int x :: st) M1) : V G (RL, cc, ret, fr, lo, nL, mn, hh) B pc ls (.int l1 :: .ref l0 :: st) M := v_callVi (As := [.int l1]) (k_X11_audience e) wd_L_70 clX11 (kd_X11_audience e) hd rfl rfl hcat hR k
theorem wd_L_73 : wdV RL 73 RX11 yX11_receive cX11_receive 3 (some .int) 1 := ⟨gwi 1066 (by decide +kernel) (by decide +kernel), gwi 1067 (by decide +kernel) (by decide +kernel), gwi 1068 (by decide +kernel) (by decide +kernel), nw_X11, gwi 1069 (by decide +kernel) (by decide +kernel), ⟨rfl, by decide +kernel, by decide +kernel, by decide +kernel⟩⟩
theorem ca_L_73 {G : Gl} {B : Bx} {cc : ByteArray} {ret : Option FieldType} {fr lo nL : Nat} {mn : String} {hh : List (Nat × Nat × Nat × Nat)} {pc : Nat} {ls : List (Nat × Value)} {st : List Value} {M M1 : Mem} {l0 : Nat} {l1 : Int32} {x : Int32} (e : f_X11_receive l0 l1 M = some (.inl x, M1)) (hd : decode cc pc = .ok (.invokevirtual 73, 3)) (hcat : (st.map fun v => v.category).sum ≤ 8) (hR : 7 + 1 ≤ fr ∧ 8 + (3 + 11) + 110 ≤ lo) (k : V G (RL, cc, ret, fr, lo, nL, mn, hh) B (pc + 3) ls (.int x :: st) M1) : V G (RL, cc, ret, fr, lo, nL, mn, hh) B pc ls (.int l1 :: .ref l0 :: st) M := v_callVi (As := [.int l1]) (k_X11_receive e) wd_L_73 clX11 (kd_X11_receive e) hd rfl rfl hcat hR k
theorem wd_L_76 : wdV RL 76 RX11 yX11_packet cX11_packet 2 (some .int) 1 := ⟨gwi 1082 (by decide +kernel) (by decide +kernel), gwi 1083 (by decide +kernel) (by decide +kernel), gwi 1084 (by decide +kernel) (by decide +kernel), nw_X11, gwi 1085 (by decide +kernel) (by decide +kernel), ⟨rfl, by decide +kernel, by decide +kernel, by decide +kernel⟩⟩
theorem ca_L_76 {G : Gl} {B : Bx} {cc : ByteArray} {ret : Option FieldType} {fr lo nL : Nat} {mn : String} {hh : List (Nat × Nat × Nat × Nat)} {pc : Nat} {ls : List (Nat × Value)} {st : List Value} {M M1 : Mem} {l0 : Nat} {l1 : Int32} {x : Int32} (e : f_X11_packet l0 l1 M = some (.inl x, M1)) (hd : decode cc pc = .ok (.invokevirtual 76, 3)) (hcat : (st.map fun v => v.category).sum ≤ 8) (hR : 7 + 1 ≤ fr ∧ 8 + (2 + 11) + 111 ≤ lo) (k : V G (RL, cc, ret, fr, lo, nL, mn, hh) B (pc + 3) ls (.int x :: st) M1) : V G (RL, cc, ret, fr, lo, nL, mn, hh) B pc ls (.int l1 :: .ref l0 :: st) M := v_callVi (As := [.int l1]) (k_X11_packet e) wd_L_76 clX11 (kd_X11_packet e) hd rfl rfl hcat hR k
theorem wd_L_79 : wdV RL 79 RX11 yX11_topicCharacter cX11_topicCharacter 3 (some .int) 1 := ⟨gwi 1089 (by decide +kernel) (by decide +kernel), gwi 1090 (by decide +kernel) (by decide +kernel), gwi 1091 (by decide +kernel) (by decide +kernel), nw_X11, gwi 1092 (by decide +kernel) (by decide +kernel), ⟨rfl, by decide +kernel, by decide +kernel, by decide +kernel⟩⟩
theorem ca_L_79 {G : Gl} {B : Bx} {cc : ByteArray} {ret : Option FieldType} {fr lo nL : Nat} {mn : String} {hh : List (Nat × Nat × Nat × Nat)} {pc : Nat} {ls : List (Nat × Value)} {st : List Value} {M M1 : Mem} {l0 : Nat} {l1 : Int32} {x : Int32} (e : f_X11_topicCharacter l0 l1 M = some (.inl x, M1)) (hd : decode cc pc = .ok (.invokevirtual 79, 3)) (hcat : (st.map fun v => v.category).sum ≤ 8) (hR : 6 + 1 ≤ fr ∧ 8 + (3 + 11) + 89 ≤ lo) (k : V G (RL, cc, ret, fr, lo, nL, mn, hh) B (pc + 3) ls (.int x :: st) M1) : V G (RL, cc, ret, fr, lo, nL, mn, hh) B pc ls (.int l1 :: .ref l0 :: st) M := v_callVi (As := [.int l1]) (k_X11_topicCharacter e) wd_L_79 clX11 (kd_X11_topicCharacter e) hd rfl rfl hcat hR k
theorem wd_L_82 : wdV RL 82 RX11 yX11_lose cX11_lose 4 (some .int) 1 := ⟨gwi 1096 (by decide +kernel) (by decide +kernel), gwi 1097 (by decide +kernel) (by decide +kernel), gwi 1098 (by decide +kernel) (by decide +kernel), nw_X11, gwi 1099 (by decide +kernel) (by decide +kernel), ⟨rfl, by decide +kernel, by decide +kernel, by decide +kernel⟩⟩
theorem ca_L_82 {G : Gl} {B : Bx} {cc : ByteArray} {ret : Option FieldType} {fr lo nL : Nat} {mn : String} {hh : List (Nat × Nat × Nat × Nat)} {pc : Nat} {ls : List (Nat × Value)} {st : List Value} {M M1 : Mem} {l0 : Nat} {l1 : Int32} {x : Int32} (e : f_X11_lose l0 l1 M = some (.inl x, M1)) (hd : decode cc pc = .ok (.invokevirtual 82, 3)) (hcat : (st.map fun v => v.category).sum ≤ 8) (hR : 7 + 1 ≤ fr ∧ 8 + (4 + 11) + 110 ≤ lo) (k : V G (RL, cc, ret, fr, lo, nL, mn, hh) B (pc + 3) ls (.int x :: st) M1) : V G (RL, cc, ret, fr, lo, nL, mn, hh) B pc ls (.int l1 :: .ref l0 :: st) M := v_callVi (As := [.int l1]) (k_X11_lose e) wd_L_82 clX11 (kd_X11_lose e) hd rfl rfl hcat hR k
theorem wd_L_85 : wdV RL 85 RX11 yX11_repeat cX11_repeat 4 (some .int) 1 := ⟨gwi 1103 (by decide +kernel) (by decide +kernel), gwi 1104 (by decide +kernel) (by decide +kernel), gwi 1105 (by decide +kernel) (by decide +kernel), nw_X11, gwi 1106 (by decide +kernel) (by decide +kernel), ⟨rfl, by decide +kernel, by decide +kernel, by decide +kernel⟩⟩
theorem ca_L_85 {G : Gl} {B : Bx} {cc : ByteArray} {ret : Option FieldType} {fr lo nL : Nat} {mn : String} {hh : List (Nat × Nat × Nat × Nat)} {pc : Nat} {ls : List (Nat × Value)} {st : List Value} {M M1 : Mem} {l0 : Nat} {l1 : Int32} {x : Int32} (e : f_X11_repeat l0 l1 M = some (.inl x, M1)) (hd : decode cc pc = .ok (.invokevirtual 85, 3)) (hcat : (st.map fun v => v.category).sum ≤ 8) (hR : 7 + 1 ≤ fr ∧ 8 + (4 + 11) + 110 ≤ lo) (k : V G (RL, cc, ret, fr, lo, nL, mn, hh) B (pc + 3) ls (.int x :: st) M1) : V G (RL, cc, ret, fr, lo, nL, mn, hh) B pc ls (.int l1 :: .ref l0 :: st) M := v_callVi (As := [.int l1]) (k_X11_repeat e) wd_L_85 clX11 (kd_X11_repeat e) hd rfl rfl hcat hR k
theorem wd_L_88 : wdV RL 88 RX11 yX11_length cX11_length 4 (some .int) 2 := ⟨gwi 1111 (by decide +kernel) (by decide +kernel), gwi 1112 (by decide +kernel) (by decide +kernel), gwi 1113 (by decide +kernel) (by decide +kernel), nw_X11, gwi 1114 (by decide +kernel) (by decide +kernel), ⟨rfl, by decide +kernel, by decide +kernel, by decide +kernel⟩⟩
theorem ca_L_88 {G : Gl} {B : Bx} {cc : ByteArray} {ret : Option FieldType} {fr lo nL : Nat} {mn : String} {hh : List (Nat × Nat × Nat × Nat)} {pc : Nat} {ls : List (Nat × Value)} {st : List Value} {M M1 : Mem} {l0 : Nat} {l1 : Int32} {l2 : Int32} {x : Int32} (e : f_X11_length l0 l1 l2 M = some (.inl x, M1)) (hd : decode cc pc = .ok (.invokevirtual 88, 3)) (hcat : (st.map fun v => v.category).sum ≤ 8) (hR : 7 + 1 ≤ fr ∧ 8 + (4 + 11) + 109 ≤ lo) (k : V G (RL, cc, ret, fr, lo, nL, mn, hh) B (pc + 3) ls (.int x :: st) M1) : V G (RL, cc, ret, fr, lo, nL, mn, hh) B pc ls (.int l2 :: .int l1 :: .ref l0 :: st) M := v_callVi (As := [.int l1, .int l2]) (k_X11_length e) wd_L_88 clX11 (kd_X11_length e) hd rfl rfl hcat hR k
theorem wd_L_91 : wdV RL 91 RX11 yX11_inFlight cX11_inFlight 6 (some .int) 3 := ⟨gwi 1118 (by decide +kernel) (by decide +kernel), gwi 1119 (by decide +kernel) (by decide +kernel), gwi 1120 (by decide +kernel) (by decide +kernel), nw_X11, gwi 1121 (by decide +kernel) (by decide +kernel), ⟨rfl, by decide +kernel, by decide +kernel, by decide +kernel⟩⟩
theorem ca_L_91 {G : Gl} {B : Bx} {cc : ByteArray} {ret : Option FieldType} {fr lo nL : Nat} {mn : String} {hh : List (Nat × Nat × Nat × Nat)} {pc : Nat} {ls : List (Nat × Value)} {st : List Value} {M M1 : Mem} {l0 : Nat} {l1 : Int32} {l2 : Int32} {l3 : Int32} {x : Int32} (e : f_X11_inFlight l0 l1 l2 l3 M = some (.inl x, M1)) (hd : decode cc pc = .ok (.invokevirtual 91, 3)) (hcat : (st.map fun v => v.category).sum ≤ 8) (hR : 7 + 1 ≤ fr ∧ 8 + (6 + 11) + 109 ≤ lo) (k : V G (RL, cc, ret, fr, lo, nL, mn, hh) B (pc + 3) ls (.int x :: st) M1) : V G (RL, cc, ret, fr, lo, nL, mn, hh) B pc ls (.int l3 :: .int l2 :: .int l1 :: .ref l0 :: st) M := v_callVi (As := [.int l1, .int l2, .int l3]) (k_X11_inFlight e) wd_L_91 clX11 (kd_X11_inFlight e) hd rfl rfl hcat hR k
theorem wd_L_94 : wdV RL 94 RX11 yX11_advance cX11_advance 3 (some .int) 1 := ⟨gwi 1125 (by decide +kernel) (by decide +kernel), gwi 1126 (by decide +kernel) (by decide +kernel), gwi 1127 (by decide +kernel) (by decide +kernel), nw_X11, gwi 1128 (by decide +kernel) (by decide +kernel), ⟨rfl, by decide +kernel, by decide +kernel, by decide +kernel⟩⟩
theorem ca_L_94 {G : Gl} {B : Bx} {cc : ByteArray} {ret : Option FieldType} {fr lo nL : Nat} {mn : String} {hh : List (Nat × Nat × Nat × Nat)} {pc : Nat} {ls : List (Nat × Value)} {st : List Value} {M M1 : Mem} {l0 : Nat} {l1 : Int32} {x : Int32} (e : f_X11_advance l0 l1 M = some (.inl x, M1)) (hd : decode cc pc = .ok (.invokevirtual 94, 3)) (hcat : (st.map fun v => v.category).sum ≤ 8) (hR : 7 + 1 ≤ fr ∧ 8 + (3 + 11) + 134 ≤ lo) (k : V G (RL, cc, ret, fr, lo, nL, mn, hh) B (pc + 3) ls (.int x :: st) M1) : V G (RL, cc, ret, fr, lo, nL, mn, hh) B pc ls (.int l1 :: .ref l0 :: st) M := v_callVi (As := [.int l1]) (k_X11_advance e) wd_L_94 clX11 (kd_X11_advance e) hd rfl rfl hcat hR k
theorem wd_L_97 : wdV RL 97 RX11 yX11_load cX11_load 2 (some .int) 1 := ⟨gwi 1146 (by decide +kernel) (by decide +kernel), gwi 1147 (by decide +kernel) (by decide +kernel), gwi 1148 (by decide +kernel) (by decide +kernel), nw_X11, gwi 1149 (by decide +kernel) (by decide +kernel), ⟨rfl, by decide +kernel, by decide +kernel, by decide +kernel⟩⟩
theorem ca_L_97 {G : Gl} {B : Bx} {cc : ByteArray} {ret : Option FieldType} {fr lo nL : Nat} {mn : String} {hh : List (Nat × Nat × Nat × Nat)} {pc : Nat} {ls : List (Nat × Value)} {st : List Value} {M M1 : Mem} {l0 : Nat} {l1 : Int32} {x : Int32} (e : f_X11_load l0 l1 M = some (.inl x, M1)) (hd : decode cc pc = .ok (.invokevirtual 97, 3)) (hcat : (st.map fun v => v.category).sum ≤ 8) (hR : 7 + 1 ≤ fr ∧ 8 + (2 + 11) + 109 ≤ lo) (k : V G (RL, cc, ret, fr, lo, nL, mn, hh) B (pc + 3) ls (.int x :: st) M1) : V G (RL, cc, ret, fr, lo, nL, mn, hh) B pc ls (.int l1 :: .ref l0 :: st) M := v_callVi (As := [.int l1]) (k_X11_load e) wd_L_97 clX11 (kd_X11_load e) hd rfl rfl hcat hR k
theorem wd_L_211 : wdV RL 211 RX11 yX11_retainedCount cX11_retainedCount 1 (some .int) 0 := ⟨gwi 516 (by decide +kernel) (by decide +kernel), gwi 517 (by decide +kernel) (by decide +kernel), gwi 518 (by decide +kernel) (by decide +kernel), nw_X11, gwi 519 (by decide +kernel) (by decide +kernel), ⟨rfl, by decide +kernel, by decide +kernel, by decide +kernel⟩⟩
theorem ca_L_211 {G : Gl} {B : Bx} {cc : ByteArray} {ret : Option FieldType} {fr lo nL : Nat} {mn : String} {hh : List (Nat × Nat × Nat × Nat)} {pc : Nat} {ls : List (Nat × Value)} {st : List Value} {M M1 : Mem} {l0 : Nat} {x : Int32} (e : f_X11_retainedCount l0 M = some (x, M1)) (hd : decode cc pc = .ok (.invokevirtual 211, 3)) (hcat : (st.map fun v => v.category).sum ≤ 8) (hR : 0 + 1 ≤ fr ∧ 8 + (1 + 11) + 0 ≤ lo) (k : V G (RL, cc, ret, fr, lo, nL, mn, hh) B (pc + 3) ls (.int x :: st) M1) : V G (RL, cc, ret, fr, lo, nL, mn, hh) B pc ls (.ref l0 :: st) M := v_callVi (As := []) (k_X11_retainedCount e) wd_L_211 clX11 (kd_X11_retainedCount e) hd rfl rfl hcat hR k
theorem wd_L_100 : wdV RL 100 RX11 yX11_retained cX11_retained 4 (some .int) 2 := ⟨gwi 1154 (by decide +kernel) (by decide +kernel), gwi 1155 (by decide +kernel) (by decide +kernel), gwi 1156 (by decide +kernel) (by decide +kernel), nw_X11, gwi 1157 (by decide +kernel) (by decide +kernel), ⟨rfl, by decide +kernel, by decide +kernel, by decide +kernel⟩⟩
theorem ca_L_100 {G : Gl} {B : Bx} {cc : ByteArray} {ret : Option FieldType} {fr lo nL : Nat} {mn : String} {hh : List (Nat × Nat × Nat × Nat)} {pc : Nat} {ls : List (Nat × Value)} {st : List Value} {M M1 : Mem} {l0 : Nat} {l1 : Int32} {l2 : Int32} {x : Int32} (e : f_X11_retained l0 l1 l2 M = some (.inl x, M1)) (hd : decode cc pc = .ok (.invokevirtual 100, 3)) (hcat : (st.map fun v => v.category).sum ≤ 8) (hR : 6 + 1 ≤ fr ∧ 8 + (4 + 11) + 89 ≤ lo) (k : V G (RL, cc, ret, fr, lo, nL, mn, hh) B (pc + 3) ls (.int x :: st) M1) : V G (RL, cc, ret, fr, lo, nL, mn, hh) B pc ls (.int l2 :: .int l1 :: .ref l0 :: st) M := v_callVi (As := [.int l1, .int l2]) (k_X11_retained e) wd_L_100 clX11 (kd_X11_retained e) hd rfl rfl hcat hR k
theorem wd_L_103 : wdV RL 103 RX11 yX11_published cX11_published 4 (some .int) 0 := ⟨gwi 1161 (by decide +kernel) (by decide +kernel), gwi 1162 (by decide +kernel) (by decide +kernel), gwi 1163 (by decide +kernel) (by decide +kernel), nw_X11, gwi 1164 (by decide +kernel) (by decide +kernel), ⟨rfl, by decide +kernel, by decide +kernel, by decide +kernel⟩⟩
theorem ca_L_103 {G : Gl} {B : Bx} {cc : ByteArray} {ret : Option FieldType} {fr lo nL : Nat} {mn : String} {hh : List (Nat × Nat × Nat × Nat)} {pc : Nat} {ls : List (Nat × Value)} {st : List Value} {M M1 : Mem} {l0 : Nat} {x : Int32} (e : f_X11_published l0 M = some (.inl x, M1)) (hd : decode cc pc = .ok (.invokevirtual 103, 3)) (hcat : (st.map fun v => v.category).sum ≤ 8) (hR : 8 + 1 ≤ fr ∧ 8 + (4 + 11) + 132 ≤ lo) (k : V G (RL, cc, ret, fr, lo, nL, mn, hh) B (pc + 3) ls (.int x :: st) M1) : V G (RL, cc, ret, fr, lo, nL, mn, hh) B pc ls (.ref l0 :: st) M := v_callVi (As := []) (k_X11_published e) wd_L_103 clX11 (kd_X11_published e) hd rfl rfl hcat hR k
theorem wd_L_107 : wdV RL 107 RX11 yX11_total cX11_total 2 (some .int) 1 := ⟨gwi 1169 (by decide +kernel) (by decide +kernel), gwi 1170 (by decide +kernel) (by decide +kernel), gwi 1171 (by decide +kernel) (by decide +kernel), nw_X11, gwi 1172 (by decide +kernel) (by decide +kernel), ⟨rfl, by decide +kernel, by decide +kernel, by decide +kernel⟩⟩
theorem ca_L_107 {G : Gl} {B : Bx} {cc : ByteArray} {ret : Option FieldType} {fr lo nL : Nat} {mn : String} {hh : List (Nat × Nat × Nat × Nat)} {pc : Nat} {ls : List (Nat × Value)} {st : List Value} {M M1 : Mem} {l0 : Nat} {l1 : Int32} {x : Int32} (e : f_X11_total l0 l1 M = some (.inl x, M1)) (hd : decode cc pc = .ok (.invokevirtual 107, 3)) (hcat : (st.map fun v => v.category).sum ≤ 8) (hR : 7 + 1 ≤ fr ∧ 8 + (2 + 11) + 111 ≤ lo) (k : V G (RL, cc, ret, fr, lo, nL, mn, hh) B (pc + 3) ls (.int x :: st) M1) : V G (RL, cc, ret, fr, lo, nL, mn, hh) B pc ls (.int l1 :: .ref l0 :: st) M := v_callVi (As := [.int l1]) (k_X11_total e) wd_L_107 clX11 (kd_X11_total e) hd rfl rfl hcat hR k
theorem wd_L_225 : wdV RL 225 RX11 yX11_save cX11_save 1 (some .int) 0 := ⟨gwi 520 (by decide +kernel) (by decide +kernel), gwi 521 (by decide +kernel) (by decide +kernel), gwi 522 (by decide +kernel) (by decide +kernel), nw_X11, gwi 523 (by decide +kernel) (by decide +kernel), ⟨rfl, by decide +kernel, by decide +kernel, by decide +kernel⟩⟩
theorem ca_L_225 {G : Gl} {B : Bx} {cc : ByteArray} {ret : Option FieldType} {fr lo nL : Nat} {mn : String} {hh : List (Nat × Nat × Nat × Nat)} {pc : Nat} {ls : List (Nat × Value)} {st : List Value} {M M1 : Mem} {l0 : Nat} {x : Int32} (e : f_X11_save l0 M = some (x, M1)) (hd : decode cc pc = .ok (.invokevirtual 225, 3)) (hcat : (st.map fun v => v.category).sum ≤ 8) (hR : 5 + 1 ≤ fr ∧ 8 + (1 + 11) + 108 ≤ lo) (k : V G (RL, cc, ret, fr, lo, nL, mn, hh) B (pc + 3) ls (.int x :: st) M1) : V G (RL, cc, ret, fr, lo, nL, mn, hh) B pc ls (.ref l0 :: st) M := v_callVi (As := []) (k_X11_save e) wd_L_225 clX11 (kd_X11_save e) hd rfl rfl hcat hR k
theorem wd_L_110 : wdV RL 110 RX11 yX11_restore cX11_restore 1 (some .int) 0 := ⟨gwi 1176 (by decide +kernel) (by decide +kernel), gwi 1177 (by decide +kernel) (by decide +kernel), gwi 1178 (by decide +kernel) (by decide +kernel), nw_X11, gwi 1179 (by decide +kernel) (by decide +kernel), ⟨rfl, by decide +kernel, by decide +kernel, by decide +kernel⟩⟩
theorem ca_L_110 {G : Gl} {B : Bx} {cc : ByteArray} {ret : Option FieldType} {fr lo nL : Nat} {mn : String} {hh : List (Nat × Nat × Nat × Nat)} {pc : Nat} {ls : List (Nat × Value)} {st : List Value} {M M1 : Mem} {l0 : Nat} {x : Int32} (e : f_X11_restore l0 M = some (.inl x, M1)) (hd : decode cc pc = .ok (.invokevirtual 110, 3)) (hcat : (st.map fun v => v.category).sum ≤ 8) (hR : 6 + 1 ≤ fr ∧ 8 + (1 + 11) + 108 ≤ lo) (k : V G (RL, cc, ret, fr, lo, nL, mn, hh) B (pc + 3) ls (.int x :: st) M1) : V G (RL, cc, ret, fr, lo, nL, mn, hh) B pc ls (.ref l0 :: st) M := v_callVi (As := []) (k_X11_restore e) wd_L_110 clX11 (kd_X11_restore e) hd rfl rfl hcat hR k
theorem wd_L_116 : wdI RL 116 yX12_init cX12_init 1 0 := ⟨gwi 1182 (by decide +kernel) (by decide +kernel), gwi 1183 (by decide +kernel) (by decide +kernel), nw_X12, gwi 1184 (by decide +kernel) (by decide +kernel), rfl, ⟨by decide +kernel, by decide +kernel, by decide +kernel⟩⟩
theorem ca_L_116 {G : Gl} {B : Bx} {cc : ByteArray} {ret : Option FieldType} {fr lo nL : Nat} {mn : String} {hh : List (Nat × Nat × Nat × Nat)} {pc : Nat} {ls : List (Nat × Value)} {st : List Value} {M M1 : Mem} {l0 : Nat} (e : f_X12_init l0 M = some M1) (hd : decode cc pc = .ok (.invokespecial 116, 3)) (hcat : (st.map fun v => v.category).sum ≤ 8) (hR : 1 + 1 ≤ fr ∧ 8 + (1 + 11) + 20 ≤ lo) (k : V G (RL, cc, ret, fr, lo, nL, mn, hh) B (pc + 3) ls (st) M1) : V G (RL, cc, ret, fr, lo, nL, mn, hh) B pc ls (.ref l0 :: st) M := v_callI (As := []) (k_X12_init e) wd_L_116 hd rfl rfl hcat hR k
theorem wd_L_123 : wdV RL 123 RX12 yX12_thrown cX12_thrown 1 (some .int) 0 := ⟨gwi 1242 (by decide +kernel) (by decide +kernel), gwi 1243 (by decide +kernel) (by decide +kernel), gwi 1244 (by decide +kernel) (by decide +kernel), nw_X12, gwi 1245 (by decide +kernel) (by decide +kernel), ⟨rfl, by decide +kernel, by decide +kernel, by decide +kernel⟩⟩
theorem ca_L_123 {G : Gl} {B : Bx} {cc : ByteArray} {ret : Option FieldType} {fr lo nL : Nat} {mn : String} {hh : List (Nat × Nat × Nat × Nat)} {pc : Nat} {ls : List (Nat × Value)} {st : List Value} {M M1 : Mem} {l0 : Nat} {x : Int32} (e : f_X12_thrown l0 M = some (x, M1)) (hd : decode cc pc = .ok (.invokevirtual 123, 3)) (hcat : (st.map fun v => v.category).sum ≤ 8) (hR : 0 + 1 ≤ fr ∧ 8 + (1 + 11) + 0 ≤ lo) (k : V G (RL, cc, ret, fr, lo, nL, mn, hh) B (pc + 3) ls (.int x :: st) M1) : V G (RL, cc, ret, fr, lo, nL, mn, hh) B pc ls (.ref l0 :: st) M := v_callVi (As := []) (k_X12_thrown e) wd_L_123 clX12 (kd_X12_thrown e) hd rfl rfl hcat hR k
theorem wd_L_122 : wdV RL 122 RX12 yX12_append cX12_append 5 (some .int) 1 := ⟨gwi 1246 (by decide +kernel) (by decide +kernel), gwi 1247 (by decide +kernel) (by decide +kernel), gwi 1248 (by decide +kernel) (by decide +kernel), nw_X12, gwi 1249 (by decide +kernel) (by decide +kernel), ⟨rfl, by decide +kernel, by decide +kernel, by decide +kernel⟩⟩
theorem ca_L_122 {G : Gl} {B : Bx} {cc : ByteArray} {ret : Option FieldType} {fr lo nL : Nat} {mn : String} {hh : List (Nat × Nat × Nat × Nat)} {pc : Nat} {ls : List (Nat × Value)} {st : List Value} {M M1 : Mem} {l0 : Nat} {l1 : Int32} {x : Int32} (e : f_X12_append l0 l1 M = some (x, M1)) (hd : decode cc pc = .ok (.invokevirtual 122, 3)) (hcat : (st.map fun v => v.category).sum ≤ 8) (hR : 1 + 1 ≤ fr ∧ 8 + (5 + 11) + 22 ≤ lo) (k : V G (RL, cc, ret, fr, lo, nL, mn, hh) B (pc + 3) ls (.int x :: st) M1) : V G (RL, cc, ret, fr, lo, nL, mn, hh) B pc ls (.int l1 :: .ref l0 :: st) M := v_callVi (As := [.int l1]) (k_X12_append e) wd_L_122 clX12 (kd_X12_append e) hd rfl rfl hcat hR k
theorem wd_L_129 : wdV RL 129 RX12 yX12_errorPosition cX12_errorPosition 1 (some .int) 0 := ⟨gwi 1257 (by decide +kernel) (by decide +kernel), gwi 1258 (by decide +kernel) (by decide +kernel), gwi 1259 (by decide +kernel) (by decide +kernel), nw_X12, gwi 1260 (by decide +kernel) (by decide +kernel), ⟨rfl, by decide +kernel, by decide +kernel, by decide +kernel⟩⟩
theorem ca_L_129 {G : Gl} {B : Bx} {cc : ByteArray} {ret : Option FieldType} {fr lo nL : Nat} {mn : String} {hh : List (Nat × Nat × Nat × Nat)} {pc : Nat} {ls : List (Nat × Value)} {st : List Value} {M M1 : Mem} {l0 : Nat} {x : Int32} (e : f_X12_errorPosition l0 M = some (x, M1)) (hd : decode cc pc = .ok (.invokevirtual 129, 3)) (hcat : (st.map fun v => v.category).sum ≤ 8) (hR : 0 + 1 ≤ fr ∧ 8 + (1 + 11) + 0 ≤ lo) (k : V G (RL, cc, ret, fr, lo, nL, mn, hh) B (pc + 3) ls (.int x :: st) M1) : V G (RL, cc, ret, fr, lo, nL, mn, hh) B pc ls (.ref l0 :: st) M := v_callVi (As := []) (k_X12_errorPosition e) wd_L_129 clX12 (kd_X12_errorPosition e) hd rfl rfl hcat hR k
theorem wd_L_133 : wdV RL 133 RX12 yX12_setOption cX12_setOption 4 (some .int) 2 := ⟨gwi 1261 (by decide +kernel) (by decide +kernel), gwi 1262 (by decide +kernel) (by decide +kernel), gwi 1263 (by decide +kernel) (by decide +kernel), nw_X12, gwi 1264 (by decide +kernel) (by decide +kernel), ⟨rfl, by decide +kernel, by decide +kernel, by decide +kernel⟩⟩
theorem ca_L_133 {G : Gl} {B : Bx} {cc : ByteArray} {ret : Option FieldType} {fr lo nL : Nat} {mn : String} {hh : List (Nat × Nat × Nat × Nat)} {pc : Nat} {ls : List (Nat × Value)} {st : List Value} {M M1 : Mem} {l0 : Nat} {l1 : Int32} {l2 : Int32} {x : Int32} (e : f_X12_setOption l0 l1 l2 M = some (x, M1)) (hd : decode cc pc = .ok (.invokevirtual 133, 3)) (hcat : (st.map fun v => v.category).sum ≤ 8) (hR : 2 + 1 ≤ fr ∧ 8 + (4 + 11) + 43 ≤ lo) (k : V G (RL, cc, ret, fr, lo, nL, mn, hh) B (pc + 3) ls (.int x :: st) M1) : V G (RL, cc, ret, fr, lo, nL, mn, hh) B pc ls (.int l2 :: .int l1 :: .ref l0 :: st) M := v_callVi (As := [.int l1, .int l2]) (k_X12_setOption e) wd_L_133 clX12 (kd_X12_setOption e) hd rfl rfl hcat hR k
theorem wd_L_137 : wdV RL 137 RX12 yX12_connect cX12_connect 5 (some .int) 2 := ⟨gwi 1268 (by decide +kernel) (by decide +kernel), gwi 1269 (by decide +kernel) (by decide +kernel), gwi 1270 (by decide +kernel) (by decide +kernel), nw_X12, gwi 1271 (by decide +kernel) (by decide +kernel), ⟨rfl, by decide +kernel, by decide +kernel, by decide +kernel⟩⟩
theorem ca_L_137 {G : Gl} {B : Bx} {cc : ByteArray} {ret : Option FieldType} {fr lo nL : Nat} {mn : String} {hh : List (Nat × Nat × Nat × Nat)} {pc : Nat} {ls : List (Nat × Value)} {st : List Value} {M M1 : Mem} {l0 : Nat} {l1 : Int32} {l2 : Int32} {x : Int32} (e : f_X12_connect l0 l1 l2 M = some (x, M1)) (hd : decode cc pc = .ok (.invokevirtual 137, 3)) (hcat : (st.map fun v => v.category).sum ≤ 8) (hR : 7 + 1 ≤ fr ∧ 8 + (5 + 11) + 182 ≤ lo) (k : V G (RL, cc, ret, fr, lo, nL, mn, hh) B (pc + 3) ls (.int x :: st) M1) : V G (RL, cc, ret, fr, lo, nL, mn, hh) B pc ls (.int l2 :: .int l1 :: .ref l0 :: st) M := v_callVi (As := [.int l1, .int l2]) (k_X12_connect e) wd_L_137 clX12 (kd_X12_connect e) hd rfl rfl hcat hR k
theorem wd_L_140 : wdV RL 140 RX12 yX12_disconnect cX12_disconnect 2 (some .int) 1 := ⟨gwi 1400 (by decide +kernel) (by decide +kernel), gwi 1401 (by decide +kernel) (by decide +kernel), gwi 1402 (by decide +kernel) (by decide +kernel), nw_X12, gwi 1403 (by decide +kernel) (by decide +kernel), ⟨rfl, by decide +kernel, by decide +kernel, by decide +kernel⟩⟩
theorem ca_L_140 {G : Gl} {B : Bx} {cc : ByteArray} {ret : Option FieldType} {fr lo nL : Nat} {mn : String} {hh : List (Nat × Nat × Nat × Nat)} {pc : Nat} {ls : List (Nat × Value)} {st : List Value} {M M1 : Mem} {l0 : Nat} {l1 : Int32} {x : Int32} (e : f_X12_disconnect l0 l1 M = some (x, M1)) (hd : decode cc pc = .ok (.invokevirtual 140, 3)) (hcat : (st.map fun v => v.category).sum ≤ 8) (hR : 6 + 1 ≤ fr ∧ 8 + (2 + 11) + 140 ≤ lo) (k : V G (RL, cc, ret, fr, lo, nL, mn, hh) B (pc + 3) ls (.int x :: st) M1) : V G (RL, cc, ret, fr, lo, nL, mn, hh) B pc ls (.int l1 :: .ref l0 :: st) M := v_callVi (As := [.int l1]) (k_X12_disconnect e) wd_L_140 clX12 (kd_X12_disconnect e) hd rfl rfl hcat hR k
theorem wd_L_143 : wdV RL 143 RX12 yX12_breakConnection cX12_breakConnection 2 (some .int) 1 := ⟨gwi 1404 (by decide +kernel) (by decide +kernel), gwi 1405 (by decide +kernel) (by decide +kernel), gwi 1406 (by decide +kernel) (by decide +kernel), nw_X12, gwi 1407 (by decide +kernel) (by decide +kernel), ⟨rfl, by decide +kernel, by decide +kernel, by decide +kernel⟩⟩
theorem ca_L_143 {G : Gl} {B : Bx} {cc : ByteArray} {ret : Option FieldType} {fr lo nL : Nat} {mn : String} {hh : List (Nat × Nat × Nat × Nat)} {pc : Nat} {ls : List (Nat × Value)} {st : List Value} {M M1 : Mem} {l0 : Nat} {l1 : Int32} {x : Int32} (e : f_X12_breakConnection l0 l1 M = some (x, M1)) (hd : decode cc pc = .ok (.invokevirtual 143, 3)) (hcat : (st.map fun v => v.category).sum ≤ 8) (hR : 7 + 1 ≤ fr ∧ 8 + (2 + 11) + 182 ≤ lo) (k : V G (RL, cc, ret, fr, lo, nL, mn, hh) B (pc + 3) ls (.int x :: st) M1) : V G (RL, cc, ret, fr, lo, nL, mn, hh) B pc ls (.int l1 :: .ref l0 :: st) M := v_callVi (As := [.int l1]) (k_X12_breakConnection e) wd_L_143 clX12 (kd_X12_breakConnection e) hd rfl rfl hcat hR k
theorem wd_L_147 : wdV RL 147 RX12 yX12_setWill cX12_setWill 6 (some .int) 4 := ⟨gwi 1408 (by decide +kernel) (by decide +kernel), gwi 1409 (by decide +kernel) (by decide +kernel), gwi 1410 (by decide +kernel) (by decide +kernel), nw_X12, gwi 1411 (by decide +kernel) (by decide +kernel), ⟨rfl, by decide +kernel, by decide +kernel, by decide +kernel⟩⟩
theorem ca_L_147 {G : Gl} {B : Bx} {cc : ByteArray} {ret : Option FieldType} {fr lo nL : Nat} {mn : String} {hh : List (Nat × Nat × Nat × Nat)} {pc : Nat} {ls : List (Nat × Value)} {st : List Value} {M M1 : Mem} {l0 : Nat} {l1 : Int32} {l2 : Int32} {l3 : Int32} {l4 : Int32} {x : Int32} (e : f_X12_setWill l0 l1 l2 l3 l4 M = some (x, M1)) (hd : decode cc pc = .ok (.invokevirtual 147, 3)) (hcat : (st.map fun v => v.category).sum ≤ 8) (hR : 4 + 1 ≤ fr ∧ 8 + (6 + 11) + 93 ≤ lo) (k : V G (RL, cc, ret, fr, lo, nL, mn, hh) B (pc + 3) ls (.int x :: st) M1) : V G (RL, cc, ret, fr, lo, nL, mn, hh) B pc ls (.int l4 :: .int l3 :: .int l2 :: .int l1 :: .ref l0 :: st) M := v_callVi (As := [.int l1, .int l2, .int l3, .int l4]) (k_X12_setWill e) wd_L_147 clX12 (kd_X12_setWill e) hd rfl rfl hcat hR k
theorem wd_L_150 : wdV RL 150 RX12 yX12_sessionState cX12_sessionState 2 (some .int) 1 := ⟨gwi 1428 (by decide +kernel) (by decide +kernel), gwi 1429 (by decide +kernel) (by decide +kernel), gwi 1430 (by decide +kernel) (by decide +kernel), nw_X12, gwi 1431 (by decide +kernel) (by decide +kernel), ⟨rfl, by decide +kernel, by decide +kernel, by decide +kernel⟩⟩
theorem ca_L_150 {G : Gl} {B : Bx} {cc : ByteArray} {ret : Option FieldType} {fr lo nL : Nat} {mn : String} {hh : List (Nat × Nat × Nat × Nat)} {pc : Nat} {ls : List (Nat × Value)} {st : List Value} {M M1 : Mem} {l0 : Nat} {l1 : Int32} {x : Int32} (e : f_X12_sessionState l0 l1 M = some (x, M1)) (hd : decode cc pc = .ok (.invokevirtual 150, 3)) (hcat : (st.map fun v => v.category).sum ≤ 8) (hR : 2 + 1 ≤ fr ∧ 8 + (2 + 11) + 42 ≤ lo) (k : V G (RL, cc, ret, fr, lo, nL, mn, hh) B (pc + 3) ls (.int x :: st) M1) : V G (RL, cc, ret, fr, lo, nL, mn, hh) B pc ls (.int l1 :: .ref l0 :: st) M := v_callVi (As := [.int l1]) (k_X12_sessionState e) wd_L_150 clX12 (kd_X12_sessionState e) hd rfl rfl hcat hR k
theorem wd_L_154 : wdV RL 154 RX12 yX12_subscribe cX12_subscribe 7 (some .int) 4 := ⟨gwi 1432 (by decide +kernel) (by decide +kernel), gwi 1433 (by decide +kernel) (by decide +kernel), gwi 1434 (by decide +kernel) (by decide +kernel), nw_X12, gwi 1435 (by decide +kernel) (by decide +kernel), ⟨rfl, by decide +kernel, by decide +kernel, by decide +kernel⟩⟩
theorem ca_L_154 {G : Gl} {B : Bx} {cc : ByteArray} {ret : Option FieldType} {fr lo nL : Nat} {mn : String} {hh : List (Nat × Nat × Nat × Nat)} {pc : Nat} {ls : List (Nat × Value)} {st : List Value} {M M1 : Mem} {l0 : Nat} {l1 : Int32} {l2 : Int32} {l3 : Int32} {l4 : Int32} {x : Int32} (e : f_X12_subscribe l0 l1 l2 l3 l4 M = some (x, M1)) (hd : decode cc pc = .ok (.invokevirtual 154, 3)) (hcat : (st.map fun v => v.category).sum ≤ 8) (hR : 6 + 1 ≤ fr ∧ 8 + (7 + 11) + 156 ≤ lo) (k : V G (RL, cc, ret, fr, lo, nL, mn, hh) B (pc + 3) ls (.int x :: st) M1) : V G (RL, cc, ret, fr, lo, nL, mn, hh) B pc ls (.int l4 :: .int l3 :: .int l2 :: .int l1 :: .ref l0 :: st) M := v_callVi (As := [.int l1, .int l2, .int l3, .int l4]) (k_X12_subscribe e) wd_L_154 clX12 (kd_X12_subscribe e) hd rfl rfl hcat hR k
theorem wd_L_157 : wdV RL 157 RX12 yX12_unsubscribe cX12_unsubscribe 4 (some .int) 2 := ⟨gwi 1448 (by decide +kernel) (by decide +kernel), gwi 1449 (by decide +kernel) (by decide +kernel), gwi 1450 (by decide +kernel) (by decide +kernel), nw_X12, gwi 1451 (by decide +kernel) (by decide +kernel), ⟨rfl, by decide +kernel, by decide +kernel, by decide +kernel⟩⟩
theorem ca_L_157 {G : Gl} {B : Bx} {cc : ByteArray} {ret : Option FieldType} {fr lo nL : Nat} {mn : String} {hh : List (Nat × Nat × Nat × Nat)} {pc : Nat} {ls : List (Nat × Value)} {st : List Value} {M M1 : Mem} {l0 : Nat} {l1 : Int32} {l2 : Int32} {x : Int32} (e : f_X12_unsubscribe l0 l1 l2 M = some (x, M1)) (hd : decode cc pc = .ok (.invokevirtual 157, 3)) (hcat : (st.map fun v => v.category).sum ≤ 8) (hR : 4 + 1 ≤ fr ∧ 8 + (4 + 11) + 97 ≤ lo) (k : V G (RL, cc, ret, fr, lo, nL, mn, hh) B (pc + 3) ls (.int x :: st) M1) : V G (RL, cc, ret, fr, lo, nL, mn, hh) B pc ls (.int l2 :: .int l1 :: .ref l0 :: st) M := v_callVi (As := [.int l1, .int l2]) (k_X12_unsubscribe e) wd_L_157 clX12 (kd_X12_unsubscribe e) hd rfl rfl hcat hR k
theorem wd_L_161 : wdV RL 161 RX12 yX12_subscription cX12_subscription 4 (some .int) 3 := ⟨gwi 1452 (by decide +kernel) (by decide +kernel), gwi 1453 (by decide +kernel) (by decide +kernel), gwi 1454 (by decide +kernel) (by decide +kernel), nw_X12, gwi 1455 (by decide +kernel) (by decide +kernel), ⟨rfl, by decide +kernel, by decide +kernel, by decide +kernel⟩⟩
theorem ca_L_161 {G : Gl} {B : Bx} {cc : ByteArray} {ret : Option FieldType} {fr lo nL : Nat} {mn : String} {hh : List (Nat × Nat × Nat × Nat)} {pc : Nat} {ls : List (Nat × Value)} {st : List Value} {M M1 : Mem} {l0 : Nat} {l1 : Int32} {l2 : Int32} {l3 : Int32} {x : Int32} (e : f_X12_subscription l0 l1 l2 l3 M = some (x, M1)) (hd : decode cc pc = .ok (.invokevirtual 161, 3)) (hcat : (st.map fun v => v.category).sum ≤ 8) (hR : 3 + 1 ≤ fr ∧ 8 + (4 + 11) + 64 ≤ lo) (k : V G (RL, cc, ret, fr, lo, nL, mn, hh) B (pc + 3) ls (.int x :: st) M1) : V G (RL, cc, ret, fr, lo, nL, mn, hh) B pc ls (.int l3 :: .int l2 :: .int l1 :: .ref l0 :: st) M := v_callVi (As := [.int l1, .int l2, .int l3]) (k_X12_subscription e) wd_L_161 clX12 (kd_X12_subscription e) hd rfl rfl hcat hR k
theorem wd_L_164 : wdV RL 164 RX12 yX12_relation cX12_relation 6 (some .int) 3 := ⟨gwi 1460 (by decide +kernel) (by decide +kernel), gwi 1461 (by decide +kernel) (by decide +kernel), gwi 1462 (by decide +kernel) (by decide +kernel), nw_X12, gwi 1463 (by decide +kernel) (by decide +kernel), ⟨rfl, by decide +kernel, by decide +kernel, by decide +kernel⟩⟩
theorem ca_L_164 {G : Gl} {B : Bx} {cc : ByteArray} {ret : Option FieldType} {fr lo nL : Nat} {mn : String} {hh : List (Nat × Nat × Nat × Nat)} {pc : Nat} {ls : List (Nat × Value)} {st : List Value} {M M1 : Mem} {l0 : Nat} {l1 : Int32} {l2 : Int32} {l3 : Int32} {x : Int32} (e : f_X12_relation l0 l1 l2 l3 M = some (x, M1)) (hd : decode cc pc = .ok (.invokevirtual 164, 3)) (hcat : (st.map fun v => v.category).sum ≤ 8) (hR : 3 + 1 ≤ fr ∧ 8 + (6 + 11) + 69 ≤ lo) (k : V G (RL, cc, ret, fr, lo, nL, mn, hh) B (pc + 3) ls (.int x :: st) M1) : V G (RL, cc, ret, fr, lo, nL, mn, hh) B pc ls (.int l3 :: .int l2 :: .int l1 :: .ref l0 :: st) M := v_callVi (As := [.int l1, .int l2, .int l3]) (k_X12_relation e) wd_L_164 clX12 (kd_X12_relation e) hd rfl rfl hcat hR k
theorem wd_L_167 : wdV RL 167 RX12 yX12_shareSize cX12_shareSize 3 (some .int) 1 := ⟨gwi 1484 (by decide +kernel) (by decide +kernel), gwi 1485 (by decide +kernel) (by decide +kernel), gwi 1486 (by decide +kernel) (by decide +kernel), nw_X12, gwi 1487 (by decide +kernel) (by decide +kernel), ⟨rfl, by decide +kernel, by decide +kernel, by decide +kernel⟩⟩
theorem ca_L_167 {G : Gl} {B : Bx} {cc : ByteArray} {ret : Option FieldType} {fr lo nL : Nat} {mn : String} {hh : List (Nat × Nat × Nat × Nat)} {pc : Nat} {ls : List (Nat × Value)} {st : List Value} {M M1 : Mem} {l0 : Nat} {l1 : Int32} {x : Int32} (e : f_X12_shareSize l0 l1 M = some (x, M1)) (hd : decode cc pc = .ok (.invokevirtual 167, 3)) (hcat : (st.map fun v => v.category).sum ≤ 8) (hR : 4 + 1 ≤ fr ∧ 8 + (3 + 11) + 93 ≤ lo) (k : V G (RL, cc, ret, fr, lo, nL, mn, hh) B (pc + 3) ls (.int x :: st) M1) : V G (RL, cc, ret, fr, lo, nL, mn, hh) B pc ls (.int l1 :: .ref l0 :: st) M := v_callVi (As := [.int l1]) (k_X12_shareSize e) wd_L_167 clX12 (kd_X12_shareSize e) hd rfl rfl hcat hR k
theorem wd_L_170 : wdV RL 170 RX12 yX12_shareMember cX12_shareMember 4 (some .int) 2 := ⟨gwi 1492 (by decide +kernel) (by decide +kernel), gwi 1493 (by decide +kernel) (by decide +kernel), gwi 1494 (by decide +kernel) (by decide +kernel), nw_X12, gwi 1495 (by decide +kernel) (by decide +kernel), ⟨rfl, by decide +kernel, by decide +kernel, by decide +kernel⟩⟩
theorem ca_L_170 {G : Gl} {B : Bx} {cc : ByteArray} {ret : Option FieldType} {fr lo nL : Nat} {mn : String} {hh : List (Nat × Nat × Nat × Nat)} {pc : Nat} {ls : List (Nat × Value)} {st : List Value} {M M1 : Mem} {l0 : Nat} {l1 : Int32} {l2 : Int32} {x : Int32} (e : f_X12_shareMember l0 l1 l2 M = some (x, M1)) (hd : decode cc pc = .ok (.invokevirtual 170, 3)) (hcat : (st.map fun v => v.category).sum ≤ 8) (hR : 4 + 1 ≤ fr ∧ 8 + (4 + 11) + 93 ≤ lo) (k : V G (RL, cc, ret, fr, lo, nL, mn, hh) B (pc + 3) ls (.int x :: st) M1) : V G (RL, cc, ret, fr, lo, nL, mn, hh) B pc ls (.int l2 :: .int l1 :: .ref l0 :: st) M := v_callVi (As := [.int l1, .int l2]) (k_X12_shareMember e) wd_L_170 clX12 (kd_X12_shareMember e) hd rfl rfl hcat hR k
theorem wd_L_174 : wdV RL 174 RX12 yX12_publish cX12_publish 9 (some .int) 5 := ⟨gwi 1496 (by decide +kernel) (by decide +kernel), gwi 1497 (by decide +kernel) (by decide +kernel), gwi 1498 (by decide +kernel) (by decide +kernel), nw_X12, gwi 1499 (by decide +kernel) (by decide +kernel), ⟨rfl, by decide +kernel, by decide +kernel, by decide +kernel⟩⟩
theorem ca_L_174 {G : Gl} {B : Bx} {cc : ByteArray} {ret : Option FieldType} {fr lo nL : Nat} {mn : String} {hh : List (Nat × Nat × Nat × Nat)} {pc : Nat} {ls : List (Nat × Value)} {st : List Value} {M M1 : Mem} {l0 : Nat} {l1 : Int32} {l2 : Int32} {l3 : Int32} {l4 : Int32} {l5 : Int32} {x : Int32} (e : f_X12_publish l0 l1 l2 l3 l4 l5 M = some (x, M1)) (hd : decode cc pc = .ok (.invokevirtual 174, 3)) (hcat : (st.map fun v => v.category).sum ≤ 8) (hR : 6 + 1 ≤ fr ∧ 8 + (9 + 11) + 160 ≤ lo) (k : V G (RL, cc, ret, fr, lo, nL, mn, hh) B (pc + 3) ls (.int x :: st) M1) : V G (RL, cc, ret, fr, lo, nL, mn, hh) B pc ls (.int l5 :: .int l4 :: .int l3 :: .int l2 :: .int l1 :: .ref l0 :: st) M := v_callVi (As := [.int l1, .int l2, .int l3, .int l4, .int l5]) (k_X12_publish e) wd_L_174 clX12 (kd_X12_publish e) hd rfl rfl hcat hR k
theorem wd_L_177 : wdV RL 177 RX12 yX12_release cX12_release 5 (some .int) 2 := ⟨gwi 1500 (by decide +kernel) (by decide +kernel), gwi 1501 (by decide +kernel) (by decide +kernel), gwi 1502 (by decide +kernel) (by decide +kernel), nw_X12, gwi 1503 (by decide +kernel) (by decide +kernel), ⟨rfl, by decide +kernel, by decide +kernel, by decide +kernel⟩⟩
theorem ca_L_177 {G : Gl} {B : Bx} {cc : ByteArray} {ret : Option FieldType} {fr lo nL : Nat} {mn : String} {hh : List (Nat × Nat × Nat × Nat)} {pc : Nat} {ls : List (Nat × Value)} {st : List Value} {M M1 : Mem} {l0 : Nat} {l1 : Int32} {l2 : Int32} {x : Int32} (e : f_X12_release l0 l1 l2 M = some (x, M1)) (hd : decode cc pc = .ok (.invokevirtual 177, 3)) (hcat : (st.map fun v => v.category).sum ≤ 8) (hR : 4 + 1 ≤ fr ∧ 8 + (5 + 11) + 104 ≤ lo) (k : V G (RL, cc, ret, fr, lo, nL, mn, hh) B (pc + 3) ls (.int x :: st) M1) : V G (RL, cc, ret, fr, lo, nL, mn, hh) B pc ls (.int l2 :: .int l1 :: .ref l0 :: st) M := v_callVi (As := [.int l1, .int l2]) (k_X12_release e) wd_L_177 clX12 (kd_X12_release e) hd rfl rfl hcat hR k
theorem wd_L_180 : wdV RL 180 RX12 yX12_answer cX12_answer 7 (some .int) 3 := ⟨gwi 1504 (by decide +kernel) (by decide +kernel), gwi 1505 (by decide +kernel) (by decide +kernel), gwi 1506 (by decide +kernel) (by decide +kernel), nw_X12, gwi 1507 (by decide +kernel) (by decide +kernel), ⟨rfl, by decide +kernel, by decide +kernel, by decide +kernel⟩⟩
theorem ca_L_180 {G : Gl} {B : Bx} {cc : ByteArray} {ret : Option FieldType} {fr lo nL : Nat} {mn : String} {hh : List (Nat × Nat × Nat × Nat)} {pc : Nat} {ls : List (Nat × Value)} {st : List Value} {M M1 : Mem} {l0 : Nat} {l1 : Int32} {l2 : Int32} {l3 : Int32} {x : Int32} (e : f_X12_answer l0 l1 l2 l3 M = some (x, M1)) (hd : decode cc pc = .ok (.invokevirtual 180, 3)) (hcat : (st.map fun v => v.category).sum ≤ 8) (hR : 6 + 1 ≤ fr ∧ 8 + (7 + 11) + 154 ≤ lo) (k : V G (RL, cc, ret, fr, lo, nL, mn, hh) B (pc + 3) ls (.int x :: st) M1) : V G (RL, cc, ret, fr, lo, nL, mn, hh) B pc ls (.int l3 :: .int l2 :: .int l1 :: .ref l0 :: st) M := v_callVi (As := [.int l1, .int l2, .int l3]) (k_X12_answer e) wd_L_180 clX12 (kd_X12_answer e) hd rfl rfl hcat hR k
theorem wd_L_183 : wdV RL 183 RX12 yX12_audience cX12_audience 4 (some .int) 1 := ⟨gwi 1516 (by decide +kernel) (by decide +kernel), gwi 1517 (by decide +kernel) (by decide +kernel), gwi 1518 (by decide +kernel) (by decide +kernel), nw_X12, gwi 1519 (by decide +kernel) (by decide +kernel), ⟨rfl, by decide +kernel, by decide +kernel, by decide +kernel⟩⟩
theorem ca_L_183 {G : Gl} {B : Bx} {cc : ByteArray} {ret : Option FieldType} {fr lo nL : Nat} {mn : String} {hh : List (Nat × Nat × Nat × Nat)} {pc : Nat} {ls : List (Nat × Value)} {st : List Value} {M M1 : Mem} {l0 : Nat} {l1 : Int32} {x : Int32} (e : f_X12_audience l0 l1 M = some (x, M1)) (hd : decode cc pc = .ok (.invokevirtual 183, 3)) (hcat : (st.map fun v => v.category).sum ≤ 8) (hR : 4 + 1 ≤ fr ∧ 8 + (4 + 11) + 93 ≤ lo) (k : V G (RL, cc, ret, fr, lo, nL, mn, hh) B (pc + 3) ls (.int x :: st) M1) : V G (RL, cc, ret, fr, lo, nL, mn, hh) B pc ls (.int l1 :: .ref l0 :: st) M := v_callVi (As := [.int l1]) (k_X12_audience e) wd_L_183 clX12 (kd_X12_audience e) hd rfl rfl hcat hR k
theorem wd_L_186 : wdV RL 186 RX12 yX12_receive cX12_receive 5 (some .int) 1 := ⟨gwi 1520 (by decide +kernel) (by decide +kernel), gwi 1521 (by decide +kernel) (by decide +kernel), gwi 1522 (by decide +kernel) (by decide +kernel), nw_X12, gwi 1523 (by decide +kernel) (by decide +kernel), ⟨rfl, by decide +kernel, by decide +kernel, by decide +kernel⟩⟩
theorem ca_L_186 {G : Gl} {B : Bx} {cc : ByteArray} {ret : Option FieldType} {fr lo nL : Nat} {mn : String} {hh : List (Nat × Nat × Nat × Nat)} {pc : Nat} {ls : List (Nat × Value)} {st : List Value} {M M1 : Mem} {l0 : Nat} {l1 : Int32} {x : Int32} (e : f_X12_receive l0 l1 M = some (x, M1)) (hd : decode cc pc = .ok (.invokevirtual 186, 3)) (hcat : (st.map fun v => v.category).sum ≤ 8) (hR : 3 + 1 ≤ fr ∧ 8 + (5 + 11) + 63 ≤ lo) (k : V G (RL, cc, ret, fr, lo, nL, mn, hh) B (pc + 3) ls (.int x :: st) M1) : V G (RL, cc, ret, fr, lo, nL, mn, hh) B pc ls (.int l1 :: .ref l0 :: st) M := v_callVi (As := [.int l1]) (k_X12_receive e) wd_L_186 clX12 (kd_X12_receive e) hd rfl rfl hcat hR k
theorem wd_L_189 : wdV RL 189 RX12 yX12_packet cX12_packet 2 (some .int) 1 := ⟨gwi 1538 (by decide +kernel) (by decide +kernel), gwi 1539 (by decide +kernel) (by decide +kernel), gwi 1540 (by decide +kernel) (by decide +kernel), nw_X12, gwi 1541 (by decide +kernel) (by decide +kernel), ⟨rfl, by decide +kernel, by decide +kernel, by decide +kernel⟩⟩
theorem ca_L_189 {G : Gl} {B : Bx} {cc : ByteArray} {ret : Option FieldType} {fr lo nL : Nat} {mn : String} {hh : List (Nat × Nat × Nat × Nat)} {pc : Nat} {ls : List (Nat × Value)} {st : List Value} {M M1 : Mem} {l0 : Nat} {l1 : Int32} {x : Int32} (e : f_X12_packet l0 l1 M = some (x, M1)) (hd : decode cc pc = .ok (.invokevirtual 189, 3)) (hcat : (st.map fun v => v.category).sum ≤ 8) (hR : 1 + 1 ≤ fr ∧ 8 + (2 + 11) + 22 ≤ lo) (k : V G (RL, cc, ret, fr, lo, nL, mn, hh) B (pc + 3) ls (.int x :: st) M1) : V G (RL, cc, ret, fr, lo, nL, mn, hh) B pc ls (.int l1 :: .ref l0 :: st) M := v_callVi (As := [.int l1]) (k_X12_packet e) wd_L_189 clX12 (kd_X12_packet e) hd rfl rfl hcat hR k
theorem wd_L_192 : wdV RL 192 RX12 yX12_topicCharacter cX12_topicCharacter 2 (some .int) 1 := ⟨gwi 1542 (by decide +kernel) (by decide +kernel), gwi 1543 (by decide +kernel) (by decide +kernel), gwi 1544 (by decide +kernel) (by decide +kernel), nw_X12, gwi 1545 (by decide +kernel) (by decide +kernel), ⟨rfl, by decide +kernel, by decide +kernel, by decide +kernel⟩⟩
theorem ca_L_192 {G : Gl} {B : Bx} {cc : ByteArray} {ret : Option FieldType} {fr lo nL : Nat} {mn : String} {hh : List (Nat × Nat × Nat × Nat)} {pc : Nat} {ls : List (Nat × Value)} {st : List Value} {M M1 : Mem} {l0 : Nat} {l1 : Int32} {x : Int32} (e : f_X12_topicCharacter l0 l1 M = some (x, M1)) (hd : decode cc pc = .ok (.invokevirtual 192, 3)) (hcat : (st.map fun v => v.category).sum ≤ 8) (hR : 2 + 1 ≤ fr ∧ 8 + (2 + 11) + 51 ≤ lo) (k : V G (RL, cc, ret, fr, lo, nL, mn, hh) B (pc + 3) ls (.int x :: st) M1) : V G (RL, cc, ret, fr, lo, nL, mn, hh) B pc ls (.int l1 :: .ref l0 :: st) M := v_callVi (As := [.int l1]) (k_X12_topicCharacter e) wd_L_192 clX12 (kd_X12_topicCharacter e) hd rfl rfl hcat hR k
theorem wd_L_195 : wdV RL 195 RX12 yX12_lose cX12_lose 4 (some .int) 1 := ⟨gwi 1549 (by decide +kernel) (by decide +kernel), gwi 1550 (by decide +kernel) (by decide +kernel), gwi 1551 (by decide +kernel) (by decide +kernel), nw_X12, gwi 1552 (by decide +kernel) (by decide +kernel), ⟨rfl, by decide +kernel, by decide +kernel, by decide +kernel⟩⟩
theorem ca_L_195 {G : Gl} {B : Bx} {cc : ByteArray} {ret : Option FieldType} {fr lo nL : Nat} {mn : String} {hh : List (Nat × Nat × Nat × Nat)} {pc : Nat} {ls : List (Nat × Value)} {st : List Value} {M M1 : Mem} {l0 : Nat} {l1 : Int32} {x : Int32} (e : f_X12_lose l0 l1 M = some (x, M1)) (hd : decode cc pc = .ok (.invokevirtual 195, 3)) (hcat : (st.map fun v => v.category).sum ≤ 8) (hR : 3 + 1 ≤ fr ∧ 8 + (4 + 11) + 63 ≤ lo) (k : V G (RL, cc, ret, fr, lo, nL, mn, hh) B (pc + 3) ls (.int x :: st) M1) : V G (RL, cc, ret, fr, lo, nL, mn, hh) B pc ls (.int l1 :: .ref l0 :: st) M := v_callVi (As := [.int l1]) (k_X12_lose e) wd_L_195 clX12 (kd_X12_lose e) hd rfl rfl hcat hR k
theorem wd_L_198 : wdV RL 198 RX12 yX12_repeat cX12_repeat 4 (some .int) 1 := ⟨gwi 1553 (by decide +kernel) (by decide +kernel), gwi 1554 (by decide +kernel) (by decide +kernel), gwi 1555 (by decide +kernel) (by decide +kernel), nw_X12, gwi 1556 (by decide +kernel) (by decide +kernel), ⟨rfl, by decide +kernel, by decide +kernel, by decide +kernel⟩⟩
theorem ca_L_198 {G : Gl} {B : Bx} {cc : ByteArray} {ret : Option FieldType} {fr lo nL : Nat} {mn : String} {hh : List (Nat × Nat × Nat × Nat)} {pc : Nat} {ls : List (Nat × Value)} {st : List Value} {M M1 : Mem} {l0 : Nat} {l1 : Int32} {x : Int32} (e : f_X12_repeat l0 l1 M = some (x, M1)) (hd : decode cc pc = .ok (.invokevirtual 198, 3)) (hcat : (st.map fun v => v.category).sum ≤ 8) (hR : 3 + 1 ≤ fr ∧ 8 + (4 + 11) + 63 ≤ lo) (k : V G (RL, cc, ret, fr, lo, nL, mn, hh) B (pc + 3) ls (.int x :: st) M1) : V G (RL, cc, ret, fr, lo, nL, mn, hh) B pc ls (.int l1 :: .ref l0 :: st) M := v_callVi (As := [.int l1]) (k_X12_repeat e) wd_L_198 clX12 (kd_X12_repeat e) hd rfl rfl hcat hR k
theorem wd_L_201 : wdV RL 201 RX12 yX12_length cX12_length 3 (some .int) 2 := ⟨gwi 1557 (by decide +kernel) (by decide +kernel), gwi 1558 (by decide +kernel) (by decide +kernel), gwi 1559 (by decide +kernel) (by decide +kernel), nw_X12, gwi 1560 (by decide +kernel) (by decide +kernel), ⟨rfl, by decide +kernel, by decide +kernel, by decide +kernel⟩⟩
theorem ca_L_201 {G : Gl} {B : Bx} {cc : ByteArray} {ret : Option FieldType} {fr lo nL : Nat} {mn : String} {hh : List (Nat × Nat × Nat × Nat)} {pc : Nat} {ls : List (Nat × Value)} {st : List Value} {M M1 : Mem} {l0 : Nat} {l1 : Int32} {l2 : Int32} {x : Int32} (e : f_X12_length l0 l1 l2 M = some (x, M1)) (hd : decode cc pc = .ok (.invokevirtual 201, 3)) (hcat : (st.map fun v => v.category).sum ≤ 8) (hR : 2 + 1 ≤ fr ∧ 8 + (3 + 11) + 42 ≤ lo) (k : V G (RL, cc, ret, fr, lo, nL, mn, hh) B (pc + 3) ls (.int x :: st) M1) : V G (RL, cc, ret, fr, lo, nL, mn, hh) B pc ls (.int l2 :: .int l1 :: .ref l0 :: st) M := v_callVi (As := [.int l1, .int l2]) (k_X12_length e) wd_L_201 clX12 (kd_X12_length e) hd rfl rfl hcat hR k
theorem wd_L_204 : wdV RL 204 RX12 yX12_inFlight cX12_inFlight 5 (some .int) 3 := ⟨gwi 1565 (by decide +kernel) (by decide +kernel), gwi 1566 (by decide +kernel) (by decide +kernel), gwi 1567 (by decide +kernel) (by decide +kernel), nw_X12, gwi 1568 (by decide +kernel) (by decide +kernel), ⟨rfl, by decide +kernel, by decide +kernel, by decide +kernel⟩⟩
theorem ca_L_204 {G : Gl} {B : Bx} {cc : ByteArray} {ret : Option FieldType} {fr lo nL : Nat} {mn : String} {hh : List (Nat × Nat × Nat × Nat)} {pc : Nat} {ls : List (Nat × Value)} {st : List Value} {M M1 : Mem} {l0 : Nat} {l1 : Int32} {l2 : Int32} {l3 : Int32} {x : Int32} (e : f_X12_inFlight l0 l1 l2 l3 M = some (x, M1)) (hd : decode cc pc = .ok (.invokevirtual 204, 3)) (hcat : (st.map fun v => v.category).sum ≤ 8) (hR : 2 + 1 ≤ fr ∧ 8 + (5 + 11) + 42 ≤ lo) (k : V G (RL, cc, ret, fr, lo, nL, mn, hh) B (pc + 3) ls (.int x :: st) M1) : V G (RL, cc, ret, fr, lo, nL, mn, hh) B pc ls (.int l3 :: .int l2 :: .int l1 :: .ref l0 :: st) M := v_callVi (As := [.int l1, .int l2, .int l3]) (k_X12_inFlight e) wd_L_204 clX12 (kd_X12_inFlight e) hd rfl rfl hcat hR k
theorem wd_L_207 : wdV RL 207 RX12 yX12_advance cX12_advance 3 (some .int) 1 := ⟨gwi 1569 (by decide +kernel) (by decide +kernel), gwi 1570 (by decide +kernel) (by decide +kernel), gwi 1571 (by decide +kernel) (by decide +kernel), nw_X12, gwi 1572 (by decide +kernel) (by decide +kernel), ⟨rfl, by decide +kernel, by decide +kernel, by decide +kernel⟩⟩
theorem ca_L_207 {G : Gl} {B : Bx} {cc : ByteArray} {ret : Option FieldType} {fr lo nL : Nat} {mn : String} {hh : List (Nat × Nat × Nat × Nat)} {pc : Nat} {ls : List (Nat × Value)} {st : List Value} {M M1 : Mem} {l0 : Nat} {l1 : Int32} {x : Int32} (e : f_X12_advance l0 l1 M = some (x, M1)) (hd : decode cc pc = .ok (.invokevirtual 207, 3)) (hcat : (st.map fun v => v.category).sum ≤ 8) (hR : 7 + 1 ≤ fr ∧ 8 + (3 + 11) + 170 ≤ lo) (k : V G (RL, cc, ret, fr, lo, nL, mn, hh) B (pc + 3) ls (.int x :: st) M1) : V G (RL, cc, ret, fr, lo, nL, mn, hh) B pc ls (.int l1 :: .ref l0 :: st) M := v_callVi (As := [.int l1]) (k_X12_advance e) wd_L_207 clX12 (kd_X12_advance e) hd rfl rfl hcat hR k
theorem wd_L_210 : wdV RL 210 RX12 yX12_load cX12_load 2 (some .int) 1 := ⟨gwi 1583 (by decide +kernel) (by decide +kernel), gwi 1584 (by decide +kernel) (by decide +kernel), gwi 1585 (by decide +kernel) (by decide +kernel), nw_X12, gwi 1586 (by decide +kernel) (by decide +kernel), ⟨rfl, by decide +kernel, by decide +kernel, by decide +kernel⟩⟩
theorem ca_L_210 {G : Gl} {B : Bx} {cc : ByteArray} {ret : Option FieldType} {fr lo nL : Nat} {mn : String} {hh : List (Nat × Nat × Nat × Nat)} {pc : Nat} {ls : List (Nat × Value)} {st : List Value} {M M1 : Mem} {l0 : Nat} {l1 : Int32} {x : Int32} (e : f_X12_load l0 l1 M = some (x, M1)) (hd : decode cc pc = .ok (.invokevirtual 210, 3)) (hcat : (st.map fun v => v.category).sum ≤ 8) (hR : 2 + 1 ≤ fr ∧ 8 + (2 + 11) + 42 ≤ lo) (k : V G (RL, cc, ret, fr, lo, nL, mn, hh) B (pc + 3) ls (.int x :: st) M1) : V G (RL, cc, ret, fr, lo, nL, mn, hh) B pc ls (.int l1 :: .ref l0 :: st) M := v_callVi (As := [.int l1]) (k_X12_load e) wd_L_210 clX12 (kd_X12_load e) hd rfl rfl hcat hR k
theorem wd_L_214 : wdV RL 214 RX12 yX12_retainedCount cX12_retainedCount 1 (some .int) 0 := ⟨gwi 1588 (by decide +kernel) (by decide +kernel), gwi 1589 (by decide +kernel) (by decide +kernel), gwi 1590 (by decide +kernel) (by decide +kernel), nw_X12, gwi 1591 (by decide +kernel) (by decide +kernel), ⟨rfl, by decide +kernel, by decide +kernel, by decide +kernel⟩⟩
theorem ca_L_214 {G : Gl} {B : Bx} {cc : ByteArray} {ret : Option FieldType} {fr lo nL : Nat} {mn : String} {hh : List (Nat × Nat × Nat × Nat)} {pc : Nat} {ls : List (Nat × Value)} {st : List Value} {M M1 : Mem} {l0 : Nat} {x : Int32} (e : f_X12_retainedCount l0 M = some (x, M1)) (hd : decode cc pc = .ok (.invokevirtual 214, 3)) (hcat : (st.map fun v => v.category).sum ≤ 8) (hR : 0 + 1 ≤ fr ∧ 8 + (1 + 11) + 0 ≤ lo) (k : V G (RL, cc, ret, fr, lo, nL, mn, hh) B (pc + 3) ls (.int x :: st) M1) : V G (RL, cc, ret, fr, lo, nL, mn, hh) B pc ls (.ref l0 :: st) M := v_callVi (As := []) (k_X12_retainedCount e) wd_L_214 clX12 (kd_X12_retainedCount e) hd rfl rfl hcat hR k
theorem wd_L_217 : wdV RL 217 RX12 yX12_retained cX12_retained 3 (some .int) 2 := ⟨gwi 1592 (by decide +kernel) (by decide +kernel), gwi 1593 (by decide +kernel) (by decide +kernel), gwi 1594 (by decide +kernel) (by decide +kernel), nw_X12, gwi 1595 (by decide +kernel) (by decide +kernel), ⟨rfl, by decide +kernel, by decide +kernel, by decide +kernel⟩⟩
theorem ca_L_217 {G : Gl} {B : Bx} {cc : ByteArray} {ret : Option FieldType} {fr lo nL : Nat} {mn : String} {hh : List (Nat × Nat × Nat × Nat)} {pc : Nat} {ls : List (Nat × Value)} {st : List Value} {M M1 : Mem} {l0 : Nat} {l1 : Int32} {l2 : Int32} {x : Int32} (e : f_X12_retained l0 l1 l2 M = some (x, M1)) (hd : decode cc pc = .ok (.invokevirtual 217, 3)) (hcat : (st.map fun v => v.category).sum ≤ 8) (hR : 2 + 1 ≤ fr ∧ 8 + (3 + 11) + 48 ≤ lo) (k : V G (RL, cc, ret, fr, lo, nL, mn, hh) B (pc + 3) ls (.int x :: st) M1) : V G (RL, cc, ret, fr, lo, nL, mn, hh) B pc ls (.int l2 :: .int l1 :: .ref l0 :: st) M := v_callVi (As := [.int l1, .int l2]) (k_X12_retained e) wd_L_217 clX12 (kd_X12_retained e) hd rfl rfl hcat hR k
theorem wd_L_221 : wdV RL 221 RX12 yX12_published cX12_published 2 (some .int) 0 := ⟨gwi 1596 (by decide +kernel) (by decide +kernel), gwi 1597 (by decide +kernel) (by decide +kernel), gwi 1598 (by decide +kernel) (by decide +kernel), nw_X12, gwi 1599 (by decide +kernel) (by decide +kernel), ⟨rfl, by decide +kernel, by decide +kernel, by decide +kernel⟩⟩
theorem ca_L_221 {G : Gl} {B : Bx} {cc : ByteArray} {ret : Option FieldType} {fr lo nL : Nat} {mn : String} {hh : List (Nat × Nat × Nat × Nat)} {pc : Nat} {ls : List (Nat × Value)} {st : List Value} {M M1 : Mem} {l0 : Nat} {x : Int32} (e : f_X12_published l0 M = some (x, M1)) (hd : decode cc pc = .ok (.invokevirtual 221, 3)) (hcat : (st.map fun v => v.category).sum ≤ 8) (hR : 4 + 1 ≤ fr ∧ 8 + (2 + 11) + 93 ≤ lo) (k : V G (RL, cc, ret, fr, lo, nL, mn, hh) B (pc + 3) ls (.int x :: st) M1) : V G (RL, cc, ret, fr, lo, nL, mn, hh) B pc ls (.ref l0 :: st) M := v_callVi (As := []) (k_X12_published e) wd_L_221 clX12 (kd_X12_published e) hd rfl rfl hcat hR k
theorem wd_L_224 : wdV RL 224 RX12 yX12_total cX12_total 2 (some .int) 1 := ⟨gwi 1600 (by decide +kernel) (by decide +kernel), gwi 1601 (by decide +kernel) (by decide +kernel), gwi 1602 (by decide +kernel) (by decide +kernel), nw_X12, gwi 1603 (by decide +kernel) (by decide +kernel), ⟨rfl, by decide +kernel, by decide +kernel, by decide +kernel⟩⟩
theorem ca_L_224 {G : Gl} {B : Bx} {cc : ByteArray} {ret : Option FieldType} {fr lo nL : Nat} {mn : String} {hh : List (Nat × Nat × Nat × Nat)} {pc : Nat} {ls : List (Nat × Value)} {st : List Value} {M M1 : Mem} {l0 : Nat} {l1 : Int32} {x : Int32} (e : f_X12_total l0 l1 M = some (x, M1)) (hd : decode cc pc = .ok (.invokevirtual 224, 3)) (hcat : (st.map fun v => v.category).sum ≤ 8) (hR : 1 + 1 ≤ fr ∧ 8 + (2 + 11) + 22 ≤ lo) (k : V G (RL, cc, ret, fr, lo, nL, mn, hh) B (pc + 3) ls (.int x :: st) M1) : V G (RL, cc, ret, fr, lo, nL, mn, hh) B pc ls (.int l1 :: .ref l0 :: st) M := v_callVi (As := [.int l1]) (k_X12_total e) wd_L_224 clX12 (kd_X12_total e) hd rfl rfl hcat hR k
theorem wd_L_228 : wdV RL 228 RX12 yX12_save cX12_save 2 (some .int) 0 := ⟨gwi 1604 (by decide +kernel) (by decide +kernel), gwi 1605 (by decide +kernel) (by decide +kernel), gwi 1606 (by decide +kernel) (by decide +kernel), nw_X12, gwi 1607 (by decide +kernel) (by decide +kernel), ⟨rfl, by decide +kernel, by decide +kernel, by decide +kernel⟩⟩
theorem ca_L_228 {G : Gl} {B : Bx} {cc : ByteArray} {ret : Option FieldType} {fr lo nL : Nat} {mn : String} {hh : List (Nat × Nat × Nat × Nat)} {pc : Nat} {ls : List (Nat × Value)} {st : List Value} {M M1 : Mem} {l0 : Nat} {x : Int32} (e : f_X12_save l0 M = some (x, M1)) (hd : decode cc pc = .ok (.invokevirtual 228, 3)) (hcat : (st.map fun v => v.category).sum ≤ 8) (hR : 0 + 1 ≤ fr ∧ 8 + (2 + 11) + 0 ≤ lo) (k : V G (RL, cc, ret, fr, lo, nL, mn, hh) B (pc + 3) ls (.int x :: st) M1) : V G (RL, cc, ret, fr, lo, nL, mn, hh) B pc ls (.ref l0 :: st) M := v_callVi (As := []) (k_X12_save e) wd_L_228 clX12 (kd_X12_save e) hd rfl rfl hcat hR k
theorem wd_L_231 : wdV RL 231 RX12 yX12_restore cX12_restore 2 (some .int) 0 := ⟨gwi 1608 (by decide +kernel) (by decide +kernel), gwi 1609 (by decide +kernel) (by decide +kernel), gwi 1610 (by decide +kernel) (by decide +kernel), nw_X12, gwi 1611 (by decide +kernel) (by decide +kernel), ⟨rfl, by decide +kernel, by decide +kernel, by decide +kernel⟩⟩
theorem ca_L_231 {G : Gl} {B : Bx} {cc : ByteArray} {ret : Option FieldType} {fr lo nL : Nat} {mn : String} {hh : List (Nat × Nat × Nat × Nat)} {pc : Nat} {ls : List (Nat × Value)} {st : List Value} {M M1 : Mem} {l0 : Nat} {x : Int32} (e : f_X12_restore l0 M = some (x, M1)) (hd : decode cc pc = .ok (.invokevirtual 231, 3)) (hcat : (st.map fun v => v.category).sum ≤ 8) (hR : 1 + 1 ≤ fr ∧ 8 + (2 + 11) + 21 ≤ lo) (k : V G (RL, cc, ret, fr, lo, nL, mn, hh) B (pc + 3) ls (.int x :: st) M1) : V G (RL, cc, ret, fr, lo, nL, mn, hh) B pc ls (.ref l0 :: st) M := v_callVi (As := []) (k_X12_restore e) wd_L_231 clX12 (kd_X12_restore e) hd rfl rfl hcat hR k
set_option maxHeartbeats 4000000 in
set_option maxRecDepth 100000 in
theorem w_L_append {G : Gl} {ρ0 : Nat → Nat} {M0 MF : Mem} {r : Int32} (l0 : Nat) (l1 : Int32) (l2 : Nat) (M : Mem) (h : f_L_append l0 l1 l2 M = some (r, MF)) : V G (RL, cL_append, (some .int), 7, 113, 4, "append", [((0 : Nat), (9 : Nat), (12 : Nat), (13 : Nat)), ((0 : Nat), (9 : Nat), (15 : Nat), (15 : Nat))]) (ρ0, M0, cvI r, MF) 0 [(0, .ref l0), (1, .int l1), (2, .ref l2)] [] M := by
  unfold f_L_append at h
  refine v_aload_n dL_append_0 rfl 2 rfl ?_
  refine v_iconst (v := 0) dL_append_1 ci_0 ?_
  refine v_aload_n dL_append_2 rfl 0 rfl ?_
  refine v_iload_n dL_append_3 rfl 1 rfl ?_
  rcases bindH_some h with ⟨v2, M1, e, h⟩ | ⟨e9, M1, e, h⟩
  · refine ca_L_7 e dL_append_4 (Nat.le_of_ble_eq_true rfl) (by decide) ?_
    refine v_i2l dL_append_7 ?_
    obtain ⟨M3, e, h⟩ := bind_some h
    refine v_lastore dL_append_8 e ?_
    refine v_goto (tgt := 18) dL_append_9 (by decide) ?_
    refine v_iconst (v := 0) dL_append_18 ci_0 ?_
    cases h
    exact v_ireturn dL_append_19
  · rcases Decidable.em (e9 = 1) with c9 | c9
    · subst c9
      replace h := ifP rfl h
      refine v_catch_n (e := 1) (hpc := 12) (ls' := [(0, .ref l0), (1, .int l1), (2, .ref l2)]) (As := [.int l1]) (k_X11_append e) wd_L_7 clX11 (kd_X11_append e) dL_append_4 rfl rfl (Nat.le_of_ble_eq_true rfl) (by decide) [] (0, 9, 12, 13) [(0, 9, 15, 15)] rfl (by decide) rfl (by decide) (fun _ hz => nomatch hz) lcw_13 lca_1 dL_append_12 rfl (by decide) rfl ?_
      refine v_iconst (v := 1) dL_append_13 ci_1 ?_
      cases h
      exact v_ireturn dL_append_14
    replace h := ifN c9 h
    rcases Decidable.em (e9 = 2) with c9 | c9
    · subst c9
      replace h := ifP rfl h
      refine v_catch_n (e := 2) (hpc := 15) (ls' := [(0, .ref l0), (1, .int l1), (2, .ref l2)]) (As := [.int l1]) (k_X11_append e) wd_L_7 clX11 (kd_X11_append e) dL_append_4 rfl rfl (Nat.le_of_ble_eq_true rfl) (by decide) [(0, 9, 12, 13)] (0, 9, 15, 15) [] rfl (by decide) rfl (by decide) (hp_2_13 rfl) lcw_15 lca_2 dL_append_15 rfl (by decide) rfl ?_
      refine v_iconst (v := 2) dL_append_16 ci_2 ?_
      cases h
      exact v_ireturn dL_append_17
    replace h := ifN c9 h
    cases h
theorem k_L_append {G : Gl} {l0 : Nat} {l1 : Int32} {l2 : Nat} {M MF : Mem} {r : Int32} (h : f_L_append l0 l1 l2 M = some (r, MF)) : CtrW G yL_append cL_append 4 (some .int) [((0 : Nat), (9 : Nat), (12 : Nat), (13 : Nat)), ((0 : Nat), (9 : Nat), (15 : Nat), (15 : Nat))] 7 113 [.ref l0, .int l1, .ref l2] M (cvI r) MF :=
  ctrW_of (by decide +kernel) (Nat.le_of_ble_eq_true rfl) (fun ρ => w_L_append l0 l1 l2 M h)
theorem wd_L_117 : wdW RL 117 yL_append cL_append 4 (some .int) [((0 : Nat), (9 : Nat), (12 : Nat), (13 : Nat)), ((0 : Nat), (9 : Nat), (15 : Nat), (15 : Nat))] 3 := ⟨gwi 566 (by decide +kernel) (by decide +kernel), gwi 567 (by decide +kernel) (by decide +kernel), gwi 75 (by decide +kernel) (by decide +kernel), gwi 568 (by decide +kernel) (by decide +kernel), ⟨by decide +kernel, by decide +kernel, by decide +kernel⟩⟩
theorem ca_L_117 {G : Gl} {B : Bx} {cc : ByteArray} {ret : Option FieldType} {fr lo nL : Nat} {mn : String} {hh : List (Nat × Nat × Nat × Nat)} {pc : Nat} {ls : List (Nat × Value)} {st : List Value} {M M1 : Mem} {l0 : Nat} {l1 : Int32} {l2 : Nat} {x : Int32} (e : f_L_append l0 l1 l2 M = some (x, M1)) (hd : decode cc pc = .ok (.invokestatic 117, 3)) (hcat : (st.map fun v => v.category).sum ≤ 8) (hR : 7 + 1 ≤ fr ∧ 8 + (4 + 11) + 113 ≤ lo) (k : V G (RL, cc, ret, fr, lo, nL, mn, hh) B (pc + 3) ls (.int x :: st) M1) : V G (RL, cc, ret, fr, lo, nL, mn, hh) B pc ls (.ref l2 :: .int l1 :: .ref l0 :: st) M := v_callWi (As := [.ref l0, .int l1, .ref l2]) (k_L_append e) wd_L_117 hd rfl rfl hcat hR k
set_option maxHeartbeats 4000000 in
set_option maxRecDepth 100000 in
theorem w_L_setOption {G : Gl} {ρ0 : Nat → Nat} {M0 MF : Mem} {r : Int32} (l0 : Nat) (l1 : Int32) (l2 : Int32) (l3 : Nat) (M : Mem) (h : f_L_setOption l0 l1 l2 l3 M = some (r, MF)) : V G (RL, cL_setOption, (some .int), 7, 112, 5, "setOption", [((0 : Nat), (10 : Nat), (13 : Nat), (21 : Nat)), ((0 : Nat), (10 : Nat), (17 : Nat), (13 : Nat))]) (ρ0, M0, cvI r, MF) 0 [(0, .ref l0), (1, .int l1), (2, .int l2), (3, .ref l3)] [] M := by
  unfold f_L_setOption at h
  refine v_aload_n dL_setOption_0 rfl 3 rfl ?_
  refine v_iconst (v := 0) dL_setOption_1 ci_0 ?_
  refine v_aload_n dL_setOption_2 rfl 0 rfl ?_
  refine v_iload_n dL_setOption_3 rfl 1 rfl ?_
  refine v_iload_n dL_setOption_4 rfl 2 rfl ?_
  rcases bindH_some h with ⟨v2, M1, e, h⟩ | ⟨e9, M1, e, h⟩
  · refine ca_L_17 e dL_setOption_5 (Nat.le_of_ble_eq_true rfl) (by decide) ?_
    refine v_i2l dL_setOption_8 ?_
    obtain ⟨M3, e, h⟩ := bind_some h
    refine v_lastore dL_setOption_9 e ?_
    refine v_goto (tgt := 21) dL_setOption_10 (by decide) ?_
    refine v_iconst (v := 0) dL_setOption_21 ci_0 ?_
    cases h
    exact v_ireturn dL_setOption_22
  · rcases Decidable.em (e9 = 3) with c9 | c9
    · subst c9
      replace h := ifP rfl h
      refine v_catch (e := 3) (hpc := 13) (ls' := [(0, .ref l0), (1, .int l1), (2, .int l2), (3, .ref l3)]) (As := [.int l1, .int l2]) (k_X11_setOption e) wd_L_17 clX11 (kd_X11_setOption e) dL_setOption_5 rfl rfl (Nat.le_of_ble_eq_true rfl) (by decide) [] (0, 10, 13, 21) [(0, 10, 17, 13)] rfl (by decide) rfl (by decide) (fun _ hz => nomatch hz) lcw_21 lca_3 dL_setOption_13 (by decide) rfl ?_
      refine v_iconst (v := 1) dL_setOption_15 ci_1 ?_
      cases h
      exact v_ireturn dL_setOption_16
    replace h := ifN c9 h
    rcases Decidable.em (e9 = 1) with c9 | c9
    · subst c9
      replace h := ifP rfl h
      refine v_catch (e := 1) (hpc := 17) (ls' := [(0, .ref l0), (1, .int l1), (2, .int l2), (3, .ref l3)]) (As := [.int l1, .int l2]) (k_X11_setOption e) wd_L_17 clX11 (kd_X11_setOption e) dL_setOption_5 rfl rfl (Nat.le_of_ble_eq_true rfl) (by decide) [(0, 10, 13, 21)] (0, 10, 17, 13) [] rfl (by decide) rfl (by decide) (hp_1_21 rfl) lcw_13 lca_1 dL_setOption_17 (by decide) rfl ?_
      refine v_iconst (v := 2) dL_setOption_19 ci_2 ?_
      cases h
      exact v_ireturn dL_setOption_20
    replace h := ifN c9 h
    cases h
theorem k_L_setOption {G : Gl} {l0 : Nat} {l1 : Int32} {l2 : Int32} {l3 : Nat} {M MF : Mem} {r : Int32} (h : f_L_setOption l0 l1 l2 l3 M = some (r, MF)) : CtrW G yL_setOption cL_setOption 5 (some .int) [((0 : Nat), (10 : Nat), (13 : Nat), (21 : Nat)), ((0 : Nat), (10 : Nat), (17 : Nat), (13 : Nat))] 7 112 [.ref l0, .int l1, .int l2, .ref l3] M (cvI r) MF :=
  ctrW_of (by decide +kernel) (Nat.le_of_ble_eq_true rfl) (fun ρ => w_L_setOption l0 l1 l2 l3 M h)
theorem wd_L_130 : wdW RL 130 yL_setOption cL_setOption 5 (some .int) [((0 : Nat), (10 : Nat), (13 : Nat), (21 : Nat)), ((0 : Nat), (10 : Nat), (17 : Nat), (13 : Nat))] 4 := ⟨gwi 653 (by decide +kernel) (by decide +kernel), gwi 654 (by decide +kernel) (by decide +kernel), gwi 75 (by decide +kernel) (by decide +kernel), gwi 655 (by decide +kernel) (by decide +kernel), ⟨by decide +kernel, by decide +kernel, by decide +kernel⟩⟩
theorem ca_L_130 {G : Gl} {B : Bx} {cc : ByteArray} {ret : Option FieldType} {fr lo nL : Nat} {mn : String} {hh : List (Nat × Nat × Nat × Nat)} {pc : Nat} {ls : List (Nat × Value)} {st : List Value} {M M1 : Mem} {l0 : Nat} {l1 : Int32} {l2 : Int32} {l3 : Nat} {x : Int32} (e : f_L_setOption l0 l1 l2 l3 M = some (x, M1)) (hd : decode cc pc = .ok (.invokestatic 130, 3)) (hcat : (st.map fun v => v.category).sum ≤ 8) (hR : 7 + 1 ≤ fr ∧ 8 + (5 + 11) + 112 ≤ lo) (k : V G (RL, cc, ret, fr, lo, nL, mn, hh) B (pc + 3) ls (.int x :: st) M1) : V G (RL, cc, ret, fr, lo, nL, mn, hh) B pc ls (.ref l3 :: .int l2 :: .int l1 :: .ref l0 :: st) M := v_callWi (As := [.ref l0, .int l1, .int l2, .ref l3]) (k_L_setOption e) wd_L_130 hd rfl rfl hcat hR k
set_option maxHeartbeats 4000000 in
set_option maxRecDepth 100000 in
theorem w_L_connect {G : Gl} {ρ0 : Nat → Nat} {M0 MF : Mem} {r : Int32} (l0 : Nat) (l1 : Int32) (l2 : Int32) (l3 : Nat) (M : Mem) (h : f_L_connect l0 l1 l2 l3 M = some (r, MF)) : V G (RL, cL_connect, (some .int), 8, 166, 5, "connect", [((0 : Nat), (10 : Nat), (13 : Nat), (21 : Nat))]) (ρ0, M0, cvI r, MF) 0 [(0, .ref l0), (1, .int l1), (2, .int l2), (3, .ref l3)] [] M := by
  unfold f_L_connect at h
  refine v_aload_n dL_connect_0 rfl 3 rfl ?_
  refine v_iconst (v := 0) dL_connect_1 ci_0 ?_
  refine v_aload_n dL_connect_2 rfl 0 rfl ?_
  refine v_iload_n dL_connect_3 rfl 1 rfl ?_
  refine v_iload_n dL_connect_4 rfl 2 rfl ?_
  rcases bindH_some h with ⟨v2, M1, e, h⟩ | ⟨e9, M1, e, h⟩
  · refine ca_L_23 e dL_connect_5 (Nat.le_of_ble_eq_true rfl) (by decide) ?_
    refine v_i2l dL_connect_8 ?_
    obtain ⟨M3, e, h⟩ := bind_some h
    refine v_lastore dL_connect_9 e ?_
    refine v_goto (tgt := 17) dL_connect_10 (by decide) ?_
    refine v_iconst (v := 0) dL_connect_17 ci_0 ?_
    cases h
    exact v_ireturn dL_connect_18
  · rcases Decidable.em (e9 = 3) with c9 | c9
    · subst c9
      replace h := ifP rfl h
      refine v_catch (e := 3) (hpc := 13) (ls' := [(0, .ref l0), (1, .int l1), (2, .int l2), (3, .ref l3)]) (As := [.int l1, .int l2]) (k_X11_connect e) wd_L_23 clX11 (kd_X11_connect e) dL_connect_5 rfl rfl (Nat.le_of_ble_eq_true rfl) (by decide) [] (0, 10, 13, 21) [] rfl (by decide) rfl (by decide) (fun _ hz => nomatch hz) lcw_21 lca_3 dL_connect_13 (by decide) rfl ?_
      refine v_iconst (v := 1) dL_connect_15 ci_1 ?_
      cases h
      exact v_ireturn dL_connect_16
    replace h := ifN c9 h
    cases h
theorem k_L_connect {G : Gl} {l0 : Nat} {l1 : Int32} {l2 : Int32} {l3 : Nat} {M MF : Mem} {r : Int32} (h : f_L_connect l0 l1 l2 l3 M = some (r, MF)) : CtrW G yL_connect cL_connect 5 (some .int) [((0 : Nat), (10 : Nat), (13 : Nat), (21 : Nat))] 8 166 [.ref l0, .int l1, .int l2, .ref l3] M (cvI r) MF :=
  ctrW_of (by decide +kernel) (Nat.le_of_ble_eq_true rfl) (fun ρ => w_L_connect l0 l1 l2 l3 M h)
theorem wd_L_134 : wdW RL 134 yL_connect cL_connect 5 (some .int) [((0 : Nat), (10 : Nat), (13 : Nat), (21 : Nat))] 4 := ⟨gwi 681 (by decide +kernel) (by decide +kernel), gwi 682 (by decide +kernel) (by decide +kernel), gwi 75 (by decide +kernel) (by decide +kernel), gwi 683 (by decide +kernel) (by decide +kernel), ⟨by decide +kernel, by decide +kernel, by decide +kernel⟩⟩
theorem ca_L_134 {G : Gl} {B : Bx} {cc : ByteArray} {ret : Option FieldType} {fr lo nL : Nat} {mn : String} {hh : List (Nat × Nat × Nat × Nat)} {pc : Nat} {ls : List (Nat × Value)} {st : List Value} {M M1 : Mem} {l0 : Nat} {l1 : Int32} {l2 : Int32} {l3 : Nat} {x : Int32} (e : f_L_connect l0 l1 l2 l3 M = some (x, M1)) (hd : decode cc pc = .ok (.invokestatic 134, 3)) (hcat : (st.map fun v => v.category).sum ≤ 8) (hR : 8 + 1 ≤ fr ∧ 8 + (5 + 11) + 166 ≤ lo) (k : V G (RL, cc, ret, fr, lo, nL, mn, hh) B (pc + 3) ls (.int x :: st) M1) : V G (RL, cc, ret, fr, lo, nL, mn, hh) B pc ls (.ref l3 :: .int l2 :: .int l1 :: .ref l0 :: st) M := v_callWi (As := [.ref l0, .int l1, .int l2, .ref l3]) (k_L_connect e) wd_L_134 hd rfl rfl hcat hR k
set_option maxHeartbeats 4000000 in
set_option maxRecDepth 100000 in
theorem w_L_disconnect {G : Gl} {ρ0 : Nat → Nat} {M0 MF : Mem} {r : Int32} (l0 : Nat) (l1 : Int32) (l2 : Nat) (M : Mem) (h : f_L_disconnect l0 l1 l2 M = some (r, MF)) : V G (RL, cL_disconnect, (some .int), 8, 132, 4, "disconnect", [((0 : Nat), (9 : Nat), (12 : Nat), (21 : Nat)), ((0 : Nat), (9 : Nat), (15 : Nat), (15 : Nat))]) (ρ0, M0, cvI r, MF) 0 [(0, .ref l0), (1, .int l1), (2, .ref l2)] [] M := by
  unfold f_L_disconnect at h
  refine v_aload_n dL_disconnect_0 rfl 2 rfl ?_
  refine v_iconst (v := 0) dL_disconnect_1 ci_0 ?_
  refine v_aload_n dL_disconnect_2 rfl 0 rfl ?_
  refine v_iload_n dL_disconnect_3 rfl 1 rfl ?_
  rcases bindH_some h with ⟨v2, M1, e, h⟩ | ⟨e9, M1, e, h⟩
  · refine ca_L_27 e dL_disconnect_4 (Nat.le_of_ble_eq_true rfl) (by decide) ?_
    refine v_i2l dL_disconnect_7 ?_
    obtain ⟨M3, e, h⟩ := bind_some h
    refine v_lastore dL_disconnect_8 e ?_
    refine v_goto (tgt := 18) dL_disconnect_9 (by decide) ?_
    refine v_iconst (v := 0) dL_disconnect_18 ci_0 ?_
    cases h
    exact v_ireturn dL_disconnect_19
  · rcases Decidable.em (e9 = 3) with c9 | c9
    · subst c9
      replace h := ifP rfl h
      refine v_catch_n (e := 3) (hpc := 12) (ls' := [(0, .ref l0), (1, .int l1), (2, .ref l2)]) (As := [.int l1]) (k_X11_disconnect e) wd_L_27 clX11 (kd_X11_disconnect e) dL_disconnect_4 rfl rfl (Nat.le_of_ble_eq_true rfl) (by decide) [] (0, 9, 12, 21) [(0, 9, 15, 15)] rfl (by decide) rfl (by decide) (fun _ hz => nomatch hz) lcw_21 lca_3 dL_disconnect_12 rfl (by decide) rfl ?_
      refine v_iconst (v := 1) dL_disconnect_13 ci_1 ?_
      cases h
      exact v_ireturn dL_disconnect_14
    replace h := ifN c9 h
    rcases Decidable.em (e9 = 2) with c9 | c9
    · subst c9
      replace h := ifP rfl h
      refine v_catch_n (e := 2) (hpc := 15) (ls' := [(0, .ref l0), (1, .int l1), (2, .ref l2)]) (As := [.int l1]) (k_X11_disconnect e) wd_L_27 clX11 (kd_X11_disconnect e) dL_disconnect_4 rfl rfl (Nat.le_of_ble_eq_true rfl) (by decide) [(0, 9, 12, 21)] (0, 9, 15, 15) [] rfl (by decide) rfl (by decide) (hp_2_21 rfl) lcw_15 lca_2 dL_disconnect_15 rfl (by decide) rfl ?_
      refine v_iconst (v := 2) dL_disconnect_16 ci_2 ?_
      cases h
      exact v_ireturn dL_disconnect_17
    replace h := ifN c9 h
    cases h
theorem k_L_disconnect {G : Gl} {l0 : Nat} {l1 : Int32} {l2 : Nat} {M MF : Mem} {r : Int32} (h : f_L_disconnect l0 l1 l2 M = some (r, MF)) : CtrW G yL_disconnect cL_disconnect 4 (some .int) [((0 : Nat), (9 : Nat), (12 : Nat), (21 : Nat)), ((0 : Nat), (9 : Nat), (15 : Nat), (15 : Nat))] 8 132 [.ref l0, .int l1, .ref l2] M (cvI r) MF :=
  ctrW_of (by decide +kernel) (Nat.le_of_ble_eq_true rfl) (fun ρ => w_L_disconnect l0 l1 l2 M h)
theorem wd_L_138 : wdW RL 138 yL_disconnect cL_disconnect 4 (some .int) [((0 : Nat), (9 : Nat), (12 : Nat), (21 : Nat)), ((0 : Nat), (9 : Nat), (15 : Nat), (15 : Nat))] 3 := ⟨gwi 867 (by decide +kernel) (by decide +kernel), gwi 868 (by decide +kernel) (by decide +kernel), gwi 75 (by decide +kernel) (by decide +kernel), gwi 869 (by decide +kernel) (by decide +kernel), ⟨by decide +kernel, by decide +kernel, by decide +kernel⟩⟩
theorem ca_L_138 {G : Gl} {B : Bx} {cc : ByteArray} {ret : Option FieldType} {fr lo nL : Nat} {mn : String} {hh : List (Nat × Nat × Nat × Nat)} {pc : Nat} {ls : List (Nat × Value)} {st : List Value} {M M1 : Mem} {l0 : Nat} {l1 : Int32} {l2 : Nat} {x : Int32} (e : f_L_disconnect l0 l1 l2 M = some (x, M1)) (hd : decode cc pc = .ok (.invokestatic 138, 3)) (hcat : (st.map fun v => v.category).sum ≤ 8) (hR : 8 + 1 ≤ fr ∧ 8 + (4 + 11) + 132 ≤ lo) (k : V G (RL, cc, ret, fr, lo, nL, mn, hh) B (pc + 3) ls (.int x :: st) M1) : V G (RL, cc, ret, fr, lo, nL, mn, hh) B pc ls (.ref l2 :: .int l1 :: .ref l0 :: st) M := v_callWi (As := [.ref l0, .int l1, .ref l2]) (k_L_disconnect e) wd_L_138 hd rfl rfl hcat hR k
set_option maxHeartbeats 4000000 in
set_option maxRecDepth 100000 in
theorem w_L_breakConnection {G : Gl} {ρ0 : Nat → Nat} {M0 MF : Mem} {r : Int32} (l0 : Nat) (l1 : Int32) (l2 : Nat) (M : Mem) (h : f_L_breakConnection l0 l1 l2 M = some (r, MF)) : V G (RL, cL_breakConnection, (some .int), 8, 164, 4, "breakConnection", [((0 : Nat), (9 : Nat), (12 : Nat), (21 : Nat)), ((0 : Nat), (9 : Nat), (15 : Nat), (15 : Nat))]) (ρ0, M0, cvI r, MF) 0 [(0, .ref l0), (1, .int l1), (2, .ref l2)] [] M := by
  unfold f_L_breakConnection at h
  refine v_aload_n dL_breakConnection_0 rfl 2 rfl ?_
  refine v_iconst (v := 0) dL_breakConnection_1 ci_0 ?_
  refine v_aload_n dL_breakConnection_2 rfl 0 rfl ?_
  refine v_iload_n dL_breakConnection_3 rfl 1 rfl ?_
  rcases bindH_some h with ⟨v2, M1, e, h⟩ | ⟨e9, M1, e, h⟩
  · refine ca_L_30 e dL_breakConnection_4 (Nat.le_of_ble_eq_true rfl) (by decide) ?_
    refine v_i2l dL_breakConnection_7 ?_
    obtain ⟨M3, e, h⟩ := bind_some h
    refine v_lastore dL_breakConnection_8 e ?_
    refine v_goto (tgt := 18) dL_breakConnection_9 (by decide) ?_
    refine v_iconst (v := 0) dL_breakConnection_18 ci_0 ?_
    cases h
    exact v_ireturn dL_breakConnection_19
  · rcases Decidable.em (e9 = 3) with c9 | c9
    · subst c9
      replace h := ifP rfl h
      refine v_catch_n (e := 3) (hpc := 12) (ls' := [(0, .ref l0), (1, .int l1), (2, .ref l2)]) (As := [.int l1]) (k_X11_breakConnection e) wd_L_30 clX11 (kd_X11_breakConnection e) dL_breakConnection_4 rfl rfl (Nat.le_of_ble_eq_true rfl) (by decide) [] (0, 9, 12, 21) [(0, 9, 15, 15)] rfl (by decide) rfl (by decide) (fun _ hz => nomatch hz) lcw_21 lca_3 dL_breakConnection_12 rfl (by decide) rfl ?_
      refine v_iconst (v := 1) dL_breakConnection_13 ci_1 ?_
      cases h
      exact v_ireturn dL_breakConnection_14
    replace h := ifN c9 h
    rcases Decidable.em (e9 = 2) with c9 | c9
    · subst c9
      replace h := ifP rfl h
      refine v_catch_n (e := 2) (hpc := 15) (ls' := [(0, .ref l0), (1, .int l1), (2, .ref l2)]) (As := [.int l1]) (k_X11_breakConnection e) wd_L_30 clX11 (kd_X11_breakConnection e) dL_breakConnection_4 rfl rfl (Nat.le_of_ble_eq_true rfl) (by decide) [(0, 9, 12, 21)] (0, 9, 15, 15) [] rfl (by decide) rfl (by decide) (hp_2_21 rfl) lcw_15 lca_2 dL_breakConnection_15 rfl (by decide) rfl ?_
      refine v_iconst (v := 2) dL_breakConnection_16 ci_2 ?_
      cases h
      exact v_ireturn dL_breakConnection_17
    replace h := ifN c9 h
    cases h
theorem k_L_breakConnection {G : Gl} {l0 : Nat} {l1 : Int32} {l2 : Nat} {M MF : Mem} {r : Int32} (h : f_L_breakConnection l0 l1 l2 M = some (r, MF)) : CtrW G yL_breakConnection cL_breakConnection 4 (some .int) [((0 : Nat), (9 : Nat), (12 : Nat), (21 : Nat)), ((0 : Nat), (9 : Nat), (15 : Nat), (15 : Nat))] 8 164 [.ref l0, .int l1, .ref l2] M (cvI r) MF :=
  ctrW_of (by decide +kernel) (Nat.le_of_ble_eq_true rfl) (fun ρ => w_L_breakConnection l0 l1 l2 M h)
theorem wd_L_141 : wdW RL 141 yL_breakConnection cL_breakConnection 4 (some .int) [((0 : Nat), (9 : Nat), (12 : Nat), (21 : Nat)), ((0 : Nat), (9 : Nat), (15 : Nat), (15 : Nat))] 3 := ⟨gwi 879 (by decide +kernel) (by decide +kernel), gwi 880 (by decide +kernel) (by decide +kernel), gwi 75 (by decide +kernel) (by decide +kernel), gwi 881 (by decide +kernel) (by decide +kernel), ⟨by decide +kernel, by decide +kernel, by decide +kernel⟩⟩
theorem ca_L_141 {G : Gl} {B : Bx} {cc : ByteArray} {ret : Option FieldType} {fr lo nL : Nat} {mn : String} {hh : List (Nat × Nat × Nat × Nat)} {pc : Nat} {ls : List (Nat × Value)} {st : List Value} {M M1 : Mem} {l0 : Nat} {l1 : Int32} {l2 : Nat} {x : Int32} (e : f_L_breakConnection l0 l1 l2 M = some (x, M1)) (hd : decode cc pc = .ok (.invokestatic 141, 3)) (hcat : (st.map fun v => v.category).sum ≤ 8) (hR : 8 + 1 ≤ fr ∧ 8 + (4 + 11) + 164 ≤ lo) (k : V G (RL, cc, ret, fr, lo, nL, mn, hh) B (pc + 3) ls (.int x :: st) M1) : V G (RL, cc, ret, fr, lo, nL, mn, hh) B pc ls (.ref l2 :: .int l1 :: .ref l0 :: st) M := v_callWi (As := [.ref l0, .int l1, .ref l2]) (k_L_breakConnection e) wd_L_141 hd rfl rfl hcat hR k
set_option maxHeartbeats 4000000 in
set_option maxRecDepth 100000 in
theorem w_L_setWill {G : Gl} {ρ0 : Nat → Nat} {M0 MF : Mem} {r : Int32} (l0 : Nat) (l1 : Int32) (l2 : Int32) (l3 : Int32) (l4 : Int32) (l5 : Nat) (M : Mem) (h : f_L_setWill l0 l1 l2 l3 l4 l5 M = some (r, MF)) : V G (RL, cL_setWill, (some .int), 9, 160, 7, "setWill", [((0 : Nat), (14 : Nat), (17 : Nat), (21 : Nat)), ((0 : Nat), (14 : Nat), (21 : Nat), (13 : Nat)), ((0 : Nat), (14 : Nat), (25 : Nat), (15 : Nat))]) (ρ0, M0, cvI r, MF) 0 [(0, .ref l0), (1, .int l1), (2, .int l2), (3, .int l3), (4, .int l4), (5, .ref l5)] [] M := by
  unfold f_L_setWill at h
  refine v_aload dL_setWill_0 5 rfl ?_
  refine v_iconst (v := 0) dL_setWill_2 ci_0 ?_
  refine v_aload_n dL_setWill_3 rfl 0 rfl ?_
  refine v_iload_n dL_setWill_4 rfl 1 rfl ?_
  refine v_iload_n dL_setWill_5 rfl 2 rfl ?_
  refine v_iload_n dL_setWill_6 rfl 3 rfl ?_
  refine v_iload dL_setWill_7 4 rfl ?_
  rcases bindH_some h with ⟨v2, M1, e, h⟩ | ⟨e9, M1, e, h⟩
  · refine ca_L_33 e dL_setWill_9 (Nat.le_of_ble_eq_true rfl) (by decide) ?_
    refine v_i2l dL_setWill_12 ?_
    obtain ⟨M3, e, h⟩ := bind_some h
    refine v_lastore dL_setWill_13 e ?_
    refine v_goto (tgt := 29) dL_setWill_14 (by decide) ?_
    refine v_iconst (v := 0) dL_setWill_29 ci_0 ?_
    cases h
    exact v_ireturn dL_setWill_30
  · rcases Decidable.em (e9 = 3) with c9 | c9
    · subst c9
      replace h := ifP rfl h
      refine v_catch (e := 3) (hpc := 17) (ls' := [(0, .ref l0), (1, .int l1), (2, .int l2), (3, .int l3), (4, .int l4), (5, .ref l5)]) (As := [.int l1, .int l2, .int l3, .int l4]) (k_X11_setWill e) wd_L_33 clX11 (kd_X11_setWill e) dL_setWill_9 rfl rfl (Nat.le_of_ble_eq_true rfl) (by decide) [] (0, 14, 17, 21) [(0, 14, 21, 13), (0, 14, 25, 15)] rfl (by decide) rfl (by decide) (fun _ hz => nomatch hz) lcw_21 lca_3 dL_setWill_17 (by decide) rfl ?_
      refine v_iconst (v := 1) dL_setWill_19 ci_1 ?_
      cases h
      exact v_ireturn dL_setWill_20
    replace h := ifN c9 h
    rcases Decidable.em (e9 = 1) with c9 | c9
    · subst c9
      replace h := ifP rfl h
      refine v_catch (e := 1) (hpc := 21) (ls' := [(0, .ref l0), (1, .int l1), (2, .int l2), (3, .int l3), (4, .int l4), (5, .ref l5)]) (As := [.int l1, .int l2, .int l3, .int l4]) (k_X11_setWill e) wd_L_33 clX11 (kd_X11_setWill e) dL_setWill_9 rfl rfl (Nat.le_of_ble_eq_true rfl) (by decide) [(0, 14, 17, 21)] (0, 14, 21, 13) [(0, 14, 25, 15)] rfl (by decide) rfl (by decide) (hp_1_21 rfl) lcw_13 lca_1 dL_setWill_21 (by decide) rfl ?_
      refine v_iconst (v := 2) dL_setWill_23 ci_2 ?_
      cases h
      exact v_ireturn dL_setWill_24
    replace h := ifN c9 h
    rcases Decidable.em (e9 = 2) with c9 | c9
    · subst c9
      replace h := ifP rfl h
      refine v_catch (e := 2) (hpc := 25) (ls' := [(0, .ref l0), (1, .int l1), (2, .int l2), (3, .int l3), (4, .int l4), (5, .ref l5)]) (As := [.int l1, .int l2, .int l3, .int l4]) (k_X11_setWill e) wd_L_33 clX11 (kd_X11_setWill e) dL_setWill_9 rfl rfl (Nat.le_of_ble_eq_true rfl) (by decide) [(0, 14, 17, 21), (0, 14, 21, 13)] (0, 14, 25, 15) [] rfl (by decide) rfl (by decide) (hp_2_21_13 rfl) lcw_15 lca_2 dL_setWill_25 (by decide) rfl ?_
      refine v_iconst (v := 3) dL_setWill_27 ci_3 ?_
      cases h
      exact v_ireturn dL_setWill_28
    replace h := ifN c9 h
    cases h
theorem k_L_setWill {G : Gl} {l0 : Nat} {l1 : Int32} {l2 : Int32} {l3 : Int32} {l4 : Int32} {l5 : Nat} {M MF : Mem} {r : Int32} (h : f_L_setWill l0 l1 l2 l3 l4 l5 M = some (r, MF)) : CtrW G yL_setWill cL_setWill 7 (some .int) [((0 : Nat), (14 : Nat), (17 : Nat), (21 : Nat)), ((0 : Nat), (14 : Nat), (21 : Nat), (13 : Nat)), ((0 : Nat), (14 : Nat), (25 : Nat), (15 : Nat))] 9 160 [.ref l0, .int l1, .int l2, .int l3, .int l4, .ref l5] M (cvI r) MF :=
  ctrW_of (by decide +kernel) (Nat.le_of_ble_eq_true rfl) (fun ρ => w_L_setWill l0 l1 l2 l3 l4 l5 M h)
theorem wd_L_144 : wdW RL 144 yL_setWill cL_setWill 7 (some .int) [((0 : Nat), (14 : Nat), (17 : Nat), (21 : Nat)), ((0 : Nat), (14 : Nat), (21 : Nat), (13 : Nat)), ((0 : Nat), (14 : Nat), (25 : Nat), (15 : Nat))] 6 := ⟨gwi 886 (by decide +kernel) (by decide +kernel), gwi 887 (by decide +kernel) (by decide +kernel), gwi 75 (by decide +kernel) (by decide +kernel), gwi 888 (by decide +kernel) (by decide +kernel), ⟨by decide +kernel, by decide +kernel, by decide +kernel⟩⟩
theorem ca_L_144 {G : Gl} {B : Bx} {cc : ByteArray} {ret : Option FieldType} {fr lo nL : Nat} {mn : String} {hh : List (Nat × Nat × Nat × Nat)} {pc : Nat} {ls : List (Nat × Value)} {st : List Value} {M M1 : Mem} {l0 : Nat} {l1 : Int32} {l2 : Int32} {l3 : Int32} {l4 : Int32} {l5 : Nat} {x : Int32} (e : f_L_setWill l0 l1 l2 l3 l4 l5 M = some (x, M1)) (hd : decode cc pc = .ok (.invokestatic 144, 3)) (hcat : (st.map fun v => v.category).sum ≤ 8) (hR : 9 + 1 ≤ fr ∧ 8 + (7 + 11) + 160 ≤ lo) (k : V G (RL, cc, ret, fr, lo, nL, mn, hh) B (pc + 3) ls (.int x :: st) M1) : V G (RL, cc, ret, fr, lo, nL, mn, hh) B pc ls (.ref l5 :: .int l4 :: .int l3 :: .int l2 :: .int l1 :: .ref l0 :: st) M := v_callWi (As := [.ref l0, .int l1, .int l2, .int l3, .int l4, .ref l5]) (k_L_setWill e) wd_L_144 hd rfl rfl hcat hR k
set_option maxHeartbeats 4000000 in
set_option maxRecDepth 100000 in
theorem w_L_sessionState {G : Gl} {ρ0 : Nat → Nat} {M0 MF : Mem} {r : Int32} (l0 : Nat) (l1 : Int32) (l2 : Nat) (M : Mem) (h : f_L_sessionState l0 l1 l2 M = some (r, MF)) : V G (RL, cL_sessionState, (some .int), 8, 131, 4, "sessionState", [((0 : Nat), (9 : Nat), (12 : Nat), (21 : Nat))]) (ρ0, M0, cvI r, MF) 0 [(0, .ref l0), (1, .int l1), (2, .ref l2)] [] M := by
  unfold f_L_sessionState at h
  refine v_aload_n dL_sessionState_0 rfl 2 rfl ?_
  refine v_iconst (v := 0) dL_sessionState_1 ci_0 ?_
  refine v_aload_n dL_sessionState_2 rfl 0 rfl ?_
  refine v_iload_n dL_sessionState_3 rfl 1 rfl ?_
  rcases bindH_some h with ⟨v2, M1, e, h⟩ | ⟨e9, M1, e, h⟩
  · refine ca_L_37 e dL_sessionState_4 (Nat.le_of_ble_eq_true rfl) (by decide) ?_
    refine v_i2l dL_sessionState_7 ?_
    obtain ⟨M3, e, h⟩ := bind_some h
    refine v_lastore dL_sessionState_8 e ?_
    refine v_goto (tgt := 15) dL_sessionState_9 (by decide) ?_
    refine v_iconst (v := 0) dL_sessionState_15 ci_0 ?_
    cases h
    exact v_ireturn dL_sessionState_16
  · rcases Decidable.em (e9 = 3) with c9 | c9
    · subst c9
      replace h := ifP rfl h
      refine v_catch_n (e := 3) (hpc := 12) (ls' := [(0, .ref l0), (1, .int l1), (2, .ref l2)]) (As := [.int l1]) (k_X11_sessionState e) wd_L_37 clX11 (kd_X11_sessionState e) dL_sessionState_4 rfl rfl (Nat.le_of_ble_eq_true rfl) (by decide) [] (0, 9, 12, 21) [] rfl (by decide) rfl (by decide) (fun _ hz => nomatch hz) lcw_21 lca_3 dL_sessionState_12 rfl (by decide) rfl ?_
      refine v_iconst (v := 1) dL_sessionState_13 ci_1 ?_
      cases h
      exact v_ireturn dL_sessionState_14
    replace h := ifN c9 h
    cases h
theorem k_L_sessionState {G : Gl} {l0 : Nat} {l1 : Int32} {l2 : Nat} {M MF : Mem} {r : Int32} (h : f_L_sessionState l0 l1 l2 M = some (r, MF)) : CtrW G yL_sessionState cL_sessionState 4 (some .int) [((0 : Nat), (9 : Nat), (12 : Nat), (21 : Nat))] 8 131 [.ref l0, .int l1, .ref l2] M (cvI r) MF :=
  ctrW_of (by decide +kernel) (Nat.le_of_ble_eq_true rfl) (fun ρ => w_L_sessionState l0 l1 l2 M h)
theorem wd_L_148 : wdW RL 148 yL_sessionState cL_sessionState 4 (some .int) [((0 : Nat), (9 : Nat), (12 : Nat), (21 : Nat))] 3 := ⟨gwi 915 (by decide +kernel) (by decide +kernel), gwi 916 (by decide +kernel) (by decide +kernel), gwi 75 (by decide +kernel) (by decide +kernel), gwi 917 (by decide +kernel) (by decide +kernel), ⟨by decide +kernel, by decide +kernel, by decide +kernel⟩⟩
theorem ca_L_148 {G : Gl} {B : Bx} {cc : ByteArray} {ret : Option FieldType} {fr lo nL : Nat} {mn : String} {hh : List (Nat × Nat × Nat × Nat)} {pc : Nat} {ls : List (Nat × Value)} {st : List Value} {M M1 : Mem} {l0 : Nat} {l1 : Int32} {l2 : Nat} {x : Int32} (e : f_L_sessionState l0 l1 l2 M = some (x, M1)) (hd : decode cc pc = .ok (.invokestatic 148, 3)) (hcat : (st.map fun v => v.category).sum ≤ 8) (hR : 8 + 1 ≤ fr ∧ 8 + (4 + 11) + 131 ≤ lo) (k : V G (RL, cc, ret, fr, lo, nL, mn, hh) B (pc + 3) ls (.int x :: st) M1) : V G (RL, cc, ret, fr, lo, nL, mn, hh) B pc ls (.ref l2 :: .int l1 :: .ref l0 :: st) M := v_callWi (As := [.ref l0, .int l1, .ref l2]) (k_L_sessionState e) wd_L_148 hd rfl rfl hcat hR k
set_option maxHeartbeats 4000000 in
set_option maxRecDepth 100000 in
theorem w_L_subscribe {G : Gl} {ρ0 : Nat → Nat} {M0 MF : Mem} {r : Int32} (l0 : Nat) (l1 : Int32) (l2 : Int32) (l3 : Int32) (l4 : Int32) (l5 : Nat) (M : Mem) (h : f_L_subscribe l0 l1 l2 l3 l4 l5 M = some (r, MF)) : V G (RL, cL_subscribe, (some .int), 9, 162, 7, "subscribe", [((0 : Nat), (14 : Nat), (17 : Nat), (21 : Nat)), ((0 : Nat), (14 : Nat), (21 : Nat), (13 : Nat)), ((0 : Nat), (14 : Nat), (25 : Nat), (15 : Nat))]) (ρ0, M0, cvI r, MF) 0 [(0, .ref l0), (1, .int l1), (2, .int l2), (3, .int l3), (4, .int l4), (5, .ref l5)] [] M := by
  unfold f_L_subscribe at h
  refine v_aload dL_subscribe_0 5 rfl ?_
  refine v_iconst (v := 0) dL_subscribe_2 ci_0 ?_
  refine v_aload_n dL_subscribe_3 rfl 0 rfl ?_
  refine v_iload_n dL_subscribe_4 rfl 1 rfl ?_
  refine v_iload_n dL_subscribe_5 rfl 2 rfl ?_
  refine v_iload_n dL_subscribe_6 rfl 3 rfl ?_
  refine v_iload dL_subscribe_7 4 rfl ?_
  rcases bindH_some h with ⟨v2, M1, e, h⟩ | ⟨e9, M1, e, h⟩
  · refine ca_L_40 e dL_subscribe_9 (Nat.le_of_ble_eq_true rfl) (by decide) ?_
    refine v_i2l dL_subscribe_12 ?_
    obtain ⟨M3, e, h⟩ := bind_some h
    refine v_lastore dL_subscribe_13 e ?_
    refine v_goto (tgt := 29) dL_subscribe_14 (by decide) ?_
    refine v_iconst (v := 0) dL_subscribe_29 ci_0 ?_
    cases h
    exact v_ireturn dL_subscribe_30
  · rcases Decidable.em (e9 = 3) with c9 | c9
    · subst c9
      replace h := ifP rfl h
      refine v_catch (e := 3) (hpc := 17) (ls' := [(0, .ref l0), (1, .int l1), (2, .int l2), (3, .int l3), (4, .int l4), (5, .ref l5)]) (As := [.int l1, .int l2, .int l3, .int l4]) (k_X11_subscribe e) wd_L_40 clX11 (kd_X11_subscribe e) dL_subscribe_9 rfl rfl (Nat.le_of_ble_eq_true rfl) (by decide) [] (0, 14, 17, 21) [(0, 14, 21, 13), (0, 14, 25, 15)] rfl (by decide) rfl (by decide) (fun _ hz => nomatch hz) lcw_21 lca_3 dL_subscribe_17 (by decide) rfl ?_
      refine v_iconst (v := 1) dL_subscribe_19 ci_1 ?_
      cases h
      exact v_ireturn dL_subscribe_20
    replace h := ifN c9 h
    rcases Decidable.em (e9 = 1) with c9 | c9
    · subst c9
      replace h := ifP rfl h
      refine v_catch (e := 1) (hpc := 21) (ls' := [(0, .ref l0), (1, .int l1), (2, .int l2), (3, .int l3), (4, .int l4), (5, .ref l5)]) (As := [.int l1, .int l2, .int l3, .int l4]) (k_X11_subscribe e) wd_L_40 clX11 (kd_X11_subscribe e) dL_subscribe_9 rfl rfl (Nat.le_of_ble_eq_true rfl) (by decide) [(0, 14, 17, 21)] (0, 14, 21, 13) [(0, 14, 25, 15)] rfl (by decide) rfl (by decide) (hp_1_21 rfl) lcw_13 lca_1 dL_subscribe_21 (by decide) rfl ?_
      refine v_iconst (v := 2) dL_subscribe_23 ci_2 ?_
      cases h
      exact v_ireturn dL_subscribe_24
    replace h := ifN c9 h
    rcases Decidable.em (e9 = 2) with c9 | c9
    · subst c9
      replace h := ifP rfl h
      refine v_catch (e := 2) (hpc := 25) (ls' := [(0, .ref l0), (1, .int l1), (2, .int l2), (3, .int l3), (4, .int l4), (5, .ref l5)]) (As := [.int l1, .int l2, .int l3, .int l4]) (k_X11_subscribe e) wd_L_40 clX11 (kd_X11_subscribe e) dL_subscribe_9 rfl rfl (Nat.le_of_ble_eq_true rfl) (by decide) [(0, 14, 17, 21), (0, 14, 21, 13)] (0, 14, 25, 15) [] rfl (by decide) rfl (by decide) (hp_2_21_13 rfl) lcw_15 lca_2 dL_subscribe_25 (by decide) rfl ?_
      refine v_iconst (v := 3) dL_subscribe_27 ci_3 ?_
      cases h
      exact v_ireturn dL_subscribe_28
    replace h := ifN c9 h
    cases h
theorem k_L_subscribe {G : Gl} {l0 : Nat} {l1 : Int32} {l2 : Int32} {l3 : Int32} {l4 : Int32} {l5 : Nat} {M MF : Mem} {r : Int32} (h : f_L_subscribe l0 l1 l2 l3 l4 l5 M = some (r, MF)) : CtrW G yL_subscribe cL_subscribe 7 (some .int) [((0 : Nat), (14 : Nat), (17 : Nat), (21 : Nat)), ((0 : Nat), (14 : Nat), (21 : Nat), (13 : Nat)), ((0 : Nat), (14 : Nat), (25 : Nat), (15 : Nat))] 9 162 [.ref l0, .int l1, .int l2, .int l3, .int l4, .ref l5] M (cvI r) MF :=
  ctrW_of (by decide +kernel) (Nat.le_of_ble_eq_true rfl) (fun ρ => w_L_subscribe l0 l1 l2 l3 l4 l5 M h)
theorem wd_L_151 : wdW RL 151 yL_subscribe cL_subscribe 7 (some .int) [((0 : Nat), (14 : Nat), (17 : Nat), (21 : Nat)), ((0 : Nat), (14 : Nat), (21 : Nat), (13 : Nat)), ((0 : Nat), (14 : Nat), (25 : Nat), (15 : Nat))] 6 := ⟨gwi 922 (by decide +kernel) (by decide +kernel), gwi 923 (by decide +kernel) (by decide +kernel), gwi 75 (by decide +kernel) (by decide +kernel), gwi 924 (by decide +kernel) (by decide +kernel), ⟨by decide +kernel, by decide +kernel, by decide +kernel⟩⟩
theorem ca_L_151 {G : Gl} {B : Bx} {cc : ByteArray} {ret : Option FieldType} {fr lo nL : Nat} {mn : String} {hh : List (Nat × Nat × Nat × Nat)} {pc : Nat} {ls : List (Nat × Value)} {st : List Value} {M M1 : Mem} {l0 : Nat} {l1 : Int32} {l2 : Int32} {l3 : Int32} {l4 : Int32} {l5 : Nat} {x : Int32} (e : f_L_subscribe l0 l1 l2 l3 l4 l5 M = some (x, M1)) (hd : decode cc pc = .ok (.invokestatic 151, 3)) (hcat : (st.map fun v => v.category).sum ≤ 8) (hR : 9 + 1 ≤ fr ∧ 8 + (7 + 11) + 162 ≤ lo) (k : V G (RL, cc, ret, fr, lo, nL, mn, hh) B (pc + 3) ls (.int x :: st) M1) : V G (RL, cc, ret, fr, lo, nL, mn, hh) B pc ls (.ref l5 :: .int l4 :: .int l3 :: .int l2 :: .int l1 :: .ref l0 :: st) M := v_callWi (As := [.ref l0, .int l1, .int l2, .int l3, .int l4, .ref l5]) (k_L_subscribe e) wd_L_151 hd rfl rfl hcat hR k
set_option maxHeartbeats 4000000 in
set_option maxRecDepth 100000 in
theorem w_L_unsubscribe {G : Gl} {ρ0 : Nat → Nat} {M0 MF : Mem} {r : Int32} (l0 : Nat) (l1 : Int32) (l2 : Int32) (l3 : Nat) (M : Mem) (h : f_L_unsubscribe l0 l1 l2 l3 M = some (r, MF)) : V G (RL, cL_unsubscribe, (some .int), 9, 156, 5, "unsubscribe", [((0 : Nat), (10 : Nat), (13 : Nat), (21 : Nat)), ((0 : Nat), (10 : Nat), (17 : Nat), (13 : Nat)), ((0 : Nat), (10 : Nat), (21 : Nat), (15 : Nat))]) (ρ0, M0, cvI r, MF) 0 [(0, .ref l0), (1, .int l1), (2, .int l2), (3, .ref l3)] [] M := by
  unfold f_L_unsubscribe at h
  refine v_aload_n dL_unsubscribe_0 rfl 3 rfl ?_
  refine v_iconst (v := 0) dL_unsubscribe_1 ci_0 ?_
  refine v_aload_n dL_unsubscribe_2 rfl 0 rfl ?_
  refine v_iload_n dL_unsubscribe_3 rfl 1 rfl ?_
  refine v_iload_n dL_unsubscribe_4 rfl 2 rfl ?_
  rcases bindH_some h with ⟨v2, M1, e, h⟩ | ⟨e9, M1, e, h⟩
  · refine ca_L_44 e dL_unsubscribe_5 (Nat.le_of_ble_eq_true rfl) (by decide) ?_
    refine v_i2l dL_unsubscribe_8 ?_
    obtain ⟨M3, e, h⟩ := bind_some h
    refine v_lastore dL_unsubscribe_9 e ?_
    refine v_goto (tgt := 25) dL_unsubscribe_10 (by decide) ?_
    refine v_iconst (v := 0) dL_unsubscribe_25 ci_0 ?_
    cases h
    exact v_ireturn dL_unsubscribe_26
  · rcases Decidable.em (e9 = 3) with c9 | c9
    · subst c9
      replace h := ifP rfl h
      refine v_catch (e := 3) (hpc := 13) (ls' := [(0, .ref l0), (1, .int l1), (2, .int l2), (3, .ref l3)]) (As := [.int l1, .int l2]) (k_X11_unsubscribe e) wd_L_44 clX11 (kd_X11_unsubscribe e) dL_unsubscribe_5 rfl rfl (Nat.le_of_ble_eq_true rfl) (by decide) [] (0, 10, 13, 21) [(0, 10, 17, 13), (0, 10, 21, 15)] rfl (by decide) rfl (by decide) (fun _ hz => nomatch hz) lcw_21 lca_3 dL_unsubscribe_13 (by decide) rfl ?_
      refine v_iconst (v := 1) dL_unsubscribe_15 ci_1 ?_
      cases h
      exact v_ireturn dL_unsubscribe_16
    replace h := ifN c9 h
    rcases Decidable.em (e9 = 1) with c9 | c9
    · subst c9
      replace h := ifP rfl h
      refine v_catch (e := 1) (hpc := 17) (ls' := [(0, .ref l0), (1, .int l1), (2, .int l2), (3, .ref l3)]) (As := [.int l1, .int l2]) (k_X11_unsubscribe e) wd_L_44 clX11 (kd_X11_unsubscribe e) dL_unsubscribe_5 rfl rfl (Nat.le_of_ble_eq_true rfl) (by decide) [(0, 10, 13, 21)] (0, 10, 17, 13) [(0, 10, 21, 15)] rfl (by decide) rfl (by decide) (hp_1_21 rfl) lcw_13 lca_1 dL_unsubscribe_17 (by decide) rfl ?_
      refine v_iconst (v := 2) dL_unsubscribe_19 ci_2 ?_
      cases h
      exact v_ireturn dL_unsubscribe_20
    replace h := ifN c9 h
    rcases Decidable.em (e9 = 2) with c9 | c9
    · subst c9
      replace h := ifP rfl h
      refine v_catch (e := 2) (hpc := 21) (ls' := [(0, .ref l0), (1, .int l1), (2, .int l2), (3, .ref l3)]) (As := [.int l1, .int l2]) (k_X11_unsubscribe e) wd_L_44 clX11 (kd_X11_unsubscribe e) dL_unsubscribe_5 rfl rfl (Nat.le_of_ble_eq_true rfl) (by decide) [(0, 10, 13, 21), (0, 10, 17, 13)] (0, 10, 21, 15) [] rfl (by decide) rfl (by decide) (hp_2_21_13 rfl) lcw_15 lca_2 dL_unsubscribe_21 (by decide) rfl ?_
      refine v_iconst (v := 3) dL_unsubscribe_23 ci_3 ?_
      cases h
      exact v_ireturn dL_unsubscribe_24
    replace h := ifN c9 h
    cases h
theorem k_L_unsubscribe {G : Gl} {l0 : Nat} {l1 : Int32} {l2 : Int32} {l3 : Nat} {M MF : Mem} {r : Int32} (h : f_L_unsubscribe l0 l1 l2 l3 M = some (r, MF)) : CtrW G yL_unsubscribe cL_unsubscribe 5 (some .int) [((0 : Nat), (10 : Nat), (13 : Nat), (21 : Nat)), ((0 : Nat), (10 : Nat), (17 : Nat), (13 : Nat)), ((0 : Nat), (10 : Nat), (21 : Nat), (15 : Nat))] 9 156 [.ref l0, .int l1, .int l2, .ref l3] M (cvI r) MF :=
  ctrW_of (by decide +kernel) (Nat.le_of_ble_eq_true rfl) (fun ρ => w_L_unsubscribe l0 l1 l2 l3 M h)
theorem wd_L_155 : wdW RL 155 yL_unsubscribe cL_unsubscribe 5 (some .int) [((0 : Nat), (10 : Nat), (13 : Nat), (21 : Nat)), ((0 : Nat), (10 : Nat), (17 : Nat), (13 : Nat)), ((0 : Nat), (10 : Nat), (21 : Nat), (15 : Nat))] 4 := ⟨gwi 950 (by decide +kernel) (by decide +kernel), gwi 951 (by decide +kernel) (by decide +kernel), gwi 75 (by decide +kernel) (by decide +kernel), gwi 952 (by decide +kernel) (by decide +kernel), ⟨by decide +kernel, by decide +kernel, by decide +kernel⟩⟩
theorem ca_L_155 {G : Gl} {B : Bx} {cc : ByteArray} {ret : Option FieldType} {fr lo nL : Nat} {mn : String} {hh : List (Nat × Nat × Nat × Nat)} {pc : Nat} {ls : List (Nat × Value)} {st : List Value} {M M1 : Mem} {l0 : Nat} {l1 : Int32} {l2 : Int32} {l3 : Nat} {x : Int32} (e : f_L_unsubscribe l0 l1 l2 l3 M = some (x, M1)) (hd : decode cc pc = .ok (.invokestatic 155, 3)) (hcat : (st.map fun v => v.category).sum ≤ 8) (hR : 9 + 1 ≤ fr ∧ 8 + (5 + 11) + 156 ≤ lo) (k : V G (RL, cc, ret, fr, lo, nL, mn, hh) B (pc + 3) ls (.int x :: st) M1) : V G (RL, cc, ret, fr, lo, nL, mn, hh) B pc ls (.ref l3 :: .int l2 :: .int l1 :: .ref l0 :: st) M := v_callWi (As := [.ref l0, .int l1, .int l2, .ref l3]) (k_L_unsubscribe e) wd_L_155 hd rfl rfl hcat hR k
set_option maxHeartbeats 4000000 in
set_option maxRecDepth 100000 in
theorem w_L_subscription {G : Gl} {ρ0 : Nat → Nat} {M0 MF : Mem} {r : Int32} (l0 : Nat) (l1 : Int32) (l2 : Int32) (l3 : Int32) (l4 : Nat) (M : Mem) (h : f_L_subscription l0 l1 l2 l3 l4 M = some (r, MF)) : V G (RL, cL_subscription, (some .int), 8, 136, 6, "subscription", [((0 : Nat), (12 : Nat), (15 : Nat), (21 : Nat)), ((0 : Nat), (12 : Nat), (19 : Nat), (13 : Nat))]) (ρ0, M0, cvI r, MF) 0 [(0, .ref l0), (1, .int l1), (2, .int l2), (3, .int l3), (4, .ref l4)] [] M := by
  unfold f_L_subscription at h
  refine v_aload dL_subscription_0 4 rfl ?_
  refine v_iconst (v := 0) dL_subscription_2 ci_0 ?_
  refine v_aload_n dL_subscription_3 rfl 0 rfl ?_
  refine v_iload_n dL_subscription_4 rfl 1 rfl ?_
  refine v_iload_n dL_subscription_5 rfl 2 rfl ?_
  refine v_iload_n dL_subscription_6 rfl 3 rfl ?_
  rcases bindH_some h with ⟨v2, M1, e, h⟩ | ⟨e9, M1, e, h⟩
  · refine ca_L_47 e dL_subscription_7 (Nat.le_of_ble_eq_true rfl) (by decide) ?_
    refine v_i2l dL_subscription_10 ?_
    obtain ⟨M3, e, h⟩ := bind_some h
    refine v_lastore dL_subscription_11 e ?_
    refine v_goto (tgt := 23) dL_subscription_12 (by decide) ?_
    refine v_iconst (v := 0) dL_subscription_23 ci_0 ?_
    cases h
    exact v_ireturn dL_subscription_24
  · rcases Decidable.em (e9 = 3) with c9 | c9
    · subst c9
      replace h := ifP rfl h
      refine v_catch (e := 3) (hpc := 15) (ls' := [(0, .ref l0), (1, .int l1), (2, .int l2), (3, .int l3), (4, .ref l4)]) (As := [.int l1, .int l2, .int l3]) (k_X11_subscription e) wd_L_47 clX11 (kd_X11_subscription e) dL_subscription_7 rfl rfl (Nat.le_of_ble_eq_true rfl) (by decide) [] (0, 12, 15, 21) [(0, 12, 19, 13)] rfl (by decide) rfl (by decide) (fun _ hz => nomatch hz) lcw_21 lca_3 dL_subscription_15 (by decide) rfl ?_
      refine v_iconst (v := 1) dL_subscription_17 ci_1 ?_
      cases h
      exact v_ireturn dL_subscription_18
    replace h := ifN c9 h
    rcases Decidable.em (e9 = 1) with c9 | c9
    · subst c9
      replace h := ifP rfl h
      refine v_catch (e := 1) (hpc := 19) (ls' := [(0, .ref l0), (1, .int l1), (2, .int l2), (3, .int l3), (4, .ref l4)]) (As := [.int l1, .int l2, .int l3]) (k_X11_subscription e) wd_L_47 clX11 (kd_X11_subscription e) dL_subscription_7 rfl rfl (Nat.le_of_ble_eq_true rfl) (by decide) [(0, 12, 15, 21)] (0, 12, 19, 13) [] rfl (by decide) rfl (by decide) (hp_1_21 rfl) lcw_13 lca_1 dL_subscription_19 (by decide) rfl ?_
      refine v_iconst (v := 2) dL_subscription_21 ci_2 ?_
      cases h
      exact v_ireturn dL_subscription_22
    replace h := ifN c9 h
    cases h
theorem k_L_subscription {G : Gl} {l0 : Nat} {l1 : Int32} {l2 : Int32} {l3 : Int32} {l4 : Nat} {M MF : Mem} {r : Int32} (h : f_L_subscription l0 l1 l2 l3 l4 M = some (r, MF)) : CtrW G yL_subscription cL_subscription 6 (some .int) [((0 : Nat), (12 : Nat), (15 : Nat), (21 : Nat)), ((0 : Nat), (12 : Nat), (19 : Nat), (13 : Nat))] 8 136 [.ref l0, .int l1, .int l2, .int l3, .ref l4] M (cvI r) MF :=
  ctrW_of (by decide +kernel) (Nat.le_of_ble_eq_true rfl) (fun ρ => w_L_subscription l0 l1 l2 l3 l4 M h)
theorem wd_L_158 : wdW RL 158 yL_subscription cL_subscription 6 (some .int) [((0 : Nat), (12 : Nat), (15 : Nat), (21 : Nat)), ((0 : Nat), (12 : Nat), (19 : Nat), (13 : Nat))] 5 := ⟨gwi 966 (by decide +kernel) (by decide +kernel), gwi 967 (by decide +kernel) (by decide +kernel), gwi 75 (by decide +kernel) (by decide +kernel), gwi 968 (by decide +kernel) (by decide +kernel), ⟨by decide +kernel, by decide +kernel, by decide +kernel⟩⟩
theorem ca_L_158 {G : Gl} {B : Bx} {cc : ByteArray} {ret : Option FieldType} {fr lo nL : Nat} {mn : String} {hh : List (Nat × Nat × Nat × Nat)} {pc : Nat} {ls : List (Nat × Value)} {st : List Value} {M M1 : Mem} {l0 : Nat} {l1 : Int32} {l2 : Int32} {l3 : Int32} {l4 : Nat} {x : Int32} (e : f_L_subscription l0 l1 l2 l3 l4 M = some (x, M1)) (hd : decode cc pc = .ok (.invokestatic 158, 3)) (hcat : (st.map fun v => v.category).sum ≤ 8) (hR : 8 + 1 ≤ fr ∧ 8 + (6 + 11) + 136 ≤ lo) (k : V G (RL, cc, ret, fr, lo, nL, mn, hh) B (pc + 3) ls (.int x :: st) M1) : V G (RL, cc, ret, fr, lo, nL, mn, hh) B pc ls (.ref l4 :: .int l3 :: .int l2 :: .int l1 :: .ref l0 :: st) M := v_callWi (As := [.ref l0, .int l1, .int l2, .int l3, .ref l4]) (k_L_subscription e) wd_L_158 hd rfl rfl hcat hR k
set_option maxHeartbeats 4000000 in
set_option maxRecDepth 100000 in
theorem w_L_relation {G : Gl} {ρ0 : Nat → Nat} {M0 MF : Mem} {r : Int32} (l0 : Nat) (l1 : Int32) (l2 : Int32) (l3 : Int32) (l4 : Nat) (M : Mem) (h : f_L_relation l0 l1 l2 l3 l4 M = some (r, MF)) : V G (RL, cL_relation, (some .int), 8, 138, 6, "relation", [((0 : Nat), (12 : Nat), (15 : Nat), (21 : Nat))]) (ρ0, M0, cvI r, MF) 0 [(0, .ref l0), (1, .int l1), (2, .int l2), (3, .int l3), (4, .ref l4)] [] M := by
  unfold f_L_relation at h
  refine v_aload dL_relation_0 4 rfl ?_
  refine v_iconst (v := 0) dL_relation_2 ci_0 ?_
  refine v_aload_n dL_relation_3 rfl 0 rfl ?_
  refine v_iload_n dL_relation_4 rfl 1 rfl ?_
  refine v_iload_n dL_relation_5 rfl 2 rfl ?_
  refine v_iload_n dL_relation_6 rfl 3 rfl ?_
  rcases bindH_some h with ⟨v2, M1, e, h⟩ | ⟨e9, M1, e, h⟩
  · refine ca_L_51 e dL_relation_7 (Nat.le_of_ble_eq_true rfl) (by decide) ?_
    refine v_i2l dL_relation_10 ?_
    obtain ⟨M3, e, h⟩ := bind_some h
    refine v_lastore dL_relation_11 e ?_
    refine v_goto (tgt := 19) dL_relation_12 (by decide) ?_
    refine v_iconst (v := 0) dL_relation_19 ci_0 ?_
    cases h
    exact v_ireturn dL_relation_20
  · rcases Decidable.em (e9 = 3) with c9 | c9
    · subst c9
      replace h := ifP rfl h
      refine v_catch (e := 3) (hpc := 15) (ls' := [(0, .ref l0), (1, .int l1), (2, .int l2), (3, .int l3), (4, .ref l4)]) (As := [.int l1, .int l2, .int l3]) (k_X11_relation e) wd_L_51 clX11 (kd_X11_relation e) dL_relation_7 rfl rfl (Nat.le_of_ble_eq_true rfl) (by decide) [] (0, 12, 15, 21) [] rfl (by decide) rfl (by decide) (fun _ hz => nomatch hz) lcw_21 lca_3 dL_relation_15 (by decide) rfl ?_
      refine v_iconst (v := 1) dL_relation_17 ci_1 ?_
      cases h
      exact v_ireturn dL_relation_18
    replace h := ifN c9 h
    cases h
theorem k_L_relation {G : Gl} {l0 : Nat} {l1 : Int32} {l2 : Int32} {l3 : Int32} {l4 : Nat} {M MF : Mem} {r : Int32} (h : f_L_relation l0 l1 l2 l3 l4 M = some (r, MF)) : CtrW G yL_relation cL_relation 6 (some .int) [((0 : Nat), (12 : Nat), (15 : Nat), (21 : Nat))] 8 138 [.ref l0, .int l1, .int l2, .int l3, .ref l4] M (cvI r) MF :=
  ctrW_of (by decide +kernel) (Nat.le_of_ble_eq_true rfl) (fun ρ => w_L_relation l0 l1 l2 l3 l4 M h)
theorem wd_L_162 : wdW RL 162 yL_relation cL_relation 6 (some .int) [((0 : Nat), (12 : Nat), (15 : Nat), (21 : Nat))] 5 := ⟨gwi 977 (by decide +kernel) (by decide +kernel), gwi 978 (by decide +kernel) (by decide +kernel), gwi 75 (by decide +kernel) (by decide +kernel), gwi 979 (by decide +kernel) (by decide +kernel), ⟨by decide +kernel, by decide +kernel, by decide +kernel⟩⟩
theorem ca_L_162 {G : Gl} {B : Bx} {cc : ByteArray} {ret : Option FieldType} {fr lo nL : Nat} {mn : String} {hh : List (Nat × Nat × Nat × Nat)} {pc : Nat} {ls : List (Nat × Value)} {st : List Value} {M M1 : Mem} {l0 : Nat} {l1 : Int32} {l2 : Int32} {l3 : Int32} {l4 : Nat} {x : Int32} (e : f_L_relation l0 l1 l2 l3 l4 M = some (x, M1)) (hd : decode cc pc = .ok (.invokestatic 162, 3)) (hcat : (st.map fun v => v.category).sum ≤ 8) (hR : 8 + 1 ≤ fr ∧ 8 + (6 + 11) + 138 ≤ lo) (k : V G (RL, cc, ret, fr, lo, nL, mn, hh) B (pc + 3) ls (.int x :: st) M1) : V G (RL, cc, ret, fr, lo, nL, mn, hh) B pc ls (.ref l4 :: .int l3 :: .int l2 :: .int l1 :: .ref l0 :: st) M := v_callWi (As := [.ref l0, .int l1, .int l2, .int l3, .ref l4]) (k_L_relation e) wd_L_162 hd rfl rfl hcat hR k
set_option maxHeartbeats 4000000 in
set_option maxRecDepth 100000 in
theorem w_L_shareSize {G : Gl} {ρ0 : Nat → Nat} {M0 MF : Mem} {r : Int32} (l0 : Nat) (l1 : Int32) (l2 : Nat) (M : Mem) (h : f_L_shareSize l0 l1 l2 M = some (r, MF)) : V G (RL, cL_shareSize, (some .int), 9, 156, 4, "shareSize", [((0 : Nat), (9 : Nat), (12 : Nat), (13 : Nat))]) (ρ0, M0, cvI r, MF) 0 [(0, .ref l0), (1, .int l1), (2, .ref l2)] [] M := by
  unfold f_L_shareSize at h
  refine v_aload_n dL_shareSize_0 rfl 2 rfl ?_
  refine v_iconst (v := 0) dL_shareSize_1 ci_0 ?_
  refine v_aload_n dL_shareSize_2 rfl 0 rfl ?_
  refine v_iload_n dL_shareSize_3 rfl 1 rfl ?_
  rcases bindH_some h with ⟨v2, M1, e, h⟩ | ⟨e9, M1, e, h⟩
  · refine ca_L_54 e dL_shareSize_4 (Nat.le_of_ble_eq_true rfl) (by decide) ?_
    refine v_i2l dL_shareSize_7 ?_
    obtain ⟨M3, e, h⟩ := bind_some h
    refine v_lastore dL_shareSize_8 e ?_
    refine v_goto (tgt := 15) dL_shareSize_9 (by decide) ?_
    refine v_iconst (v := 0) dL_shareSize_15 ci_0 ?_
    cases h
    exact v_ireturn dL_shareSize_16
  · rcases Decidable.em (e9 = 1) with c9 | c9
    · subst c9
      replace h := ifP rfl h
      refine v_catch_n (e := 1) (hpc := 12) (ls' := [(0, .ref l0), (1, .int l1), (2, .ref l2)]) (As := [.int l1]) (k_X11_shareSize e) wd_L_54 clX11 (kd_X11_shareSize e) dL_shareSize_4 rfl rfl (Nat.le_of_ble_eq_true rfl) (by decide) [] (0, 9, 12, 13) [] rfl (by decide) rfl (by decide) (fun _ hz => nomatch hz) lcw_13 lca_1 dL_shareSize_12 rfl (by decide) rfl ?_
      refine v_iconst (v := 1) dL_shareSize_13 ci_1 ?_
      cases h
      exact v_ireturn dL_shareSize_14
    replace h := ifN c9 h
    cases h
theorem k_L_shareSize {G : Gl} {l0 : Nat} {l1 : Int32} {l2 : Nat} {M MF : Mem} {r : Int32} (h : f_L_shareSize l0 l1 l2 M = some (r, MF)) : CtrW G yL_shareSize cL_shareSize 4 (some .int) [((0 : Nat), (9 : Nat), (12 : Nat), (13 : Nat))] 9 156 [.ref l0, .int l1, .ref l2] M (cvI r) MF :=
  ctrW_of (by decide +kernel) (Nat.le_of_ble_eq_true rfl) (fun ρ => w_L_shareSize l0 l1 l2 M h)
theorem wd_L_165 : wdW RL 165 yL_shareSize cL_shareSize 4 (some .int) [((0 : Nat), (9 : Nat), (12 : Nat), (13 : Nat))] 3 := ⟨gwi 996 (by decide +kernel) (by decide +kernel), gwi 997 (by decide +kernel) (by decide +kernel), gwi 75 (by decide +kernel) (by decide +kernel), gwi 998 (by decide +kernel) (by decide +kernel), ⟨by decide +kernel, by decide +kernel, by decide +kernel⟩⟩
theorem ca_L_165 {G : Gl} {B : Bx} {cc : ByteArray} {ret : Option FieldType} {fr lo nL : Nat} {mn : String} {hh : List (Nat × Nat × Nat × Nat)} {pc : Nat} {ls : List (Nat × Value)} {st : List Value} {M M1 : Mem} {l0 : Nat} {l1 : Int32} {l2 : Nat} {x : Int32} (e : f_L_shareSize l0 l1 l2 M = some (x, M1)) (hd : decode cc pc = .ok (.invokestatic 165, 3)) (hcat : (st.map fun v => v.category).sum ≤ 8) (hR : 9 + 1 ≤ fr ∧ 8 + (4 + 11) + 156 ≤ lo) (k : V G (RL, cc, ret, fr, lo, nL, mn, hh) B (pc + 3) ls (.int x :: st) M1) : V G (RL, cc, ret, fr, lo, nL, mn, hh) B pc ls (.ref l2 :: .int l1 :: .ref l0 :: st) M := v_callWi (As := [.ref l0, .int l1, .ref l2]) (k_L_shareSize e) wd_L_165 hd rfl rfl hcat hR k
set_option maxHeartbeats 4000000 in
set_option maxRecDepth 100000 in
theorem w_L_shareMember {G : Gl} {ρ0 : Nat → Nat} {M0 MF : Mem} {r : Int32} (l0 : Nat) (l1 : Int32) (l2 : Int32) (l3 : Nat) (M : Mem) (h : f_L_shareMember l0 l1 l2 l3 M = some (r, MF)) : V G (RL, cL_shareMember, (some .int), 9, 157, 5, "shareMember", [((0 : Nat), (10 : Nat), (13 : Nat), (13 : Nat)), ((0 : Nat), (10 : Nat), (17 : Nat), (21 : Nat))]) (ρ0, M0, cvI r, MF) 0 [(0, .ref l0), (1, .int l1), (2, .int l2), (3, .ref l3)] [] M := by
  unfold f_L_shareMember at h
  refine v_aload_n dL_shareMember_0 rfl 3 rfl ?_
  refine v_iconst (v := 0) dL_shareMember_1 ci_0 ?_
  refine v_aload_n dL_shareMember_2 rfl 0 rfl ?_
  refine v_iload_n dL_shareMember_3 rfl 1 rfl ?_
  refine v_iload_n dL_shareMember_4 rfl 2 rfl ?_
  rcases bindH_some h with ⟨v2, M1, e, h⟩ | ⟨e9, M1, e, h⟩
  · refine ca_L_57 e dL_shareMember_5 (Nat.le_of_ble_eq_true rfl) (by decide) ?_
    refine v_i2l dL_shareMember_8 ?_
    obtain ⟨M3, e, h⟩ := bind_some h
    refine v_lastore dL_shareMember_9 e ?_
    refine v_goto (tgt := 21) dL_shareMember_10 (by decide) ?_
    refine v_iconst (v := 0) dL_shareMember_21 ci_0 ?_
    cases h
    exact v_ireturn dL_shareMember_22
  · rcases Decidable.em (e9 = 1) with c9 | c9
    · subst c9
      replace h := ifP rfl h
      refine v_catch (e := 1) (hpc := 13) (ls' := [(0, .ref l0), (1, .int l1), (2, .int l2), (3, .ref l3)]) (As := [.int l1, .int l2]) (k_X11_shareMember e) wd_L_57 clX11 (kd_X11_shareMember e) dL_shareMember_5 rfl rfl (Nat.le_of_ble_eq_true rfl) (by decide) [] (0, 10, 13, 13) [(0, 10, 17, 21)] rfl (by decide) rfl (by decide) (fun _ hz => nomatch hz) lcw_13 lca_1 dL_shareMember_13 (by decide) rfl ?_
      refine v_iconst (v := 1) dL_shareMember_15 ci_1 ?_
      cases h
      exact v_ireturn dL_shareMember_16
    replace h := ifN c9 h
    rcases Decidable.em (e9 = 3) with c9 | c9
    · subst c9
      replace h := ifP rfl h
      refine v_catch (e := 3) (hpc := 17) (ls' := [(0, .ref l0), (1, .int l1), (2, .int l2), (3, .ref l3)]) (As := [.int l1, .int l2]) (k_X11_shareMember e) wd_L_57 clX11 (kd_X11_shareMember e) dL_shareMember_5 rfl rfl (Nat.le_of_ble_eq_true rfl) (by decide) [(0, 10, 13, 13)] (0, 10, 17, 21) [] rfl (by decide) rfl (by decide) (hp_3_13 rfl) lcw_21 lca_3 dL_shareMember_17 (by decide) rfl ?_
      refine v_iconst (v := 2) dL_shareMember_19 ci_2 ?_
      cases h
      exact v_ireturn dL_shareMember_20
    replace h := ifN c9 h
    cases h
theorem k_L_shareMember {G : Gl} {l0 : Nat} {l1 : Int32} {l2 : Int32} {l3 : Nat} {M MF : Mem} {r : Int32} (h : f_L_shareMember l0 l1 l2 l3 M = some (r, MF)) : CtrW G yL_shareMember cL_shareMember 5 (some .int) [((0 : Nat), (10 : Nat), (13 : Nat), (13 : Nat)), ((0 : Nat), (10 : Nat), (17 : Nat), (21 : Nat))] 9 157 [.ref l0, .int l1, .int l2, .ref l3] M (cvI r) MF :=
  ctrW_of (by decide +kernel) (Nat.le_of_ble_eq_true rfl) (fun ρ => w_L_shareMember l0 l1 l2 l3 M h)
theorem wd_L_168 : wdW RL 168 yL_shareMember cL_shareMember 5 (some .int) [((0 : Nat), (10 : Nat), (13 : Nat), (13 : Nat)), ((0 : Nat), (10 : Nat), (17 : Nat), (21 : Nat))] 4 := ⟨gwi 1004 (by decide +kernel) (by decide +kernel), gwi 1005 (by decide +kernel) (by decide +kernel), gwi 75 (by decide +kernel) (by decide +kernel), gwi 1006 (by decide +kernel) (by decide +kernel), ⟨by decide +kernel, by decide +kernel, by decide +kernel⟩⟩
theorem ca_L_168 {G : Gl} {B : Bx} {cc : ByteArray} {ret : Option FieldType} {fr lo nL : Nat} {mn : String} {hh : List (Nat × Nat × Nat × Nat)} {pc : Nat} {ls : List (Nat × Value)} {st : List Value} {M M1 : Mem} {l0 : Nat} {l1 : Int32} {l2 : Int32} {l3 : Nat} {x : Int32} (e : f_L_shareMember l0 l1 l2 l3 M = some (x, M1)) (hd : decode cc pc = .ok (.invokestatic 168, 3)) (hcat : (st.map fun v => v.category).sum ≤ 8) (hR : 9 + 1 ≤ fr ∧ 8 + (5 + 11) + 157 ≤ lo) (k : V G (RL, cc, ret, fr, lo, nL, mn, hh) B (pc + 3) ls (.int x :: st) M1) : V G (RL, cc, ret, fr, lo, nL, mn, hh) B pc ls (.ref l3 :: .int l2 :: .int l1 :: .ref l0 :: st) M := v_callWi (As := [.ref l0, .int l1, .int l2, .ref l3]) (k_L_shareMember e) wd_L_168 hd rfl rfl hcat hR k
set_option maxHeartbeats 4000000 in
set_option maxRecDepth 100000 in
theorem w_L_publish {G : Gl} {ρ0 : Nat → Nat} {M0 MF : Mem} {r : Int32} (l0 : Nat) (l1 : Int32) (l2 : Int32) (l3 : Int32) (l4 : Int32) (l5 : Int32) (l6 : Nat) (M : Mem) (h : f_L_publish l0 l1 l2 l3 l4 l5 l6 M = some (r, MF)) : V G (RL, cL_publish, (some .int), 9, 161, 8, "publish", [((0 : Nat), (16 : Nat), (19 : Nat), (21 : Nat)), ((0 : Nat), (16 : Nat), (23 : Nat), (13 : Nat)), ((0 : Nat), (16 : Nat), (27 : Nat), (15 : Nat))]) (ρ0, M0, cvI r, MF) 0 [(0, .ref l0), (1, .int l1), (2, .int l2), (3, .int l3), (4, .int l4), (5, .int l5), (6, .ref l6)] [] M := by
  unfold f_L_publish at h
  refine v_aload dL_publish_0 6 rfl ?_
  refine v_iconst (v := 0) dL_publish_2 ci_0 ?_
  refine v_aload_n dL_publish_3 rfl 0 rfl ?_
  refine v_iload_n dL_publish_4 rfl 1 rfl ?_
  refine v_iload_n dL_publish_5 rfl 2 rfl ?_
  refine v_iload_n dL_publish_6 rfl 3 rfl ?_
  refine v_iload dL_publish_7 4 rfl ?_
  refine v_iload dL_publish_9 5 rfl ?_
  rcases bindH_some h with ⟨v2, M1, e, h⟩ | ⟨e9, M1, e, h⟩
  · refine ca_L_60 e dL_publish_11 (Nat.le_of_ble_eq_true rfl) (by decide) ?_
    refine v_i2l dL_publish_14 ?_
    obtain ⟨M3, e, h⟩ := bind_some h
    refine v_lastore dL_publish_15 e ?_
    refine v_goto (tgt := 31) dL_publish_16 (by decide) ?_
    refine v_iconst (v := 0) dL_publish_31 ci_0 ?_
    cases h
    exact v_ireturn dL_publish_32
  · rcases Decidable.em (e9 = 3) with c9 | c9
    · subst c9
      replace h := ifP rfl h
      refine v_catch (e := 3) (hpc := 19) (ls' := [(0, .ref l0), (1, .int l1), (2, .int l2), (3, .int l3), (4, .int l4), (5, .int l5), (6, .ref l6)]) (As := [.int l1, .int l2, .int l3, .int l4, .int l5]) (k_X11_publish e) wd_L_60 clX11 (kd_X11_publish e) dL_publish_11 rfl rfl (Nat.le_of_ble_eq_true rfl) (by decide) [] (0, 16, 19, 21) [(0, 16, 23, 13), (0, 16, 27, 15)] rfl (by decide) rfl (by decide) (fun _ hz => nomatch hz) lcw_21 lca_3 dL_publish_19 (by decide) rfl ?_
      refine v_iconst (v := 1) dL_publish_21 ci_1 ?_
      cases h
      exact v_ireturn dL_publish_22
    replace h := ifN c9 h
    rcases Decidable.em (e9 = 1) with c9 | c9
    · subst c9
      replace h := ifP rfl h
      refine v_catch (e := 1) (hpc := 23) (ls' := [(0, .ref l0), (1, .int l1), (2, .int l2), (3, .int l3), (4, .int l4), (5, .int l5), (6, .ref l6)]) (As := [.int l1, .int l2, .int l3, .int l4, .int l5]) (k_X11_publish e) wd_L_60 clX11 (kd_X11_publish e) dL_publish_11 rfl rfl (Nat.le_of_ble_eq_true rfl) (by decide) [(0, 16, 19, 21)] (0, 16, 23, 13) [(0, 16, 27, 15)] rfl (by decide) rfl (by decide) (hp_1_21 rfl) lcw_13 lca_1 dL_publish_23 (by decide) rfl ?_
      refine v_iconst (v := 2) dL_publish_25 ci_2 ?_
      cases h
      exact v_ireturn dL_publish_26
    replace h := ifN c9 h
    rcases Decidable.em (e9 = 2) with c9 | c9
    · subst c9
      replace h := ifP rfl h
      refine v_catch (e := 2) (hpc := 27) (ls' := [(0, .ref l0), (1, .int l1), (2, .int l2), (3, .int l3), (4, .int l4), (5, .int l5), (6, .ref l6)]) (As := [.int l1, .int l2, .int l3, .int l4, .int l5]) (k_X11_publish e) wd_L_60 clX11 (kd_X11_publish e) dL_publish_11 rfl rfl (Nat.le_of_ble_eq_true rfl) (by decide) [(0, 16, 19, 21), (0, 16, 23, 13)] (0, 16, 27, 15) [] rfl (by decide) rfl (by decide) (hp_2_21_13 rfl) lcw_15 lca_2 dL_publish_27 (by decide) rfl ?_
      refine v_iconst (v := 3) dL_publish_29 ci_3 ?_
      cases h
      exact v_ireturn dL_publish_30
    replace h := ifN c9 h
    cases h
theorem k_L_publish {G : Gl} {l0 : Nat} {l1 : Int32} {l2 : Int32} {l3 : Int32} {l4 : Int32} {l5 : Int32} {l6 : Nat} {M MF : Mem} {r : Int32} (h : f_L_publish l0 l1 l2 l3 l4 l5 l6 M = some (r, MF)) : CtrW G yL_publish cL_publish 8 (some .int) [((0 : Nat), (16 : Nat), (19 : Nat), (21 : Nat)), ((0 : Nat), (16 : Nat), (23 : Nat), (13 : Nat)), ((0 : Nat), (16 : Nat), (27 : Nat), (15 : Nat))] 9 161 [.ref l0, .int l1, .int l2, .int l3, .int l4, .int l5, .ref l6] M (cvI r) MF :=
  ctrW_of (by decide +kernel) (Nat.le_of_ble_eq_true rfl) (fun ρ => w_L_publish l0 l1 l2 l3 l4 l5 l6 M h)
theorem wd_L_171 : wdW RL 171 yL_publish cL_publish 8 (some .int) [((0 : Nat), (16 : Nat), (19 : Nat), (21 : Nat)), ((0 : Nat), (16 : Nat), (23 : Nat), (13 : Nat)), ((0 : Nat), (16 : Nat), (27 : Nat), (15 : Nat))] 7 := ⟨gwi 1011 (by decide +kernel) (by decide +kernel), gwi 1012 (by decide +kernel) (by decide +kernel), gwi 75 (by decide +kernel) (by decide +kernel), gwi 1013 (by decide +kernel) (by decide +kernel), ⟨by decide +kernel, by decide +kernel, by decide +kernel⟩⟩
theorem ca_L_171 {G : Gl} {B : Bx} {cc : ByteArray} {ret : Option FieldType} {fr lo nL : Nat} {mn : String} {hh : List (Nat × Nat × Nat × Nat)} {pc : Nat} {ls : List (Nat × Value)} {st : List Value} {M M1 : Mem} {l0 : Nat} {l1 : Int32} {l2 : Int32} {l3 : Int32} {l4 : Int32} {l5 : Int32} {l6 : Nat} {x : Int32} (e : f_L_publish l0 l1 l2 l3 l4 l5 l6 M = some (x, M1)) (hd : decode cc pc = .ok (.invokestatic 171, 3)) (hcat : (st.map fun v => v.category).sum ≤ 8) (hR : 9 + 1 ≤ fr ∧ 8 + (8 + 11) + 161 ≤ lo) (k : V G (RL, cc, ret, fr, lo, nL, mn, hh) B (pc + 3) ls (.int x :: st) M1) : V G (RL, cc, ret, fr, lo, nL, mn, hh) B pc ls (.ref l6 :: .int l5 :: .int l4 :: .int l3 :: .int l2 :: .int l1 :: .ref l0 :: st) M := v_callWi (As := [.ref l0, .int l1, .int l2, .int l3, .int l4, .int l5, .ref l6]) (k_L_publish e) wd_L_171 hd rfl rfl hcat hR k
set_option maxHeartbeats 4000000 in
set_option maxRecDepth 100000 in
theorem w_L_release {G : Gl} {ρ0 : Nat → Nat} {M0 MF : Mem} {r : Int32} (l0 : Nat) (l1 : Int32) (l2 : Int32) (l3 : Nat) (M : Mem) (h : f_L_release l0 l1 l2 l3 M = some (r, MF)) : V G (RL, cL_release, (some .int), 8, 135, 5, "release", [((0 : Nat), (10 : Nat), (13 : Nat), (21 : Nat)), ((0 : Nat), (10 : Nat), (17 : Nat), (13 : Nat)), ((0 : Nat), (10 : Nat), (21 : Nat), (15 : Nat))]) (ρ0, M0, cvI r, MF) 0 [(0, .ref l0), (1, .int l1), (2, .int l2), (3, .ref l3)] [] M := by
  unfold f_L_release at h
  refine v_aload_n dL_release_0 rfl 3 rfl ?_
  refine v_iconst (v := 0) dL_release_1 ci_0 ?_
  refine v_aload_n dL_release_2 rfl 0 rfl ?_
  refine v_iload_n dL_release_3 rfl 1 rfl ?_
  refine v_iload_n dL_release_4 rfl 2 rfl ?_
  rcases bindH_some h with ⟨v2, M1, e, h⟩ | ⟨e9, M1, e, h⟩
  · refine ca_L_64 e dL_release_5 (Nat.le_of_ble_eq_true rfl) (by decide) ?_
    refine v_i2l dL_release_8 ?_
    obtain ⟨M3, e, h⟩ := bind_some h
    refine v_lastore dL_release_9 e ?_
    refine v_goto (tgt := 25) dL_release_10 (by decide) ?_
    refine v_iconst (v := 0) dL_release_25 ci_0 ?_
    cases h
    exact v_ireturn dL_release_26
  · rcases Decidable.em (e9 = 3) with c9 | c9
    · subst c9
      replace h := ifP rfl h
      refine v_catch (e := 3) (hpc := 13) (ls' := [(0, .ref l0), (1, .int l1), (2, .int l2), (3, .ref l3)]) (As := [.int l1, .int l2]) (k_X11_release e) wd_L_64 clX11 (kd_X11_release e) dL_release_5 rfl rfl (Nat.le_of_ble_eq_true rfl) (by decide) [] (0, 10, 13, 21) [(0, 10, 17, 13), (0, 10, 21, 15)] rfl (by decide) rfl (by decide) (fun _ hz => nomatch hz) lcw_21 lca_3 dL_release_13 (by decide) rfl ?_
      refine v_iconst (v := 1) dL_release_15 ci_1 ?_
      cases h
      exact v_ireturn dL_release_16
    replace h := ifN c9 h
    rcases Decidable.em (e9 = 1) with c9 | c9
    · subst c9
      replace h := ifP rfl h
      refine v_catch (e := 1) (hpc := 17) (ls' := [(0, .ref l0), (1, .int l1), (2, .int l2), (3, .ref l3)]) (As := [.int l1, .int l2]) (k_X11_release e) wd_L_64 clX11 (kd_X11_release e) dL_release_5 rfl rfl (Nat.le_of_ble_eq_true rfl) (by decide) [(0, 10, 13, 21)] (0, 10, 17, 13) [(0, 10, 21, 15)] rfl (by decide) rfl (by decide) (hp_1_21 rfl) lcw_13 lca_1 dL_release_17 (by decide) rfl ?_
      refine v_iconst (v := 2) dL_release_19 ci_2 ?_
      cases h
      exact v_ireturn dL_release_20
    replace h := ifN c9 h
    rcases Decidable.em (e9 = 2) with c9 | c9
    · subst c9
      replace h := ifP rfl h
      refine v_catch (e := 2) (hpc := 21) (ls' := [(0, .ref l0), (1, .int l1), (2, .int l2), (3, .ref l3)]) (As := [.int l1, .int l2]) (k_X11_release e) wd_L_64 clX11 (kd_X11_release e) dL_release_5 rfl rfl (Nat.le_of_ble_eq_true rfl) (by decide) [(0, 10, 13, 21), (0, 10, 17, 13)] (0, 10, 21, 15) [] rfl (by decide) rfl (by decide) (hp_2_21_13 rfl) lcw_15 lca_2 dL_release_21 (by decide) rfl ?_
      refine v_iconst (v := 3) dL_release_23 ci_3 ?_
      cases h
      exact v_ireturn dL_release_24
    replace h := ifN c9 h
    cases h
theorem k_L_release {G : Gl} {l0 : Nat} {l1 : Int32} {l2 : Int32} {l3 : Nat} {M MF : Mem} {r : Int32} (h : f_L_release l0 l1 l2 l3 M = some (r, MF)) : CtrW G yL_release cL_release 5 (some .int) [((0 : Nat), (10 : Nat), (13 : Nat), (21 : Nat)), ((0 : Nat), (10 : Nat), (17 : Nat), (13 : Nat)), ((0 : Nat), (10 : Nat), (21 : Nat), (15 : Nat))] 8 135 [.ref l0, .int l1, .int l2, .ref l3] M (cvI r) MF :=
  ctrW_of (by decide +kernel) (Nat.le_of_ble_eq_true rfl) (fun ρ => w_L_release l0 l1 l2 l3 M h)
theorem wd_L_175 : wdW RL 175 yL_release cL_release 5 (some .int) [((0 : Nat), (10 : Nat), (13 : Nat), (21 : Nat)), ((0 : Nat), (10 : Nat), (17 : Nat), (13 : Nat)), ((0 : Nat), (10 : Nat), (21 : Nat), (15 : Nat))] 4 := ⟨gwi 1028 (by decide +kernel) (by decide +kernel), gwi 1029 (by decide +kernel) (by decide +kernel), gwi 75 (by decide +kernel) (by decide +kernel), gwi 1030 (by decide +kernel) (by decide +kernel), ⟨by decide +kernel, by decide +kernel, by decide +kernel⟩⟩
theorem ca_L_175 {G : Gl} {B : Bx} {cc : ByteArray} {ret : Option FieldType} {fr lo nL : Nat} {mn : String} {hh : List (Nat × Nat × Nat × Nat)} {pc : Nat} {ls : List (Nat × Value)} {st : List Value} {M M1 : Mem} {l0 : Nat} {l1 : Int32} {l2 : Int32} {l3 : Nat} {x : Int32} (e : f_L_release l0 l1 l2 l3 M = some (x, M1)) (hd : decode cc pc = .ok (.invokestatic 175, 3)) (hcat : (st.map fun v => v.category).sum ≤ 8) (hR : 8 + 1 ≤ fr ∧ 8 + (5 + 11) + 135 ≤ lo) (k : V G (RL, cc, ret, fr, lo, nL, mn, hh) B (pc + 3) ls (.int x :: st) M1) : V G (RL, cc, ret, fr, lo, nL, mn, hh) B pc ls (.ref l3 :: .int l2 :: .int l1 :: .ref l0 :: st) M := v_callWi (As := [.ref l0, .int l1, .int l2, .ref l3]) (k_L_release e) wd_L_175 hd rfl rfl hcat hR k
set_option maxHeartbeats 4000000 in
set_option maxRecDepth 100000 in
theorem w_L_answer {G : Gl} {ρ0 : Nat → Nat} {M0 MF : Mem} {r : Int32} (l0 : Nat) (l1 : Int32) (l2 : Int32) (l3 : Int32) (l4 : Nat) (M : Mem) (h : f_L_answer l0 l1 l2 l3 l4 M = some (r, MF)) : V G (RL, cL_answer, (some .int), 8, 140, 6, "answer", [((0 : Nat), (12 : Nat), (15 : Nat), (21 : Nat)), ((0 : Nat), (12 : Nat), (19 : Nat), (13 : Nat)), ((0 : Nat), (12 : Nat), (23 : Nat), (15 : Nat))]) (ρ0, M0, cvI r, MF) 0 [(0, .ref l0), (1, .int l1), (2, .int l2), (3, .int l3), (4, .ref l4)] [] M := by
  unfold f_L_answer at h
  refine v_aload dL_answer_0 4 rfl ?_
  refine v_iconst (v := 0) dL_answer_2 ci_0 ?_
  refine v_aload_n dL_answer_3 rfl 0 rfl ?_
  refine v_iload_n dL_answer_4 rfl 1 rfl ?_
  refine v_iload_n dL_answer_5 rfl 2 rfl ?_
  refine v_iload_n dL_answer_6 rfl 3 rfl ?_
  rcases bindH_some h with ⟨v2, M1, e, h⟩ | ⟨e9, M1, e, h⟩
  · refine ca_L_67 e dL_answer_7 (Nat.le_of_ble_eq_true rfl) (by decide) ?_
    refine v_i2l dL_answer_10 ?_
    obtain ⟨M3, e, h⟩ := bind_some h
    refine v_lastore dL_answer_11 e ?_
    refine v_goto (tgt := 27) dL_answer_12 (by decide) ?_
    refine v_iconst (v := 0) dL_answer_27 ci_0 ?_
    cases h
    exact v_ireturn dL_answer_28
  · rcases Decidable.em (e9 = 3) with c9 | c9
    · subst c9
      replace h := ifP rfl h
      refine v_catch (e := 3) (hpc := 15) (ls' := [(0, .ref l0), (1, .int l1), (2, .int l2), (3, .int l3), (4, .ref l4)]) (As := [.int l1, .int l2, .int l3]) (k_X11_answer e) wd_L_67 clX11 (kd_X11_answer e) dL_answer_7 rfl rfl (Nat.le_of_ble_eq_true rfl) (by decide) [] (0, 12, 15, 21) [(0, 12, 19, 13), (0, 12, 23, 15)] rfl (by decide) rfl (by decide) (fun _ hz => nomatch hz) lcw_21 lca_3 dL_answer_15 (by decide) rfl ?_
      refine v_iconst (v := 1) dL_answer_17 ci_1 ?_
      cases h
      exact v_ireturn dL_answer_18
    replace h := ifN c9 h
    rcases Decidable.em (e9 = 1) with c9 | c9
    · subst c9
      replace h := ifP rfl h
      refine v_catch (e := 1) (hpc := 19) (ls' := [(0, .ref l0), (1, .int l1), (2, .int l2), (3, .int l3), (4, .ref l4)]) (As := [.int l1, .int l2, .int l3]) (k_X11_answer e) wd_L_67 clX11 (kd_X11_answer e) dL_answer_7 rfl rfl (Nat.le_of_ble_eq_true rfl) (by decide) [(0, 12, 15, 21)] (0, 12, 19, 13) [(0, 12, 23, 15)] rfl (by decide) rfl (by decide) (hp_1_21 rfl) lcw_13 lca_1 dL_answer_19 (by decide) rfl ?_
      refine v_iconst (v := 2) dL_answer_21 ci_2 ?_
      cases h
      exact v_ireturn dL_answer_22
    replace h := ifN c9 h
    rcases Decidable.em (e9 = 2) with c9 | c9
    · subst c9
      replace h := ifP rfl h
      refine v_catch (e := 2) (hpc := 23) (ls' := [(0, .ref l0), (1, .int l1), (2, .int l2), (3, .int l3), (4, .ref l4)]) (As := [.int l1, .int l2, .int l3]) (k_X11_answer e) wd_L_67 clX11 (kd_X11_answer e) dL_answer_7 rfl rfl (Nat.le_of_ble_eq_true rfl) (by decide) [(0, 12, 15, 21), (0, 12, 19, 13)] (0, 12, 23, 15) [] rfl (by decide) rfl (by decide) (hp_2_21_13 rfl) lcw_15 lca_2 dL_answer_23 (by decide) rfl ?_
      refine v_iconst (v := 3) dL_answer_25 ci_3 ?_
      cases h
      exact v_ireturn dL_answer_26
    replace h := ifN c9 h
    cases h
theorem k_L_answer {G : Gl} {l0 : Nat} {l1 : Int32} {l2 : Int32} {l3 : Int32} {l4 : Nat} {M MF : Mem} {r : Int32} (h : f_L_answer l0 l1 l2 l3 l4 M = some (r, MF)) : CtrW G yL_answer cL_answer 6 (some .int) [((0 : Nat), (12 : Nat), (15 : Nat), (21 : Nat)), ((0 : Nat), (12 : Nat), (19 : Nat), (13 : Nat)), ((0 : Nat), (12 : Nat), (23 : Nat), (15 : Nat))] 8 140 [.ref l0, .int l1, .int l2, .int l3, .ref l4] M (cvI r) MF :=
  ctrW_of (by decide +kernel) (Nat.le_of_ble_eq_true rfl) (fun ρ => w_L_answer l0 l1 l2 l3 l4 M h)
theorem wd_L_178 : wdW RL 178 yL_answer cL_answer 6 (some .int) [((0 : Nat), (12 : Nat), (15 : Nat), (21 : Nat)), ((0 : Nat), (12 : Nat), (19 : Nat), (13 : Nat)), ((0 : Nat), (12 : Nat), (23 : Nat), (15 : Nat))] 5 := ⟨gwi 1040 (by decide +kernel) (by decide +kernel), gwi 1041 (by decide +kernel) (by decide +kernel), gwi 75 (by decide +kernel) (by decide +kernel), gwi 1042 (by decide +kernel) (by decide +kernel), ⟨by decide +kernel, by decide +kernel, by decide +kernel⟩⟩
theorem ca_L_178 {G : Gl} {B : Bx} {cc : ByteArray} {ret : Option FieldType} {fr lo nL : Nat} {mn : String} {hh : List (Nat × Nat × Nat × Nat)} {pc : Nat} {ls : List (Nat × Value)} {st : List Value} {M M1 : Mem} {l0 : Nat} {l1 : Int32} {l2 : Int32} {l3 : Int32} {l4 : Nat} {x : Int32} (e : f_L_answer l0 l1 l2 l3 l4 M = some (x, M1)) (hd : decode cc pc = .ok (.invokestatic 178, 3)) (hcat : (st.map fun v => v.category).sum ≤ 8) (hR : 8 + 1 ≤ fr ∧ 8 + (6 + 11) + 140 ≤ lo) (k : V G (RL, cc, ret, fr, lo, nL, mn, hh) B (pc + 3) ls (.int x :: st) M1) : V G (RL, cc, ret, fr, lo, nL, mn, hh) B pc ls (.ref l4 :: .int l3 :: .int l2 :: .int l1 :: .ref l0 :: st) M := v_callWi (As := [.ref l0, .int l1, .int l2, .int l3, .ref l4]) (k_L_answer e) wd_L_178 hd rfl rfl hcat hR k
set_option maxHeartbeats 4000000 in
set_option maxRecDepth 100000 in
theorem w_L_audience {G : Gl} {ρ0 : Nat → Nat} {M0 MF : Mem} {r : Int32} (l0 : Nat) (l1 : Int32) (l2 : Nat) (M : Mem) (h : f_L_audience l0 l1 l2 M = some (r, MF)) : V G (RL, cL_audience, (some .int), 9, 155, 4, "audience", [((0 : Nat), (9 : Nat), (12 : Nat), (21 : Nat)), ((0 : Nat), (9 : Nat), (15 : Nat), (13 : Nat))]) (ρ0, M0, cvI r, MF) 0 [(0, .ref l0), (1, .int l1), (2, .ref l2)] [] M := by
  unfold f_L_audience at h
  refine v_aload_n dL_audience_0 rfl 2 rfl ?_
  refine v_iconst (v := 0) dL_audience_1 ci_0 ?_
  refine v_aload_n dL_audience_2 rfl 0 rfl ?_
  refine v_iload_n dL_audience_3 rfl 1 rfl ?_
  rcases bindH_some h with ⟨v2, M1, e, h⟩ | ⟨e9, M1, e, h⟩
  · refine ca_L_70 e dL_audience_4 (Nat.le_of_ble_eq_true rfl) (by decide) ?_
    refine v_i2l dL_audience_7 ?_
    obtain ⟨M3, e, h⟩ := bind_some h
    refine v_lastore dL_audience_8 e ?_
    refine v_goto (tgt := 18) dL_audience_9 (by decide) ?_
    refine v_iconst (v := 0) dL_audience_18 ci_0 ?_
    cases h
    exact v_ireturn dL_audience_19
  · rcases Decidable.em (e9 = 3) with c9 | c9
    · subst c9
      replace h := ifP rfl h
      refine v_catch_n (e := 3) (hpc := 12) (ls' := [(0, .ref l0), (1, .int l1), (2, .ref l2)]) (As := [.int l1]) (k_X11_audience e) wd_L_70 clX11 (kd_X11_audience e) dL_audience_4 rfl rfl (Nat.le_of_ble_eq_true rfl) (by decide) [] (0, 9, 12, 21) [(0, 9, 15, 13)] rfl (by decide) rfl (by decide) (fun _ hz => nomatch hz) lcw_21 lca_3 dL_audience_12 rfl (by decide) rfl ?_
      refine v_iconst (v := 1) dL_audience_13 ci_1 ?_
      cases h
      exact v_ireturn dL_audience_14
    replace h := ifN c9 h
    rcases Decidable.em (e9 = 1) with c9 | c9
    · subst c9
      replace h := ifP rfl h
      refine v_catch_n (e := 1) (hpc := 15) (ls' := [(0, .ref l0), (1, .int l1), (2, .ref l2)]) (As := [.int l1]) (k_X11_audience e) wd_L_70 clX11 (kd_X11_audience e) dL_audience_4 rfl rfl (Nat.le_of_ble_eq_true rfl) (by decide) [(0, 9, 12, 21)] (0, 9, 15, 13) [] rfl (by decide) rfl (by decide) (hp_1_21 rfl) lcw_13 lca_1 dL_audience_15 rfl (by decide) rfl ?_
      refine v_iconst (v := 2) dL_audience_16 ci_2 ?_
      cases h
      exact v_ireturn dL_audience_17
    replace h := ifN c9 h
    cases h
theorem k_L_audience {G : Gl} {l0 : Nat} {l1 : Int32} {l2 : Nat} {M MF : Mem} {r : Int32} (h : f_L_audience l0 l1 l2 M = some (r, MF)) : CtrW G yL_audience cL_audience 4 (some .int) [((0 : Nat), (9 : Nat), (12 : Nat), (21 : Nat)), ((0 : Nat), (9 : Nat), (15 : Nat), (13 : Nat))] 9 155 [.ref l0, .int l1, .ref l2] M (cvI r) MF :=
  ctrW_of (by decide +kernel) (Nat.le_of_ble_eq_true rfl) (fun ρ => w_L_audience l0 l1 l2 M h)
theorem wd_L_181 : wdW RL 181 yL_audience cL_audience 4 (some .int) [((0 : Nat), (9 : Nat), (12 : Nat), (21 : Nat)), ((0 : Nat), (9 : Nat), (15 : Nat), (13 : Nat))] 3 := ⟨gwi 1052 (by decide +kernel) (by decide +kernel), gwi 1053 (by decide +kernel) (by decide +kernel), gwi 75 (by decide +kernel) (by decide +kernel), gwi 1054 (by decide +kernel) (by decide +kernel), ⟨by decide +kernel, by decide +kernel, by decide +kernel⟩⟩
theorem ca_L_181 {G : Gl} {B : Bx} {cc : ByteArray} {ret : Option FieldType} {fr lo nL : Nat} {mn : String} {hh : List (Nat × Nat × Nat × Nat)} {pc : Nat} {ls : List (Nat × Value)} {st : List Value} {M M1 : Mem} {l0 : Nat} {l1 : Int32} {l2 : Nat} {x : Int32} (e : f_L_audience l0 l1 l2 M = some (x, M1)) (hd : decode cc pc = .ok (.invokestatic 181, 3)) (hcat : (st.map fun v => v.category).sum ≤ 8) (hR : 9 + 1 ≤ fr ∧ 8 + (4 + 11) + 155 ≤ lo) (k : V G (RL, cc, ret, fr, lo, nL, mn, hh) B (pc + 3) ls (.int x :: st) M1) : V G (RL, cc, ret, fr, lo, nL, mn, hh) B pc ls (.ref l2 :: .int l1 :: .ref l0 :: st) M := v_callWi (As := [.ref l0, .int l1, .ref l2]) (k_L_audience e) wd_L_181 hd rfl rfl hcat hR k
set_option maxHeartbeats 4000000 in
set_option maxRecDepth 100000 in
theorem w_L_receive {G : Gl} {ρ0 : Nat → Nat} {M0 MF : Mem} {r : Int32} (l0 : Nat) (l1 : Int32) (l2 : Nat) (M : Mem) (h : f_L_receive l0 l1 l2 M = some (r, MF)) : V G (RL, cL_receive, (some .int), 8, 132, 4, "receive", [((0 : Nat), (9 : Nat), (12 : Nat), (21 : Nat)), ((0 : Nat), (9 : Nat), (15 : Nat), (15 : Nat))]) (ρ0, M0, cvI r, MF) 0 [(0, .ref l0), (1, .int l1), (2, .ref l2)] [] M := by
  unfold f_L_receive at h
  refine v_aload_n dL_receive_0 rfl 2 rfl ?_
  refine v_iconst (v := 0) dL_receive_1 ci_0 ?_
  refine v_aload_n dL_receive_2 rfl 0 rfl ?_
  refine v_iload_n dL_receive_3 rfl 1 rfl ?_
  rcases bindH_some h with ⟨v2, M1, e, h⟩ | ⟨e9, M1, e, h⟩
  · refine ca_L_73 e dL_receive_4 (Nat.le_of_ble_eq_true rfl) (by decide) ?_
    refine v_i2l dL_receive_7 ?_
    obtain ⟨M3, e, h⟩ := bind_some h
    refine v_lastore dL_receive_8 e ?_
    refine v_goto (tgt := 18) dL_receive_9 (by decide) ?_
    refine v_iconst (v := 0) dL_receive_18 ci_0 ?_
    cases h
    exact v_ireturn dL_receive_19
  · rcases Decidable.em (e9 = 3) with c9 | c9
    · subst c9
      replace h := ifP rfl h
      refine v_catch_n (e := 3) (hpc := 12) (ls' := [(0, .ref l0), (1, .int l1), (2, .ref l2)]) (As := [.int l1]) (k_X11_receive e) wd_L_73 clX11 (kd_X11_receive e) dL_receive_4 rfl rfl (Nat.le_of_ble_eq_true rfl) (by decide) [] (0, 9, 12, 21) [(0, 9, 15, 15)] rfl (by decide) rfl (by decide) (fun _ hz => nomatch hz) lcw_21 lca_3 dL_receive_12 rfl (by decide) rfl ?_
      refine v_iconst (v := 1) dL_receive_13 ci_1 ?_
      cases h
      exact v_ireturn dL_receive_14
    replace h := ifN c9 h
    rcases Decidable.em (e9 = 2) with c9 | c9
    · subst c9
      replace h := ifP rfl h
      refine v_catch_n (e := 2) (hpc := 15) (ls' := [(0, .ref l0), (1, .int l1), (2, .ref l2)]) (As := [.int l1]) (k_X11_receive e) wd_L_73 clX11 (kd_X11_receive e) dL_receive_4 rfl rfl (Nat.le_of_ble_eq_true rfl) (by decide) [(0, 9, 12, 21)] (0, 9, 15, 15) [] rfl (by decide) rfl (by decide) (hp_2_21 rfl) lcw_15 lca_2 dL_receive_15 rfl (by decide) rfl ?_
      refine v_iconst (v := 2) dL_receive_16 ci_2 ?_
      cases h
      exact v_ireturn dL_receive_17
    replace h := ifN c9 h
    cases h
theorem k_L_receive {G : Gl} {l0 : Nat} {l1 : Int32} {l2 : Nat} {M MF : Mem} {r : Int32} (h : f_L_receive l0 l1 l2 M = some (r, MF)) : CtrW G yL_receive cL_receive 4 (some .int) [((0 : Nat), (9 : Nat), (12 : Nat), (21 : Nat)), ((0 : Nat), (9 : Nat), (15 : Nat), (15 : Nat))] 8 132 [.ref l0, .int l1, .ref l2] M (cvI r) MF :=
  ctrW_of (by decide +kernel) (Nat.le_of_ble_eq_true rfl) (fun ρ => w_L_receive l0 l1 l2 M h)
theorem wd_L_184 : wdW RL 184 yL_receive cL_receive 4 (some .int) [((0 : Nat), (9 : Nat), (12 : Nat), (21 : Nat)), ((0 : Nat), (9 : Nat), (15 : Nat), (15 : Nat))] 3 := ⟨gwi 1063 (by decide +kernel) (by decide +kernel), gwi 1064 (by decide +kernel) (by decide +kernel), gwi 75 (by decide +kernel) (by decide +kernel), gwi 1065 (by decide +kernel) (by decide +kernel), ⟨by decide +kernel, by decide +kernel, by decide +kernel⟩⟩
theorem ca_L_184 {G : Gl} {B : Bx} {cc : ByteArray} {ret : Option FieldType} {fr lo nL : Nat} {mn : String} {hh : List (Nat × Nat × Nat × Nat)} {pc : Nat} {ls : List (Nat × Value)} {st : List Value} {M M1 : Mem} {l0 : Nat} {l1 : Int32} {l2 : Nat} {x : Int32} (e : f_L_receive l0 l1 l2 M = some (x, M1)) (hd : decode cc pc = .ok (.invokestatic 184, 3)) (hcat : (st.map fun v => v.category).sum ≤ 8) (hR : 8 + 1 ≤ fr ∧ 8 + (4 + 11) + 132 ≤ lo) (k : V G (RL, cc, ret, fr, lo, nL, mn, hh) B (pc + 3) ls (.int x :: st) M1) : V G (RL, cc, ret, fr, lo, nL, mn, hh) B pc ls (.ref l2 :: .int l1 :: .ref l0 :: st) M := v_callWi (As := [.ref l0, .int l1, .ref l2]) (k_L_receive e) wd_L_184 hd rfl rfl hcat hR k
set_option maxHeartbeats 4000000 in
set_option maxRecDepth 100000 in
theorem w_L_packet {G : Gl} {ρ0 : Nat → Nat} {M0 MF : Mem} {r : Int32} (l0 : Nat) (l1 : Int32) (l2 : Nat) (M : Mem) (h : f_L_packet l0 l1 l2 M = some (r, MF)) : V G (RL, cL_packet, (some .int), 8, 132, 4, "packet", [((0 : Nat), (9 : Nat), (12 : Nat), (13 : Nat)), ((0 : Nat), (9 : Nat), (15 : Nat), (15 : Nat))]) (ρ0, M0, cvI r, MF) 0 [(0, .ref l0), (1, .int l1), (2, .ref l2)] [] M := by
  unfold f_L_packet at h
  refine v_aload_n dL_packet_0 rfl 2 rfl ?_
  refine v_iconst (v := 0) dL_packet_1 ci_0 ?_
  refine v_aload_n dL_packet_2 rfl 0 rfl ?_
  refine v_iload_n dL_packet_3 rfl 1 rfl ?_
  rcases bindH_some h with ⟨v2, M1, e, h⟩ | ⟨e9, M1, e, h⟩
  · refine ca_L_76 e dL_packet_4 (Nat.le_of_ble_eq_true rfl) (by decide) ?_
    refine v_i2l dL_packet_7 ?_
    obtain ⟨M3, e, h⟩ := bind_some h
    refine v_lastore dL_packet_8 e ?_
    refine v_goto (tgt := 18) dL_packet_9 (by decide) ?_
    refine v_iconst (v := 0) dL_packet_18 ci_0 ?_
    cases h
    exact v_ireturn dL_packet_19
  · rcases Decidable.em (e9 = 1) with c9 | c9
    · subst c9
      replace h := ifP rfl h
      refine v_catch_n (e := 1) (hpc := 12) (ls' := [(0, .ref l0), (1, .int l1), (2, .ref l2)]) (As := [.int l1]) (k_X11_packet e) wd_L_76 clX11 (kd_X11_packet e) dL_packet_4 rfl rfl (Nat.le_of_ble_eq_true rfl) (by decide) [] (0, 9, 12, 13) [(0, 9, 15, 15)] rfl (by decide) rfl (by decide) (fun _ hz => nomatch hz) lcw_13 lca_1 dL_packet_12 rfl (by decide) rfl ?_
      refine v_iconst (v := 1) dL_packet_13 ci_1 ?_
      cases h
      exact v_ireturn dL_packet_14
    replace h := ifN c9 h
    rcases Decidable.em (e9 = 2) with c9 | c9
    · subst c9
      replace h := ifP rfl h
      refine v_catch_n (e := 2) (hpc := 15) (ls' := [(0, .ref l0), (1, .int l1), (2, .ref l2)]) (As := [.int l1]) (k_X11_packet e) wd_L_76 clX11 (kd_X11_packet e) dL_packet_4 rfl rfl (Nat.le_of_ble_eq_true rfl) (by decide) [(0, 9, 12, 13)] (0, 9, 15, 15) [] rfl (by decide) rfl (by decide) (hp_2_13 rfl) lcw_15 lca_2 dL_packet_15 rfl (by decide) rfl ?_
      refine v_iconst (v := 2) dL_packet_16 ci_2 ?_
      cases h
      exact v_ireturn dL_packet_17
    replace h := ifN c9 h
    cases h
theorem k_L_packet {G : Gl} {l0 : Nat} {l1 : Int32} {l2 : Nat} {M MF : Mem} {r : Int32} (h : f_L_packet l0 l1 l2 M = some (r, MF)) : CtrW G yL_packet cL_packet 4 (some .int) [((0 : Nat), (9 : Nat), (12 : Nat), (13 : Nat)), ((0 : Nat), (9 : Nat), (15 : Nat), (15 : Nat))] 8 132 [.ref l0, .int l1, .ref l2] M (cvI r) MF :=
  ctrW_of (by decide +kernel) (Nat.le_of_ble_eq_true rfl) (fun ρ => w_L_packet l0 l1 l2 M h)
theorem wd_L_187 : wdW RL 187 yL_packet cL_packet 4 (some .int) [((0 : Nat), (9 : Nat), (12 : Nat), (13 : Nat)), ((0 : Nat), (9 : Nat), (15 : Nat), (15 : Nat))] 3 := ⟨gwi 1079 (by decide +kernel) (by decide +kernel), gwi 1080 (by decide +kernel) (by decide +kernel), gwi 75 (by decide +kernel) (by decide +kernel), gwi 1081 (by decide +kernel) (by decide +kernel), ⟨by decide +kernel, by decide +kernel, by decide +kernel⟩⟩
theorem ca_L_187 {G : Gl} {B : Bx} {cc : ByteArray} {ret : Option FieldType} {fr lo nL : Nat} {mn : String} {hh : List (Nat × Nat × Nat × Nat)} {pc : Nat} {ls : List (Nat × Value)} {st : List Value} {M M1 : Mem} {l0 : Nat} {l1 : Int32} {l2 : Nat} {x : Int32} (e : f_L_packet l0 l1 l2 M = some (x, M1)) (hd : decode cc pc = .ok (.invokestatic 187, 3)) (hcat : (st.map fun v => v.category).sum ≤ 8) (hR : 8 + 1 ≤ fr ∧ 8 + (4 + 11) + 132 ≤ lo) (k : V G (RL, cc, ret, fr, lo, nL, mn, hh) B (pc + 3) ls (.int x :: st) M1) : V G (RL, cc, ret, fr, lo, nL, mn, hh) B pc ls (.ref l2 :: .int l1 :: .ref l0 :: st) M := v_callWi (As := [.ref l0, .int l1, .ref l2]) (k_L_packet e) wd_L_187 hd rfl rfl hcat hR k
set_option maxHeartbeats 4000000 in
set_option maxRecDepth 100000 in
theorem w_L_topicCharacter {G : Gl} {ρ0 : Nat → Nat} {M0 MF : Mem} {r : Int32} (l0 : Nat) (l1 : Int32) (l2 : Nat) (M : Mem) (h : f_L_topicCharacter l0 l1 l2 M = some (r, MF)) : V G (RL, cL_topicCharacter, (some .int), 7, 111, 4, "topicCharacter", [((0 : Nat), (9 : Nat), (12 : Nat), (15 : Nat)), ((0 : Nat), (9 : Nat), (15 : Nat), (21 : Nat))]) (ρ0, M0, cvI r, MF) 0 [(0, .ref l0), (1, .int l1), (2, .ref l2)] [] M := by
  unfold f_L_topicCharacter at h
  refine v_aload_n dL_topicCharacter_0 rfl 2 rfl ?_
  refine v_iconst (v := 0) dL_topicCharacter_1 ci_0 ?_
  refine v_aload_n dL_topicCharacter_2 rfl 0 rfl ?_
  refine v_iload_n dL_topicCharacter_3 rfl 1 rfl ?_
  rcases bindH_some h with ⟨v2, M1, e, h⟩ | ⟨e9, M1, e, h⟩
  · refine ca_L_79 e dL_topicCharacter_4 (Nat.le_of_ble_eq_true rfl) (by decide) ?_
    refine v_i2l dL_topicCharacter_7 ?_
    obtain ⟨M3, e, h⟩ := bind_some h
    refine v_lastore dL_topicCharacter_8 e ?_
    refine v_goto (tgt := 18) dL_topicCharacter_9 (by decide) ?_
    refine v_iconst (v := 0) dL_topicCharacter_18 ci_0 ?_
    cases h
    exact v_ireturn dL_topicCharacter_19
  · rcases Decidable.em (e9 = 2) with c9 | c9
    · subst c9
      replace h := ifP rfl h
      refine v_catch_n (e := 2) (hpc := 12) (ls' := [(0, .ref l0), (1, .int l1), (2, .ref l2)]) (As := [.int l1]) (k_X11_topicCharacter e) wd_L_79 clX11 (kd_X11_topicCharacter e) dL_topicCharacter_4 rfl rfl (Nat.le_of_ble_eq_true rfl) (by decide) [] (0, 9, 12, 15) [(0, 9, 15, 21)] rfl (by decide) rfl (by decide) (fun _ hz => nomatch hz) lcw_15 lca_2 dL_topicCharacter_12 rfl (by decide) rfl ?_
      refine v_iconst (v := 1) dL_topicCharacter_13 ci_1 ?_
      cases h
      exact v_ireturn dL_topicCharacter_14
    replace h := ifN c9 h
    rcases Decidable.em (e9 = 3) with c9 | c9
    · subst c9
      replace h := ifP rfl h
      refine v_catch_n (e := 3) (hpc := 15) (ls' := [(0, .ref l0), (1, .int l1), (2, .ref l2)]) (As := [.int l1]) (k_X11_topicCharacter e) wd_L_79 clX11 (kd_X11_topicCharacter e) dL_topicCharacter_4 rfl rfl (Nat.le_of_ble_eq_true rfl) (by decide) [(0, 9, 12, 15)] (0, 9, 15, 21) [] rfl (by decide) rfl (by decide) (hp_3_15 rfl) lcw_21 lca_3 dL_topicCharacter_15 rfl (by decide) rfl ?_
      refine v_iconst (v := 2) dL_topicCharacter_16 ci_2 ?_
      cases h
      exact v_ireturn dL_topicCharacter_17
    replace h := ifN c9 h
    cases h
theorem k_L_topicCharacter {G : Gl} {l0 : Nat} {l1 : Int32} {l2 : Nat} {M MF : Mem} {r : Int32} (h : f_L_topicCharacter l0 l1 l2 M = some (r, MF)) : CtrW G yL_topicCharacter cL_topicCharacter 4 (some .int) [((0 : Nat), (9 : Nat), (12 : Nat), (15 : Nat)), ((0 : Nat), (9 : Nat), (15 : Nat), (21 : Nat))] 7 111 [.ref l0, .int l1, .ref l2] M (cvI r) MF :=
  ctrW_of (by decide +kernel) (Nat.le_of_ble_eq_true rfl) (fun ρ => w_L_topicCharacter l0 l1 l2 M h)
theorem wd_L_190 : wdW RL 190 yL_topicCharacter cL_topicCharacter 4 (some .int) [((0 : Nat), (9 : Nat), (12 : Nat), (15 : Nat)), ((0 : Nat), (9 : Nat), (15 : Nat), (21 : Nat))] 3 := ⟨gwi 1086 (by decide +kernel) (by decide +kernel), gwi 1087 (by decide +kernel) (by decide +kernel), gwi 75 (by decide +kernel) (by decide +kernel), gwi 1088 (by decide +kernel) (by decide +kernel), ⟨by decide +kernel, by decide +kernel, by decide +kernel⟩⟩
theorem ca_L_190 {G : Gl} {B : Bx} {cc : ByteArray} {ret : Option FieldType} {fr lo nL : Nat} {mn : String} {hh : List (Nat × Nat × Nat × Nat)} {pc : Nat} {ls : List (Nat × Value)} {st : List Value} {M M1 : Mem} {l0 : Nat} {l1 : Int32} {l2 : Nat} {x : Int32} (e : f_L_topicCharacter l0 l1 l2 M = some (x, M1)) (hd : decode cc pc = .ok (.invokestatic 190, 3)) (hcat : (st.map fun v => v.category).sum ≤ 8) (hR : 7 + 1 ≤ fr ∧ 8 + (4 + 11) + 111 ≤ lo) (k : V G (RL, cc, ret, fr, lo, nL, mn, hh) B (pc + 3) ls (.int x :: st) M1) : V G (RL, cc, ret, fr, lo, nL, mn, hh) B pc ls (.ref l2 :: .int l1 :: .ref l0 :: st) M := v_callWi (As := [.ref l0, .int l1, .ref l2]) (k_L_topicCharacter e) wd_L_190 hd rfl rfl hcat hR k
set_option maxHeartbeats 4000000 in
set_option maxRecDepth 100000 in
theorem w_L_lose {G : Gl} {ρ0 : Nat → Nat} {M0 MF : Mem} {r : Int32} (l0 : Nat) (l1 : Int32) (l2 : Nat) (M : Mem) (h : f_L_lose l0 l1 l2 M = some (r, MF)) : V G (RL, cL_lose, (some .int), 8, 133, 4, "lose", [((0 : Nat), (9 : Nat), (12 : Nat), (21 : Nat)), ((0 : Nat), (9 : Nat), (15 : Nat), (15 : Nat))]) (ρ0, M0, cvI r, MF) 0 [(0, .ref l0), (1, .int l1), (2, .ref l2)] [] M := by
  unfold f_L_lose at h
  refine v_aload_n dL_lose_0 rfl 2 rfl ?_
  refine v_iconst (v := 0) dL_lose_1 ci_0 ?_
  refine v_aload_n dL_lose_2 rfl 0 rfl ?_
  refine v_iload_n dL_lose_3 rfl 1 rfl ?_
  rcases bindH_some h with ⟨v2, M1, e, h⟩ | ⟨e9, M1, e, h⟩
  · refine ca_L_82 e dL_lose_4 (Nat.le_of_ble_eq_true rfl) (by decide) ?_
    refine v_i2l dL_lose_7 ?_
    obtain ⟨M3, e, h⟩ := bind_some h
    refine v_lastore dL_lose_8 e ?_
    refine v_goto (tgt := 18) dL_lose_9 (by decide) ?_
    refine v_iconst (v := 0) dL_lose_18 ci_0 ?_
    cases h
    exact v_ireturn dL_lose_19
  · rcases Decidable.em (e9 = 3) with c9 | c9
    · subst c9
      replace h := ifP rfl h
      refine v_catch_n (e := 3) (hpc := 12) (ls' := [(0, .ref l0), (1, .int l1), (2, .ref l2)]) (As := [.int l1]) (k_X11_lose e) wd_L_82 clX11 (kd_X11_lose e) dL_lose_4 rfl rfl (Nat.le_of_ble_eq_true rfl) (by decide) [] (0, 9, 12, 21) [(0, 9, 15, 15)] rfl (by decide) rfl (by decide) (fun _ hz => nomatch hz) lcw_21 lca_3 dL_lose_12 rfl (by decide) rfl ?_
      refine v_iconst (v := 1) dL_lose_13 ci_1 ?_
      cases h
      exact v_ireturn dL_lose_14
    replace h := ifN c9 h
    rcases Decidable.em (e9 = 2) with c9 | c9
    · subst c9
      replace h := ifP rfl h
      refine v_catch_n (e := 2) (hpc := 15) (ls' := [(0, .ref l0), (1, .int l1), (2, .ref l2)]) (As := [.int l1]) (k_X11_lose e) wd_L_82 clX11 (kd_X11_lose e) dL_lose_4 rfl rfl (Nat.le_of_ble_eq_true rfl) (by decide) [(0, 9, 12, 21)] (0, 9, 15, 15) [] rfl (by decide) rfl (by decide) (hp_2_21 rfl) lcw_15 lca_2 dL_lose_15 rfl (by decide) rfl ?_
      refine v_iconst (v := 2) dL_lose_16 ci_2 ?_
      cases h
      exact v_ireturn dL_lose_17
    replace h := ifN c9 h
    cases h
theorem k_L_lose {G : Gl} {l0 : Nat} {l1 : Int32} {l2 : Nat} {M MF : Mem} {r : Int32} (h : f_L_lose l0 l1 l2 M = some (r, MF)) : CtrW G yL_lose cL_lose 4 (some .int) [((0 : Nat), (9 : Nat), (12 : Nat), (21 : Nat)), ((0 : Nat), (9 : Nat), (15 : Nat), (15 : Nat))] 8 133 [.ref l0, .int l1, .ref l2] M (cvI r) MF :=
  ctrW_of (by decide +kernel) (Nat.le_of_ble_eq_true rfl) (fun ρ => w_L_lose l0 l1 l2 M h)
theorem wd_L_193 : wdW RL 193 yL_lose cL_lose 4 (some .int) [((0 : Nat), (9 : Nat), (12 : Nat), (21 : Nat)), ((0 : Nat), (9 : Nat), (15 : Nat), (15 : Nat))] 3 := ⟨gwi 1093 (by decide +kernel) (by decide +kernel), gwi 1094 (by decide +kernel) (by decide +kernel), gwi 75 (by decide +kernel) (by decide +kernel), gwi 1095 (by decide +kernel) (by decide +kernel), ⟨by decide +kernel, by decide +kernel, by decide +kernel⟩⟩
theorem ca_L_193 {G : Gl} {B : Bx} {cc : ByteArray} {ret : Option FieldType} {fr lo nL : Nat} {mn : String} {hh : List (Nat × Nat × Nat × Nat)} {pc : Nat} {ls : List (Nat × Value)} {st : List Value} {M M1 : Mem} {l0 : Nat} {l1 : Int32} {l2 : Nat} {x : Int32} (e : f_L_lose l0 l1 l2 M = some (x, M1)) (hd : decode cc pc = .ok (.invokestatic 193, 3)) (hcat : (st.map fun v => v.category).sum ≤ 8) (hR : 8 + 1 ≤ fr ∧ 8 + (4 + 11) + 133 ≤ lo) (k : V G (RL, cc, ret, fr, lo, nL, mn, hh) B (pc + 3) ls (.int x :: st) M1) : V G (RL, cc, ret, fr, lo, nL, mn, hh) B pc ls (.ref l2 :: .int l1 :: .ref l0 :: st) M := v_callWi (As := [.ref l0, .int l1, .ref l2]) (k_L_lose e) wd_L_193 hd rfl rfl hcat hR k
set_option maxHeartbeats 4000000 in
set_option maxRecDepth 100000 in
theorem w_L_repeat {G : Gl} {ρ0 : Nat → Nat} {M0 MF : Mem} {r : Int32} (l0 : Nat) (l1 : Int32) (l2 : Nat) (M : Mem) (h : f_L_repeat l0 l1 l2 M = some (r, MF)) : V G (RL, cL_repeat, (some .int), 8, 133, 4, "repeat", [((0 : Nat), (9 : Nat), (12 : Nat), (21 : Nat)), ((0 : Nat), (9 : Nat), (15 : Nat), (15 : Nat))]) (ρ0, M0, cvI r, MF) 0 [(0, .ref l0), (1, .int l1), (2, .ref l2)] [] M := by
  unfold f_L_repeat at h
  refine v_aload_n dL_repeat_0 rfl 2 rfl ?_
  refine v_iconst (v := 0) dL_repeat_1 ci_0 ?_
  refine v_aload_n dL_repeat_2 rfl 0 rfl ?_
  refine v_iload_n dL_repeat_3 rfl 1 rfl ?_
  rcases bindH_some h with ⟨v2, M1, e, h⟩ | ⟨e9, M1, e, h⟩
  · refine ca_L_85 e dL_repeat_4 (Nat.le_of_ble_eq_true rfl) (by decide) ?_
    refine v_i2l dL_repeat_7 ?_
    obtain ⟨M3, e, h⟩ := bind_some h
    refine v_lastore dL_repeat_8 e ?_
    refine v_goto (tgt := 18) dL_repeat_9 (by decide) ?_
    refine v_iconst (v := 0) dL_repeat_18 ci_0 ?_
    cases h
    exact v_ireturn dL_repeat_19
  · rcases Decidable.em (e9 = 3) with c9 | c9
    · subst c9
      replace h := ifP rfl h
      refine v_catch_n (e := 3) (hpc := 12) (ls' := [(0, .ref l0), (1, .int l1), (2, .ref l2)]) (As := [.int l1]) (k_X11_repeat e) wd_L_85 clX11 (kd_X11_repeat e) dL_repeat_4 rfl rfl (Nat.le_of_ble_eq_true rfl) (by decide) [] (0, 9, 12, 21) [(0, 9, 15, 15)] rfl (by decide) rfl (by decide) (fun _ hz => nomatch hz) lcw_21 lca_3 dL_repeat_12 rfl (by decide) rfl ?_
      refine v_iconst (v := 1) dL_repeat_13 ci_1 ?_
      cases h
      exact v_ireturn dL_repeat_14
    replace h := ifN c9 h
    rcases Decidable.em (e9 = 2) with c9 | c9
    · subst c9
      replace h := ifP rfl h
      refine v_catch_n (e := 2) (hpc := 15) (ls' := [(0, .ref l0), (1, .int l1), (2, .ref l2)]) (As := [.int l1]) (k_X11_repeat e) wd_L_85 clX11 (kd_X11_repeat e) dL_repeat_4 rfl rfl (Nat.le_of_ble_eq_true rfl) (by decide) [(0, 9, 12, 21)] (0, 9, 15, 15) [] rfl (by decide) rfl (by decide) (hp_2_21 rfl) lcw_15 lca_2 dL_repeat_15 rfl (by decide) rfl ?_
      refine v_iconst (v := 2) dL_repeat_16 ci_2 ?_
      cases h
      exact v_ireturn dL_repeat_17
    replace h := ifN c9 h
    cases h
theorem k_L_repeat {G : Gl} {l0 : Nat} {l1 : Int32} {l2 : Nat} {M MF : Mem} {r : Int32} (h : f_L_repeat l0 l1 l2 M = some (r, MF)) : CtrW G yL_repeat cL_repeat 4 (some .int) [((0 : Nat), (9 : Nat), (12 : Nat), (21 : Nat)), ((0 : Nat), (9 : Nat), (15 : Nat), (15 : Nat))] 8 133 [.ref l0, .int l1, .ref l2] M (cvI r) MF :=
  ctrW_of (by decide +kernel) (Nat.le_of_ble_eq_true rfl) (fun ρ => w_L_repeat l0 l1 l2 M h)
theorem wd_L_196 : wdW RL 196 yL_repeat cL_repeat 4 (some .int) [((0 : Nat), (9 : Nat), (12 : Nat), (21 : Nat)), ((0 : Nat), (9 : Nat), (15 : Nat), (15 : Nat))] 3 := ⟨gwi 1100 (by decide +kernel) (by decide +kernel), gwi 1101 (by decide +kernel) (by decide +kernel), gwi 75 (by decide +kernel) (by decide +kernel), gwi 1102 (by decide +kernel) (by decide +kernel), ⟨by decide +kernel, by decide +kernel, by decide +kernel⟩⟩
theorem ca_L_196 {G : Gl} {B : Bx} {cc : ByteArray} {ret : Option FieldType} {fr lo nL : Nat} {mn : String} {hh : List (Nat × Nat × Nat × Nat)} {pc : Nat} {ls : List (Nat × Value)} {st : List Value} {M M1 : Mem} {l0 : Nat} {l1 : Int32} {l2 : Nat} {x : Int32} (e : f_L_repeat l0 l1 l2 M = some (x, M1)) (hd : decode cc pc = .ok (.invokestatic 196, 3)) (hcat : (st.map fun v => v.category).sum ≤ 8) (hR : 8 + 1 ≤ fr ∧ 8 + (4 + 11) + 133 ≤ lo) (k : V G (RL, cc, ret, fr, lo, nL, mn, hh) B (pc + 3) ls (.int x :: st) M1) : V G (RL, cc, ret, fr, lo, nL, mn, hh) B pc ls (.ref l2 :: .int l1 :: .ref l0 :: st) M := v_callWi (As := [.ref l0, .int l1, .ref l2]) (k_L_repeat e) wd_L_196 hd rfl rfl hcat hR k
set_option maxHeartbeats 4000000 in
set_option maxRecDepth 100000 in
theorem w_L_length {G : Gl} {ρ0 : Nat → Nat} {M0 MF : Mem} {r : Int32} (l0 : Nat) (l1 : Int32) (l2 : Int32) (l3 : Nat) (M : Mem) (h : f_L_length l0 l1 l2 l3 M = some (r, MF)) : V G (RL, cL_length, (some .int), 8, 132, 5, "length", [((0 : Nat), (10 : Nat), (13 : Nat), (21 : Nat)), ((0 : Nat), (10 : Nat), (17 : Nat), (13 : Nat))]) (ρ0, M0, cvI r, MF) 0 [(0, .ref l0), (1, .int l1), (2, .int l2), (3, .ref l3)] [] M := by
  unfold f_L_length at h
  refine v_aload_n dL_length_0 rfl 3 rfl ?_
  refine v_iconst (v := 0) dL_length_1 ci_0 ?_
  refine v_aload_n dL_length_2 rfl 0 rfl ?_
  refine v_iload_n dL_length_3 rfl 1 rfl ?_
  refine v_iload_n dL_length_4 rfl 2 rfl ?_
  rcases bindH_some h with ⟨v2, M1, e, h⟩ | ⟨e9, M1, e, h⟩
  · refine ca_L_88 e dL_length_5 (Nat.le_of_ble_eq_true rfl) (by decide) ?_
    refine v_i2l dL_length_8 ?_
    obtain ⟨M3, e, h⟩ := bind_some h
    refine v_lastore dL_length_9 e ?_
    refine v_goto (tgt := 21) dL_length_10 (by decide) ?_
    refine v_iconst (v := 0) dL_length_21 ci_0 ?_
    cases h
    exact v_ireturn dL_length_22
  · rcases Decidable.em (e9 = 3) with c9 | c9
    · subst c9
      replace h := ifP rfl h
      refine v_catch (e := 3) (hpc := 13) (ls' := [(0, .ref l0), (1, .int l1), (2, .int l2), (3, .ref l3)]) (As := [.int l1, .int l2]) (k_X11_length e) wd_L_88 clX11 (kd_X11_length e) dL_length_5 rfl rfl (Nat.le_of_ble_eq_true rfl) (by decide) [] (0, 10, 13, 21) [(0, 10, 17, 13)] rfl (by decide) rfl (by decide) (fun _ hz => nomatch hz) lcw_21 lca_3 dL_length_13 (by decide) rfl ?_
      refine v_iconst (v := 1) dL_length_15 ci_1 ?_
      cases h
      exact v_ireturn dL_length_16
    replace h := ifN c9 h
    rcases Decidable.em (e9 = 1) with c9 | c9
    · subst c9
      replace h := ifP rfl h
      refine v_catch (e := 1) (hpc := 17) (ls' := [(0, .ref l0), (1, .int l1), (2, .int l2), (3, .ref l3)]) (As := [.int l1, .int l2]) (k_X11_length e) wd_L_88 clX11 (kd_X11_length e) dL_length_5 rfl rfl (Nat.le_of_ble_eq_true rfl) (by decide) [(0, 10, 13, 21)] (0, 10, 17, 13) [] rfl (by decide) rfl (by decide) (hp_1_21 rfl) lcw_13 lca_1 dL_length_17 (by decide) rfl ?_
      refine v_iconst (v := 2) dL_length_19 ci_2 ?_
      cases h
      exact v_ireturn dL_length_20
    replace h := ifN c9 h
    cases h
theorem k_L_length {G : Gl} {l0 : Nat} {l1 : Int32} {l2 : Int32} {l3 : Nat} {M MF : Mem} {r : Int32} (h : f_L_length l0 l1 l2 l3 M = some (r, MF)) : CtrW G yL_length cL_length 5 (some .int) [((0 : Nat), (10 : Nat), (13 : Nat), (21 : Nat)), ((0 : Nat), (10 : Nat), (17 : Nat), (13 : Nat))] 8 132 [.ref l0, .int l1, .int l2, .ref l3] M (cvI r) MF :=
  ctrW_of (by decide +kernel) (Nat.le_of_ble_eq_true rfl) (fun ρ => w_L_length l0 l1 l2 l3 M h)
theorem wd_L_199 : wdW RL 199 yL_length cL_length 5 (some .int) [((0 : Nat), (10 : Nat), (13 : Nat), (21 : Nat)), ((0 : Nat), (10 : Nat), (17 : Nat), (13 : Nat))] 4 := ⟨gwi 1108 (by decide +kernel) (by decide +kernel), gwi 1109 (by decide +kernel) (by decide +kernel), gwi 75 (by decide +kernel) (by decide +kernel), gwi 1110 (by decide +kernel) (by decide +kernel), ⟨by decide +kernel, by decide +kernel, by decide +kernel⟩⟩
theorem ca_L_199 {G : Gl} {B : Bx} {cc : ByteArray} {ret : Option FieldType} {fr lo nL : Nat} {mn : String} {hh : List (Nat × Nat × Nat × Nat)} {pc : Nat} {ls : List (Nat × Value)} {st : List Value} {M M1 : Mem} {l0 : Nat} {l1 : Int32} {l2 : Int32} {l3 : Nat} {x : Int32} (e : f_L_length l0 l1 l2 l3 M = some (x, M1)) (hd : decode cc pc = .ok (.invokestatic 199, 3)) (hcat : (st.map fun v => v.category).sum ≤ 8) (hR : 8 + 1 ≤ fr ∧ 8 + (5 + 11) + 132 ≤ lo) (k : V G (RL, cc, ret, fr, lo, nL, mn, hh) B (pc + 3) ls (.int x :: st) M1) : V G (RL, cc, ret, fr, lo, nL, mn, hh) B pc ls (.ref l3 :: .int l2 :: .int l1 :: .ref l0 :: st) M := v_callWi (As := [.ref l0, .int l1, .int l2, .ref l3]) (k_L_length e) wd_L_199 hd rfl rfl hcat hR k
set_option maxHeartbeats 4000000 in
set_option maxRecDepth 100000 in
theorem w_L_inFlight {G : Gl} {ρ0 : Nat → Nat} {M0 MF : Mem} {r : Int32} (l0 : Nat) (l1 : Int32) (l2 : Int32) (l3 : Int32) (l4 : Nat) (M : Mem) (h : f_L_inFlight l0 l1 l2 l3 l4 M = some (r, MF)) : V G (RL, cL_inFlight, (some .int), 8, 134, 6, "inFlight", [((0 : Nat), (12 : Nat), (15 : Nat), (21 : Nat)), ((0 : Nat), (12 : Nat), (19 : Nat), (13 : Nat))]) (ρ0, M0, cvI r, MF) 0 [(0, .ref l0), (1, .int l1), (2, .int l2), (3, .int l3), (4, .ref l4)] [] M := by
  unfold f_L_inFlight at h
  refine v_aload dL_inFlight_0 4 rfl ?_
  refine v_iconst (v := 0) dL_inFlight_2 ci_0 ?_
  refine v_aload_n dL_inFlight_3 rfl 0 rfl ?_
  refine v_iload_n dL_inFlight_4 rfl 1 rfl ?_
  refine v_iload_n dL_inFlight_5 rfl 2 rfl ?_
  refine v_iload_n dL_inFlight_6 rfl 3 rfl ?_
  rcases bindH_some h with ⟨v2, M1, e, h⟩ | ⟨e9, M1, e, h⟩
  · refine ca_L_91 e dL_inFlight_7 (Nat.le_of_ble_eq_true rfl) (by decide) ?_
    refine v_i2l dL_inFlight_10 ?_
    obtain ⟨M3, e, h⟩ := bind_some h
    refine v_lastore dL_inFlight_11 e ?_
    refine v_goto (tgt := 23) dL_inFlight_12 (by decide) ?_
    refine v_iconst (v := 0) dL_inFlight_23 ci_0 ?_
    cases h
    exact v_ireturn dL_inFlight_24
  · rcases Decidable.em (e9 = 3) with c9 | c9
    · subst c9
      replace h := ifP rfl h
      refine v_catch (e := 3) (hpc := 15) (ls' := [(0, .ref l0), (1, .int l1), (2, .int l2), (3, .int l3), (4, .ref l4)]) (As := [.int l1, .int l2, .int l3]) (k_X11_inFlight e) wd_L_91 clX11 (kd_X11_inFlight e) dL_inFlight_7 rfl rfl (Nat.le_of_ble_eq_true rfl) (by decide) [] (0, 12, 15, 21) [(0, 12, 19, 13)] rfl (by decide) rfl (by decide) (fun _ hz => nomatch hz) lcw_21 lca_3 dL_inFlight_15 (by decide) rfl ?_
      refine v_iconst (v := 1) dL_inFlight_17 ci_1 ?_
      cases h
      exact v_ireturn dL_inFlight_18
    replace h := ifN c9 h
    rcases Decidable.em (e9 = 1) with c9 | c9
    · subst c9
      replace h := ifP rfl h
      refine v_catch (e := 1) (hpc := 19) (ls' := [(0, .ref l0), (1, .int l1), (2, .int l2), (3, .int l3), (4, .ref l4)]) (As := [.int l1, .int l2, .int l3]) (k_X11_inFlight e) wd_L_91 clX11 (kd_X11_inFlight e) dL_inFlight_7 rfl rfl (Nat.le_of_ble_eq_true rfl) (by decide) [(0, 12, 15, 21)] (0, 12, 19, 13) [] rfl (by decide) rfl (by decide) (hp_1_21 rfl) lcw_13 lca_1 dL_inFlight_19 (by decide) rfl ?_
      refine v_iconst (v := 2) dL_inFlight_21 ci_2 ?_
      cases h
      exact v_ireturn dL_inFlight_22
    replace h := ifN c9 h
    cases h
theorem k_L_inFlight {G : Gl} {l0 : Nat} {l1 : Int32} {l2 : Int32} {l3 : Int32} {l4 : Nat} {M MF : Mem} {r : Int32} (h : f_L_inFlight l0 l1 l2 l3 l4 M = some (r, MF)) : CtrW G yL_inFlight cL_inFlight 6 (some .int) [((0 : Nat), (12 : Nat), (15 : Nat), (21 : Nat)), ((0 : Nat), (12 : Nat), (19 : Nat), (13 : Nat))] 8 134 [.ref l0, .int l1, .int l2, .int l3, .ref l4] M (cvI r) MF :=
  ctrW_of (by decide +kernel) (Nat.le_of_ble_eq_true rfl) (fun ρ => w_L_inFlight l0 l1 l2 l3 l4 M h)
theorem wd_L_202 : wdW RL 202 yL_inFlight cL_inFlight 6 (some .int) [((0 : Nat), (12 : Nat), (15 : Nat), (21 : Nat)), ((0 : Nat), (12 : Nat), (19 : Nat), (13 : Nat))] 5 := ⟨gwi 1115 (by decide +kernel) (by decide +kernel), gwi 1116 (by decide +kernel) (by decide +kernel), gwi 75 (by decide +kernel) (by decide +kernel), gwi 1117 (by decide +kernel) (by decide +kernel), ⟨by decide +kernel, by decide +kernel, by decide +kernel⟩⟩
theorem ca_L_202 {G : Gl} {B : Bx} {cc : ByteArray} {ret : Option FieldType} {fr lo nL : Nat} {mn : String} {hh : List (Nat × Nat × Nat × Nat)} {pc : Nat} {ls : List (Nat × Value)} {st : List Value} {M M1 : Mem} {l0 : Nat} {l1 : Int32} {l2 : Int32} {l3 : Int32} {l4 : Nat} {x : Int32} (e : f_L_inFlight l0 l1 l2 l3 l4 M = some (x, M1)) (hd : decode cc pc = .ok (.invokestatic 202, 3)) (hcat : (st.map fun v => v.category).sum ≤ 8) (hR : 8 + 1 ≤ fr ∧ 8 + (6 + 11) + 134 ≤ lo) (k : V G (RL, cc, ret, fr, lo, nL, mn, hh) B (pc + 3) ls (.int x :: st) M1) : V G (RL, cc, ret, fr, lo, nL, mn, hh) B pc ls (.ref l4 :: .int l3 :: .int l2 :: .int l1 :: .ref l0 :: st) M := v_callWi (As := [.ref l0, .int l1, .int l2, .int l3, .ref l4]) (k_L_inFlight e) wd_L_202 hd rfl rfl hcat hR k
set_option maxHeartbeats 4000000 in
set_option maxRecDepth 100000 in
theorem w_L_advance {G : Gl} {ρ0 : Nat → Nat} {M0 MF : Mem} {r : Int32} (l0 : Nat) (l1 : Int32) (l2 : Nat) (M : Mem) (h : f_L_advance l0 l1 l2 M = some (r, MF)) : V G (RL, cL_advance, (some .int), 8, 156, 4, "advance", [((0 : Nat), (9 : Nat), (12 : Nat), (13 : Nat))]) (ρ0, M0, cvI r, MF) 0 [(0, .ref l0), (1, .int l1), (2, .ref l2)] [] M := by
  unfold f_L_advance at h
  refine v_aload_n dL_advance_0 rfl 2 rfl ?_
  refine v_iconst (v := 0) dL_advance_1 ci_0 ?_
  refine v_aload_n dL_advance_2 rfl 0 rfl ?_
  refine v_iload_n dL_advance_3 rfl 1 rfl ?_
  rcases bindH_some h with ⟨v2, M1, e, h⟩ | ⟨e9, M1, e, h⟩
  · refine ca_L_94 e dL_advance_4 (Nat.le_of_ble_eq_true rfl) (by decide) ?_
    refine v_i2l dL_advance_7 ?_
    obtain ⟨M3, e, h⟩ := bind_some h
    refine v_lastore dL_advance_8 e ?_
    refine v_goto (tgt := 15) dL_advance_9 (by decide) ?_
    refine v_iconst (v := 0) dL_advance_15 ci_0 ?_
    cases h
    exact v_ireturn dL_advance_16
  · rcases Decidable.em (e9 = 1) with c9 | c9
    · subst c9
      replace h := ifP rfl h
      refine v_catch_n (e := 1) (hpc := 12) (ls' := [(0, .ref l0), (1, .int l1), (2, .ref l2)]) (As := [.int l1]) (k_X11_advance e) wd_L_94 clX11 (kd_X11_advance e) dL_advance_4 rfl rfl (Nat.le_of_ble_eq_true rfl) (by decide) [] (0, 9, 12, 13) [] rfl (by decide) rfl (by decide) (fun _ hz => nomatch hz) lcw_13 lca_1 dL_advance_12 rfl (by decide) rfl ?_
      refine v_iconst (v := 1) dL_advance_13 ci_1 ?_
      cases h
      exact v_ireturn dL_advance_14
    replace h := ifN c9 h
    cases h
theorem k_L_advance {G : Gl} {l0 : Nat} {l1 : Int32} {l2 : Nat} {M MF : Mem} {r : Int32} (h : f_L_advance l0 l1 l2 M = some (r, MF)) : CtrW G yL_advance cL_advance 4 (some .int) [((0 : Nat), (9 : Nat), (12 : Nat), (13 : Nat))] 8 156 [.ref l0, .int l1, .ref l2] M (cvI r) MF :=
  ctrW_of (by decide +kernel) (Nat.le_of_ble_eq_true rfl) (fun ρ => w_L_advance l0 l1 l2 M h)
theorem wd_L_205 : wdW RL 205 yL_advance cL_advance 4 (some .int) [((0 : Nat), (9 : Nat), (12 : Nat), (13 : Nat))] 3 := ⟨gwi 1122 (by decide +kernel) (by decide +kernel), gwi 1123 (by decide +kernel) (by decide +kernel), gwi 75 (by decide +kernel) (by decide +kernel), gwi 1124 (by decide +kernel) (by decide +kernel), ⟨by decide +kernel, by decide +kernel, by decide +kernel⟩⟩
theorem ca_L_205 {G : Gl} {B : Bx} {cc : ByteArray} {ret : Option FieldType} {fr lo nL : Nat} {mn : String} {hh : List (Nat × Nat × Nat × Nat)} {pc : Nat} {ls : List (Nat × Value)} {st : List Value} {M M1 : Mem} {l0 : Nat} {l1 : Int32} {l2 : Nat} {x : Int32} (e : f_L_advance l0 l1 l2 M = some (x, M1)) (hd : decode cc pc = .ok (.invokestatic 205, 3)) (hcat : (st.map fun v => v.category).sum ≤ 8) (hR : 8 + 1 ≤ fr ∧ 8 + (4 + 11) + 156 ≤ lo) (k : V G (RL, cc, ret, fr, lo, nL, mn, hh) B (pc + 3) ls (.int x :: st) M1) : V G (RL, cc, ret, fr, lo, nL, mn, hh) B pc ls (.ref l2 :: .int l1 :: .ref l0 :: st) M := v_callWi (As := [.ref l0, .int l1, .ref l2]) (k_L_advance e) wd_L_205 hd rfl rfl hcat hR k
set_option maxHeartbeats 4000000 in
set_option maxRecDepth 100000 in
theorem w_L_load {G : Gl} {ρ0 : Nat → Nat} {M0 MF : Mem} {r : Int32} (l0 : Nat) (l1 : Int32) (l2 : Nat) (M : Mem) (h : f_L_load l0 l1 l2 M = some (r, MF)) : V G (RL, cL_load, (some .int), 8, 130, 4, "load", [((0 : Nat), (9 : Nat), (12 : Nat), (21 : Nat))]) (ρ0, M0, cvI r, MF) 0 [(0, .ref l0), (1, .int l1), (2, .ref l2)] [] M := by
  unfold f_L_load at h
  refine v_aload_n dL_load_0 rfl 2 rfl ?_
  refine v_iconst (v := 0) dL_load_1 ci_0 ?_
  refine v_aload_n dL_load_2 rfl 0 rfl ?_
  refine v_iload_n dL_load_3 rfl 1 rfl ?_
  rcases bindH_some h with ⟨v2, M1, e, h⟩ | ⟨e9, M1, e, h⟩
  · refine ca_L_97 e dL_load_4 (Nat.le_of_ble_eq_true rfl) (by decide) ?_
    refine v_i2l dL_load_7 ?_
    obtain ⟨M3, e, h⟩ := bind_some h
    refine v_lastore dL_load_8 e ?_
    refine v_goto (tgt := 15) dL_load_9 (by decide) ?_
    refine v_iconst (v := 0) dL_load_15 ci_0 ?_
    cases h
    exact v_ireturn dL_load_16
  · rcases Decidable.em (e9 = 3) with c9 | c9
    · subst c9
      replace h := ifP rfl h
      refine v_catch_n (e := 3) (hpc := 12) (ls' := [(0, .ref l0), (1, .int l1), (2, .ref l2)]) (As := [.int l1]) (k_X11_load e) wd_L_97 clX11 (kd_X11_load e) dL_load_4 rfl rfl (Nat.le_of_ble_eq_true rfl) (by decide) [] (0, 9, 12, 21) [] rfl (by decide) rfl (by decide) (fun _ hz => nomatch hz) lcw_21 lca_3 dL_load_12 rfl (by decide) rfl ?_
      refine v_iconst (v := 1) dL_load_13 ci_1 ?_
      cases h
      exact v_ireturn dL_load_14
    replace h := ifN c9 h
    cases h
theorem k_L_load {G : Gl} {l0 : Nat} {l1 : Int32} {l2 : Nat} {M MF : Mem} {r : Int32} (h : f_L_load l0 l1 l2 M = some (r, MF)) : CtrW G yL_load cL_load 4 (some .int) [((0 : Nat), (9 : Nat), (12 : Nat), (21 : Nat))] 8 130 [.ref l0, .int l1, .ref l2] M (cvI r) MF :=
  ctrW_of (by decide +kernel) (Nat.le_of_ble_eq_true rfl) (fun ρ => w_L_load l0 l1 l2 M h)
theorem wd_L_208 : wdW RL 208 yL_load cL_load 4 (some .int) [((0 : Nat), (9 : Nat), (12 : Nat), (21 : Nat))] 3 := ⟨gwi 1143 (by decide +kernel) (by decide +kernel), gwi 1144 (by decide +kernel) (by decide +kernel), gwi 75 (by decide +kernel) (by decide +kernel), gwi 1145 (by decide +kernel) (by decide +kernel), ⟨by decide +kernel, by decide +kernel, by decide +kernel⟩⟩
theorem ca_L_208 {G : Gl} {B : Bx} {cc : ByteArray} {ret : Option FieldType} {fr lo nL : Nat} {mn : String} {hh : List (Nat × Nat × Nat × Nat)} {pc : Nat} {ls : List (Nat × Value)} {st : List Value} {M M1 : Mem} {l0 : Nat} {l1 : Int32} {l2 : Nat} {x : Int32} (e : f_L_load l0 l1 l2 M = some (x, M1)) (hd : decode cc pc = .ok (.invokestatic 208, 3)) (hcat : (st.map fun v => v.category).sum ≤ 8) (hR : 8 + 1 ≤ fr ∧ 8 + (4 + 11) + 130 ≤ lo) (k : V G (RL, cc, ret, fr, lo, nL, mn, hh) B (pc + 3) ls (.int x :: st) M1) : V G (RL, cc, ret, fr, lo, nL, mn, hh) B pc ls (.ref l2 :: .int l1 :: .ref l0 :: st) M := v_callWi (As := [.ref l0, .int l1, .ref l2]) (k_L_load e) wd_L_208 hd rfl rfl hcat hR k
set_option maxHeartbeats 4000000 in
set_option maxRecDepth 100000 in
theorem w_L_retained {G : Gl} {ρ0 : Nat → Nat} {M0 MF : Mem} {r : Int32} (l0 : Nat) (l1 : Int32) (l2 : Int32) (l3 : Nat) (M : Mem) (h : f_L_retained l0 l1 l2 l3 M = some (r, MF)) : V G (RL, cL_retained, (some .int), 7, 112, 5, "retained", [((0 : Nat), (10 : Nat), (13 : Nat), (21 : Nat)), ((0 : Nat), (10 : Nat), (17 : Nat), (13 : Nat))]) (ρ0, M0, cvI r, MF) 0 [(0, .ref l0), (1, .int l1), (2, .int l2), (3, .ref l3)] [] M := by
  unfold f_L_retained at h
  refine v_aload_n dL_retained_0 rfl 3 rfl ?_
  refine v_iconst (v := 0) dL_retained_1 ci_0 ?_
  refine v_aload_n dL_retained_2 rfl 0 rfl ?_
  refine v_iload_n dL_retained_3 rfl 1 rfl ?_
  refine v_iload_n dL_retained_4 rfl 2 rfl ?_
  rcases bindH_some h with ⟨v2, M1, e, h⟩ | ⟨e9, M1, e, h⟩
  · refine ca_L_100 e dL_retained_5 (Nat.le_of_ble_eq_true rfl) (by decide) ?_
    refine v_i2l dL_retained_8 ?_
    obtain ⟨M3, e, h⟩ := bind_some h
    refine v_lastore dL_retained_9 e ?_
    refine v_goto (tgt := 21) dL_retained_10 (by decide) ?_
    refine v_iconst (v := 0) dL_retained_21 ci_0 ?_
    cases h
    exact v_ireturn dL_retained_22
  · rcases Decidable.em (e9 = 3) with c9 | c9
    · subst c9
      replace h := ifP rfl h
      refine v_catch (e := 3) (hpc := 13) (ls' := [(0, .ref l0), (1, .int l1), (2, .int l2), (3, .ref l3)]) (As := [.int l1, .int l2]) (k_X11_retained e) wd_L_100 clX11 (kd_X11_retained e) dL_retained_5 rfl rfl (Nat.le_of_ble_eq_true rfl) (by decide) [] (0, 10, 13, 21) [(0, 10, 17, 13)] rfl (by decide) rfl (by decide) (fun _ hz => nomatch hz) lcw_21 lca_3 dL_retained_13 (by decide) rfl ?_
      refine v_iconst (v := 1) dL_retained_15 ci_1 ?_
      cases h
      exact v_ireturn dL_retained_16
    replace h := ifN c9 h
    rcases Decidable.em (e9 = 1) with c9 | c9
    · subst c9
      replace h := ifP rfl h
      refine v_catch (e := 1) (hpc := 17) (ls' := [(0, .ref l0), (1, .int l1), (2, .int l2), (3, .ref l3)]) (As := [.int l1, .int l2]) (k_X11_retained e) wd_L_100 clX11 (kd_X11_retained e) dL_retained_5 rfl rfl (Nat.le_of_ble_eq_true rfl) (by decide) [(0, 10, 13, 21)] (0, 10, 17, 13) [] rfl (by decide) rfl (by decide) (hp_1_21 rfl) lcw_13 lca_1 dL_retained_17 (by decide) rfl ?_
      refine v_iconst (v := 2) dL_retained_19 ci_2 ?_
      cases h
      exact v_ireturn dL_retained_20
    replace h := ifN c9 h
    cases h
theorem k_L_retained {G : Gl} {l0 : Nat} {l1 : Int32} {l2 : Int32} {l3 : Nat} {M MF : Mem} {r : Int32} (h : f_L_retained l0 l1 l2 l3 M = some (r, MF)) : CtrW G yL_retained cL_retained 5 (some .int) [((0 : Nat), (10 : Nat), (13 : Nat), (21 : Nat)), ((0 : Nat), (10 : Nat), (17 : Nat), (13 : Nat))] 7 112 [.ref l0, .int l1, .int l2, .ref l3] M (cvI r) MF :=
  ctrW_of (by decide +kernel) (Nat.le_of_ble_eq_true rfl) (fun ρ => w_L_retained l0 l1 l2 l3 M h)
theorem wd_L_215 : wdW RL 215 yL_retained cL_retained 5 (some .int) [((0 : Nat), (10 : Nat), (13 : Nat), (21 : Nat)), ((0 : Nat), (10 : Nat), (17 : Nat), (13 : Nat))] 4 := ⟨gwi 1151 (by decide +kernel) (by decide +kernel), gwi 1152 (by decide +kernel) (by decide +kernel), gwi 75 (by decide +kernel) (by decide +kernel), gwi 1153 (by decide +kernel) (by decide +kernel), ⟨by decide +kernel, by decide +kernel, by decide +kernel⟩⟩
theorem ca_L_215 {G : Gl} {B : Bx} {cc : ByteArray} {ret : Option FieldType} {fr lo nL : Nat} {mn : String} {hh : List (Nat × Nat × Nat × Nat)} {pc : Nat} {ls : List (Nat × Value)} {st : List Value} {M M1 : Mem} {l0 : Nat} {l1 : Int32} {l2 : Int32} {l3 : Nat} {x : Int32} (e : f_L_retained l0 l1 l2 l3 M = some (x, M1)) (hd : decode cc pc = .ok (.invokestatic 215, 3)) (hcat : (st.map fun v => v.category).sum ≤ 8) (hR : 7 + 1 ≤ fr ∧ 8 + (5 + 11) + 112 ≤ lo) (k : V G (RL, cc, ret, fr, lo, nL, mn, hh) B (pc + 3) ls (.int x :: st) M1) : V G (RL, cc, ret, fr, lo, nL, mn, hh) B pc ls (.ref l3 :: .int l2 :: .int l1 :: .ref l0 :: st) M := v_callWi (As := [.ref l0, .int l1, .int l2, .ref l3]) (k_L_retained e) wd_L_215 hd rfl rfl hcat hR k
set_option maxHeartbeats 4000000 in
set_option maxRecDepth 100000 in
theorem w_L_published {G : Gl} {ρ0 : Nat → Nat} {M0 MF : Mem} {r : Int32} (l0 : Nat) (l1 : Nat) (M : Mem) (h : f_L_published l0 l1 M = some (r, MF)) : V G (RL, cL_published, (some .int), 9, 155, 3, "published", [((0 : Nat), (8 : Nat), (11 : Nat), (13 : Nat))]) (ρ0, M0, cvI r, MF) 0 [(0, .ref l0), (1, .ref l1)] [] M := by
  unfold f_L_published at h
  refine v_aload_n dL_published_0 rfl 1 rfl ?_
  refine v_iconst (v := 0) dL_published_1 ci_0 ?_
  refine v_aload_n dL_published_2 rfl 0 rfl ?_
  rcases bindH_some h with ⟨v2, M1, e, h⟩ | ⟨e9, M1, e, h⟩
  · refine ca_L_103 e dL_published_3 (Nat.le_of_ble_eq_true rfl) (by decide) ?_
    refine v_i2l dL_published_6 ?_
    obtain ⟨M3, e, h⟩ := bind_some h
    refine v_lastore dL_published_7 e ?_
    refine v_goto (tgt := 14) dL_published_8 (by decide) ?_
    refine v_iconst (v := 0) dL_published_14 ci_0 ?_
    cases h
    exact v_ireturn dL_published_15
  · rcases Decidable.em (e9 = 1) with c9 | c9
    · subst c9
      replace h := ifP rfl h
      refine v_catch_n (e := 1) (hpc := 11) (ls' := [(0, .ref l0), (1, .ref l1)]) (As := []) (k_X11_published e) wd_L_103 clX11 (kd_X11_published e) dL_published_3 rfl rfl (Nat.le_of_ble_eq_true rfl) (by decide) [] (0, 8, 11, 13) [] rfl (by decide) rfl (by decide) (fun _ hz => nomatch hz) lcw_13 lca_1 dL_published_11 rfl (by decide) rfl ?_
      refine v_iconst (v := 1) dL_published_12 ci_1 ?_
      cases h
      exact v_ireturn dL_published_13
    replace h := ifN c9 h
    cases h
theorem k_L_published {G : Gl} {l0 : Nat} {l1 : Nat} {M MF : Mem} {r : Int32} (h : f_L_published l0 l1 M = some (r, MF)) : CtrW G yL_published cL_published 3 (some .int) [((0 : Nat), (8 : Nat), (11 : Nat), (13 : Nat))] 9 155 [.ref l0, .ref l1] M (cvI r) MF :=
  ctrW_of (by decide +kernel) (Nat.le_of_ble_eq_true rfl) (fun ρ => w_L_published l0 l1 M h)
theorem wd_L_218 : wdW RL 218 yL_published cL_published 3 (some .int) [((0 : Nat), (8 : Nat), (11 : Nat), (13 : Nat))] 2 := ⟨gwi 1158 (by decide +kernel) (by decide +kernel), gwi 1159 (by decide +kernel) (by decide +kernel), gwi 75 (by decide +kernel) (by decide +kernel), gwi 1160 (by decide +kernel) (by decide +kernel), ⟨by decide +kernel, by decide +kernel, by decide +kernel⟩⟩
theorem ca_L_218 {G : Gl} {B : Bx} {cc : ByteArray} {ret : Option FieldType} {fr lo nL : Nat} {mn : String} {hh : List (Nat × Nat × Nat × Nat)} {pc : Nat} {ls : List (Nat × Value)} {st : List Value} {M M1 : Mem} {l0 : Nat} {l1 : Nat} {x : Int32} (e : f_L_published l0 l1 M = some (x, M1)) (hd : decode cc pc = .ok (.invokestatic 218, 3)) (hcat : (st.map fun v => v.category).sum ≤ 8) (hR : 9 + 1 ≤ fr ∧ 8 + (3 + 11) + 155 ≤ lo) (k : V G (RL, cc, ret, fr, lo, nL, mn, hh) B (pc + 3) ls (.int x :: st) M1) : V G (RL, cc, ret, fr, lo, nL, mn, hh) B pc ls (.ref l1 :: .ref l0 :: st) M := v_callWi (As := [.ref l0, .ref l1]) (k_L_published e) wd_L_218 hd rfl rfl hcat hR k
set_option maxHeartbeats 4000000 in
set_option maxRecDepth 100000 in
theorem w_L_total {G : Gl} {ρ0 : Nat → Nat} {M0 MF : Mem} {r : Int32} (l0 : Nat) (l1 : Int32) (l2 : Nat) (M : Mem) (h : f_L_total l0 l1 l2 M = some (r, MF)) : V G (RL, cL_total, (some .int), 8, 132, 4, "total", [((0 : Nat), (9 : Nat), (12 : Nat), (13 : Nat))]) (ρ0, M0, cvI r, MF) 0 [(0, .ref l0), (1, .int l1), (2, .ref l2)] [] M := by
  unfold f_L_total at h
  refine v_aload_n dL_total_0 rfl 2 rfl ?_
  refine v_iconst (v := 0) dL_total_1 ci_0 ?_
  refine v_aload_n dL_total_2 rfl 0 rfl ?_
  refine v_iload_n dL_total_3 rfl 1 rfl ?_
  rcases bindH_some h with ⟨v2, M1, e, h⟩ | ⟨e9, M1, e, h⟩
  · refine ca_L_107 e dL_total_4 (Nat.le_of_ble_eq_true rfl) (by decide) ?_
    refine v_i2l dL_total_7 ?_
    obtain ⟨M3, e, h⟩ := bind_some h
    refine v_lastore dL_total_8 e ?_
    refine v_goto (tgt := 15) dL_total_9 (by decide) ?_
    refine v_iconst (v := 0) dL_total_15 ci_0 ?_
    cases h
    exact v_ireturn dL_total_16
  · rcases Decidable.em (e9 = 1) with c9 | c9
    · subst c9
      replace h := ifP rfl h
      refine v_catch_n (e := 1) (hpc := 12) (ls' := [(0, .ref l0), (1, .int l1), (2, .ref l2)]) (As := [.int l1]) (k_X11_total e) wd_L_107 clX11 (kd_X11_total e) dL_total_4 rfl rfl (Nat.le_of_ble_eq_true rfl) (by decide) [] (0, 9, 12, 13) [] rfl (by decide) rfl (by decide) (fun _ hz => nomatch hz) lcw_13 lca_1 dL_total_12 rfl (by decide) rfl ?_
      refine v_iconst (v := 1) dL_total_13 ci_1 ?_
      cases h
      exact v_ireturn dL_total_14
    replace h := ifN c9 h
    cases h
theorem k_L_total {G : Gl} {l0 : Nat} {l1 : Int32} {l2 : Nat} {M MF : Mem} {r : Int32} (h : f_L_total l0 l1 l2 M = some (r, MF)) : CtrW G yL_total cL_total 4 (some .int) [((0 : Nat), (9 : Nat), (12 : Nat), (13 : Nat))] 8 132 [.ref l0, .int l1, .ref l2] M (cvI r) MF :=
  ctrW_of (by decide +kernel) (Nat.le_of_ble_eq_true rfl) (fun ρ => w_L_total l0 l1 l2 M h)
theorem wd_L_222 : wdW RL 222 yL_total cL_total 4 (some .int) [((0 : Nat), (9 : Nat), (12 : Nat), (13 : Nat))] 3 := ⟨gwi 1166 (by decide +kernel) (by decide +kernel), gwi 1167 (by decide +kernel) (by decide +kernel), gwi 75 (by decide +kernel) (by decide +kernel), gwi 1168 (by decide +kernel) (by decide +kernel), ⟨by decide +kernel, by decide +kernel, by decide +kernel⟩⟩
theorem ca_L_222 {G : Gl} {B : Bx} {cc : ByteArray} {ret : Option FieldType} {fr lo nL : Nat} {mn : String} {hh : List (Nat × Nat × Nat × Nat)} {pc : Nat} {ls : List (Nat × Value)} {st : List Value} {M M1 : Mem} {l0 : Nat} {l1 : Int32} {l2 : Nat} {x : Int32} (e : f_L_total l0 l1 l2 M = some (x, M1)) (hd : decode cc pc = .ok (.invokestatic 222, 3)) (hcat : (st.map fun v => v.category).sum ≤ 8) (hR : 8 + 1 ≤ fr ∧ 8 + (4 + 11) + 132 ≤ lo) (k : V G (RL, cc, ret, fr, lo, nL, mn, hh) B (pc + 3) ls (.int x :: st) M1) : V G (RL, cc, ret, fr, lo, nL, mn, hh) B pc ls (.ref l2 :: .int l1 :: .ref l0 :: st) M := v_callWi (As := [.ref l0, .int l1, .ref l2]) (k_L_total e) wd_L_222 hd rfl rfl hcat hR k
set_option maxHeartbeats 4000000 in
set_option maxRecDepth 100000 in
theorem w_L_restore {G : Gl} {ρ0 : Nat → Nat} {M0 MF : Mem} {r : Int32} (l0 : Nat) (l1 : Nat) (M : Mem) (h : f_L_restore l0 l1 M = some (r, MF)) : V G (RL, cL_restore, (some .int), 7, 128, 3, "restore", [((0 : Nat), (8 : Nat), (11 : Nat), (15 : Nat))]) (ρ0, M0, cvI r, MF) 0 [(0, .ref l0), (1, .ref l1)] [] M := by
  unfold f_L_restore at h
  refine v_aload_n dL_restore_0 rfl 1 rfl ?_
  refine v_iconst (v := 0) dL_restore_1 ci_0 ?_
  refine v_aload_n dL_restore_2 rfl 0 rfl ?_
  rcases bindH_some h with ⟨v2, M1, e, h⟩ | ⟨e9, M1, e, h⟩
  · refine ca_L_110 e dL_restore_3 (Nat.le_of_ble_eq_true rfl) (by decide) ?_
    refine v_i2l dL_restore_6 ?_
    obtain ⟨M3, e, h⟩ := bind_some h
    refine v_lastore dL_restore_7 e ?_
    refine v_goto (tgt := 14) dL_restore_8 (by decide) ?_
    refine v_iconst (v := 0) dL_restore_14 ci_0 ?_
    cases h
    exact v_ireturn dL_restore_15
  · rcases Decidable.em (e9 = 2) with c9 | c9
    · subst c9
      replace h := ifP rfl h
      refine v_catch_n (e := 2) (hpc := 11) (ls' := [(0, .ref l0), (1, .ref l1)]) (As := []) (k_X11_restore e) wd_L_110 clX11 (kd_X11_restore e) dL_restore_3 rfl rfl (Nat.le_of_ble_eq_true rfl) (by decide) [] (0, 8, 11, 15) [] rfl (by decide) rfl (by decide) (fun _ hz => nomatch hz) lcw_15 lca_2 dL_restore_11 rfl (by decide) rfl ?_
      refine v_iconst (v := 1) dL_restore_12 ci_1 ?_
      cases h
      exact v_ireturn dL_restore_13
    replace h := ifN c9 h
    cases h
theorem k_L_restore {G : Gl} {l0 : Nat} {l1 : Nat} {M MF : Mem} {r : Int32} (h : f_L_restore l0 l1 M = some (r, MF)) : CtrW G yL_restore cL_restore 3 (some .int) [((0 : Nat), (8 : Nat), (11 : Nat), (15 : Nat))] 7 128 [.ref l0, .ref l1] M (cvI r) MF :=
  ctrW_of (by decide +kernel) (Nat.le_of_ble_eq_true rfl) (fun ρ => w_L_restore l0 l1 M h)
theorem wd_L_229 : wdW RL 229 yL_restore cL_restore 3 (some .int) [((0 : Nat), (8 : Nat), (11 : Nat), (15 : Nat))] 2 := ⟨gwi 1173 (by decide +kernel) (by decide +kernel), gwi 1174 (by decide +kernel) (by decide +kernel), gwi 75 (by decide +kernel) (by decide +kernel), gwi 1175 (by decide +kernel) (by decide +kernel), ⟨by decide +kernel, by decide +kernel, by decide +kernel⟩⟩
theorem ca_L_229 {G : Gl} {B : Bx} {cc : ByteArray} {ret : Option FieldType} {fr lo nL : Nat} {mn : String} {hh : List (Nat × Nat × Nat × Nat)} {pc : Nat} {ls : List (Nat × Value)} {st : List Value} {M M1 : Mem} {l0 : Nat} {l1 : Nat} {x : Int32} (e : f_L_restore l0 l1 M = some (x, M1)) (hd : decode cc pc = .ok (.invokestatic 229, 3)) (hcat : (st.map fun v => v.category).sum ≤ 8) (hR : 7 + 1 ≤ fr ∧ 8 + (3 + 11) + 128 ≤ lo) (k : V G (RL, cc, ret, fr, lo, nL, mn, hh) B (pc + 3) ls (.int x :: st) M1) : V G (RL, cc, ret, fr, lo, nL, mn, hh) B pc ls (.ref l1 :: .ref l0 :: st) M := v_callWi (As := [.ref l0, .ref l1]) (k_L_restore e) wd_L_229 hd rfl rfl hcat hR k
