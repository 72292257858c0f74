set_option maxHeartbeats 4000000 in
set_option maxRecDepth 100000 in
theorem w_X11_breakConnection {G : Gl} {ρ0 : Nat → Nat} {M0 MF : Mem} {r : Int32 ⊕ Nat} (l0 : Nat) (l1 : Int32) (M : Mem) (h : f_X11_breakConnection l0 l1 M = some (r, MF)) : V G (RX11, cX11_breakConnection, (some .int), 7, 143, 2, "breakConnection", []) (ρ0, M0, cxI r, MF) 0 [(0, .ref l0), (1, .int l1)] [] M := by
  unfold f_X11_breakConnection at h
  replace h := (ifS h).2
  refine v_iload_n dX11_breakConnection_0 rfl 1 rfl ?_
  rcases bindX_some h with ⟨u2, M1, e, h⟩ | ⟨e9, e, rfl⟩
  rotate_left
  · exact cx_X11_73 e dX11_breakConnection_1 (Nat.le_of_ble_eq_true rfl) (by decide)
  refine ca_X11_73 e dX11_breakConnection_1 (Nat.le_of_ble_eq_true rfl) (by decide) ?_
  refine v_aload_n dX11_breakConnection_4 rfl 0 rfl ?_
  refine v_iload_n dX11_breakConnection_5 rfl 1 rfl ?_
  rcases bindX_some h with ⟨u4, M3, e, h⟩ | ⟨e9, e, rfl⟩
  rotate_left
  · exact cx_X11_114 e dX11_breakConnection_6 (Nat.le_of_ble_eq_true rfl) (by decide)
  refine ca_X11_114 e dX11_breakConnection_6 (Nat.le_of_ble_eq_true rfl) (by decide) ?_
  refine v_aload_n dX11_breakConnection_9 rfl 0 rfl ?_
  obtain ⟨v5, e, h⟩ := bind_some h
  refine gt_X11_41 e dX11_breakConnection_10 ?_
  refine v_iload_n dX11_breakConnection_13 rfl 1 rfl ?_
  obtain ⟨v7, M6, e, h⟩ := bindP_some h
  refine ca_X11_90 e dX11_breakConnection_14 (Nat.le_of_ble_eq_true rfl) (by decide) ?_
  cases h
  exact v_ireturn dX11_breakConnection_17
theorem kd_X11_breakConnection {l0 : Nat} {l1 : Int32} {M : Mem} {z : _} (h : f_X11_breakConnection l0 l1 M = some z) : (mK M l0).1 = 11 := by
  unfold f_X11_breakConnection at h
  exact (ifS h).1
theorem k_X11_breakConnection {G : Gl} {l0 : Nat} {l1 : Int32} {M MF : Mem} {r : Int32 ⊕ Nat} (h : f_X11_breakConnection l0 l1 M = some (r, MF)) : CtrP G yX11_breakConnection cX11_breakConnection 2 (some .int) 7 143 [.ref l0, .int l1] M (cxI r) MF :=
  ctr_of (by decide +kernel) (Nat.le_of_ble_eq_true rfl) (fun ρ => w_X11_breakConnection l0 l1 M h)
set_option maxHeartbeats 4000000 in
set_option maxRecDepth 100000 in
theorem w_X11_takeBuffer {G : Gl} {ρ0 : Nat → Nat} {M0 MF : Mem} {r : Int32} (l0 : Nat) (M : Mem) (h : f_X11_takeBuffer l0 M = some (r, MF)) : V G (RX11, cX11_takeBuffer, (some .int), 0, 0, 2, "takeBuffer", []) (ρ0, M0, cvI r, MF) 0 [(0, .ref l0)] [] M := by
  unfold f_X11_takeBuffer at h
  replace h := (ifS h).2
  refine v_aload_n dX11_takeBuffer_0 rfl 0 rfl ?_
  obtain ⟨v1, e, h⟩ := bind_some h
  refine gt_X11_51 e dX11_takeBuffer_1 ?_
  refine v_istore_n (ls' := [(1, .int v1), (0, .ref l0)]) dX11_takeBuffer_4 rfl (by decide) rfl ?_
  refine v_aload_n dX11_takeBuffer_5 rfl 1 rfl ?_
  refine v_iconst (v := 0) dX11_takeBuffer_6 ci_0 ?_
  obtain ⟨M2, e, h⟩ := bind_some h
  refine pt_X11_51 e dX11_takeBuffer_7 ?_
  refine v_iload_n dX11_takeBuffer_10 rfl 0 rfl ?_
  cases h
  exact v_ireturn dX11_takeBuffer_11
theorem kd_X11_takeBuffer {l0 : Nat} {M : Mem} {z : _} (h : f_X11_takeBuffer l0 M = some z) : (mK M l0).1 = 11 := by
  unfold f_X11_takeBuffer at h
  exact (ifS h).1
theorem k_X11_takeBuffer {G : Gl} {l0 : Nat} {M MF : Mem} {r : Int32} (h : f_X11_takeBuffer l0 M = some (r, MF)) : CtrP G yX11_takeBuffer cX11_takeBuffer 2 (some .int) 0 0 [.ref l0] M (cvI r) MF :=
  ctr_of (by decide +kernel) (Nat.le_of_ble_eq_true rfl) (fun ρ => w_X11_takeBuffer l0 M h)
theorem wd_X11_123 : wdV RX11 123 RX11 yX11_takeBuffer cX11_takeBuffer 2 (some .int) 0 := ⟨gwi 883 (by decide +kernel) (by decide +kernel), gwi 885 (by decide +kernel) (by decide +kernel), gwi 18 (by decide +kernel) (by decide +kernel), nw_X11, gwi 886 (by decide +kernel) (by decide +kernel), ⟨rfl, by decide +kernel, by decide +kernel, by decide +kernel⟩⟩
theorem ca_X11_123 {G : Gl} {B : Bx} {cc : ByteArray} {ret : Option FieldType} {fr lo nL : Nat} {mn : String} {hh : List (Nat × Nat × Nat × Nat)} {pc : Nat} {ls : List (Nat × Value)} {st : List Value} {M M1 : Mem} {l0 : Nat} {x : Int32} (e : f_X11_takeBuffer l0 M = some (x, M1)) (hd : decode cc pc = .ok (.invokevirtual 123, 3)) (hcat : (st.map fun v => v.category).sum ≤ 8) (hR : 0 + 1 ≤ fr ∧ 8 + (2 + 11) + 0 ≤ lo) (k : V G (RX11, cc, ret, fr, lo, nL, mn, hh) B (pc + 3) ls (.int x :: st) M1) : V G (RX11, cc, ret, fr, lo, nL, mn, hh) B pc ls (.ref l0 :: st) M := v_callVi (As := []) (k_X11_takeBuffer e) wd_X11_123 clX11 (kd_X11_takeBuffer e) hd rfl rfl hcat hR k
set_option maxHeartbeats 4000000 in
set_option maxRecDepth 100000 in
theorem w_X11_readText {G : Gl} {ρ0 : Nat → Nat} {M0 MF : Mem} {r : Nat ⊕ Nat} (l0 : Nat) (l1 : Int32) (l2 : Int32) (M : Mem) (h : f_X11_readText l0 l1 l2 M = some (r, MF)) : V G (RX11, cX11_readText, (some (.object "GradedTopicBroker$Text")), 6, 89, 3, "readText", []) (ρ0, M0, cxR r, MF) 0 [(0, .ref l0), (1, .int l1), (2, .int l2)] [] M := by
  unfold f_X11_readText at h
  replace h := (ifS h).2
  refine v_aload_n dX11_readText_0 rfl 0 rfl ?_
  refine v_aload_n dX11_readText_1 rfl 0 rfl ?_
  obtain ⟨v1, e, h⟩ := bind_some h
  refine gt_X11_14 e dX11_readText_2 ?_
  refine v_iload_n dX11_readText_5 rfl 1 rfl ?_
  refine v_iload_n dX11_readText_6 rfl 2 rfl ?_
  obtain ⟨v3, M2, e, h⟩ := bindP_some h
  refine ca_X11_353 e dX11_readText_7 (Nat.le_of_ble_eq_true rfl) (by decide) ?_
  obtain ⟨M4, e, h⟩ := bind_some h
  refine pt_X11_18 e dX11_readText_10 ?_
  refine v_aload_n dX11_readText_13 rfl 0 rfl ?_
  obtain ⟨v5, e, h⟩ := bind_some h
  refine gt_X11_18 e dX11_readText_14 ?_
  refine v_if_lt (tgt := 28) dX11_readText_17 (by decide) (fun c10 => ?_) (fun c10 => ?_)
  · replace h := ifP c10 h
    obtain ⟨v6, M7, e, h⟩ := bindP_some h
    refine nx_X11_7 e dX11_readText_28 ?_
    refine v_dup dX11_readText_31 rfl ?_
    refine v_aload_n dX11_readText_32 rfl 0 rfl ?_
    obtain ⟨v8, e, h⟩ := bind_some h
    refine gt_X11_14 e dX11_readText_33 ?_
    refine v_iload_n dX11_readText_36 rfl 1 rfl ?_
    obtain ⟨M9, e, h⟩ := bind_some h
    refine ca_X11_9 e dX11_readText_37 (Nat.le_of_ble_eq_true rfl) (by decide) ?_
    cases h
    exact v_areturn dX11_readText_40
  · replace h := ifN c10 h
    cases h
    exact th_1 dX11_readText_20 dX11_readText_23 dX11_readText_24 dX11_readText_27 (by decide) (Nat.le_of_ble_eq_true rfl)
theorem kd_X11_readText {l0 : Nat} {l1 : Int32} {l2 : Int32} {M : Mem} {z : _} (h : f_X11_readText l0 l1 l2 M = some z) : (mK M l0).1 = 11 := by
  unfold f_X11_readText at h
  exact (ifS h).1
theorem k_X11_readText {G : Gl} {l0 : Nat} {l1 : Int32} {l2 : Int32} {M MF : Mem} {r : Nat ⊕ Nat} (h : f_X11_readText l0 l1 l2 M = some (r, MF)) : CtrP G yX11_readText cX11_readText 3 (some (.object "GradedTopicBroker$Text")) 6 89 [.ref l0, .int l1, .int l2] M (cxR r) MF :=
  ctr_of (by decide +kernel) (Nat.le_of_ble_eq_true rfl) (fun ρ => w_X11_readText l0 l1 l2 M h)
theorem wd_X11_349 : wdV RX11 349 RX11 yX11_readText cX11_readText 3 (some (.object "GradedTopicBroker$Text")) 2 := ⟨gwi 891 (by decide +kernel) (by decide +kernel), gwi 893 (by decide +kernel) (by decide +kernel), gwi 20 (by decide +kernel) (by decide +kernel), nw_X11, gwi 894 (by decide +kernel) (by decide +kernel), ⟨rfl, by decide +kernel, by decide +kernel, by decide +kernel⟩⟩
theorem ca_X11_349 {G : Gl} {B : Bx} {cc : ByteArray} {ret : Option FieldType} {fr lo nL : Nat} {mn : String} {hh : List (Nat × Nat × Nat × Nat)} {pc : Nat} {ls : List (Nat × Value)} {st : List Value} {M M1 : Mem} {l0 : Nat} {l1 : Int32} {l2 : Int32} {x : Nat} (e : f_X11_readText l0 l1 l2 M = some (.inl x, M1)) (hd : decode cc pc = .ok (.invokevirtual 349, 3)) (hcat : (st.map fun v => v.category).sum ≤ 8) (hR : 6 + 1 ≤ fr ∧ 8 + (3 + 11) + 89 ≤ lo) (k : V G (RX11, cc, ret, fr, lo, nL, mn, hh) B (pc + 3) ls (.ref x :: st) M1) : V G (RX11, cc, ret, fr, lo, nL, mn, hh) B pc ls (.int l2 :: .int l1 :: .ref l0 :: st) M := v_callVr (As := [.int l1, .int l2]) (k_X11_readText e) wd_X11_349 clX11 (kd_X11_readText e) hd rfl rfl hcat hR k
theorem cx_X11_349 {G : Gl} {ρ0 : Nat → Nat} {M0 : Mem} {cc : ByteArray} {ret : Option FieldType} {fr lo nL : Nat} {mn : String} {pc : Nat} {ls : List (Nat × Value)} {st : List Value} {M M1 : Mem} {l0 : Nat} {l1 : Int32} {l2 : Int32} {e9 : Nat} (e : f_X11_readText l0 l1 l2 M = some (.inr e9, M1)) (hd : decode cc pc = .ok (.invokevirtual 349, 3)) (hcat : (st.map fun v => v.category).sum ≤ 8) (hR : 6 + 1 ≤ fr ∧ 8 + (3 + 11) + 89 ≤ lo) : V G (RX11, cc, ret, fr, lo, nL, mn, []) (ρ0, M0, Sum.inr e9, M1) pc ls (.int l2 :: .int l1 :: .ref l0 :: st) M := v_callVx (As := [.int l1, .int l2]) (k_X11_readText e) wd_X11_349 clX11 (kd_X11_readText e) hd rfl rfl hcat hR
set_option maxHeartbeats 4000000 in
set_option maxRecDepth 100000 in
theorem w_X11_readTopic {G : Gl} {ρ0 : Nat → Nat} {M0 MF : Mem} {r : Nat ⊕ Nat} (l0 : Nat) (l1 : Int32) (M : Mem) (h : f_X11_readTopic l0 l1 M = some (r, MF)) : V G (RX11, cX11_readTopic, (some (.object "GradedTopicBroker$Text")), 7, 111, 2, "readTopic", []) (ρ0, M0, cxR r, MF) 0 [(0, .ref l0), (1, .int l1)] [] M := by
  unfold f_X11_readTopic at h
  replace h := (ifS h).2
  refine v_aload_n dX11_readTopic_0 rfl 0 rfl ?_
  refine v_iload_n dX11_readTopic_1 rfl 1 rfl ?_
  refine v_iconst (v := 0) dX11_readTopic_2 ci_0 ?_
  rcases bindX_some h with ⟨v2, M1, e, h⟩ | ⟨e9, e, rfl⟩
  rotate_left
  · exact cx_X11_349 e dX11_readTopic_3 (Nat.le_of_ble_eq_true rfl) (by decide)
  refine ca_X11_349 e dX11_readTopic_3 (Nat.le_of_ble_eq_true rfl) (by decide) ?_
  cases h
  exact v_areturn dX11_readTopic_6
theorem kd_X11_readTopic {l0 : Nat} {l1 : Int32} {M : Mem} {z : _} (h : f_X11_readTopic l0 l1 M = some z) : (mK M l0).1 = 11 := by
  unfold f_X11_readTopic at h
  exact (ifS h).1
theorem k_X11_readTopic {G : Gl} {l0 : Nat} {l1 : Int32} {M MF : Mem} {r : Nat ⊕ Nat} (h : f_X11_readTopic l0 l1 M = some (r, MF)) : CtrP G yX11_readTopic cX11_readTopic 2 (some (.object "GradedTopicBroker$Text")) 7 111 [.ref l0, .int l1] M (cxR r) MF :=
  ctr_of (by decide +kernel) (Nat.le_of_ble_eq_true rfl) (fun ρ => w_X11_readTopic l0 l1 M h)
theorem wd_X11_127 : wdV RX11 127 RX11 yX11_readTopic cX11_readTopic 2 (some (.object "GradedTopicBroker$Text")) 1 := ⟨gwi 985 (by decide +kernel) (by decide +kernel), gwi 987 (by decide +kernel) (by decide +kernel), gwi 22 (by decide +kernel) (by decide +kernel), nw_X11, gwi 988 (by decide +kernel) (by decide +kernel), ⟨rfl, by decide +kernel, by decide +kernel, by decide +kernel⟩⟩
theorem ca_X11_127 {G : Gl} {B : Bx} {cc : ByteArray} {ret : Option FieldType} {fr lo nL : Nat} {mn : String} {hh : List (Nat × Nat × Nat × Nat)} {pc : Nat} {ls : List (Nat × Value)} {st : List Value} {M M1 : Mem} {l0 : Nat} {l1 : Int32} {x : Nat} (e : f_X11_readTopic l0 l1 M = some (.inl x, M1)) (hd : decode cc pc = .ok (.invokevirtual 127, 3)) (hcat : (st.map fun v => v.category).sum ≤ 8) (hR : 7 + 1 ≤ fr ∧ 8 + (2 + 11) + 111 ≤ lo) (k : V G (RX11, cc, ret, fr, lo, nL, mn, hh) B (pc + 3) ls (.ref x :: st) M1) : V G (RX11, cc, ret, fr, lo, nL, mn, hh) B pc ls (.int l1 :: .ref l0 :: st) M := v_callVr (As := [.int l1]) (k_X11_readTopic e) wd_X11_127 clX11 (kd_X11_readTopic e) hd rfl rfl hcat hR k
theorem cx_X11_127 {G : Gl} {ρ0 : Nat → Nat} {M0 : Mem} {cc : ByteArray} {ret : Option FieldType} {fr lo nL : Nat} {mn : String} {pc : Nat} {ls : List (Nat × Value)} {st : List Value} {M M1 : Mem} {l0 : Nat} {l1 : Int32} {e9 : Nat} (e : f_X11_readTopic l0 l1 M = some (.inr e9, M1)) (hd : decode cc pc = .ok (.invokevirtual 127, 3)) (hcat : (st.map fun v => v.category).sum ≤ 8) (hR : 7 + 1 ≤ fr ∧ 8 + (2 + 11) + 111 ≤ lo) : V G (RX11, cc, ret, fr, lo, nL, mn, []) (ρ0, M0, Sum.inr e9, M1) pc ls (.int l1 :: .ref l0 :: st) M := v_callVx (As := [.int l1]) (k_X11_readTopic e) wd_X11_127 clX11 (kd_X11_readTopic e) hd rfl rfl hcat hR
theorem w_X11_requireRange_J10 {G : Gl} {ρ0 : Nat → Nat} {M0 MF : Mem} {r : Unit ⊕ Nat} (M : Mem) (h : f_X11_requireRange_J10 M = some (r, MF)) : V G (RX11, cX11_requireRange, none, 6, 89, 3, "requireRange", []) (ρ0, M0, cxV r, MF) 10 [] [] M := by
  unfold f_X11_requireRange_J10 at h
  cases h
  exact th_1 dX11_requireRange_10 dX11_requireRange_13 dX11_requireRange_14 dX11_requireRange_17 (by decide) (Nat.le_of_ble_eq_true rfl)
set_option maxHeartbeats 4000000 in
set_option maxRecDepth 100000 in
theorem w_X11_requireRange {G : Gl} {ρ0 : Nat → Nat} {M0 MF : Mem} {r : Unit ⊕ Nat} (l0 : Int32) (l1 : Int32) (l2 : Int32) (M : Mem) (h : f_X11_requireRange l0 l1 l2 M = some (r, MF)) : V G (RX11, cX11_requireRange, none, 6, 89, 3, "requireRange", []) (ρ0, M0, cxV r, MF) 0 [(0, .int l0), (1, .int l1), (2, .int l2)] [] M := by
  unfold f_X11_requireRange at h
  refine v_iload_n dX11_requireRange_0 rfl 0 rfl ?_
  refine v_iload_n dX11_requireRange_1 rfl 1 rfl ?_
  refine v_icmp_lt (tgt := 10) dX11_requireRange_2 (by decide) (fun c2 => ?_) (fun c2 => ?_)
  · replace h := ifP c2 h
    refine v_sub [] rfl ?_
    exact w_X11_requireRange_J10 M h
  · replace h := ifN c2 h
    refine v_iload_n dX11_requireRange_5 rfl 0 rfl ?_
    refine v_iload_n dX11_requireRange_6 rfl 2 rfl ?_
    refine v_icmp_le (tgt := 18) dX11_requireRange_7 (by decide) (fun c1 => ?_) (fun c1 => ?_)
    · replace h := ifP c1 h
      cases h
      exact v_vreturn dX11_requireRange_18
    · replace h := ifN c1 h
      refine v_sub [] rfl ?_
      exact w_X11_requireRange_J10 M h
theorem k_X11_requireRange {G : Gl} {l0 : Int32} {l1 : Int32} {l2 : Int32} {M MF : Mem} {r : Unit ⊕ Nat} (h : f_X11_requireRange l0 l1 l2 M = some (r, MF)) : CtrP G yX11_requireRange cX11_requireRange 3 none 6 89 [.int l0, .int l1, .int l2] M (cxV r) MF :=
  ctr_of (by decide +kernel) (Nat.le_of_ble_eq_true rfl) (fun ρ => w_X11_requireRange l0 l1 l2 M h)
theorem wd_X11_131 : wdT RX11 131 yX11_requireRange cX11_requireRange 3 none 3 := ⟨gwi 608 (by decide +kernel) (by decide +kernel), gwi 609 (by decide +kernel) (by decide +kernel), nw_X11, gwi 610 (by decide +kernel) (by decide +kernel), ⟨by decide +kernel, by decide +kernel, by decide +kernel⟩⟩
theorem ca_X11_131 {G : Gl} {B : Bx} {cc : ByteArray} {ret : Option FieldType} {fr lo nL : Nat} {mn : String} {hh : List (Nat × Nat × Nat × Nat)} {pc : Nat} {ls : List (Nat × Value)} {st : List Value} {M M1 : Mem} {l0 : Int32} {l1 : Int32} {l2 : Int32} {x : Unit} (e : f_X11_requireRange l0 l1 l2 M = some (.inl x, M1)) (hd : decode cc pc = .ok (.invokestatic 131, 3)) (hcat : (st.map fun v => v.category).sum ≤ 8) (hR : 6 + 1 ≤ fr ∧ 8 + (3 + 11) + 89 ≤ lo) (k : V G (RX11, cc, ret, fr, lo, nL, mn, hh) B (pc + 3) ls (st) M1) : V G (RX11, cc, ret, fr, lo, nL, mn, hh) B pc ls (.int l2 :: .int l1 :: .int l0 :: st) M := v_callS0 (As := [.int l0, .int l1, .int l2]) (k_X11_requireRange e) wd_X11_131 hd rfl rfl hcat hR k
theorem cx_X11_131 {G : Gl} {ρ0 : Nat → Nat} {M0 : Mem} {cc : ByteArray} {ret : Option FieldType} {fr lo nL : Nat} {mn : String} {pc : Nat} {ls : List (Nat × Value)} {st : List Value} {M M1 : Mem} {l0 : Int32} {l1 : Int32} {l2 : Int32} {e9 : Nat} (e : f_X11_requireRange l0 l1 l2 M = some (.inr e9, M1)) (hd : decode cc pc = .ok (.invokestatic 131, 3)) (hcat : (st.map fun v => v.category).sum ≤ 8) (hR : 6 + 1 ≤ fr ∧ 8 + (3 + 11) + 89 ≤ lo) : V G (RX11, cc, ret, fr, lo, nL, mn, []) (ρ0, M0, Sum.inr e9, M1) pc ls (.int l2 :: .int l1 :: .int l0 :: st) M := v_callSx (As := [.int l0, .int l1, .int l2]) (k_X11_requireRange e) wd_X11_131 hd rfl rfl hcat hR
set_option maxHeartbeats 4000000 in
set_option maxRecDepth 100000 in
theorem w_X11_setWill {G : Gl} {ρ0 : Nat → Nat} {M0 MF : Mem} {r : Int32 ⊕ Nat} (l0 : Nat) (l1 : Int32) (l2 : Int32) (l3 : Int32) (l4 : Int32) (M : Mem) (h : f_X11_setWill l0 l1 l2 l3 l4 M = some (r, MF)) : V G (RX11, cX11_setWill, (some .int), 8, 132, 9, "setWill", []) (ρ0, M0, cxI r, MF) 0 [(0, .ref l0), (1, .int l1), (2, .int l2), (3, .int l3), (4, .int l4)] [] M := by
  unfold f_X11_setWill at h
  replace h := (ifS h).2
  refine v_aload_n dX11_setWill_0 rfl 0 rfl ?_
  obtain ⟨v2, M1, e, h⟩ := bindP_some h
  refine ca_X11_123 e dX11_setWill_1 (Nat.le_of_ble_eq_true rfl) (by decide) ?_
  refine v_istore (ls' := [(5, .int v2), (0, .ref l0), (1, .int l1), (2, .int l2), (3, .int l3), (4, .int l4)]) dX11_setWill_4 (by decide) rfl ?_
  refine v_iload_n dX11_setWill_6 rfl 2 rfl ?_
  rcases bindX_some h with ⟨u4, M3, e, h⟩ | ⟨e9, e, rfl⟩
  rotate_left
  · exact cx_X11_73 e dX11_setWill_7 (Nat.le_of_ble_eq_true rfl) (by decide)
  refine ca_X11_73 e dX11_setWill_7 (Nat.le_of_ble_eq_true rfl) (by decide) ?_
  refine v_aload_n dX11_setWill_10 rfl 1 rfl ?_
  refine v_iload dX11_setWill_11 0 rfl ?_
  rcases bindX_some h with ⟨v6, M5, e, h⟩ | ⟨e9, e, rfl⟩
  rotate_left
  · exact cx_X11_127 e dX11_setWill_13 (Nat.le_of_ble_eq_true rfl) (by decide)
  refine ca_X11_127 e dX11_setWill_13 (Nat.le_of_ble_eq_true rfl) (by decide) ?_
  refine v_astore (ls' := [(6, .ref v6), (5, .int v2), (0, .ref l0), (1, .int l1), (2, .int l2), (3, .int l3), (4, .int l4)]) dX11_setWill_16 (by decide) rfl ?_
  refine v_iload_n dX11_setWill_18 rfl 4 rfl ?_
  refine v_iconst (v := 0) dX11_setWill_19 ci_0 ?_
  refine v_iconst (v := 2) dX11_setWill_20 ci_2 ?_
  rcases bindX_some h with ⟨u8, M7, e, h⟩ | ⟨e9, e, rfl⟩
  rotate_left
  · exact cx_X11_131 e dX11_setWill_21 (Nat.le_of_ble_eq_true rfl) (by decide)
  refine ca_X11_131 e dX11_setWill_21 (Nat.le_of_ble_eq_true rfl) (by decide) ?_
  refine v_iload dX11_setWill_24 6 rfl ?_
  refine v_iconst (v := 0) dX11_setWill_26 ci_0 ?_
  refine v_sipush (v := 9999) dX11_setWill_27 cs_9999 ?_
  rcases bindX_some h with ⟨u10, M9, e, h⟩ | ⟨e9, e, rfl⟩
  rotate_left
  · exact cx_X11_131 e dX11_setWill_30 (Nat.le_of_ble_eq_true rfl) (by decide)
  refine ca_X11_131 e dX11_setWill_30 (Nat.le_of_ble_eq_true rfl) (by decide) ?_
  refine v_aload_n dX11_setWill_33 rfl 2 rfl ?_
  refine v_iload_n dX11_setWill_34 rfl 3 rfl ?_
  rcases bindX_some h with ⟨u12, M11, e, h⟩ | ⟨e9, e, rfl⟩
  rotate_left
  · exact cx_X11_114 e dX11_setWill_35 (Nat.le_of_ble_eq_true rfl) (by decide)
  refine ca_X11_114 e dX11_setWill_35 (Nat.le_of_ble_eq_true rfl) (by decide) ?_
  refine v_aload_n dX11_setWill_38 rfl 2 rfl ?_
  obtain ⟨v13, e, h⟩ := bind_some h
  refine gt_X11_41 e dX11_setWill_39 ?_
  obtain ⟨v14, e, h⟩ := bind_some h
  refine gt_X11_77 e dX11_setWill_42 ?_
  refine v_iload_n dX11_setWill_45 rfl 3 rfl ?_
  obtain ⟨v15, e, h⟩ := bind_some h
  refine al_0 e dX11_setWill_46 ?_
  refine v_astore (ls' := [(7, .ref v15), (6, .ref v6), (5, .int v2), (0, .ref l0), (1, .int l1), (2, .int l2), (3, .int l3), (4, .int l4)]) dX11_setWill_47 (by decide) rfl ?_
  refine v_aload dX11_setWill_49 0 rfl ?_
  obtain ⟨v16, e, h⟩ := bind_some h
  refine gt_X11_117 e dX11_setWill_51 ?_
  refine v_istore (ls' := [(8, .int v16), (7, .ref v15), (6, .ref v6), (5, .int v2), (0, .ref l0), (1, .int l1), (2, .int l2), (3, .int l3), (4, .int l4)]) dX11_setWill_54 (by decide) rfl ?_
  refine v_aload dX11_setWill_56 1 rfl ?_
  refine v_iconst (v := 1) dX11_setWill_58 ci_1 ?_
  obtain ⟨M17, e, h⟩ := bind_some h
  refine pt_X11_117 e dX11_setWill_59 ?_
  refine v_aload dX11_setWill_62 1 rfl ?_
  refine v_iload_n dX11_setWill_64 rfl 7 rfl ?_
  obtain ⟨M18, e, h⟩ := bind_some h
  refine pt_X11_135 e dX11_setWill_65 ?_
  refine v_aload dX11_setWill_68 1 rfl ?_
  obtain ⟨v19, e, h⟩ := bind_some h
  refine gt_X11_138 e dX11_setWill_70 ?_
  refine v_aload dX11_setWill_73 2 rfl ?_
  refine v_iload_n dX11_setWill_75 rfl 6 rfl ?_
  refine v_iload dX11_setWill_76 8 rfl ?_
  obtain ⟨M20, e, h⟩ := bind_some h
  refine ca_X11_141 e dX11_setWill_78 (Nat.le_of_ble_eq_true rfl) (by decide) ?_
  refine v_iload dX11_setWill_81 0 rfl ?_
  refine v_if_eq (tgt := 90) dX11_setWill_83 (by decide) (fun c21 => ?_) (fun c21 => ?_)
  · replace h := ifP c21 h
    refine v_iconst (v := 0) dX11_setWill_90 ci_0 ?_
    cases h
    exact v_ireturn dX11_setWill_91
  · replace h := ifN c21 h
    refine v_iconst (v := 1) dX11_setWill_86 ci_1 ?_
    refine v_goto (tgt := 91) dX11_setWill_87 (by decide) ?_
    cases h
    exact v_ireturn dX11_setWill_91
theorem kd_X11_setWill {l0 : Nat} {l1 : Int32} {l2 : Int32} {l3 : Int32} {l4 : Int32} {M : Mem} {z : _} (h : f_X11_setWill l0 l1 l2 l3 l4 M = some z) : (mK M l0).1 = 11 := by
  unfold f_X11_setWill at h
  exact (ifS h).1
theorem k_X11_setWill {G : Gl} {l0 : Nat} {l1 : Int32} {l2 : Int32} {l3 : Int32} {l4 : Int32} {M MF : Mem} {r : Int32 ⊕ Nat} (h : f_X11_setWill l0 l1 l2 l3 l4 M = some (r, MF)) : CtrP G yX11_setWill cX11_setWill 9 (some .int) 8 132 [.ref l0, .int l1, .int l2, .int l3, .int l4] M (cxI r) MF :=
  ctr_of (by decide +kernel) (Nat.le_of_ble_eq_true rfl) (fun ρ => w_X11_setWill l0 l1 l2 l3 l4 M h)
set_option maxHeartbeats 4000000 in
set_option maxRecDepth 100000 in
theorem w_X11_sessionState {G : Gl} {ρ0 : Nat → Nat} {M0 MF : Mem} {r : Int32 ⊕ Nat} (l0 : Nat) (l1 : Int32) (M : Mem) (h : f_X11_sessionState l0 l1 M = some (r, MF)) : V G (RX11, cX11_sessionState, (some .int), 7, 109, 3, "sessionState", []) (ρ0, M0, cxI r, MF) 0 [(0, .ref l0), (1, .int l1)] [] M := by
  unfold f_X11_sessionState at h
  replace h := (ifS h).2
  refine v_iload_n dX11_sessionState_0 rfl 1 rfl ?_
  rcases bindX_some h with ⟨u2, M1, e, h⟩ | ⟨e9, e, rfl⟩
  rotate_left
  · exact cx_X11_73 e dX11_sessionState_1 (Nat.le_of_ble_eq_true rfl) (by decide)
  refine ca_X11_73 e dX11_sessionState_1 (Nat.le_of_ble_eq_true rfl) (by decide) ?_
  refine v_aload_n dX11_sessionState_4 rfl 0 rfl ?_
  obtain ⟨v3, e, h⟩ := bind_some h
  refine gt_X11_41 e dX11_sessionState_5 ?_
  obtain ⟨v4, e, h⟩ := bind_some h
  refine gt_X11_77 e dX11_sessionState_8 ?_
  refine v_iload_n dX11_sessionState_11 rfl 1 rfl ?_
  obtain ⟨v5, e, h⟩ := bind_some h
  refine al_0 e dX11_sessionState_12 ?_
  refine v_astore_n (ls' := [(2, .ref v5), (0, .ref l0), (1, .int l1)]) dX11_sessionState_13 rfl (by decide) rfl ?_
  refine v_aload_n dX11_sessionState_14 rfl 0 rfl ?_
  obtain ⟨v6, e, h⟩ := bind_some h
  refine gt_X11_94 e dX11_sessionState_15 ?_
  obtain ⟨v7, e, h⟩ := bind_some h
  refine gt_X11_98 e dX11_sessionState_18 ?_
  refine v_if_ne (tgt := 26) dX11_sessionState_21 (by decide) (fun c13 => ?_) (fun c13 => ?_)
  · replace h := ifN c13 h
    refine v_aload_n dX11_sessionState_26 rfl 0 rfl ?_
    obtain ⟨v8, e, h⟩ := bind_some h
    refine gt_X11_81 e dX11_sessionState_27 ?_
    refine v_if_ne (tgt := 35) dX11_sessionState_30 (by decide) (fun c12 => ?_) (fun c12 => ?_)
    · replace h := ifN c12 h
      refine v_aload_n dX11_sessionState_35 rfl 0 rfl ?_
      obtain ⟨v9, e, h⟩ := bind_some h
      refine gt_X11_94 e dX11_sessionState_36 ?_
      obtain ⟨v10, e, h⟩ := bind_some h
      refine gt_X11_145 e dX11_sessionState_39 ?_
      refine v_if_eq (tgt := 49) dX11_sessionState_42 (by decide) (fun c11 => ?_) (fun c11 => ?_)
      · replace h := ifP c11 h
        refine v_iconst (v := 2) dX11_sessionState_49 ci_2 ?_
        cases h
        exact v_ireturn dX11_sessionState_50
      · replace h := ifN c11 h
        refine v_iconst (v := 3) dX11_sessionState_45 ci_3 ?_
        refine v_goto (tgt := 50) dX11_sessionState_46 (by decide) ?_
        cases h
        exact v_ireturn dX11_sessionState_50
    · replace h := ifP c12 h
      refine v_iconst (v := 1) dX11_sessionState_33 ci_1 ?_
      cases h
      exact v_ireturn dX11_sessionState_34
  · replace h := ifP c13 h
    refine v_iconst (v := 0) dX11_sessionState_24 ci_0 ?_
    cases h
    exact v_ireturn dX11_sessionState_25
theorem kd_X11_sessionState {l0 : Nat} {l1 : Int32} {M : Mem} {z : _} (h : f_X11_sessionState l0 l1 M = some z) : (mK M l0).1 = 11 := by
  unfold f_X11_sessionState at h
  exact (ifS h).1
theorem k_X11_sessionState {G : Gl} {l0 : Nat} {l1 : Int32} {M MF : Mem} {r : Int32 ⊕ Nat} (h : f_X11_sessionState l0 l1 M = some (r, MF)) : CtrP G yX11_sessionState cX11_sessionState 3 (some .int) 7 109 [.ref l0, .int l1] M (cxI r) MF :=
  ctr_of (by decide +kernel) (Nat.le_of_ble_eq_true rfl) (fun ρ => w_X11_sessionState l0 l1 M h)
set_option maxHeartbeats 4000000 in
set_option maxRecDepth 100000 in
theorem w_X11_readFilter {G : Gl} {ρ0 : Nat → Nat} {M0 MF : Mem} {r : Nat ⊕ Nat} (l0 : Nat) (l1 : Int32) (M : Mem) (h : f_X11_readFilter l0 l1 M = some (r, MF)) : V G (RX11, cX11_readFilter, (some (.object "GradedTopicBroker$Text")), 7, 111, 2, "readFilter", []) (ρ0, M0, cxR r, MF) 0 [(0, .ref l0), (1, .int l1)] [] M := by
  unfold f_X11_readFilter at h
  replace h := (ifS h).2
  refine v_aload_n dX11_readFilter_0 rfl 0 rfl ?_
  refine v_iload_n dX11_readFilter_1 rfl 1 rfl ?_
  refine v_iconst (v := 1) dX11_readFilter_2 ci_1 ?_
  rcases bindX_some h with ⟨v2, M1, e, h⟩ | ⟨e9, e, rfl⟩
  rotate_left
  · exact cx_X11_349 e dX11_readFilter_3 (Nat.le_of_ble_eq_true rfl) (by decide)
  refine ca_X11_349 e dX11_readFilter_3 (Nat.le_of_ble_eq_true rfl) (by decide) ?_
  cases h
  exact v_areturn dX11_readFilter_6
theorem kd_X11_readFilter {l0 : Nat} {l1 : Int32} {M : Mem} {z : _} (h : f_X11_readFilter l0 l1 M = some z) : (mK M l0).1 = 11 := by
  unfold f_X11_readFilter at h
  exact (ifS h).1
theorem k_X11_readFilter {G : Gl} {l0 : Nat} {l1 : Int32} {M MF : Mem} {r : Nat ⊕ Nat} (h : f_X11_readFilter l0 l1 M = some (r, MF)) : CtrP G yX11_readFilter cX11_readFilter 2 (some (.object "GradedTopicBroker$Text")) 7 111 [.ref l0, .int l1] M (cxR r) MF :=
  ctr_of (by decide +kernel) (Nat.le_of_ble_eq_true rfl) (fun ρ => w_X11_readFilter l0 l1 M h)
theorem wd_X11_148 : wdV RX11 148 RX11 yX11_readFilter cX11_readFilter 2 (some (.object "GradedTopicBroker$Text")) 1 := ⟨gwi 887 (by decide +kernel) (by decide +kernel), gwi 889 (by decide +kernel) (by decide +kernel), gwi 19 (by decide +kernel) (by decide +kernel), nw_X11, gwi 890 (by decide +kernel) (by decide +kernel), ⟨rfl, by decide +kernel, by decide +kernel, by decide +kernel⟩⟩
theorem ca_X11_148 {G : Gl} {B : Bx} {cc : ByteArray} {ret : Option FieldType} {fr lo nL : Nat} {mn : String} {hh : List (Nat × Nat × Nat × Nat)} {pc : Nat} {ls : List (Nat × Value)} {st : List Value} {M M1 : Mem} {l0 : Nat} {l1 : Int32} {x : Nat} (e : f_X11_readFilter l0 l1 M = some (.inl x, M1)) (hd : decode cc pc = .ok (.invokevirtual 148, 3)) (hcat : (st.map fun v => v.category).sum ≤ 8) (hR : 7 + 1 ≤ fr ∧ 8 + (2 + 11) + 111 ≤ lo) (k : V G (RX11, cc, ret, fr, lo, nL, mn, hh) B (pc + 3) ls (.ref x :: st) M1) : V G (RX11, cc, ret, fr, lo, nL, mn, hh) B pc ls (.int l1 :: .ref l0 :: st) M := v_callVr (As := [.int l1]) (k_X11_readFilter e) wd_X11_148 clX11 (kd_X11_readFilter e) hd rfl rfl hcat hR k
theorem cx_X11_148 {G : Gl} {ρ0 : Nat → Nat} {M0 : Mem} {cc : ByteArray} {ret : Option FieldType} {fr lo nL : Nat} {mn : String} {pc : Nat} {ls : List (Nat × Value)} {st : List Value} {M M1 : Mem} {l0 : Nat} {l1 : Int32} {e9 : Nat} (e : f_X11_readFilter l0 l1 M = some (.inr e9, M1)) (hd : decode cc pc = .ok (.invokevirtual 148, 3)) (hcat : (st.map fun v => v.category).sum ≤ 8) (hR : 7 + 1 ≤ fr ∧ 8 + (2 + 11) + 111 ≤ lo) : V G (RX11, cc, ret, fr, lo, nL, mn, []) (ρ0, M0, Sum.inr e9, M1) pc ls (.int l1 :: .ref l0 :: st) M := v_callVx (As := [.int l1]) (k_X11_readFilter e) wd_X11_148 clX11 (kd_X11_readFilter e) hd rfl rfl hcat hR
set_option maxHeartbeats 4000000 in
set_option maxRecDepth 100000 in
theorem w_X11_subscribe_J233 {G : Gl} {ρ0 : Nat → Nat} {M0 MF : Mem} {r : Int32 ⊕ Nat} (l7 : Nat) (M : Mem) (h : f_X11_subscribe_J233 l7 M = some (r, MF)) : V G (RX11, cX11_subscribe, (some .int), 8, 132, 11, "subscribe", []) (ρ0, M0, cxI r, MF) 233 [(7, .ref l7)] [] M := by
  unfold f_X11_subscribe_J233 at h
  refine v_aload dX11_subscribe_233 0 rfl ?_
  obtain ⟨v1, e, h⟩ := bind_some h
  refine gt_X11_155 e dX11_subscribe_235 ?_
  cases h
  exact v_ireturn dX11_subscribe_238
set_option maxHeartbeats 4000000 in
set_option maxRecDepth 100000 in
theorem w_X11_subscribe_J211 {G : Gl} {ρ0 : Nat → Nat} {M0 MF : Mem} {r : Int32 ⊕ Nat} (l0 : Nat) (l1 : Int32) (l2 : Int32) (l3 : Int32) (l6 : Nat) (l7 : Nat) (s0 : Int32) (M : Mem) (h : f_X11_subscribe_J211 l0 l1 l2 l3 l6 l7 s0 M = some (r, MF)) : V G (RX11, cX11_subscribe, (some .int), 8, 132, 11, "subscribe", []) (ρ0, M0, cxI r, MF) 211 [(0, .ref l0), (1, .int l1), (2, .int l2), (3, .int l3), (6, .ref l6), (7, .ref l7)] [.int s0] M := by
  unfold f_X11_subscribe_J211 at h
  refine v_istore (ls' := [(10, .int s0), (0, .ref l0), (1, .int l1), (2, .int l2), (3, .int l3), (6, .ref l6), (7, .ref l7)]) dX11_subscribe_211 (by decide) rfl ?_
  refine v_iload_n dX11_subscribe_213 rfl 4 rfl ?_
  refine v_if_ne (tgt := 233) dX11_subscribe_214 (by decide) (fun c4 => ?_) (fun c4 => ?_)
  · replace h := ifN c4 h
    refine v_sub [6] rfl ?_
    exact w_X11_subscribe_J233 l7 M h
  · replace h := ifP c4 h
    refine v_iload dX11_subscribe_217 0 rfl ?_
    refine v_if_eq (tgt := 233) dX11_subscribe_219 (by decide) (fun c3 => ?_) (fun c3 => ?_)
    · replace h := ifP c3 h
      refine v_sub [6] rfl ?_
      exact w_X11_subscribe_J233 l7 M h
    · replace h := ifN c3 h
      refine v_aload_n dX11_subscribe_222 rfl 1 rfl ?_
      obtain ⟨v1, e, h⟩ := bind_some h
      refine gt_X11_41 e dX11_subscribe_223 ?_
      refine v_iload_n dX11_subscribe_226 rfl 2 rfl ?_
      refine v_aload dX11_subscribe_227 5 rfl ?_
      refine v_iload_n dX11_subscribe_229 rfl 3 rfl ?_
      obtain ⟨M2, e, h⟩ := bind_some h
      refine ca_X11_173 e dX11_subscribe_230 (Nat.le_of_ble_eq_true rfl) (by decide) ?_
      refine v_sub [6] rfl ?_
      exact w_X11_subscribe_J233 l7 M2 h
theorem w_X11_subscribe_J210 {G : Gl} {ρ0 : Nat → Nat} {M0 MF : Mem} {r : Int32 ⊕ Nat} (l0 : Nat) (l1 : Int32) (l2 : Int32) (l3 : Int32) (l6 : Nat) (l7 : Nat) (M : Mem) (h : f_X11_subscribe_J210 l0 l1 l2 l3 l6 l7 M = some (r, MF)) : V G (RX11, cX11_subscribe, (some .int), 8, 132, 11, "subscribe", []) (ρ0, M0, cxI r, MF) 210 [(0, .ref l0), (1, .int l1), (2, .int l2), (3, .int l3), (6, .ref l6), (7, .ref l7)] [] M := by
  unfold f_X11_subscribe_J210 at h
  refine v_iconst (v := 0) dX11_subscribe_210 ci_0 ?_
  exact w_X11_subscribe_J211 l0 l1 l2 l3 l6 l7 (0 : Int32) M h
set_option maxHeartbeats 4000000 in
set_option maxRecDepth 100000 in
theorem w_X11_subscribe_J206 {G : Gl} {ρ0 : Nat → Nat} {M0 MF : Mem} {r : Int32 ⊕ Nat} (l0 : Nat) (l1 : Int32) (l2 : Int32) (l3 : Int32) (l6 : Nat) (l7 : Nat) (M : Mem) (h : f_X11_subscribe_J206 l0 l1 l2 l3 l6 l7 M = some (r, MF)) : V G (RX11, cX11_subscribe, (some .int), 8, 132, 11, "subscribe", []) (ρ0, M0, cxI r, MF) 206 [(0, .ref l0), (1, .int l1), (2, .int l2), (3, .int l3), (6, .ref l6), (7, .ref l7)] [] M := by
  unfold f_X11_subscribe_J206 at h
  refine v_iconst (v := 1) dX11_subscribe_206 ci_1 ?_
  refine v_goto (tgt := 211) dX11_subscribe_207 (by decide) ?_
  exact w_X11_subscribe_J211 l0 l1 l2 l3 l6 l7 (1 : Int32) M h
set_option maxHeartbeats 4000000 in
set_option maxRecDepth 100000 in
theorem w_X11_subscribe_J187 {G : Gl} {ρ0 : Nat → Nat} {M0 MF : Mem} {r : Int32 ⊕ Nat} (l0 : Nat) (l1 : Int32) (l2 : Int32) (l3 : Int32) (l4 : Int32) (l6 : Nat) (l7 : Nat) (l9 : Int32) (M : Mem) (h : f_X11_subscribe_J187 l0 l1 l2 l3 l4 l6 l7 l9 M = some (r, MF)) : V G (RX11, cX11_subscribe, (some .int), 8, 132, 11, "subscribe", []) (ρ0, M0, cxI r, MF) 187 [(0, .ref l0), (1, .int l1), (2, .int l2), (3, .int l3), (4, .int l4), (6, .ref l6), (7, .ref l7), (9, .int l9)] [] M := by
  unfold f_X11_subscribe_J187 at h
  refine v_iload dX11_subscribe_187 4 rfl ?_
  refine v_iconst (v := 2) dX11_subscribe_189 ci_2 ?_
  refine v_iand dX11_subscribe_190 ?_
  refine v_if_ne (tgt := 210) dX11_subscribe_191 (by decide) (fun c3 => ?_) (fun c3 => ?_)
  · replace h := ifN c3 h
    refine v_sub [0, 1, 2, 3, 5, 6] rfl ?_
    exact w_X11_subscribe_J210 l0 l1 l2 l3 l6 l7 M h
  · replace h := ifP c3 h
    refine v_iload dX11_subscribe_194 7 rfl ?_
    refine v_if_ne (tgt := 206) dX11_subscribe_196 (by decide) (fun c2 => ?_) (fun c2 => ?_)
    · replace h := ifN c2 h
      refine v_sub [0, 1, 2, 3, 5, 6] rfl ?_
      exact w_X11_subscribe_J206 l0 l1 l2 l3 l6 l7 M h
    · replace h := ifP c2 h
      refine v_iload dX11_subscribe_199 4 rfl ?_
      refine v_iconst (v := 4) dX11_subscribe_201 ci_4 ?_
      refine v_iand dX11_subscribe_202 ?_
      refine v_if_ne (tgt := 210) dX11_subscribe_203 (by decide) (fun c1 => ?_) (fun c1 => ?_)
      · replace h := ifN c1 h
        refine v_sub [0, 1, 2, 3, 5, 6] rfl ?_
        exact w_X11_subscribe_J210 l0 l1 l2 l3 l6 l7 M h
      · replace h := ifP c1 h
        refine v_sub [0, 1, 2, 3, 5, 6] rfl ?_
        exact w_X11_subscribe_J206 l0 l1 l2 l3 l6 l7 M h
set_option maxHeartbeats 4000000 in
set_option maxRecDepth 100000 in
theorem w_X11_subscribe_J146 {G : Gl} {ρ0 : Nat → Nat} {M0 MF : Mem} {r : Int32 ⊕ Nat} (l0 : Nat) (l1 : Int32) (l2 : Int32) (l3 : Int32) (l4 : Int32) (l6 : Nat) (l7 : Nat) (l8 : Int32) (l9 : Int32) (M : Mem) (h : f_X11_subscribe_J146 l0 l1 l2 l3 l4 l6 l7 l8 l9 M = some (r, MF)) : V G (RX11, cX11_subscribe, (some .int), 8, 132, 11, "subscribe", []) (ρ0, M0, cxI r, MF) 146 [(0, .ref l0), (1, .int l1), (2, .int l2), (3, .int l3), (4, .int l4), (6, .ref l6), (7, .ref l7), (8, .int l8), (9, .int l9)] [] M := by
  unfold f_X11_subscribe_J146 at h
  refine v_iload dX11_subscribe_146 7 rfl ?_
  refine v_if_lt (tgt := 187) dX11_subscribe_148 (by decide) (fun c10 => ?_) (fun c10 => ?_)
  · replace h := ifP c10 h
    refine v_sub [0, 1, 2, 3, 4, 5, 6, 8] rfl ?_
    exact w_X11_subscribe_J187 l0 l1 l2 l3 l4 l6 l7 l9 M h
  · replace h := ifN c10 h
    refine v_iload dX11_subscribe_151 7 rfl ?_
    refine v_aload dX11_subscribe_153 6 rfl ?_
    obtain ⟨v1, e, h⟩ := bind_some h
    refine gt_X11_162 e dX11_subscribe_155 ?_
    obtain ⟨v2, e, h⟩ := bind_some h
    refine v_alen dX11_subscribe_158 e ?_
    refine v_icmp_ge (tgt := 187) dX11_subscribe_159 (by decide) (fun c9 => ?_) (fun c9 => ?_)
    · replace h := ifP c9 h
      refine v_sub [0, 1, 2, 3, 4, 5, 6, 8] rfl ?_
      exact w_X11_subscribe_J187 l0 l1 l2 l3 l4 l6 l7 l9 M h
    · replace h := ifN c9 h
      refine v_aload dX11_subscribe_162 6 rfl ?_
      obtain ⟨v3, e, h⟩ := bind_some h
      refine gt_X11_162 e dX11_subscribe_164 ?_
      refine v_iload dX11_subscribe_167 7 rfl ?_
      obtain ⟨v4, e, h⟩ := bind_some h
      refine al_8 e dX11_subscribe_169 ?_
      refine v_iload_n dX11_subscribe_170 rfl 2 rfl ?_
      obtain ⟨M5, e, h⟩ := bind_some h
      refine pt_X11_166 e dX11_subscribe_171 ?_
      refine v_aload dX11_subscribe_174 6 rfl ?_
      obtain ⟨v6, e, h⟩ := bind_some h
      refine gt_X11_162 e dX11_subscribe_176 ?_
      refine v_iload dX11_subscribe_179 7 rfl ?_
      obtain ⟨v7, e, h⟩ := bind_some h
      refine al_8 e dX11_subscribe_181 ?_
      refine v_iload dX11_subscribe_182 4 rfl ?_
      obtain ⟨M8, e, h⟩ := bind_some h
      refine pt_X11_171 e dX11_subscribe_184 ?_
      refine v_sub [0, 1, 2, 3, 4, 5, 6, 8] rfl ?_
      exact w_X11_subscribe_J187 l0 l1 l2 l3 l4 l6 l7 l9 M8 h
set_option maxHeartbeats 4000000 in
set_option maxRecDepth 100000 in
theorem w_X11_subscribe_J121 {G : Gl} {ρ0 : Nat → Nat} {M0 MF : Mem} {r : Int32 ⊕ Nat} (l0 : Nat) (l1 : Int32) (l2 : Int32) (l3 : Int32) (l4 : Int32) (l6 : Nat) (l7 : Nat) (l8 : Int32) (l9 : Int32) (M : Mem) (h : f_X11_subscribe_J121 l0 l1 l2 l3 l4 l6 l7 l8 l9 M = some (r, MF)) : V G (RX11, cX11_subscribe, (some .int), 8, 132, 11, "subscribe", []) (ρ0, M0, cxI r, MF) 121 [(0, .ref l0), (1, .int l1), (2, .int l2), (3, .int l3), (4, .int l4), (6, .ref l6), (7, .ref l7), (8, .int l8), (9, .int l9)] [] M := by
  unfold f_X11_subscribe_J121 at h
  refine v_iload dX11_subscribe_121 8 rfl ?_
  refine v_if_eq (tgt := 146) dX11_subscribe_123 (by decide) (fun c4 => ?_) (fun c4 => ?_)
  · replace h := ifP c4 h
    exact w_X11_subscribe_J146 l0 l1 l2 l3 l4 l6 l7 l8 l9 M h
  · replace h := ifN c4 h
    refine v_aload_n dX11_subscribe_126 rfl 0 rfl ?_
    obtain ⟨v1, e, h⟩ := bind_some h
    refine gt_X11_41 e dX11_subscribe_127 ?_
    refine v_iload_n dX11_subscribe_130 rfl 1 rfl ?_
    refine v_aload dX11_subscribe_131 5 rfl ?_
    refine v_iload_n dX11_subscribe_133 rfl 3 rfl ?_
    obtain ⟨M2, e, h⟩ := bind_some h
    refine ca_X11_158 e dX11_subscribe_134 (Nat.le_of_ble_eq_true rfl) (by decide) ?_
    refine v_aload dX11_subscribe_137 6 rfl ?_
    obtain ⟨v3, e, h⟩ := bind_some h
    refine gt_X11_155 e dX11_subscribe_139 ?_
    refine v_iconst (v := 1) dX11_subscribe_142 ci_1 ?_
    refine v_isub dX11_subscribe_143 ?_
    refine v_istore (ls' := [(8, .int (v3 - (1 : Int32))), (0, .ref l0), (1, .int l1), (2, .int l2), (3, .int l3), (4, .int l4), (6, .ref l6), (7, .ref l7), (9, .int l9)]) dX11_subscribe_144 (by decide) rfl ?_
    refine v_sub [1, 2, 3, 4, 5, 6, 7, 0, 8] rfl ?_
    exact w_X11_subscribe_J146 l0 l1 l2 l3 l4 l6 l7 (v3 - (1 : Int32)) l9 M2 h
set_option maxHeartbeats 4000000 in
set_option maxRecDepth 100000 in
theorem w_X11_subscribe_J96 {G : Gl} {ρ0 : Nat → Nat} {M0 MF : Mem} {r : Int32 ⊕ Nat} (l0 : Nat) (l1 : Int32) (l2 : Int32) (l3 : Int32) (l4 : Int32) (l6 : Nat) (l7 : Nat) (l8 : Int32) (s0 : Int32) (M : Mem) (h : f_X11_subscribe_J96 l0 l1 l2 l3 l4 l6 l7 l8 s0 M = some (r, MF)) : V G (RX11, cX11_subscribe, (some .int), 8, 132, 11, "subscribe", []) (ρ0, M0, cxI r, MF) 96 [(0, .ref l0), (1, .int l1), (2, .int l2), (3, .int l3), (4, .int l4), (6, .ref l6), (7, .ref l7), (8, .int l8)] [.int s0] M := by
  unfold f_X11_subscribe_J96 at h
  refine v_istore (ls' := [(9, .int s0), (0, .ref l0), (1, .int l1), (2, .int l2), (3, .int l3), (4, .int l4), (6, .ref l6), (7, .ref l7), (8, .int l8)]) dX11_subscribe_96 (by decide) rfl ?_
  refine v_iload dX11_subscribe_98 0 rfl ?_
  refine v_if_eq (tgt := 121) dX11_subscribe_100 (by decide) (fun c3 => ?_) (fun c3 => ?_)
  · replace h := ifP c3 h
    refine v_sub [1, 2, 3, 4, 5, 6, 7, 8, 0] rfl ?_
    exact w_X11_subscribe_J121 l0 l1 l2 l3 l4 l6 l7 l8 s0 M h
  · replace h := ifN c3 h
    refine v_aload dX11_subscribe_103 7 rfl ?_
    obtain ⟨v1, e, h⟩ := bind_some h
    refine gt_X11_155 e dX11_subscribe_105 ?_
    refine v_bipush (v := 6) dX11_subscribe_108 cb_6 ?_
    refine v_icmp_lt (tgt := 121) dX11_subscribe_110 (by decide) (fun c2 => ?_) (fun c2 => ?_)
    · replace h := ifP c2 h
      refine v_sub [1, 2, 3, 4, 5, 6, 7, 8, 0] rfl ?_
      exact w_X11_subscribe_J121 l0 l1 l2 l3 l4 l6 l7 l8 s0 M h
    · replace h := ifN c2 h
      cases h
      exact th_2 dX11_subscribe_113 dX11_subscribe_116 dX11_subscribe_117 dX11_subscribe_120 (by decide) (Nat.le_of_ble_eq_true rfl)
set_option maxHeartbeats 4000000 in
set_option maxRecDepth 100000 in
theorem w_X11_subscribe_J57 {G : Gl} {ρ0 : Nat → Nat} {M0 MF : Mem} {r : Int32 ⊕ Nat} (l0 : Nat) (l1 : Int32) (l2 : Int32) (l3 : Int32) (l4 : Int32) (l6 : Nat) (M : Mem) (h : f_X11_subscribe_J57 l0 l1 l2 l3 l4 l6 M = some (r, MF)) : V G (RX11, cX11_subscribe, (some .int), 8, 132, 11, "subscribe", []) (ρ0, M0, cxI r, MF) 57 [(0, .ref l0), (1, .int l1), (2, .int l2), (3, .int l3), (4, .int l4), (6, .ref l6)] [] M := by
  unfold f_X11_subscribe_J57 at h
  refine v_aload_n dX11_subscribe_57 rfl 0 rfl ?_
  refine v_iload_n dX11_subscribe_58 rfl 1 rfl ?_
  rcases bindX_some h with ⟨u2, M1, e, h⟩ | ⟨e9, e, rfl⟩
  rotate_left
  · exact cx_X11_114 e dX11_subscribe_59 (Nat.le_of_ble_eq_true rfl) (by decide)
  refine ca_X11_114 e dX11_subscribe_59 (Nat.le_of_ble_eq_true rfl) (by decide) ?_
  refine v_aload_n dX11_subscribe_62 rfl 0 rfl ?_
  obtain ⟨v3, e, h⟩ := bind_some h
  refine gt_X11_41 e dX11_subscribe_63 ?_
  obtain ⟨v4, e, h⟩ := bind_some h
  refine gt_X11_77 e dX11_subscribe_66 ?_
  refine v_iload_n dX11_subscribe_69 rfl 1 rfl ?_
  obtain ⟨v5, e, h⟩ := bind_some h
  refine al_0 e dX11_subscribe_70 ?_
  obtain ⟨v6, e, h⟩ := bind_some h
  refine gt_X11_94 e dX11_subscribe_71 ?_
  refine v_astore (ls' := [(7, .ref v6), (0, .ref l0), (1, .int l1), (2, .int l2), (3, .int l3), (4, .int l4), (6, .ref l6)]) dX11_subscribe_74 (by decide) rfl ?_
  refine v_aload dX11_subscribe_76 0 rfl ?_
  refine v_aload dX11_subscribe_78 6 rfl ?_
  refine v_iload_n dX11_subscribe_80 rfl 4 rfl ?_
  obtain ⟨v8, M7, e, h⟩ := bindP_some h
  refine ca_X11_151 e dX11_subscribe_81 (Nat.le_of_ble_eq_true rfl) (by decide) ?_
  refine v_istore (ls' := [(8, .int v8), (7, .ref v6), (0, .ref l0), (1, .int l1), (2, .int l2), (3, .int l3), (4, .int l4), (6, .ref l6)]) dX11_subscribe_84 (by decide) rfl ?_
  refine v_iload dX11_subscribe_86 0 rfl ?_
  refine v_if_ge (tgt := 95) dX11_subscribe_88 (by decide) (fun c9 => ?_) (fun c9 => ?_)
  · replace h := ifP c9 h
    refine v_iconst (v := 0) dX11_subscribe_95 ci_0 ?_
    refine v_sub [2, 3, 4, 5, 6, 7, 1, 0] rfl ?_
    exact w_X11_subscribe_J96 l0 l1 l2 l3 l4 l6 v6 v8 (0 : Int32) M7 h
  · replace h := ifN c9 h
    refine v_iconst (v := 1) dX11_subscribe_91 ci_1 ?_
    refine v_goto (tgt := 96) dX11_subscribe_92 (by decide) ?_
    refine v_sub [2, 3, 4, 5, 6, 7, 1, 0] rfl ?_
    exact w_X11_subscribe_J96 l0 l1 l2 l3 l4 l6 v6 v8 (1 : Int32) M7 h
set_option maxHeartbeats 4000000 in
set_option maxRecDepth 100000 in
theorem w_X11_subscribe {G : Gl} {ρ0 : Nat → Nat} {M0 MF : Mem} {r : Int32 ⊕ Nat} (l0 : Nat) (l1 : Int32) (l2 : Int32) (l3 : Int32) (l4 : Int32) (M : Mem) (h : f_X11_subscribe l0 l1 l2 l3 l4 M = some (r, MF)) : V G (RX11, cX11_subscribe, (some .int), 8, 132, 11, "subscribe", []) (ρ0, M0, cxI r, MF) 0 [(0, .ref l0), (1, .int l1), (2, .int l2), (3, .int l3), (4, .int l4)] [] M := by
  unfold f_X11_subscribe at h
  replace h := (ifS h).2
  refine v_aload_n dX11_subscribe_0 rfl 0 rfl ?_
  obtain ⟨v2, M1, e, h⟩ := bindP_some h
  refine ca_X11_123 e dX11_subscribe_1 (Nat.le_of_ble_eq_true rfl) (by decide) ?_
  refine v_istore (ls' := [(5, .int v2), (0, .ref l0), (1, .int l1), (2, .int l2), (3, .int l3), (4, .int l4)]) dX11_subscribe_4 (by decide) rfl ?_
  refine v_iload_n dX11_subscribe_6 rfl 2 rfl ?_
  rcases bindX_some h with ⟨u4, M3, e, h⟩ | ⟨e9, e, rfl⟩
  rotate_left
  · exact cx_X11_73 e dX11_subscribe_7 (Nat.le_of_ble_eq_true rfl) (by decide)
  refine ca_X11_73 e dX11_subscribe_7 (Nat.le_of_ble_eq_true rfl) (by decide) ?_
  refine v_aload_n dX11_subscribe_10 rfl 1 rfl ?_
  refine v_iload dX11_subscribe_11 0 rfl ?_
  rcases bindX_some h with ⟨v6, M5, e, h⟩ | ⟨e9, e, rfl⟩
  rotate_left
  · exact cx_X11_148 e dX11_subscribe_13 (Nat.le_of_ble_eq_true rfl) (by decide)
  refine ca_X11_148 e dX11_subscribe_13 (Nat.le_of_ble_eq_true rfl) (by decide) ?_
  refine v_astore (ls' := [(6, .ref v6), (5, .int v2), (0, .ref l0), (1, .int l1), (2, .int l2), (3, .int l3), (4, .int l4)]) dX11_subscribe_16 (by decide) rfl ?_
  refine v_iload_n dX11_subscribe_18 rfl 4 rfl ?_
  refine v_iconst (v := 0) dX11_subscribe_19 ci_0 ?_
  refine v_iconst (v := 2) dX11_subscribe_20 ci_2 ?_
  rcases bindX_some h with ⟨u8, M7, e, h⟩ | ⟨e9, e, rfl⟩
  rotate_left
  · exact cx_X11_131 e dX11_subscribe_21 (Nat.le_of_ble_eq_true rfl) (by decide)
  refine ca_X11_131 e dX11_subscribe_21 (Nat.le_of_ble_eq_true rfl) (by decide) ?_
  refine v_iload_n dX11_subscribe_24 rfl 5 rfl ?_
  refine v_iconst (v := 0) dX11_subscribe_25 ci_0 ?_
  refine v_iconst (v := 3) dX11_subscribe_26 ci_3 ?_
  rcases bindX_some h with ⟨u10, M9, e, h⟩ | ⟨e9, e, rfl⟩
  rotate_left
  · exact cx_X11_131 e dX11_subscribe_27 (Nat.le_of_ble_eq_true rfl) (by decide)
  refine ca_X11_131 e dX11_subscribe_27 (Nat.le_of_ble_eq_true rfl) (by decide) ?_
  refine v_iload dX11_subscribe_30 6 rfl ?_
  refine v_iconst (v := 0) dX11_subscribe_32 ci_0 ?_
  refine v_bipush (v := 7) dX11_subscribe_33 cb_7 ?_
  rcases bindX_some h with ⟨u12, M11, e, h⟩ | ⟨e9, e, rfl⟩
  rotate_left
  · exact cx_X11_131 e dX11_subscribe_35 (Nat.le_of_ble_eq_true rfl) (by decide)
  refine ca_X11_131 e dX11_subscribe_35 (Nat.le_of_ble_eq_true rfl) (by decide) ?_
  refine v_iload_n dX11_subscribe_38 rfl 5 rfl ?_
  refine v_if_eq (tgt := 57) dX11_subscribe_39 (by decide) (fun c14 => ?_) (fun c14 => ?_)
  · replace h := ifP c14 h
    refine v_sub [2, 3, 4, 5, 6, 0] rfl ?_
    exact w_X11_subscribe_J57 l0 l1 l2 l3 l4 v6 M11 h
  · replace h := ifN c14 h
    refine v_iload dX11_subscribe_42 6 rfl ?_
    refine v_iconst (v := 1) dX11_subscribe_44 ci_1 ?_
    refine v_iand dX11_subscribe_45 ?_
    refine v_if_eq (tgt := 57) dX11_subscribe_46 (by decide) (fun c13 => ?_) (fun c13 => ?_)
    · replace h := ifP c13 h
      refine v_sub [2, 3, 4, 5, 6, 0] rfl ?_
      exact w_X11_subscribe_J57 l0 l1 l2 l3 l4 v6 M11 h
    · replace h := ifN c13 h
      cases h
      exact th_1 dX11_subscribe_49 dX11_subscribe_52 dX11_subscribe_53 dX11_subscribe_56 (by decide) (Nat.le_of_ble_eq_true rfl)
theorem kd_X11_subscribe {l0 : Nat} {l1 : Int32} {l2 : Int32} {l3 : Int32} {l4 : Int32} {M : Mem} {z : _} (h : f_X11_subscribe l0 l1 l2 l3 l4 M = some z) : (mK M l0).1 = 11 := by
  unfold f_X11_subscribe at h
  exact (ifS h).1
theorem k_X11_subscribe {G : Gl} {l0 : Nat} {l1 : Int32} {l2 : Int32} {l3 : Int32} {l4 : Int32} {M MF : Mem} {r : Int32 ⊕ Nat} (h : f_X11_subscribe l0 l1 l2 l3 l4 M = some (r, MF)) : CtrP G yX11_subscribe cX11_subscribe 11 (some .int) 8 132 [.ref l0, .int l1, .int l2, .int l3, .int l4] M (cxI r) MF :=
  ctr_of (by decide +kernel) (Nat.le_of_ble_eq_true rfl) (fun ρ => w_X11_subscribe l0 l1 l2 l3 l4 M h)
set_option maxHeartbeats 4000000 in
set_option maxRecDepth 100000 in
theorem w_X11_unsubscribe {G : Gl} {ρ0 : Nat → Nat} {M0 MF : Mem} {r : Int32 ⊕ Nat} (l0 : Nat) (l1 : Int32) (l2 : Int32) (M : Mem) (h : f_X11_unsubscribe l0 l1 l2 M = some (r, MF)) : V G (RX11, cX11_unsubscribe, (some .int), 8, 132, 5, "unsubscribe", []) (ρ0, M0, cxI r, MF) 0 [(0, .ref l0), (1, .int l1), (2, .int l2)] [] M := by
  unfold f_X11_unsubscribe at h
  replace h := (ifS h).2
  refine v_aload_n dX11_unsubscribe_0 rfl 0 rfl ?_
  obtain ⟨v2, M1, e, h⟩ := bindP_some h
  refine ca_X11_123 e dX11_unsubscribe_1 (Nat.le_of_ble_eq_true rfl) (by decide) ?_
  refine v_istore_n (ls' := [(3, .int v2), (0, .ref l0), (1, .int l1), (2, .int l2)]) dX11_unsubscribe_4 rfl (by decide) rfl ?_
  refine v_iload_n dX11_unsubscribe_5 rfl 2 rfl ?_
  rcases bindX_some h with ⟨u4, M3, e, h⟩ | ⟨e9, e, rfl⟩
  rotate_left
  · exact cx_X11_73 e dX11_unsubscribe_6 (Nat.le_of_ble_eq_true rfl) (by decide)
  refine ca_X11_73 e dX11_unsubscribe_6 (Nat.le_of_ble_eq_true rfl) (by decide) ?_
  refine v_aload_n dX11_unsubscribe_9 rfl 1 rfl ?_
  refine v_iload_n dX11_unsubscribe_10 rfl 0 rfl ?_
  rcases bindX_some h with ⟨v6, M5, e, h⟩ | ⟨e9, e, rfl⟩
  rotate_left
  · exact cx_X11_148 e dX11_unsubscribe_11 (Nat.le_of_ble_eq_true rfl) (by decide)
  refine ca_X11_148 e dX11_unsubscribe_11 (Nat.le_of_ble_eq_true rfl) (by decide) ?_
  refine v_astore (ls' := [(4, .ref v6), (3, .int v2), (0, .ref l0), (1, .int l1), (2, .int l2)]) dX11_unsubscribe_14 (by decide) rfl ?_
  refine v_iload_n dX11_unsubscribe_16 rfl 4 rfl ?_
  refine v_iconst (v := 0) dX11_unsubscribe_17 ci_0 ?_
  refine v_iconst (v := 3) dX11_unsubscribe_18 ci_3 ?_
  rcases bindX_some h with ⟨u8, M7, e, h⟩ | ⟨e9, e, rfl⟩
  rotate_left
  · exact cx_X11_131 e dX11_unsubscribe_19 (Nat.le_of_ble_eq_true rfl) (by decide)
  refine ca_X11_131 e dX11_unsubscribe_19 (Nat.le_of_ble_eq_true rfl) (by decide) ?_
  refine v_aload_n dX11_unsubscribe_22 rfl 2 rfl ?_
  refine v_iload_n dX11_unsubscribe_23 rfl 3 rfl ?_
  rcases bindX_some h with ⟨u10, M9, e, h⟩ | ⟨e9, e, rfl⟩
  rotate_left
  · exact cx_X11_114 e dX11_unsubscribe_24 (Nat.le_of_ble_eq_true rfl) (by decide)
  refine ca_X11_114 e dX11_unsubscribe_24 (Nat.le_of_ble_eq_true rfl) (by decide) ?_
  refine v_aload_n dX11_unsubscribe_27 rfl 2 rfl ?_
  obtain ⟨v11, e, h⟩ := bind_some h
  refine gt_X11_41 e dX11_unsubscribe_28 ?_
  refine v_iload_n dX11_unsubscribe_31 rfl 3 rfl ?_
  refine v_aload dX11_unsubscribe_32 0 rfl ?_
  refine v_iload_n dX11_unsubscribe_34 rfl 4 rfl ?_
  obtain ⟨v13, M12, e, h⟩ := bindP_some h
  refine ca_X11_176 e dX11_unsubscribe_35 (Nat.le_of_ble_eq_true rfl) (by decide) ?_
  refine v_if_eq (tgt := 45) dX11_unsubscribe_38 (by decide) (fun c14 => ?_) (fun c14 => ?_)
  · replace h := ifP c14 h
    refine v_iconst (v := 0) dX11_unsubscribe_45 ci_0 ?_
    cases h
    exact v_ireturn dX11_unsubscribe_46
  · replace h := ifN c14 h
    refine v_iconst (v := 1) dX11_unsubscribe_41 ci_1 ?_
    refine v_goto (tgt := 46) dX11_unsubscribe_42 (by decide) ?_
    cases h
    exact v_ireturn dX11_unsubscribe_46
theorem kd_X11_unsubscribe {l0 : Nat} {l1 : Int32} {l2 : Int32} {M : Mem} {z : _} (h : f_X11_unsubscribe l0 l1 l2 M = some z) : (mK M l0).1 = 11 := by
  unfold f_X11_unsubscribe at h
  exact (ifS h).1
theorem k_X11_unsubscribe {G : Gl} {l0 : Nat} {l1 : Int32} {l2 : Int32} {M MF : Mem} {r : Int32 ⊕ Nat} (h : f_X11_unsubscribe l0 l1 l2 M = some (r, MF)) : CtrP G yX11_unsubscribe cX11_unsubscribe 5 (some .int) 8 132 [.ref l0, .int l1, .int l2] M (cxI r) MF :=
  ctr_of (by decide +kernel) (Nat.le_of_ble_eq_true rfl) (fun ρ => w_X11_unsubscribe l0 l1 l2 M h)
theorem w_X11_requireSubscription_J34 {G : Gl} {ρ0 : Nat → Nat} {M0 MF : Mem} {r : Unit ⊕ Nat} (M : Mem) (h : f_X11_requireSubscription_J34 M = some (r, MF)) : V G (RX11, cX11_requireSubscription, none, 6, 89, 4, "requireSubscription", []) (ρ0, M0, cxV r, MF) 34 [] [] M := by
  unfold f_X11_requireSubscription_J34 at h
  cases h
  exact th_3 dX11_requireSubscription_34 dX11_requireSubscription_37 dX11_requireSubscription_38 dX11_requireSubscription_41 (by decide) (Nat.le_of_ble_eq_true rfl)
set_option maxHeartbeats 4000000 in
set_option maxRecDepth 100000 in
theorem w_X11_requireSubscription {G : Gl} {ρ0 : Nat → Nat} {M0 MF : Mem} {r : Unit ⊕ Nat} (l0 : Nat) (l1 : Int32) (l2 : Int32) (M : Mem) (h : f_X11_requireSubscription l0 l1 l2 M = some (r, MF)) : V G (RX11, cX11_requireSubscription, none, 6, 89, 4, "requireSubscription", []) (ρ0, M0, cxV r, MF) 0 [(0, .ref l0), (1, .int l1), (2, .int l2)] [] M := by
  unfold f_X11_requireSubscription at h
  replace h := (ifS h).2
  refine v_aload_n dX11_requireSubscription_0 rfl 0 rfl ?_
  obtain ⟨v1, e, h⟩ := bind_some h
  refine gt_X11_41 e dX11_requireSubscription_1 ?_
  obtain ⟨v2, e, h⟩ := bind_some h
  refine gt_X11_77 e dX11_requireSubscription_4 ?_
  refine v_iload_n dX11_requireSubscription_7 rfl 1 rfl ?_
  obtain ⟨v3, e, h⟩ := bind_some h
  refine al_0 e dX11_requireSubscription_8 ?_
  obtain ⟨v4, e, h⟩ := bind_some h
  refine gt_X11_94 e dX11_requireSubscription_9 ?_
  refine v_astore_n (ls' := [(3, .ref v4), (0, .ref l0), (1, .int l1), (2, .int l2)]) dX11_requireSubscription_12 rfl (by decide) rfl ?_
  refine v_iload_n dX11_requireSubscription_13 rfl 3 rfl ?_
  refine v_if_lt (tgt := 34) dX11_requireSubscription_14 (by decide) (fun c10 => ?_) (fun c10 => ?_)
  · replace h := ifP c10 h
    refine v_sub [] rfl ?_
    exact w_X11_requireSubscription_J34 M h
  · replace h := ifN c10 h
    refine v_iload_n dX11_requireSubscription_17 rfl 3 rfl ?_
    refine v_aload_n dX11_requireSubscription_18 rfl 0 rfl ?_
    obtain ⟨v5, e, h⟩ := bind_some h
    refine gt_X11_155 e dX11_requireSubscription_19 ?_
    refine v_icmp_ge (tgt := 34) dX11_requireSubscription_22 (by decide) (fun c9 => ?_) (fun c9 => ?_)
    · replace h := ifP c9 h
      refine v_sub [] rfl ?_
      exact w_X11_requireSubscription_J34 M h
    · replace h := ifN c9 h
      refine v_iload_n dX11_requireSubscription_25 rfl 3 rfl ?_
      refine v_aload_n dX11_requireSubscription_26 rfl 0 rfl ?_
      obtain ⟨v6, e, h⟩ := bind_some h
      refine gt_X11_162 e dX11_requireSubscription_27 ?_
      obtain ⟨v7, e, h⟩ := bind_some h
      refine v_alen dX11_requireSubscription_30 e ?_
      refine v_icmp_lt (tgt := 42) dX11_requireSubscription_31 (by decide) (fun c8 => ?_) (fun c8 => ?_)
      · replace h := ifP c8 h
        cases h
        exact v_vreturn dX11_requireSubscription_42
      · replace h := ifN c8 h
        refine v_sub [] rfl ?_
        exact w_X11_requireSubscription_J34 M h
theorem kd_X11_requireSubscription {l0 : Nat} {l1 : Int32} {l2 : Int32} {M : Mem} {z : _} (h : f_X11_requireSubscription l0 l1 l2 M = some z) : (mK M l0).1 = 11 := by
  unfold f_X11_requireSubscription at h
  exact (ifS h).1
theorem k_X11_requireSubscription {G : Gl} {l0 : Nat} {l1 : Int32} {l2 : Int32} {M MF : Mem} {r : Unit ⊕ Nat} (h : f_X11_requireSubscription l0 l1 l2 M = some (r, MF)) : CtrP G yX11_requireSubscription cX11_requireSubscription 4 none 6 89 [.ref l0, .int l1, .int l2] M (cxV r) MF :=
  ctr_of (by decide +kernel) (Nat.le_of_ble_eq_true rfl) (fun ρ => w_X11_requireSubscription l0 l1 l2 M h)
theorem wd_X11_180 : wdV RX11 180 RX11 yX11_requireSubscription cX11_requireSubscription 4 none 2 := ⟨gwi 1084 (by decide +kernel) (by decide +kernel), gwi 1086 (by decide +kernel) (by decide +kernel), gwi 25 (by decide +kernel) (by decide +kernel), nw_X11, gwi 1087 (by decide +kernel) (by decide +kernel), ⟨rfl, by decide +kernel, by decide +kernel, by decide +kernel⟩⟩
theorem ca_X11_180 {G : Gl} {B : Bx} {cc : ByteArray} {ret : Option FieldType} {fr lo nL : Nat} {mn : String} {hh : List (Nat × Nat × Nat × Nat)} {pc : Nat} {ls : List (Nat × Value)} {st : List Value} {M M1 : Mem} {l0 : Nat} {l1 : Int32} {l2 : Int32} {x : Unit} (e : f_X11_requireSubscription l0 l1 l2 M = some (.inl x, M1)) (hd : decode cc pc = .ok (.invokevirtual 180, 3)) (hcat : (st.map fun v => v.category).sum ≤ 8) (hR : 6 + 1 ≤ fr ∧ 8 + (4 + 11) + 89 ≤ lo) (k : V G (RX11, cc, ret, fr, lo, nL, mn, hh) B (pc + 3) ls (st) M1) : V G (RX11, cc, ret, fr, lo, nL, mn, hh) B pc ls (.int l2 :: .int l1 :: .ref l0 :: st) M := v_callV0 (As := [.int l1, .int l2]) (k_X11_requireSubscription e) wd_X11_180 clX11 (kd_X11_requireSubscription e) hd rfl rfl hcat hR k
theorem cx_X11_180 {G : Gl} {ρ0 : Nat → Nat} {M0 : Mem} {cc : ByteArray} {ret : Option FieldType} {fr lo nL : Nat} {mn : String} {pc : Nat} {ls : List (Nat × Value)} {st : List Value} {M M1 : Mem} {l0 : Nat} {l1 : Int32} {l2 : Int32} {e9 : Nat} (e : f_X11_requireSubscription l0 l1 l2 M = some (.inr e9, M1)) (hd : decode cc pc = .ok (.invokevirtual 180, 3)) (hcat : (st.map fun v => v.category).sum ≤ 8) (hR : 6 + 1 ≤ fr ∧ 8 + (4 + 11) + 89 ≤ lo) : V G (RX11, cc, ret, fr, lo, nL, mn, []) (ρ0, M0, Sum.inr e9, M1) pc ls (.int l2 :: .int l1 :: .ref l0 :: st) M := v_callVx (As := [.int l1, .int l2]) (k_X11_requireSubscription e) wd_X11_180 clX11 (kd_X11_requireSubscription e) hd rfl rfl hcat hR
set_option maxHeartbeats 4000000 in
set_option maxRecDepth 100000 in
theorem w_X11_subscription {G : Gl} {ρ0 : Nat → Nat} {M0 MF : Mem} {r : Int32 ⊕ Nat} (l0 : Nat) (l1 : Int32) (l2 : Int32) (l3 : Int32) (M : Mem) (h : f_X11_subscription l0 l1 l2 l3 M = some (r, MF)) : V G (RX11, cX11_subscription, (some .int), 7, 112, 5, "subscription", []) (ρ0, M0, cxI r, MF) 0 [(0, .ref l0), (1, .int l1), (2, .int l2), (3, .int l3)] [] M := by
  unfold f_X11_subscription at h
  replace h := (ifS h).2
  refine v_iload_n dX11_subscription_0 rfl 1 rfl ?_
  rcases bindX_some h with ⟨u2, M1, e, h⟩ | ⟨e9, e, rfl⟩
  rotate_left
  · exact cx_X11_73 e dX11_subscription_1 (Nat.le_of_ble_eq_true rfl) (by decide)
  refine ca_X11_73 e dX11_subscription_1 (Nat.le_of_ble_eq_true rfl) (by decide) ?_
  refine v_aload_n dX11_subscription_4 rfl 0 rfl ?_
  refine v_iload_n dX11_subscription_5 rfl 1 rfl ?_
  refine v_iload_n dX11_subscription_6 rfl 2 rfl ?_
  rcases bindX_some h with ⟨u4, M3, e, h⟩ | ⟨e9, e, rfl⟩
  rotate_left
  · exact cx_X11_180 e dX11_subscription_7 (Nat.le_of_ble_eq_true rfl) (by decide)
  refine ca_X11_180 e dX11_subscription_7 (Nat.le_of_ble_eq_true rfl) (by decide) ?_
  refine v_aload_n dX11_subscription_10 rfl 0 rfl ?_
  obtain ⟨v5, e, h⟩ := bind_some h
  refine gt_X11_41 e dX11_subscription_11 ?_
  obtain ⟨v6, e, h⟩ := bind_some h
  refine gt_X11_77 e dX11_subscription_14 ?_
  refine v_iload_n dX11_subscription_17 rfl 1 rfl ?_
  obtain ⟨v7, e, h⟩ := bind_some h
  refine al_0 e dX11_subscription_18 ?_
  obtain ⟨v8, e, h⟩ := bind_some h
  refine gt_X11_94 e dX11_subscription_19 ?_
  obtain ⟨v9, e, h⟩ := bind_some h
  refine gt_X11_162 e dX11_subscription_22 ?_
  refine v_iload_n dX11_subscription_25 rfl 2 rfl ?_
  obtain ⟨v10, e, h⟩ := bind_some h
  refine al_8 e dX11_subscription_26 ?_
  refine v_astore (ls' := [(4, .ref v10), (0, .ref l0), (1, .int l1), (2, .int l2), (3, .int l3)]) dX11_subscription_27 (by decide) rfl ?_
  refine v_iload_n dX11_subscription_29 rfl 4 rfl ?_
  rcases Decidable.em (l3 = 0) with c13_0 | c13_0
  · replace h := ifP c13_0 h
    refine v_tsw (tgt := 60) dX11_subscription_30 c13_0 (by decide) (by decide) rfl (by decide) ?_
    refine v_aload dX11_subscription_60 0 rfl ?_
    obtain ⟨v11, e, h⟩ := bind_some h
    refine gt_X11_166 e dX11_subscription_62 ?_
    cases h
    exact v_ireturn dX11_subscription_65
  replace h := ifN c13_0 h
  rcases Decidable.em (l3 = 1) with c13_1 | c13_1
  · replace h := ifP c13_1 h
    refine v_tsw (tgt := 66) dX11_subscription_30 c13_1 (by decide) (by decide) rfl (by decide) ?_
    refine v_aload dX11_subscription_66 0 rfl ?_
    obtain ⟨v11, e, h⟩ := bind_some h
    refine gt_X11_184 e dX11_subscription_68 ?_
    cases h
    exact v_ireturn dX11_subscription_71
  replace h := ifN c13_1 h
  rcases Decidable.em (l3 = 2) with c13_2 | c13_2
  · replace h := ifP c13_2 h
    refine v_tsw (tgt := 72) dX11_subscription_30 c13_2 (by decide) (by decide) rfl (by decide) ?_
    refine v_aload dX11_subscription_72 0 rfl ?_
    obtain ⟨v11, e, h⟩ := bind_some h
    refine gt_X11_171 e dX11_subscription_74 ?_
    cases h
    exact v_ireturn dX11_subscription_77
  replace h := ifN c13_2 h
  rcases Decidable.em (l3 = 3) with c13_3 | c13_3
  · replace h := ifP c13_3 h
    refine v_tsw (tgt := 78) dX11_subscription_30 c13_3 (by decide) (by decide) rfl (by decide) ?_
    refine v_aload dX11_subscription_78 0 rfl ?_
    obtain ⟨v11, e, h⟩ := bind_some h
    refine gt_X11_187 e dX11_subscription_80 ?_
    obtain ⟨v12, e, h⟩ := bind_some h
    refine gt_X11_191 e dX11_subscription_83 ?_
    cases h
    exact v_ireturn dX11_subscription_86
  replace h := ifN c13_3 h
  refine v_tswOut (tgt := 87) dX11_subscription_30 (fun k h1 h2 => by rcases (show k = 0 ∨ k = 1 ∨ k = 2 ∨ k = 3 by omega) with rfl | rfl | rfl | rfl <;> assumption) (by decide) ?_
  cases h
  exact th_1 dX11_subscription_87 dX11_subscription_90 dX11_subscription_91 dX11_subscription_94 (by decide) (Nat.le_of_ble_eq_true rfl)
theorem kd_X11_subscription {l0 : Nat} {l1 : Int32} {l2 : Int32} {l3 : Int32} {M : Mem} {z : _} (h : f_X11_subscription l0 l1 l2 l3 M = some z) : (mK M l0).1 = 11 := by
  unfold f_X11_subscription at h
  exact (ifS h).1
theorem k_X11_subscription {G : Gl} {l0 : Nat} {l1 : Int32} {l2 : Int32} {l3 : Int32} {M MF : Mem} {r : Int32 ⊕ Nat} (h : f_X11_subscription l0 l1 l2 l3 M = some (r, MF)) : CtrP G yX11_subscription cX11_subscription 5 (some .int) 7 112 [.ref l0, .int l1, .int l2, .int l3] M (cxI r) MF :=
  ctr_of (by decide +kernel) (Nat.le_of_ble_eq_true rfl) (fun ρ => w_X11_subscription l0 l1 l2 l3 M h)
set_option maxHeartbeats 4000000 in
set_option maxRecDepth 100000 in
theorem w_X11_publish_J124 {G : Gl} {ρ0 : Nat → Nat} {M0 MF : Mem} {r : Int32 ⊕ Nat} (l0 : Nat) (l2 : Int32) (l3 : Int32) (l8 : Nat) (l9 : Int32) (M : Mem) (h : f_X11_publish_J124 l0 l2 l3 l8 l9 M = some (r, MF)) : V G (RX11, cX11_publish, (some .int), 8, 132, 10, "publish", []) (ρ0, M0, cxI r, MF) 124 [(0, .ref l0), (2, .int l2), (3, .int l3), (8, .ref l8), (9, .int l9)] [] M := by
  unfold f_X11_publish_J124 at h
  refine v_iload_n dX11_publish_124 rfl 1 rfl ?_
  refine v_iconst (v := 2) dX11_publish_125 ci_2 ?_
  refine v_icmp_ne (tgt := 152) dX11_publish_126 (by decide) (fun c5 => ?_) (fun c5 => ?_)
  · replace h := ifN c5 h
    refine v_iload_n dX11_publish_152 rfl 1 rfl ?_
    refine v_iconst (v := 1) dX11_publish_153 ci_1 ?_
    refine v_icmp_ne (tgt := 168) dX11_publish_154 (by decide) (fun c3 => ?_) (fun c3 => ?_)
    · replace h := ifN c3 h
      refine v_iload dX11_publish_168 4 rfl ?_
      cases h
      exact v_ireturn dX11_publish_170
    · replace h := ifP c3 h
      refine v_aload_n dX11_publish_157 rfl 0 rfl ?_
      obtain ⟨v1, e, h⟩ := bind_some h
      refine gt_X11_41 e dX11_publish_158 ?_
      refine v_aload dX11_publish_161 3 rfl ?_
      refine v_iconst (v := 1) dX11_publish_163 ci_1 ?_
      refine v_iload_n dX11_publish_164 rfl 2 rfl ?_
      obtain ⟨M2, e, h⟩ := bind_some h
      refine ca_X11_227 e dX11_publish_165 (Nat.le_of_ble_eq_true rfl) (by decide) ?_
      refine v_iload dX11_publish_168 4 rfl ?_
      cases h
      exact v_ireturn dX11_publish_170
  · replace h := ifP c5 h
    refine v_aload dX11_publish_129 3 rfl ?_
    obtain ⟨v1, e, h⟩ := bind_some h
    refine gt_X11_94 e dX11_publish_131 ?_
    refine v_iload_n dX11_publish_134 rfl 2 rfl ?_
    obtain ⟨M2, e, h⟩ := bind_some h
    refine ca_X11_224 e dX11_publish_135 (Nat.le_of_ble_eq_true rfl) (by decide) ?_
    refine v_aload_n dX11_publish_138 rfl 0 rfl ?_
    obtain ⟨v3, e, h⟩ := bind_some h
    refine gt_X11_41 e dX11_publish_139 ?_
    refine v_aload dX11_publish_142 3 rfl ?_
    refine v_iconst (v := 2) dX11_publish_144 ci_2 ?_
    refine v_iload_n dX11_publish_145 rfl 2 rfl ?_
    obtain ⟨M4, e, h⟩ := bind_some h
    refine ca_X11_227 e dX11_publish_146 (Nat.le_of_ble_eq_true rfl) (by decide) ?_
    refine v_goto (tgt := 168) dX11_publish_149 (by decide) ?_
    refine v_iload dX11_publish_168 4 rfl ?_
    cases h
    exact v_ireturn dX11_publish_170
set_option maxHeartbeats 4000000 in
set_option maxRecDepth 100000 in
theorem w_X11_publish_J96 {G : Gl} {ρ0 : Nat → Nat} {M0 MF : Mem} {r : Int32 ⊕ Nat} (l0 : Nat) (l1 : Int32) (l2 : Int32) (l3 : Int32) (l4 : Int32) (l5 : Int32) (l7 : Nat) (l8 : Nat) (M : Mem) (h : f_X11_publish_J96 l0 l1 l2 l3 l4 l5 l7 l8 M = some (r, MF)) : V G (RX11, cX11_publish, (some .int), 8, 132, 10, "publish", []) (ρ0, M0, cxI r, MF) 96 [(0, .ref l0), (1, .int l1), (2, .int l2), (3, .int l3), (4, .int l4), (5, .int l5), (7, .ref l7), (8, .ref l8)] [] M := by
  unfold f_X11_publish_J96 at h
  refine v_aload_n dX11_publish_96 rfl 0 rfl ?_
  obtain ⟨v1, e, h⟩ := bind_some h
  refine gt_X11_34 e dX11_publish_97 ?_
  refine v_aload dX11_publish_100 6 rfl ?_
  refine v_iload_n dX11_publish_102 rfl 2 rfl ?_
  refine v_iload dX11_publish_103 5 rfl ?_
  obtain ⟨M2, e, h⟩ := bind_some h
  refine ca_X11_141 e dX11_publish_105 (Nat.le_of_ble_eq_true rfl) (by decide) ?_
  refine v_aload_n dX11_publish_108 rfl 0 rfl ?_
  obtain ⟨v3, e, h⟩ := bind_some h
  refine gt_X11_41 e dX11_publish_109 ?_
  refine v_iload_n dX11_publish_112 rfl 1 rfl ?_
  refine v_aload_n dX11_publish_113 rfl 0 rfl ?_
  obtain ⟨v4, e, h⟩ := bind_some h
  refine gt_X11_34 e dX11_publish_114 ?_
  refine v_iload dX11_publish_117 4 rfl ?_
  obtain ⟨v6, M5, e, h⟩ := bindP_some h
  refine ca_X11_220 e dX11_publish_119 (Nat.le_of_ble_eq_true rfl) (by decide) ?_
  refine v_istore (ls' := [(9, .int v6), (0, .ref l0), (1, .int l1), (2, .int l2), (3, .int l3), (4, .int l4), (5, .int l5), (7, .ref l7), (8, .ref l8)]) dX11_publish_122 (by decide) rfl ?_
  refine v_sub [1, 3, 4, 8, 0] rfl ?_
  exact w_X11_publish_J124 l0 l2 l3 l8 v6 M5 h
set_option maxHeartbeats 4000000 in
set_option maxRecDepth 100000 in
theorem w_X11_publish_J35 {G : Gl} {ρ0 : Nat → Nat} {M0 MF : Mem} {r : Int32 ⊕ Nat} (l0 : Nat) (l1 : Int32) (l2 : Int32) (l3 : Int32) (l4 : Int32) (l5 : Int32) (l7 : Nat) (M : Mem) (h : f_X11_publish_J35 l0 l1 l2 l3 l4 l5 l7 M = some (r, MF)) : V G (RX11, cX11_publish, (some .int), 8, 132, 10, "publish", []) (ρ0, M0, cxI r, MF) 35 [(0, .ref l0), (1, .int l1), (2, .int l2), (3, .int l3), (4, .int l4), (5, .int l5), (7, .ref l7)] [] M := by
  unfold f_X11_publish_J35 at h
  refine v_iload dX11_publish_35 5 rfl ?_
  refine v_iconst (v := 0) dX11_publish_37 ci_0 ?_
  refine v_sipush (v := 9999) dX11_publish_38 cs_9999 ?_
  rcases bindX_some h with ⟨u2, M1, e, h⟩ | ⟨e9, e, rfl⟩
  rotate_left
  · exact cx_X11_131 e dX11_publish_41 (Nat.le_of_ble_eq_true rfl) (by decide)
  refine ca_X11_131 e dX11_publish_41 (Nat.le_of_ble_eq_true rfl) (by decide) ?_
  refine v_aload_n dX11_publish_44 rfl 0 rfl ?_
  refine v_iload_n dX11_publish_45 rfl 1 rfl ?_
  rcases bindX_some h with ⟨u4, M3, e, h⟩ | ⟨e9, e, rfl⟩
  rotate_left
  · exact cx_X11_114 e dX11_publish_46 (Nat.le_of_ble_eq_true rfl) (by decide)
  refine ca_X11_114 e dX11_publish_46 (Nat.le_of_ble_eq_true rfl) (by decide) ?_
  refine v_aload_n dX11_publish_49 rfl 0 rfl ?_
  obtain ⟨v5, e, h⟩ := bind_some h
  refine gt_X11_41 e dX11_publish_50 ?_
  obtain ⟨v6, e, h⟩ := bind_some h
  refine gt_X11_77 e dX11_publish_53 ?_
  refine v_iload_n dX11_publish_56 rfl 1 rfl ?_
  obtain ⟨v7, e, h⟩ := bind_some h
  refine al_0 e dX11_publish_57 ?_
  refine v_astore (ls' := [(8, .ref v7), (0, .ref l0), (1, .int l1), (2, .int l2), (3, .int l3), (4, .int l4), (5, .int l5), (7, .ref l7)]) dX11_publish_58 (by decide) rfl ?_
  refine v_iconst (v := 0) dX11_publish_60 ci_0 ?_
  refine v_istore (ls' := [(9, .int (0 : Int32)), (8, .ref v7), (0, .ref l0), (1, .int l1), (2, .int l2), (3, .int l3), (4, .int l4), (5, .int l5), (7, .ref l7)]) dX11_publish_61 (by decide) rfl ?_
  refine v_iload_n dX11_publish_63 rfl 4 rfl ?_
  refine v_iconst (v := 2) dX11_publish_64 ci_2 ?_
  refine v_icmp_ne (tgt := 96) dX11_publish_65 (by decide) (fun c16 => ?_) (fun c16 => ?_)
  · replace h := ifN c16 h
    refine v_sub [2, 3, 4, 5, 6, 7, 8, 1] rfl ?_
    exact w_X11_publish_J96 l0 l1 l2 l3 l4 l5 l7 v7 M3 h
  · replace h := ifP c16 h
    refine v_aload dX11_publish_68 1 rfl ?_
    obtain ⟨v8, e, h⟩ := bind_some h
    refine gt_X11_94 e dX11_publish_70 ?_
    refine v_iload_n dX11_publish_73 rfl 5 rfl ?_
    obtain ⟨v10, M9, e, h⟩ := bindP_some h
    refine ca_X11_216 e dX11_publish_74 (Nat.le_of_ble_eq_true rfl) (by decide) ?_
    refine v_if_eq (tgt := 96) dX11_publish_77 (by decide) (fun c15 => ?_) (fun c15 => ?_)
    · replace h := ifP c15 h
      refine v_sub [2, 3, 4, 5, 6, 7, 8, 1] rfl ?_
      exact w_X11_publish_J96 l0 l1 l2 l3 l4 l5 l7 v7 M9 h
    · replace h := ifN c15 h
      refine v_aload_n dX11_publish_80 rfl 2 rfl ?_
      obtain ⟨v11, e, h⟩ := bind_some h
      refine gt_X11_41 e dX11_publish_81 ?_
      obtain ⟨v12, e, h⟩ := bind_some h
      refine gt_X11_87 e dX11_publish_84 ?_
      refine v_iconst (v := 3) dX11_publish_87 ci_3 ?_
      refine v_dup2 dX11_publish_88 rfl rfl ?_
      obtain ⟨v13, e, h⟩ := bind_some h
      refine v_iaload dX11_publish_89 e ?_
      refine v_iconst (v := 1) dX11_publish_90 ci_1 ?_
      refine v_iadd dX11_publish_91 ?_
      obtain ⟨M14, e, h⟩ := bind_some h
      refine v_iastore dX11_publish_92 e ?_
      refine v_goto (tgt := 124) dX11_publish_93 (by decide) ?_
      refine v_sub [2, 4, 5, 1, 0] rfl ?_
      exact w_X11_publish_J124 l0 l2 l3 v7 (0 : Int32) M14 h
set_option maxHeartbeats 4000000 in
set_option maxRecDepth 100000 in
theorem w_X11_publish {G : Gl} {ρ0 : Nat → Nat} {M0 MF : Mem} {r : Int32 ⊕ Nat} (l0 : Nat) (l1 : Int32) (l2 : Int32) (l3 : Int32) (l4 : Int32) (l5 : Int32) (M : Mem) (h : f_X11_publish l0 l1 l2 l3 l4 l5 M = some (r, MF)) : V G (RX11, cX11_publish, (some .int), 8, 132, 10, "publish", []) (ρ0, M0, cxI r, MF) 0 [(0, .ref l0), (1, .int l1), (2, .int l2), (3, .int l3), (4, .int l4), (5, .int l5)] [] M := by
  unfold f_X11_publish at h
  replace h := (ifS h).2
  refine v_aload_n dX11_publish_0 rfl 0 rfl ?_
  obtain ⟨v2, M1, e, h⟩ := bindP_some h
  refine ca_X11_123 e dX11_publish_1 (Nat.le_of_ble_eq_true rfl) (by decide) ?_
  refine v_istore (ls' := [(6, .int v2), (0, .ref l0), (1, .int l1), (2, .int l2), (3, .int l3), (4, .int l4), (5, .int l5)]) dX11_publish_4 (by decide) rfl ?_
  refine v_iload_n dX11_publish_6 rfl 2 rfl ?_
  rcases bindX_some h with ⟨u4, M3, e, h⟩ | ⟨e9, e, rfl⟩
  rotate_left
  · exact cx_X11_73 e dX11_publish_7 (Nat.le_of_ble_eq_true rfl) (by decide)
  refine ca_X11_73 e dX11_publish_7 (Nat.le_of_ble_eq_true rfl) (by decide) ?_
  refine v_aload_n dX11_publish_10 rfl 1 rfl ?_
  refine v_iload dX11_publish_11 0 rfl ?_
  rcases bindX_some h with ⟨v6, M5, e, h⟩ | ⟨e9, e, rfl⟩
  rotate_left
  · exact cx_X11_127 e dX11_publish_13 (Nat.le_of_ble_eq_true rfl) (by decide)
  refine ca_X11_127 e dX11_publish_13 (Nat.le_of_ble_eq_true rfl) (by decide) ?_
  refine v_astore (ls' := [(7, .ref v6), (6, .int v2), (0, .ref l0), (1, .int l1), (2, .int l2), (3, .int l3), (4, .int l4), (5, .int l5)]) dX11_publish_16 (by decide) rfl ?_
  refine v_iload_n dX11_publish_18 rfl 4 rfl ?_
  refine v_iconst (v := 0) dX11_publish_19 ci_0 ?_
  refine v_iconst (v := 2) dX11_publish_20 ci_2 ?_
  rcases bindX_some h with ⟨u8, M7, e, h⟩ | ⟨e9, e, rfl⟩
  rotate_left
  · exact cx_X11_131 e dX11_publish_21 (Nat.le_of_ble_eq_true rfl) (by decide)
  refine ca_X11_131 e dX11_publish_21 (Nat.le_of_ble_eq_true rfl) (by decide) ?_
  refine v_iload_n dX11_publish_24 rfl 4 rfl ?_
  refine v_if_eq (tgt := 35) dX11_publish_25 (by decide) (fun c11 => ?_) (fun c11 => ?_)
  · replace h := ifP c11 h
    refine v_sub [2, 3, 4, 5, 6, 7, 0] rfl ?_
    exact w_X11_publish_J35 l0 l1 l2 l3 l4 l5 v6 M7 h
  · replace h := ifN c11 h
    refine v_iload_n dX11_publish_28 rfl 5 rfl ?_
    refine v_iconst (v := 1) dX11_publish_29 ci_1 ?_
    refine v_bipush (v := 50) dX11_publish_30 cb_50 ?_
    rcases bindX_some h with ⟨u10, M9, e, h⟩ | ⟨e9, e, rfl⟩
    rotate_left
    · exact cx_X11_131 e dX11_publish_32 (Nat.le_of_ble_eq_true rfl) (by decide)
    refine ca_X11_131 e dX11_publish_32 (Nat.le_of_ble_eq_true rfl) (by decide) ?_
    refine v_sub [2, 3, 4, 5, 6, 7, 0] rfl ?_
    exact w_X11_publish_J35 l0 l1 l2 l3 l4 l5 v6 M9 h
theorem kd_X11_publish {l0 : Nat} {l1 : Int32} {l2 : Int32} {l3 : Int32} {l4 : Int32} {l5 : Int32} {M : Mem} {z : _} (h : f_X11_publish l0 l1 l2 l3 l4 l5 M = some z) : (mK M l0).1 = 11 := by
  unfold f_X11_publish at h
  exact (ifS h).1
theorem k_X11_publish {G : Gl} {l0 : Nat} {l1 : Int32} {l2 : Int32} {l3 : Int32} {l4 : Int32} {l5 : Int32} {M MF : Mem} {r : Int32 ⊕ Nat} (h : f_X11_publish l0 l1 l2 l3 l4 l5 M = some (r, MF)) : CtrP G yX11_publish cX11_publish 10 (some .int) 8 132 [.ref l0, .int l1, .int l2, .int l3, .int l4, .int l5] M (cxI r) MF :=
  ctr_of (by decide +kernel) (Nat.le_of_ble_eq_true rfl) (fun ρ => w_X11_publish l0 l1 l2 l3 l4 l5 M h)
set_option maxHeartbeats 4000000 in
set_option maxRecDepth 100000 in
theorem w_X11_release {G : Gl} {ρ0 : Nat → Nat} {M0 MF : Mem} {r : Int32 ⊕ Nat} (l0 : Nat) (l1 : Int32) (l2 : Int32) (M : Mem) (h : f_X11_release l0 l1 l2 M = some (r, MF)) : V G (RX11, cX11_release, (some .int), 7, 111, 5, "release", []) (ρ0, M0, cxI r, MF) 0 [(0, .ref l0), (1, .int l1), (2, .int l2)] [] M := by
  unfold f_X11_release at h
  replace h := (ifS h).2
  refine v_iload_n dX11_release_0 rfl 1 rfl ?_
  rcases bindX_some h with ⟨u2, M1, e, h⟩ | ⟨e9, e, rfl⟩
  rotate_left
  · exact cx_X11_73 e dX11_release_1 (Nat.le_of_ble_eq_true rfl) (by decide)
  refine ca_X11_73 e dX11_release_1 (Nat.le_of_ble_eq_true rfl) (by decide) ?_
  refine v_iload_n dX11_release_4 rfl 2 rfl ?_
  refine v_iconst (v := 1) dX11_release_5 ci_1 ?_
  refine v_bipush (v := 50) dX11_release_6 cb_50 ?_
  rcases bindX_some h with ⟨u4, M3, e, h⟩ | ⟨e9, e, rfl⟩
  rotate_left
  · exact cx_X11_131 e dX11_release_8 (Nat.le_of_ble_eq_true rfl) (by decide)
  refine ca_X11_131 e dX11_release_8 (Nat.le_of_ble_eq_true rfl) (by decide) ?_
  refine v_aload_n dX11_release_11 rfl 0 rfl ?_
  refine v_iload_n dX11_release_12 rfl 1 rfl ?_
  rcases bindX_some h with ⟨u6, M5, e, h⟩ | ⟨e9, e, rfl⟩
  rotate_left
  · exact cx_X11_114 e dX11_release_13 (Nat.le_of_ble_eq_true rfl) (by decide)
  refine ca_X11_114 e dX11_release_13 (Nat.le_of_ble_eq_true rfl) (by decide) ?_
  refine v_aload_n dX11_release_16 rfl 0 rfl ?_
  obtain ⟨v7, e, h⟩ := bind_some h
  refine gt_X11_41 e dX11_release_17 ?_
  obtain ⟨v8, e, h⟩ := bind_some h
  refine gt_X11_77 e dX11_release_20 ?_
  refine v_iload_n dX11_release_23 rfl 1 rfl ?_
  obtain ⟨v9, e, h⟩ := bind_some h
  refine al_0 e dX11_release_24 ?_
  refine v_astore_n (ls' := [(3, .ref v9), (0, .ref l0), (1, .int l1), (2, .int l2)]) dX11_release_25 rfl (by decide) rfl ?_
  refine v_aload_n dX11_release_26 rfl 0 rfl ?_
  obtain ⟨v10, e, h⟩ := bind_some h
  refine gt_X11_94 e dX11_release_27 ?_
  refine v_iload_n dX11_release_30 rfl 3 rfl ?_
  obtain ⟨v12, M11, e, h⟩ := bindP_some h
  refine ca_X11_216 e dX11_release_31 (Nat.le_of_ble_eq_true rfl) (by decide) ?_
  refine v_istore (ls' := [(4, .int v12), (3, .ref v9), (0, .ref l0), (1, .int l1), (2, .int l2)]) dX11_release_34 (by decide) rfl ?_
  refine v_aload_n dX11_release_36 rfl 1 rfl ?_
  obtain ⟨v13, e, h⟩ := bind_some h
  refine gt_X11_94 e dX11_release_37 ?_
  refine v_iload_n dX11_release_40 rfl 4 rfl ?_
  obtain ⟨M14, e, h⟩ := bind_some h
  refine ca_X11_231 e dX11_release_41 (Nat.le_of_ble_eq_true rfl) (by decide) ?_
  refine v_aload_n dX11_release_44 rfl 2 rfl ?_
  obtain ⟨v15, e, h⟩ := bind_some h
  refine gt_X11_41 e dX11_release_45 ?_
  refine v_aload_n dX11_release_48 rfl 1 rfl ?_
  refine v_iconst (v := 4) dX11_release_49 ci_4 ?_
  refine v_iload_n dX11_release_50 rfl 4 rfl ?_
  obtain ⟨M16, e, h⟩ := bind_some h
  refine ca_X11_227 e dX11_release_51 (Nat.le_of_ble_eq_true rfl) (by decide) ?_
  refine v_iload dX11_release_54 0 rfl ?_
  refine v_if_eq (tgt := 63) dX11_release_56 (by decide) (fun c17 => ?_) (fun c17 => ?_)
  · replace h := ifP c17 h
    refine v_iconst (v := 0) dX11_release_63 ci_0 ?_
    cases h
    exact v_ireturn dX11_release_64
  · replace h := ifN c17 h
    refine v_iconst (v := 1) dX11_release_59 ci_1 ?_
    refine v_goto (tgt := 64) dX11_release_60 (by decide) ?_
    cases h
    exact v_ireturn dX11_release_64
theorem kd_X11_release {l0 : Nat} {l1 : Int32} {l2 : Int32} {M : Mem} {z : _} (h : f_X11_release l0 l1 l2 M = some z) : (mK M l0).1 = 11 := by
  unfold f_X11_release at h
  exact (ifS h).1
theorem k_X11_release {G : Gl} {l0 : Nat} {l1 : Int32} {l2 : Int32} {M MF : Mem} {r : Int32 ⊕ Nat} (h : f_X11_release l0 l1 l2 M = some (r, MF)) : CtrP G yX11_release cX11_release 5 (some .int) 7 111 [.ref l0, .int l1, .int l2] M (cxI r) MF :=
  ctr_of (by decide +kernel) (Nat.le_of_ble_eq_true rfl) (fun ρ => w_X11_release l0 l1 l2 M h)
set_option maxHeartbeats 4000000 in
set_option maxRecDepth 100000 in
theorem w_X11_answer_J27 {G : Gl} {ρ0 : Nat → Nat} {M0 MF : Mem} {r : Int32 ⊕ Nat} (l0 : Nat) (l1 : Int32) (l2 : Int32) (l3 : Int32) (M : Mem) (h : f_X11_answer_J27 l0 l1 l2 l3 M = some (r, MF)) : V G (RX11, cX11_answer, (some .int), 7, 117, 4, "answer", []) (ρ0, M0, cxI r, MF) 27 [(0, .ref l0), (1, .int l1), (2, .int l2), (3, .int l3)] [] M := by
  unfold f_X11_answer_J27 at h
  refine v_iload_n dX11_answer_27 rfl 3 rfl ?_
  refine v_iconst (v := 1) dX11_answer_28 ci_1 ?_
  refine v_bipush (v := 50) dX11_answer_29 cb_50 ?_
  rcases bindX_some h with ⟨u2, M1, e, h⟩ | ⟨e9, e, rfl⟩
  rotate_left
  · exact cx_X11_131 e dX11_answer_31 (Nat.le_of_ble_eq_true rfl) (by decide)
  refine ca_X11_131 e dX11_answer_31 (Nat.le_of_ble_eq_true rfl) (by decide) ?_
  refine v_aload_n dX11_answer_34 rfl 0 rfl ?_
  refine v_iload_n dX11_answer_35 rfl 1 rfl ?_
  rcases bindX_some h with ⟨u4, M3, e, h⟩ | ⟨e9, e, rfl⟩
  rotate_left
  · exact cx_X11_114 e dX11_answer_36 (Nat.le_of_ble_eq_true rfl) (by decide)
  refine ca_X11_114 e dX11_answer_36 (Nat.le_of_ble_eq_true rfl) (by decide) ?_
  refine v_aload_n dX11_answer_39 rfl 0 rfl ?_
  obtain ⟨v5, e, h⟩ := bind_some h
  refine gt_X11_41 e dX11_answer_40 ?_
  refine v_aload_n dX11_answer_43 rfl 0 rfl ?_
  obtain ⟨v6, e, h⟩ := bind_some h
  refine gt_X11_41 e dX11_answer_44 ?_
  obtain ⟨v7, e, h⟩ := bind_some h
  refine gt_X11_77 e dX11_answer_47 ?_
  refine v_iload_n dX11_answer_50 rfl 1 rfl ?_
  obtain ⟨v8, e, h⟩ := bind_some h
  refine al_0 e dX11_answer_51 ?_
  refine v_iload_n dX11_answer_52 rfl 2 rfl ?_
  refine v_iload_n dX11_answer_53 rfl 3 rfl ?_
  obtain ⟨v10, M9, e, h⟩ := bindP_some h
  refine ca_X11_234 e dX11_answer_54 (Nat.le_of_ble_eq_true rfl) (by decide) ?_
  refine v_if_eq (tgt := 64) dX11_answer_57 (by decide) (fun c11 => ?_) (fun c11 => ?_)
  · replace h := ifP c11 h
    refine v_iconst (v := 0) dX11_answer_64 ci_0 ?_
    cases h
    exact v_ireturn dX11_answer_65
  · replace h := ifN c11 h
    refine v_iconst (v := 1) dX11_answer_60 ci_1 ?_
    refine v_goto (tgt := 65) dX11_answer_61 (by decide) ?_
    cases h
    exact v_ireturn dX11_answer_65
set_option maxHeartbeats 4000000 in
set_option maxRecDepth 100000 in
theorem w_X11_answer {G : Gl} {ρ0 : Nat → Nat} {M0 MF : Mem} {r : Int32 ⊕ Nat} (l0 : Nat) (l1 : Int32) (l2 : Int32) (l3 : Int32) (M : Mem) (h : f_X11_answer l0 l1 l2 l3 M = some (r, MF)) : V G (RX11, cX11_answer, (some .int), 7, 117, 4, "answer", []) (ρ0, M0, cxI r, MF) 0 [(0, .ref l0), (1, .int l1), (2, .int l2), (3, .int l3)] [] M := by
  unfold f_X11_answer at h
  replace h := (ifS h).2
  refine v_iload_n dX11_answer_0 rfl 1 rfl ?_
  rcases bindX_some h with ⟨u2, M1, e, h⟩ | ⟨e9, e, rfl⟩
  rotate_left
  · exact cx_X11_73 e dX11_answer_1 (Nat.le_of_ble_eq_true rfl) (by decide)
  refine ca_X11_73 e dX11_answer_1 (Nat.le_of_ble_eq_true rfl) (by decide) ?_
  refine v_iload_n dX11_answer_4 rfl 2 rfl ?_
  refine v_iconst (v := 1) dX11_answer_5 ci_1 ?_
  refine v_icmp_eq (tgt := 27) dX11_answer_6 (by decide) (fun c5 => ?_) (fun c5 => ?_)
  · replace h := ifP c5 h
    exact w_X11_answer_J27 l0 l1 l2 l3 M1 h
  · replace h := ifN c5 h
    refine v_iload_n dX11_answer_9 rfl 2 rfl ?_
    refine v_iconst (v := 2) dX11_answer_10 ci_2 ?_
    refine v_icmp_eq (tgt := 27) dX11_answer_11 (by decide) (fun c4 => ?_) (fun c4 => ?_)
    · replace h := ifP c4 h
      exact w_X11_answer_J27 l0 l1 l2 l3 M1 h
    · replace h := ifN c4 h
      refine v_iload_n dX11_answer_14 rfl 2 rfl ?_
      refine v_iconst (v := 4) dX11_answer_15 ci_4 ?_
      refine v_icmp_eq (tgt := 27) dX11_answer_16 (by decide) (fun c3 => ?_) (fun c3 => ?_)
      · replace h := ifP c3 h
        exact w_X11_answer_J27 l0 l1 l2 l3 M1 h
      · replace h := ifN c3 h
        cases h
        exact th_1 dX11_answer_19 dX11_answer_22 dX11_answer_23 dX11_answer_26 (by decide) (Nat.le_of_ble_eq_true rfl)
theorem kd_X11_answer {l0 : Nat} {l1 : Int32} {l2 : Int32} {l3 : Int32} {M : Mem} {z : _} (h : f_X11_answer l0 l1 l2 l3 M = some z) : (mK M l0).1 = 11 := by
  unfold f_X11_answer at h
  exact (ifS h).1
theorem k_X11_answer {G : Gl} {l0 : Nat} {l1 : Int32} {l2 : Int32} {l3 : Int32} {M MF : Mem} {r : Int32 ⊕ Nat} (h : f_X11_answer l0 l1 l2 l3 M = some (r, MF)) : CtrP G yX11_answer cX11_answer 4 (some .int) 7 117 [.ref l0, .int l1, .int l2, .int l3] M (cxI r) MF :=
  ctr_of (by decide +kernel) (Nat.le_of_ble_eq_true rfl) (fun ρ => w_X11_answer l0 l1 l2 l3 M h)
set_option maxHeartbeats 4000000 in
set_option maxRecDepth 100000 in
theorem w_X11_audience {G : Gl} {ρ0 : Nat → Nat} {M0 MF : Mem} {r : Int32 ⊕ Nat} (l0 : Nat) (l1 : Int32) (M : Mem) (h : f_X11_audience l0 l1 M = some (r, MF)) : V G (RX11, cX11_audience, (some .int), 8, 132, 4, "audience", []) (ρ0, M0, cxI r, MF) 0 [(0, .ref l0), (1, .int l1)] [] M := by
  unfold f_X11_audience at h
  replace h := (ifS h).2
  refine v_aload_n dX11_audience_0 rfl 0 rfl ?_
  obtain ⟨v2, M1, e, h⟩ := bindP_some h
  refine ca_X11_123 e dX11_audience_1 (Nat.le_of_ble_eq_true rfl) (by decide) ?_
  refine v_istore_n (ls' := [(2, .int v2), (0, .ref l0), (1, .int l1)]) dX11_audience_4 rfl (by decide) rfl ?_
  refine v_iload_n dX11_audience_5 rfl 2 rfl ?_
  rcases bindX_some h with ⟨u4, M3, e, h⟩ | ⟨e9, e, rfl⟩
  rotate_left
  · exact cx_X11_73 e dX11_audience_6 (Nat.le_of_ble_eq_true rfl) (by decide)
  refine ca_X11_73 e dX11_audience_6 (Nat.le_of_ble_eq_true rfl) (by decide) ?_
  refine v_aload_n dX11_audience_9 rfl 1 rfl ?_
  refine v_iload_n dX11_audience_10 rfl 0 rfl ?_
  rcases bindX_some h with ⟨v6, M5, e, h⟩ | ⟨e9, e, rfl⟩
  rotate_left
  · exact cx_X11_127 e dX11_audience_11 (Nat.le_of_ble_eq_true rfl) (by decide)
  refine ca_X11_127 e dX11_audience_11 (Nat.le_of_ble_eq_true rfl) (by decide) ?_
  refine v_astore_n (ls' := [(3, .ref v6), (2, .int v2), (0, .ref l0), (1, .int l1)]) dX11_audience_14 rfl (by decide) rfl ?_
  refine v_aload_n dX11_audience_15 rfl 2 rfl ?_
  obtain ⟨v7, e, h⟩ := bind_some h
  refine gt_X11_41 e dX11_audience_16 ?_
  refine v_iload_n dX11_audience_19 rfl 3 rfl ?_
  refine v_aload_n dX11_audience_20 rfl 0 rfl ?_
  obtain ⟨v9, M8, e, h⟩ := bindP_some h
  refine ca_X11_238 e dX11_audience_21 (Nat.le_of_ble_eq_true rfl) (by decide) ?_
  cases h
  exact v_ireturn dX11_audience_24
theorem kd_X11_audience {l0 : Nat} {l1 : Int32} {M : Mem} {z : _} (h : f_X11_audience l0 l1 M = some z) : (mK M l0).1 = 11 := by
  unfold f_X11_audience at h
  exact (ifS h).1
theorem k_X11_audience {G : Gl} {l0 : Nat} {l1 : Int32} {M MF : Mem} {r : Int32 ⊕ Nat} (h : f_X11_audience l0 l1 M = some (r, MF)) : CtrP G yX11_audience cX11_audience 4 (some .int) 8 132 [.ref l0, .int l1] M (cxI r) MF :=
  ctr_of (by decide +kernel) (Nat.le_of_ble_eq_true rfl) (fun ρ => w_X11_audience l0 l1 M h)
set_option maxHeartbeats 4000000 in
set_option maxRecDepth 100000 in
theorem w_X11_receive {G : Gl} {ρ0 : Nat → Nat} {M0 MF : Mem} {r : Int32 ⊕ Nat} (l0 : Nat) (l1 : Int32) (M : Mem) (h : f_X11_receive l0 l1 M = some (r, MF)) : V G (RX11, cX11_receive, (some .int), 7, 110, 3, "receive", []) (ρ0, M0, cxI r, MF) 0 [(0, .ref l0), (1, .int l1)] [] M := by
  unfold f_X11_receive at h
  replace h := (ifS h).2
  refine v_iload_n dX11_receive_0 rfl 1 rfl ?_
  rcases bindX_some h with ⟨u2, M1, e, h⟩ | ⟨e9, e, rfl⟩
  rotate_left
  · exact cx_X11_73 e dX11_receive_1 (Nat.le_of_ble_eq_true rfl) (by decide)
  refine ca_X11_73 e dX11_receive_1 (Nat.le_of_ble_eq_true rfl) (by decide) ?_
  refine v_aload_n dX11_receive_4 rfl 0 rfl ?_
  refine v_iload_n dX11_receive_5 rfl 1 rfl ?_
  rcases bindX_some h with ⟨u4, M3, e, h⟩ | ⟨e9, e, rfl⟩
  rotate_left
  · exact cx_X11_114 e dX11_receive_6 (Nat.le_of_ble_eq_true rfl) (by decide)
  refine ca_X11_114 e dX11_receive_6 (Nat.le_of_ble_eq_true rfl) (by decide) ?_
  refine v_aload_n dX11_receive_9 rfl 0 rfl ?_
  obtain ⟨v5, e, h⟩ := bind_some h
  refine gt_X11_41 e dX11_receive_10 ?_
  obtain ⟨v6, e, h⟩ := bind_some h
  refine gt_X11_77 e dX11_receive_13 ?_
  refine v_iload_n dX11_receive_16 rfl 1 rfl ?_
  obtain ⟨v7, e, h⟩ := bind_some h
  refine al_0 e dX11_receive_17 ?_
  obtain ⟨v8, e, h⟩ := bind_some h
  refine gt_X11_242 e dX11_receive_18 ?_
  refine v_astore_n (ls' := [(2, .ref v8), (0, .ref l0), (1, .int l1)]) dX11_receive_21 rfl (by decide) rfl ?_
  refine v_aload_n dX11_receive_22 rfl 0 rfl ?_
  obtain ⟨v9, e, h⟩ := bind_some h
  refine gt_X11_246 e dX11_receive_23 ?_
  refine v_if_ne (tgt := 31) dX11_receive_26 (by decide) (fun c18 => ?_) (fun c18 => ?_)
  · replace h := ifN c18 h
    refine v_aload_n dX11_receive_31 rfl 1 rfl ?_
    obtain ⟨v10, e, h⟩ := bind_some h
    refine gt_X11_27 e dX11_receive_32 ?_
    refine v_aload_n dX11_receive_35 rfl 0 rfl ?_
    obtain ⟨v12, M11, e, h⟩ := bindP_some h
    refine ca_X11_251 e dX11_receive_36 (Nat.le_of_ble_eq_true rfl) (by decide) ?_
    obtain ⟨M13, e, h⟩ := bind_some h
    refine ca_X11_255 e dX11_receive_39 (Nat.le_of_ble_eq_true rfl) (by decide) ?_
    refine v_aload_n dX11_receive_42 rfl 1 rfl ?_
    refine v_iconst (v := 1) dX11_receive_43 ci_1 ?_
    obtain ⟨M14, e, h⟩ := bind_some h
    refine pt_X11_259 e dX11_receive_44 ?_
    refine v_aload_n dX11_receive_47 rfl 0 rfl ?_
    obtain ⟨M15, e, h⟩ := bind_some h
    refine ca_X11_262 e dX11_receive_48 (Nat.le_of_ble_eq_true rfl) (by decide) ?_
    refine v_aload_n dX11_receive_51 rfl 1 rfl ?_
    obtain ⟨v16, e, h⟩ := bind_some h
    refine gt_X11_27 e dX11_receive_52 ?_
    obtain ⟨v17, e, h⟩ := bind_some h
    refine gt_X11_265 e dX11_receive_55 ?_
    cases h
    exact v_ireturn dX11_receive_58
  · replace h := ifP c18 h
    refine v_iconst (v := (-1)) dX11_receive_29 ci_m1 ?_
    cases h
    exact v_ireturn dX11_receive_30
theorem kd_X11_receive {l0 : Nat} {l1 : Int32} {M : Mem} {z : _} (h : f_X11_receive l0 l1 M = some z) : (mK M l0).1 = 11 := by
  unfold f_X11_receive at h
  exact (ifS h).1
theorem k_X11_receive {G : Gl} {l0 : Nat} {l1 : Int32} {M MF : Mem} {r : Int32 ⊕ Nat} (h : f_X11_receive l0 l1 M = some (r, MF)) : CtrP G yX11_receive cX11_receive 3 (some .int) 7 110 [.ref l0, .int l1] M (cxI r) MF :=
  ctr_of (by decide +kernel) (Nat.le_of_ble_eq_true rfl) (fun ρ => w_X11_receive l0 l1 M h)
set_option maxHeartbeats 4000000 in
set_option maxRecDepth 100000 in
theorem w_X11_length {G : Gl} {ρ0 : Nat → Nat} {M0 MF : Mem} {r : Int32 ⊕ Nat} (l0 : Nat) (l1 : Int32) (l2 : Int32) (M : Mem) (h : f_X11_length l0 l1 l2 M = some (r, MF)) : V G (RX11, cX11_length, (some .int), 7, 109, 4, "length", []) (ρ0, M0, cxI r, MF) 0 [(0, .ref l0), (1, .int l1), (2, .int l2)] [] M := by
  unfold f_X11_length at h
  replace h := (ifS h).2
  refine v_iload_n dX11_length_0 rfl 1 rfl ?_
  rcases bindX_some h with ⟨u2, M1, e, h⟩ | ⟨e9, e, rfl⟩
  rotate_left
  · exact cx_X11_73 e dX11_length_1 (Nat.le_of_ble_eq_true rfl) (by decide)
  refine ca_X11_73 e dX11_length_1 (Nat.le_of_ble_eq_true rfl) (by decide) ?_
  refine v_aload_n dX11_length_4 rfl 0 rfl ?_
  obtain ⟨v3, e, h⟩ := bind_some h
  refine gt_X11_41 e dX11_length_5 ?_
  obtain ⟨v4, e, h⟩ := bind_some h
  refine gt_X11_77 e dX11_length_8 ?_
  refine v_iload_n dX11_length_11 rfl 1 rfl ?_
  obtain ⟨v5, e, h⟩ := bind_some h
  refine al_0 e dX11_length_12 ?_
  refine v_astore_n (ls' := [(3, .ref v5), (0, .ref l0), (1, .int l1), (2, .int l2)]) dX11_length_13 rfl (by decide) rfl ?_
  refine v_iload_n dX11_length_14 rfl 3 rfl ?_
  rcases Decidable.em (l2 = 0) with c9_0 | c9_0
  · replace h := ifP c9_0 h
    refine v_tsw (tgt := 48) dX11_length_15 c9_0 (by decide) (by decide) rfl (by decide) ?_
    refine v_aload_n dX11_length_48 rfl 0 rfl ?_
    obtain ⟨v6, e, h⟩ := bind_some h
    refine gt_X11_242 e dX11_length_49 ?_
    obtain ⟨v7, e, h⟩ := bind_some h
    refine gt_X11_246 e dX11_length_52 ?_
    cases h
    exact v_ireturn dX11_length_55
  replace h := ifN c9_0 h
  rcases Decidable.em (l2 = 1) with c9_1 | c9_1
  · replace h := ifP c9_1 h
    refine v_tsw (tgt := 56) dX11_length_15 c9_1 (by decide) (by decide) rfl (by decide) ?_
    refine v_aload_n dX11_length_56 rfl 0 rfl ?_
    obtain ⟨v6, e, h⟩ := bind_some h
    refine gt_X11_94 e dX11_length_57 ?_
    obtain ⟨v7, e, h⟩ := bind_some h
    refine gt_X11_287 e dX11_length_60 ?_
    obtain ⟨v8, e, h⟩ := bind_some h
    refine gt_X11_291 e dX11_length_63 ?_
    cases h
    exact v_ireturn dX11_length_66
  replace h := ifN c9_1 h
  rcases Decidable.em (l2 = 2) with c9_2 | c9_2
  · replace h := ifP c9_2 h
    refine v_tsw (tgt := 67) dX11_length_15 c9_2 (by decide) (by decide) rfl (by decide) ?_
    refine v_aload_n dX11_length_67 rfl 0 rfl ?_
    obtain ⟨v6, e, h⟩ := bind_some h
    refine gt_X11_94 e dX11_length_68 ?_
    obtain ⟨v7, e, h⟩ := bind_some h
    refine gt_X11_294 e dX11_length_71 ?_
    obtain ⟨v8, e, h⟩ := bind_some h
    refine gt_X11_291 e dX11_length_74 ?_
    cases h
    exact v_ireturn dX11_length_77
  replace h := ifN c9_2 h
  rcases Decidable.em (l2 = 3) with c9_3 | c9_3
  · replace h := ifP c9_3 h
    refine v_tsw (tgt := 78) dX11_length_15 c9_3 (by decide) (by decide) rfl (by decide) ?_
    refine v_aload_n dX11_length_78 rfl 0 rfl ?_
    obtain ⟨v6, e, h⟩ := bind_some h
    refine gt_X11_94 e dX11_length_79 ?_
    obtain ⟨v7, e, h⟩ := bind_some h
    refine gt_X11_297 e dX11_length_82 ?_
    cases h
    exact v_ireturn dX11_length_85
  replace h := ifN c9_3 h
  rcases Decidable.em (l2 = 4) with c9_4 | c9_4
  · replace h := ifP c9_4 h
    refine v_tsw (tgt := 86) dX11_length_15 c9_4 (by decide) (by decide) rfl (by decide) ?_
    refine v_aload_n dX11_length_86 rfl 0 rfl ?_
    obtain ⟨v6, e, h⟩ := bind_some h
    refine gt_X11_94 e dX11_length_87 ?_
    obtain ⟨v7, e, h⟩ := bind_some h
    refine gt_X11_155 e dX11_length_90 ?_
    cases h
    exact v_ireturn dX11_length_93
  replace h := ifN c9_4 h
  refine v_tswOut (tgt := 94) dX11_length_15 (fun k h1 h2 => by rcases (show k = 0 ∨ k = 1 ∨ k = 2 ∨ k = 3 ∨ k = 4 by omega) with rfl | rfl | rfl | rfl | rfl <;> assumption) (by decide) ?_
  cases h
  exact th_1 dX11_length_94 dX11_length_97 dX11_length_98 dX11_length_101 (by decide) (Nat.le_of_ble_eq_true rfl)
theorem kd_X11_length {l0 : Nat} {l1 : Int32} {l2 : Int32} {M : Mem} {z : _} (h : f_X11_length l0 l1 l2 M = some z) : (mK M l0).1 = 11 := by
  unfold f_X11_length at h
  exact (ifS h).1
theorem k_X11_length {G : Gl} {l0 : Nat} {l1 : Int32} {l2 : Int32} {M MF : Mem} {r : Int32 ⊕ Nat} (h : f_X11_length l0 l1 l2 M = some (r, MF)) : CtrP G yX11_length cX11_length 4 (some .int) 7 109 [.ref l0, .int l1, .int l2] M (cxI r) MF :=
  ctr_of (by decide +kernel) (Nat.le_of_ble_eq_true rfl) (fun ρ => w_X11_length l0 l1 l2 M h)
theorem w_X11_inFlight_J44 {G : Gl} {ρ0 : Nat → Nat} {M0 MF : Mem} {r : Int32 ⊕ Nat} (M : Mem) (h : f_X11_inFlight_J44 M = some (r, MF)) : V G (RX11, cX11_inFlight, (some .int), 7, 109, 6, "inFlight", []) (ρ0, M0, cxI r, MF) 44 [] [] M := by
  unfold f_X11_inFlight_J44 at h
  cases h
  exact th_3 dX11_inFlight_44 dX11_inFlight_47 dX11_inFlight_48 dX11_inFlight_51 (by decide) (Nat.le_of_ble_eq_true rfl)
set_option maxHeartbeats 4000000 in
set_option maxRecDepth 100000 in
theorem w_X11_inFlight {G : Gl} {ρ0 : Nat → Nat} {M0 MF : Mem} {r : Int32 ⊕ Nat} (l0 : Nat) (l1 : Int32) (l2 : Int32) (l3 : Int32) (M : Mem) (h : f_X11_inFlight l0 l1 l2 l3 M = some (r, MF)) : V G (RX11, cX11_inFlight, (some .int), 7, 109, 6, "inFlight", []) (ρ0, M0, cxI r, MF) 0 [(0, .ref l0), (1, .int l1), (2, .int l2), (3, .int l3)] [] M := by
  unfold f_X11_inFlight at h
  replace h := (ifS h).2
  refine v_iload_n dX11_inFlight_0 rfl 1 rfl ?_
  rcases bindX_some h with ⟨u2, M1, e, h⟩ | ⟨e9, e, rfl⟩
  rotate_left
  · exact cx_X11_73 e dX11_inFlight_1 (Nat.le_of_ble_eq_true rfl) (by decide)
  refine ca_X11_73 e dX11_inFlight_1 (Nat.le_of_ble_eq_true rfl) (by decide) ?_
  refine v_aload_n dX11_inFlight_4 rfl 0 rfl ?_
  obtain ⟨v3, e, h⟩ := bind_some h
  refine gt_X11_41 e dX11_inFlight_5 ?_
  obtain ⟨v4, e, h⟩ := bind_some h
  refine gt_X11_77 e dX11_inFlight_8 ?_
  refine v_iload_n dX11_inFlight_11 rfl 1 rfl ?_
  obtain ⟨v5, e, h⟩ := bind_some h
  refine al_0 e dX11_inFlight_12 ?_
  obtain ⟨v6, e, h⟩ := bind_some h
  refine gt_X11_94 e dX11_inFlight_13 ?_
  obtain ⟨v7, e, h⟩ := bind_some h
  refine gt_X11_287 e dX11_inFlight_16 ?_
  refine v_astore (ls' := [(4, .ref v7), (0, .ref l0), (1, .int l1), (2, .int l2), (3, .int l3)]) dX11_inFlight_19 (by decide) rfl ?_
  refine v_iload_n dX11_inFlight_21 rfl 3 rfl ?_
  refine v_if_lt (tgt := 44) dX11_inFlight_22 (by decide) (fun c17 => ?_) (fun c17 => ?_)
  · replace h := ifP c17 h
    refine v_sub [] rfl ?_
    exact w_X11_inFlight_J44 M1 h
  · replace h := ifN c17 h
    refine v_iload_n dX11_inFlight_25 rfl 3 rfl ?_
    refine v_aload dX11_inFlight_26 0 rfl ?_
    obtain ⟨v8, e, h⟩ := bind_some h
    refine gt_X11_291 e dX11_inFlight_28 ?_
    refine v_icmp_ge (tgt := 44) dX11_inFlight_31 (by decide) (fun c16 => ?_) (fun c16 => ?_)
    · replace h := ifP c16 h
      refine v_sub [] rfl ?_
      exact w_X11_inFlight_J44 M1 h
    · replace h := ifN c16 h
      refine v_iload_n dX11_inFlight_34 rfl 3 rfl ?_
      refine v_aload dX11_inFlight_35 0 rfl ?_
      obtain ⟨v9, e, h⟩ := bind_some h
      refine gt_X11_300 e dX11_inFlight_37 ?_
      obtain ⟨v10, e, h⟩ := bind_some h
      refine v_alen dX11_inFlight_40 e ?_
      refine v_icmp_lt (tgt := 52) dX11_inFlight_41 (by decide) (fun c15 => ?_) (fun c15 => ?_)
      · replace h := ifP c15 h
        refine v_aload dX11_inFlight_52 0 rfl ?_
        obtain ⟨v11, e, h⟩ := bind_some h
        refine gt_X11_300 e dX11_inFlight_54 ?_
        refine v_iload_n dX11_inFlight_57 rfl 3 rfl ?_
        obtain ⟨v12, e, h⟩ := bind_some h
        refine al_1 e dX11_inFlight_58 ?_
        refine v_astore (ls' := [(5, .ref v12), (4, .ref v7), (0, .ref l0), (1, .int l1), (2, .int l2), (3, .int l3)]) dX11_inFlight_59 (by decide) rfl ?_
        refine v_iload_n dX11_inFlight_61 rfl 5 rfl ?_
        rcases Decidable.em (l3 = 0) with c14_0 | c14_0
        · replace h := ifP c14_0 h
          refine v_tsw (tgt := 96) dX11_inFlight_62 c14_0 (by decide) (by decide) rfl (by decide) ?_
          refine v_aload dX11_inFlight_96 0 rfl ?_
          obtain ⟨v13, e, h⟩ := bind_some h
          refine gt_X11_304 e dX11_inFlight_98 ?_
          cases h
          exact v_ireturn dX11_inFlight_101
        replace h := ifN c14_0 h
        rcases Decidable.em (l3 = 1) with c14_1 | c14_1
        · replace h := ifP c14_1 h
          refine v_tsw (tgt := 102) dX11_inFlight_62 c14_1 (by decide) (by decide) rfl (by decide) ?_
          refine v_aload dX11_inFlight_102 0 rfl ?_
          obtain ⟨v13, e, h⟩ := bind_some h
          refine gt_X11_305 e dX11_inFlight_104 ?_
          cases h
          exact v_ireturn dX11_inFlight_107
        replace h := ifN c14_1 h
        rcases Decidable.em (l3 = 2) with c14_2 | c14_2
        · replace h := ifP c14_2 h
          refine v_tsw (tgt := 108) dX11_inFlight_62 c14_2 (by decide) (by decide) rfl (by decide) ?_
          refine v_aload dX11_inFlight_108 0 rfl ?_
          obtain ⟨v13, e, h⟩ := bind_some h
          refine gt_X11_306 e dX11_inFlight_110 ?_
          cases h
          exact v_ireturn dX11_inFlight_113
        replace h := ifN c14_2 h
        rcases Decidable.em (l3 = 3) with c14_3 | c14_3
        · replace h := ifP c14_3 h
          refine v_tsw (tgt := 114) dX11_inFlight_62 c14_3 (by decide) (by decide) rfl (by decide) ?_
          refine v_aload dX11_inFlight_114 0 rfl ?_
          obtain ⟨v13, e, h⟩ := bind_some h
          refine gt_X11_307 e dX11_inFlight_116 ?_
          cases h
          exact v_ireturn dX11_inFlight_119
        replace h := ifN c14_3 h
        rcases Decidable.em (l3 = 4) with c14_4 | c14_4
        · replace h := ifP c14_4 h
          refine v_tsw (tgt := 120) dX11_inFlight_62 c14_4 (by decide) (by decide) rfl (by decide) ?_
          refine v_aload dX11_inFlight_120 0 rfl ?_
          obtain ⟨v13, e, h⟩ := bind_some h
          refine gt_X11_310 e dX11_inFlight_122 ?_
          cases h
          exact v_ireturn dX11_inFlight_125
        replace h := ifN c14_4 h
        refine v_tswOut (tgt := 126) dX11_inFlight_62 (fun k h1 h2 => by rcases (show k = 0 ∨ k = 1 ∨ k = 2 ∨ k = 3 ∨ k = 4 by omega) with rfl | rfl | rfl | rfl | rfl <;> assumption) (by decide) ?_
        cases h
        exact th_1 dX11_inFlight_126 dX11_inFlight_129 dX11_inFlight_130 dX11_inFlight_133 (by decide) (Nat.le_of_ble_eq_true rfl)
      · replace h := ifN c15 h
        refine v_sub [] rfl ?_
        exact w_X11_inFlight_J44 M1 h
theorem kd_X11_inFlight {l0 : Nat} {l1 : Int32} {l2 : Int32} {l3 : Int32} {M : Mem} {z : _} (h : f_X11_inFlight l0 l1 l2 l3 M = some z) : (mK M l0).1 = 11 := by
  unfold f_X11_inFlight at h
  exact (ifS h).1
theorem k_X11_inFlight {G : Gl} {l0 : Nat} {l1 : Int32} {l2 : Int32} {l3 : Int32} {M MF : Mem} {r : Int32 ⊕ Nat} (h : f_X11_inFlight l0 l1 l2 l3 M = some (r, MF)) : CtrP G yX11_inFlight cX11_inFlight 6 (some .int) 7 109 [.ref l0, .int l1, .int l2, .int l3] M (cxI r) MF :=
  ctr_of (by decide +kernel) (Nat.le_of_ble_eq_true rfl) (fun ρ => w_X11_inFlight l0 l1 l2 l3 M h)
set_option maxHeartbeats 4000000 in
set_option maxRecDepth 100000 in
theorem w_X11_advance_L9 {G : Gl} {ρ0 : Nat → Nat} {M0 MF : Mem} {r : Int32 ⊕ Nat} : ∀ (n : Nat) (l0 : Nat) (l1 : Int32) (l2 : Int32) (M : Mem), f_X11_advance_L9 n l0 l1 l2 M = some (r, MF) → V G (RX11, cX11_advance, (some .int), 7, 134, 3, "advance", []) (ρ0, M0, cxI r, MF) 9 [(0, .ref l0), (1, .int l1), (2, .int l2)] [] M := by
  intro n
  induction n with
  | zero => intro l0 l1 l2 M h; cases h
  | succ n ih =>
    intro l0 l1 l2 M h
    rw [f_X11_advance_L9] at h
    refine v_iload_n dX11_advance_9 rfl 2 rfl ?_
    refine v_iload_n dX11_advance_10 rfl 1 rfl ?_
    refine v_icmp_ge (tgt := 27) dX11_advance_11 (by decide) (fun c3 => ?_) (fun c3 => ?_)
    · replace h := ifP c3 h
      refine v_aload_n dX11_advance_27 rfl 0 rfl ?_
      obtain ⟨v1, e, h⟩ := bind_some h
      refine gt_X11_41 e dX11_advance_28 ?_
      obtain ⟨v2, e, h⟩ := bind_some h
      refine gt_X11_316 e dX11_advance_31 ?_
      cases h
      exact v_ireturn dX11_advance_34
    · replace h := ifN c3 h
      refine v_aload_n dX11_advance_14 rfl 0 rfl ?_
      obtain ⟨v1, e, h⟩ := bind_some h
      refine gt_X11_41 e dX11_advance_15 ?_
      obtain ⟨M2, e, h⟩ := bind_some h
      refine ca_X11_313 e dX11_advance_18 (Nat.le_of_ble_eq_true rfl) (by decide) ?_
      refine v_iinc (ls' := [(2, .int (l2 + 1)), (0, .ref l0), (1, .int l1)]) dX11_advance_21 2 rfl (v := 1) ci_1 (by decide) rfl ?_
      refine v_goto (tgt := 9) dX11_advance_24 (by decide) ?_
      refine v_sub [1, 2, 0] rfl ?_
      exact ih l0 l1 (l2 + 1) M2 h
set_option maxHeartbeats 4000000 in
set_option maxRecDepth 100000 in
theorem w_X11_advance {G : Gl} {ρ0 : Nat → Nat} {M0 MF : Mem} {r : Int32 ⊕ Nat} (l0 : Nat) (l1 : Int32) (M : Mem) (h : f_X11_advance l0 l1 M = some (r, MF)) : V G (RX11, cX11_advance, (some .int), 7, 134, 3, "advance", []) (ρ0, M0, cxI r, MF) 0 [(0, .ref l0), (1, .int l1)] [] M := by
  unfold f_X11_advance at h
  replace h := (ifS h).2
  refine v_iload_n dX11_advance_0 rfl 1 rfl ?_
  refine v_iconst (v := 1) dX11_advance_1 ci_1 ?_
  refine v_bipush (v := 100) dX11_advance_2 cb_100 ?_
  rcases bindX_some h with ⟨u2, M1, e, h⟩ | ⟨e9, e, rfl⟩
  rotate_left
  · exact cx_X11_131 e dX11_advance_4 (Nat.le_of_ble_eq_true rfl) (by decide)
  refine ca_X11_131 e dX11_advance_4 (Nat.le_of_ble_eq_true rfl) (by decide) ?_
  refine v_iconst (v := 0) dX11_advance_7 ci_0 ?_
  refine v_istore_n (ls' := [(2, .int (0 : Int32)), (0, .ref l0), (1, .int l1)]) dX11_advance_8 rfl (by decide) rfl ?_
  refine v_sub [1, 2, 0] rfl ?_
  exact w_X11_advance_L9 FU l0 l1 (0 : Int32) M1 h
theorem kd_X11_advance {l0 : Nat} {l1 : Int32} {M : Mem} {z : _} (h : f_X11_advance l0 l1 M = some z) : (mK M l0).1 = 11 := by
  unfold f_X11_advance at h
  exact (ifS h).1
theorem k_X11_advance {G : Gl} {l0 : Nat} {l1 : Int32} {M MF : Mem} {r : Int32 ⊕ Nat} (h : f_X11_advance l0 l1 M = some (r, MF)) : CtrP G yX11_advance cX11_advance 3 (some .int) 7 134 [.ref l0, .int l1] M (cxI r) MF :=
  ctr_of (by decide +kernel) (Nat.le_of_ble_eq_true rfl) (fun ρ => w_X11_advance l0 l1 M h)
set_option maxHeartbeats 4000000 in
set_option maxRecDepth 100000 in
theorem w_X11_load {G : Gl} {ρ0 : Nat → Nat} {M0 MF : Mem} {r : Int32 ⊕ Nat} (l0 : Nat) (l1 : Int32) (M : Mem) (h : f_X11_load l0 l1 M = some (r, MF)) : V G (RX11, cX11_load, (some .int), 7, 109, 2, "load", []) (ρ0, M0, cxI r, MF) 0 [(0, .ref l0), (1, .int l1)] [] M := by
  unfold f_X11_load at h
  replace h := (ifS h).2
  refine v_iload_n dX11_load_0 rfl 1 rfl ?_
  rcases bindX_some h with ⟨u2, M1, e, h⟩ | ⟨e9, e, rfl⟩
  rotate_left
  · exact cx_X11_73 e dX11_load_1 (Nat.le_of_ble_eq_true rfl) (by decide)
  refine ca_X11_73 e dX11_load_1 (Nat.le_of_ble_eq_true rfl) (by decide) ?_
  refine v_aload_n dX11_load_4 rfl 0 rfl ?_
  obtain ⟨v3, e, h⟩ := bind_some h
  refine gt_X11_41 e dX11_load_5 ?_
  obtain ⟨v4, e, h⟩ := bind_some h
  refine gt_X11_77 e dX11_load_8 ?_
  refine v_iload_n dX11_load_11 rfl 1 rfl ?_
  obtain ⟨v5, e, h⟩ := bind_some h
  refine al_0 e dX11_load_12 ?_
  obtain ⟨v6, e, h⟩ := bind_some h
  refine gt_X11_319 e dX11_load_13 ?_
  refine kf_X11_323 dX11_load_16 ?_
  obtain ⟨v7, e, h⟩ := bind_some h
  refine v_fmul dX11_load_19 e ?_
  refine v_f2i dX11_load_20 ?_
  cases h
  exact v_ireturn dX11_load_21
theorem kd_X11_load {l0 : Nat} {l1 : Int32} {M : Mem} {z : _} (h : f_X11_load l0 l1 M = some z) : (mK M l0).1 = 11 := by
  unfold f_X11_load at h
  exact (ifS h).1
theorem k_X11_load {G : Gl} {l0 : Nat} {l1 : Int32} {M MF : Mem} {r : Int32 ⊕ Nat} (h : f_X11_load l0 l1 M = some (r, MF)) : CtrP G yX11_load cX11_load 2 (some .int) 7 109 [.ref l0, .int l1] M (cxI r) MF :=
  ctr_of (by decide +kernel) (Nat.le_of_ble_eq_true rfl) (fun ρ => w_X11_load l0 l1 M h)
set_option maxHeartbeats 4000000 in
set_option maxRecDepth 100000 in
theorem w_X11_retainedCount {G : Gl} {ρ0 : Nat → Nat} {M0 MF : Mem} {r : Int32} (l0 : Nat) (M : Mem) (h : f_X11_retainedCount l0 M = some (r, MF)) : V G (RX11, cX11_retainedCount, (some .int), 0, 0, 1, "retainedCount", []) (ρ0, M0, cvI r, MF) 0 [(0, .ref l0)] [] M := by
  unfold f_X11_retainedCount at h
  replace h := (ifS h).2
  refine v_aload_n dX11_retainedCount_0 rfl 0 rfl ?_
  obtain ⟨v1, e, h⟩ := bind_some h
  refine gt_X11_41 e dX11_retainedCount_1 ?_
  obtain ⟨v2, e, h⟩ := bind_some h
  refine gt_X11_324 e dX11_retainedCount_4 ?_
  cases h
  exact v_ireturn dX11_retainedCount_7
theorem kd_X11_retainedCount {l0 : Nat} {M : Mem} {z : _} (h : f_X11_retainedCount l0 M = some z) : (mK M l0).1 = 11 := by
  unfold f_X11_retainedCount at h
  exact (ifS h).1
theorem k_X11_retainedCount {G : Gl} {l0 : Nat} {M MF : Mem} {r : Int32} (h : f_X11_retainedCount l0 M = some (r, MF)) : CtrP G yX11_retainedCount cX11_retainedCount 1 (some .int) 0 0 [.ref l0] M (cvI r) MF :=
  ctr_of (by decide +kernel) (Nat.le_of_ble_eq_true rfl) (fun ρ => w_X11_retainedCount l0 M h)
