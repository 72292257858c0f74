set_option maxHeartbeats 4000000 in
set_option maxRecDepth 100000 in
theorem w_X1_init {G : Gl} {ρ0 : Nat → Nat} {M0 MF : Mem} {r : Unit} (l0 : Nat) (l1 : Nat) (M : Mem) (h : f_X1_init l0 l1 M = some MF) : V G (RX1, cX1_init, none, 1, 20, 2, "<init>", []) (ρ0, M0, cvV r, MF) 0 [(0, .ref l0), (1, .ref l1)] [] M := by
  unfold f_X1_init at h
  refine v_aload_n dX1_init_0 rfl 0 rfl ?_
  refine oi_X1 dX1_init_1 (by decide) (Nat.le_of_ble_eq_true rfl) ?_
  refine v_aload_n dX1_init_4 rfl 0 rfl ?_
  refine v_aload_n dX1_init_5 rfl 1 rfl ?_
  obtain ⟨M1, e, h⟩ := bind_some h
  refine pt_X1_7 e dX1_init_6 ?_
  cases h
  exact v_vreturn dX1_init_9
theorem k_X1_init {G : Gl} {l0 : Nat} {l1 : Nat} {M MF : Mem} (h : f_X1_init l0 l1 M = some MF) : CtrP G yX1_init cX1_init 2 none 1 20 [.ref l0, .ref l1] M (cvV ()) MF :=
  ctr_of (by decide +kernel) (Nat.le_of_ble_eq_true rfl) (fun ρ => w_X1_init (r := ()) l0 l1 M h)
theorem wd_X11_33 : wdI RX11 33 yX1_init cX1_init 2 1 := ⟨gwi 124 (by decide +kernel) (by decide +kernel), gwi 125 (by decide +kernel) (by decide +kernel), nw_X1, gwi 126 (by decide +kernel) (by decide +kernel), rfl, ⟨by decide +kernel, by decide +kernel, by decide +kernel⟩⟩
theorem ca_X11_33 {G : Gl} {B : Bx} {cc : ByteArray} {ret : Option FieldType} {fr lo nL : Nat} {mn : String} {hh : List (Nat × Nat × Nat × Nat)} {pc : Nat} {ls : List (Nat × Value)} {st : List Value} {M M1 : Mem} {l0 : Nat} {l1 : Nat} (e : f_X1_init l0 l1 M = some M1) (hd : decode cc pc = .ok (.invokespecial 33, 3)) (hcat : (st.map fun v => v.category).sum ≤ 8) (hR : 1 + 1 ≤ fr ∧ 8 + (2 + 11) + 20 ≤ lo) (k : V G (RX11, cc, ret, fr, lo, nL, mn, hh) B (pc + 3) ls (st) M1) : V G (RX11, cc, ret, fr, lo, nL, mn, hh) B pc ls (.ref l1 :: .ref l0 :: st) M := v_callI (As := [.ref l1]) (k_X1_init e) wd_X11_33 hd rfl rfl hcat hR k
theorem wd_X0_9 : wdI RX0 9 yX1_init cX1_init 2 1 := ⟨gwi 178 (by decide +kernel) (by decide +kernel), gwi 125 (by decide +kernel) (by decide +kernel), nw_X1, gwi 126 (by decide +kernel) (by decide +kernel), rfl, ⟨by decide +kernel, by decide +kernel, by decide +kernel⟩⟩
theorem ca_X0_9 {G : Gl} {B : Bx} {cc : ByteArray} {ret : Option FieldType} {fr lo nL : Nat} {mn : String} {hh : List (Nat × Nat × Nat × Nat)} {pc : Nat} {ls : List (Nat × Value)} {st : List Value} {M M1 : Mem} {l0 : Nat} {l1 : Nat} (e : f_X1_init l0 l1 M = some M1) (hd : decode cc pc = .ok (.invokespecial 9, 3)) (hcat : (st.map fun v => v.category).sum ≤ 8) (hR : 1 + 1 ≤ fr ∧ 8 + (2 + 11) + 20 ≤ lo) (k : V G (RX0, cc, ret, fr, lo, nL, mn, hh) B (pc + 3) ls (st) M1) : V G (RX0, cc, ret, fr, lo, nL, mn, hh) B pc ls (.ref l1 :: .ref l0 :: st) M := v_callI (As := [.ref l1]) (k_X1_init e) wd_X0_9 hd rfl rfl hcat hR k
theorem wd_X2_21 : wdI RX2 21 yX1_init cX1_init 2 1 := ⟨gwi 244 (by decide +kernel) (by decide +kernel), gwi 125 (by decide +kernel) (by decide +kernel), nw_X1, gwi 126 (by decide +kernel) (by decide +kernel), rfl, ⟨by decide +kernel, by decide +kernel, by decide +kernel⟩⟩
theorem ca_X2_21 {G : Gl} {B : Bx} {cc : ByteArray} {ret : Option FieldType} {fr lo nL : Nat} {mn : String} {hh : List (Nat × Nat × Nat × Nat)} {pc : Nat} {ls : List (Nat × Value)} {st : List Value} {M M1 : Mem} {l0 : Nat} {l1 : Nat} (e : f_X1_init l0 l1 M = some M1) (hd : decode cc pc = .ok (.invokespecial 21, 3)) (hcat : (st.map fun v => v.category).sum ≤ 8) (hR : 1 + 1 ≤ fr ∧ 8 + (2 + 11) + 20 ≤ lo) (k : V G (RX2, cc, ret, fr, lo, nL, mn, hh) B (pc + 3) ls (st) M1) : V G (RX2, cc, ret, fr, lo, nL, mn, hh) B pc ls (.ref l1 :: .ref l0 :: st) M := v_callI (As := [.ref l1]) (k_X1_init e) wd_X2_21 hd rfl rfl hcat hR k
theorem wd_X7_37 : wdI RX7 37 yX1_init cX1_init 2 1 := ⟨gwi 367 (by decide +kernel) (by decide +kernel), gwi 125 (by decide +kernel) (by decide +kernel), nw_X1, gwi 126 (by decide +kernel) (by decide +kernel), rfl, ⟨by decide +kernel, by decide +kernel, by decide +kernel⟩⟩
theorem ca_X7_37 {G : Gl} {B : Bx} {cc : ByteArray} {ret : Option FieldType} {fr lo nL : Nat} {mn : String} {hh : List (Nat × Nat × Nat × Nat)} {pc : Nat} {ls : List (Nat × Value)} {st : List Value} {M M1 : Mem} {l0 : Nat} {l1 : Nat} (e : f_X1_init l0 l1 M = some M1) (hd : decode cc pc = .ok (.invokespecial 37, 3)) (hcat : (st.map fun v => v.category).sum ≤ 8) (hR : 1 + 1 ≤ fr ∧ 8 + (2 + 11) + 20 ≤ lo) (k : V G (RX7, cc, ret, fr, lo, nL, mn, hh) B (pc + 3) ls (st) M1) : V G (RX7, cc, ret, fr, lo, nL, mn, hh) B pc ls (.ref l1 :: .ref l0 :: st) M := v_callI (As := [.ref l1]) (k_X1_init e) wd_X7_37 hd rfl rfl hcat hR k
set_option maxHeartbeats 4000000 in
set_option maxRecDepth 100000 in
theorem w_X3_init {G : Gl} {ρ0 : Nat → Nat} {M0 MF : Mem} {r : Unit} (l0 : Nat) (l1 : Nat) (M : Mem) (h : f_X3_init l0 l1 M = some MF) : V G (RX3, cX3_init, none, 1, 20, 2, "<init>", []) (ρ0, M0, cvV r, MF) 0 [(0, .ref l0), (1, .ref l1)] [] M := by
  unfold f_X3_init at h
  refine v_aload_n dX3_init_0 rfl 0 rfl ?_
  refine oi_X3 dX3_init_1 (by decide) (Nat.le_of_ble_eq_true rfl) ?_
  refine v_aload_n dX3_init_4 rfl 0 rfl ?_
  refine v_aload_n dX3_init_5 rfl 1 rfl ?_
  obtain ⟨M1, e, h⟩ := bind_some h
  refine pt_X3_7 e dX3_init_6 ?_
  cases h
  exact v_vreturn dX3_init_9
theorem k_X3_init {G : Gl} {l0 : Nat} {l1 : Nat} {M MF : Mem} (h : f_X3_init l0 l1 M = some MF) : CtrP G yX3_init cX3_init 2 none 1 20 [.ref l0, .ref l1] M (cvV ()) MF :=
  ctr_of (by decide +kernel) (Nat.le_of_ble_eq_true rfl) (fun ρ => w_X3_init (r := ()) l0 l1 M h)
theorem wd_X11_24 : wdI RX11 24 yX3_init cX3_init 2 1 := ⟨gwi 92 (by decide +kernel) (by decide +kernel), gwi 93 (by decide +kernel) (by decide +kernel), nw_X3, gwi 94 (by decide +kernel) (by decide +kernel), rfl, ⟨by decide +kernel, by decide +kernel, by decide +kernel⟩⟩
theorem ca_X11_24 {G : Gl} {B : Bx} {cc : ByteArray} {ret : Option FieldType} {fr lo nL : Nat} {mn : String} {hh : List (Nat × Nat × Nat × Nat)} {pc : Nat} {ls : List (Nat × Value)} {st : List Value} {M M1 : Mem} {l0 : Nat} {l1 : Nat} (e : f_X3_init l0 l1 M = some M1) (hd : decode cc pc = .ok (.invokespecial 24, 3)) (hcat : (st.map fun v => v.category).sum ≤ 8) (hR : 1 + 1 ≤ fr ∧ 8 + (2 + 11) + 20 ≤ lo) (k : V G (RX11, cc, ret, fr, lo, nL, mn, hh) B (pc + 3) ls (st) M1) : V G (RX11, cc, ret, fr, lo, nL, mn, hh) B pc ls (.ref l1 :: .ref l0 :: st) M := v_callI (As := [.ref l1]) (k_X3_init e) wd_X11_24 hd rfl rfl hcat hR k
theorem wd_X4_17 : wdI RX4 17 yX3_init cX3_init 2 1 := ⟨gwi 187 (by decide +kernel) (by decide +kernel), gwi 93 (by decide +kernel) (by decide +kernel), nw_X3, gwi 94 (by decide +kernel) (by decide +kernel), rfl, ⟨by decide +kernel, by decide +kernel, by decide +kernel⟩⟩
theorem ca_X4_17 {G : Gl} {B : Bx} {cc : ByteArray} {ret : Option FieldType} {fr lo nL : Nat} {mn : String} {hh : List (Nat × Nat × Nat × Nat)} {pc : Nat} {ls : List (Nat × Value)} {st : List Value} {M M1 : Mem} {l0 : Nat} {l1 : Nat} (e : f_X3_init l0 l1 M = some M1) (hd : decode cc pc = .ok (.invokespecial 17, 3)) (hcat : (st.map fun v => v.category).sum ≤ 8) (hR : 1 + 1 ≤ fr ∧ 8 + (2 + 11) + 20 ≤ lo) (k : V G (RX4, cc, ret, fr, lo, nL, mn, hh) B (pc + 3) ls (st) M1) : V G (RX4, cc, ret, fr, lo, nL, mn, hh) B pc ls (.ref l1 :: .ref l0 :: st) M := v_callI (As := [.ref l1]) (k_X3_init e) wd_X4_17 hd rfl rfl hcat hR k
set_option maxHeartbeats 4000000 in
set_option maxRecDepth 100000 in
theorem w_X4_init_L15 {G : Gl} {ρ0 : Nat → Nat} {M0 MF : Mem} {r : Unit} : ∀ (n : Nat) (l0 : Nat) (l1 : Nat) (l2 : Int32) (M : Mem), f_X4_init_L15 n l0 l1 l2 M = some MF → V G (RX4, cX4_init, none, 2, 41, 3, "<init>", []) (ρ0, M0, cvV r, MF) 15 [(0, .ref l0), (1, .ref l1), (2, .int l2)] [] M := by
  intro n
  induction n with
  | zero => intro l0 l1 l2 M h; cases h
  | succ n ih =>
    intro l0 l1 l2 M h
    rw [f_X4_init_L15] at h
    refine v_iload_n dX4_init_15 rfl 2 rfl ?_
    refine v_bipush (v := 30) dX4_init_16 cb_30 ?_
    refine v_icmp_ge (tgt := 41) dX4_init_18 (by decide) (fun c6 => ?_) (fun c6 => ?_)
    · replace h := ifP c6 h
      cases h
      exact v_vreturn dX4_init_41
    · replace h := ifN c6 h
      refine v_aload_n dX4_init_21 rfl 0 rfl ?_
      obtain ⟨v1, e, h⟩ := bind_some h
      refine gt_X4_11 e dX4_init_22 ?_
      refine v_iload_n dX4_init_25 rfl 2 rfl ?_
      obtain ⟨v2, M3, e, h⟩ := bindP_some h
      refine nx_X4_9 e dX4_init_26 ?_
      refine v_dup dX4_init_29 rfl ?_
      refine v_aload_n dX4_init_30 rfl 1 rfl ?_
      obtain ⟨M4, e, h⟩ := bind_some h
      refine ca_X4_17 e dX4_init_31 (Nat.le_of_ble_eq_true rfl) (by decide) ?_
      obtain ⟨M5, e, h⟩ := bind_some h
      refine as_3 e dX4_init_34 ?_
      refine v_iinc (ls' := [(2, .int (l2 + 1)), (0, .ref l0), (1, .ref l1)]) dX4_init_35 2 rfl (v := 1) ci_1 (by decide) rfl ?_
      refine v_goto (tgt := 15) dX4_init_38 (by decide) ?_
      refine v_sub [1, 2, 0] rfl ?_
      exact ih l0 l1 (l2 + 1) M5 h
set_option maxHeartbeats 4000000 in
set_option maxRecDepth 100000 in
theorem w_X4_init {G : Gl} {ρ0 : Nat → Nat} {M0 MF : Mem} {r : Unit} (l0 : Nat) (l1 : Nat) (M : Mem) (h : f_X4_init l0 l1 M = some MF) : V G (RX4, cX4_init, none, 2, 41, 3, "<init>", []) (ρ0, M0, cvV r, MF) 0 [(0, .ref l0), (1, .ref l1)] [] M := by
  unfold f_X4_init at h
  refine v_aload_n dX4_init_0 rfl 0 rfl ?_
  refine oi_X4 dX4_init_1 (by decide) (Nat.le_of_ble_eq_true rfl) ?_
  refine v_aload_n dX4_init_4 rfl 0 rfl ?_
  refine v_bipush (v := 30) dX4_init_5 cb_30 ?_
  obtain ⟨v1, M2, e, h⟩ := bindP_some h
  refine na_X4_9 e dX4_init_7 ?_
  obtain ⟨M3, e, h⟩ := bind_some h
  refine pt_X4_11 e dX4_init_10 ?_
  refine v_iconst (v := 0) dX4_init_13 ci_0 ?_
  refine v_istore_n (ls' := [(2, .int (0 : Int32)), (0, .ref l0), (1, .ref l1)]) dX4_init_14 rfl (by decide) rfl ?_
  refine v_sub [1, 2, 0] rfl ?_
  exact w_X4_init_L15 FU l0 l1 (0 : Int32) M3 h
theorem k_X4_init {G : Gl} {l0 : Nat} {l1 : Nat} {M MF : Mem} (h : f_X4_init l0 l1 M = some MF) : CtrP G yX4_init cX4_init 3 none 2 41 [.ref l0, .ref l1] M (cvV ()) MF :=
  ctr_of (by decide +kernel) (Nat.le_of_ble_eq_true rfl) (fun ρ => w_X4_init (r := ()) l0 l1 M h)
theorem wd_X0_20 : wdI RX0 20 yX4_init cX4_init 3 1 := ⟨gwi 181 (by decide +kernel) (by decide +kernel), gwi 182 (by decide +kernel) (by decide +kernel), nw_X4, gwi 183 (by decide +kernel) (by decide +kernel), rfl, ⟨by decide +kernel, by decide +kernel, by decide +kernel⟩⟩
theorem ca_X0_20 {G : Gl} {B : Bx} {cc : ByteArray} {ret : Option FieldType} {fr lo nL : Nat} {mn : String} {hh : List (Nat × Nat × Nat × Nat)} {pc : Nat} {ls : List (Nat × Value)} {st : List Value} {M M1 : Mem} {l0 : Nat} {l1 : Nat} (e : f_X4_init l0 l1 M = some M1) (hd : decode cc pc = .ok (.invokespecial 20, 3)) (hcat : (st.map fun v => v.category).sum ≤ 8) (hR : 2 + 1 ≤ fr ∧ 8 + (3 + 11) + 41 ≤ lo) (k : V G (RX0, cc, ret, fr, lo, nL, mn, hh) B (pc + 3) ls (st) M1) : V G (RX0, cc, ret, fr, lo, nL, mn, hh) B pc ls (.ref l1 :: .ref l0 :: st) M := v_callI (As := [.ref l1]) (k_X4_init e) wd_X0_20 hd rfl rfl hcat hR k
set_option maxHeartbeats 4000000 in
set_option maxRecDepth 100000 in
theorem w_X8_init {G : Gl} {ρ0 : Nat → Nat} {M0 MF : Mem} {r : Unit} (l0 : Nat) (l1 : Nat) (M : Mem) (h : f_X8_init l0 l1 M = some MF) : V G (RX8, cX8_init, none, 1, 20, 2, "<init>", []) (ρ0, M0, cvV r, MF) 0 [(0, .ref l0), (1, .ref l1)] [] M := by
  unfold f_X8_init at h
  refine v_aload_n dX8_init_0 rfl 0 rfl ?_
  refine oi_X8 dX8_init_1 (by decide) (Nat.le_of_ble_eq_true rfl) ?_
  refine v_aload_n dX8_init_4 rfl 0 rfl ?_
  refine v_aload_n dX8_init_5 rfl 1 rfl ?_
  obtain ⟨M1, e, h⟩ := bind_some h
  refine pt_X8_7 e dX8_init_6 ?_
  cases h
  exact v_vreturn dX8_init_9
theorem k_X8_init {G : Gl} {l0 : Nat} {l1 : Nat} {M MF : Mem} (h : f_X8_init l0 l1 M = some MF) : CtrP G yX8_init cX8_init 2 none 1 20 [.ref l0, .ref l1] M (cvV ()) MF :=
  ctr_of (by decide +kernel) (Nat.le_of_ble_eq_true rfl) (fun ρ => w_X8_init (r := ()) l0 l1 M h)
theorem wd_X5_21 : wdI RX5 21 yX8_init cX8_init 2 1 := ⟨gwi 209 (by decide +kernel) (by decide +kernel), gwi 210 (by decide +kernel) (by decide +kernel), nw_X8, gwi 211 (by decide +kernel) (by decide +kernel), rfl, ⟨by decide +kernel, by decide +kernel, by decide +kernel⟩⟩
theorem ca_X5_21 {G : Gl} {B : Bx} {cc : ByteArray} {ret : Option FieldType} {fr lo nL : Nat} {mn : String} {hh : List (Nat × Nat × Nat × Nat)} {pc : Nat} {ls : List (Nat × Value)} {st : List Value} {M M1 : Mem} {l0 : Nat} {l1 : Nat} (e : f_X8_init l0 l1 M = some M1) (hd : decode cc pc = .ok (.invokespecial 21, 3)) (hcat : (st.map fun v => v.category).sum ≤ 8) (hR : 1 + 1 ≤ fr ∧ 8 + (2 + 11) + 20 ≤ lo) (k : V G (RX5, cc, ret, fr, lo, nL, mn, hh) B (pc + 3) ls (st) M1) : V G (RX5, cc, ret, fr, lo, nL, mn, hh) B pc ls (.ref l1 :: .ref l0 :: st) M := v_callI (As := [.ref l1]) (k_X8_init e) wd_X5_21 hd rfl rfl hcat hR k
set_option maxHeartbeats 4000000 in
set_option maxRecDepth 100000 in
theorem w_X2_init_L18 {G : Gl} {ρ0 : Nat → Nat} {M0 MF : Mem} {r : Unit} : ∀ (n : Nat) (l0 : Nat) (l2 : Nat) (l3 : Int32) (M : Mem), f_X2_init_L18 n l0 l2 l3 M = some MF → V G (RX2, cX2_init, none, 2, 41, 4, "<init>", []) (ρ0, M0, cvV r, MF) 18 [(0, .ref l0), (2, .ref l2), (3, .int l3)] [] M := by
  intro n
  induction n with
  | zero => intro l0 l2 l3 M h; cases h
  | succ n ih =>
    intro l0 l2 l3 M h
    rw [f_X2_init_L18] at h
    refine v_iload_n dX2_init_18 rfl 2 rfl ?_
    refine v_aload_n dX2_init_19 rfl 0 rfl ?_
    obtain ⟨v1, e, h⟩ := bind_some h
    refine gt_X2_15 e dX2_init_20 ?_
    obtain ⟨v2, e, h⟩ := bind_some h
    refine v_alen dX2_init_23 e ?_
    refine v_icmp_ge (tgt := 47) dX2_init_24 (by decide) (fun c8 => ?_) (fun c8 => ?_)
    · replace h := ifP c8 h
      cases h
      exact v_vreturn dX2_init_47
    · replace h := ifN c8 h
      refine v_aload_n dX2_init_27 rfl 0 rfl ?_
      obtain ⟨v3, e, h⟩ := bind_some h
      refine gt_X2_15 e dX2_init_28 ?_
      refine v_iload_n dX2_init_31 rfl 2 rfl ?_
      obtain ⟨v4, M5, e, h⟩ := bindP_some h
      refine nx_X2_13 e dX2_init_32 ?_
      refine v_dup dX2_init_35 rfl ?_
      refine v_aload_n dX2_init_36 rfl 1 rfl ?_
      obtain ⟨M6, e, h⟩ := bind_some h
      refine ca_X2_21 e dX2_init_37 (Nat.le_of_ble_eq_true rfl) (by decide) ?_
      obtain ⟨M7, e, h⟩ := bind_some h
      refine as_1 e dX2_init_40 ?_
      refine v_iinc (ls' := [(3, .int (l3 + 1)), (0, .ref l0), (2, .ref l2)]) dX2_init_41 2 rfl (v := 1) ci_1 (by decide) rfl ?_
      refine v_goto (tgt := 18) dX2_init_44 (by decide) ?_
      refine v_sub [1, 2, 0] rfl ?_
      exact ih l0 l2 (l3 + 1) M7 h
set_option maxHeartbeats 4000000 in
set_option maxRecDepth 100000 in
theorem w_X2_init {G : Gl} {ρ0 : Nat → Nat} {M0 MF : Mem} {r : Unit} (l0 : Nat) (l1 : Int32) (l2 : Nat) (M : Mem) (h : f_X2_init l0 l1 l2 M = some MF) : V G (RX2, cX2_init, none, 2, 41, 4, "<init>", []) (ρ0, M0, cvV r, MF) 0 [(0, .ref l0), (1, .int l1), (2, .ref l2)] [] M := by
  unfold f_X2_init at h
  refine v_aload_n dX2_init_0 rfl 0 rfl ?_
  refine oi_X2 dX2_init_1 (by decide) (Nat.le_of_ble_eq_true rfl) ?_
  refine v_aload_n dX2_init_4 rfl 0 rfl ?_
  refine v_iconst (v := 1) dX2_init_5 ci_1 ?_
  refine v_iload_n dX2_init_6 rfl 1 rfl ?_
  refine mx_X2_7 dX2_init_7 (by decide) (Nat.le_of_ble_eq_true rfl) ?_
  obtain ⟨v1, M2, e, h⟩ := bindP_some h
  refine na_X2_13 e dX2_init_10 ?_
  obtain ⟨M3, e, h⟩ := bind_some h
  refine pt_X2_15 e dX2_init_13 ?_
  refine v_iconst (v := 0) dX2_init_16 ci_0 ?_
  refine v_istore_n (ls' := [(3, .int (0 : Int32)), (0, .ref l0), (1, .int l1), (2, .ref l2)]) dX2_init_17 rfl (by decide) rfl ?_
  refine v_sub [1, 3, 0] rfl ?_
  exact w_X2_init_L18 FU l0 l2 (0 : Int32) M3 h
theorem k_X2_init {G : Gl} {l0 : Nat} {l1 : Int32} {l2 : Nat} {M MF : Mem} (h : f_X2_init l0 l1 l2 M = some MF) : CtrP G yX2_init cX2_init 4 none 2 41 [.ref l0, .int l1, .ref l2] M (cvV ()) MF :=
  ctr_of (by decide +kernel) (Nat.le_of_ble_eq_true rfl) (fun ρ => w_X2_init (r := ()) l0 l1 l2 M h)
theorem wd_X5_26 : wdI RX5 26 yX2_init cX2_init 4 2 := ⟨gwi 237 (by decide +kernel) (by decide +kernel), gwi 238 (by decide +kernel) (by decide +kernel), nw_X2, gwi 239 (by decide +kernel) (by decide +kernel), rfl, ⟨by decide +kernel, by decide +kernel, by decide +kernel⟩⟩
theorem ca_X5_26 {G : Gl} {B : Bx} {cc : ByteArray} {ret : Option FieldType} {fr lo nL : Nat} {mn : String} {hh : List (Nat × Nat × Nat × Nat)} {pc : Nat} {ls : List (Nat × Value)} {st : List Value} {M M1 : Mem} {l0 : Nat} {l1 : Int32} {l2 : Nat} (e : f_X2_init l0 l1 l2 M = some M1) (hd : decode cc pc = .ok (.invokespecial 26, 3)) (hcat : (st.map fun v => v.category).sum ≤ 8) (hR : 2 + 1 ≤ fr ∧ 8 + (4 + 11) + 41 ≤ lo) (k : V G (RX5, cc, ret, fr, lo, nL, mn, hh) B (pc + 3) ls (st) M1) : V G (RX5, cc, ret, fr, lo, nL, mn, hh) B pc ls (.ref l2 :: .int l1 :: .ref l0 :: st) M := v_callI (As := [.int l1, .ref l2]) (k_X2_init e) wd_X5_26 hd rfl rfl hcat hR k
set_option maxHeartbeats 4000000 in
set_option maxRecDepth 100000 in
theorem w_X5_init_L23 {G : Gl} {ρ0 : Nat → Nat} {M0 MF : Mem} {r : Unit} : ∀ (n : Nat) (l0 : Nat) (l1 : Nat) (l2 : Int32) (M : Mem), f_X5_init_L23 n l0 l1 l2 M = some MF → V G (RX5, cX5_init, none, 3, 64, 3, "<init>", []) (ρ0, M0, cvV r, MF) 23 [(0, .ref l0), (1, .ref l1), (2, .int l2)] [] M := by
  intro n
  induction n with
  | zero => intro l0 l1 l2 M h; cases h
  | succ n ih =>
    intro l0 l1 l2 M h
    rw [f_X5_init_L23] at h
    refine v_iload_n dX5_init_23 rfl 2 rfl ?_
    refine v_bipush (v := 6) dX5_init_24 cb_6 ?_
    refine v_icmp_ge (tgt := 49) dX5_init_26 (by decide) (fun c9 => ?_) (fun c9 => ?_)
    · replace h := ifP c9 h
      refine v_aload_n dX5_init_49 rfl 0 rfl ?_
      obtain ⟨v1, M2, e, h⟩ := bindP_some h
      refine nx_X5_24 e dX5_init_50 ?_
      refine v_dup dX5_init_53 rfl ?_
      refine v_iconst (v := 5) dX5_init_54 ci_5 ?_
      refine v_aload_n dX5_init_55 rfl 1 rfl ?_
      obtain ⟨M3, e, h⟩ := bind_some h
      refine ca_X5_26 e dX5_init_56 (Nat.le_of_ble_eq_true rfl) (by decide) ?_
      obtain ⟨M4, e, h⟩ := bind_some h
      refine pt_X5_29 e dX5_init_59 ?_
      refine v_aload_n dX5_init_62 rfl 0 rfl ?_
      obtain ⟨v5, M6, e, h⟩ := bindP_some h
      refine nx_X5_24 e dX5_init_63 ?_
      refine v_dup dX5_init_66 rfl ?_
      refine v_bipush (v := 8) dX5_init_67 cb_8 ?_
      refine v_aload_n dX5_init_69 rfl 1 rfl ?_
      obtain ⟨M7, e, h⟩ := bind_some h
      refine ca_X5_26 e dX5_init_70 (Nat.le_of_ble_eq_true rfl) (by decide) ?_
      obtain ⟨M8, e, h⟩ := bind_some h
      refine pt_X5_33 e dX5_init_73 ?_
      cases h
      exact v_vreturn dX5_init_76
    · replace h := ifN c9 h
      refine v_aload_n dX5_init_29 rfl 0 rfl ?_
      obtain ⟨v1, e, h⟩ := bind_some h
      refine gt_X5_17 e dX5_init_30 ?_
      refine v_iload_n dX5_init_33 rfl 2 rfl ?_
      obtain ⟨v2, M3, e, h⟩ := bindP_some h
      refine nx_X5_15 e dX5_init_34 ?_
      refine v_dup dX5_init_37 rfl ?_
      refine v_aload_n dX5_init_38 rfl 1 rfl ?_
      obtain ⟨M4, e, h⟩ := bind_some h
      refine ca_X5_21 e dX5_init_39 (Nat.le_of_ble_eq_true rfl) (by decide) ?_
      obtain ⟨M5, e, h⟩ := bind_some h
      refine as_8 e dX5_init_42 ?_
      refine v_iinc (ls' := [(2, .int (l2 + 1)), (0, .ref l0), (1, .ref l1)]) dX5_init_43 2 rfl (v := 1) ci_1 (by decide) rfl ?_
      refine v_goto (tgt := 23) dX5_init_46 (by decide) ?_
      refine v_sub [1, 2, 0] rfl ?_
      exact ih l0 l1 (l2 + 1) M5 h
set_option maxHeartbeats 4000000 in
set_option maxRecDepth 100000 in
theorem w_X5_init {G : Gl} {ρ0 : Nat → Nat} {M0 MF : Mem} {r : Unit} (l0 : Nat) (l1 : Nat) (M : Mem) (h : f_X5_init l0 l1 M = some MF) : V G (RX5, cX5_init, none, 3, 64, 3, "<init>", []) (ρ0, M0, cvV r, MF) 0 [(0, .ref l0), (1, .ref l1)] [] M := by
  unfold f_X5_init at h
  refine v_aload_n dX5_init_0 rfl 0 rfl ?_
  refine oi_X5 dX5_init_1 (by decide) (Nat.le_of_ble_eq_true rfl) ?_
  refine v_aload_n dX5_init_4 rfl 0 rfl ?_
  refine v_bipush (v := 51) dX5_init_5 cb_51 ?_
  obtain ⟨v1, M2, e, h⟩ := bindP_some h
  refine v_newa_boolean dX5_init_7 aw_boolean e ?_
  obtain ⟨M3, e, h⟩ := bind_some h
  refine pt_X5_9 e dX5_init_9 ?_
  refine v_aload_n dX5_init_12 rfl 0 rfl ?_
  refine v_bipush (v := 6) dX5_init_13 cb_6 ?_
  obtain ⟨v4, M5, e, h⟩ := bindP_some h
  refine na_X5_15 e dX5_init_15 ?_
  obtain ⟨M6, e, h⟩ := bind_some h
  refine pt_X5_17 e dX5_init_18 ?_
  refine v_iconst (v := 0) dX5_init_21 ci_0 ?_
  refine v_istore_n (ls' := [(2, .int (0 : Int32)), (0, .ref l0), (1, .ref l1)]) dX5_init_22 rfl (by decide) rfl ?_
  refine v_sub [1, 2, 0] rfl ?_
  exact w_X5_init_L23 FU l0 l1 (0 : Int32) M6 h
theorem k_X5_init {G : Gl} {l0 : Nat} {l1 : Nat} {M MF : Mem} (h : f_X5_init l0 l1 M = some MF) : CtrP G yX5_init cX5_init 3 none 3 64 [.ref l0, .ref l1] M (cvV ()) MF :=
  ctr_of (by decide +kernel) (Nat.le_of_ble_eq_true rfl) (fun ρ => w_X5_init (r := ()) l0 l1 M h)
theorem wd_X0_27 : wdI RX0 27 yX5_init cX5_init 3 1 := ⟨gwi 202 (by decide +kernel) (by decide +kernel), gwi 203 (by decide +kernel) (by decide +kernel), nw_X5, gwi 204 (by decide +kernel) (by decide +kernel), rfl, ⟨by decide +kernel, by decide +kernel, by decide +kernel⟩⟩
theorem ca_X0_27 {G : Gl} {B : Bx} {cc : ByteArray} {ret : Option FieldType} {fr lo nL : Nat} {mn : String} {hh : List (Nat × Nat × Nat × Nat)} {pc : Nat} {ls : List (Nat × Value)} {st : List Value} {M M1 : Mem} {l0 : Nat} {l1 : Nat} (e : f_X5_init l0 l1 M = some M1) (hd : decode cc pc = .ok (.invokespecial 27, 3)) (hcat : (st.map fun v => v.category).sum ≤ 8) (hR : 3 + 1 ≤ fr ∧ 8 + (3 + 11) + 64 ≤ lo) (k : V G (RX0, cc, ret, fr, lo, nL, mn, hh) B (pc + 3) ls (st) M1) : V G (RX0, cc, ret, fr, lo, nL, mn, hh) B pc ls (.ref l1 :: .ref l0 :: st) M := v_callI (As := [.ref l1]) (k_X5_init e) wd_X0_27 hd rfl rfl hcat hR k
set_option maxHeartbeats 4000000 in
set_option maxRecDepth 100000 in
theorem w_X0_init {G : Gl} {ρ0 : Nat → Nat} {M0 MF : Mem} {r : Unit} (l0 : Nat) (l1 : Nat) (M : Mem) (h : f_X0_init l0 l1 M = some MF) : V G (RX0, cX0_init, none, 4, 86, 2, "<init>", []) (ρ0, M0, cvV r, MF) 0 [(0, .ref l0), (1, .ref l1)] [] M := by
  unfold f_X0_init at h
  refine v_aload_n dX0_init_0 rfl 0 rfl ?_
  refine oi_X0 dX0_init_1 (by decide) (Nat.le_of_ble_eq_true rfl) ?_
  refine v_aload_n dX0_init_4 rfl 0 rfl ?_
  obtain ⟨v1, M2, e, h⟩ := bindP_some h
  refine nx_X0_7 e dX0_init_5 ?_
  refine v_dup dX0_init_8 rfl ?_
  refine v_aload_n dX0_init_9 rfl 1 rfl ?_
  obtain ⟨M3, e, h⟩ := bind_some h
  refine ca_X0_9 e dX0_init_10 (Nat.le_of_ble_eq_true rfl) (by decide) ?_
  obtain ⟨M4, e, h⟩ := bind_some h
  refine pt_X0_12 e dX0_init_13 ?_
  refine v_aload_n dX0_init_16 rfl 0 rfl ?_
  obtain ⟨v5, M6, e, h⟩ := bindP_some h
  refine nx_X0_18 e dX0_init_17 ?_
  refine v_dup dX0_init_20 rfl ?_
  refine v_aload_n dX0_init_21 rfl 1 rfl ?_
  obtain ⟨M7, e, h⟩ := bind_some h
  refine ca_X0_20 e dX0_init_22 (Nat.le_of_ble_eq_true rfl) (by decide) ?_
  obtain ⟨M8, e, h⟩ := bind_some h
  refine pt_X0_21 e dX0_init_25 ?_
  refine v_aload_n dX0_init_28 rfl 0 rfl ?_
  obtain ⟨v9, M10, e, h⟩ := bindP_some h
  refine nx_X0_25 e dX0_init_29 ?_
  refine v_dup dX0_init_32 rfl ?_
  refine v_aload_n dX0_init_33 rfl 1 rfl ?_
  obtain ⟨M11, e, h⟩ := bind_some h
  refine ca_X0_27 e dX0_init_34 (Nat.le_of_ble_eq_true rfl) (by decide) ?_
  obtain ⟨M12, e, h⟩ := bind_some h
  refine pt_X0_28 e dX0_init_37 ?_
  cases h
  exact v_vreturn dX0_init_40
theorem k_X0_init {G : Gl} {l0 : Nat} {l1 : Nat} {M MF : Mem} (h : f_X0_init l0 l1 M = some MF) : CtrP G yX0_init cX0_init 2 none 4 86 [.ref l0, .ref l1] M (cvV ()) MF :=
  ctr_of (by decide +kernel) (Nat.le_of_ble_eq_true rfl) (fun ρ => w_X0_init (r := ()) l0 l1 M h)
theorem wd_X7_21 : wdI RX7 21 yX0_init cX0_init 2 1 := ⟨gwi 173 (by decide +kernel) (by decide +kernel), gwi 174 (by decide +kernel) (by decide +kernel), nw_X0, gwi 175 (by decide +kernel) (by decide +kernel), rfl, ⟨by decide +kernel, by decide +kernel, by decide +kernel⟩⟩
theorem ca_X7_21 {G : Gl} {B : Bx} {cc : ByteArray} {ret : Option FieldType} {fr lo nL : Nat} {mn : String} {hh : List (Nat × Nat × Nat × Nat)} {pc : Nat} {ls : List (Nat × Value)} {st : List Value} {M M1 : Mem} {l0 : Nat} {l1 : Nat} (e : f_X0_init l0 l1 M = some M1) (hd : decode cc pc = .ok (.invokespecial 21, 3)) (hcat : (st.map fun v => v.category).sum ≤ 8) (hR : 4 + 1 ≤ fr ∧ 8 + (2 + 11) + 86 ≤ lo) (k : V G (RX7, cc, ret, fr, lo, nL, mn, hh) B (pc + 3) ls (st) M1) : V G (RX7, cc, ret, fr, lo, nL, mn, hh) B pc ls (.ref l1 :: .ref l0 :: st) M := v_callI (As := [.ref l1]) (k_X0_init e) wd_X7_21 hd rfl rfl hcat hR k
set_option maxHeartbeats 4000000 in
set_option maxRecDepth 100000 in
theorem w_X1_copyFrom {G : Gl} {ρ0 : Nat → Nat} {M0 MF : Mem} {r : Unit} (l0 : Nat) (l1 : Nat) (M : Mem) (h : f_X1_copyFrom l0 l1 M = some MF) : V G (RX1, cX1_copyFrom, none, 0, 0, 2, "copyFrom", []) (ρ0, M0, cvV r, MF) 0 [(0, .ref l0), (1, .ref l1)] [] M := by
  unfold f_X1_copyFrom at h
  replace h := (ifS h).2
  refine v_aload_n dX1_copyFrom_0 rfl 0 rfl ?_
  refine v_aload_n dX1_copyFrom_1 rfl 1 rfl ?_
  obtain ⟨v1, e, h⟩ := bind_some h
  refine gt_X1_7 e dX1_copyFrom_2 ?_
  obtain ⟨M2, e, h⟩ := bind_some h
  refine pt_X1_7 e dX1_copyFrom_5 ?_
  refine v_aload_n dX1_copyFrom_8 rfl 0 rfl ?_
  refine v_aload_n dX1_copyFrom_9 rfl 1 rfl ?_
  obtain ⟨v3, e, h⟩ := bind_some h
  refine gt_X1_13 e dX1_copyFrom_10 ?_
  obtain ⟨M4, e, h⟩ := bind_some h
  refine pt_X1_13 e dX1_copyFrom_13 ?_
  refine v_aload_n dX1_copyFrom_16 rfl 0 rfl ?_
  refine v_aload_n dX1_copyFrom_17 rfl 1 rfl ?_
  obtain ⟨v5, e, h⟩ := bind_some h
  refine gt_X1_17 e dX1_copyFrom_18 ?_
  obtain ⟨M6, e, h⟩ := bind_some h
  refine pt_X1_17 e dX1_copyFrom_21 ?_
  refine v_aload_n dX1_copyFrom_24 rfl 0 rfl ?_
  refine v_aload_n dX1_copyFrom_25 rfl 1 rfl ?_
  obtain ⟨v7, e, h⟩ := bind_some h
  refine gt_X1_20 e dX1_copyFrom_26 ?_
  obtain ⟨M8, e, h⟩ := bind_some h
  refine pt_X1_20 e dX1_copyFrom_29 ?_
  refine v_aload_n dX1_copyFrom_32 rfl 0 rfl ?_
  refine v_aload_n dX1_copyFrom_33 rfl 1 rfl ?_
  obtain ⟨v9, e, h⟩ := bind_some h
  refine gt_X1_23 e dX1_copyFrom_34 ?_
  obtain ⟨M10, e, h⟩ := bind_some h
  refine pt_X1_23 e dX1_copyFrom_37 ?_
  refine v_aload_n dX1_copyFrom_40 rfl 0 rfl ?_
  refine v_aload_n dX1_copyFrom_41 rfl 1 rfl ?_
  obtain ⟨v11, e, h⟩ := bind_some h
  refine gt_X1_26 e dX1_copyFrom_42 ?_
  obtain ⟨M12, e, h⟩ := bind_some h
  refine pt_X1_26 e dX1_copyFrom_45 ?_
  refine v_aload_n dX1_copyFrom_48 rfl 0 rfl ?_
  refine v_aload_n dX1_copyFrom_49 rfl 1 rfl ?_
  obtain ⟨v13, e, h⟩ := bind_some h
  refine gt_X1_29 e dX1_copyFrom_50 ?_
  obtain ⟨M14, e, h⟩ := bind_some h
  refine pt_X1_29 e dX1_copyFrom_53 ?_
  cases h
  exact v_vreturn dX1_copyFrom_56
theorem kd_X1_copyFrom {l0 : Nat} {l1 : Nat} {M : Mem} {z : _} (h : f_X1_copyFrom l0 l1 M = some z) : (mK M l0).1 = 1 := by
  unfold f_X1_copyFrom at h
  exact (ifS h).1
theorem k_X1_copyFrom {G : Gl} {l0 : Nat} {l1 : Nat} {M MF : Mem} (h : f_X1_copyFrom l0 l1 M = some MF) : CtrP G yX1_copyFrom cX1_copyFrom 2 none 0 0 [.ref l0, .ref l1] M (cvV ()) MF :=
  ctr_of (by decide +kernel) (Nat.le_of_ble_eq_true rfl) (fun ρ => w_X1_copyFrom (r := ()) l0 l1 M h)
theorem wd_X0_42 : wdV RX0 42 RX1 yX1_copyFrom cX1_copyFrom 2 none 1 := ⟨gwi 535 (by decide +kernel) (by decide +kernel), gwi 536 (by decide +kernel) (by decide +kernel), gwi 537 (by decide +kernel) (by decide +kernel), nw_X1, gwi 538 (by decide +kernel) (by decide +kernel), ⟨rfl, by decide +kernel, by decide +kernel, by decide +kernel⟩⟩
theorem ca_X0_42 {G : Gl} {B : Bx} {cc : ByteArray} {ret : Option FieldType} {fr lo nL : Nat} {mn : String} {hh : List (Nat × Nat × Nat × Nat)} {pc : Nat} {ls : List (Nat × Value)} {st : List Value} {M M1 : Mem} {l0 : Nat} {l1 : Nat} (e : f_X1_copyFrom l0 l1 M = some M1) (hd : decode cc pc = .ok (.invokevirtual 42, 3)) (hcat : (st.map fun v => v.category).sum ≤ 8) (hR : 0 + 1 ≤ fr ∧ 8 + (2 + 11) + 0 ≤ lo) (k : V G (RX0, cc, ret, fr, lo, nL, mn, hh) B (pc + 3) ls (st) M1) : V G (RX0, cc, ret, fr, lo, nL, mn, hh) B pc ls (.ref l1 :: .ref l0 :: st) M := v_callV0 (As := [.ref l1]) (k_X1_copyFrom e) wd_X0_42 clX1 (kd_X1_copyFrom e) hd rfl rfl hcat hR k
theorem wd_X2_28 : wdV RX2 28 RX1 yX1_copyFrom cX1_copyFrom 2 none 1 := ⟨gwi 559 (by decide +kernel) (by decide +kernel), gwi 536 (by decide +kernel) (by decide +kernel), gwi 537 (by decide +kernel) (by decide +kernel), nw_X1, gwi 538 (by decide +kernel) (by decide +kernel), ⟨rfl, by decide +kernel, by decide +kernel, by decide +kernel⟩⟩
theorem ca_X2_28 {G : Gl} {B : Bx} {cc : ByteArray} {ret : Option FieldType} {fr lo nL : Nat} {mn : String} {hh : List (Nat × Nat × Nat × Nat)} {pc : Nat} {ls : List (Nat × Value)} {st : List Value} {M M1 : Mem} {l0 : Nat} {l1 : Nat} (e : f_X1_copyFrom l0 l1 M = some M1) (hd : decode cc pc = .ok (.invokevirtual 28, 3)) (hcat : (st.map fun v => v.category).sum ≤ 8) (hR : 0 + 1 ≤ fr ∧ 8 + (2 + 11) + 0 ≤ lo) (k : V G (RX2, cc, ret, fr, lo, nL, mn, hh) B (pc + 3) ls (st) M1) : V G (RX2, cc, ret, fr, lo, nL, mn, hh) B pc ls (.ref l1 :: .ref l0 :: st) M := v_callV0 (As := [.ref l1]) (k_X1_copyFrom e) wd_X2_28 clX1 (kd_X1_copyFrom e) hd rfl rfl hcat hR k
theorem wd_X7_73 : wdV RX7 73 RX1 yX1_copyFrom cX1_copyFrom 2 none 1 := ⟨gwi 564 (by decide +kernel) (by decide +kernel), gwi 536 (by decide +kernel) (by decide +kernel), gwi 537 (by decide +kernel) (by decide +kernel), nw_X1, gwi 538 (by decide +kernel) (by decide +kernel), ⟨rfl, by decide +kernel, by decide +kernel, by decide +kernel⟩⟩
theorem ca_X7_73 {G : Gl} {B : Bx} {cc : ByteArray} {ret : Option FieldType} {fr lo nL : Nat} {mn : String} {hh : List (Nat × Nat × Nat × Nat)} {pc : Nat} {ls : List (Nat × Value)} {st : List Value} {M M1 : Mem} {l0 : Nat} {l1 : Nat} (e : f_X1_copyFrom l0 l1 M = some M1) (hd : decode cc pc = .ok (.invokevirtual 73, 3)) (hcat : (st.map fun v => v.category).sum ≤ 8) (hR : 0 + 1 ≤ fr ∧ 8 + (2 + 11) + 0 ≤ lo) (k : V G (RX7, cc, ret, fr, lo, nL, mn, hh) B (pc + 3) ls (st) M1) : V G (RX7, cc, ret, fr, lo, nL, mn, hh) B pc ls (.ref l1 :: .ref l0 :: st) M := v_callV0 (As := [.ref l1]) (k_X1_copyFrom e) wd_X7_73 clX1 (kd_X1_copyFrom e) hd rfl rfl hcat hR k
set_option maxHeartbeats 4000000 in
set_option maxRecDepth 100000 in
theorem w_X3_copyFrom {G : Gl} {ρ0 : Nat → Nat} {M0 MF : Mem} {r : Unit} (l0 : Nat) (l1 : Nat) (M : Mem) (h : f_X3_copyFrom l0 l1 M = some MF) : V G (RX3, cX3_copyFrom, none, 0, 0, 2, "copyFrom", []) (ρ0, M0, cvV r, MF) 0 [(0, .ref l0), (1, .ref l1)] [] M := by
  unfold f_X3_copyFrom at h
  replace h := (ifS h).2
  refine v_aload_n dX3_copyFrom_0 rfl 0 rfl ?_
  refine v_aload_n dX3_copyFrom_1 rfl 1 rfl ?_
  obtain ⟨v1, e, h⟩ := bind_some h
  refine gt_X3_13 e dX3_copyFrom_2 ?_
  obtain ⟨M2, e, h⟩ := bind_some h
  refine pt_X3_13 e dX3_copyFrom_5 ?_
  refine v_aload_n dX3_copyFrom_8 rfl 0 rfl ?_
  refine v_aload_n dX3_copyFrom_9 rfl 1 rfl ?_
  obtain ⟨v3, e, h⟩ := bind_some h
  refine gt_X3_17 e dX3_copyFrom_10 ?_
  obtain ⟨M4, e, h⟩ := bind_some h
  refine pt_X3_17 e dX3_copyFrom_13 ?_
  refine v_aload_n dX3_copyFrom_16 rfl 0 rfl ?_
  refine v_aload_n dX3_copyFrom_17 rfl 1 rfl ?_
  obtain ⟨v5, e, h⟩ := bind_some h
  refine gt_X3_20 e dX3_copyFrom_18 ?_
  obtain ⟨M6, e, h⟩ := bind_some h
  refine pt_X3_20 e dX3_copyFrom_21 ?_
  refine v_aload_n dX3_copyFrom_24 rfl 0 rfl ?_
  refine v_aload_n dX3_copyFrom_25 rfl 1 rfl ?_
  obtain ⟨v7, e, h⟩ := bind_some h
  refine gt_X3_23 e dX3_copyFrom_26 ?_
  obtain ⟨M8, e, h⟩ := bind_some h
  refine pt_X3_23 e dX3_copyFrom_29 ?_
  refine v_aload_n dX3_copyFrom_32 rfl 0 rfl ?_
  refine v_aload_n dX3_copyFrom_33 rfl 1 rfl ?_
  obtain ⟨v9, e, h⟩ := bind_some h
  refine gt_X3_26 e dX3_copyFrom_34 ?_
  obtain ⟨M10, e, h⟩ := bind_some h
  refine pt_X3_26 e dX3_copyFrom_37 ?_
  refine v_aload_n dX3_copyFrom_40 rfl 0 rfl ?_
  refine v_aload_n dX3_copyFrom_41 rfl 1 rfl ?_
  obtain ⟨v11, e, h⟩ := bind_some h
  refine gt_X3_7 e dX3_copyFrom_42 ?_
  obtain ⟨M12, e, h⟩ := bind_some h
  refine pt_X3_7 e dX3_copyFrom_45 ?_
  cases h
  exact v_vreturn dX3_copyFrom_48
theorem kd_X3_copyFrom {l0 : Nat} {l1 : Nat} {M : Mem} {z : _} (h : f_X3_copyFrom l0 l1 M = some z) : (mK M l0).1 = 3 := by
  unfold f_X3_copyFrom at h
  exact (ifS h).1
theorem k_X3_copyFrom {G : Gl} {l0 : Nat} {l1 : Nat} {M MF : Mem} (h : f_X3_copyFrom l0 l1 M = some MF) : CtrP G yX3_copyFrom cX3_copyFrom 2 none 0 0 [.ref l0, .ref l1] M (cvV ()) MF :=
  ctr_of (by decide +kernel) (Nat.le_of_ble_eq_true rfl) (fun ρ => w_X3_copyFrom (r := ()) l0 l1 M h)
theorem wd_X11_255 : wdV RX11 255 RX3 yX3_copyFrom cX3_copyFrom 2 none 1 := ⟨gwi 1101 (by decide +kernel) (by decide +kernel), gwi 544 (by decide +kernel) (by decide +kernel), gwi 545 (by decide +kernel) (by decide +kernel), nw_X3, gwi 546 (by decide +kernel) (by decide +kernel), ⟨rfl, by decide +kernel, by decide +kernel, by decide +kernel⟩⟩
theorem ca_X11_255 {G : Gl} {B : Bx} {cc : ByteArray} {ret : Option FieldType} {fr lo nL : Nat} {mn : String} {hh : List (Nat × Nat × Nat × Nat)} {pc : Nat} {ls : List (Nat × Value)} {st : List Value} {M M1 : Mem} {l0 : Nat} {l1 : Nat} (e : f_X3_copyFrom l0 l1 M = some M1) (hd : decode cc pc = .ok (.invokevirtual 255, 3)) (hcat : (st.map fun v => v.category).sum ≤ 8) (hR : 0 + 1 ≤ fr ∧ 8 + (2 + 11) + 0 ≤ lo) (k : V G (RX11, cc, ret, fr, lo, nL, mn, hh) B (pc + 3) ls (st) M1) : V G (RX11, cc, ret, fr, lo, nL, mn, hh) B pc ls (.ref l1 :: .ref l0 :: st) M := v_callV0 (As := [.ref l1]) (k_X3_copyFrom e) wd_X11_255 clX3 (kd_X3_copyFrom e) hd rfl rfl hcat hR k
theorem wd_X4_27 : wdV RX4 27 RX3 yX3_copyFrom cX3_copyFrom 2 none 1 := ⟨gwi 543 (by decide +kernel) (by decide +kernel), gwi 544 (by decide +kernel) (by decide +kernel), gwi 545 (by decide +kernel) (by decide +kernel), nw_X3, gwi 546 (by decide +kernel) (by decide +kernel), ⟨rfl, by decide +kernel, by decide +kernel, by decide +kernel⟩⟩
theorem ca_X4_27 {G : Gl} {B : Bx} {cc : ByteArray} {ret : Option FieldType} {fr lo nL : Nat} {mn : String} {hh : List (Nat × Nat × Nat × Nat)} {pc : Nat} {ls : List (Nat × Value)} {st : List Value} {M M1 : Mem} {l0 : Nat} {l1 : Nat} (e : f_X3_copyFrom l0 l1 M = some M1) (hd : decode cc pc = .ok (.invokevirtual 27, 3)) (hcat : (st.map fun v => v.category).sum ≤ 8) (hR : 0 + 1 ≤ fr ∧ 8 + (2 + 11) + 0 ≤ lo) (k : V G (RX4, cc, ret, fr, lo, nL, mn, hh) B (pc + 3) ls (st) M1) : V G (RX4, cc, ret, fr, lo, nL, mn, hh) B pc ls (.ref l1 :: .ref l0 :: st) M := v_callV0 (As := [.ref l1]) (k_X3_copyFrom e) wd_X4_27 clX3 (kd_X3_copyFrom e) hd rfl rfl hcat hR k
set_option maxHeartbeats 4000000 in
set_option maxRecDepth 100000 in
theorem w_X4_copyFrom_L15 {G : Gl} {ρ0 : Nat → Nat} {M0 MF : Mem} {r : Unit} : ∀ (n : Nat) (l0 : Nat) (l1 : Nat) (l2 : Int32) (M : Mem), f_X4_copyFrom_L15 n l0 l1 l2 M = some MF → V G (RX4, cX4_copyFrom, none, 1, 21, 3, "copyFrom", []) (ρ0, M0, cvV r, MF) 15 [(0, .ref l0), (1, .ref l1), (2, .int l2)] [] M := by
  intro n
  induction n with
  | zero => intro l0 l1 l2 M h; cases h
  | succ n ih =>
    intro l0 l1 l2 M h
    rw [f_X4_copyFrom_L15] at h
    refine v_iload_n dX4_copyFrom_15 rfl 2 rfl ?_
    refine v_aload_n dX4_copyFrom_16 rfl 0 rfl ?_
    obtain ⟨v1, e, h⟩ := bind_some h
    refine gt_X4_24 e dX4_copyFrom_17 ?_
    refine v_icmp_ge (tgt := 58) dX4_copyFrom_20 (by decide) (fun c9 => ?_) (fun c9 => ?_)
    · replace h := ifP c9 h
      cases h
      exact v_vreturn dX4_copyFrom_58
    · replace h := ifN c9 h
      refine v_iload_n dX4_copyFrom_23 rfl 2 rfl ?_
      refine v_bipush (v := 30) dX4_copyFrom_24 cb_30 ?_
      refine v_icmp_ge (tgt := 58) dX4_copyFrom_26 (by decide) (fun c8 => ?_) (fun c8 => ?_)
      · replace h := ifP c8 h
        cases h
        exact v_vreturn dX4_copyFrom_58
      · replace h := ifN c8 h
        refine v_aload_n dX4_copyFrom_29 rfl 0 rfl ?_
        obtain ⟨v2, e, h⟩ := bind_some h
        refine gt_X4_11 e dX4_copyFrom_30 ?_
        refine v_iload_n dX4_copyFrom_33 rfl 2 rfl ?_
        obtain ⟨v3, e, h⟩ := bind_some h
        refine al_3 e dX4_copyFrom_34 ?_
        refine v_aload_n dX4_copyFrom_35 rfl 1 rfl ?_
        obtain ⟨v4, e, h⟩ := bind_some h
        refine gt_X4_11 e dX4_copyFrom_36 ?_
        refine v_aload_n dX4_copyFrom_39 rfl 1 rfl ?_
        obtain ⟨v5, e, h⟩ := bind_some h
        refine gt_X4_20 e dX4_copyFrom_40 ?_
        refine v_iload_n dX4_copyFrom_43 rfl 2 rfl ?_
        refine v_iadd dX4_copyFrom_44 ?_
        refine v_bipush (v := 30) dX4_copyFrom_45 cb_30 ?_
        refine v_irem dX4_copyFrom_47 (by decide) ?_
        obtain ⟨v6, e, h⟩ := bind_some h
        refine al_3 e dX4_copyFrom_48 ?_
        obtain ⟨M7, e, h⟩ := bind_some h
        refine ca_X4_27 e dX4_copyFrom_49 (Nat.le_of_ble_eq_true rfl) (by decide) ?_
        refine v_iinc (ls' := [(2, .int (l2 + 1)), (0, .ref l0), (1, .ref l1)]) dX4_copyFrom_52 2 rfl (v := 1) ci_1 (by decide) rfl ?_
        refine v_goto (tgt := 15) dX4_copyFrom_55 (by decide) ?_
        refine v_sub [1, 2, 0] rfl ?_
        exact ih l0 l1 (l2 + 1) M7 h
set_option maxHeartbeats 4000000 in
set_option maxRecDepth 100000 in
theorem w_X4_copyFrom {G : Gl} {ρ0 : Nat → Nat} {M0 MF : Mem} {r : Unit} (l0 : Nat) (l1 : Nat) (M : Mem) (h : f_X4_copyFrom l0 l1 M = some MF) : V G (RX4, cX4_copyFrom, none, 1, 21, 3, "copyFrom", []) (ρ0, M0, cvV r, MF) 0 [(0, .ref l0), (1, .ref l1)] [] M := by
  unfold f_X4_copyFrom at h
  replace h := (ifS h).2
  refine v_aload_n dX4_copyFrom_0 rfl 0 rfl ?_
  refine v_iconst (v := 0) dX4_copyFrom_1 ci_0 ?_
  obtain ⟨M1, e, h⟩ := bind_some h
  refine pt_X4_20 e dX4_copyFrom_2 ?_
  refine v_aload_n dX4_copyFrom_5 rfl 0 rfl ?_
  refine v_aload_n dX4_copyFrom_6 rfl 1 rfl ?_
  obtain ⟨v2, e, h⟩ := bind_some h
  refine gt_X4_24 e dX4_copyFrom_7 ?_
  obtain ⟨M3, e, h⟩ := bind_some h
  refine pt_X4_24 e dX4_copyFrom_10 ?_
  refine v_iconst (v := 0) dX4_copyFrom_13 ci_0 ?_
  refine v_istore_n (ls' := [(2, .int (0 : Int32)), (0, .ref l0), (1, .ref l1)]) dX4_copyFrom_14 rfl (by decide) rfl ?_
  refine v_sub [1, 2, 0] rfl ?_
  exact w_X4_copyFrom_L15 FU l0 l1 (0 : Int32) M3 h
theorem kd_X4_copyFrom {l0 : Nat} {l1 : Nat} {M : Mem} {z : _} (h : f_X4_copyFrom l0 l1 M = some z) : (mK M l0).1 = 4 := by
  unfold f_X4_copyFrom at h
  exact (ifS h).1
theorem k_X4_copyFrom {G : Gl} {l0 : Nat} {l1 : Nat} {M MF : Mem} (h : f_X4_copyFrom l0 l1 M = some MF) : CtrP G yX4_copyFrom cX4_copyFrom 3 none 1 21 [.ref l0, .ref l1] M (cvV ()) MF :=
  ctr_of (by decide +kernel) (Nat.le_of_ble_eq_true rfl) (fun ρ => w_X4_copyFrom (r := ()) l0 l1 M h)
theorem wd_X0_46 : wdV RX0 46 RX4 yX4_copyFrom cX4_copyFrom 3 none 1 := ⟨gwi 539 (by decide +kernel) (by decide +kernel), gwi 540 (by decide +kernel) (by decide +kernel), gwi 541 (by decide +kernel) (by decide +kernel), nw_X4, gwi 542 (by decide +kernel) (by decide +kernel), ⟨rfl, by decide +kernel, by decide +kernel, by decide +kernel⟩⟩
theorem ca_X0_46 {G : Gl} {B : Bx} {cc : ByteArray} {ret : Option FieldType} {fr lo nL : Nat} {mn : String} {hh : List (Nat × Nat × Nat × Nat)} {pc : Nat} {ls : List (Nat × Value)} {st : List Value} {M M1 : Mem} {l0 : Nat} {l1 : Nat} (e : f_X4_copyFrom l0 l1 M = some M1) (hd : decode cc pc = .ok (.invokevirtual 46, 3)) (hcat : (st.map fun v => v.category).sum ≤ 8) (hR : 1 + 1 ≤ fr ∧ 8 + (3 + 11) + 21 ≤ lo) (k : V G (RX0, cc, ret, fr, lo, nL, mn, hh) B (pc + 3) ls (st) M1) : V G (RX0, cc, ret, fr, lo, nL, mn, hh) B pc ls (.ref l1 :: .ref l0 :: st) M := v_callV0 (As := [.ref l1]) (k_X4_copyFrom e) wd_X0_46 clX4 (kd_X4_copyFrom e) hd rfl rfl hcat hR k
set_option maxHeartbeats 4000000 in
set_option maxRecDepth 100000 in
theorem w_X8_copyFrom {G : Gl} {ρ0 : Nat → Nat} {M0 MF : Mem} {r : Unit} (l0 : Nat) (l1 : Nat) (M : Mem) (h : f_X8_copyFrom l0 l1 M = some MF) : V G (RX8, cX8_copyFrom, none, 0, 0, 2, "copyFrom", []) (ρ0, M0, cvV r, MF) 0 [(0, .ref l0), (1, .ref l1)] [] M := by
  unfold f_X8_copyFrom at h
  replace h := (ifS h).2
  refine v_aload_n dX8_copyFrom_0 rfl 0 rfl ?_
  refine v_aload_n dX8_copyFrom_1 rfl 1 rfl ?_
  obtain ⟨v1, e, h⟩ := bind_some h
  refine gt_X8_7 e dX8_copyFrom_2 ?_
  obtain ⟨M2, e, h⟩ := bind_some h
  refine pt_X8_7 e dX8_copyFrom_5 ?_
  refine v_aload_n dX8_copyFrom_8 rfl 0 rfl ?_
  refine v_aload_n dX8_copyFrom_9 rfl 1 rfl ?_
  obtain ⟨v3, e, h⟩ := bind_some h
  refine gt_X8_13 e dX8_copyFrom_10 ?_
  obtain ⟨M4, e, h⟩ := bind_some h
  refine pt_X8_13 e dX8_copyFrom_13 ?_
  refine v_aload_n dX8_copyFrom_16 rfl 0 rfl ?_
  refine v_aload_n dX8_copyFrom_17 rfl 1 rfl ?_
  obtain ⟨v5, e, h⟩ := bind_some h
  refine gt_X8_17 e dX8_copyFrom_18 ?_
  obtain ⟨M6, e, h⟩ := bind_some h
  refine pt_X8_17 e dX8_copyFrom_21 ?_
  refine v_aload_n dX8_copyFrom_24 rfl 0 rfl ?_
  refine v_aload_n dX8_copyFrom_25 rfl 1 rfl ?_
  obtain ⟨v7, e, h⟩ := bind_some h
  refine gt_X8_20 e dX8_copyFrom_26 ?_
  obtain ⟨M8, e, h⟩ := bind_some h
  refine pt_X8_20 e dX8_copyFrom_29 ?_
  cases h
  exact v_vreturn dX8_copyFrom_32
theorem kd_X8_copyFrom {l0 : Nat} {l1 : Nat} {M : Mem} {z : _} (h : f_X8_copyFrom l0 l1 M = some z) : (mK M l0).1 = 8 := by
  unfold f_X8_copyFrom at h
  exact (ifS h).1
theorem k_X8_copyFrom {G : Gl} {l0 : Nat} {l1 : Nat} {M MF : Mem} (h : f_X8_copyFrom l0 l1 M = some MF) : CtrP G yX8_copyFrom cX8_copyFrom 2 none 0 0 [.ref l0, .ref l1] M (cvV ()) MF :=
  ctr_of (by decide +kernel) (Nat.le_of_ble_eq_true rfl) (fun ρ => w_X8_copyFrom (r := ()) l0 l1 M h)
theorem wd_X5_101 : wdV RX5 101 RX8 yX8_copyFrom cX8_copyFrom 2 none 1 := ⟨gwi 551 (by decide +kernel) (by decide +kernel), gwi 552 (by decide +kernel) (by decide +kernel), gwi 553 (by decide +kernel) (by decide +kernel), nw_X8, gwi 554 (by decide +kernel) (by decide +kernel), ⟨rfl, by decide +kernel, by decide +kernel, by decide +kernel⟩⟩
theorem ca_X5_101 {G : Gl} {B : Bx} {cc : ByteArray} {ret : Option FieldType} {fr lo nL : Nat} {mn : String} {hh : List (Nat × Nat × Nat × Nat)} {pc : Nat} {ls : List (Nat × Value)} {st : List Value} {M M1 : Mem} {l0 : Nat} {l1 : Nat} (e : f_X8_copyFrom l0 l1 M = some M1) (hd : decode cc pc = .ok (.invokevirtual 101, 3)) (hcat : (st.map fun v => v.category).sum ≤ 8) (hR : 0 + 1 ≤ fr ∧ 8 + (2 + 11) + 0 ≤ lo) (k : V G (RX5, cc, ret, fr, lo, nL, mn, hh) B (pc + 3) ls (st) M1) : V G (RX5, cc, ret, fr, lo, nL, mn, hh) B pc ls (.ref l1 :: .ref l0 :: st) M := v_callV0 (As := [.ref l1]) (k_X8_copyFrom e) wd_X5_101 clX8 (kd_X8_copyFrom e) hd rfl rfl hcat hR k
set_option maxHeartbeats 4000000 in
set_option maxRecDepth 100000 in
theorem w_X2_copyFrom_L10 {G : Gl} {ρ0 : Nat → Nat} {M0 MF : Mem} {r : Unit} : ∀ (n : Nat) (l0 : Nat) (l1 : Nat) (l2 : Int32) (M : Mem), f_X2_copyFrom_L10 n l0 l1 l2 M = some MF → V G (RX2, cX2_copyFrom, none, 1, 21, 3, "copyFrom", []) (ρ0, M0, cvV r, MF) 10 [(0, .ref l0), (1, .ref l1), (2, .int l2)] [] M := by
  intro n
  induction n with
  | zero => intro l0 l1 l2 M h; cases h
  | succ n ih =>
    intro l0 l1 l2 M h
    rw [f_X2_copyFrom_L10] at h
    refine v_iload_n dX2_copyFrom_10 rfl 2 rfl ?_
    refine v_aload_n dX2_copyFrom_11 rfl 0 rfl ?_
    obtain ⟨v1, e, h⟩ := bind_some h
    refine gt_X2_24 e dX2_copyFrom_12 ?_
    refine v_icmp_ge (tgt := 57) dX2_copyFrom_15 (by decide) (fun c13 => ?_) (fun c13 => ?_)
    · replace h := ifP c13 h
      cases h
      exact v_vreturn dX2_copyFrom_57
    · replace h := ifN c13 h
      refine v_iload_n dX2_copyFrom_18 rfl 2 rfl ?_
      refine v_aload_n dX2_copyFrom_19 rfl 0 rfl ?_
      obtain ⟨v2, e, h⟩ := bind_some h
      refine gt_X2_15 e dX2_copyFrom_20 ?_
      obtain ⟨v3, e, h⟩ := bind_some h
      refine v_alen dX2_copyFrom_23 e ?_
      refine v_icmp_ge (tgt := 57) dX2_copyFrom_24 (by decide) (fun c12 => ?_) (fun c12 => ?_)
      · replace h := ifP c12 h
        cases h
        exact v_vreturn dX2_copyFrom_57
      · replace h := ifN c12 h
        refine v_iload_n dX2_copyFrom_27 rfl 2 rfl ?_
        refine v_aload_n dX2_copyFrom_28 rfl 1 rfl ?_
        obtain ⟨v4, e, h⟩ := bind_some h
        refine gt_X2_15 e dX2_copyFrom_29 ?_
        obtain ⟨v5, e, h⟩ := bind_some h
        refine v_alen dX2_copyFrom_32 e ?_
        refine v_icmp_ge (tgt := 57) dX2_copyFrom_33 (by decide) (fun c11 => ?_) (fun c11 => ?_)
        · replace h := ifP c11 h
          cases h
          exact v_vreturn dX2_copyFrom_57
        · replace h := ifN c11 h
          refine v_aload_n dX2_copyFrom_36 rfl 0 rfl ?_
          obtain ⟨v6, e, h⟩ := bind_some h
          refine gt_X2_15 e dX2_copyFrom_37 ?_
          refine v_iload_n dX2_copyFrom_40 rfl 2 rfl ?_
          obtain ⟨v7, e, h⟩ := bind_some h
          refine al_1 e dX2_copyFrom_41 ?_
          refine v_aload_n dX2_copyFrom_42 rfl 1 rfl ?_
          obtain ⟨v8, e, h⟩ := bind_some h
          refine gt_X2_15 e dX2_copyFrom_43 ?_
          refine v_iload_n dX2_copyFrom_46 rfl 2 rfl ?_
          obtain ⟨v9, e, h⟩ := bind_some h
          refine al_1 e dX2_copyFrom_47 ?_
          obtain ⟨M10, e, h⟩ := bind_some h
          refine ca_X2_28 e dX2_copyFrom_48 (Nat.le_of_ble_eq_true rfl) (by decide) ?_
          refine v_iinc (ls' := [(2, .int (l2 + 1)), (0, .ref l0), (1, .ref l1)]) dX2_copyFrom_51 2 rfl (v := 1) ci_1 (by decide) rfl ?_
          refine v_goto (tgt := 10) dX2_copyFrom_54 (by decide) ?_
          refine v_sub [1, 2, 0] rfl ?_
          exact ih l0 l1 (l2 + 1) M10 h
set_option maxHeartbeats 4000000 in
set_option maxRecDepth 100000 in
theorem w_X2_copyFrom {G : Gl} {ρ0 : Nat → Nat} {M0 MF : Mem} {r : Unit} (l0 : Nat) (l1 : Nat) (M : Mem) (h : f_X2_copyFrom l0 l1 M = some MF) : V G (RX2, cX2_copyFrom, none, 1, 21, 3, "copyFrom", []) (ρ0, M0, cvV r, MF) 0 [(0, .ref l0), (1, .ref l1)] [] M := by
  unfold f_X2_copyFrom at h
  replace h := (ifS h).2
  refine v_aload_n dX2_copyFrom_0 rfl 0 rfl ?_
  refine v_aload_n dX2_copyFrom_1 rfl 1 rfl ?_
  obtain ⟨v1, e, h⟩ := bind_some h
  refine gt_X2_24 e dX2_copyFrom_2 ?_
  obtain ⟨M2, e, h⟩ := bind_some h
  refine pt_X2_24 e dX2_copyFrom_5 ?_
  refine v_iconst (v := 0) dX2_copyFrom_8 ci_0 ?_
  refine v_istore_n (ls' := [(2, .int (0 : Int32)), (0, .ref l0), (1, .ref l1)]) dX2_copyFrom_9 rfl (by decide) rfl ?_
  refine v_sub [1, 2, 0] rfl ?_
  exact w_X2_copyFrom_L10 FU l0 l1 (0 : Int32) M2 h
theorem kd_X2_copyFrom {l0 : Nat} {l1 : Nat} {M : Mem} {z : _} (h : f_X2_copyFrom l0 l1 M = some z) : (mK M l0).1 = 2 := by
  unfold f_X2_copyFrom at h
  exact (ifS h).1
theorem k_X2_copyFrom {G : Gl} {l0 : Nat} {l1 : Nat} {M MF : Mem} (h : f_X2_copyFrom l0 l1 M = some MF) : CtrP G yX2_copyFrom cX2_copyFrom 3 none 1 21 [.ref l0, .ref l1] M (cvV ()) MF :=
  ctr_of (by decide +kernel) (Nat.le_of_ble_eq_true rfl) (fun ρ => w_X2_copyFrom (r := ()) l0 l1 M h)
theorem wd_X5_105 : wdV RX5 105 RX2 yX2_copyFrom cX2_copyFrom 3 none 1 := ⟨gwi 555 (by decide +kernel) (by decide +kernel), gwi 556 (by decide +kernel) (by decide +kernel), gwi 557 (by decide +kernel) (by decide +kernel), nw_X2, gwi 558 (by decide +kernel) (by decide +kernel), ⟨rfl, by decide +kernel, by decide +kernel, by decide +kernel⟩⟩
theorem ca_X5_105 {G : Gl} {B : Bx} {cc : ByteArray} {ret : Option FieldType} {fr lo nL : Nat} {mn : String} {hh : List (Nat × Nat × Nat × Nat)} {pc : Nat} {ls : List (Nat × Value)} {st : List Value} {M M1 : Mem} {l0 : Nat} {l1 : Nat} (e : f_X2_copyFrom l0 l1 M = some M1) (hd : decode cc pc = .ok (.invokevirtual 105, 3)) (hcat : (st.map fun v => v.category).sum ≤ 8) (hR : 1 + 1 ≤ fr ∧ 8 + (3 + 11) + 21 ≤ lo) (k : V G (RX5, cc, ret, fr, lo, nL, mn, hh) B (pc + 3) ls (st) M1) : V G (RX5, cc, ret, fr, lo, nL, mn, hh) B pc ls (.ref l1 :: .ref l0 :: st) M := v_callV0 (As := [.ref l1]) (k_X2_copyFrom e) wd_X5_105 clX2 (kd_X2_copyFrom e) hd rfl rfl hcat hR k
set_option maxHeartbeats 4000000 in
set_option maxRecDepth 100000 in
theorem w_X5_copyFrom_J114 {G : Gl} {ρ0 : Nat → Nat} {M0 MF : Mem} {r : Unit} (l0 : Nat) (l1 : Nat) (M : Mem) (h : f_X5_copyFrom_J114 l0 l1 M = some MF) : V G (RX5, cX5_copyFrom, none, 2, 43, 3, "copyFrom", []) (ρ0, M0, cvV r, MF) 114 [(0, .ref l0), (1, .ref l1)] [] M := by
  unfold f_X5_copyFrom_J114 at h
  refine v_aload_n dX5_copyFrom_114 rfl 0 rfl ?_
  obtain ⟨v1, e, h⟩ := bind_some h
  refine gt_X5_29 e dX5_copyFrom_115 ?_
  refine v_aload_n dX5_copyFrom_118 rfl 1 rfl ?_
  obtain ⟨v2, e, h⟩ := bind_some h
  refine gt_X5_29 e dX5_copyFrom_119 ?_
  obtain ⟨M3, e, h⟩ := bind_some h
  refine ca_X5_105 e dX5_copyFrom_122 (Nat.le_of_ble_eq_true rfl) (by decide) ?_
  refine v_aload_n dX5_copyFrom_125 rfl 0 rfl ?_
  obtain ⟨v4, e, h⟩ := bind_some h
  refine gt_X5_33 e dX5_copyFrom_126 ?_
  refine v_aload_n dX5_copyFrom_129 rfl 1 rfl ?_
  obtain ⟨v5, e, h⟩ := bind_some h
  refine gt_X5_33 e dX5_copyFrom_130 ?_
  obtain ⟨M6, e, h⟩ := bind_some h
  refine ca_X5_105 e dX5_copyFrom_133 (Nat.le_of_ble_eq_true rfl) (by decide) ?_
  cases h
  exact v_vreturn dX5_copyFrom_136
set_option maxHeartbeats 4000000 in
set_option maxRecDepth 100000 in
theorem w_X5_copyFrom_L79 {G : Gl} {ρ0 : Nat → Nat} {M0 MF : Mem} {r : Unit} : ∀ (n : Nat) (l0 : Nat) (l1 : Nat) (l2 : Int32) (M : Mem), f_X5_copyFrom_L79 n l0 l1 l2 M = some MF → V G (RX5, cX5_copyFrom, none, 2, 43, 3, "copyFrom", []) (ρ0, M0, cvV r, MF) 79 [(0, .ref l0), (1, .ref l1), (2, .int l2)] [] M := by
  intro n
  induction n with
  | zero => intro l0 l1 l2 M h; cases h
  | succ n ih =>
    intro l0 l1 l2 M h
    rw [f_X5_copyFrom_L79] at h
    refine v_iload_n dX5_copyFrom_79 rfl 2 rfl ?_
    refine v_aload_n dX5_copyFrom_80 rfl 0 rfl ?_
    obtain ⟨v1, e, h⟩ := bind_some h
    refine gt_X5_56 e dX5_copyFrom_81 ?_
    refine v_icmp_ge (tgt := 114) dX5_copyFrom_84 (by decide) (fun c8 => ?_) (fun c8 => ?_)
    · replace h := ifP c8 h
      refine v_sub [0, 1] rfl ?_
      exact w_X5_copyFrom_J114 l0 l1 M h
    · replace h := ifN c8 h
      refine v_iload_n dX5_copyFrom_87 rfl 2 rfl ?_
      refine v_bipush (v := 6) dX5_copyFrom_88 cb_6 ?_
      refine v_icmp_ge (tgt := 114) dX5_copyFrom_90 (by decide) (fun c7 => ?_) (fun c7 => ?_)
      · replace h := ifP c7 h
        refine v_sub [0, 1] rfl ?_
        exact w_X5_copyFrom_J114 l0 l1 M h
      · replace h := ifN c7 h
        refine v_aload_n dX5_copyFrom_93 rfl 0 rfl ?_
        obtain ⟨v2, e, h⟩ := bind_some h
        refine gt_X5_17 e dX5_copyFrom_94 ?_
        refine v_iload_n dX5_copyFrom_97 rfl 2 rfl ?_
        obtain ⟨v3, e, h⟩ := bind_some h
        refine al_8 e dX5_copyFrom_98 ?_
        refine v_aload_n dX5_copyFrom_99 rfl 1 rfl ?_
        obtain ⟨v4, e, h⟩ := bind_some h
        refine gt_X5_17 e dX5_copyFrom_100 ?_
        refine v_iload_n dX5_copyFrom_103 rfl 2 rfl ?_
        obtain ⟨v5, e, h⟩ := bind_some h
        refine al_8 e dX5_copyFrom_104 ?_
        obtain ⟨M6, e, h⟩ := bind_some h
        refine ca_X5_101 e dX5_copyFrom_105 (Nat.le_of_ble_eq_true rfl) (by decide) ?_
        refine v_iinc (ls' := [(2, .int (l2 + 1)), (0, .ref l0), (1, .ref l1)]) dX5_copyFrom_108 2 rfl (v := 1) ci_1 (by decide) rfl ?_
        refine v_goto (tgt := 79) dX5_copyFrom_111 (by decide) ?_
        refine v_sub [1, 2, 0] rfl ?_
        exact ih l0 l1 (l2 + 1) M6 h
set_option maxHeartbeats 4000000 in
set_option maxRecDepth 100000 in
theorem w_X5_copyFrom_L34 {G : Gl} {ρ0 : Nat → Nat} {M0 MF : Mem} {r : Unit} : ∀ (n : Nat) (l0 : Nat) (l1 : Nat) (l2 : Int32) (M : Mem), f_X5_copyFrom_L34 n l0 l1 l2 M = some MF → V G (RX5, cX5_copyFrom, none, 2, 43, 3, "copyFrom", []) (ρ0, M0, cvV r, MF) 34 [(0, .ref l0), (1, .ref l1), (2, .int l2)] [] M := by
  intro n
  induction n with
  | zero => intro l0 l1 l2 M h; cases h
  | succ n ih =>
    intro l0 l1 l2 M h
    rw [f_X5_copyFrom_L34] at h
    refine v_iload_n dX5_copyFrom_34 rfl 2 rfl ?_
    refine v_aload_n dX5_copyFrom_35 rfl 0 rfl ?_
    obtain ⟨v1, e, h⟩ := bind_some h
    refine gt_X5_9 e dX5_copyFrom_36 ?_
    obtain ⟨v2, e, h⟩ := bind_some h
    refine v_alen dX5_copyFrom_39 e ?_
    refine v_icmp_ge (tgt := 61) dX5_copyFrom_40 (by decide) (fun c7 => ?_) (fun c7 => ?_)
    · replace h := ifP c7 h
      refine v_aload_n dX5_copyFrom_61 rfl 0 rfl ?_
      refine v_aload_n dX5_copyFrom_62 rfl 1 rfl ?_
      obtain ⟨v3, e, h⟩ := bind_some h
      refine gt_X5_53 e dX5_copyFrom_63 ?_
      obtain ⟨M4, e, h⟩ := bind_some h
      refine pt_X5_53 e dX5_copyFrom_66 ?_
      refine v_aload_n dX5_copyFrom_69 rfl 0 rfl ?_
      refine v_aload_n dX5_copyFrom_70 rfl 1 rfl ?_
      obtain ⟨v5, e, h⟩ := bind_some h
      refine gt_X5_56 e dX5_copyFrom_71 ?_
      obtain ⟨M6, e, h⟩ := bind_some h
      refine pt_X5_56 e dX5_copyFrom_74 ?_
      refine v_iconst (v := 0) dX5_copyFrom_77 ci_0 ?_
      refine v_istore_n (ls' := [(2, .int (0 : Int32)), (0, .ref l0), (1, .ref l1)]) dX5_copyFrom_78 rfl (by decide) rfl ?_
      refine v_sub [1, 2, 0] rfl ?_
      exact w_X5_copyFrom_L79 FU l0 l1 (0 : Int32) M6 h
    · replace h := ifN c7 h
      refine v_aload_n dX5_copyFrom_43 rfl 0 rfl ?_
      obtain ⟨v3, e, h⟩ := bind_some h
      refine gt_X5_9 e dX5_copyFrom_44 ?_
      refine v_iload_n dX5_copyFrom_47 rfl 2 rfl ?_
      refine v_aload_n dX5_copyFrom_48 rfl 1 rfl ?_
      obtain ⟨v4, e, h⟩ := bind_some h
      refine gt_X5_9 e dX5_copyFrom_49 ?_
      refine v_iload_n dX5_copyFrom_52 rfl 2 rfl ?_
      obtain ⟨v5, e, h⟩ := bind_some h
      refine v_zaload dX5_copyFrom_53 e ?_
      obtain ⟨M6, e, h⟩ := bind_some h
      refine v_zastore dX5_copyFrom_54 e ?_
      refine v_iinc (ls' := [(2, .int (l2 + 1)), (0, .ref l0), (1, .ref l1)]) dX5_copyFrom_55 2 rfl (v := 1) ci_1 (by decide) rfl ?_
      refine v_goto (tgt := 34) dX5_copyFrom_58 (by decide) ?_
      refine v_sub [1, 2, 0] rfl ?_
      exact ih l0 l1 (l2 + 1) M6 h
set_option maxHeartbeats 4000000 in
set_option maxRecDepth 100000 in
theorem w_X5_copyFrom {G : Gl} {ρ0 : Nat → Nat} {M0 MF : Mem} {r : Unit} (l0 : Nat) (l1 : Nat) (M : Mem) (h : f_X5_copyFrom l0 l1 M = some MF) : V G (RX5, cX5_copyFrom, none, 2, 43, 3, "copyFrom", []) (ρ0, M0, cvV r, MF) 0 [(0, .ref l0), (1, .ref l1)] [] M := by
  unfold f_X5_copyFrom at h
  replace h := (ifS h).2
  refine v_aload_n dX5_copyFrom_0 rfl 0 rfl ?_
  refine v_aload_n dX5_copyFrom_1 rfl 1 rfl ?_
  obtain ⟨v1, e, h⟩ := bind_some h
  refine gt_X5_39 e dX5_copyFrom_2 ?_
  obtain ⟨M2, e, h⟩ := bind_some h
  refine pt_X5_39 e dX5_copyFrom_5 ?_
  refine v_aload_n dX5_copyFrom_8 rfl 0 rfl ?_
  refine v_aload_n dX5_copyFrom_9 rfl 1 rfl ?_
  obtain ⟨v3, e, h⟩ := bind_some h
  refine gt_X5_43 e dX5_copyFrom_10 ?_
  obtain ⟨M4, e, h⟩ := bind_some h
  refine pt_X5_43 e dX5_copyFrom_13 ?_
  refine v_aload_n dX5_copyFrom_16 rfl 0 rfl ?_
  refine v_aload_n dX5_copyFrom_17 rfl 1 rfl ?_
  obtain ⟨v5, e, h⟩ := bind_some h
  refine gt_X5_46 e dX5_copyFrom_18 ?_
  obtain ⟨M6, e, h⟩ := bind_some h
  refine pt_X5_46 e dX5_copyFrom_21 ?_
  refine v_aload_n dX5_copyFrom_24 rfl 0 rfl ?_
  refine v_aload_n dX5_copyFrom_25 rfl 1 rfl ?_
  obtain ⟨v7, e, h⟩ := bind_some h
  refine gt_X5_50 e dX5_copyFrom_26 ?_
  obtain ⟨M8, e, h⟩ := bind_some h
  refine pt_X5_50 e dX5_copyFrom_29 ?_
  refine v_iconst (v := 0) dX5_copyFrom_32 ci_0 ?_
  refine v_istore_n (ls' := [(2, .int (0 : Int32)), (0, .ref l0), (1, .ref l1)]) dX5_copyFrom_33 rfl (by decide) rfl ?_
  refine v_sub [1, 2, 0] rfl ?_
  exact w_X5_copyFrom_L34 FU l0 l1 (0 : Int32) M8 h
theorem kd_X5_copyFrom {l0 : Nat} {l1 : Nat} {M : Mem} {z : _} (h : f_X5_copyFrom l0 l1 M = some z) : (mK M l0).1 = 5 := by
  unfold f_X5_copyFrom at h
  exact (ifS h).1
theorem k_X5_copyFrom {G : Gl} {l0 : Nat} {l1 : Nat} {M MF : Mem} (h : f_X5_copyFrom l0 l1 M = some MF) : CtrP G yX5_copyFrom cX5_copyFrom 3 none 2 43 [.ref l0, .ref l1] M (cvV ()) MF :=
  ctr_of (by decide +kernel) (Nat.le_of_ble_eq_true rfl) (fun ρ => w_X5_copyFrom (r := ()) l0 l1 M h)
theorem wd_X0_49 : wdV RX0 49 RX5 yX5_copyFrom cX5_copyFrom 3 none 1 := ⟨gwi 547 (by decide +kernel) (by decide +kernel), gwi 548 (by decide +kernel) (by decide +kernel), gwi 549 (by decide +kernel) (by decide +kernel), nw_X5, gwi 550 (by decide +kernel) (by decide +kernel), ⟨rfl, by decide +kernel, by decide +kernel, by decide +kernel⟩⟩
theorem ca_X0_49 {G : Gl} {B : Bx} {cc : ByteArray} {ret : Option FieldType} {fr lo nL : Nat} {mn : String} {hh : List (Nat × Nat × Nat × Nat)} {pc : Nat} {ls : List (Nat × Value)} {st : List Value} {M M1 : Mem} {l0 : Nat} {l1 : Nat} (e : f_X5_copyFrom l0 l1 M = some M1) (hd : decode cc pc = .ok (.invokevirtual 49, 3)) (hcat : (st.map fun v => v.category).sum ≤ 8) (hR : 2 + 1 ≤ fr ∧ 8 + (3 + 11) + 43 ≤ lo) (k : V G (RX0, cc, ret, fr, lo, nL, mn, hh) B (pc + 3) ls (st) M1) : V G (RX0, cc, ret, fr, lo, nL, mn, hh) B pc ls (.ref l1 :: .ref l0 :: st) M := v_callV0 (As := [.ref l1]) (k_X5_copyFrom e) wd_X0_49 clX5 (kd_X5_copyFrom e) hd rfl rfl hcat hR k
set_option maxHeartbeats 4000000 in
set_option maxRecDepth 100000 in
theorem w_X0_copyFrom {G : Gl} {ρ0 : Nat → Nat} {M0 MF : Mem} {r : Unit} (l0 : Nat) (l1 : Nat) (M : Mem) (h : f_X0_copyFrom l0 l1 M = some MF) : V G (RX0, cX0_copyFrom, none, 3, 65, 2, "copyFrom", []) (ρ0, M0, cvV r, MF) 0 [(0, .ref l0), (1, .ref l1)] [] M := by
  unfold f_X0_copyFrom at h
  replace h := (ifS h).2
  refine v_aload_n dX0_copyFrom_0 rfl 0 rfl ?_
  refine v_aload_n dX0_copyFrom_1 rfl 1 rfl ?_
  obtain ⟨v1, e, h⟩ := bind_some h
  refine gt_X0_32 e dX0_copyFrom_2 ?_
  obtain ⟨M2, e, h⟩ := bind_some h
  refine pt_X0_32 e dX0_copyFrom_5 ?_
  refine v_aload_n dX0_copyFrom_8 rfl 0 rfl ?_
  refine v_aload_n dX0_copyFrom_9 rfl 1 rfl ?_
  obtain ⟨v3, e, h⟩ := bind_some h
  refine gt_X0_36 e dX0_copyFrom_10 ?_
  obtain ⟨M4, e, h⟩ := bind_some h
  refine pt_X0_36 e dX0_copyFrom_13 ?_
  refine v_aload_n dX0_copyFrom_16 rfl 0 rfl ?_
  refine v_aload_n dX0_copyFrom_17 rfl 1 rfl ?_
  obtain ⟨v5, e, h⟩ := bind_some h
  refine gt_X0_39 e dX0_copyFrom_18 ?_
  obtain ⟨M6, e, h⟩ := bind_some h
  refine pt_X0_39 e dX0_copyFrom_21 ?_
  refine v_aload_n dX0_copyFrom_24 rfl 0 rfl ?_
  obtain ⟨v7, e, h⟩ := bind_some h
  refine gt_X0_12 e dX0_copyFrom_25 ?_
  refine v_aload_n dX0_copyFrom_28 rfl 1 rfl ?_
  obtain ⟨v8, e, h⟩ := bind_some h
  refine gt_X0_12 e dX0_copyFrom_29 ?_
  obtain ⟨M9, e, h⟩ := bind_some h
  refine ca_X0_42 e dX0_copyFrom_32 (Nat.le_of_ble_eq_true rfl) (by decide) ?_
  refine v_aload_n dX0_copyFrom_35 rfl 0 rfl ?_
  obtain ⟨v10, e, h⟩ := bind_some h
  refine gt_X0_21 e dX0_copyFrom_36 ?_
  refine v_aload_n dX0_copyFrom_39 rfl 1 rfl ?_
  obtain ⟨v11, e, h⟩ := bind_some h
  refine gt_X0_21 e dX0_copyFrom_40 ?_
  obtain ⟨M12, e, h⟩ := bind_some h
  refine ca_X0_46 e dX0_copyFrom_43 (Nat.le_of_ble_eq_true rfl) (by decide) ?_
  refine v_aload_n dX0_copyFrom_46 rfl 0 rfl ?_
  obtain ⟨v13, e, h⟩ := bind_some h
  refine gt_X0_28 e dX0_copyFrom_47 ?_
  refine v_aload_n dX0_copyFrom_50 rfl 1 rfl ?_
  obtain ⟨v14, e, h⟩ := bind_some h
  refine gt_X0_28 e dX0_copyFrom_51 ?_
  obtain ⟨M15, e, h⟩ := bind_some h
  refine ca_X0_49 e dX0_copyFrom_54 (Nat.le_of_ble_eq_true rfl) (by decide) ?_
  refine v_aload_n dX0_copyFrom_57 rfl 0 rfl ?_
  refine v_aload_n dX0_copyFrom_58 rfl 1 rfl ?_
  obtain ⟨v16, e, h⟩ := bind_some h
  refine gt_X0_52 e dX0_copyFrom_59 ?_
  obtain ⟨M17, e, h⟩ := bind_some h
  refine pt_X0_52 e dX0_copyFrom_62 ?_
  refine v_aload_n dX0_copyFrom_65 rfl 0 rfl ?_
  refine v_aload_n dX0_copyFrom_66 rfl 1 rfl ?_
  obtain ⟨v18, e, h⟩ := bind_some h
  refine gt_X0_56 e dX0_copyFrom_67 ?_
  obtain ⟨M19, e, h⟩ := bind_some h
  refine pt_X0_56 e dX0_copyFrom_70 ?_
  cases h
  exact v_vreturn dX0_copyFrom_73
theorem kd_X0_copyFrom {l0 : Nat} {l1 : Nat} {M : Mem} {z : _} (h : f_X0_copyFrom l0 l1 M = some z) : (mK M l0).1 = 0 := by
  unfold f_X0_copyFrom at h
  exact (ifS h).1
theorem k_X0_copyFrom {G : Gl} {l0 : Nat} {l1 : Nat} {M MF : Mem} (h : f_X0_copyFrom l0 l1 M = some MF) : CtrP G yX0_copyFrom cX0_copyFrom 2 none 3 65 [.ref l0, .ref l1] M (cvV ()) MF :=
  ctr_of (by decide +kernel) (Nat.le_of_ble_eq_true rfl) (fun ρ => w_X0_copyFrom (r := ()) l0 l1 M h)
theorem wd_X7_59 : wdV RX7 59 RX0 yX0_copyFrom cX0_copyFrom 2 none 1 := ⟨gwi 531 (by decide +kernel) (by decide +kernel), gwi 532 (by decide +kernel) (by decide +kernel), gwi 533 (by decide +kernel) (by decide +kernel), nw_X0, gwi 534 (by decide +kernel) (by decide +kernel), ⟨rfl, by decide +kernel, by decide +kernel, by decide +kernel⟩⟩
theorem ca_X7_59 {G : Gl} {B : Bx} {cc : ByteArray} {ret : Option FieldType} {fr lo nL : Nat} {mn : String} {hh : List (Nat × Nat × Nat × Nat)} {pc : Nat} {ls : List (Nat × Value)} {st : List Value} {M M1 : Mem} {l0 : Nat} {l1 : Nat} (e : f_X0_copyFrom l0 l1 M = some M1) (hd : decode cc pc = .ok (.invokevirtual 59, 3)) (hcat : (st.map fun v => v.category).sum ≤ 8) (hR : 3 + 1 ≤ fr ∧ 8 + (2 + 11) + 65 ≤ lo) (k : V G (RX7, cc, ret, fr, lo, nL, mn, hh) B (pc + 3) ls (st) M1) : V G (RX7, cc, ret, fr, lo, nL, mn, hh) B pc ls (.ref l1 :: .ref l0 :: st) M := v_callV0 (As := [.ref l1]) (k_X0_copyFrom e) wd_X7_59 clX0 (kd_X0_copyFrom e) hd rfl rfl hcat hR k
set_option maxHeartbeats 4000000 in
set_option maxRecDepth 100000 in
theorem w_X1_fill {G : Gl} {ρ0 : Nat → Nat} {M0 MF : Mem} {r : Unit} (l0 : Nat) (l1 : Nat) (l2 : Int32) (l3 : Int32) (M : Mem) (h : f_X1_fill l0 l1 l2 l3 M = some MF) : V G (RX1, cX1_fill, none, 0, 0, 4, "fill", []) (ρ0, M0, cvV r, MF) 0 [(0, .ref l0), (1, .ref l1), (2, .int l2), (3, .int l3)] [] M := by
  unfold f_X1_fill at h
  replace h := (ifS h).2
  refine v_aload_n dX1_fill_0 rfl 0 rfl ?_
  refine v_aload_n dX1_fill_1 rfl 1 rfl ?_
  obtain ⟨M1, e, h⟩ := bind_some h
  refine pt_X1_7 e dX1_fill_2 ?_
  refine v_aload_n dX1_fill_5 rfl 0 rfl ?_
  refine v_iload_n dX1_fill_6 rfl 2 rfl ?_
  obtain ⟨M2, e, h⟩ := bind_some h
  refine pt_X1_13 e dX1_fill_7 ?_
  refine v_aload_n dX1_fill_10 rfl 0 rfl ?_
  refine v_iload_n dX1_fill_11 rfl 3 rfl ?_
  obtain ⟨M3, e, h⟩ := bind_some h
  refine pt_X1_17 e dX1_fill_12 ?_
  refine v_aload_n dX1_fill_15 rfl 0 rfl ?_
  refine v_iconst (v := 0) dX1_fill_16 ci_0 ?_
  obtain ⟨M4, e, h⟩ := bind_some h
  refine pt_X1_20 e dX1_fill_17 ?_
  refine v_aload_n dX1_fill_20 rfl 0 rfl ?_
  refine v_iconst (v := 0) dX1_fill_21 ci_0 ?_
  obtain ⟨M5, e, h⟩ := bind_some h
  refine pt_X1_23 e dX1_fill_22 ?_
  refine v_aload_n dX1_fill_25 rfl 0 rfl ?_
  refine v_iconst (v := 0) dX1_fill_26 ci_0 ?_
  obtain ⟨M6, e, h⟩ := bind_some h
  refine pt_X1_26 e dX1_fill_27 ?_
  refine v_aload_n dX1_fill_30 rfl 0 rfl ?_
  refine v_iconst (v := 0) dX1_fill_31 ci_0 ?_
  obtain ⟨M7, e, h⟩ := bind_some h
  refine pt_X1_29 e dX1_fill_32 ?_
  cases h
  exact v_vreturn dX1_fill_35
theorem kd_X1_fill {l0 : Nat} {l1 : Nat} {l2 : Int32} {l3 : Int32} {M : Mem} {z : _} (h : f_X1_fill l0 l1 l2 l3 M = some z) : (mK M l0).1 = 1 := by
  unfold f_X1_fill at h
  exact (ifS h).1
theorem k_X1_fill {G : Gl} {l0 : Nat} {l1 : Nat} {l2 : Int32} {l3 : Int32} {M MF : Mem} (h : f_X1_fill l0 l1 l2 l3 M = some MF) : CtrP G yX1_fill cX1_fill 4 none 0 0 [.ref l0, .ref l1, .int l2, .int l3] M (cvV ()) MF :=
  ctr_of (by decide +kernel) (Nat.le_of_ble_eq_true rfl) (fun ρ => w_X1_fill (r := ()) l0 l1 l2 l3 M h)
theorem wd_X11_141 : wdV RX11 141 RX1 yX1_fill cX1_fill 4 none 3 := ⟨gwi 989 (by decide +kernel) (by decide +kernel), gwi 719 (by decide +kernel) (by decide +kernel), gwi 720 (by decide +kernel) (by decide +kernel), nw_X1, gwi 721 (by decide +kernel) (by decide +kernel), ⟨rfl, by decide +kernel, by decide +kernel, by decide +kernel⟩⟩
theorem ca_X11_141 {G : Gl} {B : Bx} {cc : ByteArray} {ret : Option FieldType} {fr lo nL : Nat} {mn : String} {hh : List (Nat × Nat × Nat × Nat)} {pc : Nat} {ls : List (Nat × Value)} {st : List Value} {M M1 : Mem} {l0 : Nat} {l1 : Nat} {l2 : Int32} {l3 : Int32} (e : f_X1_fill l0 l1 l2 l3 M = some M1) (hd : decode cc pc = .ok (.invokevirtual 141, 3)) (hcat : (st.map fun v => v.category).sum ≤ 8) (hR : 0 + 1 ≤ fr ∧ 8 + (4 + 11) + 0 ≤ lo) (k : V G (RX11, cc, ret, fr, lo, nL, mn, hh) B (pc + 3) ls (st) M1) : V G (RX11, cc, ret, fr, lo, nL, mn, hh) B pc ls (.int l3 :: .int l2 :: .ref l1 :: .ref l0 :: st) M := v_callV0 (As := [.ref l1, .int l2, .int l3]) (k_X1_fill e) wd_X11_141 clX1 (kd_X1_fill e) hd rfl rfl hcat hR k
theorem wd_X7_237 : wdV RX7 237 RX1 yX1_fill cX1_fill 4 none 3 := ⟨gwi 718 (by decide +kernel) (by decide +kernel), gwi 719 (by decide +kernel) (by decide +kernel), gwi 720 (by decide +kernel) (by decide +kernel), nw_X1, gwi 721 (by decide +kernel) (by decide +kernel), ⟨rfl, by decide +kernel, by decide +kernel, by decide +kernel⟩⟩
theorem ca_X7_237 {G : Gl} {B : Bx} {cc : ByteArray} {ret : Option FieldType} {fr lo nL : Nat} {mn : String} {hh : List (Nat × Nat × Nat × Nat)} {pc : Nat} {ls : List (Nat × Value)} {st : List Value} {M M1 : Mem} {l0 : Nat} {l1 : Nat} {l2 : Int32} {l3 : Int32} (e : f_X1_fill l0 l1 l2 l3 M = some M1) (hd : decode cc pc = .ok (.invokevirtual 237, 3)) (hcat : (st.map fun v => v.category).sum ≤ 8) (hR : 0 + 1 ≤ fr ∧ 8 + (4 + 11) + 0 ≤ lo) (k : V G (RX7, cc, ret, fr, lo, nL, mn, hh) B (pc + 3) ls (st) M1) : V G (RX7, cc, ret, fr, lo, nL, mn, hh) B pc ls (.int l3 :: .int l2 :: .ref l1 :: .ref l0 :: st) M := v_callV0 (As := [.ref l1, .int l2, .int l3]) (k_X1_fill e) wd_X7_237 clX1 (kd_X1_fill e) hd rfl rfl hcat hR k
set_option maxHeartbeats 4000000 in
set_option maxRecDepth 100000 in
theorem w_X2_add {G : Gl} {ρ0 : Nat → Nat} {M0 MF : Mem} {r : Unit} (l0 : Nat) (l1 : Nat) (M : Mem) (h : f_X2_add l0 l1 M = some MF) : V G (RX2, cX2_add, none, 1, 21, 2, "add", []) (ρ0, M0, cvV r, MF) 0 [(0, .ref l0), (1, .ref l1)] [] M := by
  unfold f_X2_add at h
  replace h := (ifS h).2
  refine v_aload_n dX2_add_0 rfl 0 rfl ?_
  obtain ⟨v1, e, h⟩ := bind_some h
  refine gt_X2_24 e dX2_add_1 ?_
  refine v_if_lt (tgt := 42) dX2_add_4 (by decide) (fun c12 => ?_) (fun c12 => ?_)
  · replace h := ifP c12 h
    cases h
    exact v_vreturn dX2_add_42
  · replace h := ifN c12 h
    refine v_aload_n dX2_add_7 rfl 0 rfl ?_
    obtain ⟨v2, e, h⟩ := bind_some h
    refine gt_X2_24 e dX2_add_8 ?_
    refine v_aload_n dX2_add_11 rfl 0 rfl ?_
    obtain ⟨v3, e, h⟩ := bind_some h
    refine gt_X2_15 e dX2_add_12 ?_
    obtain ⟨v4, e, h⟩ := bind_some h
    refine v_alen dX2_add_15 e ?_
    refine v_icmp_ge (tgt := 42) dX2_add_16 (by decide) (fun c11 => ?_) (fun c11 => ?_)
    · replace h := ifP c11 h
      cases h
      exact v_vreturn dX2_add_42
    · replace h := ifN c11 h
      refine v_aload_n dX2_add_19 rfl 0 rfl ?_
      obtain ⟨v5, e, h⟩ := bind_some h
      refine gt_X2_15 e dX2_add_20 ?_
      refine v_aload_n dX2_add_23 rfl 0 rfl ?_
      obtain ⟨v6, e, h⟩ := bind_some h
      refine gt_X2_24 e dX2_add_24 ?_
      obtain ⟨v7, e, h⟩ := bind_some h
      refine al_1 e dX2_add_27 ?_
      refine v_aload_n dX2_add_28 rfl 1 rfl ?_
      obtain ⟨M8, e, h⟩ := bind_some h
      refine ca_X2_28 e dX2_add_29 (Nat.le_of_ble_eq_true rfl) (by decide) ?_
      refine v_aload_n dX2_add_32 rfl 0 rfl ?_
      refine v_dup dX2_add_33 rfl ?_
      obtain ⟨v9, e, h⟩ := bind_some h
      refine gt_X2_24 e dX2_add_34 ?_
      refine v_iconst (v := 1) dX2_add_37 ci_1 ?_
      refine v_iadd dX2_add_38 ?_
      obtain ⟨M10, e, h⟩ := bind_some h
      refine pt_X2_24 e dX2_add_39 ?_
      cases h
      exact v_vreturn dX2_add_42
theorem kd_X2_add {l0 : Nat} {l1 : Nat} {M : Mem} {z : _} (h : f_X2_add l0 l1 M = some z) : (mK M l0).1 = 2 := by
  unfold f_X2_add at h
  exact (ifS h).1
theorem k_X2_add {G : Gl} {l0 : Nat} {l1 : Nat} {M MF : Mem} (h : f_X2_add l0 l1 M = some MF) : CtrP G yX2_add cX2_add 2 none 1 21 [.ref l0, .ref l1] M (cvV ()) MF :=
  ctr_of (by decide +kernel) (Nat.le_of_ble_eq_true rfl) (fun ρ => w_X2_add (r := ()) l0 l1 M h)
theorem wd_X7_265 : wdV RX7 265 RX2 yX2_add cX2_add 2 none 1 := ⟨gwi 742 (by decide +kernel) (by decide +kernel), gwi 743 (by decide +kernel) (by decide +kernel), gwi 744 (by decide +kernel) (by decide +kernel), nw_X2, gwi 745 (by decide +kernel) (by decide +kernel), ⟨rfl, by decide +kernel, by decide +kernel, by decide +kernel⟩⟩
theorem ca_X7_265 {G : Gl} {B : Bx} {cc : ByteArray} {ret : Option FieldType} {fr lo nL : Nat} {mn : String} {hh : List (Nat × Nat × Nat × Nat)} {pc : Nat} {ls : List (Nat × Value)} {st : List Value} {M M1 : Mem} {l0 : Nat} {l1 : Nat} (e : f_X2_add l0 l1 M = some M1) (hd : decode cc pc = .ok (.invokevirtual 265, 3)) (hcat : (st.map fun v => v.category).sum ≤ 8) (hR : 1 + 1 ≤ fr ∧ 8 + (2 + 11) + 21 ≤ lo) (k : V G (RX7, cc, ret, fr, lo, nL, mn, hh) B (pc + 3) ls (st) M1) : V G (RX7, cc, ret, fr, lo, nL, mn, hh) B pc ls (.ref l1 :: .ref l0 :: st) M := v_callV0 (As := [.ref l1]) (k_X2_add e) wd_X7_265 clX2 (kd_X2_add e) hd rfl rfl hcat hR k
set_option maxHeartbeats 4000000 in
set_option maxRecDepth 100000 in
theorem w_X2_removeAt_L34 {G : Gl} {ρ0 : Nat → Nat} {M0 MF : Mem} {r : Unit} : ∀ (n : Nat) (l0 : Nat) (l2 : Nat) (l3 : Int32) (M : Mem), f_X2_removeAt_L34 n l0 l2 l3 M = some MF → V G (RX2, cX2_removeAt, none, 0, 0, 4, "removeAt", []) (ρ0, M0, cvV r, MF) 34 [(0, .ref l0), (2, .ref l2), (3, .int l3)] [] M := by
  intro n
  induction n with
  | zero => intro l0 l2 l3 M h; cases h
  | succ n ih =>
    intro l0 l2 l3 M h
    rw [f_X2_removeAt_L34] at h
    refine v_iload_n dX2_removeAt_34 rfl 2 rfl ?_
    refine v_iconst (v := 1) dX2_removeAt_35 ci_1 ?_
    refine v_iadd dX2_removeAt_36 ?_
    refine v_aload_n dX2_removeAt_37 rfl 0 rfl ?_
    obtain ⟨v1, e, h⟩ := bind_some h
    refine gt_X2_24 e dX2_removeAt_38 ?_
    refine v_icmp_ge (tgt := 64) dX2_removeAt_41 (by decide) (fun c7 => ?_) (fun c7 => ?_)
    · replace h := ifP c7 h
      refine v_aload_n dX2_removeAt_64 rfl 0 rfl ?_
      obtain ⟨v2, e, h⟩ := bind_some h
      refine gt_X2_15 e dX2_removeAt_65 ?_
      refine v_aload_n dX2_removeAt_68 rfl 0 rfl ?_
      obtain ⟨v3, e, h⟩ := bind_some h
      refine gt_X2_24 e dX2_removeAt_69 ?_
      refine v_iconst (v := 1) dX2_removeAt_72 ci_1 ?_
      refine v_isub dX2_removeAt_73 ?_
      refine v_aload_n dX2_removeAt_74 rfl 1 rfl ?_
      obtain ⟨M4, e, h⟩ := bind_some h
      refine as_1 e dX2_removeAt_75 ?_
      refine v_aload_n dX2_removeAt_76 rfl 0 rfl ?_
      refine v_dup dX2_removeAt_77 rfl ?_
      obtain ⟨v5, e, h⟩ := bind_some h
      refine gt_X2_24 e dX2_removeAt_78 ?_
      refine v_iconst (v := 1) dX2_removeAt_81 ci_1 ?_
      refine v_isub dX2_removeAt_82 ?_
      obtain ⟨M6, e, h⟩ := bind_some h
      refine pt_X2_24 e dX2_removeAt_83 ?_
      cases h
      exact v_vreturn dX2_removeAt_86
    · replace h := ifN c7 h
      refine v_aload_n dX2_removeAt_44 rfl 0 rfl ?_
      obtain ⟨v2, e, h⟩ := bind_some h
      refine gt_X2_15 e dX2_removeAt_45 ?_
      refine v_iload_n dX2_removeAt_48 rfl 2 rfl ?_
      refine v_aload_n dX2_removeAt_49 rfl 0 rfl ?_
      obtain ⟨v3, e, h⟩ := bind_some h
      refine gt_X2_15 e dX2_removeAt_50 ?_
      refine v_iload_n dX2_removeAt_53 rfl 2 rfl ?_
      refine v_iconst (v := 1) dX2_removeAt_54 ci_1 ?_
      refine v_iadd dX2_removeAt_55 ?_
      obtain ⟨v4, e, h⟩ := bind_some h
      refine al_1 e dX2_removeAt_56 ?_
      obtain ⟨M5, e, h⟩ := bind_some h
      refine as_1 e dX2_removeAt_57 ?_
      refine v_iinc (ls' := [(3, .int (l3 + 1)), (0, .ref l0), (2, .ref l2)]) dX2_removeAt_58 2 rfl (v := 1) ci_1 (by decide) rfl ?_
      refine v_goto (tgt := 34) dX2_removeAt_61 (by decide) ?_
      refine v_sub [1, 2, 0] rfl ?_
      exact ih l0 l2 (l3 + 1) M5 h
set_option maxHeartbeats 4000000 in
set_option maxRecDepth 100000 in
theorem w_X2_removeAt {G : Gl} {ρ0 : Nat → Nat} {M0 MF : Mem} {r : Unit} (l0 : Nat) (l1 : Int32) (M : Mem) (h : f_X2_removeAt l0 l1 M = some MF) : V G (RX2, cX2_removeAt, none, 0, 0, 4, "removeAt", []) (ρ0, M0, cvV r, MF) 0 [(0, .ref l0), (1, .int l1)] [] M := by
  unfold f_X2_removeAt at h
  replace h := (ifS h).2
  refine v_iload_n dX2_removeAt_0 rfl 1 rfl ?_
  refine v_if_lt (tgt := 24) dX2_removeAt_1 (by decide) (fun c9 => ?_) (fun c9 => ?_)
  · replace h := ifP c9 h
    cases h
    exact v_vreturn dX2_removeAt_24
  · replace h := ifN c9 h
    refine v_iload_n dX2_removeAt_4 rfl 1 rfl ?_
    refine v_aload_n dX2_removeAt_5 rfl 0 rfl ?_
    obtain ⟨v1, e, h⟩ := bind_some h
    refine gt_X2_24 e dX2_removeAt_6 ?_
    refine v_icmp_ge (tgt := 24) dX2_removeAt_9 (by decide) (fun c8 => ?_) (fun c8 => ?_)
    · replace h := ifP c8 h
      cases h
      exact v_vreturn dX2_removeAt_24
    · replace h := ifN c8 h
      refine v_aload_n dX2_removeAt_12 rfl 0 rfl ?_
      obtain ⟨v2, e, h⟩ := bind_some h
      refine gt_X2_24 e dX2_removeAt_13 ?_
      refine v_aload_n dX2_removeAt_16 rfl 0 rfl ?_
      obtain ⟨v3, e, h⟩ := bind_some h
      refine gt_X2_15 e dX2_removeAt_17 ?_
      obtain ⟨v4, e, h⟩ := bind_some h
      refine v_alen dX2_removeAt_20 e ?_
      refine v_icmp_le (tgt := 25) dX2_removeAt_21 (by decide) (fun c7 => ?_) (fun c7 => ?_)
      · replace h := ifP c7 h
        refine v_aload_n dX2_removeAt_25 rfl 0 rfl ?_
        obtain ⟨v5, e, h⟩ := bind_some h
        refine gt_X2_15 e dX2_removeAt_26 ?_
        refine v_iload_n dX2_removeAt_29 rfl 1 rfl ?_
        obtain ⟨v6, e, h⟩ := bind_some h
        refine al_1 e dX2_removeAt_30 ?_
        refine v_astore_n (ls' := [(2, .ref v6), (0, .ref l0), (1, .int l1)]) dX2_removeAt_31 rfl (by decide) rfl ?_
        refine v_iload_n dX2_removeAt_32 rfl 2 rfl ?_
        refine v_istore_n (ls' := [(3, .int l1), (2, .ref v6), (0, .ref l0), (1, .int l1)]) dX2_removeAt_33 rfl (by decide) rfl ?_
        refine v_sub [2, 1, 0] rfl ?_
        exact w_X2_removeAt_L34 FU l0 v6 l1 M h
      · replace h := ifN c7 h
        cases h
        exact v_vreturn dX2_removeAt_24
theorem kd_X2_removeAt {l0 : Nat} {l1 : Int32} {M : Mem} {z : _} (h : f_X2_removeAt l0 l1 M = some z) : (mK M l0).1 = 2 := by
  unfold f_X2_removeAt at h
  exact (ifS h).1
theorem k_X2_removeAt {G : Gl} {l0 : Nat} {l1 : Int32} {M MF : Mem} (h : f_X2_removeAt l0 l1 M = some MF) : CtrP G yX2_removeAt cX2_removeAt 4 none 0 0 [.ref l0, .int l1] M (cvV ()) MF :=
  ctr_of (by decide +kernel) (Nat.le_of_ble_eq_true rfl) (fun ρ => w_X2_removeAt (r := ()) l0 l1 M h)
theorem wd_X7_262 : wdV RX7 262 RX2 yX2_removeAt cX2_removeAt 4 none 1 := ⟨gwi 758 (by decide +kernel) (by decide +kernel), gwi 759 (by decide +kernel) (by decide +kernel), gwi 760 (by decide +kernel) (by decide +kernel), nw_X2, gwi 761 (by decide +kernel) (by decide +kernel), ⟨rfl, by decide +kernel, by decide +kernel, by decide +kernel⟩⟩
theorem ca_X7_262 {G : Gl} {B : Bx} {cc : ByteArray} {ret : Option FieldType} {fr lo nL : Nat} {mn : String} {hh : List (Nat × Nat × Nat × Nat)} {pc : Nat} {ls : List (Nat × Value)} {st : List Value} {M M1 : Mem} {l0 : Nat} {l1 : Int32} (e : f_X2_removeAt l0 l1 M = some M1) (hd : decode cc pc = .ok (.invokevirtual 262, 3)) (hcat : (st.map fun v => v.category).sum ≤ 8) (hR : 0 + 1 ≤ fr ∧ 8 + (4 + 11) + 0 ≤ lo) (k : V G (RX7, cc, ret, fr, lo, nL, mn, hh) B (pc + 3) ls (st) M1) : V G (RX7, cc, ret, fr, lo, nL, mn, hh) B pc ls (.int l1 :: .ref l0 :: st) M := v_callV0 (As := [.int l1]) (k_X2_removeAt e) wd_X7_262 clX2 (kd_X2_removeAt e) hd rfl rfl hcat hR k
set_option maxHeartbeats 4000000 in
set_option maxRecDepth 100000 in
theorem w_X2_placeOf_L2 {G : Gl} {ρ0 : Nat → Nat} {M0 MF : Mem} {r : Int32} : ∀ (n : Nat) (l0 : Nat) (l1 : Int32) (l2 : Int32) (M : Mem), f_X2_placeOf_L2 n l0 l1 l2 M = some (r, MF) → V G (RX2, cX2_placeOf, (some .int), 0, 0, 3, "placeOf", []) (ρ0, M0, cvI r, MF) 2 [(0, .ref l0), (1, .int l1), (2, .int l2)] [] M := by
  intro n
  induction n with
  | zero => intro l0 l1 l2 M h; cases h
  | succ n ih =>
    intro l0 l1 l2 M h
    rw [f_X2_placeOf_L2] at h
    refine v_iload_n dX2_placeOf_2 rfl 2 rfl ?_
    refine v_aload_n dX2_placeOf_3 rfl 0 rfl ?_
    obtain ⟨v1, e, h⟩ := bind_some h
    refine gt_X2_24 e dX2_placeOf_4 ?_
    refine v_icmp_ge (tgt := 40) dX2_placeOf_7 (by decide) (fun c9 => ?_) (fun c9 => ?_)
    · replace h := ifP c9 h
      refine v_iconst (v := (-1)) dX2_placeOf_40 ci_m1 ?_
      cases h
      exact v_ireturn dX2_placeOf_41
    · replace h := ifN c9 h
      refine v_iload_n dX2_placeOf_10 rfl 2 rfl ?_
      refine v_aload_n dX2_placeOf_11 rfl 0 rfl ?_
      obtain ⟨v2, e, h⟩ := bind_some h
      refine gt_X2_15 e dX2_placeOf_12 ?_
      obtain ⟨v3, e, h⟩ := bind_some h
      refine v_alen dX2_placeOf_15 e ?_
      refine v_icmp_ge (tgt := 40) dX2_placeOf_16 (by decide) (fun c8 => ?_) (fun c8 => ?_)
      · replace h := ifP c8 h
        refine v_iconst (v := (-1)) dX2_placeOf_40 ci_m1 ?_
        cases h
        exact v_ireturn dX2_placeOf_41
      · replace h := ifN c8 h
        refine v_aload_n dX2_placeOf_19 rfl 0 rfl ?_
        obtain ⟨v4, e, h⟩ := bind_some h
        refine gt_X2_15 e dX2_placeOf_20 ?_
        refine v_iload_n dX2_placeOf_23 rfl 2 rfl ?_
        obtain ⟨v5, e, h⟩ := bind_some h
        refine al_1 e dX2_placeOf_24 ?_
        obtain ⟨v6, e, h⟩ := bind_some h
        refine gt_X2_32 e dX2_placeOf_25 ?_
        refine v_iload_n dX2_placeOf_28 rfl 1 rfl ?_
        refine v_icmp_ne (tgt := 34) dX2_placeOf_29 (by decide) (fun c7 => ?_) (fun c7 => ?_)
        · replace h := ifN c7 h
          refine v_iinc (ls' := [(2, .int (l2 + 1)), (0, .ref l0), (1, .int l1)]) dX2_placeOf_34 2 rfl (v := 1) ci_1 (by decide) rfl ?_
          refine v_goto (tgt := 2) dX2_placeOf_37 (by decide) ?_
          refine v_sub [1, 2, 0] rfl ?_
          exact ih l0 l1 (l2 + 1) M h
        · replace h := ifP c7 h
          refine v_iload_n dX2_placeOf_32 rfl 2 rfl ?_
          cases h
          exact v_ireturn dX2_placeOf_33
set_option maxHeartbeats 4000000 in
set_option maxRecDepth 100000 in
theorem w_X2_placeOf {G : Gl} {ρ0 : Nat → Nat} {M0 MF : Mem} {r : Int32} (l0 : Nat) (l1 : Int32) (M : Mem) (h : f_X2_placeOf l0 l1 M = some (r, MF)) : V G (RX2, cX2_placeOf, (some .int), 0, 0, 3, "placeOf", []) (ρ0, M0, cvI r, MF) 0 [(0, .ref l0), (1, .int l1)] [] M := by
  unfold f_X2_placeOf at h
  replace h := (ifS h).2
  refine v_iconst (v := 0) dX2_placeOf_0 ci_0 ?_
  refine v_istore_n (ls' := [(2, .int (0 : Int32)), (0, .ref l0), (1, .int l1)]) dX2_placeOf_1 rfl (by decide) rfl ?_
  refine v_sub [1, 2, 0] rfl ?_
  exact w_X2_placeOf_L2 FU l0 l1 (0 : Int32) M h
theorem kd_X2_placeOf {l0 : Nat} {l1 : Int32} {M : Mem} {z : _} (h : f_X2_placeOf l0 l1 M = some z) : (mK M l0).1 = 2 := by
  unfold f_X2_placeOf at h
  exact (ifS h).1
theorem k_X2_placeOf {G : Gl} {l0 : Nat} {l1 : Int32} {M MF : Mem} {r : Int32} (h : f_X2_placeOf l0 l1 M = some (r, MF)) : CtrP G yX2_placeOf cX2_placeOf 3 (some .int) 0 0 [.ref l0, .int l1] M (cvI r) MF :=
  ctr_of (by decide +kernel) (Nat.le_of_ble_eq_true rfl) (fun ρ => w_X2_placeOf l0 l1 M h)
theorem wd_X5_98 : wdV RX5 98 RX2 yX2_placeOf cX2_placeOf 3 (some .int) 1 := ⟨gwi 750 (by decide +kernel) (by decide +kernel), gwi 751 (by decide +kernel) (by decide +kernel), gwi 752 (by decide +kernel) (by decide +kernel), nw_X2, gwi 753 (by decide +kernel) (by decide +kernel), ⟨rfl, by decide +kernel, by decide +kernel, by decide +kernel⟩⟩
theorem ca_X5_98 {G : Gl} {B : Bx} {cc : ByteArray} {ret : Option FieldType} {fr lo nL : Nat} {mn : String} {hh : List (Nat × Nat × Nat × Nat)} {pc : Nat} {ls : List (Nat × Value)} {st : List Value} {M M1 : Mem} {l0 : Nat} {l1 : Int32} {x : Int32} (e : f_X2_placeOf l0 l1 M = some (x, M1)) (hd : decode cc pc = .ok (.invokevirtual 98, 3)) (hcat : (st.map fun v => v.category).sum ≤ 8) (hR : 0 + 1 ≤ fr ∧ 8 + (3 + 11) + 0 ≤ lo) (k : V G (RX5, cc, ret, fr, lo, nL, mn, hh) B (pc + 3) ls (.int x :: st) M1) : V G (RX5, cc, ret, fr, lo, nL, mn, hh) B pc ls (.int l1 :: .ref l0 :: st) M := v_callVi (As := [.int l1]) (k_X2_placeOf e) wd_X5_98 clX2 (kd_X2_placeOf e) hd rfl rfl hcat hR k
theorem wd_X7_280 : wdV RX7 280 RX2 yX2_placeOf cX2_placeOf 3 (some .int) 1 := ⟨gwi 971 (by decide +kernel) (by decide +kernel), gwi 751 (by decide +kernel) (by decide +kernel), gwi 752 (by decide +kernel) (by decide +kernel), nw_X2, gwi 753 (by decide +kernel) (by decide +kernel), ⟨rfl, by decide +kernel, by decide +kernel, by decide +kernel⟩⟩
theorem ca_X7_280 {G : Gl} {B : Bx} {cc : ByteArray} {ret : Option FieldType} {fr lo nL : Nat} {mn : String} {hh : List (Nat × Nat × Nat × Nat)} {pc : Nat} {ls : List (Nat × Value)} {st : List Value} {M M1 : Mem} {l0 : Nat} {l1 : Int32} {x : Int32} (e : f_X2_placeOf l0 l1 M = some (x, M1)) (hd : decode cc pc = .ok (.invokevirtual 280, 3)) (hcat : (st.map fun v => v.category).sum ≤ 8) (hR : 0 + 1 ≤ fr ∧ 8 + (3 + 11) + 0 ≤ lo) (k : V G (RX7, cc, ret, fr, lo, nL, mn, hh) B (pc + 3) ls (.int x :: st) M1) : V G (RX7, cc, ret, fr, lo, nL, mn, hh) B pc ls (.int l1 :: .ref l0 :: st) M := v_callVi (As := [.int l1]) (k_X2_placeOf e) wd_X7_280 clX2 (kd_X2_placeOf e) hd rfl rfl hcat hR k
set_option maxHeartbeats 4000000 in
set_option maxRecDepth 100000 in
theorem w_X4_head {G : Gl} {ρ0 : Nat → Nat} {M0 MF : Mem} {r : Nat} (l0 : Nat) (M : Mem) (h : f_X4_head l0 M = some (r, MF)) : V G (RX4, cX4_head, (some (.object "GradedTopicBroker$Packet")), 0, 0, 1, "head", []) (ρ0, M0, cvR r, MF) 0 [(0, .ref l0)] [] M := by
  unfold f_X4_head at h
  replace h := (ifS h).2
  refine v_aload_n dX4_head_0 rfl 0 rfl ?_
  obtain ⟨v1, e, h⟩ := bind_some h
  refine gt_X4_11 e dX4_head_1 ?_
  refine v_aload_n dX4_head_4 rfl 0 rfl ?_
  obtain ⟨v2, e, h⟩ := bind_some h
  refine gt_X4_20 e dX4_head_5 ?_
  obtain ⟨v3, e, h⟩ := bind_some h
  refine al_3 e dX4_head_8 ?_
  cases h
  exact v_areturn dX4_head_9
theorem kd_X4_head {l0 : Nat} {M : Mem} {z : _} (h : f_X4_head l0 M = some z) : (mK M l0).1 = 4 := by
  unfold f_X4_head at h
  exact (ifS h).1
theorem k_X4_head {G : Gl} {l0 : Nat} {M MF : Mem} {r : Nat} (h : f_X4_head l0 M = some (r, MF)) : CtrP G yX4_head cX4_head 1 (some (.object "GradedTopicBroker$Packet")) 0 0 [.ref l0] M (cvR r) MF :=
  ctr_of (by decide +kernel) (Nat.le_of_ble_eq_true rfl) (fun ρ => w_X4_head l0 M h)
theorem wd_X11_251 : wdV RX11 251 RX4 yX4_head cX4_head 1 (some (.object "GradedTopicBroker$Packet")) 0 := ⟨gwi 1097 (by decide +kernel) (by decide +kernel), gwi 1098 (by decide +kernel) (by decide +kernel), gwi 1099 (by decide +kernel) (by decide +kernel), nw_X4, gwi 1100 (by decide +kernel) (by decide +kernel), ⟨rfl, by decide +kernel, by decide +kernel, by decide +kernel⟩⟩
theorem ca_X11_251 {G : Gl} {B : Bx} {cc : ByteArray} {ret : Option FieldType} {fr lo nL : Nat} {mn : String} {hh : List (Nat × Nat × Nat × Nat)} {pc : Nat} {ls : List (Nat × Value)} {st : List Value} {M M1 : Mem} {l0 : Nat} {x : Nat} (e : f_X4_head l0 M = some (x, M1)) (hd : decode cc pc = .ok (.invokevirtual 251, 3)) (hcat : (st.map fun v => v.category).sum ≤ 8) (hR : 0 + 1 ≤ fr ∧ 8 + (1 + 11) + 0 ≤ lo) (k : V G (RX11, cc, ret, fr, lo, nL, mn, hh) B (pc + 3) ls (.ref x :: st) M1) : V G (RX11, cc, ret, fr, lo, nL, mn, hh) B pc ls (.ref l0 :: st) M := v_callVr (As := []) (k_X4_head e) wd_X11_251 clX4 (kd_X4_head e) hd rfl rfl hcat hR k
set_option maxHeartbeats 4000000 in
set_option maxRecDepth 100000 in
theorem w_X4_extend_J19 {G : Gl} {ρ0 : Nat → Nat} {M0 MF : Mem} {r : Nat} (l0 : Nat) (M : Mem) (h : f_X4_extend_J19 l0 M = some (r, MF)) : V G (RX4, cX4_extend, (some (.object "GradedTopicBroker$Packet")), 0, 0, 1, "extend", []) (ρ0, M0, cvR r, MF) 19 [(0, .ref l0)] [] M := by
  unfold f_X4_extend_J19 at h
  refine v_aload_n dX4_extend_19 rfl 0 rfl ?_
  obtain ⟨v1, e, h⟩ := bind_some h
  refine gt_X4_11 e dX4_extend_20 ?_
  refine v_aload_n dX4_extend_23 rfl 0 rfl ?_
  obtain ⟨v2, e, h⟩ := bind_some h
  refine gt_X4_20 e dX4_extend_24 ?_
  refine v_aload_n dX4_extend_27 rfl 0 rfl ?_
  obtain ⟨v3, e, h⟩ := bind_some h
  refine gt_X4_24 e dX4_extend_28 ?_
  refine v_iadd dX4_extend_31 ?_
  refine v_iconst (v := 1) dX4_extend_32 ci_1 ?_
  refine v_isub dX4_extend_33 ?_
  refine v_bipush (v := 30) dX4_extend_34 cb_30 ?_
  refine v_irem dX4_extend_36 (by decide) ?_
  obtain ⟨v4, e, h⟩ := bind_some h
  refine al_3 e dX4_extend_37 ?_
  cases h
  exact v_areturn dX4_extend_38
set_option maxHeartbeats 4000000 in
set_option maxRecDepth 100000 in
theorem w_X4_extend {G : Gl} {ρ0 : Nat → Nat} {M0 MF : Mem} {r : Nat} (l0 : Nat) (M : Mem) (h : f_X4_extend l0 M = some (r, MF)) : V G (RX4, cX4_extend, (some (.object "GradedTopicBroker$Packet")), 0, 0, 1, "extend", []) (ρ0, M0, cvR r, MF) 0 [(0, .ref l0)] [] M := by
  unfold f_X4_extend at h
  replace h := (ifS h).2
  refine v_aload_n dX4_extend_0 rfl 0 rfl ?_
  obtain ⟨v1, e, h⟩ := bind_some h
  refine gt_X4_24 e dX4_extend_1 ?_
  refine v_bipush (v := 30) dX4_extend_4 cb_30 ?_
  refine v_icmp_ge (tgt := 19) dX4_extend_6 (by decide) (fun c4 => ?_) (fun c4 => ?_)
  · replace h := ifP c4 h
    exact w_X4_extend_J19 l0 M h
  · replace h := ifN c4 h
    refine v_aload_n dX4_extend_9 rfl 0 rfl ?_
    refine v_dup dX4_extend_10 rfl ?_
    obtain ⟨v2, e, h⟩ := bind_some h
    refine gt_X4_24 e dX4_extend_11 ?_
    refine v_iconst (v := 1) dX4_extend_14 ci_1 ?_
    refine v_iadd dX4_extend_15 ?_
    obtain ⟨M3, e, h⟩ := bind_some h
    refine pt_X4_24 e dX4_extend_16 ?_
    exact w_X4_extend_J19 l0 M3 h
theorem kd_X4_extend {l0 : Nat} {M : Mem} {z : _} (h : f_X4_extend l0 M = some z) : (mK M l0).1 = 4 := by
  unfold f_X4_extend at h
  exact (ifS h).1
theorem k_X4_extend {G : Gl} {l0 : Nat} {M MF : Mem} {r : Nat} (h : f_X4_extend l0 M = some (r, MF)) : CtrP G yX4_extend cX4_extend 1 (some (.object "GradedTopicBroker$Packet")) 0 0 [.ref l0] M (cvR r) MF :=
  ctr_of (by decide +kernel) (Nat.le_of_ble_eq_true rfl) (fun ρ => w_X4_extend l0 M h)
theorem wd_X7_296 : wdV RX7 296 RX4 yX4_extend cX4_extend 1 (some (.object "GradedTopicBroker$Packet")) 0 := ⟨gwi 730 (by decide +kernel) (by decide +kernel), gwi 731 (by decide +kernel) (by decide +kernel), gwi 732 (by decide +kernel) (by decide +kernel), nw_X4, gwi 733 (by decide +kernel) (by decide +kernel), ⟨rfl, by decide +kernel, by decide +kernel, by decide +kernel⟩⟩
theorem ca_X7_296 {G : Gl} {B : Bx} {cc : ByteArray} {ret : Option FieldType} {fr lo nL : Nat} {mn : String} {hh : List (Nat × Nat × Nat × Nat)} {pc : Nat} {ls : List (Nat × Value)} {st : List Value} {M M1 : Mem} {l0 : Nat} {x : Nat} (e : f_X4_extend l0 M = some (x, M1)) (hd : decode cc pc = .ok (.invokevirtual 296, 3)) (hcat : (st.map fun v => v.category).sum ≤ 8) (hR : 0 + 1 ≤ fr ∧ 8 + (1 + 11) + 0 ≤ lo) (k : V G (RX7, cc, ret, fr, lo, nL, mn, hh) B (pc + 3) ls (.ref x :: st) M1) : V G (RX7, cc, ret, fr, lo, nL, mn, hh) B pc ls (.ref l0 :: st) M := v_callVr (As := []) (k_X4_extend e) wd_X7_296 clX4 (kd_X4_extend e) hd rfl rfl hcat hR k
set_option maxHeartbeats 4000000 in
set_option maxRecDepth 100000 in
theorem w_X4_dropFirst {G : Gl} {ρ0 : Nat → Nat} {M0 MF : Mem} {r : Unit} (l0 : Nat) (M : Mem) (h : f_X4_dropFirst l0 M = some MF) : V G (RX4, cX4_dropFirst, none, 0, 0, 1, "dropFirst", []) (ρ0, M0, cvV r, MF) 0 [(0, .ref l0)] [] M := by
  unfold f_X4_dropFirst at h
  replace h := (ifS h).2
  refine v_aload_n dX4_dropFirst_0 rfl 0 rfl ?_
  obtain ⟨v1, e, h⟩ := bind_some h
  refine gt_X4_24 e dX4_dropFirst_1 ?_
  refine v_if_le (tgt := 30) dX4_dropFirst_4 (by decide) (fun c6 => ?_) (fun c6 => ?_)
  · replace h := ifP c6 h
    cases h
    exact v_vreturn dX4_dropFirst_30
  · replace h := ifN c6 h
    refine v_aload_n dX4_dropFirst_7 rfl 0 rfl ?_
    refine v_aload_n dX4_dropFirst_8 rfl 0 rfl ?_
    obtain ⟨v2, e, h⟩ := bind_some h
    refine gt_X4_20 e dX4_dropFirst_9 ?_
    refine v_iconst (v := 1) dX4_dropFirst_12 ci_1 ?_
    refine v_iadd dX4_dropFirst_13 ?_
    refine v_bipush (v := 30) dX4_dropFirst_14 cb_30 ?_
    refine v_irem dX4_dropFirst_16 (by decide) ?_
    obtain ⟨M3, e, h⟩ := bind_some h
    refine pt_X4_20 e dX4_dropFirst_17 ?_
    refine v_aload_n dX4_dropFirst_20 rfl 0 rfl ?_
    refine v_dup dX4_dropFirst_21 rfl ?_
    obtain ⟨v4, e, h⟩ := bind_some h
    refine gt_X4_24 e dX4_dropFirst_22 ?_
    refine v_iconst (v := 1) dX4_dropFirst_25 ci_1 ?_
    refine v_isub dX4_dropFirst_26 ?_
    obtain ⟨M5, e, h⟩ := bind_some h
    refine pt_X4_24 e dX4_dropFirst_27 ?_
    cases h
    exact v_vreturn dX4_dropFirst_30
theorem kd_X4_dropFirst {l0 : Nat} {M : Mem} {z : _} (h : f_X4_dropFirst l0 M = some z) : (mK M l0).1 = 4 := by
  unfold f_X4_dropFirst at h
  exact (ifS h).1
theorem k_X4_dropFirst {G : Gl} {l0 : Nat} {M MF : Mem} (h : f_X4_dropFirst l0 M = some MF) : CtrP G yX4_dropFirst cX4_dropFirst 1 none 0 0 [.ref l0] M (cvV ()) MF :=
  ctr_of (by decide +kernel) (Nat.le_of_ble_eq_true rfl) (fun ρ => w_X4_dropFirst (r := ()) l0 M h)
theorem wd_X11_262 : wdV RX11 262 RX4 yX4_dropFirst cX4_dropFirst 1 none 0 := ⟨gwi 1102 (by decide +kernel) (by decide +kernel), gwi 1103 (by decide +kernel) (by decide +kernel), gwi 1104 (by decide +kernel) (by decide +kernel), nw_X4, gwi 1105 (by decide +kernel) (by decide +kernel), ⟨rfl, by decide +kernel, by decide +kernel, by decide +kernel⟩⟩
theorem ca_X11_262 {G : Gl} {B : Bx} {cc : ByteArray} {ret : Option FieldType} {fr lo nL : Nat} {mn : String} {hh : List (Nat × Nat × Nat × Nat)} {pc : Nat} {ls : List (Nat × Value)} {st : List Value} {M M1 : Mem} {l0 : Nat} (e : f_X4_dropFirst l0 M = some M1) (hd : decode cc pc = .ok (.invokevirtual 262, 3)) (hcat : (st.map fun v => v.category).sum ≤ 8) (hR : 0 + 1 ≤ fr ∧ 8 + (1 + 11) + 0 ≤ lo) (k : V G (RX11, cc, ret, fr, lo, nL, mn, hh) B (pc + 3) ls (st) M1) : V G (RX11, cc, ret, fr, lo, nL, mn, hh) B pc ls (.ref l0 :: st) M := v_callV0 (As := []) (k_X4_dropFirst e) wd_X11_262 clX4 (kd_X4_dropFirst e) hd rfl rfl hcat hR k
set_option maxHeartbeats 4000000 in
set_option maxRecDepth 100000 in
theorem w_X4_clear {G : Gl} {ρ0 : Nat → Nat} {M0 MF : Mem} {r : Unit} (l0 : Nat) (M : Mem) (h : f_X4_clear l0 M = some MF) : V G (RX4, cX4_clear, none, 0, 0, 1, "clear", []) (ρ0, M0, cvV r, MF) 0 [(0, .ref l0)] [] M := by
  unfold f_X4_clear at h
  replace h := (ifS h).2
  refine v_aload_n dX4_clear_0 rfl 0 rfl ?_
  refine v_iconst (v := 0) dX4_clear_1 ci_0 ?_
  obtain ⟨M1, e, h⟩ := bind_some h
  refine pt_X4_20 e dX4_clear_2 ?_
  refine v_aload_n dX4_clear_5 rfl 0 rfl ?_
  refine v_iconst (v := 0) dX4_clear_6 ci_0 ?_
  obtain ⟨M2, e, h⟩ := bind_some h
  refine pt_X4_24 e dX4_clear_7 ?_
  cases h
  exact v_vreturn dX4_clear_10
theorem kd_X4_clear {l0 : Nat} {M : Mem} {z : _} (h : f_X4_clear l0 M = some z) : (mK M l0).1 = 4 := by
  unfold f_X4_clear at h
  exact (ifS h).1
theorem k_X4_clear {G : Gl} {l0 : Nat} {M MF : Mem} (h : f_X4_clear l0 M = some MF) : CtrP G yX4_clear cX4_clear 1 none 0 0 [.ref l0] M (cvV ()) MF :=
  ctr_of (by decide +kernel) (Nat.le_of_ble_eq_true rfl) (fun ρ => w_X4_clear (r := ()) l0 M h)
theorem wd_X7_90 : wdV RX7 90 RX4 yX4_clear cX4_clear 1 none 0 := ⟨gwi 638 (by decide +kernel) (by decide +kernel), gwi 639 (by decide +kernel) (by decide +kernel), gwi 640 (by decide +kernel) (by decide +kernel), nw_X4, gwi 641 (by decide +kernel) (by decide +kernel), ⟨rfl, by decide +kernel, by decide +kernel, by decide +kernel⟩⟩
theorem ca_X7_90 {G : Gl} {B : Bx} {cc : ByteArray} {ret : Option FieldType} {fr lo nL : Nat} {mn : String} {hh : List (Nat × Nat × Nat × Nat)} {pc : Nat} {ls : List (Nat × Value)} {st : List Value} {M M1 : Mem} {l0 : Nat} (e : f_X4_clear l0 M = some M1) (hd : decode cc pc = .ok (.invokevirtual 90, 3)) (hcat : (st.map fun v => v.category).sum ≤ 8) (hR : 0 + 1 ≤ fr ∧ 8 + (1 + 11) + 0 ≤ lo) (k : V G (RX7, cc, ret, fr, lo, nL, mn, hh) B (pc + 3) ls (st) M1) : V G (RX7, cc, ret, fr, lo, nL, mn, hh) B pc ls (.ref l0 :: st) M := v_callV0 (As := []) (k_X4_clear e) wd_X7_90 clX4 (kd_X4_clear e) hd rfl rfl hcat hR k
