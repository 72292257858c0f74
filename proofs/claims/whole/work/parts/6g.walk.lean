set_option maxHeartbeats 4000000 in
set_option maxRecDepth 100000 in
theorem w_X5_stepIdentifier_J28 {G : Gl} {ρ0 : Nat → Nat} {M0 MF : Mem} {r : Unit} (k2 : Nat → Int32 → Mem → Option Mem) (h2 : ∀ (l0 : Nat) (l1 : Int32) (M : Mem), k2 l0 l1 M = some MF → V G (RX5, cX5_stepIdentifier, none, 1, 22, 2, "stepIdentifier", []) (ρ0, M0, cvV r, MF) 2 [(0, .ref l0), (1, .int l1)] [] M) (l0 : Nat) (l1 : Int32) (s0 : Int32) (s1 : Nat) (M : Mem) (h : f_X5_stepIdentifier_J28 k2 l0 l1 s0 s1 M = some MF) : V G (RX5, cX5_stepIdentifier, none, 1, 22, 2, "stepIdentifier", []) (ρ0, M0, cvV r, MF) 28 [(0, .ref l0), (1, .int l1)] [.int s0, .ref s1] M := by
  unfold f_X5_stepIdentifier_J28 at h
  obtain ⟨M1, e, h⟩ := bind_some h
  refine pt_X5_50 e dX5_stepIdentifier_28 ?_
  refine v_aload_n dX5_stepIdentifier_31 rfl 0 rfl ?_
  obtain ⟨v2, e, h⟩ := bind_some h
  refine gt_X5_29 e dX5_stepIdentifier_32 ?_
  refine v_aload_n dX5_stepIdentifier_35 rfl 0 rfl ?_
  obtain ⟨v3, e, h⟩ := bind_some h
  refine gt_X5_50 e dX5_stepIdentifier_36 ?_
  obtain ⟨v5, M4, e, h⟩ := bindP_some h
  refine ca_X5_98 e dX5_stepIdentifier_39 (Nat.le_of_ble_eq_true rfl) (by decide) ?_
  refine v_if_ge (tgt := 46) dX5_stepIdentifier_42 (by decide) (fun c6 => ?_) (fun c6 => ?_)
  · replace h := ifP c6 h
    refine v_iinc (ls' := [(1, .int (l1 + 1)), (0, .ref l0)]) dX5_stepIdentifier_46 1 rfl (v := 1) ci_1 (by decide) rfl ?_
    refine v_goto (tgt := 2) dX5_stepIdentifier_49 (by decide) ?_
    refine v_sub [1, 0] rfl ?_
    exact h2 l0 (l1 + 1) M4 h
  · replace h := ifN c6 h
    cases h
    exact v_vreturn dX5_stepIdentifier_45
set_option maxHeartbeats 4000000 in
set_option maxRecDepth 100000 in
theorem w_X5_stepIdentifier_L2 {G : Gl} {ρ0 : Nat → Nat} {M0 MF : Mem} {r : Unit} : ∀ (n : Nat) (l0 : Nat) (l1 : Int32) (M : Mem), f_X5_stepIdentifier_L2 n l0 l1 M = some MF → V G (RX5, cX5_stepIdentifier, none, 1, 22, 2, "stepIdentifier", []) (ρ0, M0, cvV r, MF) 2 [(0, .ref l0), (1, .int l1)] [] M := by
  intro n
  induction n with
  | zero => intro l0 l1 M h; cases h
  | succ n ih =>
    intro l0 l1 M h
    rw [f_X5_stepIdentifier_L2] at h
    refine v_iload_n dX5_stepIdentifier_2 rfl 1 rfl ?_
    refine v_bipush (v := 50) dX5_stepIdentifier_3 cb_50 ?_
    refine v_icmp_ge (tgt := 52) dX5_stepIdentifier_5 (by decide) (fun c4 => ?_) (fun c4 => ?_)
    · replace h := ifP c4 h
      cases h
      exact v_vreturn dX5_stepIdentifier_52
    · replace h := ifN c4 h
      refine v_aload_n dX5_stepIdentifier_8 rfl 0 rfl ?_
      refine v_aload_n dX5_stepIdentifier_9 rfl 0 rfl ?_
      obtain ⟨v1, e, h⟩ := bind_some h
      refine gt_X5_50 e dX5_stepIdentifier_10 ?_
      refine v_bipush (v := 50) dX5_stepIdentifier_13 cb_50 ?_
      refine v_icmp_lt (tgt := 22) dX5_stepIdentifier_15 (by decide) (fun c3 => ?_) (fun c3 => ?_)
      · replace h := ifP c3 h
        refine v_aload_n dX5_stepIdentifier_22 rfl 0 rfl ?_
        obtain ⟨v2, e, h⟩ := bind_some h
        refine gt_X5_50 e dX5_stepIdentifier_23 ?_
        refine v_iconst (v := 1) dX5_stepIdentifier_26 ci_1 ?_
        refine v_iadd dX5_stepIdentifier_27 ?_
        exact w_X5_stepIdentifier_J28 (f_X5_stepIdentifier_L2 n) ih l0 l1 (v2 + (1 : Int32)) l0 M h
      · replace h := ifN c3 h
        refine v_iconst (v := 1) dX5_stepIdentifier_18 ci_1 ?_
        refine v_goto (tgt := 28) dX5_stepIdentifier_19 (by decide) ?_
        exact w_X5_stepIdentifier_J28 (f_X5_stepIdentifier_L2 n) ih l0 l1 (1 : Int32) l0 M h
set_option maxHeartbeats 4000000 in
set_option maxRecDepth 100000 in
theorem w_X5_stepIdentifier {G : Gl} {ρ0 : Nat → Nat} {M0 MF : Mem} {r : Unit} (l0 : Nat) (M : Mem) (h : f_X5_stepIdentifier l0 M = some MF) : V G (RX5, cX5_stepIdentifier, none, 1, 22, 2, "stepIdentifier", []) (ρ0, M0, cvV r, MF) 0 [(0, .ref l0)] [] M := by
  unfold f_X5_stepIdentifier at h
  replace h := (ifS h).2
  refine v_iconst (v := 0) dX5_stepIdentifier_0 ci_0 ?_
  refine v_istore_n (ls' := [(1, .int (0 : Int32)), (0, .ref l0)]) dX5_stepIdentifier_1 rfl (by decide) rfl ?_
  refine v_sub [1, 0] rfl ?_
  exact w_X5_stepIdentifier_L2 FU l0 (0 : Int32) M h
theorem kd_X5_stepIdentifier {l0 : Nat} {M : Mem} {z : _} (h : f_X5_stepIdentifier l0 M = some z) : (mK M l0).1 = 5 := by
  unfold f_X5_stepIdentifier at h
  exact (ifS h).1
theorem k_X5_stepIdentifier {G : Gl} {l0 : Nat} {M MF : Mem} (h : f_X5_stepIdentifier l0 M = some MF) : CtrP G yX5_stepIdentifier cX5_stepIdentifier 2 none 1 22 [.ref l0] M (cvV ()) MF :=
  ctr_of (by decide +kernel) (Nat.le_of_ble_eq_true rfl) (fun ρ => w_X5_stepIdentifier (r := ()) l0 M h)
theorem wd_X7_277 : wdV RX7 277 RX5 yX5_stepIdentifier cX5_stepIdentifier 2 none 0 := ⟨gwi 807 (by decide +kernel) (by decide +kernel), gwi 808 (by decide +kernel) (by decide +kernel), gwi 809 (by decide +kernel) (by decide +kernel), nw_X5, gwi 810 (by decide +kernel) (by decide +kernel), ⟨rfl, by decide +kernel, by decide +kernel, by decide +kernel⟩⟩
theorem ca_X7_277 {G : Gl} {B : Bx} {cc : ByteArray} {ret : Option FieldType} {fr lo nL : Nat} {mn : String} {hh : List (Nat × Nat × Nat × Nat)} {pc : Nat} {ls : List (Nat × Value)} {st : List Value} {M M1 : Mem} {l0 : Nat} (e : f_X5_stepIdentifier l0 M = some M1) (hd : decode cc pc = .ok (.invokevirtual 277, 3)) (hcat : (st.map fun v => v.category).sum ≤ 8) (hR : 1 + 1 ≤ fr ∧ 8 + (2 + 11) + 22 ≤ lo) (k : V G (RX7, cc, ret, fr, lo, nL, mn, hh) B (pc + 3) ls (st) M1) : V G (RX7, cc, ret, fr, lo, nL, mn, hh) B pc ls (.ref l0 :: st) M := v_callV0 (As := []) (k_X5_stepIdentifier e) wd_X7_277 clX5 (kd_X5_stepIdentifier e) hd rfl rfl hcat hR k
set_option maxHeartbeats 4000000 in
set_option maxRecDepth 100000 in
theorem w_X6_init {G : Gl} {ρ0 : Nat → Nat} {M0 MF : Mem} {r : Unit} (l0 : Nat) (l1 : Nat) (M : Mem) (h : f_X6_init l0 l1 M = some MF) : V G (RX6, cX6_init, none, 1, 20, 2, "<init>", []) (ρ0, M0, cvV r, MF) 0 [(0, .ref l0), (1, .ref l1)] [] M := by
  unfold f_X6_init at h
  refine v_aload_n dX6_init_0 rfl 0 rfl ?_
  refine oi_X6 dX6_init_1 (by decide) (Nat.le_of_ble_eq_true rfl) ?_
  refine v_aload_n dX6_init_4 rfl 0 rfl ?_
  refine v_aload_n dX6_init_5 rfl 1 rfl ?_
  obtain ⟨M1, e, h⟩ := bind_some h
  refine pt_X6_9 e dX6_init_6 ?_
  refine v_aload_n dX6_init_9 rfl 0 rfl ?_
  refine v_bipush (v := 6) dX6_init_10 cb_6 ?_
  obtain ⟨v2, M3, e, h⟩ := bindP_some h
  refine v_newa_int dX6_init_12 aw_int e ?_
  obtain ⟨M4, e, h⟩ := bind_some h
  refine pt_X6_15 e dX6_init_14 ?_
  cases h
  exact v_vreturn dX6_init_17
theorem k_X6_init {G : Gl} {l0 : Nat} {l1 : Nat} {M MF : Mem} (h : f_X6_init l0 l1 M = some MF) : CtrP G yX6_init cX6_init 2 none 1 20 [.ref l0, .ref l1] M (cvV ()) MF :=
  ctr_of (by decide +kernel) (Nat.le_of_ble_eq_true rfl) (fun ρ => w_X6_init (r := ()) l0 l1 M h)
theorem wd_X7_30 : wdI RX7 30 yX6_init cX6_init 2 1 := ⟨gwi 395 (by decide +kernel) (by decide +kernel), gwi 396 (by decide +kernel) (by decide +kernel), nw_X6, gwi 397 (by decide +kernel) (by decide +kernel), rfl, ⟨by decide +kernel, by decide +kernel, by decide +kernel⟩⟩
theorem ca_X7_30 {G : Gl} {B : Bx} {cc : ByteArray} {ret : Option FieldType} {fr lo nL : Nat} {mn : String} {hh : List (Nat × Nat × Nat × Nat)} {pc : Nat} {ls : List (Nat × Value)} {st : List Value} {M M1 : Mem} {l0 : Nat} {l1 : Nat} (e : f_X6_init l0 l1 M = some M1) (hd : decode cc pc = .ok (.invokespecial 30, 3)) (hcat : (st.map fun v => v.category).sum ≤ 8) (hR : 1 + 1 ≤ fr ∧ 8 + (2 + 11) + 20 ≤ lo) (k : V G (RX7, cc, ret, fr, lo, nL, mn, hh) B (pc + 3) ls (st) M1) : V G (RX7, cc, ret, fr, lo, nL, mn, hh) B pc ls (.ref l1 :: .ref l0 :: st) M := v_callI (As := [.ref l1]) (k_X6_init e) wd_X7_30 hd rfl rfl hcat hR k
set_option maxHeartbeats 4000000 in
set_option maxRecDepth 100000 in
theorem w_X6_addMember {G : Gl} {ρ0 : Nat → Nat} {M0 MF : Mem} {r : Unit} (l0 : Nat) (l1 : Int32) (M : Mem) (h : f_X6_addMember l0 l1 M = some MF) : V G (RX6, cX6_addMember, none, 0, 0, 2, "addMember", []) (ρ0, M0, cvV r, MF) 0 [(0, .ref l0), (1, .int l1)] [] M := by
  unfold f_X6_addMember at h
  replace h := (ifS h).2
  refine v_aload_n dX6_addMember_0 rfl 0 rfl ?_
  obtain ⟨v1, e, h⟩ := bind_some h
  refine gt_X6_19 e dX6_addMember_1 ?_
  refine v_if_lt (tgt := 36) dX6_addMember_4 (by decide) (fun c9 => ?_) (fun c9 => ?_)
  · replace h := ifP c9 h
    cases h
    exact v_vreturn dX6_addMember_36
  · replace h := ifN c9 h
    refine v_aload_n dX6_addMember_7 rfl 0 rfl ?_
    obtain ⟨v2, e, h⟩ := bind_some h
    refine gt_X6_19 e dX6_addMember_8 ?_
    refine v_bipush (v := 6) dX6_addMember_11 cb_6 ?_
    refine v_icmp_ge (tgt := 36) dX6_addMember_13 (by decide) (fun c8 => ?_) (fun c8 => ?_)
    · replace h := ifP c8 h
      cases h
      exact v_vreturn dX6_addMember_36
    · replace h := ifN c8 h
      refine v_aload_n dX6_addMember_16 rfl 0 rfl ?_
      obtain ⟨v3, e, h⟩ := bind_some h
      refine gt_X6_15 e dX6_addMember_17 ?_
      refine v_aload_n dX6_addMember_20 rfl 0 rfl ?_
      obtain ⟨v4, e, h⟩ := bind_some h
      refine gt_X6_19 e dX6_addMember_21 ?_
      refine v_iload_n dX6_addMember_24 rfl 1 rfl ?_
      obtain ⟨M5, e, h⟩ := bind_some h
      refine v_iastore dX6_addMember_25 e ?_
      refine v_aload_n dX6_addMember_26 rfl 0 rfl ?_
      refine v_dup dX6_addMember_27 rfl ?_
      obtain ⟨v6, e, h⟩ := bind_some h
      refine gt_X6_19 e dX6_addMember_28 ?_
      refine v_iconst (v := 1) dX6_addMember_31 ci_1 ?_
      refine v_iadd dX6_addMember_32 ?_
      obtain ⟨M7, e, h⟩ := bind_some h
      refine pt_X6_19 e dX6_addMember_33 ?_
      cases h
      exact v_vreturn dX6_addMember_36
theorem kd_X6_addMember {l0 : Nat} {l1 : Int32} {M : Mem} {z : _} (h : f_X6_addMember l0 l1 M = some z) : (mK M l0).1 = 6 := by
  unfold f_X6_addMember at h
  exact (ifS h).1
theorem k_X6_addMember {G : Gl} {l0 : Nat} {l1 : Int32} {M MF : Mem} (h : f_X6_addMember l0 l1 M = some MF) : CtrP G yX6_addMember cX6_addMember 2 none 0 0 [.ref l0, .int l1] M (cvV ()) MF :=
  ctr_of (by decide +kernel) (Nat.le_of_ble_eq_true rfl) (fun ρ => w_X6_addMember (r := ()) l0 l1 M h)
theorem wd_X7_174 : wdV RX7 174 RX6 yX6_addMember cX6_addMember 2 none 1 := ⟨gwi 828 (by decide +kernel) (by decide +kernel), gwi 829 (by decide +kernel) (by decide +kernel), gwi 830 (by decide +kernel) (by decide +kernel), nw_X6, gwi 831 (by decide +kernel) (by decide +kernel), ⟨rfl, by decide +kernel, by decide +kernel, by decide +kernel⟩⟩
theorem ca_X7_174 {G : Gl} {B : Bx} {cc : ByteArray} {ret : Option FieldType} {fr lo nL : Nat} {mn : String} {hh : List (Nat × Nat × Nat × Nat)} {pc : Nat} {ls : List (Nat × Value)} {st : List Value} {M M1 : Mem} {l0 : Nat} {l1 : Int32} (e : f_X6_addMember l0 l1 M = some M1) (hd : decode cc pc = .ok (.invokevirtual 174, 3)) (hcat : (st.map fun v => v.category).sum ≤ 8) (hR : 0 + 1 ≤ fr ∧ 8 + (2 + 11) + 0 ≤ lo) (k : V G (RX7, cc, ret, fr, lo, nL, mn, hh) B (pc + 3) ls (st) M1) : V G (RX7, cc, ret, fr, lo, nL, mn, hh) B pc ls (.int l1 :: .ref l0 :: st) M := v_callV0 (As := [.int l1]) (k_X6_addMember e) wd_X7_174 clX6 (kd_X6_addMember e) hd rfl rfl hcat hR k
set_option maxHeartbeats 4000000 in
set_option maxRecDepth 100000 in
theorem w_X6_removeMember_J49 {G : Gl} {ρ0 : Nat → Nat} {M0 MF : Mem} {r : Unit} (l0 : Nat) (l2 : Int32) (M : Mem) (h : f_X6_removeMember_J49 l0 l2 M = some MF) : V G (RX6, cX6_removeMember, none, 0, 0, 4, "removeMember", []) (ρ0, M0, cvV r, MF) 49 [(0, .ref l0), (2, .int l2)] [] M := by
  unfold f_X6_removeMember_J49 at h
  refine v_aload_n dX6_removeMember_49 rfl 0 rfl ?_
  refine v_iload_n dX6_removeMember_50 rfl 1 rfl ?_
  obtain ⟨M1, e, h⟩ := bind_some h
  refine pt_X6_19 e dX6_removeMember_51 ?_
  cases h
  exact v_vreturn dX6_removeMember_54
set_option maxHeartbeats 4000000 in
set_option maxRecDepth 100000 in
theorem w_X6_removeMember_L4 {G : Gl} {ρ0 : Nat → Nat} {M0 MF : Mem} {r : Unit} : ∀ (n : Nat) (l0 : Nat) (l1 : Int32) (l2 : Int32) (l3 : Int32) (M : Mem), f_X6_removeMember_L4 n l0 l1 l2 l3 M = some MF → V G (RX6, cX6_removeMember, none, 0, 0, 4, "removeMember", []) (ρ0, M0, cvV r, MF) 4 [(0, .ref l0), (1, .int l1), (2, .int l2), (3, .int l3)] [] M := by
  intro n
  induction n with
  | zero => intro l0 l1 l2 l3 M h; cases h
  | succ n ih =>
    intro l0 l1 l2 l3 M h
    rw [f_X6_removeMember_L4] at h
    refine v_iload_n dX6_removeMember_4 rfl 3 rfl ?_
    refine v_aload_n dX6_removeMember_5 rfl 0 rfl ?_
    obtain ⟨v1, e, h⟩ := bind_some h
    refine gt_X6_19 e dX6_removeMember_6 ?_
    refine v_icmp_ge (tgt := 49) dX6_removeMember_9 (by decide) (fun c10 => ?_) (fun c10 => ?_)
    · replace h := ifP c10 h
      refine v_sub [0, 2] rfl ?_
      exact w_X6_removeMember_J49 l0 l2 M h
    · replace h := ifN c10 h
      refine v_iload_n dX6_removeMember_12 rfl 3 rfl ?_
      refine v_bipush (v := 6) dX6_removeMember_13 cb_6 ?_
      refine v_icmp_ge (tgt := 49) dX6_removeMember_15 (by decide) (fun c9 => ?_) (fun c9 => ?_)
      · replace h := ifP c9 h
        refine v_sub [0, 2] rfl ?_
        exact w_X6_removeMember_J49 l0 l2 M h
      · replace h := ifN c9 h
        refine v_aload_n dX6_removeMember_18 rfl 0 rfl ?_
        obtain ⟨v2, e, h⟩ := bind_some h
        refine gt_X6_15 e dX6_removeMember_19 ?_
        refine v_iload_n dX6_removeMember_22 rfl 3 rfl ?_
        obtain ⟨v3, e, h⟩ := bind_some h
        refine v_iaload dX6_removeMember_23 e ?_
        refine v_iload_n dX6_removeMember_24 rfl 1 rfl ?_
        refine v_icmp_eq (tgt := 43) dX6_removeMember_25 (by decide) (fun c8 => ?_) (fun c8 => ?_)
        · replace h := ifP c8 h
          refine v_iinc (ls' := [(3, .int (l3 + 1)), (0, .ref l0), (1, .int l1), (2, .int l2)]) dX6_removeMember_43 3 rfl (v := 1) ci_1 (by decide) rfl ?_
          refine v_goto (tgt := 4) dX6_removeMember_46 (by decide) ?_
          refine v_sub [1, 2, 3, 0] rfl ?_
          exact ih l0 l1 l2 (l3 + 1) M h
        · replace h := ifN c8 h
          refine v_aload_n dX6_removeMember_28 rfl 0 rfl ?_
          obtain ⟨v4, e, h⟩ := bind_some h
          refine gt_X6_15 e dX6_removeMember_29 ?_
          refine v_iload_n dX6_removeMember_32 rfl 2 rfl ?_
          refine v_aload_n dX6_removeMember_33 rfl 0 rfl ?_
          obtain ⟨v5, e, h⟩ := bind_some h
          refine gt_X6_15 e dX6_removeMember_34 ?_
          refine v_iload_n dX6_removeMember_37 rfl 3 rfl ?_
          obtain ⟨v6, e, h⟩ := bind_some h
          refine v_iaload dX6_removeMember_38 e ?_
          obtain ⟨M7, e, h⟩ := bind_some h
          refine v_iastore dX6_removeMember_39 e ?_
          refine v_iinc (ls' := [(2, .int (l2 + 1)), (0, .ref l0), (1, .int l1), (3, .int l3)]) dX6_removeMember_40 2 rfl (v := 1) ci_1 (by decide) rfl ?_
          refine v_iinc (ls' := [(3, .int (l3 + 1)), (2, .int (l2 + 1)), (0, .ref l0), (1, .int l1)]) dX6_removeMember_43 3 rfl (v := 1) ci_1 (by decide) rfl ?_
          refine v_goto (tgt := 4) dX6_removeMember_46 (by decide) ?_
          refine v_sub [2, 3, 1, 0] rfl ?_
          exact ih l0 l1 (l2 + 1) (l3 + 1) M7 h
set_option maxHeartbeats 4000000 in
set_option maxRecDepth 100000 in
theorem w_X6_removeMember {G : Gl} {ρ0 : Nat → Nat} {M0 MF : Mem} {r : Unit} (l0 : Nat) (l1 : Int32) (M : Mem) (h : f_X6_removeMember l0 l1 M = some MF) : V G (RX6, cX6_removeMember, none, 0, 0, 4, "removeMember", []) (ρ0, M0, cvV r, MF) 0 [(0, .ref l0), (1, .int l1)] [] M := by
  unfold f_X6_removeMember at h
  replace h := (ifS h).2
  refine v_iconst (v := 0) dX6_removeMember_0 ci_0 ?_
  refine v_istore_n (ls' := [(2, .int (0 : Int32)), (0, .ref l0), (1, .int l1)]) dX6_removeMember_1 rfl (by decide) rfl ?_
  refine v_iconst (v := 0) dX6_removeMember_2 ci_0 ?_
  refine v_istore_n (ls' := [(3, .int (0 : Int32)), (2, .int (0 : Int32)), (0, .ref l0), (1, .int l1)]) dX6_removeMember_3 rfl (by decide) rfl ?_
  refine v_sub [2, 3, 1, 0] rfl ?_
  exact w_X6_removeMember_L4 FU l0 l1 (0 : Int32) (0 : Int32) M h
theorem kd_X6_removeMember {l0 : Nat} {l1 : Int32} {M : Mem} {z : _} (h : f_X6_removeMember l0 l1 M = some z) : (mK M l0).1 = 6 := by
  unfold f_X6_removeMember at h
  exact (ifS h).1
theorem k_X6_removeMember {G : Gl} {l0 : Nat} {l1 : Int32} {M MF : Mem} (h : f_X6_removeMember l0 l1 M = some MF) : CtrP G yX6_removeMember cX6_removeMember 4 none 0 0 [.ref l0, .int l1] M (cvV ()) MF :=
  ctr_of (by decide +kernel) (Nat.le_of_ble_eq_true rfl) (fun ρ => w_X6_removeMember (r := ()) l0 l1 M h)
theorem wd_X7_189 : wdV RX7 189 RX6 yX6_removeMember cX6_removeMember 4 none 1 := ⟨gwi 716 (by decide +kernel) (by decide +kernel), gwi 717 (by decide +kernel) (by decide +kernel), gwi 718 (by decide +kernel) (by decide +kernel), nw_X6, gwi 719 (by decide +kernel) (by decide +kernel), ⟨rfl, by decide +kernel, by decide +kernel, by decide +kernel⟩⟩
theorem ca_X7_189 {G : Gl} {B : Bx} {cc : ByteArray} {ret : Option FieldType} {fr lo nL : Nat} {mn : String} {hh : List (Nat × Nat × Nat × Nat)} {pc : Nat} {ls : List (Nat × Value)} {st : List Value} {M M1 : Mem} {l0 : Nat} {l1 : Int32} (e : f_X6_removeMember l0 l1 M = some M1) (hd : decode cc pc = .ok (.invokevirtual 189, 3)) (hcat : (st.map fun v => v.category).sum ≤ 8) (hR : 0 + 1 ≤ fr ∧ 8 + (4 + 11) + 0 ≤ lo) (k : V G (RX7, cc, ret, fr, lo, nL, mn, hh) B (pc + 3) ls (st) M1) : V G (RX7, cc, ret, fr, lo, nL, mn, hh) B pc ls (.int l1 :: .ref l0 :: st) M := v_callV0 (As := [.int l1]) (k_X6_removeMember e) wd_X7_189 clX6 (kd_X6_removeMember e) hd rfl rfl hcat hR k
set_option maxHeartbeats 4000000 in
set_option maxRecDepth 100000 in
theorem w_X6_copyFrom_L18 {G : Gl} {ρ0 : Nat → Nat} {M0 MF : Mem} {r : Unit} : ∀ (n : Nat) (l0 : Nat) (l1 : Nat) (l2 : Int32) (M : Mem), f_X6_copyFrom_L18 n l0 l1 l2 M = some MF → V G (RX6, cX6_copyFrom, none, 0, 0, 3, "copyFrom", []) (ρ0, M0, cvV r, MF) 18 [(0, .ref l0), (1, .ref l1), (2, .int l2)] [] M := by
  intro n
  induction n with
  | zero => intro l0 l1 l2 M h; cases h
  | succ n ih =>
    intro l0 l1 l2 M h
    rw [f_X6_copyFrom_L18] at h
    refine v_iload_n dX6_copyFrom_18 rfl 2 rfl ?_
    refine v_bipush (v := 6) dX6_copyFrom_19 cb_6 ?_
    refine v_icmp_ge (tgt := 42) dX6_copyFrom_21 (by decide) (fun c5 => ?_) (fun c5 => ?_)
    · replace h := ifP c5 h
      refine v_aload_n dX6_copyFrom_42 rfl 0 rfl ?_
      refine v_aload_n dX6_copyFrom_43 rfl 1 rfl ?_
      obtain ⟨v1, e, h⟩ := bind_some h
      refine gt_X6_19 e dX6_copyFrom_44 ?_
      obtain ⟨M2, e, h⟩ := bind_some h
      refine pt_X6_19 e dX6_copyFrom_47 ?_
      cases h
      exact v_vreturn dX6_copyFrom_50
    · replace h := ifN c5 h
      refine v_aload_n dX6_copyFrom_24 rfl 0 rfl ?_
      obtain ⟨v1, e, h⟩ := bind_some h
      refine gt_X6_15 e dX6_copyFrom_25 ?_
      refine v_iload_n dX6_copyFrom_28 rfl 2 rfl ?_
      refine v_aload_n dX6_copyFrom_29 rfl 1 rfl ?_
      obtain ⟨v2, e, h⟩ := bind_some h
      refine gt_X6_15 e dX6_copyFrom_30 ?_
      refine v_iload_n dX6_copyFrom_33 rfl 2 rfl ?_
      obtain ⟨v3, e, h⟩ := bind_some h
      refine v_iaload dX6_copyFrom_34 e ?_
      obtain ⟨M4, e, h⟩ := bind_some h
      refine v_iastore dX6_copyFrom_35 e ?_
      refine v_iinc (ls' := [(2, .int (l2 + 1)), (0, .ref l0), (1, .ref l1)]) dX6_copyFrom_36 2 rfl (v := 1) ci_1 (by decide) rfl ?_
      refine v_goto (tgt := 18) dX6_copyFrom_39 (by decide) ?_
      refine v_sub [1, 2, 0] rfl ?_
      exact ih l0 l1 (l2 + 1) M4 h
set_option maxHeartbeats 4000000 in
set_option maxRecDepth 100000 in
theorem w_X6_copyFrom {G : Gl} {ρ0 : Nat → Nat} {M0 MF : Mem} {r : Unit} (l0 : Nat) (l1 : Nat) (M : Mem) (h : f_X6_copyFrom l0 l1 M = some MF) : V G (RX6, cX6_copyFrom, none, 0, 0, 3, "copyFrom", []) (ρ0, M0, cvV r, MF) 0 [(0, .ref l0), (1, .ref l1)] [] M := by
  unfold f_X6_copyFrom at h
  replace h := (ifS h).2
  refine v_aload_n dX6_copyFrom_0 rfl 0 rfl ?_
  refine v_aload_n dX6_copyFrom_1 rfl 1 rfl ?_
  obtain ⟨v1, e, h⟩ := bind_some h
  refine gt_X6_9 e dX6_copyFrom_2 ?_
  obtain ⟨M2, e, h⟩ := bind_some h
  refine pt_X6_9 e dX6_copyFrom_5 ?_
  refine v_aload_n dX6_copyFrom_8 rfl 0 rfl ?_
  refine v_aload_n dX6_copyFrom_9 rfl 1 rfl ?_
  obtain ⟨v3, e, h⟩ := bind_some h
  refine gt_X6_23 e dX6_copyFrom_10 ?_
  obtain ⟨M4, e, h⟩ := bind_some h
  refine pt_X6_23 e dX6_copyFrom_13 ?_
  refine v_iconst (v := 0) dX6_copyFrom_16 ci_0 ?_
  refine v_istore_n (ls' := [(2, .int (0 : Int32)), (0, .ref l0), (1, .ref l1)]) dX6_copyFrom_17 rfl (by decide) rfl ?_
  refine v_sub [1, 2, 0] rfl ?_
  exact w_X6_copyFrom_L18 FU l0 l1 (0 : Int32) M4 h
theorem kd_X6_copyFrom {l0 : Nat} {l1 : Nat} {M : Mem} {z : _} (h : f_X6_copyFrom l0 l1 M = some z) : (mK M l0).1 = 6 := by
  unfold f_X6_copyFrom at h
  exact (ifS h).1
theorem k_X6_copyFrom {G : Gl} {l0 : Nat} {l1 : Nat} {M MF : Mem} (h : f_X6_copyFrom l0 l1 M = some MF) : CtrP G yX6_copyFrom cX6_copyFrom 3 none 0 0 [.ref l0, .ref l1] M (cvV ()) MF :=
  ctr_of (by decide +kernel) (Nat.le_of_ble_eq_true rfl) (fun ρ => w_X6_copyFrom (r := ()) l0 l1 M h)
theorem wd_X7_67 : wdV RX7 67 RX6 yX6_copyFrom cX6_copyFrom 3 none 1 := ⟨gwi 557 (by decide +kernel) (by decide +kernel), gwi 558 (by decide +kernel) (by decide +kernel), gwi 559 (by decide +kernel) (by decide +kernel), nw_X6, gwi 560 (by decide +kernel) (by decide +kernel), ⟨rfl, by decide +kernel, by decide +kernel, by decide +kernel⟩⟩
theorem ca_X7_67 {G : Gl} {B : Bx} {cc : ByteArray} {ret : Option FieldType} {fr lo nL : Nat} {mn : String} {hh : List (Nat × Nat × Nat × Nat)} {pc : Nat} {ls : List (Nat × Value)} {st : List Value} {M M1 : Mem} {l0 : Nat} {l1 : Nat} (e : f_X6_copyFrom l0 l1 M = some M1) (hd : decode cc pc = .ok (.invokevirtual 67, 3)) (hcat : (st.map fun v => v.category).sum ≤ 8) (hR : 0 + 1 ≤ fr ∧ 8 + (3 + 11) + 0 ≤ lo) (k : V G (RX7, cc, ret, fr, lo, nL, mn, hh) B (pc + 3) ls (st) M1) : V G (RX7, cc, ret, fr, lo, nL, mn, hh) B pc ls (.ref l1 :: .ref l0 :: st) M := v_callV0 (As := [.ref l1]) (k_X6_copyFrom e) wd_X7_67 clX6 (kd_X6_copyFrom e) hd rfl rfl hcat hR k
set_option maxHeartbeats 4000000 in
set_option maxRecDepth 100000 in
theorem w_X9_init_L25 {G : Gl} {ρ0 : Nat → Nat} {M0 MF : Mem} {r : Unit} : ∀ (n : Nat) (l0 : Nat) (l1 : Nat) (l2 : Int32) (M : Mem), f_X9_init_L25 n l0 l1 l2 M = some MF → V G (RX9, cX9_init, none, 1, 20, 3, "<init>", []) (ρ0, M0, cvV r, MF) 25 [(0, .ref l0), (1, .ref l1), (2, .int l2)] [] M := by
  intro n
  induction n with
  | zero => intro l0 l1 l2 M h; cases h
  | succ n ih =>
    intro l0 l1 l2 M h
    rw [f_X9_init_L25] at h
    refine v_iload_n dX9_init_25 rfl 2 rfl ?_
    refine v_sipush (v := 512) dX9_init_26 cs_512 ?_
    refine v_icmp_ge (tgt := 45) dX9_init_29 (by decide) (fun c3 => ?_) (fun c3 => ?_)
    · replace h := ifP c3 h
      cases h
      exact v_vreturn dX9_init_45
    · replace h := ifN c3 h
      refine v_aload_n dX9_init_32 rfl 0 rfl ?_
      obtain ⟨v1, e, h⟩ := bind_some h
      refine gt_X9_11 e dX9_init_33 ?_
      refine v_iload_n dX9_init_36 rfl 2 rfl ?_
      refine v_aload_n dX9_init_37 rfl 1 rfl ?_
      obtain ⟨M2, e, h⟩ := bind_some h
      refine as_10 e dX9_init_38 ?_
      refine v_iinc (ls' := [(2, .int (l2 + 1)), (0, .ref l0), (1, .ref l1)]) dX9_init_39 2 rfl (v := 1) ci_1 (by decide) rfl ?_
      refine v_goto (tgt := 25) dX9_init_42 (by decide) ?_
      refine v_sub [1, 2, 0] rfl ?_
      exact ih l0 l1 (l2 + 1) M2 h
set_option maxHeartbeats 4000000 in
set_option maxRecDepth 100000 in
theorem w_X9_init {G : Gl} {ρ0 : Nat → Nat} {M0 MF : Mem} {r : Unit} (l0 : Nat) (l1 : Nat) (M : Mem) (h : f_X9_init l0 l1 M = some MF) : V G (RX9, cX9_init, none, 1, 20, 3, "<init>", []) (ρ0, M0, cvV r, MF) 0 [(0, .ref l0), (1, .ref l1)] [] M := by
  unfold f_X9_init at h
  refine v_aload_n dX9_init_0 rfl 0 rfl ?_
  refine oi_X9 dX9_init_1 (by decide) (Nat.le_of_ble_eq_true rfl) ?_
  refine v_aload_n dX9_init_4 rfl 0 rfl ?_
  refine v_sipush (v := 512) dX9_init_5 cs_512 ?_
  obtain ⟨v1, M2, e, h⟩ := bindP_some h
  refine na_X9_9 e dX9_init_8 ?_
  obtain ⟨M3, e, h⟩ := bind_some h
  refine pt_X9_11 e dX9_init_11 ?_
  refine v_aload_n dX9_init_14 rfl 0 rfl ?_
  refine v_sipush (v := 512) dX9_init_15 cs_512 ?_
  obtain ⟨v4, M5, e, h⟩ := bindP_some h
  refine v_newa_int dX9_init_18 aw_int e ?_
  obtain ⟨M6, e, h⟩ := bind_some h
  refine pt_X9_17 e dX9_init_20 ?_
  refine v_iconst (v := 0) dX9_init_23 ci_0 ?_
  refine v_istore_n (ls' := [(2, .int (0 : Int32)), (0, .ref l0), (1, .ref l1)]) dX9_init_24 rfl (by decide) rfl ?_
  refine v_sub [1, 2, 0] rfl ?_
  exact w_X9_init_L25 FU l0 l1 (0 : Int32) M6 h
theorem k_X9_init {G : Gl} {l0 : Nat} {l1 : Nat} {M MF : Mem} (h : f_X9_init l0 l1 M = some MF) : CtrP G yX9_init cX9_init 3 none 1 20 [.ref l0, .ref l1] M (cvV ()) MF :=
  ctr_of (by decide +kernel) (Nat.le_of_ble_eq_true rfl) (fun ρ => w_X9_init (r := ()) l0 l1 M h)
theorem wd_X7_50 : wdI RX7 50 yX9_init cX9_init 3 1 := ⟨gwi 425 (by decide +kernel) (by decide +kernel), gwi 426 (by decide +kernel) (by decide +kernel), nw_X9, gwi 427 (by decide +kernel) (by decide +kernel), rfl, ⟨by decide +kernel, by decide +kernel, by decide +kernel⟩⟩
theorem ca_X7_50 {G : Gl} {B : Bx} {cc : ByteArray} {ret : Option FieldType} {fr lo nL : Nat} {mn : String} {hh : List (Nat × Nat × Nat × Nat)} {pc : Nat} {ls : List (Nat × Value)} {st : List Value} {M M1 : Mem} {l0 : Nat} {l1 : Nat} (e : f_X9_init l0 l1 M = some M1) (hd : decode cc pc = .ok (.invokespecial 50, 3)) (hcat : (st.map fun v => v.category).sum ≤ 8) (hR : 1 + 1 ≤ fr ∧ 8 + (3 + 11) + 20 ≤ lo) (k : V G (RX7, cc, ret, fr, lo, nL, mn, hh) B (pc + 3) ls (st) M1) : V G (RX7, cc, ret, fr, lo, nL, mn, hh) B pc ls (.ref l1 :: .ref l0 :: st) M := v_callI (As := [.ref l1]) (k_X9_init e) wd_X7_50 hd rfl rfl hcat hR k
set_option maxHeartbeats 4000000 in
set_option maxRecDepth 100000 in
theorem w_X7_init_L132 {G : Gl} {ρ0 : Nat → Nat} {M0 MF : Mem} {r : Unit} : ∀ (n : Nat) (l0 : Nat) (l1 : Nat) (l2 : Int32) (M : Mem), f_X7_init_L132 n l0 l1 l2 M = some MF → V G (RX7, cX7_init, none, 5, 107, 3, "<init>", []) (ρ0, M0, cvV r, MF) 132 [(0, .ref l0), (1, .ref l1), (2, .int l2)] [] M := by
  intro n
  induction n with
  | zero => intro l0 l1 l2 M h; cases h
  | succ n ih =>
    intro l0 l1 l2 M h
    rw [f_X7_init_L132] at h
    refine v_iload_n dX7_init_132 rfl 2 rfl ?_
    refine gs_X7_38 dX7_init_133 ?_
    refine v_stlen (w := 2) (by decide) dX7_init_136 ?_
    refine v_icmp_ge (tgt := 157) dX7_init_137 (by decide) (fun c12 => ?_) (fun c12 => ?_)
    · replace h := ifP c12 h
      refine v_aload_n dX7_init_157 rfl 0 rfl ?_
      refine v_bipush (v := 10) dX7_init_158 cb_10 ?_
      obtain ⟨v1, M2, e, h⟩ := bindP_some h
      refine v_newa_int dX7_init_160 aw_int e ?_
      obtain ⟨M3, e, h⟩ := bind_some h
      refine pt_X7_45 e dX7_init_162 ?_
      refine v_aload_n dX7_init_165 rfl 0 rfl ?_
      obtain ⟨v4, M5, e, h⟩ := bindP_some h
      refine nx_X7_48 e dX7_init_166 ?_
      refine v_dup dX7_init_169 rfl ?_
      refine v_aload_n dX7_init_170 rfl 1 rfl ?_
      obtain ⟨M6, e, h⟩ := bind_some h
      refine ca_X7_50 e dX7_init_171 (Nat.le_of_ble_eq_true rfl) (by decide) ?_
      obtain ⟨M7, e, h⟩ := bind_some h
      refine pt_X7_51 e dX7_init_174 ?_
      refine v_aload_n dX7_init_177 rfl 0 rfl ?_
      obtain ⟨v8, M9, e, h⟩ := bindP_some h
      refine nx_X7_31 e dX7_init_178 ?_
      refine v_dup dX7_init_181 rfl ?_
      refine v_aload_n dX7_init_182 rfl 1 rfl ?_
      obtain ⟨M10, e, h⟩ := bind_some h
      refine ca_X7_37 e dX7_init_183 (Nat.le_of_ble_eq_true rfl) (by decide) ?_
      obtain ⟨M11, e, h⟩ := bind_some h
      refine pt_X7_55 e dX7_init_186 ?_
      cases h
      exact v_vreturn dX7_init_189
    · replace h := ifN c12 h
      refine v_aload_n dX7_init_140 rfl 0 rfl ?_
      obtain ⟨v1, e, h⟩ := bind_some h
      refine gt_X7_42 e dX7_init_141 ?_
      refine v_iload_n dX7_init_144 rfl 2 rfl ?_
      refine gs_X7_38 dX7_init_145 ?_
      refine v_iload_n dX7_init_148 rfl 2 rfl ?_
      obtain ⟨v2, e, h⟩ := bind_some h
      refine v_stld (w := 2) (by decide) dX7_init_149 e ?_
      obtain ⟨M3, e, h⟩ := bind_some h
      refine v_iastore dX7_init_150 e ?_
      refine v_iinc (ls' := [(2, .int (l2 + 1)), (0, .ref l0), (1, .ref l1)]) dX7_init_151 2 rfl (v := 1) ci_1 (by decide) rfl ?_
      refine v_goto (tgt := 132) dX7_init_154 (by decide) ?_
      refine v_sub [1, 2, 0] rfl ?_
      exact ih l0 l1 (l2 + 1) M3 h
set_option maxHeartbeats 4000000 in
set_option maxRecDepth 100000 in
theorem w_X7_init_L94 {G : Gl} {ρ0 : Nat → Nat} {M0 MF : Mem} {r : Unit} : ∀ (n : Nat) (l0 : Nat) (l1 : Nat) (l2 : Int32) (M : Mem), f_X7_init_L94 n l0 l1 l2 M = some MF → V G (RX7, cX7_init, none, 5, 107, 3, "<init>", []) (ρ0, M0, cvV r, MF) 94 [(0, .ref l0), (1, .ref l1), (2, .int l2)] [] M := by
  intro n
  induction n with
  | zero => intro l0 l1 l2 M h; cases h
  | succ n ih =>
    intro l0 l1 l2 M h
    rw [f_X7_init_L94] at h
    refine v_iload_n dX7_init_94 rfl 2 rfl ?_
    refine v_bipush (v := 8) dX7_init_95 cb_8 ?_
    refine v_icmp_ge (tgt := 120) dX7_init_97 (by decide) (fun c6 => ?_) (fun c6 => ?_)
    · replace h := ifP c6 h
      refine v_aload_n dX7_init_120 rfl 0 rfl ?_
      refine gs_X7_38 dX7_init_121 ?_
      refine v_stlen (w := 2) (by decide) dX7_init_124 ?_
      obtain ⟨v1, M2, e, h⟩ := bindP_some h
      refine v_newa_int dX7_init_125 aw_int e ?_
      obtain ⟨M3, e, h⟩ := bind_some h
      refine pt_X7_42 e dX7_init_127 ?_
      refine v_iconst (v := 0) dX7_init_130 ci_0 ?_
      refine v_istore_n (ls' := [(2, .int (0 : Int32)), (0, .ref l0), (1, .ref l1)]) dX7_init_131 rfl (by decide) rfl ?_
      refine v_sub [1, 2, 0] rfl ?_
      exact w_X7_init_L132 FU l0 l1 (0 : Int32) M3 h
    · replace h := ifN c6 h
      refine v_aload_n dX7_init_100 rfl 0 rfl ?_
      obtain ⟨v1, e, h⟩ := bind_some h
      refine gt_X7_33 e dX7_init_101 ?_
      refine v_iload_n dX7_init_104 rfl 2 rfl ?_
      obtain ⟨v2, M3, e, h⟩ := bindP_some h
      refine nx_X7_31 e dX7_init_105 ?_
      refine v_dup dX7_init_108 rfl ?_
      refine v_aload_n dX7_init_109 rfl 1 rfl ?_
      obtain ⟨M4, e, h⟩ := bind_some h
      refine ca_X7_37 e dX7_init_110 (Nat.le_of_ble_eq_true rfl) (by decide) ?_
      obtain ⟨M5, e, h⟩ := bind_some h
      refine as_1 e dX7_init_113 ?_
      refine v_iinc (ls' := [(2, .int (l2 + 1)), (0, .ref l0), (1, .ref l1)]) dX7_init_114 2 rfl (v := 1) ci_1 (by decide) rfl ?_
      refine v_goto (tgt := 94) dX7_init_117 (by decide) ?_
      refine v_sub [1, 2, 0] rfl ?_
      exact ih l0 l1 (l2 + 1) M5 h
set_option maxHeartbeats 4000000 in
set_option maxRecDepth 100000 in
theorem w_X7_init_L57 {G : Gl} {ρ0 : Nat → Nat} {M0 MF : Mem} {r : Unit} : ∀ (n : Nat) (l0 : Nat) (l1 : Nat) (l2 : Int32) (M : Mem), f_X7_init_L57 n l0 l1 l2 M = some MF → V G (RX7, cX7_init, none, 5, 107, 3, "<init>", []) (ρ0, M0, cvV r, MF) 57 [(0, .ref l0), (1, .ref l1), (2, .int l2)] [] M := by
  intro n
  induction n with
  | zero => intro l0 l1 l2 M h; cases h
  | succ n ih =>
    intro l0 l1 l2 M h
    rw [f_X7_init_L57] at h
    refine v_iload_n dX7_init_57 rfl 2 rfl ?_
    refine v_bipush (v := 36) dX7_init_58 cb_36 ?_
    refine v_icmp_ge (tgt := 83) dX7_init_60 (by decide) (fun c6 => ?_) (fun c6 => ?_)
    · replace h := ifP c6 h
      refine v_aload_n dX7_init_83 rfl 0 rfl ?_
      refine v_bipush (v := 8) dX7_init_84 cb_8 ?_
      obtain ⟨v1, M2, e, h⟩ := bindP_some h
      refine na_X7_31 e dX7_init_86 ?_
      obtain ⟨M3, e, h⟩ := bind_some h
      refine pt_X7_33 e dX7_init_89 ?_
      refine v_iconst (v := 0) dX7_init_92 ci_0 ?_
      refine v_istore_n (ls' := [(2, .int (0 : Int32)), (0, .ref l0), (1, .ref l1)]) dX7_init_93 rfl (by decide) rfl ?_
      refine v_sub [1, 2, 0] rfl ?_
      exact w_X7_init_L94 FU l0 l1 (0 : Int32) M3 h
    · replace h := ifN c6 h
      refine v_aload_n dX7_init_63 rfl 0 rfl ?_
      obtain ⟨v1, e, h⟩ := bind_some h
      refine gt_X7_26 e dX7_init_64 ?_
      refine v_iload_n dX7_init_67 rfl 2 rfl ?_
      obtain ⟨v2, M3, e, h⟩ := bindP_some h
      refine nx_X7_24 e dX7_init_68 ?_
      refine v_dup dX7_init_71 rfl ?_
      refine v_aload_n dX7_init_72 rfl 1 rfl ?_
      obtain ⟨M4, e, h⟩ := bind_some h
      refine ca_X7_30 e dX7_init_73 (Nat.le_of_ble_eq_true rfl) (by decide) ?_
      obtain ⟨M5, e, h⟩ := bind_some h
      refine as_6 e dX7_init_76 ?_
      refine v_iinc (ls' := [(2, .int (l2 + 1)), (0, .ref l0), (1, .ref l1)]) dX7_init_77 2 rfl (v := 1) ci_1 (by decide) rfl ?_
      refine v_goto (tgt := 57) dX7_init_80 (by decide) ?_
      refine v_sub [1, 2, 0] rfl ?_
      exact ih l0 l1 (l2 + 1) M5 h
set_option maxHeartbeats 4000000 in
set_option maxRecDepth 100000 in
theorem w_X7_init_L20 {G : Gl} {ρ0 : Nat → Nat} {M0 MF : Mem} {r : Unit} : ∀ (n : Nat) (l0 : Nat) (l1 : Nat) (l2 : Int32) (M : Mem), f_X7_init_L20 n l0 l1 l2 M = some MF → V G (RX7, cX7_init, none, 5, 107, 3, "<init>", []) (ρ0, M0, cvV r, MF) 20 [(0, .ref l0), (1, .ref l1), (2, .int l2)] [] M := by
  intro n
  induction n with
  | zero => intro l0 l1 l2 M h; cases h
  | succ n ih =>
    intro l0 l1 l2 M h
    rw [f_X7_init_L20] at h
    refine v_iload_n dX7_init_20 rfl 2 rfl ?_
    refine v_bipush (v := 6) dX7_init_21 cb_6 ?_
    refine v_icmp_ge (tgt := 46) dX7_init_23 (by decide) (fun c6 => ?_) (fun c6 => ?_)
    · replace h := ifP c6 h
      refine v_aload_n dX7_init_46 rfl 0 rfl ?_
      refine v_bipush (v := 36) dX7_init_47 cb_36 ?_
      obtain ⟨v1, M2, e, h⟩ := bindP_some h
      refine na_X7_24 e dX7_init_49 ?_
      obtain ⟨M3, e, h⟩ := bind_some h
      refine pt_X7_26 e dX7_init_52 ?_
      refine v_iconst (v := 0) dX7_init_55 ci_0 ?_
      refine v_istore_n (ls' := [(2, .int (0 : Int32)), (0, .ref l0), (1, .ref l1)]) dX7_init_56 rfl (by decide) rfl ?_
      refine v_sub [1, 2, 0] rfl ?_
      exact w_X7_init_L57 FU l0 l1 (0 : Int32) M3 h
    · replace h := ifN c6 h
      refine v_aload_n dX7_init_26 rfl 0 rfl ?_
      obtain ⟨v1, e, h⟩ := bind_some h
      refine gt_X7_17 e dX7_init_27 ?_
      refine v_iload_n dX7_init_30 rfl 2 rfl ?_
      obtain ⟨v2, M3, e, h⟩ := bindP_some h
      refine nx_X7_15 e dX7_init_31 ?_
      refine v_dup dX7_init_34 rfl ?_
      refine v_aload_n dX7_init_35 rfl 1 rfl ?_
      obtain ⟨M4, e, h⟩ := bind_some h
      refine ca_X7_21 e dX7_init_36 (Nat.le_of_ble_eq_true rfl) (by decide) ?_
      obtain ⟨M5, e, h⟩ := bind_some h
      refine as_0 e dX7_init_39 ?_
      refine v_iinc (ls' := [(2, .int (l2 + 1)), (0, .ref l0), (1, .ref l1)]) dX7_init_40 2 rfl (v := 1) ci_1 (by decide) rfl ?_
      refine v_goto (tgt := 20) dX7_init_43 (by decide) ?_
      refine v_sub [1, 2, 0] rfl ?_
      exact ih l0 l1 (l2 + 1) M5 h
set_option maxHeartbeats 4000000 in
set_option maxRecDepth 100000 in
theorem w_X7_init {G : Gl} {ρ0 : Nat → Nat} {M0 MF : Mem} {r : Unit} (l0 : Nat) (l1 : Nat) (M : Mem) (h : f_X7_init l0 l1 M = some MF) : V G (RX7, cX7_init, none, 5, 107, 3, "<init>", []) (ρ0, M0, cvV r, MF) 0 [(0, .ref l0), (1, .ref l1)] [] M := by
  unfold f_X7_init at h
  refine v_aload_n dX7_init_0 rfl 0 rfl ?_
  refine oi_X7 dX7_init_1 (by decide) (Nat.le_of_ble_eq_true rfl) ?_
  refine v_aload_n dX7_init_4 rfl 0 rfl ?_
  refine v_aload_n dX7_init_5 rfl 1 rfl ?_
  obtain ⟨M1, e, h⟩ := bind_some h
  refine pt_X7_9 e dX7_init_6 ?_
  refine v_aload_n dX7_init_9 rfl 0 rfl ?_
  refine v_bipush (v := 6) dX7_init_10 cb_6 ?_
  obtain ⟨v2, M3, e, h⟩ := bindP_some h
  refine na_X7_15 e dX7_init_12 ?_
  obtain ⟨M4, e, h⟩ := bind_some h
  refine pt_X7_17 e dX7_init_15 ?_
  refine v_iconst (v := 0) dX7_init_18 ci_0 ?_
  refine v_istore_n (ls' := [(2, .int (0 : Int32)), (0, .ref l0), (1, .ref l1)]) dX7_init_19 rfl (by decide) rfl ?_
  refine v_sub [1, 2, 0] rfl ?_
  exact w_X7_init_L20 FU l0 l1 (0 : Int32) M4 h
theorem k_X7_init {G : Gl} {l0 : Nat} {l1 : Nat} {M MF : Mem} (h : f_X7_init l0 l1 M = some MF) : CtrP G yX7_init cX7_init 3 none 5 107 [.ref l0, .ref l1] M (cvV ()) MF :=
  ctr_of (by decide +kernel) (Nat.le_of_ble_eq_true rfl) (fun ρ => w_X7_init (r := ()) l0 l1 M h)
theorem wd_X11_40 : wdI RX11 40 yX7_init cX7_init 3 1 := ⟨gwi 217 (by decide +kernel) (by decide +kernel), gwi 218 (by decide +kernel) (by decide +kernel), nw_X7, gwi 219 (by decide +kernel) (by decide +kernel), rfl, ⟨by decide +kernel, by decide +kernel, by decide +kernel⟩⟩
theorem ca_X11_40 {G : Gl} {B : Bx} {cc : ByteArray} {ret : Option FieldType} {fr lo nL : Nat} {mn : String} {hh : List (Nat × Nat × Nat × Nat)} {pc : Nat} {ls : List (Nat × Value)} {st : List Value} {M M1 : Mem} {l0 : Nat} {l1 : Nat} (e : f_X7_init l0 l1 M = some M1) (hd : decode cc pc = .ok (.invokespecial 40, 3)) (hcat : (st.map fun v => v.category).sum ≤ 8) (hR : 5 + 1 ≤ fr ∧ 8 + (3 + 11) + 107 ≤ lo) (k : V G (RX11, cc, ret, fr, lo, nL, mn, hh) B (pc + 3) ls (st) M1) : V G (RX11, cc, ret, fr, lo, nL, mn, hh) B pc ls (.ref l1 :: .ref l0 :: st) M := v_callI (As := [.ref l1]) (k_X7_init e) wd_X11_40 hd rfl rfl hcat hR k
set_option maxHeartbeats 4000000 in
set_option maxRecDepth 100000 in
theorem w_X9_copyFrom_L10 {G : Gl} {ρ0 : Nat → Nat} {M0 MF : Mem} {r : Unit} : ∀ (n : Nat) (l0 : Nat) (l1 : Nat) (l2 : Int32) (M : Mem), f_X9_copyFrom_L10 n l0 l1 l2 M = some MF → V G (RX9, cX9_copyFrom, none, 0, 0, 3, "copyFrom", []) (ρ0, M0, cvV r, MF) 10 [(0, .ref l0), (1, .ref l1), (2, .int l2)] [] M := by
  intro n
  induction n with
  | zero => intro l0 l1 l2 M h; cases h
  | succ n ih =>
    intro l0 l1 l2 M h
    rw [f_X9_copyFrom_L10] at h
    refine v_iload_n dX9_copyFrom_10 rfl 2 rfl ?_
    refine v_aload_n dX9_copyFrom_11 rfl 0 rfl ?_
    obtain ⟨v1, e, h⟩ := bind_some h
    refine gt_X9_21 e dX9_copyFrom_12 ?_
    refine v_icmp_ge (tgt := 55) dX9_copyFrom_15 (by decide) (fun c11 => ?_) (fun c11 => ?_)
    · replace h := ifP c11 h
      cases h
      exact v_vreturn dX9_copyFrom_55
    · replace h := ifN c11 h
      refine v_iload_n dX9_copyFrom_18 rfl 2 rfl ?_
      refine v_sipush (v := 512) dX9_copyFrom_19 cs_512 ?_
      refine v_icmp_ge (tgt := 55) dX9_copyFrom_22 (by decide) (fun c10 => ?_) (fun c10 => ?_)
      · replace h := ifP c10 h
        cases h
        exact v_vreturn dX9_copyFrom_55
      · replace h := ifN c10 h
        refine v_aload_n dX9_copyFrom_25 rfl 0 rfl ?_
        obtain ⟨v2, e, h⟩ := bind_some h
        refine gt_X9_11 e dX9_copyFrom_26 ?_
        refine v_iload_n dX9_copyFrom_29 rfl 2 rfl ?_
        refine v_aload_n dX9_copyFrom_30 rfl 1 rfl ?_
        obtain ⟨v3, e, h⟩ := bind_some h
        refine gt_X9_11 e dX9_copyFrom_31 ?_
        refine v_iload_n dX9_copyFrom_34 rfl 2 rfl ?_
        obtain ⟨v4, e, h⟩ := bind_some h
        refine al_10 e dX9_copyFrom_35 ?_
        obtain ⟨M5, e, h⟩ := bind_some h
        refine as_10 e dX9_copyFrom_36 ?_
        refine v_aload_n dX9_copyFrom_37 rfl 0 rfl ?_
        obtain ⟨v6, e, h⟩ := bind_some h
        refine gt_X9_17 e dX9_copyFrom_38 ?_
        refine v_iload_n dX9_copyFrom_41 rfl 2 rfl ?_
        refine v_aload_n dX9_copyFrom_42 rfl 1 rfl ?_
        obtain ⟨v7, e, h⟩ := bind_some h
        refine gt_X9_17 e dX9_copyFrom_43 ?_
        refine v_iload_n dX9_copyFrom_46 rfl 2 rfl ?_
        obtain ⟨v8, e, h⟩ := bind_some h
        refine v_iaload dX9_copyFrom_47 e ?_
        obtain ⟨M9, e, h⟩ := bind_some h
        refine v_iastore dX9_copyFrom_48 e ?_
        refine v_iinc (ls' := [(2, .int (l2 + 1)), (0, .ref l0), (1, .ref l1)]) dX9_copyFrom_49 2 rfl (v := 1) ci_1 (by decide) rfl ?_
        refine v_goto (tgt := 10) dX9_copyFrom_52 (by decide) ?_
        refine v_sub [1, 2, 0] rfl ?_
        exact ih l0 l1 (l2 + 1) M9 h
set_option maxHeartbeats 4000000 in
set_option maxRecDepth 100000 in
theorem w_X9_copyFrom {G : Gl} {ρ0 : Nat → Nat} {M0 MF : Mem} {r : Unit} (l0 : Nat) (l1 : Nat) (M : Mem) (h : f_X9_copyFrom l0 l1 M = some MF) : V G (RX9, cX9_copyFrom, none, 0, 0, 3, "copyFrom", []) (ρ0, M0, cvV r, MF) 0 [(0, .ref l0), (1, .ref l1)] [] M := by
  unfold f_X9_copyFrom at h
  replace h := (ifS h).2
  refine v_aload_n dX9_copyFrom_0 rfl 0 rfl ?_
  refine v_aload_n dX9_copyFrom_1 rfl 1 rfl ?_
  obtain ⟨v1, e, h⟩ := bind_some h
  refine gt_X9_21 e dX9_copyFrom_2 ?_
  obtain ⟨M2, e, h⟩ := bind_some h
  refine pt_X9_21 e dX9_copyFrom_5 ?_
  refine v_iconst (v := 0) dX9_copyFrom_8 ci_0 ?_
  refine v_istore_n (ls' := [(2, .int (0 : Int32)), (0, .ref l0), (1, .ref l1)]) dX9_copyFrom_9 rfl (by decide) rfl ?_
  refine v_sub [1, 2, 0] rfl ?_
  exact w_X9_copyFrom_L10 FU l0 l1 (0 : Int32) M2 h
theorem kd_X9_copyFrom {l0 : Nat} {l1 : Nat} {M : Mem} {z : _} (h : f_X9_copyFrom l0 l1 M = some z) : (mK M l0).1 = 9 := by
  unfold f_X9_copyFrom at h
  exact (ifS h).1
theorem k_X9_copyFrom {G : Gl} {l0 : Nat} {l1 : Nat} {M MF : Mem} (h : f_X9_copyFrom l0 l1 M = some MF) : CtrP G yX9_copyFrom cX9_copyFrom 3 none 0 0 [.ref l0, .ref l1] M (cvV ()) MF :=
  ctr_of (by decide +kernel) (Nat.le_of_ble_eq_true rfl) (fun ρ => w_X9_copyFrom (r := ()) l0 l1 M h)
theorem wd_X7_76 : wdV RX7 76 RX9 yX9_copyFrom cX9_copyFrom 3 none 1 := ⟨gwi 562 (by decide +kernel) (by decide +kernel), gwi 563 (by decide +kernel) (by decide +kernel), gwi 564 (by decide +kernel) (by decide +kernel), nw_X9, gwi 565 (by decide +kernel) (by decide +kernel), ⟨rfl, by decide +kernel, by decide +kernel, by decide +kernel⟩⟩
theorem ca_X7_76 {G : Gl} {B : Bx} {cc : ByteArray} {ret : Option FieldType} {fr lo nL : Nat} {mn : String} {hh : List (Nat × Nat × Nat × Nat)} {pc : Nat} {ls : List (Nat × Value)} {st : List Value} {M M1 : Mem} {l0 : Nat} {l1 : Nat} (e : f_X9_copyFrom l0 l1 M = some M1) (hd : decode cc pc = .ok (.invokevirtual 76, 3)) (hcat : (st.map fun v => v.category).sum ≤ 8) (hR : 0 + 1 ≤ fr ∧ 8 + (3 + 11) + 0 ≤ lo) (k : V G (RX7, cc, ret, fr, lo, nL, mn, hh) B (pc + 3) ls (st) M1) : V G (RX7, cc, ret, fr, lo, nL, mn, hh) B pc ls (.ref l1 :: .ref l0 :: st) M := v_callV0 (As := [.ref l1]) (k_X9_copyFrom e) wd_X7_76 clX9 (kd_X9_copyFrom e) hd rfl rfl hcat hR k
set_option maxHeartbeats 4000000 in
set_option maxRecDepth 100000 in
theorem w_X7_copyFrom_L150 {G : Gl} {ρ0 : Nat → Nat} {M0 MF : Mem} {r : Unit} : ∀ (n : Nat) (l0 : Nat) (l1 : Nat) (l2 : Int32) (M : Mem), f_X7_copyFrom_L150 n l0 l1 l2 M = some MF → V G (RX7, cX7_copyFrom, none, 4, 86, 3, "copyFrom", []) (ρ0, M0, cvV r, MF) 150 [(0, .ref l0), (1, .ref l1), (2, .int l2)] [] M := by
  intro n
  induction n with
  | zero => intro l0 l1 l2 M h; cases h
  | succ n ih =>
    intro l0 l1 l2 M h
    rw [f_X7_copyFrom_L150] at h
    refine v_iload_n dX7_copyFrom_150 rfl 2 rfl ?_
    refine v_bipush (v := 10) dX7_copyFrom_151 cb_10 ?_
    refine v_icmp_ge (tgt := 174) dX7_copyFrom_153 (by decide) (fun c6 => ?_) (fun c6 => ?_)
    · replace h := ifP c6 h
      refine v_aload_n dX7_copyFrom_174 rfl 0 rfl ?_
      obtain ⟨v1, e, h⟩ := bind_some h
      refine gt_X7_51 e dX7_copyFrom_175 ?_
      refine v_aload_n dX7_copyFrom_178 rfl 1 rfl ?_
      obtain ⟨v2, e, h⟩ := bind_some h
      refine gt_X7_51 e dX7_copyFrom_179 ?_
      obtain ⟨M3, e, h⟩ := bind_some h
      refine ca_X7_76 e dX7_copyFrom_182 (Nat.le_of_ble_eq_true rfl) (by decide) ?_
      refine v_aload_n dX7_copyFrom_185 rfl 0 rfl ?_
      refine v_aload_n dX7_copyFrom_186 rfl 1 rfl ?_
      obtain ⟨v4, e, h⟩ := bind_some h
      refine gt_X7_79 e dX7_copyFrom_187 ?_
      obtain ⟨M5, e, h⟩ := bind_some h
      refine pt_X7_79 e dX7_copyFrom_190 ?_
      cases h
      exact v_vreturn dX7_copyFrom_193
    · replace h := ifN c6 h
      refine v_aload_n dX7_copyFrom_156 rfl 0 rfl ?_
      obtain ⟨v1, e, h⟩ := bind_some h
      refine gt_X7_45 e dX7_copyFrom_157 ?_
      refine v_iload_n dX7_copyFrom_160 rfl 2 rfl ?_
      refine v_aload_n dX7_copyFrom_161 rfl 1 rfl ?_
      obtain ⟨v2, e, h⟩ := bind_some h
      refine gt_X7_45 e dX7_copyFrom_162 ?_
      refine v_iload_n dX7_copyFrom_165 rfl 2 rfl ?_
      obtain ⟨v3, e, h⟩ := bind_some h
      refine v_iaload dX7_copyFrom_166 e ?_
      obtain ⟨M4, e, h⟩ := bind_some h
      refine v_iastore dX7_copyFrom_167 e ?_
      refine v_iinc (ls' := [(2, .int (l2 + 1)), (0, .ref l0), (1, .ref l1)]) dX7_copyFrom_168 2 rfl (v := 1) ci_1 (by decide) rfl ?_
      refine v_goto (tgt := 150) dX7_copyFrom_171 (by decide) ?_
      refine v_sub [1, 2, 0] rfl ?_
      exact ih l0 l1 (l2 + 1) M4 h
set_option maxHeartbeats 4000000 in
set_option maxRecDepth 100000 in
theorem w_X7_copyFrom_L121 {G : Gl} {ρ0 : Nat → Nat} {M0 MF : Mem} {r : Unit} : ∀ (n : Nat) (l0 : Nat) (l1 : Nat) (l2 : Int32) (M : Mem), f_X7_copyFrom_L121 n l0 l1 l2 M = some MF → V G (RX7, cX7_copyFrom, none, 4, 86, 3, "copyFrom", []) (ρ0, M0, cvV r, MF) 121 [(0, .ref l0), (1, .ref l1), (2, .int l2)] [] M := by
  intro n
  induction n with
  | zero => intro l0 l1 l2 M h; cases h
  | succ n ih =>
    intro l0 l1 l2 M h
    rw [f_X7_copyFrom_L121] at h
    refine v_iload_n dX7_copyFrom_121 rfl 2 rfl ?_
    refine v_aload_n dX7_copyFrom_122 rfl 0 rfl ?_
    obtain ⟨v1, e, h⟩ := bind_some h
    refine gt_X7_42 e dX7_copyFrom_123 ?_
    obtain ⟨v2, e, h⟩ := bind_some h
    refine v_alen dX7_copyFrom_126 e ?_
    refine v_icmp_ge (tgt := 148) dX7_copyFrom_127 (by decide) (fun c7 => ?_) (fun c7 => ?_)
    · replace h := ifP c7 h
      refine v_iconst (v := 0) dX7_copyFrom_148 ci_0 ?_
      refine v_istore_n (ls' := [(2, .int (0 : Int32)), (0, .ref l0), (1, .ref l1)]) dX7_copyFrom_149 rfl (by decide) rfl ?_
      refine v_sub [1, 2, 0] rfl ?_
      exact w_X7_copyFrom_L150 FU l0 l1 (0 : Int32) M h
    · replace h := ifN c7 h
      refine v_aload_n dX7_copyFrom_130 rfl 0 rfl ?_
      obtain ⟨v3, e, h⟩ := bind_some h
      refine gt_X7_42 e dX7_copyFrom_131 ?_
      refine v_iload_n dX7_copyFrom_134 rfl 2 rfl ?_
      refine v_aload_n dX7_copyFrom_135 rfl 1 rfl ?_
      obtain ⟨v4, e, h⟩ := bind_some h
      refine gt_X7_42 e dX7_copyFrom_136 ?_
      refine v_iload_n dX7_copyFrom_139 rfl 2 rfl ?_
      obtain ⟨v5, e, h⟩ := bind_some h
      refine v_iaload dX7_copyFrom_140 e ?_
      obtain ⟨M6, e, h⟩ := bind_some h
      refine v_iastore dX7_copyFrom_141 e ?_
      refine v_iinc (ls' := [(2, .int (l2 + 1)), (0, .ref l0), (1, .ref l1)]) dX7_copyFrom_142 2 rfl (v := 1) ci_1 (by decide) rfl ?_
      refine v_goto (tgt := 121) dX7_copyFrom_145 (by decide) ?_
      refine v_sub [1, 2, 0] rfl ?_
      exact ih l0 l1 (l2 + 1) M6 h
set_option maxHeartbeats 4000000 in
set_option maxRecDepth 100000 in
theorem w_X7_copyFrom_L84 {G : Gl} {ρ0 : Nat → Nat} {M0 MF : Mem} {r : Unit} : ∀ (n : Nat) (l0 : Nat) (l1 : Nat) (l2 : Int32) (M : Mem), f_X7_copyFrom_L84 n l0 l1 l2 M = some MF → V G (RX7, cX7_copyFrom, none, 4, 86, 3, "copyFrom", []) (ρ0, M0, cvV r, MF) 84 [(0, .ref l0), (1, .ref l1), (2, .int l2)] [] M := by
  intro n
  induction n with
  | zero => intro l0 l1 l2 M h; cases h
  | succ n ih =>
    intro l0 l1 l2 M h
    rw [f_X7_copyFrom_L84] at h
    refine v_iload_n dX7_copyFrom_84 rfl 2 rfl ?_
    refine v_aload_n dX7_copyFrom_85 rfl 0 rfl ?_
    obtain ⟨v1, e, h⟩ := bind_some h
    refine gt_X7_70 e dX7_copyFrom_86 ?_
    refine v_icmp_ge (tgt := 119) dX7_copyFrom_89 (by decide) (fun c8 => ?_) (fun c8 => ?_)
    · replace h := ifP c8 h
      refine v_iconst (v := 0) dX7_copyFrom_119 ci_0 ?_
      refine v_istore_n (ls' := [(2, .int (0 : Int32)), (0, .ref l0), (1, .ref l1)]) dX7_copyFrom_120 rfl (by decide) rfl ?_
      refine v_sub [1, 2, 0] rfl ?_
      exact w_X7_copyFrom_L121 FU l0 l1 (0 : Int32) M h
    · replace h := ifN c8 h
      refine v_iload_n dX7_copyFrom_92 rfl 2 rfl ?_
      refine v_bipush (v := 8) dX7_copyFrom_93 cb_8 ?_
      refine v_icmp_ge (tgt := 119) dX7_copyFrom_95 (by decide) (fun c7 => ?_) (fun c7 => ?_)
      · replace h := ifP c7 h
        refine v_iconst (v := 0) dX7_copyFrom_119 ci_0 ?_
        refine v_istore_n (ls' := [(2, .int (0 : Int32)), (0, .ref l0), (1, .ref l1)]) dX7_copyFrom_120 rfl (by decide) rfl ?_
        refine v_sub [1, 2, 0] rfl ?_
        exact w_X7_copyFrom_L121 FU l0 l1 (0 : Int32) M h
      · replace h := ifN c7 h
        refine v_aload_n dX7_copyFrom_98 rfl 0 rfl ?_
        obtain ⟨v2, e, h⟩ := bind_some h
        refine gt_X7_33 e dX7_copyFrom_99 ?_
        refine v_iload_n dX7_copyFrom_102 rfl 2 rfl ?_
        obtain ⟨v3, e, h⟩ := bind_some h
        refine al_1 e dX7_copyFrom_103 ?_
        refine v_aload_n dX7_copyFrom_104 rfl 1 rfl ?_
        obtain ⟨v4, e, h⟩ := bind_some h
        refine gt_X7_33 e dX7_copyFrom_105 ?_
        refine v_iload_n dX7_copyFrom_108 rfl 2 rfl ?_
        obtain ⟨v5, e, h⟩ := bind_some h
        refine al_1 e dX7_copyFrom_109 ?_
        obtain ⟨M6, e, h⟩ := bind_some h
        refine ca_X7_73 e dX7_copyFrom_110 (Nat.le_of_ble_eq_true rfl) (by decide) ?_
        refine v_iinc (ls' := [(2, .int (l2 + 1)), (0, .ref l0), (1, .ref l1)]) dX7_copyFrom_113 2 rfl (v := 1) ci_1 (by decide) rfl ?_
        refine v_goto (tgt := 84) dX7_copyFrom_116 (by decide) ?_
        refine v_sub [1, 2, 0] rfl ?_
        exact ih l0 l1 (l2 + 1) M6 h
set_option maxHeartbeats 4000000 in
set_option maxRecDepth 100000 in
theorem w_X7_copyFrom_J74 {G : Gl} {ρ0 : Nat → Nat} {M0 MF : Mem} {r : Unit} (l0 : Nat) (l1 : Nat) (M : Mem) (h : f_X7_copyFrom_J74 l0 l1 M = some MF) : V G (RX7, cX7_copyFrom, none, 4, 86, 3, "copyFrom", []) (ρ0, M0, cvV r, MF) 74 [(0, .ref l0), (1, .ref l1)] [] M := by
  unfold f_X7_copyFrom_J74 at h
  refine v_aload_n dX7_copyFrom_74 rfl 0 rfl ?_
  refine v_aload_n dX7_copyFrom_75 rfl 1 rfl ?_
  obtain ⟨v1, e, h⟩ := bind_some h
  refine gt_X7_70 e dX7_copyFrom_76 ?_
  obtain ⟨M2, e, h⟩ := bind_some h
  refine pt_X7_70 e dX7_copyFrom_79 ?_
  refine v_iconst (v := 0) dX7_copyFrom_82 ci_0 ?_
  refine v_istore_n (ls' := [(2, .int (0 : Int32)), (0, .ref l0), (1, .ref l1)]) dX7_copyFrom_83 rfl (by decide) rfl ?_
  refine v_sub [1, 2, 0] rfl ?_
  exact w_X7_copyFrom_L84 FU l0 l1 (0 : Int32) M2 h
set_option maxHeartbeats 4000000 in
set_option maxRecDepth 100000 in
theorem w_X7_copyFrom_L39 {G : Gl} {ρ0 : Nat → Nat} {M0 MF : Mem} {r : Unit} : ∀ (n : Nat) (l0 : Nat) (l1 : Nat) (l2 : Int32) (M : Mem), f_X7_copyFrom_L39 n l0 l1 l2 M = some MF → V G (RX7, cX7_copyFrom, none, 4, 86, 3, "copyFrom", []) (ρ0, M0, cvV r, MF) 39 [(0, .ref l0), (1, .ref l1), (2, .int l2)] [] M := by
  intro n
  induction n with
  | zero => intro l0 l1 l2 M h; cases h
  | succ n ih =>
    intro l0 l1 l2 M h
    rw [f_X7_copyFrom_L39] at h
    refine v_iload_n dX7_copyFrom_39 rfl 2 rfl ?_
    refine v_aload_n dX7_copyFrom_40 rfl 0 rfl ?_
    obtain ⟨v1, e, h⟩ := bind_some h
    refine gt_X7_63 e dX7_copyFrom_41 ?_
    refine v_icmp_ge (tgt := 74) dX7_copyFrom_44 (by decide) (fun c8 => ?_) (fun c8 => ?_)
    · replace h := ifP c8 h
      refine v_sub [0, 1] rfl ?_
      exact w_X7_copyFrom_J74 l0 l1 M h
    · replace h := ifN c8 h
      refine v_iload_n dX7_copyFrom_47 rfl 2 rfl ?_
      refine v_bipush (v := 36) dX7_copyFrom_48 cb_36 ?_
      refine v_icmp_ge (tgt := 74) dX7_copyFrom_50 (by decide) (fun c7 => ?_) (fun c7 => ?_)
      · replace h := ifP c7 h
        refine v_sub [0, 1] rfl ?_
        exact w_X7_copyFrom_J74 l0 l1 M h
      · replace h := ifN c7 h
        refine v_aload_n dX7_copyFrom_53 rfl 0 rfl ?_
        obtain ⟨v2, e, h⟩ := bind_some h
        refine gt_X7_26 e dX7_copyFrom_54 ?_
        refine v_iload_n dX7_copyFrom_57 rfl 2 rfl ?_
        obtain ⟨v3, e, h⟩ := bind_some h
        refine al_6 e dX7_copyFrom_58 ?_
        refine v_aload_n dX7_copyFrom_59 rfl 1 rfl ?_
        obtain ⟨v4, e, h⟩ := bind_some h
        refine gt_X7_26 e dX7_copyFrom_60 ?_
        refine v_iload_n dX7_copyFrom_63 rfl 2 rfl ?_
        obtain ⟨v5, e, h⟩ := bind_some h
        refine al_6 e dX7_copyFrom_64 ?_
        obtain ⟨M6, e, h⟩ := bind_some h
        refine ca_X7_67 e dX7_copyFrom_65 (Nat.le_of_ble_eq_true rfl) (by decide) ?_
        refine v_iinc (ls' := [(2, .int (l2 + 1)), (0, .ref l0), (1, .ref l1)]) dX7_copyFrom_68 2 rfl (v := 1) ci_1 (by decide) rfl ?_
        refine v_goto (tgt := 39) dX7_copyFrom_71 (by decide) ?_
        refine v_sub [1, 2, 0] rfl ?_
        exact ih l0 l1 (l2 + 1) M6 h
set_option maxHeartbeats 4000000 in
set_option maxRecDepth 100000 in
theorem w_X7_copyFrom_L2 {G : Gl} {ρ0 : Nat → Nat} {M0 MF : Mem} {r : Unit} : ∀ (n : Nat) (l0 : Nat) (l1 : Nat) (l2 : Int32) (M : Mem), f_X7_copyFrom_L2 n l0 l1 l2 M = some MF → V G (RX7, cX7_copyFrom, none, 4, 86, 3, "copyFrom", []) (ρ0, M0, cvV r, MF) 2 [(0, .ref l0), (1, .ref l1), (2, .int l2)] [] M := by
  intro n
  induction n with
  | zero => intro l0 l1 l2 M h; cases h
  | succ n ih =>
    intro l0 l1 l2 M h
    rw [f_X7_copyFrom_L2] at h
    refine v_iload_n dX7_copyFrom_2 rfl 2 rfl ?_
    refine v_bipush (v := 6) dX7_copyFrom_3 cb_6 ?_
    refine v_icmp_ge (tgt := 29) dX7_copyFrom_5 (by decide) (fun c6 => ?_) (fun c6 => ?_)
    · replace h := ifP c6 h
      refine v_aload_n dX7_copyFrom_29 rfl 0 rfl ?_
      refine v_aload_n dX7_copyFrom_30 rfl 1 rfl ?_
      obtain ⟨v1, e, h⟩ := bind_some h
      refine gt_X7_63 e dX7_copyFrom_31 ?_
      obtain ⟨M2, e, h⟩ := bind_some h
      refine pt_X7_63 e dX7_copyFrom_34 ?_
      refine v_iconst (v := 0) dX7_copyFrom_37 ci_0 ?_
      refine v_istore_n (ls' := [(2, .int (0 : Int32)), (0, .ref l0), (1, .ref l1)]) dX7_copyFrom_38 rfl (by decide) rfl ?_
      refine v_sub [1, 2, 0] rfl ?_
      exact w_X7_copyFrom_L39 FU l0 l1 (0 : Int32) M2 h
    · replace h := ifN c6 h
      refine v_aload_n dX7_copyFrom_8 rfl 0 rfl ?_
      obtain ⟨v1, e, h⟩ := bind_some h
      refine gt_X7_17 e dX7_copyFrom_9 ?_
      refine v_iload_n dX7_copyFrom_12 rfl 2 rfl ?_
      obtain ⟨v2, e, h⟩ := bind_some h
      refine al_0 e dX7_copyFrom_13 ?_
      refine v_aload_n dX7_copyFrom_14 rfl 1 rfl ?_
      obtain ⟨v3, e, h⟩ := bind_some h
      refine gt_X7_17 e dX7_copyFrom_15 ?_
      refine v_iload_n dX7_copyFrom_18 rfl 2 rfl ?_
      obtain ⟨v4, e, h⟩ := bind_some h
      refine al_0 e dX7_copyFrom_19 ?_
      obtain ⟨M5, e, h⟩ := bind_some h
      refine ca_X7_59 e dX7_copyFrom_20 (Nat.le_of_ble_eq_true rfl) (by decide) ?_
      refine v_iinc (ls' := [(2, .int (l2 + 1)), (0, .ref l0), (1, .ref l1)]) dX7_copyFrom_23 2 rfl (v := 1) ci_1 (by decide) rfl ?_
      refine v_goto (tgt := 2) dX7_copyFrom_26 (by decide) ?_
      refine v_sub [1, 2, 0] rfl ?_
      exact ih l0 l1 (l2 + 1) M5 h
set_option maxHeartbeats 4000000 in
set_option maxRecDepth 100000 in
theorem w_X7_copyFrom {G : Gl} {ρ0 : Nat → Nat} {M0 MF : Mem} {r : Unit} (l0 : Nat) (l1 : Nat) (M : Mem) (h : f_X7_copyFrom l0 l1 M = some MF) : V G (RX7, cX7_copyFrom, none, 4, 86, 3, "copyFrom", []) (ρ0, M0, cvV r, MF) 0 [(0, .ref l0), (1, .ref l1)] [] M := by
  unfold f_X7_copyFrom at h
  replace h := (ifS h).2
  refine v_iconst (v := 0) dX7_copyFrom_0 ci_0 ?_
  refine v_istore_n (ls' := [(2, .int (0 : Int32)), (0, .ref l0), (1, .ref l1)]) dX7_copyFrom_1 rfl (by decide) rfl ?_
  refine v_sub [1, 2, 0] rfl ?_
  exact w_X7_copyFrom_L2 FU l0 l1 (0 : Int32) M h
theorem kd_X7_copyFrom {l0 : Nat} {l1 : Nat} {M : Mem} {z : _} (h : f_X7_copyFrom l0 l1 M = some z) : (mK M l0).1 = 7 := by
  unfold f_X7_copyFrom at h
  exact (ifS h).1
theorem k_X7_copyFrom {G : Gl} {l0 : Nat} {l1 : Nat} {M MF : Mem} (h : f_X7_copyFrom l0 l1 M = some MF) : CtrP G yX7_copyFrom cX7_copyFrom 3 none 4 86 [.ref l0, .ref l1] M (cvV ()) MF :=
  ctr_of (by decide +kernel) (Nat.le_of_ble_eq_true rfl) (fun ρ => w_X7_copyFrom (r := ()) l0 l1 M h)
theorem wd_X11_343 : wdV RX11 343 RX7 yX7_copyFrom cX7_copyFrom 3 none 1 := ⟨gwi 524 (by decide +kernel) (by decide +kernel), gwi 525 (by decide +kernel) (by decide +kernel), gwi 526 (by decide +kernel) (by decide +kernel), nw_X7, gwi 527 (by decide +kernel) (by decide +kernel), ⟨rfl, by decide +kernel, by decide +kernel, by decide +kernel⟩⟩
theorem ca_X11_343 {G : Gl} {B : Bx} {cc : ByteArray} {ret : Option FieldType} {fr lo nL : Nat} {mn : String} {hh : List (Nat × Nat × Nat × Nat)} {pc : Nat} {ls : List (Nat × Value)} {st : List Value} {M M1 : Mem} {l0 : Nat} {l1 : Nat} (e : f_X7_copyFrom l0 l1 M = some M1) (hd : decode cc pc = .ok (.invokevirtual 343, 3)) (hcat : (st.map fun v => v.category).sum ≤ 8) (hR : 4 + 1 ≤ fr ∧ 8 + (3 + 11) + 86 ≤ lo) (k : V G (RX11, cc, ret, fr, lo, nL, mn, hh) B (pc + 3) ls (st) M1) : V G (RX11, cc, ret, fr, lo, nL, mn, hh) B pc ls (.ref l1 :: .ref l0 :: st) M := v_callV0 (As := [.ref l1]) (k_X7_copyFrom e) wd_X11_343 clX7 (kd_X7_copyFrom e) hd rfl rfl hcat hR k
set_option maxHeartbeats 4000000 in
set_option maxRecDepth 100000 in
theorem w_X7_leaveShare_L45 {G : Gl} {ρ0 : Nat → Nat} {M0 MF : Mem} {r : Unit} : ∀ (n : Nat) (l0 : Nat) (l3 : Nat) (l4 : Int32) (M : Mem), f_X7_leaveShare_L45 n l0 l3 l4 M = some MF → V G (RX7, cX7_leaveShare, none, 1, 23, 5, "leaveShare", []) (ρ0, M0, cvV r, MF) 45 [(0, .ref l0), (3, .ref l3), (4, .int l4)] [] M := by
  intro n
  induction n with
  | zero => intro l0 l3 l4 M h; cases h
  | succ n ih =>
    intro l0 l3 l4 M h
    rw [f_X7_leaveShare_L45] at h
    refine v_iload dX7_leaveShare_45 2 rfl ?_
    refine v_iconst (v := 1) dX7_leaveShare_47 ci_1 ?_
    refine v_iadd dX7_leaveShare_48 ?_
    refine v_aload_n dX7_leaveShare_49 rfl 0 rfl ?_
    obtain ⟨v1, e, h⟩ := bind_some h
    refine gt_X7_63 e dX7_leaveShare_50 ?_
    refine v_icmp_ge (tgt := 78) dX7_leaveShare_53 (by decide) (fun c7 => ?_) (fun c7 => ?_)
    · replace h := ifP c7 h
      refine v_aload_n dX7_leaveShare_78 rfl 0 rfl ?_
      obtain ⟨v2, e, h⟩ := bind_some h
      refine gt_X7_26 e dX7_leaveShare_79 ?_
      refine v_aload_n dX7_leaveShare_82 rfl 0 rfl ?_
      obtain ⟨v3, e, h⟩ := bind_some h
      refine gt_X7_63 e dX7_leaveShare_83 ?_
      refine v_iconst (v := 1) dX7_leaveShare_86 ci_1 ?_
      refine v_isub dX7_leaveShare_87 ?_
      refine v_aload_n dX7_leaveShare_88 rfl 1 rfl ?_
      obtain ⟨M4, e, h⟩ := bind_some h
      refine as_6 e dX7_leaveShare_89 ?_
      refine v_aload_n dX7_leaveShare_90 rfl 0 rfl ?_
      refine v_dup dX7_leaveShare_91 rfl ?_
      obtain ⟨v5, e, h⟩ := bind_some h
      refine gt_X7_63 e dX7_leaveShare_92 ?_
      refine v_iconst (v := 1) dX7_leaveShare_95 ci_1 ?_
      refine v_isub dX7_leaveShare_96 ?_
      obtain ⟨M6, e, h⟩ := bind_some h
      refine pt_X7_63 e dX7_leaveShare_97 ?_
      cases h
      exact v_vreturn dX7_leaveShare_100
    · replace h := ifN c7 h
      refine v_aload_n dX7_leaveShare_56 rfl 0 rfl ?_
      obtain ⟨v2, e, h⟩ := bind_some h
      refine gt_X7_26 e dX7_leaveShare_57 ?_
      refine v_iload dX7_leaveShare_60 2 rfl ?_
      refine v_aload_n dX7_leaveShare_62 rfl 0 rfl ?_
      obtain ⟨v3, e, h⟩ := bind_some h
      refine gt_X7_26 e dX7_leaveShare_63 ?_
      refine v_iload dX7_leaveShare_66 2 rfl ?_
      refine v_iconst (v := 1) dX7_leaveShare_68 ci_1 ?_
      refine v_iadd dX7_leaveShare_69 ?_
      obtain ⟨v4, e, h⟩ := bind_some h
      refine al_6 e dX7_leaveShare_70 ?_
      obtain ⟨M5, e, h⟩ := bind_some h
      refine as_6 e dX7_leaveShare_71 ?_
      refine v_iinc (ls' := [(4, .int (l4 + 1)), (0, .ref l0), (3, .ref l3)]) dX7_leaveShare_72 2 rfl (v := 1) ci_1 (by decide) rfl ?_
      refine v_goto (tgt := 45) dX7_leaveShare_75 (by decide) ?_
      refine v_sub [1, 2, 0] rfl ?_
      exact ih l0 l3 (l4 + 1) M5 h
set_option maxHeartbeats 4000000 in
set_option maxRecDepth 100000 in
theorem w_X7_leaveShare {G : Gl} {ρ0 : Nat → Nat} {M0 MF : Mem} {r : Unit} (l0 : Nat) (l1 : Int32) (l2 : Int32) (M : Mem) (h : f_X7_leaveShare l0 l1 l2 M = some MF) : V G (RX7, cX7_leaveShare, none, 1, 23, 5, "leaveShare", []) (ρ0, M0, cvV r, MF) 0 [(0, .ref l0), (1, .int l1), (2, .int l2)] [] M := by
  unfold f_X7_leaveShare at h
  replace h := (ifS h).2
  refine v_iload_n dX7_leaveShare_0 rfl 1 rfl ?_
  refine v_if_lt (tgt := 21) dX7_leaveShare_1 (by decide) (fun c10 => ?_) (fun c10 => ?_)
  · replace h := ifP c10 h
    cases h
    exact v_vreturn dX7_leaveShare_21
  · replace h := ifN c10 h
    refine v_iload_n dX7_leaveShare_4 rfl 1 rfl ?_
    refine v_aload_n dX7_leaveShare_5 rfl 0 rfl ?_
    obtain ⟨v1, e, h⟩ := bind_some h
    refine gt_X7_63 e dX7_leaveShare_6 ?_
    refine v_icmp_ge (tgt := 21) dX7_leaveShare_9 (by decide) (fun c9 => ?_) (fun c9 => ?_)
    · replace h := ifP c9 h
      cases h
      exact v_vreturn dX7_leaveShare_21
    · replace h := ifN c9 h
      refine v_aload_n dX7_leaveShare_12 rfl 0 rfl ?_
      obtain ⟨v2, e, h⟩ := bind_some h
      refine gt_X7_63 e dX7_leaveShare_13 ?_
      refine v_bipush (v := 36) dX7_leaveShare_16 cb_36 ?_
      refine v_icmp_le (tgt := 22) dX7_leaveShare_18 (by decide) (fun c8 => ?_) (fun c8 => ?_)
      · replace h := ifP c8 h
        refine v_aload_n dX7_leaveShare_22 rfl 0 rfl ?_
        obtain ⟨v3, e, h⟩ := bind_some h
        refine gt_X7_26 e dX7_leaveShare_23 ?_
        refine v_iload_n dX7_leaveShare_26 rfl 1 rfl ?_
        obtain ⟨v4, e, h⟩ := bind_some h
        refine al_6 e dX7_leaveShare_27 ?_
        refine v_astore_n (ls' := [(3, .ref v4), (0, .ref l0), (1, .int l1), (2, .int l2)]) dX7_leaveShare_28 rfl (by decide) rfl ?_
        refine v_aload_n dX7_leaveShare_29 rfl 0 rfl ?_
        refine v_iload_n dX7_leaveShare_30 rfl 3 rfl ?_
        obtain ⟨M5, e, h⟩ := bind_some h
        refine ca_X7_189 e dX7_leaveShare_31 (Nat.le_of_ble_eq_true rfl) (by decide) ?_
        refine v_aload_n dX7_leaveShare_34 rfl 0 rfl ?_
        obtain ⟨v6, e, h⟩ := bind_some h
        refine gt_X7_171 e dX7_leaveShare_35 ?_
        refine v_if_le (tgt := 42) dX7_leaveShare_38 (by decide) (fun c7 => ?_) (fun c7 => ?_)
        · replace h := ifP c7 h
          refine v_iload_n dX7_leaveShare_42 rfl 2 rfl ?_
          refine v_istore (ls' := [(4, .int l1), (3, .ref v4), (0, .ref l0), (1, .int l1), (2, .int l2)]) dX7_leaveShare_43 (by decide) rfl ?_
          refine v_sub [2, 1, 0] rfl ?_
          exact w_X7_leaveShare_L45 FU l0 v4 l1 M5 h
        · replace h := ifN c7 h
          cases h
          exact v_vreturn dX7_leaveShare_41
      · replace h := ifN c8 h
        cases h
        exact v_vreturn dX7_leaveShare_21
theorem kd_X7_leaveShare {l0 : Nat} {l1 : Int32} {l2 : Int32} {M : Mem} {z : _} (h : f_X7_leaveShare l0 l1 l2 M = some z) : (mK M l0).1 = 7 := by
  unfold f_X7_leaveShare at h
  exact (ifS h).1
theorem k_X7_leaveShare {G : Gl} {l0 : Nat} {l1 : Int32} {l2 : Int32} {M MF : Mem} (h : f_X7_leaveShare l0 l1 l2 M = some MF) : CtrP G yX7_leaveShare cX7_leaveShare 5 none 1 23 [.ref l0, .int l1, .int l2] M (cvV ()) MF :=
  ctr_of (by decide +kernel) (Nat.le_of_ble_eq_true rfl) (fun ρ => w_X7_leaveShare (r := ()) l0 l1 l2 M h)
theorem wd_X7_134 : wdV RX7 134 RX7 yX7_leaveShare cX7_leaveShare 5 none 2 := ⟨gwi 712 (by decide +kernel) (by decide +kernel), gwi 714 (by decide +kernel) (by decide +kernel), gwi 1 (by decide +kernel) (by decide +kernel), nw_X7, gwi 715 (by decide +kernel) (by decide +kernel), ⟨rfl, by decide +kernel, by decide +kernel, by decide +kernel⟩⟩
theorem ca_X7_134 {G : Gl} {B : Bx} {cc : ByteArray} {ret : Option FieldType} {fr lo nL : Nat} {mn : String} {hh : List (Nat × Nat × Nat × Nat)} {pc : Nat} {ls : List (Nat × Value)} {st : List Value} {M M1 : Mem} {l0 : Nat} {l1 : Int32} {l2 : Int32} (e : f_X7_leaveShare l0 l1 l2 M = some M1) (hd : decode cc pc = .ok (.invokevirtual 134, 3)) (hcat : (st.map fun v => v.category).sum ≤ 8) (hR : 1 + 1 ≤ fr ∧ 8 + (5 + 11) + 23 ≤ lo) (k : V G (RX7, cc, ret, fr, lo, nL, mn, hh) B (pc + 3) ls (st) M1) : V G (RX7, cc, ret, fr, lo, nL, mn, hh) B pc ls (.int l2 :: .int l1 :: .ref l0 :: st) M := v_callV0 (As := [.int l1, .int l2]) (k_X7_leaveShare e) wd_X7_134 clX7 (kd_X7_leaveShare e) hd rfl rfl hcat hR k
set_option maxHeartbeats 4000000 in
set_option maxRecDepth 100000 in
theorem w_X7_removeSession_L24 {G : Gl} {ρ0 : Nat → Nat} {M0 MF : Mem} {r : Unit} : ∀ (n : Nat) (l0 : Nat) (l1 : Int32) (l2 : Int32) (M : Mem), f_X7_removeSession_L24 n l0 l1 l2 M = some MF → V G (RX7, cX7_removeSession, none, 2, 47, 3, "removeSession", []) (ρ0, M0, cvV r, MF) 24 [(0, .ref l0), (1, .int l1), (2, .int l2)] [] M := by
  intro n
  induction n with
  | zero => intro l0 l1 l2 M h; cases h
  | succ n ih =>
    intro l0 l1 l2 M h
    rw [f_X7_removeSession_L24] at h
    refine v_iload_n dX7_removeSession_24 rfl 2 rfl ?_
    refine v_if_lt (tgt := 40) dX7_removeSession_25 (by decide) (fun c2 => ?_) (fun c2 => ?_)
    · replace h := ifP c2 h
      cases h
      exact v_vreturn dX7_removeSession_40
    · replace h := ifN c2 h
      refine v_aload_n dX7_removeSession_28 rfl 0 rfl ?_
      refine v_iload_n dX7_removeSession_29 rfl 2 rfl ?_
      refine v_iload_n dX7_removeSession_30 rfl 1 rfl ?_
      obtain ⟨M1, e, h⟩ := bind_some h
      refine ca_X7_134 e dX7_removeSession_31 (Nat.le_of_ble_eq_true rfl) (by decide) ?_
      refine v_iinc (ls' := [(2, .int (l2 + (-1))), (0, .ref l0), (1, .int l1)]) dX7_removeSession_34 2 rfl (v := (-1)) ci_m1 (by decide) rfl ?_
      refine v_goto (tgt := 24) dX7_removeSession_37 (by decide) ?_
      refine v_sub [1, 2, 0] rfl ?_
      exact ih l0 l1 (l2 + (-1)) M1 h
set_option maxHeartbeats 4000000 in
set_option maxRecDepth 100000 in
theorem w_X7_removeSession {G : Gl} {ρ0 : Nat → Nat} {M0 MF : Mem} {r : Unit} (l0 : Nat) (l1 : Int32) (M : Mem) (h : f_X7_removeSession l0 l1 M = some MF) : V G (RX7, cX7_removeSession, none, 2, 47, 3, "removeSession", []) (ρ0, M0, cvV r, MF) 0 [(0, .ref l0), (1, .int l1)] [] M := by
  unfold f_X7_removeSession at h
  replace h := (ifS h).2
  refine v_aload_n dX7_removeSession_0 rfl 0 rfl ?_
  obtain ⟨v1, e, h⟩ := bind_some h
  refine gt_X7_17 e dX7_removeSession_1 ?_
  refine v_iload_n dX7_removeSession_4 rfl 1 rfl ?_
  obtain ⟨v2, e, h⟩ := bind_some h
  refine al_0 e dX7_removeSession_5 ?_
  obtain ⟨v3, e, h⟩ := bind_some h
  refine gt_X7_95 e dX7_removeSession_6 ?_
  obtain ⟨M4, e, h⟩ := bind_some h
  refine ca_X7_127 e dX7_removeSession_9 (Nat.le_of_ble_eq_true rfl) (by decide) ?_
  refine v_aload_n dX7_removeSession_12 rfl 0 rfl ?_
  obtain ⟨v5, e, h⟩ := bind_some h
  refine gt_X7_63 e dX7_removeSession_13 ?_
  refine v_bipush (v := 36) dX7_removeSession_16 cb_36 ?_
  refine mx_X7_128 dX7_removeSession_18 (by decide) (Nat.le_of_ble_eq_true rfl) ?_
  refine v_iconst (v := 1) dX7_removeSession_21 ci_1 ?_
  refine v_isub dX7_removeSession_22 ?_
  refine v_istore_n (ls' := [(2, .int ((iminE v5 (36 : Int32)) - (1 : Int32))), (0, .ref l0), (1, .int l1)]) dX7_removeSession_23 rfl (by decide) rfl ?_
  refine v_sub [1, 2, 0] rfl ?_
  exact w_X7_removeSession_L24 FU l0 l1 ((iminE v5 (36 : Int32)) - (1 : Int32)) M4 h
theorem kd_X7_removeSession {l0 : Nat} {l1 : Int32} {M : Mem} {z : _} (h : f_X7_removeSession l0 l1 M = some z) : (mK M l0).1 = 7 := by
  unfold f_X7_removeSession at h
  exact (ifS h).1
theorem k_X7_removeSession {G : Gl} {l0 : Nat} {l1 : Int32} {M MF : Mem} (h : f_X7_removeSession l0 l1 M = some MF) : CtrP G yX7_removeSession cX7_removeSession 3 none 2 47 [.ref l0, .int l1] M (cvV ()) MF :=
  ctr_of (by decide +kernel) (Nat.le_of_ble_eq_true rfl) (fun ρ => w_X7_removeSession (r := ()) l0 l1 M h)
theorem wd_X11_103 : wdV RX11 103 RX7 yX7_removeSession cX7_removeSession 3 none 1 := ⟨gwi 841 (by decide +kernel) (by decide +kernel), gwi 704 (by decide +kernel) (by decide +kernel), gwi 705 (by decide +kernel) (by decide +kernel), nw_X7, gwi 706 (by decide +kernel) (by decide +kernel), ⟨rfl, by decide +kernel, by decide +kernel, by decide +kernel⟩⟩
theorem ca_X11_103 {G : Gl} {B : Bx} {cc : ByteArray} {ret : Option FieldType} {fr lo nL : Nat} {mn : String} {hh : List (Nat × Nat × Nat × Nat)} {pc : Nat} {ls : List (Nat × Value)} {st : List Value} {M M1 : Mem} {l0 : Nat} {l1 : Int32} (e : f_X7_removeSession l0 l1 M = some M1) (hd : decode cc pc = .ok (.invokevirtual 103, 3)) (hcat : (st.map fun v => v.category).sum ≤ 8) (hR : 2 + 1 ≤ fr ∧ 8 + (3 + 11) + 47 ≤ lo) (k : V G (RX11, cc, ret, fr, lo, nL, mn, hh) B (pc + 3) ls (st) M1) : V G (RX11, cc, ret, fr, lo, nL, mn, hh) B pc ls (.int l1 :: .ref l0 :: st) M := v_callV0 (As := [.int l1]) (k_X7_removeSession e) wd_X11_103 clX7 (kd_X7_removeSession e) hd rfl rfl hcat hR k
theorem wd_X7_104 : wdV RX7 104 RX7 yX7_removeSession cX7_removeSession 3 none 1 := ⟨gwi 703 (by decide +kernel) (by decide +kernel), gwi 704 (by decide +kernel) (by decide +kernel), gwi 705 (by decide +kernel) (by decide +kernel), nw_X7, gwi 706 (by decide +kernel) (by decide +kernel), ⟨rfl, by decide +kernel, by decide +kernel, by decide +kernel⟩⟩
theorem ca_X7_104 {G : Gl} {B : Bx} {cc : ByteArray} {ret : Option FieldType} {fr lo nL : Nat} {mn : String} {hh : List (Nat × Nat × Nat × Nat)} {pc : Nat} {ls : List (Nat × Value)} {st : List Value} {M M1 : Mem} {l0 : Nat} {l1 : Int32} (e : f_X7_removeSession l0 l1 M = some M1) (hd : decode cc pc = .ok (.invokevirtual 104, 3)) (hcat : (st.map fun v => v.category).sum ≤ 8) (hR : 2 + 1 ≤ fr ∧ 8 + (3 + 11) + 47 ≤ lo) (k : V G (RX7, cc, ret, fr, lo, nL, mn, hh) B (pc + 3) ls (st) M1) : V G (RX7, cc, ret, fr, lo, nL, mn, hh) B pc ls (.int l1 :: .ref l0 :: st) M := v_callV0 (As := [.int l1]) (k_X7_removeSession e) wd_X7_104 clX7 (kd_X7_removeSession e) hd rfl rfl hcat hR k
set_option maxHeartbeats 4000000 in
set_option maxRecDepth 100000 in
theorem w_X7_endConnection {G : Gl} {ρ0 : Nat → Nat} {M0 MF : Mem} {r : Unit} (l0 : Nat) (l1 : Int32) (M : Mem) (h : f_X7_endConnection l0 l1 M = some MF) : V G (RX7, cX7_endConnection, none, 3, 69, 3, "endConnection", []) (ρ0, M0, cvV r, MF) 0 [(0, .ref l0), (1, .int l1)] [] M := by
  unfold f_X7_endConnection at h
  replace h := (ifS h).2
  refine v_aload_n dX7_endConnection_0 rfl 0 rfl ?_
  obtain ⟨v1, e, h⟩ := bind_some h
  refine gt_X7_17 e dX7_endConnection_1 ?_
  refine v_iload_n dX7_endConnection_4 rfl 1 rfl ?_
  obtain ⟨v2, e, h⟩ := bind_some h
  refine al_0 e dX7_endConnection_5 ?_
  refine v_astore_n (ls' := [(2, .ref v2), (0, .ref l0), (1, .int l1)]) dX7_endConnection_6 rfl (by decide) rfl ?_
  refine v_aload_n dX7_endConnection_7 rfl 0 rfl ?_
  refine v_iconst (v := 0) dX7_endConnection_8 ci_0 ?_
  obtain ⟨M3, e, h⟩ := bind_some h
  refine pt_X7_82 e dX7_endConnection_9 ?_
  refine v_aload_n dX7_endConnection_12 rfl 0 rfl ?_
  obtain ⟨v4, e, h⟩ := bind_some h
  refine gt_X7_86 e dX7_endConnection_13 ?_
  obtain ⟨M5, e, h⟩ := bind_some h
  refine ca_X7_90 e dX7_endConnection_16 (Nat.le_of_ble_eq_true rfl) (by decide) ?_
  refine v_aload_n dX7_endConnection_19 rfl 0 rfl ?_
  obtain ⟨v6, e, h⟩ := bind_some h
  refine gt_X7_95 e dX7_endConnection_20 ?_
  obtain ⟨v7, e, h⟩ := bind_some h
  refine gt_X7_99 e dX7_endConnection_23 ?_
  refine v_if_eq (tgt := 37) dX7_endConnection_26 (by decide) (fun c11 => ?_) (fun c11 => ?_)
  · replace h := ifP c11 h
    refine v_aload_n dX7_endConnection_37 rfl 0 rfl ?_
    obtain ⟨v8, e, h⟩ := bind_some h
    refine gt_X7_95 e dX7_endConnection_38 ?_
    refine v_aload_n dX7_endConnection_41 rfl 1 rfl ?_
    obtain ⟨v9, e, h⟩ := bind_some h
    refine gt_X7_79 e dX7_endConnection_42 ?_
    obtain ⟨M10, e, h⟩ := bind_some h
    refine pt_X7_108 e dX7_endConnection_45 ?_
    cases h
    exact v_vreturn dX7_endConnection_48
  · replace h := ifN c11 h
    refine v_aload_n dX7_endConnection_29 rfl 1 rfl ?_
    refine v_iload_n dX7_endConnection_30 rfl 2 rfl ?_
    obtain ⟨M8, e, h⟩ := bind_some h
    refine ca_X7_104 e dX7_endConnection_31 (Nat.le_of_ble_eq_true rfl) (by decide) ?_
    refine v_goto (tgt := 48) dX7_endConnection_34 (by decide) ?_
    cases h
    exact v_vreturn dX7_endConnection_48
theorem kd_X7_endConnection {l0 : Nat} {l1 : Int32} {M : Mem} {z : _} (h : f_X7_endConnection l0 l1 M = some z) : (mK M l0).1 = 7 := by
  unfold f_X7_endConnection at h
  exact (ifS h).1
theorem k_X7_endConnection {G : Gl} {l0 : Nat} {l1 : Int32} {M MF : Mem} (h : f_X7_endConnection l0 l1 M = some MF) : CtrP G yX7_endConnection cX7_endConnection 3 none 3 69 [.ref l0, .int l1] M (cvV ()) MF :=
  ctr_of (by decide +kernel) (Nat.le_of_ble_eq_true rfl) (fun ρ => w_X7_endConnection (r := ()) l0 l1 M h)
theorem wd_X11_120 : wdV RX11 120 RX7 yX7_endConnection cX7_endConnection 3 none 1 := ⟨gwi 878 (by decide +kernel) (by decide +kernel), gwi 696 (by decide +kernel) (by decide +kernel), gwi 697 (by decide +kernel) (by decide +kernel), nw_X7, gwi 698 (by decide +kernel) (by decide +kernel), ⟨rfl, by decide +kernel, by decide +kernel, by decide +kernel⟩⟩
theorem ca_X11_120 {G : Gl} {B : Bx} {cc : ByteArray} {ret : Option FieldType} {fr lo nL : Nat} {mn : String} {hh : List (Nat × Nat × Nat × Nat)} {pc : Nat} {ls : List (Nat × Value)} {st : List Value} {M M1 : Mem} {l0 : Nat} {l1 : Int32} (e : f_X7_endConnection l0 l1 M = some M1) (hd : decode cc pc = .ok (.invokevirtual 120, 3)) (hcat : (st.map fun v => v.category).sum ≤ 8) (hR : 3 + 1 ≤ fr ∧ 8 + (3 + 11) + 69 ≤ lo) (k : V G (RX11, cc, ret, fr, lo, nL, mn, hh) B (pc + 3) ls (st) M1) : V G (RX11, cc, ret, fr, lo, nL, mn, hh) B pc ls (.int l1 :: .ref l0 :: st) M := v_callV0 (As := [.int l1]) (k_X7_endConnection e) wd_X11_120 clX7 (kd_X7_endConnection e) hd rfl rfl hcat hR k
theorem wd_X7_111 : wdV RX7 111 RX7 yX7_endConnection cX7_endConnection 3 none 1 := ⟨gwi 695 (by decide +kernel) (by decide +kernel), gwi 696 (by decide +kernel) (by decide +kernel), gwi 697 (by decide +kernel) (by decide +kernel), nw_X7, gwi 698 (by decide +kernel) (by decide +kernel), ⟨rfl, by decide +kernel, by decide +kernel, by decide +kernel⟩⟩
theorem ca_X7_111 {G : Gl} {B : Bx} {cc : ByteArray} {ret : Option FieldType} {fr lo nL : Nat} {mn : String} {hh : List (Nat × Nat × Nat × Nat)} {pc : Nat} {ls : List (Nat × Value)} {st : List Value} {M M1 : Mem} {l0 : Nat} {l1 : Int32} (e : f_X7_endConnection l0 l1 M = some M1) (hd : decode cc pc = .ok (.invokevirtual 111, 3)) (hcat : (st.map fun v => v.category).sum ≤ 8) (hR : 3 + 1 ≤ fr ∧ 8 + (3 + 11) + 69 ≤ lo) (k : V G (RX7, cc, ret, fr, lo, nL, mn, hh) B (pc + 3) ls (st) M1) : V G (RX7, cc, ret, fr, lo, nL, mn, hh) B pc ls (.int l1 :: .ref l0 :: st) M := v_callV0 (As := [.int l1]) (k_X7_endConnection e) wd_X7_111 clX7 (kd_X7_endConnection e) hd rfl rfl hcat hR k
set_option maxHeartbeats 4000000 in
set_option maxRecDepth 100000 in
theorem w_X9_placeOf_L2 {G : Gl} {ρ0 : Nat → Nat} {M0 MF : Mem} {r : Int32} : ∀ (n : Nat) (l0 : Nat) (l1 : Nat) (l2 : Int32) (M : Mem), f_X9_placeOf_L2 n l0 l1 l2 M = some (r, MF) → V G (RX9, cX9_placeOf, (some .int), 1, 22, 3, "placeOf", []) (ρ0, M0, cvI r, MF) 2 [(0, .ref l0), (1, .ref l1), (2, .int l2)] [] M := by
  intro n
  induction n with
  | zero => intro l0 l1 l2 M h; cases h
  | succ n ih =>
    intro l0 l1 l2 M h
    rw [f_X9_placeOf_L2] at h
    refine v_iload_n dX9_placeOf_2 rfl 2 rfl ?_
    refine v_aload_n dX9_placeOf_3 rfl 0 rfl ?_
    obtain ⟨v1, e, h⟩ := bind_some h
    refine gt_X9_21 e dX9_placeOf_4 ?_
    refine v_icmp_ge (tgt := 38) dX9_placeOf_7 (by decide) (fun c8 => ?_) (fun c8 => ?_)
    · replace h := ifP c8 h
      refine v_iconst (v := (-1)) dX9_placeOf_38 ci_m1 ?_
      cases h
      exact v_ireturn dX9_placeOf_39
    · replace h := ifN c8 h
      refine v_iload_n dX9_placeOf_10 rfl 2 rfl ?_
      refine v_sipush (v := 512) dX9_placeOf_11 cs_512 ?_
      refine v_icmp_ge (tgt := 38) dX9_placeOf_14 (by decide) (fun c7 => ?_) (fun c7 => ?_)
      · replace h := ifP c7 h
        refine v_iconst (v := (-1)) dX9_placeOf_38 ci_m1 ?_
        cases h
        exact v_ireturn dX9_placeOf_39
      · replace h := ifN c7 h
        refine v_aload_n dX9_placeOf_17 rfl 0 rfl ?_
        obtain ⟨v2, e, h⟩ := bind_some h
        refine gt_X9_11 e dX9_placeOf_18 ?_
        refine v_iload_n dX9_placeOf_21 rfl 2 rfl ?_
        obtain ⟨v3, e, h⟩ := bind_some h
        refine al_10 e dX9_placeOf_22 ?_
        refine v_aload_n dX9_placeOf_23 rfl 1 rfl ?_
        obtain ⟨v5, M4, e, h⟩ := bindP_some h
        refine ca_X9_25 e dX9_placeOf_24 (Nat.le_of_ble_eq_true rfl) (by decide) ?_
        refine v_if_eq (tgt := 32) dX9_placeOf_27 (by decide) (fun c6 => ?_) (fun c6 => ?_)
        · replace h := ifP c6 h
          refine v_iinc (ls' := [(2, .int (l2 + 1)), (0, .ref l0), (1, .ref l1)]) dX9_placeOf_32 2 rfl (v := 1) ci_1 (by decide) rfl ?_
          refine v_goto (tgt := 2) dX9_placeOf_35 (by decide) ?_
          refine v_sub [1, 2, 0] rfl ?_
          exact ih l0 l1 (l2 + 1) M4 h
        · replace h := ifN c6 h
          refine v_iload_n dX9_placeOf_30 rfl 2 rfl ?_
          cases h
          exact v_ireturn dX9_placeOf_31
set_option maxHeartbeats 4000000 in
set_option maxRecDepth 100000 in
theorem w_X9_placeOf {G : Gl} {ρ0 : Nat → Nat} {M0 MF : Mem} {r : Int32} (l0 : Nat) (l1 : Nat) (M : Mem) (h : f_X9_placeOf l0 l1 M = some (r, MF)) : V G (RX9, cX9_placeOf, (some .int), 1, 22, 3, "placeOf", []) (ρ0, M0, cvI r, MF) 0 [(0, .ref l0), (1, .ref l1)] [] M := by
  unfold f_X9_placeOf at h
  replace h := (ifS h).2
  refine v_iconst (v := 0) dX9_placeOf_0 ci_0 ?_
  refine v_istore_n (ls' := [(2, .int (0 : Int32)), (0, .ref l0), (1, .ref l1)]) dX9_placeOf_1 rfl (by decide) rfl ?_
  refine v_sub [1, 2, 0] rfl ?_
  exact w_X9_placeOf_L2 FU l0 l1 (0 : Int32) M h
theorem kd_X9_placeOf {l0 : Nat} {l1 : Nat} {M : Mem} {z : _} (h : f_X9_placeOf l0 l1 M = some z) : (mK M l0).1 = 9 := by
  unfold f_X9_placeOf at h
  exact (ifS h).1
theorem k_X9_placeOf {G : Gl} {l0 : Nat} {l1 : Nat} {M MF : Mem} {r : Int32} (h : f_X9_placeOf l0 l1 M = some (r, MF)) : CtrP G yX9_placeOf cX9_placeOf 3 (some .int) 1 22 [.ref l0, .ref l1] M (cvI r) MF :=
  ctr_of (by decide +kernel) (Nat.le_of_ble_eq_true rfl) (fun ρ => w_X9_placeOf l0 l1 M h)
theorem wd_X11_335 : wdV RX11 335 RX9 yX9_placeOf cX9_placeOf 3 (some .int) 1 := ⟨gwi 1165 (by decide +kernel) (by decide +kernel), gwi 729 (by decide +kernel) (by decide +kernel), gwi 730 (by decide +kernel) (by decide +kernel), nw_X9, gwi 731 (by decide +kernel) (by decide +kernel), ⟨rfl, by decide +kernel, by decide +kernel, by decide +kernel⟩⟩
theorem ca_X11_335 {G : Gl} {B : Bx} {cc : ByteArray} {ret : Option FieldType} {fr lo nL : Nat} {mn : String} {hh : List (Nat × Nat × Nat × Nat)} {pc : Nat} {ls : List (Nat × Value)} {st : List Value} {M M1 : Mem} {l0 : Nat} {l1 : Nat} {x : Int32} (e : f_X9_placeOf l0 l1 M = some (x, M1)) (hd : decode cc pc = .ok (.invokevirtual 335, 3)) (hcat : (st.map fun v => v.category).sum ≤ 8) (hR : 1 + 1 ≤ fr ∧ 8 + (3 + 11) + 22 ≤ lo) (k : V G (RX11, cc, ret, fr, lo, nL, mn, hh) B (pc + 3) ls (.int x :: st) M1) : V G (RX11, cc, ret, fr, lo, nL, mn, hh) B pc ls (.ref l1 :: .ref l0 :: st) M := v_callVi (As := [.ref l1]) (k_X9_placeOf e) wd_X11_335 clX9 (kd_X9_placeOf e) hd rfl rfl hcat hR k
theorem wd_X9_29 : wdV RX9 29 RX9 yX9_placeOf cX9_placeOf 3 (some .int) 1 := ⟨gwi 728 (by decide +kernel) (by decide +kernel), gwi 729 (by decide +kernel) (by decide +kernel), gwi 730 (by decide +kernel) (by decide +kernel), nw_X9, gwi 731 (by decide +kernel) (by decide +kernel), ⟨rfl, by decide +kernel, by decide +kernel, by decide +kernel⟩⟩
theorem ca_X9_29 {G : Gl} {B : Bx} {cc : ByteArray} {ret : Option FieldType} {fr lo nL : Nat} {mn : String} {hh : List (Nat × Nat × Nat × Nat)} {pc : Nat} {ls : List (Nat × Value)} {st : List Value} {M M1 : Mem} {l0 : Nat} {l1 : Nat} {x : Int32} (e : f_X9_placeOf l0 l1 M = some (x, M1)) (hd : decode cc pc = .ok (.invokevirtual 29, 3)) (hcat : (st.map fun v => v.category).sum ≤ 8) (hR : 1 + 1 ≤ fr ∧ 8 + (3 + 11) + 22 ≤ lo) (k : V G (RX9, cc, ret, fr, lo, nL, mn, hh) B (pc + 3) ls (.int x :: st) M1) : V G (RX9, cc, ret, fr, lo, nL, mn, hh) B pc ls (.ref l1 :: .ref l0 :: st) M := v_callVi (As := [.ref l1]) (k_X9_placeOf e) wd_X9_29 clX9 (kd_X9_placeOf e) hd rfl rfl hcat hR k
set_option maxHeartbeats 4000000 in
set_option maxRecDepth 100000 in
theorem w_X9_count_J56 {G : Gl} {ρ0 : Nat → Nat} {M0 MF : Mem} {r : Unit} (l0 : Nat) (l2 : Int32) (M : Mem) (h : f_X9_count_J56 l0 l2 M = some MF) : V G (RX9, cX9_count, none, 2, 44, 3, "count", []) (ρ0, M0, cvV r, MF) 56 [(0, .ref l0), (2, .int l2)] [] M := by
  unfold f_X9_count_J56 at h
  refine v_iload_n dX9_count_56 rfl 1 rfl ?_
  refine v_if_lt (tgt := 70) dX9_count_57 (by decide) (fun c4 => ?_) (fun c4 => ?_)
  · replace h := ifP c4 h
    cases h
    exact v_vreturn dX9_count_70
  · replace h := ifN c4 h
    refine v_aload_n dX9_count_60 rfl 0 rfl ?_
    obtain ⟨v1, e, h⟩ := bind_some h
    refine gt_X9_17 e dX9_count_61 ?_
    refine v_iload_n dX9_count_64 rfl 1 rfl ?_
    refine v_dup2 dX9_count_65 rfl rfl ?_
    obtain ⟨v2, e, h⟩ := bind_some h
    refine v_iaload dX9_count_66 e ?_
    refine v_iconst (v := 1) dX9_count_67 ci_1 ?_
    refine v_iadd dX9_count_68 ?_
    obtain ⟨M3, e, h⟩ := bind_some h
    refine v_iastore dX9_count_69 e ?_
    cases h
    exact v_vreturn dX9_count_70
set_option maxHeartbeats 4000000 in
set_option maxRecDepth 100000 in
theorem w_X9_count {G : Gl} {ρ0 : Nat → Nat} {M0 MF : Mem} {r : Unit} (l0 : Nat) (l1 : Nat) (M : Mem) (h : f_X9_count l0 l1 M = some MF) : V G (RX9, cX9_count, none, 2, 44, 3, "count", []) (ρ0, M0, cvV r, MF) 0 [(0, .ref l0), (1, .ref l1)] [] M := by
  unfold f_X9_count at h
  replace h := (ifS h).2
  refine v_aload_n dX9_count_0 rfl 0 rfl ?_
  refine v_aload_n dX9_count_1 rfl 1 rfl ?_
  obtain ⟨v2, M1, e, h⟩ := bindP_some h
  refine ca_X9_29 e dX9_count_2 (Nat.le_of_ble_eq_true rfl) (by decide) ?_
  refine v_istore_n (ls' := [(2, .int v2), (0, .ref l0), (1, .ref l1)]) dX9_count_5 rfl (by decide) rfl ?_
  refine v_iload_n dX9_count_6 rfl 0 rfl ?_
  refine v_if_ge (tgt := 56) dX9_count_7 (by decide) (fun c14 => ?_) (fun c14 => ?_)
  · replace h := ifP c14 h
    refine v_sub [1, 0] rfl ?_
    exact w_X9_count_J56 l0 v2 M1 h
  · replace h := ifN c14 h
    refine v_aload_n dX9_count_10 rfl 1 rfl ?_
    obtain ⟨v3, e, h⟩ := bind_some h
    refine gt_X9_21 e dX9_count_11 ?_
    refine v_if_lt (tgt := 56) dX9_count_14 (by decide) (fun c13 => ?_) (fun c13 => ?_)
    · replace h := ifP c13 h
      refine v_sub [1, 0] rfl ?_
      exact w_X9_count_J56 l0 v2 M1 h
    · replace h := ifN c13 h
      refine v_aload_n dX9_count_17 rfl 1 rfl ?_
      obtain ⟨v4, e, h⟩ := bind_some h
      refine gt_X9_21 e dX9_count_18 ?_
      refine v_sipush (v := 512) dX9_count_21 cs_512 ?_
      refine v_icmp_ge (tgt := 56) dX9_count_24 (by decide) (fun c12 => ?_) (fun c12 => ?_)
      · replace h := ifP c12 h
        refine v_sub [1, 0] rfl ?_
        exact w_X9_count_J56 l0 v2 M1 h
      · replace h := ifN c12 h
        refine v_aload_n dX9_count_27 rfl 1 rfl ?_
        obtain ⟨v5, e, h⟩ := bind_some h
        refine gt_X9_21 e dX9_count_28 ?_
        refine v_istore_n (ls' := [(2, .int v5), (0, .ref l0), (1, .ref l1)]) dX9_count_31 rfl (by decide) rfl ?_
        refine v_aload_n dX9_count_32 rfl 1 rfl ?_
        obtain ⟨v6, e, h⟩ := bind_some h
        refine gt_X9_11 e dX9_count_33 ?_
        refine v_iload_n dX9_count_36 rfl 0 rfl ?_
        refine v_aload_n dX9_count_37 rfl 2 rfl ?_
        obtain ⟨M7, e, h⟩ := bind_some h
        refine as_10 e dX9_count_38 ?_
        refine v_aload_n dX9_count_39 rfl 1 rfl ?_
        obtain ⟨v8, e, h⟩ := bind_some h
        refine gt_X9_17 e dX9_count_40 ?_
        refine v_iload_n dX9_count_43 rfl 0 rfl ?_
        refine v_iconst (v := 0) dX9_count_44 ci_0 ?_
        obtain ⟨M9, e, h⟩ := bind_some h
        refine v_iastore dX9_count_45 e ?_
        refine v_aload_n dX9_count_46 rfl 1 rfl ?_
        refine v_dup dX9_count_47 rfl ?_
        obtain ⟨v10, e, h⟩ := bind_some h
        refine gt_X9_21 e dX9_count_48 ?_
        refine v_iconst (v := 1) dX9_count_51 ci_1 ?_
        refine v_iadd dX9_count_52 ?_
        obtain ⟨M11, e, h⟩ := bind_some h
        refine pt_X9_21 e dX9_count_53 ?_
        refine v_sub [1, 0] rfl ?_
        exact w_X9_count_J56 l0 v5 M11 h
theorem kd_X9_count {l0 : Nat} {l1 : Nat} {M : Mem} {z : _} (h : f_X9_count l0 l1 M = some z) : (mK M l0).1 = 9 := by
  unfold f_X9_count at h
  exact (ifS h).1
theorem k_X9_count {G : Gl} {l0 : Nat} {l1 : Nat} {M MF : Mem} (h : f_X9_count l0 l1 M = some MF) : CtrP G yX9_count cX9_count 3 none 2 44 [.ref l0, .ref l1] M (cvV ()) MF :=
  ctr_of (by decide +kernel) (Nat.le_of_ble_eq_true rfl) (fun ρ => w_X9_count (r := ()) l0 l1 M h)
theorem wd_X7_198 : wdV RX7 198 RX9 yX9_count cX9_count 3 none 1 := ⟨gwi 724 (by decide +kernel) (by decide +kernel), gwi 725 (by decide +kernel) (by decide +kernel), gwi 726 (by decide +kernel) (by decide +kernel), nw_X9, gwi 727 (by decide +kernel) (by decide +kernel), ⟨rfl, by decide +kernel, by decide +kernel, by decide +kernel⟩⟩
theorem ca_X7_198 {G : Gl} {B : Bx} {cc : ByteArray} {ret : Option FieldType} {fr lo nL : Nat} {mn : String} {hh : List (Nat × Nat × Nat × Nat)} {pc : Nat} {ls : List (Nat × Value)} {st : List Value} {M M1 : Mem} {l0 : Nat} {l1 : Nat} (e : f_X9_count l0 l1 M = some M1) (hd : decode cc pc = .ok (.invokevirtual 198, 3)) (hcat : (st.map fun v => v.category).sum ≤ 8) (hR : 2 + 1 ≤ fr ∧ 8 + (3 + 11) + 44 ≤ lo) (k : V G (RX7, cc, ret, fr, lo, nL, mn, hh) B (pc + 3) ls (st) M1) : V G (RX7, cc, ret, fr, lo, nL, mn, hh) B pc ls (.ref l1 :: .ref l0 :: st) M := v_callV0 (As := [.ref l1]) (k_X9_count e) wd_X7_198 clX9 (kd_X9_count e) hd rfl rfl hcat hR k
set_option maxHeartbeats 4000000 in
set_option maxRecDepth 100000 in
theorem w_X10_order_L16 {G : Gl} {ρ0 : Nat → Nat} {M0 MF : Mem} {r : Int32} : ∀ (n : Nat) (l0 : Nat) (l1 : Nat) (l2 : Int32) (l3 : Int32) (M : Mem), f_X10_order_L16 n l0 l1 l2 l3 M = some (r, MF) → V G (RX10, cX10_order, (some .int), 1, 21, 4, "order", []) (ρ0, M0, cvI r, MF) 16 [(0, .ref l0), (1, .ref l1), (2, .int l2), (3, .int l3)] [] M := by
  intro n
  induction n with
  | zero => intro l0 l1 l2 l3 M h; cases h
  | succ n ih =>
    intro l0 l1 l2 l3 M h
    rw [f_X10_order_L16] at h
    refine v_iload_n dX10_order_16 rfl 3 rfl ?_
    refine v_iload_n dX10_order_17 rfl 2 rfl ?_
    refine v_icmp_ge (tgt := 56) dX10_order_18 (by decide) (fun c10 => ?_) (fun c10 => ?_)
    · replace h := ifP c10 h
      refine v_aload_n dX10_order_56 rfl 0 rfl ?_
      obtain ⟨v1, e, h⟩ := bind_some h
      refine gt_X10_18 e dX10_order_57 ?_
      obtain ⟨v2, e, h⟩ := bind_some h
      refine v_alen dX10_order_60 e ?_
      refine v_aload_n dX10_order_61 rfl 1 rfl ?_
      obtain ⟨v3, e, h⟩ := bind_some h
      refine gt_X10_18 e dX10_order_62 ?_
      obtain ⟨v4, e, h⟩ := bind_some h
      refine v_alen dX10_order_65 e ?_
      refine v_isub dX10_order_66 ?_
      cases h
      exact v_ireturn dX10_order_67
    · replace h := ifN c10 h
      refine v_aload_n dX10_order_21 rfl 0 rfl ?_
      obtain ⟨v1, e, h⟩ := bind_some h
      refine gt_X10_18 e dX10_order_22 ?_
      refine v_iload_n dX10_order_25 rfl 3 rfl ?_
      obtain ⟨v2, e, h⟩ := bind_some h
      refine v_caload dX10_order_26 e ?_
      refine v_aload_n dX10_order_27 rfl 1 rfl ?_
      obtain ⟨v3, e, h⟩ := bind_some h
      refine gt_X10_18 e dX10_order_28 ?_
      refine v_iload_n dX10_order_31 rfl 3 rfl ?_
      obtain ⟨v4, e, h⟩ := bind_some h
      refine v_caload dX10_order_32 e ?_
      refine v_icmp_eq (tgt := 50) dX10_order_33 (by decide) (fun c9 => ?_) (fun c9 => ?_)
      · replace h := ifP c9 h
        refine v_iinc (ls' := [(3, .int (l3 + 1)), (0, .ref l0), (1, .ref l1), (2, .int l2)]) dX10_order_50 3 rfl (v := 1) ci_1 (by decide) rfl ?_
        refine v_goto (tgt := 16) dX10_order_53 (by decide) ?_
        refine v_sub [1, 2, 3, 0] rfl ?_
        exact ih l0 l1 l2 (l3 + 1) M h
      · replace h := ifN c9 h
        refine v_aload_n dX10_order_36 rfl 0 rfl ?_
        obtain ⟨v5, e, h⟩ := bind_some h
        refine gt_X10_18 e dX10_order_37 ?_
        refine v_iload_n dX10_order_40 rfl 3 rfl ?_
        obtain ⟨v6, e, h⟩ := bind_some h
        refine v_caload dX10_order_41 e ?_
        refine v_aload_n dX10_order_42 rfl 1 rfl ?_
        obtain ⟨v7, e, h⟩ := bind_some h
        refine gt_X10_18 e dX10_order_43 ?_
        refine v_iload_n dX10_order_46 rfl 3 rfl ?_
        obtain ⟨v8, e, h⟩ := bind_some h
        refine v_caload dX10_order_47 e ?_
        refine v_isub dX10_order_48 ?_
        cases h
        exact v_ireturn dX10_order_49
set_option maxHeartbeats 4000000 in
set_option maxRecDepth 100000 in
theorem w_X10_order {G : Gl} {ρ0 : Nat → Nat} {M0 MF : Mem} {r : Int32} (l0 : Nat) (l1 : Nat) (M : Mem) (h : f_X10_order l0 l1 M = some (r, MF)) : V G (RX10, cX10_order, (some .int), 1, 21, 4, "order", []) (ρ0, M0, cvI r, MF) 0 [(0, .ref l0), (1, .ref l1)] [] M := by
  unfold f_X10_order at h
  replace h := (ifS h).2
  refine v_aload_n dX10_order_0 rfl 0 rfl ?_
  obtain ⟨v1, e, h⟩ := bind_some h
  refine gt_X10_18 e dX10_order_1 ?_
  obtain ⟨v2, e, h⟩ := bind_some h
  refine v_alen dX10_order_4 e ?_
  refine v_aload_n dX10_order_5 rfl 1 rfl ?_
  obtain ⟨v3, e, h⟩ := bind_some h
  refine gt_X10_18 e dX10_order_6 ?_
  obtain ⟨v4, e, h⟩ := bind_some h
  refine v_alen dX10_order_9 e ?_
  refine mx_X10_9 dX10_order_10 (by decide) (Nat.le_of_ble_eq_true rfl) ?_
  refine v_istore_n (ls' := [(2, .int (iminE v2 v4)), (0, .ref l0), (1, .ref l1)]) dX10_order_13 rfl (by decide) rfl ?_
  refine v_iconst (v := 0) dX10_order_14 ci_0 ?_
  refine v_istore_n (ls' := [(3, .int (0 : Int32)), (2, .int (iminE v2 v4)), (0, .ref l0), (1, .ref l1)]) dX10_order_15 rfl (by decide) rfl ?_
  refine v_sub [2, 3, 1, 0] rfl ?_
  exact w_X10_order_L16 FU l0 l1 (iminE v2 v4) (0 : Int32) M h
theorem kd_X10_order {l0 : Nat} {l1 : Nat} {M : Mem} {z : _} (h : f_X10_order l0 l1 M = some z) : (mK M l0).1 = 10 := by
  unfold f_X10_order at h
  exact (ifS h).1
theorem k_X10_order {G : Gl} {l0 : Nat} {l1 : Nat} {M MF : Mem} {r : Int32} (h : f_X10_order l0 l1 M = some (r, MF)) : CtrP G yX10_order cX10_order 4 (some .int) 1 21 [.ref l0, .ref l1] M (cvI r) MF :=
  ctr_of (by decide +kernel) (Nat.le_of_ble_eq_true rfl) (fun ρ => w_X10_order l0 l1 M h)
theorem wd_X7_224 : wdV RX7 224 RX10 yX10_order cX10_order 4 (some .int) 1 := ⟨gwi 740 (by decide +kernel) (by decide +kernel), gwi 741 (by decide +kernel) (by decide +kernel), gwi 742 (by decide +kernel) (by decide +kernel), nw_X10, gwi 743 (by decide +kernel) (by decide +kernel), ⟨rfl, by decide +kernel, by decide +kernel, by decide +kernel⟩⟩
theorem ca_X7_224 {G : Gl} {B : Bx} {cc : ByteArray} {ret : Option FieldType} {fr lo nL : Nat} {mn : String} {hh : List (Nat × Nat × Nat × Nat)} {pc : Nat} {ls : List (Nat × Value)} {st : List Value} {M M1 : Mem} {l0 : Nat} {l1 : Nat} {x : Int32} (e : f_X10_order l0 l1 M = some (x, M1)) (hd : decode cc pc = .ok (.invokevirtual 224, 3)) (hcat : (st.map fun v => v.category).sum ≤ 8) (hR : 1 + 1 ≤ fr ∧ 8 + (4 + 11) + 21 ≤ lo) (k : V G (RX7, cc, ret, fr, lo, nL, mn, hh) B (pc + 3) ls (.int x :: st) M1) : V G (RX7, cc, ret, fr, lo, nL, mn, hh) B pc ls (.ref l1 :: .ref l0 :: st) M := v_callVi (As := [.ref l1]) (k_X10_order e) wd_X7_224 clX10 (kd_X10_order e) hd rfl rfl hcat hR k
set_option maxHeartbeats 4000000 in
set_option maxRecDepth 100000 in
theorem w_X7_dropRetained_L9 {G : Gl} {ρ0 : Nat → Nat} {M0 MF : Mem} {r : Unit} : ∀ (n : Nat) (l0 : Nat) (l2 : Nat) (l3 : Int32) (M : Mem), f_X7_dropRetained_L9 n l0 l2 l3 M = some MF → V G (RX7, cX7_dropRetained, none, 0, 0, 4, "dropRetained", []) (ρ0, M0, cvV r, MF) 9 [(0, .ref l0), (2, .ref l2), (3, .int l3)] [] M := by
  intro n
  induction n with
  | zero => intro l0 l2 l3 M h; cases h
  | succ n ih =>
    intro l0 l2 l3 M h
    rw [f_X7_dropRetained_L9] at h
    refine v_iload_n dX7_dropRetained_9 rfl 2 rfl ?_
    refine v_iconst (v := 1) dX7_dropRetained_10 ci_1 ?_
    refine v_iadd dX7_dropRetained_11 ?_
    refine v_aload_n dX7_dropRetained_12 rfl 0 rfl ?_
    obtain ⟨v1, e, h⟩ := bind_some h
    refine gt_X7_70 e dX7_dropRetained_13 ?_
    refine v_icmp_ge (tgt := 39) dX7_dropRetained_16 (by decide) (fun c7 => ?_) (fun c7 => ?_)
    · replace h := ifP c7 h
      refine v_aload_n dX7_dropRetained_39 rfl 0 rfl ?_
      obtain ⟨v2, e, h⟩ := bind_some h
      refine gt_X7_33 e dX7_dropRetained_40 ?_
      refine v_aload_n dX7_dropRetained_43 rfl 0 rfl ?_
      obtain ⟨v3, e, h⟩ := bind_some h
      refine gt_X7_70 e dX7_dropRetained_44 ?_
      refine v_iconst (v := 1) dX7_dropRetained_47 ci_1 ?_
      refine v_isub dX7_dropRetained_48 ?_
      refine v_aload_n dX7_dropRetained_49 rfl 1 rfl ?_
      obtain ⟨M4, e, h⟩ := bind_some h
      refine as_1 e dX7_dropRetained_50 ?_
      refine v_aload_n dX7_dropRetained_51 rfl 0 rfl ?_
      refine v_dup dX7_dropRetained_52 rfl ?_
      obtain ⟨v5, e, h⟩ := bind_some h
      refine gt_X7_70 e dX7_dropRetained_53 ?_
      refine v_iconst (v := 1) dX7_dropRetained_56 ci_1 ?_
      refine v_isub dX7_dropRetained_57 ?_
      obtain ⟨M6, e, h⟩ := bind_some h
      refine pt_X7_70 e dX7_dropRetained_58 ?_
      cases h
      exact v_vreturn dX7_dropRetained_61
    · replace h := ifN c7 h
      refine v_aload_n dX7_dropRetained_19 rfl 0 rfl ?_
      obtain ⟨v2, e, h⟩ := bind_some h
      refine gt_X7_33 e dX7_dropRetained_20 ?_
      refine v_iload_n dX7_dropRetained_23 rfl 2 rfl ?_
      refine v_aload_n dX7_dropRetained_24 rfl 0 rfl ?_
      obtain ⟨v3, e, h⟩ := bind_some h
      refine gt_X7_33 e dX7_dropRetained_25 ?_
      refine v_iload_n dX7_dropRetained_28 rfl 2 rfl ?_
      refine v_iconst (v := 1) dX7_dropRetained_29 ci_1 ?_
      refine v_iadd dX7_dropRetained_30 ?_
      obtain ⟨v4, e, h⟩ := bind_some h
      refine al_1 e dX7_dropRetained_31 ?_
      obtain ⟨M5, e, h⟩ := bind_some h
      refine as_1 e dX7_dropRetained_32 ?_
      refine v_iinc (ls' := [(3, .int (l3 + 1)), (0, .ref l0), (2, .ref l2)]) dX7_dropRetained_33 2 rfl (v := 1) ci_1 (by decide) rfl ?_
      refine v_goto (tgt := 9) dX7_dropRetained_36 (by decide) ?_
      refine v_sub [1, 2, 0] rfl ?_
      exact ih l0 l2 (l3 + 1) M5 h
set_option maxHeartbeats 4000000 in
set_option maxRecDepth 100000 in
theorem w_X7_dropRetained {G : Gl} {ρ0 : Nat → Nat} {M0 MF : Mem} {r : Unit} (l0 : Nat) (l1 : Int32) (M : Mem) (h : f_X7_dropRetained l0 l1 M = some MF) : V G (RX7, cX7_dropRetained, none, 0, 0, 4, "dropRetained", []) (ρ0, M0, cvV r, MF) 0 [(0, .ref l0), (1, .int l1)] [] M := by
  unfold f_X7_dropRetained at h
  replace h := (ifS h).2
  refine v_aload_n dX7_dropRetained_0 rfl 0 rfl ?_
  obtain ⟨v1, e, h⟩ := bind_some h
  refine gt_X7_33 e dX7_dropRetained_1 ?_
  refine v_iload_n dX7_dropRetained_4 rfl 1 rfl ?_
  obtain ⟨v2, e, h⟩ := bind_some h
  refine al_1 e dX7_dropRetained_5 ?_
  refine v_astore_n (ls' := [(2, .ref v2), (0, .ref l0), (1, .int l1)]) dX7_dropRetained_6 rfl (by decide) rfl ?_
  refine v_iload_n dX7_dropRetained_7 rfl 2 rfl ?_
  refine v_istore_n (ls' := [(3, .int l1), (2, .ref v2), (0, .ref l0), (1, .int l1)]) dX7_dropRetained_8 rfl (by decide) rfl ?_
  refine v_sub [2, 1, 0] rfl ?_
  exact w_X7_dropRetained_L9 FU l0 v2 l1 M h
theorem kd_X7_dropRetained {l0 : Nat} {l1 : Int32} {M : Mem} {z : _} (h : f_X7_dropRetained l0 l1 M = some z) : (mK M l0).1 = 7 := by
  unfold f_X7_dropRetained at h
  exact (ifS h).1
theorem k_X7_dropRetained {G : Gl} {l0 : Nat} {l1 : Int32} {M MF : Mem} (h : f_X7_dropRetained l0 l1 M = some MF) : CtrP G yX7_dropRetained cX7_dropRetained 4 none 0 0 [.ref l0, .int l1] M (cvV ()) MF :=
  ctr_of (by decide +kernel) (Nat.le_of_ble_eq_true rfl) (fun ρ => w_X7_dropRetained (r := ()) l0 l1 M h)
theorem wd_X7_231 : wdV RX7 231 RX7 yX7_dropRetained cX7_dropRetained 4 none 1 := ⟨gwi 745 (by decide +kernel) (by decide +kernel), gwi 747 (by decide +kernel) (by decide +kernel), gwi 3 (by decide +kernel) (by decide +kernel), nw_X7, gwi 748 (by decide +kernel) (by decide +kernel), ⟨rfl, by decide +kernel, by decide +kernel, by decide +kernel⟩⟩
theorem ca_X7_231 {G : Gl} {B : Bx} {cc : ByteArray} {ret : Option FieldType} {fr lo nL : Nat} {mn : String} {hh : List (Nat × Nat × Nat × Nat)} {pc : Nat} {ls : List (Nat × Value)} {st : List Value} {M M1 : Mem} {l0 : Nat} {l1 : Int32} (e : f_X7_dropRetained l0 l1 M = some M1) (hd : decode cc pc = .ok (.invokevirtual 231, 3)) (hcat : (st.map fun v => v.category).sum ≤ 8) (hR : 0 + 1 ≤ fr ∧ 8 + (4 + 11) + 0 ≤ lo) (k : V G (RX7, cc, ret, fr, lo, nL, mn, hh) B (pc + 3) ls (st) M1) : V G (RX7, cc, ret, fr, lo, nL, mn, hh) B pc ls (.int l1 :: .ref l0 :: st) M := v_callV0 (As := [.int l1]) (k_X7_dropRetained e) wd_X7_231 clX7 (kd_X7_dropRetained e) hd rfl rfl hcat hR k
set_option maxHeartbeats 4000000 in
set_option maxRecDepth 100000 in
theorem w_X7_openRetained_L15 {G : Gl} {ρ0 : Nat → Nat} {M0 MF : Mem} {r : Unit} : ∀ (n : Nat) (l0 : Nat) (l1 : Int32) (l2 : Nat) (l3 : Int32) (M : Mem), f_X7_openRetained_L15 n l0 l1 l2 l3 M = some MF → V G (RX7, cX7_openRetained, none, 0, 0, 4, "openRetained", []) (ρ0, M0, cvV r, MF) 15 [(0, .ref l0), (1, .int l1), (2, .ref l2), (3, .int l3)] [] M := by
  intro n
  induction n with
  | zero => intro l0 l1 l2 l3 M h; cases h
  | succ n ih =>
    intro l0 l1 l2 l3 M h
    rw [f_X7_openRetained_L15] at h
    refine v_iload_n dX7_openRetained_15 rfl 3 rfl ?_
    refine v_iload_n dX7_openRetained_16 rfl 1 rfl ?_
    refine v_icmp_le (tgt := 40) dX7_openRetained_17 (by decide) (fun c5 => ?_) (fun c5 => ?_)
    · replace h := ifP c5 h
      refine v_aload_n dX7_openRetained_40 rfl 0 rfl ?_
      obtain ⟨v1, e, h⟩ := bind_some h
      refine gt_X7_33 e dX7_openRetained_41 ?_
      refine v_iload_n dX7_openRetained_44 rfl 1 rfl ?_
      refine v_aload_n dX7_openRetained_45 rfl 2 rfl ?_
      obtain ⟨M2, e, h⟩ := bind_some h
      refine as_1 e dX7_openRetained_46 ?_
      refine v_aload_n dX7_openRetained_47 rfl 0 rfl ?_
      refine v_dup dX7_openRetained_48 rfl ?_
      obtain ⟨v3, e, h⟩ := bind_some h
      refine gt_X7_70 e dX7_openRetained_49 ?_
      refine v_iconst (v := 1) dX7_openRetained_52 ci_1 ?_
      refine v_iadd dX7_openRetained_53 ?_
      obtain ⟨M4, e, h⟩ := bind_some h
      refine pt_X7_70 e dX7_openRetained_54 ?_
      cases h
      exact v_vreturn dX7_openRetained_57
    · replace h := ifN c5 h
      refine v_aload_n dX7_openRetained_20 rfl 0 rfl ?_
      obtain ⟨v1, e, h⟩ := bind_some h
      refine gt_X7_33 e dX7_openRetained_21 ?_
      refine v_iload_n dX7_openRetained_24 rfl 3 rfl ?_
      refine v_aload_n dX7_openRetained_25 rfl 0 rfl ?_
      obtain ⟨v2, e, h⟩ := bind_some h
      refine gt_X7_33 e dX7_openRetained_26 ?_
      refine v_iload_n dX7_openRetained_29 rfl 3 rfl ?_
      refine v_iconst (v := 1) dX7_openRetained_30 ci_1 ?_
      refine v_isub dX7_openRetained_31 ?_
      obtain ⟨v3, e, h⟩ := bind_some h
      refine al_1 e dX7_openRetained_32 ?_
      obtain ⟨M4, e, h⟩ := bind_some h
      refine as_1 e dX7_openRetained_33 ?_
      refine v_iinc (ls' := [(3, .int (l3 + (-1))), (0, .ref l0), (1, .int l1), (2, .ref l2)]) dX7_openRetained_34 3 rfl (v := (-1)) ci_m1 (by decide) rfl ?_
      refine v_goto (tgt := 15) dX7_openRetained_37 (by decide) ?_
      refine v_sub [1, 2, 3, 0] rfl ?_
      exact ih l0 l1 l2 (l3 + (-1)) M4 h
set_option maxHeartbeats 4000000 in
set_option maxRecDepth 100000 in
theorem w_X7_openRetained {G : Gl} {ρ0 : Nat → Nat} {M0 MF : Mem} {r : Unit} (l0 : Nat) (l1 : Int32) (M : Mem) (h : f_X7_openRetained l0 l1 M = some MF) : V G (RX7, cX7_openRetained, none, 0, 0, 4, "openRetained", []) (ρ0, M0, cvV r, MF) 0 [(0, .ref l0), (1, .int l1)] [] M := by
  unfold f_X7_openRetained at h
  replace h := (ifS h).2
  refine v_aload_n dX7_openRetained_0 rfl 0 rfl ?_
  obtain ⟨v1, e, h⟩ := bind_some h
  refine gt_X7_33 e dX7_openRetained_1 ?_
  refine v_aload_n dX7_openRetained_4 rfl 0 rfl ?_
  obtain ⟨v2, e, h⟩ := bind_some h
  refine gt_X7_70 e dX7_openRetained_5 ?_
  obtain ⟨v3, e, h⟩ := bind_some h
  refine al_1 e dX7_openRetained_8 ?_
  refine v_astore_n (ls' := [(2, .ref v3), (0, .ref l0), (1, .int l1)]) dX7_openRetained_9 rfl (by decide) rfl ?_
  refine v_aload_n dX7_openRetained_10 rfl 1 rfl ?_
  obtain ⟨v4, e, h⟩ := bind_some h
  refine gt_X7_70 e dX7_openRetained_11 ?_
  refine v_istore_n (ls' := [(3, .int v4), (2, .ref v3), (0, .ref l0), (1, .int l1)]) dX7_openRetained_14 rfl (by decide) rfl ?_
  refine v_sub [2, 3, 1, 0] rfl ?_
  exact w_X7_openRetained_L15 FU l0 l1 v3 v4 M h
theorem kd_X7_openRetained {l0 : Nat} {l1 : Int32} {M : Mem} {z : _} (h : f_X7_openRetained l0 l1 M = some z) : (mK M l0).1 = 7 := by
  unfold f_X7_openRetained at h
  exact (ifS h).1
theorem k_X7_openRetained {G : Gl} {l0 : Nat} {l1 : Int32} {M MF : Mem} (h : f_X7_openRetained l0 l1 M = some MF) : CtrP G yX7_openRetained cX7_openRetained 4 none 0 0 [.ref l0, .int l1] M (cvV ()) MF :=
  ctr_of (by decide +kernel) (Nat.le_of_ble_eq_true rfl) (fun ρ => w_X7_openRetained (r := ()) l0 l1 M h)
theorem wd_X7_234 : wdV RX7 234 RX7 yX7_openRetained cX7_openRetained 4 none 1 := ⟨gwi 749 (by decide +kernel) (by decide +kernel), gwi 751 (by decide +kernel) (by decide +kernel), gwi 4 (by decide +kernel) (by decide +kernel), nw_X7, gwi 752 (by decide +kernel) (by decide +kernel), ⟨rfl, by decide +kernel, by decide +kernel, by decide +kernel⟩⟩
theorem ca_X7_234 {G : Gl} {B : Bx} {cc : ByteArray} {ret : Option FieldType} {fr lo nL : Nat} {mn : String} {hh : List (Nat × Nat × Nat × Nat)} {pc : Nat} {ls : List (Nat × Value)} {st : List Value} {M M1 : Mem} {l0 : Nat} {l1 : Int32} (e : f_X7_openRetained l0 l1 M = some M1) (hd : decode cc pc = .ok (.invokevirtual 234, 3)) (hcat : (st.map fun v => v.category).sum ≤ 8) (hR : 0 + 1 ≤ fr ∧ 8 + (4 + 11) + 0 ≤ lo) (k : V G (RX7, cc, ret, fr, lo, nL, mn, hh) B (pc + 3) ls (st) M1) : V G (RX7, cc, ret, fr, lo, nL, mn, hh) B pc ls (.int l1 :: .ref l0 :: st) M := v_callV0 (As := [.int l1]) (k_X7_openRetained e) wd_X7_234 clX7 (kd_X7_openRetained e) hd rfl rfl hcat hR k
set_option maxHeartbeats 4000000 in
set_option maxRecDepth 100000 in
theorem w_X7_keepRetained_J116 {G : Gl} {ρ0 : Nat → Nat} {M0 MF : Mem} {r : Unit} (l0 : Nat) (l1 : Nat) (l2 : Int32) (M : Mem) (h : f_X7_keepRetained_J116 l0 l1 l2 M = some MF) : V G (RX7, cX7_keepRetained, none, 2, 44, 4, "keepRetained", []) (ρ0, M0, cvV r, MF) 116 [(0, .ref l0), (1, .ref l1), (2, .int l2)] [] M := by
  unfold f_X7_keepRetained_J116 at h
  refine v_aload_n dX7_keepRetained_116 rfl 0 rfl ?_
  obtain ⟨v1, e, h⟩ := bind_some h
  refine gt_X7_33 e dX7_keepRetained_117 ?_
  refine v_iload_n dX7_keepRetained_120 rfl 2 rfl ?_
  obtain ⟨v2, e, h⟩ := bind_some h
  refine al_1 e dX7_keepRetained_121 ?_
  refine v_aload_n dX7_keepRetained_122 rfl 1 rfl ?_
  obtain ⟨M3, e, h⟩ := bind_some h
  refine ca_X7_73 e dX7_keepRetained_123 (Nat.le_of_ble_eq_true rfl) (by decide) ?_
  cases h
  exact v_vreturn dX7_keepRetained_126
set_option maxHeartbeats 4000000 in
set_option maxRecDepth 100000 in
theorem w_X7_keepRetained_J79 {G : Gl} {ρ0 : Nat → Nat} {M0 MF : Mem} {r : Unit} (l0 : Nat) (l1 : Nat) (l2 : Int32) (s0 : Int32) (M : Mem) (h : f_X7_keepRetained_J79 l0 l1 l2 s0 M = some MF) : V G (RX7, cX7_keepRetained, none, 2, 44, 4, "keepRetained", []) (ρ0, M0, cvV r, MF) 79 [(0, .ref l0), (1, .ref l1), (2, .int l2)] [.int s0] M := by
  unfold f_X7_keepRetained_J79 at h
  refine v_istore_n (ls' := [(3, .int s0), (0, .ref l0), (1, .ref l1), (2, .int l2)]) dX7_keepRetained_79 rfl (by decide) rfl ?_
  refine v_aload_n dX7_keepRetained_80 rfl 2 rfl ?_
  obtain ⟨v1, e, h⟩ := bind_some h
  refine gt_X7_228 e dX7_keepRetained_81 ?_
  refine v_if_ne (tgt := 97) dX7_keepRetained_84 (by decide) (fun c6 => ?_) (fun c6 => ?_)
  · replace h := ifN c6 h
    refine v_iload_n dX7_keepRetained_97 rfl 0 rfl ?_
    refine v_if_ne (tgt := 116) dX7_keepRetained_98 (by decide) (fun c5 => ?_) (fun c5 => ?_)
    · replace h := ifN c5 h
      refine v_sub [1, 2, 3] rfl ?_
      exact w_X7_keepRetained_J116 l0 l1 l2 M h
    · replace h := ifP c5 h
      refine v_aload_n dX7_keepRetained_101 rfl 1 rfl ?_
      obtain ⟨v2, e, h⟩ := bind_some h
      refine gt_X7_70 e dX7_keepRetained_102 ?_
      refine v_bipush (v := 8) dX7_keepRetained_105 cb_8 ?_
      refine v_icmp_lt (tgt := 111) dX7_keepRetained_107 (by decide) (fun c4 => ?_) (fun c4 => ?_)
      · replace h := ifP c4 h
        refine v_aload_n dX7_keepRetained_111 rfl 1 rfl ?_
        refine v_iload_n dX7_keepRetained_112 rfl 3 rfl ?_
        obtain ⟨M3, e, h⟩ := bind_some h
        refine ca_X7_234 e dX7_keepRetained_113 (Nat.le_of_ble_eq_true rfl) (by decide) ?_
        refine v_sub [1, 2, 3] rfl ?_
        exact w_X7_keepRetained_J116 l0 l1 l2 M3 h
      · replace h := ifN c4 h
        cases h
        exact v_vreturn dX7_keepRetained_110
  · replace h := ifP c6 h
    refine v_iload_n dX7_keepRetained_87 rfl 0 rfl ?_
    refine v_if_eq (tgt := 96) dX7_keepRetained_88 (by decide) (fun c3 => ?_) (fun c3 => ?_)
    · replace h := ifP c3 h
      cases h
      exact v_vreturn dX7_keepRetained_96
    · replace h := ifN c3 h
      refine v_aload_n dX7_keepRetained_91 rfl 1 rfl ?_
      refine v_iload_n dX7_keepRetained_92 rfl 3 rfl ?_
      obtain ⟨M2, e, h⟩ := bind_some h
      refine ca_X7_231 e dX7_keepRetained_93 (Nat.le_of_ble_eq_true rfl) (by decide) ?_
      cases h
      exact v_vreturn dX7_keepRetained_96
theorem w_X7_keepRetained_J78 {G : Gl} {ρ0 : Nat → Nat} {M0 MF : Mem} {r : Unit} (l0 : Nat) (l1 : Nat) (l2 : Int32) (M : Mem) (h : f_X7_keepRetained_J78 l0 l1 l2 M = some MF) : V G (RX7, cX7_keepRetained, none, 2, 44, 4, "keepRetained", []) (ρ0, M0, cvV r, MF) 78 [(0, .ref l0), (1, .ref l1), (2, .int l2)] [] M := by
  unfold f_X7_keepRetained_J78 at h
  refine v_iconst (v := 0) dX7_keepRetained_78 ci_0 ?_
  exact w_X7_keepRetained_J79 l0 l1 l2 (0 : Int32) M h
set_option maxHeartbeats 4000000 in
set_option maxRecDepth 100000 in
theorem w_X7_keepRetained_J41 {G : Gl} {ρ0 : Nat → Nat} {M0 MF : Mem} {r : Unit} (l0 : Nat) (l1 : Nat) (l2 : Int32) (M : Mem) (h : f_X7_keepRetained_J41 l0 l1 l2 M = some MF) : V G (RX7, cX7_keepRetained, none, 2, 44, 4, "keepRetained", []) (ρ0, M0, cvV r, MF) 41 [(0, .ref l0), (1, .ref l1), (2, .int l2)] [] M := by
  unfold f_X7_keepRetained_J41 at h
  refine v_iload_n dX7_keepRetained_41 rfl 2 rfl ?_
  refine v_aload_n dX7_keepRetained_42 rfl 0 rfl ?_
  obtain ⟨v1, e, h⟩ := bind_some h
  refine gt_X7_70 e dX7_keepRetained_43 ?_
  refine v_icmp_ge (tgt := 78) dX7_keepRetained_46 (by decide) (fun c10 => ?_) (fun c10 => ?_)
  · replace h := ifP c10 h
    exact w_X7_keepRetained_J78 l0 l1 l2 M h
  · replace h := ifN c10 h
    refine v_iload_n dX7_keepRetained_49 rfl 2 rfl ?_
    refine v_bipush (v := 8) dX7_keepRetained_50 cb_8 ?_
    refine v_icmp_ge (tgt := 78) dX7_keepRetained_52 (by decide) (fun c9 => ?_) (fun c9 => ?_)
    · replace h := ifP c9 h
      exact w_X7_keepRetained_J78 l0 l1 l2 M h
    · replace h := ifN c9 h
      refine v_aload_n dX7_keepRetained_55 rfl 0 rfl ?_
      obtain ⟨v2, e, h⟩ := bind_some h
      refine gt_X7_33 e dX7_keepRetained_56 ?_
      refine v_iload_n dX7_keepRetained_59 rfl 2 rfl ?_
      obtain ⟨v3, e, h⟩ := bind_some h
      refine al_1 e dX7_keepRetained_60 ?_
      obtain ⟨v4, e, h⟩ := bind_some h
      refine gt_X7_195 e dX7_keepRetained_61 ?_
      refine v_aload_n dX7_keepRetained_64 rfl 1 rfl ?_
      obtain ⟨v5, e, h⟩ := bind_some h
      refine gt_X7_195 e dX7_keepRetained_65 ?_
      obtain ⟨v7, M6, e, h⟩ := bindP_some h
      refine ca_X7_183 e dX7_keepRetained_68 (Nat.le_of_ble_eq_true rfl) (by decide) ?_
      refine v_if_eq (tgt := 78) dX7_keepRetained_71 (by decide) (fun c8 => ?_) (fun c8 => ?_)
      · replace h := ifP c8 h
        exact w_X7_keepRetained_J78 l0 l1 l2 M6 h
      · replace h := ifN c8 h
        refine v_iconst (v := 1) dX7_keepRetained_74 ci_1 ?_
        refine v_goto (tgt := 79) dX7_keepRetained_75 (by decide) ?_
        exact w_X7_keepRetained_J79 l0 l1 l2 (1 : Int32) M6 h
set_option maxHeartbeats 4000000 in
set_option maxRecDepth 100000 in
theorem w_X7_keepRetained_L2 {G : Gl} {ρ0 : Nat → Nat} {M0 MF : Mem} {r : Unit} : ∀ (n : Nat) (l0 : Nat) (l1 : Nat) (l2 : Int32) (M : Mem), f_X7_keepRetained_L2 n l0 l1 l2 M = some MF → V G (RX7, cX7_keepRetained, none, 2, 44, 4, "keepRetained", []) (ρ0, M0, cvV r, MF) 2 [(0, .ref l0), (1, .ref l1), (2, .int l2)] [] M := by
  intro n
  induction n with
  | zero => intro l0 l1 l2 M h; cases h
  | succ n ih =>
    intro l0 l1 l2 M h
    rw [f_X7_keepRetained_L2] at h
    refine v_iload_n dX7_keepRetained_2 rfl 2 rfl ?_
    refine v_aload_n dX7_keepRetained_3 rfl 0 rfl ?_
    obtain ⟨v1, e, h⟩ := bind_some h
    refine gt_X7_70 e dX7_keepRetained_4 ?_
    refine v_icmp_ge (tgt := 41) dX7_keepRetained_7 (by decide) (fun c10 => ?_) (fun c10 => ?_)
    · replace h := ifP c10 h
      exact w_X7_keepRetained_J41 l0 l1 l2 M h
    · replace h := ifN c10 h
      refine v_iload_n dX7_keepRetained_10 rfl 2 rfl ?_
      refine v_bipush (v := 8) dX7_keepRetained_11 cb_8 ?_
      refine v_icmp_ge (tgt := 41) dX7_keepRetained_13 (by decide) (fun c9 => ?_) (fun c9 => ?_)
      · replace h := ifP c9 h
        exact w_X7_keepRetained_J41 l0 l1 l2 M h
      · replace h := ifN c9 h
        refine v_aload_n dX7_keepRetained_16 rfl 0 rfl ?_
        obtain ⟨v2, e, h⟩ := bind_some h
        refine gt_X7_33 e dX7_keepRetained_17 ?_
        refine v_iload_n dX7_keepRetained_20 rfl 2 rfl ?_
        obtain ⟨v3, e, h⟩ := bind_some h
        refine al_1 e dX7_keepRetained_21 ?_
        obtain ⟨v4, e, h⟩ := bind_some h
        refine gt_X7_195 e dX7_keepRetained_22 ?_
        refine v_aload_n dX7_keepRetained_25 rfl 1 rfl ?_
        obtain ⟨v5, e, h⟩ := bind_some h
        refine gt_X7_195 e dX7_keepRetained_26 ?_
        obtain ⟨v7, M6, e, h⟩ := bindP_some h
        refine ca_X7_224 e dX7_keepRetained_29 (Nat.le_of_ble_eq_true rfl) (by decide) ?_
        refine v_if_ge (tgt := 41) dX7_keepRetained_32 (by decide) (fun c8 => ?_) (fun c8 => ?_)
        · replace h := ifP c8 h
          exact w_X7_keepRetained_J41 l0 l1 l2 M6 h
        · replace h := ifN c8 h
          refine v_iinc (ls' := [(2, .int (l2 + 1)), (0, .ref l0), (1, .ref l1)]) dX7_keepRetained_35 2 rfl (v := 1) ci_1 (by decide) rfl ?_
          refine v_goto (tgt := 2) dX7_keepRetained_38 (by decide) ?_
          refine v_sub [1, 2, 0] rfl ?_
          exact ih l0 l1 (l2 + 1) M6 h
set_option maxHeartbeats 4000000 in
set_option maxRecDepth 100000 in
theorem w_X7_keepRetained {G : Gl} {ρ0 : Nat → Nat} {M0 MF : Mem} {r : Unit} (l0 : Nat) (l1 : Nat) (M : Mem) (h : f_X7_keepRetained l0 l1 M = some MF) : V G (RX7, cX7_keepRetained, none, 2, 44, 4, "keepRetained", []) (ρ0, M0, cvV r, MF) 0 [(0, .ref l0), (1, .ref l1)] [] M := by
  unfold f_X7_keepRetained at h
  replace h := (ifS h).2
  refine v_iconst (v := 0) dX7_keepRetained_0 ci_0 ?_
  refine v_istore_n (ls' := [(2, .int (0 : Int32)), (0, .ref l0), (1, .ref l1)]) dX7_keepRetained_1 rfl (by decide) rfl ?_
  refine v_sub [1, 2, 0] rfl ?_
  exact w_X7_keepRetained_L2 FU l0 l1 (0 : Int32) M h
theorem kd_X7_keepRetained {l0 : Nat} {l1 : Nat} {M : Mem} {z : _} (h : f_X7_keepRetained l0 l1 M = some z) : (mK M l0).1 = 7 := by
  unfold f_X7_keepRetained at h
  exact (ifS h).1
theorem k_X7_keepRetained {G : Gl} {l0 : Nat} {l1 : Nat} {M MF : Mem} (h : f_X7_keepRetained l0 l1 M = some MF) : CtrP G yX7_keepRetained cX7_keepRetained 4 none 2 44 [.ref l0, .ref l1] M (cvV ()) MF :=
  ctr_of (by decide +kernel) (Nat.le_of_ble_eq_true rfl) (fun ρ => w_X7_keepRetained (r := ()) l0 l1 M h)
theorem wd_X7_200 : wdV RX7 200 RX7 yX7_keepRetained cX7_keepRetained 4 none 1 := ⟨gwi 736 (by decide +kernel) (by decide +kernel), gwi 738 (by decide +kernel) (by decide +kernel), gwi 2 (by decide +kernel) (by decide +kernel), nw_X7, gwi 739 (by decide +kernel) (by decide +kernel), ⟨rfl, by decide +kernel, by decide +kernel, by decide +kernel⟩⟩
theorem ca_X7_200 {G : Gl} {B : Bx} {cc : ByteArray} {ret : Option FieldType} {fr lo nL : Nat} {mn : String} {hh : List (Nat × Nat × Nat × Nat)} {pc : Nat} {ls : List (Nat × Value)} {st : List Value} {M M1 : Mem} {l0 : Nat} {l1 : Nat} (e : f_X7_keepRetained l0 l1 M = some M1) (hd : decode cc pc = .ok (.invokevirtual 200, 3)) (hcat : (st.map fun v => v.category).sum ≤ 8) (hR : 2 + 1 ≤ fr ∧ 8 + (4 + 11) + 44 ≤ lo) (k : V G (RX7, cc, ret, fr, lo, nL, mn, hh) B (pc + 3) ls (st) M1) : V G (RX7, cc, ret, fr, lo, nL, mn, hh) B pc ls (.ref l1 :: .ref l0 :: st) M := v_callV0 (As := [.ref l1]) (k_X7_keepRetained e) wd_X7_200 clX7 (kd_X7_keepRetained e) hd rfl rfl hcat hR k
set_option maxHeartbeats 4000000 in
set_option maxRecDepth 100000 in
theorem w_X7_countSent {G : Gl} {ρ0 : Nat → Nat} {M0 MF : Mem} {r : Int32} (l0 : Nat) (l1 : Nat) (M : Mem) (h : f_X7_countSent l0 l1 M = some (r, MF)) : V G (RX7, cX7_countSent, (some .boolean), 0, 0, 2, "countSent", []) (ρ0, M0, cvI r, MF) 0 [(0, .ref l0), (1, .ref l1)] [] M := by
  unfold f_X7_countSent at h
  replace h := (ifS h).2
  refine v_aload_n dX7_countSent_0 rfl 1 rfl ?_
  refine v_dup dX7_countSent_1 rfl ?_
  obtain ⟨v1, e, h⟩ := bind_some h
  refine gt_X7_310 e dX7_countSent_2 ?_
  refine v_iconst (v := 1) dX7_countSent_5 ci_1 ?_
  refine v_iadd dX7_countSent_6 ?_
  obtain ⟨M2, e, h⟩ := bind_some h
  refine pt_X7_310 e dX7_countSent_7 ?_
  refine v_aload_n dX7_countSent_10 rfl 1 rfl ?_
  obtain ⟨v3, e, h⟩ := bind_some h
  refine gt_X7_86 e dX7_countSent_11 ?_
  obtain ⟨v4, e, h⟩ := bind_some h
  refine gt_X7_313 e dX7_countSent_14 ?_
  refine v_bipush (v := 30) dX7_countSent_17 cb_30 ?_
  refine v_icmp_lt (tgt := 35) dX7_countSent_19 (by decide) (fun c8 => ?_) (fun c8 => ?_)
  · replace h := ifP c8 h
    refine v_iconst (v := 1) dX7_countSent_35 ci_1 ?_
    obtain ⟨hz, rfl, rfl⟩ := okZ_some h
    exact v_zreturn dX7_countSent_36 hz
  · replace h := ifN c8 h
    refine v_aload_n dX7_countSent_22 rfl 0 rfl ?_
    obtain ⟨v5, e, h⟩ := bind_some h
    refine gt_X7_45 e dX7_countSent_23 ?_
    refine v_bipush (v := 8) dX7_countSent_26 cb_8 ?_
    refine v_dup2 dX7_countSent_28 rfl rfl ?_
    obtain ⟨v6, e, h⟩ := bind_some h
    refine v_iaload dX7_countSent_29 e ?_
    refine v_iconst (v := 1) dX7_countSent_30 ci_1 ?_
    refine v_iadd dX7_countSent_31 ?_
    obtain ⟨M7, e, h⟩ := bind_some h
    refine v_iastore dX7_countSent_32 e ?_
    refine v_iconst (v := 0) dX7_countSent_33 ci_0 ?_
    obtain ⟨hz, rfl, rfl⟩ := okZ_some h
    exact v_zreturn dX7_countSent_34 hz
theorem kd_X7_countSent {l0 : Nat} {l1 : Nat} {M : Mem} {z : _} (h : f_X7_countSent l0 l1 M = some z) : (mK M l0).1 = 7 := by
  unfold f_X7_countSent at h
  exact (ifS h).1
theorem k_X7_countSent {G : Gl} {l0 : Nat} {l1 : Nat} {M MF : Mem} {r : Int32} (h : f_X7_countSent l0 l1 M = some (r, MF)) : CtrP G yX7_countSent cX7_countSent 2 (some .boolean) 0 0 [.ref l0, .ref l1] M (cvI r) MF :=
  ctr_of (by decide +kernel) (Nat.le_of_ble_eq_true rfl) (fun ρ => w_X7_countSent l0 l1 M h)
theorem wd_X7_293 : wdV RX7 293 RX7 yX7_countSent cX7_countSent 2 (some .boolean) 1 := ⟨gwi 787 (by decide +kernel) (by decide +kernel), gwi 789 (by decide +kernel) (by decide +kernel), gwi 10 (by decide +kernel) (by decide +kernel), nw_X7, gwi 790 (by decide +kernel) (by decide +kernel), ⟨rfl, by decide +kernel, by decide +kernel, by decide +kernel⟩⟩
theorem ca_X7_293 {G : Gl} {B : Bx} {cc : ByteArray} {ret : Option FieldType} {fr lo nL : Nat} {mn : String} {hh : List (Nat × Nat × Nat × Nat)} {pc : Nat} {ls : List (Nat × Value)} {st : List Value} {M M1 : Mem} {l0 : Nat} {l1 : Nat} {x : Int32} (e : f_X7_countSent l0 l1 M = some (x, M1)) (hd : decode cc pc = .ok (.invokevirtual 293, 3)) (hcat : (st.map fun v => v.category).sum ≤ 8) (hR : 0 + 1 ≤ fr ∧ 8 + (2 + 11) + 0 ≤ lo) (k : V G (RX7, cc, ret, fr, lo, nL, mn, hh) B (pc + 3) ls (.int x :: st) M1) : V G (RX7, cc, ret, fr, lo, nL, mn, hh) B pc ls (.ref l1 :: .ref l0 :: st) M := v_callVi (As := [.ref l1]) (k_X7_countSent e) wd_X7_293 clX7 (kd_X7_countSent e) hd rfl rfl hcat hR k
set_option maxHeartbeats 4000000 in
set_option maxRecDepth 100000 in
theorem w_X7_sendMessage {G : Gl} {ρ0 : Nat → Nat} {M0 MF : Mem} {r : Unit} (l0 : Nat) (l1 : Nat) (l2 : Nat) (l3 : Int32) (M : Mem) (h : f_X7_sendMessage l0 l1 l2 l3 M = some MF) : V G (RX7, cX7_sendMessage, none, 1, 21, 5, "sendMessage", []) (ρ0, M0, cvV r, MF) 0 [(0, .ref l0), (1, .ref l1), (2, .ref l2), (3, .int l3)] [] M := by
  unfold f_X7_sendMessage at h
  replace h := (ifS h).2
  refine v_aload_n dX7_sendMessage_0 rfl 2 rfl ?_
  refine v_aload_n dX7_sendMessage_1 rfl 0 rfl ?_
  obtain ⟨v1, e, h⟩ := bind_some h
  refine gt_X7_79 e dX7_sendMessage_2 ?_
  obtain ⟨M2, e, h⟩ := bind_some h
  refine pt_X7_286 e dX7_sendMessage_5 ?_
  refine v_aload_n dX7_sendMessage_8 rfl 0 rfl ?_
  refine v_aload_n dX7_sendMessage_9 rfl 1 rfl ?_
  obtain ⟨v4, M3, e, h⟩ := bindP_some h
  refine ca_X7_293 e dX7_sendMessage_10 (Nat.le_of_ble_eq_true rfl) (by decide) ?_
  refine v_if_eq (tgt := 78) dX7_sendMessage_13 (by decide) (fun c19 => ?_) (fun c19 => ?_)
  · replace h := ifP c19 h
    cases h
    exact v_vreturn dX7_sendMessage_78
  · replace h := ifN c19 h
    refine v_aload_n dX7_sendMessage_16 rfl 1 rfl ?_
    obtain ⟨v5, e, h⟩ := bind_some h
    refine gt_X7_86 e dX7_sendMessage_17 ?_
    obtain ⟨v7, M6, e, h⟩ := bindP_some h
    refine ca_X7_296 e dX7_sendMessage_20 (Nat.le_of_ble_eq_true rfl) (by decide) ?_
    refine v_astore (ls' := [(4, .ref v7), (0, .ref l0), (1, .ref l1), (2, .ref l2), (3, .int l3)]) dX7_sendMessage_23 (by decide) rfl ?_
    refine v_aload dX7_sendMessage_25 0 rfl ?_
    refine v_iconst (v := 0) dX7_sendMessage_27 ci_0 ?_
    obtain ⟨M8, e, h⟩ := bind_some h
    refine pt_X7_300 e dX7_sendMessage_28 ?_
    refine v_aload dX7_sendMessage_31 0 rfl ?_
    refine v_aload_n dX7_sendMessage_33 rfl 3 rfl ?_
    obtain ⟨v9, e, h⟩ := bind_some h
    refine gt_X7_271 e dX7_sendMessage_34 ?_
    obtain ⟨M10, e, h⟩ := bind_some h
    refine pt_X7_305 e dX7_sendMessage_37 ?_
    refine v_aload dX7_sendMessage_40 0 rfl ?_
    refine v_aload_n dX7_sendMessage_42 rfl 3 rfl ?_
    obtain ⟨v11, e, h⟩ := bind_some h
    refine gt_X7_207 e dX7_sendMessage_43 ?_
    obtain ⟨M12, e, h⟩ := bind_some h
    refine pt_X7_306 e dX7_sendMessage_46 ?_
    refine v_aload dX7_sendMessage_49 0 rfl ?_
    refine v_aload_n dX7_sendMessage_51 rfl 3 rfl ?_
    obtain ⟨v13, e, h⟩ := bind_some h
    refine gt_X7_228 e dX7_sendMessage_52 ?_
    obtain ⟨M14, e, h⟩ := bind_some h
    refine pt_X7_307 e dX7_sendMessage_55 ?_
    refine v_aload dX7_sendMessage_58 0 rfl ?_
    refine v_aload_n dX7_sendMessage_60 rfl 3 rfl ?_
    obtain ⟨v15, e, h⟩ := bind_some h
    refine gt_X7_241 e dX7_sendMessage_61 ?_
    refine v_iload_n dX7_sendMessage_64 rfl 4 rfl ?_
    refine v_iadd dX7_sendMessage_65 ?_
    obtain ⟨M16, e, h⟩ := bind_some h
    refine pt_X7_308 e dX7_sendMessage_66 ?_
    refine v_aload dX7_sendMessage_69 0 rfl ?_
    refine v_aload_n dX7_sendMessage_71 rfl 3 rfl ?_
    obtain ⟨v17, e, h⟩ := bind_some h
    refine gt_X7_195 e dX7_sendMessage_72 ?_
    obtain ⟨M18, e, h⟩ := bind_some h
    refine pt_X7_309 e dX7_sendMessage_75 ?_
    cases h
    exact v_vreturn dX7_sendMessage_78
theorem kd_X7_sendMessage {l0 : Nat} {l1 : Nat} {l2 : Nat} {l3 : Int32} {M : Mem} {z : _} (h : f_X7_sendMessage l0 l1 l2 l3 M = some z) : (mK M l0).1 = 7 := by
  unfold f_X7_sendMessage at h
  exact (ifS h).1
theorem k_X7_sendMessage {G : Gl} {l0 : Nat} {l1 : Nat} {l2 : Nat} {l3 : Int32} {M MF : Mem} (h : f_X7_sendMessage l0 l1 l2 l3 M = some MF) : CtrP G yX7_sendMessage cX7_sendMessage 5 none 1 21 [.ref l0, .ref l1, .ref l2, .int l3] M (cvV ()) MF :=
  ctr_of (by decide +kernel) (Nat.le_of_ble_eq_true rfl) (fun ρ => w_X7_sendMessage (r := ()) l0 l1 l2 l3 M h)
theorem wd_X7_244 : wdV RX7 244 RX7 yX7_sendMessage cX7_sendMessage 5 none 3 := ⟨gwi 783 (by decide +kernel) (by decide +kernel), gwi 785 (by decide +kernel) (by decide +kernel), gwi 9 (by decide +kernel) (by decide +kernel), nw_X7, gwi 786 (by decide +kernel) (by decide +kernel), ⟨rfl, by decide +kernel, by decide +kernel, by decide +kernel⟩⟩
theorem ca_X7_244 {G : Gl} {B : Bx} {cc : ByteArray} {ret : Option FieldType} {fr lo nL : Nat} {mn : String} {hh : List (Nat × Nat × Nat × Nat)} {pc : Nat} {ls : List (Nat × Value)} {st : List Value} {M M1 : Mem} {l0 : Nat} {l1 : Nat} {l2 : Nat} {l3 : Int32} (e : f_X7_sendMessage l0 l1 l2 l3 M = some M1) (hd : decode cc pc = .ok (.invokevirtual 244, 3)) (hcat : (st.map fun v => v.category).sum ≤ 8) (hR : 1 + 1 ≤ fr ∧ 8 + (5 + 11) + 21 ≤ lo) (k : V G (RX7, cc, ret, fr, lo, nL, mn, hh) B (pc + 3) ls (st) M1) : V G (RX7, cc, ret, fr, lo, nL, mn, hh) B pc ls (.int l3 :: .ref l2 :: .ref l1 :: .ref l0 :: st) M := v_callV0 (As := [.ref l1, .ref l2, .int l3]) (k_X7_sendMessage e) wd_X7_244 clX7 (kd_X7_sendMessage e) hd rfl rfl hcat hR k
set_option maxHeartbeats 4000000 in
set_option maxRecDepth 100000 in
theorem w_X7_mayStart {G : Gl} {ρ0 : Nat → Nat} {M0 MF : Mem} {r : Int32} (l0 : Nat) (l1 : Nat) (M : Mem) (h : f_X7_mayStart l0 l1 M = some (r, MF)) : V G (RX7, cX7_mayStart, (some .boolean), 0, 0, 2, "mayStart", []) (ρ0, M0, cvI r, MF) 0 [(0, .ref l0), (1, .ref l1)] [] M := by
  unfold f_X7_mayStart at h
  replace h := (ifS h).2
  refine v_aload_n dX7_mayStart_0 rfl 1 rfl ?_
  obtain ⟨v1, e, h⟩ := bind_some h
  refine gt_X7_82 e dX7_mayStart_1 ?_
  refine v_if_eq (tgt := 30) dX7_mayStart_4 (by decide) (fun c8 => ?_) (fun c8 => ?_)
  · replace h := ifP c8 h
    refine v_iconst (v := 0) dX7_mayStart_30 ci_0 ?_
    obtain ⟨hz, rfl, rfl⟩ := okZ_some h
    exact v_zreturn dX7_mayStart_31 hz
  · replace h := ifN c8 h
    refine v_aload_n dX7_mayStart_7 rfl 1 rfl ?_
    obtain ⟨v2, e, h⟩ := bind_some h
    refine gt_X7_95 e dX7_mayStart_8 ?_
    obtain ⟨v3, e, h⟩ := bind_some h
    refine gt_X7_138 e dX7_mayStart_11 ?_
    obtain ⟨v4, e, h⟩ := bind_some h
    refine gt_X7_142 e dX7_mayStart_14 ?_
    refine v_aload_n dX7_mayStart_17 rfl 0 rfl ?_
    obtain ⟨v5, e, h⟩ := bind_some h
    refine gt_X7_42 e dX7_mayStart_18 ?_
    refine v_iconst (v := 0) dX7_mayStart_21 ci_0 ?_
    obtain ⟨v6, e, h⟩ := bind_some h
    refine v_iaload dX7_mayStart_22 e ?_
    refine v_icmp_ge (tgt := 30) dX7_mayStart_23 (by decide) (fun c7 => ?_) (fun c7 => ?_)
    · replace h := ifP c7 h
      refine v_iconst (v := 0) dX7_mayStart_30 ci_0 ?_
      obtain ⟨hz, rfl, rfl⟩ := okZ_some h
      exact v_zreturn dX7_mayStart_31 hz
    · replace h := ifN c7 h
      refine v_iconst (v := 1) dX7_mayStart_26 ci_1 ?_
      refine v_goto (tgt := 31) dX7_mayStart_27 (by decide) ?_
      obtain ⟨hz, rfl, rfl⟩ := okZ_some h
      exact v_zreturn dX7_mayStart_31 hz
theorem kd_X7_mayStart {l0 : Nat} {l1 : Nat} {M : Mem} {z : _} (h : f_X7_mayStart l0 l1 M = some z) : (mK M l0).1 = 7 := by
  unfold f_X7_mayStart at h
  exact (ifS h).1
theorem k_X7_mayStart {G : Gl} {l0 : Nat} {l1 : Nat} {M MF : Mem} {r : Int32} (h : f_X7_mayStart l0 l1 M = some (r, MF)) : CtrP G yX7_mayStart cX7_mayStart 2 (some .boolean) 0 0 [.ref l0, .ref l1] M (cvI r) MF :=
  ctr_of (by decide +kernel) (Nat.le_of_ble_eq_true rfl) (fun ρ => w_X7_mayStart l0 l1 M h)
theorem wd_X7_251 : wdV RX7 251 RX7 yX7_mayStart cX7_mayStart 2 (some .boolean) 1 := ⟨gwi 795 (by decide +kernel) (by decide +kernel), gwi 797 (by decide +kernel) (by decide +kernel), gwi 11 (by decide +kernel) (by decide +kernel), nw_X7, gwi 798 (by decide +kernel) (by decide +kernel), ⟨rfl, by decide +kernel, by decide +kernel, by decide +kernel⟩⟩
theorem ca_X7_251 {G : Gl} {B : Bx} {cc : ByteArray} {ret : Option FieldType} {fr lo nL : Nat} {mn : String} {hh : List (Nat × Nat × Nat × Nat)} {pc : Nat} {ls : List (Nat × Value)} {st : List Value} {M M1 : Mem} {l0 : Nat} {l1 : Nat} {x : Int32} (e : f_X7_mayStart l0 l1 M = some (x, M1)) (hd : decode cc pc = .ok (.invokevirtual 251, 3)) (hcat : (st.map fun v => v.category).sum ≤ 8) (hR : 0 + 1 ≤ fr ∧ 8 + (2 + 11) + 0 ≤ lo) (k : V G (RX7, cc, ret, fr, lo, nL, mn, hh) B (pc + 3) ls (.int x :: st) M1) : V G (RX7, cc, ret, fr, lo, nL, mn, hh) B pc ls (.ref l1 :: .ref l0 :: st) M := v_callVi (As := [.ref l1]) (k_X7_mayStart e) wd_X7_251 clX7 (kd_X7_mayStart e) hd rfl rfl hcat hR k
set_option maxHeartbeats 4000000 in
set_option maxRecDepth 100000 in
theorem w_X7_startFlight_J27 {G : Gl} {ρ0 : Nat → Nat} {M0 MF : Mem} {r : Unit} (l0 : Nat) (l1 : Nat) (l2 : Nat) (l3 : Nat) (s0 : Int32) (s1 : Nat) (M : Mem) (h : f_X7_startFlight_J27 l0 l1 l2 l3 s0 s1 M = some MF) : V G (RX7, cX7_startFlight, none, 2, 45, 4, "startFlight", []) (ρ0, M0, cvV r, MF) 27 [(0, .ref l0), (1, .ref l1), (2, .ref l2), (3, .ref l3)] [.int s0, .ref s1] M := by
  unfold f_X7_startFlight_J27 at h
  obtain ⟨M1, e, h⟩ := bind_some h
  refine pt_X7_274 e dX7_startFlight_27 ?_
  refine v_aload_n dX7_startFlight_30 rfl 0 rfl ?_
  refine v_aload_n dX7_startFlight_31 rfl 1 rfl ?_
  refine v_aload_n dX7_startFlight_32 rfl 2 rfl ?_
  refine v_iconst (v := 0) dX7_startFlight_33 ci_0 ?_
  obtain ⟨M2, e, h⟩ := bind_some h
  refine ca_X7_244 e dX7_startFlight_34 (Nat.le_of_ble_eq_true rfl) (by decide) ?_
  refine v_aload_n dX7_startFlight_37 rfl 3 rfl ?_
  obtain ⟨v3, e, h⟩ := bind_some h
  refine gt_X7_138 e dX7_startFlight_38 ?_
  refine v_aload_n dX7_startFlight_41 rfl 2 rfl ?_
  obtain ⟨M4, e, h⟩ := bind_some h
  refine ca_X7_265 e dX7_startFlight_42 (Nat.le_of_ble_eq_true rfl) (by decide) ?_
  refine v_aload_n dX7_startFlight_45 rfl 3 rfl ?_
  obtain ⟨M5, e, h⟩ := bind_some h
  refine ca_X7_277 e dX7_startFlight_46 (Nat.le_of_ble_eq_true rfl) (by decide) ?_
  cases h
  exact v_vreturn dX7_startFlight_49
set_option maxHeartbeats 4000000 in
set_option maxRecDepth 100000 in
theorem w_X7_startFlight {G : Gl} {ρ0 : Nat → Nat} {M0 MF : Mem} {r : Unit} (l0 : Nat) (l1 : Nat) (l2 : Nat) (M : Mem) (h : f_X7_startFlight l0 l1 l2 M = some MF) : V G (RX7, cX7_startFlight, none, 2, 45, 4, "startFlight", []) (ρ0, M0, cvV r, MF) 0 [(0, .ref l0), (1, .ref l1), (2, .ref l2)] [] M := by
  unfold f_X7_startFlight at h
  replace h := (ifS h).2
  refine v_aload_n dX7_startFlight_0 rfl 1 rfl ?_
  obtain ⟨v1, e, h⟩ := bind_some h
  refine gt_X7_95 e dX7_startFlight_1 ?_
  refine v_astore_n (ls' := [(3, .ref v1), (0, .ref l0), (1, .ref l1), (2, .ref l2)]) dX7_startFlight_4 rfl (by decide) rfl ?_
  refine v_aload_n dX7_startFlight_5 rfl 3 rfl ?_
  refine v_aload_n dX7_startFlight_6 rfl 0 rfl ?_
  obtain ⟨v2, e, h⟩ := bind_some h
  refine gt_X7_268 e dX7_startFlight_7 ?_
  obtain ⟨M3, e, h⟩ := bind_some h
  refine pt_X7_271 e dX7_startFlight_10 ?_
  refine v_aload_n dX7_startFlight_13 rfl 3 rfl ?_
  refine v_aload_n dX7_startFlight_14 rfl 3 rfl ?_
  obtain ⟨v4, e, h⟩ := bind_some h
  refine gt_X7_207 e dX7_startFlight_15 ?_
  refine v_iconst (v := 1) dX7_startFlight_18 ci_1 ?_
  refine v_icmp_ne (tgt := 26) dX7_startFlight_19 (by decide) (fun c5 => ?_) (fun c5 => ?_)
  · replace h := ifN c5 h
    refine v_iconst (v := 2) dX7_startFlight_26 ci_2 ?_
    refine v_sub [1, 2, 3, 0] rfl ?_
    exact w_X7_startFlight_J27 l0 l1 l2 v1 (2 : Int32) l2 M3 h
  · replace h := ifP c5 h
    refine v_iconst (v := 1) dX7_startFlight_22 ci_1 ?_
    refine v_goto (tgt := 27) dX7_startFlight_23 (by decide) ?_
    refine v_sub [1, 2, 3, 0] rfl ?_
    exact w_X7_startFlight_J27 l0 l1 l2 v1 (1 : Int32) l2 M3 h
theorem kd_X7_startFlight {l0 : Nat} {l1 : Nat} {l2 : Nat} {M : Mem} {z : _} (h : f_X7_startFlight l0 l1 l2 M = some z) : (mK M l0).1 = 7 := by
  unfold f_X7_startFlight at h
  exact (ifS h).1
theorem k_X7_startFlight {G : Gl} {l0 : Nat} {l1 : Nat} {l2 : Nat} {M MF : Mem} (h : f_X7_startFlight l0 l1 l2 M = some MF) : CtrP G yX7_startFlight cX7_startFlight 4 none 2 45 [.ref l0, .ref l1, .ref l2] M (cvV ()) MF :=
  ctr_of (by decide +kernel) (Nat.le_of_ble_eq_true rfl) (fun ρ => w_X7_startFlight (r := ()) l0 l1 l2 M h)
theorem wd_X7_255 : wdV RX7 255 RX7 yX7_startFlight cX7_startFlight 4 none 2 := ⟨gwi 799 (by decide +kernel) (by decide +kernel), gwi 801 (by decide +kernel) (by decide +kernel), gwi 12 (by decide +kernel) (by decide +kernel), nw_X7, gwi 802 (by decide +kernel) (by decide +kernel), ⟨rfl, by decide +kernel, by decide +kernel, by decide +kernel⟩⟩
theorem ca_X7_255 {G : Gl} {B : Bx} {cc : ByteArray} {ret : Option FieldType} {fr lo nL : Nat} {mn : String} {hh : List (Nat × Nat × Nat × Nat)} {pc : Nat} {ls : List (Nat × Value)} {st : List Value} {M M1 : Mem} {l0 : Nat} {l1 : Nat} {l2 : Nat} (e : f_X7_startFlight l0 l1 l2 M = some M1) (hd : decode cc pc = .ok (.invokevirtual 255, 3)) (hcat : (st.map fun v => v.category).sum ≤ 8) (hR : 2 + 1 ≤ fr ∧ 8 + (4 + 11) + 45 ≤ lo) (k : V G (RX7, cc, ret, fr, lo, nL, mn, hh) B (pc + 3) ls (st) M1) : V G (RX7, cc, ret, fr, lo, nL, mn, hh) B pc ls (.ref l2 :: .ref l1 :: .ref l0 :: st) M := v_callV0 (As := [.ref l1, .ref l2]) (k_X7_startFlight e) wd_X7_255 clX7 (kd_X7_startFlight e) hd rfl rfl hcat hR k
