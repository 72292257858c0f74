set_option maxHeartbeats 4000000 in
set_option maxRecDepth 100000 in
theorem w_X5_clear_L22 {G : Gl} {ρ0 : Nat → Nat} {M0 MF : Mem} {r : Unit} : ∀ (n : Nat) (l0 : Nat) (l1 : Int32) (M : Mem), f_X5_clear_L22 n l0 l1 M = some MF → V G (RX5, cX5_clear, none, 0, 0, 2, "clear", []) (ρ0, M0, cvV r, MF) 22 [(0, .ref l0), (1, .int l1)] [] M := by
  intro n
  induction n with
  | zero => intro l0 l1 M h; cases h
  | succ n ih =>
    intro l0 l1 M h
    rw [f_X5_clear_L22] at h
    refine v_iload_n dX5_clear_22 rfl 1 rfl ?_
    refine v_aload_n dX5_clear_23 rfl 0 rfl ?_
    obtain ⟨v1, e, h⟩ := bind_some h
    refine gt_X5_9 e dX5_clear_24 ?_
    obtain ⟨v2, e, h⟩ := bind_some h
    refine v_alen dX5_clear_27 e ?_
    refine v_icmp_ge (tgt := 44) dX5_clear_28 (by decide) (fun c9 => ?_) (fun c9 => ?_)
    · replace h := ifP c9 h
      refine v_aload_n dX5_clear_44 rfl 0 rfl ?_
      refine v_iconst (v := 0) dX5_clear_45 ci_0 ?_
      obtain ⟨M3, e, h⟩ := bind_some h
      refine pt_X5_53 e dX5_clear_46 ?_
      refine v_aload_n dX5_clear_49 rfl 0 rfl ?_
      refine v_iconst (v := 0) dX5_clear_50 ci_0 ?_
      obtain ⟨M4, e, h⟩ := bind_some h
      refine pt_X5_56 e dX5_clear_51 ?_
      refine v_aload_n dX5_clear_54 rfl 0 rfl ?_
      obtain ⟨v5, e, h⟩ := bind_some h
      refine gt_X5_29 e dX5_clear_55 ?_
      refine v_iconst (v := 0) dX5_clear_58 ci_0 ?_
      obtain ⟨M6, e, h⟩ := bind_some h
      refine pt_X5_59 e dX5_clear_59 ?_
      refine v_aload_n dX5_clear_62 rfl 0 rfl ?_
      obtain ⟨v7, e, h⟩ := bind_some h
      refine gt_X5_33 e dX5_clear_63 ?_
      refine v_iconst (v := 0) dX5_clear_66 ci_0 ?_
      obtain ⟨M8, e, h⟩ := bind_some h
      refine pt_X5_59 e dX5_clear_67 ?_
      cases h
      exact v_vreturn dX5_clear_70
    · replace h := ifN c9 h
      refine v_aload_n dX5_clear_31 rfl 0 rfl ?_
      obtain ⟨v3, e, h⟩ := bind_some h
      refine gt_X5_9 e dX5_clear_32 ?_
      refine v_iload_n dX5_clear_35 rfl 1 rfl ?_
      refine v_iconst (v := 0) dX5_clear_36 ci_0 ?_
      obtain ⟨M4, e, h⟩ := bind_some h
      refine v_zastore dX5_clear_37 e ?_
      refine v_iinc (ls' := [(1, .int (l1 + 1)), (0, .ref l0)]) dX5_clear_38 1 rfl (v := 1) ci_1 (by decide) rfl ?_
      refine v_goto (tgt := 22) dX5_clear_41 (by decide) ?_
      refine v_sub [1, 0] rfl ?_
      exact ih l0 (l1 + 1) M4 h
set_option maxHeartbeats 4000000 in
set_option maxRecDepth 100000 in
theorem w_X5_clear {G : Gl} {ρ0 : Nat → Nat} {M0 MF : Mem} {r : Unit} (l0 : Nat) (M : Mem) (h : f_X5_clear l0 M = some MF) : V G (RX5, cX5_clear, none, 0, 0, 2, "clear", []) (ρ0, M0, cvV r, MF) 0 [(0, .ref l0)] [] M := by
  unfold f_X5_clear at h
  replace h := (ifS h).2
  refine v_aload_n dX5_clear_0 rfl 0 rfl ?_
  refine v_iconst (v := 0) dX5_clear_1 ci_0 ?_
  obtain ⟨M1, e, h⟩ := bind_some h
  refine pt_X5_39 e dX5_clear_2 ?_
  refine v_aload_n dX5_clear_5 rfl 0 rfl ?_
  refine v_iconst (v := 0) dX5_clear_6 ci_0 ?_
  obtain ⟨M2, e, h⟩ := bind_some h
  refine pt_X5_43 e dX5_clear_7 ?_
  refine v_aload_n dX5_clear_10 rfl 0 rfl ?_
  refine v_iconst (v := 0) dX5_clear_11 ci_0 ?_
  obtain ⟨M3, e, h⟩ := bind_some h
  refine pt_X5_46 e dX5_clear_12 ?_
  refine v_aload_n dX5_clear_15 rfl 0 rfl ?_
  refine v_iconst (v := 1) dX5_clear_16 ci_1 ?_
  obtain ⟨M4, e, h⟩ := bind_some h
  refine pt_X5_50 e dX5_clear_17 ?_
  refine v_iconst (v := 0) dX5_clear_20 ci_0 ?_
  refine v_istore_n (ls' := [(1, .int (0 : Int32)), (0, .ref l0)]) dX5_clear_21 rfl (by decide) rfl ?_
  refine v_sub [1, 0] rfl ?_
  exact w_X5_clear_L22 FU l0 (0 : Int32) M4 h
theorem kd_X5_clear {l0 : Nat} {M : Mem} {z : _} (h : f_X5_clear l0 M = some z) : (mK M l0).1 = 5 := by
  unfold f_X5_clear at h
  exact (ifS h).1
theorem k_X5_clear {G : Gl} {l0 : Nat} {M MF : Mem} (h : f_X5_clear l0 M = some MF) : CtrP G yX5_clear cX5_clear 2 none 0 0 [.ref l0] M (cvV ()) MF :=
  ctr_of (by decide +kernel) (Nat.le_of_ble_eq_true rfl) (fun ρ => w_X5_clear (r := ()) l0 M h)
theorem wd_X5_36 : wdV RX5 36 RX5 yX5_clear cX5_clear 2 none 0 := ⟨gwi 785 (by decide +kernel) (by decide +kernel), gwi 647 (by decide +kernel) (by decide +kernel), gwi 648 (by decide +kernel) (by decide +kernel), nw_X5, gwi 649 (by decide +kernel) (by decide +kernel), ⟨rfl, by decide +kernel, by decide +kernel, by decide +kernel⟩⟩
theorem ca_X5_36 {G : Gl} {B : Bx} {cc : ByteArray} {ret : Option FieldType} {fr lo nL : Nat} {mn : String} {hh : List (Nat × Nat × Nat × Nat)} {pc : Nat} {ls : List (Nat × Value)} {st : List Value} {M M1 : Mem} {l0 : Nat} (e : f_X5_clear l0 M = some M1) (hd : decode cc pc = .ok (.invokevirtual 36, 3)) (hcat : (st.map fun v => v.category).sum ≤ 8) (hR : 0 + 1 ≤ fr ∧ 8 + (2 + 11) + 0 ≤ lo) (k : V G (RX5, cc, ret, fr, lo, nL, mn, hh) B (pc + 3) ls (st) M1) : V G (RX5, cc, ret, fr, lo, nL, mn, hh) B pc ls (.ref l0 :: st) M := v_callV0 (As := []) (k_X5_clear e) wd_X5_36 clX5 (kd_X5_clear e) hd rfl rfl hcat hR k
theorem wd_X7_127 : wdV RX7 127 RX5 yX5_clear cX5_clear 2 none 0 := ⟨gwi 646 (by decide +kernel) (by decide +kernel), gwi 647 (by decide +kernel) (by decide +kernel), gwi 648 (by decide +kernel) (by decide +kernel), nw_X5, gwi 649 (by decide +kernel) (by decide +kernel), ⟨rfl, by decide +kernel, by decide +kernel, by decide +kernel⟩⟩
theorem ca_X7_127 {G : Gl} {B : Bx} {cc : ByteArray} {ret : Option FieldType} {fr lo nL : Nat} {mn : String} {hh : List (Nat × Nat × Nat × Nat)} {pc : Nat} {ls : List (Nat × Value)} {st : List Value} {M M1 : Mem} {l0 : Nat} (e : f_X5_clear l0 M = some M1) (hd : decode cc pc = .ok (.invokevirtual 127, 3)) (hcat : (st.map fun v => v.category).sum ≤ 8) (hR : 0 + 1 ≤ fr ∧ 8 + (2 + 11) + 0 ≤ lo) (k : V G (RX7, cc, ret, fr, lo, nL, mn, hh) B (pc + 3) ls (st) M1) : V G (RX7, cc, ret, fr, lo, nL, mn, hh) B pc ls (.ref l0 :: st) M := v_callV0 (As := []) (k_X5_clear e) wd_X7_127 clX5 (kd_X5_clear e) hd rfl rfl hcat hR k
set_option maxHeartbeats 4000000 in
set_option maxRecDepth 100000 in
theorem w_X5_begin {G : Gl} {ρ0 : Nat → Nat} {M0 MF : Mem} {r : Unit} (l0 : Nat) (l1 : Int32) (M : Mem) (h : f_X5_begin l0 l1 M = some MF) : V G (RX5, cX5_begin, none, 1, 21, 2, "begin", []) (ρ0, M0, cvV r, MF) 0 [(0, .ref l0), (1, .int l1)] [] M := by
  unfold f_X5_begin at h
  replace h := (ifS h).2
  refine v_aload_n dX5_begin_0 rfl 0 rfl ?_
  obtain ⟨M1, e, h⟩ := bind_some h
  refine ca_X5_36 e dX5_begin_1 (Nat.le_of_ble_eq_true rfl) (by decide) ?_
  refine v_aload_n dX5_begin_4 rfl 0 rfl ?_
  refine v_iconst (v := 1) dX5_begin_5 ci_1 ?_
  obtain ⟨M2, e, h⟩ := bind_some h
  refine pt_X5_39 e dX5_begin_6 ?_
  refine v_aload_n dX5_begin_9 rfl 0 rfl ?_
  refine v_iload_n dX5_begin_10 rfl 1 rfl ?_
  obtain ⟨M3, e, h⟩ := bind_some h
  refine pt_X5_43 e dX5_begin_11 ?_
  cases h
  exact v_vreturn dX5_begin_14
theorem kd_X5_begin {l0 : Nat} {l1 : Int32} {M : Mem} {z : _} (h : f_X5_begin l0 l1 M = some z) : (mK M l0).1 = 5 := by
  unfold f_X5_begin at h
  exact (ifS h).1
theorem k_X5_begin {G : Gl} {l0 : Nat} {l1 : Int32} {M MF : Mem} (h : f_X5_begin l0 l1 M = some MF) : CtrP G yX5_begin cX5_begin 2 none 1 21 [.ref l0, .int l1] M (cvV ()) MF :=
  ctr_of (by decide +kernel) (Nat.le_of_ble_eq_true rfl) (fun ρ => w_X5_begin (r := ()) l0 l1 M h)
theorem wd_X11_106 : wdV RX11 106 RX5 yX5_begin cX5_begin 2 none 1 := ⟨gwi 781 (by decide +kernel) (by decide +kernel), gwi 782 (by decide +kernel) (by decide +kernel), gwi 783 (by decide +kernel) (by decide +kernel), nw_X5, gwi 784 (by decide +kernel) (by decide +kernel), ⟨rfl, by decide +kernel, by decide +kernel, by decide +kernel⟩⟩
theorem ca_X11_106 {G : Gl} {B : Bx} {cc : ByteArray} {ret : Option FieldType} {fr lo nL : Nat} {mn : String} {hh : List (Nat × Nat × Nat × Nat)} {pc : Nat} {ls : List (Nat × Value)} {st : List Value} {M M1 : Mem} {l0 : Nat} {l1 : Int32} (e : f_X5_begin l0 l1 M = some M1) (hd : decode cc pc = .ok (.invokevirtual 106, 3)) (hcat : (st.map fun v => v.category).sum ≤ 8) (hR : 1 + 1 ≤ fr ∧ 8 + (2 + 11) + 21 ≤ lo) (k : V G (RX11, cc, ret, fr, lo, nL, mn, hh) B (pc + 3) ls (st) M1) : V G (RX11, cc, ret, fr, lo, nL, mn, hh) B pc ls (.int l1 :: .ref l0 :: st) M := v_callV0 (As := [.int l1]) (k_X5_begin e) wd_X11_106 clX5 (kd_X5_begin e) hd rfl rfl hcat hR k
set_option maxHeartbeats 4000000 in
set_option maxRecDepth 100000 in
theorem w_X5_keeps {G : Gl} {ρ0 : Nat → Nat} {M0 MF : Mem} {r : Int32} (l0 : Nat) (l1 : Int32) (M : Mem) (h : f_X5_keeps l0 l1 M = some (r, MF)) : V G (RX5, cX5_keeps, (some .boolean), 0, 0, 2, "keeps", []) (ρ0, M0, cvI r, MF) 0 [(0, .ref l0), (1, .int l1)] [] M := by
  unfold f_X5_keeps at h
  replace h := (ifS h).2
  refine v_iload_n dX5_keeps_0 rfl 1 rfl ?_
  refine v_if_lt (tgt := 26) dX5_keeps_1 (by decide) (fun c7 => ?_) (fun c7 => ?_)
  · replace h := ifP c7 h
    refine v_iconst (v := 0) dX5_keeps_26 ci_0 ?_
    obtain ⟨hz, rfl, rfl⟩ := okZ_some h
    exact v_zreturn dX5_keeps_27 hz
  · replace h := ifN c7 h
    refine v_iload_n dX5_keeps_4 rfl 1 rfl ?_
    refine v_aload_n dX5_keeps_5 rfl 0 rfl ?_
    obtain ⟨v1, e, h⟩ := bind_some h
    refine gt_X5_9 e dX5_keeps_6 ?_
    obtain ⟨v2, e, h⟩ := bind_some h
    refine v_alen dX5_keeps_9 e ?_
    refine v_icmp_ge (tgt := 26) dX5_keeps_10 (by decide) (fun c6 => ?_) (fun c6 => ?_)
    · replace h := ifP c6 h
      refine v_iconst (v := 0) dX5_keeps_26 ci_0 ?_
      obtain ⟨hz, rfl, rfl⟩ := okZ_some h
      exact v_zreturn dX5_keeps_27 hz
    · replace h := ifN c6 h
      refine v_aload_n dX5_keeps_13 rfl 0 rfl ?_
      obtain ⟨v3, e, h⟩ := bind_some h
      refine gt_X5_9 e dX5_keeps_14 ?_
      refine v_iload_n dX5_keeps_17 rfl 1 rfl ?_
      obtain ⟨v4, e, h⟩ := bind_some h
      refine v_zaload dX5_keeps_18 e ?_
      refine v_if_eq (tgt := 26) dX5_keeps_19 (by decide) (fun c5 => ?_) (fun c5 => ?_)
      · replace h := ifP c5 h
        refine v_iconst (v := 0) dX5_keeps_26 ci_0 ?_
        obtain ⟨hz, rfl, rfl⟩ := okZ_some h
        exact v_zreturn dX5_keeps_27 hz
      · replace h := ifN c5 h
        refine v_iconst (v := 1) dX5_keeps_22 ci_1 ?_
        refine v_goto (tgt := 27) dX5_keeps_23 (by decide) ?_
        obtain ⟨hz, rfl, rfl⟩ := okZ_some h
        exact v_zreturn dX5_keeps_27 hz
theorem kd_X5_keeps {l0 : Nat} {l1 : Int32} {M : Mem} {z : _} (h : f_X5_keeps l0 l1 M = some z) : (mK M l0).1 = 5 := by
  unfold f_X5_keeps at h
  exact (ifS h).1
theorem k_X5_keeps {G : Gl} {l0 : Nat} {l1 : Int32} {M MF : Mem} {r : Int32} (h : f_X5_keeps l0 l1 M = some (r, MF)) : CtrP G yX5_keeps cX5_keeps 2 (some .boolean) 0 0 [.ref l0, .int l1] M (cvI r) MF :=
  ctr_of (by decide +kernel) (Nat.le_of_ble_eq_true rfl) (fun ρ => w_X5_keeps l0 l1 M h)
theorem wd_X11_216 : wdV RX11 216 RX5 yX5_keeps cX5_keeps 2 (some .boolean) 1 := ⟨gwi 1032 (by decide +kernel) (by decide +kernel), gwi 1033 (by decide +kernel) (by decide +kernel), gwi 1034 (by decide +kernel) (by decide +kernel), nw_X5, gwi 1035 (by decide +kernel) (by decide +kernel), ⟨rfl, by decide +kernel, by decide +kernel, by decide +kernel⟩⟩
theorem ca_X11_216 {G : Gl} {B : Bx} {cc : ByteArray} {ret : Option FieldType} {fr lo nL : Nat} {mn : String} {hh : List (Nat × Nat × Nat × Nat)} {pc : Nat} {ls : List (Nat × Value)} {st : List Value} {M M1 : Mem} {l0 : Nat} {l1 : Int32} {x : Int32} (e : f_X5_keeps l0 l1 M = some (x, M1)) (hd : decode cc pc = .ok (.invokevirtual 216, 3)) (hcat : (st.map fun v => v.category).sum ≤ 8) (hR : 0 + 1 ≤ fr ∧ 8 + (2 + 11) + 0 ≤ lo) (k : V G (RX11, cc, ret, fr, lo, nL, mn, hh) B (pc + 3) ls (.int x :: st) M1) : V G (RX11, cc, ret, fr, lo, nL, mn, hh) B pc ls (.int l1 :: .ref l0 :: st) M := v_callVi (As := [.int l1]) (k_X5_keeps e) wd_X11_216 clX5 (kd_X5_keeps e) hd rfl rfl hcat hR k
theorem wd_X5_62 : wdV RX5 62 RX5 yX5_keeps cX5_keeps 2 (some .boolean) 1 := ⟨gwi 1053 (by decide +kernel) (by decide +kernel), gwi 1033 (by decide +kernel) (by decide +kernel), gwi 1034 (by decide +kernel) (by decide +kernel), nw_X5, gwi 1035 (by decide +kernel) (by decide +kernel), ⟨rfl, by decide +kernel, by decide +kernel, by decide +kernel⟩⟩
theorem ca_X5_62 {G : Gl} {B : Bx} {cc : ByteArray} {ret : Option FieldType} {fr lo nL : Nat} {mn : String} {hh : List (Nat × Nat × Nat × Nat)} {pc : Nat} {ls : List (Nat × Value)} {st : List Value} {M M1 : Mem} {l0 : Nat} {l1 : Int32} {x : Int32} (e : f_X5_keeps l0 l1 M = some (x, M1)) (hd : decode cc pc = .ok (.invokevirtual 62, 3)) (hcat : (st.map fun v => v.category).sum ≤ 8) (hR : 0 + 1 ≤ fr ∧ 8 + (2 + 11) + 0 ≤ lo) (k : V G (RX5, cc, ret, fr, lo, nL, mn, hh) B (pc + 3) ls (.int x :: st) M1) : V G (RX5, cc, ret, fr, lo, nL, mn, hh) B pc ls (.int l1 :: .ref l0 :: st) M := v_callVi (As := [.int l1]) (k_X5_keeps e) wd_X5_62 clX5 (kd_X5_keeps e) hd rfl rfl hcat hR k
set_option maxHeartbeats 4000000 in
set_option maxRecDepth 100000 in
theorem w_X5_keep {G : Gl} {ρ0 : Nat → Nat} {M0 MF : Mem} {r : Unit} (l0 : Nat) (l1 : Int32) (M : Mem) (h : f_X5_keep l0 l1 M = some MF) : V G (RX5, cX5_keep, none, 0, 0, 2, "keep", []) (ρ0, M0, cvV r, MF) 0 [(0, .ref l0), (1, .int l1)] [] M := by
  unfold f_X5_keep at h
  replace h := (ifS h).2
  refine v_iload_n dX5_keep_0 rfl 1 rfl ?_
  refine v_if_lt (tgt := 39) dX5_keep_1 (by decide) (fun c11 => ?_) (fun c11 => ?_)
  · replace h := ifP c11 h
    cases h
    exact v_vreturn dX5_keep_39
  · replace h := ifN c11 h
    refine v_iload_n dX5_keep_4 rfl 1 rfl ?_
    refine v_aload_n dX5_keep_5 rfl 0 rfl ?_
    obtain ⟨v1, e, h⟩ := bind_some h
    refine gt_X5_9 e dX5_keep_6 ?_
    obtain ⟨v2, e, h⟩ := bind_some h
    refine v_alen dX5_keep_9 e ?_
    refine v_icmp_ge (tgt := 39) dX5_keep_10 (by decide) (fun c10 => ?_) (fun c10 => ?_)
    · replace h := ifP c10 h
      cases h
      exact v_vreturn dX5_keep_39
    · replace h := ifN c10 h
      refine v_aload_n dX5_keep_13 rfl 0 rfl ?_
      obtain ⟨v3, e, h⟩ := bind_some h
      refine gt_X5_9 e dX5_keep_14 ?_
      refine v_iload_n dX5_keep_17 rfl 1 rfl ?_
      obtain ⟨v4, e, h⟩ := bind_some h
      refine v_zaload dX5_keep_18 e ?_
      refine v_if_ne (tgt := 39) dX5_keep_19 (by decide) (fun c9 => ?_) (fun c9 => ?_)
      · replace h := ifN c9 h
        cases h
        exact v_vreturn dX5_keep_39
      · replace h := ifP c9 h
        refine v_aload_n dX5_keep_22 rfl 0 rfl ?_
        obtain ⟨v5, e, h⟩ := bind_some h
        refine gt_X5_9 e dX5_keep_23 ?_
        refine v_iload_n dX5_keep_26 rfl 1 rfl ?_
        refine v_iconst (v := 1) dX5_keep_27 ci_1 ?_
        obtain ⟨M6, e, h⟩ := bind_some h
        refine v_zastore dX5_keep_28 e ?_
        refine v_aload_n dX5_keep_29 rfl 0 rfl ?_
        refine v_dup dX5_keep_30 rfl ?_
        obtain ⟨v7, e, h⟩ := bind_some h
        refine gt_X5_53 e dX5_keep_31 ?_
        refine v_iconst (v := 1) dX5_keep_34 ci_1 ?_
        refine v_iadd dX5_keep_35 ?_
        obtain ⟨M8, e, h⟩ := bind_some h
        refine pt_X5_53 e dX5_keep_36 ?_
        cases h
        exact v_vreturn dX5_keep_39
theorem kd_X5_keep {l0 : Nat} {l1 : Int32} {M : Mem} {z : _} (h : f_X5_keep l0 l1 M = some z) : (mK M l0).1 = 5 := by
  unfold f_X5_keep at h
  exact (ifS h).1
theorem k_X5_keep {G : Gl} {l0 : Nat} {l1 : Int32} {M MF : Mem} (h : f_X5_keep l0 l1 M = some MF) : CtrP G yX5_keep cX5_keep 2 none 0 0 [.ref l0, .int l1] M (cvV ()) MF :=
  ctr_of (by decide +kernel) (Nat.le_of_ble_eq_true rfl) (fun ρ => w_X5_keep (r := ()) l0 l1 M h)
theorem wd_X11_224 : wdV RX11 224 RX5 yX5_keep cX5_keep 2 none 1 := ⟨gwi 1037 (by decide +kernel) (by decide +kernel), gwi 1038 (by decide +kernel) (by decide +kernel), gwi 1039 (by decide +kernel) (by decide +kernel), nw_X5, gwi 1040 (by decide +kernel) (by decide +kernel), ⟨rfl, by decide +kernel, by decide +kernel, by decide +kernel⟩⟩
theorem ca_X11_224 {G : Gl} {B : Bx} {cc : ByteArray} {ret : Option FieldType} {fr lo nL : Nat} {mn : String} {hh : List (Nat × Nat × Nat × Nat)} {pc : Nat} {ls : List (Nat × Value)} {st : List Value} {M M1 : Mem} {l0 : Nat} {l1 : Int32} (e : f_X5_keep l0 l1 M = some M1) (hd : decode cc pc = .ok (.invokevirtual 224, 3)) (hcat : (st.map fun v => v.category).sum ≤ 8) (hR : 0 + 1 ≤ fr ∧ 8 + (2 + 11) + 0 ≤ lo) (k : V G (RX11, cc, ret, fr, lo, nL, mn, hh) B (pc + 3) ls (st) M1) : V G (RX11, cc, ret, fr, lo, nL, mn, hh) B pc ls (.int l1 :: .ref l0 :: st) M := v_callV0 (As := [.int l1]) (k_X5_keep e) wd_X11_224 clX5 (kd_X5_keep e) hd rfl rfl hcat hR k
set_option maxHeartbeats 4000000 in
set_option maxRecDepth 100000 in
theorem w_X5_forget {G : Gl} {ρ0 : Nat → Nat} {M0 MF : Mem} {r : Unit} (l0 : Nat) (l1 : Int32) (M : Mem) (h : f_X5_forget l0 l1 M = some MF) : V G (RX5, cX5_forget, none, 1, 21, 2, "forget", []) (ρ0, M0, cvV r, MF) 0 [(0, .ref l0), (1, .int l1)] [] M := by
  unfold f_X5_forget at h
  replace h := (ifS h).2
  refine v_aload_n dX5_forget_0 rfl 0 rfl ?_
  refine v_iload_n dX5_forget_1 rfl 1 rfl ?_
  obtain ⟨v2, M1, e, h⟩ := bindP_some h
  refine ca_X5_62 e dX5_forget_2 (Nat.le_of_ble_eq_true rfl) (by decide) ?_
  refine v_if_eq (tgt := 25) dX5_forget_5 (by decide) (fun c7 => ?_) (fun c7 => ?_)
  · replace h := ifP c7 h
    cases h
    exact v_vreturn dX5_forget_25
  · replace h := ifN c7 h
    refine v_aload_n dX5_forget_8 rfl 0 rfl ?_
    obtain ⟨v3, e, h⟩ := bind_some h
    refine gt_X5_9 e dX5_forget_9 ?_
    refine v_iload_n dX5_forget_12 rfl 1 rfl ?_
    refine v_iconst (v := 0) dX5_forget_13 ci_0 ?_
    obtain ⟨M4, e, h⟩ := bind_some h
    refine v_zastore dX5_forget_14 e ?_
    refine v_aload_n dX5_forget_15 rfl 0 rfl ?_
    refine v_dup dX5_forget_16 rfl ?_
    obtain ⟨v5, e, h⟩ := bind_some h
    refine gt_X5_53 e dX5_forget_17 ?_
    refine v_iconst (v := 1) dX5_forget_20 ci_1 ?_
    refine v_isub dX5_forget_21 ?_
    obtain ⟨M6, e, h⟩ := bind_some h
    refine pt_X5_53 e dX5_forget_22 ?_
    cases h
    exact v_vreturn dX5_forget_25
theorem kd_X5_forget {l0 : Nat} {l1 : Int32} {M : Mem} {z : _} (h : f_X5_forget l0 l1 M = some z) : (mK M l0).1 = 5 := by
  unfold f_X5_forget at h
  exact (ifS h).1
theorem k_X5_forget {G : Gl} {l0 : Nat} {l1 : Int32} {M MF : Mem} (h : f_X5_forget l0 l1 M = some MF) : CtrP G yX5_forget cX5_forget 2 none 1 21 [.ref l0, .int l1] M (cvV ()) MF :=
  ctr_of (by decide +kernel) (Nat.le_of_ble_eq_true rfl) (fun ρ => w_X5_forget (r := ()) l0 l1 M h)
theorem wd_X11_231 : wdV RX11 231 RX5 yX5_forget cX5_forget 2 none 1 := ⟨gwi 1049 (by decide +kernel) (by decide +kernel), gwi 1050 (by decide +kernel) (by decide +kernel), gwi 1051 (by decide +kernel) (by decide +kernel), nw_X5, gwi 1052 (by decide +kernel) (by decide +kernel), ⟨rfl, by decide +kernel, by decide +kernel, by decide +kernel⟩⟩
theorem ca_X11_231 {G : Gl} {B : Bx} {cc : ByteArray} {ret : Option FieldType} {fr lo nL : Nat} {mn : String} {hh : List (Nat × Nat × Nat × Nat)} {pc : Nat} {ls : List (Nat × Value)} {st : List Value} {M M1 : Mem} {l0 : Nat} {l1 : Int32} (e : f_X5_forget l0 l1 M = some M1) (hd : decode cc pc = .ok (.invokevirtual 231, 3)) (hcat : (st.map fun v => v.category).sum ≤ 8) (hR : 1 + 1 ≤ fr ∧ 8 + (2 + 11) + 21 ≤ lo) (k : V G (RX11, cc, ret, fr, lo, nL, mn, hh) B (pc + 3) ls (st) M1) : V G (RX11, cc, ret, fr, lo, nL, mn, hh) B pc ls (.int l1 :: .ref l0 :: st) M := v_callV0 (As := [.int l1]) (k_X5_forget e) wd_X11_231 clX5 (kd_X5_forget e) hd rfl rfl hcat hR k
set_option maxHeartbeats 4000000 in
set_option maxRecDepth 100000 in
theorem w_X10_sameAs_L2 {G : Gl} {ρ0 : Nat → Nat} {M0 MF : Mem} {r : Int32} : ∀ (n : Nat) (l0 : Nat) (l1 : Nat) (l2 : Int32) (M : Mem), f_X10_sameAs_L2 n l0 l1 l2 M = some (r, MF) → V G (RX10, cX10_sameAs, (some .boolean), 0, 0, 3, "sameAs", []) (ρ0, M0, cvI r, MF) 2 [(0, .ref l0), (1, .ref l1), (2, .int l2)] [] M := by
  intro n
  induction n with
  | zero => intro l0 l1 l2 M h; cases h
  | succ n ih =>
    intro l0 l1 l2 M h
    rw [f_X10_sameAs_L2] at h
    refine v_iload_n dX10_sameAs_2 rfl 2 rfl ?_
    refine v_iconst (v := 4) dX10_sameAs_3 ci_4 ?_
    refine v_icmp_ge (tgt := 31) dX10_sameAs_4 (by decide) (fun c6 => ?_) (fun c6 => ?_)
    · replace h := ifP c6 h
      refine v_iconst (v := 1) dX10_sameAs_31 ci_1 ?_
      obtain ⟨hz, rfl, rfl⟩ := okZ_some h
      exact v_zreturn dX10_sameAs_32 hz
    · replace h := ifN c6 h
      refine v_aload_n dX10_sameAs_7 rfl 0 rfl ?_
      obtain ⟨v1, e, h⟩ := bind_some h
      refine gt_X10_24 e dX10_sameAs_8 ?_
      refine v_iload_n dX10_sameAs_11 rfl 2 rfl ?_
      obtain ⟨v2, e, h⟩ := bind_some h
      refine v_laload dX10_sameAs_12 e ?_
      refine v_aload_n dX10_sameAs_13 rfl 1 rfl ?_
      obtain ⟨v3, e, h⟩ := bind_some h
      refine gt_X10_24 e dX10_sameAs_14 ?_
      refine v_iload_n dX10_sameAs_17 rfl 2 rfl ?_
      obtain ⟨v4, e, h⟩ := bind_some h
      refine v_laload dX10_sameAs_18 e ?_
      refine v_lcmp dX10_sameAs_19 ?_
      refine v_if_eq (tgt := 25) dX10_sameAs_20 (by decide) (fun c5 => ?_) (fun c5 => ?_)
      · replace h := ifP c5 h
        refine v_iinc (ls' := [(2, .int (l2 + 1)), (0, .ref l0), (1, .ref l1)]) dX10_sameAs_25 2 rfl (v := 1) ci_1 (by decide) rfl ?_
        refine v_goto (tgt := 2) dX10_sameAs_28 (by decide) ?_
        refine v_sub [1, 2, 0] rfl ?_
        exact ih l0 l1 (l2 + 1) M h
      · replace h := ifN c5 h
        refine v_iconst (v := 0) dX10_sameAs_23 ci_0 ?_
        obtain ⟨hz, rfl, rfl⟩ := okZ_some h
        exact v_zreturn dX10_sameAs_24 hz
set_option maxHeartbeats 4000000 in
set_option maxRecDepth 100000 in
theorem w_X10_sameAs {G : Gl} {ρ0 : Nat → Nat} {M0 MF : Mem} {r : Int32} (l0 : Nat) (l1 : Nat) (M : Mem) (h : f_X10_sameAs l0 l1 M = some (r, MF)) : V G (RX10, cX10_sameAs, (some .boolean), 0, 0, 3, "sameAs", []) (ρ0, M0, cvI r, MF) 0 [(0, .ref l0), (1, .ref l1)] [] M := by
  unfold f_X10_sameAs at h
  replace h := (ifS h).2
  refine v_iconst (v := 0) dX10_sameAs_0 ci_0 ?_
  refine v_istore_n (ls' := [(2, .int (0 : Int32)), (0, .ref l0), (1, .ref l1)]) dX10_sameAs_1 rfl (by decide) rfl ?_
  refine v_sub [1, 2, 0] rfl ?_
  exact w_X10_sameAs_L2 FU l0 l1 (0 : Int32) M h
theorem kd_X10_sameAs {l0 : Nat} {l1 : Nat} {M : Mem} {z : _} (h : f_X10_sameAs l0 l1 M = some z) : (mK M l0).1 = 10 := by
  unfold f_X10_sameAs at h
  exact (ifS h).1
theorem k_X10_sameAs {G : Gl} {l0 : Nat} {l1 : Nat} {M MF : Mem} {r : Int32} (h : f_X10_sameAs l0 l1 M = some (r, MF)) : CtrP G yX10_sameAs cX10_sameAs 3 (some .boolean) 0 0 [.ref l0, .ref l1] M (cvI r) MF :=
  ctr_of (by decide +kernel) (Nat.le_of_ble_eq_true rfl) (fun ρ => w_X10_sameAs l0 l1 M h)
theorem wd_X5_73 : wdV RX5 73 RX10 yX10_sameAs cX10_sameAs 3 (some .boolean) 1 := ⟨gwi 779 (by decide +kernel) (by decide +kernel), gwi 672 (by decide +kernel) (by decide +kernel), gwi 673 (by decide +kernel) (by decide +kernel), nw_X10, gwi 674 (by decide +kernel) (by decide +kernel), ⟨rfl, by decide +kernel, by decide +kernel, by decide +kernel⟩⟩
theorem ca_X5_73 {G : Gl} {B : Bx} {cc : ByteArray} {ret : Option FieldType} {fr lo nL : Nat} {mn : String} {hh : List (Nat × Nat × Nat × Nat)} {pc : Nat} {ls : List (Nat × Value)} {st : List Value} {M M1 : Mem} {l0 : Nat} {l1 : Nat} {x : Int32} (e : f_X10_sameAs l0 l1 M = some (x, M1)) (hd : decode cc pc = .ok (.invokevirtual 73, 3)) (hcat : (st.map fun v => v.category).sum ≤ 8) (hR : 0 + 1 ≤ fr ∧ 8 + (3 + 11) + 0 ≤ lo) (k : V G (RX5, cc, ret, fr, lo, nL, mn, hh) B (pc + 3) ls (.int x :: st) M1) : V G (RX5, cc, ret, fr, lo, nL, mn, hh) B pc ls (.ref l1 :: .ref l0 :: st) M := v_callVi (As := [.ref l1]) (k_X10_sameAs e) wd_X5_73 clX10 (kd_X10_sameAs e) hd rfl rfl hcat hR k
theorem wd_X7_183 : wdV RX7 183 RX10 yX10_sameAs cX10_sameAs 3 (some .boolean) 1 := ⟨gwi 683 (by decide +kernel) (by decide +kernel), gwi 672 (by decide +kernel) (by decide +kernel), gwi 673 (by decide +kernel) (by decide +kernel), nw_X10, gwi 674 (by decide +kernel) (by decide +kernel), ⟨rfl, by decide +kernel, by decide +kernel, by decide +kernel⟩⟩
theorem ca_X7_183 {G : Gl} {B : Bx} {cc : ByteArray} {ret : Option FieldType} {fr lo nL : Nat} {mn : String} {hh : List (Nat × Nat × Nat × Nat)} {pc : Nat} {ls : List (Nat × Value)} {st : List Value} {M M1 : Mem} {l0 : Nat} {l1 : Nat} {x : Int32} (e : f_X10_sameAs l0 l1 M = some (x, M1)) (hd : decode cc pc = .ok (.invokevirtual 183, 3)) (hcat : (st.map fun v => v.category).sum ≤ 8) (hR : 0 + 1 ≤ fr ∧ 8 + (3 + 11) + 0 ≤ lo) (k : V G (RX7, cc, ret, fr, lo, nL, mn, hh) B (pc + 3) ls (.int x :: st) M1) : V G (RX7, cc, ret, fr, lo, nL, mn, hh) B pc ls (.ref l1 :: .ref l0 :: st) M := v_callVi (As := [.ref l1]) (k_X10_sameAs e) wd_X7_183 clX10 (kd_X10_sameAs e) hd rfl rfl hcat hR k
theorem wd_X9_25 : wdV RX9 25 RX10 yX10_sameAs cX10_sameAs 3 (some .boolean) 1 := ⟨gwi 671 (by decide +kernel) (by decide +kernel), gwi 672 (by decide +kernel) (by decide +kernel), gwi 673 (by decide +kernel) (by decide +kernel), nw_X10, gwi 674 (by decide +kernel) (by decide +kernel), ⟨rfl, by decide +kernel, by decide +kernel, by decide +kernel⟩⟩
theorem ca_X9_25 {G : Gl} {B : Bx} {cc : ByteArray} {ret : Option FieldType} {fr lo nL : Nat} {mn : String} {hh : List (Nat × Nat × Nat × Nat)} {pc : Nat} {ls : List (Nat × Value)} {st : List Value} {M M1 : Mem} {l0 : Nat} {l1 : Nat} {x : Int32} (e : f_X10_sameAs l0 l1 M = some (x, M1)) (hd : decode cc pc = .ok (.invokevirtual 25, 3)) (hcat : (st.map fun v => v.category).sum ≤ 8) (hR : 0 + 1 ≤ fr ∧ 8 + (3 + 11) + 0 ≤ lo) (k : V G (RX9, cc, ret, fr, lo, nL, mn, hh) B (pc + 3) ls (.int x :: st) M1) : V G (RX9, cc, ret, fr, lo, nL, mn, hh) B pc ls (.ref l1 :: .ref l0 :: st) M := v_callVi (As := [.ref l1]) (k_X10_sameAs e) wd_X9_25 clX10 (kd_X10_sameAs e) hd rfl rfl hcat hR k
set_option maxHeartbeats 4000000 in
set_option maxRecDepth 100000 in
theorem w_X5_placeOf_L2 {G : Gl} {ρ0 : Nat → Nat} {M0 MF : Mem} {r : Int32} : ∀ (n : Nat) (l0 : Nat) (l1 : Nat) (l2 : Int32) (l3 : Int32) (M : Mem), f_X5_placeOf_L2 n l0 l1 l2 l3 M = some (r, MF) → V G (RX5, cX5_placeOf, (some .int), 1, 22, 4, "placeOf", []) (ρ0, M0, cvI r, MF) 2 [(0, .ref l0), (1, .ref l1), (2, .int l2), (3, .int l3)] [] M := by
  intro n
  induction n with
  | zero => intro l0 l1 l2 l3 M h; cases h
  | succ n ih =>
    intro l0 l1 l2 l3 M h
    rw [f_X5_placeOf_L2] at h
    refine v_iload_n dX5_placeOf_2 rfl 3 rfl ?_
    refine v_aload_n dX5_placeOf_3 rfl 0 rfl ?_
    obtain ⟨v1, e, h⟩ := bind_some h
    refine gt_X5_56 e dX5_placeOf_4 ?_
    refine v_icmp_ge (tgt := 53) dX5_placeOf_7 (by decide) (fun c13 => ?_) (fun c13 => ?_)
    · replace h := ifP c13 h
      refine v_iconst (v := (-1)) dX5_placeOf_53 ci_m1 ?_
      cases h
      exact v_ireturn dX5_placeOf_54
    · replace h := ifN c13 h
      refine v_iload_n dX5_placeOf_10 rfl 3 rfl ?_
      refine v_bipush (v := 6) dX5_placeOf_11 cb_6 ?_
      refine v_icmp_ge (tgt := 53) dX5_placeOf_13 (by decide) (fun c12 => ?_) (fun c12 => ?_)
      · replace h := ifP c12 h
        refine v_iconst (v := (-1)) dX5_placeOf_53 ci_m1 ?_
        cases h
        exact v_ireturn dX5_placeOf_54
      · replace h := ifN c12 h
        refine v_aload_n dX5_placeOf_16 rfl 0 rfl ?_
        obtain ⟨v2, e, h⟩ := bind_some h
        refine gt_X5_17 e dX5_placeOf_17 ?_
        refine v_iload_n dX5_placeOf_20 rfl 3 rfl ?_
        obtain ⟨v3, e, h⟩ := bind_some h
        refine al_8 e dX5_placeOf_21 ?_
        obtain ⟨v4, e, h⟩ := bind_some h
        refine gt_X5_66 e dX5_placeOf_22 ?_
        refine v_iload_n dX5_placeOf_25 rfl 2 rfl ?_
        refine v_icmp_ne (tgt := 47) dX5_placeOf_26 (by decide) (fun c11 => ?_) (fun c11 => ?_)
        · replace h := ifN c11 h
          refine v_iinc (ls' := [(3, .int (l3 + 1)), (0, .ref l0), (1, .ref l1), (2, .int l2)]) dX5_placeOf_47 3 rfl (v := 1) ci_1 (by decide) rfl ?_
          refine v_goto (tgt := 2) dX5_placeOf_50 (by decide) ?_
          refine v_sub [1, 2, 3, 0] rfl ?_
          exact ih l0 l1 l2 (l3 + 1) M h
        · replace h := ifP c11 h
          refine v_aload_n dX5_placeOf_29 rfl 0 rfl ?_
          obtain ⟨v5, e, h⟩ := bind_some h
          refine gt_X5_17 e dX5_placeOf_30 ?_
          refine v_iload_n dX5_placeOf_33 rfl 3 rfl ?_
          obtain ⟨v6, e, h⟩ := bind_some h
          refine al_8 e dX5_placeOf_34 ?_
          obtain ⟨v7, e, h⟩ := bind_some h
          refine gt_X5_69 e dX5_placeOf_35 ?_
          refine v_aload_n dX5_placeOf_38 rfl 1 rfl ?_
          obtain ⟨v9, M8, e, h⟩ := bindP_some h
          refine ca_X5_73 e dX5_placeOf_39 (Nat.le_of_ble_eq_true rfl) (by decide) ?_
          refine v_if_eq (tgt := 47) dX5_placeOf_42 (by decide) (fun c10 => ?_) (fun c10 => ?_)
          · replace h := ifP c10 h
            refine v_iinc (ls' := [(3, .int (l3 + 1)), (0, .ref l0), (1, .ref l1), (2, .int l2)]) dX5_placeOf_47 3 rfl (v := 1) ci_1 (by decide) rfl ?_
            refine v_goto (tgt := 2) dX5_placeOf_50 (by decide) ?_
            refine v_sub [1, 2, 3, 0] rfl ?_
            exact ih l0 l1 l2 (l3 + 1) M8 h
          · replace h := ifN c10 h
            refine v_iload_n dX5_placeOf_45 rfl 3 rfl ?_
            cases h
            exact v_ireturn dX5_placeOf_46
set_option maxHeartbeats 4000000 in
set_option maxRecDepth 100000 in
theorem w_X5_placeOf {G : Gl} {ρ0 : Nat → Nat} {M0 MF : Mem} {r : Int32} (l0 : Nat) (l1 : Nat) (l2 : Int32) (M : Mem) (h : f_X5_placeOf l0 l1 l2 M = some (r, MF)) : V G (RX5, cX5_placeOf, (some .int), 1, 22, 4, "placeOf", []) (ρ0, M0, cvI r, MF) 0 [(0, .ref l0), (1, .ref l1), (2, .int l2)] [] M := by
  unfold f_X5_placeOf at h
  replace h := (ifS h).2
  refine v_iconst (v := 0) dX5_placeOf_0 ci_0 ?_
  refine v_istore_n (ls' := [(3, .int (0 : Int32)), (0, .ref l0), (1, .ref l1), (2, .int l2)]) dX5_placeOf_1 rfl (by decide) rfl ?_
  refine v_sub [1, 2, 3, 0] rfl ?_
  exact w_X5_placeOf_L2 FU l0 l1 l2 (0 : Int32) M h
theorem kd_X5_placeOf {l0 : Nat} {l1 : Nat} {l2 : Int32} {M : Mem} {z : _} (h : f_X5_placeOf l0 l1 l2 M = some z) : (mK M l0).1 = 5 := by
  unfold f_X5_placeOf at h
  exact (ifS h).1
theorem k_X5_placeOf {G : Gl} {l0 : Nat} {l1 : Nat} {l2 : Int32} {M MF : Mem} {r : Int32} (h : f_X5_placeOf l0 l1 l2 M = some (r, MF)) : CtrP G yX5_placeOf cX5_placeOf 4 (some .int) 1 22 [.ref l0, .ref l1, .int l2] M (cvI r) MF :=
  ctr_of (by decide +kernel) (Nat.le_of_ble_eq_true rfl) (fun ρ => w_X5_placeOf l0 l1 l2 M h)
theorem wd_X11_151 : wdV RX11 151 RX5 yX5_placeOf cX5_placeOf 4 (some .int) 2 := ⟨gwi 905 (by decide +kernel) (by decide +kernel), gwi 776 (by decide +kernel) (by decide +kernel), gwi 777 (by decide +kernel) (by decide +kernel), nw_X5, gwi 778 (by decide +kernel) (by decide +kernel), ⟨rfl, by decide +kernel, by decide +kernel, by decide +kernel⟩⟩
theorem ca_X11_151 {G : Gl} {B : Bx} {cc : ByteArray} {ret : Option FieldType} {fr lo nL : Nat} {mn : String} {hh : List (Nat × Nat × Nat × Nat)} {pc : Nat} {ls : List (Nat × Value)} {st : List Value} {M M1 : Mem} {l0 : Nat} {l1 : Nat} {l2 : Int32} {x : Int32} (e : f_X5_placeOf l0 l1 l2 M = some (x, M1)) (hd : decode cc pc = .ok (.invokevirtual 151, 3)) (hcat : (st.map fun v => v.category).sum ≤ 8) (hR : 1 + 1 ≤ fr ∧ 8 + (4 + 11) + 22 ≤ lo) (k : V G (RX11, cc, ret, fr, lo, nL, mn, hh) B (pc + 3) ls (.int x :: st) M1) : V G (RX11, cc, ret, fr, lo, nL, mn, hh) B pc ls (.int l2 :: .ref l1 :: .ref l0 :: st) M := v_callVi (As := [.ref l1, .int l2]) (k_X5_placeOf e) wd_X11_151 clX5 (kd_X5_placeOf e) hd rfl rfl hcat hR k
theorem wd_X5_79 : wdV RX5 79 RX5 yX5_placeOf cX5_placeOf 4 (some .int) 2 := ⟨gwi 775 (by decide +kernel) (by decide +kernel), gwi 776 (by decide +kernel) (by decide +kernel), gwi 777 (by decide +kernel) (by decide +kernel), nw_X5, gwi 778 (by decide +kernel) (by decide +kernel), ⟨rfl, by decide +kernel, by decide +kernel, by decide +kernel⟩⟩
theorem ca_X5_79 {G : Gl} {B : Bx} {cc : ByteArray} {ret : Option FieldType} {fr lo nL : Nat} {mn : String} {hh : List (Nat × Nat × Nat × Nat)} {pc : Nat} {ls : List (Nat × Value)} {st : List Value} {M M1 : Mem} {l0 : Nat} {l1 : Nat} {l2 : Int32} {x : Int32} (e : f_X5_placeOf l0 l1 l2 M = some (x, M1)) (hd : decode cc pc = .ok (.invokevirtual 79, 3)) (hcat : (st.map fun v => v.category).sum ≤ 8) (hR : 1 + 1 ≤ fr ∧ 8 + (4 + 11) + 22 ≤ lo) (k : V G (RX5, cc, ret, fr, lo, nL, mn, hh) B (pc + 3) ls (.int x :: st) M1) : V G (RX5, cc, ret, fr, lo, nL, mn, hh) B pc ls (.int l2 :: .ref l1 :: .ref l0 :: st) M := v_callVi (As := [.ref l1, .int l2]) (k_X5_placeOf e) wd_X5_79 clX5 (kd_X5_placeOf e) hd rfl rfl hcat hR k
theorem wd_X7_177 : wdV RX7 177 RX5 yX5_placeOf cX5_placeOf 4 (some .int) 2 := ⟨gwi 933 (by decide +kernel) (by decide +kernel), gwi 776 (by decide +kernel) (by decide +kernel), gwi 777 (by decide +kernel) (by decide +kernel), nw_X5, gwi 778 (by decide +kernel) (by decide +kernel), ⟨rfl, by decide +kernel, by decide +kernel, by decide +kernel⟩⟩
theorem ca_X7_177 {G : Gl} {B : Bx} {cc : ByteArray} {ret : Option FieldType} {fr lo nL : Nat} {mn : String} {hh : List (Nat × Nat × Nat × Nat)} {pc : Nat} {ls : List (Nat × Value)} {st : List Value} {M M1 : Mem} {l0 : Nat} {l1 : Nat} {l2 : Int32} {x : Int32} (e : f_X5_placeOf l0 l1 l2 M = some (x, M1)) (hd : decode cc pc = .ok (.invokevirtual 177, 3)) (hcat : (st.map fun v => v.category).sum ≤ 8) (hR : 1 + 1 ≤ fr ∧ 8 + (4 + 11) + 22 ≤ lo) (k : V G (RX7, cc, ret, fr, lo, nL, mn, hh) B (pc + 3) ls (.int x :: st) M1) : V G (RX7, cc, ret, fr, lo, nL, mn, hh) B pc ls (.int l2 :: .ref l1 :: .ref l0 :: st) M := v_callVi (As := [.ref l1, .int l2]) (k_X5_placeOf e) wd_X7_177 clX5 (kd_X5_placeOf e) hd rfl rfl hcat hR k
set_option maxHeartbeats 4000000 in
set_option maxRecDepth 100000 in
theorem w_X5_gradeOf {G : Gl} {ρ0 : Nat → Nat} {M0 MF : Mem} {r : Int32} (l0 : Nat) (l1 : Nat) (l2 : Int32) (M : Mem) (h : f_X5_gradeOf l0 l1 l2 M = some (r, MF)) : V G (RX5, cX5_gradeOf, (some .int), 2, 45, 4, "gradeOf", []) (ρ0, M0, cvI r, MF) 0 [(0, .ref l0), (1, .ref l1), (2, .int l2)] [] M := by
  unfold f_X5_gradeOf at h
  replace h := (ifS h).2
  refine v_aload_n dX5_gradeOf_0 rfl 0 rfl ?_
  refine v_aload_n dX5_gradeOf_1 rfl 1 rfl ?_
  refine v_iload_n dX5_gradeOf_2 rfl 2 rfl ?_
  obtain ⟨v2, M1, e, h⟩ := bindP_some h
  refine ca_X5_79 e dX5_gradeOf_3 (Nat.le_of_ble_eq_true rfl) (by decide) ?_
  refine v_istore_n (ls' := [(3, .int v2), (0, .ref l0), (1, .ref l1), (2, .int l2)]) dX5_gradeOf_6 rfl (by decide) rfl ?_
  refine v_iload_n dX5_gradeOf_7 rfl 0 rfl ?_
  refine v_if_ge (tgt := 15) dX5_gradeOf_8 (by decide) (fun c6 => ?_) (fun c6 => ?_)
  · replace h := ifP c6 h
    refine v_aload_n dX5_gradeOf_15 rfl 1 rfl ?_
    obtain ⟨v3, e, h⟩ := bind_some h
    refine gt_X5_17 e dX5_gradeOf_16 ?_
    refine v_iload_n dX5_gradeOf_19 rfl 0 rfl ?_
    obtain ⟨v4, e, h⟩ := bind_some h
    refine al_8 e dX5_gradeOf_20 ?_
    obtain ⟨v5, e, h⟩ := bind_some h
    refine gt_X5_83 e dX5_gradeOf_21 ?_
    cases h
    exact v_ireturn dX5_gradeOf_24
  · replace h := ifN c6 h
    refine v_iconst (v := 0) dX5_gradeOf_11 ci_0 ?_
    refine v_goto (tgt := 24) dX5_gradeOf_12 (by decide) ?_
    cases h
    exact v_ireturn dX5_gradeOf_24
theorem kd_X5_gradeOf {l0 : Nat} {l1 : Nat} {l2 : Int32} {M : Mem} {z : _} (h : f_X5_gradeOf l0 l1 l2 M = some z) : (mK M l0).1 = 5 := by
  unfold f_X5_gradeOf at h
  exact (ifS h).1
theorem k_X5_gradeOf {G : Gl} {l0 : Nat} {l1 : Nat} {l2 : Int32} {M MF : Mem} {r : Int32} (h : f_X5_gradeOf l0 l1 l2 M = some (r, MF)) : CtrP G yX5_gradeOf cX5_gradeOf 4 (some .int) 2 45 [.ref l0, .ref l1, .int l2] M (cvI r) MF :=
  ctr_of (by decide +kernel) (Nat.le_of_ble_eq_true rfl) (fun ρ => w_X5_gradeOf l0 l1 l2 M h)
theorem wd_X7_221 : wdV RX7 221 RX5 yX5_gradeOf cX5_gradeOf 4 (some .int) 2 := ⟨gwi 771 (by decide +kernel) (by decide +kernel), gwi 772 (by decide +kernel) (by decide +kernel), gwi 773 (by decide +kernel) (by decide +kernel), nw_X5, gwi 774 (by decide +kernel) (by decide +kernel), ⟨rfl, by decide +kernel, by decide +kernel, by decide +kernel⟩⟩
theorem ca_X7_221 {G : Gl} {B : Bx} {cc : ByteArray} {ret : Option FieldType} {fr lo nL : Nat} {mn : String} {hh : List (Nat × Nat × Nat × Nat)} {pc : Nat} {ls : List (Nat × Value)} {st : List Value} {M M1 : Mem} {l0 : Nat} {l1 : Nat} {l2 : Int32} {x : Int32} (e : f_X5_gradeOf l0 l1 l2 M = some (x, M1)) (hd : decode cc pc = .ok (.invokevirtual 221, 3)) (hcat : (st.map fun v => v.category).sum ≤ 8) (hR : 2 + 1 ≤ fr ∧ 8 + (4 + 11) + 45 ≤ lo) (k : V G (RX7, cc, ret, fr, lo, nL, mn, hh) B (pc + 3) ls (.int x :: st) M1) : V G (RX7, cc, ret, fr, lo, nL, mn, hh) B pc ls (.int l2 :: .ref l1 :: .ref l0 :: st) M := v_callVi (As := [.ref l1, .int l2]) (k_X5_gradeOf e) wd_X7_221 clX5 (kd_X5_gradeOf e) hd rfl rfl hcat hR k
set_option maxHeartbeats 4000000 in
set_option maxRecDepth 100000 in
theorem w_X5_addSubscription {G : Gl} {ρ0 : Nat → Nat} {M0 MF : Mem} {r : Unit} (l0 : Nat) (l1 : Nat) (l2 : Int32) (M : Mem) (h : f_X5_addSubscription l0 l1 l2 M = some MF) : V G (RX5, cX5_addSubscription, none, 0, 0, 4, "addSubscription", []) (ρ0, M0, cvV r, MF) 0 [(0, .ref l0), (1, .ref l1), (2, .int l2)] [] M := by
  unfold f_X5_addSubscription at h
  replace h := (ifS h).2
  refine v_aload_n dX5_addSubscription_0 rfl 0 rfl ?_
  obtain ⟨v1, e, h⟩ := bind_some h
  refine gt_X5_56 e dX5_addSubscription_1 ?_
  refine v_if_lt (tgt := 56) dX5_addSubscription_4 (by decide) (fun c13 => ?_) (fun c13 => ?_)
  · replace h := ifP c13 h
    cases h
    exact v_vreturn dX5_addSubscription_56
  · replace h := ifN c13 h
    refine v_aload_n dX5_addSubscription_7 rfl 0 rfl ?_
    obtain ⟨v2, e, h⟩ := bind_some h
    refine gt_X5_56 e dX5_addSubscription_8 ?_
    refine v_bipush (v := 6) dX5_addSubscription_11 cb_6 ?_
    refine v_icmp_ge (tgt := 56) dX5_addSubscription_13 (by decide) (fun c12 => ?_) (fun c12 => ?_)
    · replace h := ifP c12 h
      cases h
      exact v_vreturn dX5_addSubscription_56
    · replace h := ifN c12 h
      refine v_aload_n dX5_addSubscription_16 rfl 0 rfl ?_
      obtain ⟨v3, e, h⟩ := bind_some h
      refine gt_X5_17 e dX5_addSubscription_17 ?_
      refine v_aload_n dX5_addSubscription_20 rfl 0 rfl ?_
      obtain ⟨v4, e, h⟩ := bind_some h
      refine gt_X5_56 e dX5_addSubscription_21 ?_
      obtain ⟨v5, e, h⟩ := bind_some h
      refine al_8 e dX5_addSubscription_24 ?_
      refine v_astore_n (ls' := [(3, .ref v5), (0, .ref l0), (1, .ref l1), (2, .int l2)]) dX5_addSubscription_25 rfl (by decide) rfl ?_
      refine v_aload_n dX5_addSubscription_26 rfl 0 rfl ?_
      refine v_aload_n dX5_addSubscription_27 rfl 2 rfl ?_
      obtain ⟨M6, e, h⟩ := bind_some h
      refine pt_X5_69 e dX5_addSubscription_28 ?_
      refine v_aload_n dX5_addSubscription_31 rfl 0 rfl ?_
      refine v_iload_n dX5_addSubscription_32 rfl 3 rfl ?_
      obtain ⟨M7, e, h⟩ := bind_some h
      refine pt_X5_66 e dX5_addSubscription_33 ?_
      refine v_aload_n dX5_addSubscription_36 rfl 0 rfl ?_
      refine v_iconst (v := 0) dX5_addSubscription_37 ci_0 ?_
      obtain ⟨M8, e, h⟩ := bind_some h
      refine pt_X5_83 e dX5_addSubscription_38 ?_
      refine v_aload_n dX5_addSubscription_41 rfl 0 rfl ?_
      refine v_iconst (v := 0) dX5_addSubscription_42 ci_0 ?_
      obtain ⟨M9, e, h⟩ := bind_some h
      refine pt_X5_86 e dX5_addSubscription_43 ?_
      refine v_aload_n dX5_addSubscription_46 rfl 1 rfl ?_
      refine v_dup dX5_addSubscription_47 rfl ?_
      obtain ⟨v10, e, h⟩ := bind_some h
      refine gt_X5_56 e dX5_addSubscription_48 ?_
      refine v_iconst (v := 1) dX5_addSubscription_51 ci_1 ?_
      refine v_iadd dX5_addSubscription_52 ?_
      obtain ⟨M11, e, h⟩ := bind_some h
      refine pt_X5_56 e dX5_addSubscription_53 ?_
      cases h
      exact v_vreturn dX5_addSubscription_56
theorem kd_X5_addSubscription {l0 : Nat} {l1 : Nat} {l2 : Int32} {M : Mem} {z : _} (h : f_X5_addSubscription l0 l1 l2 M = some z) : (mK M l0).1 = 5 := by
  unfold f_X5_addSubscription at h
  exact (ifS h).1
theorem k_X5_addSubscription {G : Gl} {l0 : Nat} {l1 : Nat} {l2 : Int32} {M MF : Mem} (h : f_X5_addSubscription l0 l1 l2 M = some MF) : CtrP G yX5_addSubscription cX5_addSubscription 4 none 0 0 [.ref l0, .ref l1, .int l2] M (cvV ()) MF :=
  ctr_of (by decide +kernel) (Nat.le_of_ble_eq_true rfl) (fun ρ => w_X5_addSubscription (r := ()) l0 l1 l2 M h)
theorem wd_X7_157 : wdV RX7 157 RX5 yX5_addSubscription cX5_addSubscription 4 none 2 := ⟨gwi 910 (by decide +kernel) (by decide +kernel), gwi 911 (by decide +kernel) (by decide +kernel), gwi 912 (by decide +kernel) (by decide +kernel), nw_X5, gwi 913 (by decide +kernel) (by decide +kernel), ⟨rfl, by decide +kernel, by decide +kernel, by decide +kernel⟩⟩
theorem ca_X7_157 {G : Gl} {B : Bx} {cc : ByteArray} {ret : Option FieldType} {fr lo nL : Nat} {mn : String} {hh : List (Nat × Nat × Nat × Nat)} {pc : Nat} {ls : List (Nat × Value)} {st : List Value} {M M1 : Mem} {l0 : Nat} {l1 : Nat} {l2 : Int32} (e : f_X5_addSubscription l0 l1 l2 M = some M1) (hd : decode cc pc = .ok (.invokevirtual 157, 3)) (hcat : (st.map fun v => v.category).sum ≤ 8) (hR : 0 + 1 ≤ fr ∧ 8 + (4 + 11) + 0 ≤ lo) (k : V G (RX7, cc, ret, fr, lo, nL, mn, hh) B (pc + 3) ls (st) M1) : V G (RX7, cc, ret, fr, lo, nL, mn, hh) B pc ls (.int l2 :: .ref l1 :: .ref l0 :: st) M := v_callV0 (As := [.ref l1, .int l2]) (k_X5_addSubscription e) wd_X7_157 clX5 (kd_X5_addSubscription e) hd rfl rfl hcat hR k
set_option maxHeartbeats 4000000 in
set_option maxRecDepth 100000 in
theorem w_X5_removeSubscriptionAt_L31 {G : Gl} {ρ0 : Nat → Nat} {M0 MF : Mem} {r : Unit} : ∀ (n : Nat) (l0 : Nat) (l2 : Nat) (l3 : Int32) (M : Mem), f_X5_removeSubscriptionAt_L31 n l0 l2 l3 M = some MF → V G (RX5, cX5_removeSubscriptionAt, none, 0, 0, 4, "removeSubscriptionAt", []) (ρ0, M0, cvV r, MF) 31 [(0, .ref l0), (2, .ref l2), (3, .int l3)] [] M := by
  intro n
  induction n with
  | zero => intro l0 l2 l3 M h; cases h
  | succ n ih =>
    intro l0 l2 l3 M h
    rw [f_X5_removeSubscriptionAt_L31] at h
    refine v_iload_n dX5_removeSubscriptionAt_31 rfl 2 rfl ?_
    refine v_iconst (v := 1) dX5_removeSubscriptionAt_32 ci_1 ?_
    refine v_iadd dX5_removeSubscriptionAt_33 ?_
    refine v_aload_n dX5_removeSubscriptionAt_34 rfl 0 rfl ?_
    obtain ⟨v1, e, h⟩ := bind_some h
    refine gt_X5_56 e dX5_removeSubscriptionAt_35 ?_
    refine v_icmp_ge (tgt := 61) dX5_removeSubscriptionAt_38 (by decide) (fun c7 => ?_) (fun c7 => ?_)
    · replace h := ifP c7 h
      refine v_aload_n dX5_removeSubscriptionAt_61 rfl 0 rfl ?_
      obtain ⟨v2, e, h⟩ := bind_some h
      refine gt_X5_17 e dX5_removeSubscriptionAt_62 ?_
      refine v_aload_n dX5_removeSubscriptionAt_65 rfl 0 rfl ?_
      obtain ⟨v3, e, h⟩ := bind_some h
      refine gt_X5_56 e dX5_removeSubscriptionAt_66 ?_
      refine v_iconst (v := 1) dX5_removeSubscriptionAt_69 ci_1 ?_
      refine v_isub dX5_removeSubscriptionAt_70 ?_
      refine v_aload_n dX5_removeSubscriptionAt_71 rfl 1 rfl ?_
      obtain ⟨M4, e, h⟩ := bind_some h
      refine as_8 e dX5_removeSubscriptionAt_72 ?_
      refine v_aload_n dX5_removeSubscriptionAt_73 rfl 0 rfl ?_
      refine v_dup dX5_removeSubscriptionAt_74 rfl ?_
      obtain ⟨v5, e, h⟩ := bind_some h
      refine gt_X5_56 e dX5_removeSubscriptionAt_75 ?_
      refine v_iconst (v := 1) dX5_removeSubscriptionAt_78 ci_1 ?_
      refine v_isub dX5_removeSubscriptionAt_79 ?_
      obtain ⟨M6, e, h⟩ := bind_some h
      refine pt_X5_56 e dX5_removeSubscriptionAt_80 ?_
      cases h
      exact v_vreturn dX5_removeSubscriptionAt_83
    · replace h := ifN c7 h
      refine v_aload_n dX5_removeSubscriptionAt_41 rfl 0 rfl ?_
      obtain ⟨v2, e, h⟩ := bind_some h
      refine gt_X5_17 e dX5_removeSubscriptionAt_42 ?_
      refine v_iload_n dX5_removeSubscriptionAt_45 rfl 2 rfl ?_
      refine v_aload_n dX5_removeSubscriptionAt_46 rfl 0 rfl ?_
      obtain ⟨v3, e, h⟩ := bind_some h
      refine gt_X5_17 e dX5_removeSubscriptionAt_47 ?_
      refine v_iload_n dX5_removeSubscriptionAt_50 rfl 2 rfl ?_
      refine v_iconst (v := 1) dX5_removeSubscriptionAt_51 ci_1 ?_
      refine v_iadd dX5_removeSubscriptionAt_52 ?_
      obtain ⟨v4, e, h⟩ := bind_some h
      refine al_8 e dX5_removeSubscriptionAt_53 ?_
      obtain ⟨M5, e, h⟩ := bind_some h
      refine as_8 e dX5_removeSubscriptionAt_54 ?_
      refine v_iinc (ls' := [(3, .int (l3 + 1)), (0, .ref l0), (2, .ref l2)]) dX5_removeSubscriptionAt_55 2 rfl (v := 1) ci_1 (by decide) rfl ?_
      refine v_goto (tgt := 31) dX5_removeSubscriptionAt_58 (by decide) ?_
      refine v_sub [1, 2, 0] rfl ?_
      exact ih l0 l2 (l3 + 1) M5 h
set_option maxHeartbeats 4000000 in
set_option maxRecDepth 100000 in
theorem w_X5_removeSubscriptionAt {G : Gl} {ρ0 : Nat → Nat} {M0 MF : Mem} {r : Unit} (l0 : Nat) (l1 : Int32) (M : Mem) (h : f_X5_removeSubscriptionAt l0 l1 M = some MF) : V G (RX5, cX5_removeSubscriptionAt, none, 0, 0, 4, "removeSubscriptionAt", []) (ρ0, M0, cvV r, MF) 0 [(0, .ref l0), (1, .int l1)] [] M := by
  unfold f_X5_removeSubscriptionAt at h
  replace h := (ifS h).2
  refine v_iload_n dX5_removeSubscriptionAt_0 rfl 1 rfl ?_
  refine v_if_lt (tgt := 21) dX5_removeSubscriptionAt_1 (by decide) (fun c7 => ?_) (fun c7 => ?_)
  · replace h := ifP c7 h
    cases h
    exact v_vreturn dX5_removeSubscriptionAt_21
  · replace h := ifN c7 h
    refine v_iload_n dX5_removeSubscriptionAt_4 rfl 1 rfl ?_
    refine v_aload_n dX5_removeSubscriptionAt_5 rfl 0 rfl ?_
    obtain ⟨v1, e, h⟩ := bind_some h
    refine gt_X5_56 e dX5_removeSubscriptionAt_6 ?_
    refine v_icmp_ge (tgt := 21) dX5_removeSubscriptionAt_9 (by decide) (fun c6 => ?_) (fun c6 => ?_)
    · replace h := ifP c6 h
      cases h
      exact v_vreturn dX5_removeSubscriptionAt_21
    · replace h := ifN c6 h
      refine v_aload_n dX5_removeSubscriptionAt_12 rfl 0 rfl ?_
      obtain ⟨v2, e, h⟩ := bind_some h
      refine gt_X5_56 e dX5_removeSubscriptionAt_13 ?_
      refine v_bipush (v := 6) dX5_removeSubscriptionAt_16 cb_6 ?_
      refine v_icmp_le (tgt := 22) dX5_removeSubscriptionAt_18 (by decide) (fun c5 => ?_) (fun c5 => ?_)
      · replace h := ifP c5 h
        refine v_aload_n dX5_removeSubscriptionAt_22 rfl 0 rfl ?_
        obtain ⟨v3, e, h⟩ := bind_some h
        refine gt_X5_17 e dX5_removeSubscriptionAt_23 ?_
        refine v_iload_n dX5_removeSubscriptionAt_26 rfl 1 rfl ?_
        obtain ⟨v4, e, h⟩ := bind_some h
        refine al_8 e dX5_removeSubscriptionAt_27 ?_
        refine v_astore_n (ls' := [(2, .ref v4), (0, .ref l0), (1, .int l1)]) dX5_removeSubscriptionAt_28 rfl (by decide) rfl ?_
        refine v_iload_n dX5_removeSubscriptionAt_29 rfl 2 rfl ?_
        refine v_istore_n (ls' := [(3, .int l1), (2, .ref v4), (0, .ref l0), (1, .int l1)]) dX5_removeSubscriptionAt_30 rfl (by decide) rfl ?_
        refine v_sub [2, 1, 0] rfl ?_
        exact w_X5_removeSubscriptionAt_L31 FU l0 v4 l1 M h
      · replace h := ifN c5 h
        cases h
        exact v_vreturn dX5_removeSubscriptionAt_21
theorem kd_X5_removeSubscriptionAt {l0 : Nat} {l1 : Int32} {M : Mem} {z : _} (h : f_X5_removeSubscriptionAt l0 l1 M = some z) : (mK M l0).1 = 5 := by
  unfold f_X5_removeSubscriptionAt at h
  exact (ifS h).1
theorem k_X5_removeSubscriptionAt {G : Gl} {l0 : Nat} {l1 : Int32} {M MF : Mem} (h : f_X5_removeSubscriptionAt l0 l1 M = some MF) : CtrP G yX5_removeSubscriptionAt cX5_removeSubscriptionAt 4 none 0 0 [.ref l0, .int l1] M (cvV ()) MF :=
  ctr_of (by decide +kernel) (Nat.le_of_ble_eq_true rfl) (fun ρ => w_X5_removeSubscriptionAt (r := ()) l0 l1 M h)
theorem wd_X7_180 : wdV RX7 180 RX5 yX5_removeSubscriptionAt cX5_removeSubscriptionAt 4 none 1 := ⟨gwi 934 (by decide +kernel) (by decide +kernel), gwi 935 (by decide +kernel) (by decide +kernel), gwi 936 (by decide +kernel) (by decide +kernel), nw_X5, gwi 937 (by decide +kernel) (by decide +kernel), ⟨rfl, by decide +kernel, by decide +kernel, by decide +kernel⟩⟩
theorem ca_X7_180 {G : Gl} {B : Bx} {cc : ByteArray} {ret : Option FieldType} {fr lo nL : Nat} {mn : String} {hh : List (Nat × Nat × Nat × Nat)} {pc : Nat} {ls : List (Nat × Value)} {st : List Value} {M M1 : Mem} {l0 : Nat} {l1 : Int32} (e : f_X5_removeSubscriptionAt l0 l1 M = some M1) (hd : decode cc pc = .ok (.invokevirtual 180, 3)) (hcat : (st.map fun v => v.category).sum ≤ 8) (hR : 0 + 1 ≤ fr ∧ 8 + (4 + 11) + 0 ≤ lo) (k : V G (RX7, cc, ret, fr, lo, nL, mn, hh) B (pc + 3) ls (st) M1) : V G (RX7, cc, ret, fr, lo, nL, mn, hh) B pc ls (.int l1 :: .ref l0 :: st) M := v_callV0 (As := [.int l1]) (k_X5_removeSubscriptionAt e) wd_X7_180 clX5 (kd_X5_removeSubscriptionAt e) hd rfl rfl hcat hR k
set_option maxHeartbeats 4000000 in
set_option maxRecDepth 100000 in
theorem w_X10_fits {G : Gl} {ρ0 : Nat → Nat} {M0 MF : Mem} {r : Int32} (l0 : Nat) (l1 : Int32) (M : Mem) (h : f_X10_fits l0 l1 M = some (r, MF)) : V G (RX10, cX10_fits, (some .boolean), 0, 0, 2, "fits", []) (ρ0, M0, cvI r, MF) 0 [(0, .ref l0), (1, .int l1)] [] M := by
  unfold f_X10_fits at h
  replace h := (ifS h).2
  refine v_aload_n dX10_fits_0 rfl 0 rfl ?_
  obtain ⟨v1, e, h⟩ := bind_some h
  refine gt_X10_32 e dX10_fits_1 ?_
  refine v_if_eq (tgt := 23) dX10_fits_4 (by decide) (fun c4 => ?_) (fun c4 => ?_)
  · replace h := ifP c4 h
    refine v_iload_n dX10_fits_23 rfl 1 rfl ?_
    refine v_aload_n dX10_fits_24 rfl 0 rfl ?_
    obtain ⟨v2, e, h⟩ := bind_some h
    refine gt_X10_36 e dX10_fits_25 ?_
    refine v_icmp_ne (tgt := 35) dX10_fits_28 (by decide) (fun c3 => ?_) (fun c3 => ?_)
    · replace h := ifN c3 h
      refine v_iconst (v := 0) dX10_fits_35 ci_0 ?_
      obtain ⟨hz, rfl, rfl⟩ := okZ_some h
      exact v_zreturn dX10_fits_36 hz
    · replace h := ifP c3 h
      refine v_iconst (v := 1) dX10_fits_31 ci_1 ?_
      refine v_goto (tgt := 36) dX10_fits_32 (by decide) ?_
      obtain ⟨hz, rfl, rfl⟩ := okZ_some h
      exact v_zreturn dX10_fits_36 hz
  · replace h := ifN c4 h
    refine v_iload_n dX10_fits_7 rfl 1 rfl ?_
    refine v_aload_n dX10_fits_8 rfl 0 rfl ?_
    obtain ⟨v2, e, h⟩ := bind_some h
    refine gt_X10_36 e dX10_fits_9 ?_
    refine v_icmp_lt (tgt := 19) dX10_fits_12 (by decide) (fun c3 => ?_) (fun c3 => ?_)
    · replace h := ifP c3 h
      refine v_iconst (v := 0) dX10_fits_19 ci_0 ?_
      refine v_goto (tgt := 36) dX10_fits_20 (by decide) ?_
      obtain ⟨hz, rfl, rfl⟩ := okZ_some h
      exact v_zreturn dX10_fits_36 hz
    · replace h := ifN c3 h
      refine v_iconst (v := 1) dX10_fits_15 ci_1 ?_
      refine v_goto (tgt := 36) dX10_fits_16 (by decide) ?_
      obtain ⟨hz, rfl, rfl⟩ := okZ_some h
      exact v_zreturn dX10_fits_36 hz
theorem kd_X10_fits {l0 : Nat} {l1 : Int32} {M : Mem} {z : _} (h : f_X10_fits l0 l1 M = some z) : (mK M l0).1 = 10 := by
  unfold f_X10_fits at h
  exact (ifS h).1
theorem k_X10_fits {G : Gl} {l0 : Nat} {l1 : Int32} {M MF : Mem} {r : Int32} (h : f_X10_fits l0 l1 M = some (r, MF)) : CtrP G yX10_fits cX10_fits 2 (some .boolean) 0 0 [.ref l0, .int l1] M (cvI r) MF :=
  ctr_of (by decide +kernel) (Nat.le_of_ble_eq_true rfl) (fun ρ => w_X10_fits l0 l1 M h)
theorem wd_X10_47 : wdV RX10 47 RX10 yX10_fits cX10_fits 2 (some .boolean) 1 := ⟨gwi 704 (by decide +kernel) (by decide +kernel), gwi 706 (by decide +kernel) (by decide +kernel), gwi 6 (by decide +kernel) (by decide +kernel), nw_X10, gwi 707 (by decide +kernel) (by decide +kernel), ⟨rfl, by decide +kernel, by decide +kernel, by decide +kernel⟩⟩
theorem ca_X10_47 {G : Gl} {B : Bx} {cc : ByteArray} {ret : Option FieldType} {fr lo nL : Nat} {mn : String} {hh : List (Nat × Nat × Nat × Nat)} {pc : Nat} {ls : List (Nat × Value)} {st : List Value} {M M1 : Mem} {l0 : Nat} {l1 : Int32} {x : Int32} (e : f_X10_fits l0 l1 M = some (x, M1)) (hd : decode cc pc = .ok (.invokevirtual 47, 3)) (hcat : (st.map fun v => v.category).sum ≤ 8) (hR : 0 + 1 ≤ fr ∧ 8 + (2 + 11) + 0 ≤ lo) (k : V G (RX10, cc, ret, fr, lo, nL, mn, hh) B (pc + 3) ls (.int x :: st) M1) : V G (RX10, cc, ret, fr, lo, nL, mn, hh) B pc ls (.int l1 :: .ref l0 :: st) M := v_callVi (As := [.int l1]) (k_X10_fits e) wd_X10_47 clX10 (kd_X10_fits e) hd rfl rfl hcat hR k
set_option maxHeartbeats 4000000 in
set_option maxRecDepth 100000 in
theorem w_X10_levelAt {G : Gl} {ρ0 : Nat → Nat} {M0 MF : Mem} {r : Int64} (l0 : Nat) (l1 : Int32) (M : Mem) (h : f_X10_levelAt l0 l1 M = some (r, MF)) : V G (RX10, cX10_levelAt, (some .long), 0, 0, 2, "levelAt", []) (ρ0, M0, cvL r, MF) 0 [(0, .ref l0), (1, .int l1)] [] M := by
  unfold f_X10_levelAt at h
  replace h := (ifS h).2
  refine v_iload_n dX10_levelAt_0 rfl 1 rfl ?_
  refine v_if_lt (tgt := 26) dX10_levelAt_1 (by decide) (fun c6 => ?_) (fun c6 => ?_)
  · replace h := ifP c6 h
    refine kl_X10_54 dX10_levelAt_26 ?_
    cases h
    exact v_lreturn dX10_levelAt_29
  · replace h := ifN c6 h
    refine v_iload_n dX10_levelAt_4 rfl 1 rfl ?_
    refine v_aload_n dX10_levelAt_5 rfl 0 rfl ?_
    obtain ⟨v1, e, h⟩ := bind_some h
    refine gt_X10_36 e dX10_levelAt_6 ?_
    refine v_icmp_ge (tgt := 26) dX10_levelAt_9 (by decide) (fun c5 => ?_) (fun c5 => ?_)
    · replace h := ifP c5 h
      refine kl_X10_54 dX10_levelAt_26 ?_
      cases h
      exact v_lreturn dX10_levelAt_29
    · replace h := ifN c5 h
      refine v_iload_n dX10_levelAt_12 rfl 1 rfl ?_
      refine v_iconst (v := 4) dX10_levelAt_13 ci_4 ?_
      refine v_icmp_ge (tgt := 26) dX10_levelAt_14 (by decide) (fun c4 => ?_) (fun c4 => ?_)
      · replace h := ifP c4 h
        refine kl_X10_54 dX10_levelAt_26 ?_
        cases h
        exact v_lreturn dX10_levelAt_29
      · replace h := ifN c4 h
        refine v_aload_n dX10_levelAt_17 rfl 0 rfl ?_
        obtain ⟨v2, e, h⟩ := bind_some h
        refine gt_X10_24 e dX10_levelAt_18 ?_
        refine v_iload_n dX10_levelAt_21 rfl 1 rfl ?_
        obtain ⟨v3, e, h⟩ := bind_some h
        refine v_laload dX10_levelAt_22 e ?_
        refine v_goto (tgt := 29) dX10_levelAt_23 (by decide) ?_
        cases h
        exact v_lreturn dX10_levelAt_29
theorem kd_X10_levelAt {l0 : Nat} {l1 : Int32} {M : Mem} {z : _} (h : f_X10_levelAt l0 l1 M = some z) : (mK M l0).1 = 10 := by
  unfold f_X10_levelAt at h
  exact (ifS h).1
theorem k_X10_levelAt {G : Gl} {l0 : Nat} {l1 : Int32} {M MF : Mem} {r : Int64} (h : f_X10_levelAt l0 l1 M = some (r, MF)) : CtrP G yX10_levelAt cX10_levelAt 2 (some .long) 0 0 [.ref l0, .int l1] M (cvL r) MF :=
  ctr_of (by decide +kernel) (Nat.le_of_ble_eq_true rfl) (fun ρ => w_X10_levelAt l0 l1 M h)
theorem wd_X10_56 : wdV RX10 56 RX10 yX10_levelAt cX10_levelAt 2 (some .long) 1 := ⟨gwi 708 (by decide +kernel) (by decide +kernel), gwi 710 (by decide +kernel) (by decide +kernel), gwi 7 (by decide +kernel) (by decide +kernel), nw_X10, gwi 711 (by decide +kernel) (by decide +kernel), ⟨rfl, by decide +kernel, by decide +kernel, by decide +kernel⟩⟩
theorem ca_X10_56 {G : Gl} {B : Bx} {cc : ByteArray} {ret : Option FieldType} {fr lo nL : Nat} {mn : String} {hh : List (Nat × Nat × Nat × Nat)} {pc : Nat} {ls : List (Nat × Value)} {st : List Value} {M M1 : Mem} {l0 : Nat} {l1 : Int32} {x : Int64} (e : f_X10_levelAt l0 l1 M = some (x, M1)) (hd : decode cc pc = .ok (.invokevirtual 56, 3)) (hcat : (st.map fun v => v.category).sum ≤ 8) (hR : 0 + 1 ≤ fr ∧ 8 + (2 + 11) + 0 ≤ lo) (k : V G (RX10, cc, ret, fr, lo, nL, mn, hh) B (pc + 3) ls (.long x :: st) M1) : V G (RX10, cc, ret, fr, lo, nL, mn, hh) B pc ls (.int l1 :: .ref l0 :: st) M := v_callVl (As := [.int l1]) (k_X10_levelAt e) wd_X10_56 clX10 (kd_X10_levelAt e) hd rfl rfl hcat hR k
set_option maxHeartbeats 4000000 in
set_option maxRecDepth 100000 in
theorem w_X10_coversWith_L12 {G : Gl} {ρ0 : Nat → Nat} {M0 MF : Mem} {r : Int32} : ∀ (n : Nat) (l0 : Nat) (l1 : Nat) (l2 : Int32) (l3 : Int32) (M : Mem), f_X10_coversWith_L12 n l0 l1 l2 l3 M = some (r, MF) → V G (RX10, cX10_coversWith, (some .boolean), 1, 21, 6, "coversWith", []) (ρ0, M0, cvI r, MF) 12 [(0, .ref l0), (1, .ref l1), (2, .int l2), (3, .int l3)] [] M := by
  intro n
  induction n with
  | zero => intro l0 l1 l2 l3 M h; cases h
  | succ n ih =>
    intro l0 l1 l2 l3 M h
    rw [f_X10_coversWith_L12] at h
    refine v_iload_n dX10_coversWith_12 rfl 3 rfl ?_
    refine v_iload_n dX10_coversWith_13 rfl 2 rfl ?_
    refine v_icmp_ge (tgt := 52) dX10_coversWith_14 (by decide) (fun c7 => ?_) (fun c7 => ?_)
    · replace h := ifP c7 h
      refine v_iconst (v := 1) dX10_coversWith_52 ci_1 ?_
      obtain ⟨hz, rfl, rfl⟩ := okZ_some h
      exact v_zreturn dX10_coversWith_53 hz
    · replace h := ifN c7 h
      refine v_aload_n dX10_coversWith_17 rfl 0 rfl ?_
      refine v_iload_n dX10_coversWith_18 rfl 3 rfl ?_
      obtain ⟨v2, M1, e, h⟩ := bindP_some h
      refine ca_X10_56 e dX10_coversWith_19 (Nat.le_of_ble_eq_true rfl) (by decide) ?_
      refine v_lstore (ls' := [(4, .long v2), (0, .ref l0), (1, .ref l1), (2, .int l2), (3, .int l3)]) dX10_coversWith_22 (by decide) rfl ?_
      refine v_lload dX10_coversWith_24 0 rfl ?_
      refine kl_X10_54 dX10_coversWith_26 ?_
      refine v_lcmp dX10_coversWith_29 ?_
      refine v_if_eq (tgt := 46) dX10_coversWith_30 (by decide) (fun c6 => ?_) (fun c6 => ?_)
      · replace h := ifP c6 h
        refine v_iinc (ls' := [(3, .int (l3 + 1)), (4, .long v2), (0, .ref l0), (1, .ref l1), (2, .int l2)]) dX10_coversWith_46 4 rfl (v := 1) ci_1 (by decide) rfl ?_
        refine v_goto (tgt := 12) dX10_coversWith_49 (by decide) ?_
        refine v_sub [2, 3, 4, 0] rfl ?_
        exact ih l0 l1 l2 (l3 + 1) M1 h
      · replace h := ifN c6 h
        refine v_lload dX10_coversWith_33 0 rfl ?_
        refine v_aload_n dX10_coversWith_35 rfl 2 rfl ?_
        refine v_iload_n dX10_coversWith_36 rfl 4 rfl ?_
        obtain ⟨v4, M3, e, h⟩ := bindP_some h
        refine ca_X10_56 e dX10_coversWith_37 (Nat.le_of_ble_eq_true rfl) (by decide) ?_
        refine v_lcmp dX10_coversWith_40 ?_
        refine v_if_eq (tgt := 46) dX10_coversWith_41 (by decide) (fun c5 => ?_) (fun c5 => ?_)
        · replace h := ifP c5 h
          refine v_iinc (ls' := [(3, .int (l3 + 1)), (4, .long v2), (0, .ref l0), (1, .ref l1), (2, .int l2)]) dX10_coversWith_46 4 rfl (v := 1) ci_1 (by decide) rfl ?_
          refine v_goto (tgt := 12) dX10_coversWith_49 (by decide) ?_
          refine v_sub [2, 3, 4, 0] rfl ?_
          exact ih l0 l1 l2 (l3 + 1) M3 h
        · replace h := ifN c5 h
          refine v_iconst (v := 0) dX10_coversWith_44 ci_0 ?_
          obtain ⟨hz, rfl, rfl⟩ := okZ_some h
          exact v_zreturn dX10_coversWith_45 hz
set_option maxHeartbeats 4000000 in
set_option maxRecDepth 100000 in
theorem w_X10_coversWith {G : Gl} {ρ0 : Nat → Nat} {M0 MF : Mem} {r : Int32} (l0 : Nat) (l1 : Nat) (l2 : Int32) (M : Mem) (h : f_X10_coversWith l0 l1 l2 M = some (r, MF)) : V G (RX10, cX10_coversWith, (some .boolean), 1, 21, 6, "coversWith", []) (ρ0, M0, cvI r, MF) 0 [(0, .ref l0), (1, .ref l1), (2, .int l2)] [] M := by
  unfold f_X10_coversWith at h
  replace h := (ifS h).2
  refine v_aload_n dX10_coversWith_0 rfl 0 rfl ?_
  refine v_iload_n dX10_coversWith_1 rfl 2 rfl ?_
  obtain ⟨v2, M1, e, h⟩ := bindP_some h
  refine ca_X10_47 e dX10_coversWith_2 (Nat.le_of_ble_eq_true rfl) (by decide) ?_
  refine v_if_ne (tgt := 10) dX10_coversWith_5 (by decide) (fun c3 => ?_) (fun c3 => ?_)
  · replace h := ifN c3 h
    refine v_iconst (v := 0) dX10_coversWith_10 ci_0 ?_
    refine v_istore_n (ls' := [(3, .int (0 : Int32)), (0, .ref l0), (1, .ref l1), (2, .int l2)]) dX10_coversWith_11 rfl (by decide) rfl ?_
    refine v_sub [1, 2, 3, 0] rfl ?_
    exact w_X10_coversWith_L12 FU l0 l1 l2 (0 : Int32) M1 h
  · replace h := ifP c3 h
    refine v_iconst (v := 0) dX10_coversWith_8 ci_0 ?_
    obtain ⟨hz, rfl, rfl⟩ := okZ_some h
    exact v_zreturn dX10_coversWith_9 hz
theorem kd_X10_coversWith {l0 : Nat} {l1 : Nat} {l2 : Int32} {M : Mem} {z : _} (h : f_X10_coversWith l0 l1 l2 M = some z) : (mK M l0).1 = 10 := by
  unfold f_X10_coversWith at h
  exact (ifS h).1
theorem k_X10_coversWith {G : Gl} {l0 : Nat} {l1 : Nat} {l2 : Int32} {M MF : Mem} {r : Int32} (h : f_X10_coversWith l0 l1 l2 M = some (r, MF)) : CtrP G yX10_coversWith cX10_coversWith 6 (some .boolean) 1 21 [.ref l0, .ref l1, .int l2] M (cvI r) MF :=
  ctr_of (by decide +kernel) (Nat.le_of_ble_eq_true rfl) (fun ρ => w_X10_coversWith l0 l1 l2 M h)
theorem wd_X10_43 : wdV RX10 43 RX10 yX10_coversWith cX10_coversWith 6 (some .boolean) 2 := ⟨gwi 700 (by decide +kernel) (by decide +kernel), gwi 702 (by decide +kernel) (by decide +kernel), gwi 5 (by decide +kernel) (by decide +kernel), nw_X10, gwi 703 (by decide +kernel) (by decide +kernel), ⟨rfl, by decide +kernel, by decide +kernel, by decide +kernel⟩⟩
theorem ca_X10_43 {G : Gl} {B : Bx} {cc : ByteArray} {ret : Option FieldType} {fr lo nL : Nat} {mn : String} {hh : List (Nat × Nat × Nat × Nat)} {pc : Nat} {ls : List (Nat × Value)} {st : List Value} {M M1 : Mem} {l0 : Nat} {l1 : Nat} {l2 : Int32} {x : Int32} (e : f_X10_coversWith l0 l1 l2 M = some (x, M1)) (hd : decode cc pc = .ok (.invokevirtual 43, 3)) (hcat : (st.map fun v => v.category).sum ≤ 8) (hR : 1 + 1 ≤ fr ∧ 8 + (6 + 11) + 21 ≤ lo) (k : V G (RX10, cc, ret, fr, lo, nL, mn, hh) B (pc + 3) ls (.int x :: st) M1) : V G (RX10, cc, ret, fr, lo, nL, mn, hh) B pc ls (.int l2 :: .ref l1 :: .ref l0 :: st) M := v_callVi (As := [.ref l1, .int l2]) (k_X10_coversWith e) wd_X10_43 clX10 (kd_X10_coversWith e) hd rfl rfl hcat hR k
set_option maxHeartbeats 4000000 in
set_option maxRecDepth 100000 in
theorem w_X10_matches {G : Gl} {ρ0 : Nat → Nat} {M0 MF : Mem} {r : Int32} (l0 : Nat) (l1 : Nat) (M : Mem) (h : f_X10_matches l0 l1 M = some (r, MF)) : V G (RX10, cX10_matches, (some .boolean), 2, 46, 2, "matches", []) (ρ0, M0, cvI r, MF) 0 [(0, .ref l0), (1, .ref l1)] [] M := by
  unfold f_X10_matches at h
  replace h := (ifS h).2
  refine v_aload_n dX10_matches_0 rfl 0 rfl ?_
  refine v_aload_n dX10_matches_1 rfl 1 rfl ?_
  refine v_aload_n dX10_matches_2 rfl 1 rfl ?_
  obtain ⟨v1, e, h⟩ := bind_some h
  refine gt_X10_28 e dX10_matches_3 ?_
  obtain ⟨v3, M2, e, h⟩ := bindP_some h
  refine ca_X10_43 e dX10_matches_6 (Nat.le_of_ble_eq_true rfl) (by decide) ?_
  obtain ⟨hz, rfl, rfl⟩ := okZ_some h
  exact v_zreturn dX10_matches_9 hz
theorem kd_X10_matches {l0 : Nat} {l1 : Nat} {M : Mem} {z : _} (h : f_X10_matches l0 l1 M = some z) : (mK M l0).1 = 10 := by
  unfold f_X10_matches at h
  exact (ifS h).1
theorem k_X10_matches {G : Gl} {l0 : Nat} {l1 : Nat} {M MF : Mem} {r : Int32} (h : f_X10_matches l0 l1 M = some (r, MF)) : CtrP G yX10_matches cX10_matches 2 (some .boolean) 2 46 [.ref l0, .ref l1] M (cvI r) MF :=
  ctr_of (by decide +kernel) (Nat.le_of_ble_eq_true rfl) (fun ρ => w_X10_matches l0 l1 M h)
theorem wd_X5_89 : wdV RX5 89 RX10 yX10_matches cX10_matches 2 (some .boolean) 1 := ⟨gwi 696 (by decide +kernel) (by decide +kernel), gwi 697 (by decide +kernel) (by decide +kernel), gwi 698 (by decide +kernel) (by decide +kernel), nw_X10, gwi 699 (by decide +kernel) (by decide +kernel), ⟨rfl, by decide +kernel, by decide +kernel, by decide +kernel⟩⟩
theorem ca_X5_89 {G : Gl} {B : Bx} {cc : ByteArray} {ret : Option FieldType} {fr lo nL : Nat} {mn : String} {hh : List (Nat × Nat × Nat × Nat)} {pc : Nat} {ls : List (Nat × Value)} {st : List Value} {M M1 : Mem} {l0 : Nat} {l1 : Nat} {x : Int32} (e : f_X10_matches l0 l1 M = some (x, M1)) (hd : decode cc pc = .ok (.invokevirtual 89, 3)) (hcat : (st.map fun v => v.category).sum ≤ 8) (hR : 2 + 1 ≤ fr ∧ 8 + (2 + 11) + 46 ≤ lo) (k : V G (RX5, cc, ret, fr, lo, nL, mn, hh) B (pc + 3) ls (.int x :: st) M1) : V G (RX5, cc, ret, fr, lo, nL, mn, hh) B pc ls (.ref l1 :: .ref l0 :: st) M := v_callVi (As := [.ref l1]) (k_X10_matches e) wd_X5_89 clX10 (kd_X10_matches e) hd rfl rfl hcat hR k
theorem wd_X7_214 : wdV RX7 214 RX10 yX10_matches cX10_matches 2 (some .boolean) 1 := ⟨gwi 762 (by decide +kernel) (by decide +kernel), gwi 697 (by decide +kernel) (by decide +kernel), gwi 698 (by decide +kernel) (by decide +kernel), nw_X10, gwi 699 (by decide +kernel) (by decide +kernel), ⟨rfl, by decide +kernel, by decide +kernel, by decide +kernel⟩⟩
theorem ca_X7_214 {G : Gl} {B : Bx} {cc : ByteArray} {ret : Option FieldType} {fr lo nL : Nat} {mn : String} {hh : List (Nat × Nat × Nat × Nat)} {pc : Nat} {ls : List (Nat × Value)} {st : List Value} {M M1 : Mem} {l0 : Nat} {l1 : Nat} {x : Int32} (e : f_X10_matches l0 l1 M = some (x, M1)) (hd : decode cc pc = .ok (.invokevirtual 214, 3)) (hcat : (st.map fun v => v.category).sum ≤ 8) (hR : 2 + 1 ≤ fr ∧ 8 + (2 + 11) + 46 ≤ lo) (k : V G (RX7, cc, ret, fr, lo, nL, mn, hh) B (pc + 3) ls (.int x :: st) M1) : V G (RX7, cc, ret, fr, lo, nL, mn, hh) B pc ls (.ref l1 :: .ref l0 :: st) M := v_callVi (As := [.ref l1]) (k_X10_matches e) wd_X7_214 clX10 (kd_X10_matches e) hd rfl rfl hcat hR k
set_option maxHeartbeats 4000000 in
set_option maxRecDepth 100000 in
theorem w_X5_greatestGrade_J49 {G : Gl} {ρ0 : Nat → Nat} {M0 MF : Mem} {r : Int32} (k5 : Nat → Nat → Int32 → Int32 → Int32 → Mem → Option (Int32 × Mem)) (h5 : ∀ (l0 : Nat) (l1 : Nat) (l2 : Int32) (l3 : Int32) (l4 : Int32) (M : Mem), k5 l0 l1 l2 l3 l4 M = some (r, MF) → V G (RX5, cX5_greatestGrade, (some .int), 3, 67, 7, "greatestGrade", []) (ρ0, M0, cvI r, MF) 5 [(0, .ref l0), (1, .ref l1), (2, .int l2), (3, .int l3), (4, .int l4)] [] M) (l0 : Nat) (l1 : Nat) (l2 : Int32) (l3 : Int32) (l4 : Int32) (l5 : Nat) (s0 : Int32) (M : Mem) (h : f_X5_greatestGrade_J49 k5 l0 l1 l2 l3 l4 l5 s0 M = some (r, MF)) : V G (RX5, cX5_greatestGrade, (some .int), 3, 67, 7, "greatestGrade", []) (ρ0, M0, cvI r, MF) 49 [(0, .ref l0), (1, .ref l1), (2, .int l2), (3, .int l3), (4, .int l4), (5, .ref l5)] [.int s0] M := by
  unfold f_X5_greatestGrade_J49 at h
  refine v_istore (ls' := [(6, .int s0), (0, .ref l0), (1, .ref l1), (2, .int l2), (3, .int l3), (4, .int l4), (5, .ref l5)]) dX5_greatestGrade_49 (by decide) rfl ?_
  refine v_aload dX5_greatestGrade_51 6 rfl ?_
  obtain ⟨v1, e, h⟩ := bind_some h
  refine gt_X5_66 e dX5_greatestGrade_53 ?_
  refine v_if_ne (tgt := 86) dX5_greatestGrade_56 (by decide) (fun c8 => ?_) (fun c8 => ?_)
  · replace h := ifN c8 h
    refine v_iinc (ls' := [(4, .int (l4 + 1)), (6, .int s0), (0, .ref l0), (1, .ref l1), (2, .int l2), (3, .int l3), (5, .ref l5)]) dX5_greatestGrade_86 5 rfl (v := 1) ci_1 (by decide) rfl ?_
    refine v_goto (tgt := 5) dX5_greatestGrade_89 (by decide) ?_
    refine v_sub [2, 3, 4, 5, 0] rfl ?_
    exact h5 l0 l1 l2 l3 (l4 + 1) M h
  · replace h := ifP c8 h
    refine v_iload dX5_greatestGrade_59 0 rfl ?_
    refine v_if_ne (tgt := 86) dX5_greatestGrade_61 (by decide) (fun c7 => ?_) (fun c7 => ?_)
    · replace h := ifN c7 h
      refine v_iinc (ls' := [(4, .int (l4 + 1)), (6, .int s0), (0, .ref l0), (1, .ref l1), (2, .int l2), (3, .int l3), (5, .ref l5)]) dX5_greatestGrade_86 5 rfl (v := 1) ci_1 (by decide) rfl ?_
      refine v_goto (tgt := 5) dX5_greatestGrade_89 (by decide) ?_
      refine v_sub [2, 3, 4, 5, 0] rfl ?_
      exact h5 l0 l1 l2 l3 (l4 + 1) M h
    · replace h := ifP c7 h
      refine v_aload dX5_greatestGrade_64 6 rfl ?_
      obtain ⟨v2, e, h⟩ := bind_some h
      refine gt_X5_69 e dX5_greatestGrade_66 ?_
      refine v_aload_n dX5_greatestGrade_69 rfl 2 rfl ?_
      obtain ⟨v4, M3, e, h⟩ := bindP_some h
      refine ca_X5_89 e dX5_greatestGrade_70 (Nat.le_of_ble_eq_true rfl) (by decide) ?_
      refine v_if_eq (tgt := 86) dX5_greatestGrade_73 (by decide) (fun c6 => ?_) (fun c6 => ?_)
      · replace h := ifP c6 h
        refine v_iinc (ls' := [(4, .int (l4 + 1)), (6, .int s0), (0, .ref l0), (1, .ref l1), (2, .int l2), (3, .int l3), (5, .ref l5)]) dX5_greatestGrade_86 5 rfl (v := 1) ci_1 (by decide) rfl ?_
        refine v_goto (tgt := 5) dX5_greatestGrade_89 (by decide) ?_
        refine v_sub [2, 3, 4, 5, 0] rfl ?_
        exact h5 l0 l1 l2 l3 (l4 + 1) M3 h
      · replace h := ifN c6 h
        refine v_iload_n dX5_greatestGrade_76 rfl 4 rfl ?_
        refine v_aload dX5_greatestGrade_77 6 rfl ?_
        obtain ⟨v5, e, h⟩ := bind_some h
        refine gt_X5_83 e dX5_greatestGrade_79 ?_
        refine mx_X5_92 dX5_greatestGrade_82 (by decide) (Nat.le_of_ble_eq_true rfl) ?_
        refine v_istore_n (ls' := [(3, .int (imaxE l3 v5)), (6, .int s0), (0, .ref l0), (1, .ref l1), (2, .int l2), (4, .int l4), (5, .ref l5)]) dX5_greatestGrade_85 rfl (by decide) rfl ?_
        refine v_iinc (ls' := [(4, .int (l4 + 1)), (3, .int (imaxE l3 v5)), (6, .int s0), (0, .ref l0), (1, .ref l1), (2, .int l2), (5, .ref l5)]) dX5_greatestGrade_86 5 rfl (v := 1) ci_1 (by decide) rfl ?_
        refine v_goto (tgt := 5) dX5_greatestGrade_89 (by decide) ?_
        refine v_sub [3, 4, 5, 1, 0] rfl ?_
        exact h5 l0 l1 l2 (imaxE l3 v5) (l4 + 1) M3 h
theorem w_X5_greatestGrade_J48 {G : Gl} {ρ0 : Nat → Nat} {M0 MF : Mem} {r : Int32} (k5 : Nat → Nat → Int32 → Int32 → Int32 → Mem → Option (Int32 × Mem)) (h5 : ∀ (l0 : Nat) (l1 : Nat) (l2 : Int32) (l3 : Int32) (l4 : Int32) (M : Mem), k5 l0 l1 l2 l3 l4 M = some (r, MF) → V G (RX5, cX5_greatestGrade, (some .int), 3, 67, 7, "greatestGrade", []) (ρ0, M0, cvI r, MF) 5 [(0, .ref l0), (1, .ref l1), (2, .int l2), (3, .int l3), (4, .int l4)] [] M) (l0 : Nat) (l1 : Nat) (l2 : Int32) (l3 : Int32) (l4 : Int32) (l5 : Nat) (M : Mem) (h : f_X5_greatestGrade_J48 k5 l0 l1 l2 l3 l4 l5 M = some (r, MF)) : V G (RX5, cX5_greatestGrade, (some .int), 3, 67, 7, "greatestGrade", []) (ρ0, M0, cvI r, MF) 48 [(0, .ref l0), (1, .ref l1), (2, .int l2), (3, .int l3), (4, .int l4), (5, .ref l5)] [] M := by
  unfold f_X5_greatestGrade_J48 at h
  refine v_iconst (v := 0) dX5_greatestGrade_48 ci_0 ?_
  exact w_X5_greatestGrade_J49 k5 h5 l0 l1 l2 l3 l4 l5 (0 : Int32) M h
set_option maxHeartbeats 4000000 in
set_option maxRecDepth 100000 in
theorem w_X5_greatestGrade_L5 {G : Gl} {ρ0 : Nat → Nat} {M0 MF : Mem} {r : Int32} : ∀ (n : Nat) (l0 : Nat) (l1 : Nat) (l2 : Int32) (l3 : Int32) (l4 : Int32) (M : Mem), f_X5_greatestGrade_L5 n l0 l1 l2 l3 l4 M = some (r, MF) → V G (RX5, cX5_greatestGrade, (some .int), 3, 67, 7, "greatestGrade", []) (ρ0, M0, cvI r, MF) 5 [(0, .ref l0), (1, .ref l1), (2, .int l2), (3, .int l3), (4, .int l4)] [] M := by
  intro n
  induction n with
  | zero => intro l0 l1 l2 l3 l4 M h; cases h
  | succ n ih =>
    intro l0 l1 l2 l3 l4 M h
    rw [f_X5_greatestGrade_L5] at h
    refine v_iload dX5_greatestGrade_5 4 rfl ?_
    refine v_aload_n dX5_greatestGrade_7 rfl 0 rfl ?_
    obtain ⟨v1, e, h⟩ := bind_some h
    refine gt_X5_56 e dX5_greatestGrade_8 ?_
    refine v_icmp_ge (tgt := 92) dX5_greatestGrade_11 (by decide) (fun c8 => ?_) (fun c8 => ?_)
    · replace h := ifP c8 h
      refine v_iload_n dX5_greatestGrade_92 rfl 3 rfl ?_
      cases h
      exact v_ireturn dX5_greatestGrade_93
    · replace h := ifN c8 h
      refine v_iload dX5_greatestGrade_14 4 rfl ?_
      refine v_bipush (v := 6) dX5_greatestGrade_16 cb_6 ?_
      refine v_icmp_ge (tgt := 92) dX5_greatestGrade_18 (by decide) (fun c7 => ?_) (fun c7 => ?_)
      · replace h := ifP c7 h
        refine v_iload_n dX5_greatestGrade_92 rfl 3 rfl ?_
        cases h
        exact v_ireturn dX5_greatestGrade_93
      · replace h := ifN c7 h
        refine v_aload_n dX5_greatestGrade_21 rfl 0 rfl ?_
        obtain ⟨v2, e, h⟩ := bind_some h
        refine gt_X5_17 e dX5_greatestGrade_22 ?_
        refine v_iload dX5_greatestGrade_25 4 rfl ?_
        obtain ⟨v3, e, h⟩ := bind_some h
        refine al_8 e dX5_greatestGrade_27 ?_
        refine v_astore (ls' := [(5, .ref v3), (0, .ref l0), (1, .ref l1), (2, .int l2), (3, .int l3), (4, .int l4)]) dX5_greatestGrade_28 (by decide) rfl ?_
        refine v_iload_n dX5_greatestGrade_30 rfl 3 rfl ?_
        refine v_if_eq (tgt := 48) dX5_greatestGrade_31 (by decide) (fun c6 => ?_) (fun c6 => ?_)
        · replace h := ifP c6 h
          refine v_sub [1, 2, 3, 4, 5, 0] rfl ?_
          exact w_X5_greatestGrade_J48 (f_X5_greatestGrade_L5 n) ih l0 l1 l2 l3 l4 v3 M h
        · replace h := ifN c6 h
          refine v_aload dX5_greatestGrade_34 0 rfl ?_
          obtain ⟨v4, e, h⟩ := bind_some h
          refine gt_X5_86 e dX5_greatestGrade_36 ?_
          refine v_iconst (v := 1) dX5_greatestGrade_39 ci_1 ?_
          refine v_iand dX5_greatestGrade_40 ?_
          refine v_if_eq (tgt := 48) dX5_greatestGrade_41 (by decide) (fun c5 => ?_) (fun c5 => ?_)
          · replace h := ifP c5 h
            refine v_sub [1, 2, 3, 4, 5, 0] rfl ?_
            exact w_X5_greatestGrade_J48 (f_X5_greatestGrade_L5 n) ih l0 l1 l2 l3 l4 v3 M h
          · replace h := ifN c5 h
            refine v_iconst (v := 1) dX5_greatestGrade_44 ci_1 ?_
            refine v_goto (tgt := 49) dX5_greatestGrade_45 (by decide) ?_
            refine v_sub [1, 2, 3, 4, 5, 0] rfl ?_
            exact w_X5_greatestGrade_J49 (f_X5_greatestGrade_L5 n) ih l0 l1 l2 l3 l4 v3 (1 : Int32) M h
set_option maxHeartbeats 4000000 in
set_option maxRecDepth 100000 in
theorem w_X5_greatestGrade {G : Gl} {ρ0 : Nat → Nat} {M0 MF : Mem} {r : Int32} (l0 : Nat) (l1 : Nat) (l2 : Int32) (M : Mem) (h : f_X5_greatestGrade l0 l1 l2 M = some (r, MF)) : V G (RX5, cX5_greatestGrade, (some .int), 3, 67, 7, "greatestGrade", []) (ρ0, M0, cvI r, MF) 0 [(0, .ref l0), (1, .ref l1), (2, .int l2)] [] M := by
  unfold f_X5_greatestGrade at h
  replace h := (ifS h).2
  refine v_iconst (v := (-1)) dX5_greatestGrade_0 ci_m1 ?_
  refine v_istore_n (ls' := [(3, .int (-1 : Int32)), (0, .ref l0), (1, .ref l1), (2, .int l2)]) dX5_greatestGrade_1 rfl (by decide) rfl ?_
  refine v_iconst (v := 0) dX5_greatestGrade_2 ci_0 ?_
  refine v_istore (ls' := [(4, .int (0 : Int32)), (3, .int (-1 : Int32)), (0, .ref l0), (1, .ref l1), (2, .int l2)]) dX5_greatestGrade_3 (by decide) rfl ?_
  refine v_sub [2, 3, 4, 1, 0] rfl ?_
  exact w_X5_greatestGrade_L5 FU l0 l1 l2 (-1 : Int32) (0 : Int32) M h
theorem kd_X5_greatestGrade {l0 : Nat} {l1 : Nat} {l2 : Int32} {M : Mem} {z : _} (h : f_X5_greatestGrade l0 l1 l2 M = some z) : (mK M l0).1 = 5 := by
  unfold f_X5_greatestGrade at h
  exact (ifS h).1
theorem k_X5_greatestGrade {G : Gl} {l0 : Nat} {l1 : Nat} {l2 : Int32} {M MF : Mem} {r : Int32} (h : f_X5_greatestGrade l0 l1 l2 M = some (r, MF)) : CtrP G yX5_greatestGrade cX5_greatestGrade 7 (some .int) 3 67 [.ref l0, .ref l1, .int l2] M (cvI r) MF :=
  ctr_of (by decide +kernel) (Nat.le_of_ble_eq_true rfl) (fun ρ => w_X5_greatestGrade l0 l1 l2 M h)
theorem wd_X7_203 : wdV RX7 203 RX5 yX5_greatestGrade cX5_greatestGrade 7 (some .int) 2 := ⟨gwi 692 (by decide +kernel) (by decide +kernel), gwi 693 (by decide +kernel) (by decide +kernel), gwi 694 (by decide +kernel) (by decide +kernel), nw_X5, gwi 695 (by decide +kernel) (by decide +kernel), ⟨rfl, by decide +kernel, by decide +kernel, by decide +kernel⟩⟩
theorem ca_X7_203 {G : Gl} {B : Bx} {cc : ByteArray} {ret : Option FieldType} {fr lo nL : Nat} {mn : String} {hh : List (Nat × Nat × Nat × Nat)} {pc : Nat} {ls : List (Nat × Value)} {st : List Value} {M M1 : Mem} {l0 : Nat} {l1 : Nat} {l2 : Int32} {x : Int32} (e : f_X5_greatestGrade l0 l1 l2 M = some (x, M1)) (hd : decode cc pc = .ok (.invokevirtual 203, 3)) (hcat : (st.map fun v => v.category).sum ≤ 8) (hR : 3 + 1 ≤ fr ∧ 8 + (7 + 11) + 67 ≤ lo) (k : V G (RX7, cc, ret, fr, lo, nL, mn, hh) B (pc + 3) ls (.int x :: st) M1) : V G (RX7, cc, ret, fr, lo, nL, mn, hh) B pc ls (.int l2 :: .ref l1 :: .ref l0 :: st) M := v_callVi (As := [.ref l1, .int l2]) (k_X5_greatestGrade e) wd_X7_203 clX5 (kd_X5_greatestGrade e) hd rfl rfl hcat hR k
set_option maxHeartbeats 4000000 in
set_option maxRecDepth 100000 in
theorem w_X5_stepIdentifier_J28 {G : Gl} {ρ0 : Nat → Nat} {M0 MF : Mem} {r : Unit} (k2 : Nat → Int32 → Mem → Option Mem) (h2 : ∀ (l0 : Nat) (l1 : Int32) (M : Mem), k2 l0 l1 M = some MF → V G (RX5, cX5_stepIdentifier, none, 1, 22, 2, "stepIdentifier", []) (ρ0, M0, cvV r, MF) 2 [(0, .ref l0), (1, .int l1)] [] M) (l0 : Nat) (l1 : Int32) (s0 : Int32) (s1 : Nat) (M : Mem) (h : f_X5_stepIdentifier_J28 k2 l0 l1 s0 s1 M = some MF) : V G (RX5, cX5_stepIdentifier, none, 1, 22, 2, "stepIdentifier", []) (ρ0, M0, cvV r, MF) 28 [(0, .ref l0), (1, .int l1)] [.int s0, .ref s1] M := by
  unfold f_X5_stepIdentifier_J28 at h
  obtain ⟨M1, e, h⟩ := bind_some h
  refine pt_X5_50 e dX5_stepIdentifier_28 ?_
  refine v_aload_n dX5_stepIdentifier_31 rfl 0 rfl ?_
  obtain ⟨v2, e, h⟩ := bind_some h
  refine gt_X5_29 e dX5_stepIdentifier_32 ?_
  refine v_aload_n dX5_stepIdentifier_35 rfl 0 rfl ?_
  obtain ⟨v3, e, h⟩ := bind_some h
  refine gt_X5_50 e dX5_stepIdentifier_36 ?_
  obtain ⟨v5, M4, e, h⟩ := bindP_some h
  refine ca_X5_98 e dX5_stepIdentifier_39 (Nat.le_of_ble_eq_true rfl) (by decide) ?_
  refine v_if_ge (tgt := 46) dX5_stepIdentifier_42 (by decide) (fun c6 => ?_) (fun c6 => ?_)
  · replace h := ifP c6 h
    refine v_iinc (ls' := [(1, .int (l1 + 1)), (0, .ref l0)]) dX5_stepIdentifier_46 1 rfl (v := 1) ci_1 (by decide) rfl ?_
    refine v_goto (tgt := 2) dX5_stepIdentifier_49 (by decide) ?_
    refine v_sub [1, 0] rfl ?_
    exact h2 l0 (l1 + 1) M4 h
  · replace h := ifN c6 h
    cases h
    exact v_vreturn dX5_stepIdentifier_45
set_option maxHeartbeats 4000000 in
set_option maxRecDepth 100000 in
theorem w_X5_stepIdentifier_L2 {G : Gl} {ρ0 : Nat → Nat} {M0 MF : Mem} {r : Unit} : ∀ (n : Nat) (l0 : Nat) (l1 : Int32) (M : Mem), f_X5_stepIdentifier_L2 n l0 l1 M = some MF → V G (RX5, cX5_stepIdentifier, none, 1, 22, 2, "stepIdentifier", []) (ρ0, M0, cvV r, MF) 2 [(0, .ref l0), (1, .int l1)] [] M := by
  intro n
  induction n with
  | zero => intro l0 l1 M h; cases h
  | succ n ih =>
    intro l0 l1 M h
    rw [f_X5_stepIdentifier_L2] at h
    refine v_iload_n dX5_stepIdentifier_2 rfl 1 rfl ?_
    refine v_bipush (v := 50) dX5_stepIdentifier_3 cb_50 ?_
    refine v_icmp_ge (tgt := 52) dX5_stepIdentifier_5 (by decide) (fun c4 => ?_) (fun c4 => ?_)
    · replace h := ifP c4 h
      cases h
      exact v_vreturn dX5_stepIdentifier_52
    · replace h := ifN c4 h
      refine v_aload_n dX5_stepIdentifier_8 rfl 0 rfl ?_
      refine v_aload_n dX5_stepIdentifier_9 rfl 0 rfl ?_
      obtain ⟨v1, e, h⟩ := bind_some h
      refine gt_X5_50 e dX5_stepIdentifier_10 ?_
      refine v_bipush (v := 50) dX5_stepIdentifier_13 cb_50 ?_
      refine v_icmp_lt (tgt := 22) dX5_stepIdentifier_15 (by decide) (fun c3 => ?_) (fun c3 => ?_)
      · replace h := ifP c3 h
        refine v_aload_n dX5_stepIdentifier_22 rfl 0 rfl ?_
        obtain ⟨v2, e, h⟩ := bind_some h
        refine gt_X5_50 e dX5_stepIdentifier_23 ?_
        refine v_iconst (v := 1) dX5_stepIdentifier_26 ci_1 ?_
        refine v_iadd dX5_stepIdentifier_27 ?_
        exact w_X5_stepIdentifier_J28 (f_X5_stepIdentifier_L2 n) ih l0 l1 (v2 + (1 : Int32)) l0 M h
      · replace h := ifN c3 h
        refine v_iconst (v := 1) dX5_stepIdentifier_18 ci_1 ?_
        refine v_goto (tgt := 28) dX5_stepIdentifier_19 (by decide) ?_
        exact w_X5_stepIdentifier_J28 (f_X5_stepIdentifier_L2 n) ih l0 l1 (1 : Int32) l0 M h
set_option maxHeartbeats 4000000 in
set_option maxRecDepth 100000 in
theorem w_X5_stepIdentifier {G : Gl} {ρ0 : Nat → Nat} {M0 MF : Mem} {r : Unit} (l0 : Nat) (M : Mem) (h : f_X5_stepIdentifier l0 M = some MF) : V G (RX5, cX5_stepIdentifier, none, 1, 22, 2, "stepIdentifier", []) (ρ0, M0, cvV r, MF) 0 [(0, .ref l0)] [] M := by
  unfold f_X5_stepIdentifier at h
  replace h := (ifS h).2
  refine v_iconst (v := 0) dX5_stepIdentifier_0 ci_0 ?_
  refine v_istore_n (ls' := [(1, .int (0 : Int32)), (0, .ref l0)]) dX5_stepIdentifier_1 rfl (by decide) rfl ?_
  refine v_sub [1, 0] rfl ?_
  exact w_X5_stepIdentifier_L2 FU l0 (0 : Int32) M h
theorem kd_X5_stepIdentifier {l0 : Nat} {M : Mem} {z : _} (h : f_X5_stepIdentifier l0 M = some z) : (mK M l0).1 = 5 := by
  unfold f_X5_stepIdentifier at h
  exact (ifS h).1
theorem k_X5_stepIdentifier {G : Gl} {l0 : Nat} {M MF : Mem} (h : f_X5_stepIdentifier l0 M = some MF) : CtrP G yX5_stepIdentifier cX5_stepIdentifier 2 none 1 22 [.ref l0] M (cvV ()) MF :=
  ctr_of (by decide +kernel) (Nat.le_of_ble_eq_true rfl) (fun ρ => w_X5_stepIdentifier (r := ()) l0 M h)
theorem wd_X7_277 : wdV RX7 277 RX5 yX5_stepIdentifier cX5_stepIdentifier 2 none 0 := ⟨gwi 746 (by decide +kernel) (by decide +kernel), gwi 747 (by decide +kernel) (by decide +kernel), gwi 748 (by decide +kernel) (by decide +kernel), nw_X5, gwi 749 (by decide +kernel) (by decide +kernel), ⟨rfl, by decide +kernel, by decide +kernel, by decide +kernel⟩⟩
theorem ca_X7_277 {G : Gl} {B : Bx} {cc : ByteArray} {ret : Option FieldType} {fr lo nL : Nat} {mn : String} {hh : List (Nat × Nat × Nat × Nat)} {pc : Nat} {ls : List (Nat × Value)} {st : List Value} {M M1 : Mem} {l0 : Nat} (e : f_X5_stepIdentifier l0 M = some M1) (hd : decode cc pc = .ok (.invokevirtual 277, 3)) (hcat : (st.map fun v => v.category).sum ≤ 8) (hR : 1 + 1 ≤ fr ∧ 8 + (2 + 11) + 22 ≤ lo) (k : V G (RX7, cc, ret, fr, lo, nL, mn, hh) B (pc + 3) ls (st) M1) : V G (RX7, cc, ret, fr, lo, nL, mn, hh) B pc ls (.ref l0 :: st) M := v_callV0 (As := []) (k_X5_stepIdentifier e) wd_X7_277 clX5 (kd_X5_stepIdentifier e) hd rfl rfl hcat hR k
set_option maxHeartbeats 4000000 in
set_option maxRecDepth 100000 in
theorem w_X6_init {G : Gl} {ρ0 : Nat → Nat} {M0 MF : Mem} {r : Unit} (l0 : Nat) (l1 : Nat) (M : Mem) (h : f_X6_init l0 l1 M = some MF) : V G (RX6, cX6_init, none, 1, 20, 2, "<init>", []) (ρ0, M0, cvV r, MF) 0 [(0, .ref l0), (1, .ref l1)] [] M := by
  unfold f_X6_init at h
  refine v_aload_n dX6_init_0 rfl 0 rfl ?_
  refine oi_X6 dX6_init_1 (by decide) (Nat.le_of_ble_eq_true rfl) ?_
  refine v_aload_n dX6_init_4 rfl 0 rfl ?_
  refine v_aload_n dX6_init_5 rfl 1 rfl ?_
  obtain ⟨M1, e, h⟩ := bind_some h
  refine pt_X6_9 e dX6_init_6 ?_
  refine v_aload_n dX6_init_9 rfl 0 rfl ?_
  refine v_bipush (v := 6) dX6_init_10 cb_6 ?_
  obtain ⟨v2, M3, e, h⟩ := bindP_some h
  refine v_newa_int dX6_init_12 aw_int e ?_
  obtain ⟨M4, e, h⟩ := bind_some h
  refine pt_X6_15 e dX6_init_14 ?_
  cases h
  exact v_vreturn dX6_init_17
theorem k_X6_init {G : Gl} {l0 : Nat} {l1 : Nat} {M MF : Mem} (h : f_X6_init l0 l1 M = some MF) : CtrP G yX6_init cX6_init 2 none 1 20 [.ref l0, .ref l1] M (cvV ()) MF :=
  ctr_of (by decide +kernel) (Nat.le_of_ble_eq_true rfl) (fun ρ => w_X6_init (r := ()) l0 l1 M h)
theorem wd_X7_30 : wdI RX7 30 yX6_init cX6_init 2 1 := ⟨gwi 344 (by decide +kernel) (by decide +kernel), gwi 345 (by decide +kernel) (by decide +kernel), nw_X6, gwi 346 (by decide +kernel) (by decide +kernel), rfl, ⟨by decide +kernel, by decide +kernel, by decide +kernel⟩⟩
theorem ca_X7_30 {G : Gl} {B : Bx} {cc : ByteArray} {ret : Option FieldType} {fr lo nL : Nat} {mn : String} {hh : List (Nat × Nat × Nat × Nat)} {pc : Nat} {ls : List (Nat × Value)} {st : List Value} {M M1 : Mem} {l0 : Nat} {l1 : Nat} (e : f_X6_init l0 l1 M = some M1) (hd : decode cc pc = .ok (.invokespecial 30, 3)) (hcat : (st.map fun v => v.category).sum ≤ 8) (hR : 1 + 1 ≤ fr ∧ 8 + (2 + 11) + 20 ≤ lo) (k : V G (RX7, cc, ret, fr, lo, nL, mn, hh) B (pc + 3) ls (st) M1) : V G (RX7, cc, ret, fr, lo, nL, mn, hh) B pc ls (.ref l1 :: .ref l0 :: st) M := v_callI (As := [.ref l1]) (k_X6_init e) wd_X7_30 hd rfl rfl hcat hR k
set_option maxHeartbeats 4000000 in
set_option maxRecDepth 100000 in
theorem w_X6_addMember {G : Gl} {ρ0 : Nat → Nat} {M0 MF : Mem} {r : Unit} (l0 : Nat) (l1 : Int32) (M : Mem) (h : f_X6_addMember l0 l1 M = some MF) : V G (RX6, cX6_addMember, none, 0, 0, 2, "addMember", []) (ρ0, M0, cvV r, MF) 0 [(0, .ref l0), (1, .int l1)] [] M := by
  unfold f_X6_addMember at h
  replace h := (ifS h).2
  refine v_aload_n dX6_addMember_0 rfl 0 rfl ?_
  obtain ⟨v1, e, h⟩ := bind_some h
  refine gt_X6_19 e dX6_addMember_1 ?_
  refine v_if_lt (tgt := 36) dX6_addMember_4 (by decide) (fun c9 => ?_) (fun c9 => ?_)
  · replace h := ifP c9 h
    cases h
    exact v_vreturn dX6_addMember_36
  · replace h := ifN c9 h
    refine v_aload_n dX6_addMember_7 rfl 0 rfl ?_
    obtain ⟨v2, e, h⟩ := bind_some h
    refine gt_X6_19 e dX6_addMember_8 ?_
    refine v_bipush (v := 6) dX6_addMember_11 cb_6 ?_
    refine v_icmp_ge (tgt := 36) dX6_addMember_13 (by decide) (fun c8 => ?_) (fun c8 => ?_)
    · replace h := ifP c8 h
      cases h
      exact v_vreturn dX6_addMember_36
    · replace h := ifN c8 h
      refine v_aload_n dX6_addMember_16 rfl 0 rfl ?_
      obtain ⟨v3, e, h⟩ := bind_some h
      refine gt_X6_15 e dX6_addMember_17 ?_
      refine v_aload_n dX6_addMember_20 rfl 0 rfl ?_
      obtain ⟨v4, e, h⟩ := bind_some h
      refine gt_X6_19 e dX6_addMember_21 ?_
      refine v_iload_n dX6_addMember_24 rfl 1 rfl ?_
      obtain ⟨M5, e, h⟩ := bind_some h
      refine v_iastore dX6_addMember_25 e ?_
      refine v_aload_n dX6_addMember_26 rfl 0 rfl ?_
      refine v_dup dX6_addMember_27 rfl ?_
      obtain ⟨v6, e, h⟩ := bind_some h
      refine gt_X6_19 e dX6_addMember_28 ?_
      refine v_iconst (v := 1) dX6_addMember_31 ci_1 ?_
      refine v_iadd dX6_addMember_32 ?_
      obtain ⟨M7, e, h⟩ := bind_some h
      refine pt_X6_19 e dX6_addMember_33 ?_
      cases h
      exact v_vreturn dX6_addMember_36
theorem kd_X6_addMember {l0 : Nat} {l1 : Int32} {M : Mem} {z : _} (h : f_X6_addMember l0 l1 M = some z) : (mK M l0).1 = 6 := by
  unfold f_X6_addMember at h
  exact (ifS h).1
theorem k_X6_addMember {G : Gl} {l0 : Nat} {l1 : Int32} {M MF : Mem} (h : f_X6_addMember l0 l1 M = some MF) : CtrP G yX6_addMember cX6_addMember 2 none 0 0 [.ref l0, .int l1] M (cvV ()) MF :=
  ctr_of (by decide +kernel) (Nat.le_of_ble_eq_true rfl) (fun ρ => w_X6_addMember (r := ()) l0 l1 M h)
theorem wd_X7_174 : wdV RX7 174 RX6 yX6_addMember cX6_addMember 2 none 1 := ⟨gwi 767 (by decide +kernel) (by decide +kernel), gwi 768 (by decide +kernel) (by decide +kernel), gwi 769 (by decide +kernel) (by decide +kernel), nw_X6, gwi 770 (by decide +kernel) (by decide +kernel), ⟨rfl, by decide +kernel, by decide +kernel, by decide +kernel⟩⟩
theorem ca_X7_174 {G : Gl} {B : Bx} {cc : ByteArray} {ret : Option FieldType} {fr lo nL : Nat} {mn : String} {hh : List (Nat × Nat × Nat × Nat)} {pc : Nat} {ls : List (Nat × Value)} {st : List Value} {M M1 : Mem} {l0 : Nat} {l1 : Int32} (e : f_X6_addMember l0 l1 M = some M1) (hd : decode cc pc = .ok (.invokevirtual 174, 3)) (hcat : (st.map fun v => v.category).sum ≤ 8) (hR : 0 + 1 ≤ fr ∧ 8 + (2 + 11) + 0 ≤ lo) (k : V G (RX7, cc, ret, fr, lo, nL, mn, hh) B (pc + 3) ls (st) M1) : V G (RX7, cc, ret, fr, lo, nL, mn, hh) B pc ls (.int l1 :: .ref l0 :: st) M := v_callV0 (As := [.int l1]) (k_X6_addMember e) wd_X7_174 clX6 (kd_X6_addMember e) hd rfl rfl hcat hR k
set_option maxHeartbeats 4000000 in
set_option maxRecDepth 100000 in
theorem w_X6_removeMember_J49 {G : Gl} {ρ0 : Nat → Nat} {M0 MF : Mem} {r : Unit} (l0 : Nat) (l2 : Int32) (M : Mem) (h : f_X6_removeMember_J49 l0 l2 M = some MF) : V G (RX6, cX6_removeMember, none, 0, 0, 4, "removeMember", []) (ρ0, M0, cvV r, MF) 49 [(0, .ref l0), (2, .int l2)] [] M := by
  unfold f_X6_removeMember_J49 at h
  refine v_aload_n dX6_removeMember_49 rfl 0 rfl ?_
  refine v_iload_n dX6_removeMember_50 rfl 1 rfl ?_
  obtain ⟨M1, e, h⟩ := bind_some h
  refine pt_X6_19 e dX6_removeMember_51 ?_
  cases h
  exact v_vreturn dX6_removeMember_54
set_option maxHeartbeats 4000000 in
set_option maxRecDepth 100000 in
theorem w_X6_removeMember_L4 {G : Gl} {ρ0 : Nat → Nat} {M0 MF : Mem} {r : Unit} : ∀ (n : Nat) (l0 : Nat) (l1 : Int32) (l2 : Int32) (l3 : Int32) (M : Mem), f_X6_removeMember_L4 n l0 l1 l2 l3 M = some MF → V G (RX6, cX6_removeMember, none, 0, 0, 4, "removeMember", []) (ρ0, M0, cvV r, MF) 4 [(0, .ref l0), (1, .int l1), (2, .int l2), (3, .int l3)] [] M := by
  intro n
  induction n with
  | zero => intro l0 l1 l2 l3 M h; cases h
  | succ n ih =>
    intro l0 l1 l2 l3 M h
    rw [f_X6_removeMember_L4] at h
    refine v_iload_n dX6_removeMember_4 rfl 3 rfl ?_
    refine v_aload_n dX6_removeMember_5 rfl 0 rfl ?_
    obtain ⟨v1, e, h⟩ := bind_some h
    refine gt_X6_19 e dX6_removeMember_6 ?_
    refine v_icmp_ge (tgt := 49) dX6_removeMember_9 (by decide) (fun c10 => ?_) (fun c10 => ?_)
    · replace h := ifP c10 h
      refine v_sub [0, 2] rfl ?_
      exact w_X6_removeMember_J49 l0 l2 M h
    · replace h := ifN c10 h
      refine v_iload_n dX6_removeMember_12 rfl 3 rfl ?_
      refine v_bipush (v := 6) dX6_removeMember_13 cb_6 ?_
      refine v_icmp_ge (tgt := 49) dX6_removeMember_15 (by decide) (fun c9 => ?_) (fun c9 => ?_)
      · replace h := ifP c9 h
        refine v_sub [0, 2] rfl ?_
        exact w_X6_removeMember_J49 l0 l2 M h
      · replace h := ifN c9 h
        refine v_aload_n dX6_removeMember_18 rfl 0 rfl ?_
        obtain ⟨v2, e, h⟩ := bind_some h
        refine gt_X6_15 e dX6_removeMember_19 ?_
        refine v_iload_n dX6_removeMember_22 rfl 3 rfl ?_
        obtain ⟨v3, e, h⟩ := bind_some h
        refine v_iaload dX6_removeMember_23 e ?_
        refine v_iload_n dX6_removeMember_24 rfl 1 rfl ?_
        refine v_icmp_eq (tgt := 43) dX6_removeMember_25 (by decide) (fun c8 => ?_) (fun c8 => ?_)
        · replace h := ifP c8 h
          refine v_iinc (ls' := [(3, .int (l3 + 1)), (0, .ref l0), (1, .int l1), (2, .int l2)]) dX6_removeMember_43 3 rfl (v := 1) ci_1 (by decide) rfl ?_
          refine v_goto (tgt := 4) dX6_removeMember_46 (by decide) ?_
          refine v_sub [1, 2, 3, 0] rfl ?_
          exact ih l0 l1 l2 (l3 + 1) M h
        · replace h := ifN c8 h
          refine v_aload_n dX6_removeMember_28 rfl 0 rfl ?_
          obtain ⟨v4, e, h⟩ := bind_some h
          refine gt_X6_15 e dX6_removeMember_29 ?_
          refine v_iload_n dX6_removeMember_32 rfl 2 rfl ?_
          refine v_aload_n dX6_removeMember_33 rfl 0 rfl ?_
          obtain ⟨v5, e, h⟩ := bind_some h
          refine gt_X6_15 e dX6_removeMember_34 ?_
          refine v_iload_n dX6_removeMember_37 rfl 3 rfl ?_
          obtain ⟨v6, e, h⟩ := bind_some h
          refine v_iaload dX6_removeMember_38 e ?_
          obtain ⟨M7, e, h⟩ := bind_some h
          refine v_iastore dX6_removeMember_39 e ?_
          refine v_iinc (ls' := [(2, .int (l2 + 1)), (0, .ref l0), (1, .int l1), (3, .int l3)]) dX6_removeMember_40 2 rfl (v := 1) ci_1 (by decide) rfl ?_
          refine v_iinc (ls' := [(3, .int (l3 + 1)), (2, .int (l2 + 1)), (0, .ref l0), (1, .int l1)]) dX6_removeMember_43 3 rfl (v := 1) ci_1 (by decide) rfl ?_
          refine v_goto (tgt := 4) dX6_removeMember_46 (by decide) ?_
          refine v_sub [2, 3, 1, 0] rfl ?_
          exact ih l0 l1 (l2 + 1) (l3 + 1) M7 h
set_option maxHeartbeats 4000000 in
set_option maxRecDepth 100000 in
theorem w_X6_removeMember {G : Gl} {ρ0 : Nat → Nat} {M0 MF : Mem} {r : Unit} (l0 : Nat) (l1 : Int32) (M : Mem) (h : f_X6_removeMember l0 l1 M = some MF) : V G (RX6, cX6_removeMember, none, 0, 0, 4, "removeMember", []) (ρ0, M0, cvV r, MF) 0 [(0, .ref l0), (1, .int l1)] [] M := by
  unfold f_X6_removeMember at h
  replace h := (ifS h).2
  refine v_iconst (v := 0) dX6_removeMember_0 ci_0 ?_
  refine v_istore_n (ls' := [(2, .int (0 : Int32)), (0, .ref l0), (1, .int l1)]) dX6_removeMember_1 rfl (by decide) rfl ?_
  refine v_iconst (v := 0) dX6_removeMember_2 ci_0 ?_
  refine v_istore_n (ls' := [(3, .int (0 : Int32)), (2, .int (0 : Int32)), (0, .ref l0), (1, .int l1)]) dX6_removeMember_3 rfl (by decide) rfl ?_
  refine v_sub [2, 3, 1, 0] rfl ?_
  exact w_X6_removeMember_L4 FU l0 l1 (0 : Int32) (0 : Int32) M h
theorem kd_X6_removeMember {l0 : Nat} {l1 : Int32} {M : Mem} {z : _} (h : f_X6_removeMember l0 l1 M = some z) : (mK M l0).1 = 6 := by
  unfold f_X6_removeMember at h
  exact (ifS h).1
theorem k_X6_removeMember {G : Gl} {l0 : Nat} {l1 : Int32} {M MF : Mem} (h : f_X6_removeMember l0 l1 M = some MF) : CtrP G yX6_removeMember cX6_removeMember 4 none 0 0 [.ref l0, .int l1] M (cvV ()) MF :=
  ctr_of (by decide +kernel) (Nat.le_of_ble_eq_true rfl) (fun ρ => w_X6_removeMember (r := ()) l0 l1 M h)
theorem wd_X7_189 : wdV RX7 189 RX6 yX6_removeMember cX6_removeMember 4 none 1 := ⟨gwi 655 (by decide +kernel) (by decide +kernel), gwi 656 (by decide +kernel) (by decide +kernel), gwi 657 (by decide +kernel) (by decide +kernel), nw_X6, gwi 658 (by decide +kernel) (by decide +kernel), ⟨rfl, by decide +kernel, by decide +kernel, by decide +kernel⟩⟩
theorem ca_X7_189 {G : Gl} {B : Bx} {cc : ByteArray} {ret : Option FieldType} {fr lo nL : Nat} {mn : String} {hh : List (Nat × Nat × Nat × Nat)} {pc : Nat} {ls : List (Nat × Value)} {st : List Value} {M M1 : Mem} {l0 : Nat} {l1 : Int32} (e : f_X6_removeMember l0 l1 M = some M1) (hd : decode cc pc = .ok (.invokevirtual 189, 3)) (hcat : (st.map fun v => v.category).sum ≤ 8) (hR : 0 + 1 ≤ fr ∧ 8 + (4 + 11) + 0 ≤ lo) (k : V G (RX7, cc, ret, fr, lo, nL, mn, hh) B (pc + 3) ls (st) M1) : V G (RX7, cc, ret, fr, lo, nL, mn, hh) B pc ls (.int l1 :: .ref l0 :: st) M := v_callV0 (As := [.int l1]) (k_X6_removeMember e) wd_X7_189 clX6 (kd_X6_removeMember e) hd rfl rfl hcat hR k
set_option maxHeartbeats 4000000 in
set_option maxRecDepth 100000 in
theorem w_X6_copyFrom_L18 {G : Gl} {ρ0 : Nat → Nat} {M0 MF : Mem} {r : Unit} : ∀ (n : Nat) (l0 : Nat) (l1 : Nat) (l2 : Int32) (M : Mem), f_X6_copyFrom_L18 n l0 l1 l2 M = some MF → V G (RX6, cX6_copyFrom, none, 0, 0, 3, "copyFrom", []) (ρ0, M0, cvV r, MF) 18 [(0, .ref l0), (1, .ref l1), (2, .int l2)] [] M := by
  intro n
  induction n with
  | zero => intro l0 l1 l2 M h; cases h
  | succ n ih =>
    intro l0 l1 l2 M h
    rw [f_X6_copyFrom_L18] at h
    refine v_iload_n dX6_copyFrom_18 rfl 2 rfl ?_
    refine v_bipush (v := 6) dX6_copyFrom_19 cb_6 ?_
    refine v_icmp_ge (tgt := 42) dX6_copyFrom_21 (by decide) (fun c5 => ?_) (fun c5 => ?_)
    · replace h := ifP c5 h
      refine v_aload_n dX6_copyFrom_42 rfl 0 rfl ?_
      refine v_aload_n dX6_copyFrom_43 rfl 1 rfl ?_
      obtain ⟨v1, e, h⟩ := bind_some h
      refine gt_X6_19 e dX6_copyFrom_44 ?_
      obtain ⟨M2, e, h⟩ := bind_some h
      refine pt_X6_19 e dX6_copyFrom_47 ?_
      cases h
      exact v_vreturn dX6_copyFrom_50
    · replace h := ifN c5 h
      refine v_aload_n dX6_copyFrom_24 rfl 0 rfl ?_
      obtain ⟨v1, e, h⟩ := bind_some h
      refine gt_X6_15 e dX6_copyFrom_25 ?_
      refine v_iload_n dX6_copyFrom_28 rfl 2 rfl ?_
      refine v_aload_n dX6_copyFrom_29 rfl 1 rfl ?_
      obtain ⟨v2, e, h⟩ := bind_some h
      refine gt_X6_15 e dX6_copyFrom_30 ?_
      refine v_iload_n dX6_copyFrom_33 rfl 2 rfl ?_
      obtain ⟨v3, e, h⟩ := bind_some h
      refine v_iaload dX6_copyFrom_34 e ?_
      obtain ⟨M4, e, h⟩ := bind_some h
      refine v_iastore dX6_copyFrom_35 e ?_
      refine v_iinc (ls' := [(2, .int (l2 + 1)), (0, .ref l0), (1, .ref l1)]) dX6_copyFrom_36 2 rfl (v := 1) ci_1 (by decide) rfl ?_
      refine v_goto (tgt := 18) dX6_copyFrom_39 (by decide) ?_
      refine v_sub [1, 2, 0] rfl ?_
      exact ih l0 l1 (l2 + 1) M4 h
set_option maxHeartbeats 4000000 in
set_option maxRecDepth 100000 in
theorem w_X6_copyFrom {G : Gl} {ρ0 : Nat → Nat} {M0 MF : Mem} {r : Unit} (l0 : Nat) (l1 : Nat) (M : Mem) (h : f_X6_copyFrom l0 l1 M = some MF) : V G (RX6, cX6_copyFrom, none, 0, 0, 3, "copyFrom", []) (ρ0, M0, cvV r, MF) 0 [(0, .ref l0), (1, .ref l1)] [] M := by
  unfold f_X6_copyFrom at h
  replace h := (ifS h).2
  refine v_aload_n dX6_copyFrom_0 rfl 0 rfl ?_
  refine v_aload_n dX6_copyFrom_1 rfl 1 rfl ?_
  obtain ⟨v1, e, h⟩ := bind_some h
  refine gt_X6_9 e dX6_copyFrom_2 ?_
  obtain ⟨M2, e, h⟩ := bind_some h
  refine pt_X6_9 e dX6_copyFrom_5 ?_
  refine v_aload_n dX6_copyFrom_8 rfl 0 rfl ?_
  refine v_aload_n dX6_copyFrom_9 rfl 1 rfl ?_
  obtain ⟨v3, e, h⟩ := bind_some h
  refine gt_X6_23 e dX6_copyFrom_10 ?_
  obtain ⟨M4, e, h⟩ := bind_some h
  refine pt_X6_23 e dX6_copyFrom_13 ?_
  refine v_iconst (v := 0) dX6_copyFrom_16 ci_0 ?_
  refine v_istore_n (ls' := [(2, .int (0 : Int32)), (0, .ref l0), (1, .ref l1)]) dX6_copyFrom_17 rfl (by decide) rfl ?_
  refine v_sub [1, 2, 0] rfl ?_
  exact w_X6_copyFrom_L18 FU l0 l1 (0 : Int32) M4 h
theorem kd_X6_copyFrom {l0 : Nat} {l1 : Nat} {M : Mem} {z : _} (h : f_X6_copyFrom l0 l1 M = some z) : (mK M l0).1 = 6 := by
  unfold f_X6_copyFrom at h
  exact (ifS h).1
theorem k_X6_copyFrom {G : Gl} {l0 : Nat} {l1 : Nat} {M MF : Mem} (h : f_X6_copyFrom l0 l1 M = some MF) : CtrP G yX6_copyFrom cX6_copyFrom 3 none 0 0 [.ref l0, .ref l1] M (cvV ()) MF :=
  ctr_of (by decide +kernel) (Nat.le_of_ble_eq_true rfl) (fun ρ => w_X6_copyFrom (r := ()) l0 l1 M h)
theorem wd_X7_67 : wdV RX7 67 RX6 yX6_copyFrom cX6_copyFrom 3 none 1 := ⟨gwi 560 (by decide +kernel) (by decide +kernel), gwi 561 (by decide +kernel) (by decide +kernel), gwi 562 (by decide +kernel) (by decide +kernel), nw_X6, gwi 563 (by decide +kernel) (by decide +kernel), ⟨rfl, by decide +kernel, by decide +kernel, by decide +kernel⟩⟩
theorem ca_X7_67 {G : Gl} {B : Bx} {cc : ByteArray} {ret : Option FieldType} {fr lo nL : Nat} {mn : String} {hh : List (Nat × Nat × Nat × Nat)} {pc : Nat} {ls : List (Nat × Value)} {st : List Value} {M M1 : Mem} {l0 : Nat} {l1 : Nat} (e : f_X6_copyFrom l0 l1 M = some M1) (hd : decode cc pc = .ok (.invokevirtual 67, 3)) (hcat : (st.map fun v => v.category).sum ≤ 8) (hR : 0 + 1 ≤ fr ∧ 8 + (3 + 11) + 0 ≤ lo) (k : V G (RX7, cc, ret, fr, lo, nL, mn, hh) B (pc + 3) ls (st) M1) : V G (RX7, cc, ret, fr, lo, nL, mn, hh) B pc ls (.ref l1 :: .ref l0 :: st) M := v_callV0 (As := [.ref l1]) (k_X6_copyFrom e) wd_X7_67 clX6 (kd_X6_copyFrom e) hd rfl rfl hcat hR k
set_option maxHeartbeats 4000000 in
set_option maxRecDepth 100000 in
theorem w_X9_init_L25 {G : Gl} {ρ0 : Nat → Nat} {M0 MF : Mem} {r : Unit} : ∀ (n : Nat) (l0 : Nat) (l1 : Nat) (l2 : Int32) (M : Mem), f_X9_init_L25 n l0 l1 l2 M = some MF → V G (RX9, cX9_init, none, 1, 20, 3, "<init>", []) (ρ0, M0, cvV r, MF) 25 [(0, .ref l0), (1, .ref l1), (2, .int l2)] [] M := by
  intro n
  induction n with
  | zero => intro l0 l1 l2 M h; cases h
  | succ n ih =>
    intro l0 l1 l2 M h
    rw [f_X9_init_L25] at h
    refine v_iload_n dX9_init_25 rfl 2 rfl ?_
    refine v_sipush (v := 512) dX9_init_26 cs_512 ?_
    refine v_icmp_ge (tgt := 45) dX9_init_29 (by decide) (fun c3 => ?_) (fun c3 => ?_)
    · replace h := ifP c3 h
      cases h
      exact v_vreturn dX9_init_45
    · replace h := ifN c3 h
      refine v_aload_n dX9_init_32 rfl 0 rfl ?_
      obtain ⟨v1, e, h⟩ := bind_some h
      refine gt_X9_11 e dX9_init_33 ?_
      refine v_iload_n dX9_init_36 rfl 2 rfl ?_
      refine v_aload_n dX9_init_37 rfl 1 rfl ?_
      obtain ⟨M2, e, h⟩ := bind_some h
      refine as_10 e dX9_init_38 ?_
      refine v_iinc (ls' := [(2, .int (l2 + 1)), (0, .ref l0), (1, .ref l1)]) dX9_init_39 2 rfl (v := 1) ci_1 (by decide) rfl ?_
      refine v_goto (tgt := 25) dX9_init_42 (by decide) ?_
      refine v_sub [1, 2, 0] rfl ?_
      exact ih l0 l1 (l2 + 1) M2 h
set_option maxHeartbeats 4000000 in
set_option maxRecDepth 100000 in
theorem w_X9_init {G : Gl} {ρ0 : Nat → Nat} {M0 MF : Mem} {r : Unit} (l0 : Nat) (l1 : Nat) (M : Mem) (h : f_X9_init l0 l1 M = some MF) : V G (RX9, cX9_init, none, 1, 20, 3, "<init>", []) (ρ0, M0, cvV r, MF) 0 [(0, .ref l0), (1, .ref l1)] [] M := by
  unfold f_X9_init at h
  refine v_aload_n dX9_init_0 rfl 0 rfl ?_
  refine oi_X9 dX9_init_1 (by decide) (Nat.le_of_ble_eq_true rfl) ?_
  refine v_aload_n dX9_init_4 rfl 0 rfl ?_
  refine v_sipush (v := 512) dX9_init_5 cs_512 ?_
  obtain ⟨v1, M2, e, h⟩ := bindP_some h
  refine na_X9_9 e dX9_init_8 ?_
  obtain ⟨M3, e, h⟩ := bind_some h
  refine pt_X9_11 e dX9_init_11 ?_
  refine v_aload_n dX9_init_14 rfl 0 rfl ?_
  refine v_sipush (v := 512) dX9_init_15 cs_512 ?_
  obtain ⟨v4, M5, e, h⟩ := bindP_some h
  refine v_newa_int dX9_init_18 aw_int e ?_
  obtain ⟨M6, e, h⟩ := bind_some h
  refine pt_X9_17 e dX9_init_20 ?_
  refine v_iconst (v := 0) dX9_init_23 ci_0 ?_
  refine v_istore_n (ls' := [(2, .int (0 : Int32)), (0, .ref l0), (1, .ref l1)]) dX9_init_24 rfl (by decide) rfl ?_
  refine v_sub [1, 2, 0] rfl ?_
  exact w_X9_init_L25 FU l0 l1 (0 : Int32) M6 h
theorem k_X9_init {G : Gl} {l0 : Nat} {l1 : Nat} {M MF : Mem} (h : f_X9_init l0 l1 M = some MF) : CtrP G yX9_init cX9_init 3 none 1 20 [.ref l0, .ref l1] M (cvV ()) MF :=
  ctr_of (by decide +kernel) (Nat.le_of_ble_eq_true rfl) (fun ρ => w_X9_init (r := ()) l0 l1 M h)
theorem wd_X7_50 : wdI RX7 50 yX9_init cX9_init 3 1 := ⟨gwi 372 (by decide +kernel) (by decide +kernel), gwi 373 (by decide +kernel) (by decide +kernel), nw_X9, gwi 374 (by decide +kernel) (by decide +kernel), rfl, ⟨by decide +kernel, by decide +kernel, by decide +kernel⟩⟩
theorem ca_X7_50 {G : Gl} {B : Bx} {cc : ByteArray} {ret : Option FieldType} {fr lo nL : Nat} {mn : String} {hh : List (Nat × Nat × Nat × Nat)} {pc : Nat} {ls : List (Nat × Value)} {st : List Value} {M M1 : Mem} {l0 : Nat} {l1 : Nat} (e : f_X9_init l0 l1 M = some M1) (hd : decode cc pc = .ok (.invokespecial 50, 3)) (hcat : (st.map fun v => v.category).sum ≤ 8) (hR : 1 + 1 ≤ fr ∧ 8 + (3 + 11) + 20 ≤ lo) (k : V G (RX7, cc, ret, fr, lo, nL, mn, hh) B (pc + 3) ls (st) M1) : V G (RX7, cc, ret, fr, lo, nL, mn, hh) B pc ls (.ref l1 :: .ref l0 :: st) M := v_callI (As := [.ref l1]) (k_X9_init e) wd_X7_50 hd rfl rfl hcat hR k
set_option maxHeartbeats 4000000 in
set_option maxRecDepth 100000 in
theorem w_X7_init_L132 {G : Gl} {ρ0 : Nat → Nat} {M0 MF : Mem} {r : Unit} : ∀ (n : Nat) (l0 : Nat) (l1 : Nat) (l2 : Int32) (M : Mem), f_X7_init_L132 n l0 l1 l2 M = some MF → V G (RX7, cX7_init, none, 5, 107, 3, "<init>", []) (ρ0, M0, cvV r, MF) 132 [(0, .ref l0), (1, .ref l1), (2, .int l2)] [] M := by
  intro n
  induction n with
  | zero => intro l0 l1 l2 M h; cases h
  | succ n ih =>
    intro l0 l1 l2 M h
    rw [f_X7_init_L132] at h
    refine v_iload_n dX7_init_132 rfl 2 rfl ?_
    refine gs_X7_38 dX7_init_133 ?_
    refine v_stlen (w := 2) (by decide) dX7_init_136 ?_
    refine v_icmp_ge (tgt := 157) dX7_init_137 (by decide) (fun c12 => ?_) (fun c12 => ?_)
    · replace h := ifP c12 h
      refine v_aload_n dX7_init_157 rfl 0 rfl ?_
      refine v_bipush (v := 10) dX7_init_158 cb_10 ?_
      obtain ⟨v1, M2, e, h⟩ := bindP_some h
      refine v_newa_int dX7_init_160 aw_int e ?_
      obtain ⟨M3, e, h⟩ := bind_some h
      refine pt_X7_45 e dX7_init_162 ?_
      refine v_aload_n dX7_init_165 rfl 0 rfl ?_
      obtain ⟨v4, M5, e, h⟩ := bindP_some h
      refine nx_X7_48 e dX7_init_166 ?_
      refine v_dup dX7_init_169 rfl ?_
      refine v_aload_n dX7_init_170 rfl 1 rfl ?_
      obtain ⟨M6, e, h⟩ := bind_some h
      refine ca_X7_50 e dX7_init_171 (Nat.le_of_ble_eq_true rfl) (by decide) ?_
      obtain ⟨M7, e, h⟩ := bind_some h
      refine pt_X7_51 e dX7_init_174 ?_
      refine v_aload_n dX7_init_177 rfl 0 rfl ?_
      obtain ⟨v8, M9, e, h⟩ := bindP_some h
      refine nx_X7_31 e dX7_init_178 ?_
      refine v_dup dX7_init_181 rfl ?_
      refine v_aload_n dX7_init_182 rfl 1 rfl ?_
      obtain ⟨M10, e, h⟩ := bind_some h
      refine ca_X7_37 e dX7_init_183 (Nat.le_of_ble_eq_true rfl) (by decide) ?_
      obtain ⟨M11, e, h⟩ := bind_some h
      refine pt_X7_55 e dX7_init_186 ?_
      cases h
      exact v_vreturn dX7_init_189
    · replace h := ifN c12 h
      refine v_aload_n dX7_init_140 rfl 0 rfl ?_
      obtain ⟨v1, e, h⟩ := bind_some h
      refine gt_X7_42 e dX7_init_141 ?_
      refine v_iload_n dX7_init_144 rfl 2 rfl ?_
      refine gs_X7_38 dX7_init_145 ?_
      refine v_iload_n dX7_init_148 rfl 2 rfl ?_
      obtain ⟨v2, e, h⟩ := bind_some h
      refine v_stld (w := 2) (by decide) dX7_init_149 e ?_
      obtain ⟨M3, e, h⟩ := bind_some h
      refine v_iastore dX7_init_150 e ?_
      refine v_iinc (ls' := [(2, .int (l2 + 1)), (0, .ref l0), (1, .ref l1)]) dX7_init_151 2 rfl (v := 1) ci_1 (by decide) rfl ?_
      refine v_goto (tgt := 132) dX7_init_154 (by decide) ?_
      refine v_sub [1, 2, 0] rfl ?_
      exact ih l0 l1 (l2 + 1) M3 h
set_option maxHeartbeats 4000000 in
set_option maxRecDepth 100000 in
theorem w_X7_init_L94 {G : Gl} {ρ0 : Nat → Nat} {M0 MF : Mem} {r : Unit} : ∀ (n : Nat) (l0 : Nat) (l1 : Nat) (l2 : Int32) (M : Mem), f_X7_init_L94 n l0 l1 l2 M = some MF → V G (RX7, cX7_init, none, 5, 107, 3, "<init>", []) (ρ0, M0, cvV r, MF) 94 [(0, .ref l0), (1, .ref l1), (2, .int l2)] [] M := by
  intro n
  induction n with
  | zero => intro l0 l1 l2 M h; cases h
  | succ n ih =>
    intro l0 l1 l2 M h
    rw [f_X7_init_L94] at h
    refine v_iload_n dX7_init_94 rfl 2 rfl ?_
    refine v_bipush (v := 8) dX7_init_95 cb_8 ?_
    refine v_icmp_ge (tgt := 120) dX7_init_97 (by decide) (fun c6 => ?_) (fun c6 => ?_)
    · replace h := ifP c6 h
      refine v_aload_n dX7_init_120 rfl 0 rfl ?_
      refine gs_X7_38 dX7_init_121 ?_
      refine v_stlen (w := 2) (by decide) dX7_init_124 ?_
      obtain ⟨v1, M2, e, h⟩ := bindP_some h
      refine v_newa_int dX7_init_125 aw_int e ?_
      obtain ⟨M3, e, h⟩ := bind_some h
      refine pt_X7_42 e dX7_init_127 ?_
      refine v_iconst (v := 0) dX7_init_130 ci_0 ?_
      refine v_istore_n (ls' := [(2, .int (0 : Int32)), (0, .ref l0), (1, .ref l1)]) dX7_init_131 rfl (by decide) rfl ?_
      refine v_sub [1, 2, 0] rfl ?_
      exact w_X7_init_L132 FU l0 l1 (0 : Int32) M3 h
    · replace h := ifN c6 h
      refine v_aload_n dX7_init_100 rfl 0 rfl ?_
      obtain ⟨v1, e, h⟩ := bind_some h
      refine gt_X7_33 e dX7_init_101 ?_
      refine v_iload_n dX7_init_104 rfl 2 rfl ?_
      obtain ⟨v2, M3, e, h⟩ := bindP_some h
      refine nx_X7_31 e dX7_init_105 ?_
      refine v_dup dX7_init_108 rfl ?_
      refine v_aload_n dX7_init_109 rfl 1 rfl ?_
      obtain ⟨M4, e, h⟩ := bind_some h
      refine ca_X7_37 e dX7_init_110 (Nat.le_of_ble_eq_true rfl) (by decide) ?_
      obtain ⟨M5, e, h⟩ := bind_some h
      refine as_1 e dX7_init_113 ?_
      refine v_iinc (ls' := [(2, .int (l2 + 1)), (0, .ref l0), (1, .ref l1)]) dX7_init_114 2 rfl (v := 1) ci_1 (by decide) rfl ?_
      refine v_goto (tgt := 94) dX7_init_117 (by decide) ?_
      refine v_sub [1, 2, 0] rfl ?_
      exact ih l0 l1 (l2 + 1) M5 h
set_option maxHeartbeats 4000000 in
set_option maxRecDepth 100000 in
theorem w_X7_init_L57 {G : Gl} {ρ0 : Nat → Nat} {M0 MF : Mem} {r : Unit} : ∀ (n : Nat) (l0 : Nat) (l1 : Nat) (l2 : Int32) (M : Mem), f_X7_init_L57 n l0 l1 l2 M = some MF → V G (RX7, cX7_init, none, 5, 107, 3, "<init>", []) (ρ0, M0, cvV r, MF) 57 [(0, .ref l0), (1, .ref l1), (2, .int l2)] [] M := by
  intro n
  induction n with
  | zero => intro l0 l1 l2 M h; cases h
  | succ n ih =>
    intro l0 l1 l2 M h
    rw [f_X7_init_L57] at h
    refine v_iload_n dX7_init_57 rfl 2 rfl ?_
    refine v_bipush (v := 36) dX7_init_58 cb_36 ?_
    refine v_icmp_ge (tgt := 83) dX7_init_60 (by decide) (fun c6 => ?_) (fun c6 => ?_)
    · replace h := ifP c6 h
      refine v_aload_n dX7_init_83 rfl 0 rfl ?_
      refine v_bipush (v := 8) dX7_init_84 cb_8 ?_
      obtain ⟨v1, M2, e, h⟩ := bindP_some h
      refine na_X7_31 e dX7_init_86 ?_
      obtain ⟨M3, e, h⟩ := bind_some h
      refine pt_X7_33 e dX7_init_89 ?_
      refine v_iconst (v := 0) dX7_init_92 ci_0 ?_
      refine v_istore_n (ls' := [(2, .int (0 : Int32)), (0, .ref l0), (1, .ref l1)]) dX7_init_93 rfl (by decide) rfl ?_
      refine v_sub [1, 2, 0] rfl ?_
      exact w_X7_init_L94 FU l0 l1 (0 : Int32) M3 h
    · replace h := ifN c6 h
      refine v_aload_n dX7_init_63 rfl 0 rfl ?_
      obtain ⟨v1, e, h⟩ := bind_some h
      refine gt_X7_26 e dX7_init_64 ?_
      refine v_iload_n dX7_init_67 rfl 2 rfl ?_
      obtain ⟨v2, M3, e, h⟩ := bindP_some h
      refine nx_X7_24 e dX7_init_68 ?_
      refine v_dup dX7_init_71 rfl ?_
      refine v_aload_n dX7_init_72 rfl 1 rfl ?_
      obtain ⟨M4, e, h⟩ := bind_some h
      refine ca_X7_30 e dX7_init_73 (Nat.le_of_ble_eq_true rfl) (by decide) ?_
      obtain ⟨M5, e, h⟩ := bind_some h
      refine as_6 e dX7_init_76 ?_
      refine v_iinc (ls' := [(2, .int (l2 + 1)), (0, .ref l0), (1, .ref l1)]) dX7_init_77 2 rfl (v := 1) ci_1 (by decide) rfl ?_
      refine v_goto (tgt := 57) dX7_init_80 (by decide) ?_
      refine v_sub [1, 2, 0] rfl ?_
      exact ih l0 l1 (l2 + 1) M5 h
set_option maxHeartbeats 4000000 in
set_option maxRecDepth 100000 in
theorem w_X7_init_L20 {G : Gl} {ρ0 : Nat → Nat} {M0 MF : Mem} {r : Unit} : ∀ (n : Nat) (l0 : Nat) (l1 : Nat) (l2 : Int32) (M : Mem), f_X7_init_L20 n l0 l1 l2 M = some MF → V G (RX7, cX7_init, none, 5, 107, 3, "<init>", []) (ρ0, M0, cvV r, MF) 20 [(0, .ref l0), (1, .ref l1), (2, .int l2)] [] M := by
  intro n
  induction n with
  | zero => intro l0 l1 l2 M h; cases h
  | succ n ih =>
    intro l0 l1 l2 M h
    rw [f_X7_init_L20] at h
    refine v_iload_n dX7_init_20 rfl 2 rfl ?_
    refine v_bipush (v := 6) dX7_init_21 cb_6 ?_
    refine v_icmp_ge (tgt := 46) dX7_init_23 (by decide) (fun c6 => ?_) (fun c6 => ?_)
    · replace h := ifP c6 h
      refine v_aload_n dX7_init_46 rfl 0 rfl ?_
      refine v_bipush (v := 36) dX7_init_47 cb_36 ?_
      obtain ⟨v1, M2, e, h⟩ := bindP_some h
      refine na_X7_24 e dX7_init_49 ?_
      obtain ⟨M3, e, h⟩ := bind_some h
      refine pt_X7_26 e dX7_init_52 ?_
      refine v_iconst (v := 0) dX7_init_55 ci_0 ?_
      refine v_istore_n (ls' := [(2, .int (0 : Int32)), (0, .ref l0), (1, .ref l1)]) dX7_init_56 rfl (by decide) rfl ?_
      refine v_sub [1, 2, 0] rfl ?_
      exact w_X7_init_L57 FU l0 l1 (0 : Int32) M3 h
    · replace h := ifN c6 h
      refine v_aload_n dX7_init_26 rfl 0 rfl ?_
      obtain ⟨v1, e, h⟩ := bind_some h
      refine gt_X7_17 e dX7_init_27 ?_
      refine v_iload_n dX7_init_30 rfl 2 rfl ?_
      obtain ⟨v2, M3, e, h⟩ := bindP_some h
      refine nx_X7_15 e dX7_init_31 ?_
      refine v_dup dX7_init_34 rfl ?_
      refine v_aload_n dX7_init_35 rfl 1 rfl ?_
      obtain ⟨M4, e, h⟩ := bind_some h
      refine ca_X7_21 e dX7_init_36 (Nat.le_of_ble_eq_true rfl) (by decide) ?_
      obtain ⟨M5, e, h⟩ := bind_some h
      refine as_0 e dX7_init_39 ?_
      refine v_iinc (ls' := [(2, .int (l2 + 1)), (0, .ref l0), (1, .ref l1)]) dX7_init_40 2 rfl (v := 1) ci_1 (by decide) rfl ?_
      refine v_goto (tgt := 20) dX7_init_43 (by decide) ?_
      refine v_sub [1, 2, 0] rfl ?_
      exact ih l0 l1 (l2 + 1) M5 h
set_option maxHeartbeats 4000000 in
set_option maxRecDepth 100000 in
theorem w_X7_init {G : Gl} {ρ0 : Nat → Nat} {M0 MF : Mem} {r : Unit} (l0 : Nat) (l1 : Nat) (M : Mem) (h : f_X7_init l0 l1 M = some MF) : V G (RX7, cX7_init, none, 5, 107, 3, "<init>", []) (ρ0, M0, cvV r, MF) 0 [(0, .ref l0), (1, .ref l1)] [] M := by
  unfold f_X7_init at h
  refine v_aload_n dX7_init_0 rfl 0 rfl ?_
  refine oi_X7 dX7_init_1 (by decide) (Nat.le_of_ble_eq_true rfl) ?_
  refine v_aload_n dX7_init_4 rfl 0 rfl ?_
  refine v_aload_n dX7_init_5 rfl 1 rfl ?_
  obtain ⟨M1, e, h⟩ := bind_some h
  refine pt_X7_9 e dX7_init_6 ?_
  refine v_aload_n dX7_init_9 rfl 0 rfl ?_
  refine v_bipush (v := 6) dX7_init_10 cb_6 ?_
  obtain ⟨v2, M3, e, h⟩ := bindP_some h
  refine na_X7_15 e dX7_init_12 ?_
  obtain ⟨M4, e, h⟩ := bind_some h
  refine pt_X7_17 e dX7_init_15 ?_
  refine v_iconst (v := 0) dX7_init_18 ci_0 ?_
  refine v_istore_n (ls' := [(2, .int (0 : Int32)), (0, .ref l0), (1, .ref l1)]) dX7_init_19 rfl (by decide) rfl ?_
  refine v_sub [1, 2, 0] rfl ?_
  exact w_X7_init_L20 FU l0 l1 (0 : Int32) M4 h
theorem k_X7_init {G : Gl} {l0 : Nat} {l1 : Nat} {M MF : Mem} (h : f_X7_init l0 l1 M = some MF) : CtrP G yX7_init cX7_init 3 none 5 107 [.ref l0, .ref l1] M (cvV ()) MF :=
  ctr_of (by decide +kernel) (Nat.le_of_ble_eq_true rfl) (fun ρ => w_X7_init (r := ()) l0 l1 M h)
theorem wd_X11_40 : wdI RX11 40 yX7_init cX7_init 3 1 := ⟨gwi 166 (by decide +kernel) (by decide +kernel), gwi 167 (by decide +kernel) (by decide +kernel), nw_X7, gwi 168 (by decide +kernel) (by decide +kernel), rfl, ⟨by decide +kernel, by decide +kernel, by decide +kernel⟩⟩
theorem ca_X11_40 {G : Gl} {B : Bx} {cc : ByteArray} {ret : Option FieldType} {fr lo nL : Nat} {mn : String} {hh : List (Nat × Nat × Nat × Nat)} {pc : Nat} {ls : List (Nat × Value)} {st : List Value} {M M1 : Mem} {l0 : Nat} {l1 : Nat} (e : f_X7_init l0 l1 M = some M1) (hd : decode cc pc = .ok (.invokespecial 40, 3)) (hcat : (st.map fun v => v.category).sum ≤ 8) (hR : 5 + 1 ≤ fr ∧ 8 + (3 + 11) + 107 ≤ lo) (k : V G (RX11, cc, ret, fr, lo, nL, mn, hh) B (pc + 3) ls (st) M1) : V G (RX11, cc, ret, fr, lo, nL, mn, hh) B pc ls (.ref l1 :: .ref l0 :: st) M := v_callI (As := [.ref l1]) (k_X7_init e) wd_X11_40 hd rfl rfl hcat hR k
