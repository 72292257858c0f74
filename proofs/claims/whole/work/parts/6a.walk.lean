set_option maxHeartbeats 4000000 in
set_option maxRecDepth 100000 in
theorem w_X12_init {G : Gl} {ρ0 : Nat → Nat} {M0 MF : Mem} {r : Unit} (l0 : Nat) (M : Mem) (h : f_X12_init l0 M = some MF) : V G (RX12, cX12_init, none, 1, 20, 1, "<init>", []) (ρ0, M0, cvV r, MF) 0 [(0, .ref l0)] [] M := by
  unfold f_X12_init at h
  refine v_aload_n dX12_init_0 rfl 0 rfl ?_
  refine oi_X12 dX12_init_1 (by decide) (Nat.le_of_ble_eq_true rfl) ?_
  refine v_aload_n dX12_init_4 rfl 0 rfl ?_
  refine v_sipush (v := 2718) dX12_init_5 cs_2718 ?_
  obtain ⟨v1, M2, e, h⟩ := bindP_some h
  refine v_newa_int dX12_init_8 aw_int e ?_
  obtain ⟨M3, e, h⟩ := bind_some h
  refine pt_X12_9 e dX12_init_10 ?_
  refine v_aload_n dX12_init_13 rfl 0 rfl ?_
  refine v_sipush (v := 3800) dX12_init_14 cs_3800 ?_
  obtain ⟨v4, M5, e, h⟩ := bindP_some h
  refine v_newa_long dX12_init_17 aw_long e ?_
  obtain ⟨M6, e, h⟩ := bind_some h
  refine pt_X12_13 e dX12_init_19 ?_
  refine v_aload_n dX12_init_22 rfl 0 rfl ?_
  refine v_bipush (v := 6) dX12_init_23 cb_6 ?_
  obtain ⟨v7, M8, e, h⟩ := bindP_some h
  refine v_newa_float dX12_init_25 aw_float e ?_
  obtain ⟨M9, e, h⟩ := bind_some h
  refine pt_X12_17 e dX12_init_27 ?_
  refine v_aload_n dX12_init_30 rfl 0 rfl ?_
  refine v_sipush (v := 2718) dX12_init_31 cs_2718 ?_
  obtain ⟨v10, M11, e, h⟩ := bindP_some h
  refine v_newa_int dX12_init_34 aw_int e ?_
  obtain ⟨M12, e, h⟩ := bind_some h
  refine pt_X12_21 e dX12_init_36 ?_
  refine v_aload_n dX12_init_39 rfl 0 rfl ?_
  refine v_sipush (v := 3800) dX12_init_40 cs_3800 ?_
  obtain ⟨v13, M14, e, h⟩ := bindP_some h
  refine v_newa_long dX12_init_43 aw_long e ?_
  obtain ⟨M15, e, h⟩ := bind_some h
  refine pt_X12_24 e dX12_init_45 ?_
  refine v_aload_n dX12_init_48 rfl 0 rfl ?_
  refine v_bipush (v := 6) dX12_init_49 cb_6 ?_
  obtain ⟨v16, M17, e, h⟩ := bindP_some h
  refine v_newa_float dX12_init_51 aw_float e ?_
  obtain ⟨M18, e, h⟩ := bind_some h
  refine pt_X12_27 e dX12_init_53 ?_
  refine v_aload_n dX12_init_56 rfl 0 rfl ?_
  refine v_bipush (v := 30) dX12_init_57 cb_30 ?_
  obtain ⟨v19, M20, e, h⟩ := bindP_some h
  refine v_newa_int dX12_init_59 aw_int e ?_
  obtain ⟨M21, e, h⟩ := bind_some h
  refine pt_X12_30 e dX12_init_61 ?_
  refine v_aload_n dX12_init_64 rfl 0 rfl ?_
  refine v_iconst (v := (-1)) dX12_init_65 ci_m1 ?_
  obtain ⟨M22, e, h⟩ := bind_some h
  refine pt_X12_33 e dX12_init_66 ?_
  refine v_aload_n dX12_init_69 rfl 0 rfl ?_
  refine v_iconst (v := 4) dX12_init_70 ci_4 ?_
  obtain ⟨v23, M24, e, h⟩ := bindP_some h
  refine v_newa_long dX12_init_71 aw_long e ?_
  obtain ⟨M25, e, h⟩ := bind_some h
  refine pt_X12_37 e dX12_init_73 ?_
  refine v_aload_n dX12_init_76 rfl 0 rfl ?_
  refine v_iconst (v := 4) dX12_init_77 ci_4 ?_
  obtain ⟨v26, M27, e, h⟩ := bindP_some h
  refine v_newa_long dX12_init_78 aw_long e ?_
  obtain ⟨M28, e, h⟩ := bind_some h
  refine pt_X12_40 e dX12_init_80 ?_
  refine v_aload_n dX12_init_83 rfl 0 rfl ?_
  refine v_iconst (v := 4) dX12_init_84 ci_4 ?_
  obtain ⟨v29, M30, e, h⟩ := bindP_some h
  refine v_newa_long dX12_init_85 aw_long e ?_
  obtain ⟨M31, e, h⟩ := bind_some h
  refine pt_X12_43 e dX12_init_87 ?_
  refine v_aload_n dX12_init_90 rfl 0 rfl ?_
  refine v_bipush (v := 6) dX12_init_91 cb_6 ?_
  obtain ⟨v32, M33, e, h⟩ := bindP_some h
  refine v_newa_int dX12_init_93 aw_int e ?_
  obtain ⟨M34, e, h⟩ := bind_some h
  refine pt_X12_46 e dX12_init_95 ?_
  refine v_aload_n dX12_init_98 rfl 0 rfl ?_
  refine v_iconst (v := 4) dX12_init_99 ci_4 ?_
  obtain ⟨v35, M36, e, h⟩ := bindP_some h
  refine v_newa_long dX12_init_100 aw_long e ?_
  obtain ⟨M37, e, h⟩ := bind_some h
  refine pt_X12_49 e dX12_init_102 ?_
  refine v_aload_n dX12_init_105 rfl 0 rfl ?_
  obtain ⟨v38, e, h⟩ := bind_some h
  refine gt_X12_9 e dX12_init_106 ?_
  refine v_iconst (v := 1) dX12_init_109 ci_1 ?_
  refine v_iconst (v := 3) dX12_init_110 ci_3 ?_
  obtain ⟨M39, e, h⟩ := bind_some h
  refine v_iastore dX12_init_111 e ?_
  refine v_aload_n dX12_init_112 rfl 0 rfl ?_
  obtain ⟨v40, e, h⟩ := bind_some h
  refine gt_X12_9 e dX12_init_113 ?_
  refine v_iconst (v := 3) dX12_init_116 ci_3 ?_
  refine v_bipush (v := 20) dX12_init_117 cb_20 ?_
  obtain ⟨M41, e, h⟩ := bind_some h
  refine v_iastore dX12_init_119 e ?_
  cases h
  exact v_vreturn dX12_init_120
theorem k_X12_init {G : Gl} {l0 : Nat} {M MF : Mem} (h : f_X12_init l0 M = some MF) : CtrP G yX12_init cX12_init 1 none 1 20 [.ref l0] M (cvV ()) MF :=
  ctr_of (by decide +kernel) (Nat.le_of_ble_eq_true rfl) (fun ρ => w_X12_init (r := ()) l0 M h)
set_option maxHeartbeats 4000000 in
set_option maxRecDepth 100000 in
theorem w_X12_thrown {G : Gl} {ρ0 : Nat → Nat} {M0 MF : Mem} {r : Int32} (l0 : Nat) (M : Mem) (h : f_X12_thrown l0 M = some (r, MF)) : V G (RX12, cX12_thrown, (some .int), 0, 0, 1, "thrown", []) (ρ0, M0, cvI r, MF) 0 [(0, .ref l0)] [] M := by
  unfold f_X12_thrown at h
  replace h := (ifS h).2
  refine v_aload_n dX12_thrown_0 rfl 0 rfl ?_
  obtain ⟨v1, e, h⟩ := bind_some h
  refine gt_X12_52 e dX12_thrown_1 ?_
  cases h
  exact v_ireturn dX12_thrown_4
theorem kd_X12_thrown {l0 : Nat} {M : Mem} {z : _} (h : f_X12_thrown l0 M = some z) : (mK M l0).1 = 12 := by
  unfold f_X12_thrown at h
  exact (ifS h).1
theorem k_X12_thrown {G : Gl} {l0 : Nat} {M MF : Mem} {r : Int32} (h : f_X12_thrown l0 M = some (r, MF)) : CtrP G yX12_thrown cX12_thrown 1 (some .int) 0 0 [.ref l0] M (cvI r) MF :=
  ctr_of (by decide +kernel) (Nat.le_of_ble_eq_true rfl) (fun ρ => w_X12_thrown l0 M h)
set_option maxHeartbeats 4000000 in
set_option maxRecDepth 100000 in
theorem w_X12_fails {G : Gl} {ρ0 : Nat → Nat} {M0 MF : Mem} {r : Int32} (l0 : Nat) (l1 : Int32) (M : Mem) (h : f_X12_fails l0 l1 M = some (r, MF)) : V G (RX12, cX12_fails, (some .int), 0, 0, 2, "fails", []) (ρ0, M0, cvI r, MF) 0 [(0, .ref l0), (1, .int l1)] [] M := by
  unfold f_X12_fails at h
  replace h := (ifS h).2
  refine v_aload_n dX12_fails_0 rfl 0 rfl ?_
  refine v_iload_n dX12_fails_1 rfl 1 rfl ?_
  obtain ⟨M1, e, h⟩ := bind_some h
  refine pt_X12_52 e dX12_fails_2 ?_
  refine v_iconst (v := 0) dX12_fails_5 ci_0 ?_
  cases h
  exact v_ireturn dX12_fails_6
theorem kd_X12_fails {l0 : Nat} {l1 : Int32} {M : Mem} {z : _} (h : f_X12_fails l0 l1 M = some z) : (mK M l0).1 = 12 := by
  unfold f_X12_fails at h
  exact (ifS h).1
theorem k_X12_fails {G : Gl} {l0 : Nat} {l1 : Int32} {M MF : Mem} {r : Int32} (h : f_X12_fails l0 l1 M = some (r, MF)) : CtrP G yX12_fails cX12_fails 2 (some .int) 0 0 [.ref l0, .int l1] M (cvI r) MF :=
  ctr_of (by decide +kernel) (Nat.le_of_ble_eq_true rfl) (fun ρ => w_X12_fails l0 l1 M h)
theorem wd_X12_86 : wdV RX12 86 RX12 yX12_fails cX12_fails 2 (some .int) 1 := ⟨gwi 1253 (by decide +kernel) (by decide +kernel), gwi 1255 (by decide +kernel) (by decide +kernel), gwi 27 (by decide +kernel) (by decide +kernel), nw_X12, gwi 1256 (by decide +kernel) (by decide +kernel), ⟨rfl, by decide +kernel, by decide +kernel, by decide +kernel⟩⟩
theorem ca_X12_86 {G : Gl} {B : Bx} {cc : ByteArray} {ret : Option FieldType} {fr lo nL : Nat} {mn : String} {hh : List (Nat × Nat × Nat × Nat)} {pc : Nat} {ls : List (Nat × Value)} {st : List Value} {M M1 : Mem} {l0 : Nat} {l1 : Int32} {x : Int32} (e : f_X12_fails l0 l1 M = some (x, M1)) (hd : decode cc pc = .ok (.invokevirtual 86, 3)) (hcat : (st.map fun v => v.category).sum ≤ 8) (hR : 0 + 1 ≤ fr ∧ 8 + (2 + 11) + 0 ≤ lo) (k : V G (RX12, cc, ret, fr, lo, nL, mn, hh) B (pc + 3) ls (.int x :: st) M1) : V G (RX12, cc, ret, fr, lo, nL, mn, hh) B pc ls (.int l1 :: .ref l0 :: st) M := v_callVi (As := [.int l1]) (k_X12_fails e) wd_X12_86 clX12 (kd_X12_fails e) hd rfl rfl hcat hR k
set_option maxHeartbeats 4000000 in
set_option maxRecDepth 100000 in
theorem w_X12_in {G : Gl} {ρ0 : Nat → Nat} {M0 MF : Mem} {r : Int32} (l0 : Int32) (l1 : Int32) (l2 : Int32) (M : Mem) (h : f_X12_in l0 l1 l2 M = some (r, MF)) : V G (RX12, cX12_in, (some .boolean), 0, 0, 3, "in", []) (ρ0, M0, cvI r, MF) 0 [(0, .int l0), (1, .int l1), (2, .int l2)] [] M := by
  unfold f_X12_in at h
  refine v_iload_n dX12_in_0 rfl 0 rfl ?_
  refine v_iload_n dX12_in_1 rfl 1 rfl ?_
  refine v_icmp_lt (tgt := 14) dX12_in_2 (by decide) (fun c2 => ?_) (fun c2 => ?_)
  · replace h := ifP c2 h
    refine v_iconst (v := 0) dX12_in_14 ci_0 ?_
    obtain ⟨hz, rfl, rfl⟩ := okZ_some h
    exact v_zreturn dX12_in_15 hz
  · replace h := ifN c2 h
    refine v_iload_n dX12_in_5 rfl 0 rfl ?_
    refine v_iload_n dX12_in_6 rfl 2 rfl ?_
    refine v_icmp_gt (tgt := 14) dX12_in_7 (by decide) (fun c1 => ?_) (fun c1 => ?_)
    · replace h := ifP c1 h
      refine v_iconst (v := 0) dX12_in_14 ci_0 ?_
      obtain ⟨hz, rfl, rfl⟩ := okZ_some h
      exact v_zreturn dX12_in_15 hz
    · replace h := ifN c1 h
      refine v_iconst (v := 1) dX12_in_10 ci_1 ?_
      refine v_goto (tgt := 15) dX12_in_11 (by decide) ?_
      obtain ⟨hz, rfl, rfl⟩ := okZ_some h
      exact v_zreturn dX12_in_15 hz
theorem k_X12_in {G : Gl} {l0 : Int32} {l1 : Int32} {l2 : Int32} {M MF : Mem} {r : Int32} (h : f_X12_in l0 l1 l2 M = some (r, MF)) : CtrP G yX12_in cX12_in 3 (some .boolean) 0 0 [.int l0, .int l1, .int l2] M (cvI r) MF :=
  ctr_of (by decide +kernel) (Nat.le_of_ble_eq_true rfl) (fun ρ => w_X12_in l0 l1 l2 M h)
theorem wd_X12_55 : wdT RX12 55 yX12_in cX12_in 3 (some .boolean) 3 := ⟨gwi 1250 (by decide +kernel) (by decide +kernel), gwi 1251 (by decide +kernel) (by decide +kernel), nw_X12, gwi 1252 (by decide +kernel) (by decide +kernel), ⟨by decide +kernel, by decide +kernel, by decide +kernel⟩⟩
theorem ca_X12_55 {G : Gl} {B : Bx} {cc : ByteArray} {ret : Option FieldType} {fr lo nL : Nat} {mn : String} {hh : List (Nat × Nat × Nat × Nat)} {pc : Nat} {ls : List (Nat × Value)} {st : List Value} {M M1 : Mem} {l0 : Int32} {l1 : Int32} {l2 : Int32} {x : Int32} (e : f_X12_in l0 l1 l2 M = some (x, M1)) (hd : decode cc pc = .ok (.invokestatic 55, 3)) (hcat : (st.map fun v => v.category).sum ≤ 8) (hR : 0 + 1 ≤ fr ∧ 8 + (3 + 11) + 0 ≤ lo) (k : V G (RX12, cc, ret, fr, lo, nL, mn, hh) B (pc + 3) ls (.int x :: st) M1) : V G (RX12, cc, ret, fr, lo, nL, mn, hh) B pc ls (.int l2 :: .int l1 :: .int l0 :: st) M := v_callSi (As := [.int l0, .int l1, .int l2]) (k_X12_in e) wd_X12_55 hd rfl rfl hcat hR k
set_option maxHeartbeats 4000000 in
set_option maxRecDepth 100000 in
theorem w_X12_isClient {G : Gl} {ρ0 : Nat → Nat} {M0 MF : Mem} {r : Int32} (l0 : Int32) (M : Mem) (h : f_X12_isClient l0 M = some (r, MF)) : V G (RX12, cX12_isClient, (some .boolean), 1, 22, 1, "isClient", []) (ρ0, M0, cvI r, MF) 0 [(0, .int l0)] [] M := by
  unfold f_X12_isClient at h
  refine v_iload_n dX12_isClient_0 rfl 0 rfl ?_
  refine v_iconst (v := 0) dX12_isClient_1 ci_0 ?_
  refine v_iconst (v := 5) dX12_isClient_2 ci_5 ?_
  obtain ⟨v2, M1, e, h⟩ := bindP_some h
  refine ca_X12_55 e dX12_isClient_3 (Nat.le_of_ble_eq_true rfl) (by decide) ?_
  obtain ⟨hz, rfl, rfl⟩ := okZ_some h
  exact v_zreturn dX12_isClient_6 hz
theorem k_X12_isClient {G : Gl} {l0 : Int32} {M MF : Mem} {r : Int32} (h : f_X12_isClient l0 M = some (r, MF)) : CtrP G yX12_isClient cX12_isClient 1 (some .boolean) 1 22 [.int l0] M (cvI r) MF :=
  ctr_of (by decide +kernel) (Nat.le_of_ble_eq_true rfl) (fun ρ => w_X12_isClient l0 M h)
theorem wd_X12_191 : wdT RX12 191 yX12_isClient cX12_isClient 1 (some .boolean) 1 := ⟨gwi 1272 (by decide +kernel) (by decide +kernel), gwi 1273 (by decide +kernel) (by decide +kernel), nw_X12, gwi 1274 (by decide +kernel) (by decide +kernel), ⟨by decide +kernel, by decide +kernel, by decide +kernel⟩⟩
theorem ca_X12_191 {G : Gl} {B : Bx} {cc : ByteArray} {ret : Option FieldType} {fr lo nL : Nat} {mn : String} {hh : List (Nat × Nat × Nat × Nat)} {pc : Nat} {ls : List (Nat × Value)} {st : List Value} {M M1 : Mem} {l0 : Int32} {x : Int32} (e : f_X12_isClient l0 M = some (x, M1)) (hd : decode cc pc = .ok (.invokestatic 191, 3)) (hcat : (st.map fun v => v.category).sum ≤ 8) (hR : 1 + 1 ≤ fr ∧ 8 + (1 + 11) + 22 ≤ lo) (k : V G (RX12, cc, ret, fr, lo, nL, mn, hh) B (pc + 3) ls (.int x :: st) M1) : V G (RX12, cc, ret, fr, lo, nL, mn, hh) B pc ls (.int l0 :: st) M := v_callSi (As := [.int l0]) (k_X12_isClient e) wd_X12_191 hd rfl rfl hcat hR k
set_option maxHeartbeats 4000000 in
set_option maxRecDepth 100000 in
theorem w_X12_lesser {G : Gl} {ρ0 : Nat → Nat} {M0 MF : Mem} {r : Int32} (l0 : Int32) (l1 : Int32) (M : Mem) (h : f_X12_lesser l0 l1 M = some (r, MF)) : V G (RX12, cX12_lesser, (some .int), 0, 0, 2, "lesser", []) (ρ0, M0, cvI r, MF) 0 [(0, .int l0), (1, .int l1)] [] M := by
  unfold f_X12_lesser at h
  refine v_iload_n dX12_lesser_0 rfl 0 rfl ?_
  refine v_iload_n dX12_lesser_1 rfl 1 rfl ?_
  refine v_icmp_ge (tgt := 9) dX12_lesser_2 (by decide) (fun c1 => ?_) (fun c1 => ?_)
  · replace h := ifP c1 h
    refine v_iload_n dX12_lesser_9 rfl 1 rfl ?_
    cases h
    exact v_ireturn dX12_lesser_10
  · replace h := ifN c1 h
    refine v_iload_n dX12_lesser_5 rfl 0 rfl ?_
    refine v_goto (tgt := 10) dX12_lesser_6 (by decide) ?_
    cases h
    exact v_ireturn dX12_lesser_10
theorem k_X12_lesser {G : Gl} {l0 : Int32} {l1 : Int32} {M MF : Mem} {r : Int32} (h : f_X12_lesser l0 l1 M = some (r, MF)) : CtrP G yX12_lesser cX12_lesser 2 (some .int) 0 0 [.int l0, .int l1] M (cvI r) MF :=
  ctr_of (by decide +kernel) (Nat.le_of_ble_eq_true rfl) (fun ρ => w_X12_lesser l0 l1 M h)
theorem wd_X12_160 : wdT RX12 160 yX12_lesser cX12_lesser 2 (some .int) 2 := ⟨gwi 1349 (by decide +kernel) (by decide +kernel), gwi 1350 (by decide +kernel) (by decide +kernel), nw_X12, gwi 1351 (by decide +kernel) (by decide +kernel), ⟨by decide +kernel, by decide +kernel, by decide +kernel⟩⟩
theorem ca_X12_160 {G : Gl} {B : Bx} {cc : ByteArray} {ret : Option FieldType} {fr lo nL : Nat} {mn : String} {hh : List (Nat × Nat × Nat × Nat)} {pc : Nat} {ls : List (Nat × Value)} {st : List Value} {M M1 : Mem} {l0 : Int32} {l1 : Int32} {x : Int32} (e : f_X12_lesser l0 l1 M = some (x, M1)) (hd : decode cc pc = .ok (.invokestatic 160, 3)) (hcat : (st.map fun v => v.category).sum ≤ 8) (hR : 0 + 1 ≤ fr ∧ 8 + (2 + 11) + 0 ≤ lo) (k : V G (RX12, cc, ret, fr, lo, nL, mn, hh) B (pc + 3) ls (.int x :: st) M1) : V G (RX12, cc, ret, fr, lo, nL, mn, hh) B pc ls (.int l1 :: .int l0 :: st) M := v_callSi (As := [.int l0, .int l1]) (k_X12_lesser e) wd_X12_160 hd rfl rfl hcat hR k
set_option maxHeartbeats 4000000 in
set_option maxRecDepth 100000 in
theorem w_X12_isOn {G : Gl} {ρ0 : Nat → Nat} {M0 MF : Mem} {r : Int32} (l0 : Nat) (l1 : Int32) (M : Mem) (h : f_X12_isOn l0 l1 M = some (r, MF)) : V G (RX12, cX12_isOn, (some .boolean), 0, 0, 2, "isOn", []) (ρ0, M0, cvI r, MF) 0 [(0, .ref l0), (1, .int l1)] [] M := by
  unfold f_X12_isOn at h
  replace h := (ifS h).2
  refine v_aload_n dX12_isOn_0 rfl 0 rfl ?_
  obtain ⟨v1, e, h⟩ := bind_some h
  refine gt_X12_9 e dX12_isOn_1 ?_
  refine v_bipush (v := 32) dX12_isOn_4 cb_32 ?_
  refine v_iload_n dX12_isOn_6 rfl 1 rfl ?_
  refine v_iadd dX12_isOn_7 ?_
  obtain ⟨v2, e, h⟩ := bind_some h
  refine v_iaload dX12_isOn_8 e ?_
  refine v_iconst (v := 1) dX12_isOn_9 ci_1 ?_
  refine v_icmp_ne (tgt := 17) dX12_isOn_10 (by decide) (fun c3 => ?_) (fun c3 => ?_)
  · replace h := ifN c3 h
    refine v_iconst (v := 0) dX12_isOn_17 ci_0 ?_
    obtain ⟨hz, rfl, rfl⟩ := okZ_some h
    exact v_zreturn dX12_isOn_18 hz
  · replace h := ifP c3 h
    refine v_iconst (v := 1) dX12_isOn_13 ci_1 ?_
    refine v_goto (tgt := 18) dX12_isOn_14 (by decide) ?_
    obtain ⟨hz, rfl, rfl⟩ := okZ_some h
    exact v_zreturn dX12_isOn_18 hz
theorem kd_X12_isOn {l0 : Nat} {l1 : Int32} {M : Mem} {z : _} (h : f_X12_isOn l0 l1 M = some z) : (mK M l0).1 = 12 := by
  unfold f_X12_isOn at h
  exact (ifS h).1
theorem k_X12_isOn {G : Gl} {l0 : Nat} {l1 : Int32} {M MF : Mem} {r : Int32} (h : f_X12_isOn l0 l1 M = some (r, MF)) : CtrP G yX12_isOn cX12_isOn 2 (some .boolean) 0 0 [.ref l0, .int l1] M (cvI r) MF :=
  ctr_of (by decide +kernel) (Nat.le_of_ble_eq_true rfl) (fun ρ => w_X12_isOn l0 l1 M h)
theorem wd_X12_107 : wdV RX12 107 RX12 yX12_isOn cX12_isOn 2 (some .boolean) 1 := ⟨gwi 1275 (by decide +kernel) (by decide +kernel), gwi 1277 (by decide +kernel) (by decide +kernel), gwi 28 (by decide +kernel) (by decide +kernel), nw_X12, gwi 1278 (by decide +kernel) (by decide +kernel), ⟨rfl, by decide +kernel, by decide +kernel, by decide +kernel⟩⟩
theorem ca_X12_107 {G : Gl} {B : Bx} {cc : ByteArray} {ret : Option FieldType} {fr lo nL : Nat} {mn : String} {hh : List (Nat × Nat × Nat × Nat)} {pc : Nat} {ls : List (Nat × Value)} {st : List Value} {M M1 : Mem} {l0 : Nat} {l1 : Int32} {x : Int32} (e : f_X12_isOn l0 l1 M = some (x, M1)) (hd : decode cc pc = .ok (.invokevirtual 107, 3)) (hcat : (st.map fun v => v.category).sum ≤ 8) (hR : 0 + 1 ≤ fr ∧ 8 + (2 + 11) + 0 ≤ lo) (k : V G (RX12, cc, ret, fr, lo, nL, mn, hh) B (pc + 3) ls (.int x :: st) M1) : V G (RX12, cc, ret, fr, lo, nL, mn, hh) B pc ls (.int l1 :: .ref l0 :: st) M := v_callVi (As := [.int l1]) (k_X12_isOn e) wd_X12_107 clX12 (kd_X12_isOn e) hd rfl rfl hcat hR k
set_option maxHeartbeats 4000000 in
set_option maxRecDepth 100000 in
theorem w_X12_sign {G : Gl} {ρ0 : Nat → Nat} {M0 MF : Mem} {r : Int32} (l0 : Int32) (M : Mem) (h : f_X12_sign l0 M = some (r, MF)) : V G (RX12, cX12_sign, (some .int), 1, 22, 1, "sign", []) (ρ0, M0, cvI r, MF) 0 [(0, .int l0)] [] M := by
  unfold f_X12_sign at h
  refine v_iload_n dX12_sign_0 rfl 0 rfl ?_
  refine v_bipush (v := 48) dX12_sign_1 cb_48 ?_
  refine v_bipush (v := 57) dX12_sign_3 cb_57 ?_
  obtain ⟨v2, M1, e, h⟩ := bindP_some h
  refine ca_X12_55 e dX12_sign_5 (Nat.le_of_ble_eq_true rfl) (by decide) ?_
  refine v_if_eq (tgt := 20) dX12_sign_8 (by decide) (fun c6 => ?_) (fun c6 => ?_)
  · replace h := ifP c6 h
    refine v_iload_n dX12_sign_20 rfl 0 rfl ?_
    refine v_bipush (v := 97) dX12_sign_21 cb_97 ?_
    refine v_bipush (v := 122) dX12_sign_23 cb_122 ?_
    obtain ⟨v4, M3, e, h⟩ := bindP_some h
    refine ca_X12_55 e dX12_sign_25 (Nat.le_of_ble_eq_true rfl) (by decide) ?_
    refine v_if_eq (tgt := 41) dX12_sign_28 (by decide) (fun c5 => ?_) (fun c5 => ?_)
    · replace h := ifP c5 h
      refine v_iconst (v := 0) dX12_sign_41 ci_0 ?_
      cases h
      exact v_ireturn dX12_sign_42
    · replace h := ifN c5 h
      refine v_iload_n dX12_sign_31 rfl 0 rfl ?_
      refine v_bipush (v := 97) dX12_sign_32 cb_97 ?_
      refine v_isub dX12_sign_34 ?_
      refine v_bipush (v := 11) dX12_sign_35 cb_11 ?_
      refine v_iadd dX12_sign_37 ?_
      refine v_goto (tgt := 42) dX12_sign_38 (by decide) ?_
      cases h
      exact v_ireturn dX12_sign_42
  · replace h := ifN c6 h
    refine v_iload_n dX12_sign_11 rfl 0 rfl ?_
    refine v_bipush (v := 48) dX12_sign_12 cb_48 ?_
    refine v_isub dX12_sign_14 ?_
    refine v_iconst (v := 1) dX12_sign_15 ci_1 ?_
    refine v_iadd dX12_sign_16 ?_
    refine v_goto (tgt := 42) dX12_sign_17 (by decide) ?_
    cases h
    exact v_ireturn dX12_sign_42
theorem k_X12_sign {G : Gl} {l0 : Int32} {M MF : Mem} {r : Int32} (h : f_X12_sign l0 M = some (r, MF)) : CtrP G yX12_sign cX12_sign 1 (some .int) 1 22 [.int l0] M (cvI r) MF :=
  ctr_of (by decide +kernel) (Nat.le_of_ble_eq_true rfl) (fun ρ => w_X12_sign l0 M h)
theorem wd_X12_62 : wdT RX12 62 yX12_sign cX12_sign 1 (some .int) 1 := ⟨gwi 1424 (by decide +kernel) (by decide +kernel), gwi 1425 (by decide +kernel) (by decide +kernel), nw_X12, gwi 1426 (by decide +kernel) (by decide +kernel), ⟨by decide +kernel, by decide +kernel, by decide +kernel⟩⟩
theorem ca_X12_62 {G : Gl} {B : Bx} {cc : ByteArray} {ret : Option FieldType} {fr lo nL : Nat} {mn : String} {hh : List (Nat × Nat × Nat × Nat)} {pc : Nat} {ls : List (Nat × Value)} {st : List Value} {M M1 : Mem} {l0 : Int32} {x : Int32} (e : f_X12_sign l0 M = some (x, M1)) (hd : decode cc pc = .ok (.invokestatic 62, 3)) (hcat : (st.map fun v => v.category).sum ≤ 8) (hR : 1 + 1 ≤ fr ∧ 8 + (1 + 11) + 22 ≤ lo) (k : V G (RX12, cc, ret, fr, lo, nL, mn, hh) B (pc + 3) ls (.int x :: st) M1) : V G (RX12, cc, ret, fr, lo, nL, mn, hh) B pc ls (.int l0 :: st) M := v_callSi (As := [.int l0]) (k_X12_sign e) wd_X12_62 hd rfl rfl hcat hR k
set_option maxHeartbeats 4000000 in
set_option maxRecDepth 100000 in
theorem w_X12_signHere {G : Gl} {ρ0 : Nat → Nat} {M0 MF : Mem} {r : Int32} (l0 : Nat) (l1 : Int32) (M : Mem) (h : f_X12_signHere l0 l1 M = some (r, MF)) : V G (RX12, cX12_signHere, (some .int), 2, 42, 2, "signHere", []) (ρ0, M0, cvI r, MF) 0 [(0, .ref l0), (1, .int l1)] [] M := by
  unfold f_X12_signHere at h
  replace h := (ifS h).2
  refine v_iload_n dX12_signHere_0 rfl 1 rfl ?_
  refine v_aload_n dX12_signHere_1 rfl 0 rfl ?_
  obtain ⟨v1, e, h⟩ := bind_some h
  refine gt_X12_59 e dX12_signHere_2 ?_
  refine v_icmp_ge (tgt := 20) dX12_signHere_5 (by decide) (fun c6 => ?_) (fun c6 => ?_)
  · replace h := ifP c6 h
    refine v_iconst (v := 0) dX12_signHere_20 ci_0 ?_
    cases h
    exact v_ireturn dX12_signHere_21
  · replace h := ifN c6 h
    refine v_aload_n dX12_signHere_8 rfl 0 rfl ?_
    obtain ⟨v2, e, h⟩ := bind_some h
    refine gt_X12_30 e dX12_signHere_9 ?_
    refine v_iload_n dX12_signHere_12 rfl 1 rfl ?_
    obtain ⟨v3, e, h⟩ := bind_some h
    refine v_iaload dX12_signHere_13 e ?_
    obtain ⟨v5, M4, e, h⟩ := bindP_some h
    refine ca_X12_62 e dX12_signHere_14 (Nat.le_of_ble_eq_true rfl) (by decide) ?_
    refine v_goto (tgt := 21) dX12_signHere_17 (by decide) ?_
    cases h
    exact v_ireturn dX12_signHere_21
theorem kd_X12_signHere {l0 : Nat} {l1 : Int32} {M : Mem} {z : _} (h : f_X12_signHere l0 l1 M = some z) : (mK M l0).1 = 12 := by
  unfold f_X12_signHere at h
  exact (ifS h).1
theorem k_X12_signHere {G : Gl} {l0 : Nat} {l1 : Int32} {M MF : Mem} {r : Int32} (h : f_X12_signHere l0 l1 M = some (r, MF)) : CtrP G yX12_signHere cX12_signHere 2 (some .int) 2 42 [.ref l0, .int l1] M (cvI r) MF :=
  ctr_of (by decide +kernel) (Nat.le_of_ble_eq_true rfl) (fun ρ => w_X12_signHere l0 l1 M h)
theorem wd_X12_69 : wdV RX12 69 RX12 yX12_signHere cX12_signHere 2 (some .int) 1 := ⟨gwi 1420 (by decide +kernel) (by decide +kernel), gwi 1422 (by decide +kernel) (by decide +kernel), gwi 57 (by decide +kernel) (by decide +kernel), nw_X12, gwi 1423 (by decide +kernel) (by decide +kernel), ⟨rfl, by decide +kernel, by decide +kernel, by decide +kernel⟩⟩
theorem ca_X12_69 {G : Gl} {B : Bx} {cc : ByteArray} {ret : Option FieldType} {fr lo nL : Nat} {mn : String} {hh : List (Nat × Nat × Nat × Nat)} {pc : Nat} {ls : List (Nat × Value)} {st : List Value} {M M1 : Mem} {l0 : Nat} {l1 : Int32} {x : Int32} (e : f_X12_signHere l0 l1 M = some (x, M1)) (hd : decode cc pc = .ok (.invokevirtual 69, 3)) (hcat : (st.map fun v => v.category).sum ≤ 8) (hR : 2 + 1 ≤ fr ∧ 8 + (2 + 11) + 42 ≤ lo) (k : V G (RX12, cc, ret, fr, lo, nL, mn, hh) B (pc + 3) ls (.int x :: st) M1) : V G (RX12, cc, ret, fr, lo, nL, mn, hh) B pc ls (.int l1 :: .ref l0 :: st) M := v_callVi (As := [.int l1]) (k_X12_signHere e) wd_X12_69 clX12 (kd_X12_signHere e) hd rfl rfl hcat hR k
set_option maxHeartbeats 4000000 in
set_option maxRecDepth 100000 in
theorem w_X12_reads_J300 {G : Gl} {ρ0 : Nat → Nat} {M0 MF : Mem} {r : Int32} (k34 : Nat → Int32 → Int32 → Int32 → Mem → Option (Int32 × Mem)) (h34 : ∀ (l0 : Nat) (l1 : Int32) (l2 : Int32) (l3 : Int32) (M : Mem), k34 l0 l1 l2 l3 M = some (r, MF) → V G (RX12, cX12_reads, (some .boolean), 3, 63, 11, "reads", []) (ρ0, M0, cvI r, MF) 34 [(0, .ref l0), (1, .int l1), (2, .int l2), (3, .int l3)] [] M) (l0 : Nat) (l1 : Int32) (l2 : Int32) (l3 : Int32) (s0 : Int32) (s1 : Nat) (M : Mem) (h : f_X12_reads_J300 k34 l0 l1 l2 l3 s0 s1 M = some (r, MF)) : V G (RX12, cX12_reads, (some .boolean), 3, 63, 11, "reads", []) (ρ0, M0, cvI r, MF) 300 [(0, .ref l0), (1, .int l1), (2, .int l2), (3, .int l3)] [.int s0, .ref s1] M := by
  unfold f_X12_reads_J300 at h
  obtain ⟨M1, e, h⟩ := bind_some h
  refine pt_X12_33 e dX12_reads_300 ?_
  refine v_iinc (ls' := [(2, .int (l2 + 1)), (0, .ref l0), (1, .int l1), (3, .int l3)]) dX12_reads_303 2 rfl (v := 1) ci_1 (by decide) rfl ?_
  refine v_goto (tgt := 34) dX12_reads_306 (by decide) ?_
  refine v_sub [1, 2, 0, 3] rfl ?_
  exact h34 l0 l1 (l2 + 1) l3 M1 h
set_option maxHeartbeats 4000000 in
set_option maxRecDepth 100000 in
theorem w_X12_reads_J289 {G : Gl} {ρ0 : Nat → Nat} {M0 MF : Mem} {r : Int32} (k34 : Nat → Int32 → Int32 → Int32 → Mem → Option (Int32 × Mem)) (h34 : ∀ (l0 : Nat) (l1 : Int32) (l2 : Int32) (l3 : Int32) (M : Mem), k34 l0 l1 l2 l3 M = some (r, MF) → V G (RX12, cX12_reads, (some .boolean), 3, 63, 11, "reads", []) (ρ0, M0, cvI r, MF) 34 [(0, .ref l0), (1, .int l1), (2, .int l2), (3, .int l3)] [] M) (l0 : Nat) (l1 : Int32) (l2 : Int32) (s0 : Int32) (M : Mem) (h : f_X12_reads_J289 k34 l0 l1 l2 s0 M = some (r, MF)) : V G (RX12, cX12_reads, (some .boolean), 3, 63, 11, "reads", []) (ρ0, M0, cvI r, MF) 289 [(0, .ref l0), (1, .int l1), (2, .int l2)] [.int s0] M := by
  unfold f_X12_reads_J289 at h
  refine v_istore_n (ls' := [(3, .int s0), (0, .ref l0), (1, .int l1), (2, .int l2)]) dX12_reads_289 rfl (by decide) rfl ?_
  refine v_aload_n dX12_reads_290 rfl 1 rfl ?_
  refine v_iload_n dX12_reads_291 rfl 0 rfl ?_
  refine v_if_eq (tgt := 299) dX12_reads_292 (by decide) (fun c1 => ?_) (fun c1 => ?_)
  · replace h := ifP c1 h
    refine v_iload_n dX12_reads_299 rfl 3 rfl ?_
    refine v_sub [1, 2, 3, 0] rfl ?_
    exact w_X12_reads_J300 k34 h34 l0 l1 l2 s0 l2 l0 M h
  · replace h := ifN c1 h
    refine v_iconst (v := (-1)) dX12_reads_295 ci_m1 ?_
    refine v_goto (tgt := 300) dX12_reads_296 (by decide) ?_
    refine v_sub [1, 2, 3, 0] rfl ?_
    exact w_X12_reads_J300 k34 h34 l0 l1 l2 s0 (-1 : Int32) l0 M h
theorem w_X12_reads_J288 {G : Gl} {ρ0 : Nat → Nat} {M0 MF : Mem} {r : Int32} (k34 : Nat → Int32 → Int32 → Int32 → Mem → Option (Int32 × Mem)) (h34 : ∀ (l0 : Nat) (l1 : Int32) (l2 : Int32) (l3 : Int32) (M : Mem), k34 l0 l1 l2 l3 M = some (r, MF) → V G (RX12, cX12_reads, (some .boolean), 3, 63, 11, "reads", []) (ρ0, M0, cvI r, MF) 34 [(0, .ref l0), (1, .int l1), (2, .int l2), (3, .int l3)] [] M) (l0 : Nat) (l1 : Int32) (l2 : Int32) (M : Mem) (h : f_X12_reads_J288 k34 l0 l1 l2 M = some (r, MF)) : V G (RX12, cX12_reads, (some .boolean), 3, 63, 11, "reads", []) (ρ0, M0, cvI r, MF) 288 [(0, .ref l0), (1, .int l1), (2, .int l2)] [] M := by
  unfold f_X12_reads_J288 at h
  refine v_iconst (v := 0) dX12_reads_288 ci_0 ?_
  exact w_X12_reads_J289 k34 h34 l0 l1 l2 (0 : Int32) M h
set_option maxHeartbeats 4000000 in
set_option maxRecDepth 100000 in
theorem w_X12_reads_J241 {G : Gl} {ρ0 : Nat → Nat} {M0 MF : Mem} {r : Int32} (k34 : Nat → Int32 → Int32 → Int32 → Mem → Option (Int32 × Mem)) (h34 : ∀ (l0 : Nat) (l1 : Int32) (l2 : Int32) (l3 : Int32) (M : Mem), k34 l0 l1 l2 l3 M = some (r, MF) → V G (RX12, cX12_reads, (some .boolean), 3, 63, 11, "reads", []) (ρ0, M0, cvI r, MF) 34 [(0, .ref l0), (1, .int l1), (2, .int l2), (3, .int l3)] [] M) (l0 : Nat) (l1 : Int32) (l2 : Int32) (l3 : Int32) (l6 : Int32) (s0 : Int64) (s1 : Int32) (s2 : Nat) (M : Mem) (h : f_X12_reads_J241 k34 l0 l1 l2 l3 l6 s0 s1 s2 M = some (r, MF)) : V G (RX12, cX12_reads, (some .boolean), 3, 63, 11, "reads", []) (ρ0, M0, cvI r, MF) 241 [(0, .ref l0), (1, .int l1), (2, .int l2), (3, .int l3), (6, .int l6)] [.long s0, .int s1, .ref s2] M := by
  unfold f_X12_reads_J241 at h
  obtain ⟨M1, e, h⟩ := bind_some h
  refine v_lastore dX12_reads_241 e ?_
  refine v_aload_n dX12_reads_242 rfl 0 rfl ?_
  refine v_dup dX12_reads_243 rfl ?_
  obtain ⟨v2, e, h⟩ := bind_some h
  refine gt_X12_66 e dX12_reads_244 ?_
  refine v_iconst (v := 1) dX12_reads_247 ci_1 ?_
  refine v_iadd dX12_reads_248 ?_
  obtain ⟨M3, e, h⟩ := bind_some h
  refine pt_X12_66 e dX12_reads_249 ?_
  refine v_iload_n dX12_reads_252 rfl 2 rfl ?_
  refine v_aload_n dX12_reads_253 rfl 0 rfl ?_
  obtain ⟨v4, e, h⟩ := bind_some h
  refine gt_X12_59 e dX12_reads_254 ?_
  refine v_icmp_ge (tgt := 306) dX12_reads_257 (by decide) (fun c11 => ?_) (fun c11 => ?_)
  · replace h := ifP c11 h
    refine v_goto (tgt := 34) dX12_reads_306 (by decide) ?_
    refine v_sub [0, 1, 2, 3] rfl ?_
    exact h34 l0 l1 l2 l3 M3 h
  · replace h := ifN c11 h
    refine v_iload dX12_reads_260 4 rfl ?_
    refine v_if_ne (tgt := 288) dX12_reads_262 (by decide) (fun c10 => ?_) (fun c10 => ?_)
    · replace h := ifN c10 h
      refine v_sub [0, 1, 2] rfl ?_
      exact w_X12_reads_J288 k34 h34 l0 l1 l2 M3 h
    · replace h := ifP c10 h
      refine v_aload_n dX12_reads_265 rfl 0 rfl ?_
      obtain ⟨v5, e, h⟩ := bind_some h
      refine gt_X12_66 e dX12_reads_266 ?_
      refine v_iconst (v := 4) dX12_reads_269 ci_4 ?_
      refine v_icmp_ge (tgt := 288) dX12_reads_270 (by decide) (fun c9 => ?_) (fun c9 => ?_)
      · replace h := ifP c9 h
        refine v_sub [0, 1, 2] rfl ?_
        exact w_X12_reads_J288 k34 h34 l0 l1 l2 M3 h
      · replace h := ifN c9 h
        refine v_aload_n dX12_reads_273 rfl 0 rfl ?_
        obtain ⟨v6, e, h⟩ := bind_some h
        refine gt_X12_30 e dX12_reads_274 ?_
        refine v_iload_n dX12_reads_277 rfl 2 rfl ?_
        obtain ⟨v7, e, h⟩ := bind_some h
        refine v_iaload dX12_reads_278 e ?_
        refine v_bipush (v := 47) dX12_reads_279 cb_47 ?_
        refine v_icmp_ne (tgt := 288) dX12_reads_281 (by decide) (fun c8 => ?_) (fun c8 => ?_)
        · replace h := ifN c8 h
          refine v_sub [0, 1, 2] rfl ?_
          exact w_X12_reads_J288 k34 h34 l0 l1 l2 M3 h
        · replace h := ifP c8 h
          refine v_iconst (v := 1) dX12_reads_284 ci_1 ?_
          refine v_goto (tgt := 289) dX12_reads_285 (by decide) ?_
          refine v_sub [0, 1, 2] rfl ?_
          exact w_X12_reads_J289 k34 h34 l0 l1 l2 (1 : Int32) M3 h
set_option maxHeartbeats 4000000 in
set_option maxRecDepth 100000 in
theorem w_X12_reads_J191 {G : Gl} {ρ0 : Nat → Nat} {M0 MF : Mem} {r : Int32} (k34 : Nat → Int32 → Int32 → Int32 → Mem → Option (Int32 × Mem)) (h34 : ∀ (l0 : Nat) (l1 : Int32) (l2 : Int32) (l3 : Int32) (M : Mem), k34 l0 l1 l2 l3 M = some (r, MF) → V G (RX12, cX12_reads, (some .boolean), 3, 63, 11, "reads", []) (ρ0, M0, cvI r, MF) 34 [(0, .ref l0), (1, .int l1), (2, .int l2), (3, .int l3)] [] M) (l0 : Nat) (l1 : Int32) (l4 : Int32) (l5 : Int32) (l6 : Int32) (l7 : Int64) (s0 : Int32) (s1 : Int32) (M : Mem) (h : f_X12_reads_J191 k34 l0 l1 l4 l5 l6 l7 s0 s1 M = some (r, MF)) : V G (RX12, cX12_reads, (some .boolean), 3, 63, 11, "reads", []) (ρ0, M0, cvI r, MF) 191 [(0, .ref l0), (1, .int l1), (4, .int l4), (5, .int l5), (6, .int l6), (7, .long l7)] [.int s0, .int s1] M := by
  unfold f_X12_reads_J191 at h
  refine v_iadd dX12_reads_191 ?_
  refine v_istore_n (ls' := [(2, .int (s1 + s0)), (0, .ref l0), (1, .int l1), (4, .int l4), (5, .int l5), (6, .int l6), (7, .long l7)]) dX12_reads_192 rfl (by decide) rfl ?_
  refine v_iconst (v := 0) dX12_reads_193 ci_0 ?_
  refine v_istore_n (ls' := [(3, .int (0 : Int32)), (2, .int (s1 + s0)), (0, .ref l0), (1, .int l1), (4, .int l4), (5, .int l5), (6, .int l6), (7, .long l7)]) dX12_reads_194 rfl (by decide) rfl ?_
  refine v_iload_n dX12_reads_195 rfl 1 rfl ?_
  refine v_iload dX12_reads_196 4 rfl ?_
  refine v_icmp_ne (tgt := 209) dX12_reads_198 (by decide) (fun c5 => ?_) (fun c5 => ?_)
  · replace h := ifN c5 h
    refine v_aload_n dX12_reads_209 rfl 2 rfl ?_
    obtain ⟨v1, e, h⟩ := bind_some h
    refine gt_X12_37 e dX12_reads_210 ?_
    refine v_aload_n dX12_reads_213 rfl 2 rfl ?_
    obtain ⟨v2, e, h⟩ := bind_some h
    refine gt_X12_66 e dX12_reads_214 ?_
    refine v_iload dX12_reads_217 6 rfl ?_
    refine v_if_eq (tgt := 228) dX12_reads_219 (by decide) (fun c4 => ?_) (fun c4 => ?_)
    · replace h := ifP c4 h
      refine v_iload dX12_reads_228 5 rfl ?_
      refine v_if_eq (tgt := 239) dX12_reads_230 (by decide) (fun c3 => ?_) (fun c3 => ?_)
      · replace h := ifP c3 h
        refine v_lload dX12_reads_239 7 rfl ?_
        refine v_sub [2, 3, 1, 0, 6] rfl ?_
        exact w_X12_reads_J241 k34 h34 l0 l1 (s1 + s0) (0 : Int32) l6 l7 v2 v1 M h
      · replace h := ifN c3 h
        refine kl_X12_76 dX12_reads_233 ?_
        refine v_goto (tgt := 241) dX12_reads_236 (by decide) ?_
        refine v_sub [2, 3, 1, 0, 6] rfl ?_
        exact w_X12_reads_J241 k34 h34 l0 l1 (s1 + s0) (0 : Int32) l6 (-1 : Int64) v2 v1 M h
    · replace h := ifN c4 h
      refine kl_X12_74 dX12_reads_222 ?_
      refine v_goto (tgt := 241) dX12_reads_225 (by decide) ?_
      refine v_sub [2, 3, 1, 0, 6] rfl ?_
      exact w_X12_reads_J241 k34 h34 l0 l1 (s1 + s0) (0 : Int32) l6 (-2 : Int64) v2 v1 M h
  · replace h := ifP c5 h
    refine v_aload_n dX12_reads_201 rfl 2 rfl ?_
    refine v_iload_n dX12_reads_202 rfl 1 rfl ?_
    obtain ⟨M1, e, h⟩ := bind_some h
    refine pt_X12_33 e dX12_reads_203 ?_
    refine v_goto (tgt := 306) dX12_reads_206 (by decide) ?_
    refine v_goto (tgt := 34) dX12_reads_306 (by decide) ?_
    refine v_sub [2, 3, 1, 0] rfl ?_
    exact h34 l0 l1 (s1 + s0) (0 : Int32) M1 h
set_option maxHeartbeats 4000000 in
set_option maxRecDepth 100000 in
theorem w_X12_reads_L159 {G : Gl} {ρ0 : Nat → Nat} {M0 MF : Mem} {r : Int32} (k34 : Nat → Int32 → Int32 → Int32 → Mem → Option (Int32 × Mem)) (h34 : ∀ (l0 : Nat) (l1 : Int32) (l2 : Int32) (l3 : Int32) (M : Mem), k34 l0 l1 l2 l3 M = some (r, MF) → V G (RX12, cX12_reads, (some .boolean), 3, 63, 11, "reads", []) (ρ0, M0, cvI r, MF) 34 [(0, .ref l0), (1, .int l1), (2, .int l2), (3, .int l3)] [] M) : ∀ (n : Nat) (l0 : Nat) (l1 : Int32) (l2 : Int32) (l4 : Int32) (l5 : Int32) (l6 : Int32) (l7 : Int64) (l10 : Int32) (M : Mem), f_X12_reads_L159 n k34 l0 l1 l2 l4 l5 l6 l7 l10 M = some (r, MF) → V G (RX12, cX12_reads, (some .boolean), 3, 63, 11, "reads", []) (ρ0, M0, cvI r, MF) 159 [(0, .ref l0), (1, .int l1), (2, .int l2), (4, .int l4), (5, .int l5), (6, .int l6), (7, .long l7), (10, .int l10)] [] M := by
  intro n
  induction n with
  | zero => intro l0 l1 l2 l4 l5 l6 l7 l10 M h; cases h
  | succ n ih =>
    intro l0 l1 l2 l4 l5 l6 l7 l10 M h
    rw [f_X12_reads_L159] at h
    refine v_iload dX12_reads_159 7 rfl ?_
    refine v_bipush (v := 6) dX12_reads_161 cb_6 ?_
    refine v_icmp_ge (tgt := 180) dX12_reads_163 (by decide) (fun c2 => ?_) (fun c2 => ?_)
    · replace h := ifP c2 h
      refine v_iload_n dX12_reads_180 rfl 2 rfl ?_
      refine v_iload dX12_reads_181 4 rfl ?_
      refine v_if_eq (tgt := 190) dX12_reads_183 (by decide) (fun c1 => ?_) (fun c1 => ?_)
      · replace h := ifP c1 h
        refine v_iconst (v := 0) dX12_reads_190 ci_0 ?_
        refine v_sub [0, 1, 3, 4, 5, 6] rfl ?_
        exact w_X12_reads_J191 k34 h34 l0 l1 l4 l5 l6 l7 (0 : Int32) l2 M h
      · replace h := ifN c1 h
        refine v_iconst (v := 1) dX12_reads_186 ci_1 ?_
        refine v_goto (tgt := 191) dX12_reads_187 (by decide) ?_
        refine v_sub [0, 1, 3, 4, 5, 6] rfl ?_
        exact w_X12_reads_J191 k34 h34 l0 l1 l4 l5 l6 l7 (1 : Int32) l2 M h
    · replace h := ifN c2 h
      refine v_lload dX12_reads_166 6 rfl ?_
      refine kl_X12_72 dX12_reads_168 ?_
      refine v_lmul dX12_reads_171 ?_
      refine v_lstore (ls' := [(7, .long (l7 * (37 : Int64))), (0, .ref l0), (1, .int l1), (2, .int l2), (4, .int l4), (5, .int l5), (6, .int l6), (10, .int l10)]) dX12_reads_172 (by decide) rfl ?_
      refine v_iinc (ls' := [(10, .int (l10 + 1)), (7, .long (l7 * (37 : Int64))), (0, .ref l0), (1, .int l1), (2, .int l2), (4, .int l4), (5, .int l5), (6, .int l6)]) dX12_reads_174 7 rfl (v := 1) ci_1 (by decide) rfl ?_
      refine v_goto (tgt := 159) dX12_reads_177 (by decide) ?_
      refine v_sub [2, 3, 4, 5, 6, 7, 1, 0] rfl ?_
      exact ih l0 l1 l2 l4 l5 l6 (l7 * (37 : Int64)) (l10 + 1) M h
set_option maxHeartbeats 4000000 in
set_option maxRecDepth 100000 in
theorem w_X12_reads_L111 {G : Gl} {ρ0 : Nat → Nat} {M0 MF : Mem} {r : Int32} (k34 : Nat → Int32 → Int32 → Int32 → Mem → Option (Int32 × Mem)) (h34 : ∀ (l0 : Nat) (l1 : Int32) (l2 : Int32) (l3 : Int32) (M : Mem), k34 l0 l1 l2 l3 M = some (r, MF) → V G (RX12, cX12_reads, (some .boolean), 3, 63, 11, "reads", []) (ρ0, M0, cvI r, MF) 34 [(0, .ref l0), (1, .int l1), (2, .int l2), (3, .int l3)] [] M) : ∀ (n : Nat) (l0 : Nat) (l1 : Int32) (l2 : Int32) (l4 : Int32) (l5 : Int32) (l6 : Int32) (l7 : Int64) (l9 : Int32) (M : Mem), f_X12_reads_L111 n k34 l0 l1 l2 l4 l5 l6 l7 l9 M = some (r, MF) → V G (RX12, cX12_reads, (some .boolean), 3, 63, 11, "reads", []) (ρ0, M0, cvI r, MF) 111 [(0, .ref l0), (1, .int l1), (2, .int l2), (4, .int l4), (5, .int l5), (6, .int l6), (7, .long l7), (9, .int l9)] [] M := by
  intro n
  induction n with
  | zero => intro l0 l1 l2 l4 l5 l6 l7 l9 M h; cases h
  | succ n ih =>
    intro l0 l1 l2 l4 l5 l6 l7 l9 M h
    rw [f_X12_reads_L111] at h
    refine v_iload dX12_reads_111 4 rfl ?_
    refine v_if_ne (tgt := 155) dX12_reads_113 (by decide) (fun c7 => ?_) (fun c7 => ?_)
    · replace h := ifN c7 h
      refine v_iload dX12_reads_155 7 rfl ?_
      refine v_istore (ls' := [(10, .int l9), (0, .ref l0), (1, .int l1), (2, .int l2), (4, .int l4), (5, .int l5), (6, .int l6), (7, .long l7), (9, .int l9)]) dX12_reads_157 (by decide) rfl ?_
      refine v_sub [1, 2, 3, 4, 5, 6, 7, 0] rfl ?_
      exact w_X12_reads_L159 k34 h34 FU l0 l1 l2 l4 l5 l6 l7 l9 M h
    · replace h := ifP c7 h
      refine v_iload dX12_reads_116 7 rfl ?_
      refine v_bipush (v := 6) dX12_reads_118 cb_6 ?_
      refine v_icmp_ge (tgt := 155) dX12_reads_120 (by decide) (fun c6 => ?_) (fun c6 => ?_)
      · replace h := ifP c6 h
        refine v_iload dX12_reads_155 7 rfl ?_
        refine v_istore (ls' := [(10, .int l9), (0, .ref l0), (1, .int l1), (2, .int l2), (4, .int l4), (5, .int l5), (6, .int l6), (7, .long l7), (9, .int l9)]) dX12_reads_157 (by decide) rfl ?_
        refine v_sub [1, 2, 3, 4, 5, 6, 7, 0] rfl ?_
        exact w_X12_reads_L159 k34 h34 FU l0 l1 l2 l4 l5 l6 l7 l9 M h
      · replace h := ifN c6 h
        refine v_aload_n dX12_reads_123 rfl 0 rfl ?_
        refine v_iload_n dX12_reads_124 rfl 2 rfl ?_
        obtain ⟨v2, M1, e, h⟩ := bindP_some h
        refine ca_X12_69 e dX12_reads_125 (Nat.le_of_ble_eq_true rfl) (by decide) ?_
        refine v_if_le (tgt := 155) dX12_reads_128 (by decide) (fun c5 => ?_) (fun c5 => ?_)
        · replace h := ifP c5 h
          refine v_iload dX12_reads_155 7 rfl ?_
          refine v_istore (ls' := [(10, .int l9), (0, .ref l0), (1, .int l1), (2, .int l2), (4, .int l4), (5, .int l5), (6, .int l6), (7, .long l7), (9, .int l9)]) dX12_reads_157 (by decide) rfl ?_
          refine v_sub [1, 2, 3, 4, 5, 6, 7, 0] rfl ?_
          exact w_X12_reads_L159 k34 h34 FU l0 l1 l2 l4 l5 l6 l7 l9 M1 h
        · replace h := ifN c5 h
          refine kl_X12_72 dX12_reads_131 ?_
          refine v_lload dX12_reads_134 6 rfl ?_
          refine v_lmul dX12_reads_136 ?_
          refine v_aload_n dX12_reads_137 rfl 0 rfl ?_
          refine v_iload_n dX12_reads_138 rfl 2 rfl ?_
          obtain ⟨v4, M3, e, h⟩ := bindP_some h
          refine ca_X12_69 e dX12_reads_139 (Nat.le_of_ble_eq_true rfl) (by decide) ?_
          refine v_i2l dX12_reads_142 ?_
          refine v_ladd dX12_reads_143 ?_
          refine v_lstore (ls' := [(7, .long (((37 : Int64) * l7) + (v4.toInt64))), (0, .ref l0), (1, .int l1), (2, .int l2), (4, .int l4), (5, .int l5), (6, .int l6), (9, .int l9)]) dX12_reads_144 (by decide) rfl ?_
          refine v_iinc (ls' := [(9, .int (l9 + 1)), (7, .long (((37 : Int64) * l7) + (v4.toInt64))), (0, .ref l0), (1, .int l1), (2, .int l2), (4, .int l4), (5, .int l5), (6, .int l6)]) dX12_reads_146 7 rfl (v := 1) ci_1 (by decide) rfl ?_
          refine v_iinc (ls' := [(2, .int (l2 + 1)), (9, .int (l9 + 1)), (7, .long (((37 : Int64) * l7) + (v4.toInt64))), (0, .ref l0), (1, .int l1), (4, .int l4), (5, .int l5), (6, .int l6)]) dX12_reads_149 4 rfl (v := 1) ci_1 (by decide) rfl ?_
          refine v_goto (tgt := 111) dX12_reads_152 (by decide) ?_
          refine v_sub [3, 4, 0, 5, 6, 7, 2, 1] rfl ?_
          exact ih l0 l1 (l2 + 1) l4 l5 l6 (((37 : Int64) * l7) + (v4.toInt64)) (l9 + 1) M3 h
set_option maxHeartbeats 4000000 in
set_option maxRecDepth 100000 in
theorem w_X12_reads_J80 {G : Gl} {ρ0 : Nat → Nat} {M0 MF : Mem} {r : Int32} (k34 : Nat → Int32 → Int32 → Int32 → Mem → Option (Int32 × Mem)) (h34 : ∀ (l0 : Nat) (l1 : Int32) (l2 : Int32) (l3 : Int32) (M : Mem), k34 l0 l1 l2 l3 M = some (r, MF) → V G (RX12, cX12_reads, (some .boolean), 3, 63, 11, "reads", []) (ρ0, M0, cvI r, MF) 34 [(0, .ref l0), (1, .int l1), (2, .int l2), (3, .int l3)] [] M) (l0 : Nat) (l1 : Int32) (l2 : Int32) (l4 : Int32) (s0 : Int32) (M : Mem) (h : f_X12_reads_J80 k34 l0 l1 l2 l4 s0 M = some (r, MF)) : V G (RX12, cX12_reads, (some .boolean), 3, 63, 11, "reads", []) (ρ0, M0, cvI r, MF) 80 [(0, .ref l0), (1, .int l1), (2, .int l2), (4, .int l4)] [.int s0] M := by
  unfold f_X12_reads_J80 at h
  refine v_istore (ls' := [(5, .int s0), (0, .ref l0), (1, .int l1), (2, .int l2), (4, .int l4)]) dX12_reads_80 (by decide) rfl ?_
  refine v_iload dX12_reads_82 0 rfl ?_
  refine v_if_eq (tgt := 102) dX12_reads_84 (by decide) (fun c4 => ?_) (fun c4 => ?_)
  · replace h := ifP c4 h
    refine v_iconst (v := 0) dX12_reads_102 ci_0 ?_
    refine v_istore (ls' := [(6, .int (0 : Int32)), (5, .int s0), (0, .ref l0), (1, .int l1), (2, .int l2), (4, .int l4)]) dX12_reads_103 (by decide) rfl ?_
    refine v_lconst (v := 0) dX12_reads_105 (by decide) ?_
    refine v_lstore (ls' := [(7, .long (0 : Int64)), (6, .int (0 : Int32)), (5, .int s0), (0, .ref l0), (1, .int l1), (2, .int l2), (4, .int l4)]) dX12_reads_106 (by decide) rfl ?_
    refine v_iconst (v := 0) dX12_reads_108 ci_0 ?_
    refine v_istore (ls' := [(9, .int (0 : Int32)), (7, .long (0 : Int64)), (6, .int (0 : Int32)), (5, .int s0), (0, .ref l0), (1, .int l1), (2, .int l2), (4, .int l4)]) dX12_reads_109 (by decide) rfl ?_
    refine v_sub [4, 5, 6, 7, 3, 2, 1, 0] rfl ?_
    exact w_X12_reads_L111 k34 h34 FU l0 l1 l2 l4 s0 (0 : Int32) (0 : Int64) (0 : Int32) M h
  · replace h := ifN c4 h
    refine v_aload_n dX12_reads_87 rfl 1 rfl ?_
    obtain ⟨v1, e, h⟩ := bind_some h
    refine gt_X12_30 e dX12_reads_88 ?_
    refine v_iload_n dX12_reads_91 rfl 3 rfl ?_
    obtain ⟨v2, e, h⟩ := bind_some h
    refine v_iaload dX12_reads_92 e ?_
    refine v_bipush (v := 35) dX12_reads_93 cb_35 ?_
    refine v_icmp_ne (tgt := 102) dX12_reads_95 (by decide) (fun c3 => ?_) (fun c3 => ?_)
    · replace h := ifN c3 h
      refine v_iconst (v := 0) dX12_reads_102 ci_0 ?_
      refine v_istore (ls' := [(6, .int (0 : Int32)), (5, .int s0), (0, .ref l0), (1, .int l1), (2, .int l2), (4, .int l4)]) dX12_reads_103 (by decide) rfl ?_
      refine v_lconst (v := 0) dX12_reads_105 (by decide) ?_
      refine v_lstore (ls' := [(7, .long (0 : Int64)), (6, .int (0 : Int32)), (5, .int s0), (0, .ref l0), (1, .int l1), (2, .int l2), (4, .int l4)]) dX12_reads_106 (by decide) rfl ?_
      refine v_iconst (v := 0) dX12_reads_108 ci_0 ?_
      refine v_istore (ls' := [(9, .int (0 : Int32)), (7, .long (0 : Int64)), (6, .int (0 : Int32)), (5, .int s0), (0, .ref l0), (1, .int l1), (2, .int l2), (4, .int l4)]) dX12_reads_109 (by decide) rfl ?_
      refine v_sub [4, 5, 6, 7, 3, 2, 1, 0] rfl ?_
      exact w_X12_reads_L111 k34 h34 FU l0 l1 l2 l4 s0 (0 : Int32) (0 : Int64) (0 : Int32) M h
    · replace h := ifP c3 h
      refine v_iconst (v := 1) dX12_reads_98 ci_1 ?_
      refine v_goto (tgt := 103) dX12_reads_99 (by decide) ?_
      refine v_istore (ls' := [(6, .int (1 : Int32)), (5, .int s0), (0, .ref l0), (1, .int l1), (2, .int l2), (4, .int l4)]) dX12_reads_103 (by decide) rfl ?_
      refine v_lconst (v := 0) dX12_reads_105 (by decide) ?_
      refine v_lstore (ls' := [(7, .long (0 : Int64)), (6, .int (1 : Int32)), (5, .int s0), (0, .ref l0), (1, .int l1), (2, .int l2), (4, .int l4)]) dX12_reads_106 (by decide) rfl ?_
      refine v_iconst (v := 0) dX12_reads_108 ci_0 ?_
      refine v_istore (ls' := [(9, .int (0 : Int32)), (7, .long (0 : Int64)), (6, .int (1 : Int32)), (5, .int s0), (0, .ref l0), (1, .int l1), (2, .int l2), (4, .int l4)]) dX12_reads_109 (by decide) rfl ?_
      refine v_sub [4, 5, 6, 7, 3, 2, 1, 0] rfl ?_
      exact w_X12_reads_L111 k34 h34 FU l0 l1 l2 l4 s0 (1 : Int32) (0 : Int64) (0 : Int32) M h
theorem w_X12_reads_J79 {G : Gl} {ρ0 : Nat → Nat} {M0 MF : Mem} {r : Int32} (k34 : Nat → Int32 → Int32 → Int32 → Mem → Option (Int32 × Mem)) (h34 : ∀ (l0 : Nat) (l1 : Int32) (l2 : Int32) (l3 : Int32) (M : Mem), k34 l0 l1 l2 l3 M = some (r, MF) → V G (RX12, cX12_reads, (some .boolean), 3, 63, 11, "reads", []) (ρ0, M0, cvI r, MF) 34 [(0, .ref l0), (1, .int l1), (2, .int l2), (3, .int l3)] [] M) (l0 : Nat) (l1 : Int32) (l2 : Int32) (l4 : Int32) (M : Mem) (h : f_X12_reads_J79 k34 l0 l1 l2 l4 M = some (r, MF)) : V G (RX12, cX12_reads, (some .boolean), 3, 63, 11, "reads", []) (ρ0, M0, cvI r, MF) 79 [(0, .ref l0), (1, .int l1), (2, .int l2), (4, .int l4)] [] M := by
  unfold f_X12_reads_J79 at h
  refine v_iconst (v := 0) dX12_reads_79 ci_0 ?_
  exact w_X12_reads_J80 k34 h34 l0 l1 l2 l4 (0 : Int32) M h
set_option maxHeartbeats 4000000 in
set_option maxRecDepth 100000 in
theorem w_X12_reads_J75 {G : Gl} {ρ0 : Nat → Nat} {M0 MF : Mem} {r : Int32} (k34 : Nat → Int32 → Int32 → Int32 → Mem → Option (Int32 × Mem)) (h34 : ∀ (l0 : Nat) (l1 : Int32) (l2 : Int32) (l3 : Int32) (M : Mem), k34 l0 l1 l2 l3 M = some (r, MF) → V G (RX12, cX12_reads, (some .boolean), 3, 63, 11, "reads", []) (ρ0, M0, cvI r, MF) 34 [(0, .ref l0), (1, .int l1), (2, .int l2), (3, .int l3)] [] M) (l0 : Nat) (l1 : Int32) (l2 : Int32) (l4 : Int32) (M : Mem) (h : f_X12_reads_J75 k34 l0 l1 l2 l4 M = some (r, MF)) : V G (RX12, cX12_reads, (some .boolean), 3, 63, 11, "reads", []) (ρ0, M0, cvI r, MF) 75 [(0, .ref l0), (1, .int l1), (2, .int l2), (4, .int l4)] [] M := by
  unfold f_X12_reads_J75 at h
  refine v_iconst (v := 1) dX12_reads_75 ci_1 ?_
  refine v_goto (tgt := 80) dX12_reads_76 (by decide) ?_
  exact w_X12_reads_J80 k34 h34 l0 l1 l2 l4 (1 : Int32) M h
set_option maxHeartbeats 4000000 in
set_option maxRecDepth 100000 in
theorem w_X12_reads_L34 {G : Gl} {ρ0 : Nat → Nat} {M0 MF : Mem} {r : Int32} : ∀ (n : Nat) (l0 : Nat) (l1 : Int32) (l2 : Int32) (l3 : Int32) (M : Mem), f_X12_reads_L34 n l0 l1 l2 l3 M = some (r, MF) → V G (RX12, cX12_reads, (some .boolean), 3, 63, 11, "reads", []) (ρ0, M0, cvI r, MF) 34 [(0, .ref l0), (1, .int l1), (2, .int l2), (3, .int l3)] [] M := by
  intro n
  induction n with
  | zero => intro l0 l1 l2 l3 M h; cases h
  | succ n ih =>
    intro l0 l1 l2 l3 M h
    rw [f_X12_reads_L34] at h
    refine v_iload_n dX12_reads_34 rfl 3 rfl ?_
    refine v_if_eq (tgt := 309) dX12_reads_35 (by decide) (fun c10 => ?_) (fun c10 => ?_)
    · replace h := ifP c10 h
      refine v_aload_n dX12_reads_309 rfl 0 rfl ?_
      refine v_iconst (v := 0) dX12_reads_310 ci_0 ?_
      obtain ⟨M1, e, h⟩ := bind_some h
      refine pt_X12_59 e dX12_reads_311 ?_
      refine v_aload_n dX12_reads_314 rfl 0 rfl ?_
      obtain ⟨v2, e, h⟩ := bind_some h
      refine gt_X12_33 e dX12_reads_315 ?_
      refine v_iconst (v := (-1)) dX12_reads_318 ci_m1 ?_
      refine v_icmp_ne (tgt := 326) dX12_reads_319 (by decide) (fun c3 => ?_) (fun c3 => ?_)
      · replace h := ifN c3 h
        refine v_iconst (v := 0) dX12_reads_326 ci_0 ?_
        obtain ⟨hz, rfl, rfl⟩ := okZ_some h
        exact v_zreturn dX12_reads_327 hz
      · replace h := ifP c3 h
        refine v_iconst (v := 1) dX12_reads_322 ci_1 ?_
        refine v_goto (tgt := 327) dX12_reads_323 (by decide) ?_
        obtain ⟨hz, rfl, rfl⟩ := okZ_some h
        exact v_zreturn dX12_reads_327 hz
    · replace h := ifN c10 h
      refine v_iload_n dX12_reads_38 rfl 2 rfl ?_
      refine v_istore (ls' := [(4, .int l2), (0, .ref l0), (1, .int l1), (2, .int l2), (3, .int l3)]) dX12_reads_39 (by decide) rfl ?_
      refine v_iload_n dX12_reads_41 rfl 2 rfl ?_
      refine v_if_eq (tgt := 79) dX12_reads_42 (by decide) (fun c9 => ?_) (fun c9 => ?_)
      · replace h := ifP c9 h
        refine v_sub [1, 2, 3, 0] rfl ?_
        exact w_X12_reads_J79 (f_X12_reads_L34 n) ih l0 l1 l2 l2 M h
      · replace h := ifN c9 h
        refine v_iload_n dX12_reads_45 rfl 3 rfl ?_
        refine v_aload_n dX12_reads_46 rfl 1 rfl ?_
        obtain ⟨v1, e, h⟩ := bind_some h
        refine gt_X12_59 e dX12_reads_47 ?_
        refine v_icmp_ge (tgt := 79) dX12_reads_50 (by decide) (fun c8 => ?_) (fun c8 => ?_)
        · replace h := ifP c8 h
          refine v_sub [1, 2, 3, 0] rfl ?_
          exact w_X12_reads_J79 (f_X12_reads_L34 n) ih l0 l1 l2 l2 M h
        · replace h := ifN c8 h
          refine v_aload_n dX12_reads_53 rfl 1 rfl ?_
          obtain ⟨v2, e, h⟩ := bind_some h
          refine gt_X12_30 e dX12_reads_54 ?_
          refine v_iload_n dX12_reads_57 rfl 3 rfl ?_
          obtain ⟨v3, e, h⟩ := bind_some h
          refine v_iaload dX12_reads_58 e ?_
          refine v_bipush (v := 43) dX12_reads_59 cb_43 ?_
          refine v_icmp_eq (tgt := 75) dX12_reads_61 (by decide) (fun c7 => ?_) (fun c7 => ?_)
          · replace h := ifP c7 h
            refine v_sub [1, 2, 3, 0] rfl ?_
            exact w_X12_reads_J75 (f_X12_reads_L34 n) ih l0 l1 l2 l2 M h
          · replace h := ifN c7 h
            refine v_aload_n dX12_reads_64 rfl 1 rfl ?_
            obtain ⟨v4, e, h⟩ := bind_some h
            refine gt_X12_30 e dX12_reads_65 ?_
            refine v_iload_n dX12_reads_68 rfl 3 rfl ?_
            obtain ⟨v5, e, h⟩ := bind_some h
            refine v_iaload dX12_reads_69 e ?_
            refine v_bipush (v := 35) dX12_reads_70 cb_35 ?_
            refine v_icmp_ne (tgt := 79) dX12_reads_72 (by decide) (fun c6 => ?_) (fun c6 => ?_)
            · replace h := ifN c6 h
              refine v_sub [1, 2, 3, 0] rfl ?_
              exact w_X12_reads_J79 (f_X12_reads_L34 n) ih l0 l1 l2 l2 M h
            · replace h := ifP c6 h
              refine v_sub [1, 2, 3, 0] rfl ?_
              exact w_X12_reads_J75 (f_X12_reads_L34 n) ih l0 l1 l2 l2 M h
set_option maxHeartbeats 4000000 in
set_option maxRecDepth 100000 in
theorem w_X12_reads_L2 {G : Gl} {ρ0 : Nat → Nat} {M0 MF : Mem} {r : Int32} : ∀ (n : Nat) (l0 : Nat) (l1 : Int32) (l2 : Int32) (M : Mem), f_X12_reads_L2 n l0 l1 l2 M = some (r, MF) → V G (RX12, cX12_reads, (some .boolean), 3, 63, 11, "reads", []) (ρ0, M0, cvI r, MF) 2 [(0, .ref l0), (1, .int l1), (2, .int l2)] [] M := by
  intro n
  induction n with
  | zero => intro l0 l1 l2 M h; cases h
  | succ n ih =>
    intro l0 l1 l2 M h
    rw [f_X12_reads_L2] at h
    refine v_iload_n dX12_reads_2 rfl 2 rfl ?_
    refine v_iconst (v := 4) dX12_reads_3 ci_4 ?_
    refine v_icmp_ge (tgt := 20) dX12_reads_4 (by decide) (fun c3 => ?_) (fun c3 => ?_)
    · replace h := ifP c3 h
      refine v_aload_n dX12_reads_20 rfl 0 rfl ?_
      refine v_iconst (v := 0) dX12_reads_21 ci_0 ?_
      obtain ⟨M1, e, h⟩ := bind_some h
      refine pt_X12_66 e dX12_reads_22 ?_
      refine v_aload_n dX12_reads_25 rfl 0 rfl ?_
      refine v_iconst (v := (-1)) dX12_reads_26 ci_m1 ?_
      obtain ⟨M2, e, h⟩ := bind_some h
      refine pt_X12_33 e dX12_reads_27 ?_
      refine v_iconst (v := 0) dX12_reads_30 ci_0 ?_
      refine v_istore_n (ls' := [(2, .int (0 : Int32)), (0, .ref l0), (1, .int l1)]) dX12_reads_31 rfl (by decide) rfl ?_
      refine v_iconst (v := 1) dX12_reads_32 ci_1 ?_
      refine v_istore_n (ls' := [(3, .int (1 : Int32)), (2, .int (0 : Int32)), (0, .ref l0), (1, .int l1)]) dX12_reads_33 rfl (by decide) rfl ?_
      refine v_sub [2, 3, 1, 0] rfl ?_
      exact w_X12_reads_L34 FU l0 l1 (0 : Int32) (1 : Int32) M2 h
    · replace h := ifN c3 h
      refine v_aload_n dX12_reads_7 rfl 0 rfl ?_
      obtain ⟨v1, e, h⟩ := bind_some h
      refine gt_X12_37 e dX12_reads_8 ?_
      refine v_iload_n dX12_reads_11 rfl 2 rfl ?_
      refine v_lconst (v := 0) dX12_reads_12 (by decide) ?_
      obtain ⟨M2, e, h⟩ := bind_some h
      refine v_lastore dX12_reads_13 e ?_
      refine v_iinc (ls' := [(2, .int (l2 + 1)), (0, .ref l0), (1, .int l1)]) dX12_reads_14 2 rfl (v := 1) ci_1 (by decide) rfl ?_
      refine v_goto (tgt := 2) dX12_reads_17 (by decide) ?_
      refine v_sub [1, 2, 0] rfl ?_
      exact ih l0 l1 (l2 + 1) M2 h
set_option maxHeartbeats 4000000 in
set_option maxRecDepth 100000 in
theorem w_X12_reads {G : Gl} {ρ0 : Nat → Nat} {M0 MF : Mem} {r : Int32} (l0 : Nat) (l1 : Int32) (M : Mem) (h : f_X12_reads l0 l1 M = some (r, MF)) : V G (RX12, cX12_reads, (some .boolean), 3, 63, 11, "reads", []) (ρ0, M0, cvI r, MF) 0 [(0, .ref l0), (1, .int l1)] [] M := by
  unfold f_X12_reads at h
  replace h := (ifS h).2
  refine v_iconst (v := 0) dX12_reads_0 ci_0 ?_
  refine v_istore_n (ls' := [(2, .int (0 : Int32)), (0, .ref l0), (1, .int l1)]) dX12_reads_1 rfl (by decide) rfl ?_
  refine v_sub [1, 2, 0] rfl ?_
  exact w_X12_reads_L2 FU l0 l1 (0 : Int32) M h
theorem kd_X12_reads {l0 : Nat} {l1 : Int32} {M : Mem} {z : _} (h : f_X12_reads l0 l1 M = some z) : (mK M l0).1 = 12 := by
  unfold f_X12_reads at h
  exact (ifS h).1
theorem k_X12_reads {G : Gl} {l0 : Nat} {l1 : Int32} {M MF : Mem} {r : Int32} (h : f_X12_reads l0 l1 M = some (r, MF)) : CtrP G yX12_reads cX12_reads 11 (some .boolean) 3 63 [.ref l0, .int l1] M (cvI r) MF :=
  ctr_of (by decide +kernel) (Nat.le_of_ble_eq_true rfl) (fun ρ => w_X12_reads l0 l1 M h)
theorem wd_X12_203 : wdV RX12 203 RX12 yX12_reads cX12_reads 11 (some .boolean) 1 := ⟨gwi 1416 (by decide +kernel) (by decide +kernel), gwi 1418 (by decide +kernel) (by decide +kernel), gwi 56 (by decide +kernel) (by decide +kernel), nw_X12, gwi 1419 (by decide +kernel) (by decide +kernel), ⟨rfl, by decide +kernel, by decide +kernel, by decide +kernel⟩⟩
theorem ca_X12_203 {G : Gl} {B : Bx} {cc : ByteArray} {ret : Option FieldType} {fr lo nL : Nat} {mn : String} {hh : List (Nat × Nat × Nat × Nat)} {pc : Nat} {ls : List (Nat × Value)} {st : List Value} {M M1 : Mem} {l0 : Nat} {l1 : Int32} {x : Int32} (e : f_X12_reads l0 l1 M = some (x, M1)) (hd : decode cc pc = .ok (.invokevirtual 203, 3)) (hcat : (st.map fun v => v.category).sum ≤ 8) (hR : 3 + 1 ≤ fr ∧ 8 + (11 + 11) + 63 ≤ lo) (k : V G (RX12, cc, ret, fr, lo, nL, mn, hh) B (pc + 3) ls (.int x :: st) M1) : V G (RX12, cc, ret, fr, lo, nL, mn, hh) B pc ls (.int l1 :: .ref l0 :: st) M := v_callVi (As := [.int l1]) (k_X12_reads e) wd_X12_203 clX12 (kd_X12_reads e) hd rfl rfl hcat hR k
set_option maxHeartbeats 4000000 in
set_option maxRecDepth 100000 in
theorem w_X12_signsOf_L5 {G : Gl} {ρ0 : Nat → Nat} {M0 MF : Mem} {r : Int32} : ∀ (n : Nat) (l2 : Int32) (l3 : Int64) (M : Mem), f_X12_signsOf_L5 n l2 l3 M = some (r, MF) → V G (RX12, cX12_signsOf, (some .int), 0, 0, 5, "signsOf", []) (ρ0, M0, cvI r, MF) 5 [(2, .int l2), (3, .long l3)] [] M := by
  intro n
  induction n with
  | zero => intro l2 l3 M h; cases h
  | succ n ih =>
    intro l2 l3 M h
    rw [f_X12_signsOf_L5] at h
    refine v_iload_n dX12_signsOf_5 rfl 0 rfl ?_
    refine v_if_le (tgt := 31) dX12_signsOf_6 (by decide) (fun c2 => ?_) (fun c2 => ?_)
    · replace h := ifP c2 h
      refine v_iload_n dX12_signsOf_31 rfl 0 rfl ?_
      cases h
      exact v_ireturn dX12_signsOf_32
    · replace h := ifN c2 h
      refine v_lload_n dX12_signsOf_9 rfl 1 rfl ?_
      refine kl_X12_72 dX12_signsOf_10 ?_
      refine v_lrem dX12_signsOf_13 (by decide) ?_
      refine v_lconst (v := 0) dX12_signsOf_14 (by decide) ?_
      refine v_lcmp dX12_signsOf_15 ?_
      refine v_if_ne (tgt := 31) dX12_signsOf_16 (by decide) (fun c1 => ?_) (fun c1 => ?_)
      · replace h := ifN c1 h
        refine v_iload_n dX12_signsOf_31 rfl 0 rfl ?_
        cases h
        exact v_ireturn dX12_signsOf_32
      · replace h := ifP c1 h
        refine v_iinc (ls' := [(2, .int (l2 + (-1))), (3, .long l3)]) dX12_signsOf_19 0 rfl (v := (-1)) ci_m1 (by decide) rfl ?_
        refine v_lload_n dX12_signsOf_22 rfl 1 rfl ?_
        refine kl_X12_72 dX12_signsOf_23 ?_
        refine v_ldiv dX12_signsOf_26 (by decide) ?_
        refine v_lstore_n (ls' := [(3, .long (l3 / (37 : Int64))), (2, .int (l2 + (-1)))]) dX12_signsOf_27 rfl (by decide) rfl ?_
        refine v_goto (tgt := 5) dX12_signsOf_28 (by decide) ?_
        refine v_sub [1, 0] rfl ?_
        exact ih (l2 + (-1)) (l3 / (37 : Int64)) M h
set_option maxHeartbeats 4000000 in
set_option maxRecDepth 100000 in
theorem w_X12_signsOf {G : Gl} {ρ0 : Nat → Nat} {M0 MF : Mem} {r : Int32} (l0 : Int64) (M : Mem) (h : f_X12_signsOf l0 M = some (r, MF)) : V G (RX12, cX12_signsOf, (some .int), 0, 0, 5, "signsOf", []) (ρ0, M0, cvI r, MF) 0 [(0, .long l0)] [] M := by
  unfold f_X12_signsOf at h
  refine v_bipush (v := 6) dX12_signsOf_0 cb_6 ?_
  refine v_istore_n (ls' := [(2, .int (6 : Int32)), (0, .long l0)]) dX12_signsOf_2 rfl (by decide) rfl ?_
  refine v_lload_n dX12_signsOf_3 rfl 1 rfl ?_
  refine v_lstore_n (ls' := [(3, .long l0), (2, .int (6 : Int32)), (0, .long l0)]) dX12_signsOf_4 rfl (by decide) rfl ?_
  refine v_sub [1, 0] rfl ?_
  exact w_X12_signsOf_L5 FU (6 : Int32) l0 M h
theorem k_X12_signsOf {G : Gl} {l0 : Int64} {M MF : Mem} {r : Int32} (h : f_X12_signsOf l0 M = some (r, MF)) : CtrP G yX12_signsOf cX12_signsOf 5 (some .int) 0 0 [.long l0] M (cvI r) MF :=
  ctr_of (by decide +kernel) (Nat.le_of_ble_eq_true rfl) (fun ρ => w_X12_signsOf l0 M h)
theorem wd_X12_82 : wdT RX12 82 yX12_signsOf cX12_signsOf 5 (some .int) 1 := ⟨gwi 1531 (by decide +kernel) (by decide +kernel), gwi 1532 (by decide +kernel) (by decide +kernel), nw_X12, gwi 1533 (by decide +kernel) (by decide +kernel), ⟨by decide +kernel, by decide +kernel, by decide +kernel⟩⟩
theorem ca_X12_82 {G : Gl} {B : Bx} {cc : ByteArray} {ret : Option FieldType} {fr lo nL : Nat} {mn : String} {hh : List (Nat × Nat × Nat × Nat)} {pc : Nat} {ls : List (Nat × Value)} {st : List Value} {M M1 : Mem} {l0 : Int64} {x : Int32} (e : f_X12_signsOf l0 M = some (x, M1)) (hd : decode cc pc = .ok (.invokestatic 82, 3)) (hcat : (st.map fun v => v.category).sum ≤ 8) (hR : 0 + 1 ≤ fr ∧ 8 + (5 + 11) + 0 ≤ lo) (k : V G (RX12, cc, ret, fr, lo, nL, mn, hh) B (pc + 3) ls (.int x :: st) M1) : V G (RX12, cc, ret, fr, lo, nL, mn, hh) B pc ls (.long l0 :: st) M := v_callSi (As := [.long l0]) (k_X12_signsOf e) wd_X12_82 hd rfl rfl hcat hR k
set_option maxHeartbeats 4000000 in
set_option maxRecDepth 100000 in
theorem w_X12_levelsOf_L2 {G : Gl} {ρ0 : Nat → Nat} {M0 MF : Mem} {r : Int32} : ∀ (n : Nat) (l0 : Nat) (l1 : Int32) (l2 : Int32) (M : Mem), f_X12_levelsOf_L2 n l0 l1 l2 M = some (r, MF) → V G (RX12, cX12_levelsOf, (some .int), 0, 0, 3, "levelsOf", []) (ρ0, M0, cvI r, MF) 2 [(0, .ref l0), (1, .int l1), (2, .int l2)] [] M := by
  intro n
  induction n with
  | zero => intro l0 l1 l2 M h; cases h
  | succ n ih =>
    intro l0 l1 l2 M h
    rw [f_X12_levelsOf_L2] at h
    refine v_iload_n dX12_levelsOf_2 rfl 2 rfl ?_
    refine v_iconst (v := 4) dX12_levelsOf_3 ci_4 ?_
    refine v_icmp_ge (tgt := 23) dX12_levelsOf_4 (by decide) (fun c3 => ?_) (fun c3 => ?_)
    · replace h := ifP c3 h
      refine v_iload_n dX12_levelsOf_23 rfl 2 rfl ?_
      cases h
      exact v_ireturn dX12_levelsOf_24
    · replace h := ifN c3 h
      refine v_aload_n dX12_levelsOf_7 rfl 0 rfl ?_
      refine v_iload_n dX12_levelsOf_8 rfl 1 rfl ?_
      refine v_iload_n dX12_levelsOf_9 rfl 2 rfl ?_
      refine v_iadd dX12_levelsOf_10 ?_
      obtain ⟨v1, e, h⟩ := bind_some h
      refine v_laload dX12_levelsOf_11 e ?_
      refine v_lconst (v := 0) dX12_levelsOf_12 (by decide) ?_
      refine v_lcmp dX12_levelsOf_13 ?_
      refine v_if_eq (tgt := 23) dX12_levelsOf_14 (by decide) (fun c2 => ?_) (fun c2 => ?_)
      · replace h := ifP c2 h
        refine v_iload_n dX12_levelsOf_23 rfl 2 rfl ?_
        cases h
        exact v_ireturn dX12_levelsOf_24
      · replace h := ifN c2 h
        refine v_iinc (ls' := [(2, .int (l2 + 1)), (0, .ref l0), (1, .int l1)]) dX12_levelsOf_17 2 rfl (v := 1) ci_1 (by decide) rfl ?_
        refine v_goto (tgt := 2) dX12_levelsOf_20 (by decide) ?_
        refine v_sub [1, 2, 0] rfl ?_
        exact ih l0 l1 (l2 + 1) M h
set_option maxHeartbeats 4000000 in
set_option maxRecDepth 100000 in
theorem w_X12_levelsOf {G : Gl} {ρ0 : Nat → Nat} {M0 MF : Mem} {r : Int32} (l0 : Nat) (l1 : Int32) (M : Mem) (h : f_X12_levelsOf l0 l1 M = some (r, MF)) : V G (RX12, cX12_levelsOf, (some .int), 0, 0, 3, "levelsOf", []) (ρ0, M0, cvI r, MF) 0 [(0, .ref l0), (1, .int l1)] [] M := by
  unfold f_X12_levelsOf at h
  refine v_iconst (v := 0) dX12_levelsOf_0 ci_0 ?_
  refine v_istore_n (ls' := [(2, .int (0 : Int32)), (0, .ref l0), (1, .int l1)]) dX12_levelsOf_1 rfl (by decide) rfl ?_
  refine v_sub [1, 2, 0] rfl ?_
  exact w_X12_levelsOf_L2 FU l0 l1 (0 : Int32) M h
theorem k_X12_levelsOf {G : Gl} {l0 : Nat} {l1 : Int32} {M MF : Mem} {r : Int32} (h : f_X12_levelsOf l0 l1 M = some (r, MF)) : CtrP G yX12_levelsOf cX12_levelsOf 3 (some .int) 0 0 [.ref l0, .int l1] M (cvI r) MF :=
  ctr_of (by decide +kernel) (Nat.le_of_ble_eq_true rfl) (fun ρ => w_X12_levelsOf l0 l1 M h)
theorem wd_X12_78 : wdT RX12 78 yX12_levelsOf cX12_levelsOf 3 (some .int) 2 := ⟨gwi 1344 (by decide +kernel) (by decide +kernel), gwi 1345 (by decide +kernel) (by decide +kernel), nw_X12, gwi 1346 (by decide +kernel) (by decide +kernel), ⟨by decide +kernel, by decide +kernel, by decide +kernel⟩⟩
theorem ca_X12_78 {G : Gl} {B : Bx} {cc : ByteArray} {ret : Option FieldType} {fr lo nL : Nat} {mn : String} {hh : List (Nat × Nat × Nat × Nat)} {pc : Nat} {ls : List (Nat × Value)} {st : List Value} {M M1 : Mem} {l0 : Nat} {l1 : Int32} {x : Int32} (e : f_X12_levelsOf l0 l1 M = some (x, M1)) (hd : decode cc pc = .ok (.invokestatic 78, 3)) (hcat : (st.map fun v => v.category).sum ≤ 8) (hR : 0 + 1 ≤ fr ∧ 8 + (3 + 11) + 0 ≤ lo) (k : V G (RX12, cc, ret, fr, lo, nL, mn, hh) B (pc + 3) ls (.int x :: st) M1) : V G (RX12, cc, ret, fr, lo, nL, mn, hh) B pc ls (.int l1 :: .ref l0 :: st) M := v_callSi (As := [.ref l0, .int l1]) (k_X12_levelsOf e) wd_X12_78 hd rfl rfl hcat hR k
set_option maxHeartbeats 4000000 in
set_option maxRecDepth 100000 in
theorem w_X12_lengthOf_L21 {G : Gl} {ρ0 : Nat → Nat} {M0 MF : Mem} {r : Int32} : ∀ (n : Nat) (l0 : Nat) (l1 : Int32) (l2 : Int32) (l3 : Int32) (l4 : Int32) (M : Mem), f_X12_lengthOf_L21 n l0 l1 l2 l3 l4 M = some (r, MF) → V G (RX12, cX12_lengthOf, (some .int), 1, 24, 5, "lengthOf", []) (ρ0, M0, cvI r, MF) 21 [(0, .ref l0), (1, .int l1), (2, .int l2), (3, .int l3), (4, .int l4)] [] M := by
  intro n
  induction n with
  | zero => intro l0 l1 l2 l3 l4 M h; cases h
  | succ n ih =>
    intro l0 l1 l2 l3 l4 M h
    rw [f_X12_lengthOf_L21] at h
    refine v_iload dX12_lengthOf_21 4 rfl ?_
    refine v_iload_n dX12_lengthOf_23 rfl 2 rfl ?_
    refine v_icmp_ge (tgt := 45) dX12_lengthOf_24 (by decide) (fun c4 => ?_) (fun c4 => ?_)
    · replace h := ifP c4 h
      refine v_iload_n dX12_lengthOf_45 rfl 3 rfl ?_
      cases h
      exact v_ireturn dX12_lengthOf_46
    · replace h := ifN c4 h
      refine v_iload_n dX12_lengthOf_27 rfl 3 rfl ?_
      refine v_aload_n dX12_lengthOf_28 rfl 0 rfl ?_
      refine v_iload_n dX12_lengthOf_29 rfl 1 rfl ?_
      refine v_iload dX12_lengthOf_30 4 rfl ?_
      refine v_iadd dX12_lengthOf_32 ?_
      obtain ⟨v1, e, h⟩ := bind_some h
      refine v_laload dX12_lengthOf_33 e ?_
      obtain ⟨v3, M2, e, h⟩ := bindP_some h
      refine ca_X12_82 e dX12_lengthOf_34 (Nat.le_of_ble_eq_true rfl) (by decide) ?_
      refine v_iadd dX12_lengthOf_37 ?_
      refine v_istore_n (ls' := [(3, .int (l3 + v3)), (0, .ref l0), (1, .int l1), (2, .int l2), (4, .int l4)]) dX12_lengthOf_38 rfl (by decide) rfl ?_
      refine v_iinc (ls' := [(4, .int (l4 + 1)), (3, .int (l3 + v3)), (0, .ref l0), (1, .int l1), (2, .int l2)]) dX12_lengthOf_39 4 rfl (v := 1) ci_1 (by decide) rfl ?_
      refine v_goto (tgt := 21) dX12_lengthOf_42 (by decide) ?_
      refine v_sub [2, 3, 4, 1, 0] rfl ?_
      exact ih l0 l1 l2 (l3 + v3) (l4 + 1) M2 h
set_option maxHeartbeats 4000000 in
set_option maxRecDepth 100000 in
theorem w_X12_lengthOf {G : Gl} {ρ0 : Nat → Nat} {M0 MF : Mem} {r : Int32} (l0 : Nat) (l1 : Int32) (M : Mem) (h : f_X12_lengthOf l0 l1 M = some (r, MF)) : V G (RX12, cX12_lengthOf, (some .int), 1, 24, 5, "lengthOf", []) (ρ0, M0, cvI r, MF) 0 [(0, .ref l0), (1, .int l1)] [] M := by
  unfold f_X12_lengthOf at h
  refine v_aload_n dX12_lengthOf_0 rfl 0 rfl ?_
  refine v_iload_n dX12_lengthOf_1 rfl 1 rfl ?_
  obtain ⟨v2, M1, e, h⟩ := bindP_some h
  refine ca_X12_78 e dX12_lengthOf_2 (Nat.le_of_ble_eq_true rfl) (by decide) ?_
  refine v_istore_n (ls' := [(2, .int v2), (0, .ref l0), (1, .int l1)]) dX12_lengthOf_5 rfl (by decide) rfl ?_
  refine v_iload_n dX12_lengthOf_6 rfl 0 rfl ?_
  refine v_if_ne (tgt := 14) dX12_lengthOf_7 (by decide) (fun c3 => ?_) (fun c3 => ?_)
  · replace h := ifN c3 h
    refine v_iload_n dX12_lengthOf_14 rfl 0 rfl ?_
    refine v_iconst (v := 1) dX12_lengthOf_15 ci_1 ?_
    refine v_isub dX12_lengthOf_16 ?_
    refine v_istore_n (ls' := [(3, .int (v2 - (1 : Int32))), (2, .int v2), (0, .ref l0), (1, .int l1)]) dX12_lengthOf_17 rfl (by decide) rfl ?_
    refine v_iconst (v := 0) dX12_lengthOf_18 ci_0 ?_
    refine v_istore (ls' := [(4, .int (0 : Int32)), (3, .int (v2 - (1 : Int32))), (2, .int v2), (0, .ref l0), (1, .int l1)]) dX12_lengthOf_19 (by decide) rfl ?_
    refine v_sub [3, 4, 2, 1, 0] rfl ?_
    exact w_X12_lengthOf_L21 FU l0 l1 v2 (v2 - (1 : Int32)) (0 : Int32) M1 h
  · replace h := ifP c3 h
    refine v_iconst (v := 0) dX12_lengthOf_10 ci_0 ?_
    refine v_goto (tgt := 17) dX12_lengthOf_11 (by decide) ?_
    refine v_istore_n (ls' := [(3, .int (0 : Int32)), (2, .int v2), (0, .ref l0), (1, .int l1)]) dX12_lengthOf_17 rfl (by decide) rfl ?_
    refine v_iconst (v := 0) dX12_lengthOf_18 ci_0 ?_
    refine v_istore (ls' := [(4, .int (0 : Int32)), (3, .int (0 : Int32)), (2, .int v2), (0, .ref l0), (1, .int l1)]) dX12_lengthOf_19 (by decide) rfl ?_
    refine v_sub [3, 4, 2, 1, 0] rfl ?_
    exact w_X12_lengthOf_L21 FU l0 l1 v2 (0 : Int32) (0 : Int32) M1 h
theorem k_X12_lengthOf {G : Gl} {l0 : Nat} {l1 : Int32} {M MF : Mem} {r : Int32} (h : f_X12_lengthOf l0 l1 M = some (r, MF)) : CtrP G yX12_lengthOf cX12_lengthOf 5 (some .int) 1 24 [.ref l0, .int l1] M (cvI r) MF :=
  ctr_of (by decide +kernel) (Nat.le_of_ble_eq_true rfl) (fun ρ => w_X12_lengthOf l0 l1 M h)
theorem wd_X12_247 : wdT RX12 247 yX12_lengthOf cX12_lengthOf 5 (some .int) 2 := ⟨gwi 1528 (by decide +kernel) (by decide +kernel), gwi 1529 (by decide +kernel) (by decide +kernel), nw_X12, gwi 1530 (by decide +kernel) (by decide +kernel), ⟨by decide +kernel, by decide +kernel, by decide +kernel⟩⟩
theorem ca_X12_247 {G : Gl} {B : Bx} {cc : ByteArray} {ret : Option FieldType} {fr lo nL : Nat} {mn : String} {hh : List (Nat × Nat × Nat × Nat)} {pc : Nat} {ls : List (Nat × Value)} {st : List Value} {M M1 : Mem} {l0 : Nat} {l1 : Int32} {x : Int32} (e : f_X12_lengthOf l0 l1 M = some (x, M1)) (hd : decode cc pc = .ok (.invokestatic 247, 3)) (hcat : (st.map fun v => v.category).sum ≤ 8) (hR : 1 + 1 ≤ fr ∧ 8 + (5 + 11) + 24 ≤ lo) (k : V G (RX12, cc, ret, fr, lo, nL, mn, hh) B (pc + 3) ls (.int x :: st) M1) : V G (RX12, cc, ret, fr, lo, nL, mn, hh) B pc ls (.int l1 :: .ref l0 :: st) M := v_callSi (As := [.ref l0, .int l1]) (k_X12_lengthOf e) wd_X12_247 hd rfl rfl hcat hR k
set_option maxHeartbeats 4000000 in
set_option maxRecDepth 100000 in
theorem w_X12_characterOf_L65 {G : Gl} {ρ0 : Nat → Nat} {M0 MF : Mem} {r : Int32} : ∀ (n : Nat) (l5 : Int64) (l7 : Int32) (M : Mem), f_X12_characterOf_L65 n l5 l7 M = some (r, MF) → V G (RX12, cX12_characterOf, (some .int), 1, 24, 8, "characterOf", []) (ρ0, M0, cvI r, MF) 65 [(5, .long l5), (7, .int l7)] [] M := by
  intro n
  induction n with
  | zero => intro l5 l7 M h; cases h
  | succ n ih =>
    intro l5 l7 M h
    rw [f_X12_characterOf_L65] at h
    refine v_iload dX12_characterOf_65 1 rfl ?_
    refine v_iconst (v := 5) dX12_characterOf_67 ci_5 ?_
    refine v_icmp_ge (tgt := 85) dX12_characterOf_68 (by decide) (fun c2 => ?_) (fun c2 => ?_)
    · replace h := ifP c2 h
      refine v_lload dX12_characterOf_85 0 rfl ?_
      refine kl_X12_72 dX12_characterOf_87 ?_
      refine v_lrem dX12_characterOf_90 (by decide) ?_
      refine v_l2i dX12_characterOf_91 ?_
      refine v_istore (ls' := [(7, .int ((lremE l5 (37 : Int64)).toInt32)), (5, .long l5)]) dX12_characterOf_92 (by decide) rfl ?_
      refine v_iload dX12_characterOf_94 0 rfl ?_
      refine v_bipush (v := 11) dX12_characterOf_96 cb_11 ?_
      refine v_icmp_ge (tgt := 111) dX12_characterOf_98 (by decide) (fun c1 => ?_) (fun c1 => ?_)
      · replace h := ifP c1 h
        refine v_bipush (v := 97) dX12_characterOf_111 cb_97 ?_
        refine v_iload dX12_characterOf_113 0 rfl ?_
        refine v_iadd dX12_characterOf_115 ?_
        refine v_bipush (v := 11) dX12_characterOf_116 cb_11 ?_
        refine v_isub dX12_characterOf_118 ?_
        cases h
        exact v_ireturn dX12_characterOf_119
      · replace h := ifN c1 h
        refine v_bipush (v := 48) dX12_characterOf_101 cb_48 ?_
        refine v_iload dX12_characterOf_103 0 rfl ?_
        refine v_iadd dX12_characterOf_105 ?_
        refine v_iconst (v := 1) dX12_characterOf_106 ci_1 ?_
        refine v_isub dX12_characterOf_107 ?_
        refine v_goto (tgt := 119) dX12_characterOf_108 (by decide) ?_
        cases h
        exact v_ireturn dX12_characterOf_119
    · replace h := ifN c2 h
      refine v_lload dX12_characterOf_71 0 rfl ?_
      refine kl_X12_72 dX12_characterOf_73 ?_
      refine v_ldiv dX12_characterOf_76 (by decide) ?_
      refine v_lstore (ls' := [(5, .long (l5 / (37 : Int64))), (7, .int l7)]) dX12_characterOf_77 (by decide) rfl ?_
      refine v_iinc (ls' := [(7, .int (l7 + 1)), (5, .long (l5 / (37 : Int64)))]) dX12_characterOf_79 1 rfl (v := 1) ci_1 (by decide) rfl ?_
      refine v_goto (tgt := 65) dX12_characterOf_82 (by decide) ?_
      refine v_sub [1, 0] rfl ?_
      exact ih (l5 / (37 : Int64)) (l7 + 1) M h
set_option maxHeartbeats 4000000 in
set_option maxRecDepth 100000 in
theorem w_X12_characterOf_L5 {G : Gl} {ρ0 : Nat → Nat} {M0 MF : Mem} {r : Int32} : ∀ (n : Nat) (l0 : Nat) (l1 : Int32) (l3 : Int32) (l4 : Int32) (M : Mem), f_X12_characterOf_L5 n l0 l1 l3 l4 M = some (r, MF) → V G (RX12, cX12_characterOf, (some .int), 1, 24, 8, "characterOf", []) (ρ0, M0, cvI r, MF) 5 [(0, .ref l0), (1, .int l1), (3, .int l3), (4, .int l4)] [] M := by
  intro n
  induction n with
  | zero => intro l0 l1 l3 l4 M h; cases h
  | succ n ih =>
    intro l0 l1 l3 l4 M h
    rw [f_X12_characterOf_L5] at h
    refine v_iload_n dX12_characterOf_5 rfl 2 rfl ?_
    refine v_aload_n dX12_characterOf_6 rfl 0 rfl ?_
    refine v_iload_n dX12_characterOf_7 rfl 1 rfl ?_
    refine v_iload dX12_characterOf_8 3 rfl ?_
    refine v_iadd dX12_characterOf_10 ?_
    obtain ⟨v1, e, h⟩ := bind_some h
    refine v_laload dX12_characterOf_11 e ?_
    obtain ⟨v3, M2, e, h⟩ := bindP_some h
    refine ca_X12_82 e dX12_characterOf_12 (Nat.le_of_ble_eq_true rfl) (by decide) ?_
    refine v_icmp_le (tgt := 38) dX12_characterOf_15 (by decide) (fun c9 => ?_) (fun c9 => ?_)
    · replace h := ifP c9 h
      refine v_iload_n dX12_characterOf_38 rfl 2 rfl ?_
      refine v_aload_n dX12_characterOf_39 rfl 0 rfl ?_
      refine v_iload_n dX12_characterOf_40 rfl 1 rfl ?_
      refine v_iload dX12_characterOf_41 3 rfl ?_
      refine v_iadd dX12_characterOf_43 ?_
      obtain ⟨v4, e, h⟩ := bind_some h
      refine v_laload dX12_characterOf_44 e ?_
      obtain ⟨v6, M5, e, h⟩ := bindP_some h
      refine ca_X12_82 e dX12_characterOf_45 (Nat.le_of_ble_eq_true rfl) (by decide) ?_
      refine v_icmp_ne (tgt := 54) dX12_characterOf_48 (by decide) (fun c8 => ?_) (fun c8 => ?_)
      · replace h := ifN c8 h
        refine v_aload_n dX12_characterOf_54 rfl 0 rfl ?_
        refine v_iload_n dX12_characterOf_55 rfl 1 rfl ?_
        refine v_iload dX12_characterOf_56 3 rfl ?_
        refine v_iadd dX12_characterOf_58 ?_
        obtain ⟨v7, e, h⟩ := bind_some h
        refine v_laload dX12_characterOf_59 e ?_
        refine v_lstore (ls' := [(5, .long v7), (0, .ref l0), (1, .int l1), (3, .int l3), (4, .int l4)]) dX12_characterOf_60 (by decide) rfl ?_
        refine v_iload_n dX12_characterOf_62 rfl 3 rfl ?_
        refine v_istore (ls' := [(7, .int l3), (5, .long v7), (0, .ref l0), (1, .int l1), (3, .int l3), (4, .int l4)]) dX12_characterOf_63 (by decide) rfl ?_
        refine v_sub [1, 0] rfl ?_
        exact w_X12_characterOf_L65 FU v7 l3 M5 h
      · replace h := ifP c8 h
        refine v_bipush (v := 47) dX12_characterOf_51 cb_47 ?_
        cases h
        exact v_ireturn dX12_characterOf_53
    · replace h := ifN c9 h
      refine v_iload_n dX12_characterOf_18 rfl 2 rfl ?_
      refine v_aload_n dX12_characterOf_19 rfl 0 rfl ?_
      refine v_iload_n dX12_characterOf_20 rfl 1 rfl ?_
      refine v_iload dX12_characterOf_21 3 rfl ?_
      refine v_iadd dX12_characterOf_23 ?_
      obtain ⟨v4, e, h⟩ := bind_some h
      refine v_laload dX12_characterOf_24 e ?_
      obtain ⟨v6, M5, e, h⟩ := bindP_some h
      refine ca_X12_82 e dX12_characterOf_25 (Nat.le_of_ble_eq_true rfl) (by decide) ?_
      refine v_iconst (v := 1) dX12_characterOf_28 ci_1 ?_
      refine v_iadd dX12_characterOf_29 ?_
      refine v_isub dX12_characterOf_30 ?_
      refine v_istore_n (ls' := [(3, .int (l3 - (v6 + (1 : Int32)))), (0, .ref l0), (1, .int l1), (4, .int l4)]) dX12_characterOf_31 rfl (by decide) rfl ?_
      refine v_iinc (ls' := [(4, .int (l4 + 1)), (3, .int (l3 - (v6 + (1 : Int32)))), (0, .ref l0), (1, .int l1)]) dX12_characterOf_32 3 rfl (v := 1) ci_1 (by decide) rfl ?_
      refine v_goto (tgt := 5) dX12_characterOf_35 (by decide) ?_
      refine v_sub [2, 3, 1, 0] rfl ?_
      exact ih l0 l1 (l3 - (v6 + (1 : Int32))) (l4 + 1) M5 h
set_option maxHeartbeats 4000000 in
set_option maxRecDepth 100000 in
theorem w_X12_characterOf {G : Gl} {ρ0 : Nat → Nat} {M0 MF : Mem} {r : Int32} (l0 : Nat) (l1 : Int32) (l2 : Int32) (M : Mem) (h : f_X12_characterOf l0 l1 l2 M = some (r, MF)) : V G (RX12, cX12_characterOf, (some .int), 1, 24, 8, "characterOf", []) (ρ0, M0, cvI r, MF) 0 [(0, .ref l0), (1, .int l1), (2, .int l2)] [] M := by
  unfold f_X12_characterOf at h
  refine v_iload_n dX12_characterOf_0 rfl 2 rfl ?_
  refine v_istore_n (ls' := [(3, .int l2), (0, .ref l0), (1, .int l1), (2, .int l2)]) dX12_characterOf_1 rfl (by decide) rfl ?_
  refine v_iconst (v := 0) dX12_characterOf_2 ci_0 ?_
  refine v_istore (ls' := [(4, .int (0 : Int32)), (3, .int l2), (0, .ref l0), (1, .int l1), (2, .int l2)]) dX12_characterOf_3 (by decide) rfl ?_
  refine v_sub [2, 3, 1, 0] rfl ?_
  exact w_X12_characterOf_L5 FU l0 l1 l2 (0 : Int32) M h
theorem k_X12_characterOf {G : Gl} {l0 : Nat} {l1 : Int32} {l2 : Int32} {M MF : Mem} {r : Int32} (h : f_X12_characterOf l0 l1 l2 M = some (r, MF)) : CtrP G yX12_characterOf cX12_characterOf 8 (some .int) 1 24 [.ref l0, .int l1, .int l2] M (cvI r) MF :=
  ctr_of (by decide +kernel) (Nat.le_of_ble_eq_true rfl) (fun ρ => w_X12_characterOf l0 l1 l2 M h)
theorem wd_X12_257 : wdT RX12 257 yX12_characterOf cX12_characterOf 8 (some .int) 3 := ⟨gwi 1546 (by decide +kernel) (by decide +kernel), gwi 1547 (by decide +kernel) (by decide +kernel), nw_X12, gwi 1548 (by decide +kernel) (by decide +kernel), ⟨by decide +kernel, by decide +kernel, by decide +kernel⟩⟩
theorem ca_X12_257 {G : Gl} {B : Bx} {cc : ByteArray} {ret : Option FieldType} {fr lo nL : Nat} {mn : String} {hh : List (Nat × Nat × Nat × Nat)} {pc : Nat} {ls : List (Nat × Value)} {st : List Value} {M M1 : Mem} {l0 : Nat} {l1 : Int32} {l2 : Int32} {x : Int32} (e : f_X12_characterOf l0 l1 l2 M = some (x, M1)) (hd : decode cc pc = .ok (.invokestatic 257, 3)) (hcat : (st.map fun v => v.category).sum ≤ 8) (hR : 1 + 1 ≤ fr ∧ 8 + (8 + 11) + 24 ≤ lo) (k : V G (RX12, cc, ret, fr, lo, nL, mn, hh) B (pc + 3) ls (.int x :: st) M1) : V G (RX12, cc, ret, fr, lo, nL, mn, hh) B pc ls (.int l2 :: .int l1 :: .ref l0 :: st) M := v_callSi (As := [.ref l0, .int l1, .int l2]) (k_X12_characterOf e) wd_X12_257 hd rfl rfl hcat hR k
set_option maxHeartbeats 4000000 in
set_option maxRecDepth 100000 in
theorem w_X12_moves_L3 {G : Gl} {ρ0 : Nat → Nat} {M0 MF : Mem} {r : Unit} : ∀ (n : Nat) (l0 : Nat) (l1 : Int32) (l2 : Nat) (l3 : Int32) (l4 : Int32) (M : Mem), f_X12_moves_L3 n l0 l1 l2 l3 l4 M = some MF → V G (RX12, cX12_moves, none, 0, 0, 5, "moves", []) (ρ0, M0, cvV r, MF) 3 [(0, .ref l0), (1, .int l1), (2, .ref l2), (3, .int l3), (4, .int l4)] [] M := by
  intro n
  induction n with
  | zero => intro l0 l1 l2 l3 l4 M h; cases h
  | succ n ih =>
    intro l0 l1 l2 l3 l4 M h
    rw [f_X12_moves_L3] at h
    refine v_iload dX12_moves_3 4 rfl ?_
    refine v_iconst (v := 4) dX12_moves_5 ci_4 ?_
    refine v_icmp_ge (tgt := 27) dX12_moves_6 (by decide) (fun c3 => ?_) (fun c3 => ?_)
    · replace h := ifP c3 h
      cases h
      exact v_vreturn dX12_moves_27
    · replace h := ifN c3 h
      refine v_aload_n dX12_moves_9 rfl 2 rfl ?_
      refine v_iload_n dX12_moves_10 rfl 3 rfl ?_
      refine v_iload dX12_moves_11 4 rfl ?_
      refine v_iadd dX12_moves_13 ?_
      refine v_aload_n dX12_moves_14 rfl 0 rfl ?_
      refine v_iload_n dX12_moves_15 rfl 1 rfl ?_
      refine v_iload dX12_moves_16 4 rfl ?_
      refine v_iadd dX12_moves_18 ?_
      obtain ⟨v1, e, h⟩ := bind_some h
      refine v_laload dX12_moves_19 e ?_
      obtain ⟨M2, e, h⟩ := bind_some h
      refine v_lastore dX12_moves_20 e ?_
      refine v_iinc (ls' := [(4, .int (l4 + 1)), (0, .ref l0), (1, .int l1), (2, .ref l2), (3, .int l3)]) dX12_moves_21 4 rfl (v := 1) ci_1 (by decide) rfl ?_
      refine v_goto (tgt := 3) dX12_moves_24 (by decide) ?_
      refine v_sub [1, 2, 3, 4, 0] rfl ?_
      exact ih l0 l1 l2 l3 (l4 + 1) M2 h
set_option maxHeartbeats 4000000 in
set_option maxRecDepth 100000 in
theorem w_X12_moves {G : Gl} {ρ0 : Nat → Nat} {M0 MF : Mem} {r : Unit} (l0 : Nat) (l1 : Int32) (l2 : Nat) (l3 : Int32) (M : Mem) (h : f_X12_moves l0 l1 l2 l3 M = some MF) : V G (RX12, cX12_moves, none, 0, 0, 5, "moves", []) (ρ0, M0, cvV r, MF) 0 [(0, .ref l0), (1, .int l1), (2, .ref l2), (3, .int l3)] [] M := by
  unfold f_X12_moves at h
  refine v_iconst (v := 0) dX12_moves_0 ci_0 ?_
  refine v_istore (ls' := [(4, .int (0 : Int32)), (0, .ref l0), (1, .int l1), (2, .ref l2), (3, .int l3)]) dX12_moves_1 (by decide) rfl ?_
  refine v_sub [1, 2, 3, 4, 0] rfl ?_
  exact w_X12_moves_L3 FU l0 l1 l2 l3 (0 : Int32) M h
theorem k_X12_moves {G : Gl} {l0 : Nat} {l1 : Int32} {l2 : Nat} {l3 : Int32} {M MF : Mem} (h : f_X12_moves l0 l1 l2 l3 M = some MF) : CtrP G yX12_moves cX12_moves 5 none 0 0 [.ref l0, .int l1, .ref l2, .int l3] M (cvV ()) MF :=
  ctr_of (by decide +kernel) (Nat.le_of_ble_eq_true rfl) (fun ρ => w_X12_moves (r := ()) l0 l1 l2 l3 M h)
theorem wd_X12_97 : wdT RX12 97 yX12_moves cX12_moves 5 none 4 := ⟨gwi 1310 (by decide +kernel) (by decide +kernel), gwi 1311 (by decide +kernel) (by decide +kernel), nw_X12, gwi 1312 (by decide +kernel) (by decide +kernel), ⟨by decide +kernel, by decide +kernel, by decide +kernel⟩⟩
theorem ca_X12_97 {G : Gl} {B : Bx} {cc : ByteArray} {ret : Option FieldType} {fr lo nL : Nat} {mn : String} {hh : List (Nat × Nat × Nat × Nat)} {pc : Nat} {ls : List (Nat × Value)} {st : List Value} {M M1 : Mem} {l0 : Nat} {l1 : Int32} {l2 : Nat} {l3 : Int32} (e : f_X12_moves l0 l1 l2 l3 M = some M1) (hd : decode cc pc = .ok (.invokestatic 97, 3)) (hcat : (st.map fun v => v.category).sum ≤ 8) (hR : 0 + 1 ≤ fr ∧ 8 + (5 + 11) + 0 ≤ lo) (k : V G (RX12, cc, ret, fr, lo, nL, mn, hh) B (pc + 3) ls (st) M1) : V G (RX12, cc, ret, fr, lo, nL, mn, hh) B pc ls (.int l3 :: .ref l2 :: .int l1 :: .ref l0 :: st) M := v_callS0 (As := [.ref l0, .int l1, .ref l2, .int l3]) (k_X12_moves e) wd_X12_97 hd rfl rfl hcat hR k
set_option maxHeartbeats 4000000 in
set_option maxRecDepth 100000 in
theorem w_X12_isSame_L6 {G : Gl} {ρ0 : Nat → Nat} {M0 MF : Mem} {r : Int32} : ∀ (n : Nat) (l0 : Nat) (l1 : Int32) (l2 : Nat) (l3 : Int32) (l4 : Int32) (l5 : Int32) (M : Mem), f_X12_isSame_L6 n l0 l1 l2 l3 l4 l5 M = some (r, MF) → V G (RX12, cX12_isSame, (some .boolean), 0, 0, 6, "isSame", []) (ρ0, M0, cvI r, MF) 6 [(0, .ref l0), (1, .int l1), (2, .ref l2), (3, .int l3), (4, .int l4), (5, .int l5)] [] M := by
  intro n
  induction n with
  | zero => intro l0 l1 l2 l3 l4 l5 M h; cases h
  | succ n ih =>
    intro l0 l1 l2 l3 l4 l5 M h
    rw [f_X12_isSame_L6] at h
    refine v_iload dX12_isSame_6 5 rfl ?_
    refine v_iconst (v := 4) dX12_isSame_8 ci_4 ?_
    refine v_icmp_ge (tgt := 46) dX12_isSame_9 (by decide) (fun c5 => ?_) (fun c5 => ?_)
    · replace h := ifP c5 h
      refine v_iload dX12_isSame_46 4 rfl ?_
      obtain ⟨hz, rfl, rfl⟩ := okZ_some h
      exact v_zreturn dX12_isSame_48 hz
    · replace h := ifN c5 h
      refine v_iload dX12_isSame_12 4 rfl ?_
      refine v_if_eq (tgt := 37) dX12_isSame_14 (by decide) (fun c4 => ?_) (fun c4 => ?_)
      · replace h := ifP c4 h
        refine v_iconst (v := 0) dX12_isSame_37 ci_0 ?_
        refine v_istore (ls' := [(4, .int (0 : Int32)), (0, .ref l0), (1, .int l1), (2, .ref l2), (3, .int l3), (5, .int l5)]) dX12_isSame_38 (by decide) rfl ?_
        refine v_iinc (ls' := [(5, .int (l5 + 1)), (4, .int (0 : Int32)), (0, .ref l0), (1, .int l1), (2, .ref l2), (3, .int l3)]) dX12_isSame_40 5 rfl (v := 1) ci_1 (by decide) rfl ?_
        refine v_goto (tgt := 6) dX12_isSame_43 (by decide) ?_
        refine v_sub [2, 3, 4, 5, 1, 0] rfl ?_
        exact ih l0 l1 l2 l3 (0 : Int32) (l5 + 1) M h
      · replace h := ifN c4 h
        refine v_aload_n dX12_isSame_17 rfl 0 rfl ?_
        refine v_iload_n dX12_isSame_18 rfl 1 rfl ?_
        refine v_iload dX12_isSame_19 5 rfl ?_
        refine v_iadd dX12_isSame_21 ?_
        obtain ⟨v1, e, h⟩ := bind_some h
        refine v_laload dX12_isSame_22 e ?_
        refine v_aload_n dX12_isSame_23 rfl 2 rfl ?_
        refine v_iload_n dX12_isSame_24 rfl 3 rfl ?_
        refine v_iload dX12_isSame_25 5 rfl ?_
        refine v_iadd dX12_isSame_27 ?_
        obtain ⟨v2, e, h⟩ := bind_some h
        refine v_laload dX12_isSame_28 e ?_
        refine v_lcmp dX12_isSame_29 ?_
        refine v_if_ne (tgt := 37) dX12_isSame_30 (by decide) (fun c3 => ?_) (fun c3 => ?_)
        · replace h := ifN c3 h
          refine v_iconst (v := 0) dX12_isSame_37 ci_0 ?_
          refine v_istore (ls' := [(4, .int (0 : Int32)), (0, .ref l0), (1, .int l1), (2, .ref l2), (3, .int l3), (5, .int l5)]) dX12_isSame_38 (by decide) rfl ?_
          refine v_iinc (ls' := [(5, .int (l5 + 1)), (4, .int (0 : Int32)), (0, .ref l0), (1, .int l1), (2, .ref l2), (3, .int l3)]) dX12_isSame_40 5 rfl (v := 1) ci_1 (by decide) rfl ?_
          refine v_goto (tgt := 6) dX12_isSame_43 (by decide) ?_
          refine v_sub [2, 3, 4, 5, 1, 0] rfl ?_
          exact ih l0 l1 l2 l3 (0 : Int32) (l5 + 1) M h
        · replace h := ifP c3 h
          refine v_iconst (v := 1) dX12_isSame_33 ci_1 ?_
          refine v_goto (tgt := 38) dX12_isSame_34 (by decide) ?_
          refine v_istore (ls' := [(4, .int (1 : Int32)), (0, .ref l0), (1, .int l1), (2, .ref l2), (3, .int l3), (5, .int l5)]) dX12_isSame_38 (by decide) rfl ?_
          refine v_iinc (ls' := [(5, .int (l5 + 1)), (4, .int (1 : Int32)), (0, .ref l0), (1, .int l1), (2, .ref l2), (3, .int l3)]) dX12_isSame_40 5 rfl (v := 1) ci_1 (by decide) rfl ?_
          refine v_goto (tgt := 6) dX12_isSame_43 (by decide) ?_
          refine v_sub [2, 3, 4, 5, 1, 0] rfl ?_
          exact ih l0 l1 l2 l3 (1 : Int32) (l5 + 1) M h
set_option maxHeartbeats 4000000 in
set_option maxRecDepth 100000 in
theorem w_X12_isSame {G : Gl} {ρ0 : Nat → Nat} {M0 MF : Mem} {r : Int32} (l0 : Nat) (l1 : Int32) (l2 : Nat) (l3 : Int32) (M : Mem) (h : f_X12_isSame l0 l1 l2 l3 M = some (r, MF)) : V G (RX12, cX12_isSame, (some .boolean), 0, 0, 6, "isSame", []) (ρ0, M0, cvI r, MF) 0 [(0, .ref l0), (1, .int l1), (2, .ref l2), (3, .int l3)] [] M := by
  unfold f_X12_isSame at h
  refine v_iconst (v := 1) dX12_isSame_0 ci_1 ?_
  refine v_istore (ls' := [(4, .int (1 : Int32)), (0, .ref l0), (1, .int l1), (2, .ref l2), (3, .int l3)]) dX12_isSame_1 (by decide) rfl ?_
  refine v_iconst (v := 0) dX12_isSame_3 ci_0 ?_
  refine v_istore (ls' := [(5, .int (0 : Int32)), (4, .int (1 : Int32)), (0, .ref l0), (1, .int l1), (2, .ref l2), (3, .int l3)]) dX12_isSame_4 (by decide) rfl ?_
  refine v_sub [2, 3, 4, 5, 1, 0] rfl ?_
  exact w_X12_isSame_L6 FU l0 l1 l2 l3 (1 : Int32) (0 : Int32) M h
theorem k_X12_isSame {G : Gl} {l0 : Nat} {l1 : Int32} {l2 : Nat} {l3 : Int32} {M MF : Mem} {r : Int32} (h : f_X12_isSame l0 l1 l2 l3 M = some (r, MF)) : CtrP G yX12_isSame cX12_isSame 6 (some .boolean) 0 0 [.ref l0, .int l1, .ref l2, .int l3] M (cvI r) MF :=
  ctr_of (by decide +kernel) (Nat.le_of_ble_eq_true rfl) (fun ρ => w_X12_isSame l0 l1 l2 l3 M h)
theorem wd_X12_131 : wdT RX12 131 yX12_isSame cX12_isSame 6 (some .boolean) 4 := ⟨gwi 1303 (by decide +kernel) (by decide +kernel), gwi 1304 (by decide +kernel) (by decide +kernel), nw_X12, gwi 1305 (by decide +kernel) (by decide +kernel), ⟨by decide +kernel, by decide +kernel, by decide +kernel⟩⟩
theorem ca_X12_131 {G : Gl} {B : Bx} {cc : ByteArray} {ret : Option FieldType} {fr lo nL : Nat} {mn : String} {hh : List (Nat × Nat × Nat × Nat)} {pc : Nat} {ls : List (Nat × Value)} {st : List Value} {M M1 : Mem} {l0 : Nat} {l1 : Int32} {l2 : Nat} {l3 : Int32} {x : Int32} (e : f_X12_isSame l0 l1 l2 l3 M = some (x, M1)) (hd : decode cc pc = .ok (.invokestatic 131, 3)) (hcat : (st.map fun v => v.category).sum ≤ 8) (hR : 0 + 1 ≤ fr ∧ 8 + (6 + 11) + 0 ≤ lo) (k : V G (RX12, cc, ret, fr, lo, nL, mn, hh) B (pc + 3) ls (.int x :: st) M1) : V G (RX12, cc, ret, fr, lo, nL, mn, hh) B pc ls (.int l3 :: .ref l2 :: .int l1 :: .ref l0 :: st) M := v_callSi (As := [.ref l0, .int l1, .ref l2, .int l3]) (k_X12_isSame e) wd_X12_131 hd rfl rfl hcat hR k
set_option maxHeartbeats 4000000 in
set_option maxRecDepth 100000 in
theorem w_X12_isBefore_L3 {G : Gl} {ρ0 : Nat → Nat} {M0 MF : Mem} {r : Int32} : ∀ (n : Nat) (l0 : Nat) (l1 : Int32) (l2 : Nat) (l3 : Int32) (l4 : Int32) (M : Mem), f_X12_isBefore_L3 n l0 l1 l2 l3 l4 M = some (r, MF) → V G (RX12, cX12_isBefore, (some .boolean), 0, 0, 5, "isBefore", []) (ρ0, M0, cvI r, MF) 3 [(0, .ref l0), (1, .int l1), (2, .ref l2), (3, .int l3), (4, .int l4)] [] M := by
  intro n
  induction n with
  | zero => intro l0 l1 l2 l3 l4 M h; cases h
  | succ n ih =>
    intro l0 l1 l2 l3 l4 M h
    rw [f_X12_isBefore_L3] at h
    refine v_iload dX12_isBefore_3 4 rfl ?_
    refine v_iconst (v := 4) dX12_isBefore_5 ci_4 ?_
    refine v_icmp_ge (tgt := 53) dX12_isBefore_6 (by decide) (fun c7 => ?_) (fun c7 => ?_)
    · replace h := ifP c7 h
      refine v_iconst (v := 0) dX12_isBefore_53 ci_0 ?_
      obtain ⟨hz, rfl, rfl⟩ := okZ_some h
      exact v_zreturn dX12_isBefore_54 hz
    · replace h := ifN c7 h
      refine v_aload_n dX12_isBefore_9 rfl 0 rfl ?_
      refine v_iload_n dX12_isBefore_10 rfl 1 rfl ?_
      refine v_iload dX12_isBefore_11 4 rfl ?_
      refine v_iadd dX12_isBefore_13 ?_
      obtain ⟨v1, e, h⟩ := bind_some h
      refine v_laload dX12_isBefore_14 e ?_
      refine v_aload_n dX12_isBefore_15 rfl 2 rfl ?_
      refine v_iload_n dX12_isBefore_16 rfl 3 rfl ?_
      refine v_iload dX12_isBefore_17 4 rfl ?_
      refine v_iadd dX12_isBefore_19 ?_
      obtain ⟨v2, e, h⟩ := bind_some h
      refine v_laload dX12_isBefore_20 e ?_
      refine v_lcmp dX12_isBefore_21 ?_
      refine v_if_eq (tgt := 47) dX12_isBefore_22 (by decide) (fun c6 => ?_) (fun c6 => ?_)
      · replace h := ifP c6 h
        refine v_iinc (ls' := [(4, .int (l4 + 1)), (0, .ref l0), (1, .int l1), (2, .ref l2), (3, .int l3)]) dX12_isBefore_47 4 rfl (v := 1) ci_1 (by decide) rfl ?_
        refine v_goto (tgt := 3) dX12_isBefore_50 (by decide) ?_
        refine v_sub [1, 2, 3, 4, 0] rfl ?_
        exact ih l0 l1 l2 l3 (l4 + 1) M h
      · replace h := ifN c6 h
        refine v_aload_n dX12_isBefore_25 rfl 0 rfl ?_
        refine v_iload_n dX12_isBefore_26 rfl 1 rfl ?_
        refine v_iload dX12_isBefore_27 4 rfl ?_
        refine v_iadd dX12_isBefore_29 ?_
        obtain ⟨v3, e, h⟩ := bind_some h
        refine v_laload dX12_isBefore_30 e ?_
        refine v_aload_n dX12_isBefore_31 rfl 2 rfl ?_
        refine v_iload_n dX12_isBefore_32 rfl 3 rfl ?_
        refine v_iload dX12_isBefore_33 4 rfl ?_
        refine v_iadd dX12_isBefore_35 ?_
        obtain ⟨v4, e, h⟩ := bind_some h
        refine v_laload dX12_isBefore_36 e ?_
        refine v_lcmp dX12_isBefore_37 ?_
        refine v_if_ge (tgt := 45) dX12_isBefore_38 (by decide) (fun c5 => ?_) (fun c5 => ?_)
        · replace h := ifP c5 h
          refine v_iconst (v := 0) dX12_isBefore_45 ci_0 ?_
          obtain ⟨hz, rfl, rfl⟩ := okZ_some h
          exact v_zreturn dX12_isBefore_46 hz
        · replace h := ifN c5 h
          refine v_iconst (v := 1) dX12_isBefore_41 ci_1 ?_
          refine v_goto (tgt := 46) dX12_isBefore_42 (by decide) ?_
          obtain ⟨hz, rfl, rfl⟩ := okZ_some h
          exact v_zreturn dX12_isBefore_46 hz
set_option maxHeartbeats 4000000 in
set_option maxRecDepth 100000 in
theorem w_X12_isBefore {G : Gl} {ρ0 : Nat → Nat} {M0 MF : Mem} {r : Int32} (l0 : Nat) (l1 : Int32) (l2 : Nat) (l3 : Int32) (M : Mem) (h : f_X12_isBefore l0 l1 l2 l3 M = some (r, MF)) : V G (RX12, cX12_isBefore, (some .boolean), 0, 0, 5, "isBefore", []) (ρ0, M0, cvI r, MF) 0 [(0, .ref l0), (1, .int l1), (2, .ref l2), (3, .int l3)] [] M := by
  unfold f_X12_isBefore at h
  refine v_iconst (v := 0) dX12_isBefore_0 ci_0 ?_
  refine v_istore (ls' := [(4, .int (0 : Int32)), (0, .ref l0), (1, .int l1), (2, .ref l2), (3, .int l3)]) dX12_isBefore_1 (by decide) rfl ?_
  refine v_sub [1, 2, 3, 4, 0] rfl ?_
  exact w_X12_isBefore_L3 FU l0 l1 l2 l3 (0 : Int32) M h
theorem k_X12_isBefore {G : Gl} {l0 : Nat} {l1 : Int32} {l2 : Nat} {l3 : Int32} {M MF : Mem} {r : Int32} (h : f_X12_isBefore l0 l1 l2 l3 M = some (r, MF)) : CtrP G yX12_isBefore cX12_isBefore 5 (some .boolean) 0 0 [.ref l0, .int l1, .ref l2, .int l3] M (cvI r) MF :=
  ctr_of (by decide +kernel) (Nat.le_of_ble_eq_true rfl) (fun ρ => w_X12_isBefore l0 l1 l2 l3 M h)
theorem wd_X12_138 : wdT RX12 138 yX12_isBefore cX12_isBefore 5 (some .boolean) 4 := ⟨gwi 1329 (by decide +kernel) (by decide +kernel), gwi 1330 (by decide +kernel) (by decide +kernel), nw_X12, gwi 1331 (by decide +kernel) (by decide +kernel), ⟨by decide +kernel, by decide +kernel, by decide +kernel⟩⟩
theorem ca_X12_138 {G : Gl} {B : Bx} {cc : ByteArray} {ret : Option FieldType} {fr lo nL : Nat} {mn : String} {hh : List (Nat × Nat × Nat × Nat)} {pc : Nat} {ls : List (Nat × Value)} {st : List Value} {M M1 : Mem} {l0 : Nat} {l1 : Int32} {l2 : Nat} {l3 : Int32} {x : Int32} (e : f_X12_isBefore l0 l1 l2 l3 M = some (x, M1)) (hd : decode cc pc = .ok (.invokestatic 138, 3)) (hcat : (st.map fun v => v.category).sum ≤ 8) (hR : 0 + 1 ≤ fr ∧ 8 + (5 + 11) + 0 ≤ lo) (k : V G (RX12, cc, ret, fr, lo, nL, mn, hh) B (pc + 3) ls (.int x :: st) M1) : V G (RX12, cc, ret, fr, lo, nL, mn, hh) B pc ls (.int l3 :: .ref l2 :: .int l1 :: .ref l0 :: st) M := v_callSi (As := [.ref l0, .int l1, .ref l2, .int l3]) (k_X12_isBefore e) wd_X12_138 hd rfl rfl hcat hR k
set_option maxHeartbeats 4000000 in
set_option maxRecDepth 100000 in
theorem w_X12_matches_L12 {G : Gl} {ρ0 : Nat → Nat} {M0 MF : Mem} {r : Int32} : ∀ (n : Nat) (l0 : Nat) (l1 : Int32) (l2 : Int32) (l3 : Int32) (l4 : Int32) (M : Mem), f_X12_matches_L12 n l0 l1 l2 l3 l4 M = some (r, MF) → V G (RX12, cX12_matches, (some .boolean), 1, 22, 5, "matches", []) (ρ0, M0, cvI r, MF) 12 [(0, .ref l0), (1, .int l1), (2, .int l2), (3, .int l3), (4, .int l4)] [] M := by
  intro n
  induction n with
  | zero => intro l0 l1 l2 l3 l4 M h; cases h
  | succ n ih =>
    intro l0 l1 l2 l3 l4 M h
    rw [f_X12_matches_L12] at h
    refine v_iload dX12_matches_12 4 rfl ?_
    refine v_iload_n dX12_matches_14 rfl 2 rfl ?_
    refine v_icmp_ge (tgt := 86) dX12_matches_15 (by decide) (fun c13 => ?_) (fun c13 => ?_)
    · replace h := ifP c13 h
      refine v_iload_n dX12_matches_86 rfl 3 rfl ?_
      refine v_iload_n dX12_matches_87 rfl 2 rfl ?_
      refine v_icmp_ne (tgt := 95) dX12_matches_88 (by decide) (fun c1 => ?_) (fun c1 => ?_)
      · replace h := ifN c1 h
        refine v_iconst (v := 0) dX12_matches_95 ci_0 ?_
        obtain ⟨hz, rfl, rfl⟩ := okZ_some h
        exact v_zreturn dX12_matches_96 hz
      · replace h := ifP c1 h
        refine v_iconst (v := 1) dX12_matches_91 ci_1 ?_
        refine v_goto (tgt := 96) dX12_matches_92 (by decide) ?_
        obtain ⟨hz, rfl, rfl⟩ := okZ_some h
        exact v_zreturn dX12_matches_96 hz
    · replace h := ifN c13 h
      refine v_aload_n dX12_matches_18 rfl 0 rfl ?_
      obtain ⟨v1, e, h⟩ := bind_some h
      refine gt_X12_13 e dX12_matches_19 ?_
      refine v_iload_n dX12_matches_22 rfl 1 rfl ?_
      refine v_iload dX12_matches_23 4 rfl ?_
      refine v_iadd dX12_matches_25 ?_
      obtain ⟨v2, e, h⟩ := bind_some h
      refine v_laload dX12_matches_26 e ?_
      refine kl_X12_74 dX12_matches_27 ?_
      refine v_lcmp dX12_matches_30 ?_
      refine v_if_ne (tgt := 36) dX12_matches_31 (by decide) (fun c12 => ?_) (fun c12 => ?_)
      · replace h := ifN c12 h
        refine v_iload dX12_matches_36 4 rfl ?_
        refine v_iload_n dX12_matches_38 rfl 3 rfl ?_
        refine v_icmp_ge (tgt := 78) dX12_matches_39 (by decide) (fun c11 => ?_) (fun c11 => ?_)
        · replace h := ifP c11 h
          refine v_iconst (v := 0) dX12_matches_78 ci_0 ?_
          obtain ⟨hz, rfl, rfl⟩ := okZ_some h
          exact v_zreturn dX12_matches_79 hz
        · replace h := ifN c11 h
          refine v_aload_n dX12_matches_42 rfl 0 rfl ?_
          obtain ⟨v3, e, h⟩ := bind_some h
          refine gt_X12_13 e dX12_matches_43 ?_
          refine v_iload_n dX12_matches_46 rfl 1 rfl ?_
          refine v_iload dX12_matches_47 4 rfl ?_
          refine v_iadd dX12_matches_49 ?_
          obtain ⟨v4, e, h⟩ := bind_some h
          refine v_laload dX12_matches_50 e ?_
          refine kl_X12_76 dX12_matches_51 ?_
          refine v_lcmp dX12_matches_54 ?_
          refine v_if_eq (tgt := 80) dX12_matches_55 (by decide) (fun c10 => ?_) (fun c10 => ?_)
          · replace h := ifP c10 h
            refine v_iinc (ls' := [(4, .int (l4 + 1)), (0, .ref l0), (1, .int l1), (2, .int l2), (3, .int l3)]) dX12_matches_80 4 rfl (v := 1) ci_1 (by decide) rfl ?_
            refine v_goto (tgt := 12) dX12_matches_83 (by decide) ?_
            refine v_sub [1, 2, 3, 4, 0] rfl ?_
            exact ih l0 l1 l2 l3 (l4 + 1) M h
          · replace h := ifN c10 h
            refine v_aload_n dX12_matches_58 rfl 0 rfl ?_
            obtain ⟨v5, e, h⟩ := bind_some h
            refine gt_X12_13 e dX12_matches_59 ?_
            refine v_iload_n dX12_matches_62 rfl 1 rfl ?_
            refine v_iload dX12_matches_63 4 rfl ?_
            refine v_iadd dX12_matches_65 ?_
            obtain ⟨v6, e, h⟩ := bind_some h
            refine v_laload dX12_matches_66 e ?_
            refine v_aload_n dX12_matches_67 rfl 0 rfl ?_
            obtain ⟨v7, e, h⟩ := bind_some h
            refine gt_X12_40 e dX12_matches_68 ?_
            refine v_iload dX12_matches_71 4 rfl ?_
            obtain ⟨v8, e, h⟩ := bind_some h
            refine v_laload dX12_matches_73 e ?_
            refine v_lcmp dX12_matches_74 ?_
            refine v_if_eq (tgt := 80) dX12_matches_75 (by decide) (fun c9 => ?_) (fun c9 => ?_)
            · replace h := ifP c9 h
              refine v_iinc (ls' := [(4, .int (l4 + 1)), (0, .ref l0), (1, .int l1), (2, .int l2), (3, .int l3)]) dX12_matches_80 4 rfl (v := 1) ci_1 (by decide) rfl ?_
              refine v_goto (tgt := 12) dX12_matches_83 (by decide) ?_
              refine v_sub [1, 2, 3, 4, 0] rfl ?_
              exact ih l0 l1 l2 l3 (l4 + 1) M h
            · replace h := ifN c9 h
              refine v_iconst (v := 0) dX12_matches_78 ci_0 ?_
              obtain ⟨hz, rfl, rfl⟩ := okZ_some h
              exact v_zreturn dX12_matches_79 hz
      · replace h := ifP c12 h
        refine v_iconst (v := 1) dX12_matches_34 ci_1 ?_
        obtain ⟨hz, rfl, rfl⟩ := okZ_some h
        exact v_zreturn dX12_matches_35 hz
set_option maxHeartbeats 4000000 in
set_option maxRecDepth 100000 in
theorem w_X12_matches {G : Gl} {ρ0 : Nat → Nat} {M0 MF : Mem} {r : Int32} (l0 : Nat) (l1 : Int32) (l2 : Int32) (M : Mem) (h : f_X12_matches l0 l1 l2 M = some (r, MF)) : V G (RX12, cX12_matches, (some .boolean), 1, 22, 5, "matches", []) (ρ0, M0, cvI r, MF) 0 [(0, .ref l0), (1, .int l1), (2, .int l2)] [] M := by
  unfold f_X12_matches at h
  replace h := (ifS h).2
  refine v_aload_n dX12_matches_0 rfl 0 rfl ?_
  obtain ⟨v1, e, h⟩ := bind_some h
  refine gt_X12_40 e dX12_matches_1 ?_
  refine v_iconst (v := 0) dX12_matches_4 ci_0 ?_
  obtain ⟨v3, M2, e, h⟩ := bindP_some h
  refine ca_X12_78 e dX12_matches_5 (Nat.le_of_ble_eq_true rfl) (by decide) ?_
  refine v_istore_n (ls' := [(3, .int v3), (0, .ref l0), (1, .int l1), (2, .int l2)]) dX12_matches_8 rfl (by decide) rfl ?_
  refine v_iconst (v := 0) dX12_matches_9 ci_0 ?_
  refine v_istore (ls' := [(4, .int (0 : Int32)), (3, .int v3), (0, .ref l0), (1, .int l1), (2, .int l2)]) dX12_matches_10 (by decide) rfl ?_
  refine v_sub [2, 3, 4, 1, 0] rfl ?_
  exact w_X12_matches_L12 FU l0 l1 l2 v3 (0 : Int32) M2 h
theorem kd_X12_matches {l0 : Nat} {l1 : Int32} {l2 : Int32} {M : Mem} {z : _} (h : f_X12_matches l0 l1 l2 M = some z) : (mK M l0).1 = 12 := by
  unfold f_X12_matches at h
  exact (ifS h).1
theorem k_X12_matches {G : Gl} {l0 : Nat} {l1 : Int32} {l2 : Int32} {M MF : Mem} {r : Int32} (h : f_X12_matches l0 l1 l2 M = some (r, MF)) : CtrP G yX12_matches cX12_matches 5 (some .boolean) 1 22 [.ref l0, .int l1, .int l2] M (cvI r) MF :=
  ctr_of (by decide +kernel) (Nat.le_of_ble_eq_true rfl) (fun ρ => w_X12_matches l0 l1 l2 M h)
theorem wd_X12_144 : wdV RX12 144 RX12 yX12_matches cX12_matches 5 (some .boolean) 2 := ⟨gwi 1340 (by decide +kernel) (by decide +kernel), gwi 1342 (by decide +kernel) (by decide +kernel), gwi 42 (by decide +kernel) (by decide +kernel), nw_X12, gwi 1343 (by decide +kernel) (by decide +kernel), ⟨rfl, by decide +kernel, by decide +kernel, by decide +kernel⟩⟩
theorem ca_X12_144 {G : Gl} {B : Bx} {cc : ByteArray} {ret : Option FieldType} {fr lo nL : Nat} {mn : String} {hh : List (Nat × Nat × Nat × Nat)} {pc : Nat} {ls : List (Nat × Value)} {st : List Value} {M M1 : Mem} {l0 : Nat} {l1 : Int32} {l2 : Int32} {x : Int32} (e : f_X12_matches l0 l1 l2 M = some (x, M1)) (hd : decode cc pc = .ok (.invokevirtual 144, 3)) (hcat : (st.map fun v => v.category).sum ≤ 8) (hR : 1 + 1 ≤ fr ∧ 8 + (5 + 11) + 22 ≤ lo) (k : V G (RX12, cc, ret, fr, lo, nL, mn, hh) B (pc + 3) ls (.int x :: st) M1) : V G (RX12, cc, ret, fr, lo, nL, mn, hh) B pc ls (.int l2 :: .int l1 :: .ref l0 :: st) M := v_callVi (As := [.int l1, .int l2]) (k_X12_matches e) wd_X12_144 clX12 (kd_X12_matches e) hd rfl rfl hcat hR k
set_option maxHeartbeats 4000000 in
set_option maxRecDepth 100000 in
theorem w_X12_append_L85 {G : Gl} {ρ0 : Nat → Nat} {M0 MF : Mem} {r : Int32} : ∀ (n : Nat) (l0 : Nat) (l1 : Int32) (l3 : Int32) (M : Mem), f_X12_append_L85 n l0 l1 l3 M = some (r, MF) → V G (RX12, cX12_append, (some .int), 1, 22, 5, "append", []) (ρ0, M0, cvI r, MF) 85 [(0, .ref l0), (1, .int l1), (3, .int l3)] [] M := by
  intro n
  induction n with
  | zero => intro l0 l1 l3 M h; cases h
  | succ n ih =>
    intro l0 l1 l3 M h
    rw [f_X12_append_L85] at h
    refine v_iload_n dX12_append_85 rfl 2 rfl ?_
    refine v_if_lt (tgt := 131) dX12_append_86 (by decide) (fun c7 => ?_) (fun c7 => ?_)
    · replace h := ifP c7 h
      refine v_aload_n dX12_append_131 rfl 0 rfl ?_
      obtain ⟨v1, e, h⟩ := bind_some h
      refine gt_X12_59 e dX12_append_132 ?_
      cases h
      exact v_ireturn dX12_append_135
    · replace h := ifN c7 h
      refine v_iload_n dX12_append_89 rfl 1 rfl ?_
      refine v_iload_n dX12_append_90 rfl 2 rfl ?_
      refine v_iushr dX12_append_91 ?_
      refine v_sipush (v := 255) dX12_append_92 cs_255 ?_
      refine v_iand dX12_append_95 ?_
      refine v_if_eq (tgt := 125) dX12_append_96 (by decide) (fun c6 => ?_) (fun c6 => ?_)
      · replace h := ifP c6 h
        refine v_iinc (ls' := [(3, .int (l3 + (-8))), (0, .ref l0), (1, .int l1)]) dX12_append_125 2 rfl (v := (-8)) ci_m8 (by decide) rfl ?_
        refine v_goto (tgt := 85) dX12_append_128 (by decide) ?_
        refine v_sub [1, 2, 0] rfl ?_
        exact ih l0 l1 (l3 + (-8)) M h
      · replace h := ifN c6 h
        refine v_aload_n dX12_append_99 rfl 0 rfl ?_
        obtain ⟨v1, e, h⟩ := bind_some h
        refine gt_X12_30 e dX12_append_100 ?_
        refine v_aload_n dX12_append_103 rfl 0 rfl ?_
        obtain ⟨v2, e, h⟩ := bind_some h
        refine gt_X12_59 e dX12_append_104 ?_
        refine v_iload_n dX12_append_107 rfl 1 rfl ?_
        refine v_iload_n dX12_append_108 rfl 2 rfl ?_
        refine v_iushr dX12_append_109 ?_
        refine v_sipush (v := 255) dX12_append_110 cs_255 ?_
        refine v_iand dX12_append_113 ?_
        obtain ⟨M3, e, h⟩ := bind_some h
        refine v_iastore dX12_append_114 e ?_
        refine v_aload_n dX12_append_115 rfl 0 rfl ?_
        refine v_dup dX12_append_116 rfl ?_
        obtain ⟨v4, e, h⟩ := bind_some h
        refine gt_X12_59 e dX12_append_117 ?_
        refine v_iconst (v := 1) dX12_append_120 ci_1 ?_
        refine v_iadd dX12_append_121 ?_
        obtain ⟨M5, e, h⟩ := bind_some h
        refine pt_X12_59 e dX12_append_122 ?_
        refine v_iinc (ls' := [(3, .int (l3 + (-8))), (0, .ref l0), (1, .int l1)]) dX12_append_125 2 rfl (v := (-8)) ci_m8 (by decide) rfl ?_
        refine v_goto (tgt := 85) dX12_append_128 (by decide) ?_
        refine v_sub [1, 2, 0] rfl ?_
        exact ih l0 l1 (l3 + (-8)) M5 h
set_option maxHeartbeats 4000000 in
set_option maxRecDepth 100000 in
theorem w_X12_append_J46 {G : Gl} {ρ0 : Nat → Nat} {M0 MF : Mem} {r : Int32} (k10 : Nat → Int32 → Int32 → Int32 → Mem → Option (Int32 × Mem)) (h10 : ∀ (l0 : Nat) (l1 : Int32) (l2 : Int32) (l3 : Int32) (M : Mem), k10 l0 l1 l2 l3 M = some (r, MF) → V G (RX12, cX12_append, (some .int), 1, 22, 5, "append", []) (ρ0, M0, cvI r, MF) 10 [(0, .ref l0), (1, .int l1), (2, .int l2), (3, .int l3)] [] M) (l0 : Nat) (l1 : Int32) (l2 : Int32) (l3 : Int32) (l4 : Int32) (M : Mem) (h : f_X12_append_J46 k10 l0 l1 l2 l3 l4 M = some (r, MF)) : V G (RX12, cX12_append, (some .int), 1, 22, 5, "append", []) (ρ0, M0, cvI r, MF) 46 [(0, .ref l0), (1, .int l1), (2, .int l2), (3, .int l3), (4, .int l4)] [] M := by
  unfold f_X12_append_J46 at h
  refine v_iload_n dX12_append_46 rfl 2 rfl ?_
  refine v_iload dX12_append_47 4 rfl ?_
  refine v_if_ne (tgt := 56) dX12_append_49 (by decide) (fun c1 => ?_) (fun c1 => ?_)
  · replace h := ifN c1 h
    refine v_iconst (v := 1) dX12_append_56 ci_1 ?_
    refine v_iadd dX12_append_57 ?_
    refine v_istore_n (ls' := [(2, .int (l2 + (1 : Int32))), (0, .ref l0), (1, .int l1), (3, .int l3), (4, .int l4)]) dX12_append_58 rfl (by decide) rfl ?_
    refine v_iinc (ls' := [(3, .int (l3 + (-8))), (2, .int (l2 + (1 : Int32))), (0, .ref l0), (1, .int l1), (4, .int l4)]) dX12_append_59 3 rfl (v := (-8)) ci_m8 (by decide) rfl ?_
    refine v_goto (tgt := 10) dX12_append_62 (by decide) ?_
    refine v_sub [2, 3, 1, 0] rfl ?_
    exact h10 l0 l1 (l2 + (1 : Int32)) (l3 + (-8)) M h
  · replace h := ifP c1 h
    refine v_iconst (v := 0) dX12_append_52 ci_0 ?_
    refine v_goto (tgt := 57) dX12_append_53 (by decide) ?_
    refine v_iadd dX12_append_57 ?_
    refine v_istore_n (ls' := [(2, .int (l2 + (0 : Int32))), (0, .ref l0), (1, .int l1), (3, .int l3), (4, .int l4)]) dX12_append_58 rfl (by decide) rfl ?_
    refine v_iinc (ls' := [(3, .int (l3 + (-8))), (2, .int (l2 + (0 : Int32))), (0, .ref l0), (1, .int l1), (4, .int l4)]) dX12_append_59 3 rfl (v := (-8)) ci_m8 (by decide) rfl ?_
    refine v_goto (tgt := 10) dX12_append_62 (by decide) ?_
    refine v_sub [2, 3, 1, 0] rfl ?_
    exact h10 l0 l1 (l2 + (0 : Int32)) (l3 + (-8)) M h
set_option maxHeartbeats 4000000 in
set_option maxRecDepth 100000 in
theorem w_X12_append_L10 {G : Gl} {ρ0 : Nat → Nat} {M0 MF : Mem} {r : Int32} : ∀ (n : Nat) (l0 : Nat) (l1 : Int32) (l2 : Int32) (l3 : Int32) (M : Mem), f_X12_append_L10 n l0 l1 l2 l3 M = some (r, MF) → V G (RX12, cX12_append, (some .int), 1, 22, 5, "append", []) (ρ0, M0, cvI r, MF) 10 [(0, .ref l0), (1, .int l1), (2, .int l2), (3, .int l3)] [] M := by
  intro n
  induction n with
  | zero => intro l0 l1 l2 l3 M h; cases h
  | succ n ih =>
    intro l0 l1 l2 l3 M h
    rw [f_X12_append_L10] at h
    refine v_iload_n dX12_append_10 rfl 3 rfl ?_
    refine v_if_lt (tgt := 65) dX12_append_11 (by decide) (fun c7 => ?_) (fun c7 => ?_)
    · replace h := ifP c7 h
      refine v_aload_n dX12_append_65 rfl 0 rfl ?_
      obtain ⟨v1, e, h⟩ := bind_some h
      refine gt_X12_59 e dX12_append_66 ?_
      refine v_iload_n dX12_append_69 rfl 2 rfl ?_
      refine v_iadd dX12_append_70 ?_
      refine v_bipush (v := 30) dX12_append_71 cb_30 ?_
      refine v_icmp_le (tgt := 82) dX12_append_73 (by decide) (fun c4 => ?_) (fun c4 => ?_)
      · replace h := ifP c4 h
        refine v_bipush (v := 24) dX12_append_82 cb_24 ?_
        refine v_istore_n (ls' := [(3, .int (24 : Int32)), (0, .ref l0), (1, .int l1), (2, .int l2)]) dX12_append_84 rfl (by decide) rfl ?_
        refine v_sub [1, 2, 0] rfl ?_
        exact w_X12_append_L85 FU l0 l1 (24 : Int32) M h
      · replace h := ifN c4 h
        refine v_aload_n dX12_append_76 rfl 0 rfl ?_
        refine v_iconst (v := 2) dX12_append_77 ci_2 ?_
        obtain ⟨v3, M2, e, h⟩ := bindP_some h
        refine ca_X12_86 e dX12_append_78 (Nat.le_of_ble_eq_true rfl) (by decide) ?_
        cases h
        exact v_ireturn dX12_append_81
    · replace h := ifN c7 h
      refine v_iload_n dX12_append_14 rfl 1 rfl ?_
      refine v_iload_n dX12_append_15 rfl 3 rfl ?_
      refine v_iushr dX12_append_16 ?_
      refine v_sipush (v := 255) dX12_append_17 cs_255 ?_
      refine v_iand dX12_append_20 ?_
      refine v_istore (ls' := [(4, .int ((iushrE l1 l3) &&& (255 : Int32))), (0, .ref l0), (1, .int l1), (2, .int l2), (3, .int l3)]) dX12_append_21 (by decide) rfl ?_
      refine v_iload dX12_append_23 0 rfl ?_
      refine v_if_eq (tgt := 46) dX12_append_25 (by decide) (fun c6 => ?_) (fun c6 => ?_)
      · replace h := ifP c6 h
        refine v_sub [1, 2, 3, 4, 0] rfl ?_
        exact w_X12_append_J46 (f_X12_append_L10 n) ih l0 l1 l2 l3 ((iushrE l1 l3) &&& (255 : Int32)) M h
      · replace h := ifN c6 h
        refine v_iload dX12_append_28 0 rfl ?_
        refine v_bipush (v := 33) dX12_append_30 cb_33 ?_
        refine v_bipush (v := 126) dX12_append_32 cb_126 ?_
        obtain ⟨v2, M1, e, h⟩ := bindP_some h
        refine ca_X12_55 e dX12_append_34 (Nat.le_of_ble_eq_true rfl) (by decide) ?_
        refine v_if_ne (tgt := 46) dX12_append_37 (by decide) (fun c5 => ?_) (fun c5 => ?_)
        · replace h := ifN c5 h
          refine v_sub [1, 2, 3, 4, 0] rfl ?_
          exact w_X12_append_J46 (f_X12_append_L10 n) ih l0 l1 l2 l3 ((iushrE l1 l3) &&& (255 : Int32)) M1 h
        · replace h := ifP c5 h
          refine v_aload_n dX12_append_40 rfl 1 rfl ?_
          refine v_iconst (v := 1) dX12_append_41 ci_1 ?_
          obtain ⟨v4, M3, e, h⟩ := bindP_some h
          refine ca_X12_86 e dX12_append_42 (Nat.le_of_ble_eq_true rfl) (by decide) ?_
          cases h
          exact v_ireturn dX12_append_45
set_option maxHeartbeats 4000000 in
set_option maxRecDepth 100000 in
theorem w_X12_append {G : Gl} {ρ0 : Nat → Nat} {M0 MF : Mem} {r : Int32} (l0 : Nat) (l1 : Int32) (M : Mem) (h : f_X12_append l0 l1 M = some (r, MF)) : V G (RX12, cX12_append, (some .int), 1, 22, 5, "append", []) (ρ0, M0, cvI r, MF) 0 [(0, .ref l0), (1, .int l1)] [] M := by
  unfold f_X12_append at h
  replace h := (ifS h).2
  refine v_aload_n dX12_append_0 rfl 0 rfl ?_
  refine v_iconst (v := 0) dX12_append_1 ci_0 ?_
  obtain ⟨M1, e, h⟩ := bind_some h
  refine pt_X12_52 e dX12_append_2 ?_
  refine v_iconst (v := 0) dX12_append_5 ci_0 ?_
  refine v_istore_n (ls' := [(2, .int (0 : Int32)), (0, .ref l0), (1, .int l1)]) dX12_append_6 rfl (by decide) rfl ?_
  refine v_bipush (v := 24) dX12_append_7 cb_24 ?_
  refine v_istore_n (ls' := [(3, .int (24 : Int32)), (2, .int (0 : Int32)), (0, .ref l0), (1, .int l1)]) dX12_append_9 rfl (by decide) rfl ?_
  refine v_sub [2, 3, 1, 0] rfl ?_
  exact w_X12_append_L10 FU l0 l1 (0 : Int32) (24 : Int32) M1 h
theorem kd_X12_append {l0 : Nat} {l1 : Int32} {M : Mem} {z : _} (h : f_X12_append l0 l1 M = some z) : (mK M l0).1 = 12 := by
  unfold f_X12_append at h
  exact (ifS h).1
theorem k_X12_append {G : Gl} {l0 : Nat} {l1 : Int32} {M MF : Mem} {r : Int32} (h : f_X12_append l0 l1 M = some (r, MF)) : CtrP G yX12_append cX12_append 5 (some .int) 1 22 [.ref l0, .int l1] M (cvI r) MF :=
  ctr_of (by decide +kernel) (Nat.le_of_ble_eq_true rfl) (fun ρ => w_X12_append l0 l1 M h)
set_option maxHeartbeats 4000000 in
set_option maxRecDepth 100000 in
theorem w_X12_errorPosition {G : Gl} {ρ0 : Nat → Nat} {M0 MF : Mem} {r : Int32} (l0 : Nat) (M : Mem) (h : f_X12_errorPosition l0 M = some (r, MF)) : V G (RX12, cX12_errorPosition, (some .int), 0, 0, 1, "errorPosition", []) (ρ0, M0, cvI r, MF) 0 [(0, .ref l0)] [] M := by
  unfold f_X12_errorPosition at h
  replace h := (ifS h).2
  refine v_aload_n dX12_errorPosition_0 rfl 0 rfl ?_
  refine v_iconst (v := 0) dX12_errorPosition_1 ci_0 ?_
  obtain ⟨M1, e, h⟩ := bind_some h
  refine pt_X12_52 e dX12_errorPosition_2 ?_
  refine v_aload_n dX12_errorPosition_5 rfl 0 rfl ?_
  obtain ⟨v2, e, h⟩ := bind_some h
  refine gt_X12_33 e dX12_errorPosition_6 ?_
  cases h
  exact v_ireturn dX12_errorPosition_9
theorem kd_X12_errorPosition {l0 : Nat} {M : Mem} {z : _} (h : f_X12_errorPosition l0 M = some z) : (mK M l0).1 = 12 := by
  unfold f_X12_errorPosition at h
  exact (ifS h).1
theorem k_X12_errorPosition {G : Gl} {l0 : Nat} {M MF : Mem} {r : Int32} (h : f_X12_errorPosition l0 M = some (r, MF)) : CtrP G yX12_errorPosition cX12_errorPosition 1 (some .int) 0 0 [.ref l0] M (cvI r) MF :=
  ctr_of (by decide +kernel) (Nat.le_of_ble_eq_true rfl) (fun ρ => w_X12_errorPosition l0 M h)
set_option maxHeartbeats 4000000 in
set_option maxRecDepth 100000 in
theorem w_X12_isValue {G : Gl} {ρ0 : Nat → Nat} {M0 MF : Mem} {r : Int32} (l0 : Int32) (l1 : Int32) (M : Mem) (h : f_X12_isValue l0 l1 M = some (r, MF)) : V G (RX12, cX12_isValue, (some .boolean), 1, 22, 2, "isValue", []) (ρ0, M0, cvI r, MF) 0 [(0, .int l0), (1, .int l1)] [] M := by
  unfold f_X12_isValue at h
  refine v_iload_n dX12_isValue_0 rfl 0 rfl ?_
  refine v_if_ne (tgt := 13) dX12_isValue_1 (by decide) (fun c5 => ?_) (fun c5 => ?_)
  · replace h := ifN c5 h
    refine v_iload_n dX12_isValue_13 rfl 0 rfl ?_
    refine v_iconst (v := 1) dX12_isValue_14 ci_1 ?_
    refine v_icmp_ne (tgt := 28) dX12_isValue_15 (by decide) (fun c4 => ?_) (fun c4 => ?_)
    · replace h := ifN c4 h
      refine v_iload_n dX12_isValue_28 rfl 0 rfl ?_
      refine v_iconst (v := 2) dX12_isValue_29 ci_2 ?_
      refine v_icmp_ne (tgt := 43) dX12_isValue_30 (by decide) (fun c3 => ?_) (fun c3 => ?_)
      · replace h := ifN c3 h
        refine v_iload_n dX12_isValue_43 rfl 1 rfl ?_
        refine v_iconst (v := 0) dX12_isValue_44 ci_0 ?_
        refine v_iconst (v := 1) dX12_isValue_45 ci_1 ?_
        obtain ⟨v2, M1, e, h⟩ := bindP_some h
        refine ca_X12_55 e dX12_isValue_46 (Nat.le_of_ble_eq_true rfl) (by decide) ?_
        obtain ⟨hz, rfl, rfl⟩ := okZ_some h
        exact v_zreturn dX12_isValue_49 hz
      · replace h := ifP c3 h
        refine v_iload_n dX12_isValue_33 rfl 1 rfl ?_
        refine v_iconst (v := 1) dX12_isValue_34 ci_1 ?_
        refine v_bipush (v := 100) dX12_isValue_35 cb_100 ?_
        obtain ⟨v2, M1, e, h⟩ := bindP_some h
        refine ca_X12_55 e dX12_isValue_37 (Nat.le_of_ble_eq_true rfl) (by decide) ?_
        refine v_goto (tgt := 49) dX12_isValue_40 (by decide) ?_
        obtain ⟨hz, rfl, rfl⟩ := okZ_some h
        exact v_zreturn dX12_isValue_49 hz
    · replace h := ifP c4 h
      refine v_iload_n dX12_isValue_18 rfl 1 rfl ?_
      refine v_iconst (v := 0) dX12_isValue_19 ci_0 ?_
      refine v_bipush (v := 20) dX12_isValue_20 cb_20 ?_
      obtain ⟨v2, M1, e, h⟩ := bindP_some h
      refine ca_X12_55 e dX12_isValue_22 (Nat.le_of_ble_eq_true rfl) (by decide) ?_
      refine v_goto (tgt := 49) dX12_isValue_25 (by decide) ?_
      obtain ⟨hz, rfl, rfl⟩ := okZ_some h
      exact v_zreturn dX12_isValue_49 hz
  · replace h := ifP c5 h
    refine v_iload_n dX12_isValue_4 rfl 1 rfl ?_
    refine v_iconst (v := 1) dX12_isValue_5 ci_1 ?_
    refine v_iconst (v := 5) dX12_isValue_6 ci_5 ?_
    obtain ⟨v2, M1, e, h⟩ := bindP_some h
    refine ca_X12_55 e dX12_isValue_7 (Nat.le_of_ble_eq_true rfl) (by decide) ?_
    refine v_goto (tgt := 49) dX12_isValue_10 (by decide) ?_
    obtain ⟨hz, rfl, rfl⟩ := okZ_some h
    exact v_zreturn dX12_isValue_49 hz
theorem k_X12_isValue {G : Gl} {l0 : Int32} {l1 : Int32} {M MF : Mem} {r : Int32} (h : f_X12_isValue l0 l1 M = some (r, MF)) : CtrP G yX12_isValue cX12_isValue 2 (some .boolean) 1 22 [.int l0, .int l1] M (cvI r) MF :=
  ctr_of (by decide +kernel) (Nat.le_of_ble_eq_true rfl) (fun ρ => w_X12_isValue l0 l1 M h)
theorem wd_X12_89 : wdT RX12 89 yX12_isValue cX12_isValue 2 (some .boolean) 2 := ⟨gwi 1265 (by decide +kernel) (by decide +kernel), gwi 1266 (by decide +kernel) (by decide +kernel), nw_X12, gwi 1267 (by decide +kernel) (by decide +kernel), ⟨by decide +kernel, by decide +kernel, by decide +kernel⟩⟩
theorem ca_X12_89 {G : Gl} {B : Bx} {cc : ByteArray} {ret : Option FieldType} {fr lo nL : Nat} {mn : String} {hh : List (Nat × Nat × Nat × Nat)} {pc : Nat} {ls : List (Nat × Value)} {st : List Value} {M M1 : Mem} {l0 : Int32} {l1 : Int32} {x : Int32} (e : f_X12_isValue l0 l1 M = some (x, M1)) (hd : decode cc pc = .ok (.invokestatic 89, 3)) (hcat : (st.map fun v => v.category).sum ≤ 8) (hR : 1 + 1 ≤ fr ∧ 8 + (2 + 11) + 22 ≤ lo) (k : V G (RX12, cc, ret, fr, lo, nL, mn, hh) B (pc + 3) ls (.int x :: st) M1) : V G (RX12, cc, ret, fr, lo, nL, mn, hh) B pc ls (.int l1 :: .int l0 :: st) M := v_callSi (As := [.int l0, .int l1]) (k_X12_isValue e) wd_X12_89 hd rfl rfl hcat hR k
set_option maxHeartbeats 4000000 in
set_option maxRecDepth 100000 in
theorem w_X12_setOption {G : Gl} {ρ0 : Nat → Nat} {M0 MF : Mem} {r : Int32} (l0 : Nat) (l1 : Int32) (l2 : Int32) (M : Mem) (h : f_X12_setOption l0 l1 l2 M = some (r, MF)) : V G (RX12, cX12_setOption, (some .int), 2, 43, 4, "setOption", []) (ρ0, M0, cvI r, MF) 0 [(0, .ref l0), (1, .int l1), (2, .int l2)] [] M := by
  unfold f_X12_setOption at h
  replace h := (ifS h).2
  refine v_aload_n dX12_setOption_0 rfl 0 rfl ?_
  refine v_iconst (v := 0) dX12_setOption_1 ci_0 ?_
  obtain ⟨M1, e, h⟩ := bind_some h
  refine pt_X12_52 e dX12_setOption_2 ?_
  refine v_iload_n dX12_setOption_5 rfl 1 rfl ?_
  refine v_iconst (v := 0) dX12_setOption_6 ci_0 ?_
  refine v_iconst (v := 3) dX12_setOption_7 ci_3 ?_
  obtain ⟨v3, M2, e, h⟩ := bindP_some h
  refine ca_X12_55 e dX12_setOption_8 (Nat.le_of_ble_eq_true rfl) (by decide) ?_
  refine v_if_ne (tgt := 20) dX12_setOption_11 (by decide) (fun c11 => ?_) (fun c11 => ?_)
  · replace h := ifN c11 h
    refine v_iload_n dX12_setOption_20 rfl 1 rfl ?_
    refine v_iload_n dX12_setOption_21 rfl 2 rfl ?_
    obtain ⟨v5, M4, e, h⟩ := bindP_some h
    refine ca_X12_89 e dX12_setOption_22 (Nat.le_of_ble_eq_true rfl) (by decide) ?_
    refine v_if_ne (tgt := 34) dX12_setOption_25 (by decide) (fun c10 => ?_) (fun c10 => ?_)
    · replace h := ifN c10 h
      refine v_aload_n dX12_setOption_34 rfl 0 rfl ?_
      obtain ⟨v6, e, h⟩ := bind_some h
      refine gt_X12_9 e dX12_setOption_35 ?_
      refine v_iconst (v := 1) dX12_setOption_38 ci_1 ?_
      refine v_iload_n dX12_setOption_39 rfl 1 rfl ?_
      refine v_iadd dX12_setOption_40 ?_
      obtain ⟨v7, e, h⟩ := bind_some h
      refine v_iaload dX12_setOption_41 e ?_
      refine v_istore_n (ls' := [(3, .int v7), (0, .ref l0), (1, .int l1), (2, .int l2)]) dX12_setOption_42 rfl (by decide) rfl ?_
      refine v_aload_n dX12_setOption_43 rfl 1 rfl ?_
      obtain ⟨v8, e, h⟩ := bind_some h
      refine gt_X12_9 e dX12_setOption_44 ?_
      refine v_iconst (v := 1) dX12_setOption_47 ci_1 ?_
      refine v_iload_n dX12_setOption_48 rfl 2 rfl ?_
      refine v_iadd dX12_setOption_49 ?_
      refine v_iload_n dX12_setOption_50 rfl 3 rfl ?_
      obtain ⟨M9, e, h⟩ := bind_some h
      refine v_iastore dX12_setOption_51 e ?_
      refine v_iload_n dX12_setOption_52 rfl 0 rfl ?_
      cases h
      exact v_ireturn dX12_setOption_53
    · replace h := ifP c10 h
      refine v_aload_n dX12_setOption_28 rfl 0 rfl ?_
      refine v_iconst (v := 2) dX12_setOption_29 ci_2 ?_
      obtain ⟨v7, M6, e, h⟩ := bindP_some h
      refine ca_X12_86 e dX12_setOption_30 (Nat.le_of_ble_eq_true rfl) (by decide) ?_
      cases h
      exact v_ireturn dX12_setOption_33
  · replace h := ifP c11 h
    refine v_aload_n dX12_setOption_14 rfl 0 rfl ?_
    refine v_iconst (v := 1) dX12_setOption_15 ci_1 ?_
    obtain ⟨v5, M4, e, h⟩ := bindP_some h
    refine ca_X12_86 e dX12_setOption_16 (Nat.le_of_ble_eq_true rfl) (by decide) ?_
    cases h
    exact v_ireturn dX12_setOption_19
theorem kd_X12_setOption {l0 : Nat} {l1 : Int32} {l2 : Int32} {M : Mem} {z : _} (h : f_X12_setOption l0 l1 l2 M = some z) : (mK M l0).1 = 12 := by
  unfold f_X12_setOption at h
  exact (ifS h).1
theorem k_X12_setOption {G : Gl} {l0 : Nat} {l1 : Int32} {l2 : Int32} {M MF : Mem} {r : Int32} (h : f_X12_setOption l0 l1 l2 M = some (r, MF)) : CtrP G yX12_setOption cX12_setOption 4 (some .int) 2 43 [.ref l0, .int l1, .int l2] M (cvI r) MF :=
  ctr_of (by decide +kernel) (Nat.le_of_ble_eq_true rfl) (fun ρ => w_X12_setOption l0 l1 l2 M h)
