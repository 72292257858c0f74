set_option maxHeartbeats 4000000 in
set_option maxRecDepth 100000 in
theorem w_X12_appends {G : Gl} {ρ0 : Nat → Nat} {M0 MF : Mem} {r : Unit} (l0 : Nat) (l1 : Int32) (l2 : Int32) (l3 : Int32) (l4 : Int32) (l5 : Int32) (l6 : Int32) (l7 : Nat) (l8 : Int32) (M : Mem) (h : f_X12_appends l0 l1 l2 l3 l4 l5 l6 l7 l8 M = some MF) : V G (RX12, cX12_appends, none, 1, 24, 10, "appends", []) (ρ0, M0, cvV r, MF) 0 [(0, .ref l0), (1, .int l1), (2, .int l2), (3, .int l3), (4, .int l4), (5, .int l5), (6, .int l6), (7, .ref l7), (8, .int l8)] [] M := by
  unfold f_X12_appends at h
  replace h := (ifS h).2
  refine v_bipush (v := 30) dX12_appends_0 cb_30 ?_
  refine v_iload_n dX12_appends_2 rfl 1 rfl ?_
  refine v_imul dX12_appends_3 ?_
  refine v_aload_n dX12_appends_4 rfl 0 rfl ?_
  obtain ⟨v1, e, h⟩ := bind_some h
  refine gt_X12_9 e dX12_appends_5 ?_
  refine v_bipush (v := 68) dX12_appends_8 cb_68 ?_
  refine v_iload_n dX12_appends_10 rfl 1 rfl ?_
  refine v_iadd dX12_appends_11 ?_
  obtain ⟨v2, e, h⟩ := bind_some h
  refine v_iaload dX12_appends_12 e ?_
  refine v_iadd dX12_appends_13 ?_
  refine v_istore (ls' := [(9, .int (((30 : Int32) * l1) + v2)), (0, .ref l0), (1, .int l1), (2, .int l2), (3, .int l3), (4, .int l4), (5, .int l5), (6, .int l6), (7, .ref l7), (8, .int l8)]) dX12_appends_14 (by decide) rfl ?_
  refine v_aload_n dX12_appends_16 rfl 1 rfl ?_
  obtain ⟨v3, e, h⟩ := bind_some h
  refine gt_X12_9 e dX12_appends_17 ?_
  refine v_sipush (v := 878) dX12_appends_20 cs_878 ?_
  refine v_iload dX12_appends_23 0 rfl ?_
  refine v_iadd dX12_appends_25 ?_
  refine v_iload_n dX12_appends_26 rfl 3 rfl ?_
  obtain ⟨M4, e, h⟩ := bind_some h
  refine v_iastore dX12_appends_27 e ?_
  refine v_aload_n dX12_appends_28 rfl 1 rfl ?_
  obtain ⟨v5, e, h⟩ := bind_some h
  refine gt_X12_9 e dX12_appends_29 ?_
  refine v_sipush (v := 1058) dX12_appends_32 cs_1058 ?_
  refine v_iload dX12_appends_35 0 rfl ?_
  refine v_iadd dX12_appends_37 ?_
  refine v_iload_n dX12_appends_38 rfl 4 rfl ?_
  obtain ⟨M6, e, h⟩ := bind_some h
  refine v_iastore dX12_appends_39 e ?_
  refine v_aload_n dX12_appends_40 rfl 1 rfl ?_
  obtain ⟨v7, e, h⟩ := bind_some h
  refine gt_X12_9 e dX12_appends_41 ?_
  refine v_sipush (v := 1238) dX12_appends_44 cs_1238 ?_
  refine v_iload dX12_appends_47 0 rfl ?_
  refine v_iadd dX12_appends_49 ?_
  refine v_iload dX12_appends_50 5 rfl ?_
  obtain ⟨M8, e, h⟩ := bind_some h
  refine v_iastore dX12_appends_52 e ?_
  refine v_aload_n dX12_appends_53 rfl 1 rfl ?_
  obtain ⟨v9, e, h⟩ := bind_some h
  refine gt_X12_9 e dX12_appends_54 ?_
  refine v_sipush (v := 1418) dX12_appends_57 cs_1418 ?_
  refine v_iload dX12_appends_60 0 rfl ?_
  refine v_iadd dX12_appends_62 ?_
  refine v_iload dX12_appends_63 6 rfl ?_
  obtain ⟨M10, e, h⟩ := bind_some h
  refine v_iastore dX12_appends_65 e ?_
  refine v_aload_n dX12_appends_66 rfl 1 rfl ?_
  obtain ⟨v11, e, h⟩ := bind_some h
  refine gt_X12_9 e dX12_appends_67 ?_
  refine v_sipush (v := 1598) dX12_appends_70 cs_1598 ?_
  refine v_iload dX12_appends_73 0 rfl ?_
  refine v_iadd dX12_appends_75 ?_
  refine v_iload dX12_appends_76 7 rfl ?_
  obtain ⟨M12, e, h⟩ := bind_some h
  refine v_iastore dX12_appends_78 e ?_
  refine v_aload dX12_appends_79 8 rfl ?_
  refine v_iload dX12_appends_81 9 rfl ?_
  refine v_aload_n dX12_appends_83 rfl 1 rfl ?_
  obtain ⟨v13, e, h⟩ := bind_some h
  refine gt_X12_13 e dX12_appends_84 ?_
  refine v_sipush (v := 504) dX12_appends_87 cs_504 ?_
  refine v_iconst (v := 4) dX12_appends_90 ci_4 ?_
  refine v_iload dX12_appends_91 0 rfl ?_
  refine v_imul dX12_appends_93 ?_
  refine v_iadd dX12_appends_94 ?_
  obtain ⟨M14, e, h⟩ := bind_some h
  refine ca_X12_97 e dX12_appends_95 (Nat.le_of_ble_eq_true rfl) (by decide) ?_
  refine v_aload_n dX12_appends_98 rfl 1 rfl ?_
  obtain ⟨v15, e, h⟩ := bind_some h
  refine gt_X12_9 e dX12_appends_99 ?_
  refine v_bipush (v := 68) dX12_appends_102 cb_68 ?_
  refine v_iload_n dX12_appends_104 rfl 2 rfl ?_
  refine v_iadd dX12_appends_105 ?_
  refine v_dup2 dX12_appends_106 rfl rfl ?_
  obtain ⟨v16, e, h⟩ := bind_some h
  refine v_iaload dX12_appends_107 e ?_
  refine v_iconst (v := 1) dX12_appends_108 ci_1 ?_
  refine v_iadd dX12_appends_109 ?_
  obtain ⟨M17, e, h⟩ := bind_some h
  refine v_iastore dX12_appends_110 e ?_
  cases h
  exact v_vreturn dX12_appends_111
theorem kd_X12_appends {l0 : Nat} {l1 : Int32} {l2 : Int32} {l3 : Int32} {l4 : Int32} {l5 : Int32} {l6 : Int32} {l7 : Nat} {l8 : Int32} {M : Mem} {z : _} (h : f_X12_appends l0 l1 l2 l3 l4 l5 l6 l7 l8 M = some z) : (mK M l0).1 = 12 := by
  unfold f_X12_appends at h
  exact (ifS h).1
theorem k_X12_appends {G : Gl} {l0 : Nat} {l1 : Int32} {l2 : Int32} {l3 : Int32} {l4 : Int32} {l5 : Int32} {l6 : Int32} {l7 : Nat} {l8 : Int32} {M MF : Mem} (h : f_X12_appends l0 l1 l2 l3 l4 l5 l6 l7 l8 M = some MF) : CtrP G yX12_appends cX12_appends 10 none 1 24 [.ref l0, .int l1, .int l2, .int l3, .int l4, .int l5, .int l6, .ref l7, .int l8] M (cvV ()) MF :=
  ctr_of (by decide +kernel) (Nat.le_of_ble_eq_true rfl) (fun ρ => w_X12_appends (r := ()) l0 l1 l2 l3 l4 l5 l6 l7 l8 M h)
theorem wd_X12_93 : wdV RX12 93 RX12 yX12_appends cX12_appends 10 none 8 := ⟨gwi 1360 (by decide +kernel) (by decide +kernel), gwi 1362 (by decide +kernel) (by decide +kernel), gwi 45 (by decide +kernel) (by decide +kernel), nw_X12, gwi 1363 (by decide +kernel) (by decide +kernel), ⟨rfl, by decide +kernel, by decide +kernel, by decide +kernel⟩⟩
theorem ca_X12_93 {G : Gl} {B : Bx} {cc : ByteArray} {ret : Option FieldType} {fr lo nL : Nat} {mn : String} {hh : List (Nat × Nat × Nat × Nat)} {pc : Nat} {ls : List (Nat × Value)} {st : List Value} {M M1 : Mem} {l0 : Nat} {l1 : Int32} {l2 : Int32} {l3 : Int32} {l4 : Int32} {l5 : Int32} {l6 : Int32} {l7 : Nat} {l8 : Int32} (e : f_X12_appends l0 l1 l2 l3 l4 l5 l6 l7 l8 M = some M1) (hd : decode cc pc = .ok (.invokevirtual 93, 3)) (hcat : (st.map fun v => v.category).sum ≤ 8) (hR : 1 + 1 ≤ fr ∧ 8 + (10 + 11) + 24 ≤ lo) (k : V G (RX12, cc, ret, fr, lo, nL, mn, hh) B (pc + 3) ls (st) M1) : V G (RX12, cc, ret, fr, lo, nL, mn, hh) B pc ls (.int l8 :: .ref l7 :: .int l6 :: .int l5 :: .int l4 :: .int l3 :: .int l2 :: .int l1 :: .ref l0 :: st) M := v_callV0 (As := [.int l1, .int l2, .int l3, .int l4, .int l5, .int l6, .ref l7, .int l8]) (k_X12_appends e) wd_X12_93 clX12 (kd_X12_appends e) hd rfl rfl hcat hR k
set_option maxHeartbeats 4000000 in
set_option maxRecDepth 100000 in
theorem w_X12_sends {G : Gl} {ρ0 : Nat → Nat} {M0 MF : Mem} {r : Unit} (l0 : Nat) (l1 : Int32) (l2 : Int32) (l3 : Int32) (l4 : Int32) (l5 : Int32) (l6 : Int32) (l7 : Nat) (l8 : Int32) (M : Mem) (h : f_X12_sends l0 l1 l2 l3 l4 l5 l6 l7 l8 M = some MF) : V G (RX12, cX12_sends, none, 2, 53, 9, "sends", []) (ρ0, M0, cvV r, MF) 0 [(0, .ref l0), (1, .int l1), (2, .int l2), (3, .int l3), (4, .int l4), (5, .int l5), (6, .int l6), (7, .ref l7), (8, .int l8)] [] M := by
  unfold f_X12_sends at h
  replace h := (ifS h).2
  refine v_aload_n dX12_sends_0 rfl 0 rfl ?_
  obtain ⟨v1, e, h⟩ := bind_some h
  refine gt_X12_9 e dX12_sends_1 ?_
  refine v_bipush (v := 80) dX12_sends_4 cb_80 ?_
  refine v_iload_n dX12_sends_6 rfl 1 rfl ?_
  refine v_iadd dX12_sends_7 ?_
  refine v_dup2 dX12_sends_8 rfl rfl ?_
  obtain ⟨v2, e, h⟩ := bind_some h
  refine v_iaload dX12_sends_9 e ?_
  refine v_iconst (v := 1) dX12_sends_10 ci_1 ?_
  refine v_iadd dX12_sends_11 ?_
  obtain ⟨M3, e, h⟩ := bind_some h
  refine v_iastore dX12_sends_12 e ?_
  refine v_aload_n dX12_sends_13 rfl 0 rfl ?_
  obtain ⟨v4, e, h⟩ := bind_some h
  refine gt_X12_9 e dX12_sends_14 ?_
  refine v_bipush (v := 68) dX12_sends_17 cb_68 ?_
  refine v_iload_n dX12_sends_19 rfl 1 rfl ?_
  refine v_iadd dX12_sends_20 ?_
  obtain ⟨v5, e, h⟩ := bind_some h
  refine v_iaload dX12_sends_21 e ?_
  refine v_bipush (v := 30) dX12_sends_22 cb_30 ?_
  refine v_icmp_ne (tgt := 39) dX12_sends_24 (by decide) (fun c9 => ?_) (fun c9 => ?_)
  · replace h := ifN c9 h
    refine v_aload_n dX12_sends_39 rfl 0 rfl ?_
    refine v_iload_n dX12_sends_40 rfl 1 rfl ?_
    refine v_iload_n dX12_sends_41 rfl 2 rfl ?_
    refine v_iload_n dX12_sends_42 rfl 3 rfl ?_
    refine v_iload dX12_sends_43 4 rfl ?_
    refine v_iload dX12_sends_45 5 rfl ?_
    refine v_iload dX12_sends_47 6 rfl ?_
    refine v_aload dX12_sends_49 7 rfl ?_
    refine v_iload dX12_sends_51 8 rfl ?_
    obtain ⟨M6, e, h⟩ := bind_some h
    refine ca_X12_93 e dX12_sends_53 (Nat.le_of_ble_eq_true rfl) (by decide) ?_
    cases h
    exact v_vreturn dX12_sends_56
  · replace h := ifP c9 h
    refine v_aload_n dX12_sends_27 rfl 0 rfl ?_
    obtain ⟨v6, e, h⟩ := bind_some h
    refine gt_X12_9 e dX12_sends_28 ?_
    refine v_bipush (v := 13) dX12_sends_31 cb_13 ?_
    refine v_dup2 dX12_sends_33 rfl rfl ?_
    obtain ⟨v7, e, h⟩ := bind_some h
    refine v_iaload dX12_sends_34 e ?_
    refine v_iconst (v := 1) dX12_sends_35 ci_1 ?_
    refine v_iadd dX12_sends_36 ?_
    obtain ⟨M8, e, h⟩ := bind_some h
    refine v_iastore dX12_sends_37 e ?_
    cases h
    exact v_vreturn dX12_sends_38
theorem kd_X12_sends {l0 : Nat} {l1 : Int32} {l2 : Int32} {l3 : Int32} {l4 : Int32} {l5 : Int32} {l6 : Int32} {l7 : Nat} {l8 : Int32} {M : Mem} {z : _} (h : f_X12_sends l0 l1 l2 l3 l4 l5 l6 l7 l8 M = some z) : (mK M l0).1 = 12 := by
  unfold f_X12_sends at h
  exact (ifS h).1
theorem k_X12_sends {G : Gl} {l0 : Nat} {l1 : Int32} {l2 : Int32} {l3 : Int32} {l4 : Int32} {l5 : Int32} {l6 : Int32} {l7 : Nat} {l8 : Int32} {M MF : Mem} (h : f_X12_sends l0 l1 l2 l3 l4 l5 l6 l7 l8 M = some MF) : CtrP G yX12_sends cX12_sends 9 none 2 53 [.ref l0, .int l1, .int l2, .int l3, .int l4, .int l5, .int l6, .ref l7, .int l8] M (cvV ()) MF :=
  ctr_of (by decide +kernel) (Nat.le_of_ble_eq_true rfl) (fun ρ => w_X12_sends (r := ()) l0 l1 l2 l3 l4 l5 l6 l7 l8 M h)
theorem wd_X12_101 : wdV RX12 101 RX12 yX12_sends cX12_sends 9 none 8 := ⟨gwi 1356 (by decide +kernel) (by decide +kernel), gwi 1358 (by decide +kernel) (by decide +kernel), gwi 44 (by decide +kernel) (by decide +kernel), nw_X12, gwi 1359 (by decide +kernel) (by decide +kernel), ⟨rfl, by decide +kernel, by decide +kernel, by decide +kernel⟩⟩
theorem ca_X12_101 {G : Gl} {B : Bx} {cc : ByteArray} {ret : Option FieldType} {fr lo nL : Nat} {mn : String} {hh : List (Nat × Nat × Nat × Nat)} {pc : Nat} {ls : List (Nat × Value)} {st : List Value} {M M1 : Mem} {l0 : Nat} {l1 : Int32} {l2 : Int32} {l3 : Int32} {l4 : Int32} {l5 : Int32} {l6 : Int32} {l7 : Nat} {l8 : Int32} (e : f_X12_sends l0 l1 l2 l3 l4 l5 l6 l7 l8 M = some M1) (hd : decode cc pc = .ok (.invokevirtual 101, 3)) (hcat : (st.map fun v => v.category).sum ≤ 8) (hR : 2 + 1 ≤ fr ∧ 8 + (9 + 11) + 53 ≤ lo) (k : V G (RX12, cc, ret, fr, lo, nL, mn, hh) B (pc + 3) ls (st) M1) : V G (RX12, cc, ret, fr, lo, nL, mn, hh) B pc ls (.int l8 :: .ref l7 :: .int l6 :: .int l5 :: .int l4 :: .int l3 :: .int l2 :: .int l1 :: .ref l0 :: st) M := v_callV0 (As := [.int l1, .int l2, .int l3, .int l4, .int l5, .int l6, .ref l7, .int l8]) (k_X12_sends e) wd_X12_101 clX12 (kd_X12_sends e) hd rfl rfl hcat hR k
set_option maxHeartbeats 4000000 in
set_option maxRecDepth 100000 in
theorem w_X12_answers {G : Gl} {ρ0 : Nat → Nat} {M0 MF : Mem} {r : Unit} (l0 : Nat) (l1 : Int32) (l2 : Int32) (l3 : Int32) (M : Mem) (h : f_X12_answers l0 l1 l2 l3 M = some MF) : V G (RX12, cX12_answers, none, 3, 81, 4, "answers", []) (ρ0, M0, cvV r, MF) 0 [(0, .ref l0), (1, .int l1), (2, .int l2), (3, .int l3)] [] M := by
  unfold f_X12_answers at h
  replace h := (ifS h).2
  refine v_aload_n dX12_answers_0 rfl 0 rfl ?_
  refine v_iload_n dX12_answers_1 rfl 1 rfl ?_
  refine v_iload_n dX12_answers_2 rfl 2 rfl ?_
  refine v_iload_n dX12_answers_3 rfl 3 rfl ?_
  refine v_iconst (v := 0) dX12_answers_4 ci_0 ?_
  refine v_iconst (v := 0) dX12_answers_5 ci_0 ?_
  refine v_iconst (v := 0) dX12_answers_6 ci_0 ?_
  refine v_aload_n dX12_answers_7 rfl 0 rfl ?_
  obtain ⟨v1, e, h⟩ := bind_some h
  refine gt_X12_43 e dX12_answers_8 ?_
  refine v_iconst (v := 0) dX12_answers_11 ci_0 ?_
  obtain ⟨M2, e, h⟩ := bind_some h
  refine ca_X12_101 e dX12_answers_12 (Nat.le_of_ble_eq_true rfl) (by decide) ?_
  cases h
  exact v_vreturn dX12_answers_15
theorem kd_X12_answers {l0 : Nat} {l1 : Int32} {l2 : Int32} {l3 : Int32} {M : Mem} {z : _} (h : f_X12_answers l0 l1 l2 l3 M = some z) : (mK M l0).1 = 12 := by
  unfold f_X12_answers at h
  exact (ifS h).1
theorem k_X12_answers {G : Gl} {l0 : Nat} {l1 : Int32} {l2 : Int32} {l3 : Int32} {M MF : Mem} (h : f_X12_answers l0 l1 l2 l3 M = some MF) : CtrP G yX12_answers cX12_answers 4 none 3 81 [.ref l0, .int l1, .int l2, .int l3] M (cvV ()) MF :=
  ctr_of (by decide +kernel) (Nat.le_of_ble_eq_true rfl) (fun ρ => w_X12_answers (r := ()) l0 l1 l2 l3 M h)
theorem wd_X12_123 : wdV RX12 123 RX12 yX12_answers cX12_answers 4 none 3 := ⟨gwi 1392 (by decide +kernel) (by decide +kernel), gwi 1394 (by decide +kernel) (by decide +kernel), gwi 53 (by decide +kernel) (by decide +kernel), nw_X12, gwi 1395 (by decide +kernel) (by decide +kernel), ⟨rfl, by decide +kernel, by decide +kernel, by decide +kernel⟩⟩
theorem ca_X12_123 {G : Gl} {B : Bx} {cc : ByteArray} {ret : Option FieldType} {fr lo nL : Nat} {mn : String} {hh : List (Nat × Nat × Nat × Nat)} {pc : Nat} {ls : List (Nat × Value)} {st : List Value} {M M1 : Mem} {l0 : Nat} {l1 : Int32} {l2 : Int32} {l3 : Int32} (e : f_X12_answers l0 l1 l2 l3 M = some M1) (hd : decode cc pc = .ok (.invokevirtual 123, 3)) (hcat : (st.map fun v => v.category).sum ≤ 8) (hR : 3 + 1 ≤ fr ∧ 8 + (4 + 11) + 81 ≤ lo) (k : V G (RX12, cc, ret, fr, lo, nL, mn, hh) B (pc + 3) ls (st) M1) : V G (RX12, cc, ret, fr, lo, nL, mn, hh) B pc ls (.int l3 :: .int l2 :: .int l1 :: .ref l0 :: st) M := v_callV0 (As := [.int l1, .int l2, .int l3]) (k_X12_answers e) wd_X12_123 clX12 (kd_X12_answers e) hd rfl rfl hcat hR k
set_option maxHeartbeats 4000000 in
set_option maxRecDepth 100000 in
theorem w_X12_isInFlight_L5 {G : Gl} {ρ0 : Nat → Nat} {M0 MF : Mem} {r : Int32} : ∀ (n : Nat) (l0 : Nat) (l1 : Int32) (l2 : Int32) (l3 : Int32) (l4 : Int32) (M : Mem), f_X12_isInFlight_L5 n l0 l1 l2 l3 l4 M = some (r, MF) → V G (RX12, cX12_isInFlight, (some .boolean), 0, 0, 5, "isInFlight", []) (ρ0, M0, cvI r, MF) 5 [(0, .ref l0), (1, .int l1), (2, .int l2), (3, .int l3), (4, .int l4)] [] M := by
  intro n
  induction n with
  | zero => intro l0 l1 l2 l3 l4 M h; cases h
  | succ n ih =>
    intro l0 l1 l2 l3 l4 M h
    rw [f_X12_isInFlight_L5] at h
    refine v_iload dX12_isInFlight_5 4 rfl ?_
    refine v_aload_n dX12_isInFlight_7 rfl 0 rfl ?_
    obtain ⟨v1, e, h⟩ := bind_some h
    refine gt_X12_9 e dX12_isInFlight_8 ?_
    refine v_bipush (v := 56) dX12_isInFlight_11 cb_56 ?_
    refine v_iload_n dX12_isInFlight_13 rfl 1 rfl ?_
    refine v_iadd dX12_isInFlight_14 ?_
    obtain ⟨v2, e, h⟩ := bind_some h
    refine v_iaload dX12_isInFlight_15 e ?_
    refine v_icmp_ge (tgt := 54) dX12_isInFlight_16 (by decide) (fun c7 => ?_) (fun c7 => ?_)
    · replace h := ifP c7 h
      refine v_iload_n dX12_isInFlight_54 rfl 3 rfl ?_
      obtain ⟨hz, rfl, rfl⟩ := okZ_some h
      exact v_zreturn dX12_isInFlight_55 hz
    · replace h := ifN c7 h
      refine v_iload_n dX12_isInFlight_19 rfl 3 rfl ?_
      refine v_if_ne (tgt := 42) dX12_isInFlight_20 (by decide) (fun c6 => ?_) (fun c6 => ?_)
      · replace h := ifN c6 h
        refine v_iconst (v := 1) dX12_isInFlight_42 ci_1 ?_
        refine v_goto (tgt := 47) dX12_isInFlight_43 (by decide) ?_
        refine v_istore_n (ls' := [(3, .int (1 : Int32)), (0, .ref l0), (1, .int l1), (2, .int l2), (4, .int l4)]) dX12_isInFlight_47 rfl (by decide) rfl ?_
        refine v_iinc (ls' := [(4, .int (l4 + 1)), (3, .int (1 : Int32)), (0, .ref l0), (1, .int l1), (2, .int l2)]) dX12_isInFlight_48 4 rfl (v := 1) ci_1 (by decide) rfl ?_
        refine v_goto (tgt := 5) dX12_isInFlight_51 (by decide) ?_
        refine v_sub [2, 3, 4, 1, 0] rfl ?_
        exact ih l0 l1 l2 (1 : Int32) (l4 + 1) M h
      · replace h := ifP c6 h
        refine v_aload_n dX12_isInFlight_23 rfl 0 rfl ?_
        obtain ⟨v3, e, h⟩ := bind_some h
        refine gt_X12_9 e dX12_isInFlight_24 ?_
        refine v_sipush (v := 554) dX12_isInFlight_27 cs_554 ?_
        refine v_iconst (v := 5) dX12_isInFlight_30 ci_5 ?_
        refine v_iload_n dX12_isInFlight_31 rfl 1 rfl ?_
        refine v_imul dX12_isInFlight_32 ?_
        refine v_iadd dX12_isInFlight_33 ?_
        refine v_iload dX12_isInFlight_34 4 rfl ?_
        refine v_iadd dX12_isInFlight_36 ?_
        obtain ⟨v4, e, h⟩ := bind_some h
        refine v_iaload dX12_isInFlight_37 e ?_
        refine v_iload_n dX12_isInFlight_38 rfl 2 rfl ?_
        refine v_icmp_ne (tgt := 46) dX12_isInFlight_39 (by decide) (fun c5 => ?_) (fun c5 => ?_)
        · replace h := ifN c5 h
          refine v_iconst (v := 0) dX12_isInFlight_46 ci_0 ?_
          refine v_istore_n (ls' := [(3, .int (0 : Int32)), (0, .ref l0), (1, .int l1), (2, .int l2), (4, .int l4)]) dX12_isInFlight_47 rfl (by decide) rfl ?_
          refine v_iinc (ls' := [(4, .int (l4 + 1)), (3, .int (0 : Int32)), (0, .ref l0), (1, .int l1), (2, .int l2)]) dX12_isInFlight_48 4 rfl (v := 1) ci_1 (by decide) rfl ?_
          refine v_goto (tgt := 5) dX12_isInFlight_51 (by decide) ?_
          refine v_sub [2, 3, 4, 1, 0] rfl ?_
          exact ih l0 l1 l2 (0 : Int32) (l4 + 1) M h
        · replace h := ifP c5 h
          refine v_iconst (v := 1) dX12_isInFlight_42 ci_1 ?_
          refine v_goto (tgt := 47) dX12_isInFlight_43 (by decide) ?_
          refine v_istore_n (ls' := [(3, .int (1 : Int32)), (0, .ref l0), (1, .int l1), (2, .int l2), (4, .int l4)]) dX12_isInFlight_47 rfl (by decide) rfl ?_
          refine v_iinc (ls' := [(4, .int (l4 + 1)), (3, .int (1 : Int32)), (0, .ref l0), (1, .int l1), (2, .int l2)]) dX12_isInFlight_48 4 rfl (v := 1) ci_1 (by decide) rfl ?_
          refine v_goto (tgt := 5) dX12_isInFlight_51 (by decide) ?_
          refine v_sub [2, 3, 4, 1, 0] rfl ?_
          exact ih l0 l1 l2 (1 : Int32) (l4 + 1) M h
set_option maxHeartbeats 4000000 in
set_option maxRecDepth 100000 in
theorem w_X12_isInFlight {G : Gl} {ρ0 : Nat → Nat} {M0 MF : Mem} {r : Int32} (l0 : Nat) (l1 : Int32) (l2 : Int32) (M : Mem) (h : f_X12_isInFlight l0 l1 l2 M = some (r, MF)) : V G (RX12, cX12_isInFlight, (some .boolean), 0, 0, 5, "isInFlight", []) (ρ0, M0, cvI r, MF) 0 [(0, .ref l0), (1, .int l1), (2, .int l2)] [] M := by
  unfold f_X12_isInFlight at h
  replace h := (ifS h).2
  refine v_iconst (v := 0) dX12_isInFlight_0 ci_0 ?_
  refine v_istore_n (ls' := [(3, .int (0 : Int32)), (0, .ref l0), (1, .int l1), (2, .int l2)]) dX12_isInFlight_1 rfl (by decide) rfl ?_
  refine v_iconst (v := 0) dX12_isInFlight_2 ci_0 ?_
  refine v_istore (ls' := [(4, .int (0 : Int32)), (3, .int (0 : Int32)), (0, .ref l0), (1, .int l1), (2, .int l2)]) dX12_isInFlight_3 (by decide) rfl ?_
  refine v_sub [2, 3, 4, 1, 0] rfl ?_
  exact w_X12_isInFlight_L5 FU l0 l1 l2 (0 : Int32) (0 : Int32) M h
theorem kd_X12_isInFlight {l0 : Nat} {l1 : Int32} {l2 : Int32} {M : Mem} {z : _} (h : f_X12_isInFlight l0 l1 l2 M = some z) : (mK M l0).1 = 12 := by
  unfold f_X12_isInFlight at h
  exact (ifS h).1
theorem k_X12_isInFlight {G : Gl} {l0 : Nat} {l1 : Int32} {l2 : Int32} {M MF : Mem} {r : Int32} (h : f_X12_isInFlight l0 l1 l2 M = some (r, MF)) : CtrP G yX12_isInFlight cX12_isInFlight 5 (some .boolean) 0 0 [.ref l0, .int l1, .int l2] M (cvI r) MF :=
  ctr_of (by decide +kernel) (Nat.le_of_ble_eq_true rfl) (fun ρ => w_X12_isInFlight l0 l1 l2 M h)
theorem wd_X12_104 : wdV RX12 104 RX12 yX12_isInFlight cX12_isInFlight 5 (some .boolean) 2 := ⟨gwi 1368 (by decide +kernel) (by decide +kernel), gwi 1370 (by decide +kernel) (by decide +kernel), gwi 47 (by decide +kernel) (by decide +kernel), nw_X12, gwi 1371 (by decide +kernel) (by decide +kernel), ⟨rfl, by decide +kernel, by decide +kernel, by decide +kernel⟩⟩
theorem ca_X12_104 {G : Gl} {B : Bx} {cc : ByteArray} {ret : Option FieldType} {fr lo nL : Nat} {mn : String} {hh : List (Nat × Nat × Nat × Nat)} {pc : Nat} {ls : List (Nat × Value)} {st : List Value} {M M1 : Mem} {l0 : Nat} {l1 : Int32} {l2 : Int32} {x : Int32} (e : f_X12_isInFlight l0 l1 l2 M = some (x, M1)) (hd : decode cc pc = .ok (.invokevirtual 104, 3)) (hcat : (st.map fun v => v.category).sum ≤ 8) (hR : 0 + 1 ≤ fr ∧ 8 + (5 + 11) + 0 ≤ lo) (k : V G (RX12, cc, ret, fr, lo, nL, mn, hh) B (pc + 3) ls (.int x :: st) M1) : V G (RX12, cc, ret, fr, lo, nL, mn, hh) B pc ls (.int l2 :: .int l1 :: .ref l0 :: st) M := v_callVi (As := [.int l1, .int l2]) (k_X12_isInFlight e) wd_X12_104 clX12 (kd_X12_isInFlight e) hd rfl rfl hcat hR k
set_option maxHeartbeats 4000000 in
set_option maxRecDepth 100000 in
theorem w_X12_flies_L172 {G : Gl} {ρ0 : Nat → Nat} {M0 MF : Mem} {r : Unit} : ∀ (n : Nat) (l0 : Nat) (l1 : Int32) (l8 : Int32) (M : Mem), f_X12_flies_L172 n l0 l1 l8 M = some MF → V G (RX12, cX12_flies, none, 3, 81, 9, "flies", []) (ρ0, M0, cvV r, MF) 172 [(0, .ref l0), (1, .int l1), (8, .int l8)] [] M := by
  intro n
  induction n with
  | zero => intro l0 l1 l8 M h; cases h
  | succ n ih =>
    intro l0 l1 l8 M h
    rw [f_X12_flies_L172] at h
    refine v_aload_n dX12_flies_172 rfl 0 rfl ?_
    refine v_iload_n dX12_flies_173 rfl 1 rfl ?_
    refine v_iload dX12_flies_174 2 rfl ?_
    obtain ⟨v2, M1, e, h⟩ := bindP_some h
    refine ca_X12_104 e dX12_flies_176 (Nat.le_of_ble_eq_true rfl) (by decide) ?_
    refine v_if_eq (tgt := 194) dX12_flies_179 (by decide) (fun c5 => ?_) (fun c5 => ?_)
    · replace h := ifP c5 h
      refine v_aload_n dX12_flies_194 rfl 0 rfl ?_
      obtain ⟨v3, e, h⟩ := bind_some h
      refine gt_X12_9 e dX12_flies_195 ?_
      refine v_bipush (v := 44) dX12_flies_198 cb_44 ?_
      refine v_iload_n dX12_flies_200 rfl 1 rfl ?_
      refine v_iadd dX12_flies_201 ?_
      refine v_iload dX12_flies_202 2 rfl ?_
      obtain ⟨M4, e, h⟩ := bind_some h
      refine v_iastore dX12_flies_204 e ?_
      cases h
      exact v_vreturn dX12_flies_205
    · replace h := ifN c5 h
      refine v_iload dX12_flies_182 2 rfl ?_
      refine v_bipush (v := 50) dX12_flies_184 cb_50 ?_
      refine v_irem dX12_flies_186 (by decide) ?_
      refine v_iconst (v := 1) dX12_flies_187 ci_1 ?_
      refine v_iadd dX12_flies_188 ?_
      refine v_istore (ls' := [(8, .int ((iremE l8 (50 : Int32)) + (1 : Int32))), (0, .ref l0), (1, .int l1)]) dX12_flies_189 (by decide) rfl ?_
      refine v_goto (tgt := 172) dX12_flies_191 (by decide) ?_
      refine v_sub [1, 2, 0] rfl ?_
      exact ih l0 l1 ((iremE l8 (50 : Int32)) + (1 : Int32)) M1 h
set_option maxHeartbeats 4000000 in
set_option maxRecDepth 100000 in
theorem w_X12_flies {G : Gl} {ρ0 : Nat → Nat} {M0 MF : Mem} {r : Unit} (l0 : Nat) (l1 : Int32) (l2 : Int32) (l3 : Int32) (l4 : Int32) (l5 : Nat) (l6 : Int32) (M : Mem) (h : f_X12_flies l0 l1 l2 l3 l4 l5 l6 M = some MF) : V G (RX12, cX12_flies, none, 3, 81, 9, "flies", []) (ρ0, M0, cvV r, MF) 0 [(0, .ref l0), (1, .int l1), (2, .int l2), (3, .int l3), (4, .int l4), (5, .ref l5), (6, .int l6)] [] M := by
  unfold f_X12_flies at h
  replace h := (ifS h).2
  refine v_iconst (v := 5) dX12_flies_0 ci_5 ?_
  refine v_iload_n dX12_flies_1 rfl 1 rfl ?_
  refine v_imul dX12_flies_2 ?_
  refine v_aload_n dX12_flies_3 rfl 0 rfl ?_
  obtain ⟨v1, e, h⟩ := bind_some h
  refine gt_X12_9 e dX12_flies_4 ?_
  refine v_bipush (v := 56) dX12_flies_7 cb_56 ?_
  refine v_iload_n dX12_flies_9 rfl 1 rfl ?_
  refine v_iadd dX12_flies_10 ?_
  obtain ⟨v2, e, h⟩ := bind_some h
  refine v_iaload dX12_flies_11 e ?_
  refine v_iadd dX12_flies_12 ?_
  refine v_istore (ls' := [(7, .int (((5 : Int32) * l1) + v2)), (0, .ref l0), (1, .int l1), (2, .int l2), (3, .int l3), (4, .int l4), (5, .ref l5), (6, .int l6)]) dX12_flies_13 (by decide) rfl ?_
  refine v_aload_n dX12_flies_15 rfl 1 rfl ?_
  obtain ⟨v3, e, h⟩ := bind_some h
  refine gt_X12_9 e dX12_flies_16 ?_
  refine v_bipush (v := 44) dX12_flies_19 cb_44 ?_
  refine v_iload_n dX12_flies_21 rfl 2 rfl ?_
  refine v_iadd dX12_flies_22 ?_
  obtain ⟨v4, e, h⟩ := bind_some h
  refine v_iaload dX12_flies_23 e ?_
  refine v_istore (ls' := [(8, .int v4), (7, .int (((5 : Int32) * l1) + v2)), (0, .ref l0), (1, .int l1), (2, .int l2), (3, .int l3), (4, .int l4), (5, .ref l5), (6, .int l6)]) dX12_flies_24 (by decide) rfl ?_
  refine v_aload_n dX12_flies_26 rfl 2 rfl ?_
  obtain ⟨v5, e, h⟩ := bind_some h
  refine gt_X12_9 e dX12_flies_27 ?_
  refine v_sipush (v := 554) dX12_flies_30 cs_554 ?_
  refine v_iload dX12_flies_33 1 rfl ?_
  refine v_iadd dX12_flies_35 ?_
  refine v_iload dX12_flies_36 0 rfl ?_
  obtain ⟨M6, e, h⟩ := bind_some h
  refine v_iastore dX12_flies_38 e ?_
  refine v_aload_n dX12_flies_39 rfl 2 rfl ?_
  obtain ⟨v7, e, h⟩ := bind_some h
  refine gt_X12_9 e dX12_flies_40 ?_
  refine v_sipush (v := 584) dX12_flies_43 cs_584 ?_
  refine v_iload dX12_flies_46 1 rfl ?_
  refine v_iadd dX12_flies_48 ?_
  refine v_iload_n dX12_flies_49 rfl 4 rfl ?_
  obtain ⟨M8, e, h⟩ := bind_some h
  refine v_iastore dX12_flies_50 e ?_
  refine v_aload_n dX12_flies_51 rfl 2 rfl ?_
  obtain ⟨v9, e, h⟩ := bind_some h
  refine gt_X12_9 e dX12_flies_52 ?_
  refine v_sipush (v := 614) dX12_flies_55 cs_614 ?_
  refine v_iload dX12_flies_58 1 rfl ?_
  refine v_iadd dX12_flies_60 ?_
  refine v_iload_n dX12_flies_61 rfl 5 rfl ?_
  obtain ⟨M10, e, h⟩ := bind_some h
  refine v_iastore dX12_flies_62 e ?_
  refine v_aload_n dX12_flies_63 rfl 2 rfl ?_
  obtain ⟨v11, e, h⟩ := bind_some h
  refine gt_X12_9 e dX12_flies_64 ?_
  refine v_sipush (v := 644) dX12_flies_67 cs_644 ?_
  refine v_iload dX12_flies_70 1 rfl ?_
  refine v_iadd dX12_flies_72 ?_
  refine v_iload dX12_flies_73 6 rfl ?_
  obtain ⟨M12, e, h⟩ := bind_some h
  refine v_iastore dX12_flies_75 e ?_
  refine v_aload_n dX12_flies_76 rfl 2 rfl ?_
  obtain ⟨v13, e, h⟩ := bind_some h
  refine gt_X12_9 e dX12_flies_77 ?_
  refine v_sipush (v := 674) dX12_flies_80 cs_674 ?_
  refine v_iload dX12_flies_83 1 rfl ?_
  refine v_iadd dX12_flies_85 ?_
  refine v_iload_n dX12_flies_86 rfl 4 rfl ?_
  obtain ⟨M14, e, h⟩ := bind_some h
  refine v_iastore dX12_flies_87 e ?_
  refine v_aload_n dX12_flies_88 rfl 2 rfl ?_
  obtain ⟨v15, e, h⟩ := bind_some h
  refine gt_X12_9 e dX12_flies_89 ?_
  refine v_sipush (v := 704) dX12_flies_92 cs_704 ?_
  refine v_iload dX12_flies_95 1 rfl ?_
  refine v_iadd dX12_flies_97 ?_
  refine v_aload_n dX12_flies_98 rfl 2 rfl ?_
  obtain ⟨v16, e, h⟩ := bind_some h
  refine gt_X12_9 e dX12_flies_99 ?_
  refine v_iconst (v := 0) dX12_flies_102 ci_0 ?_
  obtain ⟨v17, e, h⟩ := bind_some h
  refine v_iaload dX12_flies_103 e ?_
  obtain ⟨M18, e, h⟩ := bind_some h
  refine v_iastore dX12_flies_104 e ?_
  refine v_aload dX12_flies_105 7 rfl ?_
  refine v_iload dX12_flies_107 8 rfl ?_
  refine v_aload_n dX12_flies_109 rfl 2 rfl ?_
  obtain ⟨v19, e, h⟩ := bind_some h
  refine gt_X12_13 e dX12_flies_110 ?_
  refine v_sipush (v := 168) dX12_flies_113 cs_168 ?_
  refine v_iconst (v := 4) dX12_flies_116 ci_4 ?_
  refine v_iload dX12_flies_117 1 rfl ?_
  refine v_imul dX12_flies_119 ?_
  refine v_iadd dX12_flies_120 ?_
  obtain ⟨M20, e, h⟩ := bind_some h
  refine ca_X12_97 e dX12_flies_121 (Nat.le_of_ble_eq_true rfl) (by decide) ?_
  refine v_aload_n dX12_flies_124 rfl 2 rfl ?_
  obtain ⟨v21, e, h⟩ := bind_some h
  refine gt_X12_9 e dX12_flies_125 ?_
  refine v_bipush (v := 56) dX12_flies_128 cb_56 ?_
  refine v_iload_n dX12_flies_130 rfl 3 rfl ?_
  refine v_iadd dX12_flies_131 ?_
  refine v_dup2 dX12_flies_132 rfl rfl ?_
  obtain ⟨v22, e, h⟩ := bind_some h
  refine v_iaload dX12_flies_133 e ?_
  refine v_iconst (v := 1) dX12_flies_134 ci_1 ?_
  refine v_iadd dX12_flies_135 ?_
  obtain ⟨M23, e, h⟩ := bind_some h
  refine v_iastore dX12_flies_136 e ?_
  refine v_aload_n dX12_flies_137 rfl 2 rfl ?_
  refine v_iload_n dX12_flies_138 rfl 3 rfl ?_
  refine v_iconst (v := 0) dX12_flies_139 ci_0 ?_
  refine v_iload dX12_flies_140 0 rfl ?_
  refine v_iload_n dX12_flies_142 rfl 4 rfl ?_
  refine v_iload_n dX12_flies_143 rfl 5 rfl ?_
  refine v_iconst (v := 2) dX12_flies_144 ci_2 ?_
  refine v_iload dX12_flies_145 6 rfl ?_
  refine v_imul dX12_flies_147 ?_
  refine v_aload_n dX12_flies_148 rfl 2 rfl ?_
  obtain ⟨v24, e, h⟩ := bind_some h
  refine gt_X12_13 e dX12_flies_149 ?_
  refine v_sipush (v := 168) dX12_flies_152 cs_168 ?_
  refine v_iconst (v := 4) dX12_flies_155 ci_4 ?_
  refine v_iload dX12_flies_156 1 rfl ?_
  refine v_imul dX12_flies_158 ?_
  refine v_iadd dX12_flies_159 ?_
  obtain ⟨M25, e, h⟩ := bind_some h
  refine ca_X12_101 e dX12_flies_160 (Nat.le_of_ble_eq_true rfl) (by decide) ?_
  refine v_iload dX12_flies_163 0 rfl ?_
  refine v_bipush (v := 50) dX12_flies_165 cb_50 ?_
  refine v_irem dX12_flies_167 (by decide) ?_
  refine v_iconst (v := 1) dX12_flies_168 ci_1 ?_
  refine v_iadd dX12_flies_169 ?_
  refine v_istore (ls' := [(8, .int ((iremE v4 (50 : Int32)) + (1 : Int32))), (7, .int (((5 : Int32) * l1) + v2)), (0, .ref l0), (1, .int l1), (2, .int l2), (3, .int l3), (4, .int l4), (5, .ref l5), (6, .int l6)]) dX12_flies_170 (by decide) rfl ?_
  refine v_sub [2, 3, 0] rfl ?_
  exact w_X12_flies_L172 FU l0 l1 ((iremE v4 (50 : Int32)) + (1 : Int32)) M25 h
theorem kd_X12_flies {l0 : Nat} {l1 : Int32} {l2 : Int32} {l3 : Int32} {l4 : Int32} {l5 : Nat} {l6 : Int32} {M : Mem} {z : _} (h : f_X12_flies l0 l1 l2 l3 l4 l5 l6 M = some z) : (mK M l0).1 = 12 := by
  unfold f_X12_flies at h
  exact (ifS h).1
theorem k_X12_flies {G : Gl} {l0 : Nat} {l1 : Int32} {l2 : Int32} {l3 : Int32} {l4 : Int32} {l5 : Nat} {l6 : Int32} {M MF : Mem} (h : f_X12_flies l0 l1 l2 l3 l4 l5 l6 M = some MF) : CtrP G yX12_flies cX12_flies 9 none 3 81 [.ref l0, .int l1, .int l2, .int l3, .int l4, .ref l5, .int l6] M (cvV ()) MF :=
  ctr_of (by decide +kernel) (Nat.le_of_ble_eq_true rfl) (fun ρ => w_X12_flies (r := ()) l0 l1 l2 l3 l4 l5 l6 M h)
theorem wd_X12_111 : wdV RX12 111 RX12 yX12_flies cX12_flies 9 none 6 := ⟨gwi 1364 (by decide +kernel) (by decide +kernel), gwi 1366 (by decide +kernel) (by decide +kernel), gwi 46 (by decide +kernel) (by decide +kernel), nw_X12, gwi 1367 (by decide +kernel) (by decide +kernel), ⟨rfl, by decide +kernel, by decide +kernel, by decide +kernel⟩⟩
theorem ca_X12_111 {G : Gl} {B : Bx} {cc : ByteArray} {ret : Option FieldType} {fr lo nL : Nat} {mn : String} {hh : List (Nat × Nat × Nat × Nat)} {pc : Nat} {ls : List (Nat × Value)} {st : List Value} {M M1 : Mem} {l0 : Nat} {l1 : Int32} {l2 : Int32} {l3 : Int32} {l4 : Int32} {l5 : Nat} {l6 : Int32} (e : f_X12_flies l0 l1 l2 l3 l4 l5 l6 M = some M1) (hd : decode cc pc = .ok (.invokevirtual 111, 3)) (hcat : (st.map fun v => v.category).sum ≤ 8) (hR : 3 + 1 ≤ fr ∧ 8 + (9 + 11) + 81 ≤ lo) (k : V G (RX12, cc, ret, fr, lo, nL, mn, hh) B (pc + 3) ls (st) M1) : V G (RX12, cc, ret, fr, lo, nL, mn, hh) B pc ls (.int l6 :: .ref l5 :: .int l4 :: .int l3 :: .int l2 :: .int l1 :: .ref l0 :: st) M := v_callV0 (As := [.int l1, .int l2, .int l3, .int l4, .ref l5, .int l6]) (k_X12_flies e) wd_X12_111 clX12 (kd_X12_flies e) hd rfl rfl hcat hR k
set_option maxHeartbeats 4000000 in
set_option maxRecDepth 100000 in
theorem w_X12_takesPending_L7 {G : Gl} {ρ0 : Nat → Nat} {M0 MF : Mem} {r : Unit} : ∀ (n : Nat) (l0 : Nat) (l1 : Int32) (l3 : Int32) (M : Mem), f_X12_takesPending_L7 n l0 l1 l3 M = some MF → V G (RX12, cX12_takesPending, none, 1, 24, 4, "takesPending", []) (ρ0, M0, cvV r, MF) 7 [(0, .ref l0), (1, .int l1), (3, .int l3)] [] M := by
  intro n
  induction n with
  | zero => intro l0 l1 l3 M h; cases h
  | succ n ih =>
    intro l0 l1 l3 M h
    rw [f_X12_takesPending_L7] at h
    refine v_iload_n dX12_takesPending_7 rfl 2 rfl ?_
    refine v_bipush (v := 8) dX12_takesPending_8 cb_8 ?_
    refine v_iload_n dX12_takesPending_10 rfl 1 rfl ?_
    refine v_imul dX12_takesPending_11 ?_
    refine v_aload_n dX12_takesPending_12 rfl 0 rfl ?_
    obtain ⟨v1, e, h⟩ := bind_some h
    refine gt_X12_9 e dX12_takesPending_13 ?_
    refine v_bipush (v := 62) dX12_takesPending_16 cb_62 ?_
    refine v_iload_n dX12_takesPending_18 rfl 1 rfl ?_
    refine v_iadd dX12_takesPending_19 ?_
    obtain ⟨v2, e, h⟩ := bind_some h
    refine v_iaload dX12_takesPending_20 e ?_
    refine v_iadd dX12_takesPending_21 ?_
    refine v_iconst (v := 1) dX12_takesPending_22 ci_1 ?_
    refine v_isub dX12_takesPending_23 ?_
    refine v_icmp_ge (tgt := 126) dX12_takesPending_24 (by decide) (fun c18 => ?_) (fun c18 => ?_)
    · replace h := ifP c18 h
      refine v_aload_n dX12_takesPending_126 rfl 0 rfl ?_
      obtain ⟨v3, e, h⟩ := bind_some h
      refine gt_X12_9 e dX12_takesPending_127 ?_
      refine v_bipush (v := 62) dX12_takesPending_130 cb_62 ?_
      refine v_iload_n dX12_takesPending_132 rfl 1 rfl ?_
      refine v_iadd dX12_takesPending_133 ?_
      refine v_dup2 dX12_takesPending_134 rfl rfl ?_
      obtain ⟨v4, e, h⟩ := bind_some h
      refine v_iaload dX12_takesPending_135 e ?_
      refine v_iconst (v := 1) dX12_takesPending_136 ci_1 ?_
      refine v_isub dX12_takesPending_137 ?_
      obtain ⟨M5, e, h⟩ := bind_some h
      refine v_iastore dX12_takesPending_138 e ?_
      cases h
      exact v_vreturn dX12_takesPending_139
    · replace h := ifN c18 h
      refine v_aload_n dX12_takesPending_27 rfl 0 rfl ?_
      obtain ⟨v3, e, h⟩ := bind_some h
      refine gt_X12_9 e dX12_takesPending_28 ?_
      refine v_sipush (v := 734) dX12_takesPending_31 cs_734 ?_
      refine v_iload_n dX12_takesPending_34 rfl 2 rfl ?_
      refine v_iadd dX12_takesPending_35 ?_
      refine v_aload_n dX12_takesPending_36 rfl 0 rfl ?_
      obtain ⟨v4, e, h⟩ := bind_some h
      refine gt_X12_9 e dX12_takesPending_37 ?_
      refine v_sipush (v := 734) dX12_takesPending_40 cs_734 ?_
      refine v_iload_n dX12_takesPending_43 rfl 2 rfl ?_
      refine v_iadd dX12_takesPending_44 ?_
      refine v_iconst (v := 1) dX12_takesPending_45 ci_1 ?_
      refine v_iadd dX12_takesPending_46 ?_
      obtain ⟨v5, e, h⟩ := bind_some h
      refine v_iaload dX12_takesPending_47 e ?_
      obtain ⟨M6, e, h⟩ := bind_some h
      refine v_iastore dX12_takesPending_48 e ?_
      refine v_aload_n dX12_takesPending_49 rfl 0 rfl ?_
      obtain ⟨v7, e, h⟩ := bind_some h
      refine gt_X12_9 e dX12_takesPending_50 ?_
      refine v_sipush (v := 782) dX12_takesPending_53 cs_782 ?_
      refine v_iload_n dX12_takesPending_56 rfl 2 rfl ?_
      refine v_iadd dX12_takesPending_57 ?_
      refine v_aload_n dX12_takesPending_58 rfl 0 rfl ?_
      obtain ⟨v8, e, h⟩ := bind_some h
      refine gt_X12_9 e dX12_takesPending_59 ?_
      refine v_sipush (v := 782) dX12_takesPending_62 cs_782 ?_
      refine v_iload_n dX12_takesPending_65 rfl 2 rfl ?_
      refine v_iadd dX12_takesPending_66 ?_
      refine v_iconst (v := 1) dX12_takesPending_67 ci_1 ?_
      refine v_iadd dX12_takesPending_68 ?_
      obtain ⟨v9, e, h⟩ := bind_some h
      refine v_iaload dX12_takesPending_69 e ?_
      obtain ⟨M10, e, h⟩ := bind_some h
      refine v_iastore dX12_takesPending_70 e ?_
      refine v_aload_n dX12_takesPending_71 rfl 0 rfl ?_
      obtain ⟨v11, e, h⟩ := bind_some h
      refine gt_X12_9 e dX12_takesPending_72 ?_
      refine v_sipush (v := 830) dX12_takesPending_75 cs_830 ?_
      refine v_iload_n dX12_takesPending_78 rfl 2 rfl ?_
      refine v_iadd dX12_takesPending_79 ?_
      refine v_aload_n dX12_takesPending_80 rfl 0 rfl ?_
      obtain ⟨v12, e, h⟩ := bind_some h
      refine gt_X12_9 e dX12_takesPending_81 ?_
      refine v_sipush (v := 830) dX12_takesPending_84 cs_830 ?_
      refine v_iload_n dX12_takesPending_87 rfl 2 rfl ?_
      refine v_iadd dX12_takesPending_88 ?_
      refine v_iconst (v := 1) dX12_takesPending_89 ci_1 ?_
      refine v_iadd dX12_takesPending_90 ?_
      obtain ⟨v13, e, h⟩ := bind_some h
      refine v_iaload dX12_takesPending_91 e ?_
      obtain ⟨M14, e, h⟩ := bind_some h
      refine v_iastore dX12_takesPending_92 e ?_
      refine v_aload_n dX12_takesPending_93 rfl 0 rfl ?_
      obtain ⟨v15, e, h⟩ := bind_some h
      refine gt_X12_13 e dX12_takesPending_94 ?_
      refine v_sipush (v := 312) dX12_takesPending_97 cs_312 ?_
      refine v_iconst (v := 4) dX12_takesPending_100 ci_4 ?_
      refine v_iload_n dX12_takesPending_101 rfl 2 rfl ?_
      refine v_iconst (v := 1) dX12_takesPending_102 ci_1 ?_
      refine v_iadd dX12_takesPending_103 ?_
      refine v_imul dX12_takesPending_104 ?_
      refine v_iadd dX12_takesPending_105 ?_
      refine v_aload_n dX12_takesPending_106 rfl 0 rfl ?_
      obtain ⟨v16, e, h⟩ := bind_some h
      refine gt_X12_13 e dX12_takesPending_107 ?_
      refine v_sipush (v := 312) dX12_takesPending_110 cs_312 ?_
      refine v_iconst (v := 4) dX12_takesPending_113 ci_4 ?_
      refine v_iload_n dX12_takesPending_114 rfl 2 rfl ?_
      refine v_imul dX12_takesPending_115 ?_
      refine v_iadd dX12_takesPending_116 ?_
      obtain ⟨M17, e, h⟩ := bind_some h
      refine ca_X12_97 e dX12_takesPending_117 (Nat.le_of_ble_eq_true rfl) (by decide) ?_
      refine v_iinc (ls' := [(3, .int (l3 + 1)), (0, .ref l0), (1, .int l1)]) dX12_takesPending_120 2 rfl (v := 1) ci_1 (by decide) rfl ?_
      refine v_goto (tgt := 7) dX12_takesPending_123 (by decide) ?_
      refine v_sub [1, 2, 0] rfl ?_
      exact ih l0 l1 (l3 + 1) M17 h
set_option maxHeartbeats 4000000 in
set_option maxRecDepth 100000 in
theorem w_X12_takesPending {G : Gl} {ρ0 : Nat → Nat} {M0 MF : Mem} {r : Unit} (l0 : Nat) (l1 : Int32) (l2 : Int32) (M : Mem) (h : f_X12_takesPending l0 l1 l2 M = some MF) : V G (RX12, cX12_takesPending, none, 1, 24, 4, "takesPending", []) (ρ0, M0, cvV r, MF) 0 [(0, .ref l0), (1, .int l1), (2, .int l2)] [] M := by
  unfold f_X12_takesPending at h
  replace h := (ifS h).2
  refine v_bipush (v := 8) dX12_takesPending_0 cb_8 ?_
  refine v_iload_n dX12_takesPending_2 rfl 1 rfl ?_
  refine v_imul dX12_takesPending_3 ?_
  refine v_iload_n dX12_takesPending_4 rfl 2 rfl ?_
  refine v_iadd dX12_takesPending_5 ?_
  refine v_istore_n (ls' := [(3, .int (((8 : Int32) * l1) + l2)), (0, .ref l0), (1, .int l1), (2, .int l2)]) dX12_takesPending_6 rfl (by decide) rfl ?_
  refine v_sub [1, 2, 0] rfl ?_
  exact w_X12_takesPending_L7 FU l0 l1 (((8 : Int32) * l1) + l2) M h
theorem kd_X12_takesPending {l0 : Nat} {l1 : Int32} {l2 : Int32} {M : Mem} {z : _} (h : f_X12_takesPending l0 l1 l2 M = some z) : (mK M l0).1 = 12 := by
  unfold f_X12_takesPending at h
  exact (ifS h).1
theorem k_X12_takesPending {G : Gl} {l0 : Nat} {l1 : Int32} {l2 : Int32} {M MF : Mem} (h : f_X12_takesPending l0 l1 l2 M = some MF) : CtrP G yX12_takesPending cX12_takesPending 4 none 1 24 [.ref l0, .int l1, .int l2] M (cvV ()) MF :=
  ctr_of (by decide +kernel) (Nat.le_of_ble_eq_true rfl) (fun ρ => w_X12_takesPending (r := ()) l0 l1 l2 M h)
theorem wd_X12_115 : wdV RX12 115 RX12 yX12_takesPending cX12_takesPending 4 none 2 := ⟨gwi 1376 (by decide +kernel) (by decide +kernel), gwi 1378 (by decide +kernel) (by decide +kernel), gwi 49 (by decide +kernel) (by decide +kernel), nw_X12, gwi 1379 (by decide +kernel) (by decide +kernel), ⟨rfl, by decide +kernel, by decide +kernel, by decide +kernel⟩⟩
theorem ca_X12_115 {G : Gl} {B : Bx} {cc : ByteArray} {ret : Option FieldType} {fr lo nL : Nat} {mn : String} {hh : List (Nat × Nat × Nat × Nat)} {pc : Nat} {ls : List (Nat × Value)} {st : List Value} {M M1 : Mem} {l0 : Nat} {l1 : Int32} {l2 : Int32} (e : f_X12_takesPending l0 l1 l2 M = some M1) (hd : decode cc pc = .ok (.invokevirtual 115, 3)) (hcat : (st.map fun v => v.category).sum ≤ 8) (hR : 1 + 1 ≤ fr ∧ 8 + (4 + 11) + 24 ≤ lo) (k : V G (RX12, cc, ret, fr, lo, nL, mn, hh) B (pc + 3) ls (st) M1) : V G (RX12, cc, ret, fr, lo, nL, mn, hh) B pc ls (.int l2 :: .int l1 :: .ref l0 :: st) M := v_callV0 (As := [.int l1, .int l2]) (k_X12_takesPending e) wd_X12_115 clX12 (kd_X12_takesPending e) hd rfl rfl hcat hR k
set_option maxHeartbeats 4000000 in
set_option maxRecDepth 100000 in
theorem w_X12_goesOn_L0 {G : Gl} {ρ0 : Nat → Nat} {M0 MF : Mem} {r : Unit} : ∀ (n : Nat) (l0 : Nat) (l1 : Int32) (M : Mem), f_X12_goesOn_L0 n l0 l1 M = some MF → V G (RX12, cX12_goesOn, none, 4, 109, 3, "goesOn", []) (ρ0, M0, cvV r, MF) 0 [(0, .ref l0), (1, .int l1)] [] M := by
  intro n
  induction n with
  | zero => intro l0 l1 M h; cases h
  | succ n ih =>
    intro l0 l1 M h
    rw [f_X12_goesOn_L0] at h
    refine v_aload_n dX12_goesOn_0 rfl 0 rfl ?_
    refine v_iload_n dX12_goesOn_1 rfl 1 rfl ?_
    obtain ⟨v2, M1, e, h⟩ := bindP_some h
    refine ca_X12_107 e dX12_goesOn_2 (Nat.le_of_ble_eq_true rfl) (by decide) ?_
    refine v_if_eq (tgt := 98) dX12_goesOn_5 (by decide) (fun c20 => ?_) (fun c20 => ?_)
    · replace h := ifP c20 h
      cases h
      exact v_vreturn dX12_goesOn_98
    · replace h := ifN c20 h
      refine v_aload_n dX12_goesOn_8 rfl 0 rfl ?_
      obtain ⟨v3, e, h⟩ := bind_some h
      refine gt_X12_9 e dX12_goesOn_9 ?_
      refine v_bipush (v := 62) dX12_goesOn_12 cb_62 ?_
      refine v_iload_n dX12_goesOn_14 rfl 1 rfl ?_
      refine v_iadd dX12_goesOn_15 ?_
      obtain ⟨v4, e, h⟩ := bind_some h
      refine v_iaload dX12_goesOn_16 e ?_
      refine v_if_le (tgt := 98) dX12_goesOn_17 (by decide) (fun c19 => ?_) (fun c19 => ?_)
      · replace h := ifP c19 h
        cases h
        exact v_vreturn dX12_goesOn_98
      · replace h := ifN c19 h
        refine v_aload_n dX12_goesOn_20 rfl 0 rfl ?_
        obtain ⟨v5, e, h⟩ := bind_some h
        refine gt_X12_9 e dX12_goesOn_21 ?_
        refine v_bipush (v := 56) dX12_goesOn_24 cb_56 ?_
        refine v_iload_n dX12_goesOn_26 rfl 1 rfl ?_
        refine v_iadd dX12_goesOn_27 ?_
        obtain ⟨v6, e, h⟩ := bind_some h
        refine v_iaload dX12_goesOn_28 e ?_
        refine v_aload_n dX12_goesOn_29 rfl 0 rfl ?_
        obtain ⟨v7, e, h⟩ := bind_some h
        refine gt_X12_9 e dX12_goesOn_30 ?_
        refine v_iconst (v := 1) dX12_goesOn_33 ci_1 ?_
        obtain ⟨v8, e, h⟩ := bind_some h
        refine v_iaload dX12_goesOn_34 e ?_
        refine v_icmp_ge (tgt := 98) dX12_goesOn_35 (by decide) (fun c18 => ?_) (fun c18 => ?_)
        · replace h := ifP c18 h
          cases h
          exact v_vreturn dX12_goesOn_98
        · replace h := ifN c18 h
          refine v_bipush (v := 8) dX12_goesOn_38 cb_8 ?_
          refine v_iload_n dX12_goesOn_40 rfl 1 rfl ?_
          refine v_imul dX12_goesOn_41 ?_
          refine v_istore_n (ls' := [(2, .int ((8 : Int32) * l1)), (0, .ref l0), (1, .int l1)]) dX12_goesOn_42 rfl (by decide) rfl ?_
          refine v_aload_n dX12_goesOn_43 rfl 1 rfl ?_
          refine v_iload_n dX12_goesOn_44 rfl 2 rfl ?_
          refine v_aload_n dX12_goesOn_45 rfl 1 rfl ?_
          obtain ⟨v9, e, h⟩ := bind_some h
          refine gt_X12_9 e dX12_goesOn_46 ?_
          refine v_sipush (v := 734) dX12_goesOn_49 cs_734 ?_
          refine v_iload_n dX12_goesOn_52 rfl 0 rfl ?_
          refine v_iadd dX12_goesOn_53 ?_
          obtain ⟨v10, e, h⟩ := bind_some h
          refine v_iaload dX12_goesOn_54 e ?_
          refine v_aload_n dX12_goesOn_55 rfl 1 rfl ?_
          obtain ⟨v11, e, h⟩ := bind_some h
          refine gt_X12_9 e dX12_goesOn_56 ?_
          refine v_sipush (v := 782) dX12_goesOn_59 cs_782 ?_
          refine v_iload_n dX12_goesOn_62 rfl 0 rfl ?_
          refine v_iadd dX12_goesOn_63 ?_
          obtain ⟨v12, e, h⟩ := bind_some h
          refine v_iaload dX12_goesOn_64 e ?_
          refine v_aload_n dX12_goesOn_65 rfl 1 rfl ?_
          obtain ⟨v13, e, h⟩ := bind_some h
          refine gt_X12_9 e dX12_goesOn_66 ?_
          refine v_sipush (v := 830) dX12_goesOn_69 cs_830 ?_
          refine v_iload_n dX12_goesOn_72 rfl 0 rfl ?_
          refine v_iadd dX12_goesOn_73 ?_
          obtain ⟨v14, e, h⟩ := bind_some h
          refine v_iaload dX12_goesOn_74 e ?_
          refine v_aload_n dX12_goesOn_75 rfl 1 rfl ?_
          obtain ⟨v15, e, h⟩ := bind_some h
          refine gt_X12_13 e dX12_goesOn_76 ?_
          refine v_sipush (v := 312) dX12_goesOn_79 cs_312 ?_
          refine v_iconst (v := 4) dX12_goesOn_82 ci_4 ?_
          refine v_iload_n dX12_goesOn_83 rfl 0 rfl ?_
          refine v_imul dX12_goesOn_84 ?_
          refine v_iadd dX12_goesOn_85 ?_
          obtain ⟨M16, e, h⟩ := bind_some h
          refine ca_X12_111 e dX12_goesOn_86 (Nat.le_of_ble_eq_true rfl) (by decide) ?_
          refine v_aload_n dX12_goesOn_89 rfl 1 rfl ?_
          refine v_iload_n dX12_goesOn_90 rfl 2 rfl ?_
          refine v_iconst (v := 0) dX12_goesOn_91 ci_0 ?_
          obtain ⟨M17, e, h⟩ := bind_some h
          refine ca_X12_115 e dX12_goesOn_92 (Nat.le_of_ble_eq_true rfl) (by decide) ?_
          refine v_goto (tgt := 0) dX12_goesOn_95 (by decide) ?_
          refine v_sub [1, 2] rfl ?_
          exact ih l0 l1 M17 h
theorem w_X12_goesOn {G : Gl} {ρ0 : Nat → Nat} {M0 MF : Mem} {r : Unit} (l0 : Nat) (l1 : Int32) (M : Mem) (h : f_X12_goesOn l0 l1 M = some MF) : V G (RX12, cX12_goesOn, none, 4, 109, 3, "goesOn", []) (ρ0, M0, cvV r, MF) 0 [(0, .ref l0), (1, .int l1)] [] M := by
  unfold f_X12_goesOn at h
  replace h := (ifS h).2
  exact w_X12_goesOn_L0 FU l0 l1 M h
theorem kd_X12_goesOn {l0 : Nat} {l1 : Int32} {M : Mem} {z : _} (h : f_X12_goesOn l0 l1 M = some z) : (mK M l0).1 = 12 := by
  unfold f_X12_goesOn at h
  exact (ifS h).1
theorem k_X12_goesOn {G : Gl} {l0 : Nat} {l1 : Int32} {M MF : Mem} (h : f_X12_goesOn l0 l1 M = some MF) : CtrP G yX12_goesOn cX12_goesOn 3 none 4 109 [.ref l0, .int l1] M (cvV ()) MF :=
  ctr_of (by decide +kernel) (Nat.le_of_ble_eq_true rfl) (fun ρ => w_X12_goesOn (r := ()) l0 l1 M h)
theorem wd_X12_127 : wdV RX12 127 RX12 yX12_goesOn cX12_goesOn 3 none 1 := ⟨gwi 1396 (by decide +kernel) (by decide +kernel), gwi 1398 (by decide +kernel) (by decide +kernel), gwi 54 (by decide +kernel) (by decide +kernel), nw_X12, gwi 1399 (by decide +kernel) (by decide +kernel), ⟨rfl, by decide +kernel, by decide +kernel, by decide +kernel⟩⟩
theorem ca_X12_127 {G : Gl} {B : Bx} {cc : ByteArray} {ret : Option FieldType} {fr lo nL : Nat} {mn : String} {hh : List (Nat × Nat × Nat × Nat)} {pc : Nat} {ls : List (Nat × Value)} {st : List Value} {M M1 : Mem} {l0 : Nat} {l1 : Int32} (e : f_X12_goesOn l0 l1 M = some M1) (hd : decode cc pc = .ok (.invokevirtual 127, 3)) (hcat : (st.map fun v => v.category).sum ≤ 8) (hR : 4 + 1 ≤ fr ∧ 8 + (3 + 11) + 109 ≤ lo) (k : V G (RX12, cc, ret, fr, lo, nL, mn, hh) B (pc + 3) ls (st) M1) : V G (RX12, cc, ret, fr, lo, nL, mn, hh) B pc ls (.int l1 :: .ref l0 :: st) M := v_callV0 (As := [.int l1]) (k_X12_goesOn e) wd_X12_127 clX12 (kd_X12_goesOn e) hd rfl rfl hcat hR k
set_option maxHeartbeats 4000000 in
set_option maxRecDepth 100000 in
theorem w_X12_waits_J41 {G : Gl} {ρ0 : Nat → Nat} {M0 MF : Mem} {r : Unit} (l0 : Nat) (l1 : Int32) (l2 : Int32) (l3 : Int32) (l4 : Int32) (M : Mem) (h : f_X12_waits_J41 l0 l1 l2 l3 l4 M = some MF) : V G (RX12, cX12_waits, none, 2, 47, 6, "waits", []) (ρ0, M0, cvV r, MF) 41 [(0, .ref l0), (1, .int l1), (2, .int l2), (3, .int l3), (4, .int l4)] [] M := by
  unfold f_X12_waits_J41 at h
  refine v_bipush (v := 8) dX12_waits_41 cb_8 ?_
  refine v_iload_n dX12_waits_43 rfl 1 rfl ?_
  refine v_imul dX12_waits_44 ?_
  refine v_aload_n dX12_waits_45 rfl 0 rfl ?_
  obtain ⟨v1, e, h⟩ := bind_some h
  refine gt_X12_9 e dX12_waits_46 ?_
  refine v_bipush (v := 62) dX12_waits_49 cb_62 ?_
  refine v_iload_n dX12_waits_51 rfl 1 rfl ?_
  refine v_iadd dX12_waits_52 ?_
  obtain ⟨v2, e, h⟩ := bind_some h
  refine v_iaload dX12_waits_53 e ?_
  refine v_iadd dX12_waits_54 ?_
  refine v_istore (ls' := [(5, .int (((8 : Int32) * l1) + v2)), (0, .ref l0), (1, .int l1), (2, .int l2), (3, .int l3), (4, .int l4)]) dX12_waits_55 (by decide) rfl ?_
  refine v_aload_n dX12_waits_57 rfl 1 rfl ?_
  obtain ⟨v3, e, h⟩ := bind_some h
  refine gt_X12_9 e dX12_waits_58 ?_
  refine v_sipush (v := 734) dX12_waits_61 cs_734 ?_
  refine v_iload dX12_waits_64 0 rfl ?_
  refine v_iadd dX12_waits_66 ?_
  refine v_iload_n dX12_waits_67 rfl 3 rfl ?_
  obtain ⟨M4, e, h⟩ := bind_some h
  refine v_iastore dX12_waits_68 e ?_
  refine v_aload_n dX12_waits_69 rfl 1 rfl ?_
  obtain ⟨v5, e, h⟩ := bind_some h
  refine gt_X12_9 e dX12_waits_70 ?_
  refine v_sipush (v := 782) dX12_waits_73 cs_782 ?_
  refine v_iload dX12_waits_76 0 rfl ?_
  refine v_iadd dX12_waits_78 ?_
  refine v_iload_n dX12_waits_79 rfl 4 rfl ?_
  obtain ⟨M6, e, h⟩ := bind_some h
  refine v_iastore dX12_waits_80 e ?_
  refine v_aload_n dX12_waits_81 rfl 1 rfl ?_
  obtain ⟨v7, e, h⟩ := bind_some h
  refine gt_X12_9 e dX12_waits_82 ?_
  refine v_sipush (v := 830) dX12_waits_85 cs_830 ?_
  refine v_iload dX12_waits_88 0 rfl ?_
  refine v_iadd dX12_waits_90 ?_
  refine v_iload dX12_waits_91 5 rfl ?_
  obtain ⟨M8, e, h⟩ := bind_some h
  refine v_iastore dX12_waits_93 e ?_
  refine v_aload_n dX12_waits_94 rfl 1 rfl ?_
  obtain ⟨v9, e, h⟩ := bind_some h
  refine gt_X12_40 e dX12_waits_95 ?_
  refine v_iconst (v := 0) dX12_waits_98 ci_0 ?_
  refine v_aload_n dX12_waits_99 rfl 1 rfl ?_
  obtain ⟨v10, e, h⟩ := bind_some h
  refine gt_X12_13 e dX12_waits_100 ?_
  refine v_sipush (v := 312) dX12_waits_103 cs_312 ?_
  refine v_iconst (v := 4) dX12_waits_106 ci_4 ?_
  refine v_iload dX12_waits_107 0 rfl ?_
  refine v_imul dX12_waits_109 ?_
  refine v_iadd dX12_waits_110 ?_
  obtain ⟨M11, e, h⟩ := bind_some h
  refine ca_X12_97 e dX12_waits_111 (Nat.le_of_ble_eq_true rfl) (by decide) ?_
  refine v_aload_n dX12_waits_114 rfl 1 rfl ?_
  obtain ⟨v12, e, h⟩ := bind_some h
  refine gt_X12_9 e dX12_waits_115 ?_
  refine v_bipush (v := 62) dX12_waits_118 cb_62 ?_
  refine v_iload_n dX12_waits_120 rfl 2 rfl ?_
  refine v_iadd dX12_waits_121 ?_
  refine v_dup2 dX12_waits_122 rfl rfl ?_
  obtain ⟨v13, e, h⟩ := bind_some h
  refine v_iaload dX12_waits_123 e ?_
  refine v_iconst (v := 1) dX12_waits_124 ci_1 ?_
  refine v_iadd dX12_waits_125 ?_
  obtain ⟨M14, e, h⟩ := bind_some h
  refine v_iastore dX12_waits_126 e ?_
  cases h
  exact v_vreturn dX12_waits_127
set_option maxHeartbeats 4000000 in
set_option maxRecDepth 100000 in
theorem w_X12_waits {G : Gl} {ρ0 : Nat → Nat} {M0 MF : Mem} {r : Unit} (l0 : Nat) (l1 : Int32) (l2 : Int32) (l3 : Int32) (l4 : Int32) (M : Mem) (h : f_X12_waits l0 l1 l2 l3 l4 M = some MF) : V G (RX12, cX12_waits, none, 2, 47, 6, "waits", []) (ρ0, M0, cvV r, MF) 0 [(0, .ref l0), (1, .int l1), (2, .int l2), (3, .int l3), (4, .int l4)] [] M := by
  unfold f_X12_waits at h
  replace h := (ifS h).2
  refine v_aload_n dX12_waits_0 rfl 0 rfl ?_
  obtain ⟨v1, e, h⟩ := bind_some h
  refine gt_X12_9 e dX12_waits_1 ?_
  refine v_bipush (v := 62) dX12_waits_4 cb_62 ?_
  refine v_iload_n dX12_waits_6 rfl 1 rfl ?_
  refine v_iadd dX12_waits_7 ?_
  obtain ⟨v2, e, h⟩ := bind_some h
  refine v_iaload dX12_waits_8 e ?_
  refine v_bipush (v := 8) dX12_waits_9 cb_8 ?_
  refine v_icmp_ne (tgt := 41) dX12_waits_11 (by decide) (fun c10 => ?_) (fun c10 => ?_)
  · replace h := ifN c10 h
    exact w_X12_waits_J41 l0 l1 l2 l3 l4 M h
  · replace h := ifP c10 h
    refine v_aload_n dX12_waits_14 rfl 0 rfl ?_
    obtain ⟨v3, e, h⟩ := bind_some h
    refine gt_X12_9 e dX12_waits_15 ?_
    refine v_bipush (v := 7) dX12_waits_18 cb_7 ?_
    refine v_dup2 dX12_waits_20 rfl rfl ?_
    obtain ⟨v4, e, h⟩ := bind_some h
    refine v_iaload dX12_waits_21 e ?_
    refine v_iconst (v := 1) dX12_waits_22 ci_1 ?_
    refine v_iadd dX12_waits_23 ?_
    obtain ⟨M5, e, h⟩ := bind_some h
    refine v_iastore dX12_waits_24 e ?_
    refine v_aload_n dX12_waits_25 rfl 0 rfl ?_
    obtain ⟨v6, e, h⟩ := bind_some h
    refine gt_X12_9 e dX12_waits_26 ?_
    refine v_iconst (v := 4) dX12_waits_29 ci_4 ?_
    obtain ⟨v7, e, h⟩ := bind_some h
    refine v_iaload dX12_waits_30 e ?_
    refine v_if_ne (tgt := 35) dX12_waits_31 (by decide) (fun c9 => ?_) (fun c9 => ?_)
    · replace h := ifN c9 h
      refine v_aload_n dX12_waits_35 rfl 0 rfl ?_
      refine v_iload_n dX12_waits_36 rfl 1 rfl ?_
      refine v_iconst (v := 0) dX12_waits_37 ci_0 ?_
      obtain ⟨M8, e, h⟩ := bind_some h
      refine ca_X12_115 e dX12_waits_38 (Nat.le_of_ble_eq_true rfl) (by decide) ?_
      exact w_X12_waits_J41 l0 l1 l2 l3 l4 M8 h
    · replace h := ifP c9 h
      cases h
      exact v_vreturn dX12_waits_34
theorem kd_X12_waits {l0 : Nat} {l1 : Int32} {l2 : Int32} {l3 : Int32} {l4 : Int32} {M : Mem} {z : _} (h : f_X12_waits l0 l1 l2 l3 l4 M = some z) : (mK M l0).1 = 12 := by
  unfold f_X12_waits at h
  exact (ifS h).1
theorem k_X12_waits {G : Gl} {l0 : Nat} {l1 : Int32} {l2 : Int32} {l3 : Int32} {l4 : Int32} {M MF : Mem} (h : f_X12_waits l0 l1 l2 l3 l4 M = some MF) : CtrP G yX12_waits cX12_waits 6 none 2 47 [.ref l0, .int l1, .int l2, .int l3, .int l4] M (cvV ()) MF :=
  ctr_of (by decide +kernel) (Nat.le_of_ble_eq_true rfl) (fun ρ => w_X12_waits (r := ()) l0 l1 l2 l3 l4 M h)
theorem wd_X12_119 : wdV RX12 119 RX12 yX12_waits cX12_waits 6 none 4 := ⟨gwi 1372 (by decide +kernel) (by decide +kernel), gwi 1374 (by decide +kernel) (by decide +kernel), gwi 48 (by decide +kernel) (by decide +kernel), nw_X12, gwi 1375 (by decide +kernel) (by decide +kernel), ⟨rfl, by decide +kernel, by decide +kernel, by decide +kernel⟩⟩
theorem ca_X12_119 {G : Gl} {B : Bx} {cc : ByteArray} {ret : Option FieldType} {fr lo nL : Nat} {mn : String} {hh : List (Nat × Nat × Nat × Nat)} {pc : Nat} {ls : List (Nat × Value)} {st : List Value} {M M1 : Mem} {l0 : Nat} {l1 : Int32} {l2 : Int32} {l3 : Int32} {l4 : Int32} (e : f_X12_waits l0 l1 l2 l3 l4 M = some M1) (hd : decode cc pc = .ok (.invokevirtual 119, 3)) (hcat : (st.map fun v => v.category).sum ≤ 8) (hR : 2 + 1 ≤ fr ∧ 8 + (6 + 11) + 47 ≤ lo) (k : V G (RX12, cc, ret, fr, lo, nL, mn, hh) B (pc + 3) ls (st) M1) : V G (RX12, cc, ret, fr, lo, nL, mn, hh) B pc ls (.int l4 :: .int l3 :: .int l2 :: .int l1 :: .ref l0 :: st) M := v_callV0 (As := [.int l1, .int l2, .int l3, .int l4]) (k_X12_waits e) wd_X12_119 clX12 (kd_X12_waits e) hd rfl rfl hcat hR k
set_option maxHeartbeats 4000000 in
set_option maxRecDepth 100000 in
theorem w_X12_gives_J113 {G : Gl} {ρ0 : Nat → Nat} {M0 MF : Mem} {r : Unit} (l0 : Nat) (l1 : Int32) (l2 : Int32) (l3 : Int32) (l4 : Int32) (M : Mem) (h : f_X12_gives_J113 l0 l1 l2 l3 l4 M = some MF) : V G (RX12, cX12_gives, none, 4, 109, 5, "gives", []) (ρ0, M0, cvV r, MF) 113 [(0, .ref l0), (1, .int l1), (2, .int l2), (3, .int l3), (4, .int l4)] [] M := by
  unfold f_X12_gives_J113 at h
  refine v_aload_n dX12_gives_113 rfl 0 rfl ?_
  refine v_iload_n dX12_gives_114 rfl 1 rfl ?_
  refine v_iload_n dX12_gives_115 rfl 2 rfl ?_
  refine v_iload_n dX12_gives_116 rfl 3 rfl ?_
  refine v_iload dX12_gives_117 4 rfl ?_
  obtain ⟨M1, e, h⟩ := bind_some h
  refine ca_X12_119 e dX12_gives_119 (Nat.le_of_ble_eq_true rfl) (by decide) ?_
  cases h
  exact v_vreturn dX12_gives_122
set_option maxHeartbeats 4000000 in
set_option maxRecDepth 100000 in
theorem w_X12_gives {G : Gl} {ρ0 : Nat → Nat} {M0 MF : Mem} {r : Unit} (l0 : Nat) (l1 : Int32) (l2 : Int32) (l3 : Int32) (l4 : Int32) (M : Mem) (h : f_X12_gives l0 l1 l2 l3 l4 M = some MF) : V G (RX12, cX12_gives, none, 4, 109, 5, "gives", []) (ρ0, M0, cvV r, MF) 0 [(0, .ref l0), (1, .int l1), (2, .int l2), (3, .int l3), (4, .int l4)] [] M := by
  unfold f_X12_gives at h
  replace h := (ifS h).2
  refine v_aload_n dX12_gives_0 rfl 0 rfl ?_
  obtain ⟨v1, e, h⟩ := bind_some h
  refine gt_X12_9 e dX12_gives_1 ?_
  refine v_bipush (v := 6) dX12_gives_4 cb_6 ?_
  refine v_dup2 dX12_gives_6 rfl rfl ?_
  obtain ⟨v2, e, h⟩ := bind_some h
  refine v_iaload dX12_gives_7 e ?_
  refine v_iconst (v := 1) dX12_gives_8 ci_1 ?_
  refine v_iadd dX12_gives_9 ?_
  obtain ⟨M3, e, h⟩ := bind_some h
  refine v_iastore dX12_gives_10 e ?_
  refine v_iload_n dX12_gives_11 rfl 2 rfl ?_
  refine v_if_ne (tgt := 58) dX12_gives_12 (by decide) (fun c17 => ?_) (fun c17 => ?_)
  · replace h := ifN c17 h
    refine v_aload_n dX12_gives_58 rfl 0 rfl ?_
    refine v_iload_n dX12_gives_59 rfl 1 rfl ?_
    obtain ⟨v5, M4, e, h⟩ := bindP_some h
    refine ca_X12_107 e dX12_gives_60 (Nat.le_of_ble_eq_true rfl) (by decide) ?_
    refine v_if_eq (tgt := 113) dX12_gives_63 (by decide) (fun c16 => ?_) (fun c16 => ?_)
    · replace h := ifP c16 h
      exact w_X12_gives_J113 l0 l1 l2 l3 l4 M4 h
    · replace h := ifN c16 h
      refine v_aload_n dX12_gives_66 rfl 0 rfl ?_
      obtain ⟨v6, e, h⟩ := bind_some h
      refine gt_X12_9 e dX12_gives_67 ?_
      refine v_bipush (v := 56) dX12_gives_70 cb_56 ?_
      refine v_iload_n dX12_gives_72 rfl 1 rfl ?_
      refine v_iadd dX12_gives_73 ?_
      obtain ⟨v7, e, h⟩ := bind_some h
      refine v_iaload dX12_gives_74 e ?_
      refine v_aload_n dX12_gives_75 rfl 0 rfl ?_
      obtain ⟨v8, e, h⟩ := bind_some h
      refine gt_X12_9 e dX12_gives_76 ?_
      refine v_iconst (v := 1) dX12_gives_79 ci_1 ?_
      obtain ⟨v9, e, h⟩ := bind_some h
      refine v_iaload dX12_gives_80 e ?_
      refine v_icmp_ge (tgt := 113) dX12_gives_81 (by decide) (fun c15 => ?_) (fun c15 => ?_)
      · replace h := ifP c15 h
        exact w_X12_gives_J113 l0 l1 l2 l3 l4 M4 h
      · replace h := ifN c15 h
        refine v_aload_n dX12_gives_84 rfl 0 rfl ?_
        obtain ⟨v10, e, h⟩ := bind_some h
        refine gt_X12_9 e dX12_gives_85 ?_
        refine v_bipush (v := 62) dX12_gives_88 cb_62 ?_
        refine v_iload_n dX12_gives_90 rfl 1 rfl ?_
        refine v_iadd dX12_gives_91 ?_
        obtain ⟨v11, e, h⟩ := bind_some h
        refine v_iaload dX12_gives_92 e ?_
        refine v_if_ne (tgt := 113) dX12_gives_93 (by decide) (fun c14 => ?_) (fun c14 => ?_)
        · replace h := ifN c14 h
          exact w_X12_gives_J113 l0 l1 l2 l3 l4 M4 h
        · replace h := ifP c14 h
          refine v_aload_n dX12_gives_96 rfl 0 rfl ?_
          refine v_iload_n dX12_gives_97 rfl 1 rfl ?_
          refine v_iload_n dX12_gives_98 rfl 2 rfl ?_
          refine v_iload_n dX12_gives_99 rfl 3 rfl ?_
          refine v_iload dX12_gives_100 4 rfl ?_
          refine v_aload_n dX12_gives_102 rfl 0 rfl ?_
          obtain ⟨v12, e, h⟩ := bind_some h
          refine gt_X12_40 e dX12_gives_103 ?_
          refine v_iconst (v := 0) dX12_gives_106 ci_0 ?_
          obtain ⟨M13, e, h⟩ := bind_some h
          refine ca_X12_111 e dX12_gives_107 (Nat.le_of_ble_eq_true rfl) (by decide) ?_
          refine v_goto (tgt := 122) dX12_gives_110 (by decide) ?_
          cases h
          exact v_vreturn dX12_gives_122
  · replace h := ifP c17 h
    refine v_aload_n dX12_gives_15 rfl 0 rfl ?_
    refine v_iload_n dX12_gives_16 rfl 1 rfl ?_
    obtain ⟨v5, M4, e, h⟩ := bindP_some h
    refine ca_X12_107 e dX12_gives_17 (Nat.le_of_ble_eq_true rfl) (by decide) ?_
    refine v_if_eq (tgt := 44) dX12_gives_20 (by decide) (fun c9 => ?_) (fun c9 => ?_)
    · replace h := ifP c9 h
      refine v_aload_n dX12_gives_44 rfl 0 rfl ?_
      obtain ⟨v6, e, h⟩ := bind_some h
      refine gt_X12_9 e dX12_gives_45 ?_
      refine v_bipush (v := 7) dX12_gives_48 cb_7 ?_
      refine v_dup2 dX12_gives_50 rfl rfl ?_
      obtain ⟨v7, e, h⟩ := bind_some h
      refine v_iaload dX12_gives_51 e ?_
      refine v_iconst (v := 1) dX12_gives_52 ci_1 ?_
      refine v_iadd dX12_gives_53 ?_
      obtain ⟨M8, e, h⟩ := bind_some h
      refine v_iastore dX12_gives_54 e ?_
      refine v_goto (tgt := 122) dX12_gives_55 (by decide) ?_
      cases h
      exact v_vreturn dX12_gives_122
    · replace h := ifN c9 h
      refine v_aload_n dX12_gives_23 rfl 0 rfl ?_
      refine v_iload_n dX12_gives_24 rfl 1 rfl ?_
      refine v_iconst (v := 0) dX12_gives_25 ci_0 ?_
      refine v_iconst (v := 0) dX12_gives_26 ci_0 ?_
      refine v_iconst (v := 0) dX12_gives_27 ci_0 ?_
      refine v_iload_n dX12_gives_28 rfl 3 rfl ?_
      refine v_iconst (v := 2) dX12_gives_29 ci_2 ?_
      refine v_iload dX12_gives_30 4 rfl ?_
      refine v_imul dX12_gives_32 ?_
      refine v_aload_n dX12_gives_33 rfl 0 rfl ?_
      obtain ⟨v6, e, h⟩ := bind_some h
      refine gt_X12_40 e dX12_gives_34 ?_
      refine v_iconst (v := 0) dX12_gives_37 ci_0 ?_
      obtain ⟨M7, e, h⟩ := bind_some h
      refine ca_X12_101 e dX12_gives_38 (Nat.le_of_ble_eq_true rfl) (by decide) ?_
      refine v_goto (tgt := 122) dX12_gives_41 (by decide) ?_
      cases h
      exact v_vreturn dX12_gives_122
theorem kd_X12_gives {l0 : Nat} {l1 : Int32} {l2 : Int32} {l3 : Int32} {l4 : Int32} {M : Mem} {z : _} (h : f_X12_gives l0 l1 l2 l3 l4 M = some z) : (mK M l0).1 = 12 := by
  unfold f_X12_gives at h
  exact (ifS h).1
theorem k_X12_gives {G : Gl} {l0 : Nat} {l1 : Int32} {l2 : Int32} {l3 : Int32} {l4 : Int32} {M MF : Mem} (h : f_X12_gives l0 l1 l2 l3 l4 M = some MF) : CtrP G yX12_gives cX12_gives 5 none 4 109 [.ref l0, .int l1, .int l2, .int l3, .int l4] M (cvV ()) MF :=
  ctr_of (by decide +kernel) (Nat.le_of_ble_eq_true rfl) (fun ρ => w_X12_gives (r := ()) l0 l1 l2 l3 l4 M h)
theorem wd_X12_163 : wdV RX12 163 RX12 yX12_gives cX12_gives 5 none 4 := ⟨gwi 1352 (by decide +kernel) (by decide +kernel), gwi 1354 (by decide +kernel) (by decide +kernel), gwi 43 (by decide +kernel) (by decide +kernel), nw_X12, gwi 1355 (by decide +kernel) (by decide +kernel), ⟨rfl, by decide +kernel, by decide +kernel, by decide +kernel⟩⟩
theorem ca_X12_163 {G : Gl} {B : Bx} {cc : ByteArray} {ret : Option FieldType} {fr lo nL : Nat} {mn : String} {hh : List (Nat × Nat × Nat × Nat)} {pc : Nat} {ls : List (Nat × Value)} {st : List Value} {M M1 : Mem} {l0 : Nat} {l1 : Int32} {l2 : Int32} {l3 : Int32} {l4 : Int32} (e : f_X12_gives l0 l1 l2 l3 l4 M = some M1) (hd : decode cc pc = .ok (.invokevirtual 163, 3)) (hcat : (st.map fun v => v.category).sum ≤ 8) (hR : 4 + 1 ≤ fr ∧ 8 + (5 + 11) + 109 ≤ lo) (k : V G (RX12, cc, ret, fr, lo, nL, mn, hh) B (pc + 3) ls (st) M1) : V G (RX12, cc, ret, fr, lo, nL, mn, hh) B pc ls (.int l4 :: .int l3 :: .int l2 :: .int l1 :: .ref l0 :: st) M := v_callV0 (As := [.int l1, .int l2, .int l3, .int l4]) (k_X12_gives e) wd_X12_163 clX12 (kd_X12_gives e) hd rfl rfl hcat hR k
set_option maxHeartbeats 4000000 in
set_option maxRecDepth 100000 in
theorem w_X12_sendsAgain {G : Gl} {ρ0 : Nat → Nat} {M0 MF : Mem} {r : Unit} (l0 : Nat) (l1 : Int32) (l2 : Int32) (M : Mem) (h : f_X12_sendsAgain l0 l1 l2 M = some MF) : V G (RX12, cX12_sendsAgain, none, 4, 104, 4, "sendsAgain", []) (ρ0, M0, cvV r, MF) 0 [(0, .ref l0), (1, .int l1), (2, .int l2)] [] M := by
  unfold f_X12_sendsAgain at h
  replace h := (ifS h).2
  refine v_iconst (v := 5) dX12_sendsAgain_0 ci_5 ?_
  refine v_iload_n dX12_sendsAgain_1 rfl 1 rfl ?_
  refine v_imul dX12_sendsAgain_2 ?_
  refine v_iload_n dX12_sendsAgain_3 rfl 2 rfl ?_
  refine v_iadd dX12_sendsAgain_4 ?_
  refine v_istore_n (ls' := [(3, .int (((5 : Int32) * l1) + l2)), (0, .ref l0), (1, .int l1), (2, .int l2)]) dX12_sendsAgain_5 rfl (by decide) rfl ?_
  refine v_aload_n dX12_sendsAgain_6 rfl 1 rfl ?_
  obtain ⟨v1, e, h⟩ := bind_some h
  refine gt_X12_9 e dX12_sendsAgain_7 ?_
  refine v_sipush (v := 704) dX12_sendsAgain_10 cs_704 ?_
  refine v_iload_n dX12_sendsAgain_13 rfl 0 rfl ?_
  refine v_iadd dX12_sendsAgain_14 ?_
  refine v_aload_n dX12_sendsAgain_15 rfl 1 rfl ?_
  obtain ⟨v2, e, h⟩ := bind_some h
  refine gt_X12_9 e dX12_sendsAgain_16 ?_
  refine v_iconst (v := 0) dX12_sendsAgain_19 ci_0 ?_
  obtain ⟨v3, e, h⟩ := bind_some h
  refine v_iaload dX12_sendsAgain_20 e ?_
  obtain ⟨M4, e, h⟩ := bind_some h
  refine v_iastore dX12_sendsAgain_21 e ?_
  refine v_aload_n dX12_sendsAgain_22 rfl 1 rfl ?_
  obtain ⟨v5, e, h⟩ := bind_some h
  refine gt_X12_9 e dX12_sendsAgain_23 ?_
  refine v_bipush (v := 9) dX12_sendsAgain_26 cb_9 ?_
  refine v_dup2 dX12_sendsAgain_28 rfl rfl ?_
  obtain ⟨v6, e, h⟩ := bind_some h
  refine v_iaload dX12_sendsAgain_29 e ?_
  refine v_iconst (v := 1) dX12_sendsAgain_30 ci_1 ?_
  refine v_iadd dX12_sendsAgain_31 ?_
  obtain ⟨M7, e, h⟩ := bind_some h
  refine v_iastore dX12_sendsAgain_32 e ?_
  refine v_aload_n dX12_sendsAgain_33 rfl 1 rfl ?_
  obtain ⟨v8, e, h⟩ := bind_some h
  refine gt_X12_9 e dX12_sendsAgain_34 ?_
  refine v_sipush (v := 674) dX12_sendsAgain_37 cs_674 ?_
  refine v_iload_n dX12_sendsAgain_40 rfl 0 rfl ?_
  refine v_iadd dX12_sendsAgain_41 ?_
  obtain ⟨v9, e, h⟩ := bind_some h
  refine v_iaload dX12_sendsAgain_42 e ?_
  refine v_iconst (v := 4) dX12_sendsAgain_43 ci_4 ?_
  refine v_icmp_ne (tgt := 66) dX12_sendsAgain_44 (by decide) (fun c20 => ?_) (fun c20 => ?_)
  · replace h := ifN c20 h
    refine v_aload_n dX12_sendsAgain_66 rfl 1 rfl ?_
    refine v_iload_n dX12_sendsAgain_67 rfl 2 rfl ?_
    refine v_iconst (v := 0) dX12_sendsAgain_68 ci_0 ?_
    refine v_aload_n dX12_sendsAgain_69 rfl 1 rfl ?_
    obtain ⟨v10, e, h⟩ := bind_some h
    refine gt_X12_9 e dX12_sendsAgain_70 ?_
    refine v_sipush (v := 554) dX12_sendsAgain_73 cs_554 ?_
    refine v_iload_n dX12_sendsAgain_76 rfl 0 rfl ?_
    refine v_iadd dX12_sendsAgain_77 ?_
    obtain ⟨v11, e, h⟩ := bind_some h
    refine v_iaload dX12_sendsAgain_78 e ?_
    refine v_aload_n dX12_sendsAgain_79 rfl 1 rfl ?_
    obtain ⟨v12, e, h⟩ := bind_some h
    refine gt_X12_9 e dX12_sendsAgain_80 ?_
    refine v_sipush (v := 584) dX12_sendsAgain_83 cs_584 ?_
    refine v_iload_n dX12_sendsAgain_86 rfl 0 rfl ?_
    refine v_iadd dX12_sendsAgain_87 ?_
    obtain ⟨v13, e, h⟩ := bind_some h
    refine v_iaload dX12_sendsAgain_88 e ?_
    refine v_aload_n dX12_sendsAgain_89 rfl 1 rfl ?_
    obtain ⟨v14, e, h⟩ := bind_some h
    refine gt_X12_9 e dX12_sendsAgain_90 ?_
    refine v_sipush (v := 614) dX12_sendsAgain_93 cs_614 ?_
    refine v_iload_n dX12_sendsAgain_96 rfl 0 rfl ?_
    refine v_iadd dX12_sendsAgain_97 ?_
    obtain ⟨v15, e, h⟩ := bind_some h
    refine v_iaload dX12_sendsAgain_98 e ?_
    refine v_iconst (v := 1) dX12_sendsAgain_99 ci_1 ?_
    refine v_iconst (v := 2) dX12_sendsAgain_100 ci_2 ?_
    refine v_aload_n dX12_sendsAgain_101 rfl 1 rfl ?_
    obtain ⟨v16, e, h⟩ := bind_some h
    refine gt_X12_9 e dX12_sendsAgain_102 ?_
    refine v_sipush (v := 644) dX12_sendsAgain_105 cs_644 ?_
    refine v_iload_n dX12_sendsAgain_108 rfl 0 rfl ?_
    refine v_iadd dX12_sendsAgain_109 ?_
    obtain ⟨v17, e, h⟩ := bind_some h
    refine v_iaload dX12_sendsAgain_110 e ?_
    refine v_imul dX12_sendsAgain_111 ?_
    refine v_iadd dX12_sendsAgain_112 ?_
    refine v_aload_n dX12_sendsAgain_113 rfl 1 rfl ?_
    obtain ⟨v18, e, h⟩ := bind_some h
    refine gt_X12_13 e dX12_sendsAgain_114 ?_
    refine v_sipush (v := 168) dX12_sendsAgain_117 cs_168 ?_
    refine v_iconst (v := 4) dX12_sendsAgain_120 ci_4 ?_
    refine v_iload_n dX12_sendsAgain_121 rfl 0 rfl ?_
    refine v_imul dX12_sendsAgain_122 ?_
    refine v_iadd dX12_sendsAgain_123 ?_
    obtain ⟨M19, e, h⟩ := bind_some h
    refine ca_X12_101 e dX12_sendsAgain_124 (Nat.le_of_ble_eq_true rfl) (by decide) ?_
    cases h
    exact v_vreturn dX12_sendsAgain_127
  · replace h := ifP c20 h
    refine v_aload_n dX12_sendsAgain_47 rfl 1 rfl ?_
    refine v_iload_n dX12_sendsAgain_48 rfl 2 rfl ?_
    refine v_iconst (v := 3) dX12_sendsAgain_49 ci_3 ?_
    refine v_aload_n dX12_sendsAgain_50 rfl 1 rfl ?_
    obtain ⟨v10, e, h⟩ := bind_some h
    refine gt_X12_9 e dX12_sendsAgain_51 ?_
    refine v_sipush (v := 554) dX12_sendsAgain_54 cs_554 ?_
    refine v_iload_n dX12_sendsAgain_57 rfl 0 rfl ?_
    refine v_iadd dX12_sendsAgain_58 ?_
    obtain ⟨v11, e, h⟩ := bind_some h
    refine v_iaload dX12_sendsAgain_59 e ?_
    obtain ⟨M12, e, h⟩ := bind_some h
    refine ca_X12_123 e dX12_sendsAgain_60 (Nat.le_of_ble_eq_true rfl) (by decide) ?_
    refine v_goto (tgt := 127) dX12_sendsAgain_63 (by decide) ?_
    cases h
    exact v_vreturn dX12_sendsAgain_127
theorem kd_X12_sendsAgain {l0 : Nat} {l1 : Int32} {l2 : Int32} {M : Mem} {z : _} (h : f_X12_sendsAgain l0 l1 l2 M = some z) : (mK M l0).1 = 12 := by
  unfold f_X12_sendsAgain at h
  exact (ifS h).1
theorem k_X12_sendsAgain {G : Gl} {l0 : Nat} {l1 : Int32} {l2 : Int32} {M MF : Mem} (h : f_X12_sendsAgain l0 l1 l2 M = some MF) : CtrP G yX12_sendsAgain cX12_sendsAgain 4 none 4 104 [.ref l0, .int l1, .int l2] M (cvV ()) MF :=
  ctr_of (by decide +kernel) (Nat.le_of_ble_eq_true rfl) (fun ρ => w_X12_sendsAgain (r := ()) l0 l1 l2 M h)
theorem wd_X12_197 : wdV RX12 197 RX12 yX12_sendsAgain cX12_sendsAgain 4 none 2 := ⟨gwi 1388 (by decide +kernel) (by decide +kernel), gwi 1390 (by decide +kernel) (by decide +kernel), gwi 52 (by decide +kernel) (by decide +kernel), nw_X12, gwi 1391 (by decide +kernel) (by decide +kernel), ⟨rfl, by decide +kernel, by decide +kernel, by decide +kernel⟩⟩
theorem ca_X12_197 {G : Gl} {B : Bx} {cc : ByteArray} {ret : Option FieldType} {fr lo nL : Nat} {mn : String} {hh : List (Nat × Nat × Nat × Nat)} {pc : Nat} {ls : List (Nat × Value)} {st : List Value} {M M1 : Mem} {l0 : Nat} {l1 : Int32} {l2 : Int32} (e : f_X12_sendsAgain l0 l1 l2 M = some M1) (hd : decode cc pc = .ok (.invokevirtual 197, 3)) (hcat : (st.map fun v => v.category).sum ≤ 8) (hR : 4 + 1 ≤ fr ∧ 8 + (4 + 11) + 104 ≤ lo) (k : V G (RX12, cc, ret, fr, lo, nL, mn, hh) B (pc + 3) ls (st) M1) : V G (RX12, cc, ret, fr, lo, nL, mn, hh) B pc ls (.int l2 :: .int l1 :: .ref l0 :: st) M := v_callV0 (As := [.int l1, .int l2]) (k_X12_sendsAgain e) wd_X12_197 clX12 (kd_X12_sendsAgain e) hd rfl rfl hcat hR k
set_option maxHeartbeats 4000000 in
set_option maxRecDepth 100000 in
theorem w_X12_ends_L6 {G : Gl} {ρ0 : Nat → Nat} {M0 MF : Mem} {r : Unit} : ∀ (n : Nat) (l0 : Nat) (l1 : Int32) (l3 : Int32) (M : Mem), f_X12_ends_L6 n l0 l1 l3 M = some MF → V G (RX12, cX12_ends, none, 5, 131, 4, "ends", []) (ρ0, M0, cvV r, MF) 6 [(0, .ref l0), (1, .int l1), (3, .int l3)] [] M := by
  intro n
  induction n with
  | zero => intro l0 l1 l3 M h; cases h
  | succ n ih =>
    intro l0 l1 l3 M h
    rw [f_X12_ends_L6] at h
    refine v_iload_n dX12_ends_6 rfl 2 rfl ?_
    refine v_iconst (v := 5) dX12_ends_7 ci_5 ?_
    refine v_iload_n dX12_ends_8 rfl 1 rfl ?_
    refine v_imul dX12_ends_9 ?_
    refine v_aload_n dX12_ends_10 rfl 0 rfl ?_
    obtain ⟨v1, e, h⟩ := bind_some h
    refine gt_X12_9 e dX12_ends_11 ?_
    refine v_bipush (v := 56) dX12_ends_14 cb_56 ?_
    refine v_iload_n dX12_ends_16 rfl 1 rfl ?_
    refine v_iadd dX12_ends_17 ?_
    obtain ⟨v2, e, h⟩ := bind_some h
    refine v_iaload dX12_ends_18 e ?_
    refine v_iadd dX12_ends_19 ?_
    refine v_iconst (v := 1) dX12_ends_20 ci_1 ?_
    refine v_isub dX12_ends_21 ?_
    refine v_icmp_ge (tgt := 190) dX12_ends_22 (by decide) (fun c30 => ?_) (fun c30 => ?_)
    · replace h := ifP c30 h
      refine v_aload_n dX12_ends_190 rfl 0 rfl ?_
      obtain ⟨v3, e, h⟩ := bind_some h
      refine gt_X12_9 e dX12_ends_191 ?_
      refine v_bipush (v := 56) dX12_ends_194 cb_56 ?_
      refine v_iload_n dX12_ends_196 rfl 1 rfl ?_
      refine v_iadd dX12_ends_197 ?_
      refine v_dup2 dX12_ends_198 rfl rfl ?_
      obtain ⟨v4, e, h⟩ := bind_some h
      refine v_iaload dX12_ends_199 e ?_
      refine v_iconst (v := 1) dX12_ends_200 ci_1 ?_
      refine v_isub dX12_ends_201 ?_
      obtain ⟨M5, e, h⟩ := bind_some h
      refine v_iastore dX12_ends_202 e ?_
      refine v_aload_n dX12_ends_203 rfl 0 rfl ?_
      obtain ⟨v6, e, h⟩ := bind_some h
      refine gt_X12_9 e dX12_ends_204 ?_
      refine v_bipush (v := 14) dX12_ends_207 cb_14 ?_
      refine v_dup2 dX12_ends_209 rfl rfl ?_
      obtain ⟨v7, e, h⟩ := bind_some h
      refine v_iaload dX12_ends_210 e ?_
      refine v_iconst (v := 1) dX12_ends_211 ci_1 ?_
      refine v_iadd dX12_ends_212 ?_
      obtain ⟨M8, e, h⟩ := bind_some h
      refine v_iastore dX12_ends_213 e ?_
      refine v_aload_n dX12_ends_214 rfl 0 rfl ?_
      refine v_iload_n dX12_ends_215 rfl 1 rfl ?_
      obtain ⟨M9, e, h⟩ := bind_some h
      refine ca_X12_127 e dX12_ends_216 (Nat.le_of_ble_eq_true rfl) (by decide) ?_
      cases h
      exact v_vreturn dX12_ends_219
    · replace h := ifN c30 h
      refine v_aload_n dX12_ends_25 rfl 0 rfl ?_
      obtain ⟨v3, e, h⟩ := bind_some h
      refine gt_X12_9 e dX12_ends_26 ?_
      refine v_sipush (v := 554) dX12_ends_29 cs_554 ?_
      refine v_iload_n dX12_ends_32 rfl 2 rfl ?_
      refine v_iadd dX12_ends_33 ?_
      refine v_aload_n dX12_ends_34 rfl 0 rfl ?_
      obtain ⟨v4, e, h⟩ := bind_some h
      refine gt_X12_9 e dX12_ends_35 ?_
      refine v_sipush (v := 554) dX12_ends_38 cs_554 ?_
      refine v_iload_n dX12_ends_41 rfl 2 rfl ?_
      refine v_iadd dX12_ends_42 ?_
      refine v_iconst (v := 1) dX12_ends_43 ci_1 ?_
      refine v_iadd dX12_ends_44 ?_
      obtain ⟨v5, e, h⟩ := bind_some h
      refine v_iaload dX12_ends_45 e ?_
      obtain ⟨M6, e, h⟩ := bind_some h
      refine v_iastore dX12_ends_46 e ?_
      refine v_aload_n dX12_ends_47 rfl 0 rfl ?_
      obtain ⟨v7, e, h⟩ := bind_some h
      refine gt_X12_9 e dX12_ends_48 ?_
      refine v_sipush (v := 584) dX12_ends_51 cs_584 ?_
      refine v_iload_n dX12_ends_54 rfl 2 rfl ?_
      refine v_iadd dX12_ends_55 ?_
      refine v_aload_n dX12_ends_56 rfl 0 rfl ?_
      obtain ⟨v8, e, h⟩ := bind_some h
      refine gt_X12_9 e dX12_ends_57 ?_
      refine v_sipush (v := 584) dX12_ends_60 cs_584 ?_
      refine v_iload_n dX12_ends_63 rfl 2 rfl ?_
      refine v_iadd dX12_ends_64 ?_
      refine v_iconst (v := 1) dX12_ends_65 ci_1 ?_
      refine v_iadd dX12_ends_66 ?_
      obtain ⟨v9, e, h⟩ := bind_some h
      refine v_iaload dX12_ends_67 e ?_
      obtain ⟨M10, e, h⟩ := bind_some h
      refine v_iastore dX12_ends_68 e ?_
      refine v_aload_n dX12_ends_69 rfl 0 rfl ?_
      obtain ⟨v11, e, h⟩ := bind_some h
      refine gt_X12_9 e dX12_ends_70 ?_
      refine v_sipush (v := 614) dX12_ends_73 cs_614 ?_
      refine v_iload_n dX12_ends_76 rfl 2 rfl ?_
      refine v_iadd dX12_ends_77 ?_
      refine v_aload_n dX12_ends_78 rfl 0 rfl ?_
      obtain ⟨v12, e, h⟩ := bind_some h
      refine gt_X12_9 e dX12_ends_79 ?_
      refine v_sipush (v := 614) dX12_ends_82 cs_614 ?_
      refine v_iload_n dX12_ends_85 rfl 2 rfl ?_
      refine v_iadd dX12_ends_86 ?_
      refine v_iconst (v := 1) dX12_ends_87 ci_1 ?_
      refine v_iadd dX12_ends_88 ?_
      obtain ⟨v13, e, h⟩ := bind_some h
      refine v_iaload dX12_ends_89 e ?_
      obtain ⟨M14, e, h⟩ := bind_some h
      refine v_iastore dX12_ends_90 e ?_
      refine v_aload_n dX12_ends_91 rfl 0 rfl ?_
      obtain ⟨v15, e, h⟩ := bind_some h
      refine gt_X12_9 e dX12_ends_92 ?_
      refine v_sipush (v := 644) dX12_ends_95 cs_644 ?_
      refine v_iload_n dX12_ends_98 rfl 2 rfl ?_
      refine v_iadd dX12_ends_99 ?_
      refine v_aload_n dX12_ends_100 rfl 0 rfl ?_
      obtain ⟨v16, e, h⟩ := bind_some h
      refine gt_X12_9 e dX12_ends_101 ?_
      refine v_sipush (v := 644) dX12_ends_104 cs_644 ?_
      refine v_iload_n dX12_ends_107 rfl 2 rfl ?_
      refine v_iadd dX12_ends_108 ?_
      refine v_iconst (v := 1) dX12_ends_109 ci_1 ?_
      refine v_iadd dX12_ends_110 ?_
      obtain ⟨v17, e, h⟩ := bind_some h
      refine v_iaload dX12_ends_111 e ?_
      obtain ⟨M18, e, h⟩ := bind_some h
      refine v_iastore dX12_ends_112 e ?_
      refine v_aload_n dX12_ends_113 rfl 0 rfl ?_
      obtain ⟨v19, e, h⟩ := bind_some h
      refine gt_X12_9 e dX12_ends_114 ?_
      refine v_sipush (v := 674) dX12_ends_117 cs_674 ?_
      refine v_iload_n dX12_ends_120 rfl 2 rfl ?_
      refine v_iadd dX12_ends_121 ?_
      refine v_aload_n dX12_ends_122 rfl 0 rfl ?_
      obtain ⟨v20, e, h⟩ := bind_some h
      refine gt_X12_9 e dX12_ends_123 ?_
      refine v_sipush (v := 674) dX12_ends_126 cs_674 ?_
      refine v_iload_n dX12_ends_129 rfl 2 rfl ?_
      refine v_iadd dX12_ends_130 ?_
      refine v_iconst (v := 1) dX12_ends_131 ci_1 ?_
      refine v_iadd dX12_ends_132 ?_
      obtain ⟨v21, e, h⟩ := bind_some h
      refine v_iaload dX12_ends_133 e ?_
      obtain ⟨M22, e, h⟩ := bind_some h
      refine v_iastore dX12_ends_134 e ?_
      refine v_aload_n dX12_ends_135 rfl 0 rfl ?_
      obtain ⟨v23, e, h⟩ := bind_some h
      refine gt_X12_9 e dX12_ends_136 ?_
      refine v_sipush (v := 704) dX12_ends_139 cs_704 ?_
      refine v_iload_n dX12_ends_142 rfl 2 rfl ?_
      refine v_iadd dX12_ends_143 ?_
      refine v_aload_n dX12_ends_144 rfl 0 rfl ?_
      obtain ⟨v24, e, h⟩ := bind_some h
      refine gt_X12_9 e dX12_ends_145 ?_
      refine v_sipush (v := 704) dX12_ends_148 cs_704 ?_
      refine v_iload_n dX12_ends_151 rfl 2 rfl ?_
      refine v_iadd dX12_ends_152 ?_
      refine v_iconst (v := 1) dX12_ends_153 ci_1 ?_
      refine v_iadd dX12_ends_154 ?_
      obtain ⟨v25, e, h⟩ := bind_some h
      refine v_iaload dX12_ends_155 e ?_
      obtain ⟨M26, e, h⟩ := bind_some h
      refine v_iastore dX12_ends_156 e ?_
      refine v_aload_n dX12_ends_157 rfl 0 rfl ?_
      obtain ⟨v27, e, h⟩ := bind_some h
      refine gt_X12_13 e dX12_ends_158 ?_
      refine v_sipush (v := 168) dX12_ends_161 cs_168 ?_
      refine v_iconst (v := 4) dX12_ends_164 ci_4 ?_
      refine v_iload_n dX12_ends_165 rfl 2 rfl ?_
      refine v_iconst (v := 1) dX12_ends_166 ci_1 ?_
      refine v_iadd dX12_ends_167 ?_
      refine v_imul dX12_ends_168 ?_
      refine v_iadd dX12_ends_169 ?_
      refine v_aload_n dX12_ends_170 rfl 0 rfl ?_
      obtain ⟨v28, e, h⟩ := bind_some h
      refine gt_X12_13 e dX12_ends_171 ?_
      refine v_sipush (v := 168) dX12_ends_174 cs_168 ?_
      refine v_iconst (v := 4) dX12_ends_177 ci_4 ?_
      refine v_iload_n dX12_ends_178 rfl 2 rfl ?_
      refine v_imul dX12_ends_179 ?_
      refine v_iadd dX12_ends_180 ?_
      obtain ⟨M29, e, h⟩ := bind_some h
      refine ca_X12_97 e dX12_ends_181 (Nat.le_of_ble_eq_true rfl) (by decide) ?_
      refine v_iinc (ls' := [(3, .int (l3 + 1)), (0, .ref l0), (1, .int l1)]) dX12_ends_184 2 rfl (v := 1) ci_1 (by decide) rfl ?_
      refine v_goto (tgt := 6) dX12_ends_187 (by decide) ?_
      refine v_sub [1, 2, 0] rfl ?_
      exact ih l0 l1 (l3 + 1) M29 h
set_option maxHeartbeats 4000000 in
set_option maxRecDepth 100000 in
theorem w_X12_ends {G : Gl} {ρ0 : Nat → Nat} {M0 MF : Mem} {r : Unit} (l0 : Nat) (l1 : Int32) (l2 : Int32) (M : Mem) (h : f_X12_ends l0 l1 l2 M = some MF) : V G (RX12, cX12_ends, none, 5, 131, 4, "ends", []) (ρ0, M0, cvV r, MF) 0 [(0, .ref l0), (1, .int l1), (2, .int l2)] [] M := by
  unfold f_X12_ends at h
  replace h := (ifS h).2
  refine v_iconst (v := 5) dX12_ends_0 ci_5 ?_
  refine v_iload_n dX12_ends_1 rfl 1 rfl ?_
  refine v_imul dX12_ends_2 ?_
  refine v_iload_n dX12_ends_3 rfl 2 rfl ?_
  refine v_iadd dX12_ends_4 ?_
  refine v_istore_n (ls' := [(3, .int (((5 : Int32) * l1) + l2)), (0, .ref l0), (1, .int l1), (2, .int l2)]) dX12_ends_5 rfl (by decide) rfl ?_
  refine v_sub [1, 2, 0] rfl ?_
  exact w_X12_ends_L6 FU l0 l1 (((5 : Int32) * l1) + l2) M h
theorem kd_X12_ends {l0 : Nat} {l1 : Int32} {l2 : Int32} {M : Mem} {z : _} (h : f_X12_ends l0 l1 l2 M = some z) : (mK M l0).1 = 12 := by
  unfold f_X12_ends at h
  exact (ifS h).1
theorem k_X12_ends {G : Gl} {l0 : Nat} {l1 : Int32} {l2 : Int32} {M MF : Mem} (h : f_X12_ends l0 l1 l2 M = some MF) : CtrP G yX12_ends cX12_ends 4 none 5 131 [.ref l0, .int l1, .int l2] M (cvV ()) MF :=
  ctr_of (by decide +kernel) (Nat.le_of_ble_eq_true rfl) (fun ρ => w_X12_ends (r := ()) l0 l1 l2 M h)
theorem wd_X12_241 : wdV RX12 241 RX12 yX12_ends cX12_ends 4 none 2 := ⟨gwi 1512 (by decide +kernel) (by decide +kernel), gwi 1514 (by decide +kernel) (by decide +kernel), gwi 69 (by decide +kernel) (by decide +kernel), nw_X12, gwi 1515 (by decide +kernel) (by decide +kernel), ⟨rfl, by decide +kernel, by decide +kernel, by decide +kernel⟩⟩
theorem ca_X12_241 {G : Gl} {B : Bx} {cc : ByteArray} {ret : Option FieldType} {fr lo nL : Nat} {mn : String} {hh : List (Nat × Nat × Nat × Nat)} {pc : Nat} {ls : List (Nat × Value)} {st : List Value} {M M1 : Mem} {l0 : Nat} {l1 : Int32} {l2 : Int32} (e : f_X12_ends l0 l1 l2 M = some M1) (hd : decode cc pc = .ok (.invokevirtual 241, 3)) (hcat : (st.map fun v => v.category).sum ≤ 8) (hR : 5 + 1 ≤ fr ∧ 8 + (4 + 11) + 131 ≤ lo) (k : V G (RX12, cc, ret, fr, lo, nL, mn, hh) B (pc + 3) ls (st) M1) : V G (RX12, cc, ret, fr, lo, nL, mn, hh) B pc ls (.int l2 :: .int l1 :: .ref l0 :: st) M := v_callV0 (As := [.int l1, .int l2]) (k_X12_ends e) wd_X12_241 clX12 (kd_X12_ends e) hd rfl rfl hcat hR k
set_option maxHeartbeats 4000000 in
set_option maxRecDepth 100000 in
theorem w_X12_publishedAt_L5 {G : Gl} {ρ0 : Nat → Nat} {M0 MF : Mem} {r : Int32} : ∀ (n : Nat) (l0 : Nat) (l1 : Nat) (l2 : Int32) (l3 : Int32) (l4 : Int32) (M : Mem), f_X12_publishedAt_L5 n l0 l1 l2 l3 l4 M = some (r, MF) → V G (RX12, cX12_publishedAt, (some .int), 1, 25, 5, "publishedAt", []) (ρ0, M0, cvI r, MF) 5 [(0, .ref l0), (1, .ref l1), (2, .int l2), (3, .int l3), (4, .int l4)] [] M := by
  intro n
  induction n with
  | zero => intro l0 l1 l2 l3 l4 M h; cases h
  | succ n ih =>
    intro l0 l1 l2 l3 l4 M h
    rw [f_X12_publishedAt_L5] at h
    refine v_iload dX12_publishedAt_5 4 rfl ?_
    refine v_aload_n dX12_publishedAt_7 rfl 0 rfl ?_
    obtain ⟨v1, e, h⟩ := bind_some h
    refine gt_X12_9 e dX12_publishedAt_8 ?_
    refine v_bipush (v := 17) dX12_publishedAt_11 cb_17 ?_
    obtain ⟨v2, e, h⟩ := bind_some h
    refine v_iaload dX12_publishedAt_13 e ?_
    refine v_icmp_ge (tgt := 50) dX12_publishedAt_14 (by decide) (fun c7 => ?_) (fun c7 => ?_)
    · replace h := ifP c7 h
      refine v_iload_n dX12_publishedAt_50 rfl 3 rfl ?_
      cases h
      exact v_ireturn dX12_publishedAt_51
    · replace h := ifN c7 h
      refine v_aload_n dX12_publishedAt_17 rfl 0 rfl ?_
      obtain ⟨v3, e, h⟩ := bind_some h
      refine gt_X12_13 e dX12_publishedAt_18 ?_
      refine v_sipush (v := 1400) dX12_publishedAt_21 cs_1400 ?_
      refine v_iconst (v := 4) dX12_publishedAt_24 ci_4 ?_
      refine v_iload dX12_publishedAt_25 4 rfl ?_
      refine v_imul dX12_publishedAt_27 ?_
      refine v_iadd dX12_publishedAt_28 ?_
      refine v_aload_n dX12_publishedAt_29 rfl 1 rfl ?_
      refine v_iload_n dX12_publishedAt_30 rfl 2 rfl ?_
      obtain ⟨v5, M4, e, h⟩ := bindP_some h
      refine ca_X12_131 e dX12_publishedAt_31 (Nat.le_of_ble_eq_true rfl) (by decide) ?_
      refine v_if_eq (tgt := 42) dX12_publishedAt_34 (by decide) (fun c6 => ?_) (fun c6 => ?_)
      · replace h := ifP c6 h
        refine v_iload_n dX12_publishedAt_42 rfl 3 rfl ?_
        refine v_istore_n (ls' := [(3, .int l3), (0, .ref l0), (1, .ref l1), (2, .int l2), (4, .int l4)]) dX12_publishedAt_43 rfl (by decide) rfl ?_
        refine v_iinc (ls' := [(4, .int (l4 + 1)), (3, .int l3), (0, .ref l0), (1, .ref l1), (2, .int l2)]) dX12_publishedAt_44 4 rfl (v := 1) ci_1 (by decide) rfl ?_
        refine v_goto (tgt := 5) dX12_publishedAt_47 (by decide) ?_
        refine v_sub [2, 3, 4, 1, 0] rfl ?_
        exact ih l0 l1 l2 l3 (l4 + 1) M4 h
      · replace h := ifN c6 h
        refine v_iload dX12_publishedAt_37 4 rfl ?_
        refine v_goto (tgt := 43) dX12_publishedAt_39 (by decide) ?_
        refine v_istore_n (ls' := [(3, .int l4), (0, .ref l0), (1, .ref l1), (2, .int l2), (4, .int l4)]) dX12_publishedAt_43 rfl (by decide) rfl ?_
        refine v_iinc (ls' := [(4, .int (l4 + 1)), (3, .int l4), (0, .ref l0), (1, .ref l1), (2, .int l2)]) dX12_publishedAt_44 4 rfl (v := 1) ci_1 (by decide) rfl ?_
        refine v_goto (tgt := 5) dX12_publishedAt_47 (by decide) ?_
        refine v_sub [2, 3, 4, 1, 0] rfl ?_
        exact ih l0 l1 l2 l4 (l4 + 1) M4 h
set_option maxHeartbeats 4000000 in
set_option maxRecDepth 100000 in
theorem w_X12_publishedAt {G : Gl} {ρ0 : Nat → Nat} {M0 MF : Mem} {r : Int32} (l0 : Nat) (l1 : Nat) (l2 : Int32) (M : Mem) (h : f_X12_publishedAt l0 l1 l2 M = some (r, MF)) : V G (RX12, cX12_publishedAt, (some .int), 1, 25, 5, "publishedAt", []) (ρ0, M0, cvI r, MF) 0 [(0, .ref l0), (1, .ref l1), (2, .int l2)] [] M := by
  unfold f_X12_publishedAt at h
  replace h := (ifS h).2
  refine v_iconst (v := (-1)) dX12_publishedAt_0 ci_m1 ?_
  refine v_istore_n (ls' := [(3, .int (-1 : Int32)), (0, .ref l0), (1, .ref l1), (2, .int l2)]) dX12_publishedAt_1 rfl (by decide) rfl ?_
  refine v_iconst (v := 0) dX12_publishedAt_2 ci_0 ?_
  refine v_istore (ls' := [(4, .int (0 : Int32)), (3, .int (-1 : Int32)), (0, .ref l0), (1, .ref l1), (2, .int l2)]) dX12_publishedAt_3 (by decide) rfl ?_
  refine v_sub [2, 3, 4, 1, 0] rfl ?_
  exact w_X12_publishedAt_L5 FU l0 l1 l2 (-1 : Int32) (0 : Int32) M h
theorem kd_X12_publishedAt {l0 : Nat} {l1 : Nat} {l2 : Int32} {M : Mem} {z : _} (h : f_X12_publishedAt l0 l1 l2 M = some z) : (mK M l0).1 = 12 := by
  unfold f_X12_publishedAt at h
  exact (ifS h).1
theorem k_X12_publishedAt {G : Gl} {l0 : Nat} {l1 : Nat} {l2 : Int32} {M MF : Mem} {r : Int32} (h : f_X12_publishedAt l0 l1 l2 M = some (r, MF)) : CtrP G yX12_publishedAt cX12_publishedAt 5 (some .int) 1 25 [.ref l0, .ref l1, .int l2] M (cvI r) MF :=
  ctr_of (by decide +kernel) (Nat.le_of_ble_eq_true rfl) (fun ρ => w_X12_publishedAt l0 l1 l2 M h)
theorem wd_X12_135 : wdV RX12 135 RX12 yX12_publishedAt cX12_publishedAt 5 (some .int) 2 := ⟨gwi 1321 (by decide +kernel) (by decide +kernel), gwi 1323 (by decide +kernel) (by decide +kernel), gwi 38 (by decide +kernel) (by decide +kernel), nw_X12, gwi 1324 (by decide +kernel) (by decide +kernel), ⟨rfl, by decide +kernel, by decide +kernel, by decide +kernel⟩⟩
theorem ca_X12_135 {G : Gl} {B : Bx} {cc : ByteArray} {ret : Option FieldType} {fr lo nL : Nat} {mn : String} {hh : List (Nat × Nat × Nat × Nat)} {pc : Nat} {ls : List (Nat × Value)} {st : List Value} {M M1 : Mem} {l0 : Nat} {l1 : Nat} {l2 : Int32} {x : Int32} (e : f_X12_publishedAt l0 l1 l2 M = some (x, M1)) (hd : decode cc pc = .ok (.invokevirtual 135, 3)) (hcat : (st.map fun v => v.category).sum ≤ 8) (hR : 1 + 1 ≤ fr ∧ 8 + (5 + 11) + 25 ≤ lo) (k : V G (RX12, cc, ret, fr, lo, nL, mn, hh) B (pc + 3) ls (.int x :: st) M1) : V G (RX12, cc, ret, fr, lo, nL, mn, hh) B pc ls (.int l2 :: .ref l1 :: .ref l0 :: st) M := v_callVi (As := [.ref l1, .int l2]) (k_X12_publishedAt e) wd_X12_135 clX12 (kd_X12_publishedAt e) hd rfl rfl hcat hR k
set_option maxHeartbeats 4000000 in
set_option maxRecDepth 100000 in
theorem w_X12_counts_J64 {G : Gl} {ρ0 : Nat → Nat} {M0 MF : Mem} {r : Unit} (l0 : Nat) (l1 : Int32) (M : Mem) (h : f_X12_counts_J64 l0 l1 M = some MF) : V G (RX12, cX12_counts, none, 2, 49, 2, "counts", []) (ρ0, M0, cvV r, MF) 64 [(0, .ref l0), (1, .int l1)] [] M := by
  unfold f_X12_counts_J64 at h
  refine v_aload_n dX12_counts_64 rfl 0 rfl ?_
  obtain ⟨v1, e, h⟩ := bind_some h
  refine gt_X12_9 e dX12_counts_65 ?_
  refine v_sipush (v := 2118) dX12_counts_68 cs_2118 ?_
  refine v_iload_n dX12_counts_71 rfl 1 rfl ?_
  refine v_iadd dX12_counts_72 ?_
  refine v_dup2 dX12_counts_73 rfl rfl ?_
  obtain ⟨v2, e, h⟩ := bind_some h
  refine v_iaload dX12_counts_74 e ?_
  refine v_iconst (v := 1) dX12_counts_75 ci_1 ?_
  refine v_iadd dX12_counts_76 ?_
  obtain ⟨M3, e, h⟩ := bind_some h
  refine v_iastore dX12_counts_77 e ?_
  refine v_aload_n dX12_counts_78 rfl 0 rfl ?_
  obtain ⟨v4, e, h⟩ := bind_some h
  refine gt_X12_9 e dX12_counts_79 ?_
  refine v_iconst (v := 5) dX12_counts_82 ci_5 ?_
  refine v_dup2 dX12_counts_83 rfl rfl ?_
  obtain ⟨v5, e, h⟩ := bind_some h
  refine v_iaload dX12_counts_84 e ?_
  refine v_iconst (v := 1) dX12_counts_85 ci_1 ?_
  refine v_iadd dX12_counts_86 ?_
  obtain ⟨M6, e, h⟩ := bind_some h
  refine v_iastore dX12_counts_87 e ?_
  cases h
  exact v_vreturn dX12_counts_88
set_option maxHeartbeats 4000000 in
set_option maxRecDepth 100000 in
theorem w_X12_counts {G : Gl} {ρ0 : Nat → Nat} {M0 MF : Mem} {r : Unit} (l0 : Nat) (M : Mem) (h : f_X12_counts l0 M = some MF) : V G (RX12, cX12_counts, none, 2, 49, 2, "counts", []) (ρ0, M0, cvV r, MF) 0 [(0, .ref l0)] [] M := by
  unfold f_X12_counts at h
  replace h := (ifS h).2
  refine v_aload_n dX12_counts_0 rfl 0 rfl ?_
  refine v_aload_n dX12_counts_1 rfl 0 rfl ?_
  obtain ⟨v1, e, h⟩ := bind_some h
  refine gt_X12_40 e dX12_counts_2 ?_
  refine v_iconst (v := 0) dX12_counts_5 ci_0 ?_
  obtain ⟨v3, M2, e, h⟩ := bindP_some h
  refine ca_X12_135 e dX12_counts_6 (Nat.le_of_ble_eq_true rfl) (by decide) ?_
  refine v_istore_n (ls' := [(1, .int v3), (0, .ref l0)]) dX12_counts_9 rfl (by decide) rfl ?_
  refine v_iload_n dX12_counts_10 rfl 0 rfl ?_
  refine v_iconst (v := (-1)) dX12_counts_11 ci_m1 ?_
  refine v_icmp_ne (tgt := 64) dX12_counts_12 (by decide) (fun c14 => ?_) (fun c14 => ?_)
  · replace h := ifN c14 h
    refine v_sub [1, 0] rfl ?_
    exact w_X12_counts_J64 l0 v3 M2 h
  · replace h := ifP c14 h
    refine v_aload_n dX12_counts_15 rfl 1 rfl ?_
    obtain ⟨v4, e, h⟩ := bind_some h
    refine gt_X12_9 e dX12_counts_16 ?_
    refine v_bipush (v := 17) dX12_counts_19 cb_17 ?_
    obtain ⟨v5, e, h⟩ := bind_some h
    refine v_iaload dX12_counts_21 e ?_
    refine v_istore_n (ls' := [(1, .int v5), (0, .ref l0)]) dX12_counts_22 rfl (by decide) rfl ?_
    refine v_aload_n dX12_counts_23 rfl 1 rfl ?_
    obtain ⟨v6, e, h⟩ := bind_some h
    refine gt_X12_40 e dX12_counts_24 ?_
    refine v_iconst (v := 0) dX12_counts_27 ci_0 ?_
    refine v_aload_n dX12_counts_28 rfl 1 rfl ?_
    obtain ⟨v7, e, h⟩ := bind_some h
    refine gt_X12_13 e dX12_counts_29 ?_
    refine v_sipush (v := 1400) dX12_counts_32 cs_1400 ?_
    refine v_iconst (v := 4) dX12_counts_35 ci_4 ?_
    refine v_iload_n dX12_counts_36 rfl 0 rfl ?_
    refine v_imul dX12_counts_37 ?_
    refine v_iadd dX12_counts_38 ?_
    obtain ⟨M8, e, h⟩ := bind_some h
    refine ca_X12_97 e dX12_counts_39 (Nat.le_of_ble_eq_true rfl) (by decide) ?_
    refine v_aload_n dX12_counts_42 rfl 1 rfl ?_
    obtain ⟨v9, e, h⟩ := bind_some h
    refine gt_X12_9 e dX12_counts_43 ?_
    refine v_sipush (v := 2118) dX12_counts_46 cs_2118 ?_
    refine v_iload_n dX12_counts_49 rfl 0 rfl ?_
    refine v_iadd dX12_counts_50 ?_
    refine v_iconst (v := 0) dX12_counts_51 ci_0 ?_
    obtain ⟨M10, e, h⟩ := bind_some h
    refine v_iastore dX12_counts_52 e ?_
    refine v_aload_n dX12_counts_53 rfl 1 rfl ?_
    obtain ⟨v11, e, h⟩ := bind_some h
    refine gt_X12_9 e dX12_counts_54 ?_
    refine v_bipush (v := 17) dX12_counts_57 cb_17 ?_
    refine v_dup2 dX12_counts_59 rfl rfl ?_
    obtain ⟨v12, e, h⟩ := bind_some h
    refine v_iaload dX12_counts_60 e ?_
    refine v_iconst (v := 1) dX12_counts_61 ci_1 ?_
    refine v_iadd dX12_counts_62 ?_
    obtain ⟨M13, e, h⟩ := bind_some h
    refine v_iastore dX12_counts_63 e ?_
    refine v_sub [1, 0] rfl ?_
    exact w_X12_counts_J64 l0 v5 M13 h
theorem kd_X12_counts {l0 : Nat} {M : Mem} {z : _} (h : f_X12_counts l0 M = some z) : (mK M l0).1 = 12 := by
  unfold f_X12_counts at h
  exact (ifS h).1
theorem k_X12_counts {G : Gl} {l0 : Nat} {M MF : Mem} (h : f_X12_counts l0 M = some MF) : CtrP G yX12_counts cX12_counts 2 none 2 49 [.ref l0] M (cvV ()) MF :=
  ctr_of (by decide +kernel) (Nat.le_of_ble_eq_true rfl) (fun ρ => w_X12_counts (r := ()) l0 M h)
theorem wd_X12_150 : wdV RX12 150 RX12 yX12_counts cX12_counts 2 none 0 := ⟨gwi 1317 (by decide +kernel) (by decide +kernel), gwi 1319 (by decide +kernel) (by decide +kernel), gwi 37 (by decide +kernel) (by decide +kernel), nw_X12, gwi 1320 (by decide +kernel) (by decide +kernel), ⟨rfl, by decide +kernel, by decide +kernel, by decide +kernel⟩⟩
theorem ca_X12_150 {G : Gl} {B : Bx} {cc : ByteArray} {ret : Option FieldType} {fr lo nL : Nat} {mn : String} {hh : List (Nat × Nat × Nat × Nat)} {pc : Nat} {ls : List (Nat × Value)} {st : List Value} {M M1 : Mem} {l0 : Nat} (e : f_X12_counts l0 M = some M1) (hd : decode cc pc = .ok (.invokevirtual 150, 3)) (hcat : (st.map fun v => v.category).sum ≤ 8) (hR : 2 + 1 ≤ fr ∧ 8 + (2 + 11) + 49 ≤ lo) (k : V G (RX12, cc, ret, fr, lo, nL, mn, hh) B (pc + 3) ls (st) M1) : V G (RX12, cc, ret, fr, lo, nL, mn, hh) B pc ls (.ref l0 :: st) M := v_callV0 (As := []) (k_X12_counts e) wd_X12_150 clX12 (kd_X12_counts e) hd rfl rfl hcat hR k
set_option maxHeartbeats 4000000 in
set_option maxRecDepth 100000 in
theorem w_X12_forgetsRetained_L2 {G : Gl} {ρ0 : Nat → Nat} {M0 MF : Mem} {r : Unit} : ∀ (n : Nat) (l0 : Nat) (l2 : Int32) (M : Mem), f_X12_forgetsRetained_L2 n l0 l2 M = some MF → V G (RX12, cX12_forgetsRetained, none, 1, 24, 3, "forgetsRetained", []) (ρ0, M0, cvV r, MF) 2 [(0, .ref l0), (2, .int l2)] [] M := by
  intro n
  induction n with
  | zero => intro l0 l2 M h; cases h
  | succ n ih =>
    intro l0 l2 M h
    rw [f_X12_forgetsRetained_L2] at h
    refine v_iload_n dX12_forgetsRetained_2 rfl 1 rfl ?_
    refine v_aload_n dX12_forgetsRetained_3 rfl 0 rfl ?_
    obtain ⟨v1, e, h⟩ := bind_some h
    refine gt_X12_9 e dX12_forgetsRetained_4 ?_
    refine v_bipush (v := 15) dX12_forgetsRetained_7 cb_15 ?_
    obtain ⟨v2, e, h⟩ := bind_some h
    refine v_iaload dX12_forgetsRetained_9 e ?_
    refine v_iconst (v := 1) dX12_forgetsRetained_10 ci_1 ?_
    refine v_isub dX12_forgetsRetained_11 ?_
    refine v_icmp_ge (tgt := 92) dX12_forgetsRetained_12 (by decide) (fun c14 => ?_) (fun c14 => ?_)
    · replace h := ifP c14 h
      refine v_aload_n dX12_forgetsRetained_92 rfl 0 rfl ?_
      obtain ⟨v3, e, h⟩ := bind_some h
      refine gt_X12_9 e dX12_forgetsRetained_93 ?_
      refine v_bipush (v := 15) dX12_forgetsRetained_96 cb_15 ?_
      refine v_dup2 dX12_forgetsRetained_98 rfl rfl ?_
      obtain ⟨v4, e, h⟩ := bind_some h
      refine v_iaload dX12_forgetsRetained_99 e ?_
      refine v_iconst (v := 1) dX12_forgetsRetained_100 ci_1 ?_
      refine v_isub dX12_forgetsRetained_101 ?_
      obtain ⟨M5, e, h⟩ := bind_some h
      refine v_iastore dX12_forgetsRetained_102 e ?_
      cases h
      exact v_vreturn dX12_forgetsRetained_103
    · replace h := ifN c14 h
      refine v_aload_n dX12_forgetsRetained_15 rfl 0 rfl ?_
      obtain ⟨v3, e, h⟩ := bind_some h
      refine gt_X12_9 e dX12_forgetsRetained_16 ?_
      refine v_sipush (v := 1778) dX12_forgetsRetained_19 cs_1778 ?_
      refine v_iload_n dX12_forgetsRetained_22 rfl 1 rfl ?_
      refine v_iadd dX12_forgetsRetained_23 ?_
      refine v_aload_n dX12_forgetsRetained_24 rfl 0 rfl ?_
      obtain ⟨v4, e, h⟩ := bind_some h
      refine gt_X12_9 e dX12_forgetsRetained_25 ?_
      refine v_sipush (v := 1778) dX12_forgetsRetained_28 cs_1778 ?_
      refine v_iload_n dX12_forgetsRetained_31 rfl 1 rfl ?_
      refine v_iadd dX12_forgetsRetained_32 ?_
      refine v_iconst (v := 1) dX12_forgetsRetained_33 ci_1 ?_
      refine v_iadd dX12_forgetsRetained_34 ?_
      obtain ⟨v5, e, h⟩ := bind_some h
      refine v_iaload dX12_forgetsRetained_35 e ?_
      obtain ⟨M6, e, h⟩ := bind_some h
      refine v_iastore dX12_forgetsRetained_36 e ?_
      refine v_aload_n dX12_forgetsRetained_37 rfl 0 rfl ?_
      obtain ⟨v7, e, h⟩ := bind_some h
      refine gt_X12_9 e dX12_forgetsRetained_38 ?_
      refine v_sipush (v := 1786) dX12_forgetsRetained_41 cs_1786 ?_
      refine v_iload_n dX12_forgetsRetained_44 rfl 1 rfl ?_
      refine v_iadd dX12_forgetsRetained_45 ?_
      refine v_aload_n dX12_forgetsRetained_46 rfl 0 rfl ?_
      obtain ⟨v8, e, h⟩ := bind_some h
      refine gt_X12_9 e dX12_forgetsRetained_47 ?_
      refine v_sipush (v := 1786) dX12_forgetsRetained_50 cs_1786 ?_
      refine v_iload_n dX12_forgetsRetained_53 rfl 1 rfl ?_
      refine v_iadd dX12_forgetsRetained_54 ?_
      refine v_iconst (v := 1) dX12_forgetsRetained_55 ci_1 ?_
      refine v_iadd dX12_forgetsRetained_56 ?_
      obtain ⟨v9, e, h⟩ := bind_some h
      refine v_iaload dX12_forgetsRetained_57 e ?_
      obtain ⟨M10, e, h⟩ := bind_some h
      refine v_iastore dX12_forgetsRetained_58 e ?_
      refine v_aload_n dX12_forgetsRetained_59 rfl 0 rfl ?_
      obtain ⟨v11, e, h⟩ := bind_some h
      refine gt_X12_13 e dX12_forgetsRetained_60 ?_
      refine v_sipush (v := 1224) dX12_forgetsRetained_63 cs_1224 ?_
      refine v_iconst (v := 4) dX12_forgetsRetained_66 ci_4 ?_
      refine v_iload_n dX12_forgetsRetained_67 rfl 1 rfl ?_
      refine v_iconst (v := 1) dX12_forgetsRetained_68 ci_1 ?_
      refine v_iadd dX12_forgetsRetained_69 ?_
      refine v_imul dX12_forgetsRetained_70 ?_
      refine v_iadd dX12_forgetsRetained_71 ?_
      refine v_aload_n dX12_forgetsRetained_72 rfl 0 rfl ?_
      obtain ⟨v12, e, h⟩ := bind_some h
      refine gt_X12_13 e dX12_forgetsRetained_73 ?_
      refine v_sipush (v := 1224) dX12_forgetsRetained_76 cs_1224 ?_
      refine v_iconst (v := 4) dX12_forgetsRetained_79 ci_4 ?_
      refine v_iload_n dX12_forgetsRetained_80 rfl 1 rfl ?_
      refine v_imul dX12_forgetsRetained_81 ?_
      refine v_iadd dX12_forgetsRetained_82 ?_
      obtain ⟨M13, e, h⟩ := bind_some h
      refine ca_X12_97 e dX12_forgetsRetained_83 (Nat.le_of_ble_eq_true rfl) (by decide) ?_
      refine v_iinc (ls' := [(2, .int (l2 + 1)), (0, .ref l0)]) dX12_forgetsRetained_86 1 rfl (v := 1) ci_1 (by decide) rfl ?_
      refine v_goto (tgt := 2) dX12_forgetsRetained_89 (by decide) ?_
      refine v_sub [1, 0] rfl ?_
      exact ih l0 (l2 + 1) M13 h
set_option maxHeartbeats 4000000 in
set_option maxRecDepth 100000 in
theorem w_X12_forgetsRetained {G : Gl} {ρ0 : Nat → Nat} {M0 MF : Mem} {r : Unit} (l0 : Nat) (l1 : Int32) (M : Mem) (h : f_X12_forgetsRetained l0 l1 M = some MF) : V G (RX12, cX12_forgetsRetained, none, 1, 24, 3, "forgetsRetained", []) (ρ0, M0, cvV r, MF) 0 [(0, .ref l0), (1, .int l1)] [] M := by
  unfold f_X12_forgetsRetained at h
  replace h := (ifS h).2
  refine v_iload_n dX12_forgetsRetained_0 rfl 1 rfl ?_
  refine v_istore_n (ls' := [(2, .int l1), (0, .ref l0), (1, .int l1)]) dX12_forgetsRetained_1 rfl (by decide) rfl ?_
  refine v_sub [1, 0] rfl ?_
  exact w_X12_forgetsRetained_L2 FU l0 l1 M h
theorem kd_X12_forgetsRetained {l0 : Nat} {l1 : Int32} {M : Mem} {z : _} (h : f_X12_forgetsRetained l0 l1 M = some z) : (mK M l0).1 = 12 := by
  unfold f_X12_forgetsRetained at h
  exact (ifS h).1
theorem k_X12_forgetsRetained {G : Gl} {l0 : Nat} {l1 : Int32} {M MF : Mem} (h : f_X12_forgetsRetained l0 l1 M = some MF) : CtrP G yX12_forgetsRetained cX12_forgetsRetained 3 none 1 24 [.ref l0, .int l1] M (cvV ()) MF :=
  ctr_of (by decide +kernel) (Nat.le_of_ble_eq_true rfl) (fun ρ => w_X12_forgetsRetained (r := ()) l0 l1 M h)
theorem wd_X12_141 : wdV RX12 141 RX12 yX12_forgetsRetained cX12_forgetsRetained 3 none 1 := ⟨gwi 1332 (by decide +kernel) (by decide +kernel), gwi 1334 (by decide +kernel) (by decide +kernel), gwi 40 (by decide +kernel) (by decide +kernel), nw_X12, gwi 1335 (by decide +kernel) (by decide +kernel), ⟨rfl, by decide +kernel, by decide +kernel, by decide +kernel⟩⟩
theorem ca_X12_141 {G : Gl} {B : Bx} {cc : ByteArray} {ret : Option FieldType} {fr lo nL : Nat} {mn : String} {hh : List (Nat × Nat × Nat × Nat)} {pc : Nat} {ls : List (Nat × Value)} {st : List Value} {M M1 : Mem} {l0 : Nat} {l1 : Int32} (e : f_X12_forgetsRetained l0 l1 M = some M1) (hd : decode cc pc = .ok (.invokevirtual 141, 3)) (hcat : (st.map fun v => v.category).sum ≤ 8) (hR : 1 + 1 ≤ fr ∧ 8 + (3 + 11) + 24 ≤ lo) (k : V G (RX12, cc, ret, fr, lo, nL, mn, hh) B (pc + 3) ls (st) M1) : V G (RX12, cc, ret, fr, lo, nL, mn, hh) B pc ls (.int l1 :: .ref l0 :: st) M := v_callV0 (As := [.int l1]) (k_X12_forgetsRetained e) wd_X12_141 clX12 (kd_X12_forgetsRetained e) hd rfl rfl hcat hR k
set_option maxHeartbeats 4000000 in
set_option maxRecDepth 100000 in
theorem w_X12_retains_J235 {G : Gl} {ρ0 : Nat → Nat} {M0 MF : Mem} {r : Unit} (l0 : Nat) (l1 : Int32) (l2 : Int32) (l3 : Int32) (s0 : Int32) (s1 : Int32) (s2 : Int32) (s3 : Nat) (M : Mem) (h : f_X12_retains_J235 l0 l1 l2 l3 s0 s1 s2 s3 M = some MF) : V G (RX12, cX12_retains, none, 2, 46, 6, "retains", []) (ρ0, M0, cvV r, MF) 235 [(0, .ref l0), (1, .int l1), (2, .int l2), (3, .int l3)] [.int s0, .int s1, .int s2, .ref s3] M := by
  unfold f_X12_retains_J235 at h
  refine v_iadd dX12_retains_235 ?_
  obtain ⟨M1, e, h⟩ := bind_some h
  refine v_iastore dX12_retains_236 e ?_
  refine v_aload_n dX12_retains_237 rfl 0 rfl ?_
  obtain ⟨v2, e, h⟩ := bind_some h
  refine gt_X12_9 e dX12_retains_238 ?_
  refine v_sipush (v := 1778) dX12_retains_241 cs_1778 ?_
  refine v_iload_n dX12_retains_244 rfl 3 rfl ?_
  refine v_iadd dX12_retains_245 ?_
  refine v_iload_n dX12_retains_246 rfl 1 rfl ?_
  obtain ⟨M3, e, h⟩ := bind_some h
  refine v_iastore dX12_retains_247 e ?_
  refine v_aload_n dX12_retains_248 rfl 0 rfl ?_
  obtain ⟨v4, e, h⟩ := bind_some h
  refine gt_X12_9 e dX12_retains_249 ?_
  refine v_sipush (v := 1786) dX12_retains_252 cs_1786 ?_
  refine v_iload_n dX12_retains_255 rfl 3 rfl ?_
  refine v_iadd dX12_retains_256 ?_
  refine v_iload_n dX12_retains_257 rfl 2 rfl ?_
  obtain ⟨M5, e, h⟩ := bind_some h
  refine v_iastore dX12_retains_258 e ?_
  refine v_aload_n dX12_retains_259 rfl 0 rfl ?_
  obtain ⟨v6, e, h⟩ := bind_some h
  refine gt_X12_40 e dX12_retains_260 ?_
  refine v_iconst (v := 0) dX12_retains_263 ci_0 ?_
  refine v_aload_n dX12_retains_264 rfl 0 rfl ?_
  obtain ⟨v7, e, h⟩ := bind_some h
  refine gt_X12_13 e dX12_retains_265 ?_
  refine v_sipush (v := 1224) dX12_retains_268 cs_1224 ?_
  refine v_iconst (v := 4) dX12_retains_271 ci_4 ?_
  refine v_iload_n dX12_retains_272 rfl 3 rfl ?_
  refine v_imul dX12_retains_273 ?_
  refine v_iadd dX12_retains_274 ?_
  obtain ⟨M8, e, h⟩ := bind_some h
  refine ca_X12_97 e dX12_retains_275 (Nat.le_of_ble_eq_true rfl) (by decide) ?_
  cases h
  exact v_vreturn dX12_retains_278
set_option maxHeartbeats 4000000 in
set_option maxRecDepth 100000 in
theorem w_X12_retains_J217 {G : Gl} {ρ0 : Nat → Nat} {M0 MF : Mem} {r : Unit} (l0 : Nat) (l1 : Int32) (l2 : Int32) (l3 : Int32) (l4 : Int32) (M : Mem) (h : f_X12_retains_J217 l0 l1 l2 l3 l4 M = some MF) : V G (RX12, cX12_retains, none, 2, 46, 6, "retains", []) (ρ0, M0, cvV r, MF) 217 [(0, .ref l0), (1, .int l1), (2, .int l2), (3, .int l3), (4, .int l4)] [] M := by
  unfold f_X12_retains_J217 at h
  refine v_aload_n dX12_retains_217 rfl 0 rfl ?_
  obtain ⟨v1, e, h⟩ := bind_some h
  refine gt_X12_9 e dX12_retains_218 ?_
  refine v_bipush (v := 15) dX12_retains_221 cb_15 ?_
  refine v_dup2 dX12_retains_223 rfl rfl ?_
  obtain ⟨v2, e, h⟩ := bind_some h
  refine v_iaload dX12_retains_224 e ?_
  refine v_iload dX12_retains_225 4 rfl ?_
  refine v_if_eq (tgt := 234) dX12_retains_227 (by decide) (fun c3 => ?_) (fun c3 => ?_)
  · replace h := ifP c3 h
    refine v_iconst (v := 1) dX12_retains_234 ci_1 ?_
    refine v_sub [0, 1, 2, 3] rfl ?_
    exact w_X12_retains_J235 l0 l1 l2 l3 (1 : Int32) v2 (15 : Int32) v1 M h
  · replace h := ifN c3 h
    refine v_iconst (v := 0) dX12_retains_230 ci_0 ?_
    refine v_goto (tgt := 235) dX12_retains_231 (by decide) ?_
    refine v_sub [0, 1, 2, 3] rfl ?_
    exact w_X12_retains_J235 l0 l1 l2 l3 (0 : Int32) v2 (15 : Int32) v1 M h
set_option maxHeartbeats 4000000 in
set_option maxRecDepth 100000 in
theorem w_X12_retains_L123 {G : Gl} {ρ0 : Nat → Nat} {M0 MF : Mem} {r : Unit} : ∀ (n : Nat) (l0 : Nat) (l1 : Int32) (l2 : Int32) (l3 : Int32) (l4 : Int32) (l5 : Int32) (M : Mem), f_X12_retains_L123 n l0 l1 l2 l3 l4 l5 M = some MF → V G (RX12, cX12_retains, none, 2, 46, 6, "retains", []) (ρ0, M0, cvV r, MF) 123 [(0, .ref l0), (1, .int l1), (2, .int l2), (3, .int l3), (4, .int l4), (5, .int l5)] [] M := by
  intro n
  induction n with
  | zero => intro l0 l1 l2 l3 l4 l5 M h; cases h
  | succ n ih =>
    intro l0 l1 l2 l3 l4 l5 M h
    rw [f_X12_retains_L123] at h
    refine v_iload dX12_retains_123 4 rfl ?_
    refine v_if_ne (tgt := 217) dX12_retains_125 (by decide) (fun c13 => ?_) (fun c13 => ?_)
    · replace h := ifN c13 h
      refine v_sub [0, 1, 2, 3, 4] rfl ?_
      exact w_X12_retains_J217 l0 l1 l2 l3 l4 M h
    · replace h := ifP c13 h
      refine v_iload dX12_retains_128 5 rfl ?_
      refine v_iload_n dX12_retains_130 rfl 3 rfl ?_
      refine v_icmp_le (tgt := 217) dX12_retains_131 (by decide) (fun c12 => ?_) (fun c12 => ?_)
      · replace h := ifP c12 h
        refine v_sub [0, 1, 2, 3, 4] rfl ?_
        exact w_X12_retains_J217 l0 l1 l2 l3 l4 M h
      · replace h := ifN c12 h
        refine v_aload_n dX12_retains_134 rfl 0 rfl ?_
        obtain ⟨v1, e, h⟩ := bind_some h
        refine gt_X12_9 e dX12_retains_135 ?_
        refine v_sipush (v := 1778) dX12_retains_138 cs_1778 ?_
        refine v_iload dX12_retains_141 5 rfl ?_
        refine v_iadd dX12_retains_143 ?_
        refine v_aload_n dX12_retains_144 rfl 0 rfl ?_
        obtain ⟨v2, e, h⟩ := bind_some h
        refine gt_X12_9 e dX12_retains_145 ?_
        refine v_sipush (v := 1778) dX12_retains_148 cs_1778 ?_
        refine v_iload dX12_retains_151 5 rfl ?_
        refine v_iadd dX12_retains_153 ?_
        refine v_iconst (v := 1) dX12_retains_154 ci_1 ?_
        refine v_isub dX12_retains_155 ?_
        obtain ⟨v3, e, h⟩ := bind_some h
        refine v_iaload dX12_retains_156 e ?_
        obtain ⟨M4, e, h⟩ := bind_some h
        refine v_iastore dX12_retains_157 e ?_
        refine v_aload_n dX12_retains_158 rfl 0 rfl ?_
        obtain ⟨v5, e, h⟩ := bind_some h
        refine gt_X12_9 e dX12_retains_159 ?_
        refine v_sipush (v := 1786) dX12_retains_162 cs_1786 ?_
        refine v_iload dX12_retains_165 5 rfl ?_
        refine v_iadd dX12_retains_167 ?_
        refine v_aload_n dX12_retains_168 rfl 0 rfl ?_
        obtain ⟨v6, e, h⟩ := bind_some h
        refine gt_X12_9 e dX12_retains_169 ?_
        refine v_sipush (v := 1786) dX12_retains_172 cs_1786 ?_
        refine v_iload dX12_retains_175 5 rfl ?_
        refine v_iadd dX12_retains_177 ?_
        refine v_iconst (v := 1) dX12_retains_178 ci_1 ?_
        refine v_isub dX12_retains_179 ?_
        obtain ⟨v7, e, h⟩ := bind_some h
        refine v_iaload dX12_retains_180 e ?_
        obtain ⟨M8, e, h⟩ := bind_some h
        refine v_iastore dX12_retains_181 e ?_
        refine v_aload_n dX12_retains_182 rfl 0 rfl ?_
        obtain ⟨v9, e, h⟩ := bind_some h
        refine gt_X12_13 e dX12_retains_183 ?_
        refine v_sipush (v := 1224) dX12_retains_186 cs_1224 ?_
        refine v_iconst (v := 4) dX12_retains_189 ci_4 ?_
        refine v_iload dX12_retains_190 5 rfl ?_
        refine v_iconst (v := 1) dX12_retains_192 ci_1 ?_
        refine v_isub dX12_retains_193 ?_
        refine v_imul dX12_retains_194 ?_
        refine v_iadd dX12_retains_195 ?_
        refine v_aload_n dX12_retains_196 rfl 0 rfl ?_
        obtain ⟨v10, e, h⟩ := bind_some h
        refine gt_X12_13 e dX12_retains_197 ?_
        refine v_sipush (v := 1224) dX12_retains_200 cs_1224 ?_
        refine v_iconst (v := 4) dX12_retains_203 ci_4 ?_
        refine v_iload dX12_retains_204 5 rfl ?_
        refine v_imul dX12_retains_206 ?_
        refine v_iadd dX12_retains_207 ?_
        obtain ⟨M11, e, h⟩ := bind_some h
        refine ca_X12_97 e dX12_retains_208 (Nat.le_of_ble_eq_true rfl) (by decide) ?_
        refine v_iinc (ls' := [(5, .int (l5 + (-1))), (0, .ref l0), (1, .int l1), (2, .int l2), (3, .int l3), (4, .int l4)]) dX12_retains_211 5 rfl (v := (-1)) ci_m1 (by decide) rfl ?_
        refine v_goto (tgt := 123) dX12_retains_214 (by decide) ?_
        refine v_sub [1, 2, 3, 4, 5, 0] rfl ?_
        exact ih l0 l1 l2 l3 l4 (l5 + (-1)) M11 h
set_option maxHeartbeats 4000000 in
set_option maxRecDepth 100000 in
theorem w_X12_retains_J114 {G : Gl} {ρ0 : Nat → Nat} {M0 MF : Mem} {r : Unit} (l0 : Nat) (l1 : Int32) (l2 : Int32) (l3 : Int32) (l4 : Int32) (M : Mem) (h : f_X12_retains_J114 l0 l1 l2 l3 l4 M = some MF) : V G (RX12, cX12_retains, none, 2, 46, 6, "retains", []) (ρ0, M0, cvV r, MF) 114 [(0, .ref l0), (1, .int l1), (2, .int l2), (3, .int l3), (4, .int l4)] [] M := by
  unfold f_X12_retains_J114 at h
  refine v_aload_n dX12_retains_114 rfl 0 rfl ?_
  obtain ⟨v1, e, h⟩ := bind_some h
  refine gt_X12_9 e dX12_retains_115 ?_
  refine v_bipush (v := 15) dX12_retains_118 cb_15 ?_
  obtain ⟨v2, e, h⟩ := bind_some h
  refine v_iaload dX12_retains_120 e ?_
  refine v_istore (ls' := [(5, .int v2), (0, .ref l0), (1, .int l1), (2, .int l2), (3, .int l3), (4, .int l4)]) dX12_retains_121 (by decide) rfl ?_
  refine v_sub [1, 2, 3, 4, 5, 0] rfl ?_
  exact w_X12_retains_L123 FU l0 l1 l2 l3 l4 v2 M h
set_option maxHeartbeats 4000000 in
set_option maxRecDepth 100000 in
theorem w_X12_retains_J79 {G : Gl} {ρ0 : Nat → Nat} {M0 MF : Mem} {r : Unit} (l0 : Nat) (l1 : Int32) (l2 : Int32) (l3 : Int32) (s0 : Int32) (M : Mem) (h : f_X12_retains_J79 l0 l1 l2 l3 s0 M = some MF) : V G (RX12, cX12_retains, none, 2, 46, 6, "retains", []) (ρ0, M0, cvV r, MF) 79 [(0, .ref l0), (1, .int l1), (2, .int l2), (3, .int l3)] [.int s0] M := by
  unfold f_X12_retains_J79 at h
  refine v_istore (ls' := [(4, .int s0), (0, .ref l0), (1, .int l1), (2, .int l2), (3, .int l3)]) dX12_retains_79 (by decide) rfl ?_
  refine v_iload_n dX12_retains_81 rfl 3 rfl ?_
  refine v_if_ne (tgt := 96) dX12_retains_82 (by decide) (fun c5 => ?_) (fun c5 => ?_)
  · replace h := ifN c5 h
    refine v_iload dX12_retains_96 0 rfl ?_
    refine v_if_ne (tgt := 114) dX12_retains_98 (by decide) (fun c4 => ?_) (fun c4 => ?_)
    · replace h := ifN c4 h
      refine v_sub [1, 2, 3, 4, 0] rfl ?_
      exact w_X12_retains_J114 l0 l1 l2 l3 s0 M h
    · replace h := ifP c4 h
      refine v_aload_n dX12_retains_101 rfl 1 rfl ?_
      obtain ⟨v1, e, h⟩ := bind_some h
      refine gt_X12_9 e dX12_retains_102 ?_
      refine v_bipush (v := 15) dX12_retains_105 cb_15 ?_
      obtain ⟨v2, e, h⟩ := bind_some h
      refine v_iaload dX12_retains_107 e ?_
      refine v_bipush (v := 8) dX12_retains_108 cb_8 ?_
      refine v_icmp_ne (tgt := 114) dX12_retains_110 (by decide) (fun c3 => ?_) (fun c3 => ?_)
      · replace h := ifN c3 h
        refine v_sub [1, 2, 3, 4, 0] rfl ?_
        exact w_X12_retains_J114 l0 l1 l2 l3 s0 M h
      · replace h := ifP c3 h
        cases h
        exact v_vreturn dX12_retains_113
  · replace h := ifP c5 h
    refine v_iload dX12_retains_85 0 rfl ?_
    refine v_if_eq (tgt := 95) dX12_retains_87 (by decide) (fun c2 => ?_) (fun c2 => ?_)
    · replace h := ifP c2 h
      cases h
      exact v_vreturn dX12_retains_95
    · replace h := ifN c2 h
      refine v_aload_n dX12_retains_90 rfl 1 rfl ?_
      refine v_iload_n dX12_retains_91 rfl 4 rfl ?_
      obtain ⟨M1, e, h⟩ := bind_some h
      refine ca_X12_141 e dX12_retains_92 (Nat.le_of_ble_eq_true rfl) (by decide) ?_
      cases h
      exact v_vreturn dX12_retains_95
theorem w_X12_retains_J78 {G : Gl} {ρ0 : Nat → Nat} {M0 MF : Mem} {r : Unit} (l0 : Nat) (l1 : Int32) (l2 : Int32) (l3 : Int32) (M : Mem) (h : f_X12_retains_J78 l0 l1 l2 l3 M = some MF) : V G (RX12, cX12_retains, none, 2, 46, 6, "retains", []) (ρ0, M0, cvV r, MF) 78 [(0, .ref l0), (1, .int l1), (2, .int l2), (3, .int l3)] [] M := by
  unfold f_X12_retains_J78 at h
  refine v_iconst (v := 0) dX12_retains_78 ci_0 ?_
  exact w_X12_retains_J79 l0 l1 l2 l3 (0 : Int32) M h
set_option maxHeartbeats 4000000 in
set_option maxRecDepth 100000 in
theorem w_X12_retains_J41 {G : Gl} {ρ0 : Nat → Nat} {M0 MF : Mem} {r : Unit} (l0 : Nat) (l1 : Int32) (l2 : Int32) (l3 : Int32) (M : Mem) (h : f_X12_retains_J41 l0 l1 l2 l3 M = some MF) : V G (RX12, cX12_retains, none, 2, 46, 6, "retains", []) (ρ0, M0, cvV r, MF) 41 [(0, .ref l0), (1, .int l1), (2, .int l2), (3, .int l3)] [] M := by
  unfold f_X12_retains_J41 at h
  refine v_iload_n dX12_retains_41 rfl 3 rfl ?_
  refine v_aload_n dX12_retains_42 rfl 0 rfl ?_
  obtain ⟨v1, e, h⟩ := bind_some h
  refine gt_X12_9 e dX12_retains_43 ?_
  refine v_bipush (v := 15) dX12_retains_46 cb_15 ?_
  obtain ⟨v2, e, h⟩ := bind_some h
  refine v_iaload dX12_retains_48 e ?_
  refine v_icmp_ge (tgt := 78) dX12_retains_49 (by decide) (fun c8 => ?_) (fun c8 => ?_)
  · replace h := ifP c8 h
    exact w_X12_retains_J78 l0 l1 l2 l3 M h
  · replace h := ifN c8 h
    refine v_aload_n dX12_retains_52 rfl 0 rfl ?_
    obtain ⟨v3, e, h⟩ := bind_some h
    refine gt_X12_13 e dX12_retains_53 ?_
    refine v_sipush (v := 1224) dX12_retains_56 cs_1224 ?_
    refine v_iconst (v := 4) dX12_retains_59 ci_4 ?_
    refine v_iload_n dX12_retains_60 rfl 3 rfl ?_
    refine v_imul dX12_retains_61 ?_
    refine v_iadd dX12_retains_62 ?_
    refine v_aload_n dX12_retains_63 rfl 0 rfl ?_
    obtain ⟨v4, e, h⟩ := bind_some h
    refine gt_X12_40 e dX12_retains_64 ?_
    refine v_iconst (v := 0) dX12_retains_67 ci_0 ?_
    obtain ⟨v6, M5, e, h⟩ := bindP_some h
    refine ca_X12_131 e dX12_retains_68 (Nat.le_of_ble_eq_true rfl) (by decide) ?_
    refine v_if_eq (tgt := 78) dX12_retains_71 (by decide) (fun c7 => ?_) (fun c7 => ?_)
    · replace h := ifP c7 h
      exact w_X12_retains_J78 l0 l1 l2 l3 M5 h
    · replace h := ifN c7 h
      refine v_iconst (v := 1) dX12_retains_74 ci_1 ?_
      refine v_goto (tgt := 79) dX12_retains_75 (by decide) ?_
      exact w_X12_retains_J79 l0 l1 l2 l3 (1 : Int32) M5 h
set_option maxHeartbeats 4000000 in
set_option maxRecDepth 100000 in
theorem w_X12_retains_L2 {G : Gl} {ρ0 : Nat → Nat} {M0 MF : Mem} {r : Unit} : ∀ (n : Nat) (l0 : Nat) (l1 : Int32) (l2 : Int32) (l3 : Int32) (M : Mem), f_X12_retains_L2 n l0 l1 l2 l3 M = some MF → V G (RX12, cX12_retains, none, 2, 46, 6, "retains", []) (ρ0, M0, cvV r, MF) 2 [(0, .ref l0), (1, .int l1), (2, .int l2), (3, .int l3)] [] M := by
  intro n
  induction n with
  | zero => intro l0 l1 l2 l3 M h; cases h
  | succ n ih =>
    intro l0 l1 l2 l3 M h
    rw [f_X12_retains_L2] at h
    refine v_iload_n dX12_retains_2 rfl 3 rfl ?_
    refine v_aload_n dX12_retains_3 rfl 0 rfl ?_
    obtain ⟨v1, e, h⟩ := bind_some h
    refine gt_X12_9 e dX12_retains_4 ?_
    refine v_bipush (v := 15) dX12_retains_7 cb_15 ?_
    obtain ⟨v2, e, h⟩ := bind_some h
    refine v_iaload dX12_retains_9 e ?_
    refine v_icmp_ge (tgt := 41) dX12_retains_10 (by decide) (fun c8 => ?_) (fun c8 => ?_)
    · replace h := ifP c8 h
      exact w_X12_retains_J41 l0 l1 l2 l3 M h
    · replace h := ifN c8 h
      refine v_aload_n dX12_retains_13 rfl 0 rfl ?_
      obtain ⟨v3, e, h⟩ := bind_some h
      refine gt_X12_13 e dX12_retains_14 ?_
      refine v_sipush (v := 1224) dX12_retains_17 cs_1224 ?_
      refine v_iconst (v := 4) dX12_retains_20 ci_4 ?_
      refine v_iload_n dX12_retains_21 rfl 3 rfl ?_
      refine v_imul dX12_retains_22 ?_
      refine v_iadd dX12_retains_23 ?_
      refine v_aload_n dX12_retains_24 rfl 0 rfl ?_
      obtain ⟨v4, e, h⟩ := bind_some h
      refine gt_X12_40 e dX12_retains_25 ?_
      refine v_iconst (v := 0) dX12_retains_28 ci_0 ?_
      obtain ⟨v6, M5, e, h⟩ := bindP_some h
      refine ca_X12_138 e dX12_retains_29 (Nat.le_of_ble_eq_true rfl) (by decide) ?_
      refine v_if_eq (tgt := 41) dX12_retains_32 (by decide) (fun c7 => ?_) (fun c7 => ?_)
      · replace h := ifP c7 h
        exact w_X12_retains_J41 l0 l1 l2 l3 M5 h
      · replace h := ifN c7 h
        refine v_iinc (ls' := [(3, .int (l3 + 1)), (0, .ref l0), (1, .int l1), (2, .int l2)]) dX12_retains_35 3 rfl (v := 1) ci_1 (by decide) rfl ?_
        refine v_goto (tgt := 2) dX12_retains_38 (by decide) ?_
        refine v_sub [1, 2, 3, 0] rfl ?_
        exact ih l0 l1 l2 (l3 + 1) M5 h
set_option maxHeartbeats 4000000 in
set_option maxRecDepth 100000 in
theorem w_X12_retains {G : Gl} {ρ0 : Nat → Nat} {M0 MF : Mem} {r : Unit} (l0 : Nat) (l1 : Int32) (l2 : Int32) (M : Mem) (h : f_X12_retains l0 l1 l2 M = some MF) : V G (RX12, cX12_retains, none, 2, 46, 6, "retains", []) (ρ0, M0, cvV r, MF) 0 [(0, .ref l0), (1, .int l1), (2, .int l2)] [] M := by
  unfold f_X12_retains at h
  replace h := (ifS h).2
  refine v_iconst (v := 0) dX12_retains_0 ci_0 ?_
  refine v_istore_n (ls' := [(3, .int (0 : Int32)), (0, .ref l0), (1, .int l1), (2, .int l2)]) dX12_retains_1 rfl (by decide) rfl ?_
  refine v_sub [1, 2, 3, 0] rfl ?_
  exact w_X12_retains_L2 FU l0 l1 l2 (0 : Int32) M h
theorem kd_X12_retains {l0 : Nat} {l1 : Int32} {l2 : Int32} {M : Mem} {z : _} (h : f_X12_retains l0 l1 l2 M = some z) : (mK M l0).1 = 12 := by
  unfold f_X12_retains at h
  exact (ifS h).1
theorem k_X12_retains {G : Gl} {l0 : Nat} {l1 : Int32} {l2 : Int32} {M MF : Mem} (h : f_X12_retains l0 l1 l2 M = some MF) : CtrP G yX12_retains cX12_retains 6 none 2 46 [.ref l0, .int l1, .int l2] M (cvV ()) MF :=
  ctr_of (by decide +kernel) (Nat.le_of_ble_eq_true rfl) (fun ρ => w_X12_retains (r := ()) l0 l1 l2 M h)
theorem wd_X12_153 : wdV RX12 153 RX12 yX12_retains cX12_retains 6 none 2 := ⟨gwi 1325 (by decide +kernel) (by decide +kernel), gwi 1327 (by decide +kernel) (by decide +kernel), gwi 39 (by decide +kernel) (by decide +kernel), nw_X12, gwi 1328 (by decide +kernel) (by decide +kernel), ⟨rfl, by decide +kernel, by decide +kernel, by decide +kernel⟩⟩
theorem ca_X12_153 {G : Gl} {B : Bx} {cc : ByteArray} {ret : Option FieldType} {fr lo nL : Nat} {mn : String} {hh : List (Nat × Nat × Nat × Nat)} {pc : Nat} {ls : List (Nat × Value)} {st : List Value} {M M1 : Mem} {l0 : Nat} {l1 : Int32} {l2 : Int32} (e : f_X12_retains l0 l1 l2 M = some M1) (hd : decode cc pc = .ok (.invokevirtual 153, 3)) (hcat : (st.map fun v => v.category).sum ≤ 8) (hR : 2 + 1 ≤ fr ∧ 8 + (6 + 11) + 46 ≤ lo) (k : V G (RX12, cc, ret, fr, lo, nL, mn, hh) B (pc + 3) ls (st) M1) : V G (RX12, cc, ret, fr, lo, nL, mn, hh) B pc ls (.int l2 :: .int l1 :: .ref l0 :: st) M := v_callV0 (As := [.int l1, .int l2]) (k_X12_retains e) wd_X12_153 clX12 (kd_X12_retains e) hd rfl rfl hcat hR k
set_option maxHeartbeats 4000000 in
set_option maxRecDepth 100000 in
theorem w_X12_bestOf_J83 {G : Gl} {ρ0 : Nat → Nat} {M0 MF : Mem} {r : Int32} (k8 : Nat → Int32 → Int32 → Int32 → Int32 → Mem → Option (Int32 × Mem)) (h8 : ∀ (l0 : Nat) (l1 : Int32) (l2 : Int32) (l3 : Int32) (l4 : Int32) (M : Mem), k8 l0 l1 l2 l3 l4 M = some (r, MF) → V G (RX12, cX12_bestOf, (some .int), 2, 46, 6, "bestOf", []) (ρ0, M0, cvI r, MF) 8 [(0, .ref l0), (1, .int l1), (2, .int l2), (3, .int l3), (4, .int l4)] [] M) (l0 : Nat) (l1 : Int32) (l2 : Int32) (l3 : Int32) (l4 : Int32) (s0 : Int32) (M : Mem) (h : f_X12_bestOf_J83 k8 l0 l1 l2 l3 l4 s0 M = some (r, MF)) : V G (RX12, cX12_bestOf, (some .int), 2, 46, 6, "bestOf", []) (ρ0, M0, cvI r, MF) 83 [(0, .ref l0), (1, .int l1), (2, .int l2), (3, .int l3), (4, .int l4)] [.int s0] M := by
  unfold f_X12_bestOf_J83 at h
  refine v_istore (ls' := [(5, .int s0), (0, .ref l0), (1, .int l1), (2, .int l2), (3, .int l3), (4, .int l4)]) dX12_bestOf_83 (by decide) rfl ?_
  refine v_iload dX12_bestOf_85 0 rfl ?_
  refine v_if_eq (tgt := 129) dX12_bestOf_87 (by decide) (fun c8 => ?_) (fun c8 => ?_)
  · replace h := ifP c8 h
    refine v_iload_n dX12_bestOf_129 rfl 4 rfl ?_
    refine v_istore_n (ls' := [(3, .int l3), (5, .int s0), (0, .ref l0), (1, .int l1), (2, .int l2), (4, .int l4)]) dX12_bestOf_130 rfl (by decide) rfl ?_
    refine v_iinc (ls' := [(4, .int (l4 + 1)), (3, .int l3), (5, .int s0), (0, .ref l0), (1, .int l1), (2, .int l2)]) dX12_bestOf_131 5 rfl (v := 1) ci_1 (by decide) rfl ?_
    refine v_goto (tgt := 8) dX12_bestOf_134 (by decide) ?_
    refine v_sub [3, 4, 5, 1, 0] rfl ?_
    exact h8 l0 l1 l2 l3 (l4 + 1) M h
  · replace h := ifN c8 h
    refine v_aload_n dX12_bestOf_90 rfl 1 rfl ?_
    refine v_bipush (v := 24) dX12_bestOf_91 cb_24 ?_
    refine v_iconst (v := 4) dX12_bestOf_93 ci_4 ?_
    refine v_iload dX12_bestOf_94 5 rfl ?_
    refine v_imul dX12_bestOf_96 ?_
    refine v_iadd dX12_bestOf_97 ?_
    refine v_aload_n dX12_bestOf_98 rfl 1 rfl ?_
    obtain ⟨v1, e, h⟩ := bind_some h
    refine gt_X12_9 e dX12_bestOf_99 ?_
    refine v_sipush (v := 518) dX12_bestOf_102 cs_518 ?_
    refine v_iload dX12_bestOf_105 5 rfl ?_
    refine v_iadd dX12_bestOf_107 ?_
    obtain ⟨v2, e, h⟩ := bind_some h
    refine v_iaload dX12_bestOf_108 e ?_
    obtain ⟨v4, M3, e, h⟩ := bindP_some h
    refine ca_X12_144 e dX12_bestOf_109 (Nat.le_of_ble_eq_true rfl) (by decide) ?_
    refine v_if_eq (tgt := 129) dX12_bestOf_112 (by decide) (fun c7 => ?_) (fun c7 => ?_)
    · replace h := ifP c7 h
      refine v_iload_n dX12_bestOf_129 rfl 4 rfl ?_
      refine v_istore_n (ls' := [(3, .int l3), (5, .int s0), (0, .ref l0), (1, .int l1), (2, .int l2), (4, .int l4)]) dX12_bestOf_130 rfl (by decide) rfl ?_
      refine v_iinc (ls' := [(4, .int (l4 + 1)), (3, .int l3), (5, .int s0), (0, .ref l0), (1, .int l1), (2, .int l2)]) dX12_bestOf_131 5 rfl (v := 1) ci_1 (by decide) rfl ?_
      refine v_goto (tgt := 8) dX12_bestOf_134 (by decide) ?_
      refine v_sub [3, 4, 5, 1, 0] rfl ?_
      exact h8 l0 l1 l2 l3 (l4 + 1) M3 h
    · replace h := ifN c7 h
      refine v_aload_n dX12_bestOf_115 rfl 1 rfl ?_
      obtain ⟨v5, e, h⟩ := bind_some h
      refine gt_X12_9 e dX12_bestOf_116 ?_
      refine v_sipush (v := 410) dX12_bestOf_119 cs_410 ?_
      refine v_iload dX12_bestOf_122 5 rfl ?_
      refine v_iadd dX12_bestOf_124 ?_
      obtain ⟨v6, e, h⟩ := bind_some h
      refine v_iaload dX12_bestOf_125 e ?_
      refine v_goto (tgt := 130) dX12_bestOf_126 (by decide) ?_
      refine v_istore_n (ls' := [(3, .int v6), (5, .int s0), (0, .ref l0), (1, .int l1), (2, .int l2), (4, .int l4)]) dX12_bestOf_130 rfl (by decide) rfl ?_
      refine v_iinc (ls' := [(4, .int (l4 + 1)), (3, .int v6), (5, .int s0), (0, .ref l0), (1, .int l1), (2, .int l2)]) dX12_bestOf_131 5 rfl (v := 1) ci_1 (by decide) rfl ?_
      refine v_goto (tgt := 8) dX12_bestOf_134 (by decide) ?_
      refine v_sub [3, 4, 5, 1, 0] rfl ?_
      exact h8 l0 l1 l2 v6 (l4 + 1) M3 h
theorem w_X12_bestOf_J82 {G : Gl} {ρ0 : Nat → Nat} {M0 MF : Mem} {r : Int32} (k8 : Nat → Int32 → Int32 → Int32 → Int32 → Mem → Option (Int32 × Mem)) (h8 : ∀ (l0 : Nat) (l1 : Int32) (l2 : Int32) (l3 : Int32) (l4 : Int32) (M : Mem), k8 l0 l1 l2 l3 l4 M = some (r, MF) → V G (RX12, cX12_bestOf, (some .int), 2, 46, 6, "bestOf", []) (ρ0, M0, cvI r, MF) 8 [(0, .ref l0), (1, .int l1), (2, .int l2), (3, .int l3), (4, .int l4)] [] M) (l0 : Nat) (l1 : Int32) (l2 : Int32) (l3 : Int32) (l4 : Int32) (M : Mem) (h : f_X12_bestOf_J82 k8 l0 l1 l2 l3 l4 M = some (r, MF)) : V G (RX12, cX12_bestOf, (some .int), 2, 46, 6, "bestOf", []) (ρ0, M0, cvI r, MF) 82 [(0, .ref l0), (1, .int l1), (2, .int l2), (3, .int l3), (4, .int l4)] [] M := by
  unfold f_X12_bestOf_J82 at h
  refine v_iconst (v := 0) dX12_bestOf_82 ci_0 ?_
  exact w_X12_bestOf_J83 k8 h8 l0 l1 l2 l3 l4 (0 : Int32) M h
set_option maxHeartbeats 4000000 in
set_option maxRecDepth 100000 in
theorem w_X12_bestOf_J63 {G : Gl} {ρ0 : Nat → Nat} {M0 MF : Mem} {r : Int32} (k8 : Nat → Int32 → Int32 → Int32 → Int32 → Mem → Option (Int32 × Mem)) (h8 : ∀ (l0 : Nat) (l1 : Int32) (l2 : Int32) (l3 : Int32) (l4 : Int32) (M : Mem), k8 l0 l1 l2 l3 l4 M = some (r, MF) → V G (RX12, cX12_bestOf, (some .int), 2, 46, 6, "bestOf", []) (ρ0, M0, cvI r, MF) 8 [(0, .ref l0), (1, .int l1), (2, .int l2), (3, .int l3), (4, .int l4)] [] M) (l0 : Nat) (l1 : Int32) (l2 : Int32) (l3 : Int32) (l4 : Int32) (M : Mem) (h : f_X12_bestOf_J63 k8 l0 l1 l2 l3 l4 M = some (r, MF)) : V G (RX12, cX12_bestOf, (some .int), 2, 46, 6, "bestOf", []) (ρ0, M0, cvI r, MF) 63 [(0, .ref l0), (1, .int l1), (2, .int l2), (3, .int l3), (4, .int l4)] [] M := by
  unfold f_X12_bestOf_J63 at h
  refine v_aload_n dX12_bestOf_63 rfl 0 rfl ?_
  obtain ⟨v1, e, h⟩ := bind_some h
  refine gt_X12_9 e dX12_bestOf_64 ?_
  refine v_sipush (v := 410) dX12_bestOf_67 cs_410 ?_
  refine v_iload dX12_bestOf_70 4 rfl ?_
  refine v_iadd dX12_bestOf_72 ?_
  obtain ⟨v2, e, h⟩ := bind_some h
  refine v_iaload dX12_bestOf_73 e ?_
  refine v_iload_n dX12_bestOf_74 rfl 3 rfl ?_
  refine v_icmp_le (tgt := 82) dX12_bestOf_75 (by decide) (fun c3 => ?_) (fun c3 => ?_)
  · replace h := ifP c3 h
    exact w_X12_bestOf_J82 k8 h8 l0 l1 l2 l3 l4 M h
  · replace h := ifN c3 h
    refine v_iconst (v := 1) dX12_bestOf_78 ci_1 ?_
    refine v_goto (tgt := 83) dX12_bestOf_79 (by decide) ?_
    exact w_X12_bestOf_J83 k8 h8 l0 l1 l2 l3 l4 (1 : Int32) M h
set_option maxHeartbeats 4000000 in
set_option maxRecDepth 100000 in
theorem w_X12_bestOf_L8 {G : Gl} {ρ0 : Nat → Nat} {M0 MF : Mem} {r : Int32} : ∀ (n : Nat) (l0 : Nat) (l1 : Int32) (l2 : Int32) (l3 : Int32) (l4 : Int32) (M : Mem), f_X12_bestOf_L8 n l0 l1 l2 l3 l4 M = some (r, MF) → V G (RX12, cX12_bestOf, (some .int), 2, 46, 6, "bestOf", []) (ρ0, M0, cvI r, MF) 8 [(0, .ref l0), (1, .int l1), (2, .int l2), (3, .int l3), (4, .int l4)] [] M := by
  intro n
  induction n with
  | zero => intro l0 l1 l2 l3 l4 M h; cases h
  | succ n ih =>
    intro l0 l1 l2 l3 l4 M h
    rw [f_X12_bestOf_L8] at h
    refine v_iload dX12_bestOf_8 4 rfl ?_
    refine v_bipush (v := 6) dX12_bestOf_10 cb_6 ?_
    refine v_iload_n dX12_bestOf_12 rfl 1 rfl ?_
    refine v_imul dX12_bestOf_13 ?_
    refine v_aload_n dX12_bestOf_14 rfl 0 rfl ?_
    obtain ⟨v1, e, h⟩ := bind_some h
    refine gt_X12_9 e dX12_bestOf_15 ?_
    refine v_bipush (v := 50) dX12_bestOf_18 cb_50 ?_
    refine v_iload_n dX12_bestOf_20 rfl 1 rfl ?_
    refine v_iadd dX12_bestOf_21 ?_
    obtain ⟨v2, e, h⟩ := bind_some h
    refine v_iaload dX12_bestOf_22 e ?_
    refine v_iadd dX12_bestOf_23 ?_
    refine v_icmp_ge (tgt := 137) dX12_bestOf_24 (by decide) (fun c10 => ?_) (fun c10 => ?_)
    · replace h := ifP c10 h
      refine v_iload_n dX12_bestOf_137 rfl 3 rfl ?_
      cases h
      exact v_ireturn dX12_bestOf_138
    · replace h := ifN c10 h
      refine v_aload_n dX12_bestOf_27 rfl 0 rfl ?_
      obtain ⟨v3, e, h⟩ := bind_some h
      refine gt_X12_9 e dX12_bestOf_28 ?_
      refine v_sipush (v := 446) dX12_bestOf_31 cs_446 ?_
      refine v_iload dX12_bestOf_34 4 rfl ?_
      refine v_iadd dX12_bestOf_36 ?_
      obtain ⟨v4, e, h⟩ := bind_some h
      refine v_iaload dX12_bestOf_37 e ?_
      refine v_if_ne (tgt := 82) dX12_bestOf_38 (by decide) (fun c9 => ?_) (fun c9 => ?_)
      · replace h := ifN c9 h
        exact w_X12_bestOf_J82 (f_X12_bestOf_L8 n) ih l0 l1 l2 l3 l4 M h
      · replace h := ifP c9 h
        refine v_iload_n dX12_bestOf_41 rfl 1 rfl ?_
        refine v_iload_n dX12_bestOf_42 rfl 2 rfl ?_
        refine v_icmp_ne (tgt := 63) dX12_bestOf_43 (by decide) (fun c8 => ?_) (fun c8 => ?_)
        · replace h := ifN c8 h
          exact w_X12_bestOf_J63 (f_X12_bestOf_L8 n) ih l0 l1 l2 l3 l4 M h
        · replace h := ifP c8 h
          refine v_aload_n dX12_bestOf_46 rfl 0 rfl ?_
          obtain ⟨v5, e, h⟩ := bind_some h
          refine gt_X12_9 e dX12_bestOf_47 ?_
          refine v_sipush (v := 482) dX12_bestOf_50 cs_482 ?_
          refine v_iload dX12_bestOf_53 4 rfl ?_
          refine v_iadd dX12_bestOf_55 ?_
          obtain ⟨v6, e, h⟩ := bind_some h
          refine v_iaload dX12_bestOf_56 e ?_
          refine v_iconst (v := 2) dX12_bestOf_57 ci_2 ?_
          refine v_irem dX12_bestOf_58 (by decide) ?_
          refine v_iconst (v := 1) dX12_bestOf_59 ci_1 ?_
          refine v_icmp_eq (tgt := 82) dX12_bestOf_60 (by decide) (fun c7 => ?_) (fun c7 => ?_)
          · replace h := ifP c7 h
            exact w_X12_bestOf_J82 (f_X12_bestOf_L8 n) ih l0 l1 l2 l3 l4 M h
          · replace h := ifN c7 h
            exact w_X12_bestOf_J63 (f_X12_bestOf_L8 n) ih l0 l1 l2 l3 l4 M h
set_option maxHeartbeats 4000000 in
set_option maxRecDepth 100000 in
theorem w_X12_bestOf {G : Gl} {ρ0 : Nat → Nat} {M0 MF : Mem} {r : Int32} (l0 : Nat) (l1 : Int32) (l2 : Int32) (M : Mem) (h : f_X12_bestOf l0 l1 l2 M = some (r, MF)) : V G (RX12, cX12_bestOf, (some .int), 2, 46, 6, "bestOf", []) (ρ0, M0, cvI r, MF) 0 [(0, .ref l0), (1, .int l1), (2, .int l2)] [] M := by
  unfold f_X12_bestOf at h
  replace h := (ifS h).2
  refine v_iconst (v := (-1)) dX12_bestOf_0 ci_m1 ?_
  refine v_istore_n (ls' := [(3, .int (-1 : Int32)), (0, .ref l0), (1, .int l1), (2, .int l2)]) dX12_bestOf_1 rfl (by decide) rfl ?_
  refine v_bipush (v := 6) dX12_bestOf_2 cb_6 ?_
  refine v_iload_n dX12_bestOf_4 rfl 2 rfl ?_
  refine v_imul dX12_bestOf_5 ?_
  refine v_istore (ls' := [(4, .int ((6 : Int32) * l1)), (3, .int (-1 : Int32)), (0, .ref l0), (1, .int l1), (2, .int l2)]) dX12_bestOf_6 (by decide) rfl ?_
  refine v_sub [2, 3, 4, 1, 0] rfl ?_
  exact w_X12_bestOf_L8 FU l0 l1 l2 (-1 : Int32) ((6 : Int32) * l1) M h
theorem kd_X12_bestOf {l0 : Nat} {l1 : Int32} {l2 : Int32} {M : Mem} {z : _} (h : f_X12_bestOf l0 l1 l2 M = some z) : (mK M l0).1 = 12 := by
  unfold f_X12_bestOf at h
  exact (ifS h).1
theorem k_X12_bestOf {G : Gl} {l0 : Nat} {l1 : Int32} {l2 : Int32} {M MF : Mem} {r : Int32} (h : f_X12_bestOf l0 l1 l2 M = some (r, MF)) : CtrP G yX12_bestOf cX12_bestOf 6 (some .int) 2 46 [.ref l0, .int l1, .int l2] M (cvI r) MF :=
  ctr_of (by decide +kernel) (Nat.le_of_ble_eq_true rfl) (fun ρ => w_X12_bestOf l0 l1 l2 M h)
theorem wd_X12_156 : wdV RX12 156 RX12 yX12_bestOf cX12_bestOf 6 (some .int) 2 := ⟨gwi 1336 (by decide +kernel) (by decide +kernel), gwi 1338 (by decide +kernel) (by decide +kernel), gwi 41 (by decide +kernel) (by decide +kernel), nw_X12, gwi 1339 (by decide +kernel) (by decide +kernel), ⟨rfl, by decide +kernel, by decide +kernel, by decide +kernel⟩⟩
theorem ca_X12_156 {G : Gl} {B : Bx} {cc : ByteArray} {ret : Option FieldType} {fr lo nL : Nat} {mn : String} {hh : List (Nat × Nat × Nat × Nat)} {pc : Nat} {ls : List (Nat × Value)} {st : List Value} {M M1 : Mem} {l0 : Nat} {l1 : Int32} {l2 : Int32} {x : Int32} (e : f_X12_bestOf l0 l1 l2 M = some (x, M1)) (hd : decode cc pc = .ok (.invokevirtual 156, 3)) (hcat : (st.map fun v => v.category).sum ≤ 8) (hR : 2 + 1 ≤ fr ∧ 8 + (6 + 11) + 46 ≤ lo) (k : V G (RX12, cc, ret, fr, lo, nL, mn, hh) B (pc + 3) ls (.int x :: st) M1) : V G (RX12, cc, ret, fr, lo, nL, mn, hh) B pc ls (.int l2 :: .int l1 :: .ref l0 :: st) M := v_callVi (As := [.int l1, .int l2]) (k_X12_bestOf e) wd_X12_156 clX12 (kd_X12_bestOf e) hd rfl rfl hcat hR k
set_option maxHeartbeats 4000000 in
set_option maxRecDepth 100000 in
theorem w_X12_isShareOf {G : Gl} {ρ0 : Nat → Nat} {M0 MF : Mem} {r : Int32} (l0 : Nat) (l1 : Int32) (l2 : Int32) (l3 : Int32) (M : Mem) (h : f_X12_isShareOf l0 l1 l2 l3 M = some (r, MF)) : V G (RX12, cX12_isShareOf, (some .boolean), 1, 25, 4, "isShareOf", []) (ρ0, M0, cvI r, MF) 0 [(0, .ref l0), (1, .int l1), (2, .int l2), (3, .int l3)] [] M := by
  unfold f_X12_isShareOf at h
  replace h := (ifS h).2
  refine v_aload_n dX12_isShareOf_0 rfl 0 rfl ?_
  obtain ⟨v1, e, h⟩ := bind_some h
  refine gt_X12_9 e dX12_isShareOf_1 ?_
  refine v_sipush (v := 446) dX12_isShareOf_4 cs_446 ?_
  refine v_iload_n dX12_isShareOf_7 rfl 1 rfl ?_
  refine v_iadd dX12_isShareOf_8 ?_
  obtain ⟨v2, e, h⟩ := bind_some h
  refine v_iaload dX12_isShareOf_9 e ?_
  refine v_aload_n dX12_isShareOf_10 rfl 0 rfl ?_
  obtain ⟨v3, e, h⟩ := bind_some h
  refine gt_X12_9 e dX12_isShareOf_11 ?_
  refine v_sipush (v := 1794) dX12_isShareOf_14 cs_1794 ?_
  refine v_iload_n dX12_isShareOf_17 rfl 3 rfl ?_
  refine v_iadd dX12_isShareOf_18 ?_
  obtain ⟨v4, e, h⟩ := bind_some h
  refine v_iaload dX12_isShareOf_19 e ?_
  refine v_icmp_ne (tgt := 54) dX12_isShareOf_20 (by decide) (fun c10 => ?_) (fun c10 => ?_)
  · replace h := ifN c10 h
    refine v_iconst (v := 0) dX12_isShareOf_54 ci_0 ?_
    obtain ⟨hz, rfl, rfl⟩ := okZ_some h
    exact v_zreturn dX12_isShareOf_55 hz
  · replace h := ifP c10 h
    refine v_aload_n dX12_isShareOf_23 rfl 0 rfl ?_
    obtain ⟨v5, e, h⟩ := bind_some h
    refine gt_X12_13 e dX12_isShareOf_24 ?_
    refine v_bipush (v := 24) dX12_isShareOf_27 cb_24 ?_
    refine v_iconst (v := 4) dX12_isShareOf_29 ci_4 ?_
    refine v_iload_n dX12_isShareOf_30 rfl 1 rfl ?_
    refine v_imul dX12_isShareOf_31 ?_
    refine v_iadd dX12_isShareOf_32 ?_
    refine v_aload_n dX12_isShareOf_33 rfl 0 rfl ?_
    obtain ⟨v6, e, h⟩ := bind_some h
    refine gt_X12_13 e dX12_isShareOf_34 ?_
    refine v_sipush (v := 1256) dX12_isShareOf_37 cs_1256 ?_
    refine v_iconst (v := 4) dX12_isShareOf_40 ci_4 ?_
    refine v_iload_n dX12_isShareOf_41 rfl 3 rfl ?_
    refine v_imul dX12_isShareOf_42 ?_
    refine v_iadd dX12_isShareOf_43 ?_
    obtain ⟨v8, M7, e, h⟩ := bindP_some h
    refine ca_X12_131 e dX12_isShareOf_44 (Nat.le_of_ble_eq_true rfl) (by decide) ?_
    refine v_if_eq (tgt := 54) dX12_isShareOf_47 (by decide) (fun c9 => ?_) (fun c9 => ?_)
    · replace h := ifP c9 h
      refine v_iconst (v := 0) dX12_isShareOf_54 ci_0 ?_
      obtain ⟨hz, rfl, rfl⟩ := okZ_some h
      exact v_zreturn dX12_isShareOf_55 hz
    · replace h := ifN c9 h
      refine v_iconst (v := 1) dX12_isShareOf_50 ci_1 ?_
      refine v_goto (tgt := 55) dX12_isShareOf_51 (by decide) ?_
      obtain ⟨hz, rfl, rfl⟩ := okZ_some h
      exact v_zreturn dX12_isShareOf_55 hz
theorem kd_X12_isShareOf {l0 : Nat} {l1 : Int32} {l2 : Int32} {l3 : Int32} {M : Mem} {z : _} (h : f_X12_isShareOf l0 l1 l2 l3 M = some z) : (mK M l0).1 = 12 := by
  unfold f_X12_isShareOf at h
  exact (ifS h).1
theorem k_X12_isShareOf {G : Gl} {l0 : Nat} {l1 : Int32} {l2 : Int32} {l3 : Int32} {M MF : Mem} {r : Int32} (h : f_X12_isShareOf l0 l1 l2 l3 M = some (r, MF)) : CtrP G yX12_isShareOf cX12_isShareOf 4 (some .boolean) 1 25 [.ref l0, .int l1, .int l2, .int l3] M (cvI r) MF :=
  ctr_of (by decide +kernel) (Nat.le_of_ble_eq_true rfl) (fun ρ => w_X12_isShareOf l0 l1 l2 l3 M h)
theorem wd_X12_147 : wdV RX12 147 RX12 yX12_isShareOf cX12_isShareOf 4 (some .boolean) 3 := ⟨gwi 1299 (by decide +kernel) (by decide +kernel), gwi 1301 (by decide +kernel) (by decide +kernel), gwi 34 (by decide +kernel) (by decide +kernel), nw_X12, gwi 1302 (by decide +kernel) (by decide +kernel), ⟨rfl, by decide +kernel, by decide +kernel, by decide +kernel⟩⟩
theorem ca_X12_147 {G : Gl} {B : Bx} {cc : ByteArray} {ret : Option FieldType} {fr lo nL : Nat} {mn : String} {hh : List (Nat × Nat × Nat × Nat)} {pc : Nat} {ls : List (Nat × Value)} {st : List Value} {M M1 : Mem} {l0 : Nat} {l1 : Int32} {l2 : Int32} {l3 : Int32} {x : Int32} (e : f_X12_isShareOf l0 l1 l2 l3 M = some (x, M1)) (hd : decode cc pc = .ok (.invokevirtual 147, 3)) (hcat : (st.map fun v => v.category).sum ≤ 8) (hR : 1 + 1 ≤ fr ∧ 8 + (4 + 11) + 25 ≤ lo) (k : V G (RX12, cc, ret, fr, lo, nL, mn, hh) B (pc + 3) ls (.int x :: st) M1) : V G (RX12, cc, ret, fr, lo, nL, mn, hh) B pc ls (.int l3 :: .int l2 :: .int l1 :: .ref l0 :: st) M := v_callVi (As := [.int l1, .int l2, .int l3]) (k_X12_isShareOf e) wd_X12_147 clX12 (kd_X12_isShareOf e) hd rfl rfl hcat hR k
set_option maxHeartbeats 4000000 in
set_option maxRecDepth 100000 in
theorem w_X12_gradeIn_L8 {G : Gl} {ρ0 : Nat → Nat} {M0 MF : Mem} {r : Int32} : ∀ (n : Nat) (l0 : Nat) (l1 : Int32) (l2 : Int32) (l3 : Int32) (l4 : Int32) (M : Mem), f_X12_gradeIn_L8 n l0 l1 l2 l3 l4 M = some (r, MF) → V G (RX12, cX12_gradeIn, (some .int), 2, 48, 5, "gradeIn", []) (ρ0, M0, cvI r, MF) 8 [(0, .ref l0), (1, .int l1), (2, .int l2), (3, .int l3), (4, .int l4)] [] M := by
  intro n
  induction n with
  | zero => intro l0 l1 l2 l3 l4 M h; cases h
  | succ n ih =>
    intro l0 l1 l2 l3 l4 M h
    rw [f_X12_gradeIn_L8] at h
    refine v_iload dX12_gradeIn_8 4 rfl ?_
    refine v_bipush (v := 6) dX12_gradeIn_10 cb_6 ?_
    refine v_iload_n dX12_gradeIn_12 rfl 2 rfl ?_
    refine v_imul dX12_gradeIn_13 ?_
    refine v_aload_n dX12_gradeIn_14 rfl 0 rfl ?_
    obtain ⟨v1, e, h⟩ := bind_some h
    refine gt_X12_9 e dX12_gradeIn_15 ?_
    refine v_bipush (v := 50) dX12_gradeIn_18 cb_50 ?_
    refine v_iload_n dX12_gradeIn_20 rfl 2 rfl ?_
    refine v_iadd dX12_gradeIn_21 ?_
    obtain ⟨v2, e, h⟩ := bind_some h
    refine v_iaload dX12_gradeIn_22 e ?_
    refine v_iadd dX12_gradeIn_23 ?_
    refine v_icmp_ge (tgt := 60) dX12_gradeIn_24 (by decide) (fun c8 => ?_) (fun c8 => ?_)
    · replace h := ifP c8 h
      refine v_iload_n dX12_gradeIn_60 rfl 3 rfl ?_
      cases h
      exact v_ireturn dX12_gradeIn_61
    · replace h := ifN c8 h
      refine v_aload_n dX12_gradeIn_27 rfl 0 rfl ?_
      refine v_iload dX12_gradeIn_28 4 rfl ?_
      refine v_iload_n dX12_gradeIn_30 rfl 2 rfl ?_
      refine v_iload_n dX12_gradeIn_31 rfl 1 rfl ?_
      obtain ⟨v4, M3, e, h⟩ := bindP_some h
      refine ca_X12_147 e dX12_gradeIn_32 (Nat.le_of_ble_eq_true rfl) (by decide) ?_
      refine v_if_eq (tgt := 52) dX12_gradeIn_35 (by decide) (fun c7 => ?_) (fun c7 => ?_)
      · replace h := ifP c7 h
        refine v_iload_n dX12_gradeIn_52 rfl 3 rfl ?_
        refine v_istore_n (ls' := [(3, .int l3), (0, .ref l0), (1, .int l1), (2, .int l2), (4, .int l4)]) dX12_gradeIn_53 rfl (by decide) rfl ?_
        refine v_iinc (ls' := [(4, .int (l4 + 1)), (3, .int l3), (0, .ref l0), (1, .int l1), (2, .int l2)]) dX12_gradeIn_54 4 rfl (v := 1) ci_1 (by decide) rfl ?_
        refine v_goto (tgt := 8) dX12_gradeIn_57 (by decide) ?_
        refine v_sub [2, 3, 4, 1, 0] rfl ?_
        exact ih l0 l1 l2 l3 (l4 + 1) M3 h
      · replace h := ifN c7 h
        refine v_aload_n dX12_gradeIn_38 rfl 0 rfl ?_
        obtain ⟨v5, e, h⟩ := bind_some h
        refine gt_X12_9 e dX12_gradeIn_39 ?_
        refine v_sipush (v := 410) dX12_gradeIn_42 cs_410 ?_
        refine v_iload dX12_gradeIn_45 4 rfl ?_
        refine v_iadd dX12_gradeIn_47 ?_
        obtain ⟨v6, e, h⟩ := bind_some h
        refine v_iaload dX12_gradeIn_48 e ?_
        refine v_goto (tgt := 53) dX12_gradeIn_49 (by decide) ?_
        refine v_istore_n (ls' := [(3, .int v6), (0, .ref l0), (1, .int l1), (2, .int l2), (4, .int l4)]) dX12_gradeIn_53 rfl (by decide) rfl ?_
        refine v_iinc (ls' := [(4, .int (l4 + 1)), (3, .int v6), (0, .ref l0), (1, .int l1), (2, .int l2)]) dX12_gradeIn_54 4 rfl (v := 1) ci_1 (by decide) rfl ?_
        refine v_goto (tgt := 8) dX12_gradeIn_57 (by decide) ?_
        refine v_sub [2, 3, 4, 1, 0] rfl ?_
        exact ih l0 l1 l2 v6 (l4 + 1) M3 h
set_option maxHeartbeats 4000000 in
set_option maxRecDepth 100000 in
theorem w_X12_gradeIn {G : Gl} {ρ0 : Nat → Nat} {M0 MF : Mem} {r : Int32} (l0 : Nat) (l1 : Int32) (l2 : Int32) (M : Mem) (h : f_X12_gradeIn l0 l1 l2 M = some (r, MF)) : V G (RX12, cX12_gradeIn, (some .int), 2, 48, 5, "gradeIn", []) (ρ0, M0, cvI r, MF) 0 [(0, .ref l0), (1, .int l1), (2, .int l2)] [] M := by
  unfold f_X12_gradeIn at h
  replace h := (ifS h).2
  refine v_iconst (v := 0) dX12_gradeIn_0 ci_0 ?_
  refine v_istore_n (ls' := [(3, .int (0 : Int32)), (0, .ref l0), (1, .int l1), (2, .int l2)]) dX12_gradeIn_1 rfl (by decide) rfl ?_
  refine v_bipush (v := 6) dX12_gradeIn_2 cb_6 ?_
  refine v_iload_n dX12_gradeIn_4 rfl 3 rfl ?_
  refine v_imul dX12_gradeIn_5 ?_
  refine v_istore (ls' := [(4, .int ((6 : Int32) * l2)), (3, .int (0 : Int32)), (0, .ref l0), (1, .int l1), (2, .int l2)]) dX12_gradeIn_6 (by decide) rfl ?_
  refine v_sub [2, 3, 4, 1, 0] rfl ?_
  exact w_X12_gradeIn_L8 FU l0 l1 l2 (0 : Int32) ((6 : Int32) * l2) M h
theorem kd_X12_gradeIn {l0 : Nat} {l1 : Int32} {l2 : Int32} {M : Mem} {z : _} (h : f_X12_gradeIn l0 l1 l2 M = some z) : (mK M l0).1 = 12 := by
  unfold f_X12_gradeIn at h
  exact (ifS h).1
theorem k_X12_gradeIn {G : Gl} {l0 : Nat} {l1 : Int32} {l2 : Int32} {M MF : Mem} {r : Int32} (h : f_X12_gradeIn l0 l1 l2 M = some (r, MF)) : CtrP G yX12_gradeIn cX12_gradeIn 5 (some .int) 2 48 [.ref l0, .int l1, .int l2] M (cvI r) MF :=
  ctr_of (by decide +kernel) (Nat.le_of_ble_eq_true rfl) (fun ρ => w_X12_gradeIn l0 l1 l2 M h)
theorem wd_X12_169 : wdV RX12 169 RX12 yX12_gradeIn cX12_gradeIn 5 (some .int) 2 := ⟨gwi 1384 (by decide +kernel) (by decide +kernel), gwi 1386 (by decide +kernel) (by decide +kernel), gwi 51 (by decide +kernel) (by decide +kernel), nw_X12, gwi 1387 (by decide +kernel) (by decide +kernel), ⟨rfl, by decide +kernel, by decide +kernel, by decide +kernel⟩⟩
theorem ca_X12_169 {G : Gl} {B : Bx} {cc : ByteArray} {ret : Option FieldType} {fr lo nL : Nat} {mn : String} {hh : List (Nat × Nat × Nat × Nat)} {pc : Nat} {ls : List (Nat × Value)} {st : List Value} {M M1 : Mem} {l0 : Nat} {l1 : Int32} {l2 : Int32} {x : Int32} (e : f_X12_gradeIn l0 l1 l2 M = some (x, M1)) (hd : decode cc pc = .ok (.invokevirtual 169, 3)) (hcat : (st.map fun v => v.category).sum ≤ 8) (hR : 2 + 1 ≤ fr ∧ 8 + (5 + 11) + 48 ≤ lo) (k : V G (RX12, cc, ret, fr, lo, nL, mn, hh) B (pc + 3) ls (.int x :: st) M1) : V G (RX12, cc, ret, fr, lo, nL, mn, hh) B pc ls (.int l2 :: .int l1 :: .ref l0 :: st) M := v_callVi (As := [.int l1, .int l2]) (k_X12_gradeIn e) wd_X12_169 clX12 (kd_X12_gradeIn e) hd rfl rfl hcat hR k
set_option maxHeartbeats 4000000 in
set_option maxRecDepth 100000 in
theorem w_X12_chooses_L79 {G : Gl} {ρ0 : Nat → Nat} {M0 MF : Mem} {r : Int32} : ∀ (n : Nat) (l0 : Nat) (l1 : Int32) (l2 : Int32) (l4 : Int32) (l5 : Int32) (M : Mem), f_X12_chooses_L79 n l0 l1 l2 l4 l5 M = some (r, MF) → V G (RX12, cX12_chooses, (some .int), 1, 21, 6, "chooses", []) (ρ0, M0, cvI r, MF) 79 [(0, .ref l0), (1, .int l1), (2, .int l2), (4, .int l4), (5, .int l5)] [] M := by
  intro n
  induction n with
  | zero => intro l0 l1 l2 l4 l5 M h; cases h
  | succ n ih =>
    intro l0 l1 l2 l4 l5 M h
    rw [f_X12_chooses_L79] at h
    refine v_iload dX12_chooses_79 4 rfl ?_
    refine v_aload_n dX12_chooses_81 rfl 0 rfl ?_
    obtain ⟨v1, e, h⟩ := bind_some h
    refine gt_X12_9 e dX12_chooses_82 ?_
    refine v_sipush (v := 1866) dX12_chooses_85 cs_1866 ?_
    refine v_iload_n dX12_chooses_88 rfl 1 rfl ?_
    refine v_iadd dX12_chooses_89 ?_
    obtain ⟨v2, e, h⟩ := bind_some h
    refine v_iaload dX12_chooses_90 e ?_
    refine v_iconst (v := 1) dX12_chooses_91 ci_1 ?_
    refine v_isub dX12_chooses_92 ?_
    refine v_icmp_ge (tgt := 122) dX12_chooses_93 (by decide) (fun c7 => ?_) (fun c7 => ?_)
    · replace h := ifP c7 h
      refine v_aload_n dX12_chooses_122 rfl 0 rfl ?_
      obtain ⟨v3, e, h⟩ := bind_some h
      refine gt_X12_9 e dX12_chooses_123 ?_
      refine v_iload_n dX12_chooses_126 rfl 2 rfl ?_
      refine v_aload_n dX12_chooses_127 rfl 0 rfl ?_
      obtain ⟨v4, e, h⟩ := bind_some h
      refine gt_X12_9 e dX12_chooses_128 ?_
      refine v_sipush (v := 1866) dX12_chooses_131 cs_1866 ?_
      refine v_iload_n dX12_chooses_134 rfl 1 rfl ?_
      refine v_iadd dX12_chooses_135 ?_
      obtain ⟨v5, e, h⟩ := bind_some h
      refine v_iaload dX12_chooses_136 e ?_
      refine v_iadd dX12_chooses_137 ?_
      refine v_iconst (v := 1) dX12_chooses_138 ci_1 ?_
      refine v_isub dX12_chooses_139 ?_
      refine v_iload dX12_chooses_140 3 rfl ?_
      obtain ⟨M6, e, h⟩ := bind_some h
      refine v_iastore dX12_chooses_142 e ?_
      refine v_iload dX12_chooses_143 3 rfl ?_
      cases h
      exact v_ireturn dX12_chooses_145
    · replace h := ifN c7 h
      refine v_aload_n dX12_chooses_96 rfl 0 rfl ?_
      obtain ⟨v3, e, h⟩ := bind_some h
      refine gt_X12_9 e dX12_chooses_97 ?_
      refine v_iload_n dX12_chooses_100 rfl 2 rfl ?_
      refine v_iload dX12_chooses_101 4 rfl ?_
      refine v_iadd dX12_chooses_103 ?_
      refine v_aload_n dX12_chooses_104 rfl 0 rfl ?_
      obtain ⟨v4, e, h⟩ := bind_some h
      refine gt_X12_9 e dX12_chooses_105 ?_
      refine v_iload_n dX12_chooses_108 rfl 2 rfl ?_
      refine v_iload dX12_chooses_109 4 rfl ?_
      refine v_iadd dX12_chooses_111 ?_
      refine v_iconst (v := 1) dX12_chooses_112 ci_1 ?_
      refine v_iadd dX12_chooses_113 ?_
      obtain ⟨v5, e, h⟩ := bind_some h
      refine v_iaload dX12_chooses_114 e ?_
      obtain ⟨M6, e, h⟩ := bind_some h
      refine v_iastore dX12_chooses_115 e ?_
      refine v_iinc (ls' := [(5, .int (l5 + 1)), (0, .ref l0), (1, .int l1), (2, .int l2), (4, .int l4)]) dX12_chooses_116 4 rfl (v := 1) ci_1 (by decide) rfl ?_
      refine v_goto (tgt := 79) dX12_chooses_119 (by decide) ?_
      refine v_sub [1, 2, 3, 4, 0] rfl ?_
      exact ih l0 l1 l2 l4 (l5 + 1) M6 h
set_option maxHeartbeats 4000000 in
set_option maxRecDepth 100000 in
theorem w_X12_chooses_J65 {G : Gl} {ρ0 : Nat → Nat} {M0 MF : Mem} {r : Int32} (l0 : Nat) (l1 : Int32) (l2 : Int32) (s0 : Int32) (M : Mem) (h : f_X12_chooses_J65 l0 l1 l2 s0 M = some (r, MF)) : V G (RX12, cX12_chooses, (some .int), 1, 21, 6, "chooses", []) (ρ0, M0, cvI r, MF) 65 [(0, .ref l0), (1, .int l1), (2, .int l2)] [.int s0] M := by
  unfold f_X12_chooses_J65 at h
  refine v_istore_n (ls' := [(3, .int s0), (0, .ref l0), (1, .int l1), (2, .int l2)]) dX12_chooses_65 rfl (by decide) rfl ?_
  refine v_aload_n dX12_chooses_66 rfl 1 rfl ?_
  obtain ⟨v1, e, h⟩ := bind_some h
  refine gt_X12_9 e dX12_chooses_67 ?_
  refine v_iload_n dX12_chooses_70 rfl 3 rfl ?_
  refine v_iload_n dX12_chooses_71 rfl 0 rfl ?_
  refine v_iadd dX12_chooses_72 ?_
  obtain ⟨v2, e, h⟩ := bind_some h
  refine v_iaload dX12_chooses_73 e ?_
  refine v_istore (ls' := [(4, .int v2), (3, .int s0), (0, .ref l0), (1, .int l1), (2, .int l2)]) dX12_chooses_74 (by decide) rfl ?_
  refine v_iload_n dX12_chooses_76 rfl 1 rfl ?_
  refine v_istore (ls' := [(5, .int s0), (4, .int v2), (3, .int s0), (0, .ref l0), (1, .int l1), (2, .int l2)]) dX12_chooses_77 (by decide) rfl ?_
  refine v_sub [3, 4, 5, 1, 0] rfl ?_
  exact w_X12_chooses_L79 FU l0 l1 l2 v2 s0 M h
set_option maxHeartbeats 4000000 in
set_option maxRecDepth 100000 in
theorem w_X12_chooses_J46 {G : Gl} {ρ0 : Nat → Nat} {M0 MF : Mem} {r : Int32} (l0 : Nat) (l1 : Int32) (l2 : Int32) (l3 : Int32) (M : Mem) (h : f_X12_chooses_J46 l0 l1 l2 l3 M = some (r, MF)) : V G (RX12, cX12_chooses, (some .int), 1, 21, 6, "chooses", []) (ρ0, M0, cvI r, MF) 46 [(0, .ref l0), (1, .int l1), (2, .int l2), (3, .int l3)] [] M := by
  unfold f_X12_chooses_J46 at h
  refine v_iload_n dX12_chooses_46 rfl 3 rfl ?_
  refine v_aload_n dX12_chooses_47 rfl 0 rfl ?_
  obtain ⟨v1, e, h⟩ := bind_some h
  refine gt_X12_9 e dX12_chooses_48 ?_
  refine v_sipush (v := 1866) dX12_chooses_51 cs_1866 ?_
  refine v_iload_n dX12_chooses_54 rfl 1 rfl ?_
  refine v_iadd dX12_chooses_55 ?_
  obtain ⟨v2, e, h⟩ := bind_some h
  refine v_iaload dX12_chooses_56 e ?_
  refine v_icmp_ne (tgt := 64) dX12_chooses_57 (by decide) (fun c3 => ?_) (fun c3 => ?_)
  · replace h := ifN c3 h
    refine v_iload_n dX12_chooses_64 rfl 3 rfl ?_
    refine v_sub [0, 1, 2] rfl ?_
    exact w_X12_chooses_J65 l0 l1 l2 l3 M h
  · replace h := ifP c3 h
    refine v_iconst (v := 0) dX12_chooses_60 ci_0 ?_
    refine v_goto (tgt := 65) dX12_chooses_61 (by decide) ?_
    refine v_sub [0, 1, 2] rfl ?_
    exact w_X12_chooses_J65 l0 l1 l2 (0 : Int32) M h
set_option maxHeartbeats 4000000 in
set_option maxRecDepth 100000 in
theorem w_X12_chooses_L11 {G : Gl} {ρ0 : Nat → Nat} {M0 MF : Mem} {r : Int32} : ∀ (n : Nat) (l0 : Nat) (l1 : Int32) (l2 : Int32) (l3 : Int32) (M : Mem), f_X12_chooses_L11 n l0 l1 l2 l3 M = some (r, MF) → V G (RX12, cX12_chooses, (some .int), 1, 21, 6, "chooses", []) (ρ0, M0, cvI r, MF) 11 [(0, .ref l0), (1, .int l1), (2, .int l2), (3, .int l3)] [] M := by
  intro n
  induction n with
  | zero => intro l0 l1 l2 l3 M h; cases h
  | succ n ih =>
    intro l0 l1 l2 l3 M h
    rw [f_X12_chooses_L11] at h
    refine v_iload_n dX12_chooses_11 rfl 3 rfl ?_
    refine v_aload_n dX12_chooses_12 rfl 0 rfl ?_
    obtain ⟨v1, e, h⟩ := bind_some h
    refine gt_X12_9 e dX12_chooses_13 ?_
    refine v_sipush (v := 1866) dX12_chooses_16 cs_1866 ?_
    refine v_iload_n dX12_chooses_19 rfl 1 rfl ?_
    refine v_iadd dX12_chooses_20 ?_
    obtain ⟨v2, e, h⟩ := bind_some h
    refine v_iaload dX12_chooses_21 e ?_
    refine v_icmp_ge (tgt := 46) dX12_chooses_22 (by decide) (fun c8 => ?_) (fun c8 => ?_)
    · replace h := ifP c8 h
      exact w_X12_chooses_J46 l0 l1 l2 l3 M h
    · replace h := ifN c8 h
      refine v_aload_n dX12_chooses_25 rfl 0 rfl ?_
      refine v_aload_n dX12_chooses_26 rfl 0 rfl ?_
      obtain ⟨v3, e, h⟩ := bind_some h
      refine gt_X12_9 e dX12_chooses_27 ?_
      refine v_iload_n dX12_chooses_30 rfl 2 rfl ?_
      refine v_iload_n dX12_chooses_31 rfl 3 rfl ?_
      refine v_iadd dX12_chooses_32 ?_
      obtain ⟨v4, e, h⟩ := bind_some h
      refine v_iaload dX12_chooses_33 e ?_
      obtain ⟨v6, M5, e, h⟩ := bindP_some h
      refine ca_X12_107 e dX12_chooses_34 (Nat.le_of_ble_eq_true rfl) (by decide) ?_
      refine v_if_ne (tgt := 46) dX12_chooses_37 (by decide) (fun c7 => ?_) (fun c7 => ?_)
      · replace h := ifN c7 h
        exact w_X12_chooses_J46 l0 l1 l2 l3 M5 h
      · replace h := ifP c7 h
        refine v_iinc (ls' := [(3, .int (l3 + 1)), (0, .ref l0), (1, .int l1), (2, .int l2)]) dX12_chooses_40 3 rfl (v := 1) ci_1 (by decide) rfl ?_
        refine v_goto (tgt := 11) dX12_chooses_43 (by decide) ?_
        refine v_sub [1, 2, 3, 0] rfl ?_
        exact ih l0 l1 l2 (l3 + 1) M5 h
set_option maxHeartbeats 4000000 in
set_option maxRecDepth 100000 in
theorem w_X12_chooses {G : Gl} {ρ0 : Nat → Nat} {M0 MF : Mem} {r : Int32} (l0 : Nat) (l1 : Int32) (M : Mem) (h : f_X12_chooses l0 l1 M = some (r, MF)) : V G (RX12, cX12_chooses, (some .int), 1, 21, 6, "chooses", []) (ρ0, M0, cvI r, MF) 0 [(0, .ref l0), (1, .int l1)] [] M := by
  unfold f_X12_chooses at h
  replace h := (ifS h).2
  refine v_sipush (v := 1902) dX12_chooses_0 cs_1902 ?_
  refine v_bipush (v := 6) dX12_chooses_3 cb_6 ?_
  refine v_iload_n dX12_chooses_5 rfl 1 rfl ?_
  refine v_imul dX12_chooses_6 ?_
  refine v_iadd dX12_chooses_7 ?_
  refine v_istore_n (ls' := [(2, .int ((1902 : Int32) + ((6 : Int32) * l1))), (0, .ref l0), (1, .int l1)]) dX12_chooses_8 rfl (by decide) rfl ?_
  refine v_iconst (v := 0) dX12_chooses_9 ci_0 ?_
  refine v_istore_n (ls' := [(3, .int (0 : Int32)), (2, .int ((1902 : Int32) + ((6 : Int32) * l1))), (0, .ref l0), (1, .int l1)]) dX12_chooses_10 rfl (by decide) rfl ?_
  refine v_sub [2, 3, 1, 0] rfl ?_
  exact w_X12_chooses_L11 FU l0 l1 ((1902 : Int32) + ((6 : Int32) * l1)) (0 : Int32) M h
theorem kd_X12_chooses {l0 : Nat} {l1 : Int32} {M : Mem} {z : _} (h : f_X12_chooses l0 l1 M = some z) : (mK M l0).1 = 12 := by
  unfold f_X12_chooses at h
  exact (ifS h).1
theorem k_X12_chooses {G : Gl} {l0 : Nat} {l1 : Int32} {M MF : Mem} {r : Int32} (h : f_X12_chooses l0 l1 M = some (r, MF)) : CtrP G yX12_chooses cX12_chooses 6 (some .int) 1 21 [.ref l0, .int l1] M (cvI r) MF :=
  ctr_of (by decide +kernel) (Nat.le_of_ble_eq_true rfl) (fun ρ => w_X12_chooses l0 l1 M h)
theorem wd_X12_166 : wdV RX12 166 RX12 yX12_chooses cX12_chooses 6 (some .int) 1 := ⟨gwi 1380 (by decide +kernel) (by decide +kernel), gwi 1382 (by decide +kernel) (by decide +kernel), gwi 50 (by decide +kernel) (by decide +kernel), nw_X12, gwi 1383 (by decide +kernel) (by decide +kernel), ⟨rfl, by decide +kernel, by decide +kernel, by decide +kernel⟩⟩
theorem ca_X12_166 {G : Gl} {B : Bx} {cc : ByteArray} {ret : Option FieldType} {fr lo nL : Nat} {mn : String} {hh : List (Nat × Nat × Nat × Nat)} {pc : Nat} {ls : List (Nat × Value)} {st : List Value} {M M1 : Mem} {l0 : Nat} {l1 : Int32} {x : Int32} (e : f_X12_chooses l0 l1 M = some (x, M1)) (hd : decode cc pc = .ok (.invokevirtual 166, 3)) (hcat : (st.map fun v => v.category).sum ≤ 8) (hR : 1 + 1 ≤ fr ∧ 8 + (6 + 11) + 21 ≤ lo) (k : V G (RX12, cc, ret, fr, lo, nL, mn, hh) B (pc + 3) ls (.int x :: st) M1) : V G (RX12, cc, ret, fr, lo, nL, mn, hh) B pc ls (.int l1 :: .ref l0 :: st) M := v_callVi (As := [.int l1]) (k_X12_chooses e) wd_X12_166 clX12 (kd_X12_chooses e) hd rfl rfl hcat hR k
set_option maxHeartbeats 4000000 in
set_option maxRecDepth 100000 in
theorem w_X12_publishes_L88 {G : Gl} {ρ0 : Nat → Nat} {M0 MF : Mem} {r : Int32} : ∀ (n : Nat) (l0 : Nat) (l2 : Int32) (l4 : Int32) (l5 : Int32) (l6 : Int32) (M : Mem), f_X12_publishes_L88 n l0 l2 l4 l5 l6 M = some (r, MF) → V G (RX12, cX12_publishes, (some .int), 5, 133, 8, "publishes", []) (ρ0, M0, cvI r, MF) 88 [(0, .ref l0), (2, .int l2), (4, .int l4), (5, .int l5), (6, .int l6)] [] M := by
  intro n
  induction n with
  | zero => intro l0 l2 l4 l5 l6 M h; cases h
  | succ n ih =>
    intro l0 l2 l4 l5 l6 M h
    rw [f_X12_publishes_L88] at h
    refine v_iload dX12_publishes_88 4 rfl ?_
    refine v_aload_n dX12_publishes_90 rfl 0 rfl ?_
    obtain ⟨v1, e, h⟩ := bind_some h
    refine gt_X12_9 e dX12_publishes_91 ?_
    refine v_bipush (v := 16) dX12_publishes_94 cb_16 ?_
    obtain ⟨v2, e, h⟩ := bind_some h
    refine v_iaload dX12_publishes_96 e ?_
    refine v_icmp_ge (tgt := 164) dX12_publishes_97 (by decide) (fun c15 => ?_) (fun c15 => ?_)
    · replace h := ifP c15 h
      refine v_iload dX12_publishes_164 3 rfl ?_
      cases h
      exact v_ireturn dX12_publishes_166
    · replace h := ifN c15 h
      refine v_aload_n dX12_publishes_100 rfl 0 rfl ?_
      refine v_sipush (v := 1256) dX12_publishes_101 cs_1256 ?_
      refine v_iconst (v := 4) dX12_publishes_104 ci_4 ?_
      refine v_iload dX12_publishes_105 4 rfl ?_
      refine v_imul dX12_publishes_107 ?_
      refine v_iadd dX12_publishes_108 ?_
      refine v_aload_n dX12_publishes_109 rfl 0 rfl ?_
      obtain ⟨v3, e, h⟩ := bind_some h
      refine gt_X12_9 e dX12_publishes_110 ?_
      refine v_sipush (v := 1830) dX12_publishes_113 cs_1830 ?_
      refine v_iload dX12_publishes_116 4 rfl ?_
      refine v_iadd dX12_publishes_118 ?_
      obtain ⟨v4, e, h⟩ := bind_some h
      refine v_iaload dX12_publishes_119 e ?_
      obtain ⟨v6, M5, e, h⟩ := bindP_some h
      refine ca_X12_144 e dX12_publishes_120 (Nat.le_of_ble_eq_true rfl) (by decide) ?_
      refine v_if_eq (tgt := 158) dX12_publishes_123 (by decide) (fun c14 => ?_) (fun c14 => ?_)
      · replace h := ifP c14 h
        refine v_iinc (ls' := [(6, .int (l6 + 1)), (0, .ref l0), (2, .int l2), (4, .int l4), (5, .int l5)]) dX12_publishes_158 4 rfl (v := 1) ci_1 (by decide) rfl ?_
        refine v_goto (tgt := 88) dX12_publishes_161 (by decide) ?_
        refine v_sub [1, 2, 3, 4, 0] rfl ?_
        exact ih l0 l2 l4 l5 (l6 + 1) M5 h
      · replace h := ifN c14 h
        refine v_aload_n dX12_publishes_126 rfl 0 rfl ?_
        refine v_iload dX12_publishes_127 4 rfl ?_
        obtain ⟨v8, M7, e, h⟩ := bindP_some h
        refine ca_X12_166 e dX12_publishes_129 (Nat.le_of_ble_eq_true rfl) (by decide) ?_
        refine v_istore (ls' := [(7, .int v8), (0, .ref l0), (2, .int l2), (4, .int l4), (5, .int l5), (6, .int l6)]) dX12_publishes_132 (by decide) rfl ?_
        refine v_aload_n dX12_publishes_134 rfl 1 rfl ?_
        refine v_iload dX12_publishes_135 0 rfl ?_
        refine v_iload_n dX12_publishes_137 rfl 2 rfl ?_
        refine v_aload_n dX12_publishes_138 rfl 1 rfl ?_
        refine v_iload dX12_publishes_139 5 rfl ?_
        refine v_iload dX12_publishes_141 0 rfl ?_
        obtain ⟨v10, M9, e, h⟩ := bindP_some h
        refine ca_X12_169 e dX12_publishes_143 (Nat.le_of_ble_eq_true rfl) (by decide) ?_
        obtain ⟨v12, M11, e, h⟩ := bindP_some h
        refine ca_X12_160 e dX12_publishes_146 (Nat.le_of_ble_eq_true rfl) (by decide) ?_
        refine v_iload dX12_publishes_149 3 rfl ?_
        refine v_iconst (v := 0) dX12_publishes_151 ci_0 ?_
        obtain ⟨M13, e, h⟩ := bind_some h
        refine ca_X12_163 e dX12_publishes_152 (Nat.le_of_ble_eq_true rfl) (by decide) ?_
        refine v_iinc (ls' := [(5, .int (l5 + 1)), (7, .int v8), (0, .ref l0), (2, .int l2), (4, .int l4), (6, .int l6)]) dX12_publishes_155 4 rfl (v := 1) ci_1 (by decide) rfl ?_
        refine v_iinc (ls' := [(6, .int (l6 + 1)), (5, .int (l5 + 1)), (7, .int v8), (0, .ref l0), (2, .int l2), (4, .int l4)]) dX12_publishes_158 5 rfl (v := 1) ci_1 (by decide) rfl ?_
        refine v_goto (tgt := 88) dX12_publishes_161 (by decide) ?_
        refine v_sub [3, 4, 5, 1, 0] rfl ?_
        exact ih l0 l2 l4 (l5 + 1) (l6 + 1) M13 h
set_option maxHeartbeats 4000000 in
set_option maxRecDepth 100000 in
theorem w_X12_publishes_J53 {G : Gl} {ρ0 : Nat → Nat} {M0 MF : Mem} {r : Int32} (k21 : Nat → Int32 → Int32 → Int32 → Int32 → Int32 → Mem → Option (Int32 × Mem)) (h21 : ∀ (l0 : Nat) (l1 : Int32) (l2 : Int32) (l4 : Int32) (l5 : Int32) (l6 : Int32) (M : Mem), k21 l0 l1 l2 l4 l5 l6 M = some (r, MF) → V G (RX12, cX12_publishes, (some .int), 5, 133, 8, "publishes", []) (ρ0, M0, cvI r, MF) 21 [(0, .ref l0), (1, .int l1), (2, .int l2), (4, .int l4), (5, .int l5), (6, .int l6)] [] M) (l0 : Nat) (l1 : Int32) (l2 : Int32) (l4 : Int32) (l5 : Int32) (l6 : Int32) (s0 : Int32) (M : Mem) (h : f_X12_publishes_J53 k21 l0 l1 l2 l4 l5 l6 s0 M = some (r, MF)) : V G (RX12, cX12_publishes, (some .int), 5, 133, 8, "publishes", []) (ρ0, M0, cvI r, MF) 53 [(0, .ref l0), (1, .int l1), (2, .int l2), (4, .int l4), (5, .int l5), (6, .int l6)] [.int s0] M := by
  unfold f_X12_publishes_J53 at h
  refine v_istore (ls' := [(7, .int s0), (0, .ref l0), (1, .int l1), (2, .int l2), (4, .int l4), (5, .int l5), (6, .int l6)]) dX12_publishes_53 (by decide) rfl ?_
  refine v_iload dX12_publishes_55 0 rfl ?_
  refine v_iconst (v := (-1)) dX12_publishes_57 ci_m1 ?_
  refine v_icmp_eq (tgt := 79) dX12_publishes_58 (by decide) (fun c4 => ?_) (fun c4 => ?_)
  · replace h := ifP c4 h
    refine v_iinc (ls' := [(6, .int (l6 + 1)), (7, .int s0), (0, .ref l0), (1, .int l1), (2, .int l2), (4, .int l4), (5, .int l5)]) dX12_publishes_79 6 rfl (v := 1) ci_1 (by decide) rfl ?_
    refine v_goto (tgt := 21) dX12_publishes_82 (by decide) ?_
    refine v_sub [2, 3, 4, 5, 6, 0] rfl ?_
    exact h21 l0 l1 l2 l4 l5 (l6 + 1) M h
  · replace h := ifN c4 h
    refine v_aload_n dX12_publishes_61 rfl 1 rfl ?_
    refine v_iload dX12_publishes_62 6 rfl ?_
    refine v_iload_n dX12_publishes_64 rfl 3 rfl ?_
    refine v_iload dX12_publishes_65 0 rfl ?_
    obtain ⟨v2, M1, e, h⟩ := bindP_some h
    refine ca_X12_160 e dX12_publishes_67 (Nat.le_of_ble_eq_true rfl) (by decide) ?_
    refine v_iload dX12_publishes_70 4 rfl ?_
    refine v_iconst (v := 0) dX12_publishes_72 ci_0 ?_
    obtain ⟨M3, e, h⟩ := bind_some h
    refine ca_X12_163 e dX12_publishes_73 (Nat.le_of_ble_eq_true rfl) (by decide) ?_
    refine v_iinc (ls' := [(5, .int (l5 + 1)), (7, .int s0), (0, .ref l0), (1, .int l1), (2, .int l2), (4, .int l4), (6, .int l6)]) dX12_publishes_76 5 rfl (v := 1) ci_1 (by decide) rfl ?_
    refine v_iinc (ls' := [(6, .int (l6 + 1)), (5, .int (l5 + 1)), (7, .int s0), (0, .ref l0), (1, .int l1), (2, .int l2), (4, .int l4)]) dX12_publishes_79 6 rfl (v := 1) ci_1 (by decide) rfl ?_
    refine v_goto (tgt := 21) dX12_publishes_82 (by decide) ?_
    refine v_sub [3, 4, 5, 6, 1, 0] rfl ?_
    exact h21 l0 l1 l2 l4 (l5 + 1) (l6 + 1) M3 h
set_option maxHeartbeats 4000000 in
set_option maxRecDepth 100000 in
theorem w_X12_publishes_L21 {G : Gl} {ρ0 : Nat → Nat} {M0 MF : Mem} {r : Int32} : ∀ (n : Nat) (l0 : Nat) (l1 : Int32) (l2 : Int32) (l4 : Int32) (l5 : Int32) (l6 : Int32) (M : Mem), f_X12_publishes_L21 n l0 l1 l2 l4 l5 l6 M = some (r, MF) → V G (RX12, cX12_publishes, (some .int), 5, 133, 8, "publishes", []) (ρ0, M0, cvI r, MF) 21 [(0, .ref l0), (1, .int l1), (2, .int l2), (4, .int l4), (5, .int l5), (6, .int l6)] [] M := by
  intro n
  induction n with
  | zero => intro l0 l1 l2 l4 l5 l6 M h; cases h
  | succ n ih =>
    intro l0 l1 l2 l4 l5 l6 M h
    rw [f_X12_publishes_L21] at h
    refine v_iload dX12_publishes_21 5 rfl ?_
    refine v_bipush (v := 6) dX12_publishes_23 cb_6 ?_
    refine v_icmp_ge (tgt := 85) dX12_publishes_25 (by decide) (fun c6 => ?_) (fun c6 => ?_)
    · replace h := ifP c6 h
      refine v_iconst (v := 0) dX12_publishes_85 ci_0 ?_
      refine v_istore (ls' := [(6, .int (0 : Int32)), (0, .ref l0), (1, .int l1), (2, .int l2), (4, .int l4), (5, .int l5)]) dX12_publishes_86 (by decide) rfl ?_
      refine v_sub [1, 3, 4, 5, 0] rfl ?_
      exact w_X12_publishes_L88 FU l0 l2 l4 l5 (0 : Int32) M h
    · replace h := ifN c6 h
      refine v_aload_n dX12_publishes_28 rfl 0 rfl ?_
      obtain ⟨v1, e, h⟩ := bind_some h
      refine gt_X12_9 e dX12_publishes_29 ?_
      refine v_bipush (v := 20) dX12_publishes_32 cb_20 ?_
      refine v_iload dX12_publishes_34 5 rfl ?_
      refine v_iadd dX12_publishes_36 ?_
      obtain ⟨v2, e, h⟩ := bind_some h
      refine v_iaload dX12_publishes_37 e ?_
      refine v_iconst (v := 1) dX12_publishes_38 ci_1 ?_
      refine v_icmp_ne (tgt := 52) dX12_publishes_39 (by decide) (fun c5 => ?_) (fun c5 => ?_)
      · replace h := ifN c5 h
        refine v_iconst (v := (-1)) dX12_publishes_52 ci_m1 ?_
        exact w_X12_publishes_J53 (f_X12_publishes_L21 n) ih l0 l1 l2 l4 l5 l6 (-1 : Int32) M h
      · replace h := ifP c5 h
        refine v_aload_n dX12_publishes_42 rfl 0 rfl ?_
        refine v_iload dX12_publishes_43 5 rfl ?_
        refine v_iload_n dX12_publishes_45 rfl 1 rfl ?_
        obtain ⟨v4, M3, e, h⟩ := bindP_some h
        refine ca_X12_156 e dX12_publishes_46 (Nat.le_of_ble_eq_true rfl) (by decide) ?_
        refine v_goto (tgt := 53) dX12_publishes_49 (by decide) ?_
        exact w_X12_publishes_J53 (f_X12_publishes_L21 n) ih l0 l1 l2 l4 l5 l6 v4 M3 h
set_option maxHeartbeats 4000000 in
set_option maxRecDepth 100000 in
theorem w_X12_publishes {G : Gl} {ρ0 : Nat → Nat} {M0 MF : Mem} {r : Int32} (l0 : Nat) (l1 : Int32) (l2 : Int32) (l3 : Int32) (l4 : Int32) (M : Mem) (h : f_X12_publishes l0 l1 l2 l3 l4 M = some (r, MF)) : V G (RX12, cX12_publishes, (some .int), 5, 133, 8, "publishes", []) (ρ0, M0, cvI r, MF) 0 [(0, .ref l0), (1, .int l1), (2, .int l2), (3, .int l3), (4, .int l4)] [] M := by
  unfold f_X12_publishes at h
  replace h := (ifS h).2
  refine v_aload_n dX12_publishes_0 rfl 0 rfl ?_
  obtain ⟨M1, e, h⟩ := bind_some h
  refine ca_X12_150 e dX12_publishes_1 (Nat.le_of_ble_eq_true rfl) (by decide) ?_
  refine v_iload_n dX12_publishes_4 rfl 3 rfl ?_
  refine v_if_eq (tgt := 15) dX12_publishes_5 (by decide) (fun c3 => ?_) (fun c3 => ?_)
  · replace h := ifP c3 h
    refine v_iconst (v := 0) dX12_publishes_15 ci_0 ?_
    refine v_istore (ls' := [(5, .int (0 : Int32)), (0, .ref l0), (1, .int l1), (2, .int l2), (3, .int l3), (4, .int l4)]) dX12_publishes_16 (by decide) rfl ?_
    refine v_iconst (v := 0) dX12_publishes_18 ci_0 ?_
    refine v_istore (ls' := [(6, .int (0 : Int32)), (5, .int (0 : Int32)), (0, .ref l0), (1, .int l1), (2, .int l2), (3, .int l3), (4, .int l4)]) dX12_publishes_19 (by decide) rfl ?_
    refine v_sub [2, 3, 4, 6, 1, 0] rfl ?_
    exact w_X12_publishes_L21 FU l0 l1 l2 l4 (0 : Int32) (0 : Int32) M1 h
  · replace h := ifN c3 h
    refine v_aload_n dX12_publishes_8 rfl 0 rfl ?_
    refine v_iload_n dX12_publishes_9 rfl 2 rfl ?_
    refine v_iload dX12_publishes_10 4 rfl ?_
    obtain ⟨M2, e, h⟩ := bind_some h
    refine ca_X12_153 e dX12_publishes_12 (Nat.le_of_ble_eq_true rfl) (by decide) ?_
    refine v_iconst (v := 0) dX12_publishes_15 ci_0 ?_
    refine v_istore (ls' := [(5, .int (0 : Int32)), (0, .ref l0), (1, .int l1), (2, .int l2), (3, .int l3), (4, .int l4)]) dX12_publishes_16 (by decide) rfl ?_
    refine v_iconst (v := 0) dX12_publishes_18 ci_0 ?_
    refine v_istore (ls' := [(6, .int (0 : Int32)), (5, .int (0 : Int32)), (0, .ref l0), (1, .int l1), (2, .int l2), (3, .int l3), (4, .int l4)]) dX12_publishes_19 (by decide) rfl ?_
    refine v_sub [2, 3, 4, 6, 1, 0] rfl ?_
    exact w_X12_publishes_L21 FU l0 l1 l2 l4 (0 : Int32) (0 : Int32) M2 h
theorem kd_X12_publishes {l0 : Nat} {l1 : Int32} {l2 : Int32} {l3 : Int32} {l4 : Int32} {M : Mem} {z : _} (h : f_X12_publishes l0 l1 l2 l3 l4 M = some z) : (mK M l0).1 = 12 := by
  unfold f_X12_publishes at h
  exact (ifS h).1
theorem k_X12_publishes {G : Gl} {l0 : Nat} {l1 : Int32} {l2 : Int32} {l3 : Int32} {l4 : Int32} {M MF : Mem} {r : Int32} (h : f_X12_publishes l0 l1 l2 l3 l4 M = some (r, MF)) : CtrP G yX12_publishes cX12_publishes 8 (some .int) 5 133 [.ref l0, .int l1, .int l2, .int l3, .int l4] M (cvI r) MF :=
  ctr_of (by decide +kernel) (Nat.le_of_ble_eq_true rfl) (fun ρ => w_X12_publishes l0 l1 l2 l3 l4 M h)
theorem wd_X12_187 : wdV RX12 187 RX12 yX12_publishes cX12_publishes 8 (some .int) 4 := ⟨gwi 1313 (by decide +kernel) (by decide +kernel), gwi 1315 (by decide +kernel) (by decide +kernel), gwi 36 (by decide +kernel) (by decide +kernel), nw_X12, gwi 1316 (by decide +kernel) (by decide +kernel), ⟨rfl, by decide +kernel, by decide +kernel, by decide +kernel⟩⟩
theorem ca_X12_187 {G : Gl} {B : Bx} {cc : ByteArray} {ret : Option FieldType} {fr lo nL : Nat} {mn : String} {hh : List (Nat × Nat × Nat × Nat)} {pc : Nat} {ls : List (Nat × Value)} {st : List Value} {M M1 : Mem} {l0 : Nat} {l1 : Int32} {l2 : Int32} {l3 : Int32} {l4 : Int32} {x : Int32} (e : f_X12_publishes l0 l1 l2 l3 l4 M = some (x, M1)) (hd : decode cc pc = .ok (.invokevirtual 187, 3)) (hcat : (st.map fun v => v.category).sum ≤ 8) (hR : 5 + 1 ≤ fr ∧ 8 + (8 + 11) + 133 ≤ lo) (k : V G (RX12, cc, ret, fr, lo, nL, mn, hh) B (pc + 3) ls (.int x :: st) M1) : V G (RX12, cc, ret, fr, lo, nL, mn, hh) B pc ls (.int l4 :: .int l3 :: .int l2 :: .int l1 :: .ref l0 :: st) M := v_callVi (As := [.int l1, .int l2, .int l3, .int l4]) (k_X12_publishes e) wd_X12_187 clX12 (kd_X12_publishes e) hd rfl rfl hcat hR k
set_option maxHeartbeats 4000000 in
set_option maxRecDepth 100000 in
theorem w_X12_forgetsShare_L83 {G : Gl} {ρ0 : Nat → Nat} {M0 MF : Mem} {r : Unit} (k2 : Nat → Int32 → Mem → Option Mem) (h2 : ∀ (l0 : Nat) (l2 : Int32) (M : Mem), k2 l0 l2 M = some MF → V G (RX12, cX12_forgetsShare, none, 1, 24, 4, "forgetsShare", []) (ρ0, M0, cvV r, MF) 2 [(0, .ref l0), (2, .int l2)] [] M) : ∀ (n : Nat) (l0 : Nat) (l2 : Int32) (l3 : Int32) (M : Mem), f_X12_forgetsShare_L83 n k2 l0 l2 l3 M = some MF → V G (RX12, cX12_forgetsShare, none, 1, 24, 4, "forgetsShare", []) (ρ0, M0, cvV r, MF) 83 [(0, .ref l0), (2, .int l2), (3, .int l3)] [] M := by
  intro n
  induction n with
  | zero => intro l0 l2 l3 M h; cases h
  | succ n ih =>
    intro l0 l2 l3 M h
    rw [f_X12_forgetsShare_L83] at h
    refine v_iload_n dX12_forgetsShare_83 rfl 2 rfl ?_
    refine v_bipush (v := 6) dX12_forgetsShare_84 cb_6 ?_
    refine v_icmp_ge (tgt := 127) dX12_forgetsShare_86 (by decide) (fun c5 => ?_) (fun c5 => ?_)
    · replace h := ifP c5 h
      refine v_aload_n dX12_forgetsShare_127 rfl 0 rfl ?_
      obtain ⟨v1, e, h⟩ := bind_some h
      refine gt_X12_13 e dX12_forgetsShare_128 ?_
      refine v_sipush (v := 1256) dX12_forgetsShare_131 cs_1256 ?_
      refine v_iconst (v := 4) dX12_forgetsShare_134 ci_4 ?_
      refine v_iload_n dX12_forgetsShare_135 rfl 1 rfl ?_
      refine v_iconst (v := 1) dX12_forgetsShare_136 ci_1 ?_
      refine v_iadd dX12_forgetsShare_137 ?_
      refine v_imul dX12_forgetsShare_138 ?_
      refine v_iadd dX12_forgetsShare_139 ?_
      refine v_aload_n dX12_forgetsShare_140 rfl 0 rfl ?_
      obtain ⟨v2, e, h⟩ := bind_some h
      refine gt_X12_13 e dX12_forgetsShare_141 ?_
      refine v_sipush (v := 1256) dX12_forgetsShare_144 cs_1256 ?_
      refine v_iconst (v := 4) dX12_forgetsShare_147 ci_4 ?_
      refine v_iload_n dX12_forgetsShare_148 rfl 1 rfl ?_
      refine v_imul dX12_forgetsShare_149 ?_
      refine v_iadd dX12_forgetsShare_150 ?_
      obtain ⟨M3, e, h⟩ := bind_some h
      refine ca_X12_97 e dX12_forgetsShare_151 (Nat.le_of_ble_eq_true rfl) (by decide) ?_
      refine v_iinc (ls' := [(2, .int (l2 + 1)), (0, .ref l0), (3, .int l3)]) dX12_forgetsShare_154 1 rfl (v := 1) ci_1 (by decide) rfl ?_
      refine v_goto (tgt := 2) dX12_forgetsShare_157 (by decide) ?_
      refine v_sub [1, 0] rfl ?_
      exact h2 l0 (l2 + 1) M3 h
    · replace h := ifN c5 h
      refine v_aload_n dX12_forgetsShare_89 rfl 0 rfl ?_
      obtain ⟨v1, e, h⟩ := bind_some h
      refine gt_X12_9 e dX12_forgetsShare_90 ?_
      refine v_sipush (v := 1902) dX12_forgetsShare_93 cs_1902 ?_
      refine v_bipush (v := 6) dX12_forgetsShare_96 cb_6 ?_
      refine v_iload_n dX12_forgetsShare_98 rfl 1 rfl ?_
      refine v_imul dX12_forgetsShare_99 ?_
      refine v_iadd dX12_forgetsShare_100 ?_
      refine v_iload_n dX12_forgetsShare_101 rfl 2 rfl ?_
      refine v_iadd dX12_forgetsShare_102 ?_
      refine v_aload_n dX12_forgetsShare_103 rfl 0 rfl ?_
      obtain ⟨v2, e, h⟩ := bind_some h
      refine gt_X12_9 e dX12_forgetsShare_104 ?_
      refine v_sipush (v := 1902) dX12_forgetsShare_107 cs_1902 ?_
      refine v_bipush (v := 6) dX12_forgetsShare_110 cb_6 ?_
      refine v_iload_n dX12_forgetsShare_112 rfl 1 rfl ?_
      refine v_iconst (v := 1) dX12_forgetsShare_113 ci_1 ?_
      refine v_iadd dX12_forgetsShare_114 ?_
      refine v_imul dX12_forgetsShare_115 ?_
      refine v_iadd dX12_forgetsShare_116 ?_
      refine v_iload_n dX12_forgetsShare_117 rfl 2 rfl ?_
      refine v_iadd dX12_forgetsShare_118 ?_
      obtain ⟨v3, e, h⟩ := bind_some h
      refine v_iaload dX12_forgetsShare_119 e ?_
      obtain ⟨M4, e, h⟩ := bind_some h
      refine v_iastore dX12_forgetsShare_120 e ?_
      refine v_iinc (ls' := [(3, .int (l3 + 1)), (0, .ref l0), (2, .int l2)]) dX12_forgetsShare_121 2 rfl (v := 1) ci_1 (by decide) rfl ?_
      refine v_goto (tgt := 83) dX12_forgetsShare_124 (by decide) ?_
      refine v_sub [1, 2, 0] rfl ?_
      exact ih l0 l2 (l3 + 1) M4 h
set_option maxHeartbeats 4000000 in
set_option maxRecDepth 100000 in
theorem w_X12_forgetsShare_L2 {G : Gl} {ρ0 : Nat → Nat} {M0 MF : Mem} {r : Unit} : ∀ (n : Nat) (l0 : Nat) (l2 : Int32) (M : Mem), f_X12_forgetsShare_L2 n l0 l2 M = some MF → V G (RX12, cX12_forgetsShare, none, 1, 24, 4, "forgetsShare", []) (ρ0, M0, cvV r, MF) 2 [(0, .ref l0), (2, .int l2)] [] M := by
  intro n
  induction n with
  | zero => intro l0 l2 M h; cases h
  | succ n ih =>
    intro l0 l2 M h
    rw [f_X12_forgetsShare_L2] at h
    refine v_iload_n dX12_forgetsShare_2 rfl 1 rfl ?_
    refine v_aload_n dX12_forgetsShare_3 rfl 0 rfl ?_
    obtain ⟨v1, e, h⟩ := bind_some h
    refine gt_X12_9 e dX12_forgetsShare_4 ?_
    refine v_bipush (v := 16) dX12_forgetsShare_7 cb_16 ?_
    obtain ⟨v2, e, h⟩ := bind_some h
    refine v_iaload dX12_forgetsShare_9 e ?_
    refine v_iconst (v := 1) dX12_forgetsShare_10 ci_1 ?_
    refine v_isub dX12_forgetsShare_11 ?_
    refine v_icmp_ge (tgt := 160) dX12_forgetsShare_12 (by decide) (fun c15 => ?_) (fun c15 => ?_)
    · replace h := ifP c15 h
      refine v_aload_n dX12_forgetsShare_160 rfl 0 rfl ?_
      obtain ⟨v3, e, h⟩ := bind_some h
      refine gt_X12_9 e dX12_forgetsShare_161 ?_
      refine v_bipush (v := 16) dX12_forgetsShare_164 cb_16 ?_
      refine v_dup2 dX12_forgetsShare_166 rfl rfl ?_
      obtain ⟨v4, e, h⟩ := bind_some h
      refine v_iaload dX12_forgetsShare_167 e ?_
      refine v_iconst (v := 1) dX12_forgetsShare_168 ci_1 ?_
      refine v_isub dX12_forgetsShare_169 ?_
      obtain ⟨M5, e, h⟩ := bind_some h
      refine v_iastore dX12_forgetsShare_170 e ?_
      cases h
      exact v_vreturn dX12_forgetsShare_171
    · replace h := ifN c15 h
      refine v_aload_n dX12_forgetsShare_15 rfl 0 rfl ?_
      obtain ⟨v3, e, h⟩ := bind_some h
      refine gt_X12_9 e dX12_forgetsShare_16 ?_
      refine v_sipush (v := 1794) dX12_forgetsShare_19 cs_1794 ?_
      refine v_iload_n dX12_forgetsShare_22 rfl 1 rfl ?_
      refine v_iadd dX12_forgetsShare_23 ?_
      refine v_aload_n dX12_forgetsShare_24 rfl 0 rfl ?_
      obtain ⟨v4, e, h⟩ := bind_some h
      refine gt_X12_9 e dX12_forgetsShare_25 ?_
      refine v_sipush (v := 1794) dX12_forgetsShare_28 cs_1794 ?_
      refine v_iload_n dX12_forgetsShare_31 rfl 1 rfl ?_
      refine v_iadd dX12_forgetsShare_32 ?_
      refine v_iconst (v := 1) dX12_forgetsShare_33 ci_1 ?_
      refine v_iadd dX12_forgetsShare_34 ?_
      obtain ⟨v5, e, h⟩ := bind_some h
      refine v_iaload dX12_forgetsShare_35 e ?_
      obtain ⟨M6, e, h⟩ := bind_some h
      refine v_iastore dX12_forgetsShare_36 e ?_
      refine v_aload_n dX12_forgetsShare_37 rfl 0 rfl ?_
      obtain ⟨v7, e, h⟩ := bind_some h
      refine gt_X12_9 e dX12_forgetsShare_38 ?_
      refine v_sipush (v := 1830) dX12_forgetsShare_41 cs_1830 ?_
      refine v_iload_n dX12_forgetsShare_44 rfl 1 rfl ?_
      refine v_iadd dX12_forgetsShare_45 ?_
      refine v_aload_n dX12_forgetsShare_46 rfl 0 rfl ?_
      obtain ⟨v8, e, h⟩ := bind_some h
      refine gt_X12_9 e dX12_forgetsShare_47 ?_
      refine v_sipush (v := 1830) dX12_forgetsShare_50 cs_1830 ?_
      refine v_iload_n dX12_forgetsShare_53 rfl 1 rfl ?_
      refine v_iadd dX12_forgetsShare_54 ?_
      refine v_iconst (v := 1) dX12_forgetsShare_55 ci_1 ?_
      refine v_iadd dX12_forgetsShare_56 ?_
      obtain ⟨v9, e, h⟩ := bind_some h
      refine v_iaload dX12_forgetsShare_57 e ?_
      obtain ⟨M10, e, h⟩ := bind_some h
      refine v_iastore dX12_forgetsShare_58 e ?_
      refine v_aload_n dX12_forgetsShare_59 rfl 0 rfl ?_
      obtain ⟨v11, e, h⟩ := bind_some h
      refine gt_X12_9 e dX12_forgetsShare_60 ?_
      refine v_sipush (v := 1866) dX12_forgetsShare_63 cs_1866 ?_
      refine v_iload_n dX12_forgetsShare_66 rfl 1 rfl ?_
      refine v_iadd dX12_forgetsShare_67 ?_
      refine v_aload_n dX12_forgetsShare_68 rfl 0 rfl ?_
      obtain ⟨v12, e, h⟩ := bind_some h
      refine gt_X12_9 e dX12_forgetsShare_69 ?_
      refine v_sipush (v := 1866) dX12_forgetsShare_72 cs_1866 ?_
      refine v_iload_n dX12_forgetsShare_75 rfl 1 rfl ?_
      refine v_iadd dX12_forgetsShare_76 ?_
      refine v_iconst (v := 1) dX12_forgetsShare_77 ci_1 ?_
      refine v_iadd dX12_forgetsShare_78 ?_
      obtain ⟨v13, e, h⟩ := bind_some h
      refine v_iaload dX12_forgetsShare_79 e ?_
      obtain ⟨M14, e, h⟩ := bind_some h
      refine v_iastore dX12_forgetsShare_80 e ?_
      refine v_iconst (v := 0) dX12_forgetsShare_81 ci_0 ?_
      refine v_istore_n (ls' := [(3, .int (0 : Int32)), (0, .ref l0), (2, .int l2)]) dX12_forgetsShare_82 rfl (by decide) rfl ?_
      refine v_sub [1, 2, 0] rfl ?_
      exact w_X12_forgetsShare_L83 (f_X12_forgetsShare_L2 n) ih FU l0 l2 (0 : Int32) M14 h
set_option maxHeartbeats 4000000 in
set_option maxRecDepth 100000 in
theorem w_X12_forgetsShare {G : Gl} {ρ0 : Nat → Nat} {M0 MF : Mem} {r : Unit} (l0 : Nat) (l1 : Int32) (M : Mem) (h : f_X12_forgetsShare l0 l1 M = some MF) : V G (RX12, cX12_forgetsShare, none, 1, 24, 4, "forgetsShare", []) (ρ0, M0, cvV r, MF) 0 [(0, .ref l0), (1, .int l1)] [] M := by
  unfold f_X12_forgetsShare at h
  replace h := (ifS h).2
  refine v_iload_n dX12_forgetsShare_0 rfl 1 rfl ?_
  refine v_istore_n (ls' := [(2, .int l1), (0, .ref l0), (1, .int l1)]) dX12_forgetsShare_1 rfl (by decide) rfl ?_
  refine v_sub [1, 0] rfl ?_
  exact w_X12_forgetsShare_L2 FU l0 l1 M h
theorem kd_X12_forgetsShare {l0 : Nat} {l1 : Int32} {M : Mem} {z : _} (h : f_X12_forgetsShare l0 l1 M = some z) : (mK M l0).1 = 12 := by
  unfold f_X12_forgetsShare at h
  exact (ifS h).1
theorem k_X12_forgetsShare {G : Gl} {l0 : Nat} {l1 : Int32} {M MF : Mem} (h : f_X12_forgetsShare l0 l1 M = some MF) : CtrP G yX12_forgetsShare cX12_forgetsShare 4 none 1 24 [.ref l0, .int l1] M (cvV ()) MF :=
  ctr_of (by decide +kernel) (Nat.le_of_ble_eq_true rfl) (fun ρ => w_X12_forgetsShare (r := ()) l0 l1 M h)
theorem wd_X12_172 : wdV RX12 172 RX12 yX12_forgetsShare cX12_forgetsShare 4 none 1 := ⟨gwi 1306 (by decide +kernel) (by decide +kernel), gwi 1308 (by decide +kernel) (by decide +kernel), gwi 35 (by decide +kernel) (by decide +kernel), nw_X12, gwi 1309 (by decide +kernel) (by decide +kernel), ⟨rfl, by decide +kernel, by decide +kernel, by decide +kernel⟩⟩
theorem ca_X12_172 {G : Gl} {B : Bx} {cc : ByteArray} {ret : Option FieldType} {fr lo nL : Nat} {mn : String} {hh : List (Nat × Nat × Nat × Nat)} {pc : Nat} {ls : List (Nat × Value)} {st : List Value} {M M1 : Mem} {l0 : Nat} {l1 : Int32} (e : f_X12_forgetsShare l0 l1 M = some M1) (hd : decode cc pc = .ok (.invokevirtual 172, 3)) (hcat : (st.map fun v => v.category).sum ≤ 8) (hR : 1 + 1 ≤ fr ∧ 8 + (4 + 11) + 24 ≤ lo) (k : V G (RX12, cc, ret, fr, lo, nL, mn, hh) B (pc + 3) ls (st) M1) : V G (RX12, cc, ret, fr, lo, nL, mn, hh) B pc ls (.int l1 :: .ref l0 :: st) M := v_callV0 (As := [.int l1]) (k_X12_forgetsShare e) wd_X12_172 clX12 (kd_X12_forgetsShare e) hd rfl rfl hcat hR k
set_option maxHeartbeats 4000000 in
set_option maxRecDepth 100000 in
theorem w_X12_leavesShare_L78 {G : Gl} {ρ0 : Nat → Nat} {M0 MF : Mem} {r : Unit} : ∀ (n : Nat) (l0 : Nat) (l3 : Int32) (l4 : Int32) (l6 : Int32) (M : Mem), f_X12_leavesShare_L78 n l0 l3 l4 l6 M = some MF → V G (RX12, cX12_leavesShare, none, 2, 48, 7, "leavesShare", []) (ρ0, M0, cvV r, MF) 78 [(0, .ref l0), (3, .int l3), (4, .int l4), (6, .int l6)] [] M := by
  intro n
  induction n with
  | zero => intro l0 l3 l4 l6 M h; cases h
  | succ n ih =>
    intro l0 l3 l4 l6 M h
    rw [f_X12_leavesShare_L78] at h
    refine v_iload dX12_leavesShare_78 3 rfl ?_
    refine v_aload_n dX12_leavesShare_80 rfl 0 rfl ?_
    obtain ⟨v1, e, h⟩ := bind_some h
    refine gt_X12_9 e dX12_leavesShare_81 ?_
    refine v_sipush (v := 1866) dX12_leavesShare_84 cs_1866 ?_
    refine v_iload_n dX12_leavesShare_87 rfl 1 rfl ?_
    refine v_iadd dX12_leavesShare_88 ?_
    obtain ⟨v2, e, h⟩ := bind_some h
    refine v_iaload dX12_leavesShare_89 e ?_
    refine v_iconst (v := 1) dX12_leavesShare_90 ci_1 ?_
    refine v_isub dX12_leavesShare_91 ?_
    refine v_icmp_ge (tgt := 123) dX12_leavesShare_92 (by decide) (fun c10 => ?_) (fun c10 => ?_)
    · replace h := ifP c10 h
      refine v_aload_n dX12_leavesShare_123 rfl 0 rfl ?_
      obtain ⟨v3, e, h⟩ := bind_some h
      refine gt_X12_9 e dX12_leavesShare_124 ?_
      refine v_sipush (v := 1866) dX12_leavesShare_127 cs_1866 ?_
      refine v_iload_n dX12_leavesShare_130 rfl 1 rfl ?_
      refine v_iadd dX12_leavesShare_131 ?_
      refine v_dup2 dX12_leavesShare_132 rfl rfl ?_
      obtain ⟨v4, e, h⟩ := bind_some h
      refine v_iaload dX12_leavesShare_133 e ?_
      refine v_iconst (v := 1) dX12_leavesShare_134 ci_1 ?_
      refine v_isub dX12_leavesShare_135 ?_
      obtain ⟨M5, e, h⟩ := bind_some h
      refine v_iastore dX12_leavesShare_136 e ?_
      refine v_aload_n dX12_leavesShare_137 rfl 0 rfl ?_
      obtain ⟨v6, e, h⟩ := bind_some h
      refine gt_X12_9 e dX12_leavesShare_138 ?_
      refine v_sipush (v := 1866) dX12_leavesShare_141 cs_1866 ?_
      refine v_iload_n dX12_leavesShare_144 rfl 1 rfl ?_
      refine v_iadd dX12_leavesShare_145 ?_
      obtain ⟨v7, e, h⟩ := bind_some h
      refine v_iaload dX12_leavesShare_146 e ?_
      refine v_if_ne (tgt := 155) dX12_leavesShare_147 (by decide) (fun c9 => ?_) (fun c9 => ?_)
      · replace h := ifN c9 h
        cases h
        exact v_vreturn dX12_leavesShare_155
      · replace h := ifP c9 h
        refine v_aload_n dX12_leavesShare_150 rfl 0 rfl ?_
        refine v_iload_n dX12_leavesShare_151 rfl 1 rfl ?_
        obtain ⟨M8, e, h⟩ := bind_some h
        refine ca_X12_172 e dX12_leavesShare_152 (Nat.le_of_ble_eq_true rfl) (by decide) ?_
        cases h
        exact v_vreturn dX12_leavesShare_155
    · replace h := ifN c10 h
      refine v_aload_n dX12_leavesShare_95 rfl 0 rfl ?_
      obtain ⟨v3, e, h⟩ := bind_some h
      refine gt_X12_9 e dX12_leavesShare_96 ?_
      refine v_iload dX12_leavesShare_99 2 rfl ?_
      refine v_iload dX12_leavesShare_101 3 rfl ?_
      refine v_iadd dX12_leavesShare_103 ?_
      refine v_aload_n dX12_leavesShare_104 rfl 0 rfl ?_
      obtain ⟨v4, e, h⟩ := bind_some h
      refine gt_X12_9 e dX12_leavesShare_105 ?_
      refine v_iload dX12_leavesShare_108 2 rfl ?_
      refine v_iload dX12_leavesShare_110 3 rfl ?_
      refine v_iadd dX12_leavesShare_112 ?_
      refine v_iconst (v := 1) dX12_leavesShare_113 ci_1 ?_
      refine v_iadd dX12_leavesShare_114 ?_
      obtain ⟨v5, e, h⟩ := bind_some h
      refine v_iaload dX12_leavesShare_115 e ?_
      obtain ⟨M6, e, h⟩ := bind_some h
      refine v_iastore dX12_leavesShare_116 e ?_
      refine v_iinc (ls' := [(6, .int (l6 + 1)), (0, .ref l0), (3, .int l3), (4, .int l4)]) dX12_leavesShare_117 3 rfl (v := 1) ci_1 (by decide) rfl ?_
      refine v_goto (tgt := 78) dX12_leavesShare_120 (by decide) ?_
      refine v_sub [1, 2, 3, 0] rfl ?_
      exact ih l0 l3 l4 (l6 + 1) M6 h
set_option maxHeartbeats 4000000 in
set_option maxRecDepth 100000 in
theorem w_X12_leavesShare_L54 {G : Gl} {ρ0 : Nat → Nat} {M0 MF : Mem} {r : Unit} : ∀ (n : Nat) (l0 : Nat) (l1 : Int32) (l3 : Int32) (l4 : Int32) (l5 : Int32) (M : Mem), f_X12_leavesShare_L54 n l0 l1 l3 l4 l5 M = some MF → V G (RX12, cX12_leavesShare, none, 2, 48, 7, "leavesShare", []) (ρ0, M0, cvV r, MF) 54 [(0, .ref l0), (1, .int l1), (3, .int l3), (4, .int l4), (5, .int l5)] [] M := by
  intro n
  induction n with
  | zero => intro l0 l1 l3 l4 l5 M h; cases h
  | succ n ih =>
    intro l0 l1 l3 l4 l5 M h
    rw [f_X12_leavesShare_L54] at h
    refine v_aload_n dX12_leavesShare_54 rfl 0 rfl ?_
    obtain ⟨v1, e, h⟩ := bind_some h
    refine gt_X12_9 e dX12_leavesShare_55 ?_
    refine v_iload dX12_leavesShare_58 3 rfl ?_
    refine v_iload dX12_leavesShare_60 4 rfl ?_
    refine v_iadd dX12_leavesShare_62 ?_
    obtain ⟨v2, e, h⟩ := bind_some h
    refine v_iaload dX12_leavesShare_63 e ?_
    refine v_iload_n dX12_leavesShare_64 rfl 1 rfl ?_
    refine v_icmp_eq (tgt := 74) dX12_leavesShare_65 (by decide) (fun c3 => ?_) (fun c3 => ?_)
    · replace h := ifP c3 h
      refine v_iload dX12_leavesShare_74 4 rfl ?_
      refine v_istore (ls' := [(6, .int l5), (0, .ref l0), (1, .int l1), (3, .int l3), (4, .int l4), (5, .int l5)]) dX12_leavesShare_76 (by decide) rfl ?_
      refine v_sub [1, 3, 4, 0] rfl ?_
      exact w_X12_leavesShare_L78 FU l0 l3 l4 l5 M h
    · replace h := ifN c3 h
      refine v_iinc (ls' := [(5, .int (l5 + 1)), (0, .ref l0), (1, .int l1), (3, .int l3), (4, .int l4)]) dX12_leavesShare_68 4 rfl (v := 1) ci_1 (by decide) rfl ?_
      refine v_goto (tgt := 54) dX12_leavesShare_71 (by decide) ?_
      refine v_sub [1, 2, 3, 4, 0] rfl ?_
      exact ih l0 l1 l3 l4 (l5 + 1) M h
set_option maxHeartbeats 4000000 in
set_option maxRecDepth 100000 in
theorem w_X12_leavesShare_J29 {G : Gl} {ρ0 : Nat → Nat} {M0 MF : Mem} {r : Unit} (l0 : Nat) (l1 : Int32) (l3 : Int32) (M : Mem) (h : f_X12_leavesShare_J29 l0 l1 l3 M = some MF) : V G (RX12, cX12_leavesShare, none, 2, 48, 7, "leavesShare", []) (ρ0, M0, cvV r, MF) 29 [(0, .ref l0), (1, .int l1), (3, .int l3)] [] M := by
  unfold f_X12_leavesShare_J29 at h
  refine v_iload_n dX12_leavesShare_29 rfl 2 rfl ?_
  refine v_aload_n dX12_leavesShare_30 rfl 0 rfl ?_
  obtain ⟨v1, e, h⟩ := bind_some h
  refine gt_X12_9 e dX12_leavesShare_31 ?_
  refine v_bipush (v := 16) dX12_leavesShare_34 cb_16 ?_
  obtain ⟨v2, e, h⟩ := bind_some h
  refine v_iaload dX12_leavesShare_36 e ?_
  refine v_icmp_ne (tgt := 41) dX12_leavesShare_37 (by decide) (fun c3 => ?_) (fun c3 => ?_)
  · replace h := ifN c3 h
    refine v_sipush (v := 1902) dX12_leavesShare_41 cs_1902 ?_
    refine v_bipush (v := 6) dX12_leavesShare_44 cb_6 ?_
    refine v_iload_n dX12_leavesShare_46 rfl 2 rfl ?_
    refine v_imul dX12_leavesShare_47 ?_
    refine v_iadd dX12_leavesShare_48 ?_
    refine v_istore (ls' := [(4, .int ((1902 : Int32) + ((6 : Int32) * l3))), (0, .ref l0), (1, .int l1), (3, .int l3)]) dX12_leavesShare_49 (by decide) rfl ?_
    refine v_iconst (v := 0) dX12_leavesShare_51 ci_0 ?_
    refine v_istore (ls' := [(5, .int (0 : Int32)), (4, .int ((1902 : Int32) + ((6 : Int32) * l3))), (0, .ref l0), (1, .int l1), (3, .int l3)]) dX12_leavesShare_52 (by decide) rfl ?_
    refine v_sub [2, 3, 4, 1, 0] rfl ?_
    exact w_X12_leavesShare_L54 FU l0 l1 l3 ((1902 : Int32) + ((6 : Int32) * l3)) (0 : Int32) M h
  · replace h := ifP c3 h
    cases h
    exact v_vreturn dX12_leavesShare_40
set_option maxHeartbeats 4000000 in
set_option maxRecDepth 100000 in
theorem w_X12_leavesShare_L2 {G : Gl} {ρ0 : Nat → Nat} {M0 MF : Mem} {r : Unit} : ∀ (n : Nat) (l0 : Nat) (l1 : Int32) (l2 : Int32) (l3 : Int32) (M : Mem), f_X12_leavesShare_L2 n l0 l1 l2 l3 M = some MF → V G (RX12, cX12_leavesShare, none, 2, 48, 7, "leavesShare", []) (ρ0, M0, cvV r, MF) 2 [(0, .ref l0), (1, .int l1), (2, .int l2), (3, .int l3)] [] M := by
  intro n
  induction n with
  | zero => intro l0 l1 l2 l3 M h; cases h
  | succ n ih =>
    intro l0 l1 l2 l3 M h
    rw [f_X12_leavesShare_L2] at h
    refine v_iload_n dX12_leavesShare_2 rfl 3 rfl ?_
    refine v_aload_n dX12_leavesShare_3 rfl 0 rfl ?_
    obtain ⟨v1, e, h⟩ := bind_some h
    refine gt_X12_9 e dX12_leavesShare_4 ?_
    refine v_bipush (v := 16) dX12_leavesShare_7 cb_16 ?_
    obtain ⟨v2, e, h⟩ := bind_some h
    refine v_iaload dX12_leavesShare_9 e ?_
    refine v_icmp_ge (tgt := 29) dX12_leavesShare_10 (by decide) (fun c6 => ?_) (fun c6 => ?_)
    · replace h := ifP c6 h
      refine v_sub [0, 1, 3] rfl ?_
      exact w_X12_leavesShare_J29 l0 l1 l3 M h
    · replace h := ifN c6 h
      refine v_aload_n dX12_leavesShare_13 rfl 0 rfl ?_
      refine v_iload_n dX12_leavesShare_14 rfl 2 rfl ?_
      refine v_iload_n dX12_leavesShare_15 rfl 1 rfl ?_
      refine v_iload_n dX12_leavesShare_16 rfl 3 rfl ?_
      obtain ⟨v4, M3, e, h⟩ := bindP_some h
      refine ca_X12_147 e dX12_leavesShare_17 (Nat.le_of_ble_eq_true rfl) (by decide) ?_
      refine v_if_ne (tgt := 29) dX12_leavesShare_20 (by decide) (fun c5 => ?_) (fun c5 => ?_)
      · replace h := ifN c5 h
        refine v_sub [0, 1, 3] rfl ?_
        exact w_X12_leavesShare_J29 l0 l1 l3 M3 h
      · replace h := ifP c5 h
        refine v_iinc (ls' := [(3, .int (l3 + 1)), (0, .ref l0), (1, .int l1), (2, .int l2)]) dX12_leavesShare_23 3 rfl (v := 1) ci_1 (by decide) rfl ?_
        refine v_goto (tgt := 2) dX12_leavesShare_26 (by decide) ?_
        refine v_sub [1, 2, 3, 0] rfl ?_
        exact ih l0 l1 l2 (l3 + 1) M3 h
set_option maxHeartbeats 4000000 in
set_option maxRecDepth 100000 in
theorem w_X12_leavesShare {G : Gl} {ρ0 : Nat → Nat} {M0 MF : Mem} {r : Unit} (l0 : Nat) (l1 : Int32) (l2 : Int32) (M : Mem) (h : f_X12_leavesShare l0 l1 l2 M = some MF) : V G (RX12, cX12_leavesShare, none, 2, 48, 7, "leavesShare", []) (ρ0, M0, cvV r, MF) 0 [(0, .ref l0), (1, .int l1), (2, .int l2)] [] M := by
  unfold f_X12_leavesShare at h
  replace h := (ifS h).2
  refine v_iconst (v := 0) dX12_leavesShare_0 ci_0 ?_
  refine v_istore_n (ls' := [(3, .int (0 : Int32)), (0, .ref l0), (1, .int l1), (2, .int l2)]) dX12_leavesShare_1 rfl (by decide) rfl ?_
  refine v_sub [1, 2, 3, 0] rfl ?_
  exact w_X12_leavesShare_L2 FU l0 l1 l2 (0 : Int32) M h
theorem kd_X12_leavesShare {l0 : Nat} {l1 : Int32} {l2 : Int32} {M : Mem} {z : _} (h : f_X12_leavesShare l0 l1 l2 M = some z) : (mK M l0).1 = 12 := by
  unfold f_X12_leavesShare at h
  exact (ifS h).1
theorem k_X12_leavesShare {G : Gl} {l0 : Nat} {l1 : Int32} {l2 : Int32} {M MF : Mem} (h : f_X12_leavesShare l0 l1 l2 M = some MF) : CtrP G yX12_leavesShare cX12_leavesShare 7 none 2 48 [.ref l0, .int l1, .int l2] M (cvV ()) MF :=
  ctr_of (by decide +kernel) (Nat.le_of_ble_eq_true rfl) (fun ρ => w_X12_leavesShare (r := ()) l0 l1 l2 M h)
theorem wd_X12_175 : wdV RX12 175 RX12 yX12_leavesShare cX12_leavesShare 7 none 2 := ⟨gwi 1295 (by decide +kernel) (by decide +kernel), gwi 1297 (by decide +kernel) (by decide +kernel), gwi 33 (by decide +kernel) (by decide +kernel), nw_X12, gwi 1298 (by decide +kernel) (by decide +kernel), ⟨rfl, by decide +kernel, by decide +kernel, by decide +kernel⟩⟩
theorem ca_X12_175 {G : Gl} {B : Bx} {cc : ByteArray} {ret : Option FieldType} {fr lo nL : Nat} {mn : String} {hh : List (Nat × Nat × Nat × Nat)} {pc : Nat} {ls : List (Nat × Value)} {st : List Value} {M M1 : Mem} {l0 : Nat} {l1 : Int32} {l2 : Int32} (e : f_X12_leavesShare l0 l1 l2 M = some M1) (hd : decode cc pc = .ok (.invokevirtual 175, 3)) (hcat : (st.map fun v => v.category).sum ≤ 8) (hR : 2 + 1 ≤ fr ∧ 8 + (7 + 11) + 48 ≤ lo) (k : V G (RX12, cc, ret, fr, lo, nL, mn, hh) B (pc + 3) ls (st) M1) : V G (RX12, cc, ret, fr, lo, nL, mn, hh) B pc ls (.int l2 :: .int l1 :: .ref l0 :: st) M := v_callV0 (As := [.int l1, .int l2]) (k_X12_leavesShare e) wd_X12_175 clX12 (kd_X12_leavesShare e) hd rfl rfl hcat hR k
