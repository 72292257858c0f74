set_option maxHeartbeats 4000000 in
set_option maxRecDepth 100000 in
theorem w_X12_load {G : Gl} {ρ0 : Nat → Nat} {M0 MF : Mem} {r : Int32} (l0 : Nat) (l1 : Int32) (M : Mem) (h : f_X12_load l0 l1 M = some (r, MF)) : V G (RX12, cX12_load, (some .int), 2, 42, 2, "load", []) (ρ0, M0, cvI r, MF) 0 [(0, .ref l0), (1, .int l1)] [] M := by
  unfold f_X12_load at h
  replace h := (ifS h).2
  refine v_aload_n dX12_load_0 rfl 0 rfl ?_
  refine v_iconst (v := 0) dX12_load_1 ci_0 ?_
  obtain ⟨M1, e, h⟩ := bind_some h
  refine pt_X12_52 e dX12_load_2 ?_
  refine v_iload_n dX12_load_5 rfl 1 rfl ?_
  obtain ⟨v3, M2, e, h⟩ := bindP_some h
  refine ca_X12_191 e dX12_load_6 (Nat.le_of_ble_eq_true rfl) (by decide) ?_
  refine v_if_eq (tgt := 26) dX12_load_9 (by decide) (fun c7 => ?_) (fun c7 => ?_)
  · replace h := ifP c7 h
    refine v_aload_n dX12_load_26 rfl 0 rfl ?_
    refine v_iconst (v := 1) dX12_load_27 ci_1 ?_
    obtain ⟨v5, M4, e, h⟩ := bindP_some h
    refine ca_X12_86 e dX12_load_28 (Nat.le_of_ble_eq_true rfl) (by decide) ?_
    cases h
    exact v_ireturn dX12_load_31
  · replace h := ifN c7 h
    refine v_aload_n dX12_load_12 rfl 0 rfl ?_
    obtain ⟨v4, e, h⟩ := bind_some h
    refine gt_X12_17 e dX12_load_13 ?_
    refine v_iload_n dX12_load_16 rfl 1 rfl ?_
    obtain ⟨v5, e, h⟩ := bind_some h
    refine v_faload dX12_load_17 e ?_
    refine kf_X12_272 dX12_load_18 ?_
    obtain ⟨v6, e, h⟩ := bind_some h
    refine v_fmul dX12_load_21 e ?_
    refine v_f2i dX12_load_22 ?_
    refine v_goto (tgt := 31) dX12_load_23 (by decide) ?_
    cases h
    exact v_ireturn dX12_load_31
theorem kd_X12_load {l0 : Nat} {l1 : Int32} {M : Mem} {z : _} (h : f_X12_load l0 l1 M = some z) : (mK M l0).1 = 12 := by
  unfold f_X12_load at h
  exact (ifS h).1
theorem k_X12_load {G : Gl} {l0 : Nat} {l1 : Int32} {M MF : Mem} {r : Int32} (h : f_X12_load l0 l1 M = some (r, MF)) : CtrP G yX12_load cX12_load 2 (some .int) 2 42 [.ref l0, .int l1] M (cvI r) MF :=
  ctr_of (by decide +kernel) (Nat.le_of_ble_eq_true rfl) (fun ρ => w_X12_load l0 l1 M h)
set_option maxHeartbeats 4000000 in
set_option maxRecDepth 100000 in
theorem w_X12_retainedCount {G : Gl} {ρ0 : Nat → Nat} {M0 MF : Mem} {r : Int32} (l0 : Nat) (M : Mem) (h : f_X12_retainedCount l0 M = some (r, MF)) : V G (RX12, cX12_retainedCount, (some .int), 0, 0, 1, "retainedCount", []) (ρ0, M0, cvI r, MF) 0 [(0, .ref l0)] [] M := by
  unfold f_X12_retainedCount at h
  replace h := (ifS h).2
  refine v_aload_n dX12_retainedCount_0 rfl 0 rfl ?_
  refine v_iconst (v := 0) dX12_retainedCount_1 ci_0 ?_
  obtain ⟨M1, e, h⟩ := bind_some h
  refine pt_X12_52 e dX12_retainedCount_2 ?_
  refine v_aload_n dX12_retainedCount_5 rfl 0 rfl ?_
  obtain ⟨v2, e, h⟩ := bind_some h
  refine gt_X12_9 e dX12_retainedCount_6 ?_
  refine v_bipush (v := 15) dX12_retainedCount_9 cb_15 ?_
  obtain ⟨v3, e, h⟩ := bind_some h
  refine v_iaload dX12_retainedCount_11 e ?_
  cases h
  exact v_ireturn dX12_retainedCount_12
theorem kd_X12_retainedCount {l0 : Nat} {M : Mem} {z : _} (h : f_X12_retainedCount l0 M = some z) : (mK M l0).1 = 12 := by
  unfold f_X12_retainedCount at h
  exact (ifS h).1
theorem k_X12_retainedCount {G : Gl} {l0 : Nat} {M MF : Mem} {r : Int32} (h : f_X12_retainedCount l0 M = some (r, MF)) : CtrP G yX12_retainedCount cX12_retainedCount 1 (some .int) 0 0 [.ref l0] M (cvI r) MF :=
  ctr_of (by decide +kernel) (Nat.le_of_ble_eq_true rfl) (fun ρ => w_X12_retainedCount l0 M h)
set_option maxHeartbeats 4000000 in
set_option maxRecDepth 100000 in
theorem w_X12_retained {G : Gl} {ρ0 : Nat → Nat} {M0 MF : Mem} {r : Int32} (l0 : Nat) (l1 : Int32) (l2 : Int32) (M : Mem) (h : f_X12_retained l0 l1 l2 M = some (r, MF)) : V G (RX12, cX12_retained, (some .int), 2, 48, 3, "retained", []) (ρ0, M0, cvI r, MF) 0 [(0, .ref l0), (1, .int l1), (2, .int l2)] [] M := by
  unfold f_X12_retained at h
  replace h := (ifS h).2
  refine v_aload_n dX12_retained_0 rfl 0 rfl ?_
  refine v_iconst (v := 0) dX12_retained_1 ci_0 ?_
  obtain ⟨M1, e, h⟩ := bind_some h
  refine pt_X12_52 e dX12_retained_2 ?_
  refine v_iload_n dX12_retained_5 rfl 1 rfl ?_
  refine v_iconst (v := 0) dX12_retained_6 ci_0 ?_
  refine v_aload_n dX12_retained_7 rfl 0 rfl ?_
  obtain ⟨v2, e, h⟩ := bind_some h
  refine gt_X12_9 e dX12_retained_8 ?_
  refine v_bipush (v := 15) dX12_retained_11 cb_15 ?_
  obtain ⟨v3, e, h⟩ := bind_some h
  refine v_iaload dX12_retained_13 e ?_
  refine v_iconst (v := 1) dX12_retained_14 ci_1 ?_
  refine v_isub dX12_retained_15 ?_
  obtain ⟨v5, M4, e, h⟩ := bindP_some h
  refine ca_X12_55 e dX12_retained_16 (Nat.le_of_ble_eq_true rfl) (by decide) ?_
  refine v_if_ne (tgt := 28) dX12_retained_19 (by decide) (fun c10 => ?_) (fun c10 => ?_)
  · replace h := ifN c10 h
    refine v_iload_n dX12_retained_28 rfl 2 rfl ?_
    rcases Decidable.em (l2 = 0) with c9_0 | c9_0
    · replace h := ifP c9_0 h
      refine v_tsw (tgt := 56) dX12_retained_29 c9_0 (by decide) (by decide) rfl (by decide) ?_
      refine v_aload_n dX12_retained_56 rfl 0 rfl ?_
      obtain ⟨v6, e, h⟩ := bind_some h
      refine gt_X12_9 e dX12_retained_57 ?_
      refine v_sipush (v := 1778) dX12_retained_60 cs_1778 ?_
      refine v_iload_n dX12_retained_63 rfl 1 rfl ?_
      refine v_iadd dX12_retained_64 ?_
      obtain ⟨v7, e, h⟩ := bind_some h
      refine v_iaload dX12_retained_65 e ?_
      cases h
      exact v_ireturn dX12_retained_66
    replace h := ifN c9_0 h
    rcases Decidable.em (l2 = 1) with c9_1 | c9_1
    · replace h := ifP c9_1 h
      refine v_tsw (tgt := 67) dX12_retained_29 c9_1 (by decide) (by decide) rfl (by decide) ?_
      refine v_aload_n dX12_retained_67 rfl 0 rfl ?_
      obtain ⟨v6, e, h⟩ := bind_some h
      refine gt_X12_9 e dX12_retained_68 ?_
      refine v_sipush (v := 1786) dX12_retained_71 cs_1786 ?_
      refine v_iload_n dX12_retained_74 rfl 1 rfl ?_
      refine v_iadd dX12_retained_75 ?_
      obtain ⟨v7, e, h⟩ := bind_some h
      refine v_iaload dX12_retained_76 e ?_
      cases h
      exact v_ireturn dX12_retained_77
    replace h := ifN c9_1 h
    rcases Decidable.em (l2 = 2) with c9_2 | c9_2
    · replace h := ifP c9_2 h
      refine v_tsw (tgt := 78) dX12_retained_29 c9_2 (by decide) (by decide) rfl (by decide) ?_
      refine v_aload_n dX12_retained_78 rfl 0 rfl ?_
      obtain ⟨v6, e, h⟩ := bind_some h
      refine gt_X12_13 e dX12_retained_79 ?_
      refine v_sipush (v := 1224) dX12_retained_82 cs_1224 ?_
      refine v_iconst (v := 4) dX12_retained_85 ci_4 ?_
      refine v_iload_n dX12_retained_86 rfl 1 rfl ?_
      refine v_imul dX12_retained_87 ?_
      refine v_iadd dX12_retained_88 ?_
      obtain ⟨v8, M7, e, h⟩ := bindP_some h
      refine ca_X12_247 e dX12_retained_89 (Nat.le_of_ble_eq_true rfl) (by decide) ?_
      cases h
      exact v_ireturn dX12_retained_92
    replace h := ifN c9_2 h
    refine v_tswOut (tgt := 93) dX12_retained_29 (fun k h1 h2 => by rcases (show k = 0 ∨ k = 1 ∨ k = 2 by omega) with rfl | rfl | rfl <;> assumption) (by decide) ?_
    refine v_aload_n dX12_retained_93 rfl 0 rfl ?_
    refine v_iconst (v := 2) dX12_retained_94 ci_2 ?_
    obtain ⟨v7, M6, e, h⟩ := bindP_some h
    refine ca_X12_86 e dX12_retained_95 (Nat.le_of_ble_eq_true rfl) (by decide) ?_
    cases h
    exact v_ireturn dX12_retained_98
  · replace h := ifP c10 h
    refine v_aload_n dX12_retained_22 rfl 0 rfl ?_
    refine v_iconst (v := 1) dX12_retained_23 ci_1 ?_
    obtain ⟨v7, M6, e, h⟩ := bindP_some h
    refine ca_X12_86 e dX12_retained_24 (Nat.le_of_ble_eq_true rfl) (by decide) ?_
    cases h
    exact v_ireturn dX12_retained_27
theorem kd_X12_retained {l0 : Nat} {l1 : Int32} {l2 : Int32} {M : Mem} {z : _} (h : f_X12_retained l0 l1 l2 M = some z) : (mK M l0).1 = 12 := by
  unfold f_X12_retained at h
  exact (ifS h).1
theorem k_X12_retained {G : Gl} {l0 : Nat} {l1 : Int32} {l2 : Int32} {M MF : Mem} {r : Int32} (h : f_X12_retained l0 l1 l2 M = some (r, MF)) : CtrP G yX12_retained cX12_retained 3 (some .int) 2 48 [.ref l0, .int l1, .int l2] M (cvI r) MF :=
  ctr_of (by decide +kernel) (Nat.le_of_ble_eq_true rfl) (fun ρ => w_X12_retained l0 l1 l2 M h)
set_option maxHeartbeats 4000000 in
set_option maxRecDepth 100000 in
theorem w_X12_published {G : Gl} {ρ0 : Nat → Nat} {M0 MF : Mem} {r : Int32} (l0 : Nat) (M : Mem) (h : f_X12_published l0 M = some (r, MF)) : V G (RX12, cX12_published, (some .int), 4, 93, 2, "published", []) (ρ0, M0, cvI r, MF) 0 [(0, .ref l0)] [] M := by
  unfold f_X12_published at h
  replace h := (ifS h).2
  refine v_aload_n dX12_published_0 rfl 0 rfl ?_
  refine v_iconst (v := 0) dX12_published_1 ci_0 ?_
  obtain ⟨M1, e, h⟩ := bind_some h
  refine pt_X12_52 e dX12_published_2 ?_
  refine v_aload_n dX12_published_5 rfl 0 rfl ?_
  refine v_iconst (v := 0) dX12_published_6 ci_0 ?_
  obtain ⟨v3, M2, e, h⟩ := bindP_some h
  refine ca_X12_203 e dX12_published_7 (Nat.le_of_ble_eq_true rfl) (by decide) ?_
  refine v_if_ne (tgt := 19) dX12_published_10 (by decide) (fun c10 => ?_) (fun c10 => ?_)
  · replace h := ifN c10 h
    refine v_aload_n dX12_published_19 rfl 0 rfl ?_
    refine v_aload_n dX12_published_20 rfl 0 rfl ?_
    obtain ⟨v4, e, h⟩ := bind_some h
    refine gt_X12_37 e dX12_published_21 ?_
    refine v_iconst (v := 0) dX12_published_24 ci_0 ?_
    obtain ⟨v6, M5, e, h⟩ := bindP_some h
    refine ca_X12_135 e dX12_published_25 (Nat.le_of_ble_eq_true rfl) (by decide) ?_
    refine v_istore_n (ls' := [(1, .int v6), (0, .ref l0)]) dX12_published_28 rfl (by decide) rfl ?_
    refine v_iload_n dX12_published_29 rfl 0 rfl ?_
    refine v_iconst (v := (-1)) dX12_published_30 ci_m1 ?_
    refine v_icmp_ne (tgt := 38) dX12_published_31 (by decide) (fun c9 => ?_) (fun c9 => ?_)
    · replace h := ifN c9 h
      refine v_aload_n dX12_published_38 rfl 1 rfl ?_
      obtain ⟨v7, e, h⟩ := bind_some h
      refine gt_X12_9 e dX12_published_39 ?_
      refine v_sipush (v := 2118) dX12_published_42 cs_2118 ?_
      refine v_iload_n dX12_published_45 rfl 0 rfl ?_
      refine v_iadd dX12_published_46 ?_
      obtain ⟨v8, e, h⟩ := bind_some h
      refine v_iaload dX12_published_47 e ?_
      cases h
      exact v_ireturn dX12_published_48
    · replace h := ifP c9 h
      refine v_iconst (v := 0) dX12_published_34 ci_0 ?_
      refine v_goto (tgt := 48) dX12_published_35 (by decide) ?_
      cases h
      exact v_ireturn dX12_published_48
  · replace h := ifP c10 h
    refine v_aload_n dX12_published_13 rfl 0 rfl ?_
    refine v_iconst (v := 1) dX12_published_14 ci_1 ?_
    obtain ⟨v5, M4, e, h⟩ := bindP_some h
    refine ca_X12_86 e dX12_published_15 (Nat.le_of_ble_eq_true rfl) (by decide) ?_
    cases h
    exact v_ireturn dX12_published_18
theorem kd_X12_published {l0 : Nat} {M : Mem} {z : _} (h : f_X12_published l0 M = some z) : (mK M l0).1 = 12 := by
  unfold f_X12_published at h
  exact (ifS h).1
theorem k_X12_published {G : Gl} {l0 : Nat} {M MF : Mem} {r : Int32} (h : f_X12_published l0 M = some (r, MF)) : CtrP G yX12_published cX12_published 2 (some .int) 4 93 [.ref l0] M (cvI r) MF :=
  ctr_of (by decide +kernel) (Nat.le_of_ble_eq_true rfl) (fun ρ => w_X12_published l0 M h)
set_option maxHeartbeats 4000000 in
set_option maxRecDepth 100000 in
theorem w_X12_total {G : Gl} {ρ0 : Nat → Nat} {M0 MF : Mem} {r : Int32} (l0 : Nat) (l1 : Int32) (M : Mem) (h : f_X12_total l0 l1 M = some (r, MF)) : V G (RX12, cX12_total, (some .int), 1, 22, 2, "total", []) (ρ0, M0, cvI r, MF) 0 [(0, .ref l0), (1, .int l1)] [] M := by
  unfold f_X12_total at h
  replace h := (ifS h).2
  refine v_aload_n dX12_total_0 rfl 0 rfl ?_
  refine v_iconst (v := 0) dX12_total_1 ci_0 ?_
  obtain ⟨M1, e, h⟩ := bind_some h
  refine pt_X12_52 e dX12_total_2 ?_
  refine v_iload_n dX12_total_5 rfl 1 rfl ?_
  refine v_iconst (v := 0) dX12_total_6 ci_0 ?_
  refine v_bipush (v := 9) dX12_total_7 cb_9 ?_
  obtain ⟨v3, M2, e, h⟩ := bindP_some h
  refine ca_X12_55 e dX12_total_9 (Nat.le_of_ble_eq_true rfl) (by decide) ?_
  refine v_if_eq (tgt := 26) dX12_total_12 (by decide) (fun c6 => ?_) (fun c6 => ?_)
  · replace h := ifP c6 h
    refine v_aload_n dX12_total_26 rfl 0 rfl ?_
    refine v_iconst (v := 1) dX12_total_27 ci_1 ?_
    obtain ⟨v5, M4, e, h⟩ := bindP_some h
    refine ca_X12_86 e dX12_total_28 (Nat.le_of_ble_eq_true rfl) (by decide) ?_
    cases h
    exact v_ireturn dX12_total_31
  · replace h := ifN c6 h
    refine v_aload_n dX12_total_15 rfl 0 rfl ?_
    obtain ⟨v4, e, h⟩ := bind_some h
    refine gt_X12_9 e dX12_total_16 ?_
    refine v_iconst (v := 5) dX12_total_19 ci_5 ?_
    refine v_iload_n dX12_total_20 rfl 1 rfl ?_
    refine v_iadd dX12_total_21 ?_
    obtain ⟨v5, e, h⟩ := bind_some h
    refine v_iaload dX12_total_22 e ?_
    refine v_goto (tgt := 31) dX12_total_23 (by decide) ?_
    cases h
    exact v_ireturn dX12_total_31
theorem kd_X12_total {l0 : Nat} {l1 : Int32} {M : Mem} {z : _} (h : f_X12_total l0 l1 M = some z) : (mK M l0).1 = 12 := by
  unfold f_X12_total at h
  exact (ifS h).1
theorem k_X12_total {G : Gl} {l0 : Nat} {l1 : Int32} {M MF : Mem} {r : Int32} (h : f_X12_total l0 l1 M = some (r, MF)) : CtrP G yX12_total cX12_total 2 (some .int) 1 22 [.ref l0, .int l1] M (cvI r) MF :=
  ctr_of (by decide +kernel) (Nat.le_of_ble_eq_true rfl) (fun ρ => w_X12_total l0 l1 M h)
set_option maxHeartbeats 4000000 in
set_option maxRecDepth 100000 in
theorem w_X12_save_L61 {G : Gl} {ρ0 : Nat → Nat} {M0 MF : Mem} {r : Int32} : ∀ (n : Nat) (l0 : Nat) (l1 : Int32) (M : Mem), f_X12_save_L61 n l0 l1 M = some (r, MF) → V G (RX12, cX12_save, (some .int), 0, 0, 2, "save", []) (ρ0, M0, cvI r, MF) 61 [(0, .ref l0), (1, .int l1)] [] M := by
  intro n
  induction n with
  | zero => intro l0 l1 M h; cases h
  | succ n ih =>
    intro l0 l1 M h
    rw [f_X12_save_L61] at h
    refine v_iload_n dX12_save_61 rfl 1 rfl ?_
    refine v_bipush (v := 6) dX12_save_62 cb_6 ?_
    refine v_icmp_ge (tgt := 85) dX12_save_64 (by decide) (fun c5 => ?_) (fun c5 => ?_)
    · replace h := ifP c5 h
      refine v_aload_n dX12_save_85 rfl 0 rfl ?_
      refine v_iconst (v := 1) dX12_save_86 ci_1 ?_
      obtain ⟨M1, e, h⟩ := bind_some h
      refine pt_X12_273 e dX12_save_87 ?_
      refine v_aload_n dX12_save_90 rfl 0 rfl ?_
      obtain ⟨v2, e, h⟩ := bind_some h
      refine gt_X12_9 e dX12_save_91 ?_
      refine v_iconst (v := 0) dX12_save_94 ci_0 ?_
      obtain ⟨v3, e, h⟩ := bind_some h
      refine v_iaload dX12_save_95 e ?_
      cases h
      exact v_ireturn dX12_save_96
    · replace h := ifN c5 h
      refine v_aload_n dX12_save_67 rfl 0 rfl ?_
      obtain ⟨v1, e, h⟩ := bind_some h
      refine gt_X12_27 e dX12_save_68 ?_
      refine v_iload_n dX12_save_71 rfl 1 rfl ?_
      refine v_aload_n dX12_save_72 rfl 0 rfl ?_
      obtain ⟨v2, e, h⟩ := bind_some h
      refine gt_X12_17 e dX12_save_73 ?_
      refine v_iload_n dX12_save_76 rfl 1 rfl ?_
      obtain ⟨v3, e, h⟩ := bind_some h
      refine v_faload dX12_save_77 e ?_
      obtain ⟨M4, e, h⟩ := bind_some h
      refine v_fastore dX12_save_78 e ?_
      refine v_iinc (ls' := [(1, .int (l1 + 1)), (0, .ref l0)]) dX12_save_79 1 rfl (v := 1) ci_1 (by decide) rfl ?_
      refine v_goto (tgt := 61) dX12_save_82 (by decide) ?_
      refine v_sub [1, 0] rfl ?_
      exact ih l0 (l1 + 1) M4 h
set_option maxHeartbeats 4000000 in
set_option maxRecDepth 100000 in
theorem w_X12_save_L34 {G : Gl} {ρ0 : Nat → Nat} {M0 MF : Mem} {r : Int32} : ∀ (n : Nat) (l0 : Nat) (l1 : Int32) (M : Mem), f_X12_save_L34 n l0 l1 M = some (r, MF) → V G (RX12, cX12_save, (some .int), 0, 0, 2, "save", []) (ρ0, M0, cvI r, MF) 34 [(0, .ref l0), (1, .int l1)] [] M := by
  intro n
  induction n with
  | zero => intro l0 l1 M h; cases h
  | succ n ih =>
    intro l0 l1 M h
    rw [f_X12_save_L34] at h
    refine v_iload_n dX12_save_34 rfl 1 rfl ?_
    refine v_sipush (v := 3800) dX12_save_35 cs_3800 ?_
    refine v_icmp_ge (tgt := 59) dX12_save_38 (by decide) (fun c5 => ?_) (fun c5 => ?_)
    · replace h := ifP c5 h
      refine v_iconst (v := 0) dX12_save_59 ci_0 ?_
      refine v_istore_n (ls' := [(1, .int (0 : Int32)), (0, .ref l0)]) dX12_save_60 rfl (by decide) rfl ?_
      refine v_sub [1, 0] rfl ?_
      exact w_X12_save_L61 FU l0 (0 : Int32) M h
    · replace h := ifN c5 h
      refine v_aload_n dX12_save_41 rfl 0 rfl ?_
      obtain ⟨v1, e, h⟩ := bind_some h
      refine gt_X12_24 e dX12_save_42 ?_
      refine v_iload_n dX12_save_45 rfl 1 rfl ?_
      refine v_aload_n dX12_save_46 rfl 0 rfl ?_
      obtain ⟨v2, e, h⟩ := bind_some h
      refine gt_X12_13 e dX12_save_47 ?_
      refine v_iload_n dX12_save_50 rfl 1 rfl ?_
      obtain ⟨v3, e, h⟩ := bind_some h
      refine v_laload dX12_save_51 e ?_
      obtain ⟨M4, e, h⟩ := bind_some h
      refine v_lastore dX12_save_52 e ?_
      refine v_iinc (ls' := [(1, .int (l1 + 1)), (0, .ref l0)]) dX12_save_53 1 rfl (v := 1) ci_1 (by decide) rfl ?_
      refine v_goto (tgt := 34) dX12_save_56 (by decide) ?_
      refine v_sub [1, 0] rfl ?_
      exact ih l0 (l1 + 1) M4 h
set_option maxHeartbeats 4000000 in
set_option maxRecDepth 100000 in
theorem w_X12_save_L7 {G : Gl} {ρ0 : Nat → Nat} {M0 MF : Mem} {r : Int32} : ∀ (n : Nat) (l0 : Nat) (l1 : Int32) (M : Mem), f_X12_save_L7 n l0 l1 M = some (r, MF) → V G (RX12, cX12_save, (some .int), 0, 0, 2, "save", []) (ρ0, M0, cvI r, MF) 7 [(0, .ref l0), (1, .int l1)] [] M := by
  intro n
  induction n with
  | zero => intro l0 l1 M h; cases h
  | succ n ih =>
    intro l0 l1 M h
    rw [f_X12_save_L7] at h
    refine v_iload_n dX12_save_7 rfl 1 rfl ?_
    refine v_sipush (v := 2718) dX12_save_8 cs_2718 ?_
    refine v_icmp_ge (tgt := 32) dX12_save_11 (by decide) (fun c5 => ?_) (fun c5 => ?_)
    · replace h := ifP c5 h
      refine v_iconst (v := 0) dX12_save_32 ci_0 ?_
      refine v_istore_n (ls' := [(1, .int (0 : Int32)), (0, .ref l0)]) dX12_save_33 rfl (by decide) rfl ?_
      refine v_sub [1, 0] rfl ?_
      exact w_X12_save_L34 FU l0 (0 : Int32) M h
    · replace h := ifN c5 h
      refine v_aload_n dX12_save_14 rfl 0 rfl ?_
      obtain ⟨v1, e, h⟩ := bind_some h
      refine gt_X12_21 e dX12_save_15 ?_
      refine v_iload_n dX12_save_18 rfl 1 rfl ?_
      refine v_aload_n dX12_save_19 rfl 0 rfl ?_
      obtain ⟨v2, e, h⟩ := bind_some h
      refine gt_X12_9 e dX12_save_20 ?_
      refine v_iload_n dX12_save_23 rfl 1 rfl ?_
      obtain ⟨v3, e, h⟩ := bind_some h
      refine v_iaload dX12_save_24 e ?_
      obtain ⟨M4, e, h⟩ := bind_some h
      refine v_iastore dX12_save_25 e ?_
      refine v_iinc (ls' := [(1, .int (l1 + 1)), (0, .ref l0)]) dX12_save_26 1 rfl (v := 1) ci_1 (by decide) rfl ?_
      refine v_goto (tgt := 7) dX12_save_29 (by decide) ?_
      refine v_sub [1, 0] rfl ?_
      exact ih l0 (l1 + 1) M4 h
set_option maxHeartbeats 4000000 in
set_option maxRecDepth 100000 in
theorem w_X12_save {G : Gl} {ρ0 : Nat → Nat} {M0 MF : Mem} {r : Int32} (l0 : Nat) (M : Mem) (h : f_X12_save l0 M = some (r, MF)) : V G (RX12, cX12_save, (some .int), 0, 0, 2, "save", []) (ρ0, M0, cvI r, MF) 0 [(0, .ref l0)] [] M := by
  unfold f_X12_save at h
  replace h := (ifS h).2
  refine v_aload_n dX12_save_0 rfl 0 rfl ?_
  refine v_iconst (v := 0) dX12_save_1 ci_0 ?_
  obtain ⟨M1, e, h⟩ := bind_some h
  refine pt_X12_52 e dX12_save_2 ?_
  refine v_iconst (v := 0) dX12_save_5 ci_0 ?_
  refine v_istore_n (ls' := [(1, .int (0 : Int32)), (0, .ref l0)]) dX12_save_6 rfl (by decide) rfl ?_
  refine v_sub [1, 0] rfl ?_
  exact w_X12_save_L7 FU l0 (0 : Int32) M1 h
theorem kd_X12_save {l0 : Nat} {M : Mem} {z : _} (h : f_X12_save l0 M = some z) : (mK M l0).1 = 12 := by
  unfold f_X12_save at h
  exact (ifS h).1
theorem k_X12_save {G : Gl} {l0 : Nat} {M MF : Mem} {r : Int32} (h : f_X12_save l0 M = some (r, MF)) : CtrP G yX12_save cX12_save 2 (some .int) 0 0 [.ref l0] M (cvI r) MF :=
  ctr_of (by decide +kernel) (Nat.le_of_ble_eq_true rfl) (fun ρ => w_X12_save l0 M h)
set_option maxHeartbeats 4000000 in
set_option maxRecDepth 100000 in
theorem w_X12_restore_L74 {G : Gl} {ρ0 : Nat → Nat} {M0 MF : Mem} {r : Int32} : ∀ (n : Nat) (l0 : Nat) (l1 : Int32) (M : Mem), f_X12_restore_L74 n l0 l1 M = some (r, MF) → V G (RX12, cX12_restore, (some .int), 1, 21, 2, "restore", []) (ρ0, M0, cvI r, MF) 74 [(0, .ref l0), (1, .int l1)] [] M := by
  intro n
  induction n with
  | zero => intro l0 l1 M h; cases h
  | succ n ih =>
    intro l0 l1 M h
    rw [f_X12_restore_L74] at h
    refine v_iload_n dX12_restore_74 rfl 1 rfl ?_
    refine v_bipush (v := 6) dX12_restore_75 cb_6 ?_
    refine v_icmp_ge (tgt := 98) dX12_restore_77 (by decide) (fun c5 => ?_) (fun c5 => ?_)
    · replace h := ifP c5 h
      refine v_aload_n dX12_restore_98 rfl 0 rfl ?_
      obtain ⟨v1, e, h⟩ := bind_some h
      refine gt_X12_9 e dX12_restore_99 ?_
      refine v_iconst (v := 0) dX12_restore_102 ci_0 ?_
      obtain ⟨v2, e, h⟩ := bind_some h
      refine v_iaload dX12_restore_103 e ?_
      cases h
      exact v_ireturn dX12_restore_104
    · replace h := ifN c5 h
      refine v_aload_n dX12_restore_80 rfl 0 rfl ?_
      obtain ⟨v1, e, h⟩ := bind_some h
      refine gt_X12_17 e dX12_restore_81 ?_
      refine v_iload_n dX12_restore_84 rfl 1 rfl ?_
      refine v_aload_n dX12_restore_85 rfl 0 rfl ?_
      obtain ⟨v2, e, h⟩ := bind_some h
      refine gt_X12_27 e dX12_restore_86 ?_
      refine v_iload_n dX12_restore_89 rfl 1 rfl ?_
      obtain ⟨v3, e, h⟩ := bind_some h
      refine v_faload dX12_restore_90 e ?_
      obtain ⟨M4, e, h⟩ := bind_some h
      refine v_fastore dX12_restore_91 e ?_
      refine v_iinc (ls' := [(1, .int (l1 + 1)), (0, .ref l0)]) dX12_restore_92 1 rfl (v := 1) ci_1 (by decide) rfl ?_
      refine v_goto (tgt := 74) dX12_restore_95 (by decide) ?_
      refine v_sub [1, 0] rfl ?_
      exact ih l0 (l1 + 1) M4 h
set_option maxHeartbeats 4000000 in
set_option maxRecDepth 100000 in
theorem w_X12_restore_L47 {G : Gl} {ρ0 : Nat → Nat} {M0 MF : Mem} {r : Int32} : ∀ (n : Nat) (l0 : Nat) (l1 : Int32) (M : Mem), f_X12_restore_L47 n l0 l1 M = some (r, MF) → V G (RX12, cX12_restore, (some .int), 1, 21, 2, "restore", []) (ρ0, M0, cvI r, MF) 47 [(0, .ref l0), (1, .int l1)] [] M := by
  intro n
  induction n with
  | zero => intro l0 l1 M h; cases h
  | succ n ih =>
    intro l0 l1 M h
    rw [f_X12_restore_L47] at h
    refine v_iload_n dX12_restore_47 rfl 1 rfl ?_
    refine v_sipush (v := 3800) dX12_restore_48 cs_3800 ?_
    refine v_icmp_ge (tgt := 72) dX12_restore_51 (by decide) (fun c5 => ?_) (fun c5 => ?_)
    · replace h := ifP c5 h
      refine v_iconst (v := 0) dX12_restore_72 ci_0 ?_
      refine v_istore_n (ls' := [(1, .int (0 : Int32)), (0, .ref l0)]) dX12_restore_73 rfl (by decide) rfl ?_
      refine v_sub [1, 0] rfl ?_
      exact w_X12_restore_L74 FU l0 (0 : Int32) M h
    · replace h := ifN c5 h
      refine v_aload_n dX12_restore_54 rfl 0 rfl ?_
      obtain ⟨v1, e, h⟩ := bind_some h
      refine gt_X12_13 e dX12_restore_55 ?_
      refine v_iload_n dX12_restore_58 rfl 1 rfl ?_
      refine v_aload_n dX12_restore_59 rfl 0 rfl ?_
      obtain ⟨v2, e, h⟩ := bind_some h
      refine gt_X12_24 e dX12_restore_60 ?_
      refine v_iload_n dX12_restore_63 rfl 1 rfl ?_
      obtain ⟨v3, e, h⟩ := bind_some h
      refine v_laload dX12_restore_64 e ?_
      obtain ⟨M4, e, h⟩ := bind_some h
      refine v_lastore dX12_restore_65 e ?_
      refine v_iinc (ls' := [(1, .int (l1 + 1)), (0, .ref l0)]) dX12_restore_66 1 rfl (v := 1) ci_1 (by decide) rfl ?_
      refine v_goto (tgt := 47) dX12_restore_69 (by decide) ?_
      refine v_sub [1, 0] rfl ?_
      exact ih l0 (l1 + 1) M4 h
set_option maxHeartbeats 4000000 in
set_option maxRecDepth 100000 in
theorem w_X12_restore_L20 {G : Gl} {ρ0 : Nat → Nat} {M0 MF : Mem} {r : Int32} : ∀ (n : Nat) (l0 : Nat) (l1 : Int32) (M : Mem), f_X12_restore_L20 n l0 l1 M = some (r, MF) → V G (RX12, cX12_restore, (some .int), 1, 21, 2, "restore", []) (ρ0, M0, cvI r, MF) 20 [(0, .ref l0), (1, .int l1)] [] M := by
  intro n
  induction n with
  | zero => intro l0 l1 M h; cases h
  | succ n ih =>
    intro l0 l1 M h
    rw [f_X12_restore_L20] at h
    refine v_iload_n dX12_restore_20 rfl 1 rfl ?_
    refine v_sipush (v := 2718) dX12_restore_21 cs_2718 ?_
    refine v_icmp_ge (tgt := 45) dX12_restore_24 (by decide) (fun c5 => ?_) (fun c5 => ?_)
    · replace h := ifP c5 h
      refine v_iconst (v := 0) dX12_restore_45 ci_0 ?_
      refine v_istore_n (ls' := [(1, .int (0 : Int32)), (0, .ref l0)]) dX12_restore_46 rfl (by decide) rfl ?_
      refine v_sub [1, 0] rfl ?_
      exact w_X12_restore_L47 FU l0 (0 : Int32) M h
    · replace h := ifN c5 h
      refine v_aload_n dX12_restore_27 rfl 0 rfl ?_
      obtain ⟨v1, e, h⟩ := bind_some h
      refine gt_X12_9 e dX12_restore_28 ?_
      refine v_iload_n dX12_restore_31 rfl 1 rfl ?_
      refine v_aload_n dX12_restore_32 rfl 0 rfl ?_
      obtain ⟨v2, e, h⟩ := bind_some h
      refine gt_X12_21 e dX12_restore_33 ?_
      refine v_iload_n dX12_restore_36 rfl 1 rfl ?_
      obtain ⟨v3, e, h⟩ := bind_some h
      refine v_iaload dX12_restore_37 e ?_
      obtain ⟨M4, e, h⟩ := bind_some h
      refine v_iastore dX12_restore_38 e ?_
      refine v_iinc (ls' := [(1, .int (l1 + 1)), (0, .ref l0)]) dX12_restore_39 1 rfl (v := 1) ci_1 (by decide) rfl ?_
      refine v_goto (tgt := 20) dX12_restore_42 (by decide) ?_
      refine v_sub [1, 0] rfl ?_
      exact ih l0 (l1 + 1) M4 h
set_option maxHeartbeats 4000000 in
set_option maxRecDepth 100000 in
theorem w_X12_restore {G : Gl} {ρ0 : Nat → Nat} {M0 MF : Mem} {r : Int32} (l0 : Nat) (M : Mem) (h : f_X12_restore l0 M = some (r, MF)) : V G (RX12, cX12_restore, (some .int), 1, 21, 2, "restore", []) (ρ0, M0, cvI r, MF) 0 [(0, .ref l0)] [] M := by
  unfold f_X12_restore at h
  replace h := (ifS h).2
  refine v_aload_n dX12_restore_0 rfl 0 rfl ?_
  refine v_iconst (v := 0) dX12_restore_1 ci_0 ?_
  obtain ⟨M1, e, h⟩ := bind_some h
  refine pt_X12_52 e dX12_restore_2 ?_
  refine v_aload_n dX12_restore_5 rfl 0 rfl ?_
  obtain ⟨v2, e, h⟩ := bind_some h
  refine gt_X12_273 e dX12_restore_6 ?_
  refine v_if_ne (tgt := 18) dX12_restore_9 (by decide) (fun c5 => ?_) (fun c5 => ?_)
  · replace h := ifN c5 h
    refine v_iconst (v := 0) dX12_restore_18 ci_0 ?_
    refine v_istore_n (ls' := [(1, .int (0 : Int32)), (0, .ref l0)]) dX12_restore_19 rfl (by decide) rfl ?_
    refine v_sub [1, 0] rfl ?_
    exact w_X12_restore_L20 FU l0 (0 : Int32) M1 h
  · replace h := ifP c5 h
    refine v_aload_n dX12_restore_12 rfl 0 rfl ?_
    refine v_iconst (v := 1) dX12_restore_13 ci_1 ?_
    obtain ⟨v4, M3, e, h⟩ := bindP_some h
    refine ca_X12_86 e dX12_restore_14 (Nat.le_of_ble_eq_true rfl) (by decide) ?_
    cases h
    exact v_ireturn dX12_restore_17
theorem kd_X12_restore {l0 : Nat} {M : Mem} {z : _} (h : f_X12_restore l0 M = some z) : (mK M l0).1 = 12 := by
  unfold f_X12_restore at h
  exact (ifS h).1
theorem k_X12_restore {G : Gl} {l0 : Nat} {M MF : Mem} {r : Int32} (h : f_X12_restore l0 M = some (r, MF)) : CtrP G yX12_restore cX12_restore 2 (some .int) 1 21 [.ref l0] M (cvI r) MF :=
  ctr_of (by decide +kernel) (Nat.le_of_ble_eq_true rfl) (fun ρ => w_X12_restore l0 M h)
set_option maxHeartbeats 4000000 in
set_option maxRecDepth 100000 in
theorem w_X1_init {G : Gl} {ρ0 : Nat → Nat} {M0 MF : Mem} {r : Unit} (l0 : Nat) (l1 : Nat) (M : Mem) (h : f_X1_init l0 l1 M = some MF) : V G (RX1, cX1_init, none, 1, 20, 2, "<init>", []) (ρ0, M0, cvV r, MF) 0 [(0, .ref l0), (1, .ref l1)] [] M := by
  unfold f_X1_init at h
  refine v_aload_n dX1_init_0 rfl 0 rfl ?_
  refine oi_X1 dX1_init_1 (by decide) (Nat.le_of_ble_eq_true rfl) ?_
  refine v_aload_n dX1_init_4 rfl 0 rfl ?_
  refine v_aload_n dX1_init_5 rfl 1 rfl ?_
  obtain ⟨M1, e, h⟩ := bind_some h
  refine pt_X1_7 e dX1_init_6 ?_
  cases h
  exact v_vreturn dX1_init_9
theorem k_X1_init {G : Gl} {l0 : Nat} {l1 : Nat} {M MF : Mem} (h : f_X1_init l0 l1 M = some MF) : CtrP G yX1_init cX1_init 2 none 1 20 [.ref l0, .ref l1] M (cvV ()) MF :=
  ctr_of (by decide +kernel) (Nat.le_of_ble_eq_true rfl) (fun ρ => w_X1_init (r := ()) l0 l1 M h)
theorem wd_X11_33 : wdI RX11 33 yX1_init cX1_init 2 1 := ⟨gwi 175 (by decide +kernel) (by decide +kernel), gwi 176 (by decide +kernel) (by decide +kernel), nw_X1, gwi 177 (by decide +kernel) (by decide +kernel), rfl, ⟨by decide +kernel, by decide +kernel, by decide +kernel⟩⟩
theorem ca_X11_33 {G : Gl} {B : Bx} {cc : ByteArray} {ret : Option FieldType} {fr lo nL : Nat} {mn : String} {hh : List (Nat × Nat × Nat × Nat)} {pc : Nat} {ls : List (Nat × Value)} {st : List Value} {M M1 : Mem} {l0 : Nat} {l1 : Nat} (e : f_X1_init l0 l1 M = some M1) (hd : decode cc pc = .ok (.invokespecial 33, 3)) (hcat : (st.map fun v => v.category).sum ≤ 8) (hR : 1 + 1 ≤ fr ∧ 8 + (2 + 11) + 20 ≤ lo) (k : V G (RX11, cc, ret, fr, lo, nL, mn, hh) B (pc + 3) ls (st) M1) : V G (RX11, cc, ret, fr, lo, nL, mn, hh) B pc ls (.ref l1 :: .ref l0 :: st) M := v_callI (As := [.ref l1]) (k_X1_init e) wd_X11_33 hd rfl rfl hcat hR k
theorem wd_X0_9 : wdI RX0 9 yX1_init cX1_init 2 1 := ⟨gwi 229 (by decide +kernel) (by decide +kernel), gwi 176 (by decide +kernel) (by decide +kernel), nw_X1, gwi 177 (by decide +kernel) (by decide +kernel), rfl, ⟨by decide +kernel, by decide +kernel, by decide +kernel⟩⟩
theorem ca_X0_9 {G : Gl} {B : Bx} {cc : ByteArray} {ret : Option FieldType} {fr lo nL : Nat} {mn : String} {hh : List (Nat × Nat × Nat × Nat)} {pc : Nat} {ls : List (Nat × Value)} {st : List Value} {M M1 : Mem} {l0 : Nat} {l1 : Nat} (e : f_X1_init l0 l1 M = some M1) (hd : decode cc pc = .ok (.invokespecial 9, 3)) (hcat : (st.map fun v => v.category).sum ≤ 8) (hR : 1 + 1 ≤ fr ∧ 8 + (2 + 11) + 20 ≤ lo) (k : V G (RX0, cc, ret, fr, lo, nL, mn, hh) B (pc + 3) ls (st) M1) : V G (RX0, cc, ret, fr, lo, nL, mn, hh) B pc ls (.ref l1 :: .ref l0 :: st) M := v_callI (As := [.ref l1]) (k_X1_init e) wd_X0_9 hd rfl rfl hcat hR k
theorem wd_X2_21 : wdI RX2 21 yX1_init cX1_init 2 1 := ⟨gwi 295 (by decide +kernel) (by decide +kernel), gwi 176 (by decide +kernel) (by decide +kernel), nw_X1, gwi 177 (by decide +kernel) (by decide +kernel), rfl, ⟨by decide +kernel, by decide +kernel, by decide +kernel⟩⟩
theorem ca_X2_21 {G : Gl} {B : Bx} {cc : ByteArray} {ret : Option FieldType} {fr lo nL : Nat} {mn : String} {hh : List (Nat × Nat × Nat × Nat)} {pc : Nat} {ls : List (Nat × Value)} {st : List Value} {M M1 : Mem} {l0 : Nat} {l1 : Nat} (e : f_X1_init l0 l1 M = some M1) (hd : decode cc pc = .ok (.invokespecial 21, 3)) (hcat : (st.map fun v => v.category).sum ≤ 8) (hR : 1 + 1 ≤ fr ∧ 8 + (2 + 11) + 20 ≤ lo) (k : V G (RX2, cc, ret, fr, lo, nL, mn, hh) B (pc + 3) ls (st) M1) : V G (RX2, cc, ret, fr, lo, nL, mn, hh) B pc ls (.ref l1 :: .ref l0 :: st) M := v_callI (As := [.ref l1]) (k_X1_init e) wd_X2_21 hd rfl rfl hcat hR k
theorem wd_X7_37 : wdI RX7 37 yX1_init cX1_init 2 1 := ⟨gwi 420 (by decide +kernel) (by decide +kernel), gwi 176 (by decide +kernel) (by decide +kernel), nw_X1, gwi 177 (by decide +kernel) (by decide +kernel), rfl, ⟨by decide +kernel, by decide +kernel, by decide +kernel⟩⟩
theorem ca_X7_37 {G : Gl} {B : Bx} {cc : ByteArray} {ret : Option FieldType} {fr lo nL : Nat} {mn : String} {hh : List (Nat × Nat × Nat × Nat)} {pc : Nat} {ls : List (Nat × Value)} {st : List Value} {M M1 : Mem} {l0 : Nat} {l1 : Nat} (e : f_X1_init l0 l1 M = some M1) (hd : decode cc pc = .ok (.invokespecial 37, 3)) (hcat : (st.map fun v => v.category).sum ≤ 8) (hR : 1 + 1 ≤ fr ∧ 8 + (2 + 11) + 20 ≤ lo) (k : V G (RX7, cc, ret, fr, lo, nL, mn, hh) B (pc + 3) ls (st) M1) : V G (RX7, cc, ret, fr, lo, nL, mn, hh) B pc ls (.ref l1 :: .ref l0 :: st) M := v_callI (As := [.ref l1]) (k_X1_init e) wd_X7_37 hd rfl rfl hcat hR k
set_option maxHeartbeats 4000000 in
set_option maxRecDepth 100000 in
theorem w_X3_init {G : Gl} {ρ0 : Nat → Nat} {M0 MF : Mem} {r : Unit} (l0 : Nat) (l1 : Nat) (M : Mem) (h : f_X3_init l0 l1 M = some MF) : V G (RX3, cX3_init, none, 1, 20, 2, "<init>", []) (ρ0, M0, cvV r, MF) 0 [(0, .ref l0), (1, .ref l1)] [] M := by
  unfold f_X3_init at h
  refine v_aload_n dX3_init_0 rfl 0 rfl ?_
  refine oi_X3 dX3_init_1 (by decide) (Nat.le_of_ble_eq_true rfl) ?_
  refine v_aload_n dX3_init_4 rfl 0 rfl ?_
  refine v_aload_n dX3_init_5 rfl 1 rfl ?_
  obtain ⟨M1, e, h⟩ := bind_some h
  refine pt_X3_7 e dX3_init_6 ?_
  cases h
  exact v_vreturn dX3_init_9
theorem k_X3_init {G : Gl} {l0 : Nat} {l1 : Nat} {M MF : Mem} (h : f_X3_init l0 l1 M = some MF) : CtrP G yX3_init cX3_init 2 none 1 20 [.ref l0, .ref l1] M (cvV ()) MF :=
  ctr_of (by decide +kernel) (Nat.le_of_ble_eq_true rfl) (fun ρ => w_X3_init (r := ()) l0 l1 M h)
theorem wd_X11_24 : wdI RX11 24 yX3_init cX3_init 2 1 := ⟨gwi 138 (by decide +kernel) (by decide +kernel), gwi 139 (by decide +kernel) (by decide +kernel), nw_X3, gwi 140 (by decide +kernel) (by decide +kernel), rfl, ⟨by decide +kernel, by decide +kernel, by decide +kernel⟩⟩
theorem ca_X11_24 {G : Gl} {B : Bx} {cc : ByteArray} {ret : Option FieldType} {fr lo nL : Nat} {mn : String} {hh : List (Nat × Nat × Nat × Nat)} {pc : Nat} {ls : List (Nat × Value)} {st : List Value} {M M1 : Mem} {l0 : Nat} {l1 : Nat} (e : f_X3_init l0 l1 M = some M1) (hd : decode cc pc = .ok (.invokespecial 24, 3)) (hcat : (st.map fun v => v.category).sum ≤ 8) (hR : 1 + 1 ≤ fr ∧ 8 + (2 + 11) + 20 ≤ lo) (k : V G (RX11, cc, ret, fr, lo, nL, mn, hh) B (pc + 3) ls (st) M1) : V G (RX11, cc, ret, fr, lo, nL, mn, hh) B pc ls (.ref l1 :: .ref l0 :: st) M := v_callI (As := [.ref l1]) (k_X3_init e) wd_X11_24 hd rfl rfl hcat hR k
theorem wd_X4_17 : wdI RX4 17 yX3_init cX3_init 2 1 := ⟨gwi 238 (by decide +kernel) (by decide +kernel), gwi 139 (by decide +kernel) (by decide +kernel), nw_X3, gwi 140 (by decide +kernel) (by decide +kernel), rfl, ⟨by decide +kernel, by decide +kernel, by decide +kernel⟩⟩
theorem ca_X4_17 {G : Gl} {B : Bx} {cc : ByteArray} {ret : Option FieldType} {fr lo nL : Nat} {mn : String} {hh : List (Nat × Nat × Nat × Nat)} {pc : Nat} {ls : List (Nat × Value)} {st : List Value} {M M1 : Mem} {l0 : Nat} {l1 : Nat} (e : f_X3_init l0 l1 M = some M1) (hd : decode cc pc = .ok (.invokespecial 17, 3)) (hcat : (st.map fun v => v.category).sum ≤ 8) (hR : 1 + 1 ≤ fr ∧ 8 + (2 + 11) + 20 ≤ lo) (k : V G (RX4, cc, ret, fr, lo, nL, mn, hh) B (pc + 3) ls (st) M1) : V G (RX4, cc, ret, fr, lo, nL, mn, hh) B pc ls (.ref l1 :: .ref l0 :: st) M := v_callI (As := [.ref l1]) (k_X3_init e) wd_X4_17 hd rfl rfl hcat hR k
set_option maxHeartbeats 4000000 in
set_option maxRecDepth 100000 in
theorem w_X4_init_L15 {G : Gl} {ρ0 : Nat → Nat} {M0 MF : Mem} {r : Unit} : ∀ (n : Nat) (l0 : Nat) (l1 : Nat) (l2 : Int32) (M : Mem), f_X4_init_L15 n l0 l1 l2 M = some MF → V G (RX4, cX4_init, none, 2, 41, 3, "<init>", []) (ρ0, M0, cvV r, MF) 15 [(0, .ref l0), (1, .ref l1), (2, .int l2)] [] M := by
  intro n
  induction n with
  | zero => intro l0 l1 l2 M h; cases h
  | succ n ih =>
    intro l0 l1 l2 M h
    rw [f_X4_init_L15] at h
    refine v_iload_n dX4_init_15 rfl 2 rfl ?_
    refine v_bipush (v := 30) dX4_init_16 cb_30 ?_
    refine v_icmp_ge (tgt := 41) dX4_init_18 (by decide) (fun c6 => ?_) (fun c6 => ?_)
    · replace h := ifP c6 h
      cases h
      exact v_vreturn dX4_init_41
    · replace h := ifN c6 h
      refine v_aload_n dX4_init_21 rfl 0 rfl ?_
      obtain ⟨v1, e, h⟩ := bind_some h
      refine gt_X4_11 e dX4_init_22 ?_
      refine v_iload_n dX4_init_25 rfl 2 rfl ?_
      obtain ⟨v2, M3, e, h⟩ := bindP_some h
      refine nx_X4_9 e dX4_init_26 ?_
      refine v_dup dX4_init_29 rfl ?_
      refine v_aload_n dX4_init_30 rfl 1 rfl ?_
      obtain ⟨M4, e, h⟩ := bind_some h
      refine ca_X4_17 e dX4_init_31 (Nat.le_of_ble_eq_true rfl) (by decide) ?_
      obtain ⟨M5, e, h⟩ := bind_some h
      refine as_3 e dX4_init_34 ?_
      refine v_iinc (ls' := [(2, .int (l2 + 1)), (0, .ref l0), (1, .ref l1)]) dX4_init_35 2 rfl (v := 1) ci_1 (by decide) rfl ?_
      refine v_goto (tgt := 15) dX4_init_38 (by decide) ?_
      refine v_sub [1, 2, 0] rfl ?_
      exact ih l0 l1 (l2 + 1) M5 h
set_option maxHeartbeats 4000000 in
set_option maxRecDepth 100000 in
theorem w_X4_init {G : Gl} {ρ0 : Nat → Nat} {M0 MF : Mem} {r : Unit} (l0 : Nat) (l1 : Nat) (M : Mem) (h : f_X4_init l0 l1 M = some MF) : V G (RX4, cX4_init, none, 2, 41, 3, "<init>", []) (ρ0, M0, cvV r, MF) 0 [(0, .ref l0), (1, .ref l1)] [] M := by
  unfold f_X4_init at h
  refine v_aload_n dX4_init_0 rfl 0 rfl ?_
  refine oi_X4 dX4_init_1 (by decide) (Nat.le_of_ble_eq_true rfl) ?_
  refine v_aload_n dX4_init_4 rfl 0 rfl ?_
  refine v_bipush (v := 30) dX4_init_5 cb_30 ?_
  obtain ⟨v1, M2, e, h⟩ := bindP_some h
  refine na_X4_9 e dX4_init_7 ?_
  obtain ⟨M3, e, h⟩ := bind_some h
  refine pt_X4_11 e dX4_init_10 ?_
  refine v_iconst (v := 0) dX4_init_13 ci_0 ?_
  refine v_istore_n (ls' := [(2, .int (0 : Int32)), (0, .ref l0), (1, .ref l1)]) dX4_init_14 rfl (by decide) rfl ?_
  refine v_sub [1, 2, 0] rfl ?_
  exact w_X4_init_L15 FU l0 l1 (0 : Int32) M3 h
theorem k_X4_init {G : Gl} {l0 : Nat} {l1 : Nat} {M MF : Mem} (h : f_X4_init l0 l1 M = some MF) : CtrP G yX4_init cX4_init 3 none 2 41 [.ref l0, .ref l1] M (cvV ()) MF :=
  ctr_of (by decide +kernel) (Nat.le_of_ble_eq_true rfl) (fun ρ => w_X4_init (r := ()) l0 l1 M h)
theorem wd_X0_20 : wdI RX0 20 yX4_init cX4_init 3 1 := ⟨gwi 232 (by decide +kernel) (by decide +kernel), gwi 233 (by decide +kernel) (by decide +kernel), nw_X4, gwi 234 (by decide +kernel) (by decide +kernel), rfl, ⟨by decide +kernel, by decide +kernel, by decide +kernel⟩⟩
theorem ca_X0_20 {G : Gl} {B : Bx} {cc : ByteArray} {ret : Option FieldType} {fr lo nL : Nat} {mn : String} {hh : List (Nat × Nat × Nat × Nat)} {pc : Nat} {ls : List (Nat × Value)} {st : List Value} {M M1 : Mem} {l0 : Nat} {l1 : Nat} (e : f_X4_init l0 l1 M = some M1) (hd : decode cc pc = .ok (.invokespecial 20, 3)) (hcat : (st.map fun v => v.category).sum ≤ 8) (hR : 2 + 1 ≤ fr ∧ 8 + (3 + 11) + 41 ≤ lo) (k : V G (RX0, cc, ret, fr, lo, nL, mn, hh) B (pc + 3) ls (st) M1) : V G (RX0, cc, ret, fr, lo, nL, mn, hh) B pc ls (.ref l1 :: .ref l0 :: st) M := v_callI (As := [.ref l1]) (k_X4_init e) wd_X0_20 hd rfl rfl hcat hR k
set_option maxHeartbeats 4000000 in
set_option maxRecDepth 100000 in
theorem w_X8_init {G : Gl} {ρ0 : Nat → Nat} {M0 MF : Mem} {r : Unit} (l0 : Nat) (l1 : Nat) (M : Mem) (h : f_X8_init l0 l1 M = some MF) : V G (RX8, cX8_init, none, 1, 20, 2, "<init>", []) (ρ0, M0, cvV r, MF) 0 [(0, .ref l0), (1, .ref l1)] [] M := by
  unfold f_X8_init at h
  refine v_aload_n dX8_init_0 rfl 0 rfl ?_
  refine oi_X8 dX8_init_1 (by decide) (Nat.le_of_ble_eq_true rfl) ?_
  refine v_aload_n dX8_init_4 rfl 0 rfl ?_
  refine v_aload_n dX8_init_5 rfl 1 rfl ?_
  obtain ⟨M1, e, h⟩ := bind_some h
  refine pt_X8_7 e dX8_init_6 ?_
  cases h
  exact v_vreturn dX8_init_9
theorem k_X8_init {G : Gl} {l0 : Nat} {l1 : Nat} {M MF : Mem} (h : f_X8_init l0 l1 M = some MF) : CtrP G yX8_init cX8_init 2 none 1 20 [.ref l0, .ref l1] M (cvV ()) MF :=
  ctr_of (by decide +kernel) (Nat.le_of_ble_eq_true rfl) (fun ρ => w_X8_init (r := ()) l0 l1 M h)
theorem wd_X5_21 : wdI RX5 21 yX8_init cX8_init 2 1 := ⟨gwi 260 (by decide +kernel) (by decide +kernel), gwi 261 (by decide +kernel) (by decide +kernel), nw_X8, gwi 262 (by decide +kernel) (by decide +kernel), rfl, ⟨by decide +kernel, by decide +kernel, by decide +kernel⟩⟩
theorem ca_X5_21 {G : Gl} {B : Bx} {cc : ByteArray} {ret : Option FieldType} {fr lo nL : Nat} {mn : String} {hh : List (Nat × Nat × Nat × Nat)} {pc : Nat} {ls : List (Nat × Value)} {st : List Value} {M M1 : Mem} {l0 : Nat} {l1 : Nat} (e : f_X8_init l0 l1 M = some M1) (hd : decode cc pc = .ok (.invokespecial 21, 3)) (hcat : (st.map fun v => v.category).sum ≤ 8) (hR : 1 + 1 ≤ fr ∧ 8 + (2 + 11) + 20 ≤ lo) (k : V G (RX5, cc, ret, fr, lo, nL, mn, hh) B (pc + 3) ls (st) M1) : V G (RX5, cc, ret, fr, lo, nL, mn, hh) B pc ls (.ref l1 :: .ref l0 :: st) M := v_callI (As := [.ref l1]) (k_X8_init e) wd_X5_21 hd rfl rfl hcat hR k
set_option maxHeartbeats 4000000 in
set_option maxRecDepth 100000 in
theorem w_X2_init_L18 {G : Gl} {ρ0 : Nat → Nat} {M0 MF : Mem} {r : Unit} : ∀ (n : Nat) (l0 : Nat) (l2 : Nat) (l3 : Int32) (M : Mem), f_X2_init_L18 n l0 l2 l3 M = some MF → V G (RX2, cX2_init, none, 2, 41, 4, "<init>", []) (ρ0, M0, cvV r, MF) 18 [(0, .ref l0), (2, .ref l2), (3, .int l3)] [] M := by
  intro n
  induction n with
  | zero => intro l0 l2 l3 M h; cases h
  | succ n ih =>
    intro l0 l2 l3 M h
    rw [f_X2_init_L18] at h
    refine v_iload_n dX2_init_18 rfl 2 rfl ?_
    refine v_aload_n dX2_init_19 rfl 0 rfl ?_
    obtain ⟨v1, e, h⟩ := bind_some h
    refine gt_X2_15 e dX2_init_20 ?_
    obtain ⟨v2, e, h⟩ := bind_some h
    refine v_alen dX2_init_23 e ?_
    refine v_icmp_ge (tgt := 47) dX2_init_24 (by decide) (fun c8 => ?_) (fun c8 => ?_)
    · replace h := ifP c8 h
      cases h
      exact v_vreturn dX2_init_47
    · replace h := ifN c8 h
      refine v_aload_n dX2_init_27 rfl 0 rfl ?_
      obtain ⟨v3, e, h⟩ := bind_some h
      refine gt_X2_15 e dX2_init_28 ?_
      refine v_iload_n dX2_init_31 rfl 2 rfl ?_
      obtain ⟨v4, M5, e, h⟩ := bindP_some h
      refine nx_X2_13 e dX2_init_32 ?_
      refine v_dup dX2_init_35 rfl ?_
      refine v_aload_n dX2_init_36 rfl 1 rfl ?_
      obtain ⟨M6, e, h⟩ := bind_some h
      refine ca_X2_21 e dX2_init_37 (Nat.le_of_ble_eq_true rfl) (by decide) ?_
      obtain ⟨M7, e, h⟩ := bind_some h
      refine as_1 e dX2_init_40 ?_
      refine v_iinc (ls' := [(3, .int (l3 + 1)), (0, .ref l0), (2, .ref l2)]) dX2_init_41 2 rfl (v := 1) ci_1 (by decide) rfl ?_
      refine v_goto (tgt := 18) dX2_init_44 (by decide) ?_
      refine v_sub [1, 2, 0] rfl ?_
      exact ih l0 l2 (l3 + 1) M7 h
set_option maxHeartbeats 4000000 in
set_option maxRecDepth 100000 in
theorem w_X2_init {G : Gl} {ρ0 : Nat → Nat} {M0 MF : Mem} {r : Unit} (l0 : Nat) (l1 : Int32) (l2 : Nat) (M : Mem) (h : f_X2_init l0 l1 l2 M = some MF) : V G (RX2, cX2_init, none, 2, 41, 4, "<init>", []) (ρ0, M0, cvV r, MF) 0 [(0, .ref l0), (1, .int l1), (2, .ref l2)] [] M := by
  unfold f_X2_init at h
  refine v_aload_n dX2_init_0 rfl 0 rfl ?_
  refine oi_X2 dX2_init_1 (by decide) (Nat.le_of_ble_eq_true rfl) ?_
  refine v_aload_n dX2_init_4 rfl 0 rfl ?_
  refine v_iconst (v := 1) dX2_init_5 ci_1 ?_
  refine v_iload_n dX2_init_6 rfl 1 rfl ?_
  refine mx_X2_7 dX2_init_7 (by decide) (Nat.le_of_ble_eq_true rfl) ?_
  obtain ⟨v1, M2, e, h⟩ := bindP_some h
  refine na_X2_13 e dX2_init_10 ?_
  obtain ⟨M3, e, h⟩ := bind_some h
  refine pt_X2_15 e dX2_init_13 ?_
  refine v_iconst (v := 0) dX2_init_16 ci_0 ?_
  refine v_istore_n (ls' := [(3, .int (0 : Int32)), (0, .ref l0), (1, .int l1), (2, .ref l2)]) dX2_init_17 rfl (by decide) rfl ?_
  refine v_sub [1, 3, 0] rfl ?_
  exact w_X2_init_L18 FU l0 l2 (0 : Int32) M3 h
theorem k_X2_init {G : Gl} {l0 : Nat} {l1 : Int32} {l2 : Nat} {M MF : Mem} (h : f_X2_init l0 l1 l2 M = some MF) : CtrP G yX2_init cX2_init 4 none 2 41 [.ref l0, .int l1, .ref l2] M (cvV ()) MF :=
  ctr_of (by decide +kernel) (Nat.le_of_ble_eq_true rfl) (fun ρ => w_X2_init (r := ()) l0 l1 l2 M h)
theorem wd_X5_26 : wdI RX5 26 yX2_init cX2_init 4 2 := ⟨gwi 288 (by decide +kernel) (by decide +kernel), gwi 289 (by decide +kernel) (by decide +kernel), nw_X2, gwi 290 (by decide +kernel) (by decide +kernel), rfl, ⟨by decide +kernel, by decide +kernel, by decide +kernel⟩⟩
theorem ca_X5_26 {G : Gl} {B : Bx} {cc : ByteArray} {ret : Option FieldType} {fr lo nL : Nat} {mn : String} {hh : List (Nat × Nat × Nat × Nat)} {pc : Nat} {ls : List (Nat × Value)} {st : List Value} {M M1 : Mem} {l0 : Nat} {l1 : Int32} {l2 : Nat} (e : f_X2_init l0 l1 l2 M = some M1) (hd : decode cc pc = .ok (.invokespecial 26, 3)) (hcat : (st.map fun v => v.category).sum ≤ 8) (hR : 2 + 1 ≤ fr ∧ 8 + (4 + 11) + 41 ≤ lo) (k : V G (RX5, cc, ret, fr, lo, nL, mn, hh) B (pc + 3) ls (st) M1) : V G (RX5, cc, ret, fr, lo, nL, mn, hh) B pc ls (.ref l2 :: .int l1 :: .ref l0 :: st) M := v_callI (As := [.int l1, .ref l2]) (k_X2_init e) wd_X5_26 hd rfl rfl hcat hR k
set_option maxHeartbeats 4000000 in
set_option maxRecDepth 100000 in
theorem w_X5_init_L23 {G : Gl} {ρ0 : Nat → Nat} {M0 MF : Mem} {r : Unit} : ∀ (n : Nat) (l0 : Nat) (l1 : Nat) (l2 : Int32) (M : Mem), f_X5_init_L23 n l0 l1 l2 M = some MF → V G (RX5, cX5_init, none, 3, 64, 3, "<init>", []) (ρ0, M0, cvV r, MF) 23 [(0, .ref l0), (1, .ref l1), (2, .int l2)] [] M := by
  intro n
  induction n with
  | zero => intro l0 l1 l2 M h; cases h
  | succ n ih =>
    intro l0 l1 l2 M h
    rw [f_X5_init_L23] at h
    refine v_iload_n dX5_init_23 rfl 2 rfl ?_
    refine v_bipush (v := 6) dX5_init_24 cb_6 ?_
    refine v_icmp_ge (tgt := 49) dX5_init_26 (by decide) (fun c9 => ?_) (fun c9 => ?_)
    · replace h := ifP c9 h
      refine v_aload_n dX5_init_49 rfl 0 rfl ?_
      obtain ⟨v1, M2, e, h⟩ := bindP_some h
      refine nx_X5_24 e dX5_init_50 ?_
      refine v_dup dX5_init_53 rfl ?_
      refine v_iconst (v := 5) dX5_init_54 ci_5 ?_
      refine v_aload_n dX5_init_55 rfl 1 rfl ?_
      obtain ⟨M3, e, h⟩ := bind_some h
      refine ca_X5_26 e dX5_init_56 (Nat.le_of_ble_eq_true rfl) (by decide) ?_
      obtain ⟨M4, e, h⟩ := bind_some h
      refine pt_X5_29 e dX5_init_59 ?_
      refine v_aload_n dX5_init_62 rfl 0 rfl ?_
      obtain ⟨v5, M6, e, h⟩ := bindP_some h
      refine nx_X5_24 e dX5_init_63 ?_
      refine v_dup dX5_init_66 rfl ?_
      refine v_bipush (v := 8) dX5_init_67 cb_8 ?_
      refine v_aload_n dX5_init_69 rfl 1 rfl ?_
      obtain ⟨M7, e, h⟩ := bind_some h
      refine ca_X5_26 e dX5_init_70 (Nat.le_of_ble_eq_true rfl) (by decide) ?_
      obtain ⟨M8, e, h⟩ := bind_some h
      refine pt_X5_33 e dX5_init_73 ?_
      cases h
      exact v_vreturn dX5_init_76
    · replace h := ifN c9 h
      refine v_aload_n dX5_init_29 rfl 0 rfl ?_
      obtain ⟨v1, e, h⟩ := bind_some h
      refine gt_X5_17 e dX5_init_30 ?_
      refine v_iload_n dX5_init_33 rfl 2 rfl ?_
      obtain ⟨v2, M3, e, h⟩ := bindP_some h
      refine nx_X5_15 e dX5_init_34 ?_
      refine v_dup dX5_init_37 rfl ?_
      refine v_aload_n dX5_init_38 rfl 1 rfl ?_
      obtain ⟨M4, e, h⟩ := bind_some h
      refine ca_X5_21 e dX5_init_39 (Nat.le_of_ble_eq_true rfl) (by decide) ?_
      obtain ⟨M5, e, h⟩ := bind_some h
      refine as_8 e dX5_init_42 ?_
      refine v_iinc (ls' := [(2, .int (l2 + 1)), (0, .ref l0), (1, .ref l1)]) dX5_init_43 2 rfl (v := 1) ci_1 (by decide) rfl ?_
      refine v_goto (tgt := 23) dX5_init_46 (by decide) ?_
      refine v_sub [1, 2, 0] rfl ?_
      exact ih l0 l1 (l2 + 1) M5 h
set_option maxHeartbeats 4000000 in
set_option maxRecDepth 100000 in
theorem w_X5_init {G : Gl} {ρ0 : Nat → Nat} {M0 MF : Mem} {r : Unit} (l0 : Nat) (l1 : Nat) (M : Mem) (h : f_X5_init l0 l1 M = some MF) : V G (RX5, cX5_init, none, 3, 64, 3, "<init>", []) (ρ0, M0, cvV r, MF) 0 [(0, .ref l0), (1, .ref l1)] [] M := by
  unfold f_X5_init at h
  refine v_aload_n dX5_init_0 rfl 0 rfl ?_
  refine oi_X5 dX5_init_1 (by decide) (Nat.le_of_ble_eq_true rfl) ?_
  refine v_aload_n dX5_init_4 rfl 0 rfl ?_
  refine v_bipush (v := 51) dX5_init_5 cb_51 ?_
  obtain ⟨v1, M2, e, h⟩ := bindP_some h
  refine v_newa_boolean dX5_init_7 aw_boolean e ?_
  obtain ⟨M3, e, h⟩ := bind_some h
  refine pt_X5_9 e dX5_init_9 ?_
  refine v_aload_n dX5_init_12 rfl 0 rfl ?_
  refine v_bipush (v := 6) dX5_init_13 cb_6 ?_
  obtain ⟨v4, M5, e, h⟩ := bindP_some h
  refine na_X5_15 e dX5_init_15 ?_
  obtain ⟨M6, e, h⟩ := bind_some h
  refine pt_X5_17 e dX5_init_18 ?_
  refine v_iconst (v := 0) dX5_init_21 ci_0 ?_
  refine v_istore_n (ls' := [(2, .int (0 : Int32)), (0, .ref l0), (1, .ref l1)]) dX5_init_22 rfl (by decide) rfl ?_
  refine v_sub [1, 2, 0] rfl ?_
  exact w_X5_init_L23 FU l0 l1 (0 : Int32) M6 h
theorem k_X5_init {G : Gl} {l0 : Nat} {l1 : Nat} {M MF : Mem} (h : f_X5_init l0 l1 M = some MF) : CtrP G yX5_init cX5_init 3 none 3 64 [.ref l0, .ref l1] M (cvV ()) MF :=
  ctr_of (by decide +kernel) (Nat.le_of_ble_eq_true rfl) (fun ρ => w_X5_init (r := ()) l0 l1 M h)
theorem wd_X0_27 : wdI RX0 27 yX5_init cX5_init 3 1 := ⟨gwi 253 (by decide +kernel) (by decide +kernel), gwi 254 (by decide +kernel) (by decide +kernel), nw_X5, gwi 255 (by decide +kernel) (by decide +kernel), rfl, ⟨by decide +kernel, by decide +kernel, by decide +kernel⟩⟩
theorem ca_X0_27 {G : Gl} {B : Bx} {cc : ByteArray} {ret : Option FieldType} {fr lo nL : Nat} {mn : String} {hh : List (Nat × Nat × Nat × Nat)} {pc : Nat} {ls : List (Nat × Value)} {st : List Value} {M M1 : Mem} {l0 : Nat} {l1 : Nat} (e : f_X5_init l0 l1 M = some M1) (hd : decode cc pc = .ok (.invokespecial 27, 3)) (hcat : (st.map fun v => v.category).sum ≤ 8) (hR : 3 + 1 ≤ fr ∧ 8 + (3 + 11) + 64 ≤ lo) (k : V G (RX0, cc, ret, fr, lo, nL, mn, hh) B (pc + 3) ls (st) M1) : V G (RX0, cc, ret, fr, lo, nL, mn, hh) B pc ls (.ref l1 :: .ref l0 :: st) M := v_callI (As := [.ref l1]) (k_X5_init e) wd_X0_27 hd rfl rfl hcat hR k
set_option maxHeartbeats 4000000 in
set_option maxRecDepth 100000 in
theorem w_X0_init {G : Gl} {ρ0 : Nat → Nat} {M0 MF : Mem} {r : Unit} (l0 : Nat) (l1 : Nat) (M : Mem) (h : f_X0_init l0 l1 M = some MF) : V G (RX0, cX0_init, none, 4, 86, 2, "<init>", []) (ρ0, M0, cvV r, MF) 0 [(0, .ref l0), (1, .ref l1)] [] M := by
  unfold f_X0_init at h
  refine v_aload_n dX0_init_0 rfl 0 rfl ?_
  refine oi_X0 dX0_init_1 (by decide) (Nat.le_of_ble_eq_true rfl) ?_
  refine v_aload_n dX0_init_4 rfl 0 rfl ?_
  obtain ⟨v1, M2, e, h⟩ := bindP_some h
  refine nx_X0_7 e dX0_init_5 ?_
  refine v_dup dX0_init_8 rfl ?_
  refine v_aload_n dX0_init_9 rfl 1 rfl ?_
  obtain ⟨M3, e, h⟩ := bind_some h
  refine ca_X0_9 e dX0_init_10 (Nat.le_of_ble_eq_true rfl) (by decide) ?_
  obtain ⟨M4, e, h⟩ := bind_some h
  refine pt_X0_12 e dX0_init_13 ?_
  refine v_aload_n dX0_init_16 rfl 0 rfl ?_
  obtain ⟨v5, M6, e, h⟩ := bindP_some h
  refine nx_X0_18 e dX0_init_17 ?_
  refine v_dup dX0_init_20 rfl ?_
  refine v_aload_n dX0_init_21 rfl 1 rfl ?_
  obtain ⟨M7, e, h⟩ := bind_some h
  refine ca_X0_20 e dX0_init_22 (Nat.le_of_ble_eq_true rfl) (by decide) ?_
  obtain ⟨M8, e, h⟩ := bind_some h
  refine pt_X0_21 e dX0_init_25 ?_
  refine v_aload_n dX0_init_28 rfl 0 rfl ?_
  obtain ⟨v9, M10, e, h⟩ := bindP_some h
  refine nx_X0_25 e dX0_init_29 ?_
  refine v_dup dX0_init_32 rfl ?_
  refine v_aload_n dX0_init_33 rfl 1 rfl ?_
  obtain ⟨M11, e, h⟩ := bind_some h
  refine ca_X0_27 e dX0_init_34 (Nat.le_of_ble_eq_true rfl) (by decide) ?_
  obtain ⟨M12, e, h⟩ := bind_some h
  refine pt_X0_28 e dX0_init_37 ?_
  cases h
  exact v_vreturn dX0_init_40
theorem k_X0_init {G : Gl} {l0 : Nat} {l1 : Nat} {M MF : Mem} (h : f_X0_init l0 l1 M = some MF) : CtrP G yX0_init cX0_init 2 none 4 86 [.ref l0, .ref l1] M (cvV ()) MF :=
  ctr_of (by decide +kernel) (Nat.le_of_ble_eq_true rfl) (fun ρ => w_X0_init (r := ()) l0 l1 M h)
theorem wd_X7_21 : wdI RX7 21 yX0_init cX0_init 2 1 := ⟨gwi 224 (by decide +kernel) (by decide +kernel), gwi 225 (by decide +kernel) (by decide +kernel), nw_X0, gwi 226 (by decide +kernel) (by decide +kernel), rfl, ⟨by decide +kernel, by decide +kernel, by decide +kernel⟩⟩
theorem ca_X7_21 {G : Gl} {B : Bx} {cc : ByteArray} {ret : Option FieldType} {fr lo nL : Nat} {mn : String} {hh : List (Nat × Nat × Nat × Nat)} {pc : Nat} {ls : List (Nat × Value)} {st : List Value} {M M1 : Mem} {l0 : Nat} {l1 : Nat} (e : f_X0_init l0 l1 M = some M1) (hd : decode cc pc = .ok (.invokespecial 21, 3)) (hcat : (st.map fun v => v.category).sum ≤ 8) (hR : 4 + 1 ≤ fr ∧ 8 + (2 + 11) + 86 ≤ lo) (k : V G (RX7, cc, ret, fr, lo, nL, mn, hh) B (pc + 3) ls (st) M1) : V G (RX7, cc, ret, fr, lo, nL, mn, hh) B pc ls (.ref l1 :: .ref l0 :: st) M := v_callI (As := [.ref l1]) (k_X0_init e) wd_X7_21 hd rfl rfl hcat hR k
set_option maxHeartbeats 4000000 in
set_option maxRecDepth 100000 in
theorem w_X1_copyFrom {G : Gl} {ρ0 : Nat → Nat} {M0 MF : Mem} {r : Unit} (l0 : Nat) (l1 : Nat) (M : Mem) (h : f_X1_copyFrom l0 l1 M = some MF) : V G (RX1, cX1_copyFrom, none, 0, 0, 2, "copyFrom", []) (ρ0, M0, cvV r, MF) 0 [(0, .ref l0), (1, .ref l1)] [] M := by
  unfold f_X1_copyFrom at h
  replace h := (ifS h).2
  refine v_aload_n dX1_copyFrom_0 rfl 0 rfl ?_
  refine v_aload_n dX1_copyFrom_1 rfl 1 rfl ?_
  obtain ⟨v1, e, h⟩ := bind_some h
  refine gt_X1_7 e dX1_copyFrom_2 ?_
  obtain ⟨M2, e, h⟩ := bind_some h
  refine pt_X1_7 e dX1_copyFrom_5 ?_
  refine v_aload_n dX1_copyFrom_8 rfl 0 rfl ?_
  refine v_aload_n dX1_copyFrom_9 rfl 1 rfl ?_
  obtain ⟨v3, e, h⟩ := bind_some h
  refine gt_X1_13 e dX1_copyFrom_10 ?_
  obtain ⟨M4, e, h⟩ := bind_some h
  refine pt_X1_13 e dX1_copyFrom_13 ?_
  refine v_aload_n dX1_copyFrom_16 rfl 0 rfl ?_
  refine v_aload_n dX1_copyFrom_17 rfl 1 rfl ?_
  obtain ⟨v5, e, h⟩ := bind_some h
  refine gt_X1_17 e dX1_copyFrom_18 ?_
  obtain ⟨M6, e, h⟩ := bind_some h
  refine pt_X1_17 e dX1_copyFrom_21 ?_
  refine v_aload_n dX1_copyFrom_24 rfl 0 rfl ?_
  refine v_aload_n dX1_copyFrom_25 rfl 1 rfl ?_
  obtain ⟨v7, e, h⟩ := bind_some h
  refine gt_X1_20 e dX1_copyFrom_26 ?_
  obtain ⟨M8, e, h⟩ := bind_some h
  refine pt_X1_20 e dX1_copyFrom_29 ?_
  refine v_aload_n dX1_copyFrom_32 rfl 0 rfl ?_
  refine v_aload_n dX1_copyFrom_33 rfl 1 rfl ?_
  obtain ⟨v9, e, h⟩ := bind_some h
  refine gt_X1_23 e dX1_copyFrom_34 ?_
  obtain ⟨M10, e, h⟩ := bind_some h
  refine pt_X1_23 e dX1_copyFrom_37 ?_
  refine v_aload_n dX1_copyFrom_40 rfl 0 rfl ?_
  refine v_aload_n dX1_copyFrom_41 rfl 1 rfl ?_
  obtain ⟨v11, e, h⟩ := bind_some h
  refine gt_X1_26 e dX1_copyFrom_42 ?_
  obtain ⟨M12, e, h⟩ := bind_some h
  refine pt_X1_26 e dX1_copyFrom_45 ?_
  refine v_aload_n dX1_copyFrom_48 rfl 0 rfl ?_
  refine v_aload_n dX1_copyFrom_49 rfl 1 rfl ?_
  obtain ⟨v13, e, h⟩ := bind_some h
  refine gt_X1_29 e dX1_copyFrom_50 ?_
  obtain ⟨M14, e, h⟩ := bind_some h
  refine pt_X1_29 e dX1_copyFrom_53 ?_
  cases h
  exact v_vreturn dX1_copyFrom_56
theorem kd_X1_copyFrom {l0 : Nat} {l1 : Nat} {M : Mem} {z : _} (h : f_X1_copyFrom l0 l1 M = some z) : (mK M l0).1 = 1 := by
  unfold f_X1_copyFrom at h
  exact (ifS h).1
theorem k_X1_copyFrom {G : Gl} {l0 : Nat} {l1 : Nat} {M MF : Mem} (h : f_X1_copyFrom l0 l1 M = some MF) : CtrP G yX1_copyFrom cX1_copyFrom 2 none 0 0 [.ref l0, .ref l1] M (cvV ()) MF :=
  ctr_of (by decide +kernel) (Nat.le_of_ble_eq_true rfl) (fun ρ => w_X1_copyFrom (r := ()) l0 l1 M h)
theorem wd_X0_42 : wdV RX0 42 RX1 yX1_copyFrom cX1_copyFrom 2 none 1 := ⟨gwi 532 (by decide +kernel) (by decide +kernel), gwi 533 (by decide +kernel) (by decide +kernel), gwi 534 (by decide +kernel) (by decide +kernel), nw_X1, gwi 535 (by decide +kernel) (by decide +kernel), ⟨rfl, by decide +kernel, by decide +kernel, by decide +kernel⟩⟩
theorem ca_X0_42 {G : Gl} {B : Bx} {cc : ByteArray} {ret : Option FieldType} {fr lo nL : Nat} {mn : String} {hh : List (Nat × Nat × Nat × Nat)} {pc : Nat} {ls : List (Nat × Value)} {st : List Value} {M M1 : Mem} {l0 : Nat} {l1 : Nat} (e : f_X1_copyFrom l0 l1 M = some M1) (hd : decode cc pc = .ok (.invokevirtual 42, 3)) (hcat : (st.map fun v => v.category).sum ≤ 8) (hR : 0 + 1 ≤ fr ∧ 8 + (2 + 11) + 0 ≤ lo) (k : V G (RX0, cc, ret, fr, lo, nL, mn, hh) B (pc + 3) ls (st) M1) : V G (RX0, cc, ret, fr, lo, nL, mn, hh) B pc ls (.ref l1 :: .ref l0 :: st) M := v_callV0 (As := [.ref l1]) (k_X1_copyFrom e) wd_X0_42 clX1 (kd_X1_copyFrom e) hd rfl rfl hcat hR k
theorem wd_X2_28 : wdV RX2 28 RX1 yX1_copyFrom cX1_copyFrom 2 none 1 := ⟨gwi 556 (by decide +kernel) (by decide +kernel), gwi 533 (by decide +kernel) (by decide +kernel), gwi 534 (by decide +kernel) (by decide +kernel), nw_X1, gwi 535 (by decide +kernel) (by decide +kernel), ⟨rfl, by decide +kernel, by decide +kernel, by decide +kernel⟩⟩
theorem ca_X2_28 {G : Gl} {B : Bx} {cc : ByteArray} {ret : Option FieldType} {fr lo nL : Nat} {mn : String} {hh : List (Nat × Nat × Nat × Nat)} {pc : Nat} {ls : List (Nat × Value)} {st : List Value} {M M1 : Mem} {l0 : Nat} {l1 : Nat} (e : f_X1_copyFrom l0 l1 M = some M1) (hd : decode cc pc = .ok (.invokevirtual 28, 3)) (hcat : (st.map fun v => v.category).sum ≤ 8) (hR : 0 + 1 ≤ fr ∧ 8 + (2 + 11) + 0 ≤ lo) (k : V G (RX2, cc, ret, fr, lo, nL, mn, hh) B (pc + 3) ls (st) M1) : V G (RX2, cc, ret, fr, lo, nL, mn, hh) B pc ls (.ref l1 :: .ref l0 :: st) M := v_callV0 (As := [.ref l1]) (k_X1_copyFrom e) wd_X2_28 clX1 (kd_X1_copyFrom e) hd rfl rfl hcat hR k
theorem wd_X7_73 : wdV RX7 73 RX1 yX1_copyFrom cX1_copyFrom 2 none 1 := ⟨gwi 561 (by decide +kernel) (by decide +kernel), gwi 533 (by decide +kernel) (by decide +kernel), gwi 534 (by decide +kernel) (by decide +kernel), nw_X1, gwi 535 (by decide +kernel) (by decide +kernel), ⟨rfl, by decide +kernel, by decide +kernel, by decide +kernel⟩⟩
theorem ca_X7_73 {G : Gl} {B : Bx} {cc : ByteArray} {ret : Option FieldType} {fr lo nL : Nat} {mn : String} {hh : List (Nat × Nat × Nat × Nat)} {pc : Nat} {ls : List (Nat × Value)} {st : List Value} {M M1 : Mem} {l0 : Nat} {l1 : Nat} (e : f_X1_copyFrom l0 l1 M = some M1) (hd : decode cc pc = .ok (.invokevirtual 73, 3)) (hcat : (st.map fun v => v.category).sum ≤ 8) (hR : 0 + 1 ≤ fr ∧ 8 + (2 + 11) + 0 ≤ lo) (k : V G (RX7, cc, ret, fr, lo, nL, mn, hh) B (pc + 3) ls (st) M1) : V G (RX7, cc, ret, fr, lo, nL, mn, hh) B pc ls (.ref l1 :: .ref l0 :: st) M := v_callV0 (As := [.ref l1]) (k_X1_copyFrom e) wd_X7_73 clX1 (kd_X1_copyFrom e) hd rfl rfl hcat hR k
set_option maxHeartbeats 4000000 in
set_option maxRecDepth 100000 in
theorem w_X3_copyFrom {G : Gl} {ρ0 : Nat → Nat} {M0 MF : Mem} {r : Unit} (l0 : Nat) (l1 : Nat) (M : Mem) (h : f_X3_copyFrom l0 l1 M = some MF) : V G (RX3, cX3_copyFrom, none, 0, 0, 2, "copyFrom", []) (ρ0, M0, cvV r, MF) 0 [(0, .ref l0), (1, .ref l1)] [] M := by
  unfold f_X3_copyFrom at h
  replace h := (ifS h).2
  refine v_aload_n dX3_copyFrom_0 rfl 0 rfl ?_
  refine v_aload_n dX3_copyFrom_1 rfl 1 rfl ?_
  obtain ⟨v1, e, h⟩ := bind_some h
  refine gt_X3_13 e dX3_copyFrom_2 ?_
  obtain ⟨M2, e, h⟩ := bind_some h
  refine pt_X3_13 e dX3_copyFrom_5 ?_
  refine v_aload_n dX3_copyFrom_8 rfl 0 rfl ?_
  refine v_aload_n dX3_copyFrom_9 rfl 1 rfl ?_
  obtain ⟨v3, e, h⟩ := bind_some h
  refine gt_X3_17 e dX3_copyFrom_10 ?_
  obtain ⟨M4, e, h⟩ := bind_some h
  refine pt_X3_17 e dX3_copyFrom_13 ?_
  refine v_aload_n dX3_copyFrom_16 rfl 0 rfl ?_
  refine v_aload_n dX3_copyFrom_17 rfl 1 rfl ?_
  obtain ⟨v5, e, h⟩ := bind_some h
  refine gt_X3_20 e dX3_copyFrom_18 ?_
  obtain ⟨M6, e, h⟩ := bind_some h
  refine pt_X3_20 e dX3_copyFrom_21 ?_
  refine v_aload_n dX3_copyFrom_24 rfl 0 rfl ?_
  refine v_aload_n dX3_copyFrom_25 rfl 1 rfl ?_
  obtain ⟨v7, e, h⟩ := bind_some h
  refine gt_X3_23 e dX3_copyFrom_26 ?_
  obtain ⟨M8, e, h⟩ := bind_some h
  refine pt_X3_23 e dX3_copyFrom_29 ?_
  refine v_aload_n dX3_copyFrom_32 rfl 0 rfl ?_
  refine v_aload_n dX3_copyFrom_33 rfl 1 rfl ?_
  obtain ⟨v9, e, h⟩ := bind_some h
  refine gt_X3_26 e dX3_copyFrom_34 ?_
  obtain ⟨M10, e, h⟩ := bind_some h
  refine pt_X3_26 e dX3_copyFrom_37 ?_
  refine v_aload_n dX3_copyFrom_40 rfl 0 rfl ?_
  refine v_aload_n dX3_copyFrom_41 rfl 1 rfl ?_
  obtain ⟨v11, e, h⟩ := bind_some h
  refine gt_X3_7 e dX3_copyFrom_42 ?_
  obtain ⟨M12, e, h⟩ := bind_some h
  refine pt_X3_7 e dX3_copyFrom_45 ?_
  cases h
  exact v_vreturn dX3_copyFrom_48
theorem kd_X3_copyFrom {l0 : Nat} {l1 : Nat} {M : Mem} {z : _} (h : f_X3_copyFrom l0 l1 M = some z) : (mK M l0).1 = 3 := by
  unfold f_X3_copyFrom at h
  exact (ifS h).1
theorem k_X3_copyFrom {G : Gl} {l0 : Nat} {l1 : Nat} {M MF : Mem} (h : f_X3_copyFrom l0 l1 M = some MF) : CtrP G yX3_copyFrom cX3_copyFrom 2 none 0 0 [.ref l0, .ref l1] M (cvV ()) MF :=
  ctr_of (by decide +kernel) (Nat.le_of_ble_eq_true rfl) (fun ρ => w_X3_copyFrom (r := ()) l0 l1 M h)
theorem wd_X11_255 : wdV RX11 255 RX3 yX3_copyFrom cX3_copyFrom 2 none 1 := ⟨gwi 1074 (by decide +kernel) (by decide +kernel), gwi 541 (by decide +kernel) (by decide +kernel), gwi 542 (by decide +kernel) (by decide +kernel), nw_X3, gwi 543 (by decide +kernel) (by decide +kernel), ⟨rfl, by decide +kernel, by decide +kernel, by decide +kernel⟩⟩
theorem ca_X11_255 {G : Gl} {B : Bx} {cc : ByteArray} {ret : Option FieldType} {fr lo nL : Nat} {mn : String} {hh : List (Nat × Nat × Nat × Nat)} {pc : Nat} {ls : List (Nat × Value)} {st : List Value} {M M1 : Mem} {l0 : Nat} {l1 : Nat} (e : f_X3_copyFrom l0 l1 M = some M1) (hd : decode cc pc = .ok (.invokevirtual 255, 3)) (hcat : (st.map fun v => v.category).sum ≤ 8) (hR : 0 + 1 ≤ fr ∧ 8 + (2 + 11) + 0 ≤ lo) (k : V G (RX11, cc, ret, fr, lo, nL, mn, hh) B (pc + 3) ls (st) M1) : V G (RX11, cc, ret, fr, lo, nL, mn, hh) B pc ls (.ref l1 :: .ref l0 :: st) M := v_callV0 (As := [.ref l1]) (k_X3_copyFrom e) wd_X11_255 clX3 (kd_X3_copyFrom e) hd rfl rfl hcat hR k
theorem wd_X4_27 : wdV RX4 27 RX3 yX3_copyFrom cX3_copyFrom 2 none 1 := ⟨gwi 540 (by decide +kernel) (by decide +kernel), gwi 541 (by decide +kernel) (by decide +kernel), gwi 542 (by decide +kernel) (by decide +kernel), nw_X3, gwi 543 (by decide +kernel) (by decide +kernel), ⟨rfl, by decide +kernel, by decide +kernel, by decide +kernel⟩⟩
theorem ca_X4_27 {G : Gl} {B : Bx} {cc : ByteArray} {ret : Option FieldType} {fr lo nL : Nat} {mn : String} {hh : List (Nat × Nat × Nat × Nat)} {pc : Nat} {ls : List (Nat × Value)} {st : List Value} {M M1 : Mem} {l0 : Nat} {l1 : Nat} (e : f_X3_copyFrom l0 l1 M = some M1) (hd : decode cc pc = .ok (.invokevirtual 27, 3)) (hcat : (st.map fun v => v.category).sum ≤ 8) (hR : 0 + 1 ≤ fr ∧ 8 + (2 + 11) + 0 ≤ lo) (k : V G (RX4, cc, ret, fr, lo, nL, mn, hh) B (pc + 3) ls (st) M1) : V G (RX4, cc, ret, fr, lo, nL, mn, hh) B pc ls (.ref l1 :: .ref l0 :: st) M := v_callV0 (As := [.ref l1]) (k_X3_copyFrom e) wd_X4_27 clX3 (kd_X3_copyFrom e) hd rfl rfl hcat hR k
set_option maxHeartbeats 4000000 in
set_option maxRecDepth 100000 in
theorem w_X4_copyFrom_L15 {G : Gl} {ρ0 : Nat → Nat} {M0 MF : Mem} {r : Unit} : ∀ (n : Nat) (l0 : Nat) (l1 : Nat) (l2 : Int32) (M : Mem), f_X4_copyFrom_L15 n l0 l1 l2 M = some MF → V G (RX4, cX4_copyFrom, none, 1, 21, 3, "copyFrom", []) (ρ0, M0, cvV r, MF) 15 [(0, .ref l0), (1, .ref l1), (2, .int l2)] [] M := by
  intro n
  induction n with
  | zero => intro l0 l1 l2 M h; cases h
  | succ n ih =>
    intro l0 l1 l2 M h
    rw [f_X4_copyFrom_L15] at h
    refine v_iload_n dX4_copyFrom_15 rfl 2 rfl ?_
    refine v_aload_n dX4_copyFrom_16 rfl 0 rfl ?_
    obtain ⟨v1, e, h⟩ := bind_some h
    refine gt_X4_24 e dX4_copyFrom_17 ?_
    refine v_icmp_ge (tgt := 58) dX4_copyFrom_20 (by decide) (fun c9 => ?_) (fun c9 => ?_)
    · replace h := ifP c9 h
      cases h
      exact v_vreturn dX4_copyFrom_58
    · replace h := ifN c9 h
      refine v_iload_n dX4_copyFrom_23 rfl 2 rfl ?_
      refine v_bipush (v := 30) dX4_copyFrom_24 cb_30 ?_
      refine v_icmp_ge (tgt := 58) dX4_copyFrom_26 (by decide) (fun c8 => ?_) (fun c8 => ?_)
      · replace h := ifP c8 h
        cases h
        exact v_vreturn dX4_copyFrom_58
      · replace h := ifN c8 h
        refine v_aload_n dX4_copyFrom_29 rfl 0 rfl ?_
        obtain ⟨v2, e, h⟩ := bind_some h
        refine gt_X4_11 e dX4_copyFrom_30 ?_
        refine v_iload_n dX4_copyFrom_33 rfl 2 rfl ?_
        obtain ⟨v3, e, h⟩ := bind_some h
        refine al_3 e dX4_copyFrom_34 ?_
        refine v_aload_n dX4_copyFrom_35 rfl 1 rfl ?_
        obtain ⟨v4, e, h⟩ := bind_some h
        refine gt_X4_11 e dX4_copyFrom_36 ?_
        refine v_aload_n dX4_copyFrom_39 rfl 1 rfl ?_
        obtain ⟨v5, e, h⟩ := bind_some h
        refine gt_X4_20 e dX4_copyFrom_40 ?_
        refine v_iload_n dX4_copyFrom_43 rfl 2 rfl ?_
        refine v_iadd dX4_copyFrom_44 ?_
        refine v_bipush (v := 30) dX4_copyFrom_45 cb_30 ?_
        refine v_irem dX4_copyFrom_47 (by decide) ?_
        obtain ⟨v6, e, h⟩ := bind_some h
        refine al_3 e dX4_copyFrom_48 ?_
        obtain ⟨M7, e, h⟩ := bind_some h
        refine ca_X4_27 e dX4_copyFrom_49 (Nat.le_of_ble_eq_true rfl) (by decide) ?_
        refine v_iinc (ls' := [(2, .int (l2 + 1)), (0, .ref l0), (1, .ref l1)]) dX4_copyFrom_52 2 rfl (v := 1) ci_1 (by decide) rfl ?_
        refine v_goto (tgt := 15) dX4_copyFrom_55 (by decide) ?_
        refine v_sub [1, 2, 0] rfl ?_
        exact ih l0 l1 (l2 + 1) M7 h
set_option maxHeartbeats 4000000 in
set_option maxRecDepth 100000 in
theorem w_X4_copyFrom {G : Gl} {ρ0 : Nat → Nat} {M0 MF : Mem} {r : Unit} (l0 : Nat) (l1 : Nat) (M : Mem) (h : f_X4_copyFrom l0 l1 M = some MF) : V G (RX4, cX4_copyFrom, none, 1, 21, 3, "copyFrom", []) (ρ0, M0, cvV r, MF) 0 [(0, .ref l0), (1, .ref l1)] [] M := by
  unfold f_X4_copyFrom at h
  replace h := (ifS h).2
  refine v_aload_n dX4_copyFrom_0 rfl 0 rfl ?_
  refine v_iconst (v := 0) dX4_copyFrom_1 ci_0 ?_
  obtain ⟨M1, e, h⟩ := bind_some h
  refine pt_X4_20 e dX4_copyFrom_2 ?_
  refine v_aload_n dX4_copyFrom_5 rfl 0 rfl ?_
  refine v_aload_n dX4_copyFrom_6 rfl 1 rfl ?_
  obtain ⟨v2, e, h⟩ := bind_some h
  refine gt_X4_24 e dX4_copyFrom_7 ?_
  obtain ⟨M3, e, h⟩ := bind_some h
  refine pt_X4_24 e dX4_copyFrom_10 ?_
  refine v_iconst (v := 0) dX4_copyFrom_13 ci_0 ?_
  refine v_istore_n (ls' := [(2, .int (0 : Int32)), (0, .ref l0), (1, .ref l1)]) dX4_copyFrom_14 rfl (by decide) rfl ?_
  refine v_sub [1, 2, 0] rfl ?_
  exact w_X4_copyFrom_L15 FU l0 l1 (0 : Int32) M3 h
theorem kd_X4_copyFrom {l0 : Nat} {l1 : Nat} {M : Mem} {z : _} (h : f_X4_copyFrom l0 l1 M = some z) : (mK M l0).1 = 4 := by
  unfold f_X4_copyFrom at h
  exact (ifS h).1
theorem k_X4_copyFrom {G : Gl} {l0 : Nat} {l1 : Nat} {M MF : Mem} (h : f_X4_copyFrom l0 l1 M = some MF) : CtrP G yX4_copyFrom cX4_copyFrom 3 none 1 21 [.ref l0, .ref l1] M (cvV ()) MF :=
  ctr_of (by decide +kernel) (Nat.le_of_ble_eq_true rfl) (fun ρ => w_X4_copyFrom (r := ()) l0 l1 M h)
theorem wd_X0_46 : wdV RX0 46 RX4 yX4_copyFrom cX4_copyFrom 3 none 1 := ⟨gwi 536 (by decide +kernel) (by decide +kernel), gwi 537 (by decide +kernel) (by decide +kernel), gwi 538 (by decide +kernel) (by decide +kernel), nw_X4, gwi 539 (by decide +kernel) (by decide +kernel), ⟨rfl, by decide +kernel, by decide +kernel, by decide +kernel⟩⟩
theorem ca_X0_46 {G : Gl} {B : Bx} {cc : ByteArray} {ret : Option FieldType} {fr lo nL : Nat} {mn : String} {hh : List (Nat × Nat × Nat × Nat)} {pc : Nat} {ls : List (Nat × Value)} {st : List Value} {M M1 : Mem} {l0 : Nat} {l1 : Nat} (e : f_X4_copyFrom l0 l1 M = some M1) (hd : decode cc pc = .ok (.invokevirtual 46, 3)) (hcat : (st.map fun v => v.category).sum ≤ 8) (hR : 1 + 1 ≤ fr ∧ 8 + (3 + 11) + 21 ≤ lo) (k : V G (RX0, cc, ret, fr, lo, nL, mn, hh) B (pc + 3) ls (st) M1) : V G (RX0, cc, ret, fr, lo, nL, mn, hh) B pc ls (.ref l1 :: .ref l0 :: st) M := v_callV0 (As := [.ref l1]) (k_X4_copyFrom e) wd_X0_46 clX4 (kd_X4_copyFrom e) hd rfl rfl hcat hR k
set_option maxHeartbeats 4000000 in
set_option maxRecDepth 100000 in
theorem w_X8_copyFrom {G : Gl} {ρ0 : Nat → Nat} {M0 MF : Mem} {r : Unit} (l0 : Nat) (l1 : Nat) (M : Mem) (h : f_X8_copyFrom l0 l1 M = some MF) : V G (RX8, cX8_copyFrom, none, 0, 0, 2, "copyFrom", []) (ρ0, M0, cvV r, MF) 0 [(0, .ref l0), (1, .ref l1)] [] M := by
  unfold f_X8_copyFrom at h
  replace h := (ifS h).2
  refine v_aload_n dX8_copyFrom_0 rfl 0 rfl ?_
  refine v_aload_n dX8_copyFrom_1 rfl 1 rfl ?_
  obtain ⟨v1, e, h⟩ := bind_some h
  refine gt_X8_7 e dX8_copyFrom_2 ?_
  obtain ⟨M2, e, h⟩ := bind_some h
  refine pt_X8_7 e dX8_copyFrom_5 ?_
  refine v_aload_n dX8_copyFrom_8 rfl 0 rfl ?_
  refine v_aload_n dX8_copyFrom_9 rfl 1 rfl ?_
  obtain ⟨v3, e, h⟩ := bind_some h
  refine gt_X8_13 e dX8_copyFrom_10 ?_
  obtain ⟨M4, e, h⟩ := bind_some h
  refine pt_X8_13 e dX8_copyFrom_13 ?_
  refine v_aload_n dX8_copyFrom_16 rfl 0 rfl ?_
  refine v_aload_n dX8_copyFrom_17 rfl 1 rfl ?_
  obtain ⟨v5, e, h⟩ := bind_some h
  refine gt_X8_17 e dX8_copyFrom_18 ?_
  obtain ⟨M6, e, h⟩ := bind_some h
  refine pt_X8_17 e dX8_copyFrom_21 ?_
  refine v_aload_n dX8_copyFrom_24 rfl 0 rfl ?_
  refine v_aload_n dX8_copyFrom_25 rfl 1 rfl ?_
  obtain ⟨v7, e, h⟩ := bind_some h
  refine gt_X8_20 e dX8_copyFrom_26 ?_
  obtain ⟨M8, e, h⟩ := bind_some h
  refine pt_X8_20 e dX8_copyFrom_29 ?_
  cases h
  exact v_vreturn dX8_copyFrom_32
theorem kd_X8_copyFrom {l0 : Nat} {l1 : Nat} {M : Mem} {z : _} (h : f_X8_copyFrom l0 l1 M = some z) : (mK M l0).1 = 8 := by
  unfold f_X8_copyFrom at h
  exact (ifS h).1
theorem k_X8_copyFrom {G : Gl} {l0 : Nat} {l1 : Nat} {M MF : Mem} (h : f_X8_copyFrom l0 l1 M = some MF) : CtrP G yX8_copyFrom cX8_copyFrom 2 none 0 0 [.ref l0, .ref l1] M (cvV ()) MF :=
  ctr_of (by decide +kernel) (Nat.le_of_ble_eq_true rfl) (fun ρ => w_X8_copyFrom (r := ()) l0 l1 M h)
theorem wd_X5_101 : wdV RX5 101 RX8 yX8_copyFrom cX8_copyFrom 2 none 1 := ⟨gwi 548 (by decide +kernel) (by decide +kernel), gwi 549 (by decide +kernel) (by decide +kernel), gwi 550 (by decide +kernel) (by decide +kernel), nw_X8, gwi 551 (by decide +kernel) (by decide +kernel), ⟨rfl, by decide +kernel, by decide +kernel, by decide +kernel⟩⟩
theorem ca_X5_101 {G : Gl} {B : Bx} {cc : ByteArray} {ret : Option FieldType} {fr lo nL : Nat} {mn : String} {hh : List (Nat × Nat × Nat × Nat)} {pc : Nat} {ls : List (Nat × Value)} {st : List Value} {M M1 : Mem} {l0 : Nat} {l1 : Nat} (e : f_X8_copyFrom l0 l1 M = some M1) (hd : decode cc pc = .ok (.invokevirtual 101, 3)) (hcat : (st.map fun v => v.category).sum ≤ 8) (hR : 0 + 1 ≤ fr ∧ 8 + (2 + 11) + 0 ≤ lo) (k : V G (RX5, cc, ret, fr, lo, nL, mn, hh) B (pc + 3) ls (st) M1) : V G (RX5, cc, ret, fr, lo, nL, mn, hh) B pc ls (.ref l1 :: .ref l0 :: st) M := v_callV0 (As := [.ref l1]) (k_X8_copyFrom e) wd_X5_101 clX8 (kd_X8_copyFrom e) hd rfl rfl hcat hR k
set_option maxHeartbeats 4000000 in
set_option maxRecDepth 100000 in
theorem w_X2_copyFrom_L10 {G : Gl} {ρ0 : Nat → Nat} {M0 MF : Mem} {r : Unit} : ∀ (n : Nat) (l0 : Nat) (l1 : Nat) (l2 : Int32) (M : Mem), f_X2_copyFrom_L10 n l0 l1 l2 M = some MF → V G (RX2, cX2_copyFrom, none, 1, 21, 3, "copyFrom", []) (ρ0, M0, cvV r, MF) 10 [(0, .ref l0), (1, .ref l1), (2, .int l2)] [] M := by
  intro n
  induction n with
  | zero => intro l0 l1 l2 M h; cases h
  | succ n ih =>
    intro l0 l1 l2 M h
    rw [f_X2_copyFrom_L10] at h
    refine v_iload_n dX2_copyFrom_10 rfl 2 rfl ?_
    refine v_aload_n dX2_copyFrom_11 rfl 0 rfl ?_
    obtain ⟨v1, e, h⟩ := bind_some h
    refine gt_X2_24 e dX2_copyFrom_12 ?_
    refine v_icmp_ge (tgt := 57) dX2_copyFrom_15 (by decide) (fun c13 => ?_) (fun c13 => ?_)
    · replace h := ifP c13 h
      cases h
      exact v_vreturn dX2_copyFrom_57
    · replace h := ifN c13 h
      refine v_iload_n dX2_copyFrom_18 rfl 2 rfl ?_
      refine v_aload_n dX2_copyFrom_19 rfl 0 rfl ?_
      obtain ⟨v2, e, h⟩ := bind_some h
      refine gt_X2_15 e dX2_copyFrom_20 ?_
      obtain ⟨v3, e, h⟩ := bind_some h
      refine v_alen dX2_copyFrom_23 e ?_
      refine v_icmp_ge (tgt := 57) dX2_copyFrom_24 (by decide) (fun c12 => ?_) (fun c12 => ?_)
      · replace h := ifP c12 h
        cases h
        exact v_vreturn dX2_copyFrom_57
      · replace h := ifN c12 h
        refine v_iload_n dX2_copyFrom_27 rfl 2 rfl ?_
        refine v_aload_n dX2_copyFrom_28 rfl 1 rfl ?_
        obtain ⟨v4, e, h⟩ := bind_some h
        refine gt_X2_15 e dX2_copyFrom_29 ?_
        obtain ⟨v5, e, h⟩ := bind_some h
        refine v_alen dX2_copyFrom_32 e ?_
        refine v_icmp_ge (tgt := 57) dX2_copyFrom_33 (by decide) (fun c11 => ?_) (fun c11 => ?_)
        · replace h := ifP c11 h
          cases h
          exact v_vreturn dX2_copyFrom_57
        · replace h := ifN c11 h
          refine v_aload_n dX2_copyFrom_36 rfl 0 rfl ?_
          obtain ⟨v6, e, h⟩ := bind_some h
          refine gt_X2_15 e dX2_copyFrom_37 ?_
          refine v_iload_n dX2_copyFrom_40 rfl 2 rfl ?_
          obtain ⟨v7, e, h⟩ := bind_some h
          refine al_1 e dX2_copyFrom_41 ?_
          refine v_aload_n dX2_copyFrom_42 rfl 1 rfl ?_
          obtain ⟨v8, e, h⟩ := bind_some h
          refine gt_X2_15 e dX2_copyFrom_43 ?_
          refine v_iload_n dX2_copyFrom_46 rfl 2 rfl ?_
          obtain ⟨v9, e, h⟩ := bind_some h
          refine al_1 e dX2_copyFrom_47 ?_
          obtain ⟨M10, e, h⟩ := bind_some h
          refine ca_X2_28 e dX2_copyFrom_48 (Nat.le_of_ble_eq_true rfl) (by decide) ?_
          refine v_iinc (ls' := [(2, .int (l2 + 1)), (0, .ref l0), (1, .ref l1)]) dX2_copyFrom_51 2 rfl (v := 1) ci_1 (by decide) rfl ?_
          refine v_goto (tgt := 10) dX2_copyFrom_54 (by decide) ?_
          refine v_sub [1, 2, 0] rfl ?_
          exact ih l0 l1 (l2 + 1) M10 h
set_option maxHeartbeats 4000000 in
set_option maxRecDepth 100000 in
theorem w_X2_copyFrom {G : Gl} {ρ0 : Nat → Nat} {M0 MF : Mem} {r : Unit} (l0 : Nat) (l1 : Nat) (M : Mem) (h : f_X2_copyFrom l0 l1 M = some MF) : V G (RX2, cX2_copyFrom, none, 1, 21, 3, "copyFrom", []) (ρ0, M0, cvV r, MF) 0 [(0, .ref l0), (1, .ref l1)] [] M := by
  unfold f_X2_copyFrom at h
  replace h := (ifS h).2
  refine v_aload_n dX2_copyFrom_0 rfl 0 rfl ?_
  refine v_aload_n dX2_copyFrom_1 rfl 1 rfl ?_
  obtain ⟨v1, e, h⟩ := bind_some h
  refine gt_X2_24 e dX2_copyFrom_2 ?_
  obtain ⟨M2, e, h⟩ := bind_some h
  refine pt_X2_24 e dX2_copyFrom_5 ?_
  refine v_iconst (v := 0) dX2_copyFrom_8 ci_0 ?_
  refine v_istore_n (ls' := [(2, .int (0 : Int32)), (0, .ref l0), (1, .ref l1)]) dX2_copyFrom_9 rfl (by decide) rfl ?_
  refine v_sub [1, 2, 0] rfl ?_
  exact w_X2_copyFrom_L10 FU l0 l1 (0 : Int32) M2 h
theorem kd_X2_copyFrom {l0 : Nat} {l1 : Nat} {M : Mem} {z : _} (h : f_X2_copyFrom l0 l1 M = some z) : (mK M l0).1 = 2 := by
  unfold f_X2_copyFrom at h
  exact (ifS h).1
theorem k_X2_copyFrom {G : Gl} {l0 : Nat} {l1 : Nat} {M MF : Mem} (h : f_X2_copyFrom l0 l1 M = some MF) : CtrP G yX2_copyFrom cX2_copyFrom 3 none 1 21 [.ref l0, .ref l1] M (cvV ()) MF :=
  ctr_of (by decide +kernel) (Nat.le_of_ble_eq_true rfl) (fun ρ => w_X2_copyFrom (r := ()) l0 l1 M h)
theorem wd_X5_105 : wdV RX5 105 RX2 yX2_copyFrom cX2_copyFrom 3 none 1 := ⟨gwi 552 (by decide +kernel) (by decide +kernel), gwi 553 (by decide +kernel) (by decide +kernel), gwi 554 (by decide +kernel) (by decide +kernel), nw_X2, gwi 555 (by decide +kernel) (by decide +kernel), ⟨rfl, by decide +kernel, by decide +kernel, by decide +kernel⟩⟩
theorem ca_X5_105 {G : Gl} {B : Bx} {cc : ByteArray} {ret : Option FieldType} {fr lo nL : Nat} {mn : String} {hh : List (Nat × Nat × Nat × Nat)} {pc : Nat} {ls : List (Nat × Value)} {st : List Value} {M M1 : Mem} {l0 : Nat} {l1 : Nat} (e : f_X2_copyFrom l0 l1 M = some M1) (hd : decode cc pc = .ok (.invokevirtual 105, 3)) (hcat : (st.map fun v => v.category).sum ≤ 8) (hR : 1 + 1 ≤ fr ∧ 8 + (3 + 11) + 21 ≤ lo) (k : V G (RX5, cc, ret, fr, lo, nL, mn, hh) B (pc + 3) ls (st) M1) : V G (RX5, cc, ret, fr, lo, nL, mn, hh) B pc ls (.ref l1 :: .ref l0 :: st) M := v_callV0 (As := [.ref l1]) (k_X2_copyFrom e) wd_X5_105 clX2 (kd_X2_copyFrom e) hd rfl rfl hcat hR k
set_option maxHeartbeats 4000000 in
set_option maxRecDepth 100000 in
theorem w_X5_copyFrom_J114 {G : Gl} {ρ0 : Nat → Nat} {M0 MF : Mem} {r : Unit} (l0 : Nat) (l1 : Nat) (M : Mem) (h : f_X5_copyFrom_J114 l0 l1 M = some MF) : V G (RX5, cX5_copyFrom, none, 2, 43, 3, "copyFrom", []) (ρ0, M0, cvV r, MF) 114 [(0, .ref l0), (1, .ref l1)] [] M := by
  unfold f_X5_copyFrom_J114 at h
  refine v_aload_n dX5_copyFrom_114 rfl 0 rfl ?_
  obtain ⟨v1, e, h⟩ := bind_some h
  refine gt_X5_29 e dX5_copyFrom_115 ?_
  refine v_aload_n dX5_copyFrom_118 rfl 1 rfl ?_
  obtain ⟨v2, e, h⟩ := bind_some h
  refine gt_X5_29 e dX5_copyFrom_119 ?_
  obtain ⟨M3, e, h⟩ := bind_some h
  refine ca_X5_105 e dX5_copyFrom_122 (Nat.le_of_ble_eq_true rfl) (by decide) ?_
  refine v_aload_n dX5_copyFrom_125 rfl 0 rfl ?_
  obtain ⟨v4, e, h⟩ := bind_some h
  refine gt_X5_33 e dX5_copyFrom_126 ?_
  refine v_aload_n dX5_copyFrom_129 rfl 1 rfl ?_
  obtain ⟨v5, e, h⟩ := bind_some h
  refine gt_X5_33 e dX5_copyFrom_130 ?_
  obtain ⟨M6, e, h⟩ := bind_some h
  refine ca_X5_105 e dX5_copyFrom_133 (Nat.le_of_ble_eq_true rfl) (by decide) ?_
  cases h
  exact v_vreturn dX5_copyFrom_136
set_option maxHeartbeats 4000000 in
set_option maxRecDepth 100000 in
theorem w_X5_copyFrom_L79 {G : Gl} {ρ0 : Nat → Nat} {M0 MF : Mem} {r : Unit} : ∀ (n : Nat) (l0 : Nat) (l1 : Nat) (l2 : Int32) (M : Mem), f_X5_copyFrom_L79 n l0 l1 l2 M = some MF → V G (RX5, cX5_copyFrom, none, 2, 43, 3, "copyFrom", []) (ρ0, M0, cvV r, MF) 79 [(0, .ref l0), (1, .ref l1), (2, .int l2)] [] M := by
  intro n
  induction n with
  | zero => intro l0 l1 l2 M h; cases h
  | succ n ih =>
    intro l0 l1 l2 M h
    rw [f_X5_copyFrom_L79] at h
    refine v_iload_n dX5_copyFrom_79 rfl 2 rfl ?_
    refine v_aload_n dX5_copyFrom_80 rfl 0 rfl ?_
    obtain ⟨v1, e, h⟩ := bind_some h
    refine gt_X5_56 e dX5_copyFrom_81 ?_
    refine v_icmp_ge (tgt := 114) dX5_copyFrom_84 (by decide) (fun c8 => ?_) (fun c8 => ?_)
    · replace h := ifP c8 h
      refine v_sub [0, 1] rfl ?_
      exact w_X5_copyFrom_J114 l0 l1 M h
    · replace h := ifN c8 h
      refine v_iload_n dX5_copyFrom_87 rfl 2 rfl ?_
      refine v_bipush (v := 6) dX5_copyFrom_88 cb_6 ?_
      refine v_icmp_ge (tgt := 114) dX5_copyFrom_90 (by decide) (fun c7 => ?_) (fun c7 => ?_)
      · replace h := ifP c7 h
        refine v_sub [0, 1] rfl ?_
        exact w_X5_copyFrom_J114 l0 l1 M h
      · replace h := ifN c7 h
        refine v_aload_n dX5_copyFrom_93 rfl 0 rfl ?_
        obtain ⟨v2, e, h⟩ := bind_some h
        refine gt_X5_17 e dX5_copyFrom_94 ?_
        refine v_iload_n dX5_copyFrom_97 rfl 2 rfl ?_
        obtain ⟨v3, e, h⟩ := bind_some h
        refine al_8 e dX5_copyFrom_98 ?_
        refine v_aload_n dX5_copyFrom_99 rfl 1 rfl ?_
        obtain ⟨v4, e, h⟩ := bind_some h
        refine gt_X5_17 e dX5_copyFrom_100 ?_
        refine v_iload_n dX5_copyFrom_103 rfl 2 rfl ?_
        obtain ⟨v5, e, h⟩ := bind_some h
        refine al_8 e dX5_copyFrom_104 ?_
        obtain ⟨M6, e, h⟩ := bind_some h
        refine ca_X5_101 e dX5_copyFrom_105 (Nat.le_of_ble_eq_true rfl) (by decide) ?_
        refine v_iinc (ls' := [(2, .int (l2 + 1)), (0, .ref l0), (1, .ref l1)]) dX5_copyFrom_108 2 rfl (v := 1) ci_1 (by decide) rfl ?_
        refine v_goto (tgt := 79) dX5_copyFrom_111 (by decide) ?_
        refine v_sub [1, 2, 0] rfl ?_
        exact ih l0 l1 (l2 + 1) M6 h
set_option maxHeartbeats 4000000 in
set_option maxRecDepth 100000 in
theorem w_X5_copyFrom_L34 {G : Gl} {ρ0 : Nat → Nat} {M0 MF : Mem} {r : Unit} : ∀ (n : Nat) (l0 : Nat) (l1 : Nat) (l2 : Int32) (M : Mem), f_X5_copyFrom_L34 n l0 l1 l2 M = some MF → V G (RX5, cX5_copyFrom, none, 2, 43, 3, "copyFrom", []) (ρ0, M0, cvV r, MF) 34 [(0, .ref l0), (1, .ref l1), (2, .int l2)] [] M := by
  intro n
  induction n with
  | zero => intro l0 l1 l2 M h; cases h
  | succ n ih =>
    intro l0 l1 l2 M h
    rw [f_X5_copyFrom_L34] at h
    refine v_iload_n dX5_copyFrom_34 rfl 2 rfl ?_
    refine v_aload_n dX5_copyFrom_35 rfl 0 rfl ?_
    obtain ⟨v1, e, h⟩ := bind_some h
    refine gt_X5_9 e dX5_copyFrom_36 ?_
    obtain ⟨v2, e, h⟩ := bind_some h
    refine v_alen dX5_copyFrom_39 e ?_
    refine v_icmp_ge (tgt := 61) dX5_copyFrom_40 (by decide) (fun c7 => ?_) (fun c7 => ?_)
    · replace h := ifP c7 h
      refine v_aload_n dX5_copyFrom_61 rfl 0 rfl ?_
      refine v_aload_n dX5_copyFrom_62 rfl 1 rfl ?_
      obtain ⟨v3, e, h⟩ := bind_some h
      refine gt_X5_53 e dX5_copyFrom_63 ?_
      obtain ⟨M4, e, h⟩ := bind_some h
      refine pt_X5_53 e dX5_copyFrom_66 ?_
      refine v_aload_n dX5_copyFrom_69 rfl 0 rfl ?_
      refine v_aload_n dX5_copyFrom_70 rfl 1 rfl ?_
      obtain ⟨v5, e, h⟩ := bind_some h
      refine gt_X5_56 e dX5_copyFrom_71 ?_
      obtain ⟨M6, e, h⟩ := bind_some h
      refine pt_X5_56 e dX5_copyFrom_74 ?_
      refine v_iconst (v := 0) dX5_copyFrom_77 ci_0 ?_
      refine v_istore_n (ls' := [(2, .int (0 : Int32)), (0, .ref l0), (1, .ref l1)]) dX5_copyFrom_78 rfl (by decide) rfl ?_
      refine v_sub [1, 2, 0] rfl ?_
      exact w_X5_copyFrom_L79 FU l0 l1 (0 : Int32) M6 h
    · replace h := ifN c7 h
      refine v_aload_n dX5_copyFrom_43 rfl 0 rfl ?_
      obtain ⟨v3, e, h⟩ := bind_some h
      refine gt_X5_9 e dX5_copyFrom_44 ?_
      refine v_iload_n dX5_copyFrom_47 rfl 2 rfl ?_
      refine v_aload_n dX5_copyFrom_48 rfl 1 rfl ?_
      obtain ⟨v4, e, h⟩ := bind_some h
      refine gt_X5_9 e dX5_copyFrom_49 ?_
      refine v_iload_n dX5_copyFrom_52 rfl 2 rfl ?_
      obtain ⟨v5, e, h⟩ := bind_some h
      refine v_zaload dX5_copyFrom_53 e ?_
      obtain ⟨M6, e, h⟩ := bind_some h
      refine v_zastore dX5_copyFrom_54 e ?_
      refine v_iinc (ls' := [(2, .int (l2 + 1)), (0, .ref l0), (1, .ref l1)]) dX5_copyFrom_55 2 rfl (v := 1) ci_1 (by decide) rfl ?_
      refine v_goto (tgt := 34) dX5_copyFrom_58 (by decide) ?_
      refine v_sub [1, 2, 0] rfl ?_
      exact ih l0 l1 (l2 + 1) M6 h
set_option maxHeartbeats 4000000 in
set_option maxRecDepth 100000 in
theorem w_X5_copyFrom {G : Gl} {ρ0 : Nat → Nat} {M0 MF : Mem} {r : Unit} (l0 : Nat) (l1 : Nat) (M : Mem) (h : f_X5_copyFrom l0 l1 M = some MF) : V G (RX5, cX5_copyFrom, none, 2, 43, 3, "copyFrom", []) (ρ0, M0, cvV r, MF) 0 [(0, .ref l0), (1, .ref l1)] [] M := by
  unfold f_X5_copyFrom at h
  replace h := (ifS h).2
  refine v_aload_n dX5_copyFrom_0 rfl 0 rfl ?_
  refine v_aload_n dX5_copyFrom_1 rfl 1 rfl ?_
  obtain ⟨v1, e, h⟩ := bind_some h
  refine gt_X5_39 e dX5_copyFrom_2 ?_
  obtain ⟨M2, e, h⟩ := bind_some h
  refine pt_X5_39 e dX5_copyFrom_5 ?_
  refine v_aload_n dX5_copyFrom_8 rfl 0 rfl ?_
  refine v_aload_n dX5_copyFrom_9 rfl 1 rfl ?_
  obtain ⟨v3, e, h⟩ := bind_some h
  refine gt_X5_43 e dX5_copyFrom_10 ?_
  obtain ⟨M4, e, h⟩ := bind_some h
  refine pt_X5_43 e dX5_copyFrom_13 ?_
  refine v_aload_n dX5_copyFrom_16 rfl 0 rfl ?_
  refine v_aload_n dX5_copyFrom_17 rfl 1 rfl ?_
  obtain ⟨v5, e, h⟩ := bind_some h
  refine gt_X5_46 e dX5_copyFrom_18 ?_
  obtain ⟨M6, e, h⟩ := bind_some h
  refine pt_X5_46 e dX5_copyFrom_21 ?_
  refine v_aload_n dX5_copyFrom_24 rfl 0 rfl ?_
  refine v_aload_n dX5_copyFrom_25 rfl 1 rfl ?_
  obtain ⟨v7, e, h⟩ := bind_some h
  refine gt_X5_50 e dX5_copyFrom_26 ?_
  obtain ⟨M8, e, h⟩ := bind_some h
  refine pt_X5_50 e dX5_copyFrom_29 ?_
  refine v_iconst (v := 0) dX5_copyFrom_32 ci_0 ?_
  refine v_istore_n (ls' := [(2, .int (0 : Int32)), (0, .ref l0), (1, .ref l1)]) dX5_copyFrom_33 rfl (by decide) rfl ?_
  refine v_sub [1, 2, 0] rfl ?_
  exact w_X5_copyFrom_L34 FU l0 l1 (0 : Int32) M8 h
theorem kd_X5_copyFrom {l0 : Nat} {l1 : Nat} {M : Mem} {z : _} (h : f_X5_copyFrom l0 l1 M = some z) : (mK M l0).1 = 5 := by
  unfold f_X5_copyFrom at h
  exact (ifS h).1
theorem k_X5_copyFrom {G : Gl} {l0 : Nat} {l1 : Nat} {M MF : Mem} (h : f_X5_copyFrom l0 l1 M = some MF) : CtrP G yX5_copyFrom cX5_copyFrom 3 none 2 43 [.ref l0, .ref l1] M (cvV ()) MF :=
  ctr_of (by decide +kernel) (Nat.le_of_ble_eq_true rfl) (fun ρ => w_X5_copyFrom (r := ()) l0 l1 M h)
theorem wd_X0_49 : wdV RX0 49 RX5 yX5_copyFrom cX5_copyFrom 3 none 1 := ⟨gwi 544 (by decide +kernel) (by decide +kernel), gwi 545 (by decide +kernel) (by decide +kernel), gwi 546 (by decide +kernel) (by decide +kernel), nw_X5, gwi 547 (by decide +kernel) (by decide +kernel), ⟨rfl, by decide +kernel, by decide +kernel, by decide +kernel⟩⟩
theorem ca_X0_49 {G : Gl} {B : Bx} {cc : ByteArray} {ret : Option FieldType} {fr lo nL : Nat} {mn : String} {hh : List (Nat × Nat × Nat × Nat)} {pc : Nat} {ls : List (Nat × Value)} {st : List Value} {M M1 : Mem} {l0 : Nat} {l1 : Nat} (e : f_X5_copyFrom l0 l1 M = some M1) (hd : decode cc pc = .ok (.invokevirtual 49, 3)) (hcat : (st.map fun v => v.category).sum ≤ 8) (hR : 2 + 1 ≤ fr ∧ 8 + (3 + 11) + 43 ≤ lo) (k : V G (RX0, cc, ret, fr, lo, nL, mn, hh) B (pc + 3) ls (st) M1) : V G (RX0, cc, ret, fr, lo, nL, mn, hh) B pc ls (.ref l1 :: .ref l0 :: st) M := v_callV0 (As := [.ref l1]) (k_X5_copyFrom e) wd_X0_49 clX5 (kd_X5_copyFrom e) hd rfl rfl hcat hR k
set_option maxHeartbeats 4000000 in
set_option maxRecDepth 100000 in
theorem w_X0_copyFrom {G : Gl} {ρ0 : Nat → Nat} {M0 MF : Mem} {r : Unit} (l0 : Nat) (l1 : Nat) (M : Mem) (h : f_X0_copyFrom l0 l1 M = some MF) : V G (RX0, cX0_copyFrom, none, 3, 65, 2, "copyFrom", []) (ρ0, M0, cvV r, MF) 0 [(0, .ref l0), (1, .ref l1)] [] M := by
  unfold f_X0_copyFrom at h
  replace h := (ifS h).2
  refine v_aload_n dX0_copyFrom_0 rfl 0 rfl ?_
  refine v_aload_n dX0_copyFrom_1 rfl 1 rfl ?_
  obtain ⟨v1, e, h⟩ := bind_some h
  refine gt_X0_32 e dX0_copyFrom_2 ?_
  obtain ⟨M2, e, h⟩ := bind_some h
  refine pt_X0_32 e dX0_copyFrom_5 ?_
  refine v_aload_n dX0_copyFrom_8 rfl 0 rfl ?_
  refine v_aload_n dX0_copyFrom_9 rfl 1 rfl ?_
  obtain ⟨v3, e, h⟩ := bind_some h
  refine gt_X0_36 e dX0_copyFrom_10 ?_
  obtain ⟨M4, e, h⟩ := bind_some h
  refine pt_X0_36 e dX0_copyFrom_13 ?_
  refine v_aload_n dX0_copyFrom_16 rfl 0 rfl ?_
  refine v_aload_n dX0_copyFrom_17 rfl 1 rfl ?_
  obtain ⟨v5, e, h⟩ := bind_some h
  refine gt_X0_39 e dX0_copyFrom_18 ?_
  obtain ⟨M6, e, h⟩ := bind_some h
  refine pt_X0_39 e dX0_copyFrom_21 ?_
  refine v_aload_n dX0_copyFrom_24 rfl 0 rfl ?_
  obtain ⟨v7, e, h⟩ := bind_some h
  refine gt_X0_12 e dX0_copyFrom_25 ?_
  refine v_aload_n dX0_copyFrom_28 rfl 1 rfl ?_
  obtain ⟨v8, e, h⟩ := bind_some h
  refine gt_X0_12 e dX0_copyFrom_29 ?_
  obtain ⟨M9, e, h⟩ := bind_some h
  refine ca_X0_42 e dX0_copyFrom_32 (Nat.le_of_ble_eq_true rfl) (by decide) ?_
  refine v_aload_n dX0_copyFrom_35 rfl 0 rfl ?_
  obtain ⟨v10, e, h⟩ := bind_some h
  refine gt_X0_21 e dX0_copyFrom_36 ?_
  refine v_aload_n dX0_copyFrom_39 rfl 1 rfl ?_
  obtain ⟨v11, e, h⟩ := bind_some h
  refine gt_X0_21 e dX0_copyFrom_40 ?_
  obtain ⟨M12, e, h⟩ := bind_some h
  refine ca_X0_46 e dX0_copyFrom_43 (Nat.le_of_ble_eq_true rfl) (by decide) ?_
  refine v_aload_n dX0_copyFrom_46 rfl 0 rfl ?_
  obtain ⟨v13, e, h⟩ := bind_some h
  refine gt_X0_28 e dX0_copyFrom_47 ?_
  refine v_aload_n dX0_copyFrom_50 rfl 1 rfl ?_
  obtain ⟨v14, e, h⟩ := bind_some h
  refine gt_X0_28 e dX0_copyFrom_51 ?_
  obtain ⟨M15, e, h⟩ := bind_some h
  refine ca_X0_49 e dX0_copyFrom_54 (Nat.le_of_ble_eq_true rfl) (by decide) ?_
  refine v_aload_n dX0_copyFrom_57 rfl 0 rfl ?_
  refine v_aload_n dX0_copyFrom_58 rfl 1 rfl ?_
  obtain ⟨v16, e, h⟩ := bind_some h
  refine gt_X0_52 e dX0_copyFrom_59 ?_
  obtain ⟨M17, e, h⟩ := bind_some h
  refine pt_X0_52 e dX0_copyFrom_62 ?_
  refine v_aload_n dX0_copyFrom_65 rfl 0 rfl ?_
  refine v_aload_n dX0_copyFrom_66 rfl 1 rfl ?_
  obtain ⟨v18, e, h⟩ := bind_some h
  refine gt_X0_56 e dX0_copyFrom_67 ?_
  obtain ⟨M19, e, h⟩ := bind_some h
  refine pt_X0_56 e dX0_copyFrom_70 ?_
  cases h
  exact v_vreturn dX0_copyFrom_73
theorem kd_X0_copyFrom {l0 : Nat} {l1 : Nat} {M : Mem} {z : _} (h : f_X0_copyFrom l0 l1 M = some z) : (mK M l0).1 = 0 := by
  unfold f_X0_copyFrom at h
  exact (ifS h).1
theorem k_X0_copyFrom {G : Gl} {l0 : Nat} {l1 : Nat} {M MF : Mem} (h : f_X0_copyFrom l0 l1 M = some MF) : CtrP G yX0_copyFrom cX0_copyFrom 2 none 3 65 [.ref l0, .ref l1] M (cvV ()) MF :=
  ctr_of (by decide +kernel) (Nat.le_of_ble_eq_true rfl) (fun ρ => w_X0_copyFrom (r := ()) l0 l1 M h)
theorem wd_X7_59 : wdV RX7 59 RX0 yX0_copyFrom cX0_copyFrom 2 none 1 := ⟨gwi 528 (by decide +kernel) (by decide +kernel), gwi 529 (by decide +kernel) (by decide +kernel), gwi 530 (by decide +kernel) (by decide +kernel), nw_X0, gwi 531 (by decide +kernel) (by decide +kernel), ⟨rfl, by decide +kernel, by decide +kernel, by decide +kernel⟩⟩
theorem ca_X7_59 {G : Gl} {B : Bx} {cc : ByteArray} {ret : Option FieldType} {fr lo nL : Nat} {mn : String} {hh : List (Nat × Nat × Nat × Nat)} {pc : Nat} {ls : List (Nat × Value)} {st : List Value} {M M1 : Mem} {l0 : Nat} {l1 : Nat} (e : f_X0_copyFrom l0 l1 M = some M1) (hd : decode cc pc = .ok (.invokevirtual 59, 3)) (hcat : (st.map fun v => v.category).sum ≤ 8) (hR : 3 + 1 ≤ fr ∧ 8 + (2 + 11) + 65 ≤ lo) (k : V G (RX7, cc, ret, fr, lo, nL, mn, hh) B (pc + 3) ls (st) M1) : V G (RX7, cc, ret, fr, lo, nL, mn, hh) B pc ls (.ref l1 :: .ref l0 :: st) M := v_callV0 (As := [.ref l1]) (k_X0_copyFrom e) wd_X7_59 clX0 (kd_X0_copyFrom e) hd rfl rfl hcat hR k
set_option maxHeartbeats 4000000 in
set_option maxRecDepth 100000 in
theorem w_X1_fill {G : Gl} {ρ0 : Nat → Nat} {M0 MF : Mem} {r : Unit} (l0 : Nat) (l1 : Nat) (l2 : Int32) (l3 : Int32) (M : Mem) (h : f_X1_fill l0 l1 l2 l3 M = some MF) : V G (RX1, cX1_fill, none, 0, 0, 4, "fill", []) (ρ0, M0, cvV r, MF) 0 [(0, .ref l0), (1, .ref l1), (2, .int l2), (3, .int l3)] [] M := by
  unfold f_X1_fill at h
  replace h := (ifS h).2
  refine v_aload_n dX1_fill_0 rfl 0 rfl ?_
  refine v_aload_n dX1_fill_1 rfl 1 rfl ?_
  obtain ⟨M1, e, h⟩ := bind_some h
  refine pt_X1_7 e dX1_fill_2 ?_
  refine v_aload_n dX1_fill_5 rfl 0 rfl ?_
  refine v_iload_n dX1_fill_6 rfl 2 rfl ?_
  obtain ⟨M2, e, h⟩ := bind_some h
  refine pt_X1_13 e dX1_fill_7 ?_
  refine v_aload_n dX1_fill_10 rfl 0 rfl ?_
  refine v_iload_n dX1_fill_11 rfl 3 rfl ?_
  obtain ⟨M3, e, h⟩ := bind_some h
  refine pt_X1_17 e dX1_fill_12 ?_
  refine v_aload_n dX1_fill_15 rfl 0 rfl ?_
  refine v_iconst (v := 0) dX1_fill_16 ci_0 ?_
  obtain ⟨M4, e, h⟩ := bind_some h
  refine pt_X1_20 e dX1_fill_17 ?_
  refine v_aload_n dX1_fill_20 rfl 0 rfl ?_
  refine v_iconst (v := 0) dX1_fill_21 ci_0 ?_
  obtain ⟨M5, e, h⟩ := bind_some h
  refine pt_X1_23 e dX1_fill_22 ?_
  refine v_aload_n dX1_fill_25 rfl 0 rfl ?_
  refine v_iconst (v := 0) dX1_fill_26 ci_0 ?_
  obtain ⟨M6, e, h⟩ := bind_some h
  refine pt_X1_26 e dX1_fill_27 ?_
  refine v_aload_n dX1_fill_30 rfl 0 rfl ?_
  refine v_iconst (v := 0) dX1_fill_31 ci_0 ?_
  obtain ⟨M7, e, h⟩ := bind_some h
  refine pt_X1_29 e dX1_fill_32 ?_
  cases h
  exact v_vreturn dX1_fill_35
theorem kd_X1_fill {l0 : Nat} {l1 : Nat} {l2 : Int32} {l3 : Int32} {M : Mem} {z : _} (h : f_X1_fill l0 l1 l2 l3 M = some z) : (mK M l0).1 = 1 := by
  unfold f_X1_fill at h
  exact (ifS h).1
theorem k_X1_fill {G : Gl} {l0 : Nat} {l1 : Nat} {l2 : Int32} {l3 : Int32} {M MF : Mem} (h : f_X1_fill l0 l1 l2 l3 M = some MF) : CtrP G yX1_fill cX1_fill 4 none 0 0 [.ref l0, .ref l1, .int l2, .int l3] M (cvV ()) MF :=
  ctr_of (by decide +kernel) (Nat.le_of_ble_eq_true rfl) (fun ρ => w_X1_fill (r := ()) l0 l1 l2 l3 M h)
theorem wd_X11_141 : wdV RX11 141 RX1 yX1_fill cX1_fill 4 none 3 := ⟨gwi 914 (by decide +kernel) (by decide +kernel), gwi 780 (by decide +kernel) (by decide +kernel), gwi 781 (by decide +kernel) (by decide +kernel), nw_X1, gwi 782 (by decide +kernel) (by decide +kernel), ⟨rfl, by decide +kernel, by decide +kernel, by decide +kernel⟩⟩
theorem ca_X11_141 {G : Gl} {B : Bx} {cc : ByteArray} {ret : Option FieldType} {fr lo nL : Nat} {mn : String} {hh : List (Nat × Nat × Nat × Nat)} {pc : Nat} {ls : List (Nat × Value)} {st : List Value} {M M1 : Mem} {l0 : Nat} {l1 : Nat} {l2 : Int32} {l3 : Int32} (e : f_X1_fill l0 l1 l2 l3 M = some M1) (hd : decode cc pc = .ok (.invokevirtual 141, 3)) (hcat : (st.map fun v => v.category).sum ≤ 8) (hR : 0 + 1 ≤ fr ∧ 8 + (4 + 11) + 0 ≤ lo) (k : V G (RX11, cc, ret, fr, lo, nL, mn, hh) B (pc + 3) ls (st) M1) : V G (RX11, cc, ret, fr, lo, nL, mn, hh) B pc ls (.int l3 :: .int l2 :: .ref l1 :: .ref l0 :: st) M := v_callV0 (As := [.ref l1, .int l2, .int l3]) (k_X1_fill e) wd_X11_141 clX1 (kd_X1_fill e) hd rfl rfl hcat hR k
theorem wd_X7_237 : wdV RX7 237 RX1 yX1_fill cX1_fill 4 none 3 := ⟨gwi 779 (by decide +kernel) (by decide +kernel), gwi 780 (by decide +kernel) (by decide +kernel), gwi 781 (by decide +kernel) (by decide +kernel), nw_X1, gwi 782 (by decide +kernel) (by decide +kernel), ⟨rfl, by decide +kernel, by decide +kernel, by decide +kernel⟩⟩
theorem ca_X7_237 {G : Gl} {B : Bx} {cc : ByteArray} {ret : Option FieldType} {fr lo nL : Nat} {mn : String} {hh : List (Nat × Nat × Nat × Nat)} {pc : Nat} {ls : List (Nat × Value)} {st : List Value} {M M1 : Mem} {l0 : Nat} {l1 : Nat} {l2 : Int32} {l3 : Int32} (e : f_X1_fill l0 l1 l2 l3 M = some M1) (hd : decode cc pc = .ok (.invokevirtual 237, 3)) (hcat : (st.map fun v => v.category).sum ≤ 8) (hR : 0 + 1 ≤ fr ∧ 8 + (4 + 11) + 0 ≤ lo) (k : V G (RX7, cc, ret, fr, lo, nL, mn, hh) B (pc + 3) ls (st) M1) : V G (RX7, cc, ret, fr, lo, nL, mn, hh) B pc ls (.int l3 :: .int l2 :: .ref l1 :: .ref l0 :: st) M := v_callV0 (As := [.ref l1, .int l2, .int l3]) (k_X1_fill e) wd_X7_237 clX1 (kd_X1_fill e) hd rfl rfl hcat hR k
