set_option maxHeartbeats 4000000 in
set_option maxRecDepth 100000 in
theorem w_X12_joinsShare_J126 {G : Gl} {ρ0 : Nat → Nat} {M0 MF : Mem} {r : Unit} (l0 : Nat) (l1 : Int32) (l3 : Int32) (M : Mem) (h : f_X12_joinsShare_J126 l0 l1 l3 M = some MF) : V G (RX12, cX12_joinsShare, none, 2, 48, 4, "joinsShare", []) (ρ0, M0, cvV r, MF) 126 [(0, .ref l0), (1, .int l1), (3, .int l3)] [] M := by
  unfold f_X12_joinsShare_J126 at h
  refine v_aload_n dX12_joinsShare_126 rfl 0 rfl ?_
  obtain ⟨v1, e, h⟩ := bind_some h
  refine gt_X12_9 e dX12_joinsShare_127 ?_
  refine v_sipush (v := 1902) dX12_joinsShare_130 cs_1902 ?_
  refine v_bipush (v := 6) dX12_joinsShare_133 cb_6 ?_
  refine v_iload_n dX12_joinsShare_135 rfl 2 rfl ?_
  refine v_imul dX12_joinsShare_136 ?_
  refine v_iadd dX12_joinsShare_137 ?_
  refine v_aload_n dX12_joinsShare_138 rfl 0 rfl ?_
  obtain ⟨v2, e, h⟩ := bind_some h
  refine gt_X12_9 e dX12_joinsShare_139 ?_
  refine v_sipush (v := 1866) dX12_joinsShare_142 cs_1866 ?_
  refine v_iload_n dX12_joinsShare_145 rfl 2 rfl ?_
  refine v_iadd dX12_joinsShare_146 ?_
  obtain ⟨v3, e, h⟩ := bind_some h
  refine v_iaload dX12_joinsShare_147 e ?_
  refine v_iadd dX12_joinsShare_148 ?_
  refine v_iload_n dX12_joinsShare_149 rfl 1 rfl ?_
  obtain ⟨M4, e, h⟩ := bind_some h
  refine v_iastore dX12_joinsShare_150 e ?_
  refine v_aload_n dX12_joinsShare_151 rfl 0 rfl ?_
  obtain ⟨v5, e, h⟩ := bind_some h
  refine gt_X12_9 e dX12_joinsShare_152 ?_
  refine v_sipush (v := 1866) dX12_joinsShare_155 cs_1866 ?_
  refine v_iload_n dX12_joinsShare_158 rfl 2 rfl ?_
  refine v_iadd dX12_joinsShare_159 ?_
  refine v_dup2 dX12_joinsShare_160 rfl rfl ?_
  obtain ⟨v6, e, h⟩ := bind_some h
  refine v_iaload dX12_joinsShare_161 e ?_
  refine v_iconst (v := 1) dX12_joinsShare_162 ci_1 ?_
  refine v_iadd dX12_joinsShare_163 ?_
  obtain ⟨M7, e, h⟩ := bind_some h
  refine v_iastore dX12_joinsShare_164 e ?_
  cases h
  exact v_vreturn dX12_joinsShare_165
set_option maxHeartbeats 4000000 in
set_option maxRecDepth 100000 in
theorem w_X12_joinsShare_J29 {G : Gl} {ρ0 : Nat → Nat} {M0 MF : Mem} {r : Unit} (l0 : Nat) (l1 : Int32) (l2 : Int32) (l3 : Int32) (M : Mem) (h : f_X12_joinsShare_J29 l0 l1 l2 l3 M = some MF) : V G (RX12, cX12_joinsShare, none, 2, 48, 4, "joinsShare", []) (ρ0, M0, cvV r, MF) 29 [(0, .ref l0), (1, .int l1), (2, .int l2), (3, .int l3)] [] M := by
  unfold f_X12_joinsShare_J29 at h
  refine v_iload_n dX12_joinsShare_29 rfl 3 rfl ?_
  refine v_aload_n dX12_joinsShare_30 rfl 0 rfl ?_
  obtain ⟨v1, e, h⟩ := bind_some h
  refine gt_X12_9 e dX12_joinsShare_31 ?_
  refine v_bipush (v := 16) dX12_joinsShare_34 cb_16 ?_
  obtain ⟨v2, e, h⟩ := bind_some h
  refine v_iaload dX12_joinsShare_36 e ?_
  refine v_icmp_ne (tgt := 126) dX12_joinsShare_37 (by decide) (fun c19 => ?_) (fun c19 => ?_)
  · replace h := ifN c19 h
    refine v_sub [0, 1, 3] rfl ?_
    exact w_X12_joinsShare_J126 l0 l1 l3 M h
  · replace h := ifP c19 h
    refine v_aload_n dX12_joinsShare_40 rfl 0 rfl ?_
    obtain ⟨v3, e, h⟩ := bind_some h
    refine gt_X12_9 e dX12_joinsShare_41 ?_
    refine v_sipush (v := 1794) dX12_joinsShare_44 cs_1794 ?_
    refine v_iload_n dX12_joinsShare_47 rfl 3 rfl ?_
    refine v_iadd dX12_joinsShare_48 ?_
    refine v_aload_n dX12_joinsShare_49 rfl 0 rfl ?_
    obtain ⟨v4, e, h⟩ := bind_some h
    refine gt_X12_9 e dX12_joinsShare_50 ?_
    refine v_sipush (v := 446) dX12_joinsShare_53 cs_446 ?_
    refine v_iload_n dX12_joinsShare_56 rfl 2 rfl ?_
    refine v_iadd dX12_joinsShare_57 ?_
    obtain ⟨v5, e, h⟩ := bind_some h
    refine v_iaload dX12_joinsShare_58 e ?_
    obtain ⟨M6, e, h⟩ := bind_some h
    refine v_iastore dX12_joinsShare_59 e ?_
    refine v_aload_n dX12_joinsShare_60 rfl 0 rfl ?_
    obtain ⟨v7, e, h⟩ := bind_some h
    refine gt_X12_9 e dX12_joinsShare_61 ?_
    refine v_sipush (v := 1830) dX12_joinsShare_64 cs_1830 ?_
    refine v_iload_n dX12_joinsShare_67 rfl 3 rfl ?_
    refine v_iadd dX12_joinsShare_68 ?_
    refine v_aload_n dX12_joinsShare_69 rfl 0 rfl ?_
    obtain ⟨v8, e, h⟩ := bind_some h
    refine gt_X12_9 e dX12_joinsShare_70 ?_
    refine v_sipush (v := 518) dX12_joinsShare_73 cs_518 ?_
    refine v_iload_n dX12_joinsShare_76 rfl 2 rfl ?_
    refine v_iadd dX12_joinsShare_77 ?_
    obtain ⟨v9, e, h⟩ := bind_some h
    refine v_iaload dX12_joinsShare_78 e ?_
    obtain ⟨M10, e, h⟩ := bind_some h
    refine v_iastore dX12_joinsShare_79 e ?_
    refine v_aload_n dX12_joinsShare_80 rfl 0 rfl ?_
    obtain ⟨v11, e, h⟩ := bind_some h
    refine gt_X12_9 e dX12_joinsShare_81 ?_
    refine v_sipush (v := 1866) dX12_joinsShare_84 cs_1866 ?_
    refine v_iload_n dX12_joinsShare_87 rfl 3 rfl ?_
    refine v_iadd dX12_joinsShare_88 ?_
    refine v_iconst (v := 0) dX12_joinsShare_89 ci_0 ?_
    obtain ⟨M12, e, h⟩ := bind_some h
    refine v_iastore dX12_joinsShare_90 e ?_
    refine v_aload_n dX12_joinsShare_91 rfl 0 rfl ?_
    obtain ⟨v13, e, h⟩ := bind_some h
    refine gt_X12_13 e dX12_joinsShare_92 ?_
    refine v_bipush (v := 24) dX12_joinsShare_95 cb_24 ?_
    refine v_iconst (v := 4) dX12_joinsShare_97 ci_4 ?_
    refine v_iload_n dX12_joinsShare_98 rfl 2 rfl ?_
    refine v_imul dX12_joinsShare_99 ?_
    refine v_iadd dX12_joinsShare_100 ?_
    refine v_aload_n dX12_joinsShare_101 rfl 0 rfl ?_
    obtain ⟨v14, e, h⟩ := bind_some h
    refine gt_X12_13 e dX12_joinsShare_102 ?_
    refine v_sipush (v := 1256) dX12_joinsShare_105 cs_1256 ?_
    refine v_iconst (v := 4) dX12_joinsShare_108 ci_4 ?_
    refine v_iload_n dX12_joinsShare_109 rfl 3 rfl ?_
    refine v_imul dX12_joinsShare_110 ?_
    refine v_iadd dX12_joinsShare_111 ?_
    obtain ⟨M15, e, h⟩ := bind_some h
    refine ca_X12_97 e dX12_joinsShare_112 (Nat.le_of_ble_eq_true rfl) (by decide) ?_
    refine v_aload_n dX12_joinsShare_115 rfl 0 rfl ?_
    obtain ⟨v16, e, h⟩ := bind_some h
    refine gt_X12_9 e dX12_joinsShare_116 ?_
    refine v_bipush (v := 16) dX12_joinsShare_119 cb_16 ?_
    refine v_dup2 dX12_joinsShare_121 rfl rfl ?_
    obtain ⟨v17, e, h⟩ := bind_some h
    refine v_iaload dX12_joinsShare_122 e ?_
    refine v_iconst (v := 1) dX12_joinsShare_123 ci_1 ?_
    refine v_iadd dX12_joinsShare_124 ?_
    obtain ⟨M18, e, h⟩ := bind_some h
    refine v_iastore dX12_joinsShare_125 e ?_
    refine v_sub [0, 1, 3] rfl ?_
    exact w_X12_joinsShare_J126 l0 l1 l3 M18 h
set_option maxHeartbeats 4000000 in
set_option maxRecDepth 100000 in
theorem w_X12_joinsShare_L2 {G : Gl} {ρ0 : Nat → Nat} {M0 MF : Mem} {r : Unit} : ∀ (n : Nat) (l0 : Nat) (l1 : Int32) (l2 : Int32) (l3 : Int32) (M : Mem), f_X12_joinsShare_L2 n l0 l1 l2 l3 M = some MF → V G (RX12, cX12_joinsShare, none, 2, 48, 4, "joinsShare", []) (ρ0, M0, cvV r, MF) 2 [(0, .ref l0), (1, .int l1), (2, .int l2), (3, .int l3)] [] M := by
  intro n
  induction n with
  | zero => intro l0 l1 l2 l3 M h; cases h
  | succ n ih =>
    intro l0 l1 l2 l3 M h
    rw [f_X12_joinsShare_L2] at h
    refine v_iload_n dX12_joinsShare_2 rfl 3 rfl ?_
    refine v_aload_n dX12_joinsShare_3 rfl 0 rfl ?_
    obtain ⟨v1, e, h⟩ := bind_some h
    refine gt_X12_9 e dX12_joinsShare_4 ?_
    refine v_bipush (v := 16) dX12_joinsShare_7 cb_16 ?_
    obtain ⟨v2, e, h⟩ := bind_some h
    refine v_iaload dX12_joinsShare_9 e ?_
    refine v_icmp_ge (tgt := 29) dX12_joinsShare_10 (by decide) (fun c6 => ?_) (fun c6 => ?_)
    · replace h := ifP c6 h
      exact w_X12_joinsShare_J29 l0 l1 l2 l3 M h
    · replace h := ifN c6 h
      refine v_aload_n dX12_joinsShare_13 rfl 0 rfl ?_
      refine v_iload_n dX12_joinsShare_14 rfl 2 rfl ?_
      refine v_iload_n dX12_joinsShare_15 rfl 1 rfl ?_
      refine v_iload_n dX12_joinsShare_16 rfl 3 rfl ?_
      obtain ⟨v4, M3, e, h⟩ := bindP_some h
      refine ca_X12_147 e dX12_joinsShare_17 (Nat.le_of_ble_eq_true rfl) (by decide) ?_
      refine v_if_ne (tgt := 29) dX12_joinsShare_20 (by decide) (fun c5 => ?_) (fun c5 => ?_)
      · replace h := ifN c5 h
        exact w_X12_joinsShare_J29 l0 l1 l2 l3 M3 h
      · replace h := ifP c5 h
        refine v_iinc (ls' := [(3, .int (l3 + 1)), (0, .ref l0), (1, .int l1), (2, .int l2)]) dX12_joinsShare_23 3 rfl (v := 1) ci_1 (by decide) rfl ?_
        refine v_goto (tgt := 2) dX12_joinsShare_26 (by decide) ?_
        refine v_sub [1, 2, 3, 0] rfl ?_
        exact ih l0 l1 l2 (l3 + 1) M3 h
set_option maxHeartbeats 4000000 in
set_option maxRecDepth 100000 in
theorem w_X12_joinsShare {G : Gl} {ρ0 : Nat → Nat} {M0 MF : Mem} {r : Unit} (l0 : Nat) (l1 : Int32) (l2 : Int32) (M : Mem) (h : f_X12_joinsShare l0 l1 l2 M = some MF) : V G (RX12, cX12_joinsShare, none, 2, 48, 4, "joinsShare", []) (ρ0, M0, cvV r, MF) 0 [(0, .ref l0), (1, .int l1), (2, .int l2)] [] M := by
  unfold f_X12_joinsShare at h
  replace h := (ifS h).2
  refine v_iconst (v := 0) dX12_joinsShare_0 ci_0 ?_
  refine v_istore_n (ls' := [(3, .int (0 : Int32)), (0, .ref l0), (1, .int l1), (2, .int l2)]) dX12_joinsShare_1 rfl (by decide) rfl ?_
  refine v_sub [1, 2, 3, 0] rfl ?_
  exact w_X12_joinsShare_L2 FU l0 l1 l2 (0 : Int32) M h
theorem kd_X12_joinsShare {l0 : Nat} {l1 : Int32} {l2 : Int32} {M : Mem} {z : _} (h : f_X12_joinsShare l0 l1 l2 M = some z) : (mK M l0).1 = 12 := by
  unfold f_X12_joinsShare at h
  exact (ifS h).1
theorem k_X12_joinsShare {G : Gl} {l0 : Nat} {l1 : Int32} {l2 : Int32} {M MF : Mem} (h : f_X12_joinsShare l0 l1 l2 M = some MF) : CtrP G yX12_joinsShare cX12_joinsShare 4 none 2 48 [.ref l0, .int l1, .int l2] M (cvV ()) MF :=
  ctr_of (by decide +kernel) (Nat.le_of_ble_eq_true rfl) (fun ρ => w_X12_joinsShare (r := ()) l0 l1 l2 M h)
theorem wd_X12_210 : wdV RX12 210 RX12 yX12_joinsShare cX12_joinsShare 4 none 2 := ⟨gwi 1440 (by decide +kernel) (by decide +kernel), gwi 1442 (by decide +kernel) (by decide +kernel), gwi 59 (by decide +kernel) (by decide +kernel), nw_X12, gwi 1443 (by decide +kernel) (by decide +kernel), ⟨rfl, by decide +kernel, by decide +kernel, by decide +kernel⟩⟩
theorem ca_X12_210 {G : Gl} {B : Bx} {cc : ByteArray} {ret : Option FieldType} {fr lo nL : Nat} {mn : String} {hh : List (Nat × Nat × Nat × Nat)} {pc : Nat} {ls : List (Nat × Value)} {st : List Value} {M M1 : Mem} {l0 : Nat} {l1 : Int32} {l2 : Int32} (e : f_X12_joinsShare l0 l1 l2 M = some M1) (hd : decode cc pc = .ok (.invokevirtual 210, 3)) (hcat : (st.map fun v => v.category).sum ≤ 8) (hR : 2 + 1 ≤ fr ∧ 8 + (4 + 11) + 48 ≤ lo) (k : V G (RX12, cc, ret, fr, lo, nL, mn, hh) B (pc + 3) ls (st) M1) : V G (RX12, cc, ret, fr, lo, nL, mn, hh) B pc ls (.int l2 :: .int l1 :: .ref l0 :: st) M := v_callV0 (As := [.int l1, .int l2]) (k_X12_joinsShare e) wd_X12_210 clX12 (kd_X12_joinsShare e) hd rfl rfl hcat hR k
set_option maxHeartbeats 4000000 in
set_option maxRecDepth 100000 in
theorem w_X12_drops_L21 {G : Gl} {ρ0 : Nat → Nat} {M0 MF : Mem} {r : Unit} : ∀ (n : Nat) (l0 : Nat) (l1 : Int32) (l3 : Int32) (M : Mem), f_X12_drops_L21 n l0 l1 l3 M = some MF → V G (RX12, cX12_drops, none, 3, 74, 4, "drops", []) (ρ0, M0, cvV r, MF) 21 [(0, .ref l0), (1, .int l1), (3, .int l3)] [] M := by
  intro n
  induction n with
  | zero => intro l0 l1 l3 M h; cases h
  | succ n ih =>
    intro l0 l1 l3 M h
    rw [f_X12_drops_L21] at h
    refine v_iload_n dX12_drops_21 rfl 2 rfl ?_
    refine v_bipush (v := 6) dX12_drops_22 cb_6 ?_
    refine v_iload_n dX12_drops_24 rfl 1 rfl ?_
    refine v_imul dX12_drops_25 ?_
    refine v_aload_n dX12_drops_26 rfl 0 rfl ?_
    obtain ⟨v1, e, h⟩ := bind_some h
    refine gt_X12_9 e dX12_drops_27 ?_
    refine v_bipush (v := 50) dX12_drops_30 cb_50 ?_
    refine v_iload_n dX12_drops_32 rfl 1 rfl ?_
    refine v_iadd dX12_drops_33 ?_
    obtain ⟨v2, e, h⟩ := bind_some h
    refine v_iaload dX12_drops_34 e ?_
    refine v_iadd dX12_drops_35 ?_
    refine v_iconst (v := 1) dX12_drops_36 ci_1 ?_
    refine v_isub dX12_drops_37 ?_
    refine v_icmp_ge (tgt := 160) dX12_drops_38 (by decide) (fun c22 => ?_) (fun c22 => ?_)
    · replace h := ifP c22 h
      refine v_aload_n dX12_drops_160 rfl 0 rfl ?_
      obtain ⟨v3, e, h⟩ := bind_some h
      refine gt_X12_9 e dX12_drops_161 ?_
      refine v_bipush (v := 50) dX12_drops_164 cb_50 ?_
      refine v_iload_n dX12_drops_166 rfl 1 rfl ?_
      refine v_iadd dX12_drops_167 ?_
      refine v_dup2 dX12_drops_168 rfl rfl ?_
      obtain ⟨v4, e, h⟩ := bind_some h
      refine v_iaload dX12_drops_169 e ?_
      refine v_iconst (v := 1) dX12_drops_170 ci_1 ?_
      refine v_isub dX12_drops_171 ?_
      obtain ⟨M5, e, h⟩ := bind_some h
      refine v_iastore dX12_drops_172 e ?_
      cases h
      exact v_vreturn dX12_drops_173
    · replace h := ifN c22 h
      refine v_aload_n dX12_drops_41 rfl 0 rfl ?_
      obtain ⟨v3, e, h⟩ := bind_some h
      refine gt_X12_9 e dX12_drops_42 ?_
      refine v_sipush (v := 410) dX12_drops_45 cs_410 ?_
      refine v_iload_n dX12_drops_48 rfl 2 rfl ?_
      refine v_iadd dX12_drops_49 ?_
      refine v_aload_n dX12_drops_50 rfl 0 rfl ?_
      obtain ⟨v4, e, h⟩ := bind_some h
      refine gt_X12_9 e dX12_drops_51 ?_
      refine v_sipush (v := 410) dX12_drops_54 cs_410 ?_
      refine v_iload_n dX12_drops_57 rfl 2 rfl ?_
      refine v_iadd dX12_drops_58 ?_
      refine v_iconst (v := 1) dX12_drops_59 ci_1 ?_
      refine v_iadd dX12_drops_60 ?_
      obtain ⟨v5, e, h⟩ := bind_some h
      refine v_iaload dX12_drops_61 e ?_
      obtain ⟨M6, e, h⟩ := bind_some h
      refine v_iastore dX12_drops_62 e ?_
      refine v_aload_n dX12_drops_63 rfl 0 rfl ?_
      obtain ⟨v7, e, h⟩ := bind_some h
      refine gt_X12_9 e dX12_drops_64 ?_
      refine v_sipush (v := 446) dX12_drops_67 cs_446 ?_
      refine v_iload_n dX12_drops_70 rfl 2 rfl ?_
      refine v_iadd dX12_drops_71 ?_
      refine v_aload_n dX12_drops_72 rfl 0 rfl ?_
      obtain ⟨v8, e, h⟩ := bind_some h
      refine gt_X12_9 e dX12_drops_73 ?_
      refine v_sipush (v := 446) dX12_drops_76 cs_446 ?_
      refine v_iload_n dX12_drops_79 rfl 2 rfl ?_
      refine v_iadd dX12_drops_80 ?_
      refine v_iconst (v := 1) dX12_drops_81 ci_1 ?_
      refine v_iadd dX12_drops_82 ?_
      obtain ⟨v9, e, h⟩ := bind_some h
      refine v_iaload dX12_drops_83 e ?_
      obtain ⟨M10, e, h⟩ := bind_some h
      refine v_iastore dX12_drops_84 e ?_
      refine v_aload_n dX12_drops_85 rfl 0 rfl ?_
      obtain ⟨v11, e, h⟩ := bind_some h
      refine gt_X12_9 e dX12_drops_86 ?_
      refine v_sipush (v := 482) dX12_drops_89 cs_482 ?_
      refine v_iload_n dX12_drops_92 rfl 2 rfl ?_
      refine v_iadd dX12_drops_93 ?_
      refine v_aload_n dX12_drops_94 rfl 0 rfl ?_
      obtain ⟨v12, e, h⟩ := bind_some h
      refine gt_X12_9 e dX12_drops_95 ?_
      refine v_sipush (v := 482) dX12_drops_98 cs_482 ?_
      refine v_iload_n dX12_drops_101 rfl 2 rfl ?_
      refine v_iadd dX12_drops_102 ?_
      refine v_iconst (v := 1) dX12_drops_103 ci_1 ?_
      refine v_iadd dX12_drops_104 ?_
      obtain ⟨v13, e, h⟩ := bind_some h
      refine v_iaload dX12_drops_105 e ?_
      obtain ⟨M14, e, h⟩ := bind_some h
      refine v_iastore dX12_drops_106 e ?_
      refine v_aload_n dX12_drops_107 rfl 0 rfl ?_
      obtain ⟨v15, e, h⟩ := bind_some h
      refine gt_X12_9 e dX12_drops_108 ?_
      refine v_sipush (v := 518) dX12_drops_111 cs_518 ?_
      refine v_iload_n dX12_drops_114 rfl 2 rfl ?_
      refine v_iadd dX12_drops_115 ?_
      refine v_aload_n dX12_drops_116 rfl 0 rfl ?_
      obtain ⟨v16, e, h⟩ := bind_some h
      refine gt_X12_9 e dX12_drops_117 ?_
      refine v_sipush (v := 518) dX12_drops_120 cs_518 ?_
      refine v_iload_n dX12_drops_123 rfl 2 rfl ?_
      refine v_iadd dX12_drops_124 ?_
      refine v_iconst (v := 1) dX12_drops_125 ci_1 ?_
      refine v_iadd dX12_drops_126 ?_
      obtain ⟨v17, e, h⟩ := bind_some h
      refine v_iaload dX12_drops_127 e ?_
      obtain ⟨M18, e, h⟩ := bind_some h
      refine v_iastore dX12_drops_128 e ?_
      refine v_aload_n dX12_drops_129 rfl 0 rfl ?_
      obtain ⟨v19, e, h⟩ := bind_some h
      refine gt_X12_13 e dX12_drops_130 ?_
      refine v_bipush (v := 24) dX12_drops_133 cb_24 ?_
      refine v_iconst (v := 4) dX12_drops_135 ci_4 ?_
      refine v_iload_n dX12_drops_136 rfl 2 rfl ?_
      refine v_iconst (v := 1) dX12_drops_137 ci_1 ?_
      refine v_iadd dX12_drops_138 ?_
      refine v_imul dX12_drops_139 ?_
      refine v_iadd dX12_drops_140 ?_
      refine v_aload_n dX12_drops_141 rfl 0 rfl ?_
      obtain ⟨v20, e, h⟩ := bind_some h
      refine gt_X12_13 e dX12_drops_142 ?_
      refine v_bipush (v := 24) dX12_drops_145 cb_24 ?_
      refine v_iconst (v := 4) dX12_drops_147 ci_4 ?_
      refine v_iload_n dX12_drops_148 rfl 2 rfl ?_
      refine v_imul dX12_drops_149 ?_
      refine v_iadd dX12_drops_150 ?_
      obtain ⟨M21, e, h⟩ := bind_some h
      refine ca_X12_97 e dX12_drops_151 (Nat.le_of_ble_eq_true rfl) (by decide) ?_
      refine v_iinc (ls' := [(3, .int (l3 + 1)), (0, .ref l0), (1, .int l1)]) dX12_drops_154 2 rfl (v := 1) ci_1 (by decide) rfl ?_
      refine v_goto (tgt := 21) dX12_drops_157 (by decide) ?_
      refine v_sub [1, 2, 0] rfl ?_
      exact ih l0 l1 (l3 + 1) M21 h
set_option maxHeartbeats 4000000 in
set_option maxRecDepth 100000 in
theorem w_X12_drops {G : Gl} {ρ0 : Nat → Nat} {M0 MF : Mem} {r : Unit} (l0 : Nat) (l1 : Int32) (l2 : Int32) (M : Mem) (h : f_X12_drops l0 l1 l2 M = some MF) : V G (RX12, cX12_drops, none, 3, 74, 4, "drops", []) (ρ0, M0, cvV r, MF) 0 [(0, .ref l0), (1, .int l1), (2, .int l2)] [] M := by
  unfold f_X12_drops at h
  replace h := (ifS h).2
  refine v_aload_n dX12_drops_0 rfl 0 rfl ?_
  obtain ⟨v1, e, h⟩ := bind_some h
  refine gt_X12_9 e dX12_drops_1 ?_
  refine v_sipush (v := 446) dX12_drops_4 cs_446 ?_
  refine v_iload_n dX12_drops_7 rfl 2 rfl ?_
  refine v_iadd dX12_drops_8 ?_
  obtain ⟨v2, e, h⟩ := bind_some h
  refine v_iaload dX12_drops_9 e ?_
  refine v_if_le (tgt := 19) dX12_drops_10 (by decide) (fun c4 => ?_) (fun c4 => ?_)
  · replace h := ifP c4 h
    refine v_iload_n dX12_drops_19 rfl 2 rfl ?_
    refine v_istore_n (ls' := [(3, .int l2), (0, .ref l0), (1, .int l1), (2, .int l2)]) dX12_drops_20 rfl (by decide) rfl ?_
    refine v_sub [1, 2, 0] rfl ?_
    exact w_X12_drops_L21 FU l0 l1 l2 M h
  · replace h := ifN c4 h
    refine v_aload_n dX12_drops_13 rfl 0 rfl ?_
    refine v_iload_n dX12_drops_14 rfl 1 rfl ?_
    refine v_iload_n dX12_drops_15 rfl 2 rfl ?_
    obtain ⟨M3, e, h⟩ := bind_some h
    refine ca_X12_175 e dX12_drops_16 (Nat.le_of_ble_eq_true rfl) (by decide) ?_
    refine v_iload_n dX12_drops_19 rfl 2 rfl ?_
    refine v_istore_n (ls' := [(3, .int l2), (0, .ref l0), (1, .int l1), (2, .int l2)]) dX12_drops_20 rfl (by decide) rfl ?_
    refine v_sub [1, 2, 0] rfl ?_
    exact w_X12_drops_L21 FU l0 l1 l2 M3 h
theorem kd_X12_drops {l0 : Nat} {l1 : Int32} {l2 : Int32} {M : Mem} {z : _} (h : f_X12_drops l0 l1 l2 M = some z) : (mK M l0).1 = 12 := by
  unfold f_X12_drops at h
  exact (ifS h).1
theorem k_X12_drops {G : Gl} {l0 : Nat} {l1 : Int32} {l2 : Int32} {M MF : Mem} (h : f_X12_drops l0 l1 l2 M = some MF) : CtrP G yX12_drops cX12_drops 4 none 3 74 [.ref l0, .int l1, .int l2] M (cvV ()) MF :=
  ctr_of (by decide +kernel) (Nat.le_of_ble_eq_true rfl) (fun ρ => w_X12_drops (r := ()) l0 l1 l2 M h)
theorem wd_X12_178 : wdV RX12 178 RX12 yX12_drops cX12_drops 4 none 2 := ⟨gwi 1291 (by decide +kernel) (by decide +kernel), gwi 1293 (by decide +kernel) (by decide +kernel), gwi 32 (by decide +kernel) (by decide +kernel), nw_X12, gwi 1294 (by decide +kernel) (by decide +kernel), ⟨rfl, by decide +kernel, by decide +kernel, by decide +kernel⟩⟩
theorem ca_X12_178 {G : Gl} {B : Bx} {cc : ByteArray} {ret : Option FieldType} {fr lo nL : Nat} {mn : String} {hh : List (Nat × Nat × Nat × Nat)} {pc : Nat} {ls : List (Nat × Value)} {st : List Value} {M M1 : Mem} {l0 : Nat} {l1 : Int32} {l2 : Int32} (e : f_X12_drops l0 l1 l2 M = some M1) (hd : decode cc pc = .ok (.invokevirtual 178, 3)) (hcat : (st.map fun v => v.category).sum ≤ 8) (hR : 3 + 1 ≤ fr ∧ 8 + (4 + 11) + 74 ≤ lo) (k : V G (RX12, cc, ret, fr, lo, nL, mn, hh) B (pc + 3) ls (st) M1) : V G (RX12, cc, ret, fr, lo, nL, mn, hh) B pc ls (.int l2 :: .int l1 :: .ref l0 :: st) M := v_callV0 (As := [.int l1, .int l2]) (k_X12_drops e) wd_X12_178 clX12 (kd_X12_drops e) hd rfl rfl hcat hR k
set_option maxHeartbeats 4000000 in
set_option maxRecDepth 100000 in
theorem w_X12_removes_L56 {G : Gl} {ρ0 : Nat → Nat} {M0 MF : Mem} {r : Unit} : ∀ (n : Nat) (l0 : Nat) (l1 : Int32) (l2 : Int32) (M : Mem), f_X12_removes_L56 n l0 l1 l2 M = some MF → V G (RX12, cX12_removes, none, 4, 97, 3, "removes", []) (ρ0, M0, cvV r, MF) 56 [(0, .ref l0), (1, .int l1), (2, .int l2)] [] M := by
  intro n
  induction n with
  | zero => intro l0 l1 l2 M h; cases h
  | succ n ih =>
    intro l0 l1 l2 M h
    rw [f_X12_removes_L56] at h
    refine v_iload_n dX12_removes_56 rfl 2 rfl ?_
    refine v_bipush (v := 50) dX12_removes_57 cb_50 ?_
    refine v_icmp_gt (tgt := 83) dX12_removes_59 (by decide) (fun c3 => ?_) (fun c3 => ?_)
    · replace h := ifP c3 h
      cases h
      exact v_vreturn dX12_removes_83
    · replace h := ifN c3 h
      refine v_aload_n dX12_removes_62 rfl 0 rfl ?_
      obtain ⟨v1, e, h⟩ := bind_some h
      refine gt_X12_9 e dX12_removes_63 ?_
      refine v_bipush (v := 104) dX12_removes_66 cb_104 ?_
      refine v_bipush (v := 51) dX12_removes_68 cb_51 ?_
      refine v_iload_n dX12_removes_70 rfl 1 rfl ?_
      refine v_imul dX12_removes_71 ?_
      refine v_iadd dX12_removes_72 ?_
      refine v_iload_n dX12_removes_73 rfl 2 rfl ?_
      refine v_iadd dX12_removes_74 ?_
      refine v_iconst (v := 0) dX12_removes_75 ci_0 ?_
      obtain ⟨M2, e, h⟩ := bind_some h
      refine v_iastore dX12_removes_76 e ?_
      refine v_iinc (ls' := [(2, .int (l2 + 1)), (0, .ref l0), (1, .int l1)]) dX12_removes_77 2 rfl (v := 1) ci_1 (by decide) rfl ?_
      refine v_goto (tgt := 56) dX12_removes_80 (by decide) ?_
      refine v_sub [1, 2, 0] rfl ?_
      exact ih l0 l1 (l2 + 1) M2 h
set_option maxHeartbeats 4000000 in
set_option maxRecDepth 100000 in
theorem w_X12_removes_L0 {G : Gl} {ρ0 : Nat → Nat} {M0 MF : Mem} {r : Unit} : ∀ (n : Nat) (l0 : Nat) (l1 : Int32) (M : Mem), f_X12_removes_L0 n l0 l1 M = some MF → V G (RX12, cX12_removes, none, 4, 97, 3, "removes", []) (ρ0, M0, cvV r, MF) 0 [(0, .ref l0), (1, .int l1)] [] M := by
  intro n
  induction n with
  | zero => intro l0 l1 M h; cases h
  | succ n ih =>
    intro l0 l1 M h
    rw [f_X12_removes_L0] at h
    refine v_aload_n dX12_removes_0 rfl 0 rfl ?_
    obtain ⟨v1, e, h⟩ := bind_some h
    refine gt_X12_9 e dX12_removes_1 ?_
    refine v_bipush (v := 50) dX12_removes_4 cb_50 ?_
    refine v_iload_n dX12_removes_6 rfl 1 rfl ?_
    refine v_iadd dX12_removes_7 ?_
    obtain ⟨v2, e, h⟩ := bind_some h
    refine v_iaload dX12_removes_8 e ?_
    refine v_if_le (tgt := 24) dX12_removes_9 (by decide) (fun c9 => ?_) (fun c9 => ?_)
    · replace h := ifP c9 h
      refine v_aload_n dX12_removes_24 rfl 0 rfl ?_
      obtain ⟨v3, e, h⟩ := bind_some h
      refine gt_X12_9 e dX12_removes_25 ?_
      refine v_bipush (v := 20) dX12_removes_28 cb_20 ?_
      refine v_iload_n dX12_removes_30 rfl 1 rfl ?_
      refine v_iadd dX12_removes_31 ?_
      refine v_iconst (v := 0) dX12_removes_32 ci_0 ?_
      obtain ⟨M4, e, h⟩ := bind_some h
      refine v_iastore dX12_removes_33 e ?_
      refine v_aload_n dX12_removes_34 rfl 0 rfl ?_
      obtain ⟨v5, e, h⟩ := bind_some h
      refine gt_X12_9 e dX12_removes_35 ?_
      refine v_bipush (v := 56) dX12_removes_38 cb_56 ?_
      refine v_iload_n dX12_removes_40 rfl 1 rfl ?_
      refine v_iadd dX12_removes_41 ?_
      refine v_iconst (v := 0) dX12_removes_42 ci_0 ?_
      obtain ⟨M6, e, h⟩ := bind_some h
      refine v_iastore dX12_removes_43 e ?_
      refine v_aload_n dX12_removes_44 rfl 0 rfl ?_
      obtain ⟨v7, e, h⟩ := bind_some h
      refine gt_X12_9 e dX12_removes_45 ?_
      refine v_bipush (v := 62) dX12_removes_48 cb_62 ?_
      refine v_iload_n dX12_removes_50 rfl 1 rfl ?_
      refine v_iadd dX12_removes_51 ?_
      refine v_iconst (v := 0) dX12_removes_52 ci_0 ?_
      obtain ⟨M8, e, h⟩ := bind_some h
      refine v_iastore dX12_removes_53 e ?_
      refine v_iconst (v := 0) dX12_removes_54 ci_0 ?_
      refine v_istore_n (ls' := [(2, .int (0 : Int32)), (0, .ref l0), (1, .int l1)]) dX12_removes_55 rfl (by decide) rfl ?_
      refine v_sub [1, 2, 0] rfl ?_
      exact w_X12_removes_L56 FU l0 l1 (0 : Int32) M8 h
    · replace h := ifN c9 h
      refine v_aload_n dX12_removes_12 rfl 0 rfl ?_
      refine v_iload_n dX12_removes_13 rfl 1 rfl ?_
      refine v_bipush (v := 6) dX12_removes_14 cb_6 ?_
      refine v_iload_n dX12_removes_16 rfl 1 rfl ?_
      refine v_imul dX12_removes_17 ?_
      obtain ⟨M3, e, h⟩ := bind_some h
      refine ca_X12_178 e dX12_removes_18 (Nat.le_of_ble_eq_true rfl) (by decide) ?_
      refine v_goto (tgt := 0) dX12_removes_21 (by decide) ?_
      exact ih l0 l1 M3 h
theorem w_X12_removes {G : Gl} {ρ0 : Nat → Nat} {M0 MF : Mem} {r : Unit} (l0 : Nat) (l1 : Int32) (M : Mem) (h : f_X12_removes l0 l1 M = some MF) : V G (RX12, cX12_removes, none, 4, 97, 3, "removes", []) (ρ0, M0, cvV r, MF) 0 [(0, .ref l0), (1, .int l1)] [] M := by
  unfold f_X12_removes at h
  replace h := (ifS h).2
  exact w_X12_removes_L0 FU l0 l1 M h
theorem kd_X12_removes {l0 : Nat} {l1 : Int32} {M : Mem} {z : _} (h : f_X12_removes l0 l1 M = some z) : (mK M l0).1 = 12 := by
  unfold f_X12_removes at h
  exact (ifS h).1
theorem k_X12_removes {G : Gl} {l0 : Nat} {l1 : Int32} {M MF : Mem} (h : f_X12_removes l0 l1 M = some MF) : CtrP G yX12_removes cX12_removes 3 none 4 97 [.ref l0, .int l1] M (cvV ()) MF :=
  ctr_of (by decide +kernel) (Nat.le_of_ble_eq_true rfl) (fun ρ => w_X12_removes (r := ()) l0 l1 M h)
theorem wd_X12_181 : wdV RX12 181 RX12 yX12_removes cX12_removes 3 none 1 := ⟨gwi 1287 (by decide +kernel) (by decide +kernel), gwi 1289 (by decide +kernel) (by decide +kernel), gwi 31 (by decide +kernel) (by decide +kernel), nw_X12, gwi 1290 (by decide +kernel) (by decide +kernel), ⟨rfl, by decide +kernel, by decide +kernel, by decide +kernel⟩⟩
theorem ca_X12_181 {G : Gl} {B : Bx} {cc : ByteArray} {ret : Option FieldType} {fr lo nL : Nat} {mn : String} {hh : List (Nat × Nat × Nat × Nat)} {pc : Nat} {ls : List (Nat × Value)} {st : List Value} {M M1 : Mem} {l0 : Nat} {l1 : Int32} (e : f_X12_removes l0 l1 M = some M1) (hd : decode cc pc = .ok (.invokevirtual 181, 3)) (hcat : (st.map fun v => v.category).sum ≤ 8) (hR : 4 + 1 ≤ fr ∧ 8 + (3 + 11) + 97 ≤ lo) (k : V G (RX12, cc, ret, fr, lo, nL, mn, hh) B (pc + 3) ls (st) M1) : V G (RX12, cc, ret, fr, lo, nL, mn, hh) B pc ls (.int l1 :: .ref l0 :: st) M := v_callV0 (As := [.int l1]) (k_X12_removes e) wd_X12_181 clX12 (kd_X12_removes e) hd rfl rfl hcat hR k
set_option maxHeartbeats 4000000 in
set_option maxRecDepth 100000 in
theorem w_X12_leaves {G : Gl} {ρ0 : Nat → Nat} {M0 MF : Mem} {r : Unit} (l0 : Nat) (l1 : Int32) (M : Mem) (h : f_X12_leaves l0 l1 M = some MF) : V G (RX12, cX12_leaves, none, 5, 119, 2, "leaves", []) (ρ0, M0, cvV r, MF) 0 [(0, .ref l0), (1, .int l1)] [] M := by
  unfold f_X12_leaves at h
  replace h := (ifS h).2
  refine v_aload_n dX12_leaves_0 rfl 0 rfl ?_
  obtain ⟨v1, e, h⟩ := bind_some h
  refine gt_X12_9 e dX12_leaves_1 ?_
  refine v_bipush (v := 32) dX12_leaves_4 cb_32 ?_
  refine v_iload_n dX12_leaves_6 rfl 1 rfl ?_
  refine v_iadd dX12_leaves_7 ?_
  refine v_iconst (v := 0) dX12_leaves_8 ci_0 ?_
  obtain ⟨M2, e, h⟩ := bind_some h
  refine v_iastore dX12_leaves_9 e ?_
  refine v_aload_n dX12_leaves_10 rfl 0 rfl ?_
  obtain ⟨v3, e, h⟩ := bind_some h
  refine gt_X12_9 e dX12_leaves_11 ?_
  refine v_bipush (v := 68) dX12_leaves_14 cb_68 ?_
  refine v_iload_n dX12_leaves_16 rfl 1 rfl ?_
  refine v_iadd dX12_leaves_17 ?_
  refine v_iconst (v := 0) dX12_leaves_18 ci_0 ?_
  obtain ⟨M4, e, h⟩ := bind_some h
  refine v_iastore dX12_leaves_19 e ?_
  refine v_aload_n dX12_leaves_20 rfl 0 rfl ?_
  obtain ⟨v5, e, h⟩ := bind_some h
  refine gt_X12_9 e dX12_leaves_21 ?_
  refine v_bipush (v := 38) dX12_leaves_24 cb_38 ?_
  refine v_iload_n dX12_leaves_26 rfl 1 rfl ?_
  refine v_iadd dX12_leaves_27 ?_
  refine v_aload_n dX12_leaves_28 rfl 0 rfl ?_
  obtain ⟨v6, e, h⟩ := bind_some h
  refine gt_X12_9 e dX12_leaves_29 ?_
  refine v_iconst (v := 0) dX12_leaves_32 ci_0 ?_
  obtain ⟨v7, e, h⟩ := bind_some h
  refine v_iaload dX12_leaves_33 e ?_
  obtain ⟨M8, e, h⟩ := bind_some h
  refine v_iastore dX12_leaves_34 e ?_
  refine v_aload_n dX12_leaves_35 rfl 0 rfl ?_
  obtain ⟨v9, e, h⟩ := bind_some h
  refine gt_X12_9 e dX12_leaves_36 ?_
  refine v_bipush (v := 26) dX12_leaves_39 cb_26 ?_
  refine v_iload_n dX12_leaves_41 rfl 1 rfl ?_
  refine v_iadd dX12_leaves_42 ?_
  obtain ⟨v10, e, h⟩ := bind_some h
  refine v_iaload dX12_leaves_43 e ?_
  refine v_iconst (v := 1) dX12_leaves_44 ci_1 ?_
  refine v_icmp_ne (tgt := 53) dX12_leaves_45 (by decide) (fun c12 => ?_) (fun c12 => ?_)
  · replace h := ifN c12 h
    cases h
    exact v_vreturn dX12_leaves_53
  · replace h := ifP c12 h
    refine v_aload_n dX12_leaves_48 rfl 0 rfl ?_
    refine v_iload_n dX12_leaves_49 rfl 1 rfl ?_
    obtain ⟨M11, e, h⟩ := bind_some h
    refine ca_X12_181 e dX12_leaves_50 (Nat.le_of_ble_eq_true rfl) (by decide) ?_
    cases h
    exact v_vreturn dX12_leaves_53
theorem kd_X12_leaves {l0 : Nat} {l1 : Int32} {M : Mem} {z : _} (h : f_X12_leaves l0 l1 M = some z) : (mK M l0).1 = 12 := by
  unfold f_X12_leaves at h
  exact (ifS h).1
theorem k_X12_leaves {G : Gl} {l0 : Nat} {l1 : Int32} {M MF : Mem} (h : f_X12_leaves l0 l1 M = some MF) : CtrP G yX12_leaves cX12_leaves 2 none 5 119 [.ref l0, .int l1] M (cvV ()) MF :=
  ctr_of (by decide +kernel) (Nat.le_of_ble_eq_true rfl) (fun ρ => w_X12_leaves (r := ()) l0 l1 M h)
theorem wd_X12_184 : wdV RX12 184 RX12 yX12_leaves cX12_leaves 2 none 1 := ⟨gwi 1283 (by decide +kernel) (by decide +kernel), gwi 1285 (by decide +kernel) (by decide +kernel), gwi 30 (by decide +kernel) (by decide +kernel), nw_X12, gwi 1286 (by decide +kernel) (by decide +kernel), ⟨rfl, by decide +kernel, by decide +kernel, by decide +kernel⟩⟩
theorem ca_X12_184 {G : Gl} {B : Bx} {cc : ByteArray} {ret : Option FieldType} {fr lo nL : Nat} {mn : String} {hh : List (Nat × Nat × Nat × Nat)} {pc : Nat} {ls : List (Nat × Value)} {st : List Value} {M M1 : Mem} {l0 : Nat} {l1 : Int32} (e : f_X12_leaves l0 l1 M = some M1) (hd : decode cc pc = .ok (.invokevirtual 184, 3)) (hcat : (st.map fun v => v.category).sum ≤ 8) (hR : 5 + 1 ≤ fr ∧ 8 + (2 + 11) + 119 ≤ lo) (k : V G (RX12, cc, ret, fr, lo, nL, mn, hh) B (pc + 3) ls (st) M1) : V G (RX12, cc, ret, fr, lo, nL, mn, hh) B pc ls (.int l1 :: .ref l0 :: st) M := v_callV0 (As := [.int l1]) (k_X12_leaves e) wd_X12_184 clX12 (kd_X12_leaves e) hd rfl rfl hcat hR k
set_option maxHeartbeats 4000000 in
set_option maxRecDepth 100000 in
theorem w_X12_breaks_J86 {G : Gl} {ρ0 : Nat → Nat} {M0 MF : Mem} {r : Int32} (l0 : Nat) (l1 : Int32) (s0 : Int32) (s1 : Int32) (s2 : Int32) (s3 : Nat) (M : Mem) (h : f_X12_breaks_J86 l0 l1 s0 s1 s2 s3 M = some (r, MF)) : V G (RX12, cX12_breaks, (some .int), 6, 160, 3, "breaks", []) (ρ0, M0, cvI r, MF) 86 [(0, .ref l0), (1, .int l1)] [.int s0, .int s1, .int s2, .ref s3] M := by
  unfold f_X12_breaks_J86 at h
  refine v_aload_n dX12_breaks_86 rfl 0 rfl ?_
  obtain ⟨v1, e, h⟩ := bind_some h
  refine gt_X12_9 e dX12_breaks_87 ?_
  refine v_bipush (v := 98) dX12_breaks_90 cb_98 ?_
  refine v_iload_n dX12_breaks_92 rfl 1 rfl ?_
  refine v_iadd dX12_breaks_93 ?_
  obtain ⟨v2, e, h⟩ := bind_some h
  refine v_iaload dX12_breaks_94 e ?_
  obtain ⟨v4, M3, e, h⟩ := bindP_some h
  refine ca_X12_187 e dX12_breaks_95 (Nat.le_of_ble_eq_true rfl) (by decide) ?_
  refine v_istore_n (ls' := [(2, .int v4), (0, .ref l0), (1, .int l1)]) dX12_breaks_98 rfl (by decide) rfl ?_
  refine v_iconst (v := 1) dX12_breaks_99 ci_1 ?_
  cases h
  exact v_ireturn dX12_breaks_100
set_option maxHeartbeats 4000000 in
set_option maxRecDepth 100000 in
theorem w_X12_breaks {G : Gl} {ρ0 : Nat → Nat} {M0 MF : Mem} {r : Int32} (l0 : Nat) (l1 : Int32) (M : Mem) (h : f_X12_breaks l0 l1 M = some (r, MF)) : V G (RX12, cX12_breaks, (some .int), 6, 160, 3, "breaks", []) (ρ0, M0, cvI r, MF) 0 [(0, .ref l0), (1, .int l1)] [] M := by
  unfold f_X12_breaks at h
  replace h := (ifS h).2
  refine v_aload_n dX12_breaks_0 rfl 0 rfl ?_
  refine v_iload_n dX12_breaks_1 rfl 1 rfl ?_
  obtain ⟨M1, e, h⟩ := bind_some h
  refine ca_X12_184 e dX12_breaks_2 (Nat.le_of_ble_eq_true rfl) (by decide) ?_
  refine v_aload_n dX12_breaks_5 rfl 0 rfl ?_
  obtain ⟨v2, e, h⟩ := bind_some h
  refine gt_X12_9 e dX12_breaks_6 ?_
  refine v_bipush (v := 74) dX12_breaks_9 cb_74 ?_
  refine v_iload_n dX12_breaks_11 rfl 1 rfl ?_
  refine v_iadd dX12_breaks_12 ?_
  obtain ⟨v3, e, h⟩ := bind_some h
  refine v_iaload dX12_breaks_13 e ?_
  refine v_if_ne (tgt := 19) dX12_breaks_14 (by decide) (fun c17 => ?_) (fun c17 => ?_)
  · replace h := ifN c17 h
    refine v_aload_n dX12_breaks_19 rfl 0 rfl ?_
    obtain ⟨v4, e, h⟩ := bind_some h
    refine gt_X12_9 e dX12_breaks_20 ?_
    refine v_bipush (v := 74) dX12_breaks_23 cb_74 ?_
    refine v_iload_n dX12_breaks_25 rfl 1 rfl ?_
    refine v_iadd dX12_breaks_26 ?_
    refine v_iconst (v := 0) dX12_breaks_27 ci_0 ?_
    obtain ⟨M5, e, h⟩ := bind_some h
    refine v_iastore dX12_breaks_28 e ?_
    refine v_aload_n dX12_breaks_29 rfl 0 rfl ?_
    obtain ⟨v6, e, h⟩ := bind_some h
    refine gt_X12_9 e dX12_breaks_30 ?_
    refine v_bipush (v := 11) dX12_breaks_33 cb_11 ?_
    refine v_dup2 dX12_breaks_35 rfl rfl ?_
    obtain ⟨v7, e, h⟩ := bind_some h
    refine v_iaload dX12_breaks_36 e ?_
    refine v_iconst (v := 1) dX12_breaks_37 ci_1 ?_
    refine v_iadd dX12_breaks_38 ?_
    obtain ⟨M8, e, h⟩ := bind_some h
    refine v_iastore dX12_breaks_39 e ?_
    refine v_aload_n dX12_breaks_40 rfl 0 rfl ?_
    obtain ⟨v9, e, h⟩ := bind_some h
    refine gt_X12_13 e dX12_breaks_41 ?_
    refine v_iconst (v := 0) dX12_breaks_44 ci_0 ?_
    refine v_iconst (v := 4) dX12_breaks_45 ci_4 ?_
    refine v_iload_n dX12_breaks_46 rfl 1 rfl ?_
    refine v_imul dX12_breaks_47 ?_
    refine v_iadd dX12_breaks_48 ?_
    refine v_aload_n dX12_breaks_49 rfl 0 rfl ?_
    obtain ⟨v10, e, h⟩ := bind_some h
    refine gt_X12_40 e dX12_breaks_50 ?_
    refine v_iconst (v := 0) dX12_breaks_53 ci_0 ?_
    obtain ⟨M11, e, h⟩ := bind_some h
    refine ca_X12_97 e dX12_breaks_54 (Nat.le_of_ble_eq_true rfl) (by decide) ?_
    refine v_aload_n dX12_breaks_57 rfl 0 rfl ?_
    refine v_iload_n dX12_breaks_58 rfl 1 rfl ?_
    refine v_aload_n dX12_breaks_59 rfl 0 rfl ?_
    obtain ⟨v12, e, h⟩ := bind_some h
    refine gt_X12_9 e dX12_breaks_60 ?_
    refine v_bipush (v := 86) dX12_breaks_63 cb_86 ?_
    refine v_iload_n dX12_breaks_65 rfl 1 rfl ?_
    refine v_iadd dX12_breaks_66 ?_
    obtain ⟨v13, e, h⟩ := bind_some h
    refine v_iaload dX12_breaks_67 e ?_
    refine v_aload_n dX12_breaks_68 rfl 0 rfl ?_
    obtain ⟨v14, e, h⟩ := bind_some h
    refine gt_X12_9 e dX12_breaks_69 ?_
    refine v_bipush (v := 92) dX12_breaks_72 cb_92 ?_
    refine v_iload_n dX12_breaks_74 rfl 1 rfl ?_
    refine v_iadd dX12_breaks_75 ?_
    obtain ⟨v15, e, h⟩ := bind_some h
    refine v_iaload dX12_breaks_76 e ?_
    refine v_iconst (v := 1) dX12_breaks_77 ci_1 ?_
    refine v_icmp_ne (tgt := 85) dX12_breaks_78 (by decide) (fun c16 => ?_) (fun c16 => ?_)
    · replace h := ifN c16 h
      refine v_iconst (v := 0) dX12_breaks_85 ci_0 ?_
      exact w_X12_breaks_J86 l0 l1 (0 : Int32) v13 l1 l0 M11 h
    · replace h := ifP c16 h
      refine v_iconst (v := 1) dX12_breaks_81 ci_1 ?_
      refine v_goto (tgt := 86) dX12_breaks_82 (by decide) ?_
      exact w_X12_breaks_J86 l0 l1 (1 : Int32) v13 l1 l0 M11 h
  · replace h := ifP c17 h
    refine v_iconst (v := 0) dX12_breaks_17 ci_0 ?_
    cases h
    exact v_ireturn dX12_breaks_18
theorem kd_X12_breaks {l0 : Nat} {l1 : Int32} {M : Mem} {z : _} (h : f_X12_breaks l0 l1 M = some z) : (mK M l0).1 = 12 := by
  unfold f_X12_breaks at h
  exact (ifS h).1
theorem k_X12_breaks {G : Gl} {l0 : Nat} {l1 : Int32} {M MF : Mem} {r : Int32} (h : f_X12_breaks l0 l1 M = some (r, MF)) : CtrP G yX12_breaks cX12_breaks 3 (some .int) 6 160 [.ref l0, .int l1] M (cvI r) MF :=
  ctr_of (by decide +kernel) (Nat.le_of_ble_eq_true rfl) (fun ρ => w_X12_breaks l0 l1 M h)
theorem wd_X12_194 : wdV RX12 194 RX12 yX12_breaks cX12_breaks 3 (some .int) 1 := ⟨gwi 1279 (by decide +kernel) (by decide +kernel), gwi 1281 (by decide +kernel) (by decide +kernel), gwi 29 (by decide +kernel) (by decide +kernel), nw_X12, gwi 1282 (by decide +kernel) (by decide +kernel), ⟨rfl, by decide +kernel, by decide +kernel, by decide +kernel⟩⟩
theorem ca_X12_194 {G : Gl} {B : Bx} {cc : ByteArray} {ret : Option FieldType} {fr lo nL : Nat} {mn : String} {hh : List (Nat × Nat × Nat × Nat)} {pc : Nat} {ls : List (Nat × Value)} {st : List Value} {M M1 : Mem} {l0 : Nat} {l1 : Int32} {x : Int32} (e : f_X12_breaks l0 l1 M = some (x, M1)) (hd : decode cc pc = .ok (.invokevirtual 194, 3)) (hcat : (st.map fun v => v.category).sum ≤ 8) (hR : 6 + 1 ≤ fr ∧ 8 + (3 + 11) + 160 ≤ lo) (k : V G (RX12, cc, ret, fr, lo, nL, mn, hh) B (pc + 3) ls (.int x :: st) M1) : V G (RX12, cc, ret, fr, lo, nL, mn, hh) B pc ls (.int l1 :: .ref l0 :: st) M := v_callVi (As := [.int l1]) (k_X12_breaks e) wd_X12_194 clX12 (kd_X12_breaks e) hd rfl rfl hcat hR k
set_option maxHeartbeats 4000000 in
set_option maxRecDepth 100000 in
theorem w_X12_connect_L136 {G : Gl} {ρ0 : Nat → Nat} {M0 MF : Mem} {r : Int32} : ∀ (n : Nat) (l0 : Nat) (l1 : Int32) (l3 : Int32) (l4 : Int32) (M : Mem), f_X12_connect_L136 n l0 l1 l3 l4 M = some (r, MF) → V G (RX12, cX12_connect, (some .int), 7, 182, 5, "connect", []) (ρ0, M0, cvI r, MF) 136 [(0, .ref l0), (1, .int l1), (3, .int l3), (4, .int l4)] [] M := by
  intro n
  induction n with
  | zero => intro l0 l1 l3 l4 M h; cases h
  | succ n ih =>
    intro l0 l1 l3 l4 M h
    rw [f_X12_connect_L136] at h
    refine v_iload dX12_connect_136 3 rfl ?_
    refine v_aload_n dX12_connect_138 rfl 0 rfl ?_
    obtain ⟨v1, e, h⟩ := bind_some h
    refine gt_X12_9 e dX12_connect_139 ?_
    refine v_bipush (v := 56) dX12_connect_142 cb_56 ?_
    refine v_iload_n dX12_connect_144 rfl 1 rfl ?_
    refine v_iadd dX12_connect_145 ?_
    obtain ⟨v2, e, h⟩ := bind_some h
    refine v_iaload dX12_connect_146 e ?_
    refine v_icmp_ge (tgt := 163) dX12_connect_147 (by decide) (fun c5 => ?_) (fun c5 => ?_)
    · replace h := ifP c5 h
      refine v_aload_n dX12_connect_163 rfl 0 rfl ?_
      refine v_iload_n dX12_connect_164 rfl 1 rfl ?_
      obtain ⟨M3, e, h⟩ := bind_some h
      refine ca_X12_127 e dX12_connect_165 (Nat.le_of_ble_eq_true rfl) (by decide) ?_
      refine v_iload_n dX12_connect_168 rfl 2 rfl ?_
      refine v_if_eq (tgt := 176) dX12_connect_169 (by decide) (fun c4 => ?_) (fun c4 => ?_)
      · replace h := ifP c4 h
        refine v_iconst (v := 0) dX12_connect_176 ci_0 ?_
        cases h
        exact v_ireturn dX12_connect_177
      · replace h := ifN c4 h
        refine v_iconst (v := 1) dX12_connect_172 ci_1 ?_
        refine v_goto (tgt := 177) dX12_connect_173 (by decide) ?_
        cases h
        exact v_ireturn dX12_connect_177
    · replace h := ifN c5 h
      refine v_aload_n dX12_connect_150 rfl 0 rfl ?_
      refine v_iload_n dX12_connect_151 rfl 1 rfl ?_
      refine v_iload dX12_connect_152 3 rfl ?_
      obtain ⟨M3, e, h⟩ := bind_some h
      refine ca_X12_197 e dX12_connect_154 (Nat.le_of_ble_eq_true rfl) (by decide) ?_
      refine v_iinc (ls' := [(4, .int (l4 + 1)), (0, .ref l0), (1, .int l1), (3, .int l3)]) dX12_connect_157 3 rfl (v := 1) ci_1 (by decide) rfl ?_
      refine v_goto (tgt := 136) dX12_connect_160 (by decide) ?_
      refine v_sub [1, 2, 3, 0] rfl ?_
      exact ih l0 l1 l3 (l4 + 1) M3 h
set_option maxHeartbeats 4000000 in
set_option maxRecDepth 100000 in
theorem w_X12_connect_J112 {G : Gl} {ρ0 : Nat → Nat} {M0 MF : Mem} {r : Int32} (l0 : Nat) (l1 : Int32) (l3 : Int32) (s0 : Int32) (s1 : Int32) (s2 : Nat) (M : Mem) (h : f_X12_connect_J112 l0 l1 l3 s0 s1 s2 M = some (r, MF)) : V G (RX12, cX12_connect, (some .int), 7, 182, 5, "connect", []) (ρ0, M0, cvI r, MF) 112 [(0, .ref l0), (1, .int l1), (3, .int l3)] [.int s0, .int s1, .ref s2] M := by
  unfold f_X12_connect_J112 at h
  obtain ⟨M1, e, h⟩ := bind_some h
  refine v_iastore dX12_connect_112 e ?_
  refine v_aload_n dX12_connect_113 rfl 0 rfl ?_
  obtain ⟨v2, e, h⟩ := bind_some h
  refine gt_X12_9 e dX12_connect_114 ?_
  refine v_bipush (v := 32) dX12_connect_117 cb_32 ?_
  refine v_iload_n dX12_connect_119 rfl 1 rfl ?_
  refine v_iadd dX12_connect_120 ?_
  refine v_iconst (v := 1) dX12_connect_121 ci_1 ?_
  obtain ⟨M3, e, h⟩ := bind_some h
  refine v_iastore dX12_connect_122 e ?_
  refine v_aload_n dX12_connect_123 rfl 0 rfl ?_
  obtain ⟨v4, e, h⟩ := bind_some h
  refine gt_X12_9 e dX12_connect_124 ?_
  refine v_bipush (v := 68) dX12_connect_127 cb_68 ?_
  refine v_iload_n dX12_connect_129 rfl 1 rfl ?_
  refine v_iadd dX12_connect_130 ?_
  refine v_iconst (v := 0) dX12_connect_131 ci_0 ?_
  obtain ⟨M5, e, h⟩ := bind_some h
  refine v_iastore dX12_connect_132 e ?_
  refine v_iconst (v := 0) dX12_connect_133 ci_0 ?_
  refine v_istore (ls' := [(4, .int (0 : Int32)), (0, .ref l0), (1, .int l1), (3, .int l3)]) dX12_connect_134 (by decide) rfl ?_
  refine v_sub [1, 2, 3, 0] rfl ?_
  exact w_X12_connect_L136 FU l0 l1 l3 (0 : Int32) M5 h
set_option maxHeartbeats 4000000 in
set_option maxRecDepth 100000 in
theorem w_X12_connect_J95 {G : Gl} {ρ0 : Nat → Nat} {M0 MF : Mem} {r : Int32} (l0 : Nat) (l1 : Int32) (l2 : Int32) (l3 : Int32) (M : Mem) (h : f_X12_connect_J95 l0 l1 l2 l3 M = some (r, MF)) : V G (RX12, cX12_connect, (some .int), 7, 182, 5, "connect", []) (ρ0, M0, cvI r, MF) 95 [(0, .ref l0), (1, .int l1), (2, .int l2), (3, .int l3)] [] M := by
  unfold f_X12_connect_J95 at h
  refine v_aload_n dX12_connect_95 rfl 0 rfl ?_
  obtain ⟨v1, e, h⟩ := bind_some h
  refine gt_X12_9 e dX12_connect_96 ?_
  refine v_bipush (v := 26) dX12_connect_99 cb_26 ?_
  refine v_iload_n dX12_connect_101 rfl 1 rfl ?_
  refine v_iadd dX12_connect_102 ?_
  refine v_iload_n dX12_connect_103 rfl 2 rfl ?_
  refine v_if_eq (tgt := 111) dX12_connect_104 (by decide) (fun c2 => ?_) (fun c2 => ?_)
  · replace h := ifP c2 h
    refine v_iconst (v := 0) dX12_connect_111 ci_0 ?_
    refine v_sub [0, 1, 3] rfl ?_
    exact w_X12_connect_J112 l0 l1 l3 (0 : Int32) ((26 : Int32) + l1) v1 M h
  · replace h := ifN c2 h
    refine v_iconst (v := 1) dX12_connect_107 ci_1 ?_
    refine v_goto (tgt := 112) dX12_connect_108 (by decide) ?_
    refine v_sub [0, 1, 3] rfl ?_
    exact w_X12_connect_J112 l0 l1 l3 (1 : Int32) ((26 : Int32) + l1) v1 M h
set_option maxHeartbeats 4000000 in
set_option maxRecDepth 100000 in
theorem w_X12_connect_J65 {G : Gl} {ρ0 : Nat → Nat} {M0 MF : Mem} {r : Int32} (l0 : Nat) (l1 : Int32) (l2 : Int32) (s0 : Int32) (M : Mem) (h : f_X12_connect_J65 l0 l1 l2 s0 M = some (r, MF)) : V G (RX12, cX12_connect, (some .int), 7, 182, 5, "connect", []) (ρ0, M0, cvI r, MF) 65 [(0, .ref l0), (1, .int l1), (2, .int l2)] [.int s0] M := by
  unfold f_X12_connect_J65 at h
  refine v_istore_n (ls' := [(3, .int s0), (0, .ref l0), (1, .int l1), (2, .int l2)]) dX12_connect_65 rfl (by decide) rfl ?_
  refine v_iload_n dX12_connect_66 rfl 0 rfl ?_
  refine v_if_ne (tgt := 95) dX12_connect_67 (by decide) (fun c6 => ?_) (fun c6 => ?_)
  · replace h := ifN c6 h
    refine v_sub [1, 2, 3, 0] rfl ?_
    exact w_X12_connect_J95 l0 l1 l2 s0 M h
  · replace h := ifP c6 h
    refine v_aload_n dX12_connect_70 rfl 1 rfl ?_
    refine v_iload_n dX12_connect_71 rfl 2 rfl ?_
    obtain ⟨M1, e, h⟩ := bind_some h
    refine ca_X12_181 e dX12_connect_72 (Nat.le_of_ble_eq_true rfl) (by decide) ?_
    refine v_aload_n dX12_connect_75 rfl 1 rfl ?_
    obtain ⟨v2, e, h⟩ := bind_some h
    refine gt_X12_9 e dX12_connect_76 ?_
    refine v_bipush (v := 20) dX12_connect_79 cb_20 ?_
    refine v_iload_n dX12_connect_81 rfl 2 rfl ?_
    refine v_iadd dX12_connect_82 ?_
    refine v_iconst (v := 1) dX12_connect_83 ci_1 ?_
    obtain ⟨M3, e, h⟩ := bind_some h
    refine v_iastore dX12_connect_84 e ?_
    refine v_aload_n dX12_connect_85 rfl 1 rfl ?_
    obtain ⟨v4, e, h⟩ := bind_some h
    refine gt_X12_9 e dX12_connect_86 ?_
    refine v_bipush (v := 44) dX12_connect_89 cb_44 ?_
    refine v_iload_n dX12_connect_91 rfl 2 rfl ?_
    refine v_iadd dX12_connect_92 ?_
    refine v_iconst (v := 1) dX12_connect_93 ci_1 ?_
    obtain ⟨M5, e, h⟩ := bind_some h
    refine v_iastore dX12_connect_94 e ?_
    refine v_sub [1, 2, 3, 0] rfl ?_
    exact w_X12_connect_J95 l0 l1 l2 s0 M5 h
theorem w_X12_connect_J64 {G : Gl} {ρ0 : Nat → Nat} {M0 MF : Mem} {r : Int32} (l0 : Nat) (l1 : Int32) (l2 : Int32) (M : Mem) (h : f_X12_connect_J64 l0 l1 l2 M = some (r, MF)) : V G (RX12, cX12_connect, (some .int), 7, 182, 5, "connect", []) (ρ0, M0, cvI r, MF) 64 [(0, .ref l0), (1, .int l1), (2, .int l2)] [] M := by
  unfold f_X12_connect_J64 at h
  refine v_iconst (v := 0) dX12_connect_64 ci_0 ?_
  exact w_X12_connect_J65 l0 l1 l2 (0 : Int32) M h
set_option maxHeartbeats 4000000 in
set_option maxRecDepth 100000 in
theorem w_X12_connect_J43 {G : Gl} {ρ0 : Nat → Nat} {M0 MF : Mem} {r : Int32} (l0 : Nat) (l1 : Int32) (l2 : Int32) (M : Mem) (h : f_X12_connect_J43 l0 l1 l2 M = some (r, MF)) : V G (RX12, cX12_connect, (some .int), 7, 182, 5, "connect", []) (ρ0, M0, cvI r, MF) 43 [(0, .ref l0), (1, .int l1), (2, .int l2)] [] M := by
  unfold f_X12_connect_J43 at h
  refine v_aload_n dX12_connect_43 rfl 0 rfl ?_
  obtain ⟨v1, e, h⟩ := bind_some h
  refine gt_X12_9 e dX12_connect_44 ?_
  refine v_bipush (v := 20) dX12_connect_47 cb_20 ?_
  refine v_iload_n dX12_connect_49 rfl 1 rfl ?_
  refine v_iadd dX12_connect_50 ?_
  obtain ⟨v2, e, h⟩ := bind_some h
  refine v_iaload dX12_connect_51 e ?_
  refine v_iconst (v := 1) dX12_connect_52 ci_1 ?_
  refine v_icmp_ne (tgt := 64) dX12_connect_53 (by decide) (fun c4 => ?_) (fun c4 => ?_)
  · replace h := ifN c4 h
    exact w_X12_connect_J64 l0 l1 l2 M h
  · replace h := ifP c4 h
    refine v_iload_n dX12_connect_56 rfl 2 rfl ?_
    refine v_if_ne (tgt := 64) dX12_connect_57 (by decide) (fun c3 => ?_) (fun c3 => ?_)
    · replace h := ifN c3 h
      exact w_X12_connect_J64 l0 l1 l2 M h
    · replace h := ifP c3 h
      refine v_iconst (v := 1) dX12_connect_60 ci_1 ?_
      refine v_goto (tgt := 65) dX12_connect_61 (by decide) ?_
      exact w_X12_connect_J65 l0 l1 l2 (1 : Int32) M h
set_option maxHeartbeats 4000000 in
set_option maxRecDepth 100000 in
theorem w_X12_connect {G : Gl} {ρ0 : Nat → Nat} {M0 MF : Mem} {r : Int32} (l0 : Nat) (l1 : Int32) (l2 : Int32) (M : Mem) (h : f_X12_connect l0 l1 l2 M = some (r, MF)) : V G (RX12, cX12_connect, (some .int), 7, 182, 5, "connect", []) (ρ0, M0, cvI r, MF) 0 [(0, .ref l0), (1, .int l1), (2, .int l2)] [] M := by
  unfold f_X12_connect at h
  replace h := (ifS h).2
  refine v_aload_n dX12_connect_0 rfl 0 rfl ?_
  refine v_iconst (v := 0) dX12_connect_1 ci_0 ?_
  obtain ⟨M1, e, h⟩ := bind_some h
  refine pt_X12_52 e dX12_connect_2 ?_
  refine v_iload_n dX12_connect_5 rfl 1 rfl ?_
  obtain ⟨v3, M2, e, h⟩ := bindP_some h
  refine ca_X12_191 e dX12_connect_6 (Nat.le_of_ble_eq_true rfl) (by decide) ?_
  refine v_if_ne (tgt := 18) dX12_connect_9 (by decide) (fun c12 => ?_) (fun c12 => ?_)
  · replace h := ifN c12 h
    refine v_aload_n dX12_connect_18 rfl 0 rfl ?_
    refine v_iload_n dX12_connect_19 rfl 1 rfl ?_
    obtain ⟨v5, M4, e, h⟩ := bindP_some h
    refine ca_X12_107 e dX12_connect_20 (Nat.le_of_ble_eq_true rfl) (by decide) ?_
    refine v_if_eq (tgt := 43) dX12_connect_23 (by decide) (fun c11 => ?_) (fun c11 => ?_)
    · replace h := ifP c11 h
      exact w_X12_connect_J43 l0 l1 l2 M4 h
    · replace h := ifN c11 h
      refine v_aload_n dX12_connect_26 rfl 0 rfl ?_
      obtain ⟨v6, e, h⟩ := bind_some h
      refine gt_X12_9 e dX12_connect_27 ?_
      refine v_bipush (v := 10) dX12_connect_30 cb_10 ?_
      refine v_dup2 dX12_connect_32 rfl rfl ?_
      obtain ⟨v7, e, h⟩ := bind_some h
      refine v_iaload dX12_connect_33 e ?_
      refine v_iconst (v := 1) dX12_connect_34 ci_1 ?_
      refine v_iadd dX12_connect_35 ?_
      obtain ⟨M8, e, h⟩ := bind_some h
      refine v_iastore dX12_connect_36 e ?_
      refine v_aload_n dX12_connect_37 rfl 0 rfl ?_
      refine v_iload_n dX12_connect_38 rfl 1 rfl ?_
      obtain ⟨v10, M9, e, h⟩ := bindP_some h
      refine ca_X12_194 e dX12_connect_39 (Nat.le_of_ble_eq_true rfl) (by decide) ?_
      refine v_istore_n (ls' := [(3, .int v10), (0, .ref l0), (1, .int l1), (2, .int l2)]) dX12_connect_42 rfl (by decide) rfl ?_
      refine v_sub [1, 2, 3] rfl ?_
      exact w_X12_connect_J43 l0 l1 l2 M9 h
  · replace h := ifP c12 h
    refine v_aload_n dX12_connect_12 rfl 0 rfl ?_
    refine v_iconst (v := 1) dX12_connect_13 ci_1 ?_
    obtain ⟨v5, M4, e, h⟩ := bindP_some h
    refine ca_X12_86 e dX12_connect_14 (Nat.le_of_ble_eq_true rfl) (by decide) ?_
    cases h
    exact v_ireturn dX12_connect_17
theorem kd_X12_connect {l0 : Nat} {l1 : Int32} {l2 : Int32} {M : Mem} {z : _} (h : f_X12_connect l0 l1 l2 M = some z) : (mK M l0).1 = 12 := by
  unfold f_X12_connect at h
  exact (ifS h).1
theorem k_X12_connect {G : Gl} {l0 : Nat} {l1 : Int32} {l2 : Int32} {M MF : Mem} {r : Int32} (h : f_X12_connect l0 l1 l2 M = some (r, MF)) : CtrP G yX12_connect cX12_connect 5 (some .int) 7 182 [.ref l0, .int l1, .int l2] M (cvI r) MF :=
  ctr_of (by decide +kernel) (Nat.le_of_ble_eq_true rfl) (fun ρ => w_X12_connect l0 l1 l2 M h)
set_option maxHeartbeats 4000000 in
set_option maxRecDepth 100000 in
theorem w_X12_disconnect {G : Gl} {ρ0 : Nat → Nat} {M0 MF : Mem} {r : Int32} (l0 : Nat) (l1 : Int32) (M : Mem) (h : f_X12_disconnect l0 l1 M = some (r, MF)) : V G (RX12, cX12_disconnect, (some .int), 6, 140, 2, "disconnect", []) (ρ0, M0, cvI r, MF) 0 [(0, .ref l0), (1, .int l1)] [] M := by
  unfold f_X12_disconnect at h
  replace h := (ifS h).2
  refine v_aload_n dX12_disconnect_0 rfl 0 rfl ?_
  refine v_iconst (v := 0) dX12_disconnect_1 ci_0 ?_
  obtain ⟨M1, e, h⟩ := bind_some h
  refine pt_X12_52 e dX12_disconnect_2 ?_
  refine v_iload_n dX12_disconnect_5 rfl 1 rfl ?_
  obtain ⟨v3, M2, e, h⟩ := bindP_some h
  refine ca_X12_191 e dX12_disconnect_6 (Nat.le_of_ble_eq_true rfl) (by decide) ?_
  refine v_if_ne (tgt := 18) dX12_disconnect_9 (by decide) (fun c12 => ?_) (fun c12 => ?_)
  · replace h := ifN c12 h
    refine v_aload_n dX12_disconnect_18 rfl 0 rfl ?_
    refine v_iload_n dX12_disconnect_19 rfl 1 rfl ?_
    obtain ⟨v5, M4, e, h⟩ := bindP_some h
    refine ca_X12_107 e dX12_disconnect_20 (Nat.le_of_ble_eq_true rfl) (by decide) ?_
    refine v_if_ne (tgt := 32) dX12_disconnect_23 (by decide) (fun c11 => ?_) (fun c11 => ?_)
    · replace h := ifN c11 h
      refine v_aload_n dX12_disconnect_32 rfl 0 rfl ?_
      obtain ⟨v6, e, h⟩ := bind_some h
      refine gt_X12_9 e dX12_disconnect_33 ?_
      refine v_bipush (v := 74) dX12_disconnect_36 cb_74 ?_
      refine v_iload_n dX12_disconnect_38 rfl 1 rfl ?_
      refine v_iadd dX12_disconnect_39 ?_
      refine v_iconst (v := 0) dX12_disconnect_40 ci_0 ?_
      obtain ⟨M7, e, h⟩ := bind_some h
      refine v_iastore dX12_disconnect_41 e ?_
      refine v_aload_n dX12_disconnect_42 rfl 0 rfl ?_
      refine v_iload_n dX12_disconnect_43 rfl 1 rfl ?_
      obtain ⟨M8, e, h⟩ := bind_some h
      refine ca_X12_184 e dX12_disconnect_44 (Nat.le_of_ble_eq_true rfl) (by decide) ?_
      refine v_aload_n dX12_disconnect_47 rfl 0 rfl ?_
      obtain ⟨v9, e, h⟩ := bind_some h
      refine gt_X12_9 e dX12_disconnect_48 ?_
      refine v_bipush (v := 20) dX12_disconnect_51 cb_20 ?_
      refine v_iload_n dX12_disconnect_53 rfl 1 rfl ?_
      refine v_iadd dX12_disconnect_54 ?_
      obtain ⟨v10, e, h⟩ := bind_some h
      refine v_iaload dX12_disconnect_55 e ?_
      cases h
      exact v_ireturn dX12_disconnect_56
    · replace h := ifP c11 h
      refine v_aload_n dX12_disconnect_26 rfl 0 rfl ?_
      refine v_iconst (v := 2) dX12_disconnect_27 ci_2 ?_
      obtain ⟨v7, M6, e, h⟩ := bindP_some h
      refine ca_X12_86 e dX12_disconnect_28 (Nat.le_of_ble_eq_true rfl) (by decide) ?_
      cases h
      exact v_ireturn dX12_disconnect_31
  · replace h := ifP c12 h
    refine v_aload_n dX12_disconnect_12 rfl 0 rfl ?_
    refine v_iconst (v := 1) dX12_disconnect_13 ci_1 ?_
    obtain ⟨v5, M4, e, h⟩ := bindP_some h
    refine ca_X12_86 e dX12_disconnect_14 (Nat.le_of_ble_eq_true rfl) (by decide) ?_
    cases h
    exact v_ireturn dX12_disconnect_17
theorem kd_X12_disconnect {l0 : Nat} {l1 : Int32} {M : Mem} {z : _} (h : f_X12_disconnect l0 l1 M = some z) : (mK M l0).1 = 12 := by
  unfold f_X12_disconnect at h
  exact (ifS h).1
theorem k_X12_disconnect {G : Gl} {l0 : Nat} {l1 : Int32} {M MF : Mem} {r : Int32} (h : f_X12_disconnect l0 l1 M = some (r, MF)) : CtrP G yX12_disconnect cX12_disconnect 2 (some .int) 6 140 [.ref l0, .int l1] M (cvI r) MF :=
  ctr_of (by decide +kernel) (Nat.le_of_ble_eq_true rfl) (fun ρ => w_X12_disconnect l0 l1 M h)
set_option maxHeartbeats 4000000 in
set_option maxRecDepth 100000 in
theorem w_X12_breakConnection {G : Gl} {ρ0 : Nat → Nat} {M0 MF : Mem} {r : Int32} (l0 : Nat) (l1 : Int32) (M : Mem) (h : f_X12_breakConnection l0 l1 M = some (r, MF)) : V G (RX12, cX12_breakConnection, (some .int), 7, 182, 2, "breakConnection", []) (ρ0, M0, cvI r, MF) 0 [(0, .ref l0), (1, .int l1)] [] M := by
  unfold f_X12_breakConnection at h
  replace h := (ifS h).2
  refine v_aload_n dX12_breakConnection_0 rfl 0 rfl ?_
  refine v_iconst (v := 0) dX12_breakConnection_1 ci_0 ?_
  obtain ⟨M1, e, h⟩ := bind_some h
  refine pt_X12_52 e dX12_breakConnection_2 ?_
  refine v_iload_n dX12_breakConnection_5 rfl 1 rfl ?_
  obtain ⟨v3, M2, e, h⟩ := bindP_some h
  refine ca_X12_191 e dX12_breakConnection_6 (Nat.le_of_ble_eq_true rfl) (by decide) ?_
  refine v_if_ne (tgt := 18) dX12_breakConnection_9 (by decide) (fun c9 => ?_) (fun c9 => ?_)
  · replace h := ifN c9 h
    refine v_aload_n dX12_breakConnection_18 rfl 0 rfl ?_
    refine v_iload_n dX12_breakConnection_19 rfl 1 rfl ?_
    obtain ⟨v5, M4, e, h⟩ := bindP_some h
    refine ca_X12_107 e dX12_breakConnection_20 (Nat.le_of_ble_eq_true rfl) (by decide) ?_
    refine v_if_eq (tgt := 34) dX12_breakConnection_23 (by decide) (fun c8 => ?_) (fun c8 => ?_)
    · replace h := ifP c8 h
      refine v_aload_n dX12_breakConnection_34 rfl 0 rfl ?_
      refine v_iconst (v := 2) dX12_breakConnection_35 ci_2 ?_
      obtain ⟨v7, M6, e, h⟩ := bindP_some h
      refine ca_X12_86 e dX12_breakConnection_36 (Nat.le_of_ble_eq_true rfl) (by decide) ?_
      cases h
      exact v_ireturn dX12_breakConnection_39
    · replace h := ifN c8 h
      refine v_aload_n dX12_breakConnection_26 rfl 0 rfl ?_
      refine v_iload_n dX12_breakConnection_27 rfl 1 rfl ?_
      obtain ⟨v7, M6, e, h⟩ := bindP_some h
      refine ca_X12_194 e dX12_breakConnection_28 (Nat.le_of_ble_eq_true rfl) (by decide) ?_
      refine v_goto (tgt := 39) dX12_breakConnection_31 (by decide) ?_
      cases h
      exact v_ireturn dX12_breakConnection_39
  · replace h := ifP c9 h
    refine v_aload_n dX12_breakConnection_12 rfl 0 rfl ?_
    refine v_iconst (v := 1) dX12_breakConnection_13 ci_1 ?_
    obtain ⟨v5, M4, e, h⟩ := bindP_some h
    refine ca_X12_86 e dX12_breakConnection_14 (Nat.le_of_ble_eq_true rfl) (by decide) ?_
    cases h
    exact v_ireturn dX12_breakConnection_17
theorem kd_X12_breakConnection {l0 : Nat} {l1 : Int32} {M : Mem} {z : _} (h : f_X12_breakConnection l0 l1 M = some z) : (mK M l0).1 = 12 := by
  unfold f_X12_breakConnection at h
  exact (ifS h).1
theorem k_X12_breakConnection {G : Gl} {l0 : Nat} {l1 : Int32} {M MF : Mem} {r : Int32} (h : f_X12_breakConnection l0 l1 M = some (r, MF)) : CtrP G yX12_breakConnection cX12_breakConnection 2 (some .int) 7 182 [.ref l0, .int l1] M (cvI r) MF :=
  ctr_of (by decide +kernel) (Nat.le_of_ble_eq_true rfl) (fun ρ => w_X12_breakConnection l0 l1 M h)
set_option maxHeartbeats 4000000 in
set_option maxRecDepth 100000 in
theorem w_X12_failsUnread {G : Gl} {ρ0 : Nat → Nat} {M0 MF : Mem} {r : Int32} (l0 : Nat) (l1 : Int32) (M : Mem) (h : f_X12_failsUnread l0 l1 M = some (r, MF)) : V G (RX12, cX12_failsUnread, (some .int), 1, 21, 2, "failsUnread", []) (ρ0, M0, cvI r, MF) 0 [(0, .ref l0), (1, .int l1)] [] M := by
  unfold f_X12_failsUnread at h
  replace h := (ifS h).2
  refine v_aload_n dX12_failsUnread_0 rfl 0 rfl ?_
  refine v_iconst (v := 0) dX12_failsUnread_1 ci_0 ?_
  obtain ⟨M1, e, h⟩ := bind_some h
  refine pt_X12_59 e dX12_failsUnread_2 ?_
  refine v_aload_n dX12_failsUnread_5 rfl 0 rfl ?_
  refine v_iload_n dX12_failsUnread_6 rfl 1 rfl ?_
  obtain ⟨v3, M2, e, h⟩ := bindP_some h
  refine ca_X12_86 e dX12_failsUnread_7 (Nat.le_of_ble_eq_true rfl) (by decide) ?_
  cases h
  exact v_ireturn dX12_failsUnread_10
theorem kd_X12_failsUnread {l0 : Nat} {l1 : Int32} {M : Mem} {z : _} (h : f_X12_failsUnread l0 l1 M = some z) : (mK M l0).1 = 12 := by
  unfold f_X12_failsUnread at h
  exact (ifS h).1
theorem k_X12_failsUnread {G : Gl} {l0 : Nat} {l1 : Int32} {M MF : Mem} {r : Int32} (h : f_X12_failsUnread l0 l1 M = some (r, MF)) : CtrP G yX12_failsUnread cX12_failsUnread 2 (some .int) 1 21 [.ref l0, .int l1] M (cvI r) MF :=
  ctr_of (by decide +kernel) (Nat.le_of_ble_eq_true rfl) (fun ρ => w_X12_failsUnread l0 l1 M h)
theorem wd_X12_200 : wdV RX12 200 RX12 yX12_failsUnread cX12_failsUnread 2 (some .int) 1 := ⟨gwi 1412 (by decide +kernel) (by decide +kernel), gwi 1414 (by decide +kernel) (by decide +kernel), gwi 55 (by decide +kernel) (by decide +kernel), nw_X12, gwi 1415 (by decide +kernel) (by decide +kernel), ⟨rfl, by decide +kernel, by decide +kernel, by decide +kernel⟩⟩
theorem ca_X12_200 {G : Gl} {B : Bx} {cc : ByteArray} {ret : Option FieldType} {fr lo nL : Nat} {mn : String} {hh : List (Nat × Nat × Nat × Nat)} {pc : Nat} {ls : List (Nat × Value)} {st : List Value} {M M1 : Mem} {l0 : Nat} {l1 : Int32} {x : Int32} (e : f_X12_failsUnread l0 l1 M = some (x, M1)) (hd : decode cc pc = .ok (.invokevirtual 200, 3)) (hcat : (st.map fun v => v.category).sum ≤ 8) (hR : 1 + 1 ≤ fr ∧ 8 + (2 + 11) + 21 ≤ lo) (k : V G (RX12, cc, ret, fr, lo, nL, mn, hh) B (pc + 3) ls (.int x :: st) M1) : V G (RX12, cc, ret, fr, lo, nL, mn, hh) B pc ls (.int l1 :: .ref l0 :: st) M := v_callVi (As := [.int l1]) (k_X12_failsUnread e) wd_X12_200 clX12 (kd_X12_failsUnread e) hd rfl rfl hcat hR k
set_option maxHeartbeats 4000000 in
set_option maxRecDepth 100000 in
theorem w_X12_setWill_J115 {G : Gl} {ρ0 : Nat → Nat} {M0 MF : Mem} {r : Int32} (l0 : Nat) (l1 : Int32) (l4 : Int32) (l5 : Int32) (s0 : Int32) (s1 : Int32) (s2 : Nat) (M : Mem) (h : f_X12_setWill_J115 l0 l1 l4 l5 s0 s1 s2 M = some (r, MF)) : V G (RX12, cX12_setWill, (some .int), 4, 93, 6, "setWill", []) (ρ0, M0, cvI r, MF) 115 [(0, .ref l0), (1, .int l1), (4, .int l4), (5, .int l5)] [.int s0, .int s1, .ref s2] M := by
  unfold f_X12_setWill_J115 at h
  obtain ⟨M1, e, h⟩ := bind_some h
  refine v_iastore dX12_setWill_115 e ?_
  refine v_aload_n dX12_setWill_116 rfl 0 rfl ?_
  obtain ⟨v2, e, h⟩ := bind_some h
  refine gt_X12_9 e dX12_setWill_117 ?_
  refine v_bipush (v := 98) dX12_setWill_120 cb_98 ?_
  refine v_iload_n dX12_setWill_122 rfl 1 rfl ?_
  refine v_iadd dX12_setWill_123 ?_
  refine v_iload dX12_setWill_124 2 rfl ?_
  obtain ⟨M3, e, h⟩ := bind_some h
  refine v_iastore dX12_setWill_126 e ?_
  refine v_aload_n dX12_setWill_127 rfl 0 rfl ?_
  obtain ⟨v4, e, h⟩ := bind_some h
  refine gt_X12_37 e dX12_setWill_128 ?_
  refine v_iconst (v := 0) dX12_setWill_131 ci_0 ?_
  refine v_aload_n dX12_setWill_132 rfl 0 rfl ?_
  obtain ⟨v5, e, h⟩ := bind_some h
  refine gt_X12_13 e dX12_setWill_133 ?_
  refine v_iconst (v := 0) dX12_setWill_136 ci_0 ?_
  refine v_iconst (v := 4) dX12_setWill_137 ci_4 ?_
  refine v_iload_n dX12_setWill_138 rfl 1 rfl ?_
  refine v_imul dX12_setWill_139 ?_
  refine v_iadd dX12_setWill_140 ?_
  obtain ⟨M6, e, h⟩ := bind_some h
  refine ca_X12_97 e dX12_setWill_141 (Nat.le_of_ble_eq_true rfl) (by decide) ?_
  refine v_iload dX12_setWill_144 3 rfl ?_
  cases h
  exact v_ireturn dX12_setWill_146
set_option maxHeartbeats 4000000 in
set_option maxRecDepth 100000 in
theorem w_X12_setWill_J47 {G : Gl} {ρ0 : Nat → Nat} {M0 MF : Mem} {r : Int32} (l0 : Nat) (M : Mem) (h : f_X12_setWill_J47 l0 M = some (r, MF)) : V G (RX12, cX12_setWill, (some .int), 4, 93, 6, "setWill", []) (ρ0, M0, cvI r, MF) 47 [(0, .ref l0)] [] M := by
  unfold f_X12_setWill_J47 at h
  refine v_aload_n dX12_setWill_47 rfl 0 rfl ?_
  refine v_iconst (v := 2) dX12_setWill_48 ci_2 ?_
  obtain ⟨v2, M1, e, h⟩ := bindP_some h
  refine ca_X12_86 e dX12_setWill_49 (Nat.le_of_ble_eq_true rfl) (by decide) ?_
  cases h
  exact v_ireturn dX12_setWill_52
set_option maxHeartbeats 4000000 in
set_option maxRecDepth 100000 in
theorem w_X12_setWill {G : Gl} {ρ0 : Nat → Nat} {M0 MF : Mem} {r : Int32} (l0 : Nat) (l1 : Int32) (l2 : Int32) (l3 : Int32) (l4 : Int32) (M : Mem) (h : f_X12_setWill l0 l1 l2 l3 l4 M = some (r, MF)) : V G (RX12, cX12_setWill, (some .int), 4, 93, 6, "setWill", []) (ρ0, M0, cvI r, MF) 0 [(0, .ref l0), (1, .int l1), (2, .int l2), (3, .int l3), (4, .int l4)] [] M := by
  unfold f_X12_setWill at h
  replace h := (ifS h).2
  refine v_aload_n dX12_setWill_0 rfl 0 rfl ?_
  refine v_iconst (v := 0) dX12_setWill_1 ci_0 ?_
  obtain ⟨M1, e, h⟩ := bind_some h
  refine pt_X12_52 e dX12_setWill_2 ?_
  refine v_iload_n dX12_setWill_5 rfl 1 rfl ?_
  obtain ⟨v3, M2, e, h⟩ := bindP_some h
  refine ca_X12_191 e dX12_setWill_6 (Nat.le_of_ble_eq_true rfl) (by decide) ?_
  refine v_if_ne (tgt := 18) dX12_setWill_9 (by decide) (fun c24 => ?_) (fun c24 => ?_)
  · replace h := ifN c24 h
    refine v_aload_n dX12_setWill_18 rfl 0 rfl ?_
    refine v_iconst (v := 0) dX12_setWill_19 ci_0 ?_
    obtain ⟨v5, M4, e, h⟩ := bindP_some h
    refine ca_X12_203 e dX12_setWill_20 (Nat.le_of_ble_eq_true rfl) (by decide) ?_
    refine v_if_eq (tgt := 47) dX12_setWill_23 (by decide) (fun c23 => ?_) (fun c23 => ?_)
    · replace h := ifP c23 h
      refine v_sub [0] rfl ?_
      exact w_X12_setWill_J47 l0 M4 h
    · replace h := ifN c23 h
      refine v_iload_n dX12_setWill_26 rfl 2 rfl ?_
      refine v_iconst (v := 0) dX12_setWill_27 ci_0 ?_
      refine v_iconst (v := 2) dX12_setWill_28 ci_2 ?_
      obtain ⟨v7, M6, e, h⟩ := bindP_some h
      refine ca_X12_55 e dX12_setWill_29 (Nat.le_of_ble_eq_true rfl) (by decide) ?_
      refine v_if_eq (tgt := 47) dX12_setWill_32 (by decide) (fun c22 => ?_) (fun c22 => ?_)
      · replace h := ifP c22 h
        refine v_sub [0] rfl ?_
        exact w_X12_setWill_J47 l0 M6 h
      · replace h := ifN c22 h
        refine v_iload dX12_setWill_35 4 rfl ?_
        refine v_iconst (v := 0) dX12_setWill_37 ci_0 ?_
        refine v_sipush (v := 9999) dX12_setWill_38 cs_9999 ?_
        obtain ⟨v9, M8, e, h⟩ := bindP_some h
        refine ca_X12_55 e dX12_setWill_41 (Nat.le_of_ble_eq_true rfl) (by decide) ?_
        refine v_if_ne (tgt := 53) dX12_setWill_44 (by decide) (fun c21 => ?_) (fun c21 => ?_)
        · replace h := ifN c21 h
          refine v_aload_n dX12_setWill_53 rfl 0 rfl ?_
          refine v_iload_n dX12_setWill_54 rfl 1 rfl ?_
          obtain ⟨v11, M10, e, h⟩ := bindP_some h
          refine ca_X12_107 e dX12_setWill_55 (Nat.le_of_ble_eq_true rfl) (by decide) ?_
          refine v_if_ne (tgt := 67) dX12_setWill_58 (by decide) (fun c20 => ?_) (fun c20 => ?_)
          · replace h := ifN c20 h
            refine v_aload_n dX12_setWill_67 rfl 0 rfl ?_
            obtain ⟨v12, e, h⟩ := bind_some h
            refine gt_X12_9 e dX12_setWill_68 ?_
            refine v_bipush (v := 74) dX12_setWill_71 cb_74 ?_
            refine v_iload_n dX12_setWill_73 rfl 1 rfl ?_
            refine v_iadd dX12_setWill_74 ?_
            obtain ⟨v13, e, h⟩ := bind_some h
            refine v_iaload dX12_setWill_75 e ?_
            refine v_istore (ls' := [(5, .int v13), (0, .ref l0), (1, .int l1), (2, .int l2), (3, .int l3), (4, .int l4)]) dX12_setWill_76 (by decide) rfl ?_
            refine v_aload_n dX12_setWill_78 rfl 1 rfl ?_
            obtain ⟨v14, e, h⟩ := bind_some h
            refine gt_X12_9 e dX12_setWill_79 ?_
            refine v_bipush (v := 74) dX12_setWill_82 cb_74 ?_
            refine v_iload_n dX12_setWill_84 rfl 2 rfl ?_
            refine v_iadd dX12_setWill_85 ?_
            refine v_iconst (v := 1) dX12_setWill_86 ci_1 ?_
            obtain ⟨M15, e, h⟩ := bind_some h
            refine v_iastore dX12_setWill_87 e ?_
            refine v_aload_n dX12_setWill_88 rfl 1 rfl ?_
            obtain ⟨v16, e, h⟩ := bind_some h
            refine gt_X12_9 e dX12_setWill_89 ?_
            refine v_bipush (v := 86) dX12_setWill_92 cb_86 ?_
            refine v_iload_n dX12_setWill_94 rfl 2 rfl ?_
            refine v_iadd dX12_setWill_95 ?_
            refine v_iload_n dX12_setWill_96 rfl 3 rfl ?_
            obtain ⟨M17, e, h⟩ := bind_some h
            refine v_iastore dX12_setWill_97 e ?_
            refine v_aload_n dX12_setWill_98 rfl 1 rfl ?_
            obtain ⟨v18, e, h⟩ := bind_some h
            refine gt_X12_9 e dX12_setWill_99 ?_
            refine v_bipush (v := 92) dX12_setWill_102 cb_92 ?_
            refine v_iload_n dX12_setWill_104 rfl 2 rfl ?_
            refine v_iadd dX12_setWill_105 ?_
            refine v_iload_n dX12_setWill_106 rfl 4 rfl ?_
            refine v_if_eq (tgt := 114) dX12_setWill_107 (by decide) (fun c19 => ?_) (fun c19 => ?_)
            · replace h := ifP c19 h
              refine v_iconst (v := 0) dX12_setWill_114 ci_0 ?_
              refine v_sub [1, 2, 5, 0] rfl ?_
              exact w_X12_setWill_J115 l0 l1 l4 v13 (0 : Int32) ((92 : Int32) + l1) v18 M17 h
            · replace h := ifN c19 h
              refine v_iconst (v := 1) dX12_setWill_110 ci_1 ?_
              refine v_goto (tgt := 115) dX12_setWill_111 (by decide) ?_
              refine v_sub [1, 2, 5, 0] rfl ?_
              exact w_X12_setWill_J115 l0 l1 l4 v13 (1 : Int32) ((92 : Int32) + l1) v18 M17 h
          · replace h := ifP c20 h
            refine v_aload_n dX12_setWill_61 rfl 0 rfl ?_
            refine v_iconst (v := 3) dX12_setWill_62 ci_3 ?_
            obtain ⟨v13, M12, e, h⟩ := bindP_some h
            refine ca_X12_86 e dX12_setWill_63 (Nat.le_of_ble_eq_true rfl) (by decide) ?_
            cases h
            exact v_ireturn dX12_setWill_66
        · replace h := ifP c21 h
          refine v_sub [0] rfl ?_
          exact w_X12_setWill_J47 l0 M8 h
  · replace h := ifP c24 h
    refine v_aload_n dX12_setWill_12 rfl 0 rfl ?_
    refine v_iconst (v := 1) dX12_setWill_13 ci_1 ?_
    obtain ⟨v5, M4, e, h⟩ := bindP_some h
    refine ca_X12_200 e dX12_setWill_14 (Nat.le_of_ble_eq_true rfl) (by decide) ?_
    cases h
    exact v_ireturn dX12_setWill_17
theorem kd_X12_setWill {l0 : Nat} {l1 : Int32} {l2 : Int32} {l3 : Int32} {l4 : Int32} {M : Mem} {z : _} (h : f_X12_setWill l0 l1 l2 l3 l4 M = some z) : (mK M l0).1 = 12 := by
  unfold f_X12_setWill at h
  exact (ifS h).1
theorem k_X12_setWill {G : Gl} {l0 : Nat} {l1 : Int32} {l2 : Int32} {l3 : Int32} {l4 : Int32} {M MF : Mem} {r : Int32} (h : f_X12_setWill l0 l1 l2 l3 l4 M = some (r, MF)) : CtrP G yX12_setWill cX12_setWill 6 (some .int) 4 93 [.ref l0, .int l1, .int l2, .int l3, .int l4] M (cvI r) MF :=
  ctr_of (by decide +kernel) (Nat.le_of_ble_eq_true rfl) (fun ρ => w_X12_setWill l0 l1 l2 l3 l4 M h)
set_option maxHeartbeats 4000000 in
set_option maxRecDepth 100000 in
theorem w_X12_sessionState {G : Gl} {ρ0 : Nat → Nat} {M0 MF : Mem} {r : Int32} (l0 : Nat) (l1 : Int32) (M : Mem) (h : f_X12_sessionState l0 l1 M = some (r, MF)) : V G (RX12, cX12_sessionState, (some .int), 2, 42, 2, "sessionState", []) (ρ0, M0, cvI r, MF) 0 [(0, .ref l0), (1, .int l1)] [] M := by
  unfold f_X12_sessionState at h
  replace h := (ifS h).2
  refine v_aload_n dX12_sessionState_0 rfl 0 rfl ?_
  refine v_iconst (v := 0) dX12_sessionState_1 ci_0 ?_
  obtain ⟨M1, e, h⟩ := bind_some h
  refine pt_X12_52 e dX12_sessionState_2 ?_
  refine v_iload_n dX12_sessionState_5 rfl 1 rfl ?_
  obtain ⟨v3, M2, e, h⟩ := bindP_some h
  refine ca_X12_191 e dX12_sessionState_6 (Nat.le_of_ble_eq_true rfl) (by decide) ?_
  refine v_if_ne (tgt := 18) dX12_sessionState_9 (by decide) (fun c13 => ?_) (fun c13 => ?_)
  · replace h := ifN c13 h
    refine v_aload_n dX12_sessionState_18 rfl 0 rfl ?_
    obtain ⟨v4, e, h⟩ := bind_some h
    refine gt_X12_9 e dX12_sessionState_19 ?_
    refine v_bipush (v := 20) dX12_sessionState_22 cb_20 ?_
    refine v_iload_n dX12_sessionState_24 rfl 1 rfl ?_
    refine v_iadd dX12_sessionState_25 ?_
    obtain ⟨v5, e, h⟩ := bind_some h
    refine v_iaload dX12_sessionState_26 e ?_
    refine v_if_ne (tgt := 34) dX12_sessionState_27 (by decide) (fun c12 => ?_) (fun c12 => ?_)
    · replace h := ifN c12 h
      refine v_aload_n dX12_sessionState_34 rfl 0 rfl ?_
      refine v_iload_n dX12_sessionState_35 rfl 1 rfl ?_
      obtain ⟨v7, M6, e, h⟩ := bindP_some h
      refine ca_X12_107 e dX12_sessionState_36 (Nat.le_of_ble_eq_true rfl) (by decide) ?_
      refine v_if_ne (tgt := 46) dX12_sessionState_39 (by decide) (fun c11 => ?_) (fun c11 => ?_)
      · replace h := ifN c11 h
        refine v_aload_n dX12_sessionState_46 rfl 0 rfl ?_
        obtain ⟨v8, e, h⟩ := bind_some h
        refine gt_X12_9 e dX12_sessionState_47 ?_
        refine v_bipush (v := 26) dX12_sessionState_50 cb_26 ?_
        refine v_iload_n dX12_sessionState_52 rfl 1 rfl ?_
        refine v_iadd dX12_sessionState_53 ?_
        obtain ⟨v9, e, h⟩ := bind_some h
        refine v_iaload dX12_sessionState_54 e ?_
        refine v_if_ne (tgt := 62) dX12_sessionState_55 (by decide) (fun c10 => ?_) (fun c10 => ?_)
        · replace h := ifN c10 h
          refine v_iconst (v := 3) dX12_sessionState_62 ci_3 ?_
          cases h
          exact v_ireturn dX12_sessionState_63
        · replace h := ifP c10 h
          refine v_iconst (v := 2) dX12_sessionState_58 ci_2 ?_
          refine v_goto (tgt := 63) dX12_sessionState_59 (by decide) ?_
          cases h
          exact v_ireturn dX12_sessionState_63
      · replace h := ifP c11 h
        refine v_iconst (v := 1) dX12_sessionState_42 ci_1 ?_
        refine v_goto (tgt := 63) dX12_sessionState_43 (by decide) ?_
        cases h
        exact v_ireturn dX12_sessionState_63
    · replace h := ifP c12 h
      refine v_iconst (v := 0) dX12_sessionState_30 ci_0 ?_
      refine v_goto (tgt := 63) dX12_sessionState_31 (by decide) ?_
      cases h
      exact v_ireturn dX12_sessionState_63
  · replace h := ifP c13 h
    refine v_aload_n dX12_sessionState_12 rfl 0 rfl ?_
    refine v_iconst (v := 1) dX12_sessionState_13 ci_1 ?_
    obtain ⟨v5, M4, e, h⟩ := bindP_some h
    refine ca_X12_86 e dX12_sessionState_14 (Nat.le_of_ble_eq_true rfl) (by decide) ?_
    cases h
    exact v_ireturn dX12_sessionState_17
theorem kd_X12_sessionState {l0 : Nat} {l1 : Int32} {M : Mem} {z : _} (h : f_X12_sessionState l0 l1 M = some z) : (mK M l0).1 = 12 := by
  unfold f_X12_sessionState at h
  exact (ifS h).1
theorem k_X12_sessionState {G : Gl} {l0 : Nat} {l1 : Int32} {M MF : Mem} {r : Int32} (h : f_X12_sessionState l0 l1 M = some (r, MF)) : CtrP G yX12_sessionState cX12_sessionState 2 (some .int) 2 42 [.ref l0, .int l1] M (cvI r) MF :=
  ctr_of (by decide +kernel) (Nat.le_of_ble_eq_true rfl) (fun ρ => w_X12_sessionState l0 l1 M h)
set_option maxHeartbeats 4000000 in
set_option maxRecDepth 100000 in
theorem w_X12_placeOf_L8 {G : Gl} {ρ0 : Nat → Nat} {M0 MF : Mem} {r : Int32} : ∀ (n : Nat) (l0 : Nat) (l1 : Int32) (l2 : Int32) (l3 : Int32) (l4 : Int32) (M : Mem), f_X12_placeOf_L8 n l0 l1 l2 l3 l4 M = some (r, MF) → V G (RX12, cX12_placeOf, (some .int), 1, 25, 5, "placeOf", []) (ρ0, M0, cvI r, MF) 8 [(0, .ref l0), (1, .int l1), (2, .int l2), (3, .int l3), (4, .int l4)] [] M := by
  intro n
  induction n with
  | zero => intro l0 l1 l2 l3 l4 M h; cases h
  | succ n ih =>
    intro l0 l1 l2 l3 l4 M h
    rw [f_X12_placeOf_L8] at h
    refine v_iload dX12_placeOf_8 4 rfl ?_
    refine v_bipush (v := 6) dX12_placeOf_10 cb_6 ?_
    refine v_iload_n dX12_placeOf_12 rfl 1 rfl ?_
    refine v_imul dX12_placeOf_13 ?_
    refine v_aload_n dX12_placeOf_14 rfl 0 rfl ?_
    obtain ⟨v1, e, h⟩ := bind_some h
    refine gt_X12_9 e dX12_placeOf_15 ?_
    refine v_bipush (v := 50) dX12_placeOf_18 cb_50 ?_
    refine v_iload_n dX12_placeOf_20 rfl 1 rfl ?_
    refine v_iadd dX12_placeOf_21 ?_
    obtain ⟨v2, e, h⟩ := bind_some h
    refine v_iaload dX12_placeOf_22 e ?_
    refine v_iadd dX12_placeOf_23 ?_
    refine v_icmp_ge (tgt := 77) dX12_placeOf_24 (by decide) (fun c11 => ?_) (fun c11 => ?_)
    · replace h := ifP c11 h
      refine v_iload_n dX12_placeOf_77 rfl 3 rfl ?_
      cases h
      exact v_ireturn dX12_placeOf_78
    · replace h := ifN c11 h
      refine v_aload_n dX12_placeOf_27 rfl 0 rfl ?_
      obtain ⟨v3, e, h⟩ := bind_some h
      refine gt_X12_9 e dX12_placeOf_28 ?_
      refine v_sipush (v := 446) dX12_placeOf_31 cs_446 ?_
      refine v_iload dX12_placeOf_34 4 rfl ?_
      refine v_iadd dX12_placeOf_36 ?_
      obtain ⟨v4, e, h⟩ := bind_some h
      refine v_iaload dX12_placeOf_37 e ?_
      refine v_iload_n dX12_placeOf_38 rfl 2 rfl ?_
      refine v_icmp_ne (tgt := 69) dX12_placeOf_39 (by decide) (fun c10 => ?_) (fun c10 => ?_)
      · replace h := ifN c10 h
        refine v_iload_n dX12_placeOf_69 rfl 3 rfl ?_
        refine v_istore_n (ls' := [(3, .int l3), (0, .ref l0), (1, .int l1), (2, .int l2), (4, .int l4)]) dX12_placeOf_70 rfl (by decide) rfl ?_
        refine v_iinc (ls' := [(4, .int (l4 + 1)), (3, .int l3), (0, .ref l0), (1, .int l1), (2, .int l2)]) dX12_placeOf_71 4 rfl (v := 1) ci_1 (by decide) rfl ?_
        refine v_goto (tgt := 8) dX12_placeOf_74 (by decide) ?_
        refine v_sub [2, 3, 4, 1, 0] rfl ?_
        exact ih l0 l1 l2 l3 (l4 + 1) M h
      · replace h := ifP c10 h
        refine v_aload_n dX12_placeOf_42 rfl 0 rfl ?_
        obtain ⟨v5, e, h⟩ := bind_some h
        refine gt_X12_13 e dX12_placeOf_43 ?_
        refine v_bipush (v := 24) dX12_placeOf_46 cb_24 ?_
        refine v_iconst (v := 4) dX12_placeOf_48 ci_4 ?_
        refine v_iload dX12_placeOf_49 4 rfl ?_
        refine v_imul dX12_placeOf_51 ?_
        refine v_iadd dX12_placeOf_52 ?_
        refine v_aload_n dX12_placeOf_53 rfl 0 rfl ?_
        obtain ⟨v6, e, h⟩ := bind_some h
        refine gt_X12_37 e dX12_placeOf_54 ?_
        refine v_iconst (v := 0) dX12_placeOf_57 ci_0 ?_
        obtain ⟨v8, M7, e, h⟩ := bindP_some h
        refine ca_X12_131 e dX12_placeOf_58 (Nat.le_of_ble_eq_true rfl) (by decide) ?_
        refine v_if_eq (tgt := 69) dX12_placeOf_61 (by decide) (fun c9 => ?_) (fun c9 => ?_)
        · replace h := ifP c9 h
          refine v_iload_n dX12_placeOf_69 rfl 3 rfl ?_
          refine v_istore_n (ls' := [(3, .int l3), (0, .ref l0), (1, .int l1), (2, .int l2), (4, .int l4)]) dX12_placeOf_70 rfl (by decide) rfl ?_
          refine v_iinc (ls' := [(4, .int (l4 + 1)), (3, .int l3), (0, .ref l0), (1, .int l1), (2, .int l2)]) dX12_placeOf_71 4 rfl (v := 1) ci_1 (by decide) rfl ?_
          refine v_goto (tgt := 8) dX12_placeOf_74 (by decide) ?_
          refine v_sub [2, 3, 4, 1, 0] rfl ?_
          exact ih l0 l1 l2 l3 (l4 + 1) M7 h
        · replace h := ifN c9 h
          refine v_iload dX12_placeOf_64 4 rfl ?_
          refine v_goto (tgt := 70) dX12_placeOf_66 (by decide) ?_
          refine v_istore_n (ls' := [(3, .int l4), (0, .ref l0), (1, .int l1), (2, .int l2), (4, .int l4)]) dX12_placeOf_70 rfl (by decide) rfl ?_
          refine v_iinc (ls' := [(4, .int (l4 + 1)), (3, .int l4), (0, .ref l0), (1, .int l1), (2, .int l2)]) dX12_placeOf_71 4 rfl (v := 1) ci_1 (by decide) rfl ?_
          refine v_goto (tgt := 8) dX12_placeOf_74 (by decide) ?_
          refine v_sub [2, 3, 4, 1, 0] rfl ?_
          exact ih l0 l1 l2 l4 (l4 + 1) M7 h
set_option maxHeartbeats 4000000 in
set_option maxRecDepth 100000 in
theorem w_X12_placeOf {G : Gl} {ρ0 : Nat → Nat} {M0 MF : Mem} {r : Int32} (l0 : Nat) (l1 : Int32) (l2 : Int32) (M : Mem) (h : f_X12_placeOf l0 l1 l2 M = some (r, MF)) : V G (RX12, cX12_placeOf, (some .int), 1, 25, 5, "placeOf", []) (ρ0, M0, cvI r, MF) 0 [(0, .ref l0), (1, .int l1), (2, .int l2)] [] M := by
  unfold f_X12_placeOf at h
  replace h := (ifS h).2
  refine v_iconst (v := (-1)) dX12_placeOf_0 ci_m1 ?_
  refine v_istore_n (ls' := [(3, .int (-1 : Int32)), (0, .ref l0), (1, .int l1), (2, .int l2)]) dX12_placeOf_1 rfl (by decide) rfl ?_
  refine v_bipush (v := 6) dX12_placeOf_2 cb_6 ?_
  refine v_iload_n dX12_placeOf_4 rfl 2 rfl ?_
  refine v_imul dX12_placeOf_5 ?_
  refine v_istore (ls' := [(4, .int ((6 : Int32) * l1)), (3, .int (-1 : Int32)), (0, .ref l0), (1, .int l1), (2, .int l2)]) dX12_placeOf_6 (by decide) rfl ?_
  refine v_sub [2, 3, 4, 1, 0] rfl ?_
  exact w_X12_placeOf_L8 FU l0 l1 l2 (-1 : Int32) ((6 : Int32) * l1) M h
theorem kd_X12_placeOf {l0 : Nat} {l1 : Int32} {l2 : Int32} {M : Mem} {z : _} (h : f_X12_placeOf l0 l1 l2 M = some z) : (mK M l0).1 = 12 := by
  unfold f_X12_placeOf at h
  exact (ifS h).1
theorem k_X12_placeOf {G : Gl} {l0 : Nat} {l1 : Int32} {l2 : Int32} {M MF : Mem} {r : Int32} (h : f_X12_placeOf l0 l1 l2 M = some (r, MF)) : CtrP G yX12_placeOf cX12_placeOf 5 (some .int) 1 25 [.ref l0, .int l1, .int l2] M (cvI r) MF :=
  ctr_of (by decide +kernel) (Nat.le_of_ble_eq_true rfl) (fun ρ => w_X12_placeOf l0 l1 l2 M h)
theorem wd_X12_207 : wdV RX12 207 RX12 yX12_placeOf cX12_placeOf 5 (some .int) 2 := ⟨gwi 1436 (by decide +kernel) (by decide +kernel), gwi 1438 (by decide +kernel) (by decide +kernel), gwi 58 (by decide +kernel) (by decide +kernel), nw_X12, gwi 1439 (by decide +kernel) (by decide +kernel), ⟨rfl, by decide +kernel, by decide +kernel, by decide +kernel⟩⟩
theorem ca_X12_207 {G : Gl} {B : Bx} {cc : ByteArray} {ret : Option FieldType} {fr lo nL : Nat} {mn : String} {hh : List (Nat × Nat × Nat × Nat)} {pc : Nat} {ls : List (Nat × Value)} {st : List Value} {M M1 : Mem} {l0 : Nat} {l1 : Int32} {l2 : Int32} {x : Int32} (e : f_X12_placeOf l0 l1 l2 M = some (x, M1)) (hd : decode cc pc = .ok (.invokevirtual 207, 3)) (hcat : (st.map fun v => v.category).sum ≤ 8) (hR : 1 + 1 ≤ fr ∧ 8 + (5 + 11) + 25 ≤ lo) (k : V G (RX12, cc, ret, fr, lo, nL, mn, hh) B (pc + 3) ls (.int x :: st) M1) : V G (RX12, cc, ret, fr, lo, nL, mn, hh) B pc ls (.int l2 :: .int l1 :: .ref l0 :: st) M := v_callVi (As := [.int l1, .int l2]) (k_X12_placeOf e) wd_X12_207 clX12 (kd_X12_placeOf e) hd rfl rfl hcat hR k
set_option maxHeartbeats 4000000 in
set_option maxRecDepth 100000 in
theorem w_X12_givesRetained_L2 {G : Gl} {ρ0 : Nat → Nat} {M0 MF : Mem} {r : Unit} : ∀ (n : Nat) (l0 : Nat) (l1 : Int32) (l2 : Int32) (l3 : Int32) (M : Mem), f_X12_givesRetained_L2 n l0 l1 l2 l3 M = some MF → V G (RX12, cX12_givesRetained, none, 5, 133, 4, "givesRetained", []) (ρ0, M0, cvV r, MF) 2 [(0, .ref l0), (1, .int l1), (2, .int l2), (3, .int l3)] [] M := by
  intro n
  induction n with
  | zero => intro l0 l1 l2 l3 M h; cases h
  | succ n ih =>
    intro l0 l1 l2 l3 M h
    rw [f_X12_givesRetained_L2] at h
    refine v_iload_n dX12_givesRetained_2 rfl 3 rfl ?_
    refine v_aload_n dX12_givesRetained_3 rfl 0 rfl ?_
    obtain ⟨v1, e, h⟩ := bind_some h
    refine gt_X12_9 e dX12_givesRetained_4 ?_
    refine v_bipush (v := 15) dX12_givesRetained_7 cb_15 ?_
    obtain ⟨v2, e, h⟩ := bind_some h
    refine v_iaload dX12_givesRetained_9 e ?_
    refine v_icmp_ge (tgt := 100) dX12_givesRetained_10 (by decide) (fun c20 => ?_) (fun c20 => ?_)
    · replace h := ifP c20 h
      cases h
      exact v_vreturn dX12_givesRetained_100
    · replace h := ifN c20 h
      refine v_aload_n dX12_givesRetained_13 rfl 0 rfl ?_
      obtain ⟨v3, e, h⟩ := bind_some h
      refine gt_X12_13 e dX12_givesRetained_14 ?_
      refine v_sipush (v := 1224) dX12_givesRetained_17 cs_1224 ?_
      refine v_iconst (v := 4) dX12_givesRetained_20 ci_4 ?_
      refine v_iload_n dX12_givesRetained_21 rfl 3 rfl ?_
      refine v_imul dX12_givesRetained_22 ?_
      refine v_iadd dX12_givesRetained_23 ?_
      refine v_aload_n dX12_givesRetained_24 rfl 0 rfl ?_
      obtain ⟨v4, e, h⟩ := bind_some h
      refine gt_X12_40 e dX12_givesRetained_25 ?_
      refine v_iconst (v := 0) dX12_givesRetained_28 ci_0 ?_
      obtain ⟨M5, e, h⟩ := bind_some h
      refine ca_X12_97 e dX12_givesRetained_29 (Nat.le_of_ble_eq_true rfl) (by decide) ?_
      refine v_aload_n dX12_givesRetained_32 rfl 0 rfl ?_
      refine v_bipush (v := 24) dX12_givesRetained_33 cb_24 ?_
      refine v_iconst (v := 4) dX12_givesRetained_35 ci_4 ?_
      refine v_iload_n dX12_givesRetained_36 rfl 2 rfl ?_
      refine v_imul dX12_givesRetained_37 ?_
      refine v_iadd dX12_givesRetained_38 ?_
      refine v_aload_n dX12_givesRetained_39 rfl 0 rfl ?_
      obtain ⟨v6, e, h⟩ := bind_some h
      refine gt_X12_9 e dX12_givesRetained_40 ?_
      refine v_sipush (v := 518) dX12_givesRetained_43 cs_518 ?_
      refine v_iload_n dX12_givesRetained_46 rfl 2 rfl ?_
      refine v_iadd dX12_givesRetained_47 ?_
      obtain ⟨v7, e, h⟩ := bind_some h
      refine v_iaload dX12_givesRetained_48 e ?_
      obtain ⟨v9, M8, e, h⟩ := bindP_some h
      refine ca_X12_144 e dX12_givesRetained_49 (Nat.le_of_ble_eq_true rfl) (by decide) ?_
      refine v_if_eq (tgt := 94) dX12_givesRetained_52 (by decide) (fun c19 => ?_) (fun c19 => ?_)
      · replace h := ifP c19 h
        refine v_iinc (ls' := [(3, .int (l3 + 1)), (0, .ref l0), (1, .int l1), (2, .int l2)]) dX12_givesRetained_94 3 rfl (v := 1) ci_1 (by decide) rfl ?_
        refine v_goto (tgt := 2) dX12_givesRetained_97 (by decide) ?_
        refine v_sub [1, 2, 3, 0] rfl ?_
        exact ih l0 l1 l2 (l3 + 1) M8 h
      · replace h := ifN c19 h
        refine v_aload_n dX12_givesRetained_55 rfl 0 rfl ?_
        refine v_iload_n dX12_givesRetained_56 rfl 1 rfl ?_
        refine v_aload_n dX12_givesRetained_57 rfl 0 rfl ?_
        obtain ⟨v10, e, h⟩ := bind_some h
        refine gt_X12_9 e dX12_givesRetained_58 ?_
        refine v_sipush (v := 1778) dX12_givesRetained_61 cs_1778 ?_
        refine v_iload_n dX12_givesRetained_64 rfl 3 rfl ?_
        refine v_iadd dX12_givesRetained_65 ?_
        obtain ⟨v11, e, h⟩ := bind_some h
        refine v_iaload dX12_givesRetained_66 e ?_
        refine v_aload_n dX12_givesRetained_67 rfl 0 rfl ?_
        obtain ⟨v12, e, h⟩ := bind_some h
        refine gt_X12_9 e dX12_givesRetained_68 ?_
        refine v_sipush (v := 410) dX12_givesRetained_71 cs_410 ?_
        refine v_iload_n dX12_givesRetained_74 rfl 2 rfl ?_
        refine v_iadd dX12_givesRetained_75 ?_
        obtain ⟨v13, e, h⟩ := bind_some h
        refine v_iaload dX12_givesRetained_76 e ?_
        obtain ⟨v15, M14, e, h⟩ := bindP_some h
        refine ca_X12_160 e dX12_givesRetained_77 (Nat.le_of_ble_eq_true rfl) (by decide) ?_
        refine v_aload_n dX12_givesRetained_80 rfl 0 rfl ?_
        obtain ⟨v16, e, h⟩ := bind_some h
        refine gt_X12_9 e dX12_givesRetained_81 ?_
        refine v_sipush (v := 1786) dX12_givesRetained_84 cs_1786 ?_
        refine v_iload_n dX12_givesRetained_87 rfl 3 rfl ?_
        refine v_iadd dX12_givesRetained_88 ?_
        obtain ⟨v17, e, h⟩ := bind_some h
        refine v_iaload dX12_givesRetained_89 e ?_
        refine v_iconst (v := 1) dX12_givesRetained_90 ci_1 ?_
        obtain ⟨M18, e, h⟩ := bind_some h
        refine ca_X12_163 e dX12_givesRetained_91 (Nat.le_of_ble_eq_true rfl) (by decide) ?_
        refine v_iinc (ls' := [(3, .int (l3 + 1)), (0, .ref l0), (1, .int l1), (2, .int l2)]) dX12_givesRetained_94 3 rfl (v := 1) ci_1 (by decide) rfl ?_
        refine v_goto (tgt := 2) dX12_givesRetained_97 (by decide) ?_
        refine v_sub [1, 2, 3, 0] rfl ?_
        exact ih l0 l1 l2 (l3 + 1) M18 h
set_option maxHeartbeats 4000000 in
set_option maxRecDepth 100000 in
theorem w_X12_givesRetained {G : Gl} {ρ0 : Nat → Nat} {M0 MF : Mem} {r : Unit} (l0 : Nat) (l1 : Int32) (l2 : Int32) (M : Mem) (h : f_X12_givesRetained l0 l1 l2 M = some MF) : V G (RX12, cX12_givesRetained, none, 5, 133, 4, "givesRetained", []) (ρ0, M0, cvV r, MF) 0 [(0, .ref l0), (1, .int l1), (2, .int l2)] [] M := by
  unfold f_X12_givesRetained at h
  replace h := (ifS h).2
  refine v_iconst (v := 0) dX12_givesRetained_0 ci_0 ?_
  refine v_istore_n (ls' := [(3, .int (0 : Int32)), (0, .ref l0), (1, .int l1), (2, .int l2)]) dX12_givesRetained_1 rfl (by decide) rfl ?_
  refine v_sub [1, 2, 3, 0] rfl ?_
  exact w_X12_givesRetained_L2 FU l0 l1 l2 (0 : Int32) M h
theorem kd_X12_givesRetained {l0 : Nat} {l1 : Int32} {l2 : Int32} {M : Mem} {z : _} (h : f_X12_givesRetained l0 l1 l2 M = some z) : (mK M l0).1 = 12 := by
  unfold f_X12_givesRetained at h
  exact (ifS h).1
theorem k_X12_givesRetained {G : Gl} {l0 : Nat} {l1 : Int32} {l2 : Int32} {M MF : Mem} (h : f_X12_givesRetained l0 l1 l2 M = some MF) : CtrP G yX12_givesRetained cX12_givesRetained 4 none 5 133 [.ref l0, .int l1, .int l2] M (cvV ()) MF :=
  ctr_of (by decide +kernel) (Nat.le_of_ble_eq_true rfl) (fun ρ => w_X12_givesRetained (r := ()) l0 l1 l2 M h)
theorem wd_X12_213 : wdV RX12 213 RX12 yX12_givesRetained cX12_givesRetained 4 none 2 := ⟨gwi 1444 (by decide +kernel) (by decide +kernel), gwi 1446 (by decide +kernel) (by decide +kernel), gwi 60 (by decide +kernel) (by decide +kernel), nw_X12, gwi 1447 (by decide +kernel) (by decide +kernel), ⟨rfl, by decide +kernel, by decide +kernel, by decide +kernel⟩⟩
theorem ca_X12_213 {G : Gl} {B : Bx} {cc : ByteArray} {ret : Option FieldType} {fr lo nL : Nat} {mn : String} {hh : List (Nat × Nat × Nat × Nat)} {pc : Nat} {ls : List (Nat × Value)} {st : List Value} {M M1 : Mem} {l0 : Nat} {l1 : Int32} {l2 : Int32} (e : f_X12_givesRetained l0 l1 l2 M = some M1) (hd : decode cc pc = .ok (.invokevirtual 213, 3)) (hcat : (st.map fun v => v.category).sum ≤ 8) (hR : 5 + 1 ≤ fr ∧ 8 + (4 + 11) + 133 ≤ lo) (k : V G (RX12, cc, ret, fr, lo, nL, mn, hh) B (pc + 3) ls (st) M1) : V G (RX12, cc, ret, fr, lo, nL, mn, hh) B pc ls (.int l2 :: .int l1 :: .ref l0 :: st) M := v_callV0 (As := [.int l1, .int l2]) (k_X12_givesRetained e) wd_X12_213 clX12 (kd_X12_givesRetained e) hd rfl rfl hcat hR k
set_option maxHeartbeats 4000000 in
set_option maxRecDepth 100000 in
theorem w_X12_subscribe_J290 {G : Gl} {ρ0 : Nat → Nat} {M0 MF : Mem} {r : Int32} (l0 : Nat) (l1 : Int32) (M : Mem) (h : f_X12_subscribe_J290 l0 l1 M = some (r, MF)) : V G (RX12, cX12_subscribe, (some .int), 6, 156, 7, "subscribe", []) (ρ0, M0, cvI r, MF) 290 [(0, .ref l0), (1, .int l1)] [] M := by
  unfold f_X12_subscribe_J290 at h
  refine v_aload_n dX12_subscribe_290 rfl 0 rfl ?_
  obtain ⟨v1, e, h⟩ := bind_some h
  refine gt_X12_9 e dX12_subscribe_291 ?_
  refine v_bipush (v := 50) dX12_subscribe_294 cb_50 ?_
  refine v_iload_n dX12_subscribe_296 rfl 1 rfl ?_
  refine v_iadd dX12_subscribe_297 ?_
  obtain ⟨v2, e, h⟩ := bind_some h
  refine v_iaload dX12_subscribe_298 e ?_
  cases h
  exact v_ireturn dX12_subscribe_299
set_option maxHeartbeats 4000000 in
set_option maxRecDepth 100000 in
theorem w_X12_subscribe_J283 {G : Gl} {ρ0 : Nat → Nat} {M0 MF : Mem} {r : Int32} (l0 : Nat) (l1 : Int32) (l5 : Int32) (M : Mem) (h : f_X12_subscribe_J283 l0 l1 l5 M = some (r, MF)) : V G (RX12, cX12_subscribe, (some .int), 6, 156, 7, "subscribe", []) (ρ0, M0, cvI r, MF) 283 [(0, .ref l0), (1, .int l1), (5, .int l5)] [] M := by
  unfold f_X12_subscribe_J283 at h
  refine v_aload_n dX12_subscribe_283 rfl 0 rfl ?_
  refine v_iload_n dX12_subscribe_284 rfl 1 rfl ?_
  refine v_iload dX12_subscribe_285 2 rfl ?_
  obtain ⟨M1, e, h⟩ := bind_some h
  refine ca_X12_213 e dX12_subscribe_287 (Nat.le_of_ble_eq_true rfl) (by decide) ?_
  refine v_sub [0, 1] rfl ?_
  exact w_X12_subscribe_J290 l0 l1 M1 h
set_option maxHeartbeats 4000000 in
set_option maxRecDepth 100000 in
theorem w_X12_subscribe_J259 {G : Gl} {ρ0 : Nat → Nat} {M0 MF : Mem} {r : Int32} (l0 : Nat) (l1 : Int32) (l3 : Int32) (l4 : Int32) (l5 : Int32) (l6 : Int32) (M : Mem) (h : f_X12_subscribe_J259 l0 l1 l3 l4 l5 l6 M = some (r, MF)) : V G (RX12, cX12_subscribe, (some .int), 6, 156, 7, "subscribe", []) (ρ0, M0, cvI r, MF) 259 [(0, .ref l0), (1, .int l1), (3, .int l3), (4, .int l4), (5, .int l5), (6, .int l6)] [] M := by
  unfold f_X12_subscribe_J259 at h
  refine v_iload_n dX12_subscribe_259 rfl 2 rfl ?_
  refine v_if_ne (tgt := 290) dX12_subscribe_260 (by decide) (fun c4 => ?_) (fun c4 => ?_)
  · replace h := ifN c4 h
    refine v_sub [0, 1] rfl ?_
    exact w_X12_subscribe_J290 l0 l1 M h
  · replace h := ifP c4 h
    refine v_iload dX12_subscribe_263 3 rfl ?_
    refine v_iconst (v := 2) dX12_subscribe_265 ci_2 ?_
    refine v_idiv dX12_subscribe_266 (by decide) ?_
    refine v_iconst (v := 2) dX12_subscribe_267 ci_2 ?_
    refine v_irem dX12_subscribe_268 (by decide) ?_
    refine v_if_ne (tgt := 290) dX12_subscribe_269 (by decide) (fun c3 => ?_) (fun c3 => ?_)
    · replace h := ifN c3 h
      refine v_sub [0, 1] rfl ?_
      exact w_X12_subscribe_J290 l0 l1 M h
    · replace h := ifP c3 h
      refine v_iload dX12_subscribe_272 5 rfl ?_
      refine v_if_ne (tgt := 283) dX12_subscribe_274 (by decide) (fun c2 => ?_) (fun c2 => ?_)
      · replace h := ifN c2 h
        refine v_sub [0, 1, 4] rfl ?_
        exact w_X12_subscribe_J283 l0 l1 l5 M h
      · replace h := ifP c2 h
        refine v_iload dX12_subscribe_277 3 rfl ?_
        refine v_iconst (v := 4) dX12_subscribe_279 ci_4 ?_
        refine v_icmp_ge (tgt := 290) dX12_subscribe_280 (by decide) (fun c1 => ?_) (fun c1 => ?_)
        · replace h := ifP c1 h
          refine v_sub [0, 1] rfl ?_
          exact w_X12_subscribe_J290 l0 l1 M h
        · replace h := ifN c1 h
          refine v_sub [0, 1, 4] rfl ?_
          exact w_X12_subscribe_J283 l0 l1 l5 M h
set_option maxHeartbeats 4000000 in
set_option maxRecDepth 100000 in
theorem w_X12_subscribe_J157 {G : Gl} {ρ0 : Nat → Nat} {M0 MF : Mem} {r : Int32} (l0 : Nat) (l1 : Int32) (l2 : Int32) (l3 : Int32) (l4 : Int32) (l6 : Int32) (s0 : Int32) (M : Mem) (h : f_X12_subscribe_J157 l0 l1 l2 l3 l4 l6 s0 M = some (r, MF)) : V G (RX12, cX12_subscribe, (some .int), 6, 156, 7, "subscribe", []) (ρ0, M0, cvI r, MF) 157 [(0, .ref l0), (1, .int l1), (2, .int l2), (3, .int l3), (4, .int l4), (6, .int l6)] [.int s0] M := by
  unfold f_X12_subscribe_J157 at h
  refine v_istore (ls' := [(5, .int s0), (0, .ref l0), (1, .int l1), (2, .int l2), (3, .int l3), (4, .int l4), (6, .int l6)]) dX12_subscribe_157 (by decide) rfl ?_
  refine v_aload_n dX12_subscribe_159 rfl 1 rfl ?_
  obtain ⟨v1, e, h⟩ := bind_some h
  refine gt_X12_9 e dX12_subscribe_160 ?_
  refine v_sipush (v := 410) dX12_subscribe_163 cs_410 ?_
  refine v_iload dX12_subscribe_166 0 rfl ?_
  refine v_iadd dX12_subscribe_168 ?_
  refine v_iload_n dX12_subscribe_169 rfl 3 rfl ?_
  obtain ⟨M2, e, h⟩ := bind_some h
  refine v_iastore dX12_subscribe_170 e ?_
  refine v_aload_n dX12_subscribe_171 rfl 1 rfl ?_
  obtain ⟨v3, e, h⟩ := bind_some h
  refine gt_X12_9 e dX12_subscribe_172 ?_
  refine v_sipush (v := 482) dX12_subscribe_175 cs_482 ?_
  refine v_iload dX12_subscribe_178 0 rfl ?_
  refine v_iadd dX12_subscribe_180 ?_
  refine v_iload dX12_subscribe_181 5 rfl ?_
  obtain ⟨M4, e, h⟩ := bind_some h
  refine v_iastore dX12_subscribe_183 e ?_
  refine v_iload dX12_subscribe_184 6 rfl ?_
  refine v_if_eq (tgt := 259) dX12_subscribe_186 (by decide) (fun c18 => ?_) (fun c18 => ?_)
  · replace h := ifP c18 h
    refine v_sub [1, 2, 4, 5, 0, 6] rfl ?_
    exact w_X12_subscribe_J259 l0 l1 l3 l4 s0 l6 M4 h
  · replace h := ifN c18 h
    refine v_aload_n dX12_subscribe_189 rfl 1 rfl ?_
    obtain ⟨v5, e, h⟩ := bind_some h
    refine gt_X12_9 e dX12_subscribe_190 ?_
    refine v_sipush (v := 446) dX12_subscribe_193 cs_446 ?_
    refine v_iload dX12_subscribe_196 0 rfl ?_
    refine v_iadd dX12_subscribe_198 ?_
    refine v_iload_n dX12_subscribe_199 rfl 4 rfl ?_
    obtain ⟨M6, e, h⟩ := bind_some h
    refine v_iastore dX12_subscribe_200 e ?_
    refine v_aload_n dX12_subscribe_201 rfl 1 rfl ?_
    obtain ⟨v7, e, h⟩ := bind_some h
    refine gt_X12_9 e dX12_subscribe_202 ?_
    refine v_sipush (v := 518) dX12_subscribe_205 cs_518 ?_
    refine v_iload dX12_subscribe_208 0 rfl ?_
    refine v_iadd dX12_subscribe_210 ?_
    refine v_aload_n dX12_subscribe_211 rfl 1 rfl ?_
    obtain ⟨v8, e, h⟩ := bind_some h
    refine gt_X12_66 e dX12_subscribe_212 ?_
    obtain ⟨M9, e, h⟩ := bind_some h
    refine v_iastore dX12_subscribe_215 e ?_
    refine v_aload_n dX12_subscribe_216 rfl 1 rfl ?_
    obtain ⟨v10, e, h⟩ := bind_some h
    refine gt_X12_37 e dX12_subscribe_217 ?_
    refine v_iconst (v := 0) dX12_subscribe_220 ci_0 ?_
    refine v_aload_n dX12_subscribe_221 rfl 1 rfl ?_
    obtain ⟨v11, e, h⟩ := bind_some h
    refine gt_X12_13 e dX12_subscribe_222 ?_
    refine v_bipush (v := 24) dX12_subscribe_225 cb_24 ?_
    refine v_iconst (v := 4) dX12_subscribe_227 ci_4 ?_
    refine v_iload dX12_subscribe_228 0 rfl ?_
    refine v_imul dX12_subscribe_230 ?_
    refine v_iadd dX12_subscribe_231 ?_
    obtain ⟨M12, e, h⟩ := bind_some h
    refine ca_X12_97 e dX12_subscribe_232 (Nat.le_of_ble_eq_true rfl) (by decide) ?_
    refine v_aload_n dX12_subscribe_235 rfl 1 rfl ?_
    obtain ⟨v13, e, h⟩ := bind_some h
    refine gt_X12_9 e dX12_subscribe_236 ?_
    refine v_bipush (v := 50) dX12_subscribe_239 cb_50 ?_
    refine v_iload_n dX12_subscribe_241 rfl 2 rfl ?_
    refine v_iadd dX12_subscribe_242 ?_
    refine v_dup2 dX12_subscribe_243 rfl rfl ?_
    obtain ⟨v14, e, h⟩ := bind_some h
    refine v_iaload dX12_subscribe_244 e ?_
    refine v_iconst (v := 1) dX12_subscribe_245 ci_1 ?_
    refine v_iadd dX12_subscribe_246 ?_
    obtain ⟨M15, e, h⟩ := bind_some h
    refine v_iastore dX12_subscribe_247 e ?_
    refine v_iload_n dX12_subscribe_248 rfl 4 rfl ?_
    refine v_if_le (tgt := 259) dX12_subscribe_249 (by decide) (fun c17 => ?_) (fun c17 => ?_)
    · replace h := ifP c17 h
      refine v_sub [1, 2, 4, 5, 0, 6] rfl ?_
      exact w_X12_subscribe_J259 l0 l1 l3 l4 s0 l6 M15 h
    · replace h := ifN c17 h
      refine v_aload_n dX12_subscribe_252 rfl 1 rfl ?_
      refine v_iload_n dX12_subscribe_253 rfl 2 rfl ?_
      refine v_iload dX12_subscribe_254 0 rfl ?_
      obtain ⟨M16, e, h⟩ := bind_some h
      refine ca_X12_210 e dX12_subscribe_256 (Nat.le_of_ble_eq_true rfl) (by decide) ?_
      refine v_sub [1, 2, 4, 5, 0, 6] rfl ?_
      exact w_X12_subscribe_J259 l0 l1 l3 l4 s0 l6 M16 h
set_option maxHeartbeats 4000000 in
set_option maxRecDepth 100000 in
theorem w_X12_subscribe_J133 {G : Gl} {ρ0 : Nat → Nat} {M0 MF : Mem} {r : Int32} (l0 : Nat) (l1 : Int32) (l2 : Int32) (l3 : Int32) (l4 : Int32) (l5 : Int32) (l6 : Int32) (M : Mem) (h : f_X12_subscribe_J133 l0 l1 l2 l3 l4 l5 l6 M = some (r, MF)) : V G (RX12, cX12_subscribe, (some .int), 6, 156, 7, "subscribe", []) (ρ0, M0, cvI r, MF) 133 [(0, .ref l0), (1, .int l1), (2, .int l2), (3, .int l3), (4, .int l4), (5, .int l5), (6, .int l6)] [] M := by
  unfold f_X12_subscribe_J133 at h
  refine v_iload dX12_subscribe_133 6 rfl ?_
  refine v_if_eq (tgt := 155) dX12_subscribe_135 (by decide) (fun c3 => ?_) (fun c3 => ?_)
  · replace h := ifP c3 h
    refine v_iload dX12_subscribe_155 5 rfl ?_
    refine v_sub [0, 1, 2, 3, 4, 6] rfl ?_
    exact w_X12_subscribe_J157 l0 l1 l2 l3 l4 l6 l5 M h
  · replace h := ifN c3 h
    refine v_bipush (v := 6) dX12_subscribe_138 cb_6 ?_
    refine v_iload_n dX12_subscribe_140 rfl 1 rfl ?_
    refine v_imul dX12_subscribe_141 ?_
    refine v_aload_n dX12_subscribe_142 rfl 0 rfl ?_
    obtain ⟨v1, e, h⟩ := bind_some h
    refine gt_X12_9 e dX12_subscribe_143 ?_
    refine v_bipush (v := 50) dX12_subscribe_146 cb_50 ?_
    refine v_iload_n dX12_subscribe_148 rfl 1 rfl ?_
    refine v_iadd dX12_subscribe_149 ?_
    obtain ⟨v2, e, h⟩ := bind_some h
    refine v_iaload dX12_subscribe_150 e ?_
    refine v_iadd dX12_subscribe_151 ?_
    refine v_goto (tgt := 157) dX12_subscribe_152 (by decide) ?_
    refine v_sub [0, 1, 2, 3, 4, 6] rfl ?_
    exact w_X12_subscribe_J157 l0 l1 l2 l3 l4 l6 (((6 : Int32) * l1) + v2) M h
set_option maxHeartbeats 4000000 in
set_option maxRecDepth 100000 in
theorem w_X12_subscribe_J106 {G : Gl} {ρ0 : Nat → Nat} {M0 MF : Mem} {r : Int32} (l0 : Nat) (l1 : Int32) (l2 : Int32) (l3 : Int32) (l4 : Int32) (l5 : Int32) (s0 : Int32) (M : Mem) (h : f_X12_subscribe_J106 l0 l1 l2 l3 l4 l5 s0 M = some (r, MF)) : V G (RX12, cX12_subscribe, (some .int), 6, 156, 7, "subscribe", []) (ρ0, M0, cvI r, MF) 106 [(0, .ref l0), (1, .int l1), (2, .int l2), (3, .int l3), (4, .int l4), (5, .int l5)] [.int s0] M := by
  unfold f_X12_subscribe_J106 at h
  refine v_istore (ls' := [(6, .int s0), (0, .ref l0), (1, .int l1), (2, .int l2), (3, .int l3), (4, .int l4), (5, .int l5)]) dX12_subscribe_106 (by decide) rfl ?_
  refine v_iload dX12_subscribe_108 0 rfl ?_
  refine v_if_eq (tgt := 133) dX12_subscribe_110 (by decide) (fun c6 => ?_) (fun c6 => ?_)
  · replace h := ifP c6 h
    refine v_sub [1, 2, 3, 4, 5, 6, 0] rfl ?_
    exact w_X12_subscribe_J133 l0 l1 l2 l3 l4 l5 s0 M h
  · replace h := ifN c6 h
    refine v_aload_n dX12_subscribe_113 rfl 1 rfl ?_
    obtain ⟨v1, e, h⟩ := bind_some h
    refine gt_X12_9 e dX12_subscribe_114 ?_
    refine v_bipush (v := 50) dX12_subscribe_117 cb_50 ?_
    refine v_iload_n dX12_subscribe_119 rfl 2 rfl ?_
    refine v_iadd dX12_subscribe_120 ?_
    obtain ⟨v2, e, h⟩ := bind_some h
    refine v_iaload dX12_subscribe_121 e ?_
    refine v_bipush (v := 6) dX12_subscribe_122 cb_6 ?_
    refine v_icmp_ne (tgt := 133) dX12_subscribe_124 (by decide) (fun c5 => ?_) (fun c5 => ?_)
    · replace h := ifN c5 h
      refine v_sub [1, 2, 3, 4, 5, 6, 0] rfl ?_
      exact w_X12_subscribe_J133 l0 l1 l2 l3 l4 l5 s0 M h
    · replace h := ifP c5 h
      refine v_aload_n dX12_subscribe_127 rfl 1 rfl ?_
      refine v_iconst (v := 3) dX12_subscribe_128 ci_3 ?_
      obtain ⟨v4, M3, e, h⟩ := bindP_some h
      refine ca_X12_86 e dX12_subscribe_129 (Nat.le_of_ble_eq_true rfl) (by decide) ?_
      cases h
      exact v_ireturn dX12_subscribe_132
set_option maxHeartbeats 4000000 in
set_option maxRecDepth 100000 in
theorem w_X12_subscribe_J73 {G : Gl} {ρ0 : Nat → Nat} {M0 MF : Mem} {r : Int32} (l0 : Nat) (l1 : Int32) (l2 : Int32) (l3 : Int32) (l4 : Int32) (M : Mem) (h : f_X12_subscribe_J73 l0 l1 l2 l3 l4 M = some (r, MF)) : V G (RX12, cX12_subscribe, (some .int), 6, 156, 7, "subscribe", []) (ρ0, M0, cvI r, MF) 73 [(0, .ref l0), (1, .int l1), (2, .int l2), (3, .int l3), (4, .int l4)] [] M := by
  unfold f_X12_subscribe_J73 at h
  refine v_aload_n dX12_subscribe_73 rfl 0 rfl ?_
  refine v_iload_n dX12_subscribe_74 rfl 1 rfl ?_
  obtain ⟨v2, M1, e, h⟩ := bindP_some h
  refine ca_X12_107 e dX12_subscribe_75 (Nat.le_of_ble_eq_true rfl) (by decide) ?_
  refine v_if_ne (tgt := 87) dX12_subscribe_78 (by decide) (fun c6 => ?_) (fun c6 => ?_)
  · replace h := ifN c6 h
    refine v_aload_n dX12_subscribe_87 rfl 0 rfl ?_
    refine v_iload_n dX12_subscribe_88 rfl 1 rfl ?_
    refine v_iload_n dX12_subscribe_89 rfl 3 rfl ?_
    obtain ⟨v4, M3, e, h⟩ := bindP_some h
    refine ca_X12_207 e dX12_subscribe_90 (Nat.le_of_ble_eq_true rfl) (by decide) ?_
    refine v_istore (ls' := [(5, .int v4), (0, .ref l0), (1, .int l1), (2, .int l2), (3, .int l3), (4, .int l4)]) dX12_subscribe_93 (by decide) rfl ?_
    refine v_iload dX12_subscribe_95 0 rfl ?_
    refine v_iconst (v := (-1)) dX12_subscribe_97 ci_m1 ?_
    refine v_icmp_ne (tgt := 105) dX12_subscribe_98 (by decide) (fun c5 => ?_) (fun c5 => ?_)
    · replace h := ifN c5 h
      refine v_iconst (v := 0) dX12_subscribe_105 ci_0 ?_
      refine v_sub [1, 2, 3, 4, 5, 0] rfl ?_
      exact w_X12_subscribe_J106 l0 l1 l2 l3 l4 v4 (0 : Int32) M3 h
    · replace h := ifP c5 h
      refine v_iconst (v := 1) dX12_subscribe_101 ci_1 ?_
      refine v_goto (tgt := 106) dX12_subscribe_102 (by decide) ?_
      refine v_sub [1, 2, 3, 4, 5, 0] rfl ?_
      exact w_X12_subscribe_J106 l0 l1 l2 l3 l4 v4 (1 : Int32) M3 h
  · replace h := ifP c6 h
    refine v_aload_n dX12_subscribe_81 rfl 0 rfl ?_
    refine v_iconst (v := 3) dX12_subscribe_82 ci_3 ?_
    obtain ⟨v4, M3, e, h⟩ := bindP_some h
    refine ca_X12_86 e dX12_subscribe_83 (Nat.le_of_ble_eq_true rfl) (by decide) ?_
    cases h
    exact v_ireturn dX12_subscribe_86
set_option maxHeartbeats 4000000 in
set_option maxRecDepth 100000 in
theorem w_X12_subscribe_J67 {G : Gl} {ρ0 : Nat → Nat} {M0 MF : Mem} {r : Int32} (l0 : Nat) (M : Mem) (h : f_X12_subscribe_J67 l0 M = some (r, MF)) : V G (RX12, cX12_subscribe, (some .int), 6, 156, 7, "subscribe", []) (ρ0, M0, cvI r, MF) 67 [(0, .ref l0)] [] M := by
  unfold f_X12_subscribe_J67 at h
  refine v_aload_n dX12_subscribe_67 rfl 0 rfl ?_
  refine v_iconst (v := 2) dX12_subscribe_68 ci_2 ?_
  obtain ⟨v2, M1, e, h⟩ := bindP_some h
  refine ca_X12_86 e dX12_subscribe_69 (Nat.le_of_ble_eq_true rfl) (by decide) ?_
  cases h
  exact v_ireturn dX12_subscribe_72
set_option maxHeartbeats 4000000 in
set_option maxRecDepth 100000 in
theorem w_X12_subscribe {G : Gl} {ρ0 : Nat → Nat} {M0 MF : Mem} {r : Int32} (l0 : Nat) (l1 : Int32) (l2 : Int32) (l3 : Int32) (l4 : Int32) (M : Mem) (h : f_X12_subscribe l0 l1 l2 l3 l4 M = some (r, MF)) : V G (RX12, cX12_subscribe, (some .int), 6, 156, 7, "subscribe", []) (ρ0, M0, cvI r, MF) 0 [(0, .ref l0), (1, .int l1), (2, .int l2), (3, .int l3), (4, .int l4)] [] M := by
  unfold f_X12_subscribe at h
  replace h := (ifS h).2
  refine v_aload_n dX12_subscribe_0 rfl 0 rfl ?_
  refine v_iconst (v := 0) dX12_subscribe_1 ci_0 ?_
  obtain ⟨M1, e, h⟩ := bind_some h
  refine pt_X12_52 e dX12_subscribe_2 ?_
  refine v_iload_n dX12_subscribe_5 rfl 1 rfl ?_
  obtain ⟨v3, M2, e, h⟩ := bindP_some h
  refine ca_X12_191 e dX12_subscribe_6 (Nat.le_of_ble_eq_true rfl) (by decide) ?_
  refine v_if_ne (tgt := 18) dX12_subscribe_9 (by decide) (fun c18 => ?_) (fun c18 => ?_)
  · replace h := ifN c18 h
    refine v_aload_n dX12_subscribe_18 rfl 0 rfl ?_
    refine v_iconst (v := 1) dX12_subscribe_19 ci_1 ?_
    obtain ⟨v5, M4, e, h⟩ := bindP_some h
    refine ca_X12_203 e dX12_subscribe_20 (Nat.le_of_ble_eq_true rfl) (by decide) ?_
    refine v_if_eq (tgt := 67) dX12_subscribe_23 (by decide) (fun c17 => ?_) (fun c17 => ?_)
    · replace h := ifP c17 h
      refine v_sub [0] rfl ?_
      exact w_X12_subscribe_J67 l0 M4 h
    · replace h := ifN c17 h
      refine v_iload_n dX12_subscribe_26 rfl 2 rfl ?_
      refine v_iconst (v := 0) dX12_subscribe_27 ci_0 ?_
      refine v_iconst (v := 2) dX12_subscribe_28 ci_2 ?_
      obtain ⟨v7, M6, e, h⟩ := bindP_some h
      refine ca_X12_55 e dX12_subscribe_29 (Nat.le_of_ble_eq_true rfl) (by decide) ?_
      refine v_if_eq (tgt := 67) dX12_subscribe_32 (by decide) (fun c16 => ?_) (fun c16 => ?_)
      · replace h := ifP c16 h
        refine v_sub [0] rfl ?_
        exact w_X12_subscribe_J67 l0 M6 h
      · replace h := ifN c16 h
        refine v_iload_n dX12_subscribe_35 rfl 3 rfl ?_
        refine v_iconst (v := 0) dX12_subscribe_36 ci_0 ?_
        refine v_iconst (v := 3) dX12_subscribe_37 ci_3 ?_
        obtain ⟨v9, M8, e, h⟩ := bindP_some h
        refine ca_X12_55 e dX12_subscribe_38 (Nat.le_of_ble_eq_true rfl) (by decide) ?_
        refine v_if_eq (tgt := 67) dX12_subscribe_41 (by decide) (fun c15 => ?_) (fun c15 => ?_)
        · replace h := ifP c15 h
          refine v_sub [0] rfl ?_
          exact w_X12_subscribe_J67 l0 M8 h
        · replace h := ifN c15 h
          refine v_iload dX12_subscribe_44 4 rfl ?_
          refine v_iconst (v := 0) dX12_subscribe_46 ci_0 ?_
          refine v_bipush (v := 7) dX12_subscribe_47 cb_7 ?_
          obtain ⟨v11, M10, e, h⟩ := bindP_some h
          refine ca_X12_55 e dX12_subscribe_49 (Nat.le_of_ble_eq_true rfl) (by decide) ?_
          refine v_if_eq (tgt := 67) dX12_subscribe_52 (by decide) (fun c14 => ?_) (fun c14 => ?_)
          · replace h := ifP c14 h
            refine v_sub [0] rfl ?_
            exact w_X12_subscribe_J67 l0 M10 h
          · replace h := ifN c14 h
            refine v_iload_n dX12_subscribe_55 rfl 3 rfl ?_
            refine v_if_le (tgt := 73) dX12_subscribe_56 (by decide) (fun c13 => ?_) (fun c13 => ?_)
            · replace h := ifP c13 h
              exact w_X12_subscribe_J73 l0 l1 l2 l3 l4 M10 h
            · replace h := ifN c13 h
              refine v_iload dX12_subscribe_59 4 rfl ?_
              refine v_iconst (v := 2) dX12_subscribe_61 ci_2 ?_
              refine v_irem dX12_subscribe_62 (by decide) ?_
              refine v_iconst (v := 1) dX12_subscribe_63 ci_1 ?_
              refine v_icmp_ne (tgt := 73) dX12_subscribe_64 (by decide) (fun c12 => ?_) (fun c12 => ?_)
              · replace h := ifN c12 h
                exact w_X12_subscribe_J73 l0 l1 l2 l3 l4 M10 h
              · replace h := ifP c12 h
                refine v_sub [0] rfl ?_
                exact w_X12_subscribe_J67 l0 M10 h
  · replace h := ifP c18 h
    refine v_aload_n dX12_subscribe_12 rfl 0 rfl ?_
    refine v_iconst (v := 1) dX12_subscribe_13 ci_1 ?_
    obtain ⟨v5, M4, e, h⟩ := bindP_some h
    refine ca_X12_200 e dX12_subscribe_14 (Nat.le_of_ble_eq_true rfl) (by decide) ?_
    cases h
    exact v_ireturn dX12_subscribe_17
theorem kd_X12_subscribe {l0 : Nat} {l1 : Int32} {l2 : Int32} {l3 : Int32} {l4 : Int32} {M : Mem} {z : _} (h : f_X12_subscribe l0 l1 l2 l3 l4 M = some z) : (mK M l0).1 = 12 := by
  unfold f_X12_subscribe at h
  exact (ifS h).1
theorem k_X12_subscribe {G : Gl} {l0 : Nat} {l1 : Int32} {l2 : Int32} {l3 : Int32} {l4 : Int32} {M MF : Mem} {r : Int32} (h : f_X12_subscribe l0 l1 l2 l3 l4 M = some (r, MF)) : CtrP G yX12_subscribe cX12_subscribe 7 (some .int) 6 156 [.ref l0, .int l1, .int l2, .int l3, .int l4] M (cvI r) MF :=
  ctr_of (by decide +kernel) (Nat.le_of_ble_eq_true rfl) (fun ρ => w_X12_subscribe l0 l1 l2 l3 l4 M h)
set_option maxHeartbeats 4000000 in
set_option maxRecDepth 100000 in
theorem w_X12_unsubscribe_J35 {G : Gl} {ρ0 : Nat → Nat} {M0 MF : Mem} {r : Int32} (l0 : Nat) (M : Mem) (h : f_X12_unsubscribe_J35 l0 M = some (r, MF)) : V G (RX12, cX12_unsubscribe, (some .int), 4, 97, 4, "unsubscribe", []) (ρ0, M0, cvI r, MF) 35 [(0, .ref l0)] [] M := by
  unfold f_X12_unsubscribe_J35 at h
  refine v_aload_n dX12_unsubscribe_35 rfl 0 rfl ?_
  refine v_iconst (v := 2) dX12_unsubscribe_36 ci_2 ?_
  obtain ⟨v2, M1, e, h⟩ := bindP_some h
  refine ca_X12_86 e dX12_unsubscribe_37 (Nat.le_of_ble_eq_true rfl) (by decide) ?_
  cases h
  exact v_ireturn dX12_unsubscribe_40
set_option maxHeartbeats 4000000 in
set_option maxRecDepth 100000 in
theorem w_X12_unsubscribe {G : Gl} {ρ0 : Nat → Nat} {M0 MF : Mem} {r : Int32} (l0 : Nat) (l1 : Int32) (l2 : Int32) (M : Mem) (h : f_X12_unsubscribe l0 l1 l2 M = some (r, MF)) : V G (RX12, cX12_unsubscribe, (some .int), 4, 97, 4, "unsubscribe", []) (ρ0, M0, cvI r, MF) 0 [(0, .ref l0), (1, .int l1), (2, .int l2)] [] M := by
  unfold f_X12_unsubscribe at h
  replace h := (ifS h).2
  refine v_aload_n dX12_unsubscribe_0 rfl 0 rfl ?_
  refine v_iconst (v := 0) dX12_unsubscribe_1 ci_0 ?_
  obtain ⟨M1, e, h⟩ := bind_some h
  refine pt_X12_52 e dX12_unsubscribe_2 ?_
  refine v_iload_n dX12_unsubscribe_5 rfl 1 rfl ?_
  obtain ⟨v3, M2, e, h⟩ := bindP_some h
  refine ca_X12_191 e dX12_unsubscribe_6 (Nat.le_of_ble_eq_true rfl) (by decide) ?_
  refine v_if_ne (tgt := 18) dX12_unsubscribe_9 (by decide) (fun c17 => ?_) (fun c17 => ?_)
  · replace h := ifN c17 h
    refine v_aload_n dX12_unsubscribe_18 rfl 0 rfl ?_
    refine v_iconst (v := 1) dX12_unsubscribe_19 ci_1 ?_
    obtain ⟨v5, M4, e, h⟩ := bindP_some h
    refine ca_X12_203 e dX12_unsubscribe_20 (Nat.le_of_ble_eq_true rfl) (by decide) ?_
    refine v_if_eq (tgt := 35) dX12_unsubscribe_23 (by decide) (fun c16 => ?_) (fun c16 => ?_)
    · replace h := ifP c16 h
      refine v_sub [0] rfl ?_
      exact w_X12_unsubscribe_J35 l0 M4 h
    · replace h := ifN c16 h
      refine v_iload_n dX12_unsubscribe_26 rfl 2 rfl ?_
      refine v_iconst (v := 0) dX12_unsubscribe_27 ci_0 ?_
      refine v_iconst (v := 3) dX12_unsubscribe_28 ci_3 ?_
      obtain ⟨v7, M6, e, h⟩ := bindP_some h
      refine ca_X12_55 e dX12_unsubscribe_29 (Nat.le_of_ble_eq_true rfl) (by decide) ?_
      refine v_if_ne (tgt := 41) dX12_unsubscribe_32 (by decide) (fun c15 => ?_) (fun c15 => ?_)
      · replace h := ifN c15 h
        refine v_aload_n dX12_unsubscribe_41 rfl 0 rfl ?_
        refine v_iload_n dX12_unsubscribe_42 rfl 1 rfl ?_
        obtain ⟨v9, M8, e, h⟩ := bindP_some h
        refine ca_X12_107 e dX12_unsubscribe_43 (Nat.le_of_ble_eq_true rfl) (by decide) ?_
        refine v_if_ne (tgt := 55) dX12_unsubscribe_46 (by decide) (fun c14 => ?_) (fun c14 => ?_)
        · replace h := ifN c14 h
          refine v_aload_n dX12_unsubscribe_55 rfl 0 rfl ?_
          refine v_iload_n dX12_unsubscribe_56 rfl 1 rfl ?_
          refine v_iload_n dX12_unsubscribe_57 rfl 2 rfl ?_
          obtain ⟨v11, M10, e, h⟩ := bindP_some h
          refine ca_X12_207 e dX12_unsubscribe_58 (Nat.le_of_ble_eq_true rfl) (by decide) ?_
          refine v_istore_n (ls' := [(3, .int v11), (0, .ref l0), (1, .int l1), (2, .int l2)]) dX12_unsubscribe_61 rfl (by decide) rfl ?_
          refine v_iload_n dX12_unsubscribe_62 rfl 0 rfl ?_
          refine v_iconst (v := (-1)) dX12_unsubscribe_63 ci_m1 ?_
          refine v_icmp_ne (tgt := 69) dX12_unsubscribe_64 (by decide) (fun c13 => ?_) (fun c13 => ?_)
          · replace h := ifN c13 h
            refine v_aload_n dX12_unsubscribe_69 rfl 1 rfl ?_
            refine v_iload_n dX12_unsubscribe_70 rfl 2 rfl ?_
            refine v_iload_n dX12_unsubscribe_71 rfl 0 rfl ?_
            obtain ⟨M12, e, h⟩ := bind_some h
            refine ca_X12_178 e dX12_unsubscribe_72 (Nat.le_of_ble_eq_true rfl) (by decide) ?_
            refine v_iconst (v := 1) dX12_unsubscribe_75 ci_1 ?_
            cases h
            exact v_ireturn dX12_unsubscribe_76
          · replace h := ifP c13 h
            refine v_iconst (v := 0) dX12_unsubscribe_67 ci_0 ?_
            cases h
            exact v_ireturn dX12_unsubscribe_68
        · replace h := ifP c14 h
          refine v_aload_n dX12_unsubscribe_49 rfl 0 rfl ?_
          refine v_iconst (v := 3) dX12_unsubscribe_50 ci_3 ?_
          obtain ⟨v11, M10, e, h⟩ := bindP_some h
          refine ca_X12_86 e dX12_unsubscribe_51 (Nat.le_of_ble_eq_true rfl) (by decide) ?_
          cases h
          exact v_ireturn dX12_unsubscribe_54
      · replace h := ifP c15 h
        refine v_sub [0] rfl ?_
        exact w_X12_unsubscribe_J35 l0 M6 h
  · replace h := ifP c17 h
    refine v_aload_n dX12_unsubscribe_12 rfl 0 rfl ?_
    refine v_iconst (v := 1) dX12_unsubscribe_13 ci_1 ?_
    obtain ⟨v5, M4, e, h⟩ := bindP_some h
    refine ca_X12_200 e dX12_unsubscribe_14 (Nat.le_of_ble_eq_true rfl) (by decide) ?_
    cases h
    exact v_ireturn dX12_unsubscribe_17
theorem kd_X12_unsubscribe {l0 : Nat} {l1 : Int32} {l2 : Int32} {M : Mem} {z : _} (h : f_X12_unsubscribe l0 l1 l2 M = some z) : (mK M l0).1 = 12 := by
  unfold f_X12_unsubscribe at h
  exact (ifS h).1
theorem k_X12_unsubscribe {G : Gl} {l0 : Nat} {l1 : Int32} {l2 : Int32} {M MF : Mem} {r : Int32} (h : f_X12_unsubscribe l0 l1 l2 M = some (r, MF)) : CtrP G yX12_unsubscribe cX12_unsubscribe 4 (some .int) 4 97 [.ref l0, .int l1, .int l2] M (cvI r) MF :=
  ctr_of (by decide +kernel) (Nat.le_of_ble_eq_true rfl) (fun ρ => w_X12_unsubscribe l0 l1 l2 M h)
set_option maxHeartbeats 4000000 in
set_option maxRecDepth 100000 in
theorem w_X12_isSubscription {G : Gl} {ρ0 : Nat → Nat} {M0 MF : Mem} {r : Int32} (l0 : Nat) (l1 : Int32) (l2 : Int32) (M : Mem) (h : f_X12_isSubscription l0 l1 l2 M = some (r, MF)) : V G (RX12, cX12_isSubscription, (some .boolean), 2, 42, 3, "isSubscription", []) (ρ0, M0, cvI r, MF) 0 [(0, .ref l0), (1, .int l1), (2, .int l2)] [] M := by
  unfold f_X12_isSubscription at h
  replace h := (ifS h).2
  refine v_iload_n dX12_isSubscription_0 rfl 1 rfl ?_
  obtain ⟨v2, M1, e, h⟩ := bindP_some h
  refine ca_X12_191 e dX12_isSubscription_1 (Nat.le_of_ble_eq_true rfl) (by decide) ?_
  refine v_if_eq (tgt := 30) dX12_isSubscription_4 (by decide) (fun c8 => ?_) (fun c8 => ?_)
  · replace h := ifP c8 h
    refine v_iconst (v := 0) dX12_isSubscription_30 ci_0 ?_
    obtain ⟨hz, rfl, rfl⟩ := okZ_some h
    exact v_zreturn dX12_isSubscription_31 hz
  · replace h := ifN c8 h
    refine v_iload_n dX12_isSubscription_7 rfl 2 rfl ?_
    refine v_iconst (v := 0) dX12_isSubscription_8 ci_0 ?_
    refine v_aload_n dX12_isSubscription_9 rfl 0 rfl ?_
    obtain ⟨v3, e, h⟩ := bind_some h
    refine gt_X12_9 e dX12_isSubscription_10 ?_
    refine v_bipush (v := 50) dX12_isSubscription_13 cb_50 ?_
    refine v_iload_n dX12_isSubscription_15 rfl 1 rfl ?_
    refine v_iadd dX12_isSubscription_16 ?_
    obtain ⟨v4, e, h⟩ := bind_some h
    refine v_iaload dX12_isSubscription_17 e ?_
    refine v_iconst (v := 1) dX12_isSubscription_18 ci_1 ?_
    refine v_isub dX12_isSubscription_19 ?_
    obtain ⟨v6, M5, e, h⟩ := bindP_some h
    refine ca_X12_55 e dX12_isSubscription_20 (Nat.le_of_ble_eq_true rfl) (by decide) ?_
    refine v_if_eq (tgt := 30) dX12_isSubscription_23 (by decide) (fun c7 => ?_) (fun c7 => ?_)
    · replace h := ifP c7 h
      refine v_iconst (v := 0) dX12_isSubscription_30 ci_0 ?_
      obtain ⟨hz, rfl, rfl⟩ := okZ_some h
      exact v_zreturn dX12_isSubscription_31 hz
    · replace h := ifN c7 h
      refine v_iconst (v := 1) dX12_isSubscription_26 ci_1 ?_
      refine v_goto (tgt := 31) dX12_isSubscription_27 (by decide) ?_
      obtain ⟨hz, rfl, rfl⟩ := okZ_some h
      exact v_zreturn dX12_isSubscription_31 hz
theorem kd_X12_isSubscription {l0 : Nat} {l1 : Int32} {l2 : Int32} {M : Mem} {z : _} (h : f_X12_isSubscription l0 l1 l2 M = some z) : (mK M l0).1 = 12 := by
  unfold f_X12_isSubscription at h
  exact (ifS h).1
theorem k_X12_isSubscription {G : Gl} {l0 : Nat} {l1 : Int32} {l2 : Int32} {M MF : Mem} {r : Int32} (h : f_X12_isSubscription l0 l1 l2 M = some (r, MF)) : CtrP G yX12_isSubscription cX12_isSubscription 3 (some .boolean) 2 42 [.ref l0, .int l1, .int l2] M (cvI r) MF :=
  ctr_of (by decide +kernel) (Nat.le_of_ble_eq_true rfl) (fun ρ => w_X12_isSubscription l0 l1 l2 M h)
theorem wd_X12_216 : wdV RX12 216 RX12 yX12_isSubscription cX12_isSubscription 3 (some .boolean) 2 := ⟨gwi 1456 (by decide +kernel) (by decide +kernel), gwi 1458 (by decide +kernel) (by decide +kernel), gwi 61 (by decide +kernel) (by decide +kernel), nw_X12, gwi 1459 (by decide +kernel) (by decide +kernel), ⟨rfl, by decide +kernel, by decide +kernel, by decide +kernel⟩⟩
theorem ca_X12_216 {G : Gl} {B : Bx} {cc : ByteArray} {ret : Option FieldType} {fr lo nL : Nat} {mn : String} {hh : List (Nat × Nat × Nat × Nat)} {pc : Nat} {ls : List (Nat × Value)} {st : List Value} {M M1 : Mem} {l0 : Nat} {l1 : Int32} {l2 : Int32} {x : Int32} (e : f_X12_isSubscription l0 l1 l2 M = some (x, M1)) (hd : decode cc pc = .ok (.invokevirtual 216, 3)) (hcat : (st.map fun v => v.category).sum ≤ 8) (hR : 2 + 1 ≤ fr ∧ 8 + (3 + 11) + 42 ≤ lo) (k : V G (RX12, cc, ret, fr, lo, nL, mn, hh) B (pc + 3) ls (.int x :: st) M1) : V G (RX12, cc, ret, fr, lo, nL, mn, hh) B pc ls (.int l2 :: .int l1 :: .ref l0 :: st) M := v_callVi (As := [.int l1, .int l2]) (k_X12_isSubscription e) wd_X12_216 clX12 (kd_X12_isSubscription e) hd rfl rfl hcat hR k
set_option maxHeartbeats 4000000 in
set_option maxRecDepth 100000 in
theorem w_X12_subscription {G : Gl} {ρ0 : Nat → Nat} {M0 MF : Mem} {r : Int32} (l0 : Nat) (l1 : Int32) (l2 : Int32) (l3 : Int32) (M : Mem) (h : f_X12_subscription l0 l1 l2 l3 M = some (r, MF)) : V G (RX12, cX12_subscription, (some .int), 3, 64, 4, "subscription", []) (ρ0, M0, cvI r, MF) 0 [(0, .ref l0), (1, .int l1), (2, .int l2), (3, .int l3)] [] M := by
  unfold f_X12_subscription at h
  replace h := (ifS h).2
  refine v_aload_n dX12_subscription_0 rfl 0 rfl ?_
  refine v_iconst (v := 0) dX12_subscription_1 ci_0 ?_
  obtain ⟨M1, e, h⟩ := bind_some h
  refine pt_X12_52 e dX12_subscription_2 ?_
  refine v_aload_n dX12_subscription_5 rfl 0 rfl ?_
  refine v_iload_n dX12_subscription_6 rfl 1 rfl ?_
  refine v_iload_n dX12_subscription_7 rfl 2 rfl ?_
  obtain ⟨v3, M2, e, h⟩ := bindP_some h
  refine ca_X12_216 e dX12_subscription_8 (Nat.le_of_ble_eq_true rfl) (by decide) ?_
  refine v_if_ne (tgt := 20) dX12_subscription_11 (by decide) (fun c9 => ?_) (fun c9 => ?_)
  · replace h := ifN c9 h
    refine v_iload_n dX12_subscription_20 rfl 3 rfl ?_
    refine v_iconst (v := 0) dX12_subscription_21 ci_0 ?_
    refine v_iconst (v := 3) dX12_subscription_22 ci_3 ?_
    obtain ⟨v5, M4, e, h⟩ := bindP_some h
    refine ca_X12_55 e dX12_subscription_23 (Nat.le_of_ble_eq_true rfl) (by decide) ?_
    refine v_if_ne (tgt := 35) dX12_subscription_26 (by decide) (fun c8 => ?_) (fun c8 => ?_)
    · replace h := ifN c8 h
      refine v_aload_n dX12_subscription_35 rfl 0 rfl ?_
      obtain ⟨v6, e, h⟩ := bind_some h
      refine gt_X12_9 e dX12_subscription_36 ?_
      refine v_sipush (v := 410) dX12_subscription_39 cs_410 ?_
      refine v_bipush (v := 36) dX12_subscription_42 cb_36 ?_
      refine v_iload_n dX12_subscription_44 rfl 3 rfl ?_
      refine v_imul dX12_subscription_45 ?_
      refine v_iadd dX12_subscription_46 ?_
      refine v_bipush (v := 6) dX12_subscription_47 cb_6 ?_
      refine v_iload_n dX12_subscription_49 rfl 1 rfl ?_
      refine v_imul dX12_subscription_50 ?_
      refine v_iadd dX12_subscription_51 ?_
      refine v_iload_n dX12_subscription_52 rfl 2 rfl ?_
      refine v_iadd dX12_subscription_53 ?_
      obtain ⟨v7, e, h⟩ := bind_some h
      refine v_iaload dX12_subscription_54 e ?_
      cases h
      exact v_ireturn dX12_subscription_55
    · replace h := ifP c8 h
      refine v_aload_n dX12_subscription_29 rfl 0 rfl ?_
      refine v_iconst (v := 2) dX12_subscription_30 ci_2 ?_
      obtain ⟨v7, M6, e, h⟩ := bindP_some h
      refine ca_X12_86 e dX12_subscription_31 (Nat.le_of_ble_eq_true rfl) (by decide) ?_
      cases h
      exact v_ireturn dX12_subscription_34
  · replace h := ifP c9 h
    refine v_aload_n dX12_subscription_14 rfl 0 rfl ?_
    refine v_iconst (v := 1) dX12_subscription_15 ci_1 ?_
    obtain ⟨v5, M4, e, h⟩ := bindP_some h
    refine ca_X12_86 e dX12_subscription_16 (Nat.le_of_ble_eq_true rfl) (by decide) ?_
    cases h
    exact v_ireturn dX12_subscription_19
theorem kd_X12_subscription {l0 : Nat} {l1 : Int32} {l2 : Int32} {l3 : Int32} {M : Mem} {z : _} (h : f_X12_subscription l0 l1 l2 l3 M = some z) : (mK M l0).1 = 12 := by
  unfold f_X12_subscription at h
  exact (ifS h).1
theorem k_X12_subscription {G : Gl} {l0 : Nat} {l1 : Int32} {l2 : Int32} {l3 : Int32} {M MF : Mem} {r : Int32} (h : f_X12_subscription l0 l1 l2 l3 M = some (r, MF)) : CtrP G yX12_subscription cX12_subscription 4 (some .int) 3 64 [.ref l0, .int l1, .int l2, .int l3] M (cvI r) MF :=
  ctr_of (by decide +kernel) (Nat.le_of_ble_eq_true rfl) (fun ρ => w_X12_subscription l0 l1 l2 l3 M h)
set_option maxHeartbeats 4000000 in
set_option maxRecDepth 100000 in
theorem w_X12_isHashed {G : Gl} {ρ0 : Nat → Nat} {M0 MF : Mem} {r : Int32} (l0 : Nat) (l1 : Int32) (M : Mem) (h : f_X12_isHashed l0 l1 M = some (r, MF)) : V G (RX12, cX12_isHashed, (some .boolean), 0, 0, 2, "isHashed", []) (ρ0, M0, cvI r, MF) 0 [(0, .ref l0), (1, .int l1)] [] M := by
  unfold f_X12_isHashed at h
  replace h := (ifS h).2
  refine v_aload_n dX12_isHashed_0 rfl 0 rfl ?_
  obtain ⟨v1, e, h⟩ := bind_some h
  refine gt_X12_13 e dX12_isHashed_1 ?_
  refine v_bipush (v := 24) dX12_isHashed_4 cb_24 ?_
  refine v_iconst (v := 4) dX12_isHashed_6 ci_4 ?_
  refine v_iload_n dX12_isHashed_7 rfl 1 rfl ?_
  refine v_imul dX12_isHashed_8 ?_
  refine v_iadd dX12_isHashed_9 ?_
  refine v_aload_n dX12_isHashed_10 rfl 0 rfl ?_
  obtain ⟨v2, e, h⟩ := bind_some h
  refine gt_X12_9 e dX12_isHashed_11 ?_
  refine v_sipush (v := 518) dX12_isHashed_14 cs_518 ?_
  refine v_iload_n dX12_isHashed_17 rfl 1 rfl ?_
  refine v_iadd dX12_isHashed_18 ?_
  obtain ⟨v3, e, h⟩ := bind_some h
  refine v_iaload dX12_isHashed_19 e ?_
  refine v_iadd dX12_isHashed_20 ?_
  refine v_iconst (v := 1) dX12_isHashed_21 ci_1 ?_
  refine v_isub dX12_isHashed_22 ?_
  obtain ⟨v4, e, h⟩ := bind_some h
  refine v_laload dX12_isHashed_23 e ?_
  refine kl_X12_74 dX12_isHashed_24 ?_
  refine v_lcmp dX12_isHashed_27 ?_
  refine v_if_ne (tgt := 35) dX12_isHashed_28 (by decide) (fun c5 => ?_) (fun c5 => ?_)
  · replace h := ifN c5 h
    refine v_iconst (v := 0) dX12_isHashed_35 ci_0 ?_
    obtain ⟨hz, rfl, rfl⟩ := okZ_some h
    exact v_zreturn dX12_isHashed_36 hz
  · replace h := ifP c5 h
    refine v_iconst (v := 1) dX12_isHashed_31 ci_1 ?_
    refine v_goto (tgt := 36) dX12_isHashed_32 (by decide) ?_
    obtain ⟨hz, rfl, rfl⟩ := okZ_some h
    exact v_zreturn dX12_isHashed_36 hz
theorem kd_X12_isHashed {l0 : Nat} {l1 : Int32} {M : Mem} {z : _} (h : f_X12_isHashed l0 l1 M = some z) : (mK M l0).1 = 12 := by
  unfold f_X12_isHashed at h
  exact (ifS h).1
theorem k_X12_isHashed {G : Gl} {l0 : Nat} {l1 : Int32} {M MF : Mem} {r : Int32} (h : f_X12_isHashed l0 l1 M = some (r, MF)) : CtrP G yX12_isHashed cX12_isHashed 2 (some .boolean) 0 0 [.ref l0, .int l1] M (cvI r) MF :=
  ctr_of (by decide +kernel) (Nat.le_of_ble_eq_true rfl) (fun ρ => w_X12_isHashed l0 l1 M h)
theorem wd_X12_219 : wdV RX12 219 RX12 yX12_isHashed cX12_isHashed 2 (some .boolean) 1 := ⟨gwi 1472 (by decide +kernel) (by decide +kernel), gwi 1474 (by decide +kernel) (by decide +kernel), gwi 64 (by decide +kernel) (by decide +kernel), nw_X12, gwi 1475 (by decide +kernel) (by decide +kernel), ⟨rfl, by decide +kernel, by decide +kernel, by decide +kernel⟩⟩
theorem ca_X12_219 {G : Gl} {B : Bx} {cc : ByteArray} {ret : Option FieldType} {fr lo nL : Nat} {mn : String} {hh : List (Nat × Nat × Nat × Nat)} {pc : Nat} {ls : List (Nat × Value)} {st : List Value} {M M1 : Mem} {l0 : Nat} {l1 : Int32} {x : Int32} (e : f_X12_isHashed l0 l1 M = some (x, M1)) (hd : decode cc pc = .ok (.invokevirtual 219, 3)) (hcat : (st.map fun v => v.category).sum ≤ 8) (hR : 0 + 1 ≤ fr ∧ 8 + (2 + 11) + 0 ≤ lo) (k : V G (RX12, cc, ret, fr, lo, nL, mn, hh) B (pc + 3) ls (.int x :: st) M1) : V G (RX12, cc, ret, fr, lo, nL, mn, hh) B pc ls (.int l1 :: .ref l0 :: st) M := v_callVi (As := [.int l1]) (k_X12_isHashed e) wd_X12_219 clX12 (kd_X12_isHashed e) hd rfl rfl hcat hR k
set_option maxHeartbeats 4000000 in
set_option maxRecDepth 100000 in
theorem w_X12_reaches {G : Gl} {ρ0 : Nat → Nat} {M0 MF : Mem} {r : Int32} (l0 : Nat) (l1 : Int32) (l2 : Int32) (M : Mem) (h : f_X12_reaches l0 l1 l2 M = some (r, MF)) : V G (RX12, cX12_reaches, (some .boolean), 1, 21, 3, "reaches", []) (ρ0, M0, cvI r, MF) 0 [(0, .ref l0), (1, .int l1), (2, .int l2)] [] M := by
  unfold f_X12_reaches at h
  replace h := (ifS h).2
  refine v_aload_n dX12_reaches_0 rfl 0 rfl ?_
  refine v_iload_n dX12_reaches_1 rfl 1 rfl ?_
  obtain ⟨v2, M1, e, h⟩ := bindP_some h
  refine ca_X12_219 e dX12_reaches_2 (Nat.le_of_ble_eq_true rfl) (by decide) ?_
  refine v_if_eq (tgt := 32) dX12_reaches_5 (by decide) (fun c6 => ?_) (fun c6 => ?_)
  · replace h := ifP c6 h
    refine v_iload_n dX12_reaches_32 rfl 2 rfl ?_
    refine v_aload_n dX12_reaches_33 rfl 0 rfl ?_
    obtain ⟨v3, e, h⟩ := bind_some h
    refine gt_X12_9 e dX12_reaches_34 ?_
    refine v_sipush (v := 518) dX12_reaches_37 cs_518 ?_
    refine v_iload_n dX12_reaches_40 rfl 1 rfl ?_
    refine v_iadd dX12_reaches_41 ?_
    obtain ⟨v4, e, h⟩ := bind_some h
    refine v_iaload dX12_reaches_42 e ?_
    refine v_icmp_ne (tgt := 50) dX12_reaches_43 (by decide) (fun c5 => ?_) (fun c5 => ?_)
    · replace h := ifN c5 h
      refine v_iconst (v := 0) dX12_reaches_50 ci_0 ?_
      obtain ⟨hz, rfl, rfl⟩ := okZ_some h
      exact v_zreturn dX12_reaches_51 hz
    · replace h := ifP c5 h
      refine v_iconst (v := 1) dX12_reaches_46 ci_1 ?_
      refine v_goto (tgt := 51) dX12_reaches_47 (by decide) ?_
      obtain ⟨hz, rfl, rfl⟩ := okZ_some h
      exact v_zreturn dX12_reaches_51 hz
  · replace h := ifN c6 h
    refine v_iload_n dX12_reaches_8 rfl 2 rfl ?_
    refine v_aload_n dX12_reaches_9 rfl 0 rfl ?_
    obtain ⟨v3, e, h⟩ := bind_some h
    refine gt_X12_9 e dX12_reaches_10 ?_
    refine v_sipush (v := 518) dX12_reaches_13 cs_518 ?_
    refine v_iload_n dX12_reaches_16 rfl 1 rfl ?_
    refine v_iadd dX12_reaches_17 ?_
    obtain ⟨v4, e, h⟩ := bind_some h
    refine v_iaload dX12_reaches_18 e ?_
    refine v_iconst (v := 1) dX12_reaches_19 ci_1 ?_
    refine v_isub dX12_reaches_20 ?_
    refine v_icmp_lt (tgt := 28) dX12_reaches_21 (by decide) (fun c5 => ?_) (fun c5 => ?_)
    · replace h := ifP c5 h
      refine v_iconst (v := 0) dX12_reaches_28 ci_0 ?_
      refine v_goto (tgt := 51) dX12_reaches_29 (by decide) ?_
      obtain ⟨hz, rfl, rfl⟩ := okZ_some h
      exact v_zreturn dX12_reaches_51 hz
    · replace h := ifN c5 h
      refine v_iconst (v := 1) dX12_reaches_24 ci_1 ?_
      refine v_goto (tgt := 51) dX12_reaches_25 (by decide) ?_
      obtain ⟨hz, rfl, rfl⟩ := okZ_some h
      exact v_zreturn dX12_reaches_51 hz
theorem kd_X12_reaches {l0 : Nat} {l1 : Int32} {l2 : Int32} {M : Mem} {z : _} (h : f_X12_reaches l0 l1 l2 M = some z) : (mK M l0).1 = 12 := by
  unfold f_X12_reaches at h
  exact (ifS h).1
theorem k_X12_reaches {G : Gl} {l0 : Nat} {l1 : Int32} {l2 : Int32} {M MF : Mem} {r : Int32} (h : f_X12_reaches l0 l1 l2 M = some (r, MF)) : CtrP G yX12_reaches cX12_reaches 3 (some .boolean) 1 21 [.ref l0, .int l1, .int l2] M (cvI r) MF :=
  ctr_of (by decide +kernel) (Nat.le_of_ble_eq_true rfl) (fun ρ => w_X12_reaches l0 l1 l2 M h)
theorem wd_X12_222 : wdV RX12 222 RX12 yX12_reaches cX12_reaches 3 (some .boolean) 2 := ⟨gwi 1468 (by decide +kernel) (by decide +kernel), gwi 1470 (by decide +kernel) (by decide +kernel), gwi 63 (by decide +kernel) (by decide +kernel), nw_X12, gwi 1471 (by decide +kernel) (by decide +kernel), ⟨rfl, by decide +kernel, by decide +kernel, by decide +kernel⟩⟩
theorem ca_X12_222 {G : Gl} {B : Bx} {cc : ByteArray} {ret : Option FieldType} {fr lo nL : Nat} {mn : String} {hh : List (Nat × Nat × Nat × Nat)} {pc : Nat} {ls : List (Nat × Value)} {st : List Value} {M M1 : Mem} {l0 : Nat} {l1 : Int32} {l2 : Int32} {x : Int32} (e : f_X12_reaches l0 l1 l2 M = some (x, M1)) (hd : decode cc pc = .ok (.invokevirtual 222, 3)) (hcat : (st.map fun v => v.category).sum ≤ 8) (hR : 1 + 1 ≤ fr ∧ 8 + (3 + 11) + 21 ≤ lo) (k : V G (RX12, cc, ret, fr, lo, nL, mn, hh) B (pc + 3) ls (.int x :: st) M1) : V G (RX12, cc, ret, fr, lo, nL, mn, hh) B pc ls (.int l2 :: .int l1 :: .ref l0 :: st) M := v_callVi (As := [.int l1, .int l2]) (k_X12_reaches e) wd_X12_222 clX12 (kd_X12_reaches e) hd rfl rfl hcat hR k
set_option maxHeartbeats 4000000 in
set_option maxRecDepth 100000 in
theorem w_X12_levelAt {G : Gl} {ρ0 : Nat → Nat} {M0 MF : Mem} {r : Int64} (l0 : Nat) (l1 : Int32) (l2 : Int32) (M : Mem) (h : f_X12_levelAt l0 l1 l2 M = some (r, MF)) : V G (RX12, cX12_levelAt, (some .long), 0, 0, 3, "levelAt", []) (ρ0, M0, cvL r, MF) 0 [(0, .ref l0), (1, .int l1), (2, .int l2)] [] M := by
  unfold f_X12_levelAt at h
  replace h := (ifS h).2
  refine v_iload_n dX12_levelAt_0 rfl 2 rfl ?_
  refine v_aload_n dX12_levelAt_1 rfl 0 rfl ?_
  obtain ⟨v1, e, h⟩ := bind_some h
  refine gt_X12_9 e dX12_levelAt_2 ?_
  refine v_sipush (v := 518) dX12_levelAt_5 cs_518 ?_
  refine v_iload_n dX12_levelAt_8 rfl 1 rfl ?_
  refine v_iadd dX12_levelAt_9 ?_
  obtain ⟨v2, e, h⟩ := bind_some h
  refine v_iaload dX12_levelAt_10 e ?_
  refine v_icmp_ge (tgt := 34) dX12_levelAt_11 (by decide) (fun c8 => ?_) (fun c8 => ?_)
  · replace h := ifP c8 h
    refine kl_X12_76 dX12_levelAt_34 ?_
    refine v_goto (tgt := 53) dX12_levelAt_37 (by decide) ?_
    cases h
    exact v_lreturn dX12_levelAt_53
  · replace h := ifN c8 h
    refine v_aload_n dX12_levelAt_14 rfl 0 rfl ?_
    obtain ⟨v3, e, h⟩ := bind_some h
    refine gt_X12_13 e dX12_levelAt_15 ?_
    refine v_bipush (v := 24) dX12_levelAt_18 cb_24 ?_
    refine v_iconst (v := 4) dX12_levelAt_20 ci_4 ?_
    refine v_iload_n dX12_levelAt_21 rfl 1 rfl ?_
    refine v_imul dX12_levelAt_22 ?_
    refine v_iadd dX12_levelAt_23 ?_
    refine v_iload_n dX12_levelAt_24 rfl 2 rfl ?_
    refine v_iadd dX12_levelAt_25 ?_
    obtain ⟨v4, e, h⟩ := bind_some h
    refine v_laload dX12_levelAt_26 e ?_
    refine kl_X12_74 dX12_levelAt_27 ?_
    refine v_lcmp dX12_levelAt_30 ?_
    refine v_if_ne (tgt := 40) dX12_levelAt_31 (by decide) (fun c7 => ?_) (fun c7 => ?_)
    · replace h := ifN c7 h
      refine v_aload_n dX12_levelAt_40 rfl 0 rfl ?_
      obtain ⟨v5, e, h⟩ := bind_some h
      refine gt_X12_13 e dX12_levelAt_41 ?_
      refine v_bipush (v := 24) dX12_levelAt_44 cb_24 ?_
      refine v_iconst (v := 4) dX12_levelAt_46 ci_4 ?_
      refine v_iload_n dX12_levelAt_47 rfl 1 rfl ?_
      refine v_imul dX12_levelAt_48 ?_
      refine v_iadd dX12_levelAt_49 ?_
      refine v_iload_n dX12_levelAt_50 rfl 2 rfl ?_
      refine v_iadd dX12_levelAt_51 ?_
      obtain ⟨v6, e, h⟩ := bind_some h
      refine v_laload dX12_levelAt_52 e ?_
      cases h
      exact v_lreturn dX12_levelAt_53
    · replace h := ifP c7 h
      refine kl_X12_76 dX12_levelAt_34 ?_
      refine v_goto (tgt := 53) dX12_levelAt_37 (by decide) ?_
      cases h
      exact v_lreturn dX12_levelAt_53
theorem kd_X12_levelAt {l0 : Nat} {l1 : Int32} {l2 : Int32} {M : Mem} {z : _} (h : f_X12_levelAt l0 l1 l2 M = some z) : (mK M l0).1 = 12 := by
  unfold f_X12_levelAt at h
  exact (ifS h).1
theorem k_X12_levelAt {G : Gl} {l0 : Nat} {l1 : Int32} {l2 : Int32} {M MF : Mem} {r : Int64} (h : f_X12_levelAt l0 l1 l2 M = some (r, MF)) : CtrP G yX12_levelAt cX12_levelAt 3 (some .long) 0 0 [.ref l0, .int l1, .int l2] M (cvL r) MF :=
  ctr_of (by decide +kernel) (Nat.le_of_ble_eq_true rfl) (fun ρ => w_X12_levelAt l0 l1 l2 M h)
theorem wd_X12_225 : wdV RX12 225 RX12 yX12_levelAt cX12_levelAt 3 (some .long) 2 := ⟨gwi 1476 (by decide +kernel) (by decide +kernel), gwi 1478 (by decide +kernel) (by decide +kernel), gwi 65 (by decide +kernel) (by decide +kernel), nw_X12, gwi 1479 (by decide +kernel) (by decide +kernel), ⟨rfl, by decide +kernel, by decide +kernel, by decide +kernel⟩⟩
theorem ca_X12_225 {G : Gl} {B : Bx} {cc : ByteArray} {ret : Option FieldType} {fr lo nL : Nat} {mn : String} {hh : List (Nat × Nat × Nat × Nat)} {pc : Nat} {ls : List (Nat × Value)} {st : List Value} {M M1 : Mem} {l0 : Nat} {l1 : Int32} {l2 : Int32} {x : Int64} (e : f_X12_levelAt l0 l1 l2 M = some (x, M1)) (hd : decode cc pc = .ok (.invokevirtual 225, 3)) (hcat : (st.map fun v => v.category).sum ≤ 8) (hR : 0 + 1 ≤ fr ∧ 8 + (3 + 11) + 0 ≤ lo) (k : V G (RX12, cc, ret, fr, lo, nL, mn, hh) B (pc + 3) ls (.long x :: st) M1) : V G (RX12, cc, ret, fr, lo, nL, mn, hh) B pc ls (.int l2 :: .int l1 :: .ref l0 :: st) M := v_callVl (As := [.int l1, .int l2]) (k_X12_levelAt e) wd_X12_225 clX12 (kd_X12_levelAt e) hd rfl rfl hcat hR k
set_option maxHeartbeats 4000000 in
set_option maxRecDepth 100000 in
theorem w_X12_areMeeting_J112 {G : Gl} {ρ0 : Nat → Nat} {M0 MF : Mem} {r : Int32} (k5 : Nat → Int32 → Int32 → Int32 → Int32 → Mem → Option (Int32 × Mem)) (h5 : ∀ (l0 : Nat) (l1 : Int32) (l2 : Int32) (l3 : Int32) (l4 : Int32) (M : Mem), k5 l0 l1 l2 l3 l4 M = some (r, MF) → V G (RX12, cX12_areMeeting, (some .boolean), 2, 43, 7, "areMeeting", []) (ρ0, M0, cvI r, MF) 5 [(0, .ref l0), (1, .int l1), (2, .int l2), (3, .int l3), (4, .int l4)] [] M) (l0 : Nat) (l1 : Int32) (l2 : Int32) (l3 : Int32) (l4 : Int32) (l5 : Int32) (M : Mem) (h : f_X12_areMeeting_J112 k5 l0 l1 l2 l3 l4 l5 M = some (r, MF)) : V G (RX12, cX12_areMeeting, (some .boolean), 2, 43, 7, "areMeeting", []) (ρ0, M0, cvI r, MF) 112 [(0, .ref l0), (1, .int l1), (2, .int l2), (3, .int l3), (4, .int l4), (5, .int l5)] [] M := by
  unfold f_X12_areMeeting_J112 at h
  refine v_iload_n dX12_areMeeting_112 rfl 3 rfl ?_
  refine v_if_ne (tgt := 121) dX12_areMeeting_113 (by decide) (fun c2 => ?_) (fun c2 => ?_)
  · replace h := ifN c2 h
    refine v_iconst (v := 1) dX12_areMeeting_121 ci_1 ?_
    refine v_goto (tgt := 126) dX12_areMeeting_122 (by decide) ?_
    refine v_istore_n (ls' := [(3, .int (1 : Int32)), (0, .ref l0), (1, .int l1), (2, .int l2), (4, .int l4), (5, .int l5)]) dX12_areMeeting_126 rfl (by decide) rfl ?_
    refine v_iinc (ls' := [(4, .int (l4 + 1)), (3, .int (1 : Int32)), (0, .ref l0), (1, .int l1), (2, .int l2), (5, .int l5)]) dX12_areMeeting_127 4 rfl (v := 1) ci_1 (by decide) rfl ?_
    refine v_goto (tgt := 5) dX12_areMeeting_130 (by decide) ?_
    refine v_sub [2, 3, 4, 1, 0] rfl ?_
    exact h5 l0 l1 l2 (1 : Int32) (l4 + 1) M h
  · replace h := ifP c2 h
    refine v_iload dX12_areMeeting_116 5 rfl ?_
    refine v_if_eq (tgt := 125) dX12_areMeeting_118 (by decide) (fun c1 => ?_) (fun c1 => ?_)
    · replace h := ifP c1 h
      refine v_iconst (v := 0) dX12_areMeeting_125 ci_0 ?_
      refine v_istore_n (ls' := [(3, .int (0 : Int32)), (0, .ref l0), (1, .int l1), (2, .int l2), (4, .int l4), (5, .int l5)]) dX12_areMeeting_126 rfl (by decide) rfl ?_
      refine v_iinc (ls' := [(4, .int (l4 + 1)), (3, .int (0 : Int32)), (0, .ref l0), (1, .int l1), (2, .int l2), (5, .int l5)]) dX12_areMeeting_127 4 rfl (v := 1) ci_1 (by decide) rfl ?_
      refine v_goto (tgt := 5) dX12_areMeeting_130 (by decide) ?_
      refine v_sub [2, 3, 4, 1, 0] rfl ?_
      exact h5 l0 l1 l2 (0 : Int32) (l4 + 1) M h
    · replace h := ifN c1 h
      refine v_iconst (v := 1) dX12_areMeeting_121 ci_1 ?_
      refine v_goto (tgt := 126) dX12_areMeeting_122 (by decide) ?_
      refine v_istore_n (ls' := [(3, .int (1 : Int32)), (0, .ref l0), (1, .int l1), (2, .int l2), (4, .int l4), (5, .int l5)]) dX12_areMeeting_126 rfl (by decide) rfl ?_
      refine v_iinc (ls' := [(4, .int (l4 + 1)), (3, .int (1 : Int32)), (0, .ref l0), (1, .int l1), (2, .int l2), (5, .int l5)]) dX12_areMeeting_127 4 rfl (v := 1) ci_1 (by decide) rfl ?_
      refine v_goto (tgt := 5) dX12_areMeeting_130 (by decide) ?_
      refine v_sub [2, 3, 4, 1, 0] rfl ?_
      exact h5 l0 l1 l2 (1 : Int32) (l4 + 1) M h
set_option maxHeartbeats 4000000 in
set_option maxRecDepth 100000 in
theorem w_X12_areMeeting_L41 {G : Gl} {ρ0 : Nat → Nat} {M0 MF : Mem} {r : Int32} (k5 : Nat → Int32 → Int32 → Int32 → Int32 → Mem → Option (Int32 × Mem)) (h5 : ∀ (l0 : Nat) (l1 : Int32) (l2 : Int32) (l3 : Int32) (l4 : Int32) (M : Mem), k5 l0 l1 l2 l3 l4 M = some (r, MF) → V G (RX12, cX12_areMeeting, (some .boolean), 2, 43, 7, "areMeeting", []) (ρ0, M0, cvI r, MF) 5 [(0, .ref l0), (1, .int l1), (2, .int l2), (3, .int l3), (4, .int l4)] [] M) : ∀ (n : Nat) (l0 : Nat) (l1 : Int32) (l2 : Int32) (l3 : Int32) (l4 : Int32) (l5 : Int32) (l6 : Int32) (M : Mem), f_X12_areMeeting_L41 n k5 l0 l1 l2 l3 l4 l5 l6 M = some (r, MF) → V G (RX12, cX12_areMeeting, (some .boolean), 2, 43, 7, "areMeeting", []) (ρ0, M0, cvI r, MF) 41 [(0, .ref l0), (1, .int l1), (2, .int l2), (3, .int l3), (4, .int l4), (5, .int l5), (6, .int l6)] [] M := by
  intro n
  induction n with
  | zero => intro l0 l1 l2 l3 l4 l5 l6 M h; cases h
  | succ n ih =>
    intro l0 l1 l2 l3 l4 l5 l6 M h
    rw [f_X12_areMeeting_L41] at h
    refine v_iload dX12_areMeeting_41 6 rfl ?_
    refine v_iload dX12_areMeeting_43 4 rfl ?_
    refine v_icmp_ge (tgt := 112) dX12_areMeeting_45 (by decide) (fun c13 => ?_) (fun c13 => ?_)
    · replace h := ifP c13 h
      refine v_sub [0, 1, 2, 3, 4, 5] rfl ?_
      exact w_X12_areMeeting_J112 k5 h5 l0 l1 l2 l3 l4 l5 M h
    · replace h := ifN c13 h
      refine v_iload dX12_areMeeting_48 5 rfl ?_
      refine v_if_eq (tgt := 112) dX12_areMeeting_50 (by decide) (fun c12 => ?_) (fun c12 => ?_)
      · replace h := ifP c12 h
        refine v_sub [0, 1, 2, 3, 4, 5] rfl ?_
        exact w_X12_areMeeting_J112 k5 h5 l0 l1 l2 l3 l4 l5 M h
      · replace h := ifN c12 h
        refine v_aload_n dX12_areMeeting_53 rfl 0 rfl ?_
        refine v_iload_n dX12_areMeeting_54 rfl 1 rfl ?_
        refine v_iload dX12_areMeeting_55 6 rfl ?_
        obtain ⟨v2, M1, e, h⟩ := bindP_some h
        refine ca_X12_225 e dX12_areMeeting_57 (Nat.le_of_ble_eq_true rfl) (by decide) ?_
        refine kl_X12_76 dX12_areMeeting_60 ?_
        refine v_lcmp dX12_areMeeting_63 ?_
        refine v_if_eq (tgt := 99) dX12_areMeeting_64 (by decide) (fun c11 => ?_) (fun c11 => ?_)
        · replace h := ifP c11 h
          refine v_iconst (v := 1) dX12_areMeeting_99 ci_1 ?_
          refine v_goto (tgt := 104) dX12_areMeeting_100 (by decide) ?_
          refine v_istore (ls' := [(5, .int (1 : Int32)), (0, .ref l0), (1, .int l1), (2, .int l2), (3, .int l3), (4, .int l4), (6, .int l6)]) dX12_areMeeting_104 (by decide) rfl ?_
          refine v_iinc (ls' := [(6, .int (l6 + 1)), (5, .int (1 : Int32)), (0, .ref l0), (1, .int l1), (2, .int l2), (3, .int l3), (4, .int l4)]) dX12_areMeeting_106 6 rfl (v := 1) ci_1 (by decide) rfl ?_
          refine v_goto (tgt := 41) dX12_areMeeting_109 (by decide) ?_
          refine v_sub [2, 3, 4, 5, 6, 1, 0] rfl ?_
          exact ih l0 l1 l2 l3 l4 (1 : Int32) (l6 + 1) M1 h
        · replace h := ifN c11 h
          refine v_aload_n dX12_areMeeting_67 rfl 0 rfl ?_
          refine v_iload_n dX12_areMeeting_68 rfl 2 rfl ?_
          refine v_iload dX12_areMeeting_69 6 rfl ?_
          obtain ⟨v4, M3, e, h⟩ := bindP_some h
          refine ca_X12_225 e dX12_areMeeting_71 (Nat.le_of_ble_eq_true rfl) (by decide) ?_
          refine kl_X12_76 dX12_areMeeting_74 ?_
          refine v_lcmp dX12_areMeeting_77 ?_
          refine v_if_eq (tgt := 99) dX12_areMeeting_78 (by decide) (fun c10 => ?_) (fun c10 => ?_)
          · replace h := ifP c10 h
            refine v_iconst (v := 1) dX12_areMeeting_99 ci_1 ?_
            refine v_goto (tgt := 104) dX12_areMeeting_100 (by decide) ?_
            refine v_istore (ls' := [(5, .int (1 : Int32)), (0, .ref l0), (1, .int l1), (2, .int l2), (3, .int l3), (4, .int l4), (6, .int l6)]) dX12_areMeeting_104 (by decide) rfl ?_
            refine v_iinc (ls' := [(6, .int (l6 + 1)), (5, .int (1 : Int32)), (0, .ref l0), (1, .int l1), (2, .int l2), (3, .int l3), (4, .int l4)]) dX12_areMeeting_106 6 rfl (v := 1) ci_1 (by decide) rfl ?_
            refine v_goto (tgt := 41) dX12_areMeeting_109 (by decide) ?_
            refine v_sub [2, 3, 4, 5, 6, 1, 0] rfl ?_
            exact ih l0 l1 l2 l3 l4 (1 : Int32) (l6 + 1) M3 h
          · replace h := ifN c10 h
            refine v_aload_n dX12_areMeeting_81 rfl 0 rfl ?_
            refine v_iload_n dX12_areMeeting_82 rfl 1 rfl ?_
            refine v_iload dX12_areMeeting_83 6 rfl ?_
            obtain ⟨v6, M5, e, h⟩ := bindP_some h
            refine ca_X12_225 e dX12_areMeeting_85 (Nat.le_of_ble_eq_true rfl) (by decide) ?_
            refine v_aload_n dX12_areMeeting_88 rfl 0 rfl ?_
            refine v_iload_n dX12_areMeeting_89 rfl 2 rfl ?_
            refine v_iload dX12_areMeeting_90 6 rfl ?_
            obtain ⟨v8, M7, e, h⟩ := bindP_some h
            refine ca_X12_225 e dX12_areMeeting_92 (Nat.le_of_ble_eq_true rfl) (by decide) ?_
            refine v_lcmp dX12_areMeeting_95 ?_
            refine v_if_ne (tgt := 103) dX12_areMeeting_96 (by decide) (fun c9 => ?_) (fun c9 => ?_)
            · replace h := ifN c9 h
              refine v_iconst (v := 0) dX12_areMeeting_103 ci_0 ?_
              refine v_istore (ls' := [(5, .int (0 : Int32)), (0, .ref l0), (1, .int l1), (2, .int l2), (3, .int l3), (4, .int l4), (6, .int l6)]) dX12_areMeeting_104 (by decide) rfl ?_
              refine v_iinc (ls' := [(6, .int (l6 + 1)), (5, .int (0 : Int32)), (0, .ref l0), (1, .int l1), (2, .int l2), (3, .int l3), (4, .int l4)]) dX12_areMeeting_106 6 rfl (v := 1) ci_1 (by decide) rfl ?_
              refine v_goto (tgt := 41) dX12_areMeeting_109 (by decide) ?_
              refine v_sub [2, 3, 4, 5, 6, 1, 0] rfl ?_
              exact ih l0 l1 l2 l3 l4 (0 : Int32) (l6 + 1) M7 h
            · replace h := ifP c9 h
              refine v_iconst (v := 1) dX12_areMeeting_99 ci_1 ?_
              refine v_goto (tgt := 104) dX12_areMeeting_100 (by decide) ?_
              refine v_istore (ls' := [(5, .int (1 : Int32)), (0, .ref l0), (1, .int l1), (2, .int l2), (3, .int l3), (4, .int l4), (6, .int l6)]) dX12_areMeeting_104 (by decide) rfl ?_
              refine v_iinc (ls' := [(6, .int (l6 + 1)), (5, .int (1 : Int32)), (0, .ref l0), (1, .int l1), (2, .int l2), (3, .int l3), (4, .int l4)]) dX12_areMeeting_106 6 rfl (v := 1) ci_1 (by decide) rfl ?_
              refine v_goto (tgt := 41) dX12_areMeeting_109 (by decide) ?_
              refine v_sub [2, 3, 4, 5, 6, 1, 0] rfl ?_
              exact ih l0 l1 l2 l3 l4 (1 : Int32) (l6 + 1) M7 h
set_option maxHeartbeats 4000000 in
set_option maxRecDepth 100000 in
theorem w_X12_areMeeting_L5 {G : Gl} {ρ0 : Nat → Nat} {M0 MF : Mem} {r : Int32} : ∀ (n : Nat) (l0 : Nat) (l1 : Int32) (l2 : Int32) (l3 : Int32) (l4 : Int32) (M : Mem), f_X12_areMeeting_L5 n l0 l1 l2 l3 l4 M = some (r, MF) → V G (RX12, cX12_areMeeting, (some .boolean), 2, 43, 7, "areMeeting", []) (ρ0, M0, cvI r, MF) 5 [(0, .ref l0), (1, .int l1), (2, .int l2), (3, .int l3), (4, .int l4)] [] M := by
  intro n
  induction n with
  | zero => intro l0 l1 l2 l3 l4 M h; cases h
  | succ n ih =>
    intro l0 l1 l2 l3 l4 M h
    rw [f_X12_areMeeting_L5] at h
    refine v_iload dX12_areMeeting_5 4 rfl ?_
    refine v_iconst (v := 4) dX12_areMeeting_7 ci_4 ?_
    refine v_icmp_gt (tgt := 133) dX12_areMeeting_8 (by decide) (fun c7 => ?_) (fun c7 => ?_)
    · replace h := ifP c7 h
      refine v_iload_n dX12_areMeeting_133 rfl 3 rfl ?_
      obtain ⟨hz, rfl, rfl⟩ := okZ_some h
      exact v_zreturn dX12_areMeeting_134 hz
    · replace h := ifN c7 h
      refine v_aload_n dX12_areMeeting_11 rfl 0 rfl ?_
      refine v_iload_n dX12_areMeeting_12 rfl 1 rfl ?_
      refine v_iload dX12_areMeeting_13 4 rfl ?_
      obtain ⟨v2, M1, e, h⟩ := bindP_some h
      refine ca_X12_222 e dX12_areMeeting_15 (Nat.le_of_ble_eq_true rfl) (by decide) ?_
      refine v_if_eq (tgt := 35) dX12_areMeeting_18 (by decide) (fun c6 => ?_) (fun c6 => ?_)
      · replace h := ifP c6 h
        refine v_iconst (v := 0) dX12_areMeeting_35 ci_0 ?_
        refine v_istore (ls' := [(5, .int (0 : Int32)), (0, .ref l0), (1, .int l1), (2, .int l2), (3, .int l3), (4, .int l4)]) dX12_areMeeting_36 (by decide) rfl ?_
        refine v_iconst (v := 0) dX12_areMeeting_38 ci_0 ?_
        refine v_istore (ls' := [(6, .int (0 : Int32)), (5, .int (0 : Int32)), (0, .ref l0), (1, .int l1), (2, .int l2), (3, .int l3), (4, .int l4)]) dX12_areMeeting_39 (by decide) rfl ?_
        refine v_sub [2, 3, 4, 5, 6, 1, 0] rfl ?_
        exact w_X12_areMeeting_L41 (f_X12_areMeeting_L5 n) ih FU l0 l1 l2 l3 l4 (0 : Int32) (0 : Int32) M1 h
      · replace h := ifN c6 h
        refine v_aload_n dX12_areMeeting_21 rfl 0 rfl ?_
        refine v_iload_n dX12_areMeeting_22 rfl 2 rfl ?_
        refine v_iload dX12_areMeeting_23 4 rfl ?_
        obtain ⟨v4, M3, e, h⟩ := bindP_some h
        refine ca_X12_222 e dX12_areMeeting_25 (Nat.le_of_ble_eq_true rfl) (by decide) ?_
        refine v_if_eq (tgt := 35) dX12_areMeeting_28 (by decide) (fun c5 => ?_) (fun c5 => ?_)
        · replace h := ifP c5 h
          refine v_iconst (v := 0) dX12_areMeeting_35 ci_0 ?_
          refine v_istore (ls' := [(5, .int (0 : Int32)), (0, .ref l0), (1, .int l1), (2, .int l2), (3, .int l3), (4, .int l4)]) dX12_areMeeting_36 (by decide) rfl ?_
          refine v_iconst (v := 0) dX12_areMeeting_38 ci_0 ?_
          refine v_istore (ls' := [(6, .int (0 : Int32)), (5, .int (0 : Int32)), (0, .ref l0), (1, .int l1), (2, .int l2), (3, .int l3), (4, .int l4)]) dX12_areMeeting_39 (by decide) rfl ?_
          refine v_sub [2, 3, 4, 5, 6, 1, 0] rfl ?_
          exact w_X12_areMeeting_L41 (f_X12_areMeeting_L5 n) ih FU l0 l1 l2 l3 l4 (0 : Int32) (0 : Int32) M3 h
        · replace h := ifN c5 h
          refine v_iconst (v := 1) dX12_areMeeting_31 ci_1 ?_
          refine v_goto (tgt := 36) dX12_areMeeting_32 (by decide) ?_
          refine v_istore (ls' := [(5, .int (1 : Int32)), (0, .ref l0), (1, .int l1), (2, .int l2), (3, .int l3), (4, .int l4)]) dX12_areMeeting_36 (by decide) rfl ?_
          refine v_iconst (v := 0) dX12_areMeeting_38 ci_0 ?_
          refine v_istore (ls' := [(6, .int (0 : Int32)), (5, .int (1 : Int32)), (0, .ref l0), (1, .int l1), (2, .int l2), (3, .int l3), (4, .int l4)]) dX12_areMeeting_39 (by decide) rfl ?_
          refine v_sub [2, 3, 4, 5, 6, 1, 0] rfl ?_
          exact w_X12_areMeeting_L41 (f_X12_areMeeting_L5 n) ih FU l0 l1 l2 l3 l4 (1 : Int32) (0 : Int32) M3 h
set_option maxHeartbeats 4000000 in
set_option maxRecDepth 100000 in
theorem w_X12_areMeeting {G : Gl} {ρ0 : Nat → Nat} {M0 MF : Mem} {r : Int32} (l0 : Nat) (l1 : Int32) (l2 : Int32) (M : Mem) (h : f_X12_areMeeting l0 l1 l2 M = some (r, MF)) : V G (RX12, cX12_areMeeting, (some .boolean), 2, 43, 7, "areMeeting", []) (ρ0, M0, cvI r, MF) 0 [(0, .ref l0), (1, .int l1), (2, .int l2)] [] M := by
  unfold f_X12_areMeeting at h
  replace h := (ifS h).2
  refine v_iconst (v := 0) dX12_areMeeting_0 ci_0 ?_
  refine v_istore_n (ls' := [(3, .int (0 : Int32)), (0, .ref l0), (1, .int l1), (2, .int l2)]) dX12_areMeeting_1 rfl (by decide) rfl ?_
  refine v_iconst (v := 1) dX12_areMeeting_2 ci_1 ?_
  refine v_istore (ls' := [(4, .int (1 : Int32)), (3, .int (0 : Int32)), (0, .ref l0), (1, .int l1), (2, .int l2)]) dX12_areMeeting_3 (by decide) rfl ?_
  refine v_sub [2, 3, 4, 1, 0] rfl ?_
  exact w_X12_areMeeting_L5 FU l0 l1 l2 (0 : Int32) (1 : Int32) M h
theorem kd_X12_areMeeting {l0 : Nat} {l1 : Int32} {l2 : Int32} {M : Mem} {z : _} (h : f_X12_areMeeting l0 l1 l2 M = some z) : (mK M l0).1 = 12 := by
  unfold f_X12_areMeeting at h
  exact (ifS h).1
theorem k_X12_areMeeting {G : Gl} {l0 : Nat} {l1 : Int32} {l2 : Int32} {M MF : Mem} {r : Int32} (h : f_X12_areMeeting l0 l1 l2 M = some (r, MF)) : CtrP G yX12_areMeeting cX12_areMeeting 7 (some .boolean) 2 43 [.ref l0, .int l1, .int l2] M (cvI r) MF :=
  ctr_of (by decide +kernel) (Nat.le_of_ble_eq_true rfl) (fun ρ => w_X12_areMeeting l0 l1 l2 M h)
theorem wd_X12_229 : wdV RX12 229 RX12 yX12_areMeeting cX12_areMeeting 7 (some .boolean) 2 := ⟨gwi 1464 (by decide +kernel) (by decide +kernel), gwi 1466 (by decide +kernel) (by decide +kernel), gwi 62 (by decide +kernel) (by decide +kernel), nw_X12, gwi 1467 (by decide +kernel) (by decide +kernel), ⟨rfl, by decide +kernel, by decide +kernel, by decide +kernel⟩⟩
theorem ca_X12_229 {G : Gl} {B : Bx} {cc : ByteArray} {ret : Option FieldType} {fr lo nL : Nat} {mn : String} {hh : List (Nat × Nat × Nat × Nat)} {pc : Nat} {ls : List (Nat × Value)} {st : List Value} {M M1 : Mem} {l0 : Nat} {l1 : Int32} {l2 : Int32} {x : Int32} (e : f_X12_areMeeting l0 l1 l2 M = some (x, M1)) (hd : decode cc pc = .ok (.invokevirtual 229, 3)) (hcat : (st.map fun v => v.category).sum ≤ 8) (hR : 2 + 1 ≤ fr ∧ 8 + (7 + 11) + 43 ≤ lo) (k : V G (RX12, cc, ret, fr, lo, nL, mn, hh) B (pc + 3) ls (.int x :: st) M1) : V G (RX12, cc, ret, fr, lo, nL, mn, hh) B pc ls (.int l2 :: .int l1 :: .ref l0 :: st) M := v_callVi (As := [.int l1, .int l2]) (k_X12_areMeeting e) wd_X12_229 clX12 (kd_X12_areMeeting e) hd rfl rfl hcat hR k
set_option maxHeartbeats 4000000 in
set_option maxRecDepth 100000 in
theorem w_X12_isOver_J80 {G : Gl} {ρ0 : Nat → Nat} {M0 MF : Mem} {r : Int32} (k5 : Nat → Int32 → Int32 → Int32 → Int32 → Mem → Option (Int32 × Mem)) (h5 : ∀ (l0 : Nat) (l1 : Int32) (l2 : Int32) (l3 : Int32) (l4 : Int32) (M : Mem), k5 l0 l1 l2 l3 l4 M = some (r, MF) → V G (RX12, cX12_isOver, (some .boolean), 2, 43, 7, "isOver", []) (ρ0, M0, cvI r, MF) 5 [(0, .ref l0), (1, .int l1), (2, .int l2), (3, .int l3), (4, .int l4)] [] M) (l0 : Nat) (l1 : Int32) (l2 : Int32) (l3 : Int32) (l4 : Int32) (l5 : Int32) (M : Mem) (h : f_X12_isOver_J80 k5 l0 l1 l2 l3 l4 l5 M = some (r, MF)) : V G (RX12, cX12_isOver, (some .boolean), 2, 43, 7, "isOver", []) (ρ0, M0, cvI r, MF) 80 [(0, .ref l0), (1, .int l1), (2, .int l2), (3, .int l3), (4, .int l4), (5, .int l5)] [] M := by
  unfold f_X12_isOver_J80 at h
  refine v_iload_n dX12_isOver_80 rfl 3 rfl ?_
  refine v_if_eq (tgt := 103) dX12_isOver_81 (by decide) (fun c5 => ?_) (fun c5 => ?_)
  · replace h := ifP c5 h
    refine v_iconst (v := 0) dX12_isOver_103 ci_0 ?_
    refine v_istore_n (ls' := [(3, .int (0 : Int32)), (0, .ref l0), (1, .int l1), (2, .int l2), (4, .int l4), (5, .int l5)]) dX12_isOver_104 rfl (by decide) rfl ?_
    refine v_iinc (ls' := [(4, .int (l4 + 1)), (3, .int (0 : Int32)), (0, .ref l0), (1, .int l1), (2, .int l2), (5, .int l5)]) dX12_isOver_105 4 rfl (v := 1) ci_1 (by decide) rfl ?_
    refine v_goto (tgt := 5) dX12_isOver_108 (by decide) ?_
    refine v_sub [2, 3, 4, 1, 0] rfl ?_
    exact h5 l0 l1 l2 (0 : Int32) (l4 + 1) M h
  · replace h := ifN c5 h
    refine v_iload dX12_isOver_84 5 rfl ?_
    refine v_if_ne (tgt := 99) dX12_isOver_86 (by decide) (fun c4 => ?_) (fun c4 => ?_)
    · replace h := ifN c4 h
      refine v_iconst (v := 1) dX12_isOver_99 ci_1 ?_
      refine v_goto (tgt := 104) dX12_isOver_100 (by decide) ?_
      refine v_istore_n (ls' := [(3, .int (1 : Int32)), (0, .ref l0), (1, .int l1), (2, .int l2), (4, .int l4), (5, .int l5)]) dX12_isOver_104 rfl (by decide) rfl ?_
      refine v_iinc (ls' := [(4, .int (l4 + 1)), (3, .int (1 : Int32)), (0, .ref l0), (1, .int l1), (2, .int l2), (5, .int l5)]) dX12_isOver_105 4 rfl (v := 1) ci_1 (by decide) rfl ?_
      refine v_goto (tgt := 5) dX12_isOver_108 (by decide) ?_
      refine v_sub [2, 3, 4, 1, 0] rfl ?_
      exact h5 l0 l1 l2 (1 : Int32) (l4 + 1) M h
    · replace h := ifP c4 h
      refine v_aload_n dX12_isOver_89 rfl 0 rfl ?_
      refine v_iload_n dX12_isOver_90 rfl 2 rfl ?_
      refine v_iload dX12_isOver_91 4 rfl ?_
      obtain ⟨v2, M1, e, h⟩ := bindP_some h
      refine ca_X12_222 e dX12_isOver_93 (Nat.le_of_ble_eq_true rfl) (by decide) ?_
      refine v_if_ne (tgt := 103) dX12_isOver_96 (by decide) (fun c3 => ?_) (fun c3 => ?_)
      · replace h := ifN c3 h
        refine v_iconst (v := 0) dX12_isOver_103 ci_0 ?_
        refine v_istore_n (ls' := [(3, .int (0 : Int32)), (0, .ref l0), (1, .int l1), (2, .int l2), (4, .int l4), (5, .int l5)]) dX12_isOver_104 rfl (by decide) rfl ?_
        refine v_iinc (ls' := [(4, .int (l4 + 1)), (3, .int (0 : Int32)), (0, .ref l0), (1, .int l1), (2, .int l2), (5, .int l5)]) dX12_isOver_105 4 rfl (v := 1) ci_1 (by decide) rfl ?_
        refine v_goto (tgt := 5) dX12_isOver_108 (by decide) ?_
        refine v_sub [2, 3, 4, 1, 0] rfl ?_
        exact h5 l0 l1 l2 (0 : Int32) (l4 + 1) M1 h
      · replace h := ifP c3 h
        refine v_iconst (v := 1) dX12_isOver_99 ci_1 ?_
        refine v_goto (tgt := 104) dX12_isOver_100 (by decide) ?_
        refine v_istore_n (ls' := [(3, .int (1 : Int32)), (0, .ref l0), (1, .int l1), (2, .int l2), (4, .int l4), (5, .int l5)]) dX12_isOver_104 rfl (by decide) rfl ?_
        refine v_iinc (ls' := [(4, .int (l4 + 1)), (3, .int (1 : Int32)), (0, .ref l0), (1, .int l1), (2, .int l2), (5, .int l5)]) dX12_isOver_105 4 rfl (v := 1) ci_1 (by decide) rfl ?_
        refine v_goto (tgt := 5) dX12_isOver_108 (by decide) ?_
        refine v_sub [2, 3, 4, 1, 0] rfl ?_
        exact h5 l0 l1 l2 (1 : Int32) (l4 + 1) M1 h
set_option maxHeartbeats 4000000 in
set_option maxRecDepth 100000 in
theorem w_X12_isOver_L23 {G : Gl} {ρ0 : Nat → Nat} {M0 MF : Mem} {r : Int32} (k5 : Nat → Int32 → Int32 → Int32 → Int32 → Mem → Option (Int32 × Mem)) (h5 : ∀ (l0 : Nat) (l1 : Int32) (l2 : Int32) (l3 : Int32) (l4 : Int32) (M : Mem), k5 l0 l1 l2 l3 l4 M = some (r, MF) → V G (RX12, cX12_isOver, (some .boolean), 2, 43, 7, "isOver", []) (ρ0, M0, cvI r, MF) 5 [(0, .ref l0), (1, .int l1), (2, .int l2), (3, .int l3), (4, .int l4)] [] M) : ∀ (n : Nat) (l0 : Nat) (l1 : Int32) (l2 : Int32) (l3 : Int32) (l4 : Int32) (l5 : Int32) (l6 : Int32) (M : Mem), f_X12_isOver_L23 n k5 l0 l1 l2 l3 l4 l5 l6 M = some (r, MF) → V G (RX12, cX12_isOver, (some .boolean), 2, 43, 7, "isOver", []) (ρ0, M0, cvI r, MF) 23 [(0, .ref l0), (1, .int l1), (2, .int l2), (3, .int l3), (4, .int l4), (5, .int l5), (6, .int l6)] [] M := by
  intro n
  induction n with
  | zero => intro l0 l1 l2 l3 l4 l5 l6 M h; cases h
  | succ n ih =>
    intro l0 l1 l2 l3 l4 l5 l6 M h
    rw [f_X12_isOver_L23] at h
    refine v_iload dX12_isOver_23 6 rfl ?_
    refine v_iload dX12_isOver_25 4 rfl ?_
    refine v_icmp_ge (tgt := 80) dX12_isOver_27 (by decide) (fun c10 => ?_) (fun c10 => ?_)
    · replace h := ifP c10 h
      refine v_sub [0, 1, 2, 3, 4, 5] rfl ?_
      exact w_X12_isOver_J80 k5 h5 l0 l1 l2 l3 l4 l5 M h
    · replace h := ifN c10 h
      refine v_iload dX12_isOver_30 5 rfl ?_
      refine v_if_eq (tgt := 80) dX12_isOver_32 (by decide) (fun c9 => ?_) (fun c9 => ?_)
      · replace h := ifP c9 h
        refine v_sub [0, 1, 2, 3, 4, 5] rfl ?_
        exact w_X12_isOver_J80 k5 h5 l0 l1 l2 l3 l4 l5 M h
      · replace h := ifN c9 h
        refine v_aload_n dX12_isOver_35 rfl 0 rfl ?_
        refine v_iload_n dX12_isOver_36 rfl 1 rfl ?_
        refine v_iload dX12_isOver_37 6 rfl ?_
        obtain ⟨v2, M1, e, h⟩ := bindP_some h
        refine ca_X12_225 e dX12_isOver_39 (Nat.le_of_ble_eq_true rfl) (by decide) ?_
        refine kl_X12_76 dX12_isOver_42 ?_
        refine v_lcmp dX12_isOver_45 ?_
        refine v_if_eq (tgt := 67) dX12_isOver_46 (by decide) (fun c8 => ?_) (fun c8 => ?_)
        · replace h := ifP c8 h
          refine v_iconst (v := 1) dX12_isOver_67 ci_1 ?_
          refine v_goto (tgt := 72) dX12_isOver_68 (by decide) ?_
          refine v_istore (ls' := [(5, .int (1 : Int32)), (0, .ref l0), (1, .int l1), (2, .int l2), (3, .int l3), (4, .int l4), (6, .int l6)]) dX12_isOver_72 (by decide) rfl ?_
          refine v_iinc (ls' := [(6, .int (l6 + 1)), (5, .int (1 : Int32)), (0, .ref l0), (1, .int l1), (2, .int l2), (3, .int l3), (4, .int l4)]) dX12_isOver_74 6 rfl (v := 1) ci_1 (by decide) rfl ?_
          refine v_goto (tgt := 23) dX12_isOver_77 (by decide) ?_
          refine v_sub [2, 3, 4, 5, 6, 1, 0] rfl ?_
          exact ih l0 l1 l2 l3 l4 (1 : Int32) (l6 + 1) M1 h
        · replace h := ifN c8 h
          refine v_aload_n dX12_isOver_49 rfl 0 rfl ?_
          refine v_iload_n dX12_isOver_50 rfl 1 rfl ?_
          refine v_iload dX12_isOver_51 6 rfl ?_
          obtain ⟨v4, M3, e, h⟩ := bindP_some h
          refine ca_X12_225 e dX12_isOver_53 (Nat.le_of_ble_eq_true rfl) (by decide) ?_
          refine v_aload_n dX12_isOver_56 rfl 0 rfl ?_
          refine v_iload_n dX12_isOver_57 rfl 2 rfl ?_
          refine v_iload dX12_isOver_58 6 rfl ?_
          obtain ⟨v6, M5, e, h⟩ := bindP_some h
          refine ca_X12_225 e dX12_isOver_60 (Nat.le_of_ble_eq_true rfl) (by decide) ?_
          refine v_lcmp dX12_isOver_63 ?_
          refine v_if_ne (tgt := 71) dX12_isOver_64 (by decide) (fun c7 => ?_) (fun c7 => ?_)
          · replace h := ifN c7 h
            refine v_iconst (v := 0) dX12_isOver_71 ci_0 ?_
            refine v_istore (ls' := [(5, .int (0 : Int32)), (0, .ref l0), (1, .int l1), (2, .int l2), (3, .int l3), (4, .int l4), (6, .int l6)]) dX12_isOver_72 (by decide) rfl ?_
            refine v_iinc (ls' := [(6, .int (l6 + 1)), (5, .int (0 : Int32)), (0, .ref l0), (1, .int l1), (2, .int l2), (3, .int l3), (4, .int l4)]) dX12_isOver_74 6 rfl (v := 1) ci_1 (by decide) rfl ?_
            refine v_goto (tgt := 23) dX12_isOver_77 (by decide) ?_
            refine v_sub [2, 3, 4, 5, 6, 1, 0] rfl ?_
            exact ih l0 l1 l2 l3 l4 (0 : Int32) (l6 + 1) M5 h
          · replace h := ifP c7 h
            refine v_iconst (v := 1) dX12_isOver_67 ci_1 ?_
            refine v_goto (tgt := 72) dX12_isOver_68 (by decide) ?_
            refine v_istore (ls' := [(5, .int (1 : Int32)), (0, .ref l0), (1, .int l1), (2, .int l2), (3, .int l3), (4, .int l4), (6, .int l6)]) dX12_isOver_72 (by decide) rfl ?_
            refine v_iinc (ls' := [(6, .int (l6 + 1)), (5, .int (1 : Int32)), (0, .ref l0), (1, .int l1), (2, .int l2), (3, .int l3), (4, .int l4)]) dX12_isOver_74 6 rfl (v := 1) ci_1 (by decide) rfl ?_
            refine v_goto (tgt := 23) dX12_isOver_77 (by decide) ?_
            refine v_sub [2, 3, 4, 5, 6, 1, 0] rfl ?_
            exact ih l0 l1 l2 l3 l4 (1 : Int32) (l6 + 1) M5 h
set_option maxHeartbeats 4000000 in
set_option maxRecDepth 100000 in
theorem w_X12_isOver_L5 {G : Gl} {ρ0 : Nat → Nat} {M0 MF : Mem} {r : Int32} : ∀ (n : Nat) (l0 : Nat) (l1 : Int32) (l2 : Int32) (l3 : Int32) (l4 : Int32) (M : Mem), f_X12_isOver_L5 n l0 l1 l2 l3 l4 M = some (r, MF) → V G (RX12, cX12_isOver, (some .boolean), 2, 43, 7, "isOver", []) (ρ0, M0, cvI r, MF) 5 [(0, .ref l0), (1, .int l1), (2, .int l2), (3, .int l3), (4, .int l4)] [] M := by
  intro n
  induction n with
  | zero => intro l0 l1 l2 l3 l4 M h; cases h
  | succ n ih =>
    intro l0 l1 l2 l3 l4 M h
    rw [f_X12_isOver_L5] at h
    refine v_iload dX12_isOver_5 4 rfl ?_
    refine v_iconst (v := 4) dX12_isOver_7 ci_4 ?_
    refine v_icmp_gt (tgt := 111) dX12_isOver_8 (by decide) (fun c3 => ?_) (fun c3 => ?_)
    · replace h := ifP c3 h
      refine v_iload_n dX12_isOver_111 rfl 3 rfl ?_
      obtain ⟨hz, rfl, rfl⟩ := okZ_some h
      exact v_zreturn dX12_isOver_112 hz
    · replace h := ifN c3 h
      refine v_aload_n dX12_isOver_11 rfl 0 rfl ?_
      refine v_iload_n dX12_isOver_12 rfl 1 rfl ?_
      refine v_iload dX12_isOver_13 4 rfl ?_
      obtain ⟨v2, M1, e, h⟩ := bindP_some h
      refine ca_X12_222 e dX12_isOver_15 (Nat.le_of_ble_eq_true rfl) (by decide) ?_
      refine v_istore (ls' := [(5, .int v2), (0, .ref l0), (1, .int l1), (2, .int l2), (3, .int l3), (4, .int l4)]) dX12_isOver_18 (by decide) rfl ?_
      refine v_iconst (v := 0) dX12_isOver_20 ci_0 ?_
      refine v_istore (ls' := [(6, .int (0 : Int32)), (5, .int v2), (0, .ref l0), (1, .int l1), (2, .int l2), (3, .int l3), (4, .int l4)]) dX12_isOver_21 (by decide) rfl ?_
      refine v_sub [2, 3, 4, 5, 6, 1, 0] rfl ?_
      exact w_X12_isOver_L23 (f_X12_isOver_L5 n) ih FU l0 l1 l2 l3 l4 v2 (0 : Int32) M1 h
set_option maxHeartbeats 4000000 in
set_option maxRecDepth 100000 in
theorem w_X12_isOver {G : Gl} {ρ0 : Nat → Nat} {M0 MF : Mem} {r : Int32} (l0 : Nat) (l1 : Int32) (l2 : Int32) (M : Mem) (h : f_X12_isOver l0 l1 l2 M = some (r, MF)) : V G (RX12, cX12_isOver, (some .boolean), 2, 43, 7, "isOver", []) (ρ0, M0, cvI r, MF) 0 [(0, .ref l0), (1, .int l1), (2, .int l2)] [] M := by
  unfold f_X12_isOver at h
  replace h := (ifS h).2
  refine v_iconst (v := 1) dX12_isOver_0 ci_1 ?_
  refine v_istore_n (ls' := [(3, .int (1 : Int32)), (0, .ref l0), (1, .int l1), (2, .int l2)]) dX12_isOver_1 rfl (by decide) rfl ?_
  refine v_iconst (v := 1) dX12_isOver_2 ci_1 ?_
  refine v_istore (ls' := [(4, .int (1 : Int32)), (3, .int (1 : Int32)), (0, .ref l0), (1, .int l1), (2, .int l2)]) dX12_isOver_3 (by decide) rfl ?_
  refine v_sub [2, 3, 4, 1, 0] rfl ?_
  exact w_X12_isOver_L5 FU l0 l1 l2 (1 : Int32) (1 : Int32) M h
theorem kd_X12_isOver {l0 : Nat} {l1 : Int32} {l2 : Int32} {M : Mem} {z : _} (h : f_X12_isOver l0 l1 l2 M = some z) : (mK M l0).1 = 12 := by
  unfold f_X12_isOver at h
  exact (ifS h).1
theorem k_X12_isOver {G : Gl} {l0 : Nat} {l1 : Int32} {l2 : Int32} {M MF : Mem} {r : Int32} (h : f_X12_isOver l0 l1 l2 M = some (r, MF)) : CtrP G yX12_isOver cX12_isOver 7 (some .boolean) 2 43 [.ref l0, .int l1, .int l2] M (cvI r) MF :=
  ctr_of (by decide +kernel) (Nat.le_of_ble_eq_true rfl) (fun ρ => w_X12_isOver l0 l1 l2 M h)
theorem wd_X12_232 : wdV RX12 232 RX12 yX12_isOver cX12_isOver 7 (some .boolean) 2 := ⟨gwi 1480 (by decide +kernel) (by decide +kernel), gwi 1482 (by decide +kernel) (by decide +kernel), gwi 66 (by decide +kernel) (by decide +kernel), nw_X12, gwi 1483 (by decide +kernel) (by decide +kernel), ⟨rfl, by decide +kernel, by decide +kernel, by decide +kernel⟩⟩
theorem ca_X12_232 {G : Gl} {B : Bx} {cc : ByteArray} {ret : Option FieldType} {fr lo nL : Nat} {mn : String} {hh : List (Nat × Nat × Nat × Nat)} {pc : Nat} {ls : List (Nat × Value)} {st : List Value} {M M1 : Mem} {l0 : Nat} {l1 : Int32} {l2 : Int32} {x : Int32} (e : f_X12_isOver l0 l1 l2 M = some (x, M1)) (hd : decode cc pc = .ok (.invokevirtual 232, 3)) (hcat : (st.map fun v => v.category).sum ≤ 8) (hR : 2 + 1 ≤ fr ∧ 8 + (7 + 11) + 43 ≤ lo) (k : V G (RX12, cc, ret, fr, lo, nL, mn, hh) B (pc + 3) ls (.int x :: st) M1) : V G (RX12, cc, ret, fr, lo, nL, mn, hh) B pc ls (.int l2 :: .int l1 :: .ref l0 :: st) M := v_callVi (As := [.int l1, .int l2]) (k_X12_isOver e) wd_X12_232 clX12 (kd_X12_isOver e) hd rfl rfl hcat hR k
