set_option maxHeartbeats 4000000 in
set_option maxRecDepth 100000 in
theorem w_X9_copyFrom_L10 {G : Gl} {ρ0 : Nat → Nat} {M0 MF : Mem} {r : Unit} : ∀ (n : Nat) (l0 : Nat) (l1 : Nat) (l2 : Int32) (M : Mem), f_X9_copyFrom_L10 n l0 l1 l2 M = some MF → V G (RX9, cX9_copyFrom, none, 0, 0, 3, "copyFrom", []) (ρ0, M0, cvV r, MF) 10 [(0, .ref l0), (1, .ref l1), (2, .int l2)] [] M := by
  intro n
  induction n with
  | zero => intro l0 l1 l2 M h; cases h
  | succ n ih =>
    intro l0 l1 l2 M h
    rw [f_X9_copyFrom_L10] at h
    refine v_iload_n dX9_copyFrom_10 rfl 2 rfl ?_
    refine v_aload_n dX9_copyFrom_11 rfl 0 rfl ?_
    obtain ⟨v1, e, h⟩ := bind_some h
    refine gt_X9_21 e dX9_copyFrom_12 ?_
    refine v_icmp_ge (tgt := 55) dX9_copyFrom_15 (by decide) (fun c11 => ?_) (fun c11 => ?_)
    · replace h := ifP c11 h
      cases h
      exact v_vreturn dX9_copyFrom_55
    · replace h := ifN c11 h
      refine v_iload_n dX9_copyFrom_18 rfl 2 rfl ?_
      refine v_sipush (v := 512) dX9_copyFrom_19 cs_512 ?_
      refine v_icmp_ge (tgt := 55) dX9_copyFrom_22 (by decide) (fun c10 => ?_) (fun c10 => ?_)
      · replace h := ifP c10 h
        cases h
        exact v_vreturn dX9_copyFrom_55
      · replace h := ifN c10 h
        refine v_aload_n dX9_copyFrom_25 rfl 0 rfl ?_
        obtain ⟨v2, e, h⟩ := bind_some h
        refine gt_X9_11 e dX9_copyFrom_26 ?_
        refine v_iload_n dX9_copyFrom_29 rfl 2 rfl ?_
        refine v_aload_n dX9_copyFrom_30 rfl 1 rfl ?_
        obtain ⟨v3, e, h⟩ := bind_some h
        refine gt_X9_11 e dX9_copyFrom_31 ?_
        refine v_iload_n dX9_copyFrom_34 rfl 2 rfl ?_
        obtain ⟨v4, e, h⟩ := bind_some h
        refine al_10 e dX9_copyFrom_35 ?_
        obtain ⟨M5, e, h⟩ := bind_some h
        refine as_10 e dX9_copyFrom_36 ?_
        refine v_aload_n dX9_copyFrom_37 rfl 0 rfl ?_
        obtain ⟨v6, e, h⟩ := bind_some h
        refine gt_X9_17 e dX9_copyFrom_38 ?_
        refine v_iload_n dX9_copyFrom_41 rfl 2 rfl ?_
        refine v_aload_n dX9_copyFrom_42 rfl 1 rfl ?_
        obtain ⟨v7, e, h⟩ := bind_some h
        refine gt_X9_17 e dX9_copyFrom_43 ?_
        refine v_iload_n dX9_copyFrom_46 rfl 2 rfl ?_
        obtain ⟨v8, e, h⟩ := bind_some h
        refine v_iaload dX9_copyFrom_47 e ?_
        obtain ⟨M9, e, h⟩ := bind_some h
        refine v_iastore dX9_copyFrom_48 e ?_
        refine v_iinc (ls' := [(2, .int (l2 + 1)), (0, .ref l0), (1, .ref l1)]) dX9_copyFrom_49 2 rfl (v := 1) ci_1 (by decide) rfl ?_
        refine v_goto (tgt := 10) dX9_copyFrom_52 (by decide) ?_
        refine v_sub [1, 2, 0] rfl ?_
        exact ih l0 l1 (l2 + 1) M9 h
set_option maxHeartbeats 4000000 in
set_option maxRecDepth 100000 in
theorem w_X9_copyFrom {G : Gl} {ρ0 : Nat → Nat} {M0 MF : Mem} {r : Unit} (l0 : Nat) (l1 : Nat) (M : Mem) (h : f_X9_copyFrom l0 l1 M = some MF) : V G (RX9, cX9_copyFrom, none, 0, 0, 3, "copyFrom", []) (ρ0, M0, cvV r, MF) 0 [(0, .ref l0), (1, .ref l1)] [] M := by
  unfold f_X9_copyFrom at h
  replace h := (ifS h).2
  refine v_aload_n dX9_copyFrom_0 rfl 0 rfl ?_
  refine v_aload_n dX9_copyFrom_1 rfl 1 rfl ?_
  obtain ⟨v1, e, h⟩ := bind_some h
  refine gt_X9_21 e dX9_copyFrom_2 ?_
  obtain ⟨M2, e, h⟩ := bind_some h
  refine pt_X9_21 e dX9_copyFrom_5 ?_
  refine v_iconst (v := 0) dX9_copyFrom_8 ci_0 ?_
  refine v_istore_n (ls' := [(2, .int (0 : Int32)), (0, .ref l0), (1, .ref l1)]) dX9_copyFrom_9 rfl (by decide) rfl ?_
  refine v_sub [1, 2, 0] rfl ?_
  exact w_X9_copyFrom_L10 FU l0 l1 (0 : Int32) M2 h
theorem kd_X9_copyFrom {l0 : Nat} {l1 : Nat} {M : Mem} {z : _} (h : f_X9_copyFrom l0 l1 M = some z) : (mK M l0).1 = 9 := by
  unfold f_X9_copyFrom at h
  exact (ifS h).1
theorem k_X9_copyFrom {G : Gl} {l0 : Nat} {l1 : Nat} {M MF : Mem} (h : f_X9_copyFrom l0 l1 M = some MF) : CtrP G yX9_copyFrom cX9_copyFrom 3 none 0 0 [.ref l0, .ref l1] M (cvV ()) MF :=
  ctr_of (by decide +kernel) (Nat.le_of_ble_eq_true rfl) (fun ρ => w_X9_copyFrom (r := ()) l0 l1 M h)
theorem wd_X7_76 : wdV RX7 76 RX9 yX9_copyFrom cX9_copyFrom 3 none 1 := ⟨gwi 565 (by decide +kernel) (by decide +kernel), gwi 566 (by decide +kernel) (by decide +kernel), gwi 567 (by decide +kernel) (by decide +kernel), nw_X9, gwi 568 (by decide +kernel) (by decide +kernel), ⟨rfl, by decide +kernel, by decide +kernel, by decide +kernel⟩⟩
theorem ca_X7_76 {G : Gl} {B : Bx} {cc : ByteArray} {ret : Option FieldType} {fr lo nL : Nat} {mn : String} {hh : List (Nat × Nat × Nat × Nat)} {pc : Nat} {ls : List (Nat × Value)} {st : List Value} {M M1 : Mem} {l0 : Nat} {l1 : Nat} (e : f_X9_copyFrom l0 l1 M = some M1) (hd : decode cc pc = .ok (.invokevirtual 76, 3)) (hcat : (st.map fun v => v.category).sum ≤ 8) (hR : 0 + 1 ≤ fr ∧ 8 + (3 + 11) + 0 ≤ lo) (k : V G (RX7, cc, ret, fr, lo, nL, mn, hh) B (pc + 3) ls (st) M1) : V G (RX7, cc, ret, fr, lo, nL, mn, hh) B pc ls (.ref l1 :: .ref l0 :: st) M := v_callV0 (As := [.ref l1]) (k_X9_copyFrom e) wd_X7_76 clX9 (kd_X9_copyFrom e) hd rfl rfl hcat hR k
set_option maxHeartbeats 4000000 in
set_option maxRecDepth 100000 in
theorem w_X7_copyFrom_L150 {G : Gl} {ρ0 : Nat → Nat} {M0 MF : Mem} {r : Unit} : ∀ (n : Nat) (l0 : Nat) (l1 : Nat) (l2 : Int32) (M : Mem), f_X7_copyFrom_L150 n l0 l1 l2 M = some MF → V G (RX7, cX7_copyFrom, none, 4, 86, 3, "copyFrom", []) (ρ0, M0, cvV r, MF) 150 [(0, .ref l0), (1, .ref l1), (2, .int l2)] [] M := by
  intro n
  induction n with
  | zero => intro l0 l1 l2 M h; cases h
  | succ n ih =>
    intro l0 l1 l2 M h
    rw [f_X7_copyFrom_L150] at h
    refine v_iload_n dX7_copyFrom_150 rfl 2 rfl ?_
    refine v_bipush (v := 10) dX7_copyFrom_151 cb_10 ?_
    refine v_icmp_ge (tgt := 174) dX7_copyFrom_153 (by decide) (fun c6 => ?_) (fun c6 => ?_)
    · replace h := ifP c6 h
      refine v_aload_n dX7_copyFrom_174 rfl 0 rfl ?_
      obtain ⟨v1, e, h⟩ := bind_some h
      refine gt_X7_51 e dX7_copyFrom_175 ?_
      refine v_aload_n dX7_copyFrom_178 rfl 1 rfl ?_
      obtain ⟨v2, e, h⟩ := bind_some h
      refine gt_X7_51 e dX7_copyFrom_179 ?_
      obtain ⟨M3, e, h⟩ := bind_some h
      refine ca_X7_76 e dX7_copyFrom_182 (Nat.le_of_ble_eq_true rfl) (by decide) ?_
      refine v_aload_n dX7_copyFrom_185 rfl 0 rfl ?_
      refine v_aload_n dX7_copyFrom_186 rfl 1 rfl ?_
      obtain ⟨v4, e, h⟩ := bind_some h
      refine gt_X7_79 e dX7_copyFrom_187 ?_
      obtain ⟨M5, e, h⟩ := bind_some h
      refine pt_X7_79 e dX7_copyFrom_190 ?_
      cases h
      exact v_vreturn dX7_copyFrom_193
    · replace h := ifN c6 h
      refine v_aload_n dX7_copyFrom_156 rfl 0 rfl ?_
      obtain ⟨v1, e, h⟩ := bind_some h
      refine gt_X7_45 e dX7_copyFrom_157 ?_
      refine v_iload_n dX7_copyFrom_160 rfl 2 rfl ?_
      refine v_aload_n dX7_copyFrom_161 rfl 1 rfl ?_
      obtain ⟨v2, e, h⟩ := bind_some h
      refine gt_X7_45 e dX7_copyFrom_162 ?_
      refine v_iload_n dX7_copyFrom_165 rfl 2 rfl ?_
      obtain ⟨v3, e, h⟩ := bind_some h
      refine v_iaload dX7_copyFrom_166 e ?_
      obtain ⟨M4, e, h⟩ := bind_some h
      refine v_iastore dX7_copyFrom_167 e ?_
      refine v_iinc (ls' := [(2, .int (l2 + 1)), (0, .ref l0), (1, .ref l1)]) dX7_copyFrom_168 2 rfl (v := 1) ci_1 (by decide) rfl ?_
      refine v_goto (tgt := 150) dX7_copyFrom_171 (by decide) ?_
      refine v_sub [1, 2, 0] rfl ?_
      exact ih l0 l1 (l2 + 1) M4 h
set_option maxHeartbeats 4000000 in
set_option maxRecDepth 100000 in
theorem w_X7_copyFrom_L121 {G : Gl} {ρ0 : Nat → Nat} {M0 MF : Mem} {r : Unit} : ∀ (n : Nat) (l0 : Nat) (l1 : Nat) (l2 : Int32) (M : Mem), f_X7_copyFrom_L121 n l0 l1 l2 M = some MF → V G (RX7, cX7_copyFrom, none, 4, 86, 3, "copyFrom", []) (ρ0, M0, cvV r, MF) 121 [(0, .ref l0), (1, .ref l1), (2, .int l2)] [] M := by
  intro n
  induction n with
  | zero => intro l0 l1 l2 M h; cases h
  | succ n ih =>
    intro l0 l1 l2 M h
    rw [f_X7_copyFrom_L121] at h
    refine v_iload_n dX7_copyFrom_121 rfl 2 rfl ?_
    refine v_aload_n dX7_copyFrom_122 rfl 0 rfl ?_
    obtain ⟨v1, e, h⟩ := bind_some h
    refine gt_X7_42 e dX7_copyFrom_123 ?_
    obtain ⟨v2, e, h⟩ := bind_some h
    refine v_alen dX7_copyFrom_126 e ?_
    refine v_icmp_ge (tgt := 148) dX7_copyFrom_127 (by decide) (fun c7 => ?_) (fun c7 => ?_)
    · replace h := ifP c7 h
      refine v_iconst (v := 0) dX7_copyFrom_148 ci_0 ?_
      refine v_istore_n (ls' := [(2, .int (0 : Int32)), (0, .ref l0), (1, .ref l1)]) dX7_copyFrom_149 rfl (by decide) rfl ?_
      refine v_sub [1, 2, 0] rfl ?_
      exact w_X7_copyFrom_L150 FU l0 l1 (0 : Int32) M h
    · replace h := ifN c7 h
      refine v_aload_n dX7_copyFrom_130 rfl 0 rfl ?_
      obtain ⟨v3, e, h⟩ := bind_some h
      refine gt_X7_42 e dX7_copyFrom_131 ?_
      refine v_iload_n dX7_copyFrom_134 rfl 2 rfl ?_
      refine v_aload_n dX7_copyFrom_135 rfl 1 rfl ?_
      obtain ⟨v4, e, h⟩ := bind_some h
      refine gt_X7_42 e dX7_copyFrom_136 ?_
      refine v_iload_n dX7_copyFrom_139 rfl 2 rfl ?_
      obtain ⟨v5, e, h⟩ := bind_some h
      refine v_iaload dX7_copyFrom_140 e ?_
      obtain ⟨M6, e, h⟩ := bind_some h
      refine v_iastore dX7_copyFrom_141 e ?_
      refine v_iinc (ls' := [(2, .int (l2 + 1)), (0, .ref l0), (1, .ref l1)]) dX7_copyFrom_142 2 rfl (v := 1) ci_1 (by decide) rfl ?_
      refine v_goto (tgt := 121) dX7_copyFrom_145 (by decide) ?_
      refine v_sub [1, 2, 0] rfl ?_
      exact ih l0 l1 (l2 + 1) M6 h
set_option maxHeartbeats 4000000 in
set_option maxRecDepth 100000 in
theorem w_X7_copyFrom_L84 {G : Gl} {ρ0 : Nat → Nat} {M0 MF : Mem} {r : Unit} : ∀ (n : Nat) (l0 : Nat) (l1 : Nat) (l2 : Int32) (M : Mem), f_X7_copyFrom_L84 n l0 l1 l2 M = some MF → V G (RX7, cX7_copyFrom, none, 4, 86, 3, "copyFrom", []) (ρ0, M0, cvV r, MF) 84 [(0, .ref l0), (1, .ref l1), (2, .int l2)] [] M := by
  intro n
  induction n with
  | zero => intro l0 l1 l2 M h; cases h
  | succ n ih =>
    intro l0 l1 l2 M h
    rw [f_X7_copyFrom_L84] at h
    refine v_iload_n dX7_copyFrom_84 rfl 2 rfl ?_
    refine v_aload_n dX7_copyFrom_85 rfl 0 rfl ?_
    obtain ⟨v1, e, h⟩ := bind_some h
    refine gt_X7_70 e dX7_copyFrom_86 ?_
    refine v_icmp_ge (tgt := 119) dX7_copyFrom_89 (by decide) (fun c8 => ?_) (fun c8 => ?_)
    · replace h := ifP c8 h
      refine v_iconst (v := 0) dX7_copyFrom_119 ci_0 ?_
      refine v_istore_n (ls' := [(2, .int (0 : Int32)), (0, .ref l0), (1, .ref l1)]) dX7_copyFrom_120 rfl (by decide) rfl ?_
      refine v_sub [1, 2, 0] rfl ?_
      exact w_X7_copyFrom_L121 FU l0 l1 (0 : Int32) M h
    · replace h := ifN c8 h
      refine v_iload_n dX7_copyFrom_92 rfl 2 rfl ?_
      refine v_bipush (v := 8) dX7_copyFrom_93 cb_8 ?_
      refine v_icmp_ge (tgt := 119) dX7_copyFrom_95 (by decide) (fun c7 => ?_) (fun c7 => ?_)
      · replace h := ifP c7 h
        refine v_iconst (v := 0) dX7_copyFrom_119 ci_0 ?_
        refine v_istore_n (ls' := [(2, .int (0 : Int32)), (0, .ref l0), (1, .ref l1)]) dX7_copyFrom_120 rfl (by decide) rfl ?_
        refine v_sub [1, 2, 0] rfl ?_
        exact w_X7_copyFrom_L121 FU l0 l1 (0 : Int32) M h
      · replace h := ifN c7 h
        refine v_aload_n dX7_copyFrom_98 rfl 0 rfl ?_
        obtain ⟨v2, e, h⟩ := bind_some h
        refine gt_X7_33 e dX7_copyFrom_99 ?_
        refine v_iload_n dX7_copyFrom_102 rfl 2 rfl ?_
        obtain ⟨v3, e, h⟩ := bind_some h
        refine al_1 e dX7_copyFrom_103 ?_
        refine v_aload_n dX7_copyFrom_104 rfl 1 rfl ?_
        obtain ⟨v4, e, h⟩ := bind_some h
        refine gt_X7_33 e dX7_copyFrom_105 ?_
        refine v_iload_n dX7_copyFrom_108 rfl 2 rfl ?_
        obtain ⟨v5, e, h⟩ := bind_some h
        refine al_1 e dX7_copyFrom_109 ?_
        obtain ⟨M6, e, h⟩ := bind_some h
        refine ca_X7_73 e dX7_copyFrom_110 (Nat.le_of_ble_eq_true rfl) (by decide) ?_
        refine v_iinc (ls' := [(2, .int (l2 + 1)), (0, .ref l0), (1, .ref l1)]) dX7_copyFrom_113 2 rfl (v := 1) ci_1 (by decide) rfl ?_
        refine v_goto (tgt := 84) dX7_copyFrom_116 (by decide) ?_
        refine v_sub [1, 2, 0] rfl ?_
        exact ih l0 l1 (l2 + 1) M6 h
set_option maxHeartbeats 4000000 in
set_option maxRecDepth 100000 in
theorem w_X7_copyFrom_J74 {G : Gl} {ρ0 : Nat → Nat} {M0 MF : Mem} {r : Unit} (l0 : Nat) (l1 : Nat) (M : Mem) (h : f_X7_copyFrom_J74 l0 l1 M = some MF) : V G (RX7, cX7_copyFrom, none, 4, 86, 3, "copyFrom", []) (ρ0, M0, cvV r, MF) 74 [(0, .ref l0), (1, .ref l1)] [] M := by
  unfold f_X7_copyFrom_J74 at h
  refine v_aload_n dX7_copyFrom_74 rfl 0 rfl ?_
  refine v_aload_n dX7_copyFrom_75 rfl 1 rfl ?_
  obtain ⟨v1, e, h⟩ := bind_some h
  refine gt_X7_70 e dX7_copyFrom_76 ?_
  obtain ⟨M2, e, h⟩ := bind_some h
  refine pt_X7_70 e dX7_copyFrom_79 ?_
  refine v_iconst (v := 0) dX7_copyFrom_82 ci_0 ?_
  refine v_istore_n (ls' := [(2, .int (0 : Int32)), (0, .ref l0), (1, .ref l1)]) dX7_copyFrom_83 rfl (by decide) rfl ?_
  refine v_sub [1, 2, 0] rfl ?_
  exact w_X7_copyFrom_L84 FU l0 l1 (0 : Int32) M2 h
set_option maxHeartbeats 4000000 in
set_option maxRecDepth 100000 in
theorem w_X7_copyFrom_L39 {G : Gl} {ρ0 : Nat → Nat} {M0 MF : Mem} {r : Unit} : ∀ (n : Nat) (l0 : Nat) (l1 : Nat) (l2 : Int32) (M : Mem), f_X7_copyFrom_L39 n l0 l1 l2 M = some MF → V G (RX7, cX7_copyFrom, none, 4, 86, 3, "copyFrom", []) (ρ0, M0, cvV r, MF) 39 [(0, .ref l0), (1, .ref l1), (2, .int l2)] [] M := by
  intro n
  induction n with
  | zero => intro l0 l1 l2 M h; cases h
  | succ n ih =>
    intro l0 l1 l2 M h
    rw [f_X7_copyFrom_L39] at h
    refine v_iload_n dX7_copyFrom_39 rfl 2 rfl ?_
    refine v_aload_n dX7_copyFrom_40 rfl 0 rfl ?_
    obtain ⟨v1, e, h⟩ := bind_some h
    refine gt_X7_63 e dX7_copyFrom_41 ?_
    refine v_icmp_ge (tgt := 74) dX7_copyFrom_44 (by decide) (fun c8 => ?_) (fun c8 => ?_)
    · replace h := ifP c8 h
      refine v_sub [0, 1] rfl ?_
      exact w_X7_copyFrom_J74 l0 l1 M h
    · replace h := ifN c8 h
      refine v_iload_n dX7_copyFrom_47 rfl 2 rfl ?_
      refine v_bipush (v := 36) dX7_copyFrom_48 cb_36 ?_
      refine v_icmp_ge (tgt := 74) dX7_copyFrom_50 (by decide) (fun c7 => ?_) (fun c7 => ?_)
      · replace h := ifP c7 h
        refine v_sub [0, 1] rfl ?_
        exact w_X7_copyFrom_J74 l0 l1 M h
      · replace h := ifN c7 h
        refine v_aload_n dX7_copyFrom_53 rfl 0 rfl ?_
        obtain ⟨v2, e, h⟩ := bind_some h
        refine gt_X7_26 e dX7_copyFrom_54 ?_
        refine v_iload_n dX7_copyFrom_57 rfl 2 rfl ?_
        obtain ⟨v3, e, h⟩ := bind_some h
        refine al_6 e dX7_copyFrom_58 ?_
        refine v_aload_n dX7_copyFrom_59 rfl 1 rfl ?_
        obtain ⟨v4, e, h⟩ := bind_some h
        refine gt_X7_26 e dX7_copyFrom_60 ?_
        refine v_iload_n dX7_copyFrom_63 rfl 2 rfl ?_
        obtain ⟨v5, e, h⟩ := bind_some h
        refine al_6 e dX7_copyFrom_64 ?_
        obtain ⟨M6, e, h⟩ := bind_some h
        refine ca_X7_67 e dX7_copyFrom_65 (Nat.le_of_ble_eq_true rfl) (by decide) ?_
        refine v_iinc (ls' := [(2, .int (l2 + 1)), (0, .ref l0), (1, .ref l1)]) dX7_copyFrom_68 2 rfl (v := 1) ci_1 (by decide) rfl ?_
        refine v_goto (tgt := 39) dX7_copyFrom_71 (by decide) ?_
        refine v_sub [1, 2, 0] rfl ?_
        exact ih l0 l1 (l2 + 1) M6 h
set_option maxHeartbeats 4000000 in
set_option maxRecDepth 100000 in
theorem w_X7_copyFrom_L2 {G : Gl} {ρ0 : Nat → Nat} {M0 MF : Mem} {r : Unit} : ∀ (n : Nat) (l0 : Nat) (l1 : Nat) (l2 : Int32) (M : Mem), f_X7_copyFrom_L2 n l0 l1 l2 M = some MF → V G (RX7, cX7_copyFrom, none, 4, 86, 3, "copyFrom", []) (ρ0, M0, cvV r, MF) 2 [(0, .ref l0), (1, .ref l1), (2, .int l2)] [] M := by
  intro n
  induction n with
  | zero => intro l0 l1 l2 M h; cases h
  | succ n ih =>
    intro l0 l1 l2 M h
    rw [f_X7_copyFrom_L2] at h
    refine v_iload_n dX7_copyFrom_2 rfl 2 rfl ?_
    refine v_bipush (v := 6) dX7_copyFrom_3 cb_6 ?_
    refine v_icmp_ge (tgt := 29) dX7_copyFrom_5 (by decide) (fun c6 => ?_) (fun c6 => ?_)
    · replace h := ifP c6 h
      refine v_aload_n dX7_copyFrom_29 rfl 0 rfl ?_
      refine v_aload_n dX7_copyFrom_30 rfl 1 rfl ?_
      obtain ⟨v1, e, h⟩ := bind_some h
      refine gt_X7_63 e dX7_copyFrom_31 ?_
      obtain ⟨M2, e, h⟩ := bind_some h
      refine pt_X7_63 e dX7_copyFrom_34 ?_
      refine v_iconst (v := 0) dX7_copyFrom_37 ci_0 ?_
      refine v_istore_n (ls' := [(2, .int (0 : Int32)), (0, .ref l0), (1, .ref l1)]) dX7_copyFrom_38 rfl (by decide) rfl ?_
      refine v_sub [1, 2, 0] rfl ?_
      exact w_X7_copyFrom_L39 FU l0 l1 (0 : Int32) M2 h
    · replace h := ifN c6 h
      refine v_aload_n dX7_copyFrom_8 rfl 0 rfl ?_
      obtain ⟨v1, e, h⟩ := bind_some h
      refine gt_X7_17 e dX7_copyFrom_9 ?_
      refine v_iload_n dX7_copyFrom_12 rfl 2 rfl ?_
      obtain ⟨v2, e, h⟩ := bind_some h
      refine al_0 e dX7_copyFrom_13 ?_
      refine v_aload_n dX7_copyFrom_14 rfl 1 rfl ?_
      obtain ⟨v3, e, h⟩ := bind_some h
      refine gt_X7_17 e dX7_copyFrom_15 ?_
      refine v_iload_n dX7_copyFrom_18 rfl 2 rfl ?_
      obtain ⟨v4, e, h⟩ := bind_some h
      refine al_0 e dX7_copyFrom_19 ?_
      obtain ⟨M5, e, h⟩ := bind_some h
      refine ca_X7_59 e dX7_copyFrom_20 (Nat.le_of_ble_eq_true rfl) (by decide) ?_
      refine v_iinc (ls' := [(2, .int (l2 + 1)), (0, .ref l0), (1, .ref l1)]) dX7_copyFrom_23 2 rfl (v := 1) ci_1 (by decide) rfl ?_
      refine v_goto (tgt := 2) dX7_copyFrom_26 (by decide) ?_
      refine v_sub [1, 2, 0] rfl ?_
      exact ih l0 l1 (l2 + 1) M5 h
set_option maxHeartbeats 4000000 in
set_option maxRecDepth 100000 in
theorem w_X7_copyFrom {G : Gl} {ρ0 : Nat → Nat} {M0 MF : Mem} {r : Unit} (l0 : Nat) (l1 : Nat) (M : Mem) (h : f_X7_copyFrom l0 l1 M = some MF) : V G (RX7, cX7_copyFrom, none, 4, 86, 3, "copyFrom", []) (ρ0, M0, cvV r, MF) 0 [(0, .ref l0), (1, .ref l1)] [] M := by
  unfold f_X7_copyFrom at h
  replace h := (ifS h).2
  refine v_iconst (v := 0) dX7_copyFrom_0 ci_0 ?_
  refine v_istore_n (ls' := [(2, .int (0 : Int32)), (0, .ref l0), (1, .ref l1)]) dX7_copyFrom_1 rfl (by decide) rfl ?_
  refine v_sub [1, 2, 0] rfl ?_
  exact w_X7_copyFrom_L2 FU l0 l1 (0 : Int32) M h
theorem kd_X7_copyFrom {l0 : Nat} {l1 : Nat} {M : Mem} {z : _} (h : f_X7_copyFrom l0 l1 M = some z) : (mK M l0).1 = 7 := by
  unfold f_X7_copyFrom at h
  exact (ifS h).1
theorem k_X7_copyFrom {G : Gl} {l0 : Nat} {l1 : Nat} {M MF : Mem} (h : f_X7_copyFrom l0 l1 M = some MF) : CtrP G yX7_copyFrom cX7_copyFrom 3 none 4 86 [.ref l0, .ref l1] M (cvV ()) MF :=
  ctr_of (by decide +kernel) (Nat.le_of_ble_eq_true rfl) (fun ρ => w_X7_copyFrom (r := ()) l0 l1 M h)
theorem wd_X11_343 : wdV RX11 343 RX7 yX7_copyFrom cX7_copyFrom 3 none 1 := ⟨gwi 527 (by decide +kernel) (by decide +kernel), gwi 528 (by decide +kernel) (by decide +kernel), gwi 529 (by decide +kernel) (by decide +kernel), nw_X7, gwi 530 (by decide +kernel) (by decide +kernel), ⟨rfl, by decide +kernel, by decide +kernel, by decide +kernel⟩⟩
theorem ca_X11_343 {G : Gl} {B : Bx} {cc : ByteArray} {ret : Option FieldType} {fr lo nL : Nat} {mn : String} {hh : List (Nat × Nat × Nat × Nat)} {pc : Nat} {ls : List (Nat × Value)} {st : List Value} {M M1 : Mem} {l0 : Nat} {l1 : Nat} (e : f_X7_copyFrom l0 l1 M = some M1) (hd : decode cc pc = .ok (.invokevirtual 343, 3)) (hcat : (st.map fun v => v.category).sum ≤ 8) (hR : 4 + 1 ≤ fr ∧ 8 + (3 + 11) + 86 ≤ lo) (k : V G (RX11, cc, ret, fr, lo, nL, mn, hh) B (pc + 3) ls (st) M1) : V G (RX11, cc, ret, fr, lo, nL, mn, hh) B pc ls (.ref l1 :: .ref l0 :: st) M := v_callV0 (As := [.ref l1]) (k_X7_copyFrom e) wd_X11_343 clX7 (kd_X7_copyFrom e) hd rfl rfl hcat hR k
set_option maxHeartbeats 4000000 in
set_option maxRecDepth 100000 in
theorem w_X7_leaveShare_L45 {G : Gl} {ρ0 : Nat → Nat} {M0 MF : Mem} {r : Unit} : ∀ (n : Nat) (l0 : Nat) (l3 : Nat) (l4 : Int32) (M : Mem), f_X7_leaveShare_L45 n l0 l3 l4 M = some MF → V G (RX7, cX7_leaveShare, none, 1, 23, 5, "leaveShare", []) (ρ0, M0, cvV r, MF) 45 [(0, .ref l0), (3, .ref l3), (4, .int l4)] [] M := by
  intro n
  induction n with
  | zero => intro l0 l3 l4 M h; cases h
  | succ n ih =>
    intro l0 l3 l4 M h
    rw [f_X7_leaveShare_L45] at h
    refine v_iload dX7_leaveShare_45 2 rfl ?_
    refine v_iconst (v := 1) dX7_leaveShare_47 ci_1 ?_
    refine v_iadd dX7_leaveShare_48 ?_
    refine v_aload_n dX7_leaveShare_49 rfl 0 rfl ?_
    obtain ⟨v1, e, h⟩ := bind_some h
    refine gt_X7_63 e dX7_leaveShare_50 ?_
    refine v_icmp_ge (tgt := 78) dX7_leaveShare_53 (by decide) (fun c7 => ?_) (fun c7 => ?_)
    · replace h := ifP c7 h
      refine v_aload_n dX7_leaveShare_78 rfl 0 rfl ?_
      obtain ⟨v2, e, h⟩ := bind_some h
      refine gt_X7_26 e dX7_leaveShare_79 ?_
      refine v_aload_n dX7_leaveShare_82 rfl 0 rfl ?_
      obtain ⟨v3, e, h⟩ := bind_some h
      refine gt_X7_63 e dX7_leaveShare_83 ?_
      refine v_iconst (v := 1) dX7_leaveShare_86 ci_1 ?_
      refine v_isub dX7_leaveShare_87 ?_
      refine v_aload_n dX7_leaveShare_88 rfl 1 rfl ?_
      obtain ⟨M4, e, h⟩ := bind_some h
      refine as_6 e dX7_leaveShare_89 ?_
      refine v_aload_n dX7_leaveShare_90 rfl 0 rfl ?_
      refine v_dup dX7_leaveShare_91 rfl ?_
      obtain ⟨v5, e, h⟩ := bind_some h
      refine gt_X7_63 e dX7_leaveShare_92 ?_
      refine v_iconst (v := 1) dX7_leaveShare_95 ci_1 ?_
      refine v_isub dX7_leaveShare_96 ?_
      obtain ⟨M6, e, h⟩ := bind_some h
      refine pt_X7_63 e dX7_leaveShare_97 ?_
      cases h
      exact v_vreturn dX7_leaveShare_100
    · replace h := ifN c7 h
      refine v_aload_n dX7_leaveShare_56 rfl 0 rfl ?_
      obtain ⟨v2, e, h⟩ := bind_some h
      refine gt_X7_26 e dX7_leaveShare_57 ?_
      refine v_iload dX7_leaveShare_60 2 rfl ?_
      refine v_aload_n dX7_leaveShare_62 rfl 0 rfl ?_
      obtain ⟨v3, e, h⟩ := bind_some h
      refine gt_X7_26 e dX7_leaveShare_63 ?_
      refine v_iload dX7_leaveShare_66 2 rfl ?_
      refine v_iconst (v := 1) dX7_leaveShare_68 ci_1 ?_
      refine v_iadd dX7_leaveShare_69 ?_
      obtain ⟨v4, e, h⟩ := bind_some h
      refine al_6 e dX7_leaveShare_70 ?_
      obtain ⟨M5, e, h⟩ := bind_some h
      refine as_6 e dX7_leaveShare_71 ?_
      refine v_iinc (ls' := [(4, .int (l4 + 1)), (0, .ref l0), (3, .ref l3)]) dX7_leaveShare_72 2 rfl (v := 1) ci_1 (by decide) rfl ?_
      refine v_goto (tgt := 45) dX7_leaveShare_75 (by decide) ?_
      refine v_sub [1, 2, 0] rfl ?_
      exact ih l0 l3 (l4 + 1) M5 h
set_option maxHeartbeats 4000000 in
set_option maxRecDepth 100000 in
theorem w_X7_leaveShare {G : Gl} {ρ0 : Nat → Nat} {M0 MF : Mem} {r : Unit} (l0 : Nat) (l1 : Int32) (l2 : Int32) (M : Mem) (h : f_X7_leaveShare l0 l1 l2 M = some MF) : V G (RX7, cX7_leaveShare, none, 1, 23, 5, "leaveShare", []) (ρ0, M0, cvV r, MF) 0 [(0, .ref l0), (1, .int l1), (2, .int l2)] [] M := by
  unfold f_X7_leaveShare at h
  replace h := (ifS h).2
  refine v_iload_n dX7_leaveShare_0 rfl 1 rfl ?_
  refine v_if_lt (tgt := 21) dX7_leaveShare_1 (by decide) (fun c10 => ?_) (fun c10 => ?_)
  · replace h := ifP c10 h
    cases h
    exact v_vreturn dX7_leaveShare_21
  · replace h := ifN c10 h
    refine v_iload_n dX7_leaveShare_4 rfl 1 rfl ?_
    refine v_aload_n dX7_leaveShare_5 rfl 0 rfl ?_
    obtain ⟨v1, e, h⟩ := bind_some h
    refine gt_X7_63 e dX7_leaveShare_6 ?_
    refine v_icmp_ge (tgt := 21) dX7_leaveShare_9 (by decide) (fun c9 => ?_) (fun c9 => ?_)
    · replace h := ifP c9 h
      cases h
      exact v_vreturn dX7_leaveShare_21
    · replace h := ifN c9 h
      refine v_aload_n dX7_leaveShare_12 rfl 0 rfl ?_
      obtain ⟨v2, e, h⟩ := bind_some h
      refine gt_X7_63 e dX7_leaveShare_13 ?_
      refine v_bipush (v := 36) dX7_leaveShare_16 cb_36 ?_
      refine v_icmp_le (tgt := 22) dX7_leaveShare_18 (by decide) (fun c8 => ?_) (fun c8 => ?_)
      · replace h := ifP c8 h
        refine v_aload_n dX7_leaveShare_22 rfl 0 rfl ?_
        obtain ⟨v3, e, h⟩ := bind_some h
        refine gt_X7_26 e dX7_leaveShare_23 ?_
        refine v_iload_n dX7_leaveShare_26 rfl 1 rfl ?_
        obtain ⟨v4, e, h⟩ := bind_some h
        refine al_6 e dX7_leaveShare_27 ?_
        refine v_astore_n (ls' := [(3, .ref v4), (0, .ref l0), (1, .int l1), (2, .int l2)]) dX7_leaveShare_28 rfl (by decide) rfl ?_
        refine v_aload_n dX7_leaveShare_29 rfl 0 rfl ?_
        refine v_iload_n dX7_leaveShare_30 rfl 3 rfl ?_
        obtain ⟨M5, e, h⟩ := bind_some h
        refine ca_X7_189 e dX7_leaveShare_31 (Nat.le_of_ble_eq_true rfl) (by decide) ?_
        refine v_aload_n dX7_leaveShare_34 rfl 0 rfl ?_
        obtain ⟨v6, e, h⟩ := bind_some h
        refine gt_X7_171 e dX7_leaveShare_35 ?_
        refine v_if_le (tgt := 42) dX7_leaveShare_38 (by decide) (fun c7 => ?_) (fun c7 => ?_)
        · replace h := ifP c7 h
          refine v_iload_n dX7_leaveShare_42 rfl 2 rfl ?_
          refine v_istore (ls' := [(4, .int l1), (3, .ref v4), (0, .ref l0), (1, .int l1), (2, .int l2)]) dX7_leaveShare_43 (by decide) rfl ?_
          refine v_sub [2, 1, 0] rfl ?_
          exact w_X7_leaveShare_L45 FU l0 v4 l1 M5 h
        · replace h := ifN c7 h
          cases h
          exact v_vreturn dX7_leaveShare_41
      · replace h := ifN c8 h
        cases h
        exact v_vreturn dX7_leaveShare_21
theorem kd_X7_leaveShare {l0 : Nat} {l1 : Int32} {l2 : Int32} {M : Mem} {z : _} (h : f_X7_leaveShare l0 l1 l2 M = some z) : (mK M l0).1 = 7 := by
  unfold f_X7_leaveShare at h
  exact (ifS h).1
theorem k_X7_leaveShare {G : Gl} {l0 : Nat} {l1 : Int32} {l2 : Int32} {M MF : Mem} (h : f_X7_leaveShare l0 l1 l2 M = some MF) : CtrP G yX7_leaveShare cX7_leaveShare 5 none 1 23 [.ref l0, .int l1, .int l2] M (cvV ()) MF :=
  ctr_of (by decide +kernel) (Nat.le_of_ble_eq_true rfl) (fun ρ => w_X7_leaveShare (r := ()) l0 l1 l2 M h)
theorem wd_X7_134 : wdV RX7 134 RX7 yX7_leaveShare cX7_leaveShare 5 none 2 := ⟨gwi 651 (by decide +kernel) (by decide +kernel), gwi 653 (by decide +kernel) (by decide +kernel), gwi 1 (by decide +kernel) (by decide +kernel), nw_X7, gwi 654 (by decide +kernel) (by decide +kernel), ⟨rfl, by decide +kernel, by decide +kernel, by decide +kernel⟩⟩
theorem ca_X7_134 {G : Gl} {B : Bx} {cc : ByteArray} {ret : Option FieldType} {fr lo nL : Nat} {mn : String} {hh : List (Nat × Nat × Nat × Nat)} {pc : Nat} {ls : List (Nat × Value)} {st : List Value} {M M1 : Mem} {l0 : Nat} {l1 : Int32} {l2 : Int32} (e : f_X7_leaveShare l0 l1 l2 M = some M1) (hd : decode cc pc = .ok (.invokevirtual 134, 3)) (hcat : (st.map fun v => v.category).sum ≤ 8) (hR : 1 + 1 ≤ fr ∧ 8 + (5 + 11) + 23 ≤ lo) (k : V G (RX7, cc, ret, fr, lo, nL, mn, hh) B (pc + 3) ls (st) M1) : V G (RX7, cc, ret, fr, lo, nL, mn, hh) B pc ls (.int l2 :: .int l1 :: .ref l0 :: st) M := v_callV0 (As := [.int l1, .int l2]) (k_X7_leaveShare e) wd_X7_134 clX7 (kd_X7_leaveShare e) hd rfl rfl hcat hR k
set_option maxHeartbeats 4000000 in
set_option maxRecDepth 100000 in
theorem w_X7_removeSession_L24 {G : Gl} {ρ0 : Nat → Nat} {M0 MF : Mem} {r : Unit} : ∀ (n : Nat) (l0 : Nat) (l1 : Int32) (l2 : Int32) (M : Mem), f_X7_removeSession_L24 n l0 l1 l2 M = some MF → V G (RX7, cX7_removeSession, none, 2, 47, 3, "removeSession", []) (ρ0, M0, cvV r, MF) 24 [(0, .ref l0), (1, .int l1), (2, .int l2)] [] M := by
  intro n
  induction n with
  | zero => intro l0 l1 l2 M h; cases h
  | succ n ih =>
    intro l0 l1 l2 M h
    rw [f_X7_removeSession_L24] at h
    refine v_iload_n dX7_removeSession_24 rfl 2 rfl ?_
    refine v_if_lt (tgt := 40) dX7_removeSession_25 (by decide) (fun c2 => ?_) (fun c2 => ?_)
    · replace h := ifP c2 h
      cases h
      exact v_vreturn dX7_removeSession_40
    · replace h := ifN c2 h
      refine v_aload_n dX7_removeSession_28 rfl 0 rfl ?_
      refine v_iload_n dX7_removeSession_29 rfl 2 rfl ?_
      refine v_iload_n dX7_removeSession_30 rfl 1 rfl ?_
      obtain ⟨M1, e, h⟩ := bind_some h
      refine ca_X7_134 e dX7_removeSession_31 (Nat.le_of_ble_eq_true rfl) (by decide) ?_
      refine v_iinc (ls' := [(2, .int (l2 + (-1))), (0, .ref l0), (1, .int l1)]) dX7_removeSession_34 2 rfl (v := (-1)) ci_m1 (by decide) rfl ?_
      refine v_goto (tgt := 24) dX7_removeSession_37 (by decide) ?_
      refine v_sub [1, 2, 0] rfl ?_
      exact ih l0 l1 (l2 + (-1)) M1 h
set_option maxHeartbeats 4000000 in
set_option maxRecDepth 100000 in
theorem w_X7_removeSession {G : Gl} {ρ0 : Nat → Nat} {M0 MF : Mem} {r : Unit} (l0 : Nat) (l1 : Int32) (M : Mem) (h : f_X7_removeSession l0 l1 M = some MF) : V G (RX7, cX7_removeSession, none, 2, 47, 3, "removeSession", []) (ρ0, M0, cvV r, MF) 0 [(0, .ref l0), (1, .int l1)] [] M := by
  unfold f_X7_removeSession at h
  replace h := (ifS h).2
  refine v_aload_n dX7_removeSession_0 rfl 0 rfl ?_
  obtain ⟨v1, e, h⟩ := bind_some h
  refine gt_X7_17 e dX7_removeSession_1 ?_
  refine v_iload_n dX7_removeSession_4 rfl 1 rfl ?_
  obtain ⟨v2, e, h⟩ := bind_some h
  refine al_0 e dX7_removeSession_5 ?_
  obtain ⟨v3, e, h⟩ := bind_some h
  refine gt_X7_95 e dX7_removeSession_6 ?_
  obtain ⟨M4, e, h⟩ := bind_some h
  refine ca_X7_127 e dX7_removeSession_9 (Nat.le_of_ble_eq_true rfl) (by decide) ?_
  refine v_aload_n dX7_removeSession_12 rfl 0 rfl ?_
  obtain ⟨v5, e, h⟩ := bind_some h
  refine gt_X7_63 e dX7_removeSession_13 ?_
  refine v_bipush (v := 36) dX7_removeSession_16 cb_36 ?_
  refine mx_X7_128 dX7_removeSession_18 (by decide) (Nat.le_of_ble_eq_true rfl) ?_
  refine v_iconst (v := 1) dX7_removeSession_21 ci_1 ?_
  refine v_isub dX7_removeSession_22 ?_
  refine v_istore_n (ls' := [(2, .int ((iminE v5 (36 : Int32)) - (1 : Int32))), (0, .ref l0), (1, .int l1)]) dX7_removeSession_23 rfl (by decide) rfl ?_
  refine v_sub [1, 2, 0] rfl ?_
  exact w_X7_removeSession_L24 FU l0 l1 ((iminE v5 (36 : Int32)) - (1 : Int32)) M4 h
theorem kd_X7_removeSession {l0 : Nat} {l1 : Int32} {M : Mem} {z : _} (h : f_X7_removeSession l0 l1 M = some z) : (mK M l0).1 = 7 := by
  unfold f_X7_removeSession at h
  exact (ifS h).1
theorem k_X7_removeSession {G : Gl} {l0 : Nat} {l1 : Int32} {M MF : Mem} (h : f_X7_removeSession l0 l1 M = some MF) : CtrP G yX7_removeSession cX7_removeSession 3 none 2 47 [.ref l0, .int l1] M (cvV ()) MF :=
  ctr_of (by decide +kernel) (Nat.le_of_ble_eq_true rfl) (fun ρ => w_X7_removeSession (r := ()) l0 l1 M h)
theorem wd_X11_103 : wdV RX11 103 RX7 yX7_removeSession cX7_removeSession 3 none 1 := ⟨gwi 780 (by decide +kernel) (by decide +kernel), gwi 643 (by decide +kernel) (by decide +kernel), gwi 644 (by decide +kernel) (by decide +kernel), nw_X7, gwi 645 (by decide +kernel) (by decide +kernel), ⟨rfl, by decide +kernel, by decide +kernel, by decide +kernel⟩⟩
theorem ca_X11_103 {G : Gl} {B : Bx} {cc : ByteArray} {ret : Option FieldType} {fr lo nL : Nat} {mn : String} {hh : List (Nat × Nat × Nat × Nat)} {pc : Nat} {ls : List (Nat × Value)} {st : List Value} {M M1 : Mem} {l0 : Nat} {l1 : Int32} (e : f_X7_removeSession l0 l1 M = some M1) (hd : decode cc pc = .ok (.invokevirtual 103, 3)) (hcat : (st.map fun v => v.category).sum ≤ 8) (hR : 2 + 1 ≤ fr ∧ 8 + (3 + 11) + 47 ≤ lo) (k : V G (RX11, cc, ret, fr, lo, nL, mn, hh) B (pc + 3) ls (st) M1) : V G (RX11, cc, ret, fr, lo, nL, mn, hh) B pc ls (.int l1 :: .ref l0 :: st) M := v_callV0 (As := [.int l1]) (k_X7_removeSession e) wd_X11_103 clX7 (kd_X7_removeSession e) hd rfl rfl hcat hR k
theorem wd_X7_104 : wdV RX7 104 RX7 yX7_removeSession cX7_removeSession 3 none 1 := ⟨gwi 642 (by decide +kernel) (by decide +kernel), gwi 643 (by decide +kernel) (by decide +kernel), gwi 644 (by decide +kernel) (by decide +kernel), nw_X7, gwi 645 (by decide +kernel) (by decide +kernel), ⟨rfl, by decide +kernel, by decide +kernel, by decide +kernel⟩⟩
theorem ca_X7_104 {G : Gl} {B : Bx} {cc : ByteArray} {ret : Option FieldType} {fr lo nL : Nat} {mn : String} {hh : List (Nat × Nat × Nat × Nat)} {pc : Nat} {ls : List (Nat × Value)} {st : List Value} {M M1 : Mem} {l0 : Nat} {l1 : Int32} (e : f_X7_removeSession l0 l1 M = some M1) (hd : decode cc pc = .ok (.invokevirtual 104, 3)) (hcat : (st.map fun v => v.category).sum ≤ 8) (hR : 2 + 1 ≤ fr ∧ 8 + (3 + 11) + 47 ≤ lo) (k : V G (RX7, cc, ret, fr, lo, nL, mn, hh) B (pc + 3) ls (st) M1) : V G (RX7, cc, ret, fr, lo, nL, mn, hh) B pc ls (.int l1 :: .ref l0 :: st) M := v_callV0 (As := [.int l1]) (k_X7_removeSession e) wd_X7_104 clX7 (kd_X7_removeSession e) hd rfl rfl hcat hR k
set_option maxHeartbeats 4000000 in
set_option maxRecDepth 100000 in
theorem w_X7_endConnection {G : Gl} {ρ0 : Nat → Nat} {M0 MF : Mem} {r : Unit} (l0 : Nat) (l1 : Int32) (M : Mem) (h : f_X7_endConnection l0 l1 M = some MF) : V G (RX7, cX7_endConnection, none, 3, 69, 3, "endConnection", []) (ρ0, M0, cvV r, MF) 0 [(0, .ref l0), (1, .int l1)] [] M := by
  unfold f_X7_endConnection at h
  replace h := (ifS h).2
  refine v_aload_n dX7_endConnection_0 rfl 0 rfl ?_
  obtain ⟨v1, e, h⟩ := bind_some h
  refine gt_X7_17 e dX7_endConnection_1 ?_
  refine v_iload_n dX7_endConnection_4 rfl 1 rfl ?_
  obtain ⟨v2, e, h⟩ := bind_some h
  refine al_0 e dX7_endConnection_5 ?_
  refine v_astore_n (ls' := [(2, .ref v2), (0, .ref l0), (1, .int l1)]) dX7_endConnection_6 rfl (by decide) rfl ?_
  refine v_aload_n dX7_endConnection_7 rfl 0 rfl ?_
  refine v_iconst (v := 0) dX7_endConnection_8 ci_0 ?_
  obtain ⟨M3, e, h⟩ := bind_some h
  refine pt_X7_82 e dX7_endConnection_9 ?_
  refine v_aload_n dX7_endConnection_12 rfl 0 rfl ?_
  obtain ⟨v4, e, h⟩ := bind_some h
  refine gt_X7_86 e dX7_endConnection_13 ?_
  obtain ⟨M5, e, h⟩ := bind_some h
  refine ca_X7_90 e dX7_endConnection_16 (Nat.le_of_ble_eq_true rfl) (by decide) ?_
  refine v_aload_n dX7_endConnection_19 rfl 0 rfl ?_
  obtain ⟨v6, e, h⟩ := bind_some h
  refine gt_X7_95 e dX7_endConnection_20 ?_
  obtain ⟨v7, e, h⟩ := bind_some h
  refine gt_X7_99 e dX7_endConnection_23 ?_
  refine v_if_eq (tgt := 37) dX7_endConnection_26 (by decide) (fun c11 => ?_) (fun c11 => ?_)
  · replace h := ifP c11 h
    refine v_aload_n dX7_endConnection_37 rfl 0 rfl ?_
    obtain ⟨v8, e, h⟩ := bind_some h
    refine gt_X7_95 e dX7_endConnection_38 ?_
    refine v_aload_n dX7_endConnection_41 rfl 1 rfl ?_
    obtain ⟨v9, e, h⟩ := bind_some h
    refine gt_X7_79 e dX7_endConnection_42 ?_
    obtain ⟨M10, e, h⟩ := bind_some h
    refine pt_X7_108 e dX7_endConnection_45 ?_
    cases h
    exact v_vreturn dX7_endConnection_48
  · replace h := ifN c11 h
    refine v_aload_n dX7_endConnection_29 rfl 1 rfl ?_
    refine v_iload_n dX7_endConnection_30 rfl 2 rfl ?_
    obtain ⟨M8, e, h⟩ := bind_some h
    refine ca_X7_104 e dX7_endConnection_31 (Nat.le_of_ble_eq_true rfl) (by decide) ?_
    refine v_goto (tgt := 48) dX7_endConnection_34 (by decide) ?_
    cases h
    exact v_vreturn dX7_endConnection_48
theorem kd_X7_endConnection {l0 : Nat} {l1 : Int32} {M : Mem} {z : _} (h : f_X7_endConnection l0 l1 M = some z) : (mK M l0).1 = 7 := by
  unfold f_X7_endConnection at h
  exact (ifS h).1
theorem k_X7_endConnection {G : Gl} {l0 : Nat} {l1 : Int32} {M MF : Mem} (h : f_X7_endConnection l0 l1 M = some MF) : CtrP G yX7_endConnection cX7_endConnection 3 none 3 69 [.ref l0, .int l1] M (cvV ()) MF :=
  ctr_of (by decide +kernel) (Nat.le_of_ble_eq_true rfl) (fun ρ => w_X7_endConnection (r := ()) l0 l1 M h)
theorem wd_X7_111 : wdV RX7 111 RX7 yX7_endConnection cX7_endConnection 3 none 1 := ⟨gwi 634 (by decide +kernel) (by decide +kernel), gwi 635 (by decide +kernel) (by decide +kernel), gwi 636 (by decide +kernel) (by decide +kernel), nw_X7, gwi 637 (by decide +kernel) (by decide +kernel), ⟨rfl, by decide +kernel, by decide +kernel, by decide +kernel⟩⟩
theorem ca_X7_111 {G : Gl} {B : Bx} {cc : ByteArray} {ret : Option FieldType} {fr lo nL : Nat} {mn : String} {hh : List (Nat × Nat × Nat × Nat)} {pc : Nat} {ls : List (Nat × Value)} {st : List Value} {M M1 : Mem} {l0 : Nat} {l1 : Int32} (e : f_X7_endConnection l0 l1 M = some M1) (hd : decode cc pc = .ok (.invokevirtual 111, 3)) (hcat : (st.map fun v => v.category).sum ≤ 8) (hR : 3 + 1 ≤ fr ∧ 8 + (3 + 11) + 69 ≤ lo) (k : V G (RX7, cc, ret, fr, lo, nL, mn, hh) B (pc + 3) ls (st) M1) : V G (RX7, cc, ret, fr, lo, nL, mn, hh) B pc ls (.int l1 :: .ref l0 :: st) M := v_callV0 (As := [.int l1]) (k_X7_endConnection e) wd_X7_111 clX7 (kd_X7_endConnection e) hd rfl rfl hcat hR k
set_option maxHeartbeats 4000000 in
set_option maxRecDepth 100000 in
theorem w_X9_placeOf_L2 {G : Gl} {ρ0 : Nat → Nat} {M0 MF : Mem} {r : Int32} : ∀ (n : Nat) (l0 : Nat) (l1 : Nat) (l2 : Int32) (M : Mem), f_X9_placeOf_L2 n l0 l1 l2 M = some (r, MF) → V G (RX9, cX9_placeOf, (some .int), 1, 22, 3, "placeOf", []) (ρ0, M0, cvI r, MF) 2 [(0, .ref l0), (1, .ref l1), (2, .int l2)] [] M := by
  intro n
  induction n with
  | zero => intro l0 l1 l2 M h; cases h
  | succ n ih =>
    intro l0 l1 l2 M h
    rw [f_X9_placeOf_L2] at h
    refine v_iload_n dX9_placeOf_2 rfl 2 rfl ?_
    refine v_aload_n dX9_placeOf_3 rfl 0 rfl ?_
    obtain ⟨v1, e, h⟩ := bind_some h
    refine gt_X9_21 e dX9_placeOf_4 ?_
    refine v_icmp_ge (tgt := 38) dX9_placeOf_7 (by decide) (fun c8 => ?_) (fun c8 => ?_)
    · replace h := ifP c8 h
      refine v_iconst (v := (-1)) dX9_placeOf_38 ci_m1 ?_
      cases h
      exact v_ireturn dX9_placeOf_39
    · replace h := ifN c8 h
      refine v_iload_n dX9_placeOf_10 rfl 2 rfl ?_
      refine v_sipush (v := 512) dX9_placeOf_11 cs_512 ?_
      refine v_icmp_ge (tgt := 38) dX9_placeOf_14 (by decide) (fun c7 => ?_) (fun c7 => ?_)
      · replace h := ifP c7 h
        refine v_iconst (v := (-1)) dX9_placeOf_38 ci_m1 ?_
        cases h
        exact v_ireturn dX9_placeOf_39
      · replace h := ifN c7 h
        refine v_aload_n dX9_placeOf_17 rfl 0 rfl ?_
        obtain ⟨v2, e, h⟩ := bind_some h
        refine gt_X9_11 e dX9_placeOf_18 ?_
        refine v_iload_n dX9_placeOf_21 rfl 2 rfl ?_
        obtain ⟨v3, e, h⟩ := bind_some h
        refine al_10 e dX9_placeOf_22 ?_
        refine v_aload_n dX9_placeOf_23 rfl 1 rfl ?_
        obtain ⟨v5, M4, e, h⟩ := bindP_some h
        refine ca_X9_25 e dX9_placeOf_24 (Nat.le_of_ble_eq_true rfl) (by decide) ?_
        refine v_if_eq (tgt := 32) dX9_placeOf_27 (by decide) (fun c6 => ?_) (fun c6 => ?_)
        · replace h := ifP c6 h
          refine v_iinc (ls' := [(2, .int (l2 + 1)), (0, .ref l0), (1, .ref l1)]) dX9_placeOf_32 2 rfl (v := 1) ci_1 (by decide) rfl ?_
          refine v_goto (tgt := 2) dX9_placeOf_35 (by decide) ?_
          refine v_sub [1, 2, 0] rfl ?_
          exact ih l0 l1 (l2 + 1) M4 h
        · replace h := ifN c6 h
          refine v_iload_n dX9_placeOf_30 rfl 2 rfl ?_
          cases h
          exact v_ireturn dX9_placeOf_31
set_option maxHeartbeats 4000000 in
set_option maxRecDepth 100000 in
theorem w_X9_placeOf {G : Gl} {ρ0 : Nat → Nat} {M0 MF : Mem} {r : Int32} (l0 : Nat) (l1 : Nat) (M : Mem) (h : f_X9_placeOf l0 l1 M = some (r, MF)) : V G (RX9, cX9_placeOf, (some .int), 1, 22, 3, "placeOf", []) (ρ0, M0, cvI r, MF) 0 [(0, .ref l0), (1, .ref l1)] [] M := by
  unfold f_X9_placeOf at h
  replace h := (ifS h).2
  refine v_iconst (v := 0) dX9_placeOf_0 ci_0 ?_
  refine v_istore_n (ls' := [(2, .int (0 : Int32)), (0, .ref l0), (1, .ref l1)]) dX9_placeOf_1 rfl (by decide) rfl ?_
  refine v_sub [1, 2, 0] rfl ?_
  exact w_X9_placeOf_L2 FU l0 l1 (0 : Int32) M h
theorem kd_X9_placeOf {l0 : Nat} {l1 : Nat} {M : Mem} {z : _} (h : f_X9_placeOf l0 l1 M = some z) : (mK M l0).1 = 9 := by
  unfold f_X9_placeOf at h
  exact (ifS h).1
theorem k_X9_placeOf {G : Gl} {l0 : Nat} {l1 : Nat} {M MF : Mem} {r : Int32} (h : f_X9_placeOf l0 l1 M = some (r, MF)) : CtrP G yX9_placeOf cX9_placeOf 3 (some .int) 1 22 [.ref l0, .ref l1] M (cvI r) MF :=
  ctr_of (by decide +kernel) (Nat.le_of_ble_eq_true rfl) (fun ρ => w_X9_placeOf l0 l1 M h)
theorem wd_X9_29 : wdV RX9 29 RX9 yX9_placeOf cX9_placeOf 3 (some .int) 1 := ⟨gwi 667 (by decide +kernel) (by decide +kernel), gwi 668 (by decide +kernel) (by decide +kernel), gwi 669 (by decide +kernel) (by decide +kernel), nw_X9, gwi 670 (by decide +kernel) (by decide +kernel), ⟨rfl, by decide +kernel, by decide +kernel, by decide +kernel⟩⟩
theorem ca_X9_29 {G : Gl} {B : Bx} {cc : ByteArray} {ret : Option FieldType} {fr lo nL : Nat} {mn : String} {hh : List (Nat × Nat × Nat × Nat)} {pc : Nat} {ls : List (Nat × Value)} {st : List Value} {M M1 : Mem} {l0 : Nat} {l1 : Nat} {x : Int32} (e : f_X9_placeOf l0 l1 M = some (x, M1)) (hd : decode cc pc = .ok (.invokevirtual 29, 3)) (hcat : (st.map fun v => v.category).sum ≤ 8) (hR : 1 + 1 ≤ fr ∧ 8 + (3 + 11) + 22 ≤ lo) (k : V G (RX9, cc, ret, fr, lo, nL, mn, hh) B (pc + 3) ls (.int x :: st) M1) : V G (RX9, cc, ret, fr, lo, nL, mn, hh) B pc ls (.ref l1 :: .ref l0 :: st) M := v_callVi (As := [.ref l1]) (k_X9_placeOf e) wd_X9_29 clX9 (kd_X9_placeOf e) hd rfl rfl hcat hR k
set_option maxHeartbeats 4000000 in
set_option maxRecDepth 100000 in
theorem w_X9_count_J56 {G : Gl} {ρ0 : Nat → Nat} {M0 MF : Mem} {r : Unit} (l0 : Nat) (l2 : Int32) (M : Mem) (h : f_X9_count_J56 l0 l2 M = some MF) : V G (RX9, cX9_count, none, 2, 44, 3, "count", []) (ρ0, M0, cvV r, MF) 56 [(0, .ref l0), (2, .int l2)] [] M := by
  unfold f_X9_count_J56 at h
  refine v_iload_n dX9_count_56 rfl 1 rfl ?_
  refine v_if_lt (tgt := 70) dX9_count_57 (by decide) (fun c4 => ?_) (fun c4 => ?_)
  · replace h := ifP c4 h
    cases h
    exact v_vreturn dX9_count_70
  · replace h := ifN c4 h
    refine v_aload_n dX9_count_60 rfl 0 rfl ?_
    obtain ⟨v1, e, h⟩ := bind_some h
    refine gt_X9_17 e dX9_count_61 ?_
    refine v_iload_n dX9_count_64 rfl 1 rfl ?_
    refine v_dup2 dX9_count_65 rfl rfl ?_
    obtain ⟨v2, e, h⟩ := bind_some h
    refine v_iaload dX9_count_66 e ?_
    refine v_iconst (v := 1) dX9_count_67 ci_1 ?_
    refine v_iadd dX9_count_68 ?_
    obtain ⟨M3, e, h⟩ := bind_some h
    refine v_iastore dX9_count_69 e ?_
    cases h
    exact v_vreturn dX9_count_70
set_option maxHeartbeats 4000000 in
set_option maxRecDepth 100000 in
theorem w_X9_count {G : Gl} {ρ0 : Nat → Nat} {M0 MF : Mem} {r : Unit} (l0 : Nat) (l1 : Nat) (M : Mem) (h : f_X9_count l0 l1 M = some MF) : V G (RX9, cX9_count, none, 2, 44, 3, "count", []) (ρ0, M0, cvV r, MF) 0 [(0, .ref l0), (1, .ref l1)] [] M := by
  unfold f_X9_count at h
  replace h := (ifS h).2
  refine v_aload_n dX9_count_0 rfl 0 rfl ?_
  refine v_aload_n dX9_count_1 rfl 1 rfl ?_
  obtain ⟨v2, M1, e, h⟩ := bindP_some h
  refine ca_X9_29 e dX9_count_2 (Nat.le_of_ble_eq_true rfl) (by decide) ?_
  refine v_istore_n (ls' := [(2, .int v2), (0, .ref l0), (1, .ref l1)]) dX9_count_5 rfl (by decide) rfl ?_
  refine v_iload_n dX9_count_6 rfl 0 rfl ?_
  refine v_if_ge (tgt := 56) dX9_count_7 (by decide) (fun c14 => ?_) (fun c14 => ?_)
  · replace h := ifP c14 h
    refine v_sub [1, 0] rfl ?_
    exact w_X9_count_J56 l0 v2 M1 h
  · replace h := ifN c14 h
    refine v_aload_n dX9_count_10 rfl 1 rfl ?_
    obtain ⟨v3, e, h⟩ := bind_some h
    refine gt_X9_21 e dX9_count_11 ?_
    refine v_if_lt (tgt := 56) dX9_count_14 (by decide) (fun c13 => ?_) (fun c13 => ?_)
    · replace h := ifP c13 h
      refine v_sub [1, 0] rfl ?_
      exact w_X9_count_J56 l0 v2 M1 h
    · replace h := ifN c13 h
      refine v_aload_n dX9_count_17 rfl 1 rfl ?_
      obtain ⟨v4, e, h⟩ := bind_some h
      refine gt_X9_21 e dX9_count_18 ?_
      refine v_sipush (v := 512) dX9_count_21 cs_512 ?_
      refine v_icmp_ge (tgt := 56) dX9_count_24 (by decide) (fun c12 => ?_) (fun c12 => ?_)
      · replace h := ifP c12 h
        refine v_sub [1, 0] rfl ?_
        exact w_X9_count_J56 l0 v2 M1 h
      · replace h := ifN c12 h
        refine v_aload_n dX9_count_27 rfl 1 rfl ?_
        obtain ⟨v5, e, h⟩ := bind_some h
        refine gt_X9_21 e dX9_count_28 ?_
        refine v_istore_n (ls' := [(2, .int v5), (0, .ref l0), (1, .ref l1)]) dX9_count_31 rfl (by decide) rfl ?_
        refine v_aload_n dX9_count_32 rfl 1 rfl ?_
        obtain ⟨v6, e, h⟩ := bind_some h
        refine gt_X9_11 e dX9_count_33 ?_
        refine v_iload_n dX9_count_36 rfl 0 rfl ?_
        refine v_aload_n dX9_count_37 rfl 2 rfl ?_
        obtain ⟨M7, e, h⟩ := bind_some h
        refine as_10 e dX9_count_38 ?_
        refine v_aload_n dX9_count_39 rfl 1 rfl ?_
        obtain ⟨v8, e, h⟩ := bind_some h
        refine gt_X9_17 e dX9_count_40 ?_
        refine v_iload_n dX9_count_43 rfl 0 rfl ?_
        refine v_iconst (v := 0) dX9_count_44 ci_0 ?_
        obtain ⟨M9, e, h⟩ := bind_some h
        refine v_iastore dX9_count_45 e ?_
        refine v_aload_n dX9_count_46 rfl 1 rfl ?_
        refine v_dup dX9_count_47 rfl ?_
        obtain ⟨v10, e, h⟩ := bind_some h
        refine gt_X9_21 e dX9_count_48 ?_
        refine v_iconst (v := 1) dX9_count_51 ci_1 ?_
        refine v_iadd dX9_count_52 ?_
        obtain ⟨M11, e, h⟩ := bind_some h
        refine pt_X9_21 e dX9_count_53 ?_
        refine v_sub [1, 0] rfl ?_
        exact w_X9_count_J56 l0 v5 M11 h
theorem kd_X9_count {l0 : Nat} {l1 : Nat} {M : Mem} {z : _} (h : f_X9_count l0 l1 M = some z) : (mK M l0).1 = 9 := by
  unfold f_X9_count at h
  exact (ifS h).1
theorem k_X9_count {G : Gl} {l0 : Nat} {l1 : Nat} {M MF : Mem} (h : f_X9_count l0 l1 M = some MF) : CtrP G yX9_count cX9_count 3 none 2 44 [.ref l0, .ref l1] M (cvV ()) MF :=
  ctr_of (by decide +kernel) (Nat.le_of_ble_eq_true rfl) (fun ρ => w_X9_count (r := ()) l0 l1 M h)
theorem wd_X7_198 : wdV RX7 198 RX9 yX9_count cX9_count 3 none 1 := ⟨gwi 663 (by decide +kernel) (by decide +kernel), gwi 664 (by decide +kernel) (by decide +kernel), gwi 665 (by decide +kernel) (by decide +kernel), nw_X9, gwi 666 (by decide +kernel) (by decide +kernel), ⟨rfl, by decide +kernel, by decide +kernel, by decide +kernel⟩⟩
theorem ca_X7_198 {G : Gl} {B : Bx} {cc : ByteArray} {ret : Option FieldType} {fr lo nL : Nat} {mn : String} {hh : List (Nat × Nat × Nat × Nat)} {pc : Nat} {ls : List (Nat × Value)} {st : List Value} {M M1 : Mem} {l0 : Nat} {l1 : Nat} (e : f_X9_count l0 l1 M = some M1) (hd : decode cc pc = .ok (.invokevirtual 198, 3)) (hcat : (st.map fun v => v.category).sum ≤ 8) (hR : 2 + 1 ≤ fr ∧ 8 + (3 + 11) + 44 ≤ lo) (k : V G (RX7, cc, ret, fr, lo, nL, mn, hh) B (pc + 3) ls (st) M1) : V G (RX7, cc, ret, fr, lo, nL, mn, hh) B pc ls (.ref l1 :: .ref l0 :: st) M := v_callV0 (As := [.ref l1]) (k_X9_count e) wd_X7_198 clX9 (kd_X9_count e) hd rfl rfl hcat hR k
set_option maxHeartbeats 4000000 in
set_option maxRecDepth 100000 in
theorem w_X10_order_L16 {G : Gl} {ρ0 : Nat → Nat} {M0 MF : Mem} {r : Int32} : ∀ (n : Nat) (l0 : Nat) (l1 : Nat) (l2 : Int32) (l3 : Int32) (M : Mem), f_X10_order_L16 n l0 l1 l2 l3 M = some (r, MF) → V G (RX10, cX10_order, (some .int), 1, 21, 4, "order", []) (ρ0, M0, cvI r, MF) 16 [(0, .ref l0), (1, .ref l1), (2, .int l2), (3, .int l3)] [] M := by
  intro n
  induction n with
  | zero => intro l0 l1 l2 l3 M h; cases h
  | succ n ih =>
    intro l0 l1 l2 l3 M h
    rw [f_X10_order_L16] at h
    refine v_iload_n dX10_order_16 rfl 3 rfl ?_
    refine v_iload_n dX10_order_17 rfl 2 rfl ?_
    refine v_icmp_ge (tgt := 56) dX10_order_18 (by decide) (fun c10 => ?_) (fun c10 => ?_)
    · replace h := ifP c10 h
      refine v_aload_n dX10_order_56 rfl 0 rfl ?_
      obtain ⟨v1, e, h⟩ := bind_some h
      refine gt_X10_18 e dX10_order_57 ?_
      obtain ⟨v2, e, h⟩ := bind_some h
      refine v_alen dX10_order_60 e ?_
      refine v_aload_n dX10_order_61 rfl 1 rfl ?_
      obtain ⟨v3, e, h⟩ := bind_some h
      refine gt_X10_18 e dX10_order_62 ?_
      obtain ⟨v4, e, h⟩ := bind_some h
      refine v_alen dX10_order_65 e ?_
      refine v_isub dX10_order_66 ?_
      cases h
      exact v_ireturn dX10_order_67
    · replace h := ifN c10 h
      refine v_aload_n dX10_order_21 rfl 0 rfl ?_
      obtain ⟨v1, e, h⟩ := bind_some h
      refine gt_X10_18 e dX10_order_22 ?_
      refine v_iload_n dX10_order_25 rfl 3 rfl ?_
      obtain ⟨v2, e, h⟩ := bind_some h
      refine v_caload dX10_order_26 e ?_
      refine v_aload_n dX10_order_27 rfl 1 rfl ?_
      obtain ⟨v3, e, h⟩ := bind_some h
      refine gt_X10_18 e dX10_order_28 ?_
      refine v_iload_n dX10_order_31 rfl 3 rfl ?_
      obtain ⟨v4, e, h⟩ := bind_some h
      refine v_caload dX10_order_32 e ?_
      refine v_icmp_eq (tgt := 50) dX10_order_33 (by decide) (fun c9 => ?_) (fun c9 => ?_)
      · replace h := ifP c9 h
        refine v_iinc (ls' := [(3, .int (l3 + 1)), (0, .ref l0), (1, .ref l1), (2, .int l2)]) dX10_order_50 3 rfl (v := 1) ci_1 (by decide) rfl ?_
        refine v_goto (tgt := 16) dX10_order_53 (by decide) ?_
        refine v_sub [1, 2, 3, 0] rfl ?_
        exact ih l0 l1 l2 (l3 + 1) M h
      · replace h := ifN c9 h
        refine v_aload_n dX10_order_36 rfl 0 rfl ?_
        obtain ⟨v5, e, h⟩ := bind_some h
        refine gt_X10_18 e dX10_order_37 ?_
        refine v_iload_n dX10_order_40 rfl 3 rfl ?_
        obtain ⟨v6, e, h⟩ := bind_some h
        refine v_caload dX10_order_41 e ?_
        refine v_aload_n dX10_order_42 rfl 1 rfl ?_
        obtain ⟨v7, e, h⟩ := bind_some h
        refine gt_X10_18 e dX10_order_43 ?_
        refine v_iload_n dX10_order_46 rfl 3 rfl ?_
        obtain ⟨v8, e, h⟩ := bind_some h
        refine v_caload dX10_order_47 e ?_
        refine v_isub dX10_order_48 ?_
        cases h
        exact v_ireturn dX10_order_49
set_option maxHeartbeats 4000000 in
set_option maxRecDepth 100000 in
theorem w_X10_order {G : Gl} {ρ0 : Nat → Nat} {M0 MF : Mem} {r : Int32} (l0 : Nat) (l1 : Nat) (M : Mem) (h : f_X10_order l0 l1 M = some (r, MF)) : V G (RX10, cX10_order, (some .int), 1, 21, 4, "order", []) (ρ0, M0, cvI r, MF) 0 [(0, .ref l0), (1, .ref l1)] [] M := by
  unfold f_X10_order at h
  replace h := (ifS h).2
  refine v_aload_n dX10_order_0 rfl 0 rfl ?_
  obtain ⟨v1, e, h⟩ := bind_some h
  refine gt_X10_18 e dX10_order_1 ?_
  obtain ⟨v2, e, h⟩ := bind_some h
  refine v_alen dX10_order_4 e ?_
  refine v_aload_n dX10_order_5 rfl 1 rfl ?_
  obtain ⟨v3, e, h⟩ := bind_some h
  refine gt_X10_18 e dX10_order_6 ?_
  obtain ⟨v4, e, h⟩ := bind_some h
  refine v_alen dX10_order_9 e ?_
  refine mx_X10_9 dX10_order_10 (by decide) (Nat.le_of_ble_eq_true rfl) ?_
  refine v_istore_n (ls' := [(2, .int (iminE v2 v4)), (0, .ref l0), (1, .ref l1)]) dX10_order_13 rfl (by decide) rfl ?_
  refine v_iconst (v := 0) dX10_order_14 ci_0 ?_
  refine v_istore_n (ls' := [(3, .int (0 : Int32)), (2, .int (iminE v2 v4)), (0, .ref l0), (1, .ref l1)]) dX10_order_15 rfl (by decide) rfl ?_
  refine v_sub [2, 3, 1, 0] rfl ?_
  exact w_X10_order_L16 FU l0 l1 (iminE v2 v4) (0 : Int32) M h
theorem kd_X10_order {l0 : Nat} {l1 : Nat} {M : Mem} {z : _} (h : f_X10_order l0 l1 M = some z) : (mK M l0).1 = 10 := by
  unfold f_X10_order at h
  exact (ifS h).1
theorem k_X10_order {G : Gl} {l0 : Nat} {l1 : Nat} {M MF : Mem} {r : Int32} (h : f_X10_order l0 l1 M = some (r, MF)) : CtrP G yX10_order cX10_order 4 (some .int) 1 21 [.ref l0, .ref l1] M (cvI r) MF :=
  ctr_of (by decide +kernel) (Nat.le_of_ble_eq_true rfl) (fun ρ => w_X10_order l0 l1 M h)
theorem wd_X7_224 : wdV RX7 224 RX10 yX10_order cX10_order 4 (some .int) 1 := ⟨gwi 679 (by decide +kernel) (by decide +kernel), gwi 680 (by decide +kernel) (by decide +kernel), gwi 681 (by decide +kernel) (by decide +kernel), nw_X10, gwi 682 (by decide +kernel) (by decide +kernel), ⟨rfl, by decide +kernel, by decide +kernel, by decide +kernel⟩⟩
theorem ca_X7_224 {G : Gl} {B : Bx} {cc : ByteArray} {ret : Option FieldType} {fr lo nL : Nat} {mn : String} {hh : List (Nat × Nat × Nat × Nat)} {pc : Nat} {ls : List (Nat × Value)} {st : List Value} {M M1 : Mem} {l0 : Nat} {l1 : Nat} {x : Int32} (e : f_X10_order l0 l1 M = some (x, M1)) (hd : decode cc pc = .ok (.invokevirtual 224, 3)) (hcat : (st.map fun v => v.category).sum ≤ 8) (hR : 1 + 1 ≤ fr ∧ 8 + (4 + 11) + 21 ≤ lo) (k : V G (RX7, cc, ret, fr, lo, nL, mn, hh) B (pc + 3) ls (.int x :: st) M1) : V G (RX7, cc, ret, fr, lo, nL, mn, hh) B pc ls (.ref l1 :: .ref l0 :: st) M := v_callVi (As := [.ref l1]) (k_X10_order e) wd_X7_224 clX10 (kd_X10_order e) hd rfl rfl hcat hR k
set_option maxHeartbeats 4000000 in
set_option maxRecDepth 100000 in
theorem w_X7_dropRetained_L9 {G : Gl} {ρ0 : Nat → Nat} {M0 MF : Mem} {r : Unit} : ∀ (n : Nat) (l0 : Nat) (l2 : Nat) (l3 : Int32) (M : Mem), f_X7_dropRetained_L9 n l0 l2 l3 M = some MF → V G (RX7, cX7_dropRetained, none, 0, 0, 4, "dropRetained", []) (ρ0, M0, cvV r, MF) 9 [(0, .ref l0), (2, .ref l2), (3, .int l3)] [] M := by
  intro n
  induction n with
  | zero => intro l0 l2 l3 M h; cases h
  | succ n ih =>
    intro l0 l2 l3 M h
    rw [f_X7_dropRetained_L9] at h
    refine v_iload_n dX7_dropRetained_9 rfl 2 rfl ?_
    refine v_iconst (v := 1) dX7_dropRetained_10 ci_1 ?_
    refine v_iadd dX7_dropRetained_11 ?_
    refine v_aload_n dX7_dropRetained_12 rfl 0 rfl ?_
    obtain ⟨v1, e, h⟩ := bind_some h
    refine gt_X7_70 e dX7_dropRetained_13 ?_
    refine v_icmp_ge (tgt := 39) dX7_dropRetained_16 (by decide) (fun c7 => ?_) (fun c7 => ?_)
    · replace h := ifP c7 h
      refine v_aload_n dX7_dropRetained_39 rfl 0 rfl ?_
      obtain ⟨v2, e, h⟩ := bind_some h
      refine gt_X7_33 e dX7_dropRetained_40 ?_
      refine v_aload_n dX7_dropRetained_43 rfl 0 rfl ?_
      obtain ⟨v3, e, h⟩ := bind_some h
      refine gt_X7_70 e dX7_dropRetained_44 ?_
      refine v_iconst (v := 1) dX7_dropRetained_47 ci_1 ?_
      refine v_isub dX7_dropRetained_48 ?_
      refine v_aload_n dX7_dropRetained_49 rfl 1 rfl ?_
      obtain ⟨M4, e, h⟩ := bind_some h
      refine as_1 e dX7_dropRetained_50 ?_
      refine v_aload_n dX7_dropRetained_51 rfl 0 rfl ?_
      refine v_dup dX7_dropRetained_52 rfl ?_
      obtain ⟨v5, e, h⟩ := bind_some h
      refine gt_X7_70 e dX7_dropRetained_53 ?_
      refine v_iconst (v := 1) dX7_dropRetained_56 ci_1 ?_
      refine v_isub dX7_dropRetained_57 ?_
      obtain ⟨M6, e, h⟩ := bind_some h
      refine pt_X7_70 e dX7_dropRetained_58 ?_
      cases h
      exact v_vreturn dX7_dropRetained_61
    · replace h := ifN c7 h
      refine v_aload_n dX7_dropRetained_19 rfl 0 rfl ?_
      obtain ⟨v2, e, h⟩ := bind_some h
      refine gt_X7_33 e dX7_dropRetained_20 ?_
      refine v_iload_n dX7_dropRetained_23 rfl 2 rfl ?_
      refine v_aload_n dX7_dropRetained_24 rfl 0 rfl ?_
      obtain ⟨v3, e, h⟩ := bind_some h
      refine gt_X7_33 e dX7_dropRetained_25 ?_
      refine v_iload_n dX7_dropRetained_28 rfl 2 rfl ?_
      refine v_iconst (v := 1) dX7_dropRetained_29 ci_1 ?_
      refine v_iadd dX7_dropRetained_30 ?_
      obtain ⟨v4, e, h⟩ := bind_some h
      refine al_1 e dX7_dropRetained_31 ?_
      obtain ⟨M5, e, h⟩ := bind_some h
      refine as_1 e dX7_dropRetained_32 ?_
      refine v_iinc (ls' := [(3, .int (l3 + 1)), (0, .ref l0), (2, .ref l2)]) dX7_dropRetained_33 2 rfl (v := 1) ci_1 (by decide) rfl ?_
      refine v_goto (tgt := 9) dX7_dropRetained_36 (by decide) ?_
      refine v_sub [1, 2, 0] rfl ?_
      exact ih l0 l2 (l3 + 1) M5 h
set_option maxHeartbeats 4000000 in
set_option maxRecDepth 100000 in
theorem w_X7_dropRetained {G : Gl} {ρ0 : Nat → Nat} {M0 MF : Mem} {r : Unit} (l0 : Nat) (l1 : Int32) (M : Mem) (h : f_X7_dropRetained l0 l1 M = some MF) : V G (RX7, cX7_dropRetained, none, 0, 0, 4, "dropRetained", []) (ρ0, M0, cvV r, MF) 0 [(0, .ref l0), (1, .int l1)] [] M := by
  unfold f_X7_dropRetained at h
  replace h := (ifS h).2
  refine v_aload_n dX7_dropRetained_0 rfl 0 rfl ?_
  obtain ⟨v1, e, h⟩ := bind_some h
  refine gt_X7_33 e dX7_dropRetained_1 ?_
  refine v_iload_n dX7_dropRetained_4 rfl 1 rfl ?_
  obtain ⟨v2, e, h⟩ := bind_some h
  refine al_1 e dX7_dropRetained_5 ?_
  refine v_astore_n (ls' := [(2, .ref v2), (0, .ref l0), (1, .int l1)]) dX7_dropRetained_6 rfl (by decide) rfl ?_
  refine v_iload_n dX7_dropRetained_7 rfl 2 rfl ?_
  refine v_istore_n (ls' := [(3, .int l1), (2, .ref v2), (0, .ref l0), (1, .int l1)]) dX7_dropRetained_8 rfl (by decide) rfl ?_
  refine v_sub [2, 1, 0] rfl ?_
  exact w_X7_dropRetained_L9 FU l0 v2 l1 M h
theorem kd_X7_dropRetained {l0 : Nat} {l1 : Int32} {M : Mem} {z : _} (h : f_X7_dropRetained l0 l1 M = some z) : (mK M l0).1 = 7 := by
  unfold f_X7_dropRetained at h
  exact (ifS h).1
theorem k_X7_dropRetained {G : Gl} {l0 : Nat} {l1 : Int32} {M MF : Mem} (h : f_X7_dropRetained l0 l1 M = some MF) : CtrP G yX7_dropRetained cX7_dropRetained 4 none 0 0 [.ref l0, .int l1] M (cvV ()) MF :=
  ctr_of (by decide +kernel) (Nat.le_of_ble_eq_true rfl) (fun ρ => w_X7_dropRetained (r := ()) l0 l1 M h)
theorem wd_X7_231 : wdV RX7 231 RX7 yX7_dropRetained cX7_dropRetained 4 none 1 := ⟨gwi 684 (by decide +kernel) (by decide +kernel), gwi 686 (by decide +kernel) (by decide +kernel), gwi 3 (by decide +kernel) (by decide +kernel), nw_X7, gwi 687 (by decide +kernel) (by decide +kernel), ⟨rfl, by decide +kernel, by decide +kernel, by decide +kernel⟩⟩
theorem ca_X7_231 {G : Gl} {B : Bx} {cc : ByteArray} {ret : Option FieldType} {fr lo nL : Nat} {mn : String} {hh : List (Nat × Nat × Nat × Nat)} {pc : Nat} {ls : List (Nat × Value)} {st : List Value} {M M1 : Mem} {l0 : Nat} {l1 : Int32} (e : f_X7_dropRetained l0 l1 M = some M1) (hd : decode cc pc = .ok (.invokevirtual 231, 3)) (hcat : (st.map fun v => v.category).sum ≤ 8) (hR : 0 + 1 ≤ fr ∧ 8 + (4 + 11) + 0 ≤ lo) (k : V G (RX7, cc, ret, fr, lo, nL, mn, hh) B (pc + 3) ls (st) M1) : V G (RX7, cc, ret, fr, lo, nL, mn, hh) B pc ls (.int l1 :: .ref l0 :: st) M := v_callV0 (As := [.int l1]) (k_X7_dropRetained e) wd_X7_231 clX7 (kd_X7_dropRetained e) hd rfl rfl hcat hR k
set_option maxHeartbeats 4000000 in
set_option maxRecDepth 100000 in
theorem w_X7_openRetained_L15 {G : Gl} {ρ0 : Nat → Nat} {M0 MF : Mem} {r : Unit} : ∀ (n : Nat) (l0 : Nat) (l1 : Int32) (l2 : Nat) (l3 : Int32) (M : Mem), f_X7_openRetained_L15 n l0 l1 l2 l3 M = some MF → V G (RX7, cX7_openRetained, none, 0, 0, 4, "openRetained", []) (ρ0, M0, cvV r, MF) 15 [(0, .ref l0), (1, .int l1), (2, .ref l2), (3, .int l3)] [] M := by
  intro n
  induction n with
  | zero => intro l0 l1 l2 l3 M h; cases h
  | succ n ih =>
    intro l0 l1 l2 l3 M h
    rw [f_X7_openRetained_L15] at h
    refine v_iload_n dX7_openRetained_15 rfl 3 rfl ?_
    refine v_iload_n dX7_openRetained_16 rfl 1 rfl ?_
    refine v_icmp_le (tgt := 40) dX7_openRetained_17 (by decide) (fun c5 => ?_) (fun c5 => ?_)
    · replace h := ifP c5 h
      refine v_aload_n dX7_openRetained_40 rfl 0 rfl ?_
      obtain ⟨v1, e, h⟩ := bind_some h
      refine gt_X7_33 e dX7_openRetained_41 ?_
      refine v_iload_n dX7_openRetained_44 rfl 1 rfl ?_
      refine v_aload_n dX7_openRetained_45 rfl 2 rfl ?_
      obtain ⟨M2, e, h⟩ := bind_some h
      refine as_1 e dX7_openRetained_46 ?_
      refine v_aload_n dX7_openRetained_47 rfl 0 rfl ?_
      refine v_dup dX7_openRetained_48 rfl ?_
      obtain ⟨v3, e, h⟩ := bind_some h
      refine gt_X7_70 e dX7_openRetained_49 ?_
      refine v_iconst (v := 1) dX7_openRetained_52 ci_1 ?_
      refine v_iadd dX7_openRetained_53 ?_
      obtain ⟨M4, e, h⟩ := bind_some h
      refine pt_X7_70 e dX7_openRetained_54 ?_
      cases h
      exact v_vreturn dX7_openRetained_57
    · replace h := ifN c5 h
      refine v_aload_n dX7_openRetained_20 rfl 0 rfl ?_
      obtain ⟨v1, e, h⟩ := bind_some h
      refine gt_X7_33 e dX7_openRetained_21 ?_
      refine v_iload_n dX7_openRetained_24 rfl 3 rfl ?_
      refine v_aload_n dX7_openRetained_25 rfl 0 rfl ?_
      obtain ⟨v2, e, h⟩ := bind_some h
      refine gt_X7_33 e dX7_openRetained_26 ?_
      refine v_iload_n dX7_openRetained_29 rfl 3 rfl ?_
      refine v_iconst (v := 1) dX7_openRetained_30 ci_1 ?_
      refine v_isub dX7_openRetained_31 ?_
      obtain ⟨v3, e, h⟩ := bind_some h
      refine al_1 e dX7_openRetained_32 ?_
      obtain ⟨M4, e, h⟩ := bind_some h
      refine as_1 e dX7_openRetained_33 ?_
      refine v_iinc (ls' := [(3, .int (l3 + (-1))), (0, .ref l0), (1, .int l1), (2, .ref l2)]) dX7_openRetained_34 3 rfl (v := (-1)) ci_m1 (by decide) rfl ?_
      refine v_goto (tgt := 15) dX7_openRetained_37 (by decide) ?_
      refine v_sub [1, 2, 3, 0] rfl ?_
      exact ih l0 l1 l2 (l3 + (-1)) M4 h
set_option maxHeartbeats 4000000 in
set_option maxRecDepth 100000 in
theorem w_X7_openRetained {G : Gl} {ρ0 : Nat → Nat} {M0 MF : Mem} {r : Unit} (l0 : Nat) (l1 : Int32) (M : Mem) (h : f_X7_openRetained l0 l1 M = some MF) : V G (RX7, cX7_openRetained, none, 0, 0, 4, "openRetained", []) (ρ0, M0, cvV r, MF) 0 [(0, .ref l0), (1, .int l1)] [] M := by
  unfold f_X7_openRetained at h
  replace h := (ifS h).2
  refine v_aload_n dX7_openRetained_0 rfl 0 rfl ?_
  obtain ⟨v1, e, h⟩ := bind_some h
  refine gt_X7_33 e dX7_openRetained_1 ?_
  refine v_aload_n dX7_openRetained_4 rfl 0 rfl ?_
  obtain ⟨v2, e, h⟩ := bind_some h
  refine gt_X7_70 e dX7_openRetained_5 ?_
  obtain ⟨v3, e, h⟩ := bind_some h
  refine al_1 e dX7_openRetained_8 ?_
  refine v_astore_n (ls' := [(2, .ref v3), (0, .ref l0), (1, .int l1)]) dX7_openRetained_9 rfl (by decide) rfl ?_
  refine v_aload_n dX7_openRetained_10 rfl 1 rfl ?_
  obtain ⟨v4, e, h⟩ := bind_some h
  refine gt_X7_70 e dX7_openRetained_11 ?_
  refine v_istore_n (ls' := [(3, .int v4), (2, .ref v3), (0, .ref l0), (1, .int l1)]) dX7_openRetained_14 rfl (by decide) rfl ?_
  refine v_sub [2, 3, 1, 0] rfl ?_
  exact w_X7_openRetained_L15 FU l0 l1 v3 v4 M h
theorem kd_X7_openRetained {l0 : Nat} {l1 : Int32} {M : Mem} {z : _} (h : f_X7_openRetained l0 l1 M = some z) : (mK M l0).1 = 7 := by
  unfold f_X7_openRetained at h
  exact (ifS h).1
theorem k_X7_openRetained {G : Gl} {l0 : Nat} {l1 : Int32} {M MF : Mem} (h : f_X7_openRetained l0 l1 M = some MF) : CtrP G yX7_openRetained cX7_openRetained 4 none 0 0 [.ref l0, .int l1] M (cvV ()) MF :=
  ctr_of (by decide +kernel) (Nat.le_of_ble_eq_true rfl) (fun ρ => w_X7_openRetained (r := ()) l0 l1 M h)
theorem wd_X7_234 : wdV RX7 234 RX7 yX7_openRetained cX7_openRetained 4 none 1 := ⟨gwi 688 (by decide +kernel) (by decide +kernel), gwi 690 (by decide +kernel) (by decide +kernel), gwi 4 (by decide +kernel) (by decide +kernel), nw_X7, gwi 691 (by decide +kernel) (by decide +kernel), ⟨rfl, by decide +kernel, by decide +kernel, by decide +kernel⟩⟩
theorem ca_X7_234 {G : Gl} {B : Bx} {cc : ByteArray} {ret : Option FieldType} {fr lo nL : Nat} {mn : String} {hh : List (Nat × Nat × Nat × Nat)} {pc : Nat} {ls : List (Nat × Value)} {st : List Value} {M M1 : Mem} {l0 : Nat} {l1 : Int32} (e : f_X7_openRetained l0 l1 M = some M1) (hd : decode cc pc = .ok (.invokevirtual 234, 3)) (hcat : (st.map fun v => v.category).sum ≤ 8) (hR : 0 + 1 ≤ fr ∧ 8 + (4 + 11) + 0 ≤ lo) (k : V G (RX7, cc, ret, fr, lo, nL, mn, hh) B (pc + 3) ls (st) M1) : V G (RX7, cc, ret, fr, lo, nL, mn, hh) B pc ls (.int l1 :: .ref l0 :: st) M := v_callV0 (As := [.int l1]) (k_X7_openRetained e) wd_X7_234 clX7 (kd_X7_openRetained e) hd rfl rfl hcat hR k
set_option maxHeartbeats 4000000 in
set_option maxRecDepth 100000 in
theorem w_X7_keepRetained_J116 {G : Gl} {ρ0 : Nat → Nat} {M0 MF : Mem} {r : Unit} (l0 : Nat) (l1 : Nat) (l2 : Int32) (M : Mem) (h : f_X7_keepRetained_J116 l0 l1 l2 M = some MF) : V G (RX7, cX7_keepRetained, none, 2, 44, 4, "keepRetained", []) (ρ0, M0, cvV r, MF) 116 [(0, .ref l0), (1, .ref l1), (2, .int l2)] [] M := by
  unfold f_X7_keepRetained_J116 at h
  refine v_aload_n dX7_keepRetained_116 rfl 0 rfl ?_
  obtain ⟨v1, e, h⟩ := bind_some h
  refine gt_X7_33 e dX7_keepRetained_117 ?_
  refine v_iload_n dX7_keepRetained_120 rfl 2 rfl ?_
  obtain ⟨v2, e, h⟩ := bind_some h
  refine al_1 e dX7_keepRetained_121 ?_
  refine v_aload_n dX7_keepRetained_122 rfl 1 rfl ?_
  obtain ⟨M3, e, h⟩ := bind_some h
  refine ca_X7_73 e dX7_keepRetained_123 (Nat.le_of_ble_eq_true rfl) (by decide) ?_
  cases h
  exact v_vreturn dX7_keepRetained_126
set_option maxHeartbeats 4000000 in
set_option maxRecDepth 100000 in
theorem w_X7_keepRetained_J79 {G : Gl} {ρ0 : Nat → Nat} {M0 MF : Mem} {r : Unit} (l0 : Nat) (l1 : Nat) (l2 : Int32) (s0 : Int32) (M : Mem) (h : f_X7_keepRetained_J79 l0 l1 l2 s0 M = some MF) : V G (RX7, cX7_keepRetained, none, 2, 44, 4, "keepRetained", []) (ρ0, M0, cvV r, MF) 79 [(0, .ref l0), (1, .ref l1), (2, .int l2)] [.int s0] M := by
  unfold f_X7_keepRetained_J79 at h
  refine v_istore_n (ls' := [(3, .int s0), (0, .ref l0), (1, .ref l1), (2, .int l2)]) dX7_keepRetained_79 rfl (by decide) rfl ?_
  refine v_aload_n dX7_keepRetained_80 rfl 2 rfl ?_
  obtain ⟨v1, e, h⟩ := bind_some h
  refine gt_X7_228 e dX7_keepRetained_81 ?_
  refine v_if_ne (tgt := 97) dX7_keepRetained_84 (by decide) (fun c6 => ?_) (fun c6 => ?_)
  · replace h := ifN c6 h
    refine v_iload_n dX7_keepRetained_97 rfl 0 rfl ?_
    refine v_if_ne (tgt := 116) dX7_keepRetained_98 (by decide) (fun c5 => ?_) (fun c5 => ?_)
    · replace h := ifN c5 h
      refine v_sub [1, 2, 3] rfl ?_
      exact w_X7_keepRetained_J116 l0 l1 l2 M h
    · replace h := ifP c5 h
      refine v_aload_n dX7_keepRetained_101 rfl 1 rfl ?_
      obtain ⟨v2, e, h⟩ := bind_some h
      refine gt_X7_70 e dX7_keepRetained_102 ?_
      refine v_bipush (v := 8) dX7_keepRetained_105 cb_8 ?_
      refine v_icmp_lt (tgt := 111) dX7_keepRetained_107 (by decide) (fun c4 => ?_) (fun c4 => ?_)
      · replace h := ifP c4 h
        refine v_aload_n dX7_keepRetained_111 rfl 1 rfl ?_
        refine v_iload_n dX7_keepRetained_112 rfl 3 rfl ?_
        obtain ⟨M3, e, h⟩ := bind_some h
        refine ca_X7_234 e dX7_keepRetained_113 (Nat.le_of_ble_eq_true rfl) (by decide) ?_
        refine v_sub [1, 2, 3] rfl ?_
        exact w_X7_keepRetained_J116 l0 l1 l2 M3 h
      · replace h := ifN c4 h
        cases h
        exact v_vreturn dX7_keepRetained_110
  · replace h := ifP c6 h
    refine v_iload_n dX7_keepRetained_87 rfl 0 rfl ?_
    refine v_if_eq (tgt := 96) dX7_keepRetained_88 (by decide) (fun c3 => ?_) (fun c3 => ?_)
    · replace h := ifP c3 h
      cases h
      exact v_vreturn dX7_keepRetained_96
    · replace h := ifN c3 h
      refine v_aload_n dX7_keepRetained_91 rfl 1 rfl ?_
      refine v_iload_n dX7_keepRetained_92 rfl 3 rfl ?_
      obtain ⟨M2, e, h⟩ := bind_some h
      refine ca_X7_231 e dX7_keepRetained_93 (Nat.le_of_ble_eq_true rfl) (by decide) ?_
      cases h
      exact v_vreturn dX7_keepRetained_96
theorem w_X7_keepRetained_J78 {G : Gl} {ρ0 : Nat → Nat} {M0 MF : Mem} {r : Unit} (l0 : Nat) (l1 : Nat) (l2 : Int32) (M : Mem) (h : f_X7_keepRetained_J78 l0 l1 l2 M = some MF) : V G (RX7, cX7_keepRetained, none, 2, 44, 4, "keepRetained", []) (ρ0, M0, cvV r, MF) 78 [(0, .ref l0), (1, .ref l1), (2, .int l2)] [] M := by
  unfold f_X7_keepRetained_J78 at h
  refine v_iconst (v := 0) dX7_keepRetained_78 ci_0 ?_
  exact w_X7_keepRetained_J79 l0 l1 l2 (0 : Int32) M h
set_option maxHeartbeats 4000000 in
set_option maxRecDepth 100000 in
theorem w_X7_keepRetained_J41 {G : Gl} {ρ0 : Nat → Nat} {M0 MF : Mem} {r : Unit} (l0 : Nat) (l1 : Nat) (l2 : Int32) (M : Mem) (h : f_X7_keepRetained_J41 l0 l1 l2 M = some MF) : V G (RX7, cX7_keepRetained, none, 2, 44, 4, "keepRetained", []) (ρ0, M0, cvV r, MF) 41 [(0, .ref l0), (1, .ref l1), (2, .int l2)] [] M := by
  unfold f_X7_keepRetained_J41 at h
  refine v_iload_n dX7_keepRetained_41 rfl 2 rfl ?_
  refine v_aload_n dX7_keepRetained_42 rfl 0 rfl ?_
  obtain ⟨v1, e, h⟩ := bind_some h
  refine gt_X7_70 e dX7_keepRetained_43 ?_
  refine v_icmp_ge (tgt := 78) dX7_keepRetained_46 (by decide) (fun c10 => ?_) (fun c10 => ?_)
  · replace h := ifP c10 h
    exact w_X7_keepRetained_J78 l0 l1 l2 M h
  · replace h := ifN c10 h
    refine v_iload_n dX7_keepRetained_49 rfl 2 rfl ?_
    refine v_bipush (v := 8) dX7_keepRetained_50 cb_8 ?_
    refine v_icmp_ge (tgt := 78) dX7_keepRetained_52 (by decide) (fun c9 => ?_) (fun c9 => ?_)
    · replace h := ifP c9 h
      exact w_X7_keepRetained_J78 l0 l1 l2 M h
    · replace h := ifN c9 h
      refine v_aload_n dX7_keepRetained_55 rfl 0 rfl ?_
      obtain ⟨v2, e, h⟩ := bind_some h
      refine gt_X7_33 e dX7_keepRetained_56 ?_
      refine v_iload_n dX7_keepRetained_59 rfl 2 rfl ?_
      obtain ⟨v3, e, h⟩ := bind_some h
      refine al_1 e dX7_keepRetained_60 ?_
      obtain ⟨v4, e, h⟩ := bind_some h
      refine gt_X7_195 e dX7_keepRetained_61 ?_
      refine v_aload_n dX7_keepRetained_64 rfl 1 rfl ?_
      obtain ⟨v5, e, h⟩ := bind_some h
      refine gt_X7_195 e dX7_keepRetained_65 ?_
      obtain ⟨v7, M6, e, h⟩ := bindP_some h
      refine ca_X7_183 e dX7_keepRetained_68 (Nat.le_of_ble_eq_true rfl) (by decide) ?_
      refine v_if_eq (tgt := 78) dX7_keepRetained_71 (by decide) (fun c8 => ?_) (fun c8 => ?_)
      · replace h := ifP c8 h
        exact w_X7_keepRetained_J78 l0 l1 l2 M6 h
      · replace h := ifN c8 h
        refine v_iconst (v := 1) dX7_keepRetained_74 ci_1 ?_
        refine v_goto (tgt := 79) dX7_keepRetained_75 (by decide) ?_
        exact w_X7_keepRetained_J79 l0 l1 l2 (1 : Int32) M6 h
set_option maxHeartbeats 4000000 in
set_option maxRecDepth 100000 in
theorem w_X7_keepRetained_L2 {G : Gl} {ρ0 : Nat → Nat} {M0 MF : Mem} {r : Unit} : ∀ (n : Nat) (l0 : Nat) (l1 : Nat) (l2 : Int32) (M : Mem), f_X7_keepRetained_L2 n l0 l1 l2 M = some MF → V G (RX7, cX7_keepRetained, none, 2, 44, 4, "keepRetained", []) (ρ0, M0, cvV r, MF) 2 [(0, .ref l0), (1, .ref l1), (2, .int l2)] [] M := by
  intro n
  induction n with
  | zero => intro l0 l1 l2 M h; cases h
  | succ n ih =>
    intro l0 l1 l2 M h
    rw [f_X7_keepRetained_L2] at h
    refine v_iload_n dX7_keepRetained_2 rfl 2 rfl ?_
    refine v_aload_n dX7_keepRetained_3 rfl 0 rfl ?_
    obtain ⟨v1, e, h⟩ := bind_some h
    refine gt_X7_70 e dX7_keepRetained_4 ?_
    refine v_icmp_ge (tgt := 41) dX7_keepRetained_7 (by decide) (fun c10 => ?_) (fun c10 => ?_)
    · replace h := ifP c10 h
      exact w_X7_keepRetained_J41 l0 l1 l2 M h
    · replace h := ifN c10 h
      refine v_iload_n dX7_keepRetained_10 rfl 2 rfl ?_
      refine v_bipush (v := 8) dX7_keepRetained_11 cb_8 ?_
      refine v_icmp_ge (tgt := 41) dX7_keepRetained_13 (by decide) (fun c9 => ?_) (fun c9 => ?_)
      · replace h := ifP c9 h
        exact w_X7_keepRetained_J41 l0 l1 l2 M h
      · replace h := ifN c9 h
        refine v_aload_n dX7_keepRetained_16 rfl 0 rfl ?_
        obtain ⟨v2, e, h⟩ := bind_some h
        refine gt_X7_33 e dX7_keepRetained_17 ?_
        refine v_iload_n dX7_keepRetained_20 rfl 2 rfl ?_
        obtain ⟨v3, e, h⟩ := bind_some h
        refine al_1 e dX7_keepRetained_21 ?_
        obtain ⟨v4, e, h⟩ := bind_some h
        refine gt_X7_195 e dX7_keepRetained_22 ?_
        refine v_aload_n dX7_keepRetained_25 rfl 1 rfl ?_
        obtain ⟨v5, e, h⟩ := bind_some h
        refine gt_X7_195 e dX7_keepRetained_26 ?_
        obtain ⟨v7, M6, e, h⟩ := bindP_some h
        refine ca_X7_224 e dX7_keepRetained_29 (Nat.le_of_ble_eq_true rfl) (by decide) ?_
        refine v_if_ge (tgt := 41) dX7_keepRetained_32 (by decide) (fun c8 => ?_) (fun c8 => ?_)
        · replace h := ifP c8 h
          exact w_X7_keepRetained_J41 l0 l1 l2 M6 h
        · replace h := ifN c8 h
          refine v_iinc (ls' := [(2, .int (l2 + 1)), (0, .ref l0), (1, .ref l1)]) dX7_keepRetained_35 2 rfl (v := 1) ci_1 (by decide) rfl ?_
          refine v_goto (tgt := 2) dX7_keepRetained_38 (by decide) ?_
          refine v_sub [1, 2, 0] rfl ?_
          exact ih l0 l1 (l2 + 1) M6 h
set_option maxHeartbeats 4000000 in
set_option maxRecDepth 100000 in
theorem w_X7_keepRetained {G : Gl} {ρ0 : Nat → Nat} {M0 MF : Mem} {r : Unit} (l0 : Nat) (l1 : Nat) (M : Mem) (h : f_X7_keepRetained l0 l1 M = some MF) : V G (RX7, cX7_keepRetained, none, 2, 44, 4, "keepRetained", []) (ρ0, M0, cvV r, MF) 0 [(0, .ref l0), (1, .ref l1)] [] M := by
  unfold f_X7_keepRetained at h
  replace h := (ifS h).2
  refine v_iconst (v := 0) dX7_keepRetained_0 ci_0 ?_
  refine v_istore_n (ls' := [(2, .int (0 : Int32)), (0, .ref l0), (1, .ref l1)]) dX7_keepRetained_1 rfl (by decide) rfl ?_
  refine v_sub [1, 2, 0] rfl ?_
  exact w_X7_keepRetained_L2 FU l0 l1 (0 : Int32) M h
theorem kd_X7_keepRetained {l0 : Nat} {l1 : Nat} {M : Mem} {z : _} (h : f_X7_keepRetained l0 l1 M = some z) : (mK M l0).1 = 7 := by
  unfold f_X7_keepRetained at h
  exact (ifS h).1
theorem k_X7_keepRetained {G : Gl} {l0 : Nat} {l1 : Nat} {M MF : Mem} (h : f_X7_keepRetained l0 l1 M = some MF) : CtrP G yX7_keepRetained cX7_keepRetained 4 none 2 44 [.ref l0, .ref l1] M (cvV ()) MF :=
  ctr_of (by decide +kernel) (Nat.le_of_ble_eq_true rfl) (fun ρ => w_X7_keepRetained (r := ()) l0 l1 M h)
theorem wd_X7_200 : wdV RX7 200 RX7 yX7_keepRetained cX7_keepRetained 4 none 1 := ⟨gwi 675 (by decide +kernel) (by decide +kernel), gwi 677 (by decide +kernel) (by decide +kernel), gwi 2 (by decide +kernel) (by decide +kernel), nw_X7, gwi 678 (by decide +kernel) (by decide +kernel), ⟨rfl, by decide +kernel, by decide +kernel, by decide +kernel⟩⟩
theorem ca_X7_200 {G : Gl} {B : Bx} {cc : ByteArray} {ret : Option FieldType} {fr lo nL : Nat} {mn : String} {hh : List (Nat × Nat × Nat × Nat)} {pc : Nat} {ls : List (Nat × Value)} {st : List Value} {M M1 : Mem} {l0 : Nat} {l1 : Nat} (e : f_X7_keepRetained l0 l1 M = some M1) (hd : decode cc pc = .ok (.invokevirtual 200, 3)) (hcat : (st.map fun v => v.category).sum ≤ 8) (hR : 2 + 1 ≤ fr ∧ 8 + (4 + 11) + 44 ≤ lo) (k : V G (RX7, cc, ret, fr, lo, nL, mn, hh) B (pc + 3) ls (st) M1) : V G (RX7, cc, ret, fr, lo, nL, mn, hh) B pc ls (.ref l1 :: .ref l0 :: st) M := v_callV0 (As := [.ref l1]) (k_X7_keepRetained e) wd_X7_200 clX7 (kd_X7_keepRetained e) hd rfl rfl hcat hR k
set_option maxHeartbeats 4000000 in
set_option maxRecDepth 100000 in
theorem w_X7_countSent {G : Gl} {ρ0 : Nat → Nat} {M0 MF : Mem} {r : Int32} (l0 : Nat) (l1 : Nat) (M : Mem) (h : f_X7_countSent l0 l1 M = some (r, MF)) : V G (RX7, cX7_countSent, (some .boolean), 0, 0, 2, "countSent", []) (ρ0, M0, cvI r, MF) 0 [(0, .ref l0), (1, .ref l1)] [] M := by
  unfold f_X7_countSent at h
  replace h := (ifS h).2
  refine v_aload_n dX7_countSent_0 rfl 1 rfl ?_
  refine v_dup dX7_countSent_1 rfl ?_
  obtain ⟨v1, e, h⟩ := bind_some h
  refine gt_X7_310 e dX7_countSent_2 ?_
  refine v_iconst (v := 1) dX7_countSent_5 ci_1 ?_
  refine v_iadd dX7_countSent_6 ?_
  obtain ⟨M2, e, h⟩ := bind_some h
  refine pt_X7_310 e dX7_countSent_7 ?_
  refine v_aload_n dX7_countSent_10 rfl 1 rfl ?_
  obtain ⟨v3, e, h⟩ := bind_some h
  refine gt_X7_86 e dX7_countSent_11 ?_
  obtain ⟨v4, e, h⟩ := bind_some h
  refine gt_X7_313 e dX7_countSent_14 ?_
  refine v_bipush (v := 30) dX7_countSent_17 cb_30 ?_
  refine v_icmp_lt (tgt := 35) dX7_countSent_19 (by decide) (fun c8 => ?_) (fun c8 => ?_)
  · replace h := ifP c8 h
    refine v_iconst (v := 1) dX7_countSent_35 ci_1 ?_
    obtain ⟨hz, rfl, rfl⟩ := okZ_some h
    exact v_zreturn dX7_countSent_36 hz
  · replace h := ifN c8 h
    refine v_aload_n dX7_countSent_22 rfl 0 rfl ?_
    obtain ⟨v5, e, h⟩ := bind_some h
    refine gt_X7_45 e dX7_countSent_23 ?_
    refine v_bipush (v := 8) dX7_countSent_26 cb_8 ?_
    refine v_dup2 dX7_countSent_28 rfl rfl ?_
    obtain ⟨v6, e, h⟩ := bind_some h
    refine v_iaload dX7_countSent_29 e ?_
    refine v_iconst (v := 1) dX7_countSent_30 ci_1 ?_
    refine v_iadd dX7_countSent_31 ?_
    obtain ⟨M7, e, h⟩ := bind_some h
    refine v_iastore dX7_countSent_32 e ?_
    refine v_iconst (v := 0) dX7_countSent_33 ci_0 ?_
    obtain ⟨hz, rfl, rfl⟩ := okZ_some h
    exact v_zreturn dX7_countSent_34 hz
theorem kd_X7_countSent {l0 : Nat} {l1 : Nat} {M : Mem} {z : _} (h : f_X7_countSent l0 l1 M = some z) : (mK M l0).1 = 7 := by
  unfold f_X7_countSent at h
  exact (ifS h).1
theorem k_X7_countSent {G : Gl} {l0 : Nat} {l1 : Nat} {M MF : Mem} {r : Int32} (h : f_X7_countSent l0 l1 M = some (r, MF)) : CtrP G yX7_countSent cX7_countSent 2 (some .boolean) 0 0 [.ref l0, .ref l1] M (cvI r) MF :=
  ctr_of (by decide +kernel) (Nat.le_of_ble_eq_true rfl) (fun ρ => w_X7_countSent l0 l1 M h)
theorem wd_X7_293 : wdV RX7 293 RX7 yX7_countSent cX7_countSent 2 (some .boolean) 1 := ⟨gwi 726 (by decide +kernel) (by decide +kernel), gwi 728 (by decide +kernel) (by decide +kernel), gwi 10 (by decide +kernel) (by decide +kernel), nw_X7, gwi 729 (by decide +kernel) (by decide +kernel), ⟨rfl, by decide +kernel, by decide +kernel, by decide +kernel⟩⟩
theorem ca_X7_293 {G : Gl} {B : Bx} {cc : ByteArray} {ret : Option FieldType} {fr lo nL : Nat} {mn : String} {hh : List (Nat × Nat × Nat × Nat)} {pc : Nat} {ls : List (Nat × Value)} {st : List Value} {M M1 : Mem} {l0 : Nat} {l1 : Nat} {x : Int32} (e : f_X7_countSent l0 l1 M = some (x, M1)) (hd : decode cc pc = .ok (.invokevirtual 293, 3)) (hcat : (st.map fun v => v.category).sum ≤ 8) (hR : 0 + 1 ≤ fr ∧ 8 + (2 + 11) + 0 ≤ lo) (k : V G (RX7, cc, ret, fr, lo, nL, mn, hh) B (pc + 3) ls (.int x :: st) M1) : V G (RX7, cc, ret, fr, lo, nL, mn, hh) B pc ls (.ref l1 :: .ref l0 :: st) M := v_callVi (As := [.ref l1]) (k_X7_countSent e) wd_X7_293 clX7 (kd_X7_countSent e) hd rfl rfl hcat hR k
set_option maxHeartbeats 4000000 in
set_option maxRecDepth 100000 in
theorem w_X7_sendMessage {G : Gl} {ρ0 : Nat → Nat} {M0 MF : Mem} {r : Unit} (l0 : Nat) (l1 : Nat) (l2 : Nat) (l3 : Int32) (M : Mem) (h : f_X7_sendMessage l0 l1 l2 l3 M = some MF) : V G (RX7, cX7_sendMessage, none, 1, 21, 5, "sendMessage", []) (ρ0, M0, cvV r, MF) 0 [(0, .ref l0), (1, .ref l1), (2, .ref l2), (3, .int l3)] [] M := by
  unfold f_X7_sendMessage at h
  replace h := (ifS h).2
  refine v_aload_n dX7_sendMessage_0 rfl 2 rfl ?_
  refine v_aload_n dX7_sendMessage_1 rfl 0 rfl ?_
  obtain ⟨v1, e, h⟩ := bind_some h
  refine gt_X7_79 e dX7_sendMessage_2 ?_
  obtain ⟨M2, e, h⟩ := bind_some h
  refine pt_X7_286 e dX7_sendMessage_5 ?_
  refine v_aload_n dX7_sendMessage_8 rfl 0 rfl ?_
  refine v_aload_n dX7_sendMessage_9 rfl 1 rfl ?_
  obtain ⟨v4, M3, e, h⟩ := bindP_some h
  refine ca_X7_293 e dX7_sendMessage_10 (Nat.le_of_ble_eq_true rfl) (by decide) ?_
  refine v_if_eq (tgt := 78) dX7_sendMessage_13 (by decide) (fun c19 => ?_) (fun c19 => ?_)
  · replace h := ifP c19 h
    cases h
    exact v_vreturn dX7_sendMessage_78
  · replace h := ifN c19 h
    refine v_aload_n dX7_sendMessage_16 rfl 1 rfl ?_
    obtain ⟨v5, e, h⟩ := bind_some h
    refine gt_X7_86 e dX7_sendMessage_17 ?_
    obtain ⟨v7, M6, e, h⟩ := bindP_some h
    refine ca_X7_296 e dX7_sendMessage_20 (Nat.le_of_ble_eq_true rfl) (by decide) ?_
    refine v_astore (ls' := [(4, .ref v7), (0, .ref l0), (1, .ref l1), (2, .ref l2), (3, .int l3)]) dX7_sendMessage_23 (by decide) rfl ?_
    refine v_aload dX7_sendMessage_25 0 rfl ?_
    refine v_iconst (v := 0) dX7_sendMessage_27 ci_0 ?_
    obtain ⟨M8, e, h⟩ := bind_some h
    refine pt_X7_300 e dX7_sendMessage_28 ?_
    refine v_aload dX7_sendMessage_31 0 rfl ?_
    refine v_aload_n dX7_sendMessage_33 rfl 3 rfl ?_
    obtain ⟨v9, e, h⟩ := bind_some h
    refine gt_X7_271 e dX7_sendMessage_34 ?_
    obtain ⟨M10, e, h⟩ := bind_some h
    refine pt_X7_305 e dX7_sendMessage_37 ?_
    refine v_aload dX7_sendMessage_40 0 rfl ?_
    refine v_aload_n dX7_sendMessage_42 rfl 3 rfl ?_
    obtain ⟨v11, e, h⟩ := bind_some h
    refine gt_X7_207 e dX7_sendMessage_43 ?_
    obtain ⟨M12, e, h⟩ := bind_some h
    refine pt_X7_306 e dX7_sendMessage_46 ?_
    refine v_aload dX7_sendMessage_49 0 rfl ?_
    refine v_aload_n dX7_sendMessage_51 rfl 3 rfl ?_
    obtain ⟨v13, e, h⟩ := bind_some h
    refine gt_X7_228 e dX7_sendMessage_52 ?_
    obtain ⟨M14, e, h⟩ := bind_some h
    refine pt_X7_307 e dX7_sendMessage_55 ?_
    refine v_aload dX7_sendMessage_58 0 rfl ?_
    refine v_aload_n dX7_sendMessage_60 rfl 3 rfl ?_
    obtain ⟨v15, e, h⟩ := bind_some h
    refine gt_X7_241 e dX7_sendMessage_61 ?_
    refine v_iload_n dX7_sendMessage_64 rfl 4 rfl ?_
    refine v_iadd dX7_sendMessage_65 ?_
    obtain ⟨M16, e, h⟩ := bind_some h
    refine pt_X7_308 e dX7_sendMessage_66 ?_
    refine v_aload dX7_sendMessage_69 0 rfl ?_
    refine v_aload_n dX7_sendMessage_71 rfl 3 rfl ?_
    obtain ⟨v17, e, h⟩ := bind_some h
    refine gt_X7_195 e dX7_sendMessage_72 ?_
    obtain ⟨M18, e, h⟩ := bind_some h
    refine pt_X7_309 e dX7_sendMessage_75 ?_
    cases h
    exact v_vreturn dX7_sendMessage_78
theorem kd_X7_sendMessage {l0 : Nat} {l1 : Nat} {l2 : Nat} {l3 : Int32} {M : Mem} {z : _} (h : f_X7_sendMessage l0 l1 l2 l3 M = some z) : (mK M l0).1 = 7 := by
  unfold f_X7_sendMessage at h
  exact (ifS h).1
theorem k_X7_sendMessage {G : Gl} {l0 : Nat} {l1 : Nat} {l2 : Nat} {l3 : Int32} {M MF : Mem} (h : f_X7_sendMessage l0 l1 l2 l3 M = some MF) : CtrP G yX7_sendMessage cX7_sendMessage 5 none 1 21 [.ref l0, .ref l1, .ref l2, .int l3] M (cvV ()) MF :=
  ctr_of (by decide +kernel) (Nat.le_of_ble_eq_true rfl) (fun ρ => w_X7_sendMessage (r := ()) l0 l1 l2 l3 M h)
theorem wd_X7_244 : wdV RX7 244 RX7 yX7_sendMessage cX7_sendMessage 5 none 3 := ⟨gwi 722 (by decide +kernel) (by decide +kernel), gwi 724 (by decide +kernel) (by decide +kernel), gwi 9 (by decide +kernel) (by decide +kernel), nw_X7, gwi 725 (by decide +kernel) (by decide +kernel), ⟨rfl, by decide +kernel, by decide +kernel, by decide +kernel⟩⟩
theorem ca_X7_244 {G : Gl} {B : Bx} {cc : ByteArray} {ret : Option FieldType} {fr lo nL : Nat} {mn : String} {hh : List (Nat × Nat × Nat × Nat)} {pc : Nat} {ls : List (Nat × Value)} {st : List Value} {M M1 : Mem} {l0 : Nat} {l1 : Nat} {l2 : Nat} {l3 : Int32} (e : f_X7_sendMessage l0 l1 l2 l3 M = some M1) (hd : decode cc pc = .ok (.invokevirtual 244, 3)) (hcat : (st.map fun v => v.category).sum ≤ 8) (hR : 1 + 1 ≤ fr ∧ 8 + (5 + 11) + 21 ≤ lo) (k : V G (RX7, cc, ret, fr, lo, nL, mn, hh) B (pc + 3) ls (st) M1) : V G (RX7, cc, ret, fr, lo, nL, mn, hh) B pc ls (.int l3 :: .ref l2 :: .ref l1 :: .ref l0 :: st) M := v_callV0 (As := [.ref l1, .ref l2, .int l3]) (k_X7_sendMessage e) wd_X7_244 clX7 (kd_X7_sendMessage e) hd rfl rfl hcat hR k
set_option maxHeartbeats 4000000 in
set_option maxRecDepth 100000 in
theorem w_X7_mayStart {G : Gl} {ρ0 : Nat → Nat} {M0 MF : Mem} {r : Int32} (l0 : Nat) (l1 : Nat) (M : Mem) (h : f_X7_mayStart l0 l1 M = some (r, MF)) : V G (RX7, cX7_mayStart, (some .boolean), 0, 0, 2, "mayStart", []) (ρ0, M0, cvI r, MF) 0 [(0, .ref l0), (1, .ref l1)] [] M := by
  unfold f_X7_mayStart at h
  replace h := (ifS h).2
  refine v_aload_n dX7_mayStart_0 rfl 1 rfl ?_
  obtain ⟨v1, e, h⟩ := bind_some h
  refine gt_X7_82 e dX7_mayStart_1 ?_
  refine v_if_eq (tgt := 30) dX7_mayStart_4 (by decide) (fun c8 => ?_) (fun c8 => ?_)
  · replace h := ifP c8 h
    refine v_iconst (v := 0) dX7_mayStart_30 ci_0 ?_
    obtain ⟨hz, rfl, rfl⟩ := okZ_some h
    exact v_zreturn dX7_mayStart_31 hz
  · replace h := ifN c8 h
    refine v_aload_n dX7_mayStart_7 rfl 1 rfl ?_
    obtain ⟨v2, e, h⟩ := bind_some h
    refine gt_X7_95 e dX7_mayStart_8 ?_
    obtain ⟨v3, e, h⟩ := bind_some h
    refine gt_X7_138 e dX7_mayStart_11 ?_
    obtain ⟨v4, e, h⟩ := bind_some h
    refine gt_X7_142 e dX7_mayStart_14 ?_
    refine v_aload_n dX7_mayStart_17 rfl 0 rfl ?_
    obtain ⟨v5, e, h⟩ := bind_some h
    refine gt_X7_42 e dX7_mayStart_18 ?_
    refine v_iconst (v := 0) dX7_mayStart_21 ci_0 ?_
    obtain ⟨v6, e, h⟩ := bind_some h
    refine v_iaload dX7_mayStart_22 e ?_
    refine v_icmp_ge (tgt := 30) dX7_mayStart_23 (by decide) (fun c7 => ?_) (fun c7 => ?_)
    · replace h := ifP c7 h
      refine v_iconst (v := 0) dX7_mayStart_30 ci_0 ?_
      obtain ⟨hz, rfl, rfl⟩ := okZ_some h
      exact v_zreturn dX7_mayStart_31 hz
    · replace h := ifN c7 h
      refine v_iconst (v := 1) dX7_mayStart_26 ci_1 ?_
      refine v_goto (tgt := 31) dX7_mayStart_27 (by decide) ?_
      obtain ⟨hz, rfl, rfl⟩ := okZ_some h
      exact v_zreturn dX7_mayStart_31 hz
theorem kd_X7_mayStart {l0 : Nat} {l1 : Nat} {M : Mem} {z : _} (h : f_X7_mayStart l0 l1 M = some z) : (mK M l0).1 = 7 := by
  unfold f_X7_mayStart at h
  exact (ifS h).1
theorem k_X7_mayStart {G : Gl} {l0 : Nat} {l1 : Nat} {M MF : Mem} {r : Int32} (h : f_X7_mayStart l0 l1 M = some (r, MF)) : CtrP G yX7_mayStart cX7_mayStart 2 (some .boolean) 0 0 [.ref l0, .ref l1] M (cvI r) MF :=
  ctr_of (by decide +kernel) (Nat.le_of_ble_eq_true rfl) (fun ρ => w_X7_mayStart l0 l1 M h)
theorem wd_X7_251 : wdV RX7 251 RX7 yX7_mayStart cX7_mayStart 2 (some .boolean) 1 := ⟨gwi 734 (by decide +kernel) (by decide +kernel), gwi 736 (by decide +kernel) (by decide +kernel), gwi 11 (by decide +kernel) (by decide +kernel), nw_X7, gwi 737 (by decide +kernel) (by decide +kernel), ⟨rfl, by decide +kernel, by decide +kernel, by decide +kernel⟩⟩
theorem ca_X7_251 {G : Gl} {B : Bx} {cc : ByteArray} {ret : Option FieldType} {fr lo nL : Nat} {mn : String} {hh : List (Nat × Nat × Nat × Nat)} {pc : Nat} {ls : List (Nat × Value)} {st : List Value} {M M1 : Mem} {l0 : Nat} {l1 : Nat} {x : Int32} (e : f_X7_mayStart l0 l1 M = some (x, M1)) (hd : decode cc pc = .ok (.invokevirtual 251, 3)) (hcat : (st.map fun v => v.category).sum ≤ 8) (hR : 0 + 1 ≤ fr ∧ 8 + (2 + 11) + 0 ≤ lo) (k : V G (RX7, cc, ret, fr, lo, nL, mn, hh) B (pc + 3) ls (.int x :: st) M1) : V G (RX7, cc, ret, fr, lo, nL, mn, hh) B pc ls (.ref l1 :: .ref l0 :: st) M := v_callVi (As := [.ref l1]) (k_X7_mayStart e) wd_X7_251 clX7 (kd_X7_mayStart e) hd rfl rfl hcat hR k
set_option maxHeartbeats 4000000 in
set_option maxRecDepth 100000 in
theorem w_X7_startFlight_J27 {G : Gl} {ρ0 : Nat → Nat} {M0 MF : Mem} {r : Unit} (l0 : Nat) (l1 : Nat) (l2 : Nat) (l3 : Nat) (s0 : Int32) (s1 : Nat) (M : Mem) (h : f_X7_startFlight_J27 l0 l1 l2 l3 s0 s1 M = some MF) : V G (RX7, cX7_startFlight, none, 2, 45, 4, "startFlight", []) (ρ0, M0, cvV r, MF) 27 [(0, .ref l0), (1, .ref l1), (2, .ref l2), (3, .ref l3)] [.int s0, .ref s1] M := by
  unfold f_X7_startFlight_J27 at h
  obtain ⟨M1, e, h⟩ := bind_some h
  refine pt_X7_274 e dX7_startFlight_27 ?_
  refine v_aload_n dX7_startFlight_30 rfl 0 rfl ?_
  refine v_aload_n dX7_startFlight_31 rfl 1 rfl ?_
  refine v_aload_n dX7_startFlight_32 rfl 2 rfl ?_
  refine v_iconst (v := 0) dX7_startFlight_33 ci_0 ?_
  obtain ⟨M2, e, h⟩ := bind_some h
  refine ca_X7_244 e dX7_startFlight_34 (Nat.le_of_ble_eq_true rfl) (by decide) ?_
  refine v_aload_n dX7_startFlight_37 rfl 3 rfl ?_
  obtain ⟨v3, e, h⟩ := bind_some h
  refine gt_X7_138 e dX7_startFlight_38 ?_
  refine v_aload_n dX7_startFlight_41 rfl 2 rfl ?_
  obtain ⟨M4, e, h⟩ := bind_some h
  refine ca_X7_265 e dX7_startFlight_42 (Nat.le_of_ble_eq_true rfl) (by decide) ?_
  refine v_aload_n dX7_startFlight_45 rfl 3 rfl ?_
  obtain ⟨M5, e, h⟩ := bind_some h
  refine ca_X7_277 e dX7_startFlight_46 (Nat.le_of_ble_eq_true rfl) (by decide) ?_
  cases h
  exact v_vreturn dX7_startFlight_49
set_option maxHeartbeats 4000000 in
set_option maxRecDepth 100000 in
theorem w_X7_startFlight {G : Gl} {ρ0 : Nat → Nat} {M0 MF : Mem} {r : Unit} (l0 : Nat) (l1 : Nat) (l2 : Nat) (M : Mem) (h : f_X7_startFlight l0 l1 l2 M = some MF) : V G (RX7, cX7_startFlight, none, 2, 45, 4, "startFlight", []) (ρ0, M0, cvV r, MF) 0 [(0, .ref l0), (1, .ref l1), (2, .ref l2)] [] M := by
  unfold f_X7_startFlight at h
  replace h := (ifS h).2
  refine v_aload_n dX7_startFlight_0 rfl 1 rfl ?_
  obtain ⟨v1, e, h⟩ := bind_some h
  refine gt_X7_95 e dX7_startFlight_1 ?_
  refine v_astore_n (ls' := [(3, .ref v1), (0, .ref l0), (1, .ref l1), (2, .ref l2)]) dX7_startFlight_4 rfl (by decide) rfl ?_
  refine v_aload_n dX7_startFlight_5 rfl 3 rfl ?_
  refine v_aload_n dX7_startFlight_6 rfl 0 rfl ?_
  obtain ⟨v2, e, h⟩ := bind_some h
  refine gt_X7_268 e dX7_startFlight_7 ?_
  obtain ⟨M3, e, h⟩ := bind_some h
  refine pt_X7_271 e dX7_startFlight_10 ?_
  refine v_aload_n dX7_startFlight_13 rfl 3 rfl ?_
  refine v_aload_n dX7_startFlight_14 rfl 3 rfl ?_
  obtain ⟨v4, e, h⟩ := bind_some h
  refine gt_X7_207 e dX7_startFlight_15 ?_
  refine v_iconst (v := 1) dX7_startFlight_18 ci_1 ?_
  refine v_icmp_ne (tgt := 26) dX7_startFlight_19 (by decide) (fun c5 => ?_) (fun c5 => ?_)
  · replace h := ifN c5 h
    refine v_iconst (v := 2) dX7_startFlight_26 ci_2 ?_
    refine v_sub [1, 2, 3, 0] rfl ?_
    exact w_X7_startFlight_J27 l0 l1 l2 v1 (2 : Int32) l2 M3 h
  · replace h := ifP c5 h
    refine v_iconst (v := 1) dX7_startFlight_22 ci_1 ?_
    refine v_goto (tgt := 27) dX7_startFlight_23 (by decide) ?_
    refine v_sub [1, 2, 3, 0] rfl ?_
    exact w_X7_startFlight_J27 l0 l1 l2 v1 (1 : Int32) l2 M3 h
theorem kd_X7_startFlight {l0 : Nat} {l1 : Nat} {l2 : Nat} {M : Mem} {z : _} (h : f_X7_startFlight l0 l1 l2 M = some z) : (mK M l0).1 = 7 := by
  unfold f_X7_startFlight at h
  exact (ifS h).1
theorem k_X7_startFlight {G : Gl} {l0 : Nat} {l1 : Nat} {l2 : Nat} {M MF : Mem} (h : f_X7_startFlight l0 l1 l2 M = some MF) : CtrP G yX7_startFlight cX7_startFlight 4 none 2 45 [.ref l0, .ref l1, .ref l2] M (cvV ()) MF :=
  ctr_of (by decide +kernel) (Nat.le_of_ble_eq_true rfl) (fun ρ => w_X7_startFlight (r := ()) l0 l1 l2 M h)
theorem wd_X7_255 : wdV RX7 255 RX7 yX7_startFlight cX7_startFlight 4 none 2 := ⟨gwi 738 (by decide +kernel) (by decide +kernel), gwi 740 (by decide +kernel) (by decide +kernel), gwi 12 (by decide +kernel) (by decide +kernel), nw_X7, gwi 741 (by decide +kernel) (by decide +kernel), ⟨rfl, by decide +kernel, by decide +kernel, by decide +kernel⟩⟩
theorem ca_X7_255 {G : Gl} {B : Bx} {cc : ByteArray} {ret : Option FieldType} {fr lo nL : Nat} {mn : String} {hh : List (Nat × Nat × Nat × Nat)} {pc : Nat} {ls : List (Nat × Value)} {st : List Value} {M M1 : Mem} {l0 : Nat} {l1 : Nat} {l2 : Nat} (e : f_X7_startFlight l0 l1 l2 M = some M1) (hd : decode cc pc = .ok (.invokevirtual 255, 3)) (hcat : (st.map fun v => v.category).sum ≤ 8) (hR : 2 + 1 ≤ fr ∧ 8 + (4 + 11) + 45 ≤ lo) (k : V G (RX7, cc, ret, fr, lo, nL, mn, hh) B (pc + 3) ls (st) M1) : V G (RX7, cc, ret, fr, lo, nL, mn, hh) B pc ls (.ref l2 :: .ref l1 :: .ref l0 :: st) M := v_callV0 (As := [.ref l1, .ref l2]) (k_X7_startFlight e) wd_X7_255 clX7 (kd_X7_startFlight e) hd rfl rfl hcat hR k
set_option maxHeartbeats 4000000 in
set_option maxRecDepth 100000 in
theorem w_X7_hold_J34 {G : Gl} {ρ0 : Nat → Nat} {M0 MF : Mem} {r : Unit} (l1 : Nat) (l2 : Nat) (M : Mem) (h : f_X7_hold_J34 l1 l2 M = some MF) : V G (RX7, cX7_hold, none, 2, 42, 3, "hold", []) (ρ0, M0, cvV r, MF) 34 [(1, .ref l1), (2, .ref l2)] [] M := by
  unfold f_X7_hold_J34 at h
  refine v_aload_n dX7_hold_34 rfl 0 rfl ?_
  refine v_aload_n dX7_hold_35 rfl 1 rfl ?_
  obtain ⟨M1, e, h⟩ := bind_some h
  refine ca_X7_265 e dX7_hold_36 (Nat.le_of_ble_eq_true rfl) (by decide) ?_
  cases h
  exact v_vreturn dX7_hold_39
set_option maxHeartbeats 4000000 in
set_option maxRecDepth 100000 in
theorem w_X7_hold {G : Gl} {ρ0 : Nat → Nat} {M0 MF : Mem} {r : Unit} (l0 : Nat) (l1 : Nat) (l2 : Nat) (M : Mem) (h : f_X7_hold l0 l1 l2 M = some MF) : V G (RX7, cX7_hold, none, 2, 42, 3, "hold", []) (ρ0, M0, cvV r, MF) 0 [(0, .ref l0), (1, .ref l1), (2, .ref l2)] [] M := by
  unfold f_X7_hold at h
  replace h := (ifS h).2
  refine v_aload_n dX7_hold_0 rfl 1 rfl ?_
  obtain ⟨v1, e, h⟩ := bind_some h
  refine gt_X7_142 e dX7_hold_1 ?_
  refine v_bipush (v := 8) dX7_hold_4 cb_8 ?_
  refine v_icmp_lt (tgt := 34) dX7_hold_6 (by decide) (fun c9 => ?_) (fun c9 => ?_)
  · replace h := ifP c9 h
    refine v_sub [1, 2] rfl ?_
    exact w_X7_hold_J34 l1 l2 M h
  · replace h := ifN c9 h
    refine v_aload_n dX7_hold_9 rfl 0 rfl ?_
    obtain ⟨v2, e, h⟩ := bind_some h
    refine gt_X7_45 e dX7_hold_10 ?_
    refine v_iconst (v := 2) dX7_hold_13 ci_2 ?_
    refine v_dup2 dX7_hold_14 rfl rfl ?_
    obtain ⟨v3, e, h⟩ := bind_some h
    refine v_iaload dX7_hold_15 e ?_
    refine v_iconst (v := 1) dX7_hold_16 ci_1 ?_
    refine v_iadd dX7_hold_17 ?_
    obtain ⟨M4, e, h⟩ := bind_some h
    refine v_iastore dX7_hold_18 e ?_
    refine v_aload_n dX7_hold_19 rfl 0 rfl ?_
    obtain ⟨v5, e, h⟩ := bind_some h
    refine gt_X7_42 e dX7_hold_20 ?_
    refine v_iconst (v := 3) dX7_hold_23 ci_3 ?_
    obtain ⟨v6, e, h⟩ := bind_some h
    refine v_iaload dX7_hold_24 e ?_
    refine v_if_ne (tgt := 29) dX7_hold_25 (by decide) (fun c8 => ?_) (fun c8 => ?_)
    · replace h := ifN c8 h
      refine v_aload_n dX7_hold_29 rfl 1 rfl ?_
      refine v_iconst (v := 0) dX7_hold_30 ci_0 ?_
      obtain ⟨M7, e, h⟩ := bind_some h
      refine ca_X7_262 e dX7_hold_31 (Nat.le_of_ble_eq_true rfl) (by decide) ?_
      refine v_sub [1, 2] rfl ?_
      exact w_X7_hold_J34 l1 l2 M7 h
    · replace h := ifP c8 h
      cases h
      exact v_vreturn dX7_hold_28
theorem kd_X7_hold {l0 : Nat} {l1 : Nat} {l2 : Nat} {M : Mem} {z : _} (h : f_X7_hold l0 l1 l2 M = some z) : (mK M l0).1 = 7 := by
  unfold f_X7_hold at h
  exact (ifS h).1
theorem k_X7_hold {G : Gl} {l0 : Nat} {l1 : Nat} {l2 : Nat} {M MF : Mem} (h : f_X7_hold l0 l1 l2 M = some MF) : CtrP G yX7_hold cX7_hold 3 none 2 42 [.ref l0, .ref l1, .ref l2] M (cvV ()) MF :=
  ctr_of (by decide +kernel) (Nat.le_of_ble_eq_true rfl) (fun ρ => w_X7_hold (r := ()) l0 l1 l2 M h)
theorem wd_X7_258 : wdV RX7 258 RX7 yX7_hold cX7_hold 3 none 2 := ⟨gwi 754 (by decide +kernel) (by decide +kernel), gwi 756 (by decide +kernel) (by decide +kernel), gwi 13 (by decide +kernel) (by decide +kernel), nw_X7, gwi 757 (by decide +kernel) (by decide +kernel), ⟨rfl, by decide +kernel, by decide +kernel, by decide +kernel⟩⟩
theorem ca_X7_258 {G : Gl} {B : Bx} {cc : ByteArray} {ret : Option FieldType} {fr lo nL : Nat} {mn : String} {hh : List (Nat × Nat × Nat × Nat)} {pc : Nat} {ls : List (Nat × Value)} {st : List Value} {M M1 : Mem} {l0 : Nat} {l1 : Nat} {l2 : Nat} (e : f_X7_hold l0 l1 l2 M = some M1) (hd : decode cc pc = .ok (.invokevirtual 258, 3)) (hcat : (st.map fun v => v.category).sum ≤ 8) (hR : 2 + 1 ≤ fr ∧ 8 + (3 + 11) + 42 ≤ lo) (k : V G (RX7, cc, ret, fr, lo, nL, mn, hh) B (pc + 3) ls (st) M1) : V G (RX7, cc, ret, fr, lo, nL, mn, hh) B pc ls (.ref l2 :: .ref l1 :: .ref l0 :: st) M := v_callV0 (As := [.ref l1, .ref l2]) (k_X7_hold e) wd_X7_258 clX7 (kd_X7_hold e) hd rfl rfl hcat hR k
set_option maxHeartbeats 4000000 in
set_option maxRecDepth 100000 in
theorem w_X7_give_J105 {G : Gl} {ρ0 : Nat → Nat} {M0 MF : Mem} {r : Unit} (l0 : Nat) (l1 : Nat) (M : Mem) (h : f_X7_give_J105 l0 l1 M = some MF) : V G (RX7, cX7_give, none, 3, 68, 5, "give", []) (ρ0, M0, cvV r, MF) 105 [(0, .ref l0), (1, .ref l1)] [] M := by
  unfold f_X7_give_J105 at h
  refine v_aload_n dX7_give_105 rfl 0 rfl ?_
  refine v_aload_n dX7_give_106 rfl 1 rfl ?_
  obtain ⟨v1, e, h⟩ := bind_some h
  refine gt_X7_95 e dX7_give_107 ?_
  obtain ⟨v2, e, h⟩ := bind_some h
  refine gt_X7_248 e dX7_give_110 ?_
  refine v_aload_n dX7_give_113 rfl 0 rfl ?_
  obtain ⟨v3, e, h⟩ := bind_some h
  refine gt_X7_55 e dX7_give_114 ?_
  obtain ⟨M4, e, h⟩ := bind_some h
  refine ca_X7_258 e dX7_give_117 (Nat.le_of_ble_eq_true rfl) (by decide) ?_
  cases h
  exact v_vreturn dX7_give_120
set_option maxHeartbeats 4000000 in
set_option maxRecDepth 100000 in
theorem w_X7_give {G : Gl} {ρ0 : Nat → Nat} {M0 MF : Mem} {r : Unit} (l0 : Nat) (l1 : Nat) (l2 : Nat) (l3 : Int32) (l4 : Int32) (M : Mem) (h : f_X7_give l0 l1 l2 l3 l4 M = some MF) : V G (RX7, cX7_give, none, 3, 68, 5, "give", []) (ρ0, M0, cvV r, MF) 0 [(0, .ref l0), (1, .ref l1), (2, .ref l2), (3, .int l3), (4, .int l4)] [] M := by
  unfold f_X7_give at h
  replace h := (ifS h).2
  refine v_aload_n dX7_give_0 rfl 0 rfl ?_
  obtain ⟨v1, e, h⟩ := bind_some h
  refine gt_X7_45 e dX7_give_1 ?_
  refine v_iconst (v := 1) dX7_give_4 ci_1 ?_
  refine v_dup2 dX7_give_5 rfl rfl ?_
  obtain ⟨v2, e, h⟩ := bind_some h
  refine v_iaload dX7_give_6 e ?_
  refine v_iconst (v := 1) dX7_give_7 ci_1 ?_
  refine v_iadd dX7_give_8 ?_
  obtain ⟨M3, e, h⟩ := bind_some h
  refine v_iastore dX7_give_9 e ?_
  refine v_aload_n dX7_give_10 rfl 0 rfl ?_
  obtain ⟨v4, e, h⟩ := bind_some h
  refine gt_X7_55 e dX7_give_11 ?_
  refine v_aload_n dX7_give_14 rfl 2 rfl ?_
  obtain ⟨v5, e, h⟩ := bind_some h
  refine gt_X7_195 e dX7_give_15 ?_
  refine v_iload_n dX7_give_18 rfl 3 rfl ?_
  refine v_aload_n dX7_give_19 rfl 2 rfl ?_
  obtain ⟨v6, e, h⟩ := bind_some h
  refine gt_X7_228 e dX7_give_20 ?_
  obtain ⟨M7, e, h⟩ := bind_some h
  refine ca_X7_237 e dX7_give_23 (Nat.le_of_ble_eq_true rfl) (by decide) ?_
  refine v_aload_n dX7_give_26 rfl 0 rfl ?_
  obtain ⟨v8, e, h⟩ := bind_some h
  refine gt_X7_55 e dX7_give_27 ?_
  refine v_iload dX7_give_30 4 rfl ?_
  obtain ⟨M9, e, h⟩ := bind_some h
  refine pt_X7_241 e dX7_give_32 ?_
  refine v_iload_n dX7_give_35 rfl 3 rfl ?_
  refine v_if_ne (tgt := 72) dX7_give_36 (by decide) (fun c19 => ?_) (fun c19 => ?_)
  · replace h := ifN c19 h
    refine v_aload_n dX7_give_72 rfl 1 rfl ?_
    obtain ⟨v10, e, h⟩ := bind_some h
    refine gt_X7_95 e dX7_give_73 ?_
    obtain ⟨v11, e, h⟩ := bind_some h
    refine gt_X7_248 e dX7_give_76 ?_
    obtain ⟨v12, e, h⟩ := bind_some h
    refine gt_X7_142 e dX7_give_79 ?_
    refine v_if_ne (tgt := 105) dX7_give_82 (by decide) (fun c18 => ?_) (fun c18 => ?_)
    · replace h := ifN c18 h
      refine v_sub [0, 1] rfl ?_
      exact w_X7_give_J105 l0 l1 M9 h
    · replace h := ifP c18 h
      refine v_aload_n dX7_give_85 rfl 0 rfl ?_
      refine v_aload_n dX7_give_86 rfl 1 rfl ?_
      obtain ⟨v14, M13, e, h⟩ := bindP_some h
      refine ca_X7_251 e dX7_give_87 (Nat.le_of_ble_eq_true rfl) (by decide) ?_
      refine v_if_eq (tgt := 105) dX7_give_90 (by decide) (fun c17 => ?_) (fun c17 => ?_)
      · replace h := ifP c17 h
        refine v_sub [0, 1] rfl ?_
        exact w_X7_give_J105 l0 l1 M13 h
      · replace h := ifN c17 h
        refine v_aload_n dX7_give_93 rfl 0 rfl ?_
        refine v_aload_n dX7_give_94 rfl 1 rfl ?_
        refine v_aload_n dX7_give_95 rfl 0 rfl ?_
        obtain ⟨v15, e, h⟩ := bind_some h
        refine gt_X7_55 e dX7_give_96 ?_
        obtain ⟨M16, e, h⟩ := bind_some h
        refine ca_X7_255 e dX7_give_99 (Nat.le_of_ble_eq_true rfl) (by decide) ?_
        refine v_goto (tgt := 120) dX7_give_102 (by decide) ?_
        cases h
        exact v_vreturn dX7_give_120
  · replace h := ifP c19 h
    refine v_aload_n dX7_give_39 rfl 1 rfl ?_
    obtain ⟨v10, e, h⟩ := bind_some h
    refine gt_X7_82 e dX7_give_40 ?_
    refine v_if_eq (tgt := 59) dX7_give_43 (by decide) (fun c14 => ?_) (fun c14 => ?_)
    · replace h := ifP c14 h
      refine v_aload_n dX7_give_59 rfl 0 rfl ?_
      obtain ⟨v11, e, h⟩ := bind_some h
      refine gt_X7_45 e dX7_give_60 ?_
      refine v_iconst (v := 2) dX7_give_63 ci_2 ?_
      refine v_dup2 dX7_give_64 rfl rfl ?_
      obtain ⟨v12, e, h⟩ := bind_some h
      refine v_iaload dX7_give_65 e ?_
      refine v_iconst (v := 1) dX7_give_66 ci_1 ?_
      refine v_iadd dX7_give_67 ?_
      obtain ⟨M13, e, h⟩ := bind_some h
      refine v_iastore dX7_give_68 e ?_
      refine v_goto (tgt := 120) dX7_give_69 (by decide) ?_
      cases h
      exact v_vreturn dX7_give_120
    · replace h := ifN c14 h
      refine v_aload_n dX7_give_46 rfl 0 rfl ?_
      refine v_aload_n dX7_give_47 rfl 1 rfl ?_
      refine v_aload_n dX7_give_48 rfl 0 rfl ?_
      obtain ⟨v11, e, h⟩ := bind_some h
      refine gt_X7_55 e dX7_give_49 ?_
      refine v_iconst (v := 0) dX7_give_52 ci_0 ?_
      obtain ⟨M12, e, h⟩ := bind_some h
      refine ca_X7_244 e dX7_give_53 (Nat.le_of_ble_eq_true rfl) (by decide) ?_
      refine v_goto (tgt := 120) dX7_give_56 (by decide) ?_
      cases h
      exact v_vreturn dX7_give_120
theorem kd_X7_give {l0 : Nat} {l1 : Nat} {l2 : Nat} {l3 : Int32} {l4 : Int32} {M : Mem} {z : _} (h : f_X7_give l0 l1 l2 l3 l4 M = some z) : (mK M l0).1 = 7 := by
  unfold f_X7_give at h
  exact (ifS h).1
theorem k_X7_give {G : Gl} {l0 : Nat} {l1 : Nat} {l2 : Nat} {l3 : Int32} {l4 : Int32} {M MF : Mem} (h : f_X7_give l0 l1 l2 l3 l4 M = some MF) : CtrP G yX7_give cX7_give 5 none 3 68 [.ref l0, .ref l1, .ref l2, .int l3, .int l4] M (cvV ()) MF :=
  ctr_of (by decide +kernel) (Nat.le_of_ble_eq_true rfl) (fun ρ => w_X7_give (r := ()) l0 l1 l2 l3 l4 M h)
theorem wd_X7_210 : wdV RX7 210 RX7 yX7_give cX7_give 5 none 4 := ⟨gwi 714 (by decide +kernel) (by decide +kernel), gwi 716 (by decide +kernel) (by decide +kernel), gwi 8 (by decide +kernel) (by decide +kernel), nw_X7, gwi 717 (by decide +kernel) (by decide +kernel), ⟨rfl, by decide +kernel, by decide +kernel, by decide +kernel⟩⟩
theorem ca_X7_210 {G : Gl} {B : Bx} {cc : ByteArray} {ret : Option FieldType} {fr lo nL : Nat} {mn : String} {hh : List (Nat × Nat × Nat × Nat)} {pc : Nat} {ls : List (Nat × Value)} {st : List Value} {M M1 : Mem} {l0 : Nat} {l1 : Nat} {l2 : Nat} {l3 : Int32} {l4 : Int32} (e : f_X7_give l0 l1 l2 l3 l4 M = some M1) (hd : decode cc pc = .ok (.invokevirtual 210, 3)) (hcat : (st.map fun v => v.category).sum ≤ 8) (hR : 3 + 1 ≤ fr ∧ 8 + (5 + 11) + 68 ≤ lo) (k : V G (RX7, cc, ret, fr, lo, nL, mn, hh) B (pc + 3) ls (st) M1) : V G (RX7, cc, ret, fr, lo, nL, mn, hh) B pc ls (.int l4 :: .int l3 :: .ref l2 :: .ref l1 :: .ref l0 :: st) M := v_callV0 (As := [.ref l1, .ref l2, .int l3, .int l4]) (k_X7_give e) wd_X7_210 clX7 (kd_X7_give e) hd rfl rfl hcat hR k
set_option maxHeartbeats 4000000 in
set_option maxRecDepth 100000 in
theorem w_X7_takeMember_J56 {G : Gl} {ρ0 : Nat → Nat} {M0 MF : Mem} {r : Int32} (l1 : Nat) (l2 : Int32) (M : Mem) (h : f_X7_takeMember_J56 l1 l2 M = some (r, MF)) : V G (RX7, cX7_takeMember, (some .int), 1, 23, 4, "takeMember", []) (ρ0, M0, cvI r, MF) 56 [(1, .ref l1), (2, .int l2)] [] M := by
  unfold f_X7_takeMember_J56 at h
  refine v_aload_n dX7_takeMember_56 rfl 0 rfl ?_
  refine v_iload_n dX7_takeMember_57 rfl 1 rfl ?_
  obtain ⟨M1, e, h⟩ := bind_some h
  refine ca_X7_189 e dX7_takeMember_58 (Nat.le_of_ble_eq_true rfl) (by decide) ?_
  refine v_aload_n dX7_takeMember_61 rfl 0 rfl ?_
  refine v_iload_n dX7_takeMember_62 rfl 1 rfl ?_
  obtain ⟨M2, e, h⟩ := bind_some h
  refine ca_X7_174 e dX7_takeMember_63 (Nat.le_of_ble_eq_true rfl) (by decide) ?_
  refine v_iload_n dX7_takeMember_66 rfl 1 rfl ?_
  cases h
  exact v_ireturn dX7_takeMember_67
set_option maxHeartbeats 4000000 in
set_option maxRecDepth 100000 in
theorem w_X7_takeMember_L9 {G : Gl} {ρ0 : Nat → Nat} {M0 MF : Mem} {r : Int32} : ∀ (n : Nat) (l0 : Nat) (l1 : Nat) (l2 : Int32) (l3 : Int32) (M : Mem), f_X7_takeMember_L9 n l0 l1 l2 l3 M = some (r, MF) → V G (RX7, cX7_takeMember, (some .int), 1, 23, 4, "takeMember", []) (ρ0, M0, cvI r, MF) 9 [(0, .ref l0), (1, .ref l1), (2, .int l2), (3, .int l3)] [] M := by
  intro n
  induction n with
  | zero => intro l0 l1 l2 l3 M h; cases h
  | succ n ih =>
    intro l0 l1 l2 l3 M h
    rw [f_X7_takeMember_L9] at h
    refine v_iload_n dX7_takeMember_9 rfl 3 rfl ?_
    refine v_aload_n dX7_takeMember_10 rfl 1 rfl ?_
    obtain ⟨v1, e, h⟩ := bind_some h
    refine gt_X7_171 e dX7_takeMember_11 ?_
    refine v_icmp_ge (tgt := 56) dX7_takeMember_14 (by decide) (fun c11 => ?_) (fun c11 => ?_)
    · replace h := ifP c11 h
      refine v_sub [1, 2] rfl ?_
      exact w_X7_takeMember_J56 l1 l2 M h
    · replace h := ifN c11 h
      refine v_iload_n dX7_takeMember_17 rfl 3 rfl ?_
      refine v_bipush (v := 6) dX7_takeMember_18 cb_6 ?_
      refine v_icmp_ge (tgt := 56) dX7_takeMember_20 (by decide) (fun c10 => ?_) (fun c10 => ?_)
      · replace h := ifP c10 h
        refine v_sub [1, 2] rfl ?_
        exact w_X7_takeMember_J56 l1 l2 M h
      · replace h := ifN c10 h
        refine v_aload_n dX7_takeMember_23 rfl 0 rfl ?_
        obtain ⟨v2, e, h⟩ := bind_some h
        refine gt_X7_17 e dX7_takeMember_24 ?_
        refine v_aload_n dX7_takeMember_27 rfl 1 rfl ?_
        obtain ⟨v3, e, h⟩ := bind_some h
        refine gt_X7_192 e dX7_takeMember_28 ?_
        refine v_iload_n dX7_takeMember_31 rfl 3 rfl ?_
        obtain ⟨v4, e, h⟩ := bind_some h
        refine v_iaload dX7_takeMember_32 e ?_
        obtain ⟨v5, e, h⟩ := bind_some h
        refine al_0 e dX7_takeMember_33 ?_
        obtain ⟨v6, e, h⟩ := bind_some h
        refine gt_X7_82 e dX7_takeMember_34 ?_
        refine v_if_eq (tgt := 50) dX7_takeMember_37 (by decide) (fun c9 => ?_) (fun c9 => ?_)
        · replace h := ifP c9 h
          refine v_iinc (ls' := [(3, .int (l3 + 1)), (0, .ref l0), (1, .ref l1), (2, .int l2)]) dX7_takeMember_50 3 rfl (v := 1) ci_1 (by decide) rfl ?_
          refine v_goto (tgt := 9) dX7_takeMember_53 (by decide) ?_
          refine v_sub [1, 2, 3, 0] rfl ?_
          exact ih l0 l1 l2 (l3 + 1) M h
        · replace h := ifN c9 h
          refine v_aload_n dX7_takeMember_40 rfl 1 rfl ?_
          obtain ⟨v7, e, h⟩ := bind_some h
          refine gt_X7_192 e dX7_takeMember_41 ?_
          refine v_iload_n dX7_takeMember_44 rfl 3 rfl ?_
          obtain ⟨v8, e, h⟩ := bind_some h
          refine v_iaload dX7_takeMember_45 e ?_
          refine v_istore_n (ls' := [(2, .int v8), (0, .ref l0), (1, .ref l1), (3, .int l3)]) dX7_takeMember_46 rfl (by decide) rfl ?_
          refine v_goto (tgt := 56) dX7_takeMember_47 (by decide) ?_
          refine v_sub [2, 0] rfl ?_
          exact w_X7_takeMember_J56 l1 v8 M h
set_option maxHeartbeats 4000000 in
set_option maxRecDepth 100000 in
theorem w_X7_takeMember {G : Gl} {ρ0 : Nat → Nat} {M0 MF : Mem} {r : Int32} (l0 : Nat) (l1 : Nat) (M : Mem) (h : f_X7_takeMember l0 l1 M = some (r, MF)) : V G (RX7, cX7_takeMember, (some .int), 1, 23, 4, "takeMember", []) (ρ0, M0, cvI r, MF) 0 [(0, .ref l0), (1, .ref l1)] [] M := by
  unfold f_X7_takeMember at h
  replace h := (ifS h).2
  refine v_aload_n dX7_takeMember_0 rfl 1 rfl ?_
  obtain ⟨v1, e, h⟩ := bind_some h
  refine gt_X7_192 e dX7_takeMember_1 ?_
  refine v_iconst (v := 0) dX7_takeMember_4 ci_0 ?_
  obtain ⟨v2, e, h⟩ := bind_some h
  refine v_iaload dX7_takeMember_5 e ?_
  refine v_istore_n (ls' := [(2, .int v2), (0, .ref l0), (1, .ref l1)]) dX7_takeMember_6 rfl (by decide) rfl ?_
  refine v_iconst (v := 0) dX7_takeMember_7 ci_0 ?_
  refine v_istore_n (ls' := [(3, .int (0 : Int32)), (2, .int v2), (0, .ref l0), (1, .ref l1)]) dX7_takeMember_8 rfl (by decide) rfl ?_
  refine v_sub [2, 3, 1, 0] rfl ?_
  exact w_X7_takeMember_L9 FU l0 l1 v2 (0 : Int32) M h
theorem kd_X7_takeMember {l0 : Nat} {l1 : Nat} {M : Mem} {z : _} (h : f_X7_takeMember l0 l1 M = some z) : (mK M l0).1 = 7 := by
  unfold f_X7_takeMember at h
  exact (ifS h).1
theorem k_X7_takeMember {G : Gl} {l0 : Nat} {l1 : Nat} {M MF : Mem} {r : Int32} (h : f_X7_takeMember l0 l1 M = some (r, MF)) : CtrP G yX7_takeMember cX7_takeMember 4 (some .int) 1 23 [.ref l0, .ref l1] M (cvI r) MF :=
  ctr_of (by decide +kernel) (Nat.le_of_ble_eq_true rfl) (fun ρ => w_X7_takeMember l0 l1 M h)
theorem wd_X7_217 : wdV RX7 217 RX7 yX7_takeMember cX7_takeMember 4 (some .int) 1 := ⟨gwi 763 (by decide +kernel) (by decide +kernel), gwi 765 (by decide +kernel) (by decide +kernel), gwi 14 (by decide +kernel) (by decide +kernel), nw_X7, gwi 766 (by decide +kernel) (by decide +kernel), ⟨rfl, by decide +kernel, by decide +kernel, by decide +kernel⟩⟩
theorem ca_X7_217 {G : Gl} {B : Bx} {cc : ByteArray} {ret : Option FieldType} {fr lo nL : Nat} {mn : String} {hh : List (Nat × Nat × Nat × Nat)} {pc : Nat} {ls : List (Nat × Value)} {st : List Value} {M M1 : Mem} {l0 : Nat} {l1 : Nat} {x : Int32} (e : f_X7_takeMember l0 l1 M = some (x, M1)) (hd : decode cc pc = .ok (.invokevirtual 217, 3)) (hcat : (st.map fun v => v.category).sum ≤ 8) (hR : 1 + 1 ≤ fr ∧ 8 + (4 + 11) + 23 ≤ lo) (k : V G (RX7, cc, ret, fr, lo, nL, mn, hh) B (pc + 3) ls (.int x :: st) M1) : V G (RX7, cc, ret, fr, lo, nL, mn, hh) B pc ls (.ref l1 :: .ref l0 :: st) M := v_callVi (As := [.ref l1]) (k_X7_takeMember e) wd_X7_217 clX7 (kd_X7_takeMember e) hd rfl rfl hcat hR k
set_option maxHeartbeats 4000000 in
set_option maxRecDepth 100000 in
theorem w_X7_spread_L112 {G : Gl} {ρ0 : Nat → Nat} {M0 MF : Mem} {r : Int32} : ∀ (n : Nat) (l0 : Nat) (l2 : Nat) (l4 : Int32) (l5 : Int32) (M : Mem), f_X7_spread_L112 n l0 l2 l4 l5 M = some (r, MF) → V G (RX7, cX7_spread, (some .int), 4, 93, 9, "spread", []) (ρ0, M0, cvI r, MF) 112 [(0, .ref l0), (2, .ref l2), (4, .int l4), (5, .int l5)] [] M := by
  intro n
  induction n with
  | zero => intro l0 l2 l4 l5 M h; cases h
  | succ n ih =>
    intro l0 l2 l4 l5 M h
    rw [f_X7_spread_L112] at h
    refine v_iload dX7_spread_112 3 rfl ?_
    refine v_aload_n dX7_spread_114 rfl 0 rfl ?_
    obtain ⟨v1, e, h⟩ := bind_some h
    refine gt_X7_63 e dX7_spread_115 ?_
    refine v_icmp_ge (tgt := 211) dX7_spread_118 (by decide) (fun c21 => ?_) (fun c21 => ?_)
    · replace h := ifP c21 h
      refine v_iload dX7_spread_211 2 rfl ?_
      cases h
      exact v_ireturn dX7_spread_213
    · replace h := ifN c21 h
      refine v_iload dX7_spread_121 3 rfl ?_
      refine v_bipush (v := 36) dX7_spread_123 cb_36 ?_
      refine v_icmp_ge (tgt := 211) dX7_spread_125 (by decide) (fun c20 => ?_) (fun c20 => ?_)
      · replace h := ifP c20 h
        refine v_iload dX7_spread_211 2 rfl ?_
        cases h
        exact v_ireturn dX7_spread_213
      · replace h := ifN c20 h
        refine v_aload_n dX7_spread_128 rfl 0 rfl ?_
        obtain ⟨v2, e, h⟩ := bind_some h
        refine gt_X7_26 e dX7_spread_129 ?_
        refine v_iload dX7_spread_132 3 rfl ?_
        obtain ⟨v3, e, h⟩ := bind_some h
        refine al_6 e dX7_spread_134 ?_
        refine v_astore (ls' := [(6, .ref v3), (0, .ref l0), (2, .ref l2), (4, .int l4), (5, .int l5)]) dX7_spread_135 (by decide) rfl ?_
        refine v_aload dX7_spread_137 0 rfl ?_
        obtain ⟨v4, e, h⟩ := bind_some h
        refine gt_X7_165 e dX7_spread_139 ?_
        refine v_aload_n dX7_spread_142 rfl 2 rfl ?_
        obtain ⟨v5, e, h⟩ := bind_some h
        refine gt_X7_195 e dX7_spread_143 ?_
        obtain ⟨v7, M6, e, h⟩ := bindP_some h
        refine ca_X7_214 e dX7_spread_146 (Nat.le_of_ble_eq_true rfl) (by decide) ?_
        refine v_if_eq (tgt := 205) dX7_spread_149 (by decide) (fun c19 => ?_) (fun c19 => ?_)
        · replace h := ifP c19 h
          refine v_iinc (ls' := [(5, .int (l5 + 1)), (6, .ref v3), (0, .ref l0), (2, .ref l2), (4, .int l4)]) dX7_spread_205 4 rfl (v := 1) ci_1 (by decide) rfl ?_
          refine v_goto (tgt := 112) dX7_spread_208 (by decide) ?_
          refine v_sub [2, 3, 4, 0] rfl ?_
          exact ih l0 l2 l4 (l5 + 1) M6 h
        · replace h := ifN c19 h
          refine v_aload_n dX7_spread_152 rfl 1 rfl ?_
          obtain ⟨v8, e, h⟩ := bind_some h
          refine gt_X7_17 e dX7_spread_153 ?_
          refine v_aload_n dX7_spread_156 rfl 1 rfl ?_
          refine v_aload dX7_spread_157 0 rfl ?_
          obtain ⟨v10, M9, e, h⟩ := bindP_some h
          refine ca_X7_217 e dX7_spread_159 (Nat.le_of_ble_eq_true rfl) (by decide) ?_
          obtain ⟨v11, e, h⟩ := bind_some h
          refine al_0 e dX7_spread_162 ?_
          refine v_astore (ls' := [(7, .ref v11), (6, .ref v3), (0, .ref l0), (2, .ref l2), (4, .int l4), (5, .int l5)]) dX7_spread_163 (by decide) rfl ?_
          refine v_aload dX7_spread_165 0 rfl ?_
          obtain ⟨v12, e, h⟩ := bind_some h
          refine gt_X7_95 e dX7_spread_167 ?_
          refine v_aload dX7_spread_170 1 rfl ?_
          obtain ⟨v13, e, h⟩ := bind_some h
          refine gt_X7_165 e dX7_spread_172 ?_
          refine v_aload dX7_spread_175 1 rfl ?_
          obtain ⟨v14, e, h⟩ := bind_some h
          refine gt_X7_168 e dX7_spread_177 ?_
          obtain ⟨v16, M15, e, h⟩ := bindP_some h
          refine ca_X7_221 e dX7_spread_180 (Nat.le_of_ble_eq_true rfl) (by decide) ?_
          refine v_istore (ls' := [(8, .int v16), (7, .ref v11), (6, .ref v3), (0, .ref l0), (2, .ref l2), (4, .int l4), (5, .int l5)]) dX7_spread_183 (by decide) rfl ?_
          refine v_aload_n dX7_spread_185 rfl 3 rfl ?_
          refine v_aload dX7_spread_186 1 rfl ?_
          refine v_aload_n dX7_spread_188 rfl 4 rfl ?_
          refine v_aload_n dX7_spread_189 rfl 4 rfl ?_
          obtain ⟨v17, e, h⟩ := bind_some h
          refine gt_X7_207 e dX7_spread_190 ?_
          refine v_iload dX7_spread_193 0 rfl ?_
          refine mx_X7_128 dX7_spread_195 (by decide) (Nat.le_of_ble_eq_true rfl) ?_
          refine v_iconst (v := 0) dX7_spread_198 ci_0 ?_
          obtain ⟨M18, e, h⟩ := bind_some h
          refine ca_X7_210 e dX7_spread_199 (Nat.le_of_ble_eq_true rfl) (by decide) ?_
          refine v_iinc (ls' := [(4, .int (l4 + 1)), (8, .int v16), (7, .ref v11), (6, .ref v3), (0, .ref l0), (2, .ref l2), (5, .int l5)]) dX7_spread_202 5 rfl (v := 1) ci_1 (by decide) rfl ?_
          refine v_iinc (ls' := [(5, .int (l5 + 1)), (4, .int (l4 + 1)), (8, .int v16), (7, .ref v11), (6, .ref v3), (0, .ref l0), (2, .ref l2)]) dX7_spread_205 6 rfl (v := 1) ci_1 (by decide) rfl ?_
          refine v_goto (tgt := 112) dX7_spread_208 (by decide) ?_
          refine v_sub [5, 6, 1, 0] rfl ?_
          exact ih l0 l2 (l4 + 1) (l5 + 1) M18 h
set_option maxHeartbeats 4000000 in
set_option maxRecDepth 100000 in
theorem w_X7_spread_J68 {G : Gl} {ρ0 : Nat → Nat} {M0 MF : Mem} {r : Int32} (k36 : Nat → Int32 → Nat → Int32 → Int32 → Mem → Option (Int32 × Mem)) (h36 : ∀ (l0 : Nat) (l1 : Int32) (l2 : Nat) (l4 : Int32) (l5 : Int32) (M : Mem), k36 l0 l1 l2 l4 l5 M = some (r, MF) → V G (RX7, cX7_spread, (some .int), 4, 93, 9, "spread", []) (ρ0, M0, cvI r, MF) 36 [(0, .ref l0), (1, .int l1), (2, .ref l2), (4, .int l4), (5, .int l5)] [] M) (l0 : Nat) (l1 : Int32) (l2 : Nat) (l4 : Int32) (l5 : Int32) (s0 : Int32) (s1 : Nat) (s2 : Nat) (M : Mem) (h : f_X7_spread_J68 k36 l0 l1 l2 l4 l5 s0 s1 s2 M = some (r, MF)) : V G (RX7, cX7_spread, (some .int), 4, 93, 9, "spread", []) (ρ0, M0, cvI r, MF) 68 [(0, .ref l0), (1, .int l1), (2, .ref l2), (4, .int l4), (5, .int l5)] [.int s0, .ref s1, .ref s2] M := by
  unfold f_X7_spread_J68 at h
  obtain ⟨v2, M1, e, h⟩ := bindP_some h
  refine ca_X7_203 e dX7_spread_68 (Nat.le_of_ble_eq_true rfl) (by decide) ?_
  refine v_istore (ls' := [(6, .int v2), (0, .ref l0), (1, .int l1), (2, .ref l2), (4, .int l4), (5, .int l5)]) dX7_spread_71 (by decide) rfl ?_
  refine v_iload dX7_spread_73 0 rfl ?_
  refine v_if_lt (tgt := 103) dX7_spread_75 (by decide) (fun c7 => ?_) (fun c7 => ?_)
  · replace h := ifP c7 h
    refine v_iinc (ls' := [(5, .int (l5 + 1)), (6, .int v2), (0, .ref l0), (1, .int l1), (2, .ref l2), (4, .int l4)]) dX7_spread_103 5 rfl (v := 1) ci_1 (by decide) rfl ?_
    refine v_goto (tgt := 36) dX7_spread_106 (by decide) ?_
    refine v_sub [2, 3, 4, 5, 0] rfl ?_
    exact h36 l0 l1 l2 l4 (l5 + 1) M1 h
  · replace h := ifN c7 h
    refine v_aload_n dX7_spread_78 rfl 1 rfl ?_
    refine v_aload_n dX7_spread_79 rfl 1 rfl ?_
    obtain ⟨v3, e, h⟩ := bind_some h
    refine gt_X7_17 e dX7_spread_80 ?_
    refine v_iload dX7_spread_83 5 rfl ?_
    obtain ⟨v4, e, h⟩ := bind_some h
    refine al_0 e dX7_spread_85 ?_
    refine v_aload_n dX7_spread_86 rfl 3 rfl ?_
    refine v_aload_n dX7_spread_87 rfl 3 rfl ?_
    obtain ⟨v5, e, h⟩ := bind_some h
    refine gt_X7_207 e dX7_spread_88 ?_
    refine v_iload dX7_spread_91 0 rfl ?_
    refine mx_X7_128 dX7_spread_93 (by decide) (Nat.le_of_ble_eq_true rfl) ?_
    refine v_iconst (v := 0) dX7_spread_96 ci_0 ?_
    obtain ⟨M6, e, h⟩ := bind_some h
    refine ca_X7_210 e dX7_spread_97 (Nat.le_of_ble_eq_true rfl) (by decide) ?_
    refine v_iinc (ls' := [(4, .int (l4 + 1)), (6, .int v2), (0, .ref l0), (1, .int l1), (2, .ref l2), (5, .int l5)]) dX7_spread_100 4 rfl (v := 1) ci_1 (by decide) rfl ?_
    refine v_iinc (ls' := [(5, .int (l5 + 1)), (4, .int (l4 + 1)), (6, .int v2), (0, .ref l0), (1, .int l1), (2, .ref l2)]) dX7_spread_103 5 rfl (v := 1) ci_1 (by decide) rfl ?_
    refine v_goto (tgt := 36) dX7_spread_106 (by decide) ?_
    refine v_sub [3, 4, 5, 1, 0] rfl ?_
    exact h36 l0 l1 l2 (l4 + 1) (l5 + 1) M6 h
set_option maxHeartbeats 4000000 in
set_option maxRecDepth 100000 in
theorem w_X7_spread_L36 {G : Gl} {ρ0 : Nat → Nat} {M0 MF : Mem} {r : Int32} : ∀ (n : Nat) (l0 : Nat) (l1 : Int32) (l2 : Nat) (l4 : Int32) (l5 : Int32) (M : Mem), f_X7_spread_L36 n l0 l1 l2 l4 l5 M = some (r, MF) → V G (RX7, cX7_spread, (some .int), 4, 93, 9, "spread", []) (ρ0, M0, cvI r, MF) 36 [(0, .ref l0), (1, .int l1), (2, .ref l2), (4, .int l4), (5, .int l5)] [] M := by
  intro n
  induction n with
  | zero => intro l0 l1 l2 l4 l5 M h; cases h
  | succ n ih =>
    intro l0 l1 l2 l4 l5 M h
    rw [f_X7_spread_L36] at h
    refine v_iload dX7_spread_36 4 rfl ?_
    refine v_bipush (v := 6) dX7_spread_38 cb_6 ?_
    refine v_icmp_ge (tgt := 109) dX7_spread_40 (by decide) (fun c6 => ?_) (fun c6 => ?_)
    · replace h := ifP c6 h
      refine v_iconst (v := 0) dX7_spread_109 ci_0 ?_
      refine v_istore (ls' := [(5, .int (0 : Int32)), (0, .ref l0), (1, .int l1), (2, .ref l2), (4, .int l4)]) dX7_spread_110 (by decide) rfl ?_
      refine v_sub [1, 3, 4, 0] rfl ?_
      exact w_X7_spread_L112 FU l0 l2 l4 (0 : Int32) M h
    · replace h := ifN c6 h
      refine v_aload_n dX7_spread_43 rfl 0 rfl ?_
      obtain ⟨v1, e, h⟩ := bind_some h
      refine gt_X7_17 e dX7_spread_44 ?_
      refine v_iload dX7_spread_47 4 rfl ?_
      obtain ⟨v2, e, h⟩ := bind_some h
      refine al_0 e dX7_spread_49 ?_
      obtain ⟨v3, e, h⟩ := bind_some h
      refine gt_X7_95 e dX7_spread_50 ?_
      refine v_aload_n dX7_spread_53 rfl 2 rfl ?_
      obtain ⟨v4, e, h⟩ := bind_some h
      refine gt_X7_195 e dX7_spread_54 ?_
      refine v_iload dX7_spread_57 4 rfl ?_
      refine v_iload_n dX7_spread_59 rfl 1 rfl ?_
      refine v_icmp_ne (tgt := 67) dX7_spread_60 (by decide) (fun c5 => ?_) (fun c5 => ?_)
      · replace h := ifN c5 h
        refine v_iconst (v := 0) dX7_spread_67 ci_0 ?_
        exact w_X7_spread_J68 (f_X7_spread_L36 n) ih l0 l1 l2 l4 l5 (0 : Int32) v4 v3 M h
      · replace h := ifP c5 h
        refine v_iconst (v := 1) dX7_spread_63 ci_1 ?_
        refine v_goto (tgt := 68) dX7_spread_64 (by decide) ?_
        exact w_X7_spread_J68 (f_X7_spread_L36 n) ih l0 l1 l2 l4 l5 (1 : Int32) v4 v3 M h
set_option maxHeartbeats 4000000 in
set_option maxRecDepth 100000 in
theorem w_X7_spread {G : Gl} {ρ0 : Nat → Nat} {M0 MF : Mem} {r : Int32} (l0 : Nat) (l1 : Int32) (l2 : Nat) (l3 : Int32) (M : Mem) (h : f_X7_spread l0 l1 l2 l3 M = some (r, MF)) : V G (RX7, cX7_spread, (some .int), 4, 93, 9, "spread", []) (ρ0, M0, cvI r, MF) 0 [(0, .ref l0), (1, .int l1), (2, .ref l2), (3, .int l3)] [] M := by
  unfold f_X7_spread at h
  replace h := (ifS h).2
  refine v_aload_n dX7_spread_0 rfl 0 rfl ?_
  obtain ⟨v1, e, h⟩ := bind_some h
  refine gt_X7_45 e dX7_spread_1 ?_
  refine v_iconst (v := 0) dX7_spread_4 ci_0 ?_
  refine v_dup2 dX7_spread_5 rfl rfl ?_
  obtain ⟨v2, e, h⟩ := bind_some h
  refine v_iaload dX7_spread_6 e ?_
  refine v_iconst (v := 1) dX7_spread_7 ci_1 ?_
  refine v_iadd dX7_spread_8 ?_
  obtain ⟨M3, e, h⟩ := bind_some h
  refine v_iastore dX7_spread_9 e ?_
  refine v_aload_n dX7_spread_10 rfl 0 rfl ?_
  obtain ⟨v4, e, h⟩ := bind_some h
  refine gt_X7_51 e dX7_spread_11 ?_
  refine v_aload_n dX7_spread_14 rfl 2 rfl ?_
  obtain ⟨v5, e, h⟩ := bind_some h
  refine gt_X7_195 e dX7_spread_15 ?_
  obtain ⟨M6, e, h⟩ := bind_some h
  refine ca_X7_198 e dX7_spread_18 (Nat.le_of_ble_eq_true rfl) (by decide) ?_
  refine v_iload_n dX7_spread_21 rfl 3 rfl ?_
  refine v_if_eq (tgt := 30) dX7_spread_22 (by decide) (fun c8 => ?_) (fun c8 => ?_)
  · replace h := ifP c8 h
    refine v_iconst (v := 0) dX7_spread_30 ci_0 ?_
    refine v_istore (ls' := [(4, .int (0 : Int32)), (0, .ref l0), (1, .int l1), (2, .ref l2), (3, .int l3)]) dX7_spread_31 (by decide) rfl ?_
    refine v_iconst (v := 0) dX7_spread_33 ci_0 ?_
    refine v_istore (ls' := [(5, .int (0 : Int32)), (4, .int (0 : Int32)), (0, .ref l0), (1, .int l1), (2, .ref l2), (3, .int l3)]) dX7_spread_34 (by decide) rfl ?_
    refine v_sub [2, 3, 4, 1, 0] rfl ?_
    exact w_X7_spread_L36 FU l0 l1 l2 (0 : Int32) (0 : Int32) M6 h
  · replace h := ifN c8 h
    refine v_aload_n dX7_spread_25 rfl 0 rfl ?_
    refine v_aload_n dX7_spread_26 rfl 2 rfl ?_
    obtain ⟨M7, e, h⟩ := bind_some h
    refine ca_X7_200 e dX7_spread_27 (Nat.le_of_ble_eq_true rfl) (by decide) ?_
    refine v_iconst (v := 0) dX7_spread_30 ci_0 ?_
    refine v_istore (ls' := [(4, .int (0 : Int32)), (0, .ref l0), (1, .int l1), (2, .ref l2), (3, .int l3)]) dX7_spread_31 (by decide) rfl ?_
    refine v_iconst (v := 0) dX7_spread_33 ci_0 ?_
    refine v_istore (ls' := [(5, .int (0 : Int32)), (4, .int (0 : Int32)), (0, .ref l0), (1, .int l1), (2, .ref l2), (3, .int l3)]) dX7_spread_34 (by decide) rfl ?_
    refine v_sub [2, 3, 4, 1, 0] rfl ?_
    exact w_X7_spread_L36 FU l0 l1 l2 (0 : Int32) (0 : Int32) M7 h
theorem kd_X7_spread {l0 : Nat} {l1 : Int32} {l2 : Nat} {l3 : Int32} {M : Mem} {z : _} (h : f_X7_spread l0 l1 l2 l3 M = some z) : (mK M l0).1 = 7 := by
  unfold f_X7_spread at h
  exact (ifS h).1
theorem k_X7_spread {G : Gl} {l0 : Nat} {l1 : Int32} {l2 : Nat} {l3 : Int32} {M MF : Mem} {r : Int32} (h : f_X7_spread l0 l1 l2 l3 M = some (r, MF)) : CtrP G yX7_spread cX7_spread 9 (some .int) 4 93 [.ref l0, .int l1, .ref l2, .int l3] M (cvI r) MF :=
  ctr_of (by decide +kernel) (Nat.le_of_ble_eq_true rfl) (fun ρ => w_X7_spread l0 l1 l2 l3 M h)
theorem wd_X11_220 : wdV RX11 220 RX7 yX7_spread cX7_spread 9 (some .int) 3 := ⟨gwi 1036 (by decide +kernel) (by decide +kernel), gwi 660 (by decide +kernel) (by decide +kernel), gwi 661 (by decide +kernel) (by decide +kernel), nw_X7, gwi 662 (by decide +kernel) (by decide +kernel), ⟨rfl, by decide +kernel, by decide +kernel, by decide +kernel⟩⟩
theorem ca_X11_220 {G : Gl} {B : Bx} {cc : ByteArray} {ret : Option FieldType} {fr lo nL : Nat} {mn : String} {hh : List (Nat × Nat × Nat × Nat)} {pc : Nat} {ls : List (Nat × Value)} {st : List Value} {M M1 : Mem} {l0 : Nat} {l1 : Int32} {l2 : Nat} {l3 : Int32} {x : Int32} (e : f_X7_spread l0 l1 l2 l3 M = some (x, M1)) (hd : decode cc pc = .ok (.invokevirtual 220, 3)) (hcat : (st.map fun v => v.category).sum ≤ 8) (hR : 4 + 1 ≤ fr ∧ 8 + (9 + 11) + 93 ≤ lo) (k : V G (RX11, cc, ret, fr, lo, nL, mn, hh) B (pc + 3) ls (.int x :: st) M1) : V G (RX11, cc, ret, fr, lo, nL, mn, hh) B pc ls (.int l3 :: .ref l2 :: .int l1 :: .ref l0 :: st) M := v_callVi (As := [.int l1, .ref l2, .int l3]) (k_X7_spread e) wd_X11_220 clX7 (kd_X7_spread e) hd rfl rfl hcat hR k
theorem wd_X7_123 : wdV RX7 123 RX7 yX7_spread cX7_spread 9 (some .int) 3 := ⟨gwi 659 (by decide +kernel) (by decide +kernel), gwi 660 (by decide +kernel) (by decide +kernel), gwi 661 (by decide +kernel) (by decide +kernel), nw_X7, gwi 662 (by decide +kernel) (by decide +kernel), ⟨rfl, by decide +kernel, by decide +kernel, by decide +kernel⟩⟩
theorem ca_X7_123 {G : Gl} {B : Bx} {cc : ByteArray} {ret : Option FieldType} {fr lo nL : Nat} {mn : String} {hh : List (Nat × Nat × Nat × Nat)} {pc : Nat} {ls : List (Nat × Value)} {st : List Value} {M M1 : Mem} {l0 : Nat} {l1 : Int32} {l2 : Nat} {l3 : Int32} {x : Int32} (e : f_X7_spread l0 l1 l2 l3 M = some (x, M1)) (hd : decode cc pc = .ok (.invokevirtual 123, 3)) (hcat : (st.map fun v => v.category).sum ≤ 8) (hR : 4 + 1 ≤ fr ∧ 8 + (9 + 11) + 93 ≤ lo) (k : V G (RX7, cc, ret, fr, lo, nL, mn, hh) B (pc + 3) ls (.int x :: st) M1) : V G (RX7, cc, ret, fr, lo, nL, mn, hh) B pc ls (.int l3 :: .ref l2 :: .int l1 :: .ref l0 :: st) M := v_callVi (As := [.int l1, .ref l2, .int l3]) (k_X7_spread e) wd_X7_123 clX7 (kd_X7_spread e) hd rfl rfl hcat hR k
set_option maxHeartbeats 4000000 in
set_option maxRecDepth 100000 in
theorem w_X7_failConnection {G : Gl} {ρ0 : Nat → Nat} {M0 MF : Mem} {r : Int32} (l0 : Nat) (l1 : Int32) (M : Mem) (h : f_X7_failConnection l0 l1 M = some (r, MF)) : V G (RX7, cX7_failConnection, (some .int), 5, 121, 3, "failConnection", []) (ρ0, M0, cvI r, MF) 0 [(0, .ref l0), (1, .int l1)] [] M := by
  unfold f_X7_failConnection at h
  replace h := (ifS h).2
  refine v_aload_n dX7_failConnection_0 rfl 0 rfl ?_
  refine v_iload_n dX7_failConnection_1 rfl 1 rfl ?_
  obtain ⟨M1, e, h⟩ := bind_some h
  refine ca_X7_111 e dX7_failConnection_2 (Nat.le_of_ble_eq_true rfl) (by decide) ?_
  refine v_aload_n dX7_failConnection_5 rfl 0 rfl ?_
  obtain ⟨v2, e, h⟩ := bind_some h
  refine gt_X7_17 e dX7_failConnection_6 ?_
  refine v_iload_n dX7_failConnection_9 rfl 1 rfl ?_
  obtain ⟨v3, e, h⟩ := bind_some h
  refine al_0 e dX7_failConnection_10 ?_
  refine v_astore_n (ls' := [(2, .ref v3), (0, .ref l0), (1, .int l1)]) dX7_failConnection_11 rfl (by decide) rfl ?_
  refine v_aload_n dX7_failConnection_12 rfl 0 rfl ?_
  obtain ⟨v4, e, h⟩ := bind_some h
  refine gt_X7_114 e dX7_failConnection_13 ?_
  refine v_if_ne (tgt := 21) dX7_failConnection_16 (by decide) (fun c13 => ?_) (fun c13 => ?_)
  · replace h := ifN c13 h
    refine v_aload_n dX7_failConnection_21 rfl 0 rfl ?_
    refine v_iconst (v := 0) dX7_failConnection_22 ci_0 ?_
    obtain ⟨M5, e, h⟩ := bind_some h
    refine pt_X7_114 e dX7_failConnection_23 ?_
    refine v_aload_n dX7_failConnection_26 rfl 1 rfl ?_
    obtain ⟨v6, e, h⟩ := bind_some h
    refine gt_X7_45 e dX7_failConnection_27 ?_
    refine v_bipush (v := 6) dX7_failConnection_30 cb_6 ?_
    refine v_dup2 dX7_failConnection_32 rfl rfl ?_
    obtain ⟨v7, e, h⟩ := bind_some h
    refine v_iaload dX7_failConnection_33 e ?_
    refine v_iconst (v := 1) dX7_failConnection_34 ci_1 ?_
    refine v_iadd dX7_failConnection_35 ?_
    obtain ⟨M8, e, h⟩ := bind_some h
    refine v_iastore dX7_failConnection_36 e ?_
    refine v_aload_n dX7_failConnection_37 rfl 1 rfl ?_
    refine v_iload_n dX7_failConnection_38 rfl 2 rfl ?_
    refine v_aload_n dX7_failConnection_39 rfl 0 rfl ?_
    obtain ⟨v9, e, h⟩ := bind_some h
    refine gt_X7_117 e dX7_failConnection_40 ?_
    refine v_aload_n dX7_failConnection_43 rfl 0 rfl ?_
    obtain ⟨v10, e, h⟩ := bind_some h
    refine gt_X7_120 e dX7_failConnection_44 ?_
    obtain ⟨v12, M11, e, h⟩ := bindP_some h
    refine ca_X7_123 e dX7_failConnection_47 (Nat.le_of_ble_eq_true rfl) (by decide) ?_
    refine v_pop dX7_failConnection_50 rfl ?_
    refine v_iconst (v := 1) dX7_failConnection_51 ci_1 ?_
    cases h
    exact v_ireturn dX7_failConnection_52
  · replace h := ifP c13 h
    refine v_iconst (v := 0) dX7_failConnection_19 ci_0 ?_
    cases h
    exact v_ireturn dX7_failConnection_20
theorem kd_X7_failConnection {l0 : Nat} {l1 : Int32} {M : Mem} {z : _} (h : f_X7_failConnection l0 l1 M = some z) : (mK M l0).1 = 7 := by
  unfold f_X7_failConnection at h
  exact (ifS h).1
theorem k_X7_failConnection {G : Gl} {l0 : Nat} {l1 : Int32} {M MF : Mem} {r : Int32} (h : f_X7_failConnection l0 l1 M = some (r, MF)) : CtrP G yX7_failConnection cX7_failConnection 3 (some .int) 5 121 [.ref l0, .int l1] M (cvI r) MF :=
  ctr_of (by decide +kernel) (Nat.le_of_ble_eq_true rfl) (fun ρ => w_X7_failConnection l0 l1 M h)
theorem wd_X11_90 : wdV RX11 90 RX7 yX7_failConnection cX7_failConnection 3 (some .int) 1 := ⟨gwi 630 (by decide +kernel) (by decide +kernel), gwi 631 (by decide +kernel) (by decide +kernel), gwi 632 (by decide +kernel) (by decide +kernel), nw_X7, gwi 633 (by decide +kernel) (by decide +kernel), ⟨rfl, by decide +kernel, by decide +kernel, by decide +kernel⟩⟩
theorem ca_X11_90 {G : Gl} {B : Bx} {cc : ByteArray} {ret : Option FieldType} {fr lo nL : Nat} {mn : String} {hh : List (Nat × Nat × Nat × Nat)} {pc : Nat} {ls : List (Nat × Value)} {st : List Value} {M M1 : Mem} {l0 : Nat} {l1 : Int32} {x : Int32} (e : f_X7_failConnection l0 l1 M = some (x, M1)) (hd : decode cc pc = .ok (.invokevirtual 90, 3)) (hcat : (st.map fun v => v.category).sum ≤ 8) (hR : 5 + 1 ≤ fr ∧ 8 + (3 + 11) + 121 ≤ lo) (k : V G (RX11, cc, ret, fr, lo, nL, mn, hh) B (pc + 3) ls (.int x :: st) M1) : V G (RX11, cc, ret, fr, lo, nL, mn, hh) B pc ls (.int l1 :: .ref l0 :: st) M := v_callVi (As := [.int l1]) (k_X7_failConnection e) wd_X11_90 clX7 (kd_X7_failConnection e) hd rfl rfl hcat hR k
set_option maxHeartbeats 4000000 in
set_option maxRecDepth 100000 in
theorem w_X7_sendSign {G : Gl} {ρ0 : Nat → Nat} {M0 MF : Mem} {r : Unit} (l0 : Nat) (l1 : Nat) (l2 : Int32) (l3 : Int32) (M : Mem) (h : f_X7_sendSign l0 l1 l2 l3 M = some MF) : V G (RX7, cX7_sendSign, none, 1, 21, 5, "sendSign", []) (ρ0, M0, cvV r, MF) 0 [(0, .ref l0), (1, .ref l1), (2, .int l2), (3, .int l3)] [] M := by
  unfold f_X7_sendSign at h
  replace h := (ifS h).2
  refine v_aload_n dX7_sendSign_0 rfl 0 rfl ?_
  refine v_aload_n dX7_sendSign_1 rfl 1 rfl ?_
  obtain ⟨v2, M1, e, h⟩ := bindP_some h
  refine ca_X7_293 e dX7_sendSign_2 (Nat.le_of_ble_eq_true rfl) (by decide) ?_
  refine v_if_eq (tgt := 56) dX7_sendSign_5 (by decide) (fun c13 => ?_) (fun c13 => ?_)
  · replace h := ifP c13 h
    cases h
    exact v_vreturn dX7_sendSign_56
  · replace h := ifN c13 h
    refine v_aload_n dX7_sendSign_8 rfl 1 rfl ?_
    obtain ⟨v3, e, h⟩ := bind_some h
    refine gt_X7_86 e dX7_sendSign_9 ?_
    obtain ⟨v5, M4, e, h⟩ := bindP_some h
    refine ca_X7_296 e dX7_sendSign_12 (Nat.le_of_ble_eq_true rfl) (by decide) ?_
    refine v_astore (ls' := [(4, .ref v5), (0, .ref l0), (1, .ref l1), (2, .int l2), (3, .int l3)]) dX7_sendSign_15 (by decide) rfl ?_
    refine v_aload dX7_sendSign_17 0 rfl ?_
    refine v_iload_n dX7_sendSign_19 rfl 3 rfl ?_
    obtain ⟨M6, e, h⟩ := bind_some h
    refine pt_X7_300 e dX7_sendSign_20 ?_
    refine v_aload dX7_sendSign_23 0 rfl ?_
    refine v_iload_n dX7_sendSign_25 rfl 4 rfl ?_
    obtain ⟨M7, e, h⟩ := bind_some h
    refine pt_X7_305 e dX7_sendSign_26 ?_
    refine v_aload dX7_sendSign_29 0 rfl ?_
    refine v_iconst (v := 0) dX7_sendSign_31 ci_0 ?_
    obtain ⟨M8, e, h⟩ := bind_some h
    refine pt_X7_306 e dX7_sendSign_32 ?_
    refine v_aload dX7_sendSign_35 0 rfl ?_
    refine v_iconst (v := 0) dX7_sendSign_37 ci_0 ?_
    obtain ⟨M9, e, h⟩ := bind_some h
    refine pt_X7_307 e dX7_sendSign_38 ?_
    refine v_aload dX7_sendSign_41 0 rfl ?_
    refine v_iconst (v := 0) dX7_sendSign_43 ci_0 ?_
    obtain ⟨M10, e, h⟩ := bind_some h
    refine pt_X7_308 e dX7_sendSign_44 ?_
    refine v_aload dX7_sendSign_47 0 rfl ?_
    refine v_aload_n dX7_sendSign_49 rfl 1 rfl ?_
    obtain ⟨v11, e, h⟩ := bind_some h
    refine gt_X7_9 e dX7_sendSign_50 ?_
    obtain ⟨M12, e, h⟩ := bind_some h
    refine pt_X7_309 e dX7_sendSign_53 ?_
    cases h
    exact v_vreturn dX7_sendSign_56
theorem kd_X7_sendSign {l0 : Nat} {l1 : Nat} {l2 : Int32} {l3 : Int32} {M : Mem} {z : _} (h : f_X7_sendSign l0 l1 l2 l3 M = some z) : (mK M l0).1 = 7 := by
  unfold f_X7_sendSign at h
  exact (ifS h).1
theorem k_X7_sendSign {G : Gl} {l0 : Nat} {l1 : Nat} {l2 : Int32} {l3 : Int32} {M MF : Mem} (h : f_X7_sendSign l0 l1 l2 l3 M = some MF) : CtrP G yX7_sendSign cX7_sendSign 5 none 1 21 [.ref l0, .ref l1, .int l2, .int l3] M (cvV ()) MF :=
  ctr_of (by decide +kernel) (Nat.le_of_ble_eq_true rfl) (fun ρ => w_X7_sendSign (r := ()) l0 l1 l2 l3 M h)
theorem wd_X11_227 : wdV RX11 227 RX7 yX7_sendSign cX7_sendSign 5 none 3 := ⟨gwi 1041 (by decide +kernel) (by decide +kernel), gwi 799 (by decide +kernel) (by decide +kernel), gwi 800 (by decide +kernel) (by decide +kernel), nw_X7, gwi 801 (by decide +kernel) (by decide +kernel), ⟨rfl, by decide +kernel, by decide +kernel, by decide +kernel⟩⟩
theorem ca_X11_227 {G : Gl} {B : Bx} {cc : ByteArray} {ret : Option FieldType} {fr lo nL : Nat} {mn : String} {hh : List (Nat × Nat × Nat × Nat)} {pc : Nat} {ls : List (Nat × Value)} {st : List Value} {M M1 : Mem} {l0 : Nat} {l1 : Nat} {l2 : Int32} {l3 : Int32} (e : f_X7_sendSign l0 l1 l2 l3 M = some M1) (hd : decode cc pc = .ok (.invokevirtual 227, 3)) (hcat : (st.map fun v => v.category).sum ≤ 8) (hR : 1 + 1 ≤ fr ∧ 8 + (5 + 11) + 21 ≤ lo) (k : V G (RX11, cc, ret, fr, lo, nL, mn, hh) B (pc + 3) ls (st) M1) : V G (RX11, cc, ret, fr, lo, nL, mn, hh) B pc ls (.int l3 :: .int l2 :: .ref l1 :: .ref l0 :: st) M := v_callV0 (As := [.ref l1, .int l2, .int l3]) (k_X7_sendSign e) wd_X11_227 clX7 (kd_X7_sendSign e) hd rfl rfl hcat hR k
theorem wd_X7_289 : wdV RX7 289 RX7 yX7_sendSign cX7_sendSign 5 none 3 := ⟨gwi 798 (by decide +kernel) (by decide +kernel), gwi 799 (by decide +kernel) (by decide +kernel), gwi 800 (by decide +kernel) (by decide +kernel), nw_X7, gwi 801 (by decide +kernel) (by decide +kernel), ⟨rfl, by decide +kernel, by decide +kernel, by decide +kernel⟩⟩
theorem ca_X7_289 {G : Gl} {B : Bx} {cc : ByteArray} {ret : Option FieldType} {fr lo nL : Nat} {mn : String} {hh : List (Nat × Nat × Nat × Nat)} {pc : Nat} {ls : List (Nat × Value)} {st : List Value} {M M1 : Mem} {l0 : Nat} {l1 : Nat} {l2 : Int32} {l3 : Int32} (e : f_X7_sendSign l0 l1 l2 l3 M = some M1) (hd : decode cc pc = .ok (.invokevirtual 289, 3)) (hcat : (st.map fun v => v.category).sum ≤ 8) (hR : 1 + 1 ≤ fr ∧ 8 + (5 + 11) + 21 ≤ lo) (k : V G (RX7, cc, ret, fr, lo, nL, mn, hh) B (pc + 3) ls (st) M1) : V G (RX7, cc, ret, fr, lo, nL, mn, hh) B pc ls (.int l3 :: .int l2 :: .ref l1 :: .ref l0 :: st) M := v_callV0 (As := [.ref l1, .int l2, .int l3]) (k_X7_sendSign e) wd_X7_289 clX7 (kd_X7_sendSign e) hd rfl rfl hcat hR k
set_option maxHeartbeats 4000000 in
set_option maxRecDepth 100000 in
theorem w_X7_sendRelease {G : Gl} {ρ0 : Nat → Nat} {M0 MF : Mem} {r : Unit} (l0 : Nat) (l1 : Nat) (l2 : Nat) (M : Mem) (h : f_X7_sendRelease l0 l1 l2 M = some MF) : V G (RX7, cX7_sendRelease, none, 2, 45, 3, "sendRelease", []) (ρ0, M0, cvV r, MF) 0 [(0, .ref l0), (1, .ref l1), (2, .ref l2)] [] M := by
  unfold f_X7_sendRelease at h
  replace h := (ifS h).2
  refine v_aload_n dX7_sendRelease_0 rfl 2 rfl ?_
  refine v_aload_n dX7_sendRelease_1 rfl 0 rfl ?_
  obtain ⟨v1, e, h⟩ := bind_some h
  refine gt_X7_79 e dX7_sendRelease_2 ?_
  obtain ⟨M2, e, h⟩ := bind_some h
  refine pt_X7_286 e dX7_sendRelease_5 ?_
  refine v_aload_n dX7_sendRelease_8 rfl 0 rfl ?_
  refine v_aload_n dX7_sendRelease_9 rfl 1 rfl ?_
  refine v_iconst (v := 3) dX7_sendRelease_10 ci_3 ?_
  refine v_aload_n dX7_sendRelease_11 rfl 2 rfl ?_
  obtain ⟨v3, e, h⟩ := bind_some h
  refine gt_X7_271 e dX7_sendRelease_12 ?_
  obtain ⟨M4, e, h⟩ := bind_some h
  refine ca_X7_289 e dX7_sendRelease_15 (Nat.le_of_ble_eq_true rfl) (by decide) ?_
  cases h
  exact v_vreturn dX7_sendRelease_18
theorem kd_X7_sendRelease {l0 : Nat} {l1 : Nat} {l2 : Nat} {M : Mem} {z : _} (h : f_X7_sendRelease l0 l1 l2 M = some z) : (mK M l0).1 = 7 := by
  unfold f_X7_sendRelease at h
  exact (ifS h).1
theorem k_X7_sendRelease {G : Gl} {l0 : Nat} {l1 : Nat} {l2 : Nat} {M MF : Mem} (h : f_X7_sendRelease l0 l1 l2 M = some MF) : CtrP G yX7_sendRelease cX7_sendRelease 3 none 2 45 [.ref l0, .ref l1, .ref l2] M (cvV ()) MF :=
  ctr_of (by decide +kernel) (Nat.le_of_ble_eq_true rfl) (fun ρ => w_X7_sendRelease (r := ()) l0 l1 l2 M h)
theorem wd_X7_283 : wdV RX7 283 RX7 yX7_sendRelease cX7_sendRelease 3 none 2 := ⟨gwi 794 (by decide +kernel) (by decide +kernel), gwi 796 (by decide +kernel) (by decide +kernel), gwi 16 (by decide +kernel) (by decide +kernel), nw_X7, gwi 797 (by decide +kernel) (by decide +kernel), ⟨rfl, by decide +kernel, by decide +kernel, by decide +kernel⟩⟩
theorem ca_X7_283 {G : Gl} {B : Bx} {cc : ByteArray} {ret : Option FieldType} {fr lo nL : Nat} {mn : String} {hh : List (Nat × Nat × Nat × Nat)} {pc : Nat} {ls : List (Nat × Value)} {st : List Value} {M M1 : Mem} {l0 : Nat} {l1 : Nat} {l2 : Nat} (e : f_X7_sendRelease l0 l1 l2 M = some M1) (hd : decode cc pc = .ok (.invokevirtual 283, 3)) (hcat : (st.map fun v => v.category).sum ≤ 8) (hR : 2 + 1 ≤ fr ∧ 8 + (3 + 11) + 45 ≤ lo) (k : V G (RX7, cc, ret, fr, lo, nL, mn, hh) B (pc + 3) ls (st) M1) : V G (RX7, cc, ret, fr, lo, nL, mn, hh) B pc ls (.ref l2 :: .ref l1 :: .ref l0 :: st) M := v_callV0 (As := [.ref l1, .ref l2]) (k_X7_sendRelease e) wd_X7_283 clX7 (kd_X7_sendRelease e) hd rfl rfl hcat hR k
