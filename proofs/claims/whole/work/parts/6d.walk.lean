set_option maxHeartbeats 4000000 in
set_option maxRecDepth 100000 in
theorem w_X12_relation_J73 {G : Gl} {ρ0 : Nat → Nat} {M0 MF : Mem} {r : Int32} (l0 : Nat) (l4 : Int32) (l5 : Int32) (s0 : Int32) (s1 : Int32) (M : Mem) (h : f_X12_relation_J73 l0 l4 l5 s0 s1 M = some (r, MF)) : V G (RX12, cX12_relation, (some .int), 3, 69, 6, "relation", []) (ρ0, M0, cvI r, MF) 73 [(0, .ref l0), (4, .int l4), (5, .int l5)] [.int s0, .int s1] M := by
  unfold f_X12_relation_J73 at h
  refine v_iadd dX12_relation_73 ?_
  refine v_aload_n dX12_relation_74 rfl 0 rfl ?_
  refine v_iload dX12_relation_75 2 rfl ?_
  refine v_iload dX12_relation_77 1 rfl ?_
  obtain ⟨v2, M1, e, h⟩ := bindP_some h
  refine ca_X12_232 e dX12_relation_79 (Nat.le_of_ble_eq_true rfl) (by decide) ?_
  refine v_if_eq (tgt := 89) dX12_relation_82 (by decide) (fun c3 => ?_) (fun c3 => ?_)
  · replace h := ifP c3 h
    refine v_iconst (v := 0) dX12_relation_89 ci_0 ?_
    refine v_iadd dX12_relation_90 ?_
    refine v_goto (tgt := 95) dX12_relation_91 (by decide) ?_
    cases h
    exact v_ireturn dX12_relation_95
  · replace h := ifN c3 h
    refine v_iconst (v := 4) dX12_relation_85 ci_4 ?_
    refine v_goto (tgt := 90) dX12_relation_86 (by decide) ?_
    refine v_iadd dX12_relation_90 ?_
    refine v_goto (tgt := 95) dX12_relation_91 (by decide) ?_
    cases h
    exact v_ireturn dX12_relation_95
set_option maxHeartbeats 4000000 in
set_option maxRecDepth 100000 in
theorem w_X12_relation_J23 {G : Gl} {ρ0 : Nat → Nat} {M0 MF : Mem} {r : Int32} (l0 : Nat) (M : Mem) (h : f_X12_relation_J23 l0 M = some (r, MF)) : V G (RX12, cX12_relation, (some .int), 3, 69, 6, "relation", []) (ρ0, M0, cvI r, MF) 23 [(0, .ref l0)] [] M := by
  unfold f_X12_relation_J23 at h
  refine v_aload_n dX12_relation_23 rfl 0 rfl ?_
  refine v_iconst (v := 1) dX12_relation_24 ci_1 ?_
  obtain ⟨v2, M1, e, h⟩ := bindP_some h
  refine ca_X12_86 e dX12_relation_25 (Nat.le_of_ble_eq_true rfl) (by decide) ?_
  cases h
  exact v_ireturn dX12_relation_28
set_option maxHeartbeats 4000000 in
set_option maxRecDepth 100000 in
theorem w_X12_relation {G : Gl} {ρ0 : Nat → Nat} {M0 MF : Mem} {r : Int32} (l0 : Nat) (l1 : Int32) (l2 : Int32) (l3 : Int32) (M : Mem) (h : f_X12_relation l0 l1 l2 l3 M = some (r, MF)) : V G (RX12, cX12_relation, (some .int), 3, 69, 6, "relation", []) (ρ0, M0, cvI r, MF) 0 [(0, .ref l0), (1, .int l1), (2, .int l2), (3, .int l3)] [] M := by
  unfold f_X12_relation at h
  replace h := (ifS h).2
  refine v_aload_n dX12_relation_0 rfl 0 rfl ?_
  refine v_iconst (v := 0) dX12_relation_1 ci_0 ?_
  obtain ⟨M1, e, h⟩ := bind_some h
  refine pt_X12_52 e dX12_relation_2 ?_
  refine v_aload_n dX12_relation_5 rfl 0 rfl ?_
  refine v_iload_n dX12_relation_6 rfl 1 rfl ?_
  refine v_iload_n dX12_relation_7 rfl 2 rfl ?_
  obtain ⟨v3, M2, e, h⟩ := bindP_some h
  refine ca_X12_216 e dX12_relation_8 (Nat.le_of_ble_eq_true rfl) (by decide) ?_
  refine v_if_eq (tgt := 23) dX12_relation_11 (by decide) (fun c13 => ?_) (fun c13 => ?_)
  · replace h := ifP c13 h
    refine v_sub [0] rfl ?_
    exact w_X12_relation_J23 l0 M2 h
  · replace h := ifN c13 h
    refine v_aload_n dX12_relation_14 rfl 0 rfl ?_
    refine v_iload_n dX12_relation_15 rfl 1 rfl ?_
    refine v_iload_n dX12_relation_16 rfl 3 rfl ?_
    obtain ⟨v5, M4, e, h⟩ := bindP_some h
    refine ca_X12_216 e dX12_relation_17 (Nat.le_of_ble_eq_true rfl) (by decide) ?_
    refine v_if_ne (tgt := 29) dX12_relation_20 (by decide) (fun c12 => ?_) (fun c12 => ?_)
    · replace h := ifN c12 h
      refine v_bipush (v := 6) dX12_relation_29 cb_6 ?_
      refine v_iload_n dX12_relation_31 rfl 1 rfl ?_
      refine v_imul dX12_relation_32 ?_
      refine v_iload_n dX12_relation_33 rfl 2 rfl ?_
      refine v_iadd dX12_relation_34 ?_
      refine v_istore (ls' := [(4, .int (((6 : Int32) * l1) + l2)), (0, .ref l0), (1, .int l1), (2, .int l2), (3, .int l3)]) dX12_relation_35 (by decide) rfl ?_
      refine v_bipush (v := 6) dX12_relation_37 cb_6 ?_
      refine v_iload_n dX12_relation_39 rfl 2 rfl ?_
      refine v_imul dX12_relation_40 ?_
      refine v_iload_n dX12_relation_41 rfl 4 rfl ?_
      refine v_iadd dX12_relation_42 ?_
      refine v_istore (ls' := [(5, .int (((6 : Int32) * l1) + l3)), (4, .int (((6 : Int32) * l1) + l2)), (0, .ref l0), (1, .int l1), (2, .int l2), (3, .int l3)]) dX12_relation_43 (by decide) rfl ?_
      refine v_aload_n dX12_relation_45 rfl 2 rfl ?_
      refine v_iload dX12_relation_46 1 rfl ?_
      refine v_iload dX12_relation_48 0 rfl ?_
      obtain ⟨v7, M6, e, h⟩ := bindP_some h
      refine ca_X12_229 e dX12_relation_50 (Nat.le_of_ble_eq_true rfl) (by decide) ?_
      refine v_if_eq (tgt := 94) dX12_relation_53 (by decide) (fun c11 => ?_) (fun c11 => ?_)
      · replace h := ifP c11 h
        refine v_iconst (v := 0) dX12_relation_94 ci_0 ?_
        cases h
        exact v_ireturn dX12_relation_95
      · replace h := ifN c11 h
        refine v_iconst (v := 1) dX12_relation_56 ci_1 ?_
        refine v_aload_n dX12_relation_57 rfl 2 rfl ?_
        refine v_iload dX12_relation_58 1 rfl ?_
        refine v_iload dX12_relation_60 0 rfl ?_
        obtain ⟨v9, M8, e, h⟩ := bindP_some h
        refine ca_X12_232 e dX12_relation_62 (Nat.le_of_ble_eq_true rfl) (by decide) ?_
        refine v_if_eq (tgt := 72) dX12_relation_65 (by decide) (fun c10 => ?_) (fun c10 => ?_)
        · replace h := ifP c10 h
          refine v_iconst (v := 0) dX12_relation_72 ci_0 ?_
          refine v_sub [2, 1, 0] rfl ?_
          exact w_X12_relation_J73 l0 (((6 : Int32) * l1) + l2) (((6 : Int32) * l1) + l3) (0 : Int32) (1 : Int32) M8 h
        · replace h := ifN c10 h
          refine v_iconst (v := 2) dX12_relation_68 ci_2 ?_
          refine v_goto (tgt := 73) dX12_relation_69 (by decide) ?_
          refine v_sub [2, 1, 0] rfl ?_
          exact w_X12_relation_J73 l0 (((6 : Int32) * l1) + l2) (((6 : Int32) * l1) + l3) (2 : Int32) (1 : Int32) M8 h
    · replace h := ifP c12 h
      refine v_sub [0] rfl ?_
      exact w_X12_relation_J23 l0 M4 h
theorem kd_X12_relation {l0 : Nat} {l1 : Int32} {l2 : Int32} {l3 : Int32} {M : Mem} {z : _} (h : f_X12_relation l0 l1 l2 l3 M = some z) : (mK M l0).1 = 12 := by
  unfold f_X12_relation at h
  exact (ifS h).1
theorem k_X12_relation {G : Gl} {l0 : Nat} {l1 : Int32} {l2 : Int32} {l3 : Int32} {M MF : Mem} {r : Int32} (h : f_X12_relation l0 l1 l2 l3 M = some (r, MF)) : CtrP G yX12_relation cX12_relation 6 (some .int) 3 69 [.ref l0, .int l1, .int l2, .int l3] M (cvI r) MF :=
  ctr_of (by decide +kernel) (Nat.le_of_ble_eq_true rfl) (fun ρ => w_X12_relation l0 l1 l2 l3 M h)
set_option maxHeartbeats 4000000 in
set_option maxRecDepth 100000 in
theorem w_X12_shareOf_L4 {G : Gl} {ρ0 : Nat → Nat} {M0 MF : Mem} {r : Int32} : ∀ (n : Nat) (l0 : Nat) (l1 : Int32) (l2 : Int32) (l3 : Int32) (M : Mem), f_X12_shareOf_L4 n l0 l1 l2 l3 M = some (r, MF) → V G (RX12, cX12_shareOf, (some .int), 1, 25, 4, "shareOf", []) (ρ0, M0, cvI r, MF) 4 [(0, .ref l0), (1, .int l1), (2, .int l2), (3, .int l3)] [] M := by
  intro n
  induction n with
  | zero => intro l0 l1 l2 l3 M h; cases h
  | succ n ih =>
    intro l0 l1 l2 l3 M h
    rw [f_X12_shareOf_L4] at h
    refine v_iload_n dX12_shareOf_4 rfl 3 rfl ?_
    refine v_aload_n dX12_shareOf_5 rfl 0 rfl ?_
    obtain ⟨v1, e, h⟩ := bind_some h
    refine gt_X12_9 e dX12_shareOf_6 ?_
    refine v_bipush (v := 16) dX12_shareOf_9 cb_16 ?_
    obtain ⟨v2, e, h⟩ := bind_some h
    refine v_iaload dX12_shareOf_11 e ?_
    refine v_icmp_ge (tgt := 63) dX12_shareOf_12 (by decide) (fun c11 => ?_) (fun c11 => ?_)
    · replace h := ifP c11 h
      refine v_iload_n dX12_shareOf_63 rfl 2 rfl ?_
      cases h
      exact v_ireturn dX12_shareOf_64
    · replace h := ifN c11 h
      refine v_aload_n dX12_shareOf_15 rfl 0 rfl ?_
      obtain ⟨v3, e, h⟩ := bind_some h
      refine gt_X12_9 e dX12_shareOf_16 ?_
      refine v_sipush (v := 1794) dX12_shareOf_19 cs_1794 ?_
      refine v_iload_n dX12_shareOf_22 rfl 3 rfl ?_
      refine v_iadd dX12_shareOf_23 ?_
      obtain ⟨v4, e, h⟩ := bind_some h
      refine v_iaload dX12_shareOf_24 e ?_
      refine v_iload_n dX12_shareOf_25 rfl 1 rfl ?_
      refine v_icmp_ne (tgt := 55) dX12_shareOf_26 (by decide) (fun c10 => ?_) (fun c10 => ?_)
      · replace h := ifN c10 h
        refine v_iload_n dX12_shareOf_55 rfl 2 rfl ?_
        refine v_istore_n (ls' := [(2, .int l2), (0, .ref l0), (1, .int l1), (3, .int l3)]) dX12_shareOf_56 rfl (by decide) rfl ?_
        refine v_iinc (ls' := [(3, .int (l3 + 1)), (2, .int l2), (0, .ref l0), (1, .int l1)]) dX12_shareOf_57 3 rfl (v := 1) ci_1 (by decide) rfl ?_
        refine v_goto (tgt := 4) dX12_shareOf_60 (by decide) ?_
        refine v_sub [2, 3, 1, 0] rfl ?_
        exact ih l0 l1 l2 (l3 + 1) M h
      · replace h := ifP c10 h
        refine v_aload_n dX12_shareOf_29 rfl 0 rfl ?_
        obtain ⟨v5, e, h⟩ := bind_some h
        refine gt_X12_13 e dX12_shareOf_30 ?_
        refine v_sipush (v := 1256) dX12_shareOf_33 cs_1256 ?_
        refine v_iconst (v := 4) dX12_shareOf_36 ci_4 ?_
        refine v_iload_n dX12_shareOf_37 rfl 3 rfl ?_
        refine v_imul dX12_shareOf_38 ?_
        refine v_iadd dX12_shareOf_39 ?_
        refine v_aload_n dX12_shareOf_40 rfl 0 rfl ?_
        obtain ⟨v6, e, h⟩ := bind_some h
        refine gt_X12_37 e dX12_shareOf_41 ?_
        refine v_iconst (v := 0) dX12_shareOf_44 ci_0 ?_
        obtain ⟨v8, M7, e, h⟩ := bindP_some h
        refine ca_X12_131 e dX12_shareOf_45 (Nat.le_of_ble_eq_true rfl) (by decide) ?_
        refine v_if_eq (tgt := 55) dX12_shareOf_48 (by decide) (fun c9 => ?_) (fun c9 => ?_)
        · replace h := ifP c9 h
          refine v_iload_n dX12_shareOf_55 rfl 2 rfl ?_
          refine v_istore_n (ls' := [(2, .int l2), (0, .ref l0), (1, .int l1), (3, .int l3)]) dX12_shareOf_56 rfl (by decide) rfl ?_
          refine v_iinc (ls' := [(3, .int (l3 + 1)), (2, .int l2), (0, .ref l0), (1, .int l1)]) dX12_shareOf_57 3 rfl (v := 1) ci_1 (by decide) rfl ?_
          refine v_goto (tgt := 4) dX12_shareOf_60 (by decide) ?_
          refine v_sub [2, 3, 1, 0] rfl ?_
          exact ih l0 l1 l2 (l3 + 1) M7 h
        · replace h := ifN c9 h
          refine v_iload_n dX12_shareOf_51 rfl 3 rfl ?_
          refine v_goto (tgt := 56) dX12_shareOf_52 (by decide) ?_
          refine v_istore_n (ls' := [(2, .int l3), (0, .ref l0), (1, .int l1), (3, .int l3)]) dX12_shareOf_56 rfl (by decide) rfl ?_
          refine v_iinc (ls' := [(3, .int (l3 + 1)), (2, .int l3), (0, .ref l0), (1, .int l1)]) dX12_shareOf_57 3 rfl (v := 1) ci_1 (by decide) rfl ?_
          refine v_goto (tgt := 4) dX12_shareOf_60 (by decide) ?_
          refine v_sub [2, 3, 1, 0] rfl ?_
          exact ih l0 l1 l3 (l3 + 1) M7 h
set_option maxHeartbeats 4000000 in
set_option maxRecDepth 100000 in
theorem w_X12_shareOf {G : Gl} {ρ0 : Nat → Nat} {M0 MF : Mem} {r : Int32} (l0 : Nat) (l1 : Int32) (M : Mem) (h : f_X12_shareOf l0 l1 M = some (r, MF)) : V G (RX12, cX12_shareOf, (some .int), 1, 25, 4, "shareOf", []) (ρ0, M0, cvI r, MF) 0 [(0, .ref l0), (1, .int l1)] [] M := by
  unfold f_X12_shareOf at h
  replace h := (ifS h).2
  refine v_iconst (v := (-1)) dX12_shareOf_0 ci_m1 ?_
  refine v_istore_n (ls' := [(2, .int (-1 : Int32)), (0, .ref l0), (1, .int l1)]) dX12_shareOf_1 rfl (by decide) rfl ?_
  refine v_iconst (v := 0) dX12_shareOf_2 ci_0 ?_
  refine v_istore_n (ls' := [(3, .int (0 : Int32)), (2, .int (-1 : Int32)), (0, .ref l0), (1, .int l1)]) dX12_shareOf_3 rfl (by decide) rfl ?_
  refine v_sub [2, 3, 1, 0] rfl ?_
  exact w_X12_shareOf_L4 FU l0 l1 (-1 : Int32) (0 : Int32) M h
theorem kd_X12_shareOf {l0 : Nat} {l1 : Int32} {M : Mem} {z : _} (h : f_X12_shareOf l0 l1 M = some z) : (mK M l0).1 = 12 := by
  unfold f_X12_shareOf at h
  exact (ifS h).1
theorem k_X12_shareOf {G : Gl} {l0 : Nat} {l1 : Int32} {M MF : Mem} {r : Int32} (h : f_X12_shareOf l0 l1 M = some (r, MF)) : CtrP G yX12_shareOf cX12_shareOf 4 (some .int) 1 25 [.ref l0, .int l1] M (cvI r) MF :=
  ctr_of (by decide +kernel) (Nat.le_of_ble_eq_true rfl) (fun ρ => w_X12_shareOf l0 l1 M h)
theorem wd_X12_235 : wdV RX12 235 RX12 yX12_shareOf cX12_shareOf 4 (some .int) 1 := ⟨gwi 1488 (by decide +kernel) (by decide +kernel), gwi 1490 (by decide +kernel) (by decide +kernel), gwi 67 (by decide +kernel) (by decide +kernel), nw_X12, gwi 1491 (by decide +kernel) (by decide +kernel), ⟨rfl, by decide +kernel, by decide +kernel, by decide +kernel⟩⟩
theorem ca_X12_235 {G : Gl} {B : Bx} {cc : ByteArray} {ret : Option FieldType} {fr lo nL : Nat} {mn : String} {hh : List (Nat × Nat × Nat × Nat)} {pc : Nat} {ls : List (Nat × Value)} {st : List Value} {M M1 : Mem} {l0 : Nat} {l1 : Int32} {x : Int32} (e : f_X12_shareOf l0 l1 M = some (x, M1)) (hd : decode cc pc = .ok (.invokevirtual 235, 3)) (hcat : (st.map fun v => v.category).sum ≤ 8) (hR : 1 + 1 ≤ fr ∧ 8 + (4 + 11) + 25 ≤ lo) (k : V G (RX12, cc, ret, fr, lo, nL, mn, hh) B (pc + 3) ls (.int x :: st) M1) : V G (RX12, cc, ret, fr, lo, nL, mn, hh) B pc ls (.int l1 :: .ref l0 :: st) M := v_callVi (As := [.int l1]) (k_X12_shareOf e) wd_X12_235 clX12 (kd_X12_shareOf e) hd rfl rfl hcat hR k
set_option maxHeartbeats 4000000 in
set_option maxRecDepth 100000 in
theorem w_X12_shareSize_J22 {G : Gl} {ρ0 : Nat → Nat} {M0 MF : Mem} {r : Int32} (l0 : Nat) (M : Mem) (h : f_X12_shareSize_J22 l0 M = some (r, MF)) : V G (RX12, cX12_shareSize, (some .int), 4, 93, 3, "shareSize", []) (ρ0, M0, cvI r, MF) 22 [(0, .ref l0)] [] M := by
  unfold f_X12_shareSize_J22 at h
  refine v_aload_n dX12_shareSize_22 rfl 0 rfl ?_
  refine v_iconst (v := 1) dX12_shareSize_23 ci_1 ?_
  obtain ⟨v2, M1, e, h⟩ := bindP_some h
  refine ca_X12_86 e dX12_shareSize_24 (Nat.le_of_ble_eq_true rfl) (by decide) ?_
  cases h
  exact v_ireturn dX12_shareSize_27
set_option maxHeartbeats 4000000 in
set_option maxRecDepth 100000 in
theorem w_X12_shareSize {G : Gl} {ρ0 : Nat → Nat} {M0 MF : Mem} {r : Int32} (l0 : Nat) (l1 : Int32) (M : Mem) (h : f_X12_shareSize l0 l1 M = some (r, MF)) : V G (RX12, cX12_shareSize, (some .int), 4, 93, 3, "shareSize", []) (ρ0, M0, cvI r, MF) 0 [(0, .ref l0), (1, .int l1)] [] M := by
  unfold f_X12_shareSize at h
  replace h := (ifS h).2
  refine v_aload_n dX12_shareSize_0 rfl 0 rfl ?_
  refine v_iconst (v := 0) dX12_shareSize_1 ci_0 ?_
  obtain ⟨M1, e, h⟩ := bind_some h
  refine pt_X12_52 e dX12_shareSize_2 ?_
  refine v_aload_n dX12_shareSize_5 rfl 0 rfl ?_
  refine v_iconst (v := 1) dX12_shareSize_6 ci_1 ?_
  obtain ⟨v3, M2, e, h⟩ := bindP_some h
  refine ca_X12_203 e dX12_shareSize_7 (Nat.le_of_ble_eq_true rfl) (by decide) ?_
  refine v_if_eq (tgt := 22) dX12_shareSize_10 (by decide) (fun c12 => ?_) (fun c12 => ?_)
  · replace h := ifP c12 h
    refine v_sub [0] rfl ?_
    exact w_X12_shareSize_J22 l0 M2 h
  · replace h := ifN c12 h
    refine v_iload_n dX12_shareSize_13 rfl 1 rfl ?_
    refine v_iconst (v := 1) dX12_shareSize_14 ci_1 ?_
    refine v_iconst (v := 3) dX12_shareSize_15 ci_3 ?_
    obtain ⟨v5, M4, e, h⟩ := bindP_some h
    refine ca_X12_55 e dX12_shareSize_16 (Nat.le_of_ble_eq_true rfl) (by decide) ?_
    refine v_if_ne (tgt := 28) dX12_shareSize_19 (by decide) (fun c11 => ?_) (fun c11 => ?_)
    · replace h := ifN c11 h
      refine v_aload_n dX12_shareSize_28 rfl 0 rfl ?_
      refine v_iload_n dX12_shareSize_29 rfl 1 rfl ?_
      obtain ⟨v7, M6, e, h⟩ := bindP_some h
      refine ca_X12_235 e dX12_shareSize_30 (Nat.le_of_ble_eq_true rfl) (by decide) ?_
      refine v_istore_n (ls' := [(2, .int v7), (0, .ref l0), (1, .int l1)]) dX12_shareSize_33 rfl (by decide) rfl ?_
      refine v_iload_n dX12_shareSize_34 rfl 0 rfl ?_
      refine v_iconst (v := (-1)) dX12_shareSize_35 ci_m1 ?_
      refine v_icmp_ne (tgt := 43) dX12_shareSize_36 (by decide) (fun c10 => ?_) (fun c10 => ?_)
      · replace h := ifN c10 h
        refine v_aload_n dX12_shareSize_43 rfl 1 rfl ?_
        obtain ⟨v8, e, h⟩ := bind_some h
        refine gt_X12_9 e dX12_shareSize_44 ?_
        refine v_sipush (v := 1866) dX12_shareSize_47 cs_1866 ?_
        refine v_iload_n dX12_shareSize_50 rfl 0 rfl ?_
        refine v_iadd dX12_shareSize_51 ?_
        obtain ⟨v9, e, h⟩ := bind_some h
        refine v_iaload dX12_shareSize_52 e ?_
        cases h
        exact v_ireturn dX12_shareSize_53
      · replace h := ifP c10 h
        refine v_iconst (v := 0) dX12_shareSize_39 ci_0 ?_
        refine v_goto (tgt := 53) dX12_shareSize_40 (by decide) ?_
        cases h
        exact v_ireturn dX12_shareSize_53
    · replace h := ifP c11 h
      refine v_sub [0] rfl ?_
      exact w_X12_shareSize_J22 l0 M4 h
theorem kd_X12_shareSize {l0 : Nat} {l1 : Int32} {M : Mem} {z : _} (h : f_X12_shareSize l0 l1 M = some z) : (mK M l0).1 = 12 := by
  unfold f_X12_shareSize at h
  exact (ifS h).1
theorem k_X12_shareSize {G : Gl} {l0 : Nat} {l1 : Int32} {M MF : Mem} {r : Int32} (h : f_X12_shareSize l0 l1 M = some (r, MF)) : CtrP G yX12_shareSize cX12_shareSize 3 (some .int) 4 93 [.ref l0, .int l1] M (cvI r) MF :=
  ctr_of (by decide +kernel) (Nat.le_of_ble_eq_true rfl) (fun ρ => w_X12_shareSize l0 l1 M h)
set_option maxHeartbeats 4000000 in
set_option maxRecDepth 100000 in
theorem w_X12_shareMember_J59 {G : Gl} {ρ0 : Nat → Nat} {M0 MF : Mem} {r : Int32} (l0 : Nat) (M : Mem) (h : f_X12_shareMember_J59 l0 M = some (r, MF)) : V G (RX12, cX12_shareMember, (some .int), 4, 93, 4, "shareMember", []) (ρ0, M0, cvI r, MF) 59 [(0, .ref l0)] [] M := by
  unfold f_X12_shareMember_J59 at h
  refine v_aload_n dX12_shareMember_59 rfl 0 rfl ?_
  refine v_iconst (v := 2) dX12_shareMember_60 ci_2 ?_
  obtain ⟨v2, M1, e, h⟩ := bindP_some h
  refine ca_X12_86 e dX12_shareMember_61 (Nat.le_of_ble_eq_true rfl) (by decide) ?_
  cases h
  exact v_ireturn dX12_shareMember_64
set_option maxHeartbeats 4000000 in
set_option maxRecDepth 100000 in
theorem w_X12_shareMember_J22 {G : Gl} {ρ0 : Nat → Nat} {M0 MF : Mem} {r : Int32} (l0 : Nat) (M : Mem) (h : f_X12_shareMember_J22 l0 M = some (r, MF)) : V G (RX12, cX12_shareMember, (some .int), 4, 93, 4, "shareMember", []) (ρ0, M0, cvI r, MF) 22 [(0, .ref l0)] [] M := by
  unfold f_X12_shareMember_J22 at h
  refine v_aload_n dX12_shareMember_22 rfl 0 rfl ?_
  refine v_iconst (v := 1) dX12_shareMember_23 ci_1 ?_
  obtain ⟨v2, M1, e, h⟩ := bindP_some h
  refine ca_X12_86 e dX12_shareMember_24 (Nat.le_of_ble_eq_true rfl) (by decide) ?_
  cases h
  exact v_ireturn dX12_shareMember_27
set_option maxHeartbeats 4000000 in
set_option maxRecDepth 100000 in
theorem w_X12_shareMember {G : Gl} {ρ0 : Nat → Nat} {M0 MF : Mem} {r : Int32} (l0 : Nat) (l1 : Int32) (l2 : Int32) (M : Mem) (h : f_X12_shareMember l0 l1 l2 M = some (r, MF)) : V G (RX12, cX12_shareMember, (some .int), 4, 93, 4, "shareMember", []) (ρ0, M0, cvI r, MF) 0 [(0, .ref l0), (1, .int l1), (2, .int l2)] [] M := by
  unfold f_X12_shareMember at h
  replace h := (ifS h).2
  refine v_aload_n dX12_shareMember_0 rfl 0 rfl ?_
  refine v_iconst (v := 0) dX12_shareMember_1 ci_0 ?_
  obtain ⟨M1, e, h⟩ := bind_some h
  refine pt_X12_52 e dX12_shareMember_2 ?_
  refine v_aload_n dX12_shareMember_5 rfl 0 rfl ?_
  refine v_iconst (v := 1) dX12_shareMember_6 ci_1 ?_
  obtain ⟨v3, M2, e, h⟩ := bindP_some h
  refine ca_X12_203 e dX12_shareMember_7 (Nat.le_of_ble_eq_true rfl) (by decide) ?_
  refine v_if_eq (tgt := 22) dX12_shareMember_10 (by decide) (fun c17 => ?_) (fun c17 => ?_)
  · replace h := ifP c17 h
    refine v_sub [0] rfl ?_
    exact w_X12_shareMember_J22 l0 M2 h
  · replace h := ifN c17 h
    refine v_iload_n dX12_shareMember_13 rfl 1 rfl ?_
    refine v_iconst (v := 1) dX12_shareMember_14 ci_1 ?_
    refine v_iconst (v := 3) dX12_shareMember_15 ci_3 ?_
    obtain ⟨v5, M4, e, h⟩ := bindP_some h
    refine ca_X12_55 e dX12_shareMember_16 (Nat.le_of_ble_eq_true rfl) (by decide) ?_
    refine v_if_ne (tgt := 28) dX12_shareMember_19 (by decide) (fun c16 => ?_) (fun c16 => ?_)
    · replace h := ifN c16 h
      refine v_aload_n dX12_shareMember_28 rfl 0 rfl ?_
      refine v_iload_n dX12_shareMember_29 rfl 1 rfl ?_
      obtain ⟨v7, M6, e, h⟩ := bindP_some h
      refine ca_X12_235 e dX12_shareMember_30 (Nat.le_of_ble_eq_true rfl) (by decide) ?_
      refine v_istore_n (ls' := [(3, .int v7), (0, .ref l0), (1, .int l1), (2, .int l2)]) dX12_shareMember_33 rfl (by decide) rfl ?_
      refine v_iload_n dX12_shareMember_34 rfl 0 rfl ?_
      refine v_iconst (v := (-1)) dX12_shareMember_35 ci_m1 ?_
      refine v_icmp_eq (tgt := 59) dX12_shareMember_36 (by decide) (fun c15 => ?_) (fun c15 => ?_)
      · replace h := ifP c15 h
        refine v_sub [1] rfl ?_
        exact w_X12_shareMember_J59 l0 M6 h
      · replace h := ifN c15 h
        refine v_iload_n dX12_shareMember_39 rfl 3 rfl ?_
        refine v_iconst (v := 0) dX12_shareMember_40 ci_0 ?_
        refine v_aload_n dX12_shareMember_41 rfl 1 rfl ?_
        obtain ⟨v8, e, h⟩ := bind_some h
        refine gt_X12_9 e dX12_shareMember_42 ?_
        refine v_sipush (v := 1866) dX12_shareMember_45 cs_1866 ?_
        refine v_iload_n dX12_shareMember_48 rfl 0 rfl ?_
        refine v_iadd dX12_shareMember_49 ?_
        obtain ⟨v9, e, h⟩ := bind_some h
        refine v_iaload dX12_shareMember_50 e ?_
        refine v_iconst (v := 1) dX12_shareMember_51 ci_1 ?_
        refine v_isub dX12_shareMember_52 ?_
        obtain ⟨v11, M10, e, h⟩ := bindP_some h
        refine ca_X12_55 e dX12_shareMember_53 (Nat.le_of_ble_eq_true rfl) (by decide) ?_
        refine v_if_ne (tgt := 65) dX12_shareMember_56 (by decide) (fun c14 => ?_) (fun c14 => ?_)
        · replace h := ifN c14 h
          refine v_aload_n dX12_shareMember_65 rfl 1 rfl ?_
          obtain ⟨v12, e, h⟩ := bind_some h
          refine gt_X12_9 e dX12_shareMember_66 ?_
          refine v_sipush (v := 1902) dX12_shareMember_69 cs_1902 ?_
          refine v_bipush (v := 6) dX12_shareMember_72 cb_6 ?_
          refine v_iload_n dX12_shareMember_74 rfl 0 rfl ?_
          refine v_imul dX12_shareMember_75 ?_
          refine v_iadd dX12_shareMember_76 ?_
          refine v_iload_n dX12_shareMember_77 rfl 3 rfl ?_
          refine v_iadd dX12_shareMember_78 ?_
          obtain ⟨v13, e, h⟩ := bind_some h
          refine v_iaload dX12_shareMember_79 e ?_
          cases h
          exact v_ireturn dX12_shareMember_80
        · replace h := ifP c14 h
          refine v_sub [1] rfl ?_
          exact w_X12_shareMember_J59 l0 M10 h
    · replace h := ifP c16 h
      refine v_sub [0] rfl ?_
      exact w_X12_shareMember_J22 l0 M4 h
theorem kd_X12_shareMember {l0 : Nat} {l1 : Int32} {l2 : Int32} {M : Mem} {z : _} (h : f_X12_shareMember l0 l1 l2 M = some z) : (mK M l0).1 = 12 := by
  unfold f_X12_shareMember at h
  exact (ifS h).1
theorem k_X12_shareMember {G : Gl} {l0 : Nat} {l1 : Int32} {l2 : Int32} {M MF : Mem} {r : Int32} (h : f_X12_shareMember l0 l1 l2 M = some (r, MF)) : CtrP G yX12_shareMember cX12_shareMember 4 (some .int) 4 93 [.ref l0, .int l1, .int l2] M (cvI r) MF :=
  ctr_of (by decide +kernel) (Nat.le_of_ble_eq_true rfl) (fun ρ => w_X12_shareMember l0 l1 l2 M h)
set_option maxHeartbeats 4000000 in
set_option maxRecDepth 100000 in
theorem w_X12_refused {G : Gl} {ρ0 : Nat → Nat} {M0 MF : Mem} {r : Int32} (l0 : Nat) (l1 : Int32) (M : Mem) (h : f_X12_refused l0 l1 M = some (r, MF)) : V G (RX12, cX12_refused, (some .int), 2, 42, 2, "refused", []) (ρ0, M0, cvI r, MF) 0 [(0, .ref l0), (1, .int l1)] [] M := by
  unfold f_X12_refused at h
  replace h := (ifS h).2
  refine v_iload_n dX12_refused_0 rfl 1 rfl ?_
  obtain ⟨v2, M1, e, h⟩ := bindP_some h
  refine ca_X12_191 e dX12_refused_1 (Nat.le_of_ble_eq_true rfl) (by decide) ?_
  refine v_if_ne (tgt := 9) dX12_refused_4 (by decide) (fun c6 => ?_) (fun c6 => ?_)
  · replace h := ifN c6 h
    refine v_aload_n dX12_refused_9 rfl 0 rfl ?_
    refine v_iload_n dX12_refused_10 rfl 1 rfl ?_
    obtain ⟨v4, M3, e, h⟩ := bindP_some h
    refine ca_X12_107 e dX12_refused_11 (Nat.le_of_ble_eq_true rfl) (by decide) ?_
    refine v_if_eq (tgt := 21) dX12_refused_14 (by decide) (fun c5 => ?_) (fun c5 => ?_)
    · replace h := ifP c5 h
      refine v_iconst (v := 2) dX12_refused_21 ci_2 ?_
      cases h
      exact v_ireturn dX12_refused_22
    · replace h := ifN c5 h
      refine v_iconst (v := 0) dX12_refused_17 ci_0 ?_
      refine v_goto (tgt := 22) dX12_refused_18 (by decide) ?_
      cases h
      exact v_ireturn dX12_refused_22
  · replace h := ifP c6 h
    refine v_iconst (v := 1) dX12_refused_7 ci_1 ?_
    cases h
    exact v_ireturn dX12_refused_8
theorem kd_X12_refused {l0 : Nat} {l1 : Int32} {M : Mem} {z : _} (h : f_X12_refused l0 l1 M = some z) : (mK M l0).1 = 12 := by
  unfold f_X12_refused at h
  exact (ifS h).1
theorem k_X12_refused {G : Gl} {l0 : Nat} {l1 : Int32} {M MF : Mem} {r : Int32} (h : f_X12_refused l0 l1 M = some (r, MF)) : CtrP G yX12_refused cX12_refused 2 (some .int) 2 42 [.ref l0, .int l1] M (cvI r) MF :=
  ctr_of (by decide +kernel) (Nat.le_of_ble_eq_true rfl) (fun ρ => w_X12_refused l0 l1 M h)
theorem wd_X12_244 : wdV RX12 244 RX12 yX12_refused cX12_refused 2 (some .int) 1 := ⟨gwi 1524 (by decide +kernel) (by decide +kernel), gwi 1526 (by decide +kernel) (by decide +kernel), gwi 70 (by decide +kernel) (by decide +kernel), nw_X12, gwi 1527 (by decide +kernel) (by decide +kernel), ⟨rfl, by decide +kernel, by decide +kernel, by decide +kernel⟩⟩
theorem ca_X12_244 {G : Gl} {B : Bx} {cc : ByteArray} {ret : Option FieldType} {fr lo nL : Nat} {mn : String} {hh : List (Nat × Nat × Nat × Nat)} {pc : Nat} {ls : List (Nat × Value)} {st : List Value} {M M1 : Mem} {l0 : Nat} {l1 : Int32} {x : Int32} (e : f_X12_refused l0 l1 M = some (x, M1)) (hd : decode cc pc = .ok (.invokevirtual 244, 3)) (hcat : (st.map fun v => v.category).sum ≤ 8) (hR : 2 + 1 ≤ fr ∧ 8 + (2 + 11) + 42 ≤ lo) (k : V G (RX12, cc, ret, fr, lo, nL, mn, hh) B (pc + 3) ls (.int x :: st) M1) : V G (RX12, cc, ret, fr, lo, nL, mn, hh) B pc ls (.int l1 :: .ref l0 :: st) M := v_callVi (As := [.int l1]) (k_X12_refused e) wd_X12_244 clX12 (kd_X12_refused e) hd rfl rfl hcat hR k
set_option maxHeartbeats 4000000 in
set_option maxRecDepth 100000 in
theorem w_X12_publish_J61 {G : Gl} {ρ0 : Nat → Nat} {M0 MF : Mem} {r : Int32} (l0 : Nat) (M : Mem) (h : f_X12_publish_J61 l0 M = some (r, MF)) : V G (RX12, cX12_publish, (some .int), 6, 160, 9, "publish", []) (ρ0, M0, cvI r, MF) 61 [(0, .ref l0)] [] M := by
  unfold f_X12_publish_J61 at h
  refine v_aload_n dX12_publish_61 rfl 0 rfl ?_
  refine v_iconst (v := 2) dX12_publish_62 ci_2 ?_
  obtain ⟨v2, M1, e, h⟩ := bindP_some h
  refine ca_X12_86 e dX12_publish_63 (Nat.le_of_ble_eq_true rfl) (by decide) ?_
  cases h
  exact v_ireturn dX12_publish_66
set_option maxHeartbeats 4000000 in
set_option maxRecDepth 100000 in
theorem w_X12_publish_J184 {G : Gl} {ρ0 : Nat → Nat} {M0 MF : Mem} {r : Int32} (l0 : Nat) (l1 : Int32) (l2 : Int32) (l3 : Int32) (l8 : Int32) (M : Mem) (h : f_X12_publish_J184 l0 l1 l2 l3 l8 M = some (r, MF)) : V G (RX12, cX12_publish, (some .int), 6, 160, 9, "publish", []) (ρ0, M0, cvI r, MF) 184 [(0, .ref l0), (1, .int l1), (2, .int l2), (3, .int l3), (8, .int l8)] [] M := by
  unfold f_X12_publish_J184 at h
  refine v_iload_n dX12_publish_184 rfl 2 rfl ?_
  refine v_if_le (tgt := 195) dX12_publish_185 (by decide) (fun c2 => ?_) (fun c2 => ?_)
  · replace h := ifP c2 h
    refine v_iload dX12_publish_195 4 rfl ?_
    cases h
    exact v_ireturn dX12_publish_197
  · replace h := ifN c2 h
    refine v_aload_n dX12_publish_188 rfl 0 rfl ?_
    refine v_iload_n dX12_publish_189 rfl 1 rfl ?_
    refine v_iload_n dX12_publish_190 rfl 2 rfl ?_
    refine v_iload_n dX12_publish_191 rfl 3 rfl ?_
    obtain ⟨M1, e, h⟩ := bind_some h
    refine ca_X12_123 e dX12_publish_192 (Nat.le_of_ble_eq_true rfl) (by decide) ?_
    refine v_iload dX12_publish_195 4 rfl ?_
    cases h
    exact v_ireturn dX12_publish_197
set_option maxHeartbeats 4000000 in
set_option maxRecDepth 100000 in
theorem w_X12_publish_J171 {G : Gl} {ρ0 : Nat → Nat} {M0 MF : Mem} {r : Int32} (l0 : Nat) (l1 : Int32) (l2 : Int32) (l3 : Int32) (l6 : Int32) (l8 : Int32) (M : Mem) (h : f_X12_publish_J171 l0 l1 l2 l3 l6 l8 M = some (r, MF)) : V G (RX12, cX12_publish, (some .int), 6, 160, 9, "publish", []) (ρ0, M0, cvI r, MF) 171 [(0, .ref l0), (1, .int l1), (2, .int l2), (3, .int l3), (6, .int l6), (8, .int l8)] [] M := by
  unfold f_X12_publish_J171 at h
  refine v_iload_n dX12_publish_171 rfl 2 rfl ?_
  refine v_iconst (v := 2) dX12_publish_172 ci_2 ?_
  refine v_icmp_ne (tgt := 184) dX12_publish_173 (by decide) (fun c3 => ?_) (fun c3 => ?_)
  · replace h := ifN c3 h
    refine v_sub [0, 1, 2, 3, 5] rfl ?_
    exact w_X12_publish_J184 l0 l1 l2 l3 l8 M h
  · replace h := ifP c3 h
    refine v_aload_n dX12_publish_176 rfl 0 rfl ?_
    obtain ⟨v1, e, h⟩ := bind_some h
    refine gt_X12_9 e dX12_publish_177 ?_
    refine v_iload dX12_publish_180 4 rfl ?_
    refine v_iconst (v := 1) dX12_publish_182 ci_1 ?_
    obtain ⟨M2, e, h⟩ := bind_some h
    refine v_iastore dX12_publish_183 e ?_
    refine v_sub [0, 1, 2, 3, 5] rfl ?_
    exact w_X12_publish_J184 l0 l1 l2 l3 l8 M2 h
set_option maxHeartbeats 4000000 in
set_option maxRecDepth 100000 in
theorem w_X12_publish_J122 {G : Gl} {ρ0 : Nat → Nat} {M0 MF : Mem} {r : Int32} (l0 : Nat) (l1 : Int32) (l2 : Int32) (l3 : Int32) (l4 : Int32) (l5 : Int32) (l6 : Int32) (s0 : Int32) (M : Mem) (h : f_X12_publish_J122 l0 l1 l2 l3 l4 l5 l6 s0 M = some (r, MF)) : V G (RX12, cX12_publish, (some .int), 6, 160, 9, "publish", []) (ρ0, M0, cvI r, MF) 122 [(0, .ref l0), (1, .int l1), (2, .int l2), (3, .int l3), (4, .int l4), (5, .int l5), (6, .int l6)] [.int s0] M := by
  unfold f_X12_publish_J122 at h
  refine v_istore (ls' := [(7, .int s0), (0, .ref l0), (1, .int l1), (2, .int l2), (3, .int l3), (4, .int l4), (5, .int l5), (6, .int l6)]) dX12_publish_122 (by decide) rfl ?_
  refine v_iconst (v := 0) dX12_publish_124 ci_0 ?_
  refine v_istore (ls' := [(8, .int (0 : Int32)), (7, .int s0), (0, .ref l0), (1, .int l1), (2, .int l2), (3, .int l3), (4, .int l4), (5, .int l5), (6, .int l6)]) dX12_publish_125 (by decide) rfl ?_
  refine v_iload dX12_publish_127 1 rfl ?_
  refine v_if_eq (tgt := 146) dX12_publish_129 (by decide) (fun c6 => ?_) (fun c6 => ?_)
  · replace h := ifP c6 h
    refine v_aload_n dX12_publish_146 rfl 2 rfl ?_
    obtain ⟨v1, e, h⟩ := bind_some h
    refine gt_X12_37 e dX12_publish_147 ?_
    refine v_iconst (v := 0) dX12_publish_150 ci_0 ?_
    refine v_aload_n dX12_publish_151 rfl 2 rfl ?_
    obtain ⟨v2, e, h⟩ := bind_some h
    refine gt_X12_40 e dX12_publish_152 ?_
    refine v_iconst (v := 0) dX12_publish_155 ci_0 ?_
    obtain ⟨M3, e, h⟩ := bind_some h
    refine ca_X12_97 e dX12_publish_156 (Nat.le_of_ble_eq_true rfl) (by decide) ?_
    refine v_aload_n dX12_publish_159 rfl 2 rfl ?_
    refine v_iload_n dX12_publish_160 rfl 3 rfl ?_
    refine v_iload_n dX12_publish_161 rfl 4 rfl ?_
    refine v_iload dX12_publish_162 6 rfl ?_
    refine v_iload dX12_publish_164 7 rfl ?_
    obtain ⟨v5, M4, e, h⟩ := bindP_some h
    refine ca_X12_187 e dX12_publish_166 (Nat.le_of_ble_eq_true rfl) (by decide) ?_
    refine v_istore (ls' := [(8, .int v5), (7, .int s0), (0, .ref l0), (1, .int l1), (2, .int l2), (3, .int l3), (4, .int l4), (5, .int l5), (6, .int l6)]) dX12_publish_169 (by decide) rfl ?_
    refine v_sub [2, 3, 4, 5, 8, 0] rfl ?_
    exact w_X12_publish_J171 l0 l1 l2 l3 l6 v5 M4 h
  · replace h := ifN c6 h
    refine v_aload_n dX12_publish_132 rfl 2 rfl ?_
    obtain ⟨v1, e, h⟩ := bind_some h
    refine gt_X12_9 e dX12_publish_133 ?_
    refine v_bipush (v := 8) dX12_publish_136 cb_8 ?_
    refine v_dup2 dX12_publish_138 rfl rfl ?_
    obtain ⟨v2, e, h⟩ := bind_some h
    refine v_iaload dX12_publish_139 e ?_
    refine v_iconst (v := 1) dX12_publish_140 ci_1 ?_
    refine v_iadd dX12_publish_141 ?_
    obtain ⟨M3, e, h⟩ := bind_some h
    refine v_iastore dX12_publish_142 e ?_
    refine v_goto (tgt := 171) dX12_publish_143 (by decide) ?_
    refine v_sub [2, 3, 4, 5, 8, 0] rfl ?_
    exact w_X12_publish_J171 l0 l1 l2 l3 l6 (0 : Int32) M3 h
theorem w_X12_publish_J121 {G : Gl} {ρ0 : Nat → Nat} {M0 MF : Mem} {r : Int32} (l0 : Nat) (l1 : Int32) (l2 : Int32) (l3 : Int32) (l4 : Int32) (l5 : Int32) (l6 : Int32) (M : Mem) (h : f_X12_publish_J121 l0 l1 l2 l3 l4 l5 l6 M = some (r, MF)) : V G (RX12, cX12_publish, (some .int), 6, 160, 9, "publish", []) (ρ0, M0, cvI r, MF) 121 [(0, .ref l0), (1, .int l1), (2, .int l2), (3, .int l3), (4, .int l4), (5, .int l5), (6, .int l6)] [] M := by
  unfold f_X12_publish_J121 at h
  refine v_iconst (v := 0) dX12_publish_121 ci_0 ?_
  exact w_X12_publish_J122 l0 l1 l2 l3 l4 l5 l6 (0 : Int32) M h
set_option maxHeartbeats 4000000 in
set_option maxRecDepth 100000 in
theorem w_X12_publish_J98 {G : Gl} {ρ0 : Nat → Nat} {M0 MF : Mem} {r : Int32} (l0 : Nat) (l1 : Int32) (l2 : Int32) (l3 : Int32) (l4 : Int32) (l5 : Int32) (s0 : Int32) (s1 : Int32) (M : Mem) (h : f_X12_publish_J98 l0 l1 l2 l3 l4 l5 s0 s1 M = some (r, MF)) : V G (RX12, cX12_publish, (some .int), 6, 160, 9, "publish", []) (ρ0, M0, cvI r, MF) 98 [(0, .ref l0), (1, .int l1), (2, .int l2), (3, .int l3), (4, .int l4), (5, .int l5)] [.int s0, .int s1] M := by
  unfold f_X12_publish_J98 at h
  refine v_iadd dX12_publish_98 ?_
  refine v_istore (ls' := [(6, .int (s1 + s0)), (0, .ref l0), (1, .int l1), (2, .int l2), (3, .int l3), (4, .int l4), (5, .int l5)]) dX12_publish_99 (by decide) rfl ?_
  refine v_iload_n dX12_publish_101 rfl 3 rfl ?_
  refine v_iconst (v := 2) dX12_publish_102 ci_2 ?_
  refine v_icmp_ne (tgt := 121) dX12_publish_103 (by decide) (fun c4 => ?_) (fun c4 => ?_)
  · replace h := ifN c4 h
    refine v_sub [1, 2, 3, 4, 5, 6, 0] rfl ?_
    exact w_X12_publish_J121 l0 l1 l2 l3 l4 l5 (s1 + s0) M h
  · replace h := ifP c4 h
    refine v_aload_n dX12_publish_106 rfl 1 rfl ?_
    obtain ⟨v1, e, h⟩ := bind_some h
    refine gt_X12_9 e dX12_publish_107 ?_
    refine v_iload dX12_publish_110 0 rfl ?_
    obtain ⟨v2, e, h⟩ := bind_some h
    refine v_iaload dX12_publish_112 e ?_
    refine v_iconst (v := 1) dX12_publish_113 ci_1 ?_
    refine v_icmp_ne (tgt := 121) dX12_publish_114 (by decide) (fun c3 => ?_) (fun c3 => ?_)
    · replace h := ifN c3 h
      refine v_sub [1, 2, 3, 4, 5, 6, 0] rfl ?_
      exact w_X12_publish_J121 l0 l1 l2 l3 l4 l5 (s1 + s0) M h
    · replace h := ifP c3 h
      refine v_iconst (v := 1) dX12_publish_117 ci_1 ?_
      refine v_goto (tgt := 122) dX12_publish_118 (by decide) ?_
      refine v_sub [1, 2, 3, 4, 5, 6, 0] rfl ?_
      exact w_X12_publish_J122 l0 l1 l2 l3 l4 l5 (s1 + s0) (1 : Int32) M h
set_option maxHeartbeats 4000000 in
set_option maxRecDepth 100000 in
theorem w_X12_publish_J49 {G : Gl} {ρ0 : Nat → Nat} {M0 MF : Mem} {r : Int32} (l0 : Nat) (l1 : Int32) (l2 : Int32) (l3 : Int32) (l4 : Int32) (l5 : Int32) (M : Mem) (h : f_X12_publish_J49 l0 l1 l2 l3 l4 l5 M = some (r, MF)) : V G (RX12, cX12_publish, (some .int), 6, 160, 9, "publish", []) (ρ0, M0, cvI r, MF) 49 [(0, .ref l0), (1, .int l1), (2, .int l2), (3, .int l3), (4, .int l4), (5, .int l5)] [] M := by
  unfold f_X12_publish_J49 at h
  refine v_iload dX12_publish_49 5 rfl ?_
  refine v_iconst (v := 0) dX12_publish_51 ci_0 ?_
  refine v_sipush (v := 9999) dX12_publish_52 cs_9999 ?_
  obtain ⟨v2, M1, e, h⟩ := bindP_some h
  refine ca_X12_55 e dX12_publish_55 (Nat.le_of_ble_eq_true rfl) (by decide) ?_
  refine v_if_ne (tgt := 67) dX12_publish_58 (by decide) (fun c8 => ?_) (fun c8 => ?_)
  · replace h := ifN c8 h
    refine v_aload_n dX12_publish_67 rfl 0 rfl ?_
    refine v_iload_n dX12_publish_68 rfl 1 rfl ?_
    obtain ⟨v4, M3, e, h⟩ := bindP_some h
    refine ca_X12_107 e dX12_publish_69 (Nat.le_of_ble_eq_true rfl) (by decide) ?_
    refine v_if_ne (tgt := 81) dX12_publish_72 (by decide) (fun c7 => ?_) (fun c7 => ?_)
    · replace h := ifN c7 h
      refine v_bipush (v := 104) dX12_publish_81 cb_104 ?_
      refine v_bipush (v := 51) dX12_publish_83 cb_51 ?_
      refine v_iload_n dX12_publish_85 rfl 1 rfl ?_
      refine v_imul dX12_publish_86 ?_
      refine v_iadd dX12_publish_87 ?_
      refine v_iload_n dX12_publish_88 rfl 2 rfl ?_
      refine v_iconst (v := 2) dX12_publish_89 ci_2 ?_
      refine v_icmp_ne (tgt := 97) dX12_publish_90 (by decide) (fun c5 => ?_) (fun c5 => ?_)
      · replace h := ifN c5 h
        refine v_iconst (v := 0) dX12_publish_97 ci_0 ?_
        exact w_X12_publish_J98 l0 l1 l2 l3 l4 l5 (0 : Int32) ((104 : Int32) + ((51 : Int32) * l1)) M3 h
      · replace h := ifP c5 h
        refine v_iload_n dX12_publish_93 rfl 3 rfl ?_
        refine v_goto (tgt := 98) dX12_publish_94 (by decide) ?_
        exact w_X12_publish_J98 l0 l1 l2 l3 l4 l5 l3 ((104 : Int32) + ((51 : Int32) * l1)) M3 h
    · replace h := ifP c7 h
      refine v_aload_n dX12_publish_75 rfl 0 rfl ?_
      refine v_iconst (v := 3) dX12_publish_76 ci_3 ?_
      obtain ⟨v6, M5, e, h⟩ := bindP_some h
      refine ca_X12_86 e dX12_publish_77 (Nat.le_of_ble_eq_true rfl) (by decide) ?_
      cases h
      exact v_ireturn dX12_publish_80
  · replace h := ifP c8 h
    refine v_sub [0] rfl ?_
    exact w_X12_publish_J61 l0 M1 h
set_option maxHeartbeats 4000000 in
set_option maxRecDepth 100000 in
theorem w_X12_publish {G : Gl} {ρ0 : Nat → Nat} {M0 MF : Mem} {r : Int32} (l0 : Nat) (l1 : Int32) (l2 : Int32) (l3 : Int32) (l4 : Int32) (l5 : Int32) (M : Mem) (h : f_X12_publish l0 l1 l2 l3 l4 l5 M = some (r, MF)) : V G (RX12, cX12_publish, (some .int), 6, 160, 9, "publish", []) (ρ0, M0, cvI r, MF) 0 [(0, .ref l0), (1, .int l1), (2, .int l2), (3, .int l3), (4, .int l4), (5, .int l5)] [] M := by
  unfold f_X12_publish at h
  replace h := (ifS h).2
  refine v_aload_n dX12_publish_0 rfl 0 rfl ?_
  refine v_iconst (v := 0) dX12_publish_1 ci_0 ?_
  obtain ⟨M1, e, h⟩ := bind_some h
  refine pt_X12_52 e dX12_publish_2 ?_
  refine v_iload_n dX12_publish_5 rfl 1 rfl ?_
  obtain ⟨v3, M2, e, h⟩ := bindP_some h
  refine ca_X12_191 e dX12_publish_6 (Nat.le_of_ble_eq_true rfl) (by decide) ?_
  refine v_if_ne (tgt := 18) dX12_publish_9 (by decide) (fun c14 => ?_) (fun c14 => ?_)
  · replace h := ifN c14 h
    refine v_aload_n dX12_publish_18 rfl 0 rfl ?_
    refine v_iconst (v := 0) dX12_publish_19 ci_0 ?_
    obtain ⟨v5, M4, e, h⟩ := bindP_some h
    refine ca_X12_203 e dX12_publish_20 (Nat.le_of_ble_eq_true rfl) (by decide) ?_
    refine v_if_eq (tgt := 61) dX12_publish_23 (by decide) (fun c13 => ?_) (fun c13 => ?_)
    · replace h := ifP c13 h
      refine v_sub [0] rfl ?_
      exact w_X12_publish_J61 l0 M4 h
    · replace h := ifN c13 h
      refine v_iload_n dX12_publish_26 rfl 2 rfl ?_
      refine v_iconst (v := 0) dX12_publish_27 ci_0 ?_
      refine v_iconst (v := 2) dX12_publish_28 ci_2 ?_
      obtain ⟨v7, M6, e, h⟩ := bindP_some h
      refine ca_X12_55 e dX12_publish_29 (Nat.le_of_ble_eq_true rfl) (by decide) ?_
      refine v_if_eq (tgt := 61) dX12_publish_32 (by decide) (fun c12 => ?_) (fun c12 => ?_)
      · replace h := ifP c12 h
        refine v_sub [0] rfl ?_
        exact w_X12_publish_J61 l0 M6 h
      · replace h := ifN c12 h
        refine v_iload_n dX12_publish_35 rfl 2 rfl ?_
        refine v_if_le (tgt := 49) dX12_publish_36 (by decide) (fun c11 => ?_) (fun c11 => ?_)
        · replace h := ifP c11 h
          exact w_X12_publish_J49 l0 l1 l2 l3 l4 l5 M6 h
        · replace h := ifN c11 h
          refine v_iload_n dX12_publish_39 rfl 3 rfl ?_
          refine v_iconst (v := 1) dX12_publish_40 ci_1 ?_
          refine v_bipush (v := 50) dX12_publish_41 cb_50 ?_
          obtain ⟨v9, M8, e, h⟩ := bindP_some h
          refine ca_X12_55 e dX12_publish_43 (Nat.le_of_ble_eq_true rfl) (by decide) ?_
          refine v_if_eq (tgt := 61) dX12_publish_46 (by decide) (fun c10 => ?_) (fun c10 => ?_)
          · replace h := ifP c10 h
            refine v_sub [0] rfl ?_
            exact w_X12_publish_J61 l0 M8 h
          · replace h := ifN c10 h
            exact w_X12_publish_J49 l0 l1 l2 l3 l4 l5 M8 h
  · replace h := ifP c14 h
    refine v_aload_n dX12_publish_12 rfl 0 rfl ?_
    refine v_iconst (v := 1) dX12_publish_13 ci_1 ?_
    obtain ⟨v5, M4, e, h⟩ := bindP_some h
    refine ca_X12_200 e dX12_publish_14 (Nat.le_of_ble_eq_true rfl) (by decide) ?_
    cases h
    exact v_ireturn dX12_publish_17
theorem kd_X12_publish {l0 : Nat} {l1 : Int32} {l2 : Int32} {l3 : Int32} {l4 : Int32} {l5 : Int32} {M : Mem} {z : _} (h : f_X12_publish l0 l1 l2 l3 l4 l5 M = some z) : (mK M l0).1 = 12 := by
  unfold f_X12_publish at h
  exact (ifS h).1
theorem k_X12_publish {G : Gl} {l0 : Nat} {l1 : Int32} {l2 : Int32} {l3 : Int32} {l4 : Int32} {l5 : Int32} {M MF : Mem} {r : Int32} (h : f_X12_publish l0 l1 l2 l3 l4 l5 M = some (r, MF)) : CtrP G yX12_publish cX12_publish 9 (some .int) 6 160 [.ref l0, .int l1, .int l2, .int l3, .int l4, .int l5] M (cvI r) MF :=
  ctr_of (by decide +kernel) (Nat.le_of_ble_eq_true rfl) (fun ρ => w_X12_publish l0 l1 l2 l3 l4 l5 M h)
set_option maxHeartbeats 4000000 in
set_option maxRecDepth 100000 in
theorem w_X12_release {G : Gl} {ρ0 : Nat → Nat} {M0 MF : Mem} {r : Int32} (l0 : Nat) (l1 : Int32) (l2 : Int32) (M : Mem) (h : f_X12_release l0 l1 l2 M = some (r, MF)) : V G (RX12, cX12_release, (some .int), 4, 104, 5, "release", []) (ρ0, M0, cvI r, MF) 0 [(0, .ref l0), (1, .int l1), (2, .int l2)] [] M := by
  unfold f_X12_release at h
  replace h := (ifS h).2
  refine v_aload_n dX12_release_0 rfl 0 rfl ?_
  refine v_iconst (v := 0) dX12_release_1 ci_0 ?_
  obtain ⟨M1, e, h⟩ := bind_some h
  refine pt_X12_52 e dX12_release_2 ?_
  refine v_iload_n dX12_release_5 rfl 1 rfl ?_
  obtain ⟨v3, M2, e, h⟩ := bindP_some h
  refine ca_X12_191 e dX12_release_6 (Nat.le_of_ble_eq_true rfl) (by decide) ?_
  refine v_if_ne (tgt := 18) dX12_release_9 (by decide) (fun c15 => ?_) (fun c15 => ?_)
  · replace h := ifN c15 h
    refine v_iload_n dX12_release_18 rfl 2 rfl ?_
    refine v_iconst (v := 1) dX12_release_19 ci_1 ?_
    refine v_bipush (v := 50) dX12_release_20 cb_50 ?_
    obtain ⟨v5, M4, e, h⟩ := bindP_some h
    refine ca_X12_55 e dX12_release_22 (Nat.le_of_ble_eq_true rfl) (by decide) ?_
    refine v_if_ne (tgt := 34) dX12_release_25 (by decide) (fun c14 => ?_) (fun c14 => ?_)
    · replace h := ifN c14 h
      refine v_aload_n dX12_release_34 rfl 0 rfl ?_
      refine v_iload_n dX12_release_35 rfl 1 rfl ?_
      obtain ⟨v7, M6, e, h⟩ := bindP_some h
      refine ca_X12_107 e dX12_release_36 (Nat.le_of_ble_eq_true rfl) (by decide) ?_
      refine v_if_ne (tgt := 48) dX12_release_39 (by decide) (fun c13 => ?_) (fun c13 => ?_)
      · replace h := ifN c13 h
        refine v_bipush (v := 104) dX12_release_48 cb_104 ?_
        refine v_bipush (v := 51) dX12_release_50 cb_51 ?_
        refine v_iload_n dX12_release_52 rfl 1 rfl ?_
        refine v_imul dX12_release_53 ?_
        refine v_iadd dX12_release_54 ?_
        refine v_iload_n dX12_release_55 rfl 2 rfl ?_
        refine v_iadd dX12_release_56 ?_
        refine v_istore_n (ls' := [(3, .int (((104 : Int32) + ((51 : Int32) * l1)) + l2)), (0, .ref l0), (1, .int l1), (2, .int l2)]) dX12_release_57 rfl (by decide) rfl ?_
        refine v_aload_n dX12_release_58 rfl 1 rfl ?_
        obtain ⟨v8, e, h⟩ := bind_some h
        refine gt_X12_9 e dX12_release_59 ?_
        refine v_iload_n dX12_release_62 rfl 0 rfl ?_
        obtain ⟨v9, e, h⟩ := bind_some h
        refine v_iaload dX12_release_63 e ?_
        refine v_istore (ls' := [(4, .int v9), (3, .int (((104 : Int32) + ((51 : Int32) * l1)) + l2)), (0, .ref l0), (1, .int l1), (2, .int l2)]) dX12_release_64 (by decide) rfl ?_
        refine v_aload_n dX12_release_66 rfl 2 rfl ?_
        obtain ⟨v10, e, h⟩ := bind_some h
        refine gt_X12_9 e dX12_release_67 ?_
        refine v_iload_n dX12_release_70 rfl 1 rfl ?_
        refine v_iconst (v := 0) dX12_release_71 ci_0 ?_
        obtain ⟨M11, e, h⟩ := bind_some h
        refine v_iastore dX12_release_72 e ?_
        refine v_aload_n dX12_release_73 rfl 2 rfl ?_
        refine v_iload_n dX12_release_74 rfl 3 rfl ?_
        refine v_iconst (v := 4) dX12_release_75 ci_4 ?_
        refine v_iload_n dX12_release_76 rfl 4 rfl ?_
        obtain ⟨M12, e, h⟩ := bind_some h
        refine ca_X12_123 e dX12_release_77 (Nat.le_of_ble_eq_true rfl) (by decide) ?_
        refine v_iload dX12_release_80 0 rfl ?_
        cases h
        exact v_ireturn dX12_release_82
      · replace h := ifP c13 h
        refine v_aload_n dX12_release_42 rfl 0 rfl ?_
        refine v_iconst (v := 3) dX12_release_43 ci_3 ?_
        obtain ⟨v9, M8, e, h⟩ := bindP_some h
        refine ca_X12_86 e dX12_release_44 (Nat.le_of_ble_eq_true rfl) (by decide) ?_
        cases h
        exact v_ireturn dX12_release_47
    · replace h := ifP c14 h
      refine v_aload_n dX12_release_28 rfl 0 rfl ?_
      refine v_iconst (v := 2) dX12_release_29 ci_2 ?_
      obtain ⟨v7, M6, e, h⟩ := bindP_some h
      refine ca_X12_86 e dX12_release_30 (Nat.le_of_ble_eq_true rfl) (by decide) ?_
      cases h
      exact v_ireturn dX12_release_33
  · replace h := ifP c15 h
    refine v_aload_n dX12_release_12 rfl 0 rfl ?_
    refine v_iconst (v := 1) dX12_release_13 ci_1 ?_
    obtain ⟨v5, M4, e, h⟩ := bindP_some h
    refine ca_X12_86 e dX12_release_14 (Nat.le_of_ble_eq_true rfl) (by decide) ?_
    cases h
    exact v_ireturn dX12_release_17
theorem kd_X12_release {l0 : Nat} {l1 : Int32} {l2 : Int32} {M : Mem} {z : _} (h : f_X12_release l0 l1 l2 M = some z) : (mK M l0).1 = 12 := by
  unfold f_X12_release at h
  exact (ifS h).1
theorem k_X12_release {G : Gl} {l0 : Nat} {l1 : Int32} {l2 : Int32} {M MF : Mem} {r : Int32} (h : f_X12_release l0 l1 l2 M = some (r, MF)) : CtrP G yX12_release cX12_release 5 (some .int) 4 104 [.ref l0, .int l1, .int l2] M (cvI r) MF :=
  ctr_of (by decide +kernel) (Nat.le_of_ble_eq_true rfl) (fun ρ => w_X12_release l0 l1 l2 M h)
set_option maxHeartbeats 4000000 in
set_option maxRecDepth 100000 in
theorem w_X12_flightOf_L5 {G : Gl} {ρ0 : Nat → Nat} {M0 MF : Mem} {r : Int32} : ∀ (n : Nat) (l0 : Nat) (l1 : Int32) (l2 : Int32) (l3 : Int32) (l4 : Int32) (M : Mem), f_X12_flightOf_L5 n l0 l1 l2 l3 l4 M = some (r, MF) → V G (RX12, cX12_flightOf, (some .int), 0, 0, 5, "flightOf", []) (ρ0, M0, cvI r, MF) 5 [(0, .ref l0), (1, .int l1), (2, .int l2), (3, .int l3), (4, .int l4)] [] M := by
  intro n
  induction n with
  | zero => intro l0 l1 l2 l3 l4 M h; cases h
  | succ n ih =>
    intro l0 l1 l2 l3 l4 M h
    rw [f_X12_flightOf_L5] at h
    refine v_iload dX12_flightOf_5 4 rfl ?_
    refine v_aload_n dX12_flightOf_7 rfl 0 rfl ?_
    obtain ⟨v1, e, h⟩ := bind_some h
    refine gt_X12_9 e dX12_flightOf_8 ?_
    refine v_bipush (v := 56) dX12_flightOf_11 cb_56 ?_
    refine v_iload_n dX12_flightOf_13 rfl 1 rfl ?_
    refine v_iadd dX12_flightOf_14 ?_
    obtain ⟨v2, e, h⟩ := bind_some h
    refine v_iaload dX12_flightOf_15 e ?_
    refine v_icmp_ge (tgt := 51) dX12_flightOf_16 (by decide) (fun c6 => ?_) (fun c6 => ?_)
    · replace h := ifP c6 h
      refine v_iload_n dX12_flightOf_51 rfl 3 rfl ?_
      cases h
      exact v_ireturn dX12_flightOf_52
    · replace h := ifN c6 h
      refine v_aload_n dX12_flightOf_19 rfl 0 rfl ?_
      obtain ⟨v3, e, h⟩ := bind_some h
      refine gt_X12_9 e dX12_flightOf_20 ?_
      refine v_sipush (v := 554) dX12_flightOf_23 cs_554 ?_
      refine v_iconst (v := 5) dX12_flightOf_26 ci_5 ?_
      refine v_iload_n dX12_flightOf_27 rfl 1 rfl ?_
      refine v_imul dX12_flightOf_28 ?_
      refine v_iadd dX12_flightOf_29 ?_
      refine v_iload dX12_flightOf_30 4 rfl ?_
      refine v_iadd dX12_flightOf_32 ?_
      obtain ⟨v4, e, h⟩ := bind_some h
      refine v_iaload dX12_flightOf_33 e ?_
      refine v_iload_n dX12_flightOf_34 rfl 2 rfl ?_
      refine v_icmp_ne (tgt := 43) dX12_flightOf_35 (by decide) (fun c5 => ?_) (fun c5 => ?_)
      · replace h := ifN c5 h
        refine v_iload_n dX12_flightOf_43 rfl 3 rfl ?_
        refine v_istore_n (ls' := [(3, .int l3), (0, .ref l0), (1, .int l1), (2, .int l2), (4, .int l4)]) dX12_flightOf_44 rfl (by decide) rfl ?_
        refine v_iinc (ls' := [(4, .int (l4 + 1)), (3, .int l3), (0, .ref l0), (1, .int l1), (2, .int l2)]) dX12_flightOf_45 4 rfl (v := 1) ci_1 (by decide) rfl ?_
        refine v_goto (tgt := 5) dX12_flightOf_48 (by decide) ?_
        refine v_sub [2, 3, 4, 1, 0] rfl ?_
        exact ih l0 l1 l2 l3 (l4 + 1) M h
      · replace h := ifP c5 h
        refine v_iload dX12_flightOf_38 4 rfl ?_
        refine v_goto (tgt := 44) dX12_flightOf_40 (by decide) ?_
        refine v_istore_n (ls' := [(3, .int l4), (0, .ref l0), (1, .int l1), (2, .int l2), (4, .int l4)]) dX12_flightOf_44 rfl (by decide) rfl ?_
        refine v_iinc (ls' := [(4, .int (l4 + 1)), (3, .int l4), (0, .ref l0), (1, .int l1), (2, .int l2)]) dX12_flightOf_45 4 rfl (v := 1) ci_1 (by decide) rfl ?_
        refine v_goto (tgt := 5) dX12_flightOf_48 (by decide) ?_
        refine v_sub [2, 3, 4, 1, 0] rfl ?_
        exact ih l0 l1 l2 l4 (l4 + 1) M h
set_option maxHeartbeats 4000000 in
set_option maxRecDepth 100000 in
theorem w_X12_flightOf {G : Gl} {ρ0 : Nat → Nat} {M0 MF : Mem} {r : Int32} (l0 : Nat) (l1 : Int32) (l2 : Int32) (M : Mem) (h : f_X12_flightOf l0 l1 l2 M = some (r, MF)) : V G (RX12, cX12_flightOf, (some .int), 0, 0, 5, "flightOf", []) (ρ0, M0, cvI r, MF) 0 [(0, .ref l0), (1, .int l1), (2, .int l2)] [] M := by
  unfold f_X12_flightOf at h
  replace h := (ifS h).2
  refine v_iconst (v := (-1)) dX12_flightOf_0 ci_m1 ?_
  refine v_istore_n (ls' := [(3, .int (-1 : Int32)), (0, .ref l0), (1, .int l1), (2, .int l2)]) dX12_flightOf_1 rfl (by decide) rfl ?_
  refine v_iconst (v := 0) dX12_flightOf_2 ci_0 ?_
  refine v_istore (ls' := [(4, .int (0 : Int32)), (3, .int (-1 : Int32)), (0, .ref l0), (1, .int l1), (2, .int l2)]) dX12_flightOf_3 (by decide) rfl ?_
  refine v_sub [2, 3, 4, 1, 0] rfl ?_
  exact w_X12_flightOf_L5 FU l0 l1 l2 (-1 : Int32) (0 : Int32) M h
theorem kd_X12_flightOf {l0 : Nat} {l1 : Int32} {l2 : Int32} {M : Mem} {z : _} (h : f_X12_flightOf l0 l1 l2 M = some z) : (mK M l0).1 = 12 := by
  unfold f_X12_flightOf at h
  exact (ifS h).1
theorem k_X12_flightOf {G : Gl} {l0 : Nat} {l1 : Int32} {l2 : Int32} {M MF : Mem} {r : Int32} (h : f_X12_flightOf l0 l1 l2 M = some (r, MF)) : CtrP G yX12_flightOf cX12_flightOf 5 (some .int) 0 0 [.ref l0, .int l1, .int l2] M (cvI r) MF :=
  ctr_of (by decide +kernel) (Nat.le_of_ble_eq_true rfl) (fun ρ => w_X12_flightOf l0 l1 l2 M h)
theorem wd_X12_238 : wdV RX12 238 RX12 yX12_flightOf cX12_flightOf 5 (some .int) 2 := ⟨gwi 1508 (by decide +kernel) (by decide +kernel), gwi 1510 (by decide +kernel) (by decide +kernel), gwi 68 (by decide +kernel) (by decide +kernel), nw_X12, gwi 1511 (by decide +kernel) (by decide +kernel), ⟨rfl, by decide +kernel, by decide +kernel, by decide +kernel⟩⟩
theorem ca_X12_238 {G : Gl} {B : Bx} {cc : ByteArray} {ret : Option FieldType} {fr lo nL : Nat} {mn : String} {hh : List (Nat × Nat × Nat × Nat)} {pc : Nat} {ls : List (Nat × Value)} {st : List Value} {M M1 : Mem} {l0 : Nat} {l1 : Int32} {l2 : Int32} {x : Int32} (e : f_X12_flightOf l0 l1 l2 M = some (x, M1)) (hd : decode cc pc = .ok (.invokevirtual 238, 3)) (hcat : (st.map fun v => v.category).sum ≤ 8) (hR : 0 + 1 ≤ fr ∧ 8 + (5 + 11) + 0 ≤ lo) (k : V G (RX12, cc, ret, fr, lo, nL, mn, hh) B (pc + 3) ls (.int x :: st) M1) : V G (RX12, cc, ret, fr, lo, nL, mn, hh) B pc ls (.int l2 :: .int l1 :: .ref l0 :: st) M := v_callVi (As := [.int l1, .int l2]) (k_X12_flightOf e) wd_X12_238 clX12 (kd_X12_flightOf e) hd rfl rfl hcat hR k
set_option maxHeartbeats 4000000 in
set_option maxRecDepth 100000 in
theorem w_X12_answer_J43 {G : Gl} {ρ0 : Nat → Nat} {M0 MF : Mem} {r : Int32} (l0 : Nat) (M : Mem) (h : f_X12_answer_J43 l0 M = some (r, MF)) : V G (RX12, cX12_answer, (some .int), 6, 154, 7, "answer", []) (ρ0, M0, cvI r, MF) 43 [(0, .ref l0)] [] M := by
  unfold f_X12_answer_J43 at h
  refine v_aload_n dX12_answer_43 rfl 0 rfl ?_
  refine v_iconst (v := 2) dX12_answer_44 ci_2 ?_
  obtain ⟨v2, M1, e, h⟩ := bindP_some h
  refine ca_X12_86 e dX12_answer_45 (Nat.le_of_ble_eq_true rfl) (by decide) ?_
  cases h
  exact v_ireturn dX12_answer_48
set_option maxHeartbeats 4000000 in
set_option maxRecDepth 100000 in
theorem w_X12_answer_J163 {G : Gl} {ρ0 : Nat → Nat} {M0 MF : Mem} {r : Int32} (l0 : Nat) (l1 : Int32) (l2 : Int32) (l3 : Int32) (l4 : Int32) (l5 : Int32) (s0 : Int32) (M : Mem) (h : f_X12_answer_J163 l0 l1 l2 l3 l4 l5 s0 M = some (r, MF)) : V G (RX12, cX12_answer, (some .int), 6, 154, 7, "answer", []) (ρ0, M0, cvI r, MF) 163 [(0, .ref l0), (1, .int l1), (2, .int l2), (3, .int l3), (4, .int l4), (5, .int l5)] [.int s0] M := by
  unfold f_X12_answer_J163 at h
  refine v_istore (ls' := [(6, .int s0), (0, .ref l0), (1, .int l1), (2, .int l2), (3, .int l3), (4, .int l4), (5, .int l5)]) dX12_answer_163 (by decide) rfl ?_
  refine v_iload dX12_answer_165 0 rfl ?_
  refine v_if_ne (tgt := 172) dX12_answer_167 (by decide) (fun c9 => ?_) (fun c9 => ?_)
  · replace h := ifN c9 h
    refine v_iload_n dX12_answer_172 rfl 3 rfl ?_
    refine v_iconst (v := 2) dX12_answer_173 ci_2 ?_
    refine v_icmp_ne (tgt := 216) dX12_answer_174 (by decide) (fun c8 => ?_) (fun c8 => ?_)
    · replace h := ifN c8 h
      refine v_aload_n dX12_answer_216 rfl 1 rfl ?_
      refine v_iload_n dX12_answer_217 rfl 2 rfl ?_
      refine v_iload dX12_answer_218 5 rfl ?_
      obtain ⟨M1, e, h⟩ := bind_some h
      refine ca_X12_241 e dX12_answer_220 (Nat.le_of_ble_eq_true rfl) (by decide) ?_
      refine v_iconst (v := 1) dX12_answer_223 ci_1 ?_
      cases h
      exact v_ireturn dX12_answer_224
    · replace h := ifP c8 h
      refine v_aload_n dX12_answer_177 rfl 1 rfl ?_
      obtain ⟨v1, e, h⟩ := bind_some h
      refine gt_X12_9 e dX12_answer_178 ?_
      refine v_sipush (v := 674) dX12_answer_181 cs_674 ?_
      refine v_iload dX12_answer_184 6 rfl ?_
      refine v_iadd dX12_answer_186 ?_
      refine v_iconst (v := 4) dX12_answer_187 ci_4 ?_
      obtain ⟨M2, e, h⟩ := bind_some h
      refine v_iastore dX12_answer_188 e ?_
      refine v_aload_n dX12_answer_189 rfl 1 rfl ?_
      obtain ⟨v3, e, h⟩ := bind_some h
      refine gt_X12_9 e dX12_answer_190 ?_
      refine v_sipush (v := 704) dX12_answer_193 cs_704 ?_
      refine v_iload dX12_answer_196 6 rfl ?_
      refine v_iadd dX12_answer_198 ?_
      refine v_aload_n dX12_answer_199 rfl 1 rfl ?_
      obtain ⟨v4, e, h⟩ := bind_some h
      refine gt_X12_9 e dX12_answer_200 ?_
      refine v_iconst (v := 0) dX12_answer_203 ci_0 ?_
      obtain ⟨v5, e, h⟩ := bind_some h
      refine v_iaload dX12_answer_204 e ?_
      obtain ⟨M6, e, h⟩ := bind_some h
      refine v_iastore dX12_answer_205 e ?_
      refine v_aload_n dX12_answer_206 rfl 1 rfl ?_
      refine v_iload_n dX12_answer_207 rfl 2 rfl ?_
      refine v_iconst (v := 3) dX12_answer_208 ci_3 ?_
      refine v_iload_n dX12_answer_209 rfl 4 rfl ?_
      obtain ⟨M7, e, h⟩ := bind_some h
      refine ca_X12_123 e dX12_answer_210 (Nat.le_of_ble_eq_true rfl) (by decide) ?_
      refine v_goto (tgt := 223) dX12_answer_213 (by decide) ?_
      refine v_iconst (v := 1) dX12_answer_223 ci_1 ?_
      cases h
      exact v_ireturn dX12_answer_224
  · replace h := ifP c9 h
    refine v_iconst (v := 0) dX12_answer_170 ci_0 ?_
    cases h
    exact v_ireturn dX12_answer_171
set_option maxHeartbeats 4000000 in
set_option maxRecDepth 100000 in
theorem w_X12_answer_J33 {G : Gl} {ρ0 : Nat → Nat} {M0 MF : Mem} {r : Int32} (l0 : Nat) (l1 : Int32) (l2 : Int32) (l3 : Int32) (M : Mem) (h : f_X12_answer_J33 l0 l1 l2 l3 M = some (r, MF)) : V G (RX12, cX12_answer, (some .int), 6, 154, 7, "answer", []) (ρ0, M0, cvI r, MF) 33 [(0, .ref l0), (1, .int l1), (2, .int l2), (3, .int l3)] [] M := by
  unfold f_X12_answer_J33 at h
  refine v_iload_n dX12_answer_33 rfl 3 rfl ?_
  refine v_iconst (v := 1) dX12_answer_34 ci_1 ?_
  refine v_bipush (v := 50) dX12_answer_35 cb_50 ?_
  obtain ⟨v2, M1, e, h⟩ := bindP_some h
  refine ca_X12_55 e dX12_answer_37 (Nat.le_of_ble_eq_true rfl) (by decide) ?_
  refine v_if_ne (tgt := 49) dX12_answer_40 (by decide) (fun c14 => ?_) (fun c14 => ?_)
  · replace h := ifN c14 h
    refine v_aload_n dX12_answer_49 rfl 0 rfl ?_
    refine v_iload_n dX12_answer_50 rfl 1 rfl ?_
    obtain ⟨v4, M3, e, h⟩ := bindP_some h
    refine ca_X12_107 e dX12_answer_51 (Nat.le_of_ble_eq_true rfl) (by decide) ?_
    refine v_if_ne (tgt := 63) dX12_answer_54 (by decide) (fun c13 => ?_) (fun c13 => ?_)
    · replace h := ifN c13 h
      refine v_aload_n dX12_answer_63 rfl 0 rfl ?_
      refine v_iload_n dX12_answer_64 rfl 1 rfl ?_
      refine v_iload_n dX12_answer_65 rfl 3 rfl ?_
      obtain ⟨v6, M5, e, h⟩ := bindP_some h
      refine ca_X12_238 e dX12_answer_66 (Nat.le_of_ble_eq_true rfl) (by decide) ?_
      refine v_istore (ls' := [(4, .int v6), (0, .ref l0), (1, .int l1), (2, .int l2), (3, .int l3)]) dX12_answer_69 (by decide) rfl ?_
      refine v_iload dX12_answer_71 0 rfl ?_
      refine v_iconst (v := (-1)) dX12_answer_73 ci_m1 ?_
      refine v_icmp_ne (tgt := 79) dX12_answer_74 (by decide) (fun c12 => ?_) (fun c12 => ?_)
      · replace h := ifN c12 h
        refine v_iconst (v := 5) dX12_answer_79 ci_5 ?_
        refine v_iload_n dX12_answer_80 rfl 2 rfl ?_
        refine v_imul dX12_answer_81 ?_
        refine v_iload dX12_answer_82 0 rfl ?_
        refine v_iadd dX12_answer_84 ?_
        refine v_istore (ls' := [(5, .int (((5 : Int32) * l1) + v6)), (4, .int v6), (0, .ref l0), (1, .int l1), (2, .int l2), (3, .int l3)]) dX12_answer_85 (by decide) rfl ?_
        refine v_iload_n dX12_answer_87 rfl 4 rfl ?_
        refine v_iconst (v := 1) dX12_answer_88 ci_1 ?_
        refine v_icmp_ne (tgt := 115) dX12_answer_89 (by decide) (fun c11 => ?_) (fun c11 => ?_)
        · replace h := ifN c11 h
          refine v_iload_n dX12_answer_115 rfl 4 rfl ?_
          refine v_iconst (v := 2) dX12_answer_116 ci_2 ?_
          refine v_icmp_ne (tgt := 143) dX12_answer_117 (by decide) (fun c10 => ?_) (fun c10 => ?_)
          · replace h := ifN c10 h
            refine v_aload_n dX12_answer_143 rfl 2 rfl ?_
            obtain ⟨v7, e, h⟩ := bind_some h
            refine gt_X12_9 e dX12_answer_144 ?_
            refine v_sipush (v := 674) dX12_answer_147 cs_674 ?_
            refine v_iload dX12_answer_150 0 rfl ?_
            refine v_iadd dX12_answer_152 ?_
            obtain ⟨v8, e, h⟩ := bind_some h
            refine v_iaload dX12_answer_153 e ?_
            refine v_iconst (v := 4) dX12_answer_154 ci_4 ?_
            refine v_icmp_ne (tgt := 162) dX12_answer_155 (by decide) (fun c9 => ?_) (fun c9 => ?_)
            · replace h := ifN c9 h
              refine v_iconst (v := 0) dX12_answer_162 ci_0 ?_
              refine v_sub [2, 3, 4, 5, 1, 0] rfl ?_
              exact w_X12_answer_J163 l0 l1 l2 l3 v6 (((5 : Int32) * l1) + v6) (0 : Int32) M5 h
            · replace h := ifP c9 h
              refine v_iconst (v := 1) dX12_answer_158 ci_1 ?_
              refine v_goto (tgt := 163) dX12_answer_159 (by decide) ?_
              refine v_sub [2, 3, 4, 5, 1, 0] rfl ?_
              exact w_X12_answer_J163 l0 l1 l2 l3 v6 (((5 : Int32) * l1) + v6) (1 : Int32) M5 h
          · replace h := ifP c10 h
            refine v_aload_n dX12_answer_120 rfl 2 rfl ?_
            obtain ⟨v7, e, h⟩ := bind_some h
            refine gt_X12_9 e dX12_answer_121 ?_
            refine v_sipush (v := 584) dX12_answer_124 cs_584 ?_
            refine v_iload dX12_answer_127 0 rfl ?_
            refine v_iadd dX12_answer_129 ?_
            obtain ⟨v8, e, h⟩ := bind_some h
            refine v_iaload dX12_answer_130 e ?_
            refine v_iconst (v := 2) dX12_answer_131 ci_2 ?_
            refine v_icmp_ne (tgt := 139) dX12_answer_132 (by decide) (fun c9 => ?_) (fun c9 => ?_)
            · replace h := ifN c9 h
              refine v_iconst (v := 0) dX12_answer_139 ci_0 ?_
              refine v_goto (tgt := 163) dX12_answer_140 (by decide) ?_
              refine v_sub [2, 3, 4, 5, 1, 0] rfl ?_
              exact w_X12_answer_J163 l0 l1 l2 l3 v6 (((5 : Int32) * l1) + v6) (0 : Int32) M5 h
            · replace h := ifP c9 h
              refine v_iconst (v := 1) dX12_answer_135 ci_1 ?_
              refine v_goto (tgt := 163) dX12_answer_136 (by decide) ?_
              refine v_sub [2, 3, 4, 5, 1, 0] rfl ?_
              exact w_X12_answer_J163 l0 l1 l2 l3 v6 (((5 : Int32) * l1) + v6) (1 : Int32) M5 h
        · replace h := ifP c11 h
          refine v_aload_n dX12_answer_92 rfl 2 rfl ?_
          obtain ⟨v7, e, h⟩ := bind_some h
          refine gt_X12_9 e dX12_answer_93 ?_
          refine v_sipush (v := 584) dX12_answer_96 cs_584 ?_
          refine v_iload dX12_answer_99 0 rfl ?_
          refine v_iadd dX12_answer_101 ?_
          obtain ⟨v8, e, h⟩ := bind_some h
          refine v_iaload dX12_answer_102 e ?_
          refine v_iconst (v := 1) dX12_answer_103 ci_1 ?_
          refine v_icmp_ne (tgt := 111) dX12_answer_104 (by decide) (fun c9 => ?_) (fun c9 => ?_)
          · replace h := ifN c9 h
            refine v_iconst (v := 0) dX12_answer_111 ci_0 ?_
            refine v_goto (tgt := 163) dX12_answer_112 (by decide) ?_
            refine v_sub [2, 3, 4, 5, 1, 0] rfl ?_
            exact w_X12_answer_J163 l0 l1 l2 l3 v6 (((5 : Int32) * l1) + v6) (0 : Int32) M5 h
          · replace h := ifP c9 h
            refine v_iconst (v := 1) dX12_answer_107 ci_1 ?_
            refine v_goto (tgt := 163) dX12_answer_108 (by decide) ?_
            refine v_sub [2, 3, 4, 5, 1, 0] rfl ?_
            exact w_X12_answer_J163 l0 l1 l2 l3 v6 (((5 : Int32) * l1) + v6) (1 : Int32) M5 h
      · replace h := ifP c12 h
        refine v_iconst (v := 0) dX12_answer_77 ci_0 ?_
        cases h
        exact v_ireturn dX12_answer_78
    · replace h := ifP c13 h
      refine v_aload_n dX12_answer_57 rfl 0 rfl ?_
      refine v_iconst (v := 3) dX12_answer_58 ci_3 ?_
      obtain ⟨v6, M5, e, h⟩ := bindP_some h
      refine ca_X12_86 e dX12_answer_59 (Nat.le_of_ble_eq_true rfl) (by decide) ?_
      cases h
      exact v_ireturn dX12_answer_62
  · replace h := ifP c14 h
    refine v_sub [0] rfl ?_
    exact w_X12_answer_J43 l0 M1 h
set_option maxHeartbeats 4000000 in
set_option maxRecDepth 100000 in
theorem w_X12_answer {G : Gl} {ρ0 : Nat → Nat} {M0 MF : Mem} {r : Int32} (l0 : Nat) (l1 : Int32) (l2 : Int32) (l3 : Int32) (M : Mem) (h : f_X12_answer l0 l1 l2 l3 M = some (r, MF)) : V G (RX12, cX12_answer, (some .int), 6, 154, 7, "answer", []) (ρ0, M0, cvI r, MF) 0 [(0, .ref l0), (1, .int l1), (2, .int l2), (3, .int l3)] [] M := by
  unfold f_X12_answer at h
  replace h := (ifS h).2
  refine v_aload_n dX12_answer_0 rfl 0 rfl ?_
  refine v_iconst (v := 0) dX12_answer_1 ci_0 ?_
  obtain ⟨M1, e, h⟩ := bind_some h
  refine pt_X12_52 e dX12_answer_2 ?_
  refine v_iload_n dX12_answer_5 rfl 1 rfl ?_
  obtain ⟨v3, M2, e, h⟩ := bindP_some h
  refine ca_X12_191 e dX12_answer_6 (Nat.le_of_ble_eq_true rfl) (by decide) ?_
  refine v_if_ne (tgt := 18) dX12_answer_9 (by decide) (fun c7 => ?_) (fun c7 => ?_)
  · replace h := ifN c7 h
    refine v_iload_n dX12_answer_18 rfl 2 rfl ?_
    refine v_iconst (v := 1) dX12_answer_19 ci_1 ?_
    refine v_icmp_eq (tgt := 33) dX12_answer_20 (by decide) (fun c6 => ?_) (fun c6 => ?_)
    · replace h := ifP c6 h
      exact w_X12_answer_J33 l0 l1 l2 l3 M2 h
    · replace h := ifN c6 h
      refine v_iload_n dX12_answer_23 rfl 2 rfl ?_
      refine v_iconst (v := 2) dX12_answer_24 ci_2 ?_
      refine v_icmp_eq (tgt := 33) dX12_answer_25 (by decide) (fun c5 => ?_) (fun c5 => ?_)
      · replace h := ifP c5 h
        exact w_X12_answer_J33 l0 l1 l2 l3 M2 h
      · replace h := ifN c5 h
        refine v_iload_n dX12_answer_28 rfl 2 rfl ?_
        refine v_iconst (v := 4) dX12_answer_29 ci_4 ?_
        refine v_icmp_ne (tgt := 43) dX12_answer_30 (by decide) (fun c4 => ?_) (fun c4 => ?_)
        · replace h := ifN c4 h
          refine v_sub [0] rfl ?_
          exact w_X12_answer_J43 l0 M2 h
        · replace h := ifP c4 h
          exact w_X12_answer_J33 l0 l1 l2 l3 M2 h
  · replace h := ifP c7 h
    refine v_aload_n dX12_answer_12 rfl 0 rfl ?_
    refine v_iconst (v := 1) dX12_answer_13 ci_1 ?_
    obtain ⟨v5, M4, e, h⟩ := bindP_some h
    refine ca_X12_86 e dX12_answer_14 (Nat.le_of_ble_eq_true rfl) (by decide) ?_
    cases h
    exact v_ireturn dX12_answer_17
theorem kd_X12_answer {l0 : Nat} {l1 : Int32} {l2 : Int32} {l3 : Int32} {M : Mem} {z : _} (h : f_X12_answer l0 l1 l2 l3 M = some z) : (mK M l0).1 = 12 := by
  unfold f_X12_answer at h
  exact (ifS h).1
theorem k_X12_answer {G : Gl} {l0 : Nat} {l1 : Int32} {l2 : Int32} {l3 : Int32} {M MF : Mem} {r : Int32} (h : f_X12_answer l0 l1 l2 l3 M = some (r, MF)) : CtrP G yX12_answer cX12_answer 7 (some .int) 6 154 [.ref l0, .int l1, .int l2, .int l3] M (cvI r) MF :=
  ctr_of (by decide +kernel) (Nat.le_of_ble_eq_true rfl) (fun ρ => w_X12_answer l0 l1 l2 l3 M h)
set_option maxHeartbeats 4000000 in
set_option maxRecDepth 100000 in
theorem w_X12_audience_L94 {G : Gl} {ρ0 : Nat → Nat} {M0 MF : Mem} {r : Int32} : ∀ (n : Nat) (l0 : Nat) (l2 : Int32) (l3 : Int32) (M : Mem), f_X12_audience_L94 n l0 l2 l3 M = some (r, MF) → V G (RX12, cX12_audience, (some .int), 4, 93, 4, "audience", []) (ρ0, M0, cvI r, MF) 94 [(0, .ref l0), (2, .int l2), (3, .int l3)] [] M := by
  intro n
  induction n with
  | zero => intro l0 l2 l3 M h; cases h
  | succ n ih =>
    intro l0 l2 l3 M h
    rw [f_X12_audience_L94] at h
    refine v_iload_n dX12_audience_94 rfl 2 rfl ?_
    refine v_aload_n dX12_audience_95 rfl 0 rfl ?_
    obtain ⟨v1, e, h⟩ := bind_some h
    refine gt_X12_9 e dX12_audience_96 ?_
    refine v_bipush (v := 16) dX12_audience_99 cb_16 ?_
    obtain ⟨v2, e, h⟩ := bind_some h
    refine v_iaload dX12_audience_101 e ?_
    refine v_icmp_ge (tgt := 143) dX12_audience_102 (by decide) (fun c8 => ?_) (fun c8 => ?_)
    · replace h := ifP c8 h
      refine v_iload_n dX12_audience_143 rfl 1 rfl ?_
      cases h
      exact v_ireturn dX12_audience_144
    · replace h := ifN c8 h
      refine v_iload_n dX12_audience_105 rfl 1 rfl ?_
      refine v_aload_n dX12_audience_106 rfl 0 rfl ?_
      refine v_sipush (v := 1256) dX12_audience_107 cs_1256 ?_
      refine v_iconst (v := 4) dX12_audience_110 ci_4 ?_
      refine v_iload_n dX12_audience_111 rfl 2 rfl ?_
      refine v_imul dX12_audience_112 ?_
      refine v_iadd dX12_audience_113 ?_
      refine v_aload_n dX12_audience_114 rfl 0 rfl ?_
      obtain ⟨v3, e, h⟩ := bind_some h
      refine gt_X12_9 e dX12_audience_115 ?_
      refine v_sipush (v := 1830) dX12_audience_118 cs_1830 ?_
      refine v_iload_n dX12_audience_121 rfl 2 rfl ?_
      refine v_iadd dX12_audience_122 ?_
      obtain ⟨v4, e, h⟩ := bind_some h
      refine v_iaload dX12_audience_123 e ?_
      obtain ⟨v6, M5, e, h⟩ := bindP_some h
      refine ca_X12_144 e dX12_audience_124 (Nat.le_of_ble_eq_true rfl) (by decide) ?_
      refine v_if_eq (tgt := 134) dX12_audience_127 (by decide) (fun c7 => ?_) (fun c7 => ?_)
      · replace h := ifP c7 h
        refine v_iconst (v := 0) dX12_audience_134 ci_0 ?_
        refine v_iadd dX12_audience_135 ?_
        refine v_istore_n (ls' := [(2, .int (l2 + (0 : Int32))), (0, .ref l0), (3, .int l3)]) dX12_audience_136 rfl (by decide) rfl ?_
        refine v_iinc (ls' := [(3, .int (l3 + 1)), (2, .int (l2 + (0 : Int32))), (0, .ref l0)]) dX12_audience_137 2 rfl (v := 1) ci_1 (by decide) rfl ?_
        refine v_goto (tgt := 94) dX12_audience_140 (by decide) ?_
        refine v_sub [2, 1, 0] rfl ?_
        exact ih l0 (l2 + (0 : Int32)) (l3 + 1) M5 h
      · replace h := ifN c7 h
        refine v_iconst (v := 1) dX12_audience_130 ci_1 ?_
        refine v_goto (tgt := 135) dX12_audience_131 (by decide) ?_
        refine v_iadd dX12_audience_135 ?_
        refine v_istore_n (ls' := [(2, .int (l2 + (1 : Int32))), (0, .ref l0), (3, .int l3)]) dX12_audience_136 rfl (by decide) rfl ?_
        refine v_iinc (ls' := [(3, .int (l3 + 1)), (2, .int (l2 + (1 : Int32))), (0, .ref l0)]) dX12_audience_137 2 rfl (v := 1) ci_1 (by decide) rfl ?_
        refine v_goto (tgt := 94) dX12_audience_140 (by decide) ?_
        refine v_sub [2, 1, 0] rfl ?_
        exact ih l0 (l2 + (1 : Int32)) (l3 + 1) M5 h
set_option maxHeartbeats 4000000 in
set_option maxRecDepth 100000 in
theorem w_X12_audience_L49 {G : Gl} {ρ0 : Nat → Nat} {M0 MF : Mem} {r : Int32} : ∀ (n : Nat) (l0 : Nat) (l1 : Int32) (l2 : Int32) (l3 : Int32) (M : Mem), f_X12_audience_L49 n l0 l1 l2 l3 M = some (r, MF) → V G (RX12, cX12_audience, (some .int), 4, 93, 4, "audience", []) (ρ0, M0, cvI r, MF) 49 [(0, .ref l0), (1, .int l1), (2, .int l2), (3, .int l3)] [] M := by
  intro n
  induction n with
  | zero => intro l0 l1 l2 l3 M h; cases h
  | succ n ih =>
    intro l0 l1 l2 l3 M h
    rw [f_X12_audience_L49] at h
    refine v_iload_n dX12_audience_49 rfl 3 rfl ?_
    refine v_bipush (v := 6) dX12_audience_50 cb_6 ?_
    refine v_icmp_ge (tgt := 92) dX12_audience_52 (by decide) (fun c7 => ?_) (fun c7 => ?_)
    · replace h := ifP c7 h
      refine v_iconst (v := 0) dX12_audience_92 ci_0 ?_
      refine v_istore_n (ls' := [(3, .int (0 : Int32)), (0, .ref l0), (1, .int l1), (2, .int l2)]) dX12_audience_93 rfl (by decide) rfl ?_
      refine v_sub [1, 3, 0] rfl ?_
      exact w_X12_audience_L94 FU l0 l2 (0 : Int32) M h
    · replace h := ifN c7 h
      refine v_iload_n dX12_audience_55 rfl 2 rfl ?_
      refine v_aload_n dX12_audience_56 rfl 0 rfl ?_
      obtain ⟨v1, e, h⟩ := bind_some h
      refine gt_X12_9 e dX12_audience_57 ?_
      refine v_bipush (v := 20) dX12_audience_60 cb_20 ?_
      refine v_iload_n dX12_audience_62 rfl 3 rfl ?_
      refine v_iadd dX12_audience_63 ?_
      obtain ⟨v2, e, h⟩ := bind_some h
      refine v_iaload dX12_audience_64 e ?_
      refine v_iconst (v := 1) dX12_audience_65 ci_1 ?_
      refine v_icmp_ne (tgt := 83) dX12_audience_66 (by decide) (fun c6 => ?_) (fun c6 => ?_)
      · replace h := ifN c6 h
        refine v_iconst (v := 0) dX12_audience_83 ci_0 ?_
        refine v_iadd dX12_audience_84 ?_
        refine v_istore_n (ls' := [(2, .int (l2 + (0 : Int32))), (0, .ref l0), (1, .int l1), (3, .int l3)]) dX12_audience_85 rfl (by decide) rfl ?_
        refine v_iinc (ls' := [(3, .int (l3 + 1)), (2, .int (l2 + (0 : Int32))), (0, .ref l0), (1, .int l1)]) dX12_audience_86 3 rfl (v := 1) ci_1 (by decide) rfl ?_
        refine v_goto (tgt := 49) dX12_audience_89 (by decide) ?_
        refine v_sub [2, 3, 1, 0] rfl ?_
        exact ih l0 l1 (l2 + (0 : Int32)) (l3 + 1) M h
      · replace h := ifP c6 h
        refine v_aload_n dX12_audience_69 rfl 0 rfl ?_
        refine v_iload_n dX12_audience_70 rfl 3 rfl ?_
        refine v_iload_n dX12_audience_71 rfl 1 rfl ?_
        obtain ⟨v4, M3, e, h⟩ := bindP_some h
        refine ca_X12_156 e dX12_audience_72 (Nat.le_of_ble_eq_true rfl) (by decide) ?_
        refine v_iconst (v := (-1)) dX12_audience_75 ci_m1 ?_
        refine v_icmp_eq (tgt := 83) dX12_audience_76 (by decide) (fun c5 => ?_) (fun c5 => ?_)
        · replace h := ifP c5 h
          refine v_iconst (v := 0) dX12_audience_83 ci_0 ?_
          refine v_iadd dX12_audience_84 ?_
          refine v_istore_n (ls' := [(2, .int (l2 + (0 : Int32))), (0, .ref l0), (1, .int l1), (3, .int l3)]) dX12_audience_85 rfl (by decide) rfl ?_
          refine v_iinc (ls' := [(3, .int (l3 + 1)), (2, .int (l2 + (0 : Int32))), (0, .ref l0), (1, .int l1)]) dX12_audience_86 3 rfl (v := 1) ci_1 (by decide) rfl ?_
          refine v_goto (tgt := 49) dX12_audience_89 (by decide) ?_
          refine v_sub [2, 3, 1, 0] rfl ?_
          exact ih l0 l1 (l2 + (0 : Int32)) (l3 + 1) M3 h
        · replace h := ifN c5 h
          refine v_iconst (v := 1) dX12_audience_79 ci_1 ?_
          refine v_goto (tgt := 84) dX12_audience_80 (by decide) ?_
          refine v_iadd dX12_audience_84 ?_
          refine v_istore_n (ls' := [(2, .int (l2 + (1 : Int32))), (0, .ref l0), (1, .int l1), (3, .int l3)]) dX12_audience_85 rfl (by decide) rfl ?_
          refine v_iinc (ls' := [(3, .int (l3 + 1)), (2, .int (l2 + (1 : Int32))), (0, .ref l0), (1, .int l1)]) dX12_audience_86 3 rfl (v := 1) ci_1 (by decide) rfl ?_
          refine v_goto (tgt := 49) dX12_audience_89 (by decide) ?_
          refine v_sub [2, 3, 1, 0] rfl ?_
          exact ih l0 l1 (l2 + (1 : Int32)) (l3 + 1) M3 h
set_option maxHeartbeats 4000000 in
set_option maxRecDepth 100000 in
theorem w_X12_audience {G : Gl} {ρ0 : Nat → Nat} {M0 MF : Mem} {r : Int32} (l0 : Nat) (l1 : Int32) (M : Mem) (h : f_X12_audience l0 l1 M = some (r, MF)) : V G (RX12, cX12_audience, (some .int), 4, 93, 4, "audience", []) (ρ0, M0, cvI r, MF) 0 [(0, .ref l0), (1, .int l1)] [] M := by
  unfold f_X12_audience at h
  replace h := (ifS h).2
  refine v_aload_n dX12_audience_0 rfl 0 rfl ?_
  refine v_iconst (v := 0) dX12_audience_1 ci_0 ?_
  obtain ⟨M1, e, h⟩ := bind_some h
  refine pt_X12_52 e dX12_audience_2 ?_
  refine v_iload_n dX12_audience_5 rfl 1 rfl ?_
  obtain ⟨v3, M2, e, h⟩ := bindP_some h
  refine ca_X12_191 e dX12_audience_6 (Nat.le_of_ble_eq_true rfl) (by decide) ?_
  refine v_if_ne (tgt := 18) dX12_audience_9 (by decide) (fun c10 => ?_) (fun c10 => ?_)
  · replace h := ifN c10 h
    refine v_aload_n dX12_audience_18 rfl 0 rfl ?_
    refine v_iconst (v := 0) dX12_audience_19 ci_0 ?_
    obtain ⟨v5, M4, e, h⟩ := bindP_some h
    refine ca_X12_203 e dX12_audience_20 (Nat.le_of_ble_eq_true rfl) (by decide) ?_
    refine v_if_ne (tgt := 32) dX12_audience_23 (by decide) (fun c9 => ?_) (fun c9 => ?_)
    · replace h := ifN c9 h
      refine v_aload_n dX12_audience_32 rfl 0 rfl ?_
      obtain ⟨v6, e, h⟩ := bind_some h
      refine gt_X12_37 e dX12_audience_33 ?_
      refine v_iconst (v := 0) dX12_audience_36 ci_0 ?_
      refine v_aload_n dX12_audience_37 rfl 0 rfl ?_
      obtain ⟨v7, e, h⟩ := bind_some h
      refine gt_X12_40 e dX12_audience_38 ?_
      refine v_iconst (v := 0) dX12_audience_41 ci_0 ?_
      obtain ⟨M8, e, h⟩ := bind_some h
      refine ca_X12_97 e dX12_audience_42 (Nat.le_of_ble_eq_true rfl) (by decide) ?_
      refine v_iconst (v := 0) dX12_audience_45 ci_0 ?_
      refine v_istore_n (ls' := [(2, .int (0 : Int32)), (0, .ref l0), (1, .int l1)]) dX12_audience_46 rfl (by decide) rfl ?_
      refine v_iconst (v := 0) dX12_audience_47 ci_0 ?_
      refine v_istore_n (ls' := [(3, .int (0 : Int32)), (2, .int (0 : Int32)), (0, .ref l0), (1, .int l1)]) dX12_audience_48 rfl (by decide) rfl ?_
      refine v_sub [2, 3, 1, 0] rfl ?_
      exact w_X12_audience_L49 FU l0 l1 (0 : Int32) (0 : Int32) M8 h
    · replace h := ifP c9 h
      refine v_aload_n dX12_audience_26 rfl 0 rfl ?_
      refine v_iconst (v := 2) dX12_audience_27 ci_2 ?_
      obtain ⟨v7, M6, e, h⟩ := bindP_some h
      refine ca_X12_86 e dX12_audience_28 (Nat.le_of_ble_eq_true rfl) (by decide) ?_
      cases h
      exact v_ireturn dX12_audience_31
  · replace h := ifP c10 h
    refine v_aload_n dX12_audience_12 rfl 0 rfl ?_
    refine v_iconst (v := 1) dX12_audience_13 ci_1 ?_
    obtain ⟨v5, M4, e, h⟩ := bindP_some h
    refine ca_X12_200 e dX12_audience_14 (Nat.le_of_ble_eq_true rfl) (by decide) ?_
    cases h
    exact v_ireturn dX12_audience_17
theorem kd_X12_audience {l0 : Nat} {l1 : Int32} {M : Mem} {z : _} (h : f_X12_audience l0 l1 M = some z) : (mK M l0).1 = 12 := by
  unfold f_X12_audience at h
  exact (ifS h).1
theorem k_X12_audience {G : Gl} {l0 : Nat} {l1 : Int32} {M MF : Mem} {r : Int32} (h : f_X12_audience l0 l1 M = some (r, MF)) : CtrP G yX12_audience cX12_audience 4 (some .int) 4 93 [.ref l0, .int l1] M (cvI r) MF :=
  ctr_of (by decide +kernel) (Nat.le_of_ble_eq_true rfl) (fun ρ => w_X12_audience l0 l1 M h)
set_option maxHeartbeats 4000000 in
set_option maxRecDepth 100000 in
theorem w_X12_takesPacket_L5 {G : Gl} {ρ0 : Nat → Nat} {M0 MF : Mem} {r : Unit} : ∀ (n : Nat) (l0 : Nat) (l1 : Int32) (l2 : Int32) (M : Mem), f_X12_takesPacket_L5 n l0 l1 l2 M = some MF → V G (RX12, cX12_takesPacket, none, 1, 24, 3, "takesPacket", []) (ρ0, M0, cvV r, MF) 5 [(0, .ref l0), (1, .int l1), (2, .int l2)] [] M := by
  intro n
  induction n with
  | zero => intro l0 l1 l2 M h; cases h
  | succ n ih =>
    intro l0 l1 l2 M h
    rw [f_X12_takesPacket_L5] at h
    refine v_iload_n dX12_takesPacket_5 rfl 2 rfl ?_
    refine v_bipush (v := 30) dX12_takesPacket_6 cb_30 ?_
    refine v_iload_n dX12_takesPacket_8 rfl 1 rfl ?_
    refine v_imul dX12_takesPacket_9 ?_
    refine v_aload_n dX12_takesPacket_10 rfl 0 rfl ?_
    obtain ⟨v1, e, h⟩ := bind_some h
    refine gt_X12_9 e dX12_takesPacket_11 ?_
    refine v_bipush (v := 68) dX12_takesPacket_14 cb_68 ?_
    refine v_iload_n dX12_takesPacket_16 rfl 1 rfl ?_
    refine v_iadd dX12_takesPacket_17 ?_
    obtain ⟨v2, e, h⟩ := bind_some h
    refine v_iaload dX12_takesPacket_18 e ?_
    refine v_iadd dX12_takesPacket_19 ?_
    refine v_iconst (v := 1) dX12_takesPacket_20 ci_1 ?_
    refine v_isub dX12_takesPacket_21 ?_
    refine v_icmp_ge (tgt := 168) dX12_takesPacket_22 (by decide) (fun c26 => ?_) (fun c26 => ?_)
    · replace h := ifP c26 h
      refine v_aload_n dX12_takesPacket_168 rfl 0 rfl ?_
      obtain ⟨v3, e, h⟩ := bind_some h
      refine gt_X12_9 e dX12_takesPacket_169 ?_
      refine v_bipush (v := 68) dX12_takesPacket_172 cb_68 ?_
      refine v_iload_n dX12_takesPacket_174 rfl 1 rfl ?_
      refine v_iadd dX12_takesPacket_175 ?_
      refine v_dup2 dX12_takesPacket_176 rfl rfl ?_
      obtain ⟨v4, e, h⟩ := bind_some h
      refine v_iaload dX12_takesPacket_177 e ?_
      refine v_iconst (v := 1) dX12_takesPacket_178 ci_1 ?_
      refine v_isub dX12_takesPacket_179 ?_
      obtain ⟨M5, e, h⟩ := bind_some h
      refine v_iastore dX12_takesPacket_180 e ?_
      cases h
      exact v_vreturn dX12_takesPacket_181
    · replace h := ifN c26 h
      refine v_aload_n dX12_takesPacket_25 rfl 0 rfl ?_
      obtain ⟨v3, e, h⟩ := bind_some h
      refine gt_X12_9 e dX12_takesPacket_26 ?_
      refine v_sipush (v := 878) dX12_takesPacket_29 cs_878 ?_
      refine v_iload_n dX12_takesPacket_32 rfl 2 rfl ?_
      refine v_iadd dX12_takesPacket_33 ?_
      refine v_aload_n dX12_takesPacket_34 rfl 0 rfl ?_
      obtain ⟨v4, e, h⟩ := bind_some h
      refine gt_X12_9 e dX12_takesPacket_35 ?_
      refine v_sipush (v := 878) dX12_takesPacket_38 cs_878 ?_
      refine v_iload_n dX12_takesPacket_41 rfl 2 rfl ?_
      refine v_iadd dX12_takesPacket_42 ?_
      refine v_iconst (v := 1) dX12_takesPacket_43 ci_1 ?_
      refine v_iadd dX12_takesPacket_44 ?_
      obtain ⟨v5, e, h⟩ := bind_some h
      refine v_iaload dX12_takesPacket_45 e ?_
      obtain ⟨M6, e, h⟩ := bind_some h
      refine v_iastore dX12_takesPacket_46 e ?_
      refine v_aload_n dX12_takesPacket_47 rfl 0 rfl ?_
      obtain ⟨v7, e, h⟩ := bind_some h
      refine gt_X12_9 e dX12_takesPacket_48 ?_
      refine v_sipush (v := 1058) dX12_takesPacket_51 cs_1058 ?_
      refine v_iload_n dX12_takesPacket_54 rfl 2 rfl ?_
      refine v_iadd dX12_takesPacket_55 ?_
      refine v_aload_n dX12_takesPacket_56 rfl 0 rfl ?_
      obtain ⟨v8, e, h⟩ := bind_some h
      refine gt_X12_9 e dX12_takesPacket_57 ?_
      refine v_sipush (v := 1058) dX12_takesPacket_60 cs_1058 ?_
      refine v_iload_n dX12_takesPacket_63 rfl 2 rfl ?_
      refine v_iadd dX12_takesPacket_64 ?_
      refine v_iconst (v := 1) dX12_takesPacket_65 ci_1 ?_
      refine v_iadd dX12_takesPacket_66 ?_
      obtain ⟨v9, e, h⟩ := bind_some h
      refine v_iaload dX12_takesPacket_67 e ?_
      obtain ⟨M10, e, h⟩ := bind_some h
      refine v_iastore dX12_takesPacket_68 e ?_
      refine v_aload_n dX12_takesPacket_69 rfl 0 rfl ?_
      obtain ⟨v11, e, h⟩ := bind_some h
      refine gt_X12_9 e dX12_takesPacket_70 ?_
      refine v_sipush (v := 1238) dX12_takesPacket_73 cs_1238 ?_
      refine v_iload_n dX12_takesPacket_76 rfl 2 rfl ?_
      refine v_iadd dX12_takesPacket_77 ?_
      refine v_aload_n dX12_takesPacket_78 rfl 0 rfl ?_
      obtain ⟨v12, e, h⟩ := bind_some h
      refine gt_X12_9 e dX12_takesPacket_79 ?_
      refine v_sipush (v := 1238) dX12_takesPacket_82 cs_1238 ?_
      refine v_iload_n dX12_takesPacket_85 rfl 2 rfl ?_
      refine v_iadd dX12_takesPacket_86 ?_
      refine v_iconst (v := 1) dX12_takesPacket_87 ci_1 ?_
      refine v_iadd dX12_takesPacket_88 ?_
      obtain ⟨v13, e, h⟩ := bind_some h
      refine v_iaload dX12_takesPacket_89 e ?_
      obtain ⟨M14, e, h⟩ := bind_some h
      refine v_iastore dX12_takesPacket_90 e ?_
      refine v_aload_n dX12_takesPacket_91 rfl 0 rfl ?_
      obtain ⟨v15, e, h⟩ := bind_some h
      refine gt_X12_9 e dX12_takesPacket_92 ?_
      refine v_sipush (v := 1418) dX12_takesPacket_95 cs_1418 ?_
      refine v_iload_n dX12_takesPacket_98 rfl 2 rfl ?_
      refine v_iadd dX12_takesPacket_99 ?_
      refine v_aload_n dX12_takesPacket_100 rfl 0 rfl ?_
      obtain ⟨v16, e, h⟩ := bind_some h
      refine gt_X12_9 e dX12_takesPacket_101 ?_
      refine v_sipush (v := 1418) dX12_takesPacket_104 cs_1418 ?_
      refine v_iload_n dX12_takesPacket_107 rfl 2 rfl ?_
      refine v_iadd dX12_takesPacket_108 ?_
      refine v_iconst (v := 1) dX12_takesPacket_109 ci_1 ?_
      refine v_iadd dX12_takesPacket_110 ?_
      obtain ⟨v17, e, h⟩ := bind_some h
      refine v_iaload dX12_takesPacket_111 e ?_
      obtain ⟨M18, e, h⟩ := bind_some h
      refine v_iastore dX12_takesPacket_112 e ?_
      refine v_aload_n dX12_takesPacket_113 rfl 0 rfl ?_
      obtain ⟨v19, e, h⟩ := bind_some h
      refine gt_X12_9 e dX12_takesPacket_114 ?_
      refine v_sipush (v := 1598) dX12_takesPacket_117 cs_1598 ?_
      refine v_iload_n dX12_takesPacket_120 rfl 2 rfl ?_
      refine v_iadd dX12_takesPacket_121 ?_
      refine v_aload_n dX12_takesPacket_122 rfl 0 rfl ?_
      obtain ⟨v20, e, h⟩ := bind_some h
      refine gt_X12_9 e dX12_takesPacket_123 ?_
      refine v_sipush (v := 1598) dX12_takesPacket_126 cs_1598 ?_
      refine v_iload_n dX12_takesPacket_129 rfl 2 rfl ?_
      refine v_iadd dX12_takesPacket_130 ?_
      refine v_iconst (v := 1) dX12_takesPacket_131 ci_1 ?_
      refine v_iadd dX12_takesPacket_132 ?_
      obtain ⟨v21, e, h⟩ := bind_some h
      refine v_iaload dX12_takesPacket_133 e ?_
      obtain ⟨M22, e, h⟩ := bind_some h
      refine v_iastore dX12_takesPacket_134 e ?_
      refine v_aload_n dX12_takesPacket_135 rfl 0 rfl ?_
      obtain ⟨v23, e, h⟩ := bind_some h
      refine gt_X12_13 e dX12_takesPacket_136 ?_
      refine v_sipush (v := 504) dX12_takesPacket_139 cs_504 ?_
      refine v_iconst (v := 4) dX12_takesPacket_142 ci_4 ?_
      refine v_iload_n dX12_takesPacket_143 rfl 2 rfl ?_
      refine v_iconst (v := 1) dX12_takesPacket_144 ci_1 ?_
      refine v_iadd dX12_takesPacket_145 ?_
      refine v_imul dX12_takesPacket_146 ?_
      refine v_iadd dX12_takesPacket_147 ?_
      refine v_aload_n dX12_takesPacket_148 rfl 0 rfl ?_
      obtain ⟨v24, e, h⟩ := bind_some h
      refine gt_X12_13 e dX12_takesPacket_149 ?_
      refine v_sipush (v := 504) dX12_takesPacket_152 cs_504 ?_
      refine v_iconst (v := 4) dX12_takesPacket_155 ci_4 ?_
      refine v_iload_n dX12_takesPacket_156 rfl 2 rfl ?_
      refine v_imul dX12_takesPacket_157 ?_
      refine v_iadd dX12_takesPacket_158 ?_
      obtain ⟨M25, e, h⟩ := bind_some h
      refine ca_X12_97 e dX12_takesPacket_159 (Nat.le_of_ble_eq_true rfl) (by decide) ?_
      refine v_iinc (ls' := [(2, .int (l2 + 1)), (0, .ref l0), (1, .int l1)]) dX12_takesPacket_162 2 rfl (v := 1) ci_1 (by decide) rfl ?_
      refine v_goto (tgt := 5) dX12_takesPacket_165 (by decide) ?_
      refine v_sub [1, 2, 0] rfl ?_
      exact ih l0 l1 (l2 + 1) M25 h
set_option maxHeartbeats 4000000 in
set_option maxRecDepth 100000 in
theorem w_X12_takesPacket {G : Gl} {ρ0 : Nat → Nat} {M0 MF : Mem} {r : Unit} (l0 : Nat) (l1 : Int32) (M : Mem) (h : f_X12_takesPacket l0 l1 M = some MF) : V G (RX12, cX12_takesPacket, none, 1, 24, 3, "takesPacket", []) (ρ0, M0, cvV r, MF) 0 [(0, .ref l0), (1, .int l1)] [] M := by
  unfold f_X12_takesPacket at h
  replace h := (ifS h).2
  refine v_bipush (v := 30) dX12_takesPacket_0 cb_30 ?_
  refine v_iload_n dX12_takesPacket_2 rfl 1 rfl ?_
  refine v_imul dX12_takesPacket_3 ?_
  refine v_istore_n (ls' := [(2, .int ((30 : Int32) * l1)), (0, .ref l0), (1, .int l1)]) dX12_takesPacket_4 rfl (by decide) rfl ?_
  refine v_sub [1, 2, 0] rfl ?_
  exact w_X12_takesPacket_L5 FU l0 l1 ((30 : Int32) * l1) M h
theorem kd_X12_takesPacket {l0 : Nat} {l1 : Int32} {M : Mem} {z : _} (h : f_X12_takesPacket l0 l1 M = some z) : (mK M l0).1 = 12 := by
  unfold f_X12_takesPacket at h
  exact (ifS h).1
theorem k_X12_takesPacket {G : Gl} {l0 : Nat} {l1 : Int32} {M MF : Mem} (h : f_X12_takesPacket l0 l1 M = some MF) : CtrP G yX12_takesPacket cX12_takesPacket 3 none 1 24 [.ref l0, .int l1] M (cvV ()) MF :=
  ctr_of (by decide +kernel) (Nat.le_of_ble_eq_true rfl) (fun ρ => w_X12_takesPacket (r := ()) l0 l1 M h)
theorem wd_X12_254 : wdV RX12 254 RX12 yX12_takesPacket cX12_takesPacket 3 none 1 := ⟨gwi 1534 (by decide +kernel) (by decide +kernel), gwi 1536 (by decide +kernel) (by decide +kernel), gwi 71 (by decide +kernel) (by decide +kernel), nw_X12, gwi 1537 (by decide +kernel) (by decide +kernel), ⟨rfl, by decide +kernel, by decide +kernel, by decide +kernel⟩⟩
theorem ca_X12_254 {G : Gl} {B : Bx} {cc : ByteArray} {ret : Option FieldType} {fr lo nL : Nat} {mn : String} {hh : List (Nat × Nat × Nat × Nat)} {pc : Nat} {ls : List (Nat × Value)} {st : List Value} {M M1 : Mem} {l0 : Nat} {l1 : Int32} (e : f_X12_takesPacket l0 l1 M = some M1) (hd : decode cc pc = .ok (.invokevirtual 254, 3)) (hcat : (st.map fun v => v.category).sum ≤ 8) (hR : 1 + 1 ≤ fr ∧ 8 + (3 + 11) + 24 ≤ lo) (k : V G (RX12, cc, ret, fr, lo, nL, mn, hh) B (pc + 3) ls (st) M1) : V G (RX12, cc, ret, fr, lo, nL, mn, hh) B pc ls (.int l1 :: .ref l0 :: st) M := v_callV0 (As := [.int l1]) (k_X12_takesPacket e) wd_X12_254 clX12 (kd_X12_takesPacket e) hd rfl rfl hcat hR k
set_option maxHeartbeats 4000000 in
set_option maxRecDepth 100000 in
theorem w_X12_receive_L43 {G : Gl} {ρ0 : Nat → Nat} {M0 MF : Mem} {r : Int32} : ∀ (n : Nat) (l0 : Nat) (l1 : Int32) (l3 : Int32) (l4 : Int32) (M : Mem), f_X12_receive_L43 n l0 l1 l3 l4 M = some (r, MF) → V G (RX12, cX12_receive, (some .int), 3, 63, 5, "receive", []) (ρ0, M0, cvI r, MF) 43 [(0, .ref l0), (1, .int l1), (3, .int l3), (4, .int l4)] [] M := by
  intro n
  induction n with
  | zero => intro l0 l1 l3 l4 M h; cases h
  | succ n ih =>
    intro l0 l1 l3 l4 M h
    rw [f_X12_receive_L43] at h
    refine v_iload dX12_receive_43 3 rfl ?_
    refine v_iconst (v := 5) dX12_receive_45 ci_5 ?_
    refine v_icmp_ge (tgt := 79) dX12_receive_46 (by decide) (fun c13 => ?_) (fun c13 => ?_)
    · replace h := ifP c13 h
      refine v_aload_n dX12_receive_79 rfl 0 rfl ?_
      obtain ⟨v1, e, h⟩ := bind_some h
      refine gt_X12_13 e dX12_receive_80 ?_
      refine v_sipush (v := 504) dX12_receive_83 cs_504 ?_
      refine v_iconst (v := 4) dX12_receive_86 ci_4 ?_
      refine v_iload_n dX12_receive_87 rfl 2 rfl ?_
      refine v_imul dX12_receive_88 ?_
      refine v_iadd dX12_receive_89 ?_
      refine v_aload_n dX12_receive_90 rfl 0 rfl ?_
      obtain ⟨v2, e, h⟩ := bind_some h
      refine gt_X12_49 e dX12_receive_91 ?_
      refine v_iconst (v := 0) dX12_receive_94 ci_0 ?_
      obtain ⟨M3, e, h⟩ := bind_some h
      refine ca_X12_97 e dX12_receive_95 (Nat.le_of_ble_eq_true rfl) (by decide) ?_
      refine v_aload_n dX12_receive_98 rfl 0 rfl ?_
      obtain ⟨v4, e, h⟩ := bind_some h
      refine gt_X12_46 e dX12_receive_99 ?_
      refine v_iconst (v := 5) dX12_receive_102 ci_5 ?_
      refine v_aload_n dX12_receive_103 rfl 0 rfl ?_
      obtain ⟨v5, e, h⟩ := bind_some h
      refine gt_X12_49 e dX12_receive_104 ?_
      refine v_iconst (v := 0) dX12_receive_107 ci_0 ?_
      obtain ⟨v7, M6, e, h⟩ := bindP_some h
      refine ca_X12_247 e dX12_receive_108 (Nat.le_of_ble_eq_true rfl) (by decide) ?_
      obtain ⟨M8, e, h⟩ := bind_some h
      refine v_iastore dX12_receive_111 e ?_
      refine v_aload_n dX12_receive_112 rfl 0 rfl ?_
      refine v_iconst (v := 1) dX12_receive_113 ci_1 ?_
      obtain ⟨M9, e, h⟩ := bind_some h
      refine pt_X12_250 e dX12_receive_114 ?_
      refine v_aload_n dX12_receive_117 rfl 0 rfl ?_
      refine v_iload_n dX12_receive_118 rfl 1 rfl ?_
      obtain ⟨M10, e, h⟩ := bind_some h
      refine ca_X12_254 e dX12_receive_119 (Nat.le_of_ble_eq_true rfl) (by decide) ?_
      refine v_aload_n dX12_receive_122 rfl 0 rfl ?_
      obtain ⟨v11, e, h⟩ := bind_some h
      refine gt_X12_46 e dX12_receive_123 ?_
      refine v_iconst (v := 0) dX12_receive_126 ci_0 ?_
      obtain ⟨v12, e, h⟩ := bind_some h
      refine v_iaload dX12_receive_127 e ?_
      cases h
      exact v_ireturn dX12_receive_128
    · replace h := ifN c13 h
      refine v_aload_n dX12_receive_49 rfl 0 rfl ?_
      obtain ⟨v1, e, h⟩ := bind_some h
      refine gt_X12_46 e dX12_receive_50 ?_
      refine v_iload dX12_receive_53 3 rfl ?_
      refine v_aload_n dX12_receive_55 rfl 0 rfl ?_
      obtain ⟨v2, e, h⟩ := bind_some h
      refine gt_X12_9 e dX12_receive_56 ?_
      refine v_sipush (v := 878) dX12_receive_59 cs_878 ?_
      refine v_sipush (v := 180) dX12_receive_62 cs_180 ?_
      refine v_iload dX12_receive_65 3 rfl ?_
      refine v_imul dX12_receive_67 ?_
      refine v_iadd dX12_receive_68 ?_
      refine v_iload_n dX12_receive_69 rfl 2 rfl ?_
      refine v_iadd dX12_receive_70 ?_
      obtain ⟨v3, e, h⟩ := bind_some h
      refine v_iaload dX12_receive_71 e ?_
      obtain ⟨M4, e, h⟩ := bind_some h
      refine v_iastore dX12_receive_72 e ?_
      refine v_iinc (ls' := [(4, .int (l4 + 1)), (0, .ref l0), (1, .int l1), (3, .int l3)]) dX12_receive_73 3 rfl (v := 1) ci_1 (by decide) rfl ?_
      refine v_goto (tgt := 43) dX12_receive_76 (by decide) ?_
      refine v_sub [1, 2, 3, 0] rfl ?_
      exact ih l0 l1 l3 (l4 + 1) M4 h
set_option maxHeartbeats 4000000 in
set_option maxRecDepth 100000 in
theorem w_X12_receive {G : Gl} {ρ0 : Nat → Nat} {M0 MF : Mem} {r : Int32} (l0 : Nat) (l1 : Int32) (M : Mem) (h : f_X12_receive l0 l1 M = some (r, MF)) : V G (RX12, cX12_receive, (some .int), 3, 63, 5, "receive", []) (ρ0, M0, cvI r, MF) 0 [(0, .ref l0), (1, .int l1)] [] M := by
  unfold f_X12_receive at h
  replace h := (ifS h).2
  refine v_aload_n dX12_receive_0 rfl 0 rfl ?_
  refine v_iconst (v := 0) dX12_receive_1 ci_0 ?_
  obtain ⟨M1, e, h⟩ := bind_some h
  refine pt_X12_52 e dX12_receive_2 ?_
  refine v_aload_n dX12_receive_5 rfl 0 rfl ?_
  refine v_iload_n dX12_receive_6 rfl 1 rfl ?_
  obtain ⟨v3, M2, e, h⟩ := bindP_some h
  refine ca_X12_244 e dX12_receive_7 (Nat.le_of_ble_eq_true rfl) (by decide) ?_
  refine v_istore_n (ls' := [(2, .int v3), (0, .ref l0), (1, .int l1)]) dX12_receive_10 rfl (by decide) rfl ?_
  refine v_iload_n dX12_receive_11 rfl 0 rfl ?_
  refine v_if_le (tgt := 21) dX12_receive_12 (by decide) (fun c7 => ?_) (fun c7 => ?_)
  · replace h := ifP c7 h
    refine v_aload_n dX12_receive_21 rfl 1 rfl ?_
    obtain ⟨v4, e, h⟩ := bind_some h
    refine gt_X12_9 e dX12_receive_22 ?_
    refine v_bipush (v := 68) dX12_receive_25 cb_68 ?_
    refine v_iload_n dX12_receive_27 rfl 2 rfl ?_
    refine v_iadd dX12_receive_28 ?_
    obtain ⟨v5, e, h⟩ := bind_some h
    refine v_iaload dX12_receive_29 e ?_
    refine v_if_ne (tgt := 35) dX12_receive_30 (by decide) (fun c6 => ?_) (fun c6 => ?_)
    · replace h := ifN c6 h
      refine v_bipush (v := 30) dX12_receive_35 cb_30 ?_
      refine v_iload_n dX12_receive_37 rfl 2 rfl ?_
      refine v_imul dX12_receive_38 ?_
      refine v_istore_n (ls' := [(3, .int ((30 : Int32) * l1)), (2, .int v3), (0, .ref l0), (1, .int l1)]) dX12_receive_39 rfl (by decide) rfl ?_
      refine v_iconst (v := 0) dX12_receive_40 ci_0 ?_
      refine v_istore (ls' := [(4, .int (0 : Int32)), (3, .int ((30 : Int32) * l1)), (2, .int v3), (0, .ref l0), (1, .int l1)]) dX12_receive_41 (by decide) rfl ?_
      refine v_sub [3, 4, 1, 0] rfl ?_
      exact w_X12_receive_L43 FU l0 l1 ((30 : Int32) * l1) (0 : Int32) M2 h
    · replace h := ifP c6 h
      refine v_iconst (v := (-1)) dX12_receive_33 ci_m1 ?_
      cases h
      exact v_ireturn dX12_receive_34
  · replace h := ifN c7 h
    refine v_aload_n dX12_receive_15 rfl 1 rfl ?_
    refine v_iload_n dX12_receive_16 rfl 0 rfl ?_
    obtain ⟨v5, M4, e, h⟩ := bindP_some h
    refine ca_X12_86 e dX12_receive_17 (Nat.le_of_ble_eq_true rfl) (by decide) ?_
    cases h
    exact v_ireturn dX12_receive_20
theorem kd_X12_receive {l0 : Nat} {l1 : Int32} {M : Mem} {z : _} (h : f_X12_receive l0 l1 M = some z) : (mK M l0).1 = 12 := by
  unfold f_X12_receive at h
  exact (ifS h).1
theorem k_X12_receive {G : Gl} {l0 : Nat} {l1 : Int32} {M MF : Mem} {r : Int32} (h : f_X12_receive l0 l1 M = some (r, MF)) : CtrP G yX12_receive cX12_receive 5 (some .int) 3 63 [.ref l0, .int l1] M (cvI r) MF :=
  ctr_of (by decide +kernel) (Nat.le_of_ble_eq_true rfl) (fun ρ => w_X12_receive l0 l1 M h)
set_option maxHeartbeats 4000000 in
set_option maxRecDepth 100000 in
theorem w_X12_packet {G : Gl} {ρ0 : Nat → Nat} {M0 MF : Mem} {r : Int32} (l0 : Nat) (l1 : Int32) (M : Mem) (h : f_X12_packet l0 l1 M = some (r, MF)) : V G (RX12, cX12_packet, (some .int), 1, 22, 2, "packet", []) (ρ0, M0, cvI r, MF) 0 [(0, .ref l0), (1, .int l1)] [] M := by
  unfold f_X12_packet at h
  replace h := (ifS h).2
  refine v_aload_n dX12_packet_0 rfl 0 rfl ?_
  refine v_iconst (v := 0) dX12_packet_1 ci_0 ?_
  obtain ⟨M1, e, h⟩ := bind_some h
  refine pt_X12_52 e dX12_packet_2 ?_
  refine v_iload_n dX12_packet_5 rfl 1 rfl ?_
  refine v_iconst (v := 0) dX12_packet_6 ci_0 ?_
  refine v_iconst (v := 5) dX12_packet_7 ci_5 ?_
  obtain ⟨v3, M2, e, h⟩ := bindP_some h
  refine ca_X12_55 e dX12_packet_8 (Nat.le_of_ble_eq_true rfl) (by decide) ?_
  refine v_if_ne (tgt := 20) dX12_packet_11 (by decide) (fun c8 => ?_) (fun c8 => ?_)
  · replace h := ifN c8 h
    refine v_aload_n dX12_packet_20 rfl 0 rfl ?_
    obtain ⟨v4, e, h⟩ := bind_some h
    refine gt_X12_250 e dX12_packet_21 ?_
    refine v_if_eq (tgt := 36) dX12_packet_24 (by decide) (fun c7 => ?_) (fun c7 => ?_)
    · replace h := ifP c7 h
      refine v_aload_n dX12_packet_36 rfl 0 rfl ?_
      refine v_iconst (v := 2) dX12_packet_37 ci_2 ?_
      obtain ⟨v6, M5, e, h⟩ := bindP_some h
      refine ca_X12_86 e dX12_packet_38 (Nat.le_of_ble_eq_true rfl) (by decide) ?_
      cases h
      exact v_ireturn dX12_packet_41
    · replace h := ifN c7 h
      refine v_aload_n dX12_packet_27 rfl 0 rfl ?_
      obtain ⟨v5, e, h⟩ := bind_some h
      refine gt_X12_46 e dX12_packet_28 ?_
      refine v_iload_n dX12_packet_31 rfl 1 rfl ?_
      obtain ⟨v6, e, h⟩ := bind_some h
      refine v_iaload dX12_packet_32 e ?_
      refine v_goto (tgt := 41) dX12_packet_33 (by decide) ?_
      cases h
      exact v_ireturn dX12_packet_41
  · replace h := ifP c8 h
    refine v_aload_n dX12_packet_14 rfl 0 rfl ?_
    refine v_iconst (v := 1) dX12_packet_15 ci_1 ?_
    obtain ⟨v5, M4, e, h⟩ := bindP_some h
    refine ca_X12_86 e dX12_packet_16 (Nat.le_of_ble_eq_true rfl) (by decide) ?_
    cases h
    exact v_ireturn dX12_packet_19
theorem kd_X12_packet {l0 : Nat} {l1 : Int32} {M : Mem} {z : _} (h : f_X12_packet l0 l1 M = some z) : (mK M l0).1 = 12 := by
  unfold f_X12_packet at h
  exact (ifS h).1
theorem k_X12_packet {G : Gl} {l0 : Nat} {l1 : Int32} {M MF : Mem} {r : Int32} (h : f_X12_packet l0 l1 M = some (r, MF)) : CtrP G yX12_packet cX12_packet 2 (some .int) 1 22 [.ref l0, .int l1] M (cvI r) MF :=
  ctr_of (by decide +kernel) (Nat.le_of_ble_eq_true rfl) (fun ρ => w_X12_packet l0 l1 M h)
set_option maxHeartbeats 4000000 in
set_option maxRecDepth 100000 in
theorem w_X12_topicCharacter {G : Gl} {ρ0 : Nat → Nat} {M0 MF : Mem} {r : Int32} (l0 : Nat) (l1 : Int32) (M : Mem) (h : f_X12_topicCharacter l0 l1 M = some (r, MF)) : V G (RX12, cX12_topicCharacter, (some .int), 2, 51, 2, "topicCharacter", []) (ρ0, M0, cvI r, MF) 0 [(0, .ref l0), (1, .int l1)] [] M := by
  unfold f_X12_topicCharacter at h
  replace h := (ifS h).2
  refine v_aload_n dX12_topicCharacter_0 rfl 0 rfl ?_
  refine v_iconst (v := 0) dX12_topicCharacter_1 ci_0 ?_
  obtain ⟨M1, e, h⟩ := bind_some h
  refine pt_X12_52 e dX12_topicCharacter_2 ?_
  refine v_aload_n dX12_topicCharacter_5 rfl 0 rfl ?_
  obtain ⟨v2, e, h⟩ := bind_some h
  refine gt_X12_250 e dX12_topicCharacter_6 ?_
  refine v_if_ne (tgt := 18) dX12_topicCharacter_9 (by decide) (fun c11 => ?_) (fun c11 => ?_)
  · replace h := ifN c11 h
    refine v_iload_n dX12_topicCharacter_18 rfl 1 rfl ?_
    refine v_iconst (v := 0) dX12_topicCharacter_19 ci_0 ?_
    refine v_aload_n dX12_topicCharacter_20 rfl 0 rfl ?_
    obtain ⟨v3, e, h⟩ := bind_some h
    refine gt_X12_46 e dX12_topicCharacter_21 ?_
    refine v_iconst (v := 5) dX12_topicCharacter_24 ci_5 ?_
    obtain ⟨v4, e, h⟩ := bind_some h
    refine v_iaload dX12_topicCharacter_25 e ?_
    refine v_iconst (v := 1) dX12_topicCharacter_26 ci_1 ?_
    refine v_isub dX12_topicCharacter_27 ?_
    obtain ⟨v6, M5, e, h⟩ := bindP_some h
    refine ca_X12_55 e dX12_topicCharacter_28 (Nat.le_of_ble_eq_true rfl) (by decide) ?_
    refine v_if_eq (tgt := 46) dX12_topicCharacter_31 (by decide) (fun c10 => ?_) (fun c10 => ?_)
    · replace h := ifP c10 h
      refine v_aload_n dX12_topicCharacter_46 rfl 0 rfl ?_
      refine v_iconst (v := 2) dX12_topicCharacter_47 ci_2 ?_
      obtain ⟨v8, M7, e, h⟩ := bindP_some h
      refine ca_X12_86 e dX12_topicCharacter_48 (Nat.le_of_ble_eq_true rfl) (by decide) ?_
      cases h
      exact v_ireturn dX12_topicCharacter_51
    · replace h := ifN c10 h
      refine v_aload_n dX12_topicCharacter_34 rfl 0 rfl ?_
      obtain ⟨v7, e, h⟩ := bind_some h
      refine gt_X12_49 e dX12_topicCharacter_35 ?_
      refine v_iconst (v := 0) dX12_topicCharacter_38 ci_0 ?_
      refine v_iload_n dX12_topicCharacter_39 rfl 1 rfl ?_
      obtain ⟨v9, M8, e, h⟩ := bindP_some h
      refine ca_X12_257 e dX12_topicCharacter_40 (Nat.le_of_ble_eq_true rfl) (by decide) ?_
      refine v_goto (tgt := 51) dX12_topicCharacter_43 (by decide) ?_
      cases h
      exact v_ireturn dX12_topicCharacter_51
  · replace h := ifP c11 h
    refine v_aload_n dX12_topicCharacter_12 rfl 0 rfl ?_
    refine v_iconst (v := 1) dX12_topicCharacter_13 ci_1 ?_
    obtain ⟨v4, M3, e, h⟩ := bindP_some h
    refine ca_X12_86 e dX12_topicCharacter_14 (Nat.le_of_ble_eq_true rfl) (by decide) ?_
    cases h
    exact v_ireturn dX12_topicCharacter_17
theorem kd_X12_topicCharacter {l0 : Nat} {l1 : Int32} {M : Mem} {z : _} (h : f_X12_topicCharacter l0 l1 M = some z) : (mK M l0).1 = 12 := by
  unfold f_X12_topicCharacter at h
  exact (ifS h).1
theorem k_X12_topicCharacter {G : Gl} {l0 : Nat} {l1 : Int32} {M MF : Mem} {r : Int32} (h : f_X12_topicCharacter l0 l1 M = some (r, MF)) : CtrP G yX12_topicCharacter cX12_topicCharacter 2 (some .int) 2 51 [.ref l0, .int l1] M (cvI r) MF :=
  ctr_of (by decide +kernel) (Nat.le_of_ble_eq_true rfl) (fun ρ => w_X12_topicCharacter l0 l1 M h)
set_option maxHeartbeats 4000000 in
set_option maxRecDepth 100000 in
theorem w_X12_lose {G : Gl} {ρ0 : Nat → Nat} {M0 MF : Mem} {r : Int32} (l0 : Nat) (l1 : Int32) (M : Mem) (h : f_X12_lose l0 l1 M = some (r, MF)) : V G (RX12, cX12_lose, (some .int), 3, 63, 4, "lose", []) (ρ0, M0, cvI r, MF) 0 [(0, .ref l0), (1, .int l1)] [] M := by
  unfold f_X12_lose at h
  replace h := (ifS h).2
  refine v_aload_n dX12_lose_0 rfl 0 rfl ?_
  refine v_iconst (v := 0) dX12_lose_1 ci_0 ?_
  obtain ⟨M1, e, h⟩ := bind_some h
  refine pt_X12_52 e dX12_lose_2 ?_
  refine v_aload_n dX12_lose_5 rfl 0 rfl ?_
  refine v_iload_n dX12_lose_6 rfl 1 rfl ?_
  obtain ⟨v3, M2, e, h⟩ := bindP_some h
  refine ca_X12_244 e dX12_lose_7 (Nat.le_of_ble_eq_true rfl) (by decide) ?_
  refine v_istore_n (ls' := [(2, .int v3), (0, .ref l0), (1, .int l1)]) dX12_lose_10 rfl (by decide) rfl ?_
  refine v_iload_n dX12_lose_11 rfl 0 rfl ?_
  refine v_if_le (tgt := 21) dX12_lose_12 (by decide) (fun c10 => ?_) (fun c10 => ?_)
  · replace h := ifP c10 h
    refine v_aload_n dX12_lose_21 rfl 1 rfl ?_
    obtain ⟨v4, e, h⟩ := bind_some h
    refine gt_X12_9 e dX12_lose_22 ?_
    refine v_bipush (v := 68) dX12_lose_25 cb_68 ?_
    refine v_iload_n dX12_lose_27 rfl 2 rfl ?_
    refine v_iadd dX12_lose_28 ?_
    obtain ⟨v5, e, h⟩ := bind_some h
    refine v_iaload dX12_lose_29 e ?_
    refine v_if_ne (tgt := 35) dX12_lose_30 (by decide) (fun c9 => ?_) (fun c9 => ?_)
    · replace h := ifN c9 h
      refine v_aload_n dX12_lose_35 rfl 1 rfl ?_
      obtain ⟨v6, e, h⟩ := bind_some h
      refine gt_X12_9 e dX12_lose_36 ?_
      refine v_sipush (v := 878) dX12_lose_39 cs_878 ?_
      refine v_bipush (v := 30) dX12_lose_42 cb_30 ?_
      refine v_iload_n dX12_lose_44 rfl 2 rfl ?_
      refine v_imul dX12_lose_45 ?_
      refine v_iadd dX12_lose_46 ?_
      obtain ⟨v7, e, h⟩ := bind_some h
      refine v_iaload dX12_lose_47 e ?_
      refine v_istore_n (ls' := [(3, .int v7), (2, .int v3), (0, .ref l0), (1, .int l1)]) dX12_lose_48 rfl (by decide) rfl ?_
      refine v_aload_n dX12_lose_49 rfl 2 rfl ?_
      refine v_iload_n dX12_lose_50 rfl 3 rfl ?_
      obtain ⟨M8, e, h⟩ := bind_some h
      refine ca_X12_254 e dX12_lose_51 (Nat.le_of_ble_eq_true rfl) (by decide) ?_
      refine v_iload_n dX12_lose_54 rfl 0 rfl ?_
      cases h
      exact v_ireturn dX12_lose_55
    · replace h := ifP c9 h
      refine v_iconst (v := (-1)) dX12_lose_33 ci_m1 ?_
      cases h
      exact v_ireturn dX12_lose_34
  · replace h := ifN c10 h
    refine v_aload_n dX12_lose_15 rfl 1 rfl ?_
    refine v_iload_n dX12_lose_16 rfl 0 rfl ?_
    obtain ⟨v5, M4, e, h⟩ := bindP_some h
    refine ca_X12_86 e dX12_lose_17 (Nat.le_of_ble_eq_true rfl) (by decide) ?_
    cases h
    exact v_ireturn dX12_lose_20
theorem kd_X12_lose {l0 : Nat} {l1 : Int32} {M : Mem} {z : _} (h : f_X12_lose l0 l1 M = some z) : (mK M l0).1 = 12 := by
  unfold f_X12_lose at h
  exact (ifS h).1
theorem k_X12_lose {G : Gl} {l0 : Nat} {l1 : Int32} {M MF : Mem} {r : Int32} (h : f_X12_lose l0 l1 M = some (r, MF)) : CtrP G yX12_lose cX12_lose 4 (some .int) 3 63 [.ref l0, .int l1] M (cvI r) MF :=
  ctr_of (by decide +kernel) (Nat.le_of_ble_eq_true rfl) (fun ρ => w_X12_lose l0 l1 M h)
set_option maxHeartbeats 4000000 in
set_option maxRecDepth 100000 in
theorem w_X12_repeat_J124 {G : Gl} {ρ0 : Nat → Nat} {M0 MF : Mem} {r : Int32} (l0 : Nat) (l1 : Int32) (M : Mem) (h : f_X12_repeat_J124 l0 l1 M = some (r, MF)) : V G (RX12, cX12_repeat, (some .int), 3, 63, 4, "repeat", []) (ρ0, M0, cvI r, MF) 124 [(0, .ref l0), (1, .int l1)] [] M := by
  unfold f_X12_repeat_J124 at h
  refine v_aload_n dX12_repeat_124 rfl 0 rfl ?_
  obtain ⟨v1, e, h⟩ := bind_some h
  refine gt_X12_9 e dX12_repeat_125 ?_
  refine v_bipush (v := 68) dX12_repeat_128 cb_68 ?_
  refine v_iload_n dX12_repeat_130 rfl 1 rfl ?_
  refine v_iadd dX12_repeat_131 ?_
  obtain ⟨v2, e, h⟩ := bind_some h
  refine v_iaload dX12_repeat_132 e ?_
  cases h
  exact v_ireturn dX12_repeat_133
set_option maxHeartbeats 4000000 in
set_option maxRecDepth 100000 in
theorem w_X12_repeat {G : Gl} {ρ0 : Nat → Nat} {M0 MF : Mem} {r : Int32} (l0 : Nat) (l1 : Int32) (M : Mem) (h : f_X12_repeat l0 l1 M = some (r, MF)) : V G (RX12, cX12_repeat, (some .int), 3, 63, 4, "repeat", []) (ρ0, M0, cvI r, MF) 0 [(0, .ref l0), (1, .int l1)] [] M := by
  unfold f_X12_repeat at h
  replace h := (ifS h).2
  refine v_aload_n dX12_repeat_0 rfl 0 rfl ?_
  refine v_iconst (v := 0) dX12_repeat_1 ci_0 ?_
  obtain ⟨M1, e, h⟩ := bind_some h
  refine pt_X12_52 e dX12_repeat_2 ?_
  refine v_aload_n dX12_repeat_5 rfl 0 rfl ?_
  refine v_iload_n dX12_repeat_6 rfl 1 rfl ?_
  obtain ⟨v3, M2, e, h⟩ := bindP_some h
  refine ca_X12_244 e dX12_repeat_7 (Nat.le_of_ble_eq_true rfl) (by decide) ?_
  refine v_istore_n (ls' := [(2, .int v3), (0, .ref l0), (1, .int l1)]) dX12_repeat_10 rfl (by decide) rfl ?_
  refine v_iload_n dX12_repeat_11 rfl 0 rfl ?_
  refine v_if_le (tgt := 21) dX12_repeat_12 (by decide) (fun c22 => ?_) (fun c22 => ?_)
  · replace h := ifP c22 h
    refine v_aload_n dX12_repeat_21 rfl 1 rfl ?_
    obtain ⟨v4, e, h⟩ := bind_some h
    refine gt_X12_9 e dX12_repeat_22 ?_
    refine v_bipush (v := 68) dX12_repeat_25 cb_68 ?_
    refine v_iload_n dX12_repeat_27 rfl 2 rfl ?_
    refine v_iadd dX12_repeat_28 ?_
    obtain ⟨v5, e, h⟩ := bind_some h
    refine v_iaload dX12_repeat_29 e ?_
    refine v_if_ne (tgt := 39) dX12_repeat_30 (by decide) (fun c21 => ?_) (fun c21 => ?_)
    · replace h := ifN c21 h
      refine v_bipush (v := 30) dX12_repeat_39 cb_30 ?_
      refine v_iload_n dX12_repeat_41 rfl 2 rfl ?_
      refine v_imul dX12_repeat_42 ?_
      refine v_istore_n (ls' := [(3, .int ((30 : Int32) * l1)), (2, .int v3), (0, .ref l0), (1, .int l1)]) dX12_repeat_43 rfl (by decide) rfl ?_
      refine v_aload_n dX12_repeat_44 rfl 2 rfl ?_
      obtain ⟨v6, e, h⟩ := bind_some h
      refine gt_X12_9 e dX12_repeat_45 ?_
      refine v_bipush (v := 68) dX12_repeat_48 cb_68 ?_
      refine v_iload_n dX12_repeat_50 rfl 3 rfl ?_
      refine v_iadd dX12_repeat_51 ?_
      obtain ⟨v7, e, h⟩ := bind_some h
      refine v_iaload dX12_repeat_52 e ?_
      refine v_bipush (v := 30) dX12_repeat_53 cb_30 ?_
      refine v_icmp_ge (tgt := 124) dX12_repeat_55 (by decide) (fun c20 => ?_) (fun c20 => ?_)
      · replace h := ifP c20 h
        refine v_sub [2, 3] rfl ?_
        exact w_X12_repeat_J124 l0 l1 M2 h
      · replace h := ifN c20 h
        refine v_aload_n dX12_repeat_58 rfl 2 rfl ?_
        refine v_iload_n dX12_repeat_59 rfl 3 rfl ?_
        refine v_aload_n dX12_repeat_60 rfl 2 rfl ?_
        obtain ⟨v8, e, h⟩ := bind_some h
        refine gt_X12_9 e dX12_repeat_61 ?_
        refine v_sipush (v := 878) dX12_repeat_64 cs_878 ?_
        refine v_iload_n dX12_repeat_67 rfl 0 rfl ?_
        refine v_iadd dX12_repeat_68 ?_
        obtain ⟨v9, e, h⟩ := bind_some h
        refine v_iaload dX12_repeat_69 e ?_
        refine v_aload_n dX12_repeat_70 rfl 2 rfl ?_
        obtain ⟨v10, e, h⟩ := bind_some h
        refine gt_X12_9 e dX12_repeat_71 ?_
        refine v_sipush (v := 1058) dX12_repeat_74 cs_1058 ?_
        refine v_iload_n dX12_repeat_77 rfl 0 rfl ?_
        refine v_iadd dX12_repeat_78 ?_
        obtain ⟨v11, e, h⟩ := bind_some h
        refine v_iaload dX12_repeat_79 e ?_
        refine v_aload_n dX12_repeat_80 rfl 2 rfl ?_
        obtain ⟨v12, e, h⟩ := bind_some h
        refine gt_X12_9 e dX12_repeat_81 ?_
        refine v_sipush (v := 1238) dX12_repeat_84 cs_1238 ?_
        refine v_iload_n dX12_repeat_87 rfl 0 rfl ?_
        refine v_iadd dX12_repeat_88 ?_
        obtain ⟨v13, e, h⟩ := bind_some h
        refine v_iaload dX12_repeat_89 e ?_
        refine v_aload_n dX12_repeat_90 rfl 2 rfl ?_
        obtain ⟨v14, e, h⟩ := bind_some h
        refine gt_X12_9 e dX12_repeat_91 ?_
        refine v_sipush (v := 1418) dX12_repeat_94 cs_1418 ?_
        refine v_iload_n dX12_repeat_97 rfl 0 rfl ?_
        refine v_iadd dX12_repeat_98 ?_
        obtain ⟨v15, e, h⟩ := bind_some h
        refine v_iaload dX12_repeat_99 e ?_
        refine v_aload_n dX12_repeat_100 rfl 2 rfl ?_
        obtain ⟨v16, e, h⟩ := bind_some h
        refine gt_X12_9 e dX12_repeat_101 ?_
        refine v_sipush (v := 1598) dX12_repeat_104 cs_1598 ?_
        refine v_iload_n dX12_repeat_107 rfl 0 rfl ?_
        refine v_iadd dX12_repeat_108 ?_
        obtain ⟨v17, e, h⟩ := bind_some h
        refine v_iaload dX12_repeat_109 e ?_
        refine v_aload_n dX12_repeat_110 rfl 2 rfl ?_
        obtain ⟨v18, e, h⟩ := bind_some h
        refine gt_X12_13 e dX12_repeat_111 ?_
        refine v_sipush (v := 504) dX12_repeat_114 cs_504 ?_
        refine v_iconst (v := 4) dX12_repeat_117 ci_4 ?_
        refine v_iload_n dX12_repeat_118 rfl 0 rfl ?_
        refine v_imul dX12_repeat_119 ?_
        refine v_iadd dX12_repeat_120 ?_
        obtain ⟨M19, e, h⟩ := bind_some h
        refine ca_X12_93 e dX12_repeat_121 (Nat.le_of_ble_eq_true rfl) (by decide) ?_
        refine v_sub [2, 3] rfl ?_
        exact w_X12_repeat_J124 l0 l1 M19 h
    · replace h := ifP c21 h
      refine v_aload_n dX12_repeat_33 rfl 1 rfl ?_
      refine v_iconst (v := 2) dX12_repeat_34 ci_2 ?_
      obtain ⟨v7, M6, e, h⟩ := bindP_some h
      refine ca_X12_86 e dX12_repeat_35 (Nat.le_of_ble_eq_true rfl) (by decide) ?_
      cases h
      exact v_ireturn dX12_repeat_38
  · replace h := ifN c22 h
    refine v_aload_n dX12_repeat_15 rfl 1 rfl ?_
    refine v_iload_n dX12_repeat_16 rfl 0 rfl ?_
    obtain ⟨v5, M4, e, h⟩ := bindP_some h
    refine ca_X12_86 e dX12_repeat_17 (Nat.le_of_ble_eq_true rfl) (by decide) ?_
    cases h
    exact v_ireturn dX12_repeat_20
theorem kd_X12_repeat {l0 : Nat} {l1 : Int32} {M : Mem} {z : _} (h : f_X12_repeat l0 l1 M = some z) : (mK M l0).1 = 12 := by
  unfold f_X12_repeat at h
  exact (ifS h).1
theorem k_X12_repeat {G : Gl} {l0 : Nat} {l1 : Int32} {M MF : Mem} {r : Int32} (h : f_X12_repeat l0 l1 M = some (r, MF)) : CtrP G yX12_repeat cX12_repeat 4 (some .int) 3 63 [.ref l0, .int l1] M (cvI r) MF :=
  ctr_of (by decide +kernel) (Nat.le_of_ble_eq_true rfl) (fun ρ => w_X12_repeat l0 l1 M h)
set_option maxHeartbeats 4000000 in
set_option maxRecDepth 100000 in
theorem w_X12_kepts_L4 {G : Gl} {ρ0 : Nat → Nat} {M0 MF : Mem} {r : Int32} : ∀ (n : Nat) (l0 : Nat) (l1 : Int32) (l2 : Int32) (l3 : Int32) (M : Mem), f_X12_kepts_L4 n l0 l1 l2 l3 M = some (r, MF) → V G (RX12, cX12_kepts, (some .int), 0, 0, 4, "kepts", []) (ρ0, M0, cvI r, MF) 4 [(0, .ref l0), (1, .int l1), (2, .int l2), (3, .int l3)] [] M := by
  intro n
  induction n with
  | zero => intro l0 l1 l2 l3 M h; cases h
  | succ n ih =>
    intro l0 l1 l2 l3 M h
    rw [f_X12_kepts_L4] at h
    refine v_iload_n dX12_kepts_4 rfl 3 rfl ?_
    refine v_bipush (v := 50) dX12_kepts_5 cb_50 ?_
    refine v_icmp_gt (tgt := 33) dX12_kepts_7 (by decide) (fun c3 => ?_) (fun c3 => ?_)
    · replace h := ifP c3 h
      refine v_iload_n dX12_kepts_33 rfl 2 rfl ?_
      cases h
      exact v_ireturn dX12_kepts_34
    · replace h := ifN c3 h
      refine v_iload_n dX12_kepts_10 rfl 2 rfl ?_
      refine v_aload_n dX12_kepts_11 rfl 0 rfl ?_
      obtain ⟨v1, e, h⟩ := bind_some h
      refine gt_X12_9 e dX12_kepts_12 ?_
      refine v_bipush (v := 104) dX12_kepts_15 cb_104 ?_
      refine v_bipush (v := 51) dX12_kepts_17 cb_51 ?_
      refine v_iload_n dX12_kepts_19 rfl 1 rfl ?_
      refine v_imul dX12_kepts_20 ?_
      refine v_iadd dX12_kepts_21 ?_
      refine v_iload_n dX12_kepts_22 rfl 3 rfl ?_
      refine v_iadd dX12_kepts_23 ?_
      obtain ⟨v2, e, h⟩ := bind_some h
      refine v_iaload dX12_kepts_24 e ?_
      refine v_iadd dX12_kepts_25 ?_
      refine v_istore_n (ls' := [(2, .int (l2 + v2)), (0, .ref l0), (1, .int l1), (3, .int l3)]) dX12_kepts_26 rfl (by decide) rfl ?_
      refine v_iinc (ls' := [(3, .int (l3 + 1)), (2, .int (l2 + v2)), (0, .ref l0), (1, .int l1)]) dX12_kepts_27 3 rfl (v := 1) ci_1 (by decide) rfl ?_
      refine v_goto (tgt := 4) dX12_kepts_30 (by decide) ?_
      refine v_sub [2, 3, 1, 0] rfl ?_
      exact ih l0 l1 (l2 + v2) (l3 + 1) M h
set_option maxHeartbeats 4000000 in
set_option maxRecDepth 100000 in
theorem w_X12_kepts {G : Gl} {ρ0 : Nat → Nat} {M0 MF : Mem} {r : Int32} (l0 : Nat) (l1 : Int32) (M : Mem) (h : f_X12_kepts l0 l1 M = some (r, MF)) : V G (RX12, cX12_kepts, (some .int), 0, 0, 4, "kepts", []) (ρ0, M0, cvI r, MF) 0 [(0, .ref l0), (1, .int l1)] [] M := by
  unfold f_X12_kepts at h
  replace h := (ifS h).2
  refine v_iconst (v := 0) dX12_kepts_0 ci_0 ?_
  refine v_istore_n (ls' := [(2, .int (0 : Int32)), (0, .ref l0), (1, .int l1)]) dX12_kepts_1 rfl (by decide) rfl ?_
  refine v_iconst (v := 1) dX12_kepts_2 ci_1 ?_
  refine v_istore_n (ls' := [(3, .int (1 : Int32)), (2, .int (0 : Int32)), (0, .ref l0), (1, .int l1)]) dX12_kepts_3 rfl (by decide) rfl ?_
  refine v_sub [2, 3, 1, 0] rfl ?_
  exact w_X12_kepts_L4 FU l0 l1 (0 : Int32) (1 : Int32) M h
theorem kd_X12_kepts {l0 : Nat} {l1 : Int32} {M : Mem} {z : _} (h : f_X12_kepts l0 l1 M = some z) : (mK M l0).1 = 12 := by
  unfold f_X12_kepts at h
  exact (ifS h).1
theorem k_X12_kepts {G : Gl} {l0 : Nat} {l1 : Int32} {M MF : Mem} {r : Int32} (h : f_X12_kepts l0 l1 M = some (r, MF)) : CtrP G yX12_kepts cX12_kepts 4 (some .int) 0 0 [.ref l0, .int l1] M (cvI r) MF :=
  ctr_of (by decide +kernel) (Nat.le_of_ble_eq_true rfl) (fun ρ => w_X12_kepts l0 l1 M h)
theorem wd_X12_261 : wdV RX12 261 RX12 yX12_kepts cX12_kepts 4 (some .int) 1 := ⟨gwi 1561 (by decide +kernel) (by decide +kernel), gwi 1563 (by decide +kernel) (by decide +kernel), gwi 72 (by decide +kernel) (by decide +kernel), nw_X12, gwi 1564 (by decide +kernel) (by decide +kernel), ⟨rfl, by decide +kernel, by decide +kernel, by decide +kernel⟩⟩
theorem ca_X12_261 {G : Gl} {B : Bx} {cc : ByteArray} {ret : Option FieldType} {fr lo nL : Nat} {mn : String} {hh : List (Nat × Nat × Nat × Nat)} {pc : Nat} {ls : List (Nat × Value)} {st : List Value} {M M1 : Mem} {l0 : Nat} {l1 : Int32} {x : Int32} (e : f_X12_kepts l0 l1 M = some (x, M1)) (hd : decode cc pc = .ok (.invokevirtual 261, 3)) (hcat : (st.map fun v => v.category).sum ≤ 8) (hR : 0 + 1 ≤ fr ∧ 8 + (4 + 11) + 0 ≤ lo) (k : V G (RX12, cc, ret, fr, lo, nL, mn, hh) B (pc + 3) ls (.int x :: st) M1) : V G (RX12, cc, ret, fr, lo, nL, mn, hh) B pc ls (.int l1 :: .ref l0 :: st) M := v_callVi (As := [.int l1]) (k_X12_kepts e) wd_X12_261 clX12 (kd_X12_kepts e) hd rfl rfl hcat hR k
set_option maxHeartbeats 4000000 in
set_option maxRecDepth 100000 in
theorem w_X12_length {G : Gl} {ρ0 : Nat → Nat} {M0 MF : Mem} {r : Int32} (l0 : Nat) (l1 : Int32) (l2 : Int32) (M : Mem) (h : f_X12_length l0 l1 l2 M = some (r, MF)) : V G (RX12, cX12_length, (some .int), 2, 42, 3, "length", []) (ρ0, M0, cvI r, MF) 0 [(0, .ref l0), (1, .int l1), (2, .int l2)] [] M := by
  unfold f_X12_length at h
  replace h := (ifS h).2
  refine v_aload_n dX12_length_0 rfl 0 rfl ?_
  refine v_iconst (v := 0) dX12_length_1 ci_0 ?_
  obtain ⟨M1, e, h⟩ := bind_some h
  refine pt_X12_52 e dX12_length_2 ?_
  refine v_iload_n dX12_length_5 rfl 1 rfl ?_
  obtain ⟨v3, M2, e, h⟩ := bindP_some h
  refine ca_X12_191 e dX12_length_6 (Nat.le_of_ble_eq_true rfl) (by decide) ?_
  refine v_if_ne (tgt := 18) dX12_length_9 (by decide) (fun c7 => ?_) (fun c7 => ?_)
  · replace h := ifN c7 h
    refine v_iload_n dX12_length_18 rfl 2 rfl ?_
    rcases Decidable.em (l2 = 0) with c6_0 | c6_0
    · replace h := ifP c6_0 h
      refine v_tsw (tgt := 52) dX12_length_19 c6_0 (by decide) (by decide) rfl (by decide) ?_
      refine v_aload_n dX12_length_52 rfl 0 rfl ?_
      obtain ⟨v4, e, h⟩ := bind_some h
      refine gt_X12_9 e dX12_length_53 ?_
      refine v_bipush (v := 68) dX12_length_56 cb_68 ?_
      refine v_iload_n dX12_length_58 rfl 1 rfl ?_
      refine v_iadd dX12_length_59 ?_
      obtain ⟨v5, e, h⟩ := bind_some h
      refine v_iaload dX12_length_60 e ?_
      cases h
      exact v_ireturn dX12_length_61
    replace h := ifN c6_0 h
    rcases Decidable.em (l2 = 1) with c6_1 | c6_1
    · replace h := ifP c6_1 h
      refine v_tsw (tgt := 62) dX12_length_19 c6_1 (by decide) (by decide) rfl (by decide) ?_
      refine v_aload_n dX12_length_62 rfl 0 rfl ?_
      obtain ⟨v4, e, h⟩ := bind_some h
      refine gt_X12_9 e dX12_length_63 ?_
      refine v_bipush (v := 56) dX12_length_66 cb_56 ?_
      refine v_iload_n dX12_length_68 rfl 1 rfl ?_
      refine v_iadd dX12_length_69 ?_
      obtain ⟨v5, e, h⟩ := bind_some h
      refine v_iaload dX12_length_70 e ?_
      cases h
      exact v_ireturn dX12_length_71
    replace h := ifN c6_1 h
    rcases Decidable.em (l2 = 2) with c6_2 | c6_2
    · replace h := ifP c6_2 h
      refine v_tsw (tgt := 72) dX12_length_19 c6_2 (by decide) (by decide) rfl (by decide) ?_
      refine v_aload_n dX12_length_72 rfl 0 rfl ?_
      obtain ⟨v4, e, h⟩ := bind_some h
      refine gt_X12_9 e dX12_length_73 ?_
      refine v_bipush (v := 62) dX12_length_76 cb_62 ?_
      refine v_iload_n dX12_length_78 rfl 1 rfl ?_
      refine v_iadd dX12_length_79 ?_
      obtain ⟨v5, e, h⟩ := bind_some h
      refine v_iaload dX12_length_80 e ?_
      cases h
      exact v_ireturn dX12_length_81
    replace h := ifN c6_2 h
    rcases Decidable.em (l2 = 3) with c6_3 | c6_3
    · replace h := ifP c6_3 h
      refine v_tsw (tgt := 82) dX12_length_19 c6_3 (by decide) (by decide) rfl (by decide) ?_
      refine v_aload_n dX12_length_82 rfl 0 rfl ?_
      refine v_iload_n dX12_length_83 rfl 1 rfl ?_
      obtain ⟨v5, M4, e, h⟩ := bindP_some h
      refine ca_X12_261 e dX12_length_84 (Nat.le_of_ble_eq_true rfl) (by decide) ?_
      cases h
      exact v_ireturn dX12_length_87
    replace h := ifN c6_3 h
    rcases Decidable.em (l2 = 4) with c6_4 | c6_4
    · replace h := ifP c6_4 h
      refine v_tsw (tgt := 88) dX12_length_19 c6_4 (by decide) (by decide) rfl (by decide) ?_
      refine v_aload_n dX12_length_88 rfl 0 rfl ?_
      obtain ⟨v4, e, h⟩ := bind_some h
      refine gt_X12_9 e dX12_length_89 ?_
      refine v_bipush (v := 50) dX12_length_92 cb_50 ?_
      refine v_iload_n dX12_length_94 rfl 1 rfl ?_
      refine v_iadd dX12_length_95 ?_
      obtain ⟨v5, e, h⟩ := bind_some h
      refine v_iaload dX12_length_96 e ?_
      cases h
      exact v_ireturn dX12_length_97
    replace h := ifN c6_4 h
    refine v_tswOut (tgt := 98) dX12_length_19 (fun k h1 h2 => by rcases (show k = 0 ∨ k = 1 ∨ k = 2 ∨ k = 3 ∨ k = 4 by omega) with rfl | rfl | rfl | rfl | rfl <;> assumption) (by decide) ?_
    refine v_aload_n dX12_length_98 rfl 0 rfl ?_
    refine v_iconst (v := 2) dX12_length_99 ci_2 ?_
    obtain ⟨v5, M4, e, h⟩ := bindP_some h
    refine ca_X12_86 e dX12_length_100 (Nat.le_of_ble_eq_true rfl) (by decide) ?_
    cases h
    exact v_ireturn dX12_length_103
  · replace h := ifP c7 h
    refine v_aload_n dX12_length_12 rfl 0 rfl ?_
    refine v_iconst (v := 1) dX12_length_13 ci_1 ?_
    obtain ⟨v5, M4, e, h⟩ := bindP_some h
    refine ca_X12_86 e dX12_length_14 (Nat.le_of_ble_eq_true rfl) (by decide) ?_
    cases h
    exact v_ireturn dX12_length_17
theorem kd_X12_length {l0 : Nat} {l1 : Int32} {l2 : Int32} {M : Mem} {z : _} (h : f_X12_length l0 l1 l2 M = some z) : (mK M l0).1 = 12 := by
  unfold f_X12_length at h
  exact (ifS h).1
theorem k_X12_length {G : Gl} {l0 : Nat} {l1 : Int32} {l2 : Int32} {M MF : Mem} {r : Int32} (h : f_X12_length l0 l1 l2 M = some (r, MF)) : CtrP G yX12_length cX12_length 3 (some .int) 2 42 [.ref l0, .int l1, .int l2] M (cvI r) MF :=
  ctr_of (by decide +kernel) (Nat.le_of_ble_eq_true rfl) (fun ρ => w_X12_length l0 l1 l2 M h)
set_option maxHeartbeats 4000000 in
set_option maxRecDepth 100000 in
theorem w_X12_inFlight_J31 {G : Gl} {ρ0 : Nat → Nat} {M0 MF : Mem} {r : Int32} (l0 : Nat) (M : Mem) (h : f_X12_inFlight_J31 l0 M = some (r, MF)) : V G (RX12, cX12_inFlight, (some .int), 2, 42, 5, "inFlight", []) (ρ0, M0, cvI r, MF) 31 [(0, .ref l0)] [] M := by
  unfold f_X12_inFlight_J31 at h
  refine v_aload_n dX12_inFlight_31 rfl 0 rfl ?_
  refine v_iconst (v := 1) dX12_inFlight_32 ci_1 ?_
  obtain ⟨v2, M1, e, h⟩ := bindP_some h
  refine ca_X12_86 e dX12_inFlight_33 (Nat.le_of_ble_eq_true rfl) (by decide) ?_
  cases h
  exact v_ireturn dX12_inFlight_36
set_option maxHeartbeats 4000000 in
set_option maxRecDepth 100000 in
theorem w_X12_inFlight {G : Gl} {ρ0 : Nat → Nat} {M0 MF : Mem} {r : Int32} (l0 : Nat) (l1 : Int32) (l2 : Int32) (l3 : Int32) (M : Mem) (h : f_X12_inFlight l0 l1 l2 l3 M = some (r, MF)) : V G (RX12, cX12_inFlight, (some .int), 2, 42, 5, "inFlight", []) (ρ0, M0, cvI r, MF) 0 [(0, .ref l0), (1, .int l1), (2, .int l2), (3, .int l3)] [] M := by
  unfold f_X12_inFlight at h
  replace h := (ifS h).2
  refine v_aload_n dX12_inFlight_0 rfl 0 rfl ?_
  refine v_iconst (v := 0) dX12_inFlight_1 ci_0 ?_
  obtain ⟨M1, e, h⟩ := bind_some h
  refine pt_X12_52 e dX12_inFlight_2 ?_
  refine v_iload_n dX12_inFlight_5 rfl 1 rfl ?_
  obtain ⟨v3, M2, e, h⟩ := bindP_some h
  refine ca_X12_191 e dX12_inFlight_6 (Nat.le_of_ble_eq_true rfl) (by decide) ?_
  refine v_if_eq (tgt := 31) dX12_inFlight_9 (by decide) (fun c12 => ?_) (fun c12 => ?_)
  · replace h := ifP c12 h
    refine v_sub [0] rfl ?_
    exact w_X12_inFlight_J31 l0 M2 h
  · replace h := ifN c12 h
    refine v_iload_n dX12_inFlight_12 rfl 2 rfl ?_
    refine v_iconst (v := 0) dX12_inFlight_13 ci_0 ?_
    refine v_aload_n dX12_inFlight_14 rfl 0 rfl ?_
    obtain ⟨v4, e, h⟩ := bind_some h
    refine gt_X12_9 e dX12_inFlight_15 ?_
    refine v_bipush (v := 56) dX12_inFlight_18 cb_56 ?_
    refine v_iload_n dX12_inFlight_20 rfl 1 rfl ?_
    refine v_iadd dX12_inFlight_21 ?_
    obtain ⟨v5, e, h⟩ := bind_some h
    refine v_iaload dX12_inFlight_22 e ?_
    refine v_iconst (v := 1) dX12_inFlight_23 ci_1 ?_
    refine v_isub dX12_inFlight_24 ?_
    obtain ⟨v7, M6, e, h⟩ := bindP_some h
    refine ca_X12_55 e dX12_inFlight_25 (Nat.le_of_ble_eq_true rfl) (by decide) ?_
    refine v_if_ne (tgt := 37) dX12_inFlight_28 (by decide) (fun c11 => ?_) (fun c11 => ?_)
    · replace h := ifN c11 h
      refine v_iconst (v := 5) dX12_inFlight_37 ci_5 ?_
      refine v_iload_n dX12_inFlight_38 rfl 1 rfl ?_
      refine v_imul dX12_inFlight_39 ?_
      refine v_iload_n dX12_inFlight_40 rfl 2 rfl ?_
      refine v_iadd dX12_inFlight_41 ?_
      refine v_istore (ls' := [(4, .int (((5 : Int32) * l1) + l2)), (0, .ref l0), (1, .int l1), (2, .int l2), (3, .int l3)]) dX12_inFlight_42 (by decide) rfl ?_
      refine v_iload_n dX12_inFlight_44 rfl 4 rfl ?_
      rcases Decidable.em (l3 = 0) with c10_0 | c10_0
      · replace h := ifP c10_0 h
        refine v_tsw (tgt := 80) dX12_inFlight_45 c10_0 (by decide) (by decide) rfl (by decide) ?_
        refine v_aload_n dX12_inFlight_80 rfl 1 rfl ?_
        obtain ⟨v8, e, h⟩ := bind_some h
        refine gt_X12_9 e dX12_inFlight_81 ?_
        refine v_sipush (v := 554) dX12_inFlight_84 cs_554 ?_
        refine v_iload dX12_inFlight_87 0 rfl ?_
        refine v_iadd dX12_inFlight_89 ?_
        obtain ⟨v9, e, h⟩ := bind_some h
        refine v_iaload dX12_inFlight_90 e ?_
        cases h
        exact v_ireturn dX12_inFlight_91
      replace h := ifN c10_0 h
      rcases Decidable.em (l3 = 1) with c10_1 | c10_1
      · replace h := ifP c10_1 h
        refine v_tsw (tgt := 92) dX12_inFlight_45 c10_1 (by decide) (by decide) rfl (by decide) ?_
        refine v_aload_n dX12_inFlight_92 rfl 1 rfl ?_
        obtain ⟨v8, e, h⟩ := bind_some h
        refine gt_X12_9 e dX12_inFlight_93 ?_
        refine v_sipush (v := 584) dX12_inFlight_96 cs_584 ?_
        refine v_iload dX12_inFlight_99 0 rfl ?_
        refine v_iadd dX12_inFlight_101 ?_
        obtain ⟨v9, e, h⟩ := bind_some h
        refine v_iaload dX12_inFlight_102 e ?_
        cases h
        exact v_ireturn dX12_inFlight_103
      replace h := ifN c10_1 h
      rcases Decidable.em (l3 = 2) with c10_2 | c10_2
      · replace h := ifP c10_2 h
        refine v_tsw (tgt := 104) dX12_inFlight_45 c10_2 (by decide) (by decide) rfl (by decide) ?_
        refine v_aload_n dX12_inFlight_104 rfl 1 rfl ?_
        obtain ⟨v8, e, h⟩ := bind_some h
        refine gt_X12_9 e dX12_inFlight_105 ?_
        refine v_sipush (v := 614) dX12_inFlight_108 cs_614 ?_
        refine v_iload dX12_inFlight_111 0 rfl ?_
        refine v_iadd dX12_inFlight_113 ?_
        obtain ⟨v9, e, h⟩ := bind_some h
        refine v_iaload dX12_inFlight_114 e ?_
        cases h
        exact v_ireturn dX12_inFlight_115
      replace h := ifN c10_2 h
      rcases Decidable.em (l3 = 3) with c10_3 | c10_3
      · replace h := ifP c10_3 h
        refine v_tsw (tgt := 116) dX12_inFlight_45 c10_3 (by decide) (by decide) rfl (by decide) ?_
        refine v_aload_n dX12_inFlight_116 rfl 1 rfl ?_
        obtain ⟨v8, e, h⟩ := bind_some h
        refine gt_X12_9 e dX12_inFlight_117 ?_
        refine v_sipush (v := 674) dX12_inFlight_120 cs_674 ?_
        refine v_iload dX12_inFlight_123 0 rfl ?_
        refine v_iadd dX12_inFlight_125 ?_
        obtain ⟨v9, e, h⟩ := bind_some h
        refine v_iaload dX12_inFlight_126 e ?_
        cases h
        exact v_ireturn dX12_inFlight_127
      replace h := ifN c10_3 h
      rcases Decidable.em (l3 = 4) with c10_4 | c10_4
      · replace h := ifP c10_4 h
        refine v_tsw (tgt := 128) dX12_inFlight_45 c10_4 (by decide) (by decide) rfl (by decide) ?_
        refine v_aload_n dX12_inFlight_128 rfl 1 rfl ?_
        obtain ⟨v8, e, h⟩ := bind_some h
        refine gt_X12_9 e dX12_inFlight_129 ?_
        refine v_sipush (v := 704) dX12_inFlight_132 cs_704 ?_
        refine v_iload dX12_inFlight_135 0 rfl ?_
        refine v_iadd dX12_inFlight_137 ?_
        obtain ⟨v9, e, h⟩ := bind_some h
        refine v_iaload dX12_inFlight_138 e ?_
        cases h
        exact v_ireturn dX12_inFlight_139
      replace h := ifN c10_4 h
      refine v_tswOut (tgt := 140) dX12_inFlight_45 (fun k h1 h2 => by rcases (show k = 0 ∨ k = 1 ∨ k = 2 ∨ k = 3 ∨ k = 4 by omega) with rfl | rfl | rfl | rfl | rfl <;> assumption) (by decide) ?_
      refine v_aload_n dX12_inFlight_140 rfl 1 rfl ?_
      refine v_iconst (v := 2) dX12_inFlight_141 ci_2 ?_
      obtain ⟨v9, M8, e, h⟩ := bindP_some h
      refine ca_X12_86 e dX12_inFlight_142 (Nat.le_of_ble_eq_true rfl) (by decide) ?_
      cases h
      exact v_ireturn dX12_inFlight_145
    · replace h := ifP c11 h
      refine v_sub [0] rfl ?_
      exact w_X12_inFlight_J31 l0 M6 h
theorem kd_X12_inFlight {l0 : Nat} {l1 : Int32} {l2 : Int32} {l3 : Int32} {M : Mem} {z : _} (h : f_X12_inFlight l0 l1 l2 l3 M = some z) : (mK M l0).1 = 12 := by
  unfold f_X12_inFlight at h
  exact (ifS h).1
theorem k_X12_inFlight {G : Gl} {l0 : Nat} {l1 : Int32} {l2 : Int32} {l3 : Int32} {M MF : Mem} {r : Int32} (h : f_X12_inFlight l0 l1 l2 l3 M = some (r, MF)) : CtrP G yX12_inFlight cX12_inFlight 5 (some .int) 2 42 [.ref l0, .int l1, .int l2, .int l3] M (cvI r) MF :=
  ctr_of (by decide +kernel) (Nat.le_of_ble_eq_true rfl) (fun ρ => w_X12_inFlight l0 l1 l2 l3 M h)
set_option maxHeartbeats 4000000 in
set_option maxRecDepth 100000 in
theorem w_X12_timesOut_L2 {G : Gl} {ρ0 : Nat → Nat} {M0 MF : Mem} {r : Unit} : ∀ (n : Nat) (l0 : Nat) (l1 : Int32) (l2 : Int32) (M : Mem), f_X12_timesOut_L2 n l0 l1 l2 M = some MF → V G (RX12, cX12_timesOut, none, 5, 127, 3, "timesOut", []) (ρ0, M0, cvV r, MF) 2 [(0, .ref l0), (1, .int l1), (2, .int l2)] [] M := by
  intro n
  induction n with
  | zero => intro l0 l1 l2 M h; cases h
  | succ n ih =>
    intro l0 l1 l2 M h
    rw [f_X12_timesOut_L2] at h
    refine v_iload_n dX12_timesOut_2 rfl 2 rfl ?_
    refine v_aload_n dX12_timesOut_3 rfl 0 rfl ?_
    obtain ⟨v1, e, h⟩ := bind_some h
    refine gt_X12_9 e dX12_timesOut_4 ?_
    refine v_bipush (v := 56) dX12_timesOut_7 cb_56 ?_
    refine v_iload_n dX12_timesOut_9 rfl 1 rfl ?_
    refine v_iadd dX12_timesOut_10 ?_
    obtain ⟨v2, e, h⟩ := bind_some h
    refine v_iaload dX12_timesOut_11 e ?_
    refine v_icmp_ge (tgt := 57) dX12_timesOut_12 (by decide) (fun c11 => ?_) (fun c11 => ?_)
    · replace h := ifP c11 h
      cases h
      exact v_vreturn dX12_timesOut_57
    · replace h := ifN c11 h
      refine v_aload_n dX12_timesOut_15 rfl 0 rfl ?_
      obtain ⟨v3, e, h⟩ := bind_some h
      refine gt_X12_9 e dX12_timesOut_16 ?_
      refine v_iconst (v := 0) dX12_timesOut_19 ci_0 ?_
      obtain ⟨v4, e, h⟩ := bind_some h
      refine v_iaload dX12_timesOut_20 e ?_
      refine v_aload_n dX12_timesOut_21 rfl 0 rfl ?_
      obtain ⟨v5, e, h⟩ := bind_some h
      refine gt_X12_9 e dX12_timesOut_22 ?_
      refine v_sipush (v := 704) dX12_timesOut_25 cs_704 ?_
      refine v_iconst (v := 5) dX12_timesOut_28 ci_5 ?_
      refine v_iload_n dX12_timesOut_29 rfl 1 rfl ?_
      refine v_imul dX12_timesOut_30 ?_
      refine v_iadd dX12_timesOut_31 ?_
      refine v_iload_n dX12_timesOut_32 rfl 2 rfl ?_
      refine v_iadd dX12_timesOut_33 ?_
      obtain ⟨v6, e, h⟩ := bind_some h
      refine v_iaload dX12_timesOut_34 e ?_
      refine v_isub dX12_timesOut_35 ?_
      refine v_aload_n dX12_timesOut_36 rfl 0 rfl ?_
      obtain ⟨v7, e, h⟩ := bind_some h
      refine gt_X12_9 e dX12_timesOut_37 ?_
      refine v_iconst (v := 2) dX12_timesOut_40 ci_2 ?_
      obtain ⟨v8, e, h⟩ := bind_some h
      refine v_iaload dX12_timesOut_41 e ?_
      refine v_icmp_lt (tgt := 51) dX12_timesOut_42 (by decide) (fun c10 => ?_) (fun c10 => ?_)
      · replace h := ifP c10 h
        refine v_iinc (ls' := [(2, .int (l2 + 1)), (0, .ref l0), (1, .int l1)]) dX12_timesOut_51 2 rfl (v := 1) ci_1 (by decide) rfl ?_
        refine v_goto (tgt := 2) dX12_timesOut_54 (by decide) ?_
        refine v_sub [1, 2, 0] rfl ?_
        exact ih l0 l1 (l2 + 1) M h
      · replace h := ifN c10 h
        refine v_aload_n dX12_timesOut_45 rfl 0 rfl ?_
        refine v_iload_n dX12_timesOut_46 rfl 1 rfl ?_
        refine v_iload_n dX12_timesOut_47 rfl 2 rfl ?_
        obtain ⟨M9, e, h⟩ := bind_some h
        refine ca_X12_197 e dX12_timesOut_48 (Nat.le_of_ble_eq_true rfl) (by decide) ?_
        refine v_iinc (ls' := [(2, .int (l2 + 1)), (0, .ref l0), (1, .int l1)]) dX12_timesOut_51 2 rfl (v := 1) ci_1 (by decide) rfl ?_
        refine v_goto (tgt := 2) dX12_timesOut_54 (by decide) ?_
        refine v_sub [1, 2, 0] rfl ?_
        exact ih l0 l1 (l2 + 1) M9 h
set_option maxHeartbeats 4000000 in
set_option maxRecDepth 100000 in
theorem w_X12_timesOut {G : Gl} {ρ0 : Nat → Nat} {M0 MF : Mem} {r : Unit} (l0 : Nat) (l1 : Int32) (M : Mem) (h : f_X12_timesOut l0 l1 M = some MF) : V G (RX12, cX12_timesOut, none, 5, 127, 3, "timesOut", []) (ρ0, M0, cvV r, MF) 0 [(0, .ref l0), (1, .int l1)] [] M := by
  unfold f_X12_timesOut at h
  replace h := (ifS h).2
  refine v_iconst (v := 0) dX12_timesOut_0 ci_0 ?_
  refine v_istore_n (ls' := [(2, .int (0 : Int32)), (0, .ref l0), (1, .int l1)]) dX12_timesOut_1 rfl (by decide) rfl ?_
  refine v_sub [1, 2, 0] rfl ?_
  exact w_X12_timesOut_L2 FU l0 l1 (0 : Int32) M h
theorem kd_X12_timesOut {l0 : Nat} {l1 : Int32} {M : Mem} {z : _} (h : f_X12_timesOut l0 l1 M = some z) : (mK M l0).1 = 12 := by
  unfold f_X12_timesOut at h
  exact (ifS h).1
theorem k_X12_timesOut {G : Gl} {l0 : Nat} {l1 : Int32} {M MF : Mem} (h : f_X12_timesOut l0 l1 M = some MF) : CtrP G yX12_timesOut cX12_timesOut 3 none 5 127 [.ref l0, .int l1] M (cvV ()) MF :=
  ctr_of (by decide +kernel) (Nat.le_of_ble_eq_true rfl) (fun ρ => w_X12_timesOut (r := ()) l0 l1 M h)
theorem wd_X12_264 : wdV RX12 264 RX12 yX12_timesOut cX12_timesOut 3 none 1 := ⟨gwi 1577 (by decide +kernel) (by decide +kernel), gwi 1579 (by decide +kernel) (by decide +kernel), gwi 74 (by decide +kernel) (by decide +kernel), nw_X12, gwi 1580 (by decide +kernel) (by decide +kernel), ⟨rfl, by decide +kernel, by decide +kernel, by decide +kernel⟩⟩
theorem ca_X12_264 {G : Gl} {B : Bx} {cc : ByteArray} {ret : Option FieldType} {fr lo nL : Nat} {mn : String} {hh : List (Nat × Nat × Nat × Nat)} {pc : Nat} {ls : List (Nat × Value)} {st : List Value} {M M1 : Mem} {l0 : Nat} {l1 : Int32} (e : f_X12_timesOut l0 l1 M = some M1) (hd : decode cc pc = .ok (.invokevirtual 264, 3)) (hcat : (st.map fun v => v.category).sum ≤ 8) (hR : 5 + 1 ≤ fr ∧ 8 + (3 + 11) + 127 ≤ lo) (k : V G (RX12, cc, ret, fr, lo, nL, mn, hh) B (pc + 3) ls (st) M1) : V G (RX12, cc, ret, fr, lo, nL, mn, hh) B pc ls (.int l1 :: .ref l0 :: st) M := v_callV0 (As := [.int l1]) (k_X12_timesOut e) wd_X12_264 clX12 (kd_X12_timesOut e) hd rfl rfl hcat hR k
set_option maxHeartbeats 4000000 in
set_option maxRecDepth 100000 in
theorem w_X12_ticks_L103 {G : Gl} {ρ0 : Nat → Nat} {M0 MF : Mem} {r : Unit} : ∀ (n : Nat) (l0 : Nat) (l1 : Int32) (M : Mem), f_X12_ticks_L103 n l0 l1 M = some MF → V G (RX12, cX12_ticks, none, 6, 149, 2, "ticks", []) (ρ0, M0, cvV r, MF) 103 [(0, .ref l0), (1, .int l1)] [] M := by
  intro n
  induction n with
  | zero => intro l0 l1 M h; cases h
  | succ n ih =>
    intro l0 l1 M h
    rw [f_X12_ticks_L103] at h
    refine v_iload_n dX12_ticks_103 rfl 1 rfl ?_
    refine v_bipush (v := 6) dX12_ticks_104 cb_6 ?_
    refine v_icmp_ge (tgt := 177) dX12_ticks_106 (by decide) (fun c18 => ?_) (fun c18 => ?_)
    · replace h := ifP c18 h
      cases h
      exact v_vreturn dX12_ticks_177
    · replace h := ifN c18 h
      refine v_aload_n dX12_ticks_109 rfl 0 rfl ?_
      obtain ⟨v1, e, h⟩ := bind_some h
      refine gt_X12_9 e dX12_ticks_110 ?_
      refine v_bipush (v := 20) dX12_ticks_113 cb_20 ?_
      refine v_iload_n dX12_ticks_115 rfl 1 rfl ?_
      refine v_iadd dX12_ticks_116 ?_
      obtain ⟨v2, e, h⟩ := bind_some h
      refine v_iaload dX12_ticks_117 e ?_
      refine v_iconst (v := 1) dX12_ticks_118 ci_1 ?_
      refine v_icmp_ne (tgt := 171) dX12_ticks_119 (by decide) (fun c17 => ?_) (fun c17 => ?_)
      · replace h := ifN c17 h
        refine v_iinc (ls' := [(1, .int (l1 + 1)), (0, .ref l0)]) dX12_ticks_171 1 rfl (v := 1) ci_1 (by decide) rfl ?_
        refine v_goto (tgt := 103) dX12_ticks_174 (by decide) ?_
        refine v_sub [1, 0] rfl ?_
        exact ih l0 (l1 + 1) M h
      · replace h := ifP c17 h
        refine v_aload_n dX12_ticks_122 rfl 0 rfl ?_
        refine v_iload_n dX12_ticks_123 rfl 1 rfl ?_
        obtain ⟨v4, M3, e, h⟩ := bindP_some h
        refine ca_X12_107 e dX12_ticks_124 (Nat.le_of_ble_eq_true rfl) (by decide) ?_
        refine v_if_ne (tgt := 171) dX12_ticks_127 (by decide) (fun c16 => ?_) (fun c16 => ?_)
        · replace h := ifN c16 h
          refine v_iinc (ls' := [(1, .int (l1 + 1)), (0, .ref l0)]) dX12_ticks_171 1 rfl (v := 1) ci_1 (by decide) rfl ?_
          refine v_goto (tgt := 103) dX12_ticks_174 (by decide) ?_
          refine v_sub [1, 0] rfl ?_
          exact ih l0 (l1 + 1) M3 h
        · replace h := ifP c16 h
          refine v_aload_n dX12_ticks_130 rfl 0 rfl ?_
          obtain ⟨v5, e, h⟩ := bind_some h
          refine gt_X12_9 e dX12_ticks_131 ?_
          refine v_iconst (v := 0) dX12_ticks_134 ci_0 ?_
          obtain ⟨v6, e, h⟩ := bind_some h
          refine v_iaload dX12_ticks_135 e ?_
          refine v_aload_n dX12_ticks_136 rfl 0 rfl ?_
          obtain ⟨v7, e, h⟩ := bind_some h
          refine gt_X12_9 e dX12_ticks_137 ?_
          refine v_bipush (v := 38) dX12_ticks_140 cb_38 ?_
          refine v_iload_n dX12_ticks_142 rfl 1 rfl ?_
          refine v_iadd dX12_ticks_143 ?_
          obtain ⟨v8, e, h⟩ := bind_some h
          refine v_iaload dX12_ticks_144 e ?_
          refine v_isub dX12_ticks_145 ?_
          refine v_aload_n dX12_ticks_146 rfl 0 rfl ?_
          obtain ⟨v9, e, h⟩ := bind_some h
          refine gt_X12_9 e dX12_ticks_147 ?_
          refine v_iconst (v := 3) dX12_ticks_150 ci_3 ?_
          obtain ⟨v10, e, h⟩ := bind_some h
          refine v_iaload dX12_ticks_151 e ?_
          refine v_icmp_lt (tgt := 171) dX12_ticks_152 (by decide) (fun c15 => ?_) (fun c15 => ?_)
          · replace h := ifP c15 h
            refine v_iinc (ls' := [(1, .int (l1 + 1)), (0, .ref l0)]) dX12_ticks_171 1 rfl (v := 1) ci_1 (by decide) rfl ?_
            refine v_goto (tgt := 103) dX12_ticks_174 (by decide) ?_
            refine v_sub [1, 0] rfl ?_
            exact ih l0 (l1 + 1) M3 h
          · replace h := ifN c15 h
            refine v_aload_n dX12_ticks_155 rfl 0 rfl ?_
            refine v_iload_n dX12_ticks_156 rfl 1 rfl ?_
            obtain ⟨M11, e, h⟩ := bind_some h
            refine ca_X12_181 e dX12_ticks_157 (Nat.le_of_ble_eq_true rfl) (by decide) ?_
            refine v_aload_n dX12_ticks_160 rfl 0 rfl ?_
            obtain ⟨v12, e, h⟩ := bind_some h
            refine gt_X12_9 e dX12_ticks_161 ?_
            refine v_bipush (v := 12) dX12_ticks_164 cb_12 ?_
            refine v_dup2 dX12_ticks_166 rfl rfl ?_
            obtain ⟨v13, e, h⟩ := bind_some h
            refine v_iaload dX12_ticks_167 e ?_
            refine v_iconst (v := 1) dX12_ticks_168 ci_1 ?_
            refine v_iadd dX12_ticks_169 ?_
            obtain ⟨M14, e, h⟩ := bind_some h
            refine v_iastore dX12_ticks_170 e ?_
            refine v_iinc (ls' := [(1, .int (l1 + 1)), (0, .ref l0)]) dX12_ticks_171 1 rfl (v := 1) ci_1 (by decide) rfl ?_
            refine v_goto (tgt := 103) dX12_ticks_174 (by decide) ?_
            refine v_sub [1, 0] rfl ?_
            exact ih l0 (l1 + 1) M14 h
set_option maxHeartbeats 4000000 in
set_option maxRecDepth 100000 in
theorem w_X12_ticks_L48 {G : Gl} {ρ0 : Nat → Nat} {M0 MF : Mem} {r : Unit} : ∀ (n : Nat) (l0 : Nat) (l1 : Int32) (M : Mem), f_X12_ticks_L48 n l0 l1 M = some MF → V G (RX12, cX12_ticks, none, 6, 149, 2, "ticks", []) (ρ0, M0, cvV r, MF) 48 [(0, .ref l0), (1, .int l1)] [] M := by
  intro n
  induction n with
  | zero => intro l0 l1 M h; cases h
  | succ n ih =>
    intro l0 l1 M h
    rw [f_X12_ticks_L48] at h
    refine v_iload_n dX12_ticks_48 rfl 1 rfl ?_
    refine v_bipush (v := 6) dX12_ticks_49 cb_6 ?_
    refine v_icmp_ge (tgt := 101) dX12_ticks_51 (by decide) (fun c12 => ?_) (fun c12 => ?_)
    · replace h := ifP c12 h
      refine v_iconst (v := 0) dX12_ticks_101 ci_0 ?_
      refine v_istore_n (ls' := [(1, .int (0 : Int32)), (0, .ref l0)]) dX12_ticks_102 rfl (by decide) rfl ?_
      refine v_sub [1, 0] rfl ?_
      exact w_X12_ticks_L103 FU l0 (0 : Int32) M h
    · replace h := ifN c12 h
      refine v_aload_n dX12_ticks_54 rfl 0 rfl ?_
      obtain ⟨v1, e, h⟩ := bind_some h
      refine gt_X12_17 e dX12_ticks_55 ?_
      refine v_iload_n dX12_ticks_58 rfl 1 rfl ?_
      refine v_aload_n dX12_ticks_59 rfl 0 rfl ?_
      obtain ⟨v2, e, h⟩ := bind_some h
      refine gt_X12_17 e dX12_ticks_60 ?_
      refine v_iload_n dX12_ticks_63 rfl 1 rfl ?_
      obtain ⟨v3, e, h⟩ := bind_some h
      refine v_faload dX12_ticks_64 e ?_
      refine kf_X12_267 dX12_ticks_65 ?_
      obtain ⟨v4, e, h⟩ := bind_some h
      refine v_fmul dX12_ticks_68 e ?_
      refine v_aload_n dX12_ticks_69 rfl 0 rfl ?_
      obtain ⟨v5, e, h⟩ := bind_some h
      refine gt_X12_9 e dX12_ticks_70 ?_
      refine v_bipush (v := 80) dX12_ticks_73 cb_80 ?_
      refine v_iload_n dX12_ticks_75 rfl 1 rfl ?_
      refine v_iadd dX12_ticks_76 ?_
      obtain ⟨v6, e, h⟩ := bind_some h
      refine v_iaload dX12_ticks_77 e ?_
      refine v_i2f dX12_ticks_78 ?_
      refine kf_X12_268 dX12_ticks_79 ?_
      obtain ⟨v7, e, h⟩ := bind_some h
      refine v_fmul dX12_ticks_82 e ?_
      obtain ⟨v8, e, h⟩ := bind_some h
      refine v_fadd dX12_ticks_83 e ?_
      obtain ⟨M9, e, h⟩ := bind_some h
      refine v_fastore dX12_ticks_84 e ?_
      refine v_aload_n dX12_ticks_85 rfl 0 rfl ?_
      obtain ⟨v10, e, h⟩ := bind_some h
      refine gt_X12_9 e dX12_ticks_86 ?_
      refine v_bipush (v := 80) dX12_ticks_89 cb_80 ?_
      refine v_iload_n dX12_ticks_91 rfl 1 rfl ?_
      refine v_iadd dX12_ticks_92 ?_
      refine v_iconst (v := 0) dX12_ticks_93 ci_0 ?_
      obtain ⟨M11, e, h⟩ := bind_some h
      refine v_iastore dX12_ticks_94 e ?_
      refine v_iinc (ls' := [(1, .int (l1 + 1)), (0, .ref l0)]) dX12_ticks_95 1 rfl (v := 1) ci_1 (by decide) rfl ?_
      refine v_goto (tgt := 48) dX12_ticks_98 (by decide) ?_
      refine v_sub [1, 0] rfl ?_
      exact ih l0 (l1 + 1) M11 h
set_option maxHeartbeats 4000000 in
set_option maxRecDepth 100000 in
theorem w_X12_ticks_L12 {G : Gl} {ρ0 : Nat → Nat} {M0 MF : Mem} {r : Unit} : ∀ (n : Nat) (l0 : Nat) (l1 : Int32) (M : Mem), f_X12_ticks_L12 n l0 l1 M = some MF → V G (RX12, cX12_ticks, none, 6, 149, 2, "ticks", []) (ρ0, M0, cvV r, MF) 12 [(0, .ref l0), (1, .int l1)] [] M := by
  intro n
  induction n with
  | zero => intro l0 l1 M h; cases h
  | succ n ih =>
    intro l0 l1 M h
    rw [f_X12_ticks_L12] at h
    refine v_iload_n dX12_ticks_12 rfl 1 rfl ?_
    refine v_bipush (v := 6) dX12_ticks_13 cb_6 ?_
    refine v_icmp_ge (tgt := 46) dX12_ticks_15 (by decide) (fun c8 => ?_) (fun c8 => ?_)
    · replace h := ifP c8 h
      refine v_iconst (v := 0) dX12_ticks_46 ci_0 ?_
      refine v_istore_n (ls' := [(1, .int (0 : Int32)), (0, .ref l0)]) dX12_ticks_47 rfl (by decide) rfl ?_
      refine v_sub [1, 0] rfl ?_
      exact w_X12_ticks_L48 FU l0 (0 : Int32) M h
    · replace h := ifN c8 h
      refine v_aload_n dX12_ticks_18 rfl 0 rfl ?_
      refine v_iload_n dX12_ticks_19 rfl 1 rfl ?_
      obtain ⟨v2, M1, e, h⟩ := bindP_some h
      refine ca_X12_107 e dX12_ticks_20 (Nat.le_of_ble_eq_true rfl) (by decide) ?_
      refine v_if_eq (tgt := 40) dX12_ticks_23 (by decide) (fun c7 => ?_) (fun c7 => ?_)
      · replace h := ifP c7 h
        refine v_iinc (ls' := [(1, .int (l1 + 1)), (0, .ref l0)]) dX12_ticks_40 1 rfl (v := 1) ci_1 (by decide) rfl ?_
        refine v_goto (tgt := 12) dX12_ticks_43 (by decide) ?_
        refine v_sub [1, 0] rfl ?_
        exact ih l0 (l1 + 1) M1 h
      · replace h := ifN c7 h
        refine v_aload_n dX12_ticks_26 rfl 0 rfl ?_
        obtain ⟨v3, e, h⟩ := bind_some h
        refine gt_X12_9 e dX12_ticks_27 ?_
        refine v_iconst (v := 2) dX12_ticks_30 ci_2 ?_
        obtain ⟨v4, e, h⟩ := bind_some h
        refine v_iaload dX12_ticks_31 e ?_
        refine v_if_le (tgt := 40) dX12_ticks_32 (by decide) (fun c6 => ?_) (fun c6 => ?_)
        · replace h := ifP c6 h
          refine v_iinc (ls' := [(1, .int (l1 + 1)), (0, .ref l0)]) dX12_ticks_40 1 rfl (v := 1) ci_1 (by decide) rfl ?_
          refine v_goto (tgt := 12) dX12_ticks_43 (by decide) ?_
          refine v_sub [1, 0] rfl ?_
          exact ih l0 (l1 + 1) M1 h
        · replace h := ifN c6 h
          refine v_aload_n dX12_ticks_35 rfl 0 rfl ?_
          refine v_iload_n dX12_ticks_36 rfl 1 rfl ?_
          obtain ⟨M5, e, h⟩ := bind_some h
          refine ca_X12_264 e dX12_ticks_37 (Nat.le_of_ble_eq_true rfl) (by decide) ?_
          refine v_iinc (ls' := [(1, .int (l1 + 1)), (0, .ref l0)]) dX12_ticks_40 1 rfl (v := 1) ci_1 (by decide) rfl ?_
          refine v_goto (tgt := 12) dX12_ticks_43 (by decide) ?_
          refine v_sub [1, 0] rfl ?_
          exact ih l0 (l1 + 1) M5 h
set_option maxHeartbeats 4000000 in
set_option maxRecDepth 100000 in
theorem w_X12_ticks {G : Gl} {ρ0 : Nat → Nat} {M0 MF : Mem} {r : Unit} (l0 : Nat) (M : Mem) (h : f_X12_ticks l0 M = some MF) : V G (RX12, cX12_ticks, none, 6, 149, 2, "ticks", []) (ρ0, M0, cvV r, MF) 0 [(0, .ref l0)] [] M := by
  unfold f_X12_ticks at h
  replace h := (ifS h).2
  refine v_aload_n dX12_ticks_0 rfl 0 rfl ?_
  obtain ⟨v1, e, h⟩ := bind_some h
  refine gt_X12_9 e dX12_ticks_1 ?_
  refine v_iconst (v := 0) dX12_ticks_4 ci_0 ?_
  refine v_dup2 dX12_ticks_5 rfl rfl ?_
  obtain ⟨v2, e, h⟩ := bind_some h
  refine v_iaload dX12_ticks_6 e ?_
  refine v_iconst (v := 1) dX12_ticks_7 ci_1 ?_
  refine v_iadd dX12_ticks_8 ?_
  obtain ⟨M3, e, h⟩ := bind_some h
  refine v_iastore dX12_ticks_9 e ?_
  refine v_iconst (v := 0) dX12_ticks_10 ci_0 ?_
  refine v_istore_n (ls' := [(1, .int (0 : Int32)), (0, .ref l0)]) dX12_ticks_11 rfl (by decide) rfl ?_
  refine v_sub [1, 0] rfl ?_
  exact w_X12_ticks_L12 FU l0 (0 : Int32) M3 h
theorem kd_X12_ticks {l0 : Nat} {M : Mem} {z : _} (h : f_X12_ticks l0 M = some z) : (mK M l0).1 = 12 := by
  unfold f_X12_ticks at h
  exact (ifS h).1
theorem k_X12_ticks {G : Gl} {l0 : Nat} {M MF : Mem} (h : f_X12_ticks l0 M = some MF) : CtrP G yX12_ticks cX12_ticks 2 none 6 149 [.ref l0] M (cvV ()) MF :=
  ctr_of (by decide +kernel) (Nat.le_of_ble_eq_true rfl) (fun ρ => w_X12_ticks (r := ()) l0 M h)
theorem wd_X12_269 : wdV RX12 269 RX12 yX12_ticks cX12_ticks 2 none 0 := ⟨gwi 1573 (by decide +kernel) (by decide +kernel), gwi 1575 (by decide +kernel) (by decide +kernel), gwi 73 (by decide +kernel) (by decide +kernel), nw_X12, gwi 1576 (by decide +kernel) (by decide +kernel), ⟨rfl, by decide +kernel, by decide +kernel, by decide +kernel⟩⟩
theorem ca_X12_269 {G : Gl} {B : Bx} {cc : ByteArray} {ret : Option FieldType} {fr lo nL : Nat} {mn : String} {hh : List (Nat × Nat × Nat × Nat)} {pc : Nat} {ls : List (Nat × Value)} {st : List Value} {M M1 : Mem} {l0 : Nat} (e : f_X12_ticks l0 M = some M1) (hd : decode cc pc = .ok (.invokevirtual 269, 3)) (hcat : (st.map fun v => v.category).sum ≤ 8) (hR : 6 + 1 ≤ fr ∧ 8 + (2 + 11) + 149 ≤ lo) (k : V G (RX12, cc, ret, fr, lo, nL, mn, hh) B (pc + 3) ls (st) M1) : V G (RX12, cc, ret, fr, lo, nL, mn, hh) B pc ls (.ref l0 :: st) M := v_callV0 (As := []) (k_X12_ticks e) wd_X12_269 clX12 (kd_X12_ticks e) hd rfl rfl hcat hR k
set_option maxHeartbeats 4000000 in
set_option maxRecDepth 100000 in
theorem w_X12_advance_L23 {G : Gl} {ρ0 : Nat → Nat} {M0 MF : Mem} {r : Int32} : ∀ (n : Nat) (l0 : Nat) (l1 : Int32) (l2 : Int32) (M : Mem), f_X12_advance_L23 n l0 l1 l2 M = some (r, MF) → V G (RX12, cX12_advance, (some .int), 7, 170, 3, "advance", []) (ρ0, M0, cvI r, MF) 23 [(0, .ref l0), (1, .int l1), (2, .int l2)] [] M := by
  intro n
  induction n with
  | zero => intro l0 l1 l2 M h; cases h
  | succ n ih =>
    intro l0 l1 l2 M h
    rw [f_X12_advance_L23] at h
    refine v_iload_n dX12_advance_23 rfl 2 rfl ?_
    refine v_iload_n dX12_advance_24 rfl 1 rfl ?_
    refine v_icmp_ge (tgt := 38) dX12_advance_25 (by decide) (fun c3 => ?_) (fun c3 => ?_)
    · replace h := ifP c3 h
      refine v_aload_n dX12_advance_38 rfl 0 rfl ?_
      obtain ⟨v1, e, h⟩ := bind_some h
      refine gt_X12_9 e dX12_advance_39 ?_
      refine v_iconst (v := 0) dX12_advance_42 ci_0 ?_
      obtain ⟨v2, e, h⟩ := bind_some h
      refine v_iaload dX12_advance_43 e ?_
      cases h
      exact v_ireturn dX12_advance_44
    · replace h := ifN c3 h
      refine v_aload_n dX12_advance_28 rfl 0 rfl ?_
      obtain ⟨M1, e, h⟩ := bind_some h
      refine ca_X12_269 e dX12_advance_29 (Nat.le_of_ble_eq_true rfl) (by decide) ?_
      refine v_iinc (ls' := [(2, .int (l2 + 1)), (0, .ref l0), (1, .int l1)]) dX12_advance_32 2 rfl (v := 1) ci_1 (by decide) rfl ?_
      refine v_goto (tgt := 23) dX12_advance_35 (by decide) ?_
      refine v_sub [1, 2, 0] rfl ?_
      exact ih l0 l1 (l2 + 1) M1 h
set_option maxHeartbeats 4000000 in
set_option maxRecDepth 100000 in
theorem w_X12_advance {G : Gl} {ρ0 : Nat → Nat} {M0 MF : Mem} {r : Int32} (l0 : Nat) (l1 : Int32) (M : Mem) (h : f_X12_advance l0 l1 M = some (r, MF)) : V G (RX12, cX12_advance, (some .int), 7, 170, 3, "advance", []) (ρ0, M0, cvI r, MF) 0 [(0, .ref l0), (1, .int l1)] [] M := by
  unfold f_X12_advance at h
  replace h := (ifS h).2
  refine v_aload_n dX12_advance_0 rfl 0 rfl ?_
  refine v_iconst (v := 0) dX12_advance_1 ci_0 ?_
  obtain ⟨M1, e, h⟩ := bind_some h
  refine pt_X12_52 e dX12_advance_2 ?_
  refine v_iload_n dX12_advance_5 rfl 1 rfl ?_
  refine v_iconst (v := 1) dX12_advance_6 ci_1 ?_
  refine v_bipush (v := 100) dX12_advance_7 cb_100 ?_
  obtain ⟨v3, M2, e, h⟩ := bindP_some h
  refine ca_X12_55 e dX12_advance_9 (Nat.le_of_ble_eq_true rfl) (by decide) ?_
  refine v_if_ne (tgt := 21) dX12_advance_12 (by decide) (fun c6 => ?_) (fun c6 => ?_)
  · replace h := ifN c6 h
    refine v_iconst (v := 0) dX12_advance_21 ci_0 ?_
    refine v_istore_n (ls' := [(2, .int (0 : Int32)), (0, .ref l0), (1, .int l1)]) dX12_advance_22 rfl (by decide) rfl ?_
    refine v_sub [1, 2, 0] rfl ?_
    exact w_X12_advance_L23 FU l0 l1 (0 : Int32) M2 h
  · replace h := ifP c6 h
    refine v_aload_n dX12_advance_15 rfl 0 rfl ?_
    refine v_iconst (v := 1) dX12_advance_16 ci_1 ?_
    obtain ⟨v5, M4, e, h⟩ := bindP_some h
    refine ca_X12_86 e dX12_advance_17 (Nat.le_of_ble_eq_true rfl) (by decide) ?_
    cases h
    exact v_ireturn dX12_advance_20
theorem kd_X12_advance {l0 : Nat} {l1 : Int32} {M : Mem} {z : _} (h : f_X12_advance l0 l1 M = some z) : (mK M l0).1 = 12 := by
  unfold f_X12_advance at h
  exact (ifS h).1
theorem k_X12_advance {G : Gl} {l0 : Nat} {l1 : Int32} {M MF : Mem} {r : Int32} (h : f_X12_advance l0 l1 M = some (r, MF)) : CtrP G yX12_advance cX12_advance 3 (some .int) 7 170 [.ref l0, .int l1] M (cvI r) MF :=
  ctr_of (by decide +kernel) (Nat.le_of_ble_eq_true rfl) (fun ρ => w_X12_advance l0 l1 M h)
