set_option maxHeartbeats 4000000 in
set_option maxRecDepth 100000 in
theorem w_X11_subscription {G : Gl} {ρ0 : Nat → Nat} {M0 MF : Mem} {r : Int32 ⊕ Nat} (l0 : Nat) (l1 : Int32) (l2 : Int32) (l3 : Int32) (M : Mem) (h : f_X11_subscription l0 l1 l2 l3 M = some (r, MF)) : V G (RX11, cX11_subscription, (some .int), 7, 112, 5, "subscription", []) (ρ0, M0, cxI r, MF) 0 [(0, .ref l0), (1, .int l1), (2, .int l2), (3, .int l3)] [] M := by
  unfold f_X11_subscription at h
  replace h := (ifS h).2
  refine v_iload_n dX11_subscription_0 rfl 1 rfl ?_
  rcases bindX_some h with ⟨u2, M1, e, h⟩ | ⟨e9, e, rfl⟩
  rotate_left
  · exact cx_X11_73 e dX11_subscription_1 (Nat.le_of_ble_eq_true rfl) (by decide)
  refine ca_X11_73 e dX11_subscription_1 (Nat.le_of_ble_eq_true rfl) (by decide) ?_
  refine v_aload_n dX11_subscription_4 rfl 0 rfl ?_
  refine v_iload_n dX11_subscription_5 rfl 1 rfl ?_
  refine v_iload_n dX11_subscription_6 rfl 2 rfl ?_
  rcases bindX_some h with ⟨u4, M3, e, h⟩ | ⟨e9, e, rfl⟩
  rotate_left
  · exact cx_X11_180 e dX11_subscription_7 (Nat.le_of_ble_eq_true rfl) (by decide)
  refine ca_X11_180 e dX11_subscription_7 (Nat.le_of_ble_eq_true rfl) (by decide) ?_
  refine v_aload_n dX11_subscription_10 rfl 0 rfl ?_
  obtain ⟨v5, e, h⟩ := bind_some h
  refine gt_X11_41 e dX11_subscription_11 ?_
  obtain ⟨v6, e, h⟩ := bind_some h
  refine gt_X11_77 e dX11_subscription_14 ?_
  refine v_iload_n dX11_subscription_17 rfl 1 rfl ?_
  obtain ⟨v7, e, h⟩ := bind_some h
  refine al_0 e dX11_subscription_18 ?_
  obtain ⟨v8, e, h⟩ := bind_some h
  refine gt_X11_94 e dX11_subscription_19 ?_
  obtain ⟨v9, e, h⟩ := bind_some h
  refine gt_X11_162 e dX11_subscription_22 ?_
  refine v_iload_n dX11_subscription_25 rfl 2 rfl ?_
  obtain ⟨v10, e, h⟩ := bind_some h
  refine al_8 e dX11_subscription_26 ?_
  refine v_astore (ls' := [(4, .ref v10), (0, .ref l0), (1, .int l1), (2, .int l2), (3, .int l3)]) dX11_subscription_27 (by decide) rfl ?_
  refine v_iload_n dX11_subscription_29 rfl 4 rfl ?_
  rcases Decidable.em (l3 = 0) with c13_0 | c13_0
  · replace h := ifP c13_0 h
    refine v_tsw (tgt := 60) dX11_subscription_30 c13_0 (by decide) (by decide) rfl (by decide) ?_
    refine v_aload dX11_subscription_60 0 rfl ?_
    obtain ⟨v11, e, h⟩ := bind_some h
    refine gt_X11_166 e dX11_subscription_62 ?_
    cases h
    exact v_ireturn dX11_subscription_65
  replace h := ifN c13_0 h
  rcases Decidable.em (l3 = 1) with c13_1 | c13_1
  · replace h := ifP c13_1 h
    refine v_tsw (tgt := 66) dX11_subscription_30 c13_1 (by decide) (by decide) rfl (by decide) ?_
    refine v_aload dX11_subscription_66 0 rfl ?_
    obtain ⟨v11, e, h⟩ := bind_some h
    refine gt_X11_184 e dX11_subscription_68 ?_
    cases h
    exact v_ireturn dX11_subscription_71
  replace h := ifN c13_1 h
  rcases Decidable.em (l3 = 2) with c13_2 | c13_2
  · replace h := ifP c13_2 h
    refine v_tsw (tgt := 72) dX11_subscription_30 c13_2 (by decide) (by decide) rfl (by decide) ?_
    refine v_aload dX11_subscription_72 0 rfl ?_
    obtain ⟨v11, e, h⟩ := bind_some h
    refine gt_X11_171 e dX11_subscription_74 ?_
    cases h
    exact v_ireturn dX11_subscription_77
  replace h := ifN c13_2 h
  rcases Decidable.em (l3 = 3) with c13_3 | c13_3
  · replace h := ifP c13_3 h
    refine v_tsw (tgt := 78) dX11_subscription_30 c13_3 (by decide) (by decide) rfl (by decide) ?_
    refine v_aload dX11_subscription_78 0 rfl ?_
    obtain ⟨v11, e, h⟩ := bind_some h
    refine gt_X11_187 e dX11_subscription_80 ?_
    obtain ⟨v12, e, h⟩ := bind_some h
    refine gt_X11_191 e dX11_subscription_83 ?_
    cases h
    exact v_ireturn dX11_subscription_86
  replace h := ifN c13_3 h
  refine v_tswOut (tgt := 87) dX11_subscription_30 (fun k h1 h2 => by rcases (show k = 0 ∨ k = 1 ∨ k = 2 ∨ k = 3 by omega) with rfl | rfl | rfl | rfl <;> assumption) (by decide) ?_
  cases h
  exact th_1 dX11_subscription_87 dX11_subscription_90 dX11_subscription_91 dX11_subscription_94 (by decide) (Nat.le_of_ble_eq_true rfl)
theorem kd_X11_subscription {l0 : Nat} {l1 : Int32} {l2 : Int32} {l3 : Int32} {M : Mem} {z : _} (h : f_X11_subscription l0 l1 l2 l3 M = some z) : (mK M l0).1 = 11 := by
  unfold f_X11_subscription at h
  exact (ifS h).1
theorem k_X11_subscription {G : Gl} {l0 : Nat} {l1 : Int32} {l2 : Int32} {l3 : Int32} {M MF : Mem} {r : Int32 ⊕ Nat} (h : f_X11_subscription l0 l1 l2 l3 M = some (r, MF)) : CtrP G yX11_subscription cX11_subscription 5 (some .int) 7 112 [.ref l0, .int l1, .int l2, .int l3] M (cxI r) MF :=
  ctr_of (by decide +kernel) (Nat.le_of_ble_eq_true rfl) (fun ρ => w_X11_subscription l0 l1 l2 l3 M h)
set_option maxHeartbeats 4000000 in
set_option maxRecDepth 100000 in
theorem w_X11_relation_J79 {G : Gl} {ρ0 : Nat → Nat} {M0 MF : Mem} {r : Int32 ⊕ Nat} (l5 : Nat) (l6 : Nat) (s0 : Int32) (s1 : Int32) (M : Mem) (h : f_X11_relation_J79 l5 l6 s0 s1 M = some (r, MF)) : V G (RX11, cX11_relation, (some .int), 7, 112, 7, "relation", []) (ρ0, M0, cxI r, MF) 79 [(5, .ref l5), (6, .ref l6)] [.int s0, .int s1] M := by
  unfold f_X11_relation_J79 at h
  refine v_iadd dX11_relation_79 ?_
  refine v_aload dX11_relation_80 1 rfl ?_
  refine v_aload dX11_relation_82 0 rfl ?_
  obtain ⟨v2, M1, e, h⟩ := bindP_some h
  refine ca_X11_198 e dX11_relation_84 (Nat.le_of_ble_eq_true rfl) (by decide) ?_
  refine v_if_eq (tgt := 94) dX11_relation_87 (by decide) (fun c3 => ?_) (fun c3 => ?_)
  · replace h := ifP c3 h
    refine v_iconst (v := 0) dX11_relation_94 ci_0 ?_
    refine v_iadd dX11_relation_95 ?_
    cases h
    exact v_ireturn dX11_relation_96
  · replace h := ifN c3 h
    refine v_iconst (v := 4) dX11_relation_90 ci_4 ?_
    refine v_goto (tgt := 95) dX11_relation_91 (by decide) ?_
    refine v_iadd dX11_relation_95 ?_
    cases h
    exact v_ireturn dX11_relation_96
set_option maxHeartbeats 4000000 in
set_option maxRecDepth 100000 in
theorem w_X11_relation {G : Gl} {ρ0 : Nat → Nat} {M0 MF : Mem} {r : Int32 ⊕ Nat} (l0 : Nat) (l1 : Int32) (l2 : Int32) (l3 : Int32) (M : Mem) (h : f_X11_relation l0 l1 l2 l3 M = some (r, MF)) : V G (RX11, cX11_relation, (some .int), 7, 112, 7, "relation", []) (ρ0, M0, cxI r, MF) 0 [(0, .ref l0), (1, .int l1), (2, .int l2), (3, .int l3)] [] M := by
  unfold f_X11_relation at h
  replace h := (ifS h).2
  refine v_iload_n dX11_relation_0 rfl 1 rfl ?_
  rcases bindX_some h with ⟨u2, M1, e, h⟩ | ⟨e9, e, rfl⟩
  rotate_left
  · exact cx_X11_73 e dX11_relation_1 (Nat.le_of_ble_eq_true rfl) (by decide)
  refine ca_X11_73 e dX11_relation_1 (Nat.le_of_ble_eq_true rfl) (by decide) ?_
  refine v_aload_n dX11_relation_4 rfl 0 rfl ?_
  refine v_iload_n dX11_relation_5 rfl 1 rfl ?_
  refine v_iload_n dX11_relation_6 rfl 2 rfl ?_
  rcases bindX_some h with ⟨u4, M3, e, h⟩ | ⟨e9, e, rfl⟩
  rotate_left
  · exact cx_X11_180 e dX11_relation_7 (Nat.le_of_ble_eq_true rfl) (by decide)
  refine ca_X11_180 e dX11_relation_7 (Nat.le_of_ble_eq_true rfl) (by decide) ?_
  refine v_aload_n dX11_relation_10 rfl 0 rfl ?_
  refine v_iload_n dX11_relation_11 rfl 1 rfl ?_
  refine v_iload_n dX11_relation_12 rfl 3 rfl ?_
  rcases bindX_some h with ⟨u6, M5, e, h⟩ | ⟨e9, e, rfl⟩
  rotate_left
  · exact cx_X11_180 e dX11_relation_13 (Nat.le_of_ble_eq_true rfl) (by decide)
  refine ca_X11_180 e dX11_relation_13 (Nat.le_of_ble_eq_true rfl) (by decide) ?_
  refine v_aload_n dX11_relation_16 rfl 0 rfl ?_
  obtain ⟨v7, e, h⟩ := bind_some h
  refine gt_X11_41 e dX11_relation_17 ?_
  obtain ⟨v8, e, h⟩ := bind_some h
  refine gt_X11_77 e dX11_relation_20 ?_
  refine v_iload_n dX11_relation_23 rfl 1 rfl ?_
  obtain ⟨v9, e, h⟩ := bind_some h
  refine al_0 e dX11_relation_24 ?_
  obtain ⟨v10, e, h⟩ := bind_some h
  refine gt_X11_94 e dX11_relation_25 ?_
  obtain ⟨v11, e, h⟩ := bind_some h
  refine gt_X11_162 e dX11_relation_28 ?_
  refine v_astore (ls' := [(4, .ref v11), (0, .ref l0), (1, .int l1), (2, .int l2), (3, .int l3)]) dX11_relation_31 (by decide) rfl ?_
  refine v_aload dX11_relation_33 0 rfl ?_
  refine v_iload_n dX11_relation_35 rfl 3 rfl ?_
  obtain ⟨v12, e, h⟩ := bind_some h
  refine al_8 e dX11_relation_36 ?_
  obtain ⟨v13, e, h⟩ := bind_some h
  refine gt_X11_187 e dX11_relation_37 ?_
  refine v_astore (ls' := [(5, .ref v13), (4, .ref v11), (0, .ref l0), (1, .int l1), (2, .int l2), (3, .int l3)]) dX11_relation_40 (by decide) rfl ?_
  refine v_aload dX11_relation_42 1 rfl ?_
  refine v_iload_n dX11_relation_44 rfl 5 rfl ?_
  obtain ⟨v14, e, h⟩ := bind_some h
  refine al_8 e dX11_relation_45 ?_
  obtain ⟨v15, e, h⟩ := bind_some h
  refine gt_X11_187 e dX11_relation_46 ?_
  refine v_astore (ls' := [(6, .ref v15), (5, .ref v13), (4, .ref v11), (0, .ref l0), (1, .int l1), (2, .int l2), (3, .int l3)]) dX11_relation_49 (by decide) rfl ?_
  refine v_aload dX11_relation_51 1 rfl ?_
  refine v_aload dX11_relation_53 0 rfl ?_
  obtain ⟨v17, M16, e, h⟩ := bindP_some h
  refine ca_X11_194 e dX11_relation_55 (Nat.le_of_ble_eq_true rfl) (by decide) ?_
  refine v_if_ne (tgt := 63) dX11_relation_58 (by decide) (fun c21 => ?_) (fun c21 => ?_)
  · replace h := ifN c21 h
    refine v_iconst (v := 1) dX11_relation_63 ci_1 ?_
    refine v_aload dX11_relation_64 1 rfl ?_
    refine v_aload dX11_relation_66 0 rfl ?_
    obtain ⟨v19, M18, e, h⟩ := bindP_some h
    refine ca_X11_198 e dX11_relation_68 (Nat.le_of_ble_eq_true rfl) (by decide) ?_
    refine v_if_eq (tgt := 78) dX11_relation_71 (by decide) (fun c20 => ?_) (fun c20 => ?_)
    · replace h := ifP c20 h
      refine v_iconst (v := 0) dX11_relation_78 ci_0 ?_
      refine v_sub [1, 0] rfl ?_
      exact w_X11_relation_J79 v13 v15 (0 : Int32) (1 : Int32) M18 h
    · replace h := ifN c20 h
      refine v_iconst (v := 2) dX11_relation_74 ci_2 ?_
      refine v_goto (tgt := 79) dX11_relation_75 (by decide) ?_
      refine v_sub [1, 0] rfl ?_
      exact w_X11_relation_J79 v13 v15 (2 : Int32) (1 : Int32) M18 h
  · replace h := ifP c21 h
    refine v_iconst (v := 0) dX11_relation_61 ci_0 ?_
    cases h
    exact v_ireturn dX11_relation_62
theorem kd_X11_relation {l0 : Nat} {l1 : Int32} {l2 : Int32} {l3 : Int32} {M : Mem} {z : _} (h : f_X11_relation l0 l1 l2 l3 M = some z) : (mK M l0).1 = 11 := by
  unfold f_X11_relation at h
  exact (ifS h).1
theorem k_X11_relation {G : Gl} {l0 : Nat} {l1 : Int32} {l2 : Int32} {l3 : Int32} {M MF : Mem} {r : Int32 ⊕ Nat} (h : f_X11_relation l0 l1 l2 l3 M = some (r, MF)) : CtrP G yX11_relation cX11_relation 7 (some .int) 7 112 [.ref l0, .int l1, .int l2, .int l3] M (cxI r) MF :=
  ctr_of (by decide +kernel) (Nat.le_of_ble_eq_true rfl) (fun ρ => w_X11_relation l0 l1 l2 l3 M h)
set_option maxHeartbeats 4000000 in
set_option maxRecDepth 100000 in
theorem w_X11_shareSize {G : Gl} {ρ0 : Nat → Nat} {M0 MF : Mem} {r : Int32 ⊕ Nat} (l0 : Nat) (l1 : Int32) (M : Mem) (h : f_X11_shareSize l0 l1 M = some (r, MF)) : V G (RX11, cX11_shareSize, (some .int), 8, 132, 5, "shareSize", []) (ρ0, M0, cxI r, MF) 0 [(0, .ref l0), (1, .int l1)] [] M := by
  unfold f_X11_shareSize at h
  replace h := (ifS h).2
  refine v_aload_n dX11_shareSize_0 rfl 0 rfl ?_
  obtain ⟨v2, M1, e, h⟩ := bindP_some h
  refine ca_X11_123 e dX11_shareSize_1 (Nat.le_of_ble_eq_true rfl) (by decide) ?_
  refine v_istore_n (ls' := [(2, .int v2), (0, .ref l0), (1, .int l1)]) dX11_shareSize_4 rfl (by decide) rfl ?_
  refine v_aload_n dX11_shareSize_5 rfl 1 rfl ?_
  refine v_iload_n dX11_shareSize_6 rfl 0 rfl ?_
  rcases bindX_some h with ⟨v4, M3, e, h⟩ | ⟨e9, e, rfl⟩
  rotate_left
  · exact cx_X11_148 e dX11_shareSize_7 (Nat.le_of_ble_eq_true rfl) (by decide)
  refine ca_X11_148 e dX11_shareSize_7 (Nat.le_of_ble_eq_true rfl) (by decide) ?_
  refine v_astore_n (ls' := [(3, .ref v4), (2, .int v2), (0, .ref l0), (1, .int l1)]) dX11_shareSize_10 rfl (by decide) rfl ?_
  refine v_iload_n dX11_shareSize_11 rfl 3 rfl ?_
  refine v_iconst (v := 1) dX11_shareSize_12 ci_1 ?_
  refine v_iconst (v := 3) dX11_shareSize_13 ci_3 ?_
  rcases bindX_some h with ⟨u6, M5, e, h⟩ | ⟨e9, e, rfl⟩
  rotate_left
  · exact cx_X11_131 e dX11_shareSize_14 (Nat.le_of_ble_eq_true rfl) (by decide)
  refine ca_X11_131 e dX11_shareSize_14 (Nat.le_of_ble_eq_true rfl) (by decide) ?_
  refine v_aload_n dX11_shareSize_17 rfl 2 rfl ?_
  obtain ⟨v7, e, h⟩ := bind_some h
  refine gt_X11_41 e dX11_shareSize_18 ?_
  refine v_aload_n dX11_shareSize_21 rfl 0 rfl ?_
  refine v_iload_n dX11_shareSize_22 rfl 3 rfl ?_
  obtain ⟨v9, M8, e, h⟩ := bindP_some h
  refine ca_X11_201 e dX11_shareSize_23 (Nat.le_of_ble_eq_true rfl) (by decide) ?_
  refine v_istore (ls' := [(4, .int v9), (3, .ref v4), (2, .int v2), (0, .ref l0), (1, .int l1)]) dX11_shareSize_26 (by decide) rfl ?_
  refine v_iload dX11_shareSize_28 0 rfl ?_
  refine v_if_ge (tgt := 37) dX11_shareSize_30 (by decide) (fun c14 => ?_) (fun c14 => ?_)
  · replace h := ifP c14 h
    refine v_aload_n dX11_shareSize_37 rfl 3 rfl ?_
    obtain ⟨v10, e, h⟩ := bind_some h
    refine gt_X11_41 e dX11_shareSize_38 ?_
    obtain ⟨v11, e, h⟩ := bind_some h
    refine gt_X11_204 e dX11_shareSize_41 ?_
    refine v_iload dX11_shareSize_44 0 rfl ?_
    obtain ⟨v12, e, h⟩ := bind_some h
    refine al_6 e dX11_shareSize_46 ?_
    obtain ⟨v13, e, h⟩ := bind_some h
    refine gt_X11_208 e dX11_shareSize_47 ?_
    cases h
    exact v_ireturn dX11_shareSize_50
  · replace h := ifN c14 h
    refine v_iconst (v := 0) dX11_shareSize_33 ci_0 ?_
    refine v_goto (tgt := 50) dX11_shareSize_34 (by decide) ?_
    cases h
    exact v_ireturn dX11_shareSize_50
theorem kd_X11_shareSize {l0 : Nat} {l1 : Int32} {M : Mem} {z : _} (h : f_X11_shareSize l0 l1 M = some z) : (mK M l0).1 = 11 := by
  unfold f_X11_shareSize at h
  exact (ifS h).1
theorem k_X11_shareSize {G : Gl} {l0 : Nat} {l1 : Int32} {M MF : Mem} {r : Int32 ⊕ Nat} (h : f_X11_shareSize l0 l1 M = some (r, MF)) : CtrP G yX11_shareSize cX11_shareSize 5 (some .int) 8 132 [.ref l0, .int l1] M (cxI r) MF :=
  ctr_of (by decide +kernel) (Nat.le_of_ble_eq_true rfl) (fun ρ => w_X11_shareSize l0 l1 M h)
theorem w_X11_shareMember_J56 {G : Gl} {ρ0 : Nat → Nat} {M0 MF : Mem} {r : Int32 ⊕ Nat} (M : Mem) (h : f_X11_shareMember_J56 M = some (r, MF)) : V G (RX11, cX11_shareMember, (some .int), 8, 132, 6, "shareMember", []) (ρ0, M0, cxI r, MF) 56 [] [] M := by
  unfold f_X11_shareMember_J56 at h
  cases h
  exact th_3 dX11_shareMember_56 dX11_shareMember_59 dX11_shareMember_60 dX11_shareMember_63 (by decide) (Nat.le_of_ble_eq_true rfl)
set_option maxHeartbeats 4000000 in
set_option maxRecDepth 100000 in
theorem w_X11_shareMember {G : Gl} {ρ0 : Nat → Nat} {M0 MF : Mem} {r : Int32 ⊕ Nat} (l0 : Nat) (l1 : Int32) (l2 : Int32) (M : Mem) (h : f_X11_shareMember l0 l1 l2 M = some (r, MF)) : V G (RX11, cX11_shareMember, (some .int), 8, 132, 6, "shareMember", []) (ρ0, M0, cxI r, MF) 0 [(0, .ref l0), (1, .int l1), (2, .int l2)] [] M := by
  unfold f_X11_shareMember at h
  replace h := (ifS h).2
  refine v_aload_n dX11_shareMember_0 rfl 0 rfl ?_
  obtain ⟨v2, M1, e, h⟩ := bindP_some h
  refine ca_X11_123 e dX11_shareMember_1 (Nat.le_of_ble_eq_true rfl) (by decide) ?_
  refine v_istore_n (ls' := [(3, .int v2), (0, .ref l0), (1, .int l1), (2, .int l2)]) dX11_shareMember_4 rfl (by decide) rfl ?_
  refine v_aload_n dX11_shareMember_5 rfl 1 rfl ?_
  refine v_iload_n dX11_shareMember_6 rfl 0 rfl ?_
  rcases bindX_some h with ⟨v4, M3, e, h⟩ | ⟨e9, e, rfl⟩
  rotate_left
  · exact cx_X11_148 e dX11_shareMember_7 (Nat.le_of_ble_eq_true rfl) (by decide)
  refine ca_X11_148 e dX11_shareMember_7 (Nat.le_of_ble_eq_true rfl) (by decide) ?_
  refine v_astore (ls' := [(4, .ref v4), (3, .int v2), (0, .ref l0), (1, .int l1), (2, .int l2)]) dX11_shareMember_10 (by decide) rfl ?_
  refine v_iload_n dX11_shareMember_12 rfl 3 rfl ?_
  refine v_iconst (v := 1) dX11_shareMember_13 ci_1 ?_
  refine v_iconst (v := 3) dX11_shareMember_14 ci_3 ?_
  rcases bindX_some h with ⟨u6, M5, e, h⟩ | ⟨e9, e, rfl⟩
  rotate_left
  · exact cx_X11_131 e dX11_shareMember_15 (Nat.le_of_ble_eq_true rfl) (by decide)
  refine ca_X11_131 e dX11_shareMember_15 (Nat.le_of_ble_eq_true rfl) (by decide) ?_
  refine v_aload_n dX11_shareMember_18 rfl 2 rfl ?_
  obtain ⟨v7, e, h⟩ := bind_some h
  refine gt_X11_41 e dX11_shareMember_19 ?_
  refine v_aload dX11_shareMember_22 0 rfl ?_
  refine v_iload_n dX11_shareMember_24 rfl 3 rfl ?_
  obtain ⟨v9, M8, e, h⟩ := bindP_some h
  refine ca_X11_201 e dX11_shareMember_25 (Nat.le_of_ble_eq_true rfl) (by decide) ?_
  refine v_istore (ls' := [(5, .int v9), (4, .ref v4), (3, .int v2), (0, .ref l0), (1, .int l1), (2, .int l2)]) dX11_shareMember_28 (by decide) rfl ?_
  refine v_iload dX11_shareMember_30 0 rfl ?_
  refine v_if_lt (tgt := 56) dX11_shareMember_32 (by decide) (fun c21 => ?_) (fun c21 => ?_)
  · replace h := ifP c21 h
    refine v_sub [] rfl ?_
    exact w_X11_shareMember_J56 M8 h
  · replace h := ifN c21 h
    refine v_iload_n dX11_shareMember_35 rfl 5 rfl ?_
    refine v_if_lt (tgt := 56) dX11_shareMember_36 (by decide) (fun c20 => ?_) (fun c20 => ?_)
    · replace h := ifP c20 h
      refine v_sub [] rfl ?_
      exact w_X11_shareMember_J56 M8 h
    · replace h := ifN c20 h
      refine v_iload_n dX11_shareMember_39 rfl 5 rfl ?_
      refine v_aload_n dX11_shareMember_40 rfl 3 rfl ?_
      obtain ⟨v10, e, h⟩ := bind_some h
      refine gt_X11_41 e dX11_shareMember_41 ?_
      obtain ⟨v11, e, h⟩ := bind_some h
      refine gt_X11_204 e dX11_shareMember_44 ?_
      refine v_iload dX11_shareMember_47 0 rfl ?_
      obtain ⟨v12, e, h⟩ := bind_some h
      refine al_6 e dX11_shareMember_49 ?_
      obtain ⟨v13, e, h⟩ := bind_some h
      refine gt_X11_208 e dX11_shareMember_50 ?_
      refine v_icmp_lt (tgt := 64) dX11_shareMember_53 (by decide) (fun c19 => ?_) (fun c19 => ?_)
      · replace h := ifP c19 h
        refine v_aload_n dX11_shareMember_64 rfl 3 rfl ?_
        obtain ⟨v14, e, h⟩ := bind_some h
        refine gt_X11_41 e dX11_shareMember_65 ?_
        obtain ⟨v15, e, h⟩ := bind_some h
        refine gt_X11_204 e dX11_shareMember_68 ?_
        refine v_iload dX11_shareMember_71 0 rfl ?_
        obtain ⟨v16, e, h⟩ := bind_some h
        refine al_6 e dX11_shareMember_73 ?_
        obtain ⟨v17, e, h⟩ := bind_some h
        refine gt_X11_213 e dX11_shareMember_74 ?_
        refine v_iload_n dX11_shareMember_77 rfl 5 rfl ?_
        obtain ⟨v18, e, h⟩ := bind_some h
        refine v_iaload dX11_shareMember_78 e ?_
        cases h
        exact v_ireturn dX11_shareMember_79
      · replace h := ifN c19 h
        refine v_sub [] rfl ?_
        exact w_X11_shareMember_J56 M8 h
theorem kd_X11_shareMember {l0 : Nat} {l1 : Int32} {l2 : Int32} {M : Mem} {z : _} (h : f_X11_shareMember l0 l1 l2 M = some z) : (mK M l0).1 = 11 := by
  unfold f_X11_shareMember at h
  exact (ifS h).1
theorem k_X11_shareMember {G : Gl} {l0 : Nat} {l1 : Int32} {l2 : Int32} {M MF : Mem} {r : Int32 ⊕ Nat} (h : f_X11_shareMember l0 l1 l2 M = some (r, MF)) : CtrP G yX11_shareMember cX11_shareMember 6 (some .int) 8 132 [.ref l0, .int l1, .int l2] M (cxI r) MF :=
  ctr_of (by decide +kernel) (Nat.le_of_ble_eq_true rfl) (fun ρ => w_X11_shareMember l0 l1 l2 M h)
set_option maxHeartbeats 4000000 in
set_option maxRecDepth 100000 in
theorem w_X11_publish_J124 {G : Gl} {ρ0 : Nat → Nat} {M0 MF : Mem} {r : Int32 ⊕ Nat} (l0 : Nat) (l2 : Int32) (l3 : Int32) (l8 : Nat) (l9 : Int32) (M : Mem) (h : f_X11_publish_J124 l0 l2 l3 l8 l9 M = some (r, MF)) : V G (RX11, cX11_publish, (some .int), 8, 132, 10, "publish", []) (ρ0, M0, cxI r, MF) 124 [(0, .ref l0), (2, .int l2), (3, .int l3), (8, .ref l8), (9, .int l9)] [] M := by
  unfold f_X11_publish_J124 at h
  refine v_iload_n dX11_publish_124 rfl 1 rfl ?_
  refine v_iconst (v := 2) dX11_publish_125 ci_2 ?_
  refine v_icmp_ne (tgt := 152) dX11_publish_126 (by decide) (fun c5 => ?_) (fun c5 => ?_)
  · replace h := ifN c5 h
    refine v_iload_n dX11_publish_152 rfl 1 rfl ?_
    refine v_iconst (v := 1) dX11_publish_153 ci_1 ?_
    refine v_icmp_ne (tgt := 168) dX11_publish_154 (by decide) (fun c3 => ?_) (fun c3 => ?_)
    · replace h := ifN c3 h
      refine v_iload dX11_publish_168 4 rfl ?_
      cases h
      exact v_ireturn dX11_publish_170
    · replace h := ifP c3 h
      refine v_aload_n dX11_publish_157 rfl 0 rfl ?_
      obtain ⟨v1, e, h⟩ := bind_some h
      refine gt_X11_41 e dX11_publish_158 ?_
      refine v_aload dX11_publish_161 3 rfl ?_
      refine v_iconst (v := 1) dX11_publish_163 ci_1 ?_
      refine v_iload_n dX11_publish_164 rfl 2 rfl ?_
      obtain ⟨M2, e, h⟩ := bind_some h
      refine ca_X11_227 e dX11_publish_165 (Nat.le_of_ble_eq_true rfl) (by decide) ?_
      refine v_iload dX11_publish_168 4 rfl ?_
      cases h
      exact v_ireturn dX11_publish_170
  · replace h := ifP c5 h
    refine v_aload dX11_publish_129 3 rfl ?_
    obtain ⟨v1, e, h⟩ := bind_some h
    refine gt_X11_94 e dX11_publish_131 ?_
    refine v_iload_n dX11_publish_134 rfl 2 rfl ?_
    obtain ⟨M2, e, h⟩ := bind_some h
    refine ca_X11_224 e dX11_publish_135 (Nat.le_of_ble_eq_true rfl) (by decide) ?_
    refine v_aload_n dX11_publish_138 rfl 0 rfl ?_
    obtain ⟨v3, e, h⟩ := bind_some h
    refine gt_X11_41 e dX11_publish_139 ?_
    refine v_aload dX11_publish_142 3 rfl ?_
    refine v_iconst (v := 2) dX11_publish_144 ci_2 ?_
    refine v_iload_n dX11_publish_145 rfl 2 rfl ?_
    obtain ⟨M4, e, h⟩ := bind_some h
    refine ca_X11_227 e dX11_publish_146 (Nat.le_of_ble_eq_true rfl) (by decide) ?_
    refine v_goto (tgt := 168) dX11_publish_149 (by decide) ?_
    refine v_iload dX11_publish_168 4 rfl ?_
    cases h
    exact v_ireturn dX11_publish_170
set_option maxHeartbeats 4000000 in
set_option maxRecDepth 100000 in
theorem w_X11_publish_J96 {G : Gl} {ρ0 : Nat → Nat} {M0 MF : Mem} {r : Int32 ⊕ Nat} (l0 : Nat) (l1 : Int32) (l2 : Int32) (l3 : Int32) (l4 : Int32) (l5 : Int32) (l7 : Nat) (l8 : Nat) (M : Mem) (h : f_X11_publish_J96 l0 l1 l2 l3 l4 l5 l7 l8 M = some (r, MF)) : V G (RX11, cX11_publish, (some .int), 8, 132, 10, "publish", []) (ρ0, M0, cxI r, MF) 96 [(0, .ref l0), (1, .int l1), (2, .int l2), (3, .int l3), (4, .int l4), (5, .int l5), (7, .ref l7), (8, .ref l8)] [] M := by
  unfold f_X11_publish_J96 at h
  refine v_aload_n dX11_publish_96 rfl 0 rfl ?_
  obtain ⟨v1, e, h⟩ := bind_some h
  refine gt_X11_34 e dX11_publish_97 ?_
  refine v_aload dX11_publish_100 6 rfl ?_
  refine v_iload_n dX11_publish_102 rfl 2 rfl ?_
  refine v_iload dX11_publish_103 5 rfl ?_
  obtain ⟨M2, e, h⟩ := bind_some h
  refine ca_X11_141 e dX11_publish_105 (Nat.le_of_ble_eq_true rfl) (by decide) ?_
  refine v_aload_n dX11_publish_108 rfl 0 rfl ?_
  obtain ⟨v3, e, h⟩ := bind_some h
  refine gt_X11_41 e dX11_publish_109 ?_
  refine v_iload_n dX11_publish_112 rfl 1 rfl ?_
  refine v_aload_n dX11_publish_113 rfl 0 rfl ?_
  obtain ⟨v4, e, h⟩ := bind_some h
  refine gt_X11_34 e dX11_publish_114 ?_
  refine v_iload dX11_publish_117 4 rfl ?_
  obtain ⟨v6, M5, e, h⟩ := bindP_some h
  refine ca_X11_220 e dX11_publish_119 (Nat.le_of_ble_eq_true rfl) (by decide) ?_
  refine v_istore (ls' := [(9, .int v6), (0, .ref l0), (1, .int l1), (2, .int l2), (3, .int l3), (4, .int l4), (5, .int l5), (7, .ref l7), (8, .ref l8)]) dX11_publish_122 (by decide) rfl ?_
  refine v_sub [1, 3, 4, 8, 0] rfl ?_
  exact w_X11_publish_J124 l0 l2 l3 l8 v6 M5 h
set_option maxHeartbeats 4000000 in
set_option maxRecDepth 100000 in
theorem w_X11_publish_J35 {G : Gl} {ρ0 : Nat → Nat} {M0 MF : Mem} {r : Int32 ⊕ Nat} (l0 : Nat) (l1 : Int32) (l2 : Int32) (l3 : Int32) (l4 : Int32) (l5 : Int32) (l7 : Nat) (M : Mem) (h : f_X11_publish_J35 l0 l1 l2 l3 l4 l5 l7 M = some (r, MF)) : V G (RX11, cX11_publish, (some .int), 8, 132, 10, "publish", []) (ρ0, M0, cxI r, MF) 35 [(0, .ref l0), (1, .int l1), (2, .int l2), (3, .int l3), (4, .int l4), (5, .int l5), (7, .ref l7)] [] M := by
  unfold f_X11_publish_J35 at h
  refine v_iload dX11_publish_35 5 rfl ?_
  refine v_iconst (v := 0) dX11_publish_37 ci_0 ?_
  refine v_sipush (v := 9999) dX11_publish_38 cs_9999 ?_
  rcases bindX_some h with ⟨u2, M1, e, h⟩ | ⟨e9, e, rfl⟩
  rotate_left
  · exact cx_X11_131 e dX11_publish_41 (Nat.le_of_ble_eq_true rfl) (by decide)
  refine ca_X11_131 e dX11_publish_41 (Nat.le_of_ble_eq_true rfl) (by decide) ?_
  refine v_aload_n dX11_publish_44 rfl 0 rfl ?_
  refine v_iload_n dX11_publish_45 rfl 1 rfl ?_
  rcases bindX_some h with ⟨u4, M3, e, h⟩ | ⟨e9, e, rfl⟩
  rotate_left
  · exact cx_X11_114 e dX11_publish_46 (Nat.le_of_ble_eq_true rfl) (by decide)
  refine ca_X11_114 e dX11_publish_46 (Nat.le_of_ble_eq_true rfl) (by decide) ?_
  refine v_aload_n dX11_publish_49 rfl 0 rfl ?_
  obtain ⟨v5, e, h⟩ := bind_some h
  refine gt_X11_41 e dX11_publish_50 ?_
  obtain ⟨v6, e, h⟩ := bind_some h
  refine gt_X11_77 e dX11_publish_53 ?_
  refine v_iload_n dX11_publish_56 rfl 1 rfl ?_
  obtain ⟨v7, e, h⟩ := bind_some h
  refine al_0 e dX11_publish_57 ?_
  refine v_astore (ls' := [(8, .ref v7), (0, .ref l0), (1, .int l1), (2, .int l2), (3, .int l3), (4, .int l4), (5, .int l5), (7, .ref l7)]) dX11_publish_58 (by decide) rfl ?_
  refine v_iconst (v := 0) dX11_publish_60 ci_0 ?_
  refine v_istore (ls' := [(9, .int (0 : Int32)), (8, .ref v7), (0, .ref l0), (1, .int l1), (2, .int l2), (3, .int l3), (4, .int l4), (5, .int l5), (7, .ref l7)]) dX11_publish_61 (by decide) rfl ?_
  refine v_iload_n dX11_publish_63 rfl 4 rfl ?_
  refine v_iconst (v := 2) dX11_publish_64 ci_2 ?_
  refine v_icmp_ne (tgt := 96) dX11_publish_65 (by decide) (fun c16 => ?_) (fun c16 => ?_)
  · replace h := ifN c16 h
    refine v_sub [2, 3, 4, 5, 6, 7, 8, 1] rfl ?_
    exact w_X11_publish_J96 l0 l1 l2 l3 l4 l5 l7 v7 M3 h
  · replace h := ifP c16 h
    refine v_aload dX11_publish_68 1 rfl ?_
    obtain ⟨v8, e, h⟩ := bind_some h
    refine gt_X11_94 e dX11_publish_70 ?_
    refine v_iload_n dX11_publish_73 rfl 5 rfl ?_
    obtain ⟨v10, M9, e, h⟩ := bindP_some h
    refine ca_X11_216 e dX11_publish_74 (Nat.le_of_ble_eq_true rfl) (by decide) ?_
    refine v_if_eq (tgt := 96) dX11_publish_77 (by decide) (fun c15 => ?_) (fun c15 => ?_)
    · replace h := ifP c15 h
      refine v_sub [2, 3, 4, 5, 6, 7, 8, 1] rfl ?_
      exact w_X11_publish_J96 l0 l1 l2 l3 l4 l5 l7 v7 M9 h
    · replace h := ifN c15 h
      refine v_aload_n dX11_publish_80 rfl 2 rfl ?_
      obtain ⟨v11, e, h⟩ := bind_some h
      refine gt_X11_41 e dX11_publish_81 ?_
      obtain ⟨v12, e, h⟩ := bind_some h
      refine gt_X11_87 e dX11_publish_84 ?_
      refine v_iconst (v := 3) dX11_publish_87 ci_3 ?_
      refine v_dup2 dX11_publish_88 rfl rfl ?_
      obtain ⟨v13, e, h⟩ := bind_some h
      refine v_iaload dX11_publish_89 e ?_
      refine v_iconst (v := 1) dX11_publish_90 ci_1 ?_
      refine v_iadd dX11_publish_91 ?_
      obtain ⟨M14, e, h⟩ := bind_some h
      refine v_iastore dX11_publish_92 e ?_
      refine v_goto (tgt := 124) dX11_publish_93 (by decide) ?_
      refine v_sub [2, 4, 5, 1, 0] rfl ?_
      exact w_X11_publish_J124 l0 l2 l3 v7 (0 : Int32) M14 h
set_option maxHeartbeats 4000000 in
set_option maxRecDepth 100000 in
theorem w_X11_publish {G : Gl} {ρ0 : Nat → Nat} {M0 MF : Mem} {r : Int32 ⊕ Nat} (l0 : Nat) (l1 : Int32) (l2 : Int32) (l3 : Int32) (l4 : Int32) (l5 : Int32) (M : Mem) (h : f_X11_publish l0 l1 l2 l3 l4 l5 M = some (r, MF)) : V G (RX11, cX11_publish, (some .int), 8, 132, 10, "publish", []) (ρ0, M0, cxI r, MF) 0 [(0, .ref l0), (1, .int l1), (2, .int l2), (3, .int l3), (4, .int l4), (5, .int l5)] [] M := by
  unfold f_X11_publish at h
  replace h := (ifS h).2
  refine v_aload_n dX11_publish_0 rfl 0 rfl ?_
  obtain ⟨v2, M1, e, h⟩ := bindP_some h
  refine ca_X11_123 e dX11_publish_1 (Nat.le_of_ble_eq_true rfl) (by decide) ?_
  refine v_istore (ls' := [(6, .int v2), (0, .ref l0), (1, .int l1), (2, .int l2), (3, .int l3), (4, .int l4), (5, .int l5)]) dX11_publish_4 (by decide) rfl ?_
  refine v_iload_n dX11_publish_6 rfl 2 rfl ?_
  rcases bindX_some h with ⟨u4, M3, e, h⟩ | ⟨e9, e, rfl⟩
  rotate_left
  · exact cx_X11_73 e dX11_publish_7 (Nat.le_of_ble_eq_true rfl) (by decide)
  refine ca_X11_73 e dX11_publish_7 (Nat.le_of_ble_eq_true rfl) (by decide) ?_
  refine v_aload_n dX11_publish_10 rfl 1 rfl ?_
  refine v_iload dX11_publish_11 0 rfl ?_
  rcases bindX_some h with ⟨v6, M5, e, h⟩ | ⟨e9, e, rfl⟩
  rotate_left
  · exact cx_X11_127 e dX11_publish_13 (Nat.le_of_ble_eq_true rfl) (by decide)
  refine ca_X11_127 e dX11_publish_13 (Nat.le_of_ble_eq_true rfl) (by decide) ?_
  refine v_astore (ls' := [(7, .ref v6), (6, .int v2), (0, .ref l0), (1, .int l1), (2, .int l2), (3, .int l3), (4, .int l4), (5, .int l5)]) dX11_publish_16 (by decide) rfl ?_
  refine v_iload_n dX11_publish_18 rfl 4 rfl ?_
  refine v_iconst (v := 0) dX11_publish_19 ci_0 ?_
  refine v_iconst (v := 2) dX11_publish_20 ci_2 ?_
  rcases bindX_some h with ⟨u8, M7, e, h⟩ | ⟨e9, e, rfl⟩
  rotate_left
  · exact cx_X11_131 e dX11_publish_21 (Nat.le_of_ble_eq_true rfl) (by decide)
  refine ca_X11_131 e dX11_publish_21 (Nat.le_of_ble_eq_true rfl) (by decide) ?_
  refine v_iload_n dX11_publish_24 rfl 4 rfl ?_
  refine v_if_eq (tgt := 35) dX11_publish_25 (by decide) (fun c11 => ?_) (fun c11 => ?_)
  · replace h := ifP c11 h
    refine v_sub [2, 3, 4, 5, 6, 7, 0] rfl ?_
    exact w_X11_publish_J35 l0 l1 l2 l3 l4 l5 v6 M7 h
  · replace h := ifN c11 h
    refine v_iload_n dX11_publish_28 rfl 5 rfl ?_
    refine v_iconst (v := 1) dX11_publish_29 ci_1 ?_
    refine v_bipush (v := 50) dX11_publish_30 cb_50 ?_
    rcases bindX_some h with ⟨u10, M9, e, h⟩ | ⟨e9, e, rfl⟩
    rotate_left
    · exact cx_X11_131 e dX11_publish_32 (Nat.le_of_ble_eq_true rfl) (by decide)
    refine ca_X11_131 e dX11_publish_32 (Nat.le_of_ble_eq_true rfl) (by decide) ?_
    refine v_sub [2, 3, 4, 5, 6, 7, 0] rfl ?_
    exact w_X11_publish_J35 l0 l1 l2 l3 l4 l5 v6 M9 h
theorem kd_X11_publish {l0 : Nat} {l1 : Int32} {l2 : Int32} {l3 : Int32} {l4 : Int32} {l5 : Int32} {M : Mem} {z : _} (h : f_X11_publish l0 l1 l2 l3 l4 l5 M = some z) : (mK M l0).1 = 11 := by
  unfold f_X11_publish at h
  exact (ifS h).1
theorem k_X11_publish {G : Gl} {l0 : Nat} {l1 : Int32} {l2 : Int32} {l3 : Int32} {l4 : Int32} {l5 : Int32} {M MF : Mem} {r : Int32 ⊕ Nat} (h : f_X11_publish l0 l1 l2 l3 l4 l5 M = some (r, MF)) : CtrP G yX11_publish cX11_publish 10 (some .int) 8 132 [.ref l0, .int l1, .int l2, .int l3, .int l4, .int l5] M (cxI r) MF :=
  ctr_of (by decide +kernel) (Nat.le_of_ble_eq_true rfl) (fun ρ => w_X11_publish l0 l1 l2 l3 l4 l5 M h)
set_option maxHeartbeats 4000000 in
set_option maxRecDepth 100000 in
theorem w_X11_release {G : Gl} {ρ0 : Nat → Nat} {M0 MF : Mem} {r : Int32 ⊕ Nat} (l0 : Nat) (l1 : Int32) (l2 : Int32) (M : Mem) (h : f_X11_release l0 l1 l2 M = some (r, MF)) : V G (RX11, cX11_release, (some .int), 7, 111, 5, "release", []) (ρ0, M0, cxI r, MF) 0 [(0, .ref l0), (1, .int l1), (2, .int l2)] [] M := by
  unfold f_X11_release at h
  replace h := (ifS h).2
  refine v_iload_n dX11_release_0 rfl 1 rfl ?_
  rcases bindX_some h with ⟨u2, M1, e, h⟩ | ⟨e9, e, rfl⟩
  rotate_left
  · exact cx_X11_73 e dX11_release_1 (Nat.le_of_ble_eq_true rfl) (by decide)
  refine ca_X11_73 e dX11_release_1 (Nat.le_of_ble_eq_true rfl) (by decide) ?_
  refine v_iload_n dX11_release_4 rfl 2 rfl ?_
  refine v_iconst (v := 1) dX11_release_5 ci_1 ?_
  refine v_bipush (v := 50) dX11_release_6 cb_50 ?_
  rcases bindX_some h with ⟨u4, M3, e, h⟩ | ⟨e9, e, rfl⟩
  rotate_left
  · exact cx_X11_131 e dX11_release_8 (Nat.le_of_ble_eq_true rfl) (by decide)
  refine ca_X11_131 e dX11_release_8 (Nat.le_of_ble_eq_true rfl) (by decide) ?_
  refine v_aload_n dX11_release_11 rfl 0 rfl ?_
  refine v_iload_n dX11_release_12 rfl 1 rfl ?_
  rcases bindX_some h with ⟨u6, M5, e, h⟩ | ⟨e9, e, rfl⟩
  rotate_left
  · exact cx_X11_114 e dX11_release_13 (Nat.le_of_ble_eq_true rfl) (by decide)
  refine ca_X11_114 e dX11_release_13 (Nat.le_of_ble_eq_true rfl) (by decide) ?_
  refine v_aload_n dX11_release_16 rfl 0 rfl ?_
  obtain ⟨v7, e, h⟩ := bind_some h
  refine gt_X11_41 e dX11_release_17 ?_
  obtain ⟨v8, e, h⟩ := bind_some h
  refine gt_X11_77 e dX11_release_20 ?_
  refine v_iload_n dX11_release_23 rfl 1 rfl ?_
  obtain ⟨v9, e, h⟩ := bind_some h
  refine al_0 e dX11_release_24 ?_
  refine v_astore_n (ls' := [(3, .ref v9), (0, .ref l0), (1, .int l1), (2, .int l2)]) dX11_release_25 rfl (by decide) rfl ?_
  refine v_aload_n dX11_release_26 rfl 0 rfl ?_
  obtain ⟨v10, e, h⟩ := bind_some h
  refine gt_X11_94 e dX11_release_27 ?_
  refine v_iload_n dX11_release_30 rfl 3 rfl ?_
  obtain ⟨v12, M11, e, h⟩ := bindP_some h
  refine ca_X11_216 e dX11_release_31 (Nat.le_of_ble_eq_true rfl) (by decide) ?_
  refine v_istore (ls' := [(4, .int v12), (3, .ref v9), (0, .ref l0), (1, .int l1), (2, .int l2)]) dX11_release_34 (by decide) rfl ?_
  refine v_aload_n dX11_release_36 rfl 1 rfl ?_
  obtain ⟨v13, e, h⟩ := bind_some h
  refine gt_X11_94 e dX11_release_37 ?_
  refine v_iload_n dX11_release_40 rfl 4 rfl ?_
  obtain ⟨M14, e, h⟩ := bind_some h
  refine ca_X11_231 e dX11_release_41 (Nat.le_of_ble_eq_true rfl) (by decide) ?_
  refine v_aload_n dX11_release_44 rfl 2 rfl ?_
  obtain ⟨v15, e, h⟩ := bind_some h
  refine gt_X11_41 e dX11_release_45 ?_
  refine v_aload_n dX11_release_48 rfl 1 rfl ?_
  refine v_iconst (v := 4) dX11_release_49 ci_4 ?_
  refine v_iload_n dX11_release_50 rfl 4 rfl ?_
  obtain ⟨M16, e, h⟩ := bind_some h
  refine ca_X11_227 e dX11_release_51 (Nat.le_of_ble_eq_true rfl) (by decide) ?_
  refine v_iload dX11_release_54 0 rfl ?_
  refine v_if_eq (tgt := 63) dX11_release_56 (by decide) (fun c17 => ?_) (fun c17 => ?_)
  · replace h := ifP c17 h
    refine v_iconst (v := 0) dX11_release_63 ci_0 ?_
    cases h
    exact v_ireturn dX11_release_64
  · replace h := ifN c17 h
    refine v_iconst (v := 1) dX11_release_59 ci_1 ?_
    refine v_goto (tgt := 64) dX11_release_60 (by decide) ?_
    cases h
    exact v_ireturn dX11_release_64
theorem kd_X11_release {l0 : Nat} {l1 : Int32} {l2 : Int32} {M : Mem} {z : _} (h : f_X11_release l0 l1 l2 M = some z) : (mK M l0).1 = 11 := by
  unfold f_X11_release at h
  exact (ifS h).1
theorem k_X11_release {G : Gl} {l0 : Nat} {l1 : Int32} {l2 : Int32} {M MF : Mem} {r : Int32 ⊕ Nat} (h : f_X11_release l0 l1 l2 M = some (r, MF)) : CtrP G yX11_release cX11_release 5 (some .int) 7 111 [.ref l0, .int l1, .int l2] M (cxI r) MF :=
  ctr_of (by decide +kernel) (Nat.le_of_ble_eq_true rfl) (fun ρ => w_X11_release l0 l1 l2 M h)
set_option maxHeartbeats 4000000 in
set_option maxRecDepth 100000 in
theorem w_X11_answer_J27 {G : Gl} {ρ0 : Nat → Nat} {M0 MF : Mem} {r : Int32 ⊕ Nat} (l0 : Nat) (l1 : Int32) (l2 : Int32) (l3 : Int32) (M : Mem) (h : f_X11_answer_J27 l0 l1 l2 l3 M = some (r, MF)) : V G (RX11, cX11_answer, (some .int), 7, 117, 4, "answer", []) (ρ0, M0, cxI r, MF) 27 [(0, .ref l0), (1, .int l1), (2, .int l2), (3, .int l3)] [] M := by
  unfold f_X11_answer_J27 at h
  refine v_iload_n dX11_answer_27 rfl 3 rfl ?_
  refine v_iconst (v := 1) dX11_answer_28 ci_1 ?_
  refine v_bipush (v := 50) dX11_answer_29 cb_50 ?_
  rcases bindX_some h with ⟨u2, M1, e, h⟩ | ⟨e9, e, rfl⟩
  rotate_left
  · exact cx_X11_131 e dX11_answer_31 (Nat.le_of_ble_eq_true rfl) (by decide)
  refine ca_X11_131 e dX11_answer_31 (Nat.le_of_ble_eq_true rfl) (by decide) ?_
  refine v_aload_n dX11_answer_34 rfl 0 rfl ?_
  refine v_iload_n dX11_answer_35 rfl 1 rfl ?_
  rcases bindX_some h with ⟨u4, M3, e, h⟩ | ⟨e9, e, rfl⟩
  rotate_left
  · exact cx_X11_114 e dX11_answer_36 (Nat.le_of_ble_eq_true rfl) (by decide)
  refine ca_X11_114 e dX11_answer_36 (Nat.le_of_ble_eq_true rfl) (by decide) ?_
  refine v_aload_n dX11_answer_39 rfl 0 rfl ?_
  obtain ⟨v5, e, h⟩ := bind_some h
  refine gt_X11_41 e dX11_answer_40 ?_
  refine v_aload_n dX11_answer_43 rfl 0 rfl ?_
  obtain ⟨v6, e, h⟩ := bind_some h
  refine gt_X11_41 e dX11_answer_44 ?_
  obtain ⟨v7, e, h⟩ := bind_some h
  refine gt_X11_77 e dX11_answer_47 ?_
  refine v_iload_n dX11_answer_50 rfl 1 rfl ?_
  obtain ⟨v8, e, h⟩ := bind_some h
  refine al_0 e dX11_answer_51 ?_
  refine v_iload_n dX11_answer_52 rfl 2 rfl ?_
  refine v_iload_n dX11_answer_53 rfl 3 rfl ?_
  obtain ⟨v10, M9, e, h⟩ := bindP_some h
  refine ca_X11_234 e dX11_answer_54 (Nat.le_of_ble_eq_true rfl) (by decide) ?_
  refine v_if_eq (tgt := 64) dX11_answer_57 (by decide) (fun c11 => ?_) (fun c11 => ?_)
  · replace h := ifP c11 h
    refine v_iconst (v := 0) dX11_answer_64 ci_0 ?_
    cases h
    exact v_ireturn dX11_answer_65
  · replace h := ifN c11 h
    refine v_iconst (v := 1) dX11_answer_60 ci_1 ?_
    refine v_goto (tgt := 65) dX11_answer_61 (by decide) ?_
    cases h
    exact v_ireturn dX11_answer_65
set_option maxHeartbeats 4000000 in
set_option maxRecDepth 100000 in
theorem w_X11_answer {G : Gl} {ρ0 : Nat → Nat} {M0 MF : Mem} {r : Int32 ⊕ Nat} (l0 : Nat) (l1 : Int32) (l2 : Int32) (l3 : Int32) (M : Mem) (h : f_X11_answer l0 l1 l2 l3 M = some (r, MF)) : V G (RX11, cX11_answer, (some .int), 7, 117, 4, "answer", []) (ρ0, M0, cxI r, MF) 0 [(0, .ref l0), (1, .int l1), (2, .int l2), (3, .int l3)] [] M := by
  unfold f_X11_answer at h
  replace h := (ifS h).2
  refine v_iload_n dX11_answer_0 rfl 1 rfl ?_
  rcases bindX_some h with ⟨u2, M1, e, h⟩ | ⟨e9, e, rfl⟩
  rotate_left
  · exact cx_X11_73 e dX11_answer_1 (Nat.le_of_ble_eq_true rfl) (by decide)
  refine ca_X11_73 e dX11_answer_1 (Nat.le_of_ble_eq_true rfl) (by decide) ?_
  refine v_iload_n dX11_answer_4 rfl 2 rfl ?_
  refine v_iconst (v := 1) dX11_answer_5 ci_1 ?_
  refine v_icmp_eq (tgt := 27) dX11_answer_6 (by decide) (fun c5 => ?_) (fun c5 => ?_)
  · replace h := ifP c5 h
    exact w_X11_answer_J27 l0 l1 l2 l3 M1 h
  · replace h := ifN c5 h
    refine v_iload_n dX11_answer_9 rfl 2 rfl ?_
    refine v_iconst (v := 2) dX11_answer_10 ci_2 ?_
    refine v_icmp_eq (tgt := 27) dX11_answer_11 (by decide) (fun c4 => ?_) (fun c4 => ?_)
    · replace h := ifP c4 h
      exact w_X11_answer_J27 l0 l1 l2 l3 M1 h
    · replace h := ifN c4 h
      refine v_iload_n dX11_answer_14 rfl 2 rfl ?_
      refine v_iconst (v := 4) dX11_answer_15 ci_4 ?_
      refine v_icmp_eq (tgt := 27) dX11_answer_16 (by decide) (fun c3 => ?_) (fun c3 => ?_)
      · replace h := ifP c3 h
        exact w_X11_answer_J27 l0 l1 l2 l3 M1 h
      · replace h := ifN c3 h
        cases h
        exact th_1 dX11_answer_19 dX11_answer_22 dX11_answer_23 dX11_answer_26 (by decide) (Nat.le_of_ble_eq_true rfl)
theorem kd_X11_answer {l0 : Nat} {l1 : Int32} {l2 : Int32} {l3 : Int32} {M : Mem} {z : _} (h : f_X11_answer l0 l1 l2 l3 M = some z) : (mK M l0).1 = 11 := by
  unfold f_X11_answer at h
  exact (ifS h).1
theorem k_X11_answer {G : Gl} {l0 : Nat} {l1 : Int32} {l2 : Int32} {l3 : Int32} {M MF : Mem} {r : Int32 ⊕ Nat} (h : f_X11_answer l0 l1 l2 l3 M = some (r, MF)) : CtrP G yX11_answer cX11_answer 4 (some .int) 7 117 [.ref l0, .int l1, .int l2, .int l3] M (cxI r) MF :=
  ctr_of (by decide +kernel) (Nat.le_of_ble_eq_true rfl) (fun ρ => w_X11_answer l0 l1 l2 l3 M h)
set_option maxHeartbeats 4000000 in
set_option maxRecDepth 100000 in
theorem w_X11_audience {G : Gl} {ρ0 : Nat → Nat} {M0 MF : Mem} {r : Int32 ⊕ Nat} (l0 : Nat) (l1 : Int32) (M : Mem) (h : f_X11_audience l0 l1 M = some (r, MF)) : V G (RX11, cX11_audience, (some .int), 8, 132, 4, "audience", []) (ρ0, M0, cxI r, MF) 0 [(0, .ref l0), (1, .int l1)] [] M := by
  unfold f_X11_audience at h
  replace h := (ifS h).2
  refine v_aload_n dX11_audience_0 rfl 0 rfl ?_
  obtain ⟨v2, M1, e, h⟩ := bindP_some h
  refine ca_X11_123 e dX11_audience_1 (Nat.le_of_ble_eq_true rfl) (by decide) ?_
  refine v_istore_n (ls' := [(2, .int v2), (0, .ref l0), (1, .int l1)]) dX11_audience_4 rfl (by decide) rfl ?_
  refine v_iload_n dX11_audience_5 rfl 2 rfl ?_
  rcases bindX_some h with ⟨u4, M3, e, h⟩ | ⟨e9, e, rfl⟩
  rotate_left
  · exact cx_X11_73 e dX11_audience_6 (Nat.le_of_ble_eq_true rfl) (by decide)
  refine ca_X11_73 e dX11_audience_6 (Nat.le_of_ble_eq_true rfl) (by decide) ?_
  refine v_aload_n dX11_audience_9 rfl 1 rfl ?_
  refine v_iload_n dX11_audience_10 rfl 0 rfl ?_
  rcases bindX_some h with ⟨v6, M5, e, h⟩ | ⟨e9, e, rfl⟩
  rotate_left
  · exact cx_X11_127 e dX11_audience_11 (Nat.le_of_ble_eq_true rfl) (by decide)
  refine ca_X11_127 e dX11_audience_11 (Nat.le_of_ble_eq_true rfl) (by decide) ?_
  refine v_astore_n (ls' := [(3, .ref v6), (2, .int v2), (0, .ref l0), (1, .int l1)]) dX11_audience_14 rfl (by decide) rfl ?_
  refine v_aload_n dX11_audience_15 rfl 2 rfl ?_
  obtain ⟨v7, e, h⟩ := bind_some h
  refine gt_X11_41 e dX11_audience_16 ?_
  refine v_iload_n dX11_audience_19 rfl 3 rfl ?_
  refine v_aload_n dX11_audience_20 rfl 0 rfl ?_
  obtain ⟨v9, M8, e, h⟩ := bindP_some h
  refine ca_X11_238 e dX11_audience_21 (Nat.le_of_ble_eq_true rfl) (by decide) ?_
  cases h
  exact v_ireturn dX11_audience_24
theorem kd_X11_audience {l0 : Nat} {l1 : Int32} {M : Mem} {z : _} (h : f_X11_audience l0 l1 M = some z) : (mK M l0).1 = 11 := by
  unfold f_X11_audience at h
  exact (ifS h).1
theorem k_X11_audience {G : Gl} {l0 : Nat} {l1 : Int32} {M MF : Mem} {r : Int32 ⊕ Nat} (h : f_X11_audience l0 l1 M = some (r, MF)) : CtrP G yX11_audience cX11_audience 4 (some .int) 8 132 [.ref l0, .int l1] M (cxI r) MF :=
  ctr_of (by decide +kernel) (Nat.le_of_ble_eq_true rfl) (fun ρ => w_X11_audience l0 l1 M h)
set_option maxHeartbeats 4000000 in
set_option maxRecDepth 100000 in
theorem w_X11_receive {G : Gl} {ρ0 : Nat → Nat} {M0 MF : Mem} {r : Int32 ⊕ Nat} (l0 : Nat) (l1 : Int32) (M : Mem) (h : f_X11_receive l0 l1 M = some (r, MF)) : V G (RX11, cX11_receive, (some .int), 7, 110, 3, "receive", []) (ρ0, M0, cxI r, MF) 0 [(0, .ref l0), (1, .int l1)] [] M := by
  unfold f_X11_receive at h
  replace h := (ifS h).2
  refine v_iload_n dX11_receive_0 rfl 1 rfl ?_
  rcases bindX_some h with ⟨u2, M1, e, h⟩ | ⟨e9, e, rfl⟩
  rotate_left
  · exact cx_X11_73 e dX11_receive_1 (Nat.le_of_ble_eq_true rfl) (by decide)
  refine ca_X11_73 e dX11_receive_1 (Nat.le_of_ble_eq_true rfl) (by decide) ?_
  refine v_aload_n dX11_receive_4 rfl 0 rfl ?_
  refine v_iload_n dX11_receive_5 rfl 1 rfl ?_
  rcases bindX_some h with ⟨u4, M3, e, h⟩ | ⟨e9, e, rfl⟩
  rotate_left
  · exact cx_X11_114 e dX11_receive_6 (Nat.le_of_ble_eq_true rfl) (by decide)
  refine ca_X11_114 e dX11_receive_6 (Nat.le_of_ble_eq_true rfl) (by decide) ?_
  refine v_aload_n dX11_receive_9 rfl 0 rfl ?_
  obtain ⟨v5, e, h⟩ := bind_some h
  refine gt_X11_41 e dX11_receive_10 ?_
  obtain ⟨v6, e, h⟩ := bind_some h
  refine gt_X11_77 e dX11_receive_13 ?_
  refine v_iload_n dX11_receive_16 rfl 1 rfl ?_
  obtain ⟨v7, e, h⟩ := bind_some h
  refine al_0 e dX11_receive_17 ?_
  obtain ⟨v8, e, h⟩ := bind_some h
  refine gt_X11_242 e dX11_receive_18 ?_
  refine v_astore_n (ls' := [(2, .ref v8), (0, .ref l0), (1, .int l1)]) dX11_receive_21 rfl (by decide) rfl ?_
  refine v_aload_n dX11_receive_22 rfl 0 rfl ?_
  obtain ⟨v9, e, h⟩ := bind_some h
  refine gt_X11_246 e dX11_receive_23 ?_
  refine v_if_ne (tgt := 31) dX11_receive_26 (by decide) (fun c18 => ?_) (fun c18 => ?_)
  · replace h := ifN c18 h
    refine v_aload_n dX11_receive_31 rfl 1 rfl ?_
    obtain ⟨v10, e, h⟩ := bind_some h
    refine gt_X11_27 e dX11_receive_32 ?_
    refine v_aload_n dX11_receive_35 rfl 0 rfl ?_
    obtain ⟨v12, M11, e, h⟩ := bindP_some h
    refine ca_X11_251 e dX11_receive_36 (Nat.le_of_ble_eq_true rfl) (by decide) ?_
    obtain ⟨M13, e, h⟩ := bind_some h
    refine ca_X11_255 e dX11_receive_39 (Nat.le_of_ble_eq_true rfl) (by decide) ?_
    refine v_aload_n dX11_receive_42 rfl 1 rfl ?_
    refine v_iconst (v := 1) dX11_receive_43 ci_1 ?_
    obtain ⟨M14, e, h⟩ := bind_some h
    refine pt_X11_259 e dX11_receive_44 ?_
    refine v_aload_n dX11_receive_47 rfl 0 rfl ?_
    obtain ⟨M15, e, h⟩ := bind_some h
    refine ca_X11_262 e dX11_receive_48 (Nat.le_of_ble_eq_true rfl) (by decide) ?_
    refine v_aload_n dX11_receive_51 rfl 1 rfl ?_
    obtain ⟨v16, e, h⟩ := bind_some h
    refine gt_X11_27 e dX11_receive_52 ?_
    obtain ⟨v17, e, h⟩ := bind_some h
    refine gt_X11_265 e dX11_receive_55 ?_
    cases h
    exact v_ireturn dX11_receive_58
  · replace h := ifP c18 h
    refine v_iconst (v := (-1)) dX11_receive_29 ci_m1 ?_
    cases h
    exact v_ireturn dX11_receive_30
theorem kd_X11_receive {l0 : Nat} {l1 : Int32} {M : Mem} {z : _} (h : f_X11_receive l0 l1 M = some z) : (mK M l0).1 = 11 := by
  unfold f_X11_receive at h
  exact (ifS h).1
theorem k_X11_receive {G : Gl} {l0 : Nat} {l1 : Int32} {M MF : Mem} {r : Int32 ⊕ Nat} (h : f_X11_receive l0 l1 M = some (r, MF)) : CtrP G yX11_receive cX11_receive 3 (some .int) 7 110 [.ref l0, .int l1] M (cxI r) MF :=
  ctr_of (by decide +kernel) (Nat.le_of_ble_eq_true rfl) (fun ρ => w_X11_receive l0 l1 M h)
set_option maxHeartbeats 4000000 in
set_option maxRecDepth 100000 in
theorem w_X11_packet {G : Gl} {ρ0 : Nat → Nat} {M0 MF : Mem} {r : Int32 ⊕ Nat} (l0 : Nat) (l1 : Int32) (M : Mem) (h : f_X11_packet l0 l1 M = some (r, MF)) : V G (RX11, cX11_packet, (some .int), 7, 111, 2, "packet", []) (ρ0, M0, cxI r, MF) 0 [(0, .ref l0), (1, .int l1)] [] M := by
  unfold f_X11_packet at h
  replace h := (ifS h).2
  refine v_iload_n dX11_packet_0 rfl 1 rfl ?_
  refine v_iconst (v := 0) dX11_packet_1 ci_0 ?_
  refine v_iconst (v := 5) dX11_packet_2 ci_5 ?_
  rcases bindX_some h with ⟨u2, M1, e, h⟩ | ⟨e9, e, rfl⟩
  rotate_left
  · exact cx_X11_131 e dX11_packet_3 (Nat.le_of_ble_eq_true rfl) (by decide)
  refine ca_X11_131 e dX11_packet_3 (Nat.le_of_ble_eq_true rfl) (by decide) ?_
  refine v_aload_n dX11_packet_6 rfl 0 rfl ?_
  obtain ⟨v3, e, h⟩ := bind_some h
  refine gt_X11_259 e dX11_packet_7 ?_
  refine v_if_ne (tgt := 21) dX11_packet_10 (by decide) (fun c9 => ?_) (fun c9 => ?_)
  · replace h := ifN c9 h
    refine v_iload_n dX11_packet_21 rfl 1 rfl ?_
    rcases Decidable.em (l1 = 0) with c8_0 | c8_0
    · replace h := ifP c8_0 h
      refine v_tsw (tgt := 56) dX11_packet_22 c8_0 (by decide) (by decide) rfl (by decide) ?_
      refine v_aload_n dX11_packet_56 rfl 0 rfl ?_
      obtain ⟨v4, e, h⟩ := bind_some h
      refine gt_X11_27 e dX11_packet_57 ?_
      obtain ⟨v5, e, h⟩ := bind_some h
      refine gt_X11_265 e dX11_packet_60 ?_
      cases h
      exact v_ireturn dX11_packet_63
    replace h := ifN c8_0 h
    rcases Decidable.em (l1 = 1) with c8_1 | c8_1
    · replace h := ifP c8_1 h
      refine v_tsw (tgt := 64) dX11_packet_22 c8_1 (by decide) (by decide) rfl (by decide) ?_
      refine v_aload_n dX11_packet_64 rfl 0 rfl ?_
      obtain ⟨v4, e, h⟩ := bind_some h
      refine gt_X11_27 e dX11_packet_65 ?_
      obtain ⟨v5, e, h⟩ := bind_some h
      refine gt_X11_268 e dX11_packet_68 ?_
      cases h
      exact v_ireturn dX11_packet_71
    replace h := ifN c8_1 h
    rcases Decidable.em (l1 = 2) with c8_2 | c8_2
    · replace h := ifP c8_2 h
      refine v_tsw (tgt := 72) dX11_packet_22 c8_2 (by decide) (by decide) rfl (by decide) ?_
      refine v_aload_n dX11_packet_72 rfl 0 rfl ?_
      obtain ⟨v4, e, h⟩ := bind_some h
      refine gt_X11_27 e dX11_packet_73 ?_
      obtain ⟨v5, e, h⟩ := bind_some h
      refine gt_X11_271 e dX11_packet_76 ?_
      cases h
      exact v_ireturn dX11_packet_79
    replace h := ifN c8_2 h
    rcases Decidable.em (l1 = 3) with c8_3 | c8_3
    · replace h := ifP c8_3 h
      refine v_tsw (tgt := 80) dX11_packet_22 c8_3 (by decide) (by decide) rfl (by decide) ?_
      refine v_aload_n dX11_packet_80 rfl 0 rfl ?_
      obtain ⟨v4, e, h⟩ := bind_some h
      refine gt_X11_27 e dX11_packet_81 ?_
      obtain ⟨v5, e, h⟩ := bind_some h
      refine gt_X11_272 e dX11_packet_84 ?_
      cases h
      exact v_ireturn dX11_packet_87
    replace h := ifN c8_3 h
    rcases Decidable.em (l1 = 4) with c8_4 | c8_4
    · replace h := ifP c8_4 h
      refine v_tsw (tgt := 88) dX11_packet_22 c8_4 (by decide) (by decide) rfl (by decide) ?_
      refine v_aload_n dX11_packet_88 rfl 0 rfl ?_
      obtain ⟨v4, e, h⟩ := bind_some h
      refine gt_X11_27 e dX11_packet_89 ?_
      obtain ⟨v5, e, h⟩ := bind_some h
      refine gt_X11_275 e dX11_packet_92 ?_
      cases h
      exact v_ireturn dX11_packet_95
    replace h := ifN c8_4 h
    refine v_tswOut (tgt := 96) dX11_packet_22 (fun k h1 h2 => by rcases (show k = 0 ∨ k = 1 ∨ k = 2 ∨ k = 3 ∨ k = 4 by omega) with rfl | rfl | rfl | rfl | rfl <;> assumption) (by decide) ?_
    refine v_aload_n dX11_packet_96 rfl 0 rfl ?_
    obtain ⟨v4, e, h⟩ := bind_some h
    refine gt_X11_27 e dX11_packet_97 ?_
    obtain ⟨v5, e, h⟩ := bind_some h
    refine gt_X11_278 e dX11_packet_100 ?_
    obtain ⟨v6, e, h⟩ := bind_some h
    refine gt_X11_281 e dX11_packet_103 ?_
    obtain ⟨v7, e, h⟩ := bind_some h
    refine v_alen dX11_packet_106 e ?_
    cases h
    exact v_ireturn dX11_packet_107
  · replace h := ifP c9 h
    cases h
    exact th_2 dX11_packet_13 dX11_packet_16 dX11_packet_17 dX11_packet_20 (by decide) (Nat.le_of_ble_eq_true rfl)
theorem kd_X11_packet {l0 : Nat} {l1 : Int32} {M : Mem} {z : _} (h : f_X11_packet l0 l1 M = some z) : (mK M l0).1 = 11 := by
  unfold f_X11_packet at h
  exact (ifS h).1
theorem k_X11_packet {G : Gl} {l0 : Nat} {l1 : Int32} {M MF : Mem} {r : Int32 ⊕ Nat} (h : f_X11_packet l0 l1 M = some (r, MF)) : CtrP G yX11_packet cX11_packet 2 (some .int) 7 111 [.ref l0, .int l1] M (cxI r) MF :=
  ctr_of (by decide +kernel) (Nat.le_of_ble_eq_true rfl) (fun ρ => w_X11_packet l0 l1 M h)
theorem w_X11_topicCharacter_J36 {G : Gl} {ρ0 : Nat → Nat} {M0 MF : Mem} {r : Int32 ⊕ Nat} (M : Mem) (h : f_X11_topicCharacter_J36 M = some (r, MF)) : V G (RX11, cX11_topicCharacter, (some .int), 6, 89, 3, "topicCharacter", []) (ρ0, M0, cxI r, MF) 36 [] [] M := by
  unfold f_X11_topicCharacter_J36 at h
  cases h
  exact th_3 dX11_topicCharacter_36 dX11_topicCharacter_39 dX11_topicCharacter_40 dX11_topicCharacter_43 (by decide) (Nat.le_of_ble_eq_true rfl)
set_option maxHeartbeats 4000000 in
set_option maxRecDepth 100000 in
theorem w_X11_topicCharacter {G : Gl} {ρ0 : Nat → Nat} {M0 MF : Mem} {r : Int32 ⊕ Nat} (l0 : Nat) (l1 : Int32) (M : Mem) (h : f_X11_topicCharacter l0 l1 M = some (r, MF)) : V G (RX11, cX11_topicCharacter, (some .int), 6, 89, 3, "topicCharacter", []) (ρ0, M0, cxI r, MF) 0 [(0, .ref l0), (1, .int l1)] [] M := by
  unfold f_X11_topicCharacter at h
  replace h := (ifS h).2
  refine v_aload_n dX11_topicCharacter_0 rfl 0 rfl ?_
  obtain ⟨v1, e, h⟩ := bind_some h
  refine gt_X11_259 e dX11_topicCharacter_1 ?_
  refine v_if_ne (tgt := 15) dX11_topicCharacter_4 (by decide) (fun c9 => ?_) (fun c9 => ?_)
  · replace h := ifN c9 h
    refine v_aload_n dX11_topicCharacter_15 rfl 0 rfl ?_
    obtain ⟨v2, e, h⟩ := bind_some h
    refine gt_X11_27 e dX11_topicCharacter_16 ?_
    obtain ⟨v3, e, h⟩ := bind_some h
    refine gt_X11_278 e dX11_topicCharacter_19 ?_
    obtain ⟨v4, e, h⟩ := bind_some h
    refine gt_X11_281 e dX11_topicCharacter_22 ?_
    refine v_astore_n (ls' := [(2, .ref v4), (0, .ref l0), (1, .int l1)]) dX11_topicCharacter_25 rfl (by decide) rfl ?_
    refine v_iload_n dX11_topicCharacter_26 rfl 2 rfl ?_
    refine v_if_lt (tgt := 36) dX11_topicCharacter_27 (by decide) (fun c8 => ?_) (fun c8 => ?_)
    · replace h := ifP c8 h
      refine v_sub [] rfl ?_
      exact w_X11_topicCharacter_J36 M h
    · replace h := ifN c8 h
      refine v_iload_n dX11_topicCharacter_30 rfl 2 rfl ?_
      refine v_aload_n dX11_topicCharacter_31 rfl 0 rfl ?_
      obtain ⟨v5, e, h⟩ := bind_some h
      refine v_alen dX11_topicCharacter_32 e ?_
      refine v_icmp_lt (tgt := 44) dX11_topicCharacter_33 (by decide) (fun c7 => ?_) (fun c7 => ?_)
      · replace h := ifP c7 h
        refine v_aload_n dX11_topicCharacter_44 rfl 0 rfl ?_
        refine v_iload_n dX11_topicCharacter_45 rfl 2 rfl ?_
        obtain ⟨v6, e, h⟩ := bind_some h
        refine v_caload dX11_topicCharacter_46 e ?_
        cases h
        exact v_ireturn dX11_topicCharacter_47
      · replace h := ifN c7 h
        refine v_sub [] rfl ?_
        exact w_X11_topicCharacter_J36 M h
  · replace h := ifP c9 h
    cases h
    exact th_2 dX11_topicCharacter_7 dX11_topicCharacter_10 dX11_topicCharacter_11 dX11_topicCharacter_14 (by decide) (Nat.le_of_ble_eq_true rfl)
theorem kd_X11_topicCharacter {l0 : Nat} {l1 : Int32} {M : Mem} {z : _} (h : f_X11_topicCharacter l0 l1 M = some z) : (mK M l0).1 = 11 := by
  unfold f_X11_topicCharacter at h
  exact (ifS h).1
theorem k_X11_topicCharacter {G : Gl} {l0 : Nat} {l1 : Int32} {M MF : Mem} {r : Int32 ⊕ Nat} (h : f_X11_topicCharacter l0 l1 M = some (r, MF)) : CtrP G yX11_topicCharacter cX11_topicCharacter 3 (some .int) 6 89 [.ref l0, .int l1] M (cxI r) MF :=
  ctr_of (by decide +kernel) (Nat.le_of_ble_eq_true rfl) (fun ρ => w_X11_topicCharacter l0 l1 M h)
set_option maxHeartbeats 4000000 in
set_option maxRecDepth 100000 in
theorem w_X11_lose {G : Gl} {ρ0 : Nat → Nat} {M0 MF : Mem} {r : Int32 ⊕ Nat} (l0 : Nat) (l1 : Int32) (M : Mem) (h : f_X11_lose l0 l1 M = some (r, MF)) : V G (RX11, cX11_lose, (some .int), 7, 110, 4, "lose", []) (ρ0, M0, cxI r, MF) 0 [(0, .ref l0), (1, .int l1)] [] M := by
  unfold f_X11_lose at h
  replace h := (ifS h).2
  refine v_iload_n dX11_lose_0 rfl 1 rfl ?_
  rcases bindX_some h with ⟨u2, M1, e, h⟩ | ⟨e9, e, rfl⟩
  rotate_left
  · exact cx_X11_73 e dX11_lose_1 (Nat.le_of_ble_eq_true rfl) (by decide)
  refine ca_X11_73 e dX11_lose_1 (Nat.le_of_ble_eq_true rfl) (by decide) ?_
  refine v_aload_n dX11_lose_4 rfl 0 rfl ?_
  refine v_iload_n dX11_lose_5 rfl 1 rfl ?_
  rcases bindX_some h with ⟨u4, M3, e, h⟩ | ⟨e9, e, rfl⟩
  rotate_left
  · exact cx_X11_114 e dX11_lose_6 (Nat.le_of_ble_eq_true rfl) (by decide)
  refine ca_X11_114 e dX11_lose_6 (Nat.le_of_ble_eq_true rfl) (by decide) ?_
  refine v_aload_n dX11_lose_9 rfl 0 rfl ?_
  obtain ⟨v5, e, h⟩ := bind_some h
  refine gt_X11_41 e dX11_lose_10 ?_
  obtain ⟨v6, e, h⟩ := bind_some h
  refine gt_X11_77 e dX11_lose_13 ?_
  refine v_iload_n dX11_lose_16 rfl 1 rfl ?_
  obtain ⟨v7, e, h⟩ := bind_some h
  refine al_0 e dX11_lose_17 ?_
  obtain ⟨v8, e, h⟩ := bind_some h
  refine gt_X11_242 e dX11_lose_18 ?_
  refine v_astore_n (ls' := [(2, .ref v8), (0, .ref l0), (1, .int l1)]) dX11_lose_21 rfl (by decide) rfl ?_
  refine v_aload_n dX11_lose_22 rfl 0 rfl ?_
  obtain ⟨v9, e, h⟩ := bind_some h
  refine gt_X11_246 e dX11_lose_23 ?_
  refine v_if_ne (tgt := 31) dX11_lose_26 (by decide) (fun c14 => ?_) (fun c14 => ?_)
  · replace h := ifN c14 h
    refine v_aload_n dX11_lose_31 rfl 0 rfl ?_
    obtain ⟨v11, M10, e, h⟩ := bindP_some h
    refine ca_X11_251 e dX11_lose_32 (Nat.le_of_ble_eq_true rfl) (by decide) ?_
    obtain ⟨v12, e, h⟩ := bind_some h
    refine gt_X11_265 e dX11_lose_35 ?_
    refine v_istore_n (ls' := [(3, .int v12), (2, .ref v8), (0, .ref l0), (1, .int l1)]) dX11_lose_38 rfl (by decide) rfl ?_
    refine v_aload_n dX11_lose_39 rfl 1 rfl ?_
    obtain ⟨M13, e, h⟩ := bind_some h
    refine ca_X11_262 e dX11_lose_40 (Nat.le_of_ble_eq_true rfl) (by decide) ?_
    refine v_iload_n dX11_lose_43 rfl 0 rfl ?_
    cases h
    exact v_ireturn dX11_lose_44
  · replace h := ifP c14 h
    refine v_iconst (v := (-1)) dX11_lose_29 ci_m1 ?_
    cases h
    exact v_ireturn dX11_lose_30
theorem kd_X11_lose {l0 : Nat} {l1 : Int32} {M : Mem} {z : _} (h : f_X11_lose l0 l1 M = some z) : (mK M l0).1 = 11 := by
  unfold f_X11_lose at h
  exact (ifS h).1
theorem k_X11_lose {G : Gl} {l0 : Nat} {l1 : Int32} {M MF : Mem} {r : Int32 ⊕ Nat} (h : f_X11_lose l0 l1 M = some (r, MF)) : CtrP G yX11_lose cX11_lose 4 (some .int) 7 110 [.ref l0, .int l1] M (cxI r) MF :=
  ctr_of (by decide +kernel) (Nat.le_of_ble_eq_true rfl) (fun ρ => w_X11_lose l0 l1 M h)
set_option maxHeartbeats 4000000 in
set_option maxRecDepth 100000 in
theorem w_X11_repeat_J59 {G : Gl} {ρ0 : Nat → Nat} {M0 MF : Mem} {r : Int32 ⊕ Nat} (l2 : Nat) (M : Mem) (h : f_X11_repeat_J59 l2 M = some (r, MF)) : V G (RX11, cX11_repeat, (some .int), 7, 110, 4, "repeat", []) (ρ0, M0, cxI r, MF) 59 [(2, .ref l2)] [] M := by
  unfold f_X11_repeat_J59 at h
  refine v_aload_n dX11_repeat_59 rfl 0 rfl ?_
  obtain ⟨v1, e, h⟩ := bind_some h
  refine gt_X11_246 e dX11_repeat_60 ?_
  cases h
  exact v_ireturn dX11_repeat_63
set_option maxHeartbeats 4000000 in
set_option maxRecDepth 100000 in
theorem w_X11_repeat {G : Gl} {ρ0 : Nat → Nat} {M0 MF : Mem} {r : Int32 ⊕ Nat} (l0 : Nat) (l1 : Int32) (M : Mem) (h : f_X11_repeat l0 l1 M = some (r, MF)) : V G (RX11, cX11_repeat, (some .int), 7, 110, 4, "repeat", []) (ρ0, M0, cxI r, MF) 0 [(0, .ref l0), (1, .int l1)] [] M := by
  unfold f_X11_repeat at h
  replace h := (ifS h).2
  refine v_iload_n dX11_repeat_0 rfl 1 rfl ?_
  rcases bindX_some h with ⟨u2, M1, e, h⟩ | ⟨e9, e, rfl⟩
  rotate_left
  · exact cx_X11_73 e dX11_repeat_1 (Nat.le_of_ble_eq_true rfl) (by decide)
  refine ca_X11_73 e dX11_repeat_1 (Nat.le_of_ble_eq_true rfl) (by decide) ?_
  refine v_aload_n dX11_repeat_4 rfl 0 rfl ?_
  refine v_iload_n dX11_repeat_5 rfl 1 rfl ?_
  rcases bindX_some h with ⟨u4, M3, e, h⟩ | ⟨e9, e, rfl⟩
  rotate_left
  · exact cx_X11_114 e dX11_repeat_6 (Nat.le_of_ble_eq_true rfl) (by decide)
  refine ca_X11_114 e dX11_repeat_6 (Nat.le_of_ble_eq_true rfl) (by decide) ?_
  refine v_aload_n dX11_repeat_9 rfl 0 rfl ?_
  obtain ⟨v5, e, h⟩ := bind_some h
  refine gt_X11_41 e dX11_repeat_10 ?_
  obtain ⟨v6, e, h⟩ := bind_some h
  refine gt_X11_77 e dX11_repeat_13 ?_
  refine v_iload_n dX11_repeat_16 rfl 1 rfl ?_
  obtain ⟨v7, e, h⟩ := bind_some h
  refine al_0 e dX11_repeat_17 ?_
  obtain ⟨v8, e, h⟩ := bind_some h
  refine gt_X11_242 e dX11_repeat_18 ?_
  refine v_astore_n (ls' := [(2, .ref v8), (0, .ref l0), (1, .int l1)]) dX11_repeat_21 rfl (by decide) rfl ?_
  refine v_aload_n dX11_repeat_22 rfl 0 rfl ?_
  obtain ⟨v9, e, h⟩ := bind_some h
  refine gt_X11_246 e dX11_repeat_23 ?_
  refine v_if_ne (tgt := 37) dX11_repeat_26 (by decide) (fun c17 => ?_) (fun c17 => ?_)
  · replace h := ifN c17 h
    refine v_aload_n dX11_repeat_37 rfl 0 rfl ?_
    obtain ⟨v10, e, h⟩ := bind_some h
    refine gt_X11_246 e dX11_repeat_38 ?_
    refine v_bipush (v := 30) dX11_repeat_41 cb_30 ?_
    refine v_icmp_ge (tgt := 59) dX11_repeat_43 (by decide) (fun c16 => ?_) (fun c16 => ?_)
    · replace h := ifP c16 h
      refine v_sub [0] rfl ?_
      exact w_X11_repeat_J59 v8 M3 h
    · replace h := ifN c16 h
      refine v_aload_n dX11_repeat_46 rfl 0 rfl ?_
      obtain ⟨v12, M11, e, h⟩ := bindP_some h
      refine ca_X11_251 e dX11_repeat_47 (Nat.le_of_ble_eq_true rfl) (by decide) ?_
      refine v_astore_n (ls' := [(3, .ref v12), (2, .ref v8), (0, .ref l0), (1, .int l1)]) dX11_repeat_50 rfl (by decide) rfl ?_
      refine v_aload_n dX11_repeat_51 rfl 1 rfl ?_
      obtain ⟨v14, M13, e, h⟩ := bindP_some h
      refine ca_X11_284 e dX11_repeat_52 (Nat.le_of_ble_eq_true rfl) (by decide) ?_
      refine v_aload_n dX11_repeat_55 rfl 0 rfl ?_
      obtain ⟨M15, e, h⟩ := bind_some h
      refine ca_X11_255 e dX11_repeat_56 (Nat.le_of_ble_eq_true rfl) (by decide) ?_
      refine v_sub [1] rfl ?_
      exact w_X11_repeat_J59 v8 M15 h
  · replace h := ifP c17 h
    cases h
    exact th_2 dX11_repeat_29 dX11_repeat_32 dX11_repeat_33 dX11_repeat_36 (by decide) (Nat.le_of_ble_eq_true rfl)
theorem kd_X11_repeat {l0 : Nat} {l1 : Int32} {M : Mem} {z : _} (h : f_X11_repeat l0 l1 M = some z) : (mK M l0).1 = 11 := by
  unfold f_X11_repeat at h
  exact (ifS h).1
theorem k_X11_repeat {G : Gl} {l0 : Nat} {l1 : Int32} {M MF : Mem} {r : Int32 ⊕ Nat} (h : f_X11_repeat l0 l1 M = some (r, MF)) : CtrP G yX11_repeat cX11_repeat 4 (some .int) 7 110 [.ref l0, .int l1] M (cxI r) MF :=
  ctr_of (by decide +kernel) (Nat.le_of_ble_eq_true rfl) (fun ρ => w_X11_repeat l0 l1 M h)
set_option maxHeartbeats 4000000 in
set_option maxRecDepth 100000 in
theorem w_X11_length {G : Gl} {ρ0 : Nat → Nat} {M0 MF : Mem} {r : Int32 ⊕ Nat} (l0 : Nat) (l1 : Int32) (l2 : Int32) (M : Mem) (h : f_X11_length l0 l1 l2 M = some (r, MF)) : V G (RX11, cX11_length, (some .int), 7, 109, 4, "length", []) (ρ0, M0, cxI r, MF) 0 [(0, .ref l0), (1, .int l1), (2, .int l2)] [] M := by
  unfold f_X11_length at h
  replace h := (ifS h).2
  refine v_iload_n dX11_length_0 rfl 1 rfl ?_
  rcases bindX_some h with ⟨u2, M1, e, h⟩ | ⟨e9, e, rfl⟩
  rotate_left
  · exact cx_X11_73 e dX11_length_1 (Nat.le_of_ble_eq_true rfl) (by decide)
  refine ca_X11_73 e dX11_length_1 (Nat.le_of_ble_eq_true rfl) (by decide) ?_
  refine v_aload_n dX11_length_4 rfl 0 rfl ?_
  obtain ⟨v3, e, h⟩ := bind_some h
  refine gt_X11_41 e dX11_length_5 ?_
  obtain ⟨v4, e, h⟩ := bind_some h
  refine gt_X11_77 e dX11_length_8 ?_
  refine v_iload_n dX11_length_11 rfl 1 rfl ?_
  obtain ⟨v5, e, h⟩ := bind_some h
  refine al_0 e dX11_length_12 ?_
  refine v_astore_n (ls' := [(3, .ref v5), (0, .ref l0), (1, .int l1), (2, .int l2)]) dX11_length_13 rfl (by decide) rfl ?_
  refine v_iload_n dX11_length_14 rfl 3 rfl ?_
  rcases Decidable.em (l2 = 0) with c9_0 | c9_0
  · replace h := ifP c9_0 h
    refine v_tsw (tgt := 48) dX11_length_15 c9_0 (by decide) (by decide) rfl (by decide) ?_
    refine v_aload_n dX11_length_48 rfl 0 rfl ?_
    obtain ⟨v6, e, h⟩ := bind_some h
    refine gt_X11_242 e dX11_length_49 ?_
    obtain ⟨v7, e, h⟩ := bind_some h
    refine gt_X11_246 e dX11_length_52 ?_
    cases h
    exact v_ireturn dX11_length_55
  replace h := ifN c9_0 h
  rcases Decidable.em (l2 = 1) with c9_1 | c9_1
  · replace h := ifP c9_1 h
    refine v_tsw (tgt := 56) dX11_length_15 c9_1 (by decide) (by decide) rfl (by decide) ?_
    refine v_aload_n dX11_length_56 rfl 0 rfl ?_
    obtain ⟨v6, e, h⟩ := bind_some h
    refine gt_X11_94 e dX11_length_57 ?_
    obtain ⟨v7, e, h⟩ := bind_some h
    refine gt_X11_287 e dX11_length_60 ?_
    obtain ⟨v8, e, h⟩ := bind_some h
    refine gt_X11_291 e dX11_length_63 ?_
    cases h
    exact v_ireturn dX11_length_66
  replace h := ifN c9_1 h
  rcases Decidable.em (l2 = 2) with c9_2 | c9_2
  · replace h := ifP c9_2 h
    refine v_tsw (tgt := 67) dX11_length_15 c9_2 (by decide) (by decide) rfl (by decide) ?_
    refine v_aload_n dX11_length_67 rfl 0 rfl ?_
    obtain ⟨v6, e, h⟩ := bind_some h
    refine gt_X11_94 e dX11_length_68 ?_
    obtain ⟨v7, e, h⟩ := bind_some h
    refine gt_X11_294 e dX11_length_71 ?_
    obtain ⟨v8, e, h⟩ := bind_some h
    refine gt_X11_291 e dX11_length_74 ?_
    cases h
    exact v_ireturn dX11_length_77
  replace h := ifN c9_2 h
  rcases Decidable.em (l2 = 3) with c9_3 | c9_3
  · replace h := ifP c9_3 h
    refine v_tsw (tgt := 78) dX11_length_15 c9_3 (by decide) (by decide) rfl (by decide) ?_
    refine v_aload_n dX11_length_78 rfl 0 rfl ?_
    obtain ⟨v6, e, h⟩ := bind_some h
    refine gt_X11_94 e dX11_length_79 ?_
    obtain ⟨v7, e, h⟩ := bind_some h
    refine gt_X11_297 e dX11_length_82 ?_
    cases h
    exact v_ireturn dX11_length_85
  replace h := ifN c9_3 h
  rcases Decidable.em (l2 = 4) with c9_4 | c9_4
  · replace h := ifP c9_4 h
    refine v_tsw (tgt := 86) dX11_length_15 c9_4 (by decide) (by decide) rfl (by decide) ?_
    refine v_aload_n dX11_length_86 rfl 0 rfl ?_
    obtain ⟨v6, e, h⟩ := bind_some h
    refine gt_X11_94 e dX11_length_87 ?_
    obtain ⟨v7, e, h⟩ := bind_some h
    refine gt_X11_155 e dX11_length_90 ?_
    cases h
    exact v_ireturn dX11_length_93
  replace h := ifN c9_4 h
  refine v_tswOut (tgt := 94) dX11_length_15 (fun k h1 h2 => by rcases (show k = 0 ∨ k = 1 ∨ k = 2 ∨ k = 3 ∨ k = 4 by omega) with rfl | rfl | rfl | rfl | rfl <;> assumption) (by decide) ?_
  cases h
  exact th_1 dX11_length_94 dX11_length_97 dX11_length_98 dX11_length_101 (by decide) (Nat.le_of_ble_eq_true rfl)
theorem kd_X11_length {l0 : Nat} {l1 : Int32} {l2 : Int32} {M : Mem} {z : _} (h : f_X11_length l0 l1 l2 M = some z) : (mK M l0).1 = 11 := by
  unfold f_X11_length at h
  exact (ifS h).1
theorem k_X11_length {G : Gl} {l0 : Nat} {l1 : Int32} {l2 : Int32} {M MF : Mem} {r : Int32 ⊕ Nat} (h : f_X11_length l0 l1 l2 M = some (r, MF)) : CtrP G yX11_length cX11_length 4 (some .int) 7 109 [.ref l0, .int l1, .int l2] M (cxI r) MF :=
  ctr_of (by decide +kernel) (Nat.le_of_ble_eq_true rfl) (fun ρ => w_X11_length l0 l1 l2 M h)
theorem w_X11_inFlight_J44 {G : Gl} {ρ0 : Nat → Nat} {M0 MF : Mem} {r : Int32 ⊕ Nat} (M : Mem) (h : f_X11_inFlight_J44 M = some (r, MF)) : V G (RX11, cX11_inFlight, (some .int), 7, 109, 6, "inFlight", []) (ρ0, M0, cxI r, MF) 44 [] [] M := by
  unfold f_X11_inFlight_J44 at h
  cases h
  exact th_3 dX11_inFlight_44 dX11_inFlight_47 dX11_inFlight_48 dX11_inFlight_51 (by decide) (Nat.le_of_ble_eq_true rfl)
set_option maxHeartbeats 4000000 in
set_option maxRecDepth 100000 in
theorem w_X11_inFlight {G : Gl} {ρ0 : Nat → Nat} {M0 MF : Mem} {r : Int32 ⊕ Nat} (l0 : Nat) (l1 : Int32) (l2 : Int32) (l3 : Int32) (M : Mem) (h : f_X11_inFlight l0 l1 l2 l3 M = some (r, MF)) : V G (RX11, cX11_inFlight, (some .int), 7, 109, 6, "inFlight", []) (ρ0, M0, cxI r, MF) 0 [(0, .ref l0), (1, .int l1), (2, .int l2), (3, .int l3)] [] M := by
  unfold f_X11_inFlight at h
  replace h := (ifS h).2
  refine v_iload_n dX11_inFlight_0 rfl 1 rfl ?_
  rcases bindX_some h with ⟨u2, M1, e, h⟩ | ⟨e9, e, rfl⟩
  rotate_left
  · exact cx_X11_73 e dX11_inFlight_1 (Nat.le_of_ble_eq_true rfl) (by decide)
  refine ca_X11_73 e dX11_inFlight_1 (Nat.le_of_ble_eq_true rfl) (by decide) ?_
  refine v_aload_n dX11_inFlight_4 rfl 0 rfl ?_
  obtain ⟨v3, e, h⟩ := bind_some h
  refine gt_X11_41 e dX11_inFlight_5 ?_
  obtain ⟨v4, e, h⟩ := bind_some h
  refine gt_X11_77 e dX11_inFlight_8 ?_
  refine v_iload_n dX11_inFlight_11 rfl 1 rfl ?_
  obtain ⟨v5, e, h⟩ := bind_some h
  refine al_0 e dX11_inFlight_12 ?_
  obtain ⟨v6, e, h⟩ := bind_some h
  refine gt_X11_94 e dX11_inFlight_13 ?_
  obtain ⟨v7, e, h⟩ := bind_some h
  refine gt_X11_287 e dX11_inFlight_16 ?_
  refine v_astore (ls' := [(4, .ref v7), (0, .ref l0), (1, .int l1), (2, .int l2), (3, .int l3)]) dX11_inFlight_19 (by decide) rfl ?_
  refine v_iload_n dX11_inFlight_21 rfl 3 rfl ?_
  refine v_if_lt (tgt := 44) dX11_inFlight_22 (by decide) (fun c17 => ?_) (fun c17 => ?_)
  · replace h := ifP c17 h
    refine v_sub [] rfl ?_
    exact w_X11_inFlight_J44 M1 h
  · replace h := ifN c17 h
    refine v_iload_n dX11_inFlight_25 rfl 3 rfl ?_
    refine v_aload dX11_inFlight_26 0 rfl ?_
    obtain ⟨v8, e, h⟩ := bind_some h
    refine gt_X11_291 e dX11_inFlight_28 ?_
    refine v_icmp_ge (tgt := 44) dX11_inFlight_31 (by decide) (fun c16 => ?_) (fun c16 => ?_)
    · replace h := ifP c16 h
      refine v_sub [] rfl ?_
      exact w_X11_inFlight_J44 M1 h
    · replace h := ifN c16 h
      refine v_iload_n dX11_inFlight_34 rfl 3 rfl ?_
      refine v_aload dX11_inFlight_35 0 rfl ?_
      obtain ⟨v9, e, h⟩ := bind_some h
      refine gt_X11_300 e dX11_inFlight_37 ?_
      obtain ⟨v10, e, h⟩ := bind_some h
      refine v_alen dX11_inFlight_40 e ?_
      refine v_icmp_lt (tgt := 52) dX11_inFlight_41 (by decide) (fun c15 => ?_) (fun c15 => ?_)
      · replace h := ifP c15 h
        refine v_aload dX11_inFlight_52 0 rfl ?_
        obtain ⟨v11, e, h⟩ := bind_some h
        refine gt_X11_300 e dX11_inFlight_54 ?_
        refine v_iload_n dX11_inFlight_57 rfl 3 rfl ?_
        obtain ⟨v12, e, h⟩ := bind_some h
        refine al_1 e dX11_inFlight_58 ?_
        refine v_astore (ls' := [(5, .ref v12), (4, .ref v7), (0, .ref l0), (1, .int l1), (2, .int l2), (3, .int l3)]) dX11_inFlight_59 (by decide) rfl ?_
        refine v_iload_n dX11_inFlight_61 rfl 5 rfl ?_
        rcases Decidable.em (l3 = 0) with c14_0 | c14_0
        · replace h := ifP c14_0 h
          refine v_tsw (tgt := 96) dX11_inFlight_62 c14_0 (by decide) (by decide) rfl (by decide) ?_
          refine v_aload dX11_inFlight_96 0 rfl ?_
          obtain ⟨v13, e, h⟩ := bind_some h
          refine gt_X11_304 e dX11_inFlight_98 ?_
          cases h
          exact v_ireturn dX11_inFlight_101
        replace h := ifN c14_0 h
        rcases Decidable.em (l3 = 1) with c14_1 | c14_1
        · replace h := ifP c14_1 h
          refine v_tsw (tgt := 102) dX11_inFlight_62 c14_1 (by decide) (by decide) rfl (by decide) ?_
          refine v_aload dX11_inFlight_102 0 rfl ?_
          obtain ⟨v13, e, h⟩ := bind_some h
          refine gt_X11_305 e dX11_inFlight_104 ?_
          cases h
          exact v_ireturn dX11_inFlight_107
        replace h := ifN c14_1 h
        rcases Decidable.em (l3 = 2) with c14_2 | c14_2
        · replace h := ifP c14_2 h
          refine v_tsw (tgt := 108) dX11_inFlight_62 c14_2 (by decide) (by decide) rfl (by decide) ?_
          refine v_aload dX11_inFlight_108 0 rfl ?_
          obtain ⟨v13, e, h⟩ := bind_some h
          refine gt_X11_306 e dX11_inFlight_110 ?_
          cases h
          exact v_ireturn dX11_inFlight_113
        replace h := ifN c14_2 h
        rcases Decidable.em (l3 = 3) with c14_3 | c14_3
        · replace h := ifP c14_3 h
          refine v_tsw (tgt := 114) dX11_inFlight_62 c14_3 (by decide) (by decide) rfl (by decide) ?_
          refine v_aload dX11_inFlight_114 0 rfl ?_
          obtain ⟨v13, e, h⟩ := bind_some h
          refine gt_X11_307 e dX11_inFlight_116 ?_
          cases h
          exact v_ireturn dX11_inFlight_119
        replace h := ifN c14_3 h
        rcases Decidable.em (l3 = 4) with c14_4 | c14_4
        · replace h := ifP c14_4 h
          refine v_tsw (tgt := 120) dX11_inFlight_62 c14_4 (by decide) (by decide) rfl (by decide) ?_
          refine v_aload dX11_inFlight_120 0 rfl ?_
          obtain ⟨v13, e, h⟩ := bind_some h
          refine gt_X11_310 e dX11_inFlight_122 ?_
          cases h
          exact v_ireturn dX11_inFlight_125
        replace h := ifN c14_4 h
        refine v_tswOut (tgt := 126) dX11_inFlight_62 (fun k h1 h2 => by rcases (show k = 0 ∨ k = 1 ∨ k = 2 ∨ k = 3 ∨ k = 4 by omega) with rfl | rfl | rfl | rfl | rfl <;> assumption) (by decide) ?_
        cases h
        exact th_1 dX11_inFlight_126 dX11_inFlight_129 dX11_inFlight_130 dX11_inFlight_133 (by decide) (Nat.le_of_ble_eq_true rfl)
      · replace h := ifN c15 h
        refine v_sub [] rfl ?_
        exact w_X11_inFlight_J44 M1 h
theorem kd_X11_inFlight {l0 : Nat} {l1 : Int32} {l2 : Int32} {l3 : Int32} {M : Mem} {z : _} (h : f_X11_inFlight l0 l1 l2 l3 M = some z) : (mK M l0).1 = 11 := by
  unfold f_X11_inFlight at h
  exact (ifS h).1
theorem k_X11_inFlight {G : Gl} {l0 : Nat} {l1 : Int32} {l2 : Int32} {l3 : Int32} {M MF : Mem} {r : Int32 ⊕ Nat} (h : f_X11_inFlight l0 l1 l2 l3 M = some (r, MF)) : CtrP G yX11_inFlight cX11_inFlight 6 (some .int) 7 109 [.ref l0, .int l1, .int l2, .int l3] M (cxI r) MF :=
  ctr_of (by decide +kernel) (Nat.le_of_ble_eq_true rfl) (fun ρ => w_X11_inFlight l0 l1 l2 l3 M h)
set_option maxHeartbeats 4000000 in
set_option maxRecDepth 100000 in
theorem w_X11_advance_L9 {G : Gl} {ρ0 : Nat → Nat} {M0 MF : Mem} {r : Int32 ⊕ Nat} : ∀ (n : Nat) (l0 : Nat) (l1 : Int32) (l2 : Int32) (M : Mem), f_X11_advance_L9 n l0 l1 l2 M = some (r, MF) → V G (RX11, cX11_advance, (some .int), 7, 134, 3, "advance", []) (ρ0, M0, cxI r, MF) 9 [(0, .ref l0), (1, .int l1), (2, .int l2)] [] M := by
  intro n
  induction n with
  | zero => intro l0 l1 l2 M h; cases h
  | succ n ih =>
    intro l0 l1 l2 M h
    rw [f_X11_advance_L9] at h
    refine v_iload_n dX11_advance_9 rfl 2 rfl ?_
    refine v_iload_n dX11_advance_10 rfl 1 rfl ?_
    refine v_icmp_ge (tgt := 27) dX11_advance_11 (by decide) (fun c3 => ?_) (fun c3 => ?_)
    · replace h := ifP c3 h
      refine v_aload_n dX11_advance_27 rfl 0 rfl ?_
      obtain ⟨v1, e, h⟩ := bind_some h
      refine gt_X11_41 e dX11_advance_28 ?_
      obtain ⟨v2, e, h⟩ := bind_some h
      refine gt_X11_316 e dX11_advance_31 ?_
      cases h
      exact v_ireturn dX11_advance_34
    · replace h := ifN c3 h
      refine v_aload_n dX11_advance_14 rfl 0 rfl ?_
      obtain ⟨v1, e, h⟩ := bind_some h
      refine gt_X11_41 e dX11_advance_15 ?_
      obtain ⟨M2, e, h⟩ := bind_some h
      refine ca_X11_313 e dX11_advance_18 (Nat.le_of_ble_eq_true rfl) (by decide) ?_
      refine v_iinc (ls' := [(2, .int (l2 + 1)), (0, .ref l0), (1, .int l1)]) dX11_advance_21 2 rfl (v := 1) ci_1 (by decide) rfl ?_
      refine v_goto (tgt := 9) dX11_advance_24 (by decide) ?_
      refine v_sub [1, 2, 0] rfl ?_
      exact ih l0 l1 (l2 + 1) M2 h
set_option maxHeartbeats 4000000 in
set_option maxRecDepth 100000 in
theorem w_X11_advance {G : Gl} {ρ0 : Nat → Nat} {M0 MF : Mem} {r : Int32 ⊕ Nat} (l0 : Nat) (l1 : Int32) (M : Mem) (h : f_X11_advance l0 l1 M = some (r, MF)) : V G (RX11, cX11_advance, (some .int), 7, 134, 3, "advance", []) (ρ0, M0, cxI r, MF) 0 [(0, .ref l0), (1, .int l1)] [] M := by
  unfold f_X11_advance at h
  replace h := (ifS h).2
  refine v_iload_n dX11_advance_0 rfl 1 rfl ?_
  refine v_iconst (v := 1) dX11_advance_1 ci_1 ?_
  refine v_bipush (v := 100) dX11_advance_2 cb_100 ?_
  rcases bindX_some h with ⟨u2, M1, e, h⟩ | ⟨e9, e, rfl⟩
  rotate_left
  · exact cx_X11_131 e dX11_advance_4 (Nat.le_of_ble_eq_true rfl) (by decide)
  refine ca_X11_131 e dX11_advance_4 (Nat.le_of_ble_eq_true rfl) (by decide) ?_
  refine v_iconst (v := 0) dX11_advance_7 ci_0 ?_
  refine v_istore_n (ls' := [(2, .int (0 : Int32)), (0, .ref l0), (1, .int l1)]) dX11_advance_8 rfl (by decide) rfl ?_
  refine v_sub [1, 2, 0] rfl ?_
  exact w_X11_advance_L9 FU l0 l1 (0 : Int32) M1 h
theorem kd_X11_advance {l0 : Nat} {l1 : Int32} {M : Mem} {z : _} (h : f_X11_advance l0 l1 M = some z) : (mK M l0).1 = 11 := by
  unfold f_X11_advance at h
  exact (ifS h).1
theorem k_X11_advance {G : Gl} {l0 : Nat} {l1 : Int32} {M MF : Mem} {r : Int32 ⊕ Nat} (h : f_X11_advance l0 l1 M = some (r, MF)) : CtrP G yX11_advance cX11_advance 3 (some .int) 7 134 [.ref l0, .int l1] M (cxI r) MF :=
  ctr_of (by decide +kernel) (Nat.le_of_ble_eq_true rfl) (fun ρ => w_X11_advance l0 l1 M h)
set_option maxHeartbeats 4000000 in
set_option maxRecDepth 100000 in
theorem w_X11_load {G : Gl} {ρ0 : Nat → Nat} {M0 MF : Mem} {r : Int32 ⊕ Nat} (l0 : Nat) (l1 : Int32) (M : Mem) (h : f_X11_load l0 l1 M = some (r, MF)) : V G (RX11, cX11_load, (some .int), 7, 109, 2, "load", []) (ρ0, M0, cxI r, MF) 0 [(0, .ref l0), (1, .int l1)] [] M := by
  unfold f_X11_load at h
  replace h := (ifS h).2
  refine v_iload_n dX11_load_0 rfl 1 rfl ?_
  rcases bindX_some h with ⟨u2, M1, e, h⟩ | ⟨e9, e, rfl⟩
  rotate_left
  · exact cx_X11_73 e dX11_load_1 (Nat.le_of_ble_eq_true rfl) (by decide)
  refine ca_X11_73 e dX11_load_1 (Nat.le_of_ble_eq_true rfl) (by decide) ?_
  refine v_aload_n dX11_load_4 rfl 0 rfl ?_
  obtain ⟨v3, e, h⟩ := bind_some h
  refine gt_X11_41 e dX11_load_5 ?_
  obtain ⟨v4, e, h⟩ := bind_some h
  refine gt_X11_77 e dX11_load_8 ?_
  refine v_iload_n dX11_load_11 rfl 1 rfl ?_
  obtain ⟨v5, e, h⟩ := bind_some h
  refine al_0 e dX11_load_12 ?_
  obtain ⟨v6, e, h⟩ := bind_some h
  refine gt_X11_319 e dX11_load_13 ?_
  refine kf_X11_323 dX11_load_16 ?_
  obtain ⟨v7, e, h⟩ := bind_some h
  refine v_fmul dX11_load_19 e ?_
  refine v_f2i dX11_load_20 ?_
  cases h
  exact v_ireturn dX11_load_21
theorem kd_X11_load {l0 : Nat} {l1 : Int32} {M : Mem} {z : _} (h : f_X11_load l0 l1 M = some z) : (mK M l0).1 = 11 := by
  unfold f_X11_load at h
  exact (ifS h).1
theorem k_X11_load {G : Gl} {l0 : Nat} {l1 : Int32} {M MF : Mem} {r : Int32 ⊕ Nat} (h : f_X11_load l0 l1 M = some (r, MF)) : CtrP G yX11_load cX11_load 2 (some .int) 7 109 [.ref l0, .int l1] M (cxI r) MF :=
  ctr_of (by decide +kernel) (Nat.le_of_ble_eq_true rfl) (fun ρ => w_X11_load l0 l1 M h)
set_option maxHeartbeats 4000000 in
set_option maxRecDepth 100000 in
theorem w_X11_retainedCount {G : Gl} {ρ0 : Nat → Nat} {M0 MF : Mem} {r : Int32} (l0 : Nat) (M : Mem) (h : f_X11_retainedCount l0 M = some (r, MF)) : V G (RX11, cX11_retainedCount, (some .int), 0, 0, 1, "retainedCount", []) (ρ0, M0, cvI r, MF) 0 [(0, .ref l0)] [] M := by
  unfold f_X11_retainedCount at h
  replace h := (ifS h).2
  refine v_aload_n dX11_retainedCount_0 rfl 0 rfl ?_
  obtain ⟨v1, e, h⟩ := bind_some h
  refine gt_X11_41 e dX11_retainedCount_1 ?_
  obtain ⟨v2, e, h⟩ := bind_some h
  refine gt_X11_324 e dX11_retainedCount_4 ?_
  cases h
  exact v_ireturn dX11_retainedCount_7
theorem kd_X11_retainedCount {l0 : Nat} {M : Mem} {z : _} (h : f_X11_retainedCount l0 M = some z) : (mK M l0).1 = 11 := by
  unfold f_X11_retainedCount at h
  exact (ifS h).1
theorem k_X11_retainedCount {G : Gl} {l0 : Nat} {M MF : Mem} {r : Int32} (h : f_X11_retainedCount l0 M = some (r, MF)) : CtrP G yX11_retainedCount cX11_retainedCount 1 (some .int) 0 0 [.ref l0] M (cvI r) MF :=
  ctr_of (by decide +kernel) (Nat.le_of_ble_eq_true rfl) (fun ρ => w_X11_retainedCount l0 M h)
theorem w_X11_retained_J27 {G : Gl} {ρ0 : Nat → Nat} {M0 MF : Mem} {r : Int32 ⊕ Nat} (M : Mem) (h : f_X11_retained_J27 M = some (r, MF)) : V G (RX11, cX11_retained, (some .int), 6, 89, 4, "retained", []) (ρ0, M0, cxI r, MF) 27 [] [] M := by
  unfold f_X11_retained_J27 at h
  cases h
  exact th_3 dX11_retained_27 dX11_retained_30 dX11_retained_31 dX11_retained_34 (by decide) (Nat.le_of_ble_eq_true rfl)
set_option maxHeartbeats 4000000 in
set_option maxRecDepth 100000 in
theorem w_X11_retained {G : Gl} {ρ0 : Nat → Nat} {M0 MF : Mem} {r : Int32 ⊕ Nat} (l0 : Nat) (l1 : Int32) (l2 : Int32) (M : Mem) (h : f_X11_retained l0 l1 l2 M = some (r, MF)) : V G (RX11, cX11_retained, (some .int), 6, 89, 4, "retained", []) (ρ0, M0, cxI r, MF) 0 [(0, .ref l0), (1, .int l1), (2, .int l2)] [] M := by
  unfold f_X11_retained at h
  replace h := (ifS h).2
  refine v_iload_n dX11_retained_0 rfl 1 rfl ?_
  refine v_if_lt (tgt := 27) dX11_retained_1 (by decide) (fun c15 => ?_) (fun c15 => ?_)
  · replace h := ifP c15 h
    refine v_sub [] rfl ?_
    exact w_X11_retained_J27 M h
  · replace h := ifN c15 h
    refine v_iload_n dX11_retained_4 rfl 1 rfl ?_
    refine v_aload_n dX11_retained_5 rfl 0 rfl ?_
    obtain ⟨v1, e, h⟩ := bind_some h
    refine gt_X11_41 e dX11_retained_6 ?_
    obtain ⟨v2, e, h⟩ := bind_some h
    refine gt_X11_324 e dX11_retained_9 ?_
    refine v_icmp_ge (tgt := 27) dX11_retained_12 (by decide) (fun c14 => ?_) (fun c14 => ?_)
    · replace h := ifP c14 h
      refine v_sub [] rfl ?_
      exact w_X11_retained_J27 M h
    · replace h := ifN c14 h
      refine v_iload_n dX11_retained_15 rfl 1 rfl ?_
      refine v_aload_n dX11_retained_16 rfl 0 rfl ?_
      obtain ⟨v3, e, h⟩ := bind_some h
      refine gt_X11_41 e dX11_retained_17 ?_
      obtain ⟨v4, e, h⟩ := bind_some h
      refine gt_X11_327 e dX11_retained_20 ?_
      obtain ⟨v5, e, h⟩ := bind_some h
      refine v_alen dX11_retained_23 e ?_
      refine v_icmp_lt (tgt := 35) dX11_retained_24 (by decide) (fun c13 => ?_) (fun c13 => ?_)
      · replace h := ifP c13 h
        refine v_aload_n dX11_retained_35 rfl 0 rfl ?_
        obtain ⟨v6, e, h⟩ := bind_some h
        refine gt_X11_41 e dX11_retained_36 ?_
        obtain ⟨v7, e, h⟩ := bind_some h
        refine gt_X11_327 e dX11_retained_39 ?_
        refine v_iload_n dX11_retained_42 rfl 1 rfl ?_
        obtain ⟨v8, e, h⟩ := bind_some h
        refine al_1 e dX11_retained_43 ?_
        refine v_astore_n (ls' := [(3, .ref v8), (0, .ref l0), (1, .int l1), (2, .int l2)]) dX11_retained_44 rfl (by decide) rfl ?_
        refine v_iload_n dX11_retained_45 rfl 3 rfl ?_
        rcases Decidable.em (l2 = 0) with c12_0 | c12_0
        · replace h := ifP c12_0 h
          refine v_tsw (tgt := 72) dX11_retained_46 c12_0 (by decide) (by decide) rfl (by decide) ?_
          refine v_aload_n dX11_retained_72 rfl 0 rfl ?_
          obtain ⟨v9, e, h⟩ := bind_some h
          refine gt_X11_305 e dX11_retained_73 ?_
          cases h
          exact v_ireturn dX11_retained_76
        replace h := ifN c12_0 h
        rcases Decidable.em (l2 = 1) with c12_1 | c12_1
        · replace h := ifP c12_1 h
          refine v_tsw (tgt := 77) dX11_retained_46 c12_1 (by decide) (by decide) rfl (by decide) ?_
          refine v_aload_n dX11_retained_77 rfl 0 rfl ?_
          obtain ⟨v9, e, h⟩ := bind_some h
          refine gt_X11_306 e dX11_retained_78 ?_
          cases h
          exact v_ireturn dX11_retained_81
        replace h := ifN c12_1 h
        rcases Decidable.em (l2 = 2) with c12_2 | c12_2
        · replace h := ifP c12_2 h
          refine v_tsw (tgt := 82) dX11_retained_46 c12_2 (by decide) (by decide) rfl (by decide) ?_
          refine v_aload_n dX11_retained_82 rfl 0 rfl ?_
          obtain ⟨v9, e, h⟩ := bind_some h
          refine gt_X11_330 e dX11_retained_83 ?_
          obtain ⟨v10, e, h⟩ := bind_some h
          refine gt_X11_281 e dX11_retained_86 ?_
          obtain ⟨v11, e, h⟩ := bind_some h
          refine v_alen dX11_retained_89 e ?_
          cases h
          exact v_ireturn dX11_retained_90
        replace h := ifN c12_2 h
        refine v_tswOut (tgt := 91) dX11_retained_46 (fun k h1 h2 => by rcases (show k = 0 ∨ k = 1 ∨ k = 2 by omega) with rfl | rfl | rfl <;> assumption) (by decide) ?_
        cases h
        exact th_1 dX11_retained_91 dX11_retained_94 dX11_retained_95 dX11_retained_98 (by decide) (Nat.le_of_ble_eq_true rfl)
      · replace h := ifN c13 h
        refine v_sub [] rfl ?_
        exact w_X11_retained_J27 M h
theorem kd_X11_retained {l0 : Nat} {l1 : Int32} {l2 : Int32} {M : Mem} {z : _} (h : f_X11_retained l0 l1 l2 M = some z) : (mK M l0).1 = 11 := by
  unfold f_X11_retained at h
  exact (ifS h).1
theorem k_X11_retained {G : Gl} {l0 : Nat} {l1 : Int32} {l2 : Int32} {M MF : Mem} {r : Int32 ⊕ Nat} (h : f_X11_retained l0 l1 l2 M = some (r, MF)) : CtrP G yX11_retained cX11_retained 4 (some .int) 6 89 [.ref l0, .int l1, .int l2] M (cxI r) MF :=
  ctr_of (by decide +kernel) (Nat.le_of_ble_eq_true rfl) (fun ρ => w_X11_retained l0 l1 l2 M h)
set_option maxHeartbeats 4000000 in
set_option maxRecDepth 100000 in
theorem w_X11_published {G : Gl} {ρ0 : Nat → Nat} {M0 MF : Mem} {r : Int32 ⊕ Nat} (l0 : Nat) (M : Mem) (h : f_X11_published l0 M = some (r, MF)) : V G (RX11, cX11_published, (some .int), 8, 132, 4, "published", []) (ρ0, M0, cxI r, MF) 0 [(0, .ref l0)] [] M := by
  unfold f_X11_published at h
  replace h := (ifS h).2
  refine v_aload_n dX11_published_0 rfl 0 rfl ?_
  obtain ⟨v2, M1, e, h⟩ := bindP_some h
  refine ca_X11_123 e dX11_published_1 (Nat.le_of_ble_eq_true rfl) (by decide) ?_
  refine v_istore_n (ls' := [(1, .int v2), (0, .ref l0)]) dX11_published_4 rfl (by decide) rfl ?_
  refine v_aload_n dX11_published_5 rfl 1 rfl ?_
  refine v_iload_n dX11_published_6 rfl 0 rfl ?_
  rcases bindX_some h with ⟨v4, M3, e, h⟩ | ⟨e9, e, rfl⟩
  rotate_left
  · exact cx_X11_127 e dX11_published_7 (Nat.le_of_ble_eq_true rfl) (by decide)
  refine ca_X11_127 e dX11_published_7 (Nat.le_of_ble_eq_true rfl) (by decide) ?_
  refine v_astore_n (ls' := [(2, .ref v4), (1, .int v2), (0, .ref l0)]) dX11_published_10 rfl (by decide) rfl ?_
  refine v_aload_n dX11_published_11 rfl 2 rfl ?_
  obtain ⟨v5, e, h⟩ := bind_some h
  refine gt_X11_41 e dX11_published_12 ?_
  obtain ⟨v6, e, h⟩ := bind_some h
  refine gt_X11_331 e dX11_published_15 ?_
  refine v_aload_n dX11_published_18 rfl 0 rfl ?_
  obtain ⟨v8, M7, e, h⟩ := bindP_some h
  refine ca_X11_335 e dX11_published_19 (Nat.le_of_ble_eq_true rfl) (by decide) ?_
  refine v_istore_n (ls' := [(3, .int v8), (2, .ref v4), (1, .int v2), (0, .ref l0)]) dX11_published_22 rfl (by decide) rfl ?_
  refine v_iload_n dX11_published_23 rfl 0 rfl ?_
  refine v_if_ge (tgt := 31) dX11_published_24 (by decide) (fun c13 => ?_) (fun c13 => ?_)
  · replace h := ifP c13 h
    refine v_aload_n dX11_published_31 rfl 3 rfl ?_
    obtain ⟨v9, e, h⟩ := bind_some h
    refine gt_X11_41 e dX11_published_32 ?_
    obtain ⟨v10, e, h⟩ := bind_some h
    refine gt_X11_331 e dX11_published_35 ?_
    obtain ⟨v11, e, h⟩ := bind_some h
    refine gt_X11_340 e dX11_published_38 ?_
    refine v_iload_n dX11_published_41 rfl 0 rfl ?_
    obtain ⟨v12, e, h⟩ := bind_some h
    refine v_iaload dX11_published_42 e ?_
    cases h
    exact v_ireturn dX11_published_43
  · replace h := ifN c13 h
    refine v_iconst (v := 0) dX11_published_27 ci_0 ?_
    refine v_goto (tgt := 43) dX11_published_28 (by decide) ?_
    cases h
    exact v_ireturn dX11_published_43
theorem kd_X11_published {l0 : Nat} {M : Mem} {z : _} (h : f_X11_published l0 M = some z) : (mK M l0).1 = 11 := by
  unfold f_X11_published at h
  exact (ifS h).1
theorem k_X11_published {G : Gl} {l0 : Nat} {M MF : Mem} {r : Int32 ⊕ Nat} (h : f_X11_published l0 M = some (r, MF)) : CtrP G yX11_published cX11_published 4 (some .int) 8 132 [.ref l0] M (cxI r) MF :=
  ctr_of (by decide +kernel) (Nat.le_of_ble_eq_true rfl) (fun ρ => w_X11_published l0 M h)
set_option maxHeartbeats 4000000 in
set_option maxRecDepth 100000 in
theorem w_X11_total {G : Gl} {ρ0 : Nat → Nat} {M0 MF : Mem} {r : Int32 ⊕ Nat} (l0 : Nat) (l1 : Int32) (M : Mem) (h : f_X11_total l0 l1 M = some (r, MF)) : V G (RX11, cX11_total, (some .int), 7, 111, 2, "total", []) (ρ0, M0, cxI r, MF) 0 [(0, .ref l0), (1, .int l1)] [] M := by
  unfold f_X11_total at h
  replace h := (ifS h).2
  refine v_iload_n dX11_total_0 rfl 1 rfl ?_
  refine v_iconst (v := 0) dX11_total_1 ci_0 ?_
  refine v_bipush (v := 9) dX11_total_2 cb_9 ?_
  rcases bindX_some h with ⟨u2, M1, e, h⟩ | ⟨e9, e, rfl⟩
  rotate_left
  · exact cx_X11_131 e dX11_total_4 (Nat.le_of_ble_eq_true rfl) (by decide)
  refine ca_X11_131 e dX11_total_4 (Nat.le_of_ble_eq_true rfl) (by decide) ?_
  refine v_aload_n dX11_total_7 rfl 0 rfl ?_
  obtain ⟨v3, e, h⟩ := bind_some h
  refine gt_X11_41 e dX11_total_8 ?_
  obtain ⟨v4, e, h⟩ := bind_some h
  refine gt_X11_87 e dX11_total_11 ?_
  refine v_iload_n dX11_total_14 rfl 1 rfl ?_
  obtain ⟨v5, e, h⟩ := bind_some h
  refine v_iaload dX11_total_15 e ?_
  cases h
  exact v_ireturn dX11_total_16
theorem kd_X11_total {l0 : Nat} {l1 : Int32} {M : Mem} {z : _} (h : f_X11_total l0 l1 M = some z) : (mK M l0).1 = 11 := by
  unfold f_X11_total at h
  exact (ifS h).1
theorem k_X11_total {G : Gl} {l0 : Nat} {l1 : Int32} {M MF : Mem} {r : Int32 ⊕ Nat} (h : f_X11_total l0 l1 M = some (r, MF)) : CtrP G yX11_total cX11_total 2 (some .int) 7 111 [.ref l0, .int l1] M (cxI r) MF :=
  ctr_of (by decide +kernel) (Nat.le_of_ble_eq_true rfl) (fun ρ => w_X11_total l0 l1 M h)
set_option maxHeartbeats 4000000 in
set_option maxRecDepth 100000 in
theorem w_X11_save {G : Gl} {ρ0 : Nat → Nat} {M0 MF : Mem} {r : Int32} (l0 : Nat) (M : Mem) (h : f_X11_save l0 M = some (r, MF)) : V G (RX11, cX11_save, (some .int), 5, 108, 1, "save", []) (ρ0, M0, cvI r, MF) 0 [(0, .ref l0)] [] M := by
  unfold f_X11_save at h
  replace h := (ifS h).2
  refine v_aload_n dX11_save_0 rfl 0 rfl ?_
  obtain ⟨v1, e, h⟩ := bind_some h
  refine gt_X11_45 e dX11_save_1 ?_
  refine v_aload_n dX11_save_4 rfl 0 rfl ?_
  obtain ⟨v2, e, h⟩ := bind_some h
  refine gt_X11_41 e dX11_save_5 ?_
  obtain ⟨M3, e, h⟩ := bind_some h
  refine ca_X11_343 e dX11_save_8 (Nat.le_of_ble_eq_true rfl) (by decide) ?_
  refine v_aload_n dX11_save_11 rfl 0 rfl ?_
  refine v_iconst (v := 1) dX11_save_12 ci_1 ?_
  obtain ⟨M4, e, h⟩ := bind_some h
  refine pt_X11_346 e dX11_save_13 ?_
  refine v_aload_n dX11_save_16 rfl 0 rfl ?_
  obtain ⟨v5, e, h⟩ := bind_some h
  refine gt_X11_41 e dX11_save_17 ?_
  obtain ⟨v6, e, h⟩ := bind_some h
  refine gt_X11_316 e dX11_save_20 ?_
  cases h
  exact v_ireturn dX11_save_23
theorem kd_X11_save {l0 : Nat} {M : Mem} {z : _} (h : f_X11_save l0 M = some z) : (mK M l0).1 = 11 := by
  unfold f_X11_save at h
  exact (ifS h).1
theorem k_X11_save {G : Gl} {l0 : Nat} {M MF : Mem} {r : Int32} (h : f_X11_save l0 M = some (r, MF)) : CtrP G yX11_save cX11_save 1 (some .int) 5 108 [.ref l0] M (cvI r) MF :=
  ctr_of (by decide +kernel) (Nat.le_of_ble_eq_true rfl) (fun ρ => w_X11_save l0 M h)
