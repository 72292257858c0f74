set_option maxHeartbeats 4000000 in
set_option maxRecDepth 100000 in
theorem w_L_restore {G : Gl} {ρ0 : Nat → Nat} {M0 MF : Mem} {r : Int32} (l0 : Nat) (M : Mem) (h : f_L_restore l0 M = some (r, MF)) : V G (RL, cL_restore, (some .int), 7, 128, 2, "restore", [((0 : Nat), (4 : Nat), (5 : Nat), (22 : Nat))]) (ρ0, M0, cvI r, MF) 0 [(0, .ref l0)] [] M := by
  unfold f_L_restore at h
  refine v_aload_n dL_restore_0 rfl 0 rfl ?_
  rcases bindH_some h with ⟨v2, M1, e, h⟩ | ⟨e9, M1, e, h⟩
  · refine ca_L_116 e dL_restore_1 (Nat.le_of_ble_eq_true rfl) (by decide) ?_
    cases h
    exact v_ireturn dL_restore_4
  · rcases Decidable.em (e9 = 2) with c9 | c9
    · subst c9
      replace h := ifP rfl h
      refine v_catch_n (e := 2) (hpc := 5) (ls' := [(0, .ref l0)]) (As := []) (k_X11_restore e) wd_L_116 clX11 (kd_X11_restore e) dL_restore_1 rfl rfl (Nat.le_of_ble_eq_true rfl) (by decide) [] (0, 4, 5, 22) [] rfl (by decide) rfl (by decide) (fun _ hz => nomatch hz) lcw_22 lca_2 dL_restore_5 rfl (by decide) rfl ?_
      refine v_iconst (v := (-1)) dL_restore_6 ci_m1 ?_
      cases h
      exact v_ireturn dL_restore_7
    replace h := ifN c9 h
    cases h
theorem k_L_restore {G : Gl} {l0 : Nat} {M MF : Mem} {r : Int32} (h : f_L_restore l0 M = some (r, MF)) : CtrW G yL_restore cL_restore 2 (some .int) [((0 : Nat), (4 : Nat), (5 : Nat), (22 : Nat))] 7 128 [.ref l0] M (cvI r) MF :=
  ctrW_of (by decide +kernel) (Nat.le_of_ble_eq_true rfl) (fun ρ => w_L_restore l0 M h)
theorem wd_L_120 : wdW RL 120 yL_restore cL_restore 2 (some .int) [((0 : Nat), (4 : Nat), (5 : Nat), (22 : Nat))] 1 := ⟨gwi 456 (by decide +kernel) (by decide +kernel), gwi 457 (by decide +kernel) (by decide +kernel), gwi 26 (by decide +kernel) (by decide +kernel), gwi 458 (by decide +kernel) (by decide +kernel), ⟨by decide +kernel, by decide +kernel, by decide +kernel⟩⟩
theorem ca_L_120 {G : Gl} {B : Bx} {cc : ByteArray} {ret : Option FieldType} {fr lo nL : Nat} {mn : String} {hh : List (Nat × Nat × Nat × Nat)} {pc : Nat} {ls : List (Nat × Value)} {st : List Value} {M M1 : Mem} {l0 : Nat} {x : Int32} (e : f_L_restore l0 M = some (x, M1)) (hd : decode cc pc = .ok (.invokestatic 120, 3)) (hcat : (st.map fun v => v.category).sum ≤ 8) (hR : 7 + 1 ≤ fr ∧ 8 + (2 + 11) + 128 ≤ lo) (k : V G (RL, cc, ret, fr, lo, nL, mn, hh) B (pc + 3) ls (.int x :: st) M1) : V G (RL, cc, ret, fr, lo, nL, mn, hh) B pc ls (.ref l0 :: st) M := v_callWi (As := [.ref l0]) (k_L_restore e) wd_L_120 hd rfl rfl hcat hR k
set_option maxHeartbeats 4000000 in
set_option maxRecDepth 100000 in
theorem w_L_cell {G : Gl} {ρ0 : Nat → Nat} {M0 MF : Mem} {r : Int32} (L : Nat) (xs : Nat → Int32) (hX : G.2.2.2.2.1 = L ∧ G.2.2.2.2.2 = xs) (l1 : Int32) (M : Mem) (h : f_L_cell L xs l1 M = some (r, MF)) : V G (RL, cL_cell, (some .int), 0, 0, 2, "cell", []) (ρ0, M0, cvI r, MF) 0 [(0, .ref SCR), (1, .int l1)] [] M := by
  unfold f_L_cell at h
  refine v_iload_n dL_cell_0 rfl 1 rfl ?_
  refine v_aload_n dL_cell_1 rfl 0 rfl ?_
  refine v_sclen hX dL_cell_2 ?_
  refine v_icmp_ge (tgt := 12) dL_cell_3 (by decide) (fun c2 => ?_) (fun c2 => ?_)
  · replace h := ifP c2 h
    refine kc_L_7 dL_cell_12 ?_
    refine v_iload_n dL_cell_14 rfl 1 rfl ?_
    refine v_imul dL_cell_15 ?_
    cases h
    exact v_ireturn dL_cell_16
  · replace h := ifN c2 h
    refine v_aload_n dL_cell_6 rfl 0 rfl ?_
    refine v_iload_n dL_cell_7 rfl 1 rfl ?_
    obtain ⟨v1, e, h⟩ := bind_some h
    refine v_scld hX dL_cell_8 e ?_
    refine v_goto (tgt := 16) dL_cell_9 (by decide) ?_
    cases h
    exact v_ireturn dL_cell_16
theorem k_L_cell {G : Gl} {L : Nat} {xs : Nat → Int32} (hX : G.2.2.2.2.1 = L ∧ G.2.2.2.2.2 = xs) {l1 : Int32} {M MF : Mem} {r : Int32} (h : f_L_cell L xs l1 M = some (r, MF)) : CtrP G yL_cell cL_cell 2 (some .int) 0 0 [.ref SCR, .int l1] M (cvI r) MF :=
  ctr_of (by decide +kernel) (Nat.le_of_ble_eq_true rfl) (fun ρ => w_L_cell L xs hX l1 M h)
theorem wd_L_8 : wdT RL 8 yL_cell cL_cell 2 (some .int) 2 := ⟨gwi 575 (by decide +kernel) (by decide +kernel), gwi 576 (by decide +kernel) (by decide +kernel), nw_L, gwi 577 (by decide +kernel) (by decide +kernel), ⟨by decide +kernel, by decide +kernel, by decide +kernel⟩⟩
theorem ca_L_8 {G : Gl} {B : Bx} {cc : ByteArray} {ret : Option FieldType} {fr lo nL : Nat} {mn : String} {hh : List (Nat × Nat × Nat × Nat)} {pc : Nat} {ls : List (Nat × Value)} {st : List Value} {M M1 : Mem} {L : Nat} {xs : Nat → Int32} (hX : G.2.2.2.2.1 = L ∧ G.2.2.2.2.2 = xs) {l1 : Int32} {x : Int32} (e : f_L_cell L xs l1 M = some (x, M1)) (hd : decode cc pc = .ok (.invokestatic 8, 3)) (hcat : (st.map fun v => v.category).sum ≤ 8) (hR : 0 + 1 ≤ fr ∧ 8 + (2 + 11) + 0 ≤ lo) (k : V G (RL, cc, ret, fr, lo, nL, mn, hh) B (pc + 3) ls (.int x :: st) M1) : V G (RL, cc, ret, fr, lo, nL, mn, hh) B pc ls (.int l1 :: .ref SCR :: st) M := v_callSi (As := [.ref SCR, .int l1]) (k_L_cell hX e) wd_L_8 hd rfl rfl hcat hR k
set_option maxHeartbeats 4000000 in
set_option maxRecDepth 100000 in
theorem w_L_pick {G : Gl} {ρ0 : Nat → Nat} {M0 MF : Mem} {r : Int32} (L : Nat) (xs : Nat → Int32) (hX : G.2.2.2.2.1 = L ∧ G.2.2.2.2.2 = xs) (l1 : Int32) (l2 : Int32) (M : Mem) (h : f_L_pick L xs l1 l2 M = some (r, MF)) : V G (RL, cL_pick, (some .int), 1, 21, 3, "pick", []) (ρ0, M0, cvI r, MF) 0 [(0, .ref SCR), (1, .int l1), (2, .int l2)] [] M := by
  unfold f_L_pick at h
  refine v_aload_n dL_pick_0 rfl 0 rfl ?_
  refine v_iload_n dL_pick_1 rfl 1 rfl ?_
  obtain ⟨v2, M1, e, h⟩ := bindP_some h
  refine ca_L_8 hX e dL_pick_2 (Nat.le_of_ble_eq_true rfl) (by decide) ?_
  refine v_iconst (v := 1) dL_pick_5 ci_1 ?_
  refine v_iushr dL_pick_6 ?_
  refine v_iload_n dL_pick_7 rfl 2 rfl ?_
  obtain ⟨v3, e, h⟩ := bind_some h
  refine v_iremO dL_pick_8 e ?_
  cases h
  exact v_ireturn dL_pick_9
theorem k_L_pick {G : Gl} {L : Nat} {xs : Nat → Int32} (hX : G.2.2.2.2.1 = L ∧ G.2.2.2.2.2 = xs) {l1 : Int32} {l2 : Int32} {M MF : Mem} {r : Int32} (h : f_L_pick L xs l1 l2 M = some (r, MF)) : CtrP G yL_pick cL_pick 3 (some .int) 1 21 [.ref SCR, .int l1, .int l2] M (cvI r) MF :=
  ctr_of (by decide +kernel) (Nat.le_of_ble_eq_true rfl) (fun ρ => w_L_pick L xs hX l1 l2 M h)
theorem wd_L_137 : wdT RL 137 yL_pick cL_pick 3 (some .int) 3 := ⟨gwi 572 (by decide +kernel) (by decide +kernel), gwi 573 (by decide +kernel) (by decide +kernel), nw_L, gwi 574 (by decide +kernel) (by decide +kernel), ⟨by decide +kernel, by decide +kernel, by decide +kernel⟩⟩
theorem ca_L_137 {G : Gl} {B : Bx} {cc : ByteArray} {ret : Option FieldType} {fr lo nL : Nat} {mn : String} {hh : List (Nat × Nat × Nat × Nat)} {pc : Nat} {ls : List (Nat × Value)} {st : List Value} {M M1 : Mem} {L : Nat} {xs : Nat → Int32} (hX : G.2.2.2.2.1 = L ∧ G.2.2.2.2.2 = xs) {l1 : Int32} {l2 : Int32} {x : Int32} (e : f_L_pick L xs l1 l2 M = some (x, M1)) (hd : decode cc pc = .ok (.invokestatic 137, 3)) (hcat : (st.map fun v => v.category).sum ≤ 8) (hR : 1 + 1 ≤ fr ∧ 8 + (3 + 11) + 21 ≤ lo) (k : V G (RL, cc, ret, fr, lo, nL, mn, hh) B (pc + 3) ls (.int x :: st) M1) : V G (RL, cc, ret, fr, lo, nL, mn, hh) B pc ls (.int l2 :: .int l1 :: .ref SCR :: st) M := v_callSi (As := [.ref SCR, .int l1, .int l2]) (k_L_pick hX e) wd_L_137 hd rfl rfl hcat hR k
set_option maxHeartbeats 4000000 in
set_option maxRecDepth 100000 in
theorem w_L_connects_J113 {G : Gl} {ρ0 : Nat → Nat} {M0 MF : Mem} {r : Int32 ⊕ Nat} (s0 : Int32) (s1 : Int32) (M : Mem) (h : f_L_connects_J113 s0 s1 M = some (r, MF)) : V G (RL, cL_connects, (some .boolean), 8, 166, 7, "connects", []) (ρ0, M0, cxI r, MF) 113 [] [.int s0, .int s1] M := by
  unfold f_L_connects_J113 at h
  refine v_icmp_gt (tgt := 120) dL_connects_113 (by decide) (fun c1 => ?_) (fun c1 => ?_)
  · replace h := ifP c1 h
    refine v_iconst (v := 0) dL_connects_120 ci_0 ?_
    obtain ⟨hz, rfl, rfl⟩ := okZX_some h
    exact v_zreturn dL_connects_121 hz
  · replace h := ifN c1 h
    refine v_iconst (v := 1) dL_connects_116 ci_1 ?_
    refine v_goto (tgt := 121) dL_connects_117 (by decide) ?_
    obtain ⟨hz, rfl, rfl⟩ := okZX_some h
    exact v_zreturn dL_connects_121 hz
set_option maxHeartbeats 4000000 in
set_option maxRecDepth 100000 in
theorem w_L_connects_J91 {G : Gl} {ρ0 : Nat → Nat} {M0 MF : Mem} {r : Int32 ⊕ Nat} (l0 : Nat) (l1 : Int32) (l5 : Int32) (s0 : Int32) (s1 : Int32) (s2 : Int32) (M : Mem) (h : f_L_connects_J91 l0 l1 l5 s0 s1 s2 M = some (r, MF)) : V G (RL, cL_connects, (some .boolean), 8, 166, 7, "connects", []) (ρ0, M0, cxI r, MF) 91 [(0, .ref l0), (1, .int l1), (5, .int l5)] [.int s0, .int s1, .int s2] M := by
  unfold f_L_connects_J91 at h
  refine v_iadd dL_connects_91 ?_
  refine v_icmp_ne (tgt := 120) dL_connects_92 (by decide) (fun c4 => ?_) (fun c4 => ?_)
  · replace h := ifN c4 h
    refine v_iconst (v := 0) dL_connects_120 ci_0 ?_
    obtain ⟨hz, rfl, rfl⟩ := okZX_some h
    exact v_zreturn dL_connects_121 hz
  · replace h := ifP c4 h
    refine v_aload_n dL_connects_95 rfl 0 rfl ?_
    refine v_iload_n dL_connects_96 rfl 1 rfl ?_
    refine v_iconst (v := 4) dL_connects_97 ci_4 ?_
    rcases bindX_some h with ⟨v2, M1, e, h⟩ | ⟨e9, e, rfl⟩
    rotate_left
    · exact cx_L_187 e dL_connects_98 (Nat.le_of_ble_eq_true rfl) (by decide)
    refine ca_L_187 e dL_connects_98 (Nat.le_of_ble_eq_true rfl) (by decide) ?_
    refine v_iload dL_connects_101 2 rfl ?_
    refine v_iconst (v := 1) dL_connects_103 ci_1 ?_
    refine v_icmp_ne (tgt := 112) dL_connects_104 (by decide) (fun c3 => ?_) (fun c3 => ?_)
    · replace h := ifN c3 h
      refine v_iconst (v := 0) dL_connects_112 ci_0 ?_
      refine v_sub [] rfl ?_
      exact w_L_connects_J113 (0 : Int32) v2 M1 h
    · replace h := ifP c3 h
      refine v_bipush (v := 6) dL_connects_107 cb_6 ?_
      refine v_goto (tgt := 113) dL_connects_109 (by decide) ?_
      refine v_sub [] rfl ?_
      exact w_L_connects_J113 (6 : Int32) v2 M1 h
set_option maxHeartbeats 4000000 in
set_option maxRecDepth 100000 in
theorem w_L_connects_J71 {G : Gl} {ρ0 : Nat → Nat} {M0 MF : Mem} {r : Int32 ⊕ Nat} (l0 : Nat) (l1 : Int32) (l3 : Int32) (l4 : Int32) (l5 : Int32) (s0 : Int32) (s1 : Int32) (M : Mem) (h : f_L_connects_J71 l0 l1 l3 l4 l5 s0 s1 M = some (r, MF)) : V G (RL, cL_connects, (some .boolean), 8, 166, 7, "connects", []) (ρ0, M0, cxI r, MF) 71 [(0, .ref l0), (1, .int l1), (3, .int l3), (4, .int l4), (5, .int l5)] [.int s0, .int s1] M := by
  unfold f_L_connects_J71 at h
  refine v_icmp_ne (tgt := 120) dL_connects_71 (by decide) (fun c4 => ?_) (fun c4 => ?_)
  · replace h := ifN c4 h
    refine v_iconst (v := 0) dL_connects_120 ci_0 ?_
    obtain ⟨hz, rfl, rfl⟩ := okZX_some h
    exact v_zreturn dL_connects_121 hz
  · replace h := ifP c4 h
    refine v_aload_n dL_connects_74 rfl 0 rfl ?_
    refine v_iconst (v := 5) dL_connects_75 ci_5 ?_
    rcases bindX_some h with ⟨v2, M1, e, h⟩ | ⟨e9, e, rfl⟩
    rotate_left
    · exact cx_L_180 e dL_connects_76 (Nat.le_of_ble_eq_true rfl) (by decide)
    refine ca_L_180 e dL_connects_76 (Nat.le_of_ble_eq_true rfl) (by decide) ?_
    refine v_iload dL_connects_79 3 rfl ?_
    refine v_iload_n dL_connects_81 rfl 2 rfl ?_
    refine v_iconst (v := 1) dL_connects_82 ci_1 ?_
    refine v_icmp_le (tgt := 90) dL_connects_83 (by decide) (fun c3 => ?_) (fun c3 => ?_)
    · replace h := ifP c3 h
      refine v_iconst (v := 0) dL_connects_90 ci_0 ?_
      refine v_sub [0, 1, 4] rfl ?_
      exact w_L_connects_J91 l0 l1 l5 (0 : Int32) l4 v2 M1 h
    · replace h := ifN c3 h
      refine v_iconst (v := 1) dL_connects_86 ci_1 ?_
      refine v_goto (tgt := 91) dL_connects_87 (by decide) ?_
      refine v_sub [0, 1, 4] rfl ?_
      exact w_L_connects_J91 l0 l1 l5 (1 : Int32) l4 v2 M1 h
set_option maxHeartbeats 4000000 in
set_option maxRecDepth 100000 in
theorem w_L_connects_J50 {G : Gl} {ρ0 : Nat → Nat} {M0 MF : Mem} {r : Int32 ⊕ Nat} (l0 : Nat) (l1 : Int32) (l2 : Int32) (l3 : Int32) (l4 : Int32) (l5 : Int32) (s0 : Int32) (M : Mem) (h : f_L_connects_J50 l0 l1 l2 l3 l4 l5 s0 M = some (r, MF)) : V G (RL, cL_connects, (some .boolean), 8, 166, 7, "connects", []) (ρ0, M0, cxI r, MF) 50 [(0, .ref l0), (1, .int l1), (2, .int l2), (3, .int l3), (4, .int l4), (5, .int l5)] [.int s0] M := by
  unfold f_L_connects_J50 at h
  refine v_istore (ls' := [(6, .int s0), (0, .ref l0), (1, .int l1), (2, .int l2), (3, .int l3), (4, .int l4), (5, .int l5)]) dL_connects_50 (by decide) rfl ?_
  refine v_iload dL_connects_52 0 rfl ?_
  refine v_if_eq (tgt := 120) dL_connects_54 (by decide) (fun c4 => ?_) (fun c4 => ?_)
  · replace h := ifP c4 h
    refine v_iconst (v := 0) dL_connects_120 ci_0 ?_
    obtain ⟨hz, rfl, rfl⟩ := okZX_some h
    exact v_zreturn dL_connects_121 hz
  · replace h := ifN c4 h
    refine v_aload_n dL_connects_57 rfl 1 rfl ?_
    refine v_iload_n dL_connects_58 rfl 2 rfl ?_
    rcases bindX_some h with ⟨v2, M1, e, h⟩ | ⟨e9, e, rfl⟩
    rotate_left
    · exact cx_L_141 e dL_connects_59 (Nat.le_of_ble_eq_true rfl) (by decide)
    refine ca_L_141 e dL_connects_59 (Nat.le_of_ble_eq_true rfl) (by decide) ?_
    refine v_iload_n dL_connects_62 rfl 3 rfl ?_
    refine v_if_eq (tgt := 70) dL_connects_63 (by decide) (fun c3 => ?_) (fun c3 => ?_)
    · replace h := ifP c3 h
      refine v_iconst (v := 2) dL_connects_70 ci_2 ?_
      refine v_sub [1, 2, 4, 5, 6] rfl ?_
      exact w_L_connects_J71 l0 l1 l3 l4 l5 (2 : Int32) v2 M1 h
    · replace h := ifN c3 h
      refine v_iconst (v := 3) dL_connects_66 ci_3 ?_
      refine v_goto (tgt := 71) dL_connects_67 (by decide) ?_
      refine v_sub [1, 2, 4, 5, 6] rfl ?_
      exact w_L_connects_J71 l0 l1 l3 l4 l5 (3 : Int32) v2 M1 h
set_option maxHeartbeats 4000000 in
set_option maxRecDepth 100000 in
theorem w_L_connects_J42 {G : Gl} {ρ0 : Nat → Nat} {M0 MF : Mem} {r : Int32 ⊕ Nat} (l0 : Nat) (l1 : Int32) (l2 : Int32) (l3 : Int32) (l4 : Int32) (l5 : Int32) (s0 : Int32) (s1 : Int32) (M : Mem) (h : f_L_connects_J42 l0 l1 l2 l3 l4 l5 s0 s1 M = some (r, MF)) : V G (RL, cL_connects, (some .boolean), 8, 166, 7, "connects", []) (ρ0, M0, cxI r, MF) 42 [(0, .ref l0), (1, .int l1), (2, .int l2), (3, .int l3), (4, .int l4), (5, .int l5)] [.int s0, .int s1] M := by
  unfold f_L_connects_J42 at h
  refine v_icmp_ne (tgt := 49) dL_connects_42 (by decide) (fun c1 => ?_) (fun c1 => ?_)
  · replace h := ifN c1 h
    refine v_iconst (v := 0) dL_connects_49 ci_0 ?_
    exact w_L_connects_J50 l0 l1 l2 l3 l4 l5 (0 : Int32) M h
  · replace h := ifP c1 h
    refine v_iconst (v := 1) dL_connects_45 ci_1 ?_
    refine v_goto (tgt := 50) dL_connects_46 (by decide) ?_
    exact w_L_connects_J50 l0 l1 l2 l3 l4 l5 (1 : Int32) M h
theorem w_L_connects_J41 {G : Gl} {ρ0 : Nat → Nat} {M0 MF : Mem} {r : Int32 ⊕ Nat} (l0 : Nat) (l1 : Int32) (l2 : Int32) (l3 : Int32) (l4 : Int32) (l5 : Int32) (s0 : Int32) (M : Mem) (h : f_L_connects_J41 l0 l1 l2 l3 l4 l5 s0 M = some (r, MF)) : V G (RL, cL_connects, (some .boolean), 8, 166, 7, "connects", []) (ρ0, M0, cxI r, MF) 41 [(0, .ref l0), (1, .int l1), (2, .int l2), (3, .int l3), (4, .int l4), (5, .int l5)] [.int s0] M := by
  unfold f_L_connects_J41 at h
  refine v_iconst (v := 0) dL_connects_41 ci_0 ?_
  exact w_L_connects_J42 l0 l1 l2 l3 l4 l5 (0 : Int32) s0 M h
set_option maxHeartbeats 4000000 in
set_option maxRecDepth 100000 in
theorem w_L_connects_J37 {G : Gl} {ρ0 : Nat → Nat} {M0 MF : Mem} {r : Int32 ⊕ Nat} (l0 : Nat) (l1 : Int32) (l2 : Int32) (l3 : Int32) (l4 : Int32) (l5 : Int32) (s0 : Int32) (M : Mem) (h : f_L_connects_J37 l0 l1 l2 l3 l4 l5 s0 M = some (r, MF)) : V G (RL, cL_connects, (some .boolean), 8, 166, 7, "connects", []) (ρ0, M0, cxI r, MF) 37 [(0, .ref l0), (1, .int l1), (2, .int l2), (3, .int l3), (4, .int l4), (5, .int l5)] [.int s0] M := by
  unfold f_L_connects_J37 at h
  refine v_iconst (v := 1) dL_connects_37 ci_1 ?_
  refine v_goto (tgt := 42) dL_connects_38 (by decide) ?_
  exact w_L_connects_J42 l0 l1 l2 l3 l4 l5 (1 : Int32) s0 M h
set_option maxHeartbeats 4000000 in
set_option maxRecDepth 100000 in
theorem w_L_connects {G : Gl} {ρ0 : Nat → Nat} {M0 MF : Mem} {r : Int32 ⊕ Nat} (l0 : Nat) (l1 : Int32) (l2 : Int32) (M : Mem) (h : f_L_connects l0 l1 l2 M = some (r, MF)) : V G (RL, cL_connects, (some .boolean), 8, 166, 7, "connects", []) (ρ0, M0, cxI r, MF) 0 [(0, .ref l0), (1, .int l1), (2, .int l2)] [] M := by
  unfold f_L_connects at h
  refine v_aload_n dL_connects_0 rfl 0 rfl ?_
  refine v_iload_n dL_connects_1 rfl 1 rfl ?_
  rcases bindX_some h with ⟨v2, M1, e, h⟩ | ⟨e9, e, rfl⟩
  rotate_left
  · exact cx_L_141 e dL_connects_2 (Nat.le_of_ble_eq_true rfl) (by decide)
  refine ca_L_141 e dL_connects_2 (Nat.le_of_ble_eq_true rfl) (by decide) ?_
  refine v_istore_n (ls' := [(3, .int v2), (0, .ref l0), (1, .int l1), (2, .int l2)]) dL_connects_5 rfl (by decide) rfl ?_
  refine v_aload_n dL_connects_6 rfl 1 rfl ?_
  refine v_iconst (v := 5) dL_connects_7 ci_5 ?_
  rcases bindX_some h with ⟨v4, M3, e, h⟩ | ⟨e9, e, rfl⟩
  rotate_left
  · exact cx_L_180 e dL_connects_8 (Nat.le_of_ble_eq_true rfl) (by decide)
  refine ca_L_180 e dL_connects_8 (Nat.le_of_ble_eq_true rfl) (by decide) ?_
  refine v_istore (ls' := [(4, .int v4), (3, .int v2), (0, .ref l0), (1, .int l1), (2, .int l2)]) dL_connects_11 (by decide) rfl ?_
  refine v_aload_n dL_connects_13 rfl 2 rfl ?_
  refine v_iload_n dL_connects_14 rfl 3 rfl ?_
  refine v_iload_n dL_connects_15 rfl 4 rfl ?_
  rcases bindX_some h with ⟨v6, M5, e, h⟩ | ⟨e9, e, rfl⟩
  rotate_left
  · exact cx_L_183 e dL_connects_16 (Nat.le_of_ble_eq_true rfl) (by decide)
  refine ca_L_183 e dL_connects_16 (Nat.le_of_ble_eq_true rfl) (by decide) ?_
  refine v_istore (ls' := [(5, .int v6), (4, .int v4), (3, .int v2), (0, .ref l0), (1, .int l1), (2, .int l2)]) dL_connects_19 (by decide) rfl ?_
  refine v_iload dL_connects_21 0 rfl ?_
  refine v_iload_n dL_connects_23 rfl 5 rfl ?_
  refine v_if_ne (tgt := 41) dL_connects_24 (by decide) (fun c9 => ?_) (fun c9 => ?_)
  · replace h := ifN c9 h
    refine v_sub [3, 4, 5, 2, 1, 0] rfl ?_
    exact w_L_connects_J41 l0 l1 l2 v2 v4 v6 v6 M5 h
  · replace h := ifP c9 h
    refine v_iload_n dL_connects_27 rfl 2 rfl ?_
    refine v_iconst (v := 1) dL_connects_28 ci_1 ?_
    refine v_icmp_eq (tgt := 37) dL_connects_29 (by decide) (fun c8 => ?_) (fun c8 => ?_)
    · replace h := ifP c8 h
      refine v_sub [3, 4, 5, 2, 1, 0] rfl ?_
      exact w_L_connects_J37 l0 l1 l2 v2 v4 v6 v6 M5 h
    · replace h := ifN c8 h
      refine v_iload_n dL_connects_32 rfl 2 rfl ?_
      refine v_iconst (v := 2) dL_connects_33 ci_2 ?_
      refine v_icmp_ne (tgt := 41) dL_connects_34 (by decide) (fun c7 => ?_) (fun c7 => ?_)
      · replace h := ifN c7 h
        refine v_sub [3, 4, 5, 2, 1, 0] rfl ?_
        exact w_L_connects_J41 l0 l1 l2 v2 v4 v6 v6 M5 h
      · replace h := ifP c7 h
        refine v_sub [3, 4, 5, 2, 1, 0] rfl ?_
        exact w_L_connects_J37 l0 l1 l2 v2 v4 v6 v6 M5 h
theorem k_L_connects {G : Gl} {l0 : Nat} {l1 : Int32} {l2 : Int32} {M MF : Mem} {r : Int32 ⊕ Nat} (h : f_L_connects l0 l1 l2 M = some (r, MF)) : CtrP G yL_connects cL_connects 7 (some .boolean) 8 166 [.ref l0, .int l1, .int l2] M (cxI r) MF :=
  ctr_of (by decide +kernel) (Nat.le_of_ble_eq_true rfl) (fun ρ => w_L_connects l0 l1 l2 M h)
theorem wd_L_144 : wdT RL 144 yL_connects cL_connects 7 (some .boolean) 3 := ⟨gwi 601 (by decide +kernel) (by decide +kernel), gwi 602 (by decide +kernel) (by decide +kernel), nw_L, gwi 603 (by decide +kernel) (by decide +kernel), ⟨by decide +kernel, by decide +kernel, by decide +kernel⟩⟩
theorem ca_L_144 {G : Gl} {B : Bx} {cc : ByteArray} {ret : Option FieldType} {fr lo nL : Nat} {mn : String} {hh : List (Nat × Nat × Nat × Nat)} {pc : Nat} {ls : List (Nat × Value)} {st : List Value} {M M1 : Mem} {l0 : Nat} {l1 : Int32} {l2 : Int32} {x : Int32} (e : f_L_connects l0 l1 l2 M = some (.inl x, M1)) (hd : decode cc pc = .ok (.invokestatic 144, 3)) (hcat : (st.map fun v => v.category).sum ≤ 8) (hR : 8 + 1 ≤ fr ∧ 8 + (7 + 11) + 166 ≤ lo) (k : V G (RL, cc, ret, fr, lo, nL, mn, hh) B (pc + 3) ls (.int x :: st) M1) : V G (RL, cc, ret, fr, lo, nL, mn, hh) B pc ls (.int l2 :: .int l1 :: .ref l0 :: st) M := v_callSi (As := [.ref l0, .int l1, .int l2]) (k_L_connects e) wd_L_144 hd rfl rfl hcat hR k
theorem cx_L_144 {G : Gl} {ρ0 : Nat → Nat} {M0 : Mem} {cc : ByteArray} {ret : Option FieldType} {fr lo nL : Nat} {mn : String} {pc : Nat} {ls : List (Nat × Value)} {st : List Value} {M M1 : Mem} {l0 : Nat} {l1 : Int32} {l2 : Int32} {e9 : Nat} (e : f_L_connects l0 l1 l2 M = some (.inr e9, M1)) (hd : decode cc pc = .ok (.invokestatic 144, 3)) (hcat : (st.map fun v => v.category).sum ≤ 8) (hR : 8 + 1 ≤ fr ∧ 8 + (7 + 11) + 166 ≤ lo) : V G (RL, cc, ret, fr, lo, nL, mn, []) (ρ0, M0, Sum.inr e9, M1) pc ls (.int l2 :: .int l1 :: .ref l0 :: st) M := v_callSx (As := [.ref l0, .int l1, .int l2]) (k_L_connects e) wd_L_144 hd rfl rfl hcat hR
set_option maxHeartbeats 4000000 in
set_option maxRecDepth 100000 in
theorem w_L_append {G : Gl} {ρ0 : Nat → Nat} {M0 MF : Mem} {r : Int32} (l0 : Nat) (l1 : Int32) (M : Mem) (h : f_L_append l0 l1 M = some (r, MF)) : V G (RL, cL_append, (some .int), 7, 113, 3, "append", [((0 : Nat), (5 : Nat), (6 : Nat), (20 : Nat)), ((0 : Nat), (5 : Nat), (9 : Nat), (22 : Nat))]) (ρ0, M0, cvI r, MF) 0 [(0, .ref l0), (1, .int l1)] [] M := by
  unfold f_L_append at h
  refine v_aload_n dL_append_0 rfl 0 rfl ?_
  refine v_iload_n dL_append_1 rfl 1 rfl ?_
  rcases bindH_some h with ⟨v2, M1, e, h⟩ | ⟨e9, M1, e, h⟩
  · refine ca_L_14 e dL_append_2 (Nat.le_of_ble_eq_true rfl) (by decide) ?_
    cases h
    exact v_ireturn dL_append_5
  · rcases Decidable.em (e9 = 1) with c9 | c9
    · subst c9
      replace h := ifP rfl h
      refine v_catch_n (e := 1) (hpc := 6) (ls' := [(0, .ref l0), (1, .int l1)]) (As := [.int l1]) (k_X11_append e) wd_L_14 clX11 (kd_X11_append e) dL_append_2 rfl rfl (Nat.le_of_ble_eq_true rfl) (by decide) [] (0, 5, 6, 20) [(0, 5, 9, 22)] rfl (by decide) rfl (by decide) (fun _ hz => nomatch hz) lcw_20 lca_1 dL_append_6 rfl (by decide) rfl ?_
      refine v_iconst (v := (-1)) dL_append_7 ci_m1 ?_
      cases h
      exact v_ireturn dL_append_8
    replace h := ifN c9 h
    rcases Decidable.em (e9 = 2) with c9 | c9
    · subst c9
      replace h := ifP rfl h
      refine v_catch_n (e := 2) (hpc := 9) (ls' := [(0, .ref l0), (1, .int l1)]) (As := [.int l1]) (k_X11_append e) wd_L_14 clX11 (kd_X11_append e) dL_append_2 rfl rfl (Nat.le_of_ble_eq_true rfl) (by decide) [(0, 5, 6, 20)] (0, 5, 9, 22) [] rfl (by decide) rfl (by decide) (hp_2_20 rfl) lcw_22 lca_2 dL_append_9 rfl (by decide) rfl ?_
      refine v_bipush (v := (-2)) dL_append_10 cb_m2 ?_
      cases h
      exact v_ireturn dL_append_12
    replace h := ifN c9 h
    cases h
theorem k_L_append {G : Gl} {l0 : Nat} {l1 : Int32} {M MF : Mem} {r : Int32} (h : f_L_append l0 l1 M = some (r, MF)) : CtrW G yL_append cL_append 3 (some .int) [((0 : Nat), (5 : Nat), (6 : Nat), (20 : Nat)), ((0 : Nat), (5 : Nat), (9 : Nat), (22 : Nat))] 7 113 [.ref l0, .int l1] M (cvI r) MF :=
  ctrW_of (by decide +kernel) (Nat.le_of_ble_eq_true rfl) (fun ρ => w_L_append l0 l1 M h)
theorem wd_L_34 : wdW RL 34 yL_append cL_append 3 (some .int) [((0 : Nat), (5 : Nat), (6 : Nat), (20 : Nat)), ((0 : Nat), (5 : Nat), (9 : Nat), (22 : Nat))] 2 := ⟨gwi 866 (by decide +kernel) (by decide +kernel), gwi 867 (by decide +kernel) (by decide +kernel), gwi 26 (by decide +kernel) (by decide +kernel), gwi 868 (by decide +kernel) (by decide +kernel), ⟨by decide +kernel, by decide +kernel, by decide +kernel⟩⟩
theorem ca_L_34 {G : Gl} {B : Bx} {cc : ByteArray} {ret : Option FieldType} {fr lo nL : Nat} {mn : String} {hh : List (Nat × Nat × Nat × Nat)} {pc : Nat} {ls : List (Nat × Value)} {st : List Value} {M M1 : Mem} {l0 : Nat} {l1 : Int32} {x : Int32} (e : f_L_append l0 l1 M = some (x, M1)) (hd : decode cc pc = .ok (.invokestatic 34, 3)) (hcat : (st.map fun v => v.category).sum ≤ 8) (hR : 7 + 1 ≤ fr ∧ 8 + (3 + 11) + 113 ≤ lo) (k : V G (RL, cc, ret, fr, lo, nL, mn, hh) B (pc + 3) ls (.int x :: st) M1) : V G (RL, cc, ret, fr, lo, nL, mn, hh) B pc ls (.int l1 :: .ref l0 :: st) M := v_callWi (As := [.ref l0, .int l1]) (k_L_append e) wd_L_34 hd rfl rfl hcat hR k
set_option maxHeartbeats 4000000 in
set_option maxRecDepth 100000 in
theorem w_L_type_J55 {G : Gl} {ρ0 : Nat → Nat} {M0 MF : Mem} {r : Int32} (k4 : Nat → Nat → Int32 → Int32 → Mem → Option (Int32 × Mem)) (h4 : ∀ (l0 : Nat) (l1 : Nat) (l2 : Int32) (l3 : Int32) (M : Mem), k4 l0 l1 l2 l3 M = some (r, MF) → V G (RL, cL_type, (some .boolean), 8, 135, 6, "type", []) (ρ0, M0, cvI r, MF) 4 [(0, .ref l0), (1, .ref l1), (2, .int l2), (3, .int l3)] [] M) (l0 : Nat) (l1 : Nat) (l2 : Int32) (l3 : Int32) (l4 : Int32) (M : Mem) (h : f_L_type_J55 k4 l0 l1 l2 l3 l4 M = some (r, MF)) : V G (RL, cL_type, (some .boolean), 8, 135, 6, "type", []) (ρ0, M0, cvI r, MF) 55 [(0, .ref l0), (1, .ref l1), (2, .int l2), (3, .int l3), (4, .int l4)] [] M := by
  unfold f_L_type_J55 at h
  refine v_iload_n dL_type_55 rfl 2 rfl ?_
  refine v_aload_n dL_type_56 rfl 0 rfl ?_
  refine v_iload dL_type_57 4 rfl ?_
  obtain ⟨v2, M1, e, h⟩ := bindP_some h
  refine ca_L_34 e dL_type_59 (Nat.le_of_ble_eq_true rfl) (by decide) ?_
  refine v_iload_n dL_type_62 rfl 3 rfl ?_
  refine v_iconst (v := 4) dL_type_63 ci_4 ?_
  refine v_iadd dL_type_64 ?_
  refine v_aload_n dL_type_65 rfl 1 rfl ?_
  obtain ⟨v3, e, h⟩ := bind_some h
  refine sx_length_24 e dL_type_66 (Nat.le_of_ble_eq_true rfl) (by decide) ?_
  refine mx_L_37 dL_type_69 (by decide) (Nat.le_of_ble_eq_true rfl) ?_
  refine v_icmp_ne (tgt := 79) dL_type_72 (by decide) (fun c4 => ?_) (fun c4 => ?_)
  · replace h := ifN c4 h
    refine v_iconst (v := 0) dL_type_79 ci_0 ?_
    refine v_iand dL_type_80 ?_
    refine v_istore_n (ls' := [(2, .int (l2 &&& (0 : Int32))), (0, .ref l0), (1, .ref l1), (3, .int l3), (4, .int l4)]) dL_type_81 rfl (by decide) rfl ?_
    refine v_iinc (ls' := [(3, .int (l3 + 4)), (2, .int (l2 &&& (0 : Int32))), (0, .ref l0), (1, .ref l1), (4, .int l4)]) dL_type_82 3 rfl (v := 4) ci_4 (by decide) rfl ?_
    refine v_goto (tgt := 4) dL_type_85 (by decide) ?_
    refine v_sub [2, 3, 1, 0] rfl ?_
    exact h4 l0 l1 (l2 &&& (0 : Int32)) (l3 + 4) M1 h
  · replace h := ifP c4 h
    refine v_iconst (v := 1) dL_type_75 ci_1 ?_
    refine v_goto (tgt := 80) dL_type_76 (by decide) ?_
    refine v_iand dL_type_80 ?_
    refine v_istore_n (ls' := [(2, .int (l2 &&& (1 : Int32))), (0, .ref l0), (1, .ref l1), (3, .int l3), (4, .int l4)]) dL_type_81 rfl (by decide) rfl ?_
    refine v_iinc (ls' := [(3, .int (l3 + 4)), (2, .int (l2 &&& (1 : Int32))), (0, .ref l0), (1, .ref l1), (4, .int l4)]) dL_type_82 3 rfl (v := 4) ci_4 (by decide) rfl ?_
    refine v_goto (tgt := 4) dL_type_85 (by decide) ?_
    refine v_sub [2, 3, 1, 0] rfl ?_
    exact h4 l0 l1 (l2 &&& (1 : Int32)) (l3 + 4) M1 h
set_option maxHeartbeats 4000000 in
set_option maxRecDepth 100000 in
theorem w_L_type_L18 {G : Gl} {ρ0 : Nat → Nat} {M0 MF : Mem} {r : Int32} (k4 : Nat → Nat → Int32 → Int32 → Mem → Option (Int32 × Mem)) (h4 : ∀ (l0 : Nat) (l1 : Nat) (l2 : Int32) (l3 : Int32) (M : Mem), k4 l0 l1 l2 l3 M = some (r, MF) → V G (RL, cL_type, (some .boolean), 8, 135, 6, "type", []) (ρ0, M0, cvI r, MF) 4 [(0, .ref l0), (1, .ref l1), (2, .int l2), (3, .int l3)] [] M) : ∀ (n : Nat) (l0 : Nat) (l1 : Nat) (l2 : Int32) (l3 : Int32) (l4 : Int32) (l5 : Int32) (M : Mem), f_L_type_L18 n k4 l0 l1 l2 l3 l4 l5 M = some (r, MF) → V G (RL, cL_type, (some .boolean), 8, 135, 6, "type", []) (ρ0, M0, cvI r, MF) 18 [(0, .ref l0), (1, .ref l1), (2, .int l2), (3, .int l3), (4, .int l4), (5, .int l5)] [] M := by
  intro n
  induction n with
  | zero => intro l0 l1 l2 l3 l4 l5 M h; cases h
  | succ n ih =>
    intro l0 l1 l2 l3 l4 l5 M h
    rw [f_L_type_L18] at h
    refine v_iload dL_type_18 5 rfl ?_
    refine v_iload_n dL_type_20 rfl 3 rfl ?_
    refine v_iconst (v := 4) dL_type_21 ci_4 ?_
    refine v_iadd dL_type_22 ?_
    refine v_icmp_ge (tgt := 55) dL_type_23 (by decide) (fun c4 => ?_) (fun c4 => ?_)
    · replace h := ifP c4 h
      refine v_sub [0, 1, 2, 3, 4] rfl ?_
      exact w_L_type_J55 k4 h4 l0 l1 l2 l3 l4 M h
    · replace h := ifN c4 h
      refine v_iload dL_type_26 5 rfl ?_
      refine v_aload_n dL_type_28 rfl 1 rfl ?_
      obtain ⟨v1, e, h⟩ := bind_some h
      refine sx_length_24 e dL_type_29 (Nat.le_of_ble_eq_true rfl) (by decide) ?_
      refine v_icmp_ge (tgt := 55) dL_type_32 (by decide) (fun c3 => ?_) (fun c3 => ?_)
      · replace h := ifP c3 h
        refine v_sub [0, 1, 2, 3, 4] rfl ?_
        exact w_L_type_J55 k4 h4 l0 l1 l2 l3 l4 M h
      · replace h := ifN c3 h
        refine v_iload dL_type_35 4 rfl ?_
        refine v_bipush (v := 8) dL_type_37 cb_8 ?_
        refine v_ishl dL_type_39 ?_
        refine v_aload_n dL_type_40 rfl 1 rfl ?_
        refine v_iload dL_type_41 5 rfl ?_
        obtain ⟨v2, e, h⟩ := bind_some h
        refine sx_charAt_30 e dL_type_43 (Nat.le_of_ble_eq_true rfl) (by decide) ?_
        refine v_ior dL_type_46 ?_
        refine v_istore (ls' := [(4, .int ((ishlE l4 (8 : Int32)) ||| v2)), (0, .ref l0), (1, .ref l1), (2, .int l2), (3, .int l3), (5, .int l5)]) dL_type_47 (by decide) rfl ?_
        refine v_iinc (ls' := [(5, .int (l5 + 1)), (4, .int ((ishlE l4 (8 : Int32)) ||| v2)), (0, .ref l0), (1, .ref l1), (2, .int l2), (3, .int l3)]) dL_type_49 5 rfl (v := 1) ci_1 (by decide) rfl ?_
        refine v_goto (tgt := 18) dL_type_52 (by decide) ?_
        refine v_sub [2, 3, 4, 5, 1, 0] rfl ?_
        exact ih l0 l1 l2 l3 ((ishlE l4 (8 : Int32)) ||| v2) (l5 + 1) M h
set_option maxHeartbeats 4000000 in
set_option maxRecDepth 100000 in
theorem w_L_type_L4 {G : Gl} {ρ0 : Nat → Nat} {M0 MF : Mem} {r : Int32} : ∀ (n : Nat) (l0 : Nat) (l1 : Nat) (l2 : Int32) (l3 : Int32) (M : Mem), f_L_type_L4 n l0 l1 l2 l3 M = some (r, MF) → V G (RL, cL_type, (some .boolean), 8, 135, 6, "type", []) (ρ0, M0, cvI r, MF) 4 [(0, .ref l0), (1, .ref l1), (2, .int l2), (3, .int l3)] [] M := by
  intro n
  induction n with
  | zero => intro l0 l1 l2 l3 M h; cases h
  | succ n ih =>
    intro l0 l1 l2 l3 M h
    rw [f_L_type_L4] at h
    refine v_iload_n dL_type_4 rfl 3 rfl ?_
    refine v_aload_n dL_type_5 rfl 1 rfl ?_
    obtain ⟨v1, e, h⟩ := bind_some h
    refine sx_length_24 e dL_type_6 (Nat.le_of_ble_eq_true rfl) (by decide) ?_
    refine v_icmp_ge (tgt := 88) dL_type_9 (by decide) (fun c2 => ?_) (fun c2 => ?_)
    · replace h := ifP c2 h
      refine v_iload_n dL_type_88 rfl 2 rfl ?_
      obtain ⟨hz, rfl, rfl⟩ := okZ_some h
      exact v_zreturn dL_type_89 hz
    · replace h := ifN c2 h
      refine v_iconst (v := 0) dL_type_12 ci_0 ?_
      refine v_istore (ls' := [(4, .int (0 : Int32)), (0, .ref l0), (1, .ref l1), (2, .int l2), (3, .int l3)]) dL_type_13 (by decide) rfl ?_
      refine v_iload_n dL_type_15 rfl 4 rfl ?_
      refine v_istore (ls' := [(5, .int l3), (4, .int (0 : Int32)), (0, .ref l0), (1, .ref l1), (2, .int l2), (3, .int l3)]) dL_type_16 (by decide) rfl ?_
      refine v_sub [2, 3, 4, 5, 1, 0] rfl ?_
      exact w_L_type_L18 (f_L_type_L4 n) ih FU l0 l1 l2 l3 (0 : Int32) l3 M h
set_option maxHeartbeats 4000000 in
set_option maxRecDepth 100000 in
theorem w_L_type {G : Gl} {ρ0 : Nat → Nat} {M0 MF : Mem} {r : Int32} (l0 : Nat) (l1 : Nat) (M : Mem) (h : f_L_type l0 l1 M = some (r, MF)) : V G (RL, cL_type, (some .boolean), 8, 135, 6, "type", []) (ρ0, M0, cvI r, MF) 0 [(0, .ref l0), (1, .ref l1)] [] M := by
  unfold f_L_type at h
  refine v_iconst (v := 1) dL_type_0 ci_1 ?_
  refine v_istore_n (ls' := [(2, .int (1 : Int32)), (0, .ref l0), (1, .ref l1)]) dL_type_1 rfl (by decide) rfl ?_
  refine v_iconst (v := 0) dL_type_2 ci_0 ?_
  refine v_istore_n (ls' := [(3, .int (0 : Int32)), (2, .int (1 : Int32)), (0, .ref l0), (1, .ref l1)]) dL_type_3 rfl (by decide) rfl ?_
  refine v_sub [2, 3, 1, 0] rfl ?_
  exact w_L_type_L4 FU l0 l1 (1 : Int32) (0 : Int32) M h
theorem k_L_type {G : Gl} {l0 : Nat} {l1 : Nat} {M MF : Mem} {r : Int32} (h : f_L_type l0 l1 M = some (r, MF)) : CtrP G yL_type cL_type 6 (some .boolean) 8 135 [.ref l0, .ref l1] M (cvI r) MF :=
  ctr_of (by decide +kernel) (Nat.le_of_ble_eq_true rfl) (fun ρ => w_L_type l0 l1 M h)
theorem wd_L_66 : wdT RL 66 yL_type cL_type 6 (some .boolean) 2 := ⟨gwi 815 (by decide +kernel) (by decide +kernel), gwi 816 (by decide +kernel) (by decide +kernel), nw_L, gwi 817 (by decide +kernel) (by decide +kernel), ⟨by decide +kernel, by decide +kernel, by decide +kernel⟩⟩
theorem ca_L_66 {G : Gl} {B : Bx} {cc : ByteArray} {ret : Option FieldType} {fr lo nL : Nat} {mn : String} {hh : List (Nat × Nat × Nat × Nat)} {pc : Nat} {ls : List (Nat × Value)} {st : List Value} {M M1 : Mem} {l0 : Nat} {l1 : Nat} {x : Int32} (e : f_L_type l0 l1 M = some (x, M1)) (hd : decode cc pc = .ok (.invokestatic 66, 3)) (hcat : (st.map fun v => v.category).sum ≤ 8) (hR : 8 + 1 ≤ fr ∧ 8 + (6 + 11) + 135 ≤ lo) (k : V G (RL, cc, ret, fr, lo, nL, mn, hh) B (pc + 3) ls (.int x :: st) M1) : V G (RL, cc, ret, fr, lo, nL, mn, hh) B pc ls (.ref l1 :: .ref l0 :: st) M := v_callSi (As := [.ref l0, .ref l1]) (k_L_type e) wd_L_66 hd rfl rfl hcat hR k
set_option maxHeartbeats 4000000 in
set_option maxRecDepth 100000 in
theorem w_L_subscribe {G : Gl} {ρ0 : Nat → Nat} {M0 MF : Mem} {r : Int32} (l0 : Nat) (l1 : Int32) (l2 : Int32) (l3 : Int32) (l4 : Int32) (M : Mem) (h : f_L_subscribe l0 l1 l2 l3 l4 M = some (r, MF)) : V G (RL, cL_subscribe, (some .int), 9, 162, 6, "subscribe", [((0 : Nat), (9 : Nat), (10 : Nat), (47 : Nat)), ((0 : Nat), (9 : Nat), (14 : Nat), (20 : Nat)), ((0 : Nat), (9 : Nat), (19 : Nat), (22 : Nat))]) (ρ0, M0, cvI r, MF) 0 [(0, .ref l0), (1, .int l1), (2, .int l2), (3, .int l3), (4, .int l4)] [] M := by
  unfold f_L_subscribe at h
  refine v_aload_n dL_subscribe_0 rfl 0 rfl ?_
  refine v_iload_n dL_subscribe_1 rfl 1 rfl ?_
  refine v_iload_n dL_subscribe_2 rfl 2 rfl ?_
  refine v_iload_n dL_subscribe_3 rfl 3 rfl ?_
  refine v_iload dL_subscribe_4 4 rfl ?_
  rcases bindH_some h with ⟨v2, M1, e, h⟩ | ⟨e9, M1, e, h⟩
  · refine ca_L_43 e dL_subscribe_6 (Nat.le_of_ble_eq_true rfl) (by decide) ?_
    cases h
    exact v_ireturn dL_subscribe_9
  · rcases Decidable.em (e9 = 3) with c9 | c9
    · subst c9
      replace h := ifP rfl h
      refine v_catch (e := 3) (hpc := 10) (ls' := [(0, .ref l0), (1, .int l1), (2, .int l2), (3, .int l3), (4, .int l4)]) (As := [.int l1, .int l2, .int l3, .int l4]) (k_X11_subscribe e) wd_L_43 clX11 (kd_X11_subscribe e) dL_subscribe_6 rfl rfl (Nat.le_of_ble_eq_true rfl) (by decide) [] (0, 9, 10, 47) [(0, 9, 14, 20), (0, 9, 19, 22)] rfl (by decide) rfl (by decide) (fun _ hz => nomatch hz) lcw_47 lca_3 dL_subscribe_10 (by decide) rfl ?_
      refine v_iconst (v := (-1)) dL_subscribe_12 ci_m1 ?_
      cases h
      exact v_ireturn dL_subscribe_13
    replace h := ifN c9 h
    rcases Decidable.em (e9 = 1) with c9 | c9
    · subst c9
      replace h := ifP rfl h
      refine v_catch (e := 1) (hpc := 14) (ls' := [(0, .ref l0), (1, .int l1), (2, .int l2), (3, .int l3), (4, .int l4)]) (As := [.int l1, .int l2, .int l3, .int l4]) (k_X11_subscribe e) wd_L_43 clX11 (kd_X11_subscribe e) dL_subscribe_6 rfl rfl (Nat.le_of_ble_eq_true rfl) (by decide) [(0, 9, 10, 47)] (0, 9, 14, 20) [(0, 9, 19, 22)] rfl (by decide) rfl (by decide) (hp_1_47 rfl) lcw_20 lca_1 dL_subscribe_14 (by decide) rfl ?_
      refine v_bipush (v := (-2)) dL_subscribe_16 cb_m2 ?_
      cases h
      exact v_ireturn dL_subscribe_18
    replace h := ifN c9 h
    rcases Decidable.em (e9 = 2) with c9 | c9
    · subst c9
      replace h := ifP rfl h
      refine v_catch (e := 2) (hpc := 19) (ls' := [(0, .ref l0), (1, .int l1), (2, .int l2), (3, .int l3), (4, .int l4)]) (As := [.int l1, .int l2, .int l3, .int l4]) (k_X11_subscribe e) wd_L_43 clX11 (kd_X11_subscribe e) dL_subscribe_6 rfl rfl (Nat.le_of_ble_eq_true rfl) (by decide) [(0, 9, 10, 47), (0, 9, 14, 20)] (0, 9, 19, 22) [] rfl (by decide) rfl (by decide) (hp_2_47_20 rfl) lcw_22 lca_2 dL_subscribe_19 (by decide) rfl ?_
      refine v_bipush (v := (-3)) dL_subscribe_21 cb_m3 ?_
      cases h
      exact v_ireturn dL_subscribe_23
    replace h := ifN c9 h
    cases h
theorem k_L_subscribe {G : Gl} {l0 : Nat} {l1 : Int32} {l2 : Int32} {l3 : Int32} {l4 : Int32} {M MF : Mem} {r : Int32} (h : f_L_subscribe l0 l1 l2 l3 l4 M = some (r, MF)) : CtrW G yL_subscribe cL_subscribe 6 (some .int) [((0 : Nat), (9 : Nat), (10 : Nat), (47 : Nat)), ((0 : Nat), (9 : Nat), (14 : Nat), (20 : Nat)), ((0 : Nat), (9 : Nat), (19 : Nat), (22 : Nat))] 9 162 [.ref l0, .int l1, .int l2, .int l3, .int l4] M (cvI r) MF :=
  ctrW_of (by decide +kernel) (Nat.le_of_ble_eq_true rfl) (fun ρ => w_L_subscribe l0 l1 l2 l3 l4 M h)
theorem wd_L_70 : wdW RL 70 yL_subscribe cL_subscribe 6 (some .int) [((0 : Nat), (9 : Nat), (10 : Nat), (47 : Nat)), ((0 : Nat), (9 : Nat), (14 : Nat), (20 : Nat)), ((0 : Nat), (9 : Nat), (19 : Nat), (22 : Nat))] 5 := ⟨gwi 875 (by decide +kernel) (by decide +kernel), gwi 876 (by decide +kernel) (by decide +kernel), gwi 26 (by decide +kernel) (by decide +kernel), gwi 877 (by decide +kernel) (by decide +kernel), ⟨by decide +kernel, by decide +kernel, by decide +kernel⟩⟩
theorem ca_L_70 {G : Gl} {B : Bx} {cc : ByteArray} {ret : Option FieldType} {fr lo nL : Nat} {mn : String} {hh : List (Nat × Nat × Nat × Nat)} {pc : Nat} {ls : List (Nat × Value)} {st : List Value} {M M1 : Mem} {l0 : Nat} {l1 : Int32} {l2 : Int32} {l3 : Int32} {l4 : Int32} {x : Int32} (e : f_L_subscribe l0 l1 l2 l3 l4 M = some (x, M1)) (hd : decode cc pc = .ok (.invokestatic 70, 3)) (hcat : (st.map fun v => v.category).sum ≤ 8) (hR : 9 + 1 ≤ fr ∧ 8 + (6 + 11) + 162 ≤ lo) (k : V G (RL, cc, ret, fr, lo, nL, mn, hh) B (pc + 3) ls (.int x :: st) M1) : V G (RL, cc, ret, fr, lo, nL, mn, hh) B pc ls (.int l4 :: .int l3 :: .int l2 :: .int l1 :: .ref l0 :: st) M := v_callWi (As := [.ref l0, .int l1, .int l2, .int l3, .int l4]) (k_L_subscribe e) wd_L_70 hd rfl rfl hcat hR k
set_option maxHeartbeats 4000000 in
set_option maxRecDepth 100000 in
theorem w_L_subscribes_J75 {G : Gl} {ρ0 : Nat → Nat} {M0 MF : Mem} {r : Int32 ⊕ Nat} (l6 : Int32) (l7 : Int32) (l8 : Int32) (s0 : Int32) (M : Mem) (h : f_L_subscribes_J75 l6 l7 l8 s0 M = some (r, MF)) : V G (RL, cL_subscribes, (some .boolean), 10, 187, 10, "subscribes", []) (ρ0, M0, cxI r, MF) 75 [(6, .int l6), (7, .int l7), (8, .int l8)] [.int s0] M := by
  unfold f_L_subscribes_J75 at h
  refine v_istore (ls' := [(9, .int s0), (6, .int l6), (7, .int l7), (8, .int l8)]) dL_subscribes_75 (by decide) rfl ?_
  refine v_iload dL_subscribes_77 0 rfl ?_
  refine v_if_eq (tgt := 131) dL_subscribes_79 (by decide) (fun c6 => ?_) (fun c6 => ?_)
  · replace h := ifP c6 h
    refine v_iconst (v := 0) dL_subscribes_131 ci_0 ?_
    obtain ⟨hz, rfl, rfl⟩ := okZX_some h
    exact v_zreturn dL_subscribes_132 hz
  · replace h := ifN c6 h
    refine v_iload dL_subscribes_82 2 rfl ?_
    refine v_if_eq (tgt := 120) dL_subscribes_84 (by decide) (fun c5 => ?_) (fun c5 => ?_)
    · replace h := ifP c5 h
      refine v_iload dL_subscribes_120 3 rfl ?_
      refine v_bipush (v := (-3)) dL_subscribes_122 cb_m3 ?_
      refine v_icmp_ne (tgt := 131) dL_subscribes_124 (by decide) (fun c1 => ?_) (fun c1 => ?_)
      · replace h := ifN c1 h
        refine v_iconst (v := 0) dL_subscribes_131 ci_0 ?_
        obtain ⟨hz, rfl, rfl⟩ := okZX_some h
        exact v_zreturn dL_subscribes_132 hz
      · replace h := ifP c1 h
        refine v_iconst (v := 1) dL_subscribes_127 ci_1 ?_
        refine v_goto (tgt := 132) dL_subscribes_128 (by decide) ?_
        obtain ⟨hz, rfl, rfl⟩ := okZX_some h
        exact v_zreturn dL_subscribes_132 hz
    · replace h := ifN c5 h
      refine v_iload dL_subscribes_87 3 rfl ?_
      refine v_iload dL_subscribes_89 1 rfl ?_
      refine v_icmp_eq (tgt := 127) dL_subscribes_91 (by decide) (fun c4 => ?_) (fun c4 => ?_)
      · replace h := ifP c4 h
        refine v_iconst (v := 1) dL_subscribes_127 ci_1 ?_
        refine v_goto (tgt := 132) dL_subscribes_128 (by decide) ?_
        obtain ⟨hz, rfl, rfl⟩ := okZX_some h
        exact v_zreturn dL_subscribes_132 hz
      · replace h := ifN c4 h
        refine v_iload dL_subscribes_94 3 rfl ?_
        refine v_iload dL_subscribes_96 1 rfl ?_
        refine v_iconst (v := 1) dL_subscribes_98 ci_1 ?_
        refine v_iadd dL_subscribes_99 ?_
        refine v_icmp_eq (tgt := 127) dL_subscribes_100 (by decide) (fun c3 => ?_) (fun c3 => ?_)
        · replace h := ifP c3 h
          refine v_iconst (v := 1) dL_subscribes_127 ci_1 ?_
          refine v_goto (tgt := 132) dL_subscribes_128 (by decide) ?_
          obtain ⟨hz, rfl, rfl⟩ := okZX_some h
          exact v_zreturn dL_subscribes_132 hz
        · replace h := ifN c3 h
          refine v_iload dL_subscribes_103 3 rfl ?_
          refine v_bipush (v := (-3)) dL_subscribes_105 cb_m3 ?_
          refine v_icmp_ne (tgt := 131) dL_subscribes_107 (by decide) (fun c2 => ?_) (fun c2 => ?_)
          · replace h := ifN c2 h
            refine v_iconst (v := 0) dL_subscribes_131 ci_0 ?_
            obtain ⟨hz, rfl, rfl⟩ := okZX_some h
            exact v_zreturn dL_subscribes_132 hz
          · replace h := ifP c2 h
            refine v_iload dL_subscribes_110 1 rfl ?_
            refine v_bipush (v := 6) dL_subscribes_112 cb_6 ?_
            refine v_icmp_ne (tgt := 131) dL_subscribes_114 (by decide) (fun c1 => ?_) (fun c1 => ?_)
            · replace h := ifN c1 h
              refine v_iconst (v := 0) dL_subscribes_131 ci_0 ?_
              obtain ⟨hz, rfl, rfl⟩ := okZX_some h
              exact v_zreturn dL_subscribes_132 hz
            · replace h := ifP c1 h
              refine v_goto (tgt := 127) dL_subscribes_117 (by decide) ?_
              refine v_iconst (v := 1) dL_subscribes_127 ci_1 ?_
              refine v_goto (tgt := 132) dL_subscribes_128 (by decide) ?_
              obtain ⟨hz, rfl, rfl⟩ := okZX_some h
              exact v_zreturn dL_subscribes_132 hz
set_option maxHeartbeats 4000000 in
set_option maxRecDepth 100000 in
theorem w_L_subscribes_J67 {G : Gl} {ρ0 : Nat → Nat} {M0 MF : Mem} {r : Int32 ⊕ Nat} (l6 : Int32) (l7 : Int32) (l8 : Int32) (s0 : Int32) (s1 : Int32) (M : Mem) (h : f_L_subscribes_J67 l6 l7 l8 s0 s1 M = some (r, MF)) : V G (RL, cL_subscribes, (some .boolean), 10, 187, 10, "subscribes", []) (ρ0, M0, cxI r, MF) 67 [(6, .int l6), (7, .int l7), (8, .int l8)] [.int s0, .int s1] M := by
  unfold f_L_subscribes_J67 at h
  refine v_icmp_ne (tgt := 74) dL_subscribes_67 (by decide) (fun c1 => ?_) (fun c1 => ?_)
  · replace h := ifN c1 h
    refine v_iconst (v := 0) dL_subscribes_74 ci_0 ?_
    exact w_L_subscribes_J75 l6 l7 l8 (0 : Int32) M h
  · replace h := ifP c1 h
    refine v_iconst (v := 1) dL_subscribes_70 ci_1 ?_
    refine v_goto (tgt := 75) dL_subscribes_71 (by decide) ?_
    exact w_L_subscribes_J75 l6 l7 l8 (1 : Int32) M h
set_option maxHeartbeats 4000000 in
set_option maxRecDepth 100000 in
theorem w_L_subscribes_J47 {G : Gl} {ρ0 : Nat → Nat} {M0 MF : Mem} {r : Int32 ⊕ Nat} (l0 : Nat) (l2 : Int32) (l6 : Int32) (l7 : Int32) (s0 : Int32) (M : Mem) (h : f_L_subscribes_J47 l0 l2 l6 l7 s0 M = some (r, MF)) : V G (RL, cL_subscribes, (some .boolean), 10, 187, 10, "subscribes", []) (ρ0, M0, cxI r, MF) 47 [(0, .ref l0), (2, .int l2), (6, .int l6), (7, .int l7)] [.int s0] M := by
  unfold f_L_subscribes_J47 at h
  refine v_istore (ls' := [(8, .int s0), (0, .ref l0), (2, .int l2), (6, .int l6), (7, .int l7)]) dL_subscribes_47 (by decide) rfl ?_
  refine v_aload_n dL_subscribes_49 rfl 1 rfl ?_
  refine v_iload_n dL_subscribes_50 rfl 2 rfl ?_
  refine v_iconst (v := 4) dL_subscribes_51 ci_4 ?_
  rcases bindX_some h with ⟨v2, M1, e, h⟩ | ⟨e9, e, rfl⟩
  rotate_left
  · exact cx_L_187 e dL_subscribes_52 (Nat.le_of_ble_eq_true rfl) (by decide)
  refine ca_L_187 e dL_subscribes_52 (Nat.le_of_ble_eq_true rfl) (by decide) ?_
  refine v_iload dL_subscribes_55 0 rfl ?_
  refine v_if_ge (tgt := 65) dL_subscribes_57 (by decide) (fun c3 => ?_) (fun c3 => ?_)
  · replace h := ifP c3 h
    refine v_iload dL_subscribes_65 0 rfl ?_
    refine v_sub [3, 4, 0] rfl ?_
    exact w_L_subscribes_J67 l6 l7 s0 s0 v2 M1 h
  · replace h := ifN c3 h
    refine v_iload dL_subscribes_60 3 rfl ?_
    refine v_goto (tgt := 67) dL_subscribes_62 (by decide) ?_
    refine v_sub [3, 4, 0] rfl ?_
    exact w_L_subscribes_J67 l6 l7 s0 l6 v2 M1 h
set_option maxHeartbeats 4000000 in
set_option maxRecDepth 100000 in
theorem w_L_subscribes_J22 {G : Gl} {ρ0 : Nat → Nat} {M0 MF : Mem} {r : Int32 ⊕ Nat} (l0 : Nat) (l1 : Nat) (l2 : Int32) (l3 : Int32) (l4 : Int32) (l5 : Int32) (l6 : Int32) (s0 : Int32) (M : Mem) (h : f_L_subscribes_J22 l0 l1 l2 l3 l4 l5 l6 s0 M = some (r, MF)) : V G (RL, cL_subscribes, (some .boolean), 10, 187, 10, "subscribes", []) (ρ0, M0, cxI r, MF) 22 [(0, .ref l0), (1, .ref l1), (2, .int l2), (3, .int l3), (4, .int l4), (5, .int l5), (6, .int l6)] [.int s0] M := by
  unfold f_L_subscribes_J22 at h
  refine v_istore (ls' := [(7, .int s0), (0, .ref l0), (1, .ref l1), (2, .int l2), (3, .int l3), (4, .int l4), (5, .int l5), (6, .int l6)]) dL_subscribes_22 (by decide) rfl ?_
  refine v_aload_n dL_subscribes_24 rfl 1 rfl ?_
  refine v_aload_n dL_subscribes_25 rfl 2 rfl ?_
  obtain ⟨v2, M1, e, h⟩ := bindP_some h
  refine ca_L_66 e dL_subscribes_26 (Nat.le_of_ble_eq_true rfl) (by decide) ?_
  refine v_if_eq (tgt := 45) dL_subscribes_29 (by decide) (fun c5 => ?_) (fun c5 => ?_)
  · replace h := ifP c5 h
    refine v_bipush (v := (-7)) dL_subscribes_45 cb_m7 ?_
    refine v_sub [1, 3, 7, 0] rfl ?_
    exact w_L_subscribes_J47 l0 l2 l6 s0 (-7 : Int32) M1 h
  · replace h := ifN c5 h
    refine v_aload_n dL_subscribes_32 rfl 1 rfl ?_
    refine v_iload_n dL_subscribes_33 rfl 3 rfl ?_
    refine v_iload_n dL_subscribes_34 rfl 4 rfl ?_
    refine v_iload dL_subscribes_35 5 rfl ?_
    refine v_iload dL_subscribes_37 6 rfl ?_
    obtain ⟨v4, M3, e, h⟩ := bindP_some h
    refine ca_L_70 e dL_subscribes_39 (Nat.le_of_ble_eq_true rfl) (by decide) ?_
    refine v_goto (tgt := 47) dL_subscribes_42 (by decide) ?_
    refine v_sub [1, 3, 7, 0] rfl ?_
    exact w_L_subscribes_J47 l0 l2 l6 s0 v4 M3 h
set_option maxHeartbeats 4000000 in
set_option maxRecDepth 100000 in
theorem w_L_subscribes {G : Gl} {ρ0 : Nat → Nat} {M0 MF : Mem} {r : Int32 ⊕ Nat} (l0 : Nat) (l1 : Nat) (l2 : Int32) (l3 : Int32) (l4 : Int32) (l5 : Int32) (M : Mem) (h : f_L_subscribes l0 l1 l2 l3 l4 l5 M = some (r, MF)) : V G (RL, cL_subscribes, (some .boolean), 10, 187, 10, "subscribes", []) (ρ0, M0, cxI r, MF) 0 [(0, .ref l0), (1, .ref l1), (2, .int l2), (3, .int l3), (4, .int l4), (5, .int l5)] [] M := by
  unfold f_L_subscribes at h
  refine v_aload_n dL_subscribes_0 rfl 0 rfl ?_
  refine v_iload_n dL_subscribes_1 rfl 2 rfl ?_
  refine v_iconst (v := 4) dL_subscribes_2 ci_4 ?_
  rcases bindX_some h with ⟨v2, M1, e, h⟩ | ⟨e9, e, rfl⟩
  rotate_left
  · exact cx_L_187 e dL_subscribes_3 (Nat.le_of_ble_eq_true rfl) (by decide)
  refine ca_L_187 e dL_subscribes_3 (Nat.le_of_ble_eq_true rfl) (by decide) ?_
  refine v_istore (ls' := [(6, .int v2), (0, .ref l0), (1, .ref l1), (2, .int l2), (3, .int l3), (4, .int l4), (5, .int l5)]) dL_subscribes_6 (by decide) rfl ?_
  refine v_aload_n dL_subscribes_8 rfl 1 rfl ?_
  refine v_iload_n dL_subscribes_9 rfl 3 rfl ?_
  rcases bindX_some h with ⟨v4, M3, e, h⟩ | ⟨e9, e, rfl⟩
  rotate_left
  · exact cx_L_141 e dL_subscribes_10 (Nat.le_of_ble_eq_true rfl) (by decide)
  refine ca_L_141 e dL_subscribes_10 (Nat.le_of_ble_eq_true rfl) (by decide) ?_
  refine v_iconst (v := 1) dL_subscribes_13 ci_1 ?_
  refine v_icmp_le (tgt := 21) dL_subscribes_14 (by decide) (fun c5 => ?_) (fun c5 => ?_)
  · replace h := ifP c5 h
    refine v_iconst (v := 0) dL_subscribes_21 ci_0 ?_
    refine v_sub [1, 2, 3, 4, 5, 6, 0] rfl ?_
    exact w_L_subscribes_J22 l0 l1 l2 l3 l4 l5 v2 (0 : Int32) M3 h
  · replace h := ifN c5 h
    refine v_iconst (v := 1) dL_subscribes_17 ci_1 ?_
    refine v_goto (tgt := 22) dL_subscribes_18 (by decide) ?_
    refine v_sub [1, 2, 3, 4, 5, 6, 0] rfl ?_
    exact w_L_subscribes_J22 l0 l1 l2 l3 l4 l5 v2 (1 : Int32) M3 h
theorem k_L_subscribes {G : Gl} {l0 : Nat} {l1 : Nat} {l2 : Int32} {l3 : Int32} {l4 : Int32} {l5 : Int32} {M MF : Mem} {r : Int32 ⊕ Nat} (h : f_L_subscribes l0 l1 l2 l3 l4 l5 M = some (r, MF)) : CtrP G yL_subscribes cL_subscribes 10 (some .boolean) 10 187 [.ref l0, .ref l1, .int l2, .int l3, .int l4, .int l5] M (cxI r) MF :=
  ctr_of (by decide +kernel) (Nat.le_of_ble_eq_true rfl) (fun ρ => w_L_subscribes l0 l1 l2 l3 l4 l5 M h)
theorem wd_L_152 : wdT RL 152 yL_subscribes cL_subscribes 10 (some .boolean) 6 := ⟨gwi 812 (by decide +kernel) (by decide +kernel), gwi 813 (by decide +kernel) (by decide +kernel), nw_L, gwi 814 (by decide +kernel) (by decide +kernel), ⟨by decide +kernel, by decide +kernel, by decide +kernel⟩⟩
theorem ca_L_152 {G : Gl} {B : Bx} {cc : ByteArray} {ret : Option FieldType} {fr lo nL : Nat} {mn : String} {hh : List (Nat × Nat × Nat × Nat)} {pc : Nat} {ls : List (Nat × Value)} {st : List Value} {M M1 : Mem} {l0 : Nat} {l1 : Nat} {l2 : Int32} {l3 : Int32} {l4 : Int32} {l5 : Int32} {x : Int32} (e : f_L_subscribes l0 l1 l2 l3 l4 l5 M = some (.inl x, M1)) (hd : decode cc pc = .ok (.invokestatic 152, 3)) (hcat : (st.map fun v => v.category).sum ≤ 8) (hR : 10 + 1 ≤ fr ∧ 8 + (10 + 11) + 187 ≤ lo) (k : V G (RL, cc, ret, fr, lo, nL, mn, hh) B (pc + 3) ls (.int x :: st) M1) : V G (RL, cc, ret, fr, lo, nL, mn, hh) B pc ls (.int l5 :: .int l4 :: .int l3 :: .int l2 :: .ref l1 :: .ref l0 :: st) M := v_callSi (As := [.ref l0, .ref l1, .int l2, .int l3, .int l4, .int l5]) (k_L_subscribes e) wd_L_152 hd rfl rfl hcat hR k
theorem cx_L_152 {G : Gl} {ρ0 : Nat → Nat} {M0 : Mem} {cc : ByteArray} {ret : Option FieldType} {fr lo nL : Nat} {mn : String} {pc : Nat} {ls : List (Nat × Value)} {st : List Value} {M M1 : Mem} {l0 : Nat} {l1 : Nat} {l2 : Int32} {l3 : Int32} {l4 : Int32} {l5 : Int32} {e9 : Nat} (e : f_L_subscribes l0 l1 l2 l3 l4 l5 M = some (.inr e9, M1)) (hd : decode cc pc = .ok (.invokestatic 152, 3)) (hcat : (st.map fun v => v.category).sum ≤ 8) (hR : 10 + 1 ≤ fr ∧ 8 + (10 + 11) + 187 ≤ lo) : V G (RL, cc, ret, fr, lo, nL, mn, []) (ρ0, M0, Sum.inr e9, M1) pc ls (.int l5 :: .int l4 :: .int l3 :: .int l2 :: .ref l1 :: .ref l0 :: st) M := v_callSx (As := [.ref l0, .ref l1, .int l2, .int l3, .int l4, .int l5]) (k_L_subscribes e) wd_L_152 hd rfl rfl hcat hR
set_option maxHeartbeats 4000000 in
set_option maxRecDepth 100000 in
theorem w_L_unsubscribe {G : Gl} {ρ0 : Nat → Nat} {M0 MF : Mem} {r : Int32} (l0 : Nat) (l1 : Int32) (l2 : Int32) (M : Mem) (h : f_L_unsubscribe l0 l1 l2 M = some (r, MF)) : V G (RL, cL_unsubscribe, (some .int), 9, 156, 4, "unsubscribe", [((0 : Nat), (6 : Nat), (7 : Nat), (47 : Nat)), ((0 : Nat), (6 : Nat), (10 : Nat), (20 : Nat)), ((0 : Nat), (6 : Nat), (14 : Nat), (22 : Nat))]) (ρ0, M0, cvI r, MF) 0 [(0, .ref l0), (1, .int l1), (2, .int l2)] [] M := by
  unfold f_L_unsubscribe at h
  refine v_aload_n dL_unsubscribe_0 rfl 0 rfl ?_
  refine v_iload_n dL_unsubscribe_1 rfl 1 rfl ?_
  refine v_iload_n dL_unsubscribe_2 rfl 2 rfl ?_
  rcases bindH_some h with ⟨v2, M1, e, h⟩ | ⟨e9, M1, e, h⟩
  · refine ca_L_103 e dL_unsubscribe_3 (Nat.le_of_ble_eq_true rfl) (by decide) ?_
    cases h
    exact v_ireturn dL_unsubscribe_6
  · rcases Decidable.em (e9 = 3) with c9 | c9
    · subst c9
      replace h := ifP rfl h
      refine v_catch_n (e := 3) (hpc := 7) (ls' := [(0, .ref l0), (1, .int l1), (2, .int l2)]) (As := [.int l1, .int l2]) (k_X11_unsubscribe e) wd_L_103 clX11 (kd_X11_unsubscribe e) dL_unsubscribe_3 rfl rfl (Nat.le_of_ble_eq_true rfl) (by decide) [] (0, 6, 7, 47) [(0, 6, 10, 20), (0, 6, 14, 22)] rfl (by decide) rfl (by decide) (fun _ hz => nomatch hz) lcw_47 lca_3 dL_unsubscribe_7 rfl (by decide) rfl ?_
      refine v_iconst (v := (-1)) dL_unsubscribe_8 ci_m1 ?_
      cases h
      exact v_ireturn dL_unsubscribe_9
    replace h := ifN c9 h
    rcases Decidable.em (e9 = 1) with c9 | c9
    · subst c9
      replace h := ifP rfl h
      refine v_catch_n (e := 1) (hpc := 10) (ls' := [(0, .ref l0), (1, .int l1), (2, .int l2)]) (As := [.int l1, .int l2]) (k_X11_unsubscribe e) wd_L_103 clX11 (kd_X11_unsubscribe e) dL_unsubscribe_3 rfl rfl (Nat.le_of_ble_eq_true rfl) (by decide) [(0, 6, 7, 47)] (0, 6, 10, 20) [(0, 6, 14, 22)] rfl (by decide) rfl (by decide) (hp_1_47 rfl) lcw_20 lca_1 dL_unsubscribe_10 rfl (by decide) rfl ?_
      refine v_bipush (v := (-2)) dL_unsubscribe_11 cb_m2 ?_
      cases h
      exact v_ireturn dL_unsubscribe_13
    replace h := ifN c9 h
    rcases Decidable.em (e9 = 2) with c9 | c9
    · subst c9
      replace h := ifP rfl h
      refine v_catch_n (e := 2) (hpc := 14) (ls' := [(0, .ref l0), (1, .int l1), (2, .int l2)]) (As := [.int l1, .int l2]) (k_X11_unsubscribe e) wd_L_103 clX11 (kd_X11_unsubscribe e) dL_unsubscribe_3 rfl rfl (Nat.le_of_ble_eq_true rfl) (by decide) [(0, 6, 7, 47), (0, 6, 10, 20)] (0, 6, 14, 22) [] rfl (by decide) rfl (by decide) (hp_2_47_20 rfl) lcw_22 lca_2 dL_unsubscribe_14 rfl (by decide) rfl ?_
      refine v_bipush (v := (-3)) dL_unsubscribe_15 cb_m3 ?_
      cases h
      exact v_ireturn dL_unsubscribe_17
    replace h := ifN c9 h
    cases h
theorem k_L_unsubscribe {G : Gl} {l0 : Nat} {l1 : Int32} {l2 : Int32} {M MF : Mem} {r : Int32} (h : f_L_unsubscribe l0 l1 l2 M = some (r, MF)) : CtrW G yL_unsubscribe cL_unsubscribe 4 (some .int) [((0 : Nat), (6 : Nat), (7 : Nat), (47 : Nat)), ((0 : Nat), (6 : Nat), (10 : Nat), (20 : Nat)), ((0 : Nat), (6 : Nat), (14 : Nat), (22 : Nat))] 9 156 [.ref l0, .int l1, .int l2] M (cvI r) MF :=
  ctrW_of (by decide +kernel) (Nat.le_of_ble_eq_true rfl) (fun ρ => w_L_unsubscribe l0 l1 l2 M h)
theorem wd_L_156 : wdW RL 156 yL_unsubscribe cL_unsubscribe 4 (some .int) [((0 : Nat), (6 : Nat), (7 : Nat), (47 : Nat)), ((0 : Nat), (6 : Nat), (10 : Nat), (20 : Nat)), ((0 : Nat), (6 : Nat), (14 : Nat), (22 : Nat))] 3 := ⟨gwi 922 (by decide +kernel) (by decide +kernel), gwi 923 (by decide +kernel) (by decide +kernel), gwi 26 (by decide +kernel) (by decide +kernel), gwi 924 (by decide +kernel) (by decide +kernel), ⟨by decide +kernel, by decide +kernel, by decide +kernel⟩⟩
theorem ca_L_156 {G : Gl} {B : Bx} {cc : ByteArray} {ret : Option FieldType} {fr lo nL : Nat} {mn : String} {hh : List (Nat × Nat × Nat × Nat)} {pc : Nat} {ls : List (Nat × Value)} {st : List Value} {M M1 : Mem} {l0 : Nat} {l1 : Int32} {l2 : Int32} {x : Int32} (e : f_L_unsubscribe l0 l1 l2 M = some (x, M1)) (hd : decode cc pc = .ok (.invokestatic 156, 3)) (hcat : (st.map fun v => v.category).sum ≤ 8) (hR : 9 + 1 ≤ fr ∧ 8 + (4 + 11) + 156 ≤ lo) (k : V G (RL, cc, ret, fr, lo, nL, mn, hh) B (pc + 3) ls (.int x :: st) M1) : V G (RL, cc, ret, fr, lo, nL, mn, hh) B pc ls (.int l2 :: .int l1 :: .ref l0 :: st) M := v_callWi (As := [.ref l0, .int l1, .int l2]) (k_L_unsubscribe e) wd_L_156 hd rfl rfl hcat hR k
set_option maxHeartbeats 4000000 in
set_option maxRecDepth 100000 in
theorem w_L_breaks {G : Gl} {ρ0 : Nat → Nat} {M0 MF : Mem} {r : Int32} (l0 : Nat) (l1 : Int32) (M : Mem) (h : f_L_breaks l0 l1 M = some (r, MF)) : V G (RL, cL_breaks, (some .int), 8, 164, 3, "breaks", [((0 : Nat), (5 : Nat), (6 : Nat), (47 : Nat)), ((0 : Nat), (5 : Nat), (9 : Nat), (22 : Nat))]) (ρ0, M0, cvI r, MF) 0 [(0, .ref l0), (1, .int l1)] [] M := by
  unfold f_L_breaks at h
  refine v_aload_n dL_breaks_0 rfl 0 rfl ?_
  refine v_iload_n dL_breaks_1 rfl 1 rfl ?_
  rcases bindH_some h with ⟨v2, M1, e, h⟩ | ⟨e9, M1, e, h⟩
  · refine ca_L_63 e dL_breaks_2 (Nat.le_of_ble_eq_true rfl) (by decide) ?_
    cases h
    exact v_ireturn dL_breaks_5
  · rcases Decidable.em (e9 = 3) with c9 | c9
    · subst c9
      replace h := ifP rfl h
      refine v_catch_n (e := 3) (hpc := 6) (ls' := [(0, .ref l0), (1, .int l1)]) (As := [.int l1]) (k_X11_breakConnection e) wd_L_63 clX11 (kd_X11_breakConnection e) dL_breaks_2 rfl rfl (Nat.le_of_ble_eq_true rfl) (by decide) [] (0, 5, 6, 47) [(0, 5, 9, 22)] rfl (by decide) rfl (by decide) (fun _ hz => nomatch hz) lcw_47 lca_3 dL_breaks_6 rfl (by decide) rfl ?_
      refine v_iconst (v := (-1)) dL_breaks_7 ci_m1 ?_
      cases h
      exact v_ireturn dL_breaks_8
    replace h := ifN c9 h
    rcases Decidable.em (e9 = 2) with c9 | c9
    · subst c9
      replace h := ifP rfl h
      refine v_catch_n (e := 2) (hpc := 9) (ls' := [(0, .ref l0), (1, .int l1)]) (As := [.int l1]) (k_X11_breakConnection e) wd_L_63 clX11 (kd_X11_breakConnection e) dL_breaks_2 rfl rfl (Nat.le_of_ble_eq_true rfl) (by decide) [(0, 5, 6, 47)] (0, 5, 9, 22) [] rfl (by decide) rfl (by decide) (hp_2_47 rfl) lcw_22 lca_2 dL_breaks_9 rfl (by decide) rfl ?_
      refine v_bipush (v := (-2)) dL_breaks_10 cb_m2 ?_
      cases h
      exact v_ireturn dL_breaks_12
    replace h := ifN c9 h
    cases h
theorem k_L_breaks {G : Gl} {l0 : Nat} {l1 : Int32} {M MF : Mem} {r : Int32} (h : f_L_breaks l0 l1 M = some (r, MF)) : CtrW G yL_breaks cL_breaks 3 (some .int) [((0 : Nat), (5 : Nat), (6 : Nat), (47 : Nat)), ((0 : Nat), (5 : Nat), (9 : Nat), (22 : Nat))] 8 164 [.ref l0, .int l1] M (cvI r) MF :=
  ctrW_of (by decide +kernel) (Nat.le_of_ble_eq_true rfl) (fun ρ => w_L_breaks l0 l1 M h)
theorem wd_L_159 : wdW RL 159 yL_breaks cL_breaks 3 (some .int) [((0 : Nat), (5 : Nat), (6 : Nat), (47 : Nat)), ((0 : Nat), (5 : Nat), (9 : Nat), (22 : Nat))] 2 := ⟨gwi 938 (by decide +kernel) (by decide +kernel), gwi 939 (by decide +kernel) (by decide +kernel), gwi 26 (by decide +kernel) (by decide +kernel), gwi 940 (by decide +kernel) (by decide +kernel), ⟨by decide +kernel, by decide +kernel, by decide +kernel⟩⟩
theorem ca_L_159 {G : Gl} {B : Bx} {cc : ByteArray} {ret : Option FieldType} {fr lo nL : Nat} {mn : String} {hh : List (Nat × Nat × Nat × Nat)} {pc : Nat} {ls : List (Nat × Value)} {st : List Value} {M M1 : Mem} {l0 : Nat} {l1 : Int32} {x : Int32} (e : f_L_breaks l0 l1 M = some (x, M1)) (hd : decode cc pc = .ok (.invokestatic 159, 3)) (hcat : (st.map fun v => v.category).sum ≤ 8) (hR : 8 + 1 ≤ fr ∧ 8 + (3 + 11) + 164 ≤ lo) (k : V G (RL, cc, ret, fr, lo, nL, mn, hh) B (pc + 3) ls (.int x :: st) M1) : V G (RL, cc, ret, fr, lo, nL, mn, hh) B pc ls (.int l1 :: .ref l0 :: st) M := v_callWi (As := [.ref l0, .int l1]) (k_L_breaks e) wd_L_159 hd rfl rfl hcat hR k
set_option maxHeartbeats 4000000 in
set_option maxRecDepth 100000 in
theorem w_L_setOption {G : Gl} {ρ0 : Nat → Nat} {M0 MF : Mem} {r : Int32} (l0 : Nat) (l1 : Int32) (l2 : Int32) (M : Mem) (h : f_L_setOption l0 l1 l2 M = some (r, MF)) : V G (RL, cL_setOption, (some .int), 7, 112, 4, "setOption", [((0 : Nat), (6 : Nat), (7 : Nat), (47 : Nat)), ((0 : Nat), (6 : Nat), (10 : Nat), (20 : Nat))]) (ρ0, M0, cvI r, MF) 0 [(0, .ref l0), (1, .int l1), (2, .int l2)] [] M := by
  unfold f_L_setOption at h
  refine v_aload_n dL_setOption_0 rfl 0 rfl ?_
  refine v_iload_n dL_setOption_1 rfl 1 rfl ?_
  refine v_iload_n dL_setOption_2 rfl 2 rfl ?_
  rcases bindH_some h with ⟨v2, M1, e, h⟩ | ⟨e9, M1, e, h⟩
  · refine ca_L_106 e dL_setOption_3 (Nat.le_of_ble_eq_true rfl) (by decide) ?_
    cases h
    exact v_ireturn dL_setOption_6
  · rcases Decidable.em (e9 = 3) with c9 | c9
    · subst c9
      replace h := ifP rfl h
      refine v_catch_n (e := 3) (hpc := 7) (ls' := [(0, .ref l0), (1, .int l1), (2, .int l2)]) (As := [.int l1, .int l2]) (k_X11_setOption e) wd_L_106 clX11 (kd_X11_setOption e) dL_setOption_3 rfl rfl (Nat.le_of_ble_eq_true rfl) (by decide) [] (0, 6, 7, 47) [(0, 6, 10, 20)] rfl (by decide) rfl (by decide) (fun _ hz => nomatch hz) lcw_47 lca_3 dL_setOption_7 rfl (by decide) rfl ?_
      refine v_iconst (v := (-1)) dL_setOption_8 ci_m1 ?_
      cases h
      exact v_ireturn dL_setOption_9
    replace h := ifN c9 h
    rcases Decidable.em (e9 = 1) with c9 | c9
    · subst c9
      replace h := ifP rfl h
      refine v_catch_n (e := 1) (hpc := 10) (ls' := [(0, .ref l0), (1, .int l1), (2, .int l2)]) (As := [.int l1, .int l2]) (k_X11_setOption e) wd_L_106 clX11 (kd_X11_setOption e) dL_setOption_3 rfl rfl (Nat.le_of_ble_eq_true rfl) (by decide) [(0, 6, 7, 47)] (0, 6, 10, 20) [] rfl (by decide) rfl (by decide) (hp_1_47 rfl) lcw_20 lca_1 dL_setOption_10 rfl (by decide) rfl ?_
      refine v_bipush (v := (-2)) dL_setOption_11 cb_m2 ?_
      cases h
      exact v_ireturn dL_setOption_13
    replace h := ifN c9 h
    cases h
theorem k_L_setOption {G : Gl} {l0 : Nat} {l1 : Int32} {l2 : Int32} {M MF : Mem} {r : Int32} (h : f_L_setOption l0 l1 l2 M = some (r, MF)) : CtrW G yL_setOption cL_setOption 4 (some .int) [((0 : Nat), (6 : Nat), (7 : Nat), (47 : Nat)), ((0 : Nat), (6 : Nat), (10 : Nat), (20 : Nat))] 7 112 [.ref l0, .int l1, .int l2] M (cvI r) MF :=
  ctrW_of (by decide +kernel) (Nat.le_of_ble_eq_true rfl) (fun ρ => w_L_setOption l0 l1 l2 M h)
theorem wd_L_162 : wdW RL 162 yL_setOption cL_setOption 4 (some .int) [((0 : Nat), (6 : Nat), (7 : Nat), (47 : Nat)), ((0 : Nat), (6 : Nat), (10 : Nat), (20 : Nat))] 3 := ⟨gwi 945 (by decide +kernel) (by decide +kernel), gwi 946 (by decide +kernel) (by decide +kernel), gwi 26 (by decide +kernel) (by decide +kernel), gwi 947 (by decide +kernel) (by decide +kernel), ⟨by decide +kernel, by decide +kernel, by decide +kernel⟩⟩
theorem ca_L_162 {G : Gl} {B : Bx} {cc : ByteArray} {ret : Option FieldType} {fr lo nL : Nat} {mn : String} {hh : List (Nat × Nat × Nat × Nat)} {pc : Nat} {ls : List (Nat × Value)} {st : List Value} {M M1 : Mem} {l0 : Nat} {l1 : Int32} {l2 : Int32} {x : Int32} (e : f_L_setOption l0 l1 l2 M = some (x, M1)) (hd : decode cc pc = .ok (.invokestatic 162, 3)) (hcat : (st.map fun v => v.category).sum ≤ 8) (hR : 7 + 1 ≤ fr ∧ 8 + (4 + 11) + 112 ≤ lo) (k : V G (RL, cc, ret, fr, lo, nL, mn, hh) B (pc + 3) ls (.int x :: st) M1) : V G (RL, cc, ret, fr, lo, nL, mn, hh) B pc ls (.int l2 :: .int l1 :: .ref l0 :: st) M := v_callWi (As := [.ref l0, .int l1, .int l2]) (k_L_setOption e) wd_L_162 hd rfl rfl hcat hR k
set_option maxHeartbeats 4000000 in
set_option maxRecDepth 100000 in
theorem w_L_answer {G : Gl} {ρ0 : Nat → Nat} {M0 MF : Mem} {r : Int32} (l0 : Nat) (l1 : Int32) (l2 : Int32) (l3 : Int32) (M : Mem) (h : f_L_answer l0 l1 l2 l3 M = some (r, MF)) : V G (RL, cL_answer, (some .int), 8, 140, 5, "answer", [((0 : Nat), (7 : Nat), (8 : Nat), (47 : Nat)), ((0 : Nat), (7 : Nat), (12 : Nat), (20 : Nat)), ((0 : Nat), (7 : Nat), (17 : Nat), (22 : Nat))]) (ρ0, M0, cvI r, MF) 0 [(0, .ref l0), (1, .int l1), (2, .int l2), (3, .int l3)] [] M := by
  unfold f_L_answer at h
  refine v_aload_n dL_answer_0 rfl 0 rfl ?_
  refine v_iload_n dL_answer_1 rfl 1 rfl ?_
  refine v_iload_n dL_answer_2 rfl 2 rfl ?_
  refine v_iload_n dL_answer_3 rfl 3 rfl ?_
  rcases bindH_some h with ⟨v2, M1, e, h⟩ | ⟨e9, M1, e, h⟩
  · refine ca_L_56 e dL_answer_4 (Nat.le_of_ble_eq_true rfl) (by decide) ?_
    cases h
    exact v_ireturn dL_answer_7
  · rcases Decidable.em (e9 = 3) with c9 | c9
    · subst c9
      replace h := ifP rfl h
      refine v_catch (e := 3) (hpc := 8) (ls' := [(0, .ref l0), (1, .int l1), (2, .int l2), (3, .int l3)]) (As := [.int l1, .int l2, .int l3]) (k_X11_answer e) wd_L_56 clX11 (kd_X11_answer e) dL_answer_4 rfl rfl (Nat.le_of_ble_eq_true rfl) (by decide) [] (0, 7, 8, 47) [(0, 7, 12, 20), (0, 7, 17, 22)] rfl (by decide) rfl (by decide) (fun _ hz => nomatch hz) lcw_47 lca_3 dL_answer_8 (by decide) rfl ?_
      refine v_iconst (v := (-1)) dL_answer_10 ci_m1 ?_
      cases h
      exact v_ireturn dL_answer_11
    replace h := ifN c9 h
    rcases Decidable.em (e9 = 1) with c9 | c9
    · subst c9
      replace h := ifP rfl h
      refine v_catch (e := 1) (hpc := 12) (ls' := [(0, .ref l0), (1, .int l1), (2, .int l2), (3, .int l3)]) (As := [.int l1, .int l2, .int l3]) (k_X11_answer e) wd_L_56 clX11 (kd_X11_answer e) dL_answer_4 rfl rfl (Nat.le_of_ble_eq_true rfl) (by decide) [(0, 7, 8, 47)] (0, 7, 12, 20) [(0, 7, 17, 22)] rfl (by decide) rfl (by decide) (hp_1_47 rfl) lcw_20 lca_1 dL_answer_12 (by decide) rfl ?_
      refine v_bipush (v := (-2)) dL_answer_14 cb_m2 ?_
      cases h
      exact v_ireturn dL_answer_16
    replace h := ifN c9 h
    rcases Decidable.em (e9 = 2) with c9 | c9
    · subst c9
      replace h := ifP rfl h
      refine v_catch (e := 2) (hpc := 17) (ls' := [(0, .ref l0), (1, .int l1), (2, .int l2), (3, .int l3)]) (As := [.int l1, .int l2, .int l3]) (k_X11_answer e) wd_L_56 clX11 (kd_X11_answer e) dL_answer_4 rfl rfl (Nat.le_of_ble_eq_true rfl) (by decide) [(0, 7, 8, 47), (0, 7, 12, 20)] (0, 7, 17, 22) [] rfl (by decide) rfl (by decide) (hp_2_47_20 rfl) lcw_22 lca_2 dL_answer_17 (by decide) rfl ?_
      refine v_bipush (v := (-3)) dL_answer_19 cb_m3 ?_
      cases h
      exact v_ireturn dL_answer_21
    replace h := ifN c9 h
    cases h
theorem k_L_answer {G : Gl} {l0 : Nat} {l1 : Int32} {l2 : Int32} {l3 : Int32} {M MF : Mem} {r : Int32} (h : f_L_answer l0 l1 l2 l3 M = some (r, MF)) : CtrW G yL_answer cL_answer 5 (some .int) [((0 : Nat), (7 : Nat), (8 : Nat), (47 : Nat)), ((0 : Nat), (7 : Nat), (12 : Nat), (20 : Nat)), ((0 : Nat), (7 : Nat), (17 : Nat), (22 : Nat))] 8 140 [.ref l0, .int l1, .int l2, .int l3] M (cvI r) MF :=
  ctrW_of (by decide +kernel) (Nat.le_of_ble_eq_true rfl) (fun ρ => w_L_answer l0 l1 l2 l3 M h)
theorem wd_L_189 : wdW RL 189 yL_answer cL_answer 5 (some .int) [((0 : Nat), (7 : Nat), (8 : Nat), (47 : Nat)), ((0 : Nat), (7 : Nat), (12 : Nat), (20 : Nat)), ((0 : Nat), (7 : Nat), (17 : Nat), (22 : Nat))] 4 := ⟨gwi 960 (by decide +kernel) (by decide +kernel), gwi 961 (by decide +kernel) (by decide +kernel), gwi 26 (by decide +kernel) (by decide +kernel), gwi 962 (by decide +kernel) (by decide +kernel), ⟨by decide +kernel, by decide +kernel, by decide +kernel⟩⟩
theorem ca_L_189 {G : Gl} {B : Bx} {cc : ByteArray} {ret : Option FieldType} {fr lo nL : Nat} {mn : String} {hh : List (Nat × Nat × Nat × Nat)} {pc : Nat} {ls : List (Nat × Value)} {st : List Value} {M M1 : Mem} {l0 : Nat} {l1 : Int32} {l2 : Int32} {l3 : Int32} {x : Int32} (e : f_L_answer l0 l1 l2 l3 M = some (x, M1)) (hd : decode cc pc = .ok (.invokestatic 189, 3)) (hcat : (st.map fun v => v.category).sum ≤ 8) (hR : 8 + 1 ≤ fr ∧ 8 + (5 + 11) + 140 ≤ lo) (k : V G (RL, cc, ret, fr, lo, nL, mn, hh) B (pc + 3) ls (.int x :: st) M1) : V G (RL, cc, ret, fr, lo, nL, mn, hh) B pc ls (.int l3 :: .int l2 :: .int l1 :: .ref l0 :: st) M := v_callWi (As := [.ref l0, .int l1, .int l2, .int l3]) (k_L_answer e) wd_L_189 hd rfl rfl hcat hR k
set_option maxHeartbeats 4000000 in
set_option maxRecDepth 100000 in
theorem w_L_answers_J152 {G : Gl} {ρ0 : Nat → Nat} {M0 MF : Mem} {r : Int32 ⊕ Nat} (s0 : Int32) (s1 : Int32) (s2 : Int32) (M : Mem) (h : f_L_answers_J152 s0 s1 s2 M = some (r, MF)) : V G (RL, cL_answers, (some .boolean), 9, 164, 8, "answers", []) (ρ0, M0, cxI r, MF) 152 [] [.int s0, .int s1, .int s2] M := by
  unfold f_L_answers_J152 at h
  refine v_isub dL_answers_152 ?_
  refine v_icmp_ne (tgt := 160) dL_answers_153 (by decide) (fun c1 => ?_) (fun c1 => ?_)
  · replace h := ifN c1 h
    refine v_iconst (v := 0) dL_answers_160 ci_0 ?_
    obtain ⟨hz, rfl, rfl⟩ := okZX_some h
    exact v_zreturn dL_answers_161 hz
  · replace h := ifP c1 h
    refine v_iconst (v := 1) dL_answers_156 ci_1 ?_
    refine v_goto (tgt := 161) dL_answers_157 (by decide) ?_
    obtain ⟨hz, rfl, rfl⟩ := okZX_some h
    exact v_zreturn dL_answers_161 hz
set_option maxHeartbeats 4000000 in
set_option maxRecDepth 100000 in
theorem w_L_answers_J119 {G : Gl} {ρ0 : Nat → Nat} {M0 MF : Mem} {r : Int32 ⊕ Nat} (l0 : Nat) (l1 : Int32) (l4 : Int32) (l5 : Int32) (s0 : Int32) (M : Mem) (h : f_L_answers_J119 l0 l1 l4 l5 s0 M = some (r, MF)) : V G (RL, cL_answers, (some .boolean), 9, 164, 8, "answers", []) (ρ0, M0, cxI r, MF) 119 [(0, .ref l0), (1, .int l1), (4, .int l4), (5, .int l5)] [.int s0] M := by
  unfold f_L_answers_J119 at h
  refine v_istore (ls' := [(7, .int s0), (0, .ref l0), (1, .int l1), (4, .int l4), (5, .int l5)]) dL_answers_119 (by decide) rfl ?_
  refine v_iload dL_answers_121 0 rfl ?_
  refine v_if_eq (tgt := 160) dL_answers_123 (by decide) (fun c6 => ?_) (fun c6 => ?_)
  · replace h := ifP c6 h
    refine v_iconst (v := 0) dL_answers_160 ci_0 ?_
    obtain ⟨hz, rfl, rfl⟩ := okZX_some h
    exact v_zreturn dL_answers_161 hz
  · replace h := ifN c6 h
    refine v_aload_n dL_answers_126 rfl 1 rfl ?_
    refine v_iload_n dL_answers_127 rfl 2 rfl ?_
    refine v_iconst (v := 1) dL_answers_128 ci_1 ?_
    rcases bindX_some h with ⟨v2, M1, e, h⟩ | ⟨e9, e, rfl⟩
    rotate_left
    · exact cx_L_187 e dL_answers_129 (Nat.le_of_ble_eq_true rfl) (by decide)
    refine ca_L_187 e dL_answers_129 (Nat.le_of_ble_eq_true rfl) (by decide) ?_
    refine v_aload_n dL_answers_132 rfl 1 rfl ?_
    refine v_iload_n dL_answers_133 rfl 2 rfl ?_
    refine v_iconst (v := 2) dL_answers_134 ci_2 ?_
    rcases bindX_some h with ⟨v4, M3, e, h⟩ | ⟨e9, e, rfl⟩
    rotate_left
    · exact cx_L_187 e dL_answers_135 (Nat.le_of_ble_eq_true rfl) (by decide)
    refine ca_L_187 e dL_answers_135 (Nat.le_of_ble_eq_true rfl) (by decide) ?_
    refine v_iadd dL_answers_138 ?_
    refine v_iload dL_answers_139 3 rfl ?_
    refine v_iload dL_answers_141 4 rfl ?_
    refine v_iconst (v := 2) dL_answers_143 ci_2 ?_
    refine v_icmp_ne (tgt := 151) dL_answers_144 (by decide) (fun c5 => ?_) (fun c5 => ?_)
    · replace h := ifN c5 h
      refine v_iconst (v := 1) dL_answers_151 ci_1 ?_
      refine v_sub [] rfl ?_
      exact w_L_answers_J152 (1 : Int32) l4 (v2 + v4) M3 h
    · replace h := ifP c5 h
      refine v_iconst (v := 0) dL_answers_147 ci_0 ?_
      refine v_goto (tgt := 152) dL_answers_148 (by decide) ?_
      refine v_sub [] rfl ?_
      exact w_L_answers_J152 (0 : Int32) l4 (v2 + v4) M3 h
theorem w_L_answers_J118 {G : Gl} {ρ0 : Nat → Nat} {M0 MF : Mem} {r : Int32 ⊕ Nat} (l0 : Nat) (l1 : Int32) (l4 : Int32) (l5 : Int32) (M : Mem) (h : f_L_answers_J118 l0 l1 l4 l5 M = some (r, MF)) : V G (RL, cL_answers, (some .boolean), 9, 164, 8, "answers", []) (ρ0, M0, cxI r, MF) 118 [(0, .ref l0), (1, .int l1), (4, .int l4), (5, .int l5)] [] M := by
  unfold f_L_answers_J118 at h
  refine v_iconst (v := 0) dL_answers_118 ci_0 ?_
  exact w_L_answers_J119 l0 l1 l4 l5 (0 : Int32) M h
set_option maxHeartbeats 4000000 in
set_option maxRecDepth 100000 in
theorem w_L_answers_J110 {G : Gl} {ρ0 : Nat → Nat} {M0 MF : Mem} {r : Int32 ⊕ Nat} (l0 : Nat) (l1 : Int32) (l4 : Int32) (l5 : Int32) (s0 : Int32) (s1 : Int32) (s2 : Int32) (M : Mem) (h : f_L_answers_J110 l0 l1 l4 l5 s0 s1 s2 M = some (r, MF)) : V G (RL, cL_answers, (some .boolean), 9, 164, 8, "answers", []) (ρ0, M0, cxI r, MF) 110 [(0, .ref l0), (1, .int l1), (4, .int l4), (5, .int l5)] [.int s0, .int s1, .int s2] M := by
  unfold f_L_answers_J110 at h
  refine v_iadd dL_answers_110 ?_
  refine v_icmp_ne (tgt := 118) dL_answers_111 (by decide) (fun c1 => ?_) (fun c1 => ?_)
  · replace h := ifN c1 h
    exact w_L_answers_J118 l0 l1 l4 l5 M h
  · replace h := ifP c1 h
    refine v_iconst (v := 1) dL_answers_114 ci_1 ?_
    refine v_goto (tgt := 119) dL_answers_115 (by decide) ?_
    exact w_L_answers_J119 l0 l1 l4 l5 (1 : Int32) M h
set_option maxHeartbeats 4000000 in
set_option maxRecDepth 100000 in
theorem w_L_answers_J30 {G : Gl} {ρ0 : Nat → Nat} {M0 MF : Mem} {r : Int32 ⊕ Nat} (s0 : Int32) (s1 : Int32) (M : Mem) (h : f_L_answers_J30 s0 s1 M = some (r, MF)) : V G (RL, cL_answers, (some .boolean), 9, 164, 8, "answers", []) (ρ0, M0, cxI r, MF) 30 [] [.int s0, .int s1] M := by
  unfold f_L_answers_J30 at h
  refine v_icmp_ne (tgt := 37) dL_answers_30 (by decide) (fun c1 => ?_) (fun c1 => ?_)
  · replace h := ifN c1 h
    refine v_iconst (v := 0) dL_answers_37 ci_0 ?_
    obtain ⟨hz, rfl, rfl⟩ := okZX_some h
    exact v_zreturn dL_answers_38 hz
  · replace h := ifP c1 h
    refine v_iconst (v := 1) dL_answers_33 ci_1 ?_
    refine v_goto (tgt := 38) dL_answers_34 (by decide) ?_
    obtain ⟨hz, rfl, rfl⟩ := okZX_some h
    exact v_zreturn dL_answers_38 hz
set_option maxHeartbeats 4000000 in
set_option maxRecDepth 100000 in
theorem w_L_answers_J13 {G : Gl} {ρ0 : Nat → Nat} {M0 MF : Mem} {r : Int32 ⊕ Nat} (l0 : Nat) (l1 : Int32) (l2 : Int32) (M : Mem) (h : f_L_answers_J13 l0 l1 l2 M = some (r, MF)) : V G (RL, cL_answers, (some .boolean), 9, 164, 8, "answers", []) (ρ0, M0, cxI r, MF) 13 [(0, .ref l0), (1, .int l1), (2, .int l2)] [] M := by
  unfold f_L_answers_J13 at h
  refine v_aload_n dL_answers_13 rfl 0 rfl ?_
  refine v_iload_n dL_answers_14 rfl 1 rfl ?_
  refine v_iconst (v := 1) dL_answers_15 ci_1 ?_
  refine v_iconst (v := 1) dL_answers_16 ci_1 ?_
  obtain ⟨v2, M1, e, h⟩ := bindP_some h
  refine ca_L_189 e dL_answers_17 (Nat.le_of_ble_eq_true rfl) (by decide) ?_
  refine v_iload_n dL_answers_20 rfl 2 rfl ?_
  refine v_if_eq (tgt := 28) dL_answers_21 (by decide) (fun c3 => ?_) (fun c3 => ?_)
  · replace h := ifP c3 h
    refine v_bipush (v := (-3)) dL_answers_28 cb_m3 ?_
    refine v_sub [] rfl ?_
    exact w_L_answers_J30 (-3 : Int32) v2 M1 h
  · replace h := ifN c3 h
    refine v_iconst (v := 0) dL_answers_24 ci_0 ?_
    refine v_goto (tgt := 30) dL_answers_25 (by decide) ?_
    refine v_sub [] rfl ?_
    exact w_L_answers_J30 (0 : Int32) v2 M1 h
set_option maxHeartbeats 4000000 in
set_option maxRecDepth 100000 in
theorem w_L_answers {G : Gl} {ρ0 : Nat → Nat} {M0 MF : Mem} {r : Int32 ⊕ Nat} (l0 : Nat) (l1 : Int32) (l2 : Int32) (M : Mem) (h : f_L_answers l0 l1 l2 M = some (r, MF)) : V G (RL, cL_answers, (some .boolean), 9, 164, 8, "answers", []) (ρ0, M0, cxI r, MF) 0 [(0, .ref l0), (1, .int l1), (2, .int l2)] [] M := by
  unfold f_L_answers at h
  refine v_iload_n dL_answers_0 rfl 2 rfl ?_
  refine v_if_eq (tgt := 13) dL_answers_1 (by decide) (fun c20 => ?_) (fun c20 => ?_)
  · replace h := ifP c20 h
    exact w_L_answers_J13 l0 l1 l2 M h
  · replace h := ifN c20 h
    refine v_aload_n dL_answers_4 rfl 0 rfl ?_
    refine v_iload_n dL_answers_5 rfl 1 rfl ?_
    refine v_iconst (v := 1) dL_answers_6 ci_1 ?_
    rcases bindX_some h with ⟨v2, M1, e, h⟩ | ⟨e9, e, rfl⟩
    rotate_left
    · exact cx_L_187 e dL_answers_7 (Nat.le_of_ble_eq_true rfl) (by decide)
    refine ca_L_187 e dL_answers_7 (Nat.le_of_ble_eq_true rfl) (by decide) ?_
    refine v_if_ne (tgt := 39) dL_answers_10 (by decide) (fun c19 => ?_) (fun c19 => ?_)
    · replace h := ifN c19 h
      refine v_aload_n dL_answers_39 rfl 0 rfl ?_
      refine v_iload_n dL_answers_40 rfl 1 rfl ?_
      refine v_iconst (v := 0) dL_answers_41 ci_0 ?_
      refine v_iconst (v := 0) dL_answers_42 ci_0 ?_
      rcases bindX_some h with ⟨v4, M3, e, h⟩ | ⟨e9, e, rfl⟩
      rotate_left
      · exact cx_L_192 e dL_answers_43 (Nat.le_of_ble_eq_true rfl) (by decide)
      refine ca_L_192 e dL_answers_43 (Nat.le_of_ble_eq_true rfl) (by decide) ?_
      refine v_istore_n (ls' := [(3, .int v4), (0, .ref l0), (1, .int l1), (2, .int l2)]) dL_answers_46 rfl (by decide) rfl ?_
      refine v_aload_n dL_answers_47 rfl 1 rfl ?_
      refine v_iload_n dL_answers_48 rfl 2 rfl ?_
      refine v_iconst (v := 1) dL_answers_49 ci_1 ?_
      rcases bindX_some h with ⟨v6, M5, e, h⟩ | ⟨e9, e, rfl⟩
      rotate_left
      · exact cx_L_187 e dL_answers_50 (Nat.le_of_ble_eq_true rfl) (by decide)
      refine ca_L_187 e dL_answers_50 (Nat.le_of_ble_eq_true rfl) (by decide) ?_
      refine v_aload_n dL_answers_53 rfl 1 rfl ?_
      refine v_iload_n dL_answers_54 rfl 2 rfl ?_
      refine v_iconst (v := 2) dL_answers_55 ci_2 ?_
      rcases bindX_some h with ⟨v8, M7, e, h⟩ | ⟨e9, e, rfl⟩
      rotate_left
      · exact cx_L_187 e dL_answers_56 (Nat.le_of_ble_eq_true rfl) (by decide)
      refine ca_L_187 e dL_answers_56 (Nat.le_of_ble_eq_true rfl) (by decide) ?_
      refine v_iadd dL_answers_59 ?_
      refine v_istore (ls' := [(4, .int (v6 + v8)), (3, .int v4), (0, .ref l0), (1, .int l1), (2, .int l2)]) dL_answers_60 (by decide) rfl ?_
      refine v_aload_n dL_answers_62 rfl 2 rfl ?_
      refine v_iload_n dL_answers_63 rfl 3 rfl ?_
      refine v_iconst (v := 0) dL_answers_64 ci_0 ?_
      refine v_iconst (v := 3) dL_answers_65 ci_3 ?_
      rcases bindX_some h with ⟨v10, M9, e, h⟩ | ⟨e9, e, rfl⟩
      rotate_left
      · exact cx_L_192 e dL_answers_66 (Nat.le_of_ble_eq_true rfl) (by decide)
      refine ca_L_192 e dL_answers_66 (Nat.le_of_ble_eq_true rfl) (by decide) ?_
      refine v_istore (ls' := [(5, .int v10), (4, .int (v6 + v8)), (3, .int v4), (0, .ref l0), (1, .int l1), (2, .int l2)]) dL_answers_69 (by decide) rfl ?_
      refine v_aload_n dL_answers_71 rfl 3 rfl ?_
      refine v_bipush (v := 9) dL_answers_72 cb_9 ?_
      rcases bindX_some h with ⟨v12, M11, e, h⟩ | ⟨e9, e, rfl⟩
      rotate_left
      · exact cx_L_180 e dL_answers_74 (Nat.le_of_ble_eq_true rfl) (by decide)
      refine ca_L_180 e dL_answers_74 (Nat.le_of_ble_eq_true rfl) (by decide) ?_
      refine v_istore (ls' := [(6, .int v12), (5, .int v10), (4, .int (v6 + v8)), (3, .int v4), (0, .ref l0), (1, .int l1), (2, .int l2)]) dL_answers_77 (by decide) rfl ?_
      refine v_aload_n dL_answers_79 rfl 4 rfl ?_
      refine v_iload_n dL_answers_80 rfl 5 rfl ?_
      refine v_iload dL_answers_81 1 rfl ?_
      refine v_iload_n dL_answers_83 rfl 3 rfl ?_
      obtain ⟨v14, M13, e, h⟩ := bindP_some h
      refine ca_L_189 e dL_answers_84 (Nat.le_of_ble_eq_true rfl) (by decide) ?_
      refine v_iconst (v := 1) dL_answers_87 ci_1 ?_
      refine v_icmp_ne (tgt := 118) dL_answers_88 (by decide) (fun c18 => ?_) (fun c18 => ?_)
      · replace h := ifN c18 h
        refine v_sub [4, 5, 2, 1] rfl ?_
        exact w_L_answers_J118 l0 l1 (v6 + v8) v10 M13 h
      · replace h := ifP c18 h
        refine v_aload_n dL_answers_91 rfl 4 rfl ?_
        refine v_bipush (v := 9) dL_answers_92 cb_9 ?_
        rcases bindX_some h with ⟨v16, M15, e, h⟩ | ⟨e9, e, rfl⟩
        rotate_left
        · exact cx_L_180 e dL_answers_94 (Nat.le_of_ble_eq_true rfl) (by decide)
        refine ca_L_180 e dL_answers_94 (Nat.le_of_ble_eq_true rfl) (by decide) ?_
        refine v_iload dL_answers_97 0 rfl ?_
        refine v_iload dL_answers_99 1 rfl ?_
        refine v_iconst (v := 2) dL_answers_101 ci_2 ?_
        refine v_icmp_ne (tgt := 109) dL_answers_102 (by decide) (fun c17 => ?_) (fun c17 => ?_)
        · replace h := ifN c17 h
          refine v_iconst (v := 1) dL_answers_109 ci_1 ?_
          refine v_sub [4, 5, 2, 1] rfl ?_
          exact w_L_answers_J110 l0 l1 (v6 + v8) v10 (1 : Int32) v12 v16 M15 h
        · replace h := ifP c17 h
          refine v_iconst (v := 0) dL_answers_105 ci_0 ?_
          refine v_goto (tgt := 110) dL_answers_106 (by decide) ?_
          refine v_sub [4, 5, 2, 1] rfl ?_
          exact w_L_answers_J110 l0 l1 (v6 + v8) v10 (0 : Int32) v12 v16 M15 h
    · replace h := ifP c19 h
      exact w_L_answers_J13 l0 l1 l2 M1 h
theorem k_L_answers {G : Gl} {l0 : Nat} {l1 : Int32} {l2 : Int32} {M MF : Mem} {r : Int32 ⊕ Nat} (h : f_L_answers l0 l1 l2 M = some (r, MF)) : CtrP G yL_answers cL_answers 8 (some .boolean) 9 164 [.ref l0, .int l1, .int l2] M (cxI r) MF :=
  ctr_of (by decide +kernel) (Nat.le_of_ble_eq_true rfl) (fun ρ => w_L_answers l0 l1 l2 M h)
theorem wd_L_164 : wdT RL 164 yL_answers cL_answers 8 (some .boolean) 3 := ⟨gwi 957 (by decide +kernel) (by decide +kernel), gwi 958 (by decide +kernel) (by decide +kernel), nw_L, gwi 959 (by decide +kernel) (by decide +kernel), ⟨by decide +kernel, by decide +kernel, by decide +kernel⟩⟩
theorem ca_L_164 {G : Gl} {B : Bx} {cc : ByteArray} {ret : Option FieldType} {fr lo nL : Nat} {mn : String} {hh : List (Nat × Nat × Nat × Nat)} {pc : Nat} {ls : List (Nat × Value)} {st : List Value} {M M1 : Mem} {l0 : Nat} {l1 : Int32} {l2 : Int32} {x : Int32} (e : f_L_answers l0 l1 l2 M = some (.inl x, M1)) (hd : decode cc pc = .ok (.invokestatic 164, 3)) (hcat : (st.map fun v => v.category).sum ≤ 8) (hR : 9 + 1 ≤ fr ∧ 8 + (8 + 11) + 164 ≤ lo) (k : V G (RL, cc, ret, fr, lo, nL, mn, hh) B (pc + 3) ls (.int x :: st) M1) : V G (RL, cc, ret, fr, lo, nL, mn, hh) B pc ls (.int l2 :: .int l1 :: .ref l0 :: st) M := v_callSi (As := [.ref l0, .int l1, .int l2]) (k_L_answers e) wd_L_164 hd rfl rfl hcat hR k
theorem cx_L_164 {G : Gl} {ρ0 : Nat → Nat} {M0 : Mem} {cc : ByteArray} {ret : Option FieldType} {fr lo nL : Nat} {mn : String} {pc : Nat} {ls : List (Nat × Value)} {st : List Value} {M M1 : Mem} {l0 : Nat} {l1 : Int32} {l2 : Int32} {e9 : Nat} (e : f_L_answers l0 l1 l2 M = some (.inr e9, M1)) (hd : decode cc pc = .ok (.invokestatic 164, 3)) (hcat : (st.map fun v => v.category).sum ≤ 8) (hR : 9 + 1 ≤ fr ∧ 8 + (8 + 11) + 164 ≤ lo) : V G (RL, cc, ret, fr, lo, nL, mn, []) (ρ0, M0, Sum.inr e9, M1) pc ls (.int l2 :: .int l1 :: .ref l0 :: st) M := v_callSx (As := [.ref l0, .int l1, .int l2]) (k_L_answers e) wd_L_164 hd rfl rfl hcat hR
set_option maxHeartbeats 4000000 in
set_option maxRecDepth 100000 in
theorem w_L_setWill {G : Gl} {ρ0 : Nat → Nat} {M0 MF : Mem} {r : Int32} (l0 : Nat) (l1 : Int32) (l2 : Int32) (l3 : Int32) (l4 : Int32) (M : Mem) (h : f_L_setWill l0 l1 l2 l3 l4 M = some (r, MF)) : V G (RL, cL_setWill, (some .int), 9, 160, 6, "setWill", [((0 : Nat), (9 : Nat), (10 : Nat), (47 : Nat)), ((0 : Nat), (9 : Nat), (14 : Nat), (20 : Nat)), ((0 : Nat), (9 : Nat), (19 : Nat), (22 : Nat))]) (ρ0, M0, cvI r, MF) 0 [(0, .ref l0), (1, .int l1), (2, .int l2), (3, .int l3), (4, .int l4)] [] M := by
  unfold f_L_setWill at h
  refine v_aload_n dL_setWill_0 rfl 0 rfl ?_
  refine v_iload_n dL_setWill_1 rfl 1 rfl ?_
  refine v_iload_n dL_setWill_2 rfl 2 rfl ?_
  refine v_iload_n dL_setWill_3 rfl 3 rfl ?_
  refine v_iload dL_setWill_4 4 rfl ?_
  rcases bindH_some h with ⟨v2, M1, e, h⟩ | ⟨e9, M1, e, h⟩
  · refine ca_L_109 e dL_setWill_6 (Nat.le_of_ble_eq_true rfl) (by decide) ?_
    cases h
    exact v_ireturn dL_setWill_9
  · rcases Decidable.em (e9 = 3) with c9 | c9
    · subst c9
      replace h := ifP rfl h
      refine v_catch (e := 3) (hpc := 10) (ls' := [(0, .ref l0), (1, .int l1), (2, .int l2), (3, .int l3), (4, .int l4)]) (As := [.int l1, .int l2, .int l3, .int l4]) (k_X11_setWill e) wd_L_109 clX11 (kd_X11_setWill e) dL_setWill_6 rfl rfl (Nat.le_of_ble_eq_true rfl) (by decide) [] (0, 9, 10, 47) [(0, 9, 14, 20), (0, 9, 19, 22)] rfl (by decide) rfl (by decide) (fun _ hz => nomatch hz) lcw_47 lca_3 dL_setWill_10 (by decide) rfl ?_
      refine v_iconst (v := (-1)) dL_setWill_12 ci_m1 ?_
      cases h
      exact v_ireturn dL_setWill_13
    replace h := ifN c9 h
    rcases Decidable.em (e9 = 1) with c9 | c9
    · subst c9
      replace h := ifP rfl h
      refine v_catch (e := 1) (hpc := 14) (ls' := [(0, .ref l0), (1, .int l1), (2, .int l2), (3, .int l3), (4, .int l4)]) (As := [.int l1, .int l2, .int l3, .int l4]) (k_X11_setWill e) wd_L_109 clX11 (kd_X11_setWill e) dL_setWill_6 rfl rfl (Nat.le_of_ble_eq_true rfl) (by decide) [(0, 9, 10, 47)] (0, 9, 14, 20) [(0, 9, 19, 22)] rfl (by decide) rfl (by decide) (hp_1_47 rfl) lcw_20 lca_1 dL_setWill_14 (by decide) rfl ?_
      refine v_bipush (v := (-2)) dL_setWill_16 cb_m2 ?_
      cases h
      exact v_ireturn dL_setWill_18
    replace h := ifN c9 h
    rcases Decidable.em (e9 = 2) with c9 | c9
    · subst c9
      replace h := ifP rfl h
      refine v_catch (e := 2) (hpc := 19) (ls' := [(0, .ref l0), (1, .int l1), (2, .int l2), (3, .int l3), (4, .int l4)]) (As := [.int l1, .int l2, .int l3, .int l4]) (k_X11_setWill e) wd_L_109 clX11 (kd_X11_setWill e) dL_setWill_6 rfl rfl (Nat.le_of_ble_eq_true rfl) (by decide) [(0, 9, 10, 47), (0, 9, 14, 20)] (0, 9, 19, 22) [] rfl (by decide) rfl (by decide) (hp_2_47_20 rfl) lcw_22 lca_2 dL_setWill_19 (by decide) rfl ?_
      refine v_bipush (v := (-3)) dL_setWill_21 cb_m3 ?_
      cases h
      exact v_ireturn dL_setWill_23
    replace h := ifN c9 h
    cases h
theorem k_L_setWill {G : Gl} {l0 : Nat} {l1 : Int32} {l2 : Int32} {l3 : Int32} {l4 : Int32} {M MF : Mem} {r : Int32} (h : f_L_setWill l0 l1 l2 l3 l4 M = some (r, MF)) : CtrW G yL_setWill cL_setWill 6 (some .int) [((0 : Nat), (9 : Nat), (10 : Nat), (47 : Nat)), ((0 : Nat), (9 : Nat), (14 : Nat), (20 : Nat)), ((0 : Nat), (9 : Nat), (19 : Nat), (22 : Nat))] 9 160 [.ref l0, .int l1, .int l2, .int l3, .int l4] M (cvI r) MF :=
  ctrW_of (by decide +kernel) (Nat.le_of_ble_eq_true rfl) (fun ρ => w_L_setWill l0 l1 l2 l3 l4 M h)
theorem wd_L_170 : wdW RL 170 yL_setWill cL_setWill 6 (some .int) [((0 : Nat), (9 : Nat), (10 : Nat), (47 : Nat)), ((0 : Nat), (9 : Nat), (14 : Nat), (20 : Nat)), ((0 : Nat), (9 : Nat), (19 : Nat), (22 : Nat))] 5 := ⟨gwi 978 (by decide +kernel) (by decide +kernel), gwi 979 (by decide +kernel) (by decide +kernel), gwi 26 (by decide +kernel) (by decide +kernel), gwi 980 (by decide +kernel) (by decide +kernel), ⟨by decide +kernel, by decide +kernel, by decide +kernel⟩⟩
theorem ca_L_170 {G : Gl} {B : Bx} {cc : ByteArray} {ret : Option FieldType} {fr lo nL : Nat} {mn : String} {hh : List (Nat × Nat × Nat × Nat)} {pc : Nat} {ls : List (Nat × Value)} {st : List Value} {M M1 : Mem} {l0 : Nat} {l1 : Int32} {l2 : Int32} {l3 : Int32} {l4 : Int32} {x : Int32} (e : f_L_setWill l0 l1 l2 l3 l4 M = some (x, M1)) (hd : decode cc pc = .ok (.invokestatic 170, 3)) (hcat : (st.map fun v => v.category).sum ≤ 8) (hR : 9 + 1 ≤ fr ∧ 8 + (6 + 11) + 160 ≤ lo) (k : V G (RL, cc, ret, fr, lo, nL, mn, hh) B (pc + 3) ls (.int x :: st) M1) : V G (RL, cc, ret, fr, lo, nL, mn, hh) B pc ls (.int l4 :: .int l3 :: .int l2 :: .int l1 :: .ref l0 :: st) M := v_callWi (As := [.ref l0, .int l1, .int l2, .int l3, .int l4]) (k_L_setWill e) wd_L_170 hd rfl rfl hcat hR k
set_option maxHeartbeats 4000000 in
set_option maxRecDepth 100000 in
theorem w_L_audience {G : Gl} {ρ0 : Nat → Nat} {M0 MF : Mem} {r : Int32} (l0 : Nat) (l1 : Int32) (M : Mem) (h : f_L_audience l0 l1 M = some (r, MF)) : V G (RL, cL_audience, (some .int), 9, 155, 3, "audience", [((0 : Nat), (5 : Nat), (6 : Nat), (47 : Nat)), ((0 : Nat), (5 : Nat), (9 : Nat), (20 : Nat))]) (ρ0, M0, cvI r, MF) 0 [(0, .ref l0), (1, .int l1)] [] M := by
  unfold f_L_audience at h
  refine v_aload_n dL_audience_0 rfl 0 rfl ?_
  refine v_iload_n dL_audience_1 rfl 1 rfl ?_
  rcases bindH_some h with ⟨v2, M1, e, h⟩ | ⟨e9, M1, e, h⟩
  · refine ca_L_53 e dL_audience_2 (Nat.le_of_ble_eq_true rfl) (by decide) ?_
    cases h
    exact v_ireturn dL_audience_5
  · rcases Decidable.em (e9 = 3) with c9 | c9
    · subst c9
      replace h := ifP rfl h
      refine v_catch_n (e := 3) (hpc := 6) (ls' := [(0, .ref l0), (1, .int l1)]) (As := [.int l1]) (k_X11_audience e) wd_L_53 clX11 (kd_X11_audience e) dL_audience_2 rfl rfl (Nat.le_of_ble_eq_true rfl) (by decide) [] (0, 5, 6, 47) [(0, 5, 9, 20)] rfl (by decide) rfl (by decide) (fun _ hz => nomatch hz) lcw_47 lca_3 dL_audience_6 rfl (by decide) rfl ?_
      refine v_iconst (v := (-1)) dL_audience_7 ci_m1 ?_
      cases h
      exact v_ireturn dL_audience_8
    replace h := ifN c9 h
    rcases Decidable.em (e9 = 1) with c9 | c9
    · subst c9
      replace h := ifP rfl h
      refine v_catch_n (e := 1) (hpc := 9) (ls' := [(0, .ref l0), (1, .int l1)]) (As := [.int l1]) (k_X11_audience e) wd_L_53 clX11 (kd_X11_audience e) dL_audience_2 rfl rfl (Nat.le_of_ble_eq_true rfl) (by decide) [(0, 5, 6, 47)] (0, 5, 9, 20) [] rfl (by decide) rfl (by decide) (hp_1_47 rfl) lcw_20 lca_1 dL_audience_9 rfl (by decide) rfl ?_
      refine v_bipush (v := (-2)) dL_audience_10 cb_m2 ?_
      cases h
      exact v_ireturn dL_audience_12
    replace h := ifN c9 h
    cases h
theorem k_L_audience {G : Gl} {l0 : Nat} {l1 : Int32} {M MF : Mem} {r : Int32} (h : f_L_audience l0 l1 M = some (r, MF)) : CtrW G yL_audience cL_audience 3 (some .int) [((0 : Nat), (5 : Nat), (6 : Nat), (47 : Nat)), ((0 : Nat), (5 : Nat), (9 : Nat), (20 : Nat))] 9 155 [.ref l0, .int l1] M (cvI r) MF :=
  ctrW_of (by decide +kernel) (Nat.le_of_ble_eq_true rfl) (fun ρ => w_L_audience l0 l1 M h)
theorem wd_L_195 : wdW RL 195 yL_audience cL_audience 3 (some .int) [((0 : Nat), (5 : Nat), (6 : Nat), (47 : Nat)), ((0 : Nat), (5 : Nat), (9 : Nat), (20 : Nat))] 2 := ⟨gwi 1011 (by decide +kernel) (by decide +kernel), gwi 1012 (by decide +kernel) (by decide +kernel), gwi 26 (by decide +kernel) (by decide +kernel), gwi 1013 (by decide +kernel) (by decide +kernel), ⟨by decide +kernel, by decide +kernel, by decide +kernel⟩⟩
theorem ca_L_195 {G : Gl} {B : Bx} {cc : ByteArray} {ret : Option FieldType} {fr lo nL : Nat} {mn : String} {hh : List (Nat × Nat × Nat × Nat)} {pc : Nat} {ls : List (Nat × Value)} {st : List Value} {M M1 : Mem} {l0 : Nat} {l1 : Int32} {x : Int32} (e : f_L_audience l0 l1 M = some (x, M1)) (hd : decode cc pc = .ok (.invokestatic 195, 3)) (hcat : (st.map fun v => v.category).sum ≤ 8) (hR : 9 + 1 ≤ fr ∧ 8 + (3 + 11) + 155 ≤ lo) (k : V G (RL, cc, ret, fr, lo, nL, mn, hh) B (pc + 3) ls (.int x :: st) M1) : V G (RL, cc, ret, fr, lo, nL, mn, hh) B pc ls (.int l1 :: .ref l0 :: st) M := v_callWi (As := [.ref l0, .int l1]) (k_L_audience e) wd_L_195 hd rfl rfl hcat hR k
set_option maxHeartbeats 4000000 in
set_option maxRecDepth 100000 in
theorem w_L_publish {G : Gl} {ρ0 : Nat → Nat} {M0 MF : Mem} {r : Int32} (l0 : Nat) (l1 : Int32) (l2 : Int32) (l3 : Int32) (l4 : Int32) (l5 : Int32) (M : Mem) (h : f_L_publish l0 l1 l2 l3 l4 l5 M = some (r, MF)) : V G (RL, cL_publish, (some .int), 9, 161, 7, "publish", [((0 : Nat), (11 : Nat), (12 : Nat), (47 : Nat)), ((0 : Nat), (11 : Nat), (16 : Nat), (20 : Nat)), ((0 : Nat), (11 : Nat), (21 : Nat), (22 : Nat))]) (ρ0, M0, cvI r, MF) 0 [(0, .ref l0), (1, .int l1), (2, .int l2), (3, .int l3), (4, .int l4), (5, .int l5)] [] M := by
  unfold f_L_publish at h
  refine v_aload_n dL_publish_0 rfl 0 rfl ?_
  refine v_iload_n dL_publish_1 rfl 1 rfl ?_
  refine v_iload_n dL_publish_2 rfl 2 rfl ?_
  refine v_iload_n dL_publish_3 rfl 3 rfl ?_
  refine v_iload dL_publish_4 4 rfl ?_
  refine v_iload dL_publish_6 5 rfl ?_
  rcases bindH_some h with ⟨v2, M1, e, h⟩ | ⟨e9, M1, e, h⟩
  · refine ca_L_49 e dL_publish_8 (Nat.le_of_ble_eq_true rfl) (by decide) ?_
    cases h
    exact v_ireturn dL_publish_11
  · rcases Decidable.em (e9 = 3) with c9 | c9
    · subst c9
      replace h := ifP rfl h
      refine v_catch (e := 3) (hpc := 12) (ls' := [(0, .ref l0), (1, .int l1), (2, .int l2), (3, .int l3), (4, .int l4), (5, .int l5)]) (As := [.int l1, .int l2, .int l3, .int l4, .int l5]) (k_X11_publish e) wd_L_49 clX11 (kd_X11_publish e) dL_publish_8 rfl rfl (Nat.le_of_ble_eq_true rfl) (by decide) [] (0, 11, 12, 47) [(0, 11, 16, 20), (0, 11, 21, 22)] rfl (by decide) rfl (by decide) (fun _ hz => nomatch hz) lcw_47 lca_3 dL_publish_12 (by decide) rfl ?_
      refine v_iconst (v := (-1)) dL_publish_14 ci_m1 ?_
      cases h
      exact v_ireturn dL_publish_15
    replace h := ifN c9 h
    rcases Decidable.em (e9 = 1) with c9 | c9
    · subst c9
      replace h := ifP rfl h
      refine v_catch (e := 1) (hpc := 16) (ls' := [(0, .ref l0), (1, .int l1), (2, .int l2), (3, .int l3), (4, .int l4), (5, .int l5)]) (As := [.int l1, .int l2, .int l3, .int l4, .int l5]) (k_X11_publish e) wd_L_49 clX11 (kd_X11_publish e) dL_publish_8 rfl rfl (Nat.le_of_ble_eq_true rfl) (by decide) [(0, 11, 12, 47)] (0, 11, 16, 20) [(0, 11, 21, 22)] rfl (by decide) rfl (by decide) (hp_1_47 rfl) lcw_20 lca_1 dL_publish_16 (by decide) rfl ?_
      refine v_bipush (v := (-2)) dL_publish_18 cb_m2 ?_
      cases h
      exact v_ireturn dL_publish_20
    replace h := ifN c9 h
    rcases Decidable.em (e9 = 2) with c9 | c9
    · subst c9
      replace h := ifP rfl h
      refine v_catch (e := 2) (hpc := 21) (ls' := [(0, .ref l0), (1, .int l1), (2, .int l2), (3, .int l3), (4, .int l4), (5, .int l5)]) (As := [.int l1, .int l2, .int l3, .int l4, .int l5]) (k_X11_publish e) wd_L_49 clX11 (kd_X11_publish e) dL_publish_8 rfl rfl (Nat.le_of_ble_eq_true rfl) (by decide) [(0, 11, 12, 47), (0, 11, 16, 20)] (0, 11, 21, 22) [] rfl (by decide) rfl (by decide) (hp_2_47_20 rfl) lcw_22 lca_2 dL_publish_21 (by decide) rfl ?_
      refine v_bipush (v := (-3)) dL_publish_23 cb_m3 ?_
      cases h
      exact v_ireturn dL_publish_25
    replace h := ifN c9 h
    cases h
theorem k_L_publish {G : Gl} {l0 : Nat} {l1 : Int32} {l2 : Int32} {l3 : Int32} {l4 : Int32} {l5 : Int32} {M MF : Mem} {r : Int32} (h : f_L_publish l0 l1 l2 l3 l4 l5 M = some (r, MF)) : CtrW G yL_publish cL_publish 7 (some .int) [((0 : Nat), (11 : Nat), (12 : Nat), (47 : Nat)), ((0 : Nat), (11 : Nat), (16 : Nat), (20 : Nat)), ((0 : Nat), (11 : Nat), (21 : Nat), (22 : Nat))] 9 161 [.ref l0, .int l1, .int l2, .int l3, .int l4, .int l5] M (cvI r) MF :=
  ctrW_of (by decide +kernel) (Nat.le_of_ble_eq_true rfl) (fun ρ => w_L_publish l0 l1 l2 l3 l4 l5 M h)
theorem wd_L_73 : wdW RL 73 yL_publish cL_publish 7 (some .int) [((0 : Nat), (11 : Nat), (12 : Nat), (47 : Nat)), ((0 : Nat), (11 : Nat), (16 : Nat), (20 : Nat)), ((0 : Nat), (11 : Nat), (21 : Nat), (22 : Nat))] 6 := ⟨gwi 1025 (by decide +kernel) (by decide +kernel), gwi 1026 (by decide +kernel) (by decide +kernel), gwi 26 (by decide +kernel) (by decide +kernel), gwi 1027 (by decide +kernel) (by decide +kernel), ⟨by decide +kernel, by decide +kernel, by decide +kernel⟩⟩
theorem ca_L_73 {G : Gl} {B : Bx} {cc : ByteArray} {ret : Option FieldType} {fr lo nL : Nat} {mn : String} {hh : List (Nat × Nat × Nat × Nat)} {pc : Nat} {ls : List (Nat × Value)} {st : List Value} {M M1 : Mem} {l0 : Nat} {l1 : Int32} {l2 : Int32} {l3 : Int32} {l4 : Int32} {l5 : Int32} {x : Int32} (e : f_L_publish l0 l1 l2 l3 l4 l5 M = some (x, M1)) (hd : decode cc pc = .ok (.invokestatic 73, 3)) (hcat : (st.map fun v => v.category).sum ≤ 8) (hR : 9 + 1 ≤ fr ∧ 8 + (7 + 11) + 161 ≤ lo) (k : V G (RL, cc, ret, fr, lo, nL, mn, hh) B (pc + 3) ls (.int x :: st) M1) : V G (RL, cc, ret, fr, lo, nL, mn, hh) B pc ls (.int l5 :: .int l4 :: .int l3 :: .int l2 :: .int l1 :: .ref l0 :: st) M := v_callWi (As := [.ref l0, .int l1, .int l2, .int l3, .int l4, .int l5]) (k_L_publish e) wd_L_73 hd rfl rfl hcat hR k
set_option maxHeartbeats 4000000 in
set_option maxRecDepth 100000 in
theorem w_L_send {G : Gl} {ρ0 : Nat → Nat} {M0 MF : Mem} {r : Int32} (l0 : Nat) (l1 : Nat) (l2 : Int32) (l3 : Int32) (l4 : Int32) (l5 : Int32) (l6 : Int32) (M : Mem) (h : f_L_send l0 l1 l2 l3 l4 l5 l6 M = some (r, MF)) : V G (RL, cL_send, (some .int), 10, 187, 7, "send", []) (ρ0, M0, cvI r, MF) 0 [(0, .ref l0), (1, .ref l1), (2, .int l2), (3, .int l3), (4, .int l4), (5, .int l5), (6, .int l6)] [] M := by
  unfold f_L_send at h
  refine v_aload_n dL_send_0 rfl 0 rfl ?_
  refine v_aload_n dL_send_1 rfl 1 rfl ?_
  obtain ⟨v2, M1, e, h⟩ := bindP_some h
  refine ca_L_66 e dL_send_2 (Nat.le_of_ble_eq_true rfl) (by decide) ?_
  refine v_if_eq (tgt := 23) dL_send_5 (by decide) (fun c5 => ?_) (fun c5 => ?_)
  · replace h := ifP c5 h
    refine v_bipush (v := (-7)) dL_send_23 cb_m7 ?_
    cases h
    exact v_ireturn dL_send_25
  · replace h := ifN c5 h
    refine v_aload_n dL_send_8 rfl 0 rfl ?_
    refine v_iload_n dL_send_9 rfl 2 rfl ?_
    refine v_iload_n dL_send_10 rfl 3 rfl ?_
    refine v_iload dL_send_11 4 rfl ?_
    refine v_iload dL_send_13 5 rfl ?_
    refine v_iload dL_send_15 6 rfl ?_
    obtain ⟨v4, M3, e, h⟩ := bindP_some h
    refine ca_L_73 e dL_send_17 (Nat.le_of_ble_eq_true rfl) (by decide) ?_
    refine v_goto (tgt := 25) dL_send_20 (by decide) ?_
    cases h
    exact v_ireturn dL_send_25
theorem k_L_send {G : Gl} {l0 : Nat} {l1 : Nat} {l2 : Int32} {l3 : Int32} {l4 : Int32} {l5 : Int32} {l6 : Int32} {M MF : Mem} {r : Int32} (h : f_L_send l0 l1 l2 l3 l4 l5 l6 M = some (r, MF)) : CtrP G yL_send cL_send 7 (some .int) 10 187 [.ref l0, .ref l1, .int l2, .int l3, .int l4, .int l5, .int l6] M (cvI r) MF :=
  ctr_of (by decide +kernel) (Nat.le_of_ble_eq_true rfl) (fun ρ => w_L_send l0 l1 l2 l3 l4 l5 l6 M h)
theorem wd_L_197 : wdT RL 197 yL_send cL_send 7 (some .int) 7 := ⟨gwi 1022 (by decide +kernel) (by decide +kernel), gwi 1023 (by decide +kernel) (by decide +kernel), nw_L, gwi 1024 (by decide +kernel) (by decide +kernel), ⟨by decide +kernel, by decide +kernel, by decide +kernel⟩⟩
theorem ca_L_197 {G : Gl} {B : Bx} {cc : ByteArray} {ret : Option FieldType} {fr lo nL : Nat} {mn : String} {hh : List (Nat × Nat × Nat × Nat)} {pc : Nat} {ls : List (Nat × Value)} {st : List Value} {M M1 : Mem} {l0 : Nat} {l1 : Nat} {l2 : Int32} {l3 : Int32} {l4 : Int32} {l5 : Int32} {l6 : Int32} {x : Int32} (e : f_L_send l0 l1 l2 l3 l4 l5 l6 M = some (x, M1)) (hd : decode cc pc = .ok (.invokestatic 197, 3)) (hcat : (st.map fun v => v.category).sum ≤ 8) (hR : 10 + 1 ≤ fr ∧ 8 + (7 + 11) + 187 ≤ lo) (k : V G (RL, cc, ret, fr, lo, nL, mn, hh) B (pc + 3) ls (.int x :: st) M1) : V G (RL, cc, ret, fr, lo, nL, mn, hh) B pc ls (.int l6 :: .int l5 :: .int l4 :: .int l3 :: .int l2 :: .ref l1 :: .ref l0 :: st) M := v_callSi (As := [.ref l0, .ref l1, .int l2, .int l3, .int l4, .int l5, .int l6]) (k_L_send e) wd_L_197 hd rfl rfl hcat hR k
set_option maxHeartbeats 4000000 in
set_option maxRecDepth 100000 in
theorem w_L_release {G : Gl} {ρ0 : Nat → Nat} {M0 MF : Mem} {r : Int32} (l0 : Nat) (l1 : Int32) (l2 : Int32) (M : Mem) (h : f_L_release l0 l1 l2 M = some (r, MF)) : V G (RL, cL_release, (some .int), 8, 135, 4, "release", [((0 : Nat), (6 : Nat), (7 : Nat), (47 : Nat)), ((0 : Nat), (6 : Nat), (10 : Nat), (20 : Nat)), ((0 : Nat), (6 : Nat), (14 : Nat), (22 : Nat))]) (ρ0, M0, cvI r, MF) 0 [(0, .ref l0), (1, .int l1), (2, .int l2)] [] M := by
  unfold f_L_release at h
  refine v_aload_n dL_release_0 rfl 0 rfl ?_
  refine v_iload_n dL_release_1 rfl 1 rfl ?_
  refine v_iload_n dL_release_2 rfl 2 rfl ?_
  rcases bindH_some h with ⟨v2, M1, e, h⟩ | ⟨e9, M1, e, h⟩
  · refine ca_L_113 e dL_release_3 (Nat.le_of_ble_eq_true rfl) (by decide) ?_
    cases h
    exact v_ireturn dL_release_6
  · rcases Decidable.em (e9 = 3) with c9 | c9
    · subst c9
      replace h := ifP rfl h
      refine v_catch_n (e := 3) (hpc := 7) (ls' := [(0, .ref l0), (1, .int l1), (2, .int l2)]) (As := [.int l1, .int l2]) (k_X11_release e) wd_L_113 clX11 (kd_X11_release e) dL_release_3 rfl rfl (Nat.le_of_ble_eq_true rfl) (by decide) [] (0, 6, 7, 47) [(0, 6, 10, 20), (0, 6, 14, 22)] rfl (by decide) rfl (by decide) (fun _ hz => nomatch hz) lcw_47 lca_3 dL_release_7 rfl (by decide) rfl ?_
      refine v_iconst (v := (-1)) dL_release_8 ci_m1 ?_
      cases h
      exact v_ireturn dL_release_9
    replace h := ifN c9 h
    rcases Decidable.em (e9 = 1) with c9 | c9
    · subst c9
      replace h := ifP rfl h
      refine v_catch_n (e := 1) (hpc := 10) (ls' := [(0, .ref l0), (1, .int l1), (2, .int l2)]) (As := [.int l1, .int l2]) (k_X11_release e) wd_L_113 clX11 (kd_X11_release e) dL_release_3 rfl rfl (Nat.le_of_ble_eq_true rfl) (by decide) [(0, 6, 7, 47)] (0, 6, 10, 20) [(0, 6, 14, 22)] rfl (by decide) rfl (by decide) (hp_1_47 rfl) lcw_20 lca_1 dL_release_10 rfl (by decide) rfl ?_
      refine v_bipush (v := (-2)) dL_release_11 cb_m2 ?_
      cases h
      exact v_ireturn dL_release_13
    replace h := ifN c9 h
    rcases Decidable.em (e9 = 2) with c9 | c9
    · subst c9
      replace h := ifP rfl h
      refine v_catch_n (e := 2) (hpc := 14) (ls' := [(0, .ref l0), (1, .int l1), (2, .int l2)]) (As := [.int l1, .int l2]) (k_X11_release e) wd_L_113 clX11 (kd_X11_release e) dL_release_3 rfl rfl (Nat.le_of_ble_eq_true rfl) (by decide) [(0, 6, 7, 47), (0, 6, 10, 20)] (0, 6, 14, 22) [] rfl (by decide) rfl (by decide) (hp_2_47_20 rfl) lcw_22 lca_2 dL_release_14 rfl (by decide) rfl ?_
      refine v_bipush (v := (-3)) dL_release_15 cb_m3 ?_
      cases h
      exact v_ireturn dL_release_17
    replace h := ifN c9 h
    cases h
theorem k_L_release {G : Gl} {l0 : Nat} {l1 : Int32} {l2 : Int32} {M MF : Mem} {r : Int32} (h : f_L_release l0 l1 l2 M = some (r, MF)) : CtrW G yL_release cL_release 4 (some .int) [((0 : Nat), (6 : Nat), (7 : Nat), (47 : Nat)), ((0 : Nat), (6 : Nat), (10 : Nat), (20 : Nat)), ((0 : Nat), (6 : Nat), (14 : Nat), (22 : Nat))] 8 135 [.ref l0, .int l1, .int l2] M (cvI r) MF :=
  ctrW_of (by decide +kernel) (Nat.le_of_ble_eq_true rfl) (fun ρ => w_L_release l0 l1 l2 M h)
theorem wd_L_201 : wdW RL 201 yL_release cL_release 4 (some .int) [((0 : Nat), (6 : Nat), (7 : Nat), (47 : Nat)), ((0 : Nat), (6 : Nat), (10 : Nat), (20 : Nat)), ((0 : Nat), (6 : Nat), (14 : Nat), (22 : Nat))] 3 := ⟨gwi 1042 (by decide +kernel) (by decide +kernel), gwi 1043 (by decide +kernel) (by decide +kernel), gwi 26 (by decide +kernel) (by decide +kernel), gwi 1044 (by decide +kernel) (by decide +kernel), ⟨by decide +kernel, by decide +kernel, by decide +kernel⟩⟩
theorem ca_L_201 {G : Gl} {B : Bx} {cc : ByteArray} {ret : Option FieldType} {fr lo nL : Nat} {mn : String} {hh : List (Nat × Nat × Nat × Nat)} {pc : Nat} {ls : List (Nat × Value)} {st : List Value} {M M1 : Mem} {l0 : Nat} {l1 : Int32} {l2 : Int32} {x : Int32} (e : f_L_release l0 l1 l2 M = some (x, M1)) (hd : decode cc pc = .ok (.invokestatic 201, 3)) (hcat : (st.map fun v => v.category).sum ≤ 8) (hR : 8 + 1 ≤ fr ∧ 8 + (4 + 11) + 135 ≤ lo) (k : V G (RL, cc, ret, fr, lo, nL, mn, hh) B (pc + 3) ls (.int x :: st) M1) : V G (RL, cc, ret, fr, lo, nL, mn, hh) B pc ls (.int l2 :: .int l1 :: .ref l0 :: st) M := v_callWi (As := [.ref l0, .int l1, .int l2]) (k_L_release e) wd_L_201 hd rfl rfl hcat hR k
set_option maxHeartbeats 4000000 in
set_option maxRecDepth 100000 in
theorem w_L_receive {G : Gl} {ρ0 : Nat → Nat} {M0 MF : Mem} {r : Int32} (l0 : Nat) (l1 : Int32) (M : Mem) (h : f_L_receive l0 l1 M = some (r, MF)) : V G (RL, cL_receive, (some .int), 8, 132, 3, "receive", [((0 : Nat), (5 : Nat), (6 : Nat), (47 : Nat)), ((0 : Nat), (5 : Nat), (10 : Nat), (22 : Nat))]) (ρ0, M0, cvI r, MF) 0 [(0, .ref l0), (1, .int l1)] [] M := by
  unfold f_L_receive at h
  refine v_aload_n dL_receive_0 rfl 0 rfl ?_
  refine v_iload_n dL_receive_1 rfl 1 rfl ?_
  rcases bindH_some h with ⟨v2, M1, e, h⟩ | ⟨e9, M1, e, h⟩
  · refine ca_L_60 e dL_receive_2 (Nat.le_of_ble_eq_true rfl) (by decide) ?_
    cases h
    exact v_ireturn dL_receive_5
  · rcases Decidable.em (e9 = 3) with c9 | c9
    · subst c9
      replace h := ifP rfl h
      refine v_catch_n (e := 3) (hpc := 6) (ls' := [(0, .ref l0), (1, .int l1)]) (As := [.int l1]) (k_X11_receive e) wd_L_60 clX11 (kd_X11_receive e) dL_receive_2 rfl rfl (Nat.le_of_ble_eq_true rfl) (by decide) [] (0, 5, 6, 47) [(0, 5, 10, 22)] rfl (by decide) rfl (by decide) (fun _ hz => nomatch hz) lcw_47 lca_3 dL_receive_6 rfl (by decide) rfl ?_
      refine v_bipush (v := (-8)) dL_receive_7 cb_m8 ?_
      cases h
      exact v_ireturn dL_receive_9
    replace h := ifN c9 h
    rcases Decidable.em (e9 = 2) with c9 | c9
    · subst c9
      replace h := ifP rfl h
      refine v_catch_n (e := 2) (hpc := 10) (ls' := [(0, .ref l0), (1, .int l1)]) (As := [.int l1]) (k_X11_receive e) wd_L_60 clX11 (kd_X11_receive e) dL_receive_2 rfl rfl (Nat.le_of_ble_eq_true rfl) (by decide) [(0, 5, 6, 47)] (0, 5, 10, 22) [] rfl (by decide) rfl (by decide) (hp_2_47 rfl) lcw_22 lca_2 dL_receive_10 rfl (by decide) rfl ?_
      refine v_bipush (v := (-9)) dL_receive_11 cb_m9 ?_
      cases h
      exact v_ireturn dL_receive_13
    replace h := ifN c9 h
    cases h
theorem k_L_receive {G : Gl} {l0 : Nat} {l1 : Int32} {M MF : Mem} {r : Int32} (h : f_L_receive l0 l1 M = some (r, MF)) : CtrW G yL_receive cL_receive 3 (some .int) [((0 : Nat), (5 : Nat), (6 : Nat), (47 : Nat)), ((0 : Nat), (5 : Nat), (10 : Nat), (22 : Nat))] 8 132 [.ref l0, .int l1] M (cvI r) MF :=
  ctrW_of (by decide +kernel) (Nat.le_of_ble_eq_true rfl) (fun ρ => w_L_receive l0 l1 M h)
theorem wd_L_76 : wdW RL 76 yL_receive cL_receive 3 (some .int) [((0 : Nat), (5 : Nat), (6 : Nat), (47 : Nat)), ((0 : Nat), (5 : Nat), (10 : Nat), (22 : Nat))] 2 := ⟨gwi 1090 (by decide +kernel) (by decide +kernel), gwi 1091 (by decide +kernel) (by decide +kernel), gwi 26 (by decide +kernel) (by decide +kernel), gwi 1092 (by decide +kernel) (by decide +kernel), ⟨by decide +kernel, by decide +kernel, by decide +kernel⟩⟩
theorem ca_L_76 {G : Gl} {B : Bx} {cc : ByteArray} {ret : Option FieldType} {fr lo nL : Nat} {mn : String} {hh : List (Nat × Nat × Nat × Nat)} {pc : Nat} {ls : List (Nat × Value)} {st : List Value} {M M1 : Mem} {l0 : Nat} {l1 : Int32} {x : Int32} (e : f_L_receive l0 l1 M = some (x, M1)) (hd : decode cc pc = .ok (.invokestatic 76, 3)) (hcat : (st.map fun v => v.category).sum ≤ 8) (hR : 8 + 1 ≤ fr ∧ 8 + (3 + 11) + 132 ≤ lo) (k : V G (RL, cc, ret, fr, lo, nL, mn, hh) B (pc + 3) ls (.int x :: st) M1) : V G (RL, cc, ret, fr, lo, nL, mn, hh) B pc ls (.int l1 :: .ref l0 :: st) M := v_callWi (As := [.ref l0, .int l1]) (k_L_receive e) wd_L_76 hd rfl rfl hcat hR k
