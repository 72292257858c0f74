set_option maxHeartbeats 4000000 in
set_option maxRecDepth 100000 in
theorem w_X2_add {G : Gl} {ρ0 : Nat → Nat} {M0 MF : Mem} {r : Unit} (l0 : Nat) (l1 : Nat) (M : Mem) (h : f_X2_add l0 l1 M = some MF) : V G (RX2, cX2_add, none, 1, 21, 2, "add", []) (ρ0, M0, cvV r, MF) 0 [(0, .ref l0), (1, .ref l1)] [] M := by
  unfold f_X2_add at h
  replace h := (ifS h).2
  refine v_aload_n dX2_add_0 rfl 0 rfl ?_
  obtain ⟨v1, e, h⟩ := bind_some h
  refine gt_X2_24 e dX2_add_1 ?_
  refine v_if_lt (tgt := 42) dX2_add_4 (by decide) (fun c12 => ?_) (fun c12 => ?_)
  · replace h := ifP c12 h
    cases h
    exact v_vreturn dX2_add_42
  · replace h := ifN c12 h
    refine v_aload_n dX2_add_7 rfl 0 rfl ?_
    obtain ⟨v2, e, h⟩ := bind_some h
    refine gt_X2_24 e dX2_add_8 ?_
    refine v_aload_n dX2_add_11 rfl 0 rfl ?_
    obtain ⟨v3, e, h⟩ := bind_some h
    refine gt_X2_15 e dX2_add_12 ?_
    obtain ⟨v4, e, h⟩ := bind_some h
    refine v_alen dX2_add_15 e ?_
    refine v_icmp_ge (tgt := 42) dX2_add_16 (by decide) (fun c11 => ?_) (fun c11 => ?_)
    · replace h := ifP c11 h
      cases h
      exact v_vreturn dX2_add_42
    · replace h := ifN c11 h
      refine v_aload_n dX2_add_19 rfl 0 rfl ?_
      obtain ⟨v5, e, h⟩ := bind_some h
      refine gt_X2_15 e dX2_add_20 ?_
      refine v_aload_n dX2_add_23 rfl 0 rfl ?_
      obtain ⟨v6, e, h⟩ := bind_some h
      refine gt_X2_24 e dX2_add_24 ?_
      obtain ⟨v7, e, h⟩ := bind_some h
      refine al_1 e dX2_add_27 ?_
      refine v_aload_n dX2_add_28 rfl 1 rfl ?_
      obtain ⟨M8, e, h⟩ := bind_some h
      refine ca_X2_28 e dX2_add_29 (Nat.le_of_ble_eq_true rfl) (by decide) ?_
      refine v_aload_n dX2_add_32 rfl 0 rfl ?_
      refine v_dup dX2_add_33 rfl ?_
      obtain ⟨v9, e, h⟩ := bind_some h
      refine gt_X2_24 e dX2_add_34 ?_
      refine v_iconst (v := 1) dX2_add_37 ci_1 ?_
      refine v_iadd dX2_add_38 ?_
      obtain ⟨M10, e, h⟩ := bind_some h
      refine pt_X2_24 e dX2_add_39 ?_
      cases h
      exact v_vreturn dX2_add_42
theorem kd_X2_add {l0 : Nat} {l1 : Nat} {M : Mem} {z : _} (h : f_X2_add l0 l1 M = some z) : (mK M l0).1 = 2 := by
  unfold f_X2_add at h
  exact (ifS h).1
theorem k_X2_add {G : Gl} {l0 : Nat} {l1 : Nat} {M MF : Mem} (h : f_X2_add l0 l1 M = some MF) : CtrP G yX2_add cX2_add 2 none 1 21 [.ref l0, .ref l1] M (cvV ()) MF :=
  ctr_of (by decide +kernel) (Nat.le_of_ble_eq_true rfl) (fun ρ => w_X2_add (r := ()) l0 l1 M h)
theorem wd_X7_265 : wdV RX7 265 RX2 yX2_add cX2_add 2 none 1 := ⟨gwi 803 (by decide +kernel) (by decide +kernel), gwi 804 (by decide +kernel) (by decide +kernel), gwi 805 (by decide +kernel) (by decide +kernel), nw_X2, gwi 806 (by decide +kernel) (by decide +kernel), ⟨rfl, by decide +kernel, by decide +kernel, by decide +kernel⟩⟩
theorem ca_X7_265 {G : Gl} {B : Bx} {cc : ByteArray} {ret : Option FieldType} {fr lo nL : Nat} {mn : String} {hh : List (Nat × Nat × Nat × Nat)} {pc : Nat} {ls : List (Nat × Value)} {st : List Value} {M M1 : Mem} {l0 : Nat} {l1 : Nat} (e : f_X2_add l0 l1 M = some M1) (hd : decode cc pc = .ok (.invokevirtual 265, 3)) (hcat : (st.map fun v => v.category).sum ≤ 8) (hR : 1 + 1 ≤ fr ∧ 8 + (2 + 11) + 21 ≤ lo) (k : V G (RX7, cc, ret, fr, lo, nL, mn, hh) B (pc + 3) ls (st) M1) : V G (RX7, cc, ret, fr, lo, nL, mn, hh) B pc ls (.ref l1 :: .ref l0 :: st) M := v_callV0 (As := [.ref l1]) (k_X2_add e) wd_X7_265 clX2 (kd_X2_add e) hd rfl rfl hcat hR k
set_option maxHeartbeats 4000000 in
set_option maxRecDepth 100000 in
theorem w_X2_removeAt_L34 {G : Gl} {ρ0 : Nat → Nat} {M0 MF : Mem} {r : Unit} : ∀ (n : Nat) (l0 : Nat) (l2 : Nat) (l3 : Int32) (M : Mem), f_X2_removeAt_L34 n l0 l2 l3 M = some MF → V G (RX2, cX2_removeAt, none, 0, 0, 4, "removeAt", []) (ρ0, M0, cvV r, MF) 34 [(0, .ref l0), (2, .ref l2), (3, .int l3)] [] M := by
  intro n
  induction n with
  | zero => intro l0 l2 l3 M h; cases h
  | succ n ih =>
    intro l0 l2 l3 M h
    rw [f_X2_removeAt_L34] at h
    refine v_iload_n dX2_removeAt_34 rfl 2 rfl ?_
    refine v_iconst (v := 1) dX2_removeAt_35 ci_1 ?_
    refine v_iadd dX2_removeAt_36 ?_
    refine v_aload_n dX2_removeAt_37 rfl 0 rfl ?_
    obtain ⟨v1, e, h⟩ := bind_some h
    refine gt_X2_24 e dX2_removeAt_38 ?_
    refine v_icmp_ge (tgt := 64) dX2_removeAt_41 (by decide) (fun c7 => ?_) (fun c7 => ?_)
    · replace h := ifP c7 h
      refine v_aload_n dX2_removeAt_64 rfl 0 rfl ?_
      obtain ⟨v2, e, h⟩ := bind_some h
      refine gt_X2_15 e dX2_removeAt_65 ?_
      refine v_aload_n dX2_removeAt_68 rfl 0 rfl ?_
      obtain ⟨v3, e, h⟩ := bind_some h
      refine gt_X2_24 e dX2_removeAt_69 ?_
      refine v_iconst (v := 1) dX2_removeAt_72 ci_1 ?_
      refine v_isub dX2_removeAt_73 ?_
      refine v_aload_n dX2_removeAt_74 rfl 1 rfl ?_
      obtain ⟨M4, e, h⟩ := bind_some h
      refine as_1 e dX2_removeAt_75 ?_
      refine v_aload_n dX2_removeAt_76 rfl 0 rfl ?_
      refine v_dup dX2_removeAt_77 rfl ?_
      obtain ⟨v5, e, h⟩ := bind_some h
      refine gt_X2_24 e dX2_removeAt_78 ?_
      refine v_iconst (v := 1) dX2_removeAt_81 ci_1 ?_
      refine v_isub dX2_removeAt_82 ?_
      obtain ⟨M6, e, h⟩ := bind_some h
      refine pt_X2_24 e dX2_removeAt_83 ?_
      cases h
      exact v_vreturn dX2_removeAt_86
    · replace h := ifN c7 h
      refine v_aload_n dX2_removeAt_44 rfl 0 rfl ?_
      obtain ⟨v2, e, h⟩ := bind_some h
      refine gt_X2_15 e dX2_removeAt_45 ?_
      refine v_iload_n dX2_removeAt_48 rfl 2 rfl ?_
      refine v_aload_n dX2_removeAt_49 rfl 0 rfl ?_
      obtain ⟨v3, e, h⟩ := bind_some h
      refine gt_X2_15 e dX2_removeAt_50 ?_
      refine v_iload_n dX2_removeAt_53 rfl 2 rfl ?_
      refine v_iconst (v := 1) dX2_removeAt_54 ci_1 ?_
      refine v_iadd dX2_removeAt_55 ?_
      obtain ⟨v4, e, h⟩ := bind_some h
      refine al_1 e dX2_removeAt_56 ?_
      obtain ⟨M5, e, h⟩ := bind_some h
      refine as_1 e dX2_removeAt_57 ?_
      refine v_iinc (ls' := [(3, .int (l3 + 1)), (0, .ref l0), (2, .ref l2)]) dX2_removeAt_58 2 rfl (v := 1) ci_1 (by decide) rfl ?_
      refine v_goto (tgt := 34) dX2_removeAt_61 (by decide) ?_
      refine v_sub [1, 2, 0] rfl ?_
      exact ih l0 l2 (l3 + 1) M5 h
set_option maxHeartbeats 4000000 in
set_option maxRecDepth 100000 in
theorem w_X2_removeAt {G : Gl} {ρ0 : Nat → Nat} {M0 MF : Mem} {r : Unit} (l0 : Nat) (l1 : Int32) (M : Mem) (h : f_X2_removeAt l0 l1 M = some MF) : V G (RX2, cX2_removeAt, none, 0, 0, 4, "removeAt", []) (ρ0, M0, cvV r, MF) 0 [(0, .ref l0), (1, .int l1)] [] M := by
  unfold f_X2_removeAt at h
  replace h := (ifS h).2
  refine v_iload_n dX2_removeAt_0 rfl 1 rfl ?_
  refine v_if_lt (tgt := 24) dX2_removeAt_1 (by decide) (fun c9 => ?_) (fun c9 => ?_)
  · replace h := ifP c9 h
    cases h
    exact v_vreturn dX2_removeAt_24
  · replace h := ifN c9 h
    refine v_iload_n dX2_removeAt_4 rfl 1 rfl ?_
    refine v_aload_n dX2_removeAt_5 rfl 0 rfl ?_
    obtain ⟨v1, e, h⟩ := bind_some h
    refine gt_X2_24 e dX2_removeAt_6 ?_
    refine v_icmp_ge (tgt := 24) dX2_removeAt_9 (by decide) (fun c8 => ?_) (fun c8 => ?_)
    · replace h := ifP c8 h
      cases h
      exact v_vreturn dX2_removeAt_24
    · replace h := ifN c8 h
      refine v_aload_n dX2_removeAt_12 rfl 0 rfl ?_
      obtain ⟨v2, e, h⟩ := bind_some h
      refine gt_X2_24 e dX2_removeAt_13 ?_
      refine v_aload_n dX2_removeAt_16 rfl 0 rfl ?_
      obtain ⟨v3, e, h⟩ := bind_some h
      refine gt_X2_15 e dX2_removeAt_17 ?_
      obtain ⟨v4, e, h⟩ := bind_some h
      refine v_alen dX2_removeAt_20 e ?_
      refine v_icmp_le (tgt := 25) dX2_removeAt_21 (by decide) (fun c7 => ?_) (fun c7 => ?_)
      · replace h := ifP c7 h
        refine v_aload_n dX2_removeAt_25 rfl 0 rfl ?_
        obtain ⟨v5, e, h⟩ := bind_some h
        refine gt_X2_15 e dX2_removeAt_26 ?_
        refine v_iload_n dX2_removeAt_29 rfl 1 rfl ?_
        obtain ⟨v6, e, h⟩ := bind_some h
        refine al_1 e dX2_removeAt_30 ?_
        refine v_astore_n (ls' := [(2, .ref v6), (0, .ref l0), (1, .int l1)]) dX2_removeAt_31 rfl (by decide) rfl ?_
        refine v_iload_n dX2_removeAt_32 rfl 2 rfl ?_
        refine v_istore_n (ls' := [(3, .int l1), (2, .ref v6), (0, .ref l0), (1, .int l1)]) dX2_removeAt_33 rfl (by decide) rfl ?_
        refine v_sub [2, 1, 0] rfl ?_
        exact w_X2_removeAt_L34 FU l0 v6 l1 M h
      · replace h := ifN c7 h
        cases h
        exact v_vreturn dX2_removeAt_24
theorem kd_X2_removeAt {l0 : Nat} {l1 : Int32} {M : Mem} {z : _} (h : f_X2_removeAt l0 l1 M = some z) : (mK M l0).1 = 2 := by
  unfold f_X2_removeAt at h
  exact (ifS h).1
theorem k_X2_removeAt {G : Gl} {l0 : Nat} {l1 : Int32} {M MF : Mem} (h : f_X2_removeAt l0 l1 M = some MF) : CtrP G yX2_removeAt cX2_removeAt 4 none 0 0 [.ref l0, .int l1] M (cvV ()) MF :=
  ctr_of (by decide +kernel) (Nat.le_of_ble_eq_true rfl) (fun ρ => w_X2_removeAt (r := ()) l0 l1 M h)
theorem wd_X7_262 : wdV RX7 262 RX2 yX2_removeAt cX2_removeAt 4 none 1 := ⟨gwi 819 (by decide +kernel) (by decide +kernel), gwi 820 (by decide +kernel) (by decide +kernel), gwi 821 (by decide +kernel) (by decide +kernel), nw_X2, gwi 822 (by decide +kernel) (by decide +kernel), ⟨rfl, by decide +kernel, by decide +kernel, by decide +kernel⟩⟩
theorem ca_X7_262 {G : Gl} {B : Bx} {cc : ByteArray} {ret : Option FieldType} {fr lo nL : Nat} {mn : String} {hh : List (Nat × Nat × Nat × Nat)} {pc : Nat} {ls : List (Nat × Value)} {st : List Value} {M M1 : Mem} {l0 : Nat} {l1 : Int32} (e : f_X2_removeAt l0 l1 M = some M1) (hd : decode cc pc = .ok (.invokevirtual 262, 3)) (hcat : (st.map fun v => v.category).sum ≤ 8) (hR : 0 + 1 ≤ fr ∧ 8 + (4 + 11) + 0 ≤ lo) (k : V G (RX7, cc, ret, fr, lo, nL, mn, hh) B (pc + 3) ls (st) M1) : V G (RX7, cc, ret, fr, lo, nL, mn, hh) B pc ls (.int l1 :: .ref l0 :: st) M := v_callV0 (As := [.int l1]) (k_X2_removeAt e) wd_X7_262 clX2 (kd_X2_removeAt e) hd rfl rfl hcat hR k
set_option maxHeartbeats 4000000 in
set_option maxRecDepth 100000 in
theorem w_X2_placeOf_L2 {G : Gl} {ρ0 : Nat → Nat} {M0 MF : Mem} {r : Int32} : ∀ (n : Nat) (l0 : Nat) (l1 : Int32) (l2 : Int32) (M : Mem), f_X2_placeOf_L2 n l0 l1 l2 M = some (r, MF) → V G (RX2, cX2_placeOf, (some .int), 0, 0, 3, "placeOf", []) (ρ0, M0, cvI r, MF) 2 [(0, .ref l0), (1, .int l1), (2, .int l2)] [] M := by
  intro n
  induction n with
  | zero => intro l0 l1 l2 M h; cases h
  | succ n ih =>
    intro l0 l1 l2 M h
    rw [f_X2_placeOf_L2] at h
    refine v_iload_n dX2_placeOf_2 rfl 2 rfl ?_
    refine v_aload_n dX2_placeOf_3 rfl 0 rfl ?_
    obtain ⟨v1, e, h⟩ := bind_some h
    refine gt_X2_24 e dX2_placeOf_4 ?_
    refine v_icmp_ge (tgt := 40) dX2_placeOf_7 (by decide) (fun c9 => ?_) (fun c9 => ?_)
    · replace h := ifP c9 h
      refine v_iconst (v := (-1)) dX2_placeOf_40 ci_m1 ?_
      cases h
      exact v_ireturn dX2_placeOf_41
    · replace h := ifN c9 h
      refine v_iload_n dX2_placeOf_10 rfl 2 rfl ?_
      refine v_aload_n dX2_placeOf_11 rfl 0 rfl ?_
      obtain ⟨v2, e, h⟩ := bind_some h
      refine gt_X2_15 e dX2_placeOf_12 ?_
      obtain ⟨v3, e, h⟩ := bind_some h
      refine v_alen dX2_placeOf_15 e ?_
      refine v_icmp_ge (tgt := 40) dX2_placeOf_16 (by decide) (fun c8 => ?_) (fun c8 => ?_)
      · replace h := ifP c8 h
        refine v_iconst (v := (-1)) dX2_placeOf_40 ci_m1 ?_
        cases h
        exact v_ireturn dX2_placeOf_41
      · replace h := ifN c8 h
        refine v_aload_n dX2_placeOf_19 rfl 0 rfl ?_
        obtain ⟨v4, e, h⟩ := bind_some h
        refine gt_X2_15 e dX2_placeOf_20 ?_
        refine v_iload_n dX2_placeOf_23 rfl 2 rfl ?_
        obtain ⟨v5, e, h⟩ := bind_some h
        refine al_1 e dX2_placeOf_24 ?_
        obtain ⟨v6, e, h⟩ := bind_some h
        refine gt_X2_32 e dX2_placeOf_25 ?_
        refine v_iload_n dX2_placeOf_28 rfl 1 rfl ?_
        refine v_icmp_ne (tgt := 34) dX2_placeOf_29 (by decide) (fun c7 => ?_) (fun c7 => ?_)
        · replace h := ifN c7 h
          refine v_iinc (ls' := [(2, .int (l2 + 1)), (0, .ref l0), (1, .int l1)]) dX2_placeOf_34 2 rfl (v := 1) ci_1 (by decide) rfl ?_
          refine v_goto (tgt := 2) dX2_placeOf_37 (by decide) ?_
          refine v_sub [1, 2, 0] rfl ?_
          exact ih l0 l1 (l2 + 1) M h
        · replace h := ifP c7 h
          refine v_iload_n dX2_placeOf_32 rfl 2 rfl ?_
          cases h
          exact v_ireturn dX2_placeOf_33
set_option maxHeartbeats 4000000 in
set_option maxRecDepth 100000 in
theorem w_X2_placeOf {G : Gl} {ρ0 : Nat → Nat} {M0 MF : Mem} {r : Int32} (l0 : Nat) (l1 : Int32) (M : Mem) (h : f_X2_placeOf l0 l1 M = some (r, MF)) : V G (RX2, cX2_placeOf, (some .int), 0, 0, 3, "placeOf", []) (ρ0, M0, cvI r, MF) 0 [(0, .ref l0), (1, .int l1)] [] M := by
  unfold f_X2_placeOf at h
  replace h := (ifS h).2
  refine v_iconst (v := 0) dX2_placeOf_0 ci_0 ?_
  refine v_istore_n (ls' := [(2, .int (0 : Int32)), (0, .ref l0), (1, .int l1)]) dX2_placeOf_1 rfl (by decide) rfl ?_
  refine v_sub [1, 2, 0] rfl ?_
  exact w_X2_placeOf_L2 FU l0 l1 (0 : Int32) M h
theorem kd_X2_placeOf {l0 : Nat} {l1 : Int32} {M : Mem} {z : _} (h : f_X2_placeOf l0 l1 M = some z) : (mK M l0).1 = 2 := by
  unfold f_X2_placeOf at h
  exact (ifS h).1
theorem k_X2_placeOf {G : Gl} {l0 : Nat} {l1 : Int32} {M MF : Mem} {r : Int32} (h : f_X2_placeOf l0 l1 M = some (r, MF)) : CtrP G yX2_placeOf cX2_placeOf 3 (some .int) 0 0 [.ref l0, .int l1] M (cvI r) MF :=
  ctr_of (by decide +kernel) (Nat.le_of_ble_eq_true rfl) (fun ρ => w_X2_placeOf l0 l1 M h)
theorem wd_X5_98 : wdV RX5 98 RX2 yX2_placeOf cX2_placeOf 3 (some .int) 1 := ⟨gwi 811 (by decide +kernel) (by decide +kernel), gwi 812 (by decide +kernel) (by decide +kernel), gwi 813 (by decide +kernel) (by decide +kernel), nw_X2, gwi 814 (by decide +kernel) (by decide +kernel), ⟨rfl, by decide +kernel, by decide +kernel, by decide +kernel⟩⟩
theorem ca_X5_98 {G : Gl} {B : Bx} {cc : ByteArray} {ret : Option FieldType} {fr lo nL : Nat} {mn : String} {hh : List (Nat × Nat × Nat × Nat)} {pc : Nat} {ls : List (Nat × Value)} {st : List Value} {M M1 : Mem} {l0 : Nat} {l1 : Int32} {x : Int32} (e : f_X2_placeOf l0 l1 M = some (x, M1)) (hd : decode cc pc = .ok (.invokevirtual 98, 3)) (hcat : (st.map fun v => v.category).sum ≤ 8) (hR : 0 + 1 ≤ fr ∧ 8 + (3 + 11) + 0 ≤ lo) (k : V G (RX5, cc, ret, fr, lo, nL, mn, hh) B (pc + 3) ls (.int x :: st) M1) : V G (RX5, cc, ret, fr, lo, nL, mn, hh) B pc ls (.int l1 :: .ref l0 :: st) M := v_callVi (As := [.int l1]) (k_X2_placeOf e) wd_X5_98 clX2 (kd_X2_placeOf e) hd rfl rfl hcat hR k
theorem wd_X7_280 : wdV RX7 280 RX2 yX2_placeOf cX2_placeOf 3 (some .int) 1 := ⟨gwi 1051 (by decide +kernel) (by decide +kernel), gwi 812 (by decide +kernel) (by decide +kernel), gwi 813 (by decide +kernel) (by decide +kernel), nw_X2, gwi 814 (by decide +kernel) (by decide +kernel), ⟨rfl, by decide +kernel, by decide +kernel, by decide +kernel⟩⟩
theorem ca_X7_280 {G : Gl} {B : Bx} {cc : ByteArray} {ret : Option FieldType} {fr lo nL : Nat} {mn : String} {hh : List (Nat × Nat × Nat × Nat)} {pc : Nat} {ls : List (Nat × Value)} {st : List Value} {M M1 : Mem} {l0 : Nat} {l1 : Int32} {x : Int32} (e : f_X2_placeOf l0 l1 M = some (x, M1)) (hd : decode cc pc = .ok (.invokevirtual 280, 3)) (hcat : (st.map fun v => v.category).sum ≤ 8) (hR : 0 + 1 ≤ fr ∧ 8 + (3 + 11) + 0 ≤ lo) (k : V G (RX7, cc, ret, fr, lo, nL, mn, hh) B (pc + 3) ls (.int x :: st) M1) : V G (RX7, cc, ret, fr, lo, nL, mn, hh) B pc ls (.int l1 :: .ref l0 :: st) M := v_callVi (As := [.int l1]) (k_X2_placeOf e) wd_X7_280 clX2 (kd_X2_placeOf e) hd rfl rfl hcat hR k
set_option maxHeartbeats 4000000 in
set_option maxRecDepth 100000 in
theorem w_X4_head {G : Gl} {ρ0 : Nat → Nat} {M0 MF : Mem} {r : Nat} (l0 : Nat) (M : Mem) (h : f_X4_head l0 M = some (r, MF)) : V G (RX4, cX4_head, (some (.object "GradedTopicBroker$Packet")), 0, 0, 1, "head", []) (ρ0, M0, cvR r, MF) 0 [(0, .ref l0)] [] M := by
  unfold f_X4_head at h
  replace h := (ifS h).2
  refine v_aload_n dX4_head_0 rfl 0 rfl ?_
  obtain ⟨v1, e, h⟩ := bind_some h
  refine gt_X4_11 e dX4_head_1 ?_
  refine v_aload_n dX4_head_4 rfl 0 rfl ?_
  obtain ⟨v2, e, h⟩ := bind_some h
  refine gt_X4_20 e dX4_head_5 ?_
  obtain ⟨v3, e, h⟩ := bind_some h
  refine al_3 e dX4_head_8 ?_
  cases h
  exact v_areturn dX4_head_9
theorem kd_X4_head {l0 : Nat} {M : Mem} {z : _} (h : f_X4_head l0 M = some z) : (mK M l0).1 = 4 := by
  unfold f_X4_head at h
  exact (ifS h).1
theorem k_X4_head {G : Gl} {l0 : Nat} {M MF : Mem} {r : Nat} (h : f_X4_head l0 M = some (r, MF)) : CtrP G yX4_head cX4_head 1 (some (.object "GradedTopicBroker$Packet")) 0 0 [.ref l0] M (cvR r) MF :=
  ctr_of (by decide +kernel) (Nat.le_of_ble_eq_true rfl) (fun ρ => w_X4_head l0 M h)
theorem wd_X11_251 : wdV RX11 251 RX4 yX4_head cX4_head 1 (some (.object "GradedTopicBroker$Packet")) 0 := ⟨gwi 1070 (by decide +kernel) (by decide +kernel), gwi 1071 (by decide +kernel) (by decide +kernel), gwi 1072 (by decide +kernel) (by decide +kernel), nw_X4, gwi 1073 (by decide +kernel) (by decide +kernel), ⟨rfl, by decide +kernel, by decide +kernel, by decide +kernel⟩⟩
theorem ca_X11_251 {G : Gl} {B : Bx} {cc : ByteArray} {ret : Option FieldType} {fr lo nL : Nat} {mn : String} {hh : List (Nat × Nat × Nat × Nat)} {pc : Nat} {ls : List (Nat × Value)} {st : List Value} {M M1 : Mem} {l0 : Nat} {x : Nat} (e : f_X4_head l0 M = some (x, M1)) (hd : decode cc pc = .ok (.invokevirtual 251, 3)) (hcat : (st.map fun v => v.category).sum ≤ 8) (hR : 0 + 1 ≤ fr ∧ 8 + (1 + 11) + 0 ≤ lo) (k : V G (RX11, cc, ret, fr, lo, nL, mn, hh) B (pc + 3) ls (.ref x :: st) M1) : V G (RX11, cc, ret, fr, lo, nL, mn, hh) B pc ls (.ref l0 :: st) M := v_callVr (As := []) (k_X4_head e) wd_X11_251 clX4 (kd_X4_head e) hd rfl rfl hcat hR k
set_option maxHeartbeats 4000000 in
set_option maxRecDepth 100000 in
theorem w_X4_extend_J19 {G : Gl} {ρ0 : Nat → Nat} {M0 MF : Mem} {r : Nat} (l0 : Nat) (M : Mem) (h : f_X4_extend_J19 l0 M = some (r, MF)) : V G (RX4, cX4_extend, (some (.object "GradedTopicBroker$Packet")), 0, 0, 1, "extend", []) (ρ0, M0, cvR r, MF) 19 [(0, .ref l0)] [] M := by
  unfold f_X4_extend_J19 at h
  refine v_aload_n dX4_extend_19 rfl 0 rfl ?_
  obtain ⟨v1, e, h⟩ := bind_some h
  refine gt_X4_11 e dX4_extend_20 ?_
  refine v_aload_n dX4_extend_23 rfl 0 rfl ?_
  obtain ⟨v2, e, h⟩ := bind_some h
  refine gt_X4_20 e dX4_extend_24 ?_
  refine v_aload_n dX4_extend_27 rfl 0 rfl ?_
  obtain ⟨v3, e, h⟩ := bind_some h
  refine gt_X4_24 e dX4_extend_28 ?_
  refine v_iadd dX4_extend_31 ?_
  refine v_iconst (v := 1) dX4_extend_32 ci_1 ?_
  refine v_isub dX4_extend_33 ?_
  refine v_bipush (v := 30) dX4_extend_34 cb_30 ?_
  refine v_irem dX4_extend_36 (by decide) ?_
  obtain ⟨v4, e, h⟩ := bind_some h
  refine al_3 e dX4_extend_37 ?_
  cases h
  exact v_areturn dX4_extend_38
set_option maxHeartbeats 4000000 in
set_option maxRecDepth 100000 in
theorem w_X4_extend {G : Gl} {ρ0 : Nat → Nat} {M0 MF : Mem} {r : Nat} (l0 : Nat) (M : Mem) (h : f_X4_extend l0 M = some (r, MF)) : V G (RX4, cX4_extend, (some (.object "GradedTopicBroker$Packet")), 0, 0, 1, "extend", []) (ρ0, M0, cvR r, MF) 0 [(0, .ref l0)] [] M := by
  unfold f_X4_extend at h
  replace h := (ifS h).2
  refine v_aload_n dX4_extend_0 rfl 0 rfl ?_
  obtain ⟨v1, e, h⟩ := bind_some h
  refine gt_X4_24 e dX4_extend_1 ?_
  refine v_bipush (v := 30) dX4_extend_4 cb_30 ?_
  refine v_icmp_ge (tgt := 19) dX4_extend_6 (by decide) (fun c4 => ?_) (fun c4 => ?_)
  · replace h := ifP c4 h
    exact w_X4_extend_J19 l0 M h
  · replace h := ifN c4 h
    refine v_aload_n dX4_extend_9 rfl 0 rfl ?_
    refine v_dup dX4_extend_10 rfl ?_
    obtain ⟨v2, e, h⟩ := bind_some h
    refine gt_X4_24 e dX4_extend_11 ?_
    refine v_iconst (v := 1) dX4_extend_14 ci_1 ?_
    refine v_iadd dX4_extend_15 ?_
    obtain ⟨M3, e, h⟩ := bind_some h
    refine pt_X4_24 e dX4_extend_16 ?_
    exact w_X4_extend_J19 l0 M3 h
theorem kd_X4_extend {l0 : Nat} {M : Mem} {z : _} (h : f_X4_extend l0 M = some z) : (mK M l0).1 = 4 := by
  unfold f_X4_extend at h
  exact (ifS h).1
theorem k_X4_extend {G : Gl} {l0 : Nat} {M MF : Mem} {r : Nat} (h : f_X4_extend l0 M = some (r, MF)) : CtrP G yX4_extend cX4_extend 1 (some (.object "GradedTopicBroker$Packet")) 0 0 [.ref l0] M (cvR r) MF :=
  ctr_of (by decide +kernel) (Nat.le_of_ble_eq_true rfl) (fun ρ => w_X4_extend l0 M h)
theorem wd_X11_284 : wdV RX11 284 RX4 yX4_extend cX4_extend 1 (some (.object "GradedTopicBroker$Packet")) 0 := ⟨gwi 1107 (by decide +kernel) (by decide +kernel), gwi 792 (by decide +kernel) (by decide +kernel), gwi 793 (by decide +kernel) (by decide +kernel), nw_X4, gwi 794 (by decide +kernel) (by decide +kernel), ⟨rfl, by decide +kernel, by decide +kernel, by decide +kernel⟩⟩
theorem ca_X11_284 {G : Gl} {B : Bx} {cc : ByteArray} {ret : Option FieldType} {fr lo nL : Nat} {mn : String} {hh : List (Nat × Nat × Nat × Nat)} {pc : Nat} {ls : List (Nat × Value)} {st : List Value} {M M1 : Mem} {l0 : Nat} {x : Nat} (e : f_X4_extend l0 M = some (x, M1)) (hd : decode cc pc = .ok (.invokevirtual 284, 3)) (hcat : (st.map fun v => v.category).sum ≤ 8) (hR : 0 + 1 ≤ fr ∧ 8 + (1 + 11) + 0 ≤ lo) (k : V G (RX11, cc, ret, fr, lo, nL, mn, hh) B (pc + 3) ls (.ref x :: st) M1) : V G (RX11, cc, ret, fr, lo, nL, mn, hh) B pc ls (.ref l0 :: st) M := v_callVr (As := []) (k_X4_extend e) wd_X11_284 clX4 (kd_X4_extend e) hd rfl rfl hcat hR k
theorem wd_X7_296 : wdV RX7 296 RX4 yX4_extend cX4_extend 1 (some (.object "GradedTopicBroker$Packet")) 0 := ⟨gwi 791 (by decide +kernel) (by decide +kernel), gwi 792 (by decide +kernel) (by decide +kernel), gwi 793 (by decide +kernel) (by decide +kernel), nw_X4, gwi 794 (by decide +kernel) (by decide +kernel), ⟨rfl, by decide +kernel, by decide +kernel, by decide +kernel⟩⟩
theorem ca_X7_296 {G : Gl} {B : Bx} {cc : ByteArray} {ret : Option FieldType} {fr lo nL : Nat} {mn : String} {hh : List (Nat × Nat × Nat × Nat)} {pc : Nat} {ls : List (Nat × Value)} {st : List Value} {M M1 : Mem} {l0 : Nat} {x : Nat} (e : f_X4_extend l0 M = some (x, M1)) (hd : decode cc pc = .ok (.invokevirtual 296, 3)) (hcat : (st.map fun v => v.category).sum ≤ 8) (hR : 0 + 1 ≤ fr ∧ 8 + (1 + 11) + 0 ≤ lo) (k : V G (RX7, cc, ret, fr, lo, nL, mn, hh) B (pc + 3) ls (.ref x :: st) M1) : V G (RX7, cc, ret, fr, lo, nL, mn, hh) B pc ls (.ref l0 :: st) M := v_callVr (As := []) (k_X4_extend e) wd_X7_296 clX4 (kd_X4_extend e) hd rfl rfl hcat hR k
set_option maxHeartbeats 4000000 in
set_option maxRecDepth 100000 in
theorem w_X4_dropFirst {G : Gl} {ρ0 : Nat → Nat} {M0 MF : Mem} {r : Unit} (l0 : Nat) (M : Mem) (h : f_X4_dropFirst l0 M = some MF) : V G (RX4, cX4_dropFirst, none, 0, 0, 1, "dropFirst", []) (ρ0, M0, cvV r, MF) 0 [(0, .ref l0)] [] M := by
  unfold f_X4_dropFirst at h
  replace h := (ifS h).2
  refine v_aload_n dX4_dropFirst_0 rfl 0 rfl ?_
  obtain ⟨v1, e, h⟩ := bind_some h
  refine gt_X4_24 e dX4_dropFirst_1 ?_
  refine v_if_le (tgt := 30) dX4_dropFirst_4 (by decide) (fun c6 => ?_) (fun c6 => ?_)
  · replace h := ifP c6 h
    cases h
    exact v_vreturn dX4_dropFirst_30
  · replace h := ifN c6 h
    refine v_aload_n dX4_dropFirst_7 rfl 0 rfl ?_
    refine v_aload_n dX4_dropFirst_8 rfl 0 rfl ?_
    obtain ⟨v2, e, h⟩ := bind_some h
    refine gt_X4_20 e dX4_dropFirst_9 ?_
    refine v_iconst (v := 1) dX4_dropFirst_12 ci_1 ?_
    refine v_iadd dX4_dropFirst_13 ?_
    refine v_bipush (v := 30) dX4_dropFirst_14 cb_30 ?_
    refine v_irem dX4_dropFirst_16 (by decide) ?_
    obtain ⟨M3, e, h⟩ := bind_some h
    refine pt_X4_20 e dX4_dropFirst_17 ?_
    refine v_aload_n dX4_dropFirst_20 rfl 0 rfl ?_
    refine v_dup dX4_dropFirst_21 rfl ?_
    obtain ⟨v4, e, h⟩ := bind_some h
    refine gt_X4_24 e dX4_dropFirst_22 ?_
    refine v_iconst (v := 1) dX4_dropFirst_25 ci_1 ?_
    refine v_isub dX4_dropFirst_26 ?_
    obtain ⟨M5, e, h⟩ := bind_some h
    refine pt_X4_24 e dX4_dropFirst_27 ?_
    cases h
    exact v_vreturn dX4_dropFirst_30
theorem kd_X4_dropFirst {l0 : Nat} {M : Mem} {z : _} (h : f_X4_dropFirst l0 M = some z) : (mK M l0).1 = 4 := by
  unfold f_X4_dropFirst at h
  exact (ifS h).1
theorem k_X4_dropFirst {G : Gl} {l0 : Nat} {M MF : Mem} (h : f_X4_dropFirst l0 M = some MF) : CtrP G yX4_dropFirst cX4_dropFirst 1 none 0 0 [.ref l0] M (cvV ()) MF :=
  ctr_of (by decide +kernel) (Nat.le_of_ble_eq_true rfl) (fun ρ => w_X4_dropFirst (r := ()) l0 M h)
theorem wd_X11_262 : wdV RX11 262 RX4 yX4_dropFirst cX4_dropFirst 1 none 0 := ⟨gwi 1075 (by decide +kernel) (by decide +kernel), gwi 1076 (by decide +kernel) (by decide +kernel), gwi 1077 (by decide +kernel) (by decide +kernel), nw_X4, gwi 1078 (by decide +kernel) (by decide +kernel), ⟨rfl, by decide +kernel, by decide +kernel, by decide +kernel⟩⟩
theorem ca_X11_262 {G : Gl} {B : Bx} {cc : ByteArray} {ret : Option FieldType} {fr lo nL : Nat} {mn : String} {hh : List (Nat × Nat × Nat × Nat)} {pc : Nat} {ls : List (Nat × Value)} {st : List Value} {M M1 : Mem} {l0 : Nat} (e : f_X4_dropFirst l0 M = some M1) (hd : decode cc pc = .ok (.invokevirtual 262, 3)) (hcat : (st.map fun v => v.category).sum ≤ 8) (hR : 0 + 1 ≤ fr ∧ 8 + (1 + 11) + 0 ≤ lo) (k : V G (RX11, cc, ret, fr, lo, nL, mn, hh) B (pc + 3) ls (st) M1) : V G (RX11, cc, ret, fr, lo, nL, mn, hh) B pc ls (.ref l0 :: st) M := v_callV0 (As := []) (k_X4_dropFirst e) wd_X11_262 clX4 (kd_X4_dropFirst e) hd rfl rfl hcat hR k
set_option maxHeartbeats 4000000 in
set_option maxRecDepth 100000 in
theorem w_X4_clear {G : Gl} {ρ0 : Nat → Nat} {M0 MF : Mem} {r : Unit} (l0 : Nat) (M : Mem) (h : f_X4_clear l0 M = some MF) : V G (RX4, cX4_clear, none, 0, 0, 1, "clear", []) (ρ0, M0, cvV r, MF) 0 [(0, .ref l0)] [] M := by
  unfold f_X4_clear at h
  replace h := (ifS h).2
  refine v_aload_n dX4_clear_0 rfl 0 rfl ?_
  refine v_iconst (v := 0) dX4_clear_1 ci_0 ?_
  obtain ⟨M1, e, h⟩ := bind_some h
  refine pt_X4_20 e dX4_clear_2 ?_
  refine v_aload_n dX4_clear_5 rfl 0 rfl ?_
  refine v_iconst (v := 0) dX4_clear_6 ci_0 ?_
  obtain ⟨M2, e, h⟩ := bind_some h
  refine pt_X4_24 e dX4_clear_7 ?_
  cases h
  exact v_vreturn dX4_clear_10
theorem kd_X4_clear {l0 : Nat} {M : Mem} {z : _} (h : f_X4_clear l0 M = some z) : (mK M l0).1 = 4 := by
  unfold f_X4_clear at h
  exact (ifS h).1
theorem k_X4_clear {G : Gl} {l0 : Nat} {M MF : Mem} (h : f_X4_clear l0 M = some MF) : CtrP G yX4_clear cX4_clear 1 none 0 0 [.ref l0] M (cvV ()) MF :=
  ctr_of (by decide +kernel) (Nat.le_of_ble_eq_true rfl) (fun ρ => w_X4_clear (r := ()) l0 M h)
theorem wd_X7_90 : wdV RX7 90 RX4 yX4_clear cX4_clear 1 none 0 := ⟨gwi 699 (by decide +kernel) (by decide +kernel), gwi 700 (by decide +kernel) (by decide +kernel), gwi 701 (by decide +kernel) (by decide +kernel), nw_X4, gwi 702 (by decide +kernel) (by decide +kernel), ⟨rfl, by decide +kernel, by decide +kernel, by decide +kernel⟩⟩
theorem ca_X7_90 {G : Gl} {B : Bx} {cc : ByteArray} {ret : Option FieldType} {fr lo nL : Nat} {mn : String} {hh : List (Nat × Nat × Nat × Nat)} {pc : Nat} {ls : List (Nat × Value)} {st : List Value} {M M1 : Mem} {l0 : Nat} (e : f_X4_clear l0 M = some M1) (hd : decode cc pc = .ok (.invokevirtual 90, 3)) (hcat : (st.map fun v => v.category).sum ≤ 8) (hR : 0 + 1 ≤ fr ∧ 8 + (1 + 11) + 0 ≤ lo) (k : V G (RX7, cc, ret, fr, lo, nL, mn, hh) B (pc + 3) ls (st) M1) : V G (RX7, cc, ret, fr, lo, nL, mn, hh) B pc ls (.ref l0 :: st) M := v_callV0 (As := []) (k_X4_clear e) wd_X7_90 clX4 (kd_X4_clear e) hd rfl rfl hcat hR k
set_option maxHeartbeats 4000000 in
set_option maxRecDepth 100000 in
theorem w_X5_clear_L22 {G : Gl} {ρ0 : Nat → Nat} {M0 MF : Mem} {r : Unit} : ∀ (n : Nat) (l0 : Nat) (l1 : Int32) (M : Mem), f_X5_clear_L22 n l0 l1 M = some MF → V G (RX5, cX5_clear, none, 0, 0, 2, "clear", []) (ρ0, M0, cvV r, MF) 22 [(0, .ref l0), (1, .int l1)] [] M := by
  intro n
  induction n with
  | zero => intro l0 l1 M h; cases h
  | succ n ih =>
    intro l0 l1 M h
    rw [f_X5_clear_L22] at h
    refine v_iload_n dX5_clear_22 rfl 1 rfl ?_
    refine v_aload_n dX5_clear_23 rfl 0 rfl ?_
    obtain ⟨v1, e, h⟩ := bind_some h
    refine gt_X5_9 e dX5_clear_24 ?_
    obtain ⟨v2, e, h⟩ := bind_some h
    refine v_alen dX5_clear_27 e ?_
    refine v_icmp_ge (tgt := 44) dX5_clear_28 (by decide) (fun c9 => ?_) (fun c9 => ?_)
    · replace h := ifP c9 h
      refine v_aload_n dX5_clear_44 rfl 0 rfl ?_
      refine v_iconst (v := 0) dX5_clear_45 ci_0 ?_
      obtain ⟨M3, e, h⟩ := bind_some h
      refine pt_X5_53 e dX5_clear_46 ?_
      refine v_aload_n dX5_clear_49 rfl 0 rfl ?_
      refine v_iconst (v := 0) dX5_clear_50 ci_0 ?_
      obtain ⟨M4, e, h⟩ := bind_some h
      refine pt_X5_56 e dX5_clear_51 ?_
      refine v_aload_n dX5_clear_54 rfl 0 rfl ?_
      obtain ⟨v5, e, h⟩ := bind_some h
      refine gt_X5_29 e dX5_clear_55 ?_
      refine v_iconst (v := 0) dX5_clear_58 ci_0 ?_
      obtain ⟨M6, e, h⟩ := bind_some h
      refine pt_X5_59 e dX5_clear_59 ?_
      refine v_aload_n dX5_clear_62 rfl 0 rfl ?_
      obtain ⟨v7, e, h⟩ := bind_some h
      refine gt_X5_33 e dX5_clear_63 ?_
      refine v_iconst (v := 0) dX5_clear_66 ci_0 ?_
      obtain ⟨M8, e, h⟩ := bind_some h
      refine pt_X5_59 e dX5_clear_67 ?_
      cases h
      exact v_vreturn dX5_clear_70
    · replace h := ifN c9 h
      refine v_aload_n dX5_clear_31 rfl 0 rfl ?_
      obtain ⟨v3, e, h⟩ := bind_some h
      refine gt_X5_9 e dX5_clear_32 ?_
      refine v_iload_n dX5_clear_35 rfl 1 rfl ?_
      refine v_iconst (v := 0) dX5_clear_36 ci_0 ?_
      obtain ⟨M4, e, h⟩ := bind_some h
      refine v_zastore dX5_clear_37 e ?_
      refine v_iinc (ls' := [(1, .int (l1 + 1)), (0, .ref l0)]) dX5_clear_38 1 rfl (v := 1) ci_1 (by decide) rfl ?_
      refine v_goto (tgt := 22) dX5_clear_41 (by decide) ?_
      refine v_sub [1, 0] rfl ?_
      exact ih l0 (l1 + 1) M4 h
set_option maxHeartbeats 4000000 in
set_option maxRecDepth 100000 in
theorem w_X5_clear {G : Gl} {ρ0 : Nat → Nat} {M0 MF : Mem} {r : Unit} (l0 : Nat) (M : Mem) (h : f_X5_clear l0 M = some MF) : V G (RX5, cX5_clear, none, 0, 0, 2, "clear", []) (ρ0, M0, cvV r, MF) 0 [(0, .ref l0)] [] M := by
  unfold f_X5_clear at h
  replace h := (ifS h).2
  refine v_aload_n dX5_clear_0 rfl 0 rfl ?_
  refine v_iconst (v := 0) dX5_clear_1 ci_0 ?_
  obtain ⟨M1, e, h⟩ := bind_some h
  refine pt_X5_39 e dX5_clear_2 ?_
  refine v_aload_n dX5_clear_5 rfl 0 rfl ?_
  refine v_iconst (v := 0) dX5_clear_6 ci_0 ?_
  obtain ⟨M2, e, h⟩ := bind_some h
  refine pt_X5_43 e dX5_clear_7 ?_
  refine v_aload_n dX5_clear_10 rfl 0 rfl ?_
  refine v_iconst (v := 0) dX5_clear_11 ci_0 ?_
  obtain ⟨M3, e, h⟩ := bind_some h
  refine pt_X5_46 e dX5_clear_12 ?_
  refine v_aload_n dX5_clear_15 rfl 0 rfl ?_
  refine v_iconst (v := 1) dX5_clear_16 ci_1 ?_
  obtain ⟨M4, e, h⟩ := bind_some h
  refine pt_X5_50 e dX5_clear_17 ?_
  refine v_iconst (v := 0) dX5_clear_20 ci_0 ?_
  refine v_istore_n (ls' := [(1, .int (0 : Int32)), (0, .ref l0)]) dX5_clear_21 rfl (by decide) rfl ?_
  refine v_sub [1, 0] rfl ?_
  exact w_X5_clear_L22 FU l0 (0 : Int32) M4 h
theorem kd_X5_clear {l0 : Nat} {M : Mem} {z : _} (h : f_X5_clear l0 M = some z) : (mK M l0).1 = 5 := by
  unfold f_X5_clear at h
  exact (ifS h).1
theorem k_X5_clear {G : Gl} {l0 : Nat} {M MF : Mem} (h : f_X5_clear l0 M = some MF) : CtrP G yX5_clear cX5_clear 2 none 0 0 [.ref l0] M (cvV ()) MF :=
  ctr_of (by decide +kernel) (Nat.le_of_ble_eq_true rfl) (fun ρ => w_X5_clear (r := ()) l0 M h)
theorem wd_X5_36 : wdV RX5 36 RX5 yX5_clear cX5_clear 2 none 0 := ⟨gwi 846 (by decide +kernel) (by decide +kernel), gwi 708 (by decide +kernel) (by decide +kernel), gwi 709 (by decide +kernel) (by decide +kernel), nw_X5, gwi 710 (by decide +kernel) (by decide +kernel), ⟨rfl, by decide +kernel, by decide +kernel, by decide +kernel⟩⟩
theorem ca_X5_36 {G : Gl} {B : Bx} {cc : ByteArray} {ret : Option FieldType} {fr lo nL : Nat} {mn : String} {hh : List (Nat × Nat × Nat × Nat)} {pc : Nat} {ls : List (Nat × Value)} {st : List Value} {M M1 : Mem} {l0 : Nat} (e : f_X5_clear l0 M = some M1) (hd : decode cc pc = .ok (.invokevirtual 36, 3)) (hcat : (st.map fun v => v.category).sum ≤ 8) (hR : 0 + 1 ≤ fr ∧ 8 + (2 + 11) + 0 ≤ lo) (k : V G (RX5, cc, ret, fr, lo, nL, mn, hh) B (pc + 3) ls (st) M1) : V G (RX5, cc, ret, fr, lo, nL, mn, hh) B pc ls (.ref l0 :: st) M := v_callV0 (As := []) (k_X5_clear e) wd_X5_36 clX5 (kd_X5_clear e) hd rfl rfl hcat hR k
theorem wd_X7_127 : wdV RX7 127 RX5 yX5_clear cX5_clear 2 none 0 := ⟨gwi 707 (by decide +kernel) (by decide +kernel), gwi 708 (by decide +kernel) (by decide +kernel), gwi 709 (by decide +kernel) (by decide +kernel), nw_X5, gwi 710 (by decide +kernel) (by decide +kernel), ⟨rfl, by decide +kernel, by decide +kernel, by decide +kernel⟩⟩
theorem ca_X7_127 {G : Gl} {B : Bx} {cc : ByteArray} {ret : Option FieldType} {fr lo nL : Nat} {mn : String} {hh : List (Nat × Nat × Nat × Nat)} {pc : Nat} {ls : List (Nat × Value)} {st : List Value} {M M1 : Mem} {l0 : Nat} (e : f_X5_clear l0 M = some M1) (hd : decode cc pc = .ok (.invokevirtual 127, 3)) (hcat : (st.map fun v => v.category).sum ≤ 8) (hR : 0 + 1 ≤ fr ∧ 8 + (2 + 11) + 0 ≤ lo) (k : V G (RX7, cc, ret, fr, lo, nL, mn, hh) B (pc + 3) ls (st) M1) : V G (RX7, cc, ret, fr, lo, nL, mn, hh) B pc ls (.ref l0 :: st) M := v_callV0 (As := []) (k_X5_clear e) wd_X7_127 clX5 (kd_X5_clear e) hd rfl rfl hcat hR k
set_option maxHeartbeats 4000000 in
set_option maxRecDepth 100000 in
theorem w_X5_begin {G : Gl} {ρ0 : Nat → Nat} {M0 MF : Mem} {r : Unit} (l0 : Nat) (l1 : Int32) (M : Mem) (h : f_X5_begin l0 l1 M = some MF) : V G (RX5, cX5_begin, none, 1, 21, 2, "begin", []) (ρ0, M0, cvV r, MF) 0 [(0, .ref l0), (1, .int l1)] [] M := by
  unfold f_X5_begin at h
  replace h := (ifS h).2
  refine v_aload_n dX5_begin_0 rfl 0 rfl ?_
  obtain ⟨M1, e, h⟩ := bind_some h
  refine ca_X5_36 e dX5_begin_1 (Nat.le_of_ble_eq_true rfl) (by decide) ?_
  refine v_aload_n dX5_begin_4 rfl 0 rfl ?_
  refine v_iconst (v := 1) dX5_begin_5 ci_1 ?_
  obtain ⟨M2, e, h⟩ := bind_some h
  refine pt_X5_39 e dX5_begin_6 ?_
  refine v_aload_n dX5_begin_9 rfl 0 rfl ?_
  refine v_iload_n dX5_begin_10 rfl 1 rfl ?_
  obtain ⟨M3, e, h⟩ := bind_some h
  refine pt_X5_43 e dX5_begin_11 ?_
  cases h
  exact v_vreturn dX5_begin_14
theorem kd_X5_begin {l0 : Nat} {l1 : Int32} {M : Mem} {z : _} (h : f_X5_begin l0 l1 M = some z) : (mK M l0).1 = 5 := by
  unfold f_X5_begin at h
  exact (ifS h).1
theorem k_X5_begin {G : Gl} {l0 : Nat} {l1 : Int32} {M MF : Mem} (h : f_X5_begin l0 l1 M = some MF) : CtrP G yX5_begin cX5_begin 2 none 1 21 [.ref l0, .int l1] M (cvV ()) MF :=
  ctr_of (by decide +kernel) (Nat.le_of_ble_eq_true rfl) (fun ρ => w_X5_begin (r := ()) l0 l1 M h)
theorem wd_X11_106 : wdV RX11 106 RX5 yX5_begin cX5_begin 2 none 1 := ⟨gwi 842 (by decide +kernel) (by decide +kernel), gwi 843 (by decide +kernel) (by decide +kernel), gwi 844 (by decide +kernel) (by decide +kernel), nw_X5, gwi 845 (by decide +kernel) (by decide +kernel), ⟨rfl, by decide +kernel, by decide +kernel, by decide +kernel⟩⟩
theorem ca_X11_106 {G : Gl} {B : Bx} {cc : ByteArray} {ret : Option FieldType} {fr lo nL : Nat} {mn : String} {hh : List (Nat × Nat × Nat × Nat)} {pc : Nat} {ls : List (Nat × Value)} {st : List Value} {M M1 : Mem} {l0 : Nat} {l1 : Int32} (e : f_X5_begin l0 l1 M = some M1) (hd : decode cc pc = .ok (.invokevirtual 106, 3)) (hcat : (st.map fun v => v.category).sum ≤ 8) (hR : 1 + 1 ≤ fr ∧ 8 + (2 + 11) + 21 ≤ lo) (k : V G (RX11, cc, ret, fr, lo, nL, mn, hh) B (pc + 3) ls (st) M1) : V G (RX11, cc, ret, fr, lo, nL, mn, hh) B pc ls (.int l1 :: .ref l0 :: st) M := v_callV0 (As := [.int l1]) (k_X5_begin e) wd_X11_106 clX5 (kd_X5_begin e) hd rfl rfl hcat hR k
set_option maxHeartbeats 4000000 in
set_option maxRecDepth 100000 in
theorem w_X5_keeps {G : Gl} {ρ0 : Nat → Nat} {M0 MF : Mem} {r : Int32} (l0 : Nat) (l1 : Int32) (M : Mem) (h : f_X5_keeps l0 l1 M = some (r, MF)) : V G (RX5, cX5_keeps, (some .boolean), 0, 0, 2, "keeps", []) (ρ0, M0, cvI r, MF) 0 [(0, .ref l0), (1, .int l1)] [] M := by
  unfold f_X5_keeps at h
  replace h := (ifS h).2
  refine v_iload_n dX5_keeps_0 rfl 1 rfl ?_
  refine v_if_lt (tgt := 26) dX5_keeps_1 (by decide) (fun c7 => ?_) (fun c7 => ?_)
  · replace h := ifP c7 h
    refine v_iconst (v := 0) dX5_keeps_26 ci_0 ?_
    obtain ⟨hz, rfl, rfl⟩ := okZ_some h
    exact v_zreturn dX5_keeps_27 hz
  · replace h := ifN c7 h
    refine v_iload_n dX5_keeps_4 rfl 1 rfl ?_
    refine v_aload_n dX5_keeps_5 rfl 0 rfl ?_
    obtain ⟨v1, e, h⟩ := bind_some h
    refine gt_X5_9 e dX5_keeps_6 ?_
    obtain ⟨v2, e, h⟩ := bind_some h
    refine v_alen dX5_keeps_9 e ?_
    refine v_icmp_ge (tgt := 26) dX5_keeps_10 (by decide) (fun c6 => ?_) (fun c6 => ?_)
    · replace h := ifP c6 h
      refine v_iconst (v := 0) dX5_keeps_26 ci_0 ?_
      obtain ⟨hz, rfl, rfl⟩ := okZ_some h
      exact v_zreturn dX5_keeps_27 hz
    · replace h := ifN c6 h
      refine v_aload_n dX5_keeps_13 rfl 0 rfl ?_
      obtain ⟨v3, e, h⟩ := bind_some h
      refine gt_X5_9 e dX5_keeps_14 ?_
      refine v_iload_n dX5_keeps_17 rfl 1 rfl ?_
      obtain ⟨v4, e, h⟩ := bind_some h
      refine v_zaload dX5_keeps_18 e ?_
      refine v_if_eq (tgt := 26) dX5_keeps_19 (by decide) (fun c5 => ?_) (fun c5 => ?_)
      · replace h := ifP c5 h
        refine v_iconst (v := 0) dX5_keeps_26 ci_0 ?_
        obtain ⟨hz, rfl, rfl⟩ := okZ_some h
        exact v_zreturn dX5_keeps_27 hz
      · replace h := ifN c5 h
        refine v_iconst (v := 1) dX5_keeps_22 ci_1 ?_
        refine v_goto (tgt := 27) dX5_keeps_23 (by decide) ?_
        obtain ⟨hz, rfl, rfl⟩ := okZ_some h
        exact v_zreturn dX5_keeps_27 hz
theorem kd_X5_keeps {l0 : Nat} {l1 : Int32} {M : Mem} {z : _} (h : f_X5_keeps l0 l1 M = some z) : (mK M l0).1 = 5 := by
  unfold f_X5_keeps at h
  exact (ifS h).1
theorem k_X5_keeps {G : Gl} {l0 : Nat} {l1 : Int32} {M MF : Mem} {r : Int32} (h : f_X5_keeps l0 l1 M = some (r, MF)) : CtrP G yX5_keeps cX5_keeps 2 (some .boolean) 0 0 [.ref l0, .int l1] M (cvI r) MF :=
  ctr_of (by decide +kernel) (Nat.le_of_ble_eq_true rfl) (fun ρ => w_X5_keeps l0 l1 M h)
theorem wd_X11_216 : wdV RX11 216 RX5 yX5_keeps cX5_keeps 2 (some .boolean) 1 := ⟨gwi 1018 (by decide +kernel) (by decide +kernel), gwi 1019 (by decide +kernel) (by decide +kernel), gwi 1020 (by decide +kernel) (by decide +kernel), nw_X5, gwi 1021 (by decide +kernel) (by decide +kernel), ⟨rfl, by decide +kernel, by decide +kernel, by decide +kernel⟩⟩
theorem ca_X11_216 {G : Gl} {B : Bx} {cc : ByteArray} {ret : Option FieldType} {fr lo nL : Nat} {mn : String} {hh : List (Nat × Nat × Nat × Nat)} {pc : Nat} {ls : List (Nat × Value)} {st : List Value} {M M1 : Mem} {l0 : Nat} {l1 : Int32} {x : Int32} (e : f_X5_keeps l0 l1 M = some (x, M1)) (hd : decode cc pc = .ok (.invokevirtual 216, 3)) (hcat : (st.map fun v => v.category).sum ≤ 8) (hR : 0 + 1 ≤ fr ∧ 8 + (2 + 11) + 0 ≤ lo) (k : V G (RX11, cc, ret, fr, lo, nL, mn, hh) B (pc + 3) ls (.int x :: st) M1) : V G (RX11, cc, ret, fr, lo, nL, mn, hh) B pc ls (.int l1 :: .ref l0 :: st) M := v_callVi (As := [.int l1]) (k_X5_keeps e) wd_X11_216 clX5 (kd_X5_keeps e) hd rfl rfl hcat hR k
theorem wd_X5_62 : wdV RX5 62 RX5 yX5_keeps cX5_keeps 2 (some .boolean) 1 := ⟨gwi 1039 (by decide +kernel) (by decide +kernel), gwi 1019 (by decide +kernel) (by decide +kernel), gwi 1020 (by decide +kernel) (by decide +kernel), nw_X5, gwi 1021 (by decide +kernel) (by decide +kernel), ⟨rfl, by decide +kernel, by decide +kernel, by decide +kernel⟩⟩
theorem ca_X5_62 {G : Gl} {B : Bx} {cc : ByteArray} {ret : Option FieldType} {fr lo nL : Nat} {mn : String} {hh : List (Nat × Nat × Nat × Nat)} {pc : Nat} {ls : List (Nat × Value)} {st : List Value} {M M1 : Mem} {l0 : Nat} {l1 : Int32} {x : Int32} (e : f_X5_keeps l0 l1 M = some (x, M1)) (hd : decode cc pc = .ok (.invokevirtual 62, 3)) (hcat : (st.map fun v => v.category).sum ≤ 8) (hR : 0 + 1 ≤ fr ∧ 8 + (2 + 11) + 0 ≤ lo) (k : V G (RX5, cc, ret, fr, lo, nL, mn, hh) B (pc + 3) ls (.int x :: st) M1) : V G (RX5, cc, ret, fr, lo, nL, mn, hh) B pc ls (.int l1 :: .ref l0 :: st) M := v_callVi (As := [.int l1]) (k_X5_keeps e) wd_X5_62 clX5 (kd_X5_keeps e) hd rfl rfl hcat hR k
set_option maxHeartbeats 4000000 in
set_option maxRecDepth 100000 in
theorem w_X5_keep {G : Gl} {ρ0 : Nat → Nat} {M0 MF : Mem} {r : Unit} (l0 : Nat) (l1 : Int32) (M : Mem) (h : f_X5_keep l0 l1 M = some MF) : V G (RX5, cX5_keep, none, 0, 0, 2, "keep", []) (ρ0, M0, cvV r, MF) 0 [(0, .ref l0), (1, .int l1)] [] M := by
  unfold f_X5_keep at h
  replace h := (ifS h).2
  refine v_iload_n dX5_keep_0 rfl 1 rfl ?_
  refine v_if_lt (tgt := 39) dX5_keep_1 (by decide) (fun c11 => ?_) (fun c11 => ?_)
  · replace h := ifP c11 h
    cases h
    exact v_vreturn dX5_keep_39
  · replace h := ifN c11 h
    refine v_iload_n dX5_keep_4 rfl 1 rfl ?_
    refine v_aload_n dX5_keep_5 rfl 0 rfl ?_
    obtain ⟨v1, e, h⟩ := bind_some h
    refine gt_X5_9 e dX5_keep_6 ?_
    obtain ⟨v2, e, h⟩ := bind_some h
    refine v_alen dX5_keep_9 e ?_
    refine v_icmp_ge (tgt := 39) dX5_keep_10 (by decide) (fun c10 => ?_) (fun c10 => ?_)
    · replace h := ifP c10 h
      cases h
      exact v_vreturn dX5_keep_39
    · replace h := ifN c10 h
      refine v_aload_n dX5_keep_13 rfl 0 rfl ?_
      obtain ⟨v3, e, h⟩ := bind_some h
      refine gt_X5_9 e dX5_keep_14 ?_
      refine v_iload_n dX5_keep_17 rfl 1 rfl ?_
      obtain ⟨v4, e, h⟩ := bind_some h
      refine v_zaload dX5_keep_18 e ?_
      refine v_if_ne (tgt := 39) dX5_keep_19 (by decide) (fun c9 => ?_) (fun c9 => ?_)
      · replace h := ifN c9 h
        cases h
        exact v_vreturn dX5_keep_39
      · replace h := ifP c9 h
        refine v_aload_n dX5_keep_22 rfl 0 rfl ?_
        obtain ⟨v5, e, h⟩ := bind_some h
        refine gt_X5_9 e dX5_keep_23 ?_
        refine v_iload_n dX5_keep_26 rfl 1 rfl ?_
        refine v_iconst (v := 1) dX5_keep_27 ci_1 ?_
        obtain ⟨M6, e, h⟩ := bind_some h
        refine v_zastore dX5_keep_28 e ?_
        refine v_aload_n dX5_keep_29 rfl 0 rfl ?_
        refine v_dup dX5_keep_30 rfl ?_
        obtain ⟨v7, e, h⟩ := bind_some h
        refine gt_X5_53 e dX5_keep_31 ?_
        refine v_iconst (v := 1) dX5_keep_34 ci_1 ?_
        refine v_iadd dX5_keep_35 ?_
        obtain ⟨M8, e, h⟩ := bind_some h
        refine pt_X5_53 e dX5_keep_36 ?_
        cases h
        exact v_vreturn dX5_keep_39
theorem kd_X5_keep {l0 : Nat} {l1 : Int32} {M : Mem} {z : _} (h : f_X5_keep l0 l1 M = some z) : (mK M l0).1 = 5 := by
  unfold f_X5_keep at h
  exact (ifS h).1
theorem k_X5_keep {G : Gl} {l0 : Nat} {l1 : Int32} {M MF : Mem} (h : f_X5_keep l0 l1 M = some MF) : CtrP G yX5_keep cX5_keep 2 none 0 0 [.ref l0, .int l1] M (cvV ()) MF :=
  ctr_of (by decide +kernel) (Nat.le_of_ble_eq_true rfl) (fun ρ => w_X5_keep (r := ()) l0 l1 M h)
theorem wd_X11_224 : wdV RX11 224 RX5 yX5_keep cX5_keep 2 none 1 := ⟨gwi 1023 (by decide +kernel) (by decide +kernel), gwi 1024 (by decide +kernel) (by decide +kernel), gwi 1025 (by decide +kernel) (by decide +kernel), nw_X5, gwi 1026 (by decide +kernel) (by decide +kernel), ⟨rfl, by decide +kernel, by decide +kernel, by decide +kernel⟩⟩
theorem ca_X11_224 {G : Gl} {B : Bx} {cc : ByteArray} {ret : Option FieldType} {fr lo nL : Nat} {mn : String} {hh : List (Nat × Nat × Nat × Nat)} {pc : Nat} {ls : List (Nat × Value)} {st : List Value} {M M1 : Mem} {l0 : Nat} {l1 : Int32} (e : f_X5_keep l0 l1 M = some M1) (hd : decode cc pc = .ok (.invokevirtual 224, 3)) (hcat : (st.map fun v => v.category).sum ≤ 8) (hR : 0 + 1 ≤ fr ∧ 8 + (2 + 11) + 0 ≤ lo) (k : V G (RX11, cc, ret, fr, lo, nL, mn, hh) B (pc + 3) ls (st) M1) : V G (RX11, cc, ret, fr, lo, nL, mn, hh) B pc ls (.int l1 :: .ref l0 :: st) M := v_callV0 (As := [.int l1]) (k_X5_keep e) wd_X11_224 clX5 (kd_X5_keep e) hd rfl rfl hcat hR k
set_option maxHeartbeats 4000000 in
set_option maxRecDepth 100000 in
theorem w_X5_forget {G : Gl} {ρ0 : Nat → Nat} {M0 MF : Mem} {r : Unit} (l0 : Nat) (l1 : Int32) (M : Mem) (h : f_X5_forget l0 l1 M = some MF) : V G (RX5, cX5_forget, none, 1, 21, 2, "forget", []) (ρ0, M0, cvV r, MF) 0 [(0, .ref l0), (1, .int l1)] [] M := by
  unfold f_X5_forget at h
  replace h := (ifS h).2
  refine v_aload_n dX5_forget_0 rfl 0 rfl ?_
  refine v_iload_n dX5_forget_1 rfl 1 rfl ?_
  obtain ⟨v2, M1, e, h⟩ := bindP_some h
  refine ca_X5_62 e dX5_forget_2 (Nat.le_of_ble_eq_true rfl) (by decide) ?_
  refine v_if_eq (tgt := 25) dX5_forget_5 (by decide) (fun c7 => ?_) (fun c7 => ?_)
  · replace h := ifP c7 h
    cases h
    exact v_vreturn dX5_forget_25
  · replace h := ifN c7 h
    refine v_aload_n dX5_forget_8 rfl 0 rfl ?_
    obtain ⟨v3, e, h⟩ := bind_some h
    refine gt_X5_9 e dX5_forget_9 ?_
    refine v_iload_n dX5_forget_12 rfl 1 rfl ?_
    refine v_iconst (v := 0) dX5_forget_13 ci_0 ?_
    obtain ⟨M4, e, h⟩ := bind_some h
    refine v_zastore dX5_forget_14 e ?_
    refine v_aload_n dX5_forget_15 rfl 0 rfl ?_
    refine v_dup dX5_forget_16 rfl ?_
    obtain ⟨v5, e, h⟩ := bind_some h
    refine gt_X5_53 e dX5_forget_17 ?_
    refine v_iconst (v := 1) dX5_forget_20 ci_1 ?_
    refine v_isub dX5_forget_21 ?_
    obtain ⟨M6, e, h⟩ := bind_some h
    refine pt_X5_53 e dX5_forget_22 ?_
    cases h
    exact v_vreturn dX5_forget_25
theorem kd_X5_forget {l0 : Nat} {l1 : Int32} {M : Mem} {z : _} (h : f_X5_forget l0 l1 M = some z) : (mK M l0).1 = 5 := by
  unfold f_X5_forget at h
  exact (ifS h).1
theorem k_X5_forget {G : Gl} {l0 : Nat} {l1 : Int32} {M MF : Mem} (h : f_X5_forget l0 l1 M = some MF) : CtrP G yX5_forget cX5_forget 2 none 1 21 [.ref l0, .int l1] M (cvV ()) MF :=
  ctr_of (by decide +kernel) (Nat.le_of_ble_eq_true rfl) (fun ρ => w_X5_forget (r := ()) l0 l1 M h)
theorem wd_X11_231 : wdV RX11 231 RX5 yX5_forget cX5_forget 2 none 1 := ⟨gwi 1035 (by decide +kernel) (by decide +kernel), gwi 1036 (by decide +kernel) (by decide +kernel), gwi 1037 (by decide +kernel) (by decide +kernel), nw_X5, gwi 1038 (by decide +kernel) (by decide +kernel), ⟨rfl, by decide +kernel, by decide +kernel, by decide +kernel⟩⟩
theorem ca_X11_231 {G : Gl} {B : Bx} {cc : ByteArray} {ret : Option FieldType} {fr lo nL : Nat} {mn : String} {hh : List (Nat × Nat × Nat × Nat)} {pc : Nat} {ls : List (Nat × Value)} {st : List Value} {M M1 : Mem} {l0 : Nat} {l1 : Int32} (e : f_X5_forget l0 l1 M = some M1) (hd : decode cc pc = .ok (.invokevirtual 231, 3)) (hcat : (st.map fun v => v.category).sum ≤ 8) (hR : 1 + 1 ≤ fr ∧ 8 + (2 + 11) + 21 ≤ lo) (k : V G (RX11, cc, ret, fr, lo, nL, mn, hh) B (pc + 3) ls (st) M1) : V G (RX11, cc, ret, fr, lo, nL, mn, hh) B pc ls (.int l1 :: .ref l0 :: st) M := v_callV0 (As := [.int l1]) (k_X5_forget e) wd_X11_231 clX5 (kd_X5_forget e) hd rfl rfl hcat hR k
set_option maxHeartbeats 4000000 in
set_option maxRecDepth 100000 in
theorem w_X10_sameAs_L2 {G : Gl} {ρ0 : Nat → Nat} {M0 MF : Mem} {r : Int32} : ∀ (n : Nat) (l0 : Nat) (l1 : Nat) (l2 : Int32) (M : Mem), f_X10_sameAs_L2 n l0 l1 l2 M = some (r, MF) → V G (RX10, cX10_sameAs, (some .boolean), 0, 0, 3, "sameAs", []) (ρ0, M0, cvI r, MF) 2 [(0, .ref l0), (1, .ref l1), (2, .int l2)] [] M := by
  intro n
  induction n with
  | zero => intro l0 l1 l2 M h; cases h
  | succ n ih =>
    intro l0 l1 l2 M h
    rw [f_X10_sameAs_L2] at h
    refine v_iload_n dX10_sameAs_2 rfl 2 rfl ?_
    refine v_iconst (v := 4) dX10_sameAs_3 ci_4 ?_
    refine v_icmp_ge (tgt := 31) dX10_sameAs_4 (by decide) (fun c6 => ?_) (fun c6 => ?_)
    · replace h := ifP c6 h
      refine v_iconst (v := 1) dX10_sameAs_31 ci_1 ?_
      obtain ⟨hz, rfl, rfl⟩ := okZ_some h
      exact v_zreturn dX10_sameAs_32 hz
    · replace h := ifN c6 h
      refine v_aload_n dX10_sameAs_7 rfl 0 rfl ?_
      obtain ⟨v1, e, h⟩ := bind_some h
      refine gt_X10_24 e dX10_sameAs_8 ?_
      refine v_iload_n dX10_sameAs_11 rfl 2 rfl ?_
      obtain ⟨v2, e, h⟩ := bind_some h
      refine v_laload dX10_sameAs_12 e ?_
      refine v_aload_n dX10_sameAs_13 rfl 1 rfl ?_
      obtain ⟨v3, e, h⟩ := bind_some h
      refine gt_X10_24 e dX10_sameAs_14 ?_
      refine v_iload_n dX10_sameAs_17 rfl 2 rfl ?_
      obtain ⟨v4, e, h⟩ := bind_some h
      refine v_laload dX10_sameAs_18 e ?_
      refine v_lcmp dX10_sameAs_19 ?_
      refine v_if_eq (tgt := 25) dX10_sameAs_20 (by decide) (fun c5 => ?_) (fun c5 => ?_)
      · replace h := ifP c5 h
        refine v_iinc (ls' := [(2, .int (l2 + 1)), (0, .ref l0), (1, .ref l1)]) dX10_sameAs_25 2 rfl (v := 1) ci_1 (by decide) rfl ?_
        refine v_goto (tgt := 2) dX10_sameAs_28 (by decide) ?_
        refine v_sub [1, 2, 0] rfl ?_
        exact ih l0 l1 (l2 + 1) M h
      · replace h := ifN c5 h
        refine v_iconst (v := 0) dX10_sameAs_23 ci_0 ?_
        obtain ⟨hz, rfl, rfl⟩ := okZ_some h
        exact v_zreturn dX10_sameAs_24 hz
set_option maxHeartbeats 4000000 in
set_option maxRecDepth 100000 in
theorem w_X10_sameAs {G : Gl} {ρ0 : Nat → Nat} {M0 MF : Mem} {r : Int32} (l0 : Nat) (l1 : Nat) (M : Mem) (h : f_X10_sameAs l0 l1 M = some (r, MF)) : V G (RX10, cX10_sameAs, (some .boolean), 0, 0, 3, "sameAs", []) (ρ0, M0, cvI r, MF) 0 [(0, .ref l0), (1, .ref l1)] [] M := by
  unfold f_X10_sameAs at h
  replace h := (ifS h).2
  refine v_iconst (v := 0) dX10_sameAs_0 ci_0 ?_
  refine v_istore_n (ls' := [(2, .int (0 : Int32)), (0, .ref l0), (1, .ref l1)]) dX10_sameAs_1 rfl (by decide) rfl ?_
  refine v_sub [1, 2, 0] rfl ?_
  exact w_X10_sameAs_L2 FU l0 l1 (0 : Int32) M h
theorem kd_X10_sameAs {l0 : Nat} {l1 : Nat} {M : Mem} {z : _} (h : f_X10_sameAs l0 l1 M = some z) : (mK M l0).1 = 10 := by
  unfold f_X10_sameAs at h
  exact (ifS h).1
theorem k_X10_sameAs {G : Gl} {l0 : Nat} {l1 : Nat} {M MF : Mem} {r : Int32} (h : f_X10_sameAs l0 l1 M = some (r, MF)) : CtrP G yX10_sameAs cX10_sameAs 3 (some .boolean) 0 0 [.ref l0, .ref l1] M (cvI r) MF :=
  ctr_of (by decide +kernel) (Nat.le_of_ble_eq_true rfl) (fun ρ => w_X10_sameAs l0 l1 M h)
theorem wd_X5_73 : wdV RX5 73 RX10 yX10_sameAs cX10_sameAs 3 (some .boolean) 1 := ⟨gwi 840 (by decide +kernel) (by decide +kernel), gwi 733 (by decide +kernel) (by decide +kernel), gwi 734 (by decide +kernel) (by decide +kernel), nw_X10, gwi 735 (by decide +kernel) (by decide +kernel), ⟨rfl, by decide +kernel, by decide +kernel, by decide +kernel⟩⟩
theorem ca_X5_73 {G : Gl} {B : Bx} {cc : ByteArray} {ret : Option FieldType} {fr lo nL : Nat} {mn : String} {hh : List (Nat × Nat × Nat × Nat)} {pc : Nat} {ls : List (Nat × Value)} {st : List Value} {M M1 : Mem} {l0 : Nat} {l1 : Nat} {x : Int32} (e : f_X10_sameAs l0 l1 M = some (x, M1)) (hd : decode cc pc = .ok (.invokevirtual 73, 3)) (hcat : (st.map fun v => v.category).sum ≤ 8) (hR : 0 + 1 ≤ fr ∧ 8 + (3 + 11) + 0 ≤ lo) (k : V G (RX5, cc, ret, fr, lo, nL, mn, hh) B (pc + 3) ls (.int x :: st) M1) : V G (RX5, cc, ret, fr, lo, nL, mn, hh) B pc ls (.ref l1 :: .ref l0 :: st) M := v_callVi (As := [.ref l1]) (k_X10_sameAs e) wd_X5_73 clX10 (kd_X10_sameAs e) hd rfl rfl hcat hR k
theorem wd_X7_183 : wdV RX7 183 RX10 yX10_sameAs cX10_sameAs 3 (some .boolean) 1 := ⟨gwi 744 (by decide +kernel) (by decide +kernel), gwi 733 (by decide +kernel) (by decide +kernel), gwi 734 (by decide +kernel) (by decide +kernel), nw_X10, gwi 735 (by decide +kernel) (by decide +kernel), ⟨rfl, by decide +kernel, by decide +kernel, by decide +kernel⟩⟩
theorem ca_X7_183 {G : Gl} {B : Bx} {cc : ByteArray} {ret : Option FieldType} {fr lo nL : Nat} {mn : String} {hh : List (Nat × Nat × Nat × Nat)} {pc : Nat} {ls : List (Nat × Value)} {st : List Value} {M M1 : Mem} {l0 : Nat} {l1 : Nat} {x : Int32} (e : f_X10_sameAs l0 l1 M = some (x, M1)) (hd : decode cc pc = .ok (.invokevirtual 183, 3)) (hcat : (st.map fun v => v.category).sum ≤ 8) (hR : 0 + 1 ≤ fr ∧ 8 + (3 + 11) + 0 ≤ lo) (k : V G (RX7, cc, ret, fr, lo, nL, mn, hh) B (pc + 3) ls (.int x :: st) M1) : V G (RX7, cc, ret, fr, lo, nL, mn, hh) B pc ls (.ref l1 :: .ref l0 :: st) M := v_callVi (As := [.ref l1]) (k_X10_sameAs e) wd_X7_183 clX10 (kd_X10_sameAs e) hd rfl rfl hcat hR k
theorem wd_X9_25 : wdV RX9 25 RX10 yX10_sameAs cX10_sameAs 3 (some .boolean) 1 := ⟨gwi 732 (by decide +kernel) (by decide +kernel), gwi 733 (by decide +kernel) (by decide +kernel), gwi 734 (by decide +kernel) (by decide +kernel), nw_X10, gwi 735 (by decide +kernel) (by decide +kernel), ⟨rfl, by decide +kernel, by decide +kernel, by decide +kernel⟩⟩
theorem ca_X9_25 {G : Gl} {B : Bx} {cc : ByteArray} {ret : Option FieldType} {fr lo nL : Nat} {mn : String} {hh : List (Nat × Nat × Nat × Nat)} {pc : Nat} {ls : List (Nat × Value)} {st : List Value} {M M1 : Mem} {l0 : Nat} {l1 : Nat} {x : Int32} (e : f_X10_sameAs l0 l1 M = some (x, M1)) (hd : decode cc pc = .ok (.invokevirtual 25, 3)) (hcat : (st.map fun v => v.category).sum ≤ 8) (hR : 0 + 1 ≤ fr ∧ 8 + (3 + 11) + 0 ≤ lo) (k : V G (RX9, cc, ret, fr, lo, nL, mn, hh) B (pc + 3) ls (.int x :: st) M1) : V G (RX9, cc, ret, fr, lo, nL, mn, hh) B pc ls (.ref l1 :: .ref l0 :: st) M := v_callVi (As := [.ref l1]) (k_X10_sameAs e) wd_X9_25 clX10 (kd_X10_sameAs e) hd rfl rfl hcat hR k
set_option maxHeartbeats 4000000 in
set_option maxRecDepth 100000 in
theorem w_X5_placeOf_L2 {G : Gl} {ρ0 : Nat → Nat} {M0 MF : Mem} {r : Int32} : ∀ (n : Nat) (l0 : Nat) (l1 : Nat) (l2 : Int32) (l3 : Int32) (M : Mem), f_X5_placeOf_L2 n l0 l1 l2 l3 M = some (r, MF) → V G (RX5, cX5_placeOf, (some .int), 1, 22, 4, "placeOf", []) (ρ0, M0, cvI r, MF) 2 [(0, .ref l0), (1, .ref l1), (2, .int l2), (3, .int l3)] [] M := by
  intro n
  induction n with
  | zero => intro l0 l1 l2 l3 M h; cases h
  | succ n ih =>
    intro l0 l1 l2 l3 M h
    rw [f_X5_placeOf_L2] at h
    refine v_iload_n dX5_placeOf_2 rfl 3 rfl ?_
    refine v_aload_n dX5_placeOf_3 rfl 0 rfl ?_
    obtain ⟨v1, e, h⟩ := bind_some h
    refine gt_X5_56 e dX5_placeOf_4 ?_
    refine v_icmp_ge (tgt := 53) dX5_placeOf_7 (by decide) (fun c13 => ?_) (fun c13 => ?_)
    · replace h := ifP c13 h
      refine v_iconst (v := (-1)) dX5_placeOf_53 ci_m1 ?_
      cases h
      exact v_ireturn dX5_placeOf_54
    · replace h := ifN c13 h
      refine v_iload_n dX5_placeOf_10 rfl 3 rfl ?_
      refine v_bipush (v := 6) dX5_placeOf_11 cb_6 ?_
      refine v_icmp_ge (tgt := 53) dX5_placeOf_13 (by decide) (fun c12 => ?_) (fun c12 => ?_)
      · replace h := ifP c12 h
        refine v_iconst (v := (-1)) dX5_placeOf_53 ci_m1 ?_
        cases h
        exact v_ireturn dX5_placeOf_54
      · replace h := ifN c12 h
        refine v_aload_n dX5_placeOf_16 rfl 0 rfl ?_
        obtain ⟨v2, e, h⟩ := bind_some h
        refine gt_X5_17 e dX5_placeOf_17 ?_
        refine v_iload_n dX5_placeOf_20 rfl 3 rfl ?_
        obtain ⟨v3, e, h⟩ := bind_some h
        refine al_8 e dX5_placeOf_21 ?_
        obtain ⟨v4, e, h⟩ := bind_some h
        refine gt_X5_66 e dX5_placeOf_22 ?_
        refine v_iload_n dX5_placeOf_25 rfl 2 rfl ?_
        refine v_icmp_ne (tgt := 47) dX5_placeOf_26 (by decide) (fun c11 => ?_) (fun c11 => ?_)
        · replace h := ifN c11 h
          refine v_iinc (ls' := [(3, .int (l3 + 1)), (0, .ref l0), (1, .ref l1), (2, .int l2)]) dX5_placeOf_47 3 rfl (v := 1) ci_1 (by decide) rfl ?_
          refine v_goto (tgt := 2) dX5_placeOf_50 (by decide) ?_
          refine v_sub [1, 2, 3, 0] rfl ?_
          exact ih l0 l1 l2 (l3 + 1) M h
        · replace h := ifP c11 h
          refine v_aload_n dX5_placeOf_29 rfl 0 rfl ?_
          obtain ⟨v5, e, h⟩ := bind_some h
          refine gt_X5_17 e dX5_placeOf_30 ?_
          refine v_iload_n dX5_placeOf_33 rfl 3 rfl ?_
          obtain ⟨v6, e, h⟩ := bind_some h
          refine al_8 e dX5_placeOf_34 ?_
          obtain ⟨v7, e, h⟩ := bind_some h
          refine gt_X5_69 e dX5_placeOf_35 ?_
          refine v_aload_n dX5_placeOf_38 rfl 1 rfl ?_
          obtain ⟨v9, M8, e, h⟩ := bindP_some h
          refine ca_X5_73 e dX5_placeOf_39 (Nat.le_of_ble_eq_true rfl) (by decide) ?_
          refine v_if_eq (tgt := 47) dX5_placeOf_42 (by decide) (fun c10 => ?_) (fun c10 => ?_)
          · replace h := ifP c10 h
            refine v_iinc (ls' := [(3, .int (l3 + 1)), (0, .ref l0), (1, .ref l1), (2, .int l2)]) dX5_placeOf_47 3 rfl (v := 1) ci_1 (by decide) rfl ?_
            refine v_goto (tgt := 2) dX5_placeOf_50 (by decide) ?_
            refine v_sub [1, 2, 3, 0] rfl ?_
            exact ih l0 l1 l2 (l3 + 1) M8 h
          · replace h := ifN c10 h
            refine v_iload_n dX5_placeOf_45 rfl 3 rfl ?_
            cases h
            exact v_ireturn dX5_placeOf_46
set_option maxHeartbeats 4000000 in
set_option maxRecDepth 100000 in
theorem w_X5_placeOf {G : Gl} {ρ0 : Nat → Nat} {M0 MF : Mem} {r : Int32} (l0 : Nat) (l1 : Nat) (l2 : Int32) (M : Mem) (h : f_X5_placeOf l0 l1 l2 M = some (r, MF)) : V G (RX5, cX5_placeOf, (some .int), 1, 22, 4, "placeOf", []) (ρ0, M0, cvI r, MF) 0 [(0, .ref l0), (1, .ref l1), (2, .int l2)] [] M := by
  unfold f_X5_placeOf at h
  replace h := (ifS h).2
  refine v_iconst (v := 0) dX5_placeOf_0 ci_0 ?_
  refine v_istore_n (ls' := [(3, .int (0 : Int32)), (0, .ref l0), (1, .ref l1), (2, .int l2)]) dX5_placeOf_1 rfl (by decide) rfl ?_
  refine v_sub [1, 2, 3, 0] rfl ?_
  exact w_X5_placeOf_L2 FU l0 l1 l2 (0 : Int32) M h
theorem kd_X5_placeOf {l0 : Nat} {l1 : Nat} {l2 : Int32} {M : Mem} {z : _} (h : f_X5_placeOf l0 l1 l2 M = some z) : (mK M l0).1 = 5 := by
  unfold f_X5_placeOf at h
  exact (ifS h).1
theorem k_X5_placeOf {G : Gl} {l0 : Nat} {l1 : Nat} {l2 : Int32} {M MF : Mem} {r : Int32} (h : f_X5_placeOf l0 l1 l2 M = some (r, MF)) : CtrP G yX5_placeOf cX5_placeOf 4 (some .int) 1 22 [.ref l0, .ref l1, .int l2] M (cvI r) MF :=
  ctr_of (by decide +kernel) (Nat.le_of_ble_eq_true rfl) (fun ρ => w_X5_placeOf l0 l1 l2 M h)
theorem wd_X11_151 : wdV RX11 151 RX5 yX5_placeOf cX5_placeOf 4 (some .int) 2 := ⟨gwi 933 (by decide +kernel) (by decide +kernel), gwi 837 (by decide +kernel) (by decide +kernel), gwi 838 (by decide +kernel) (by decide +kernel), nw_X5, gwi 839 (by decide +kernel) (by decide +kernel), ⟨rfl, by decide +kernel, by decide +kernel, by decide +kernel⟩⟩
theorem ca_X11_151 {G : Gl} {B : Bx} {cc : ByteArray} {ret : Option FieldType} {fr lo nL : Nat} {mn : String} {hh : List (Nat × Nat × Nat × Nat)} {pc : Nat} {ls : List (Nat × Value)} {st : List Value} {M M1 : Mem} {l0 : Nat} {l1 : Nat} {l2 : Int32} {x : Int32} (e : f_X5_placeOf l0 l1 l2 M = some (x, M1)) (hd : decode cc pc = .ok (.invokevirtual 151, 3)) (hcat : (st.map fun v => v.category).sum ≤ 8) (hR : 1 + 1 ≤ fr ∧ 8 + (4 + 11) + 22 ≤ lo) (k : V G (RX11, cc, ret, fr, lo, nL, mn, hh) B (pc + 3) ls (.int x :: st) M1) : V G (RX11, cc, ret, fr, lo, nL, mn, hh) B pc ls (.int l2 :: .ref l1 :: .ref l0 :: st) M := v_callVi (As := [.ref l1, .int l2]) (k_X5_placeOf e) wd_X11_151 clX5 (kd_X5_placeOf e) hd rfl rfl hcat hR k
theorem wd_X5_79 : wdV RX5 79 RX5 yX5_placeOf cX5_placeOf 4 (some .int) 2 := ⟨gwi 836 (by decide +kernel) (by decide +kernel), gwi 837 (by decide +kernel) (by decide +kernel), gwi 838 (by decide +kernel) (by decide +kernel), nw_X5, gwi 839 (by decide +kernel) (by decide +kernel), ⟨rfl, by decide +kernel, by decide +kernel, by decide +kernel⟩⟩
theorem ca_X5_79 {G : Gl} {B : Bx} {cc : ByteArray} {ret : Option FieldType} {fr lo nL : Nat} {mn : String} {hh : List (Nat × Nat × Nat × Nat)} {pc : Nat} {ls : List (Nat × Value)} {st : List Value} {M M1 : Mem} {l0 : Nat} {l1 : Nat} {l2 : Int32} {x : Int32} (e : f_X5_placeOf l0 l1 l2 M = some (x, M1)) (hd : decode cc pc = .ok (.invokevirtual 79, 3)) (hcat : (st.map fun v => v.category).sum ≤ 8) (hR : 1 + 1 ≤ fr ∧ 8 + (4 + 11) + 22 ≤ lo) (k : V G (RX5, cc, ret, fr, lo, nL, mn, hh) B (pc + 3) ls (.int x :: st) M1) : V G (RX5, cc, ret, fr, lo, nL, mn, hh) B pc ls (.int l2 :: .ref l1 :: .ref l0 :: st) M := v_callVi (As := [.ref l1, .int l2]) (k_X5_placeOf e) wd_X5_79 clX5 (kd_X5_placeOf e) hd rfl rfl hcat hR k
theorem wd_X7_177 : wdV RX7 177 RX5 yX5_placeOf cX5_placeOf 4 (some .int) 2 := ⟨gwi 961 (by decide +kernel) (by decide +kernel), gwi 837 (by decide +kernel) (by decide +kernel), gwi 838 (by decide +kernel) (by decide +kernel), nw_X5, gwi 839 (by decide +kernel) (by decide +kernel), ⟨rfl, by decide +kernel, by decide +kernel, by decide +kernel⟩⟩
theorem ca_X7_177 {G : Gl} {B : Bx} {cc : ByteArray} {ret : Option FieldType} {fr lo nL : Nat} {mn : String} {hh : List (Nat × Nat × Nat × Nat)} {pc : Nat} {ls : List (Nat × Value)} {st : List Value} {M M1 : Mem} {l0 : Nat} {l1 : Nat} {l2 : Int32} {x : Int32} (e : f_X5_placeOf l0 l1 l2 M = some (x, M1)) (hd : decode cc pc = .ok (.invokevirtual 177, 3)) (hcat : (st.map fun v => v.category).sum ≤ 8) (hR : 1 + 1 ≤ fr ∧ 8 + (4 + 11) + 22 ≤ lo) (k : V G (RX7, cc, ret, fr, lo, nL, mn, hh) B (pc + 3) ls (.int x :: st) M1) : V G (RX7, cc, ret, fr, lo, nL, mn, hh) B pc ls (.int l2 :: .ref l1 :: .ref l0 :: st) M := v_callVi (As := [.ref l1, .int l2]) (k_X5_placeOf e) wd_X7_177 clX5 (kd_X5_placeOf e) hd rfl rfl hcat hR k
set_option maxHeartbeats 4000000 in
set_option maxRecDepth 100000 in
theorem w_X5_gradeOf {G : Gl} {ρ0 : Nat → Nat} {M0 MF : Mem} {r : Int32} (l0 : Nat) (l1 : Nat) (l2 : Int32) (M : Mem) (h : f_X5_gradeOf l0 l1 l2 M = some (r, MF)) : V G (RX5, cX5_gradeOf, (some .int), 2, 45, 4, "gradeOf", []) (ρ0, M0, cvI r, MF) 0 [(0, .ref l0), (1, .ref l1), (2, .int l2)] [] M := by
  unfold f_X5_gradeOf at h
  replace h := (ifS h).2
  refine v_aload_n dX5_gradeOf_0 rfl 0 rfl ?_
  refine v_aload_n dX5_gradeOf_1 rfl 1 rfl ?_
  refine v_iload_n dX5_gradeOf_2 rfl 2 rfl ?_
  obtain ⟨v2, M1, e, h⟩ := bindP_some h
  refine ca_X5_79 e dX5_gradeOf_3 (Nat.le_of_ble_eq_true rfl) (by decide) ?_
  refine v_istore_n (ls' := [(3, .int v2), (0, .ref l0), (1, .ref l1), (2, .int l2)]) dX5_gradeOf_6 rfl (by decide) rfl ?_
  refine v_iload_n dX5_gradeOf_7 rfl 0 rfl ?_
  refine v_if_ge (tgt := 15) dX5_gradeOf_8 (by decide) (fun c6 => ?_) (fun c6 => ?_)
  · replace h := ifP c6 h
    refine v_aload_n dX5_gradeOf_15 rfl 1 rfl ?_
    obtain ⟨v3, e, h⟩ := bind_some h
    refine gt_X5_17 e dX5_gradeOf_16 ?_
    refine v_iload_n dX5_gradeOf_19 rfl 0 rfl ?_
    obtain ⟨v4, e, h⟩ := bind_some h
    refine al_8 e dX5_gradeOf_20 ?_
    obtain ⟨v5, e, h⟩ := bind_some h
    refine gt_X5_83 e dX5_gradeOf_21 ?_
    cases h
    exact v_ireturn dX5_gradeOf_24
  · replace h := ifN c6 h
    refine v_iconst (v := 0) dX5_gradeOf_11 ci_0 ?_
    refine v_goto (tgt := 24) dX5_gradeOf_12 (by decide) ?_
    cases h
    exact v_ireturn dX5_gradeOf_24
theorem kd_X5_gradeOf {l0 : Nat} {l1 : Nat} {l2 : Int32} {M : Mem} {z : _} (h : f_X5_gradeOf l0 l1 l2 M = some z) : (mK M l0).1 = 5 := by
  unfold f_X5_gradeOf at h
  exact (ifS h).1
theorem k_X5_gradeOf {G : Gl} {l0 : Nat} {l1 : Nat} {l2 : Int32} {M MF : Mem} {r : Int32} (h : f_X5_gradeOf l0 l1 l2 M = some (r, MF)) : CtrP G yX5_gradeOf cX5_gradeOf 4 (some .int) 2 45 [.ref l0, .ref l1, .int l2] M (cvI r) MF :=
  ctr_of (by decide +kernel) (Nat.le_of_ble_eq_true rfl) (fun ρ => w_X5_gradeOf l0 l1 l2 M h)
theorem wd_X7_221 : wdV RX7 221 RX5 yX5_gradeOf cX5_gradeOf 4 (some .int) 2 := ⟨gwi 832 (by decide +kernel) (by decide +kernel), gwi 833 (by decide +kernel) (by decide +kernel), gwi 834 (by decide +kernel) (by decide +kernel), nw_X5, gwi 835 (by decide +kernel) (by decide +kernel), ⟨rfl, by decide +kernel, by decide +kernel, by decide +kernel⟩⟩
theorem ca_X7_221 {G : Gl} {B : Bx} {cc : ByteArray} {ret : Option FieldType} {fr lo nL : Nat} {mn : String} {hh : List (Nat × Nat × Nat × Nat)} {pc : Nat} {ls : List (Nat × Value)} {st : List Value} {M M1 : Mem} {l0 : Nat} {l1 : Nat} {l2 : Int32} {x : Int32} (e : f_X5_gradeOf l0 l1 l2 M = some (x, M1)) (hd : decode cc pc = .ok (.invokevirtual 221, 3)) (hcat : (st.map fun v => v.category).sum ≤ 8) (hR : 2 + 1 ≤ fr ∧ 8 + (4 + 11) + 45 ≤ lo) (k : V G (RX7, cc, ret, fr, lo, nL, mn, hh) B (pc + 3) ls (.int x :: st) M1) : V G (RX7, cc, ret, fr, lo, nL, mn, hh) B pc ls (.int l2 :: .ref l1 :: .ref l0 :: st) M := v_callVi (As := [.ref l1, .int l2]) (k_X5_gradeOf e) wd_X7_221 clX5 (kd_X5_gradeOf e) hd rfl rfl hcat hR k
set_option maxHeartbeats 4000000 in
set_option maxRecDepth 100000 in
theorem w_X5_addSubscription {G : Gl} {ρ0 : Nat → Nat} {M0 MF : Mem} {r : Unit} (l0 : Nat) (l1 : Nat) (l2 : Int32) (M : Mem) (h : f_X5_addSubscription l0 l1 l2 M = some MF) : V G (RX5, cX5_addSubscription, none, 0, 0, 4, "addSubscription", []) (ρ0, M0, cvV r, MF) 0 [(0, .ref l0), (1, .ref l1), (2, .int l2)] [] M := by
  unfold f_X5_addSubscription at h
  replace h := (ifS h).2
  refine v_aload_n dX5_addSubscription_0 rfl 0 rfl ?_
  obtain ⟨v1, e, h⟩ := bind_some h
  refine gt_X5_56 e dX5_addSubscription_1 ?_
  refine v_if_lt (tgt := 56) dX5_addSubscription_4 (by decide) (fun c13 => ?_) (fun c13 => ?_)
  · replace h := ifP c13 h
    cases h
    exact v_vreturn dX5_addSubscription_56
  · replace h := ifN c13 h
    refine v_aload_n dX5_addSubscription_7 rfl 0 rfl ?_
    obtain ⟨v2, e, h⟩ := bind_some h
    refine gt_X5_56 e dX5_addSubscription_8 ?_
    refine v_bipush (v := 6) dX5_addSubscription_11 cb_6 ?_
    refine v_icmp_ge (tgt := 56) dX5_addSubscription_13 (by decide) (fun c12 => ?_) (fun c12 => ?_)
    · replace h := ifP c12 h
      cases h
      exact v_vreturn dX5_addSubscription_56
    · replace h := ifN c12 h
      refine v_aload_n dX5_addSubscription_16 rfl 0 rfl ?_
      obtain ⟨v3, e, h⟩ := bind_some h
      refine gt_X5_17 e dX5_addSubscription_17 ?_
      refine v_aload_n dX5_addSubscription_20 rfl 0 rfl ?_
      obtain ⟨v4, e, h⟩ := bind_some h
      refine gt_X5_56 e dX5_addSubscription_21 ?_
      obtain ⟨v5, e, h⟩ := bind_some h
      refine al_8 e dX5_addSubscription_24 ?_
      refine v_astore_n (ls' := [(3, .ref v5), (0, .ref l0), (1, .ref l1), (2, .int l2)]) dX5_addSubscription_25 rfl (by decide) rfl ?_
      refine v_aload_n dX5_addSubscription_26 rfl 0 rfl ?_
      refine v_aload_n dX5_addSubscription_27 rfl 2 rfl ?_
      obtain ⟨M6, e, h⟩ := bind_some h
      refine pt_X5_69 e dX5_addSubscription_28 ?_
      refine v_aload_n dX5_addSubscription_31 rfl 0 rfl ?_
      refine v_iload_n dX5_addSubscription_32 rfl 3 rfl ?_
      obtain ⟨M7, e, h⟩ := bind_some h
      refine pt_X5_66 e dX5_addSubscription_33 ?_
      refine v_aload_n dX5_addSubscription_36 rfl 0 rfl ?_
      refine v_iconst (v := 0) dX5_addSubscription_37 ci_0 ?_
      obtain ⟨M8, e, h⟩ := bind_some h
      refine pt_X5_83 e dX5_addSubscription_38 ?_
      refine v_aload_n dX5_addSubscription_41 rfl 0 rfl ?_
      refine v_iconst (v := 0) dX5_addSubscription_42 ci_0 ?_
      obtain ⟨M9, e, h⟩ := bind_some h
      refine pt_X5_86 e dX5_addSubscription_43 ?_
      refine v_aload_n dX5_addSubscription_46 rfl 1 rfl ?_
      refine v_dup dX5_addSubscription_47 rfl ?_
      obtain ⟨v10, e, h⟩ := bind_some h
      refine gt_X5_56 e dX5_addSubscription_48 ?_
      refine v_iconst (v := 1) dX5_addSubscription_51 ci_1 ?_
      refine v_iadd dX5_addSubscription_52 ?_
      obtain ⟨M11, e, h⟩ := bind_some h
      refine pt_X5_56 e dX5_addSubscription_53 ?_
      cases h
      exact v_vreturn dX5_addSubscription_56
theorem kd_X5_addSubscription {l0 : Nat} {l1 : Nat} {l2 : Int32} {M : Mem} {z : _} (h : f_X5_addSubscription l0 l1 l2 M = some z) : (mK M l0).1 = 5 := by
  unfold f_X5_addSubscription at h
  exact (ifS h).1
theorem k_X5_addSubscription {G : Gl} {l0 : Nat} {l1 : Nat} {l2 : Int32} {M MF : Mem} (h : f_X5_addSubscription l0 l1 l2 M = some MF) : CtrP G yX5_addSubscription cX5_addSubscription 4 none 0 0 [.ref l0, .ref l1, .int l2] M (cvV ()) MF :=
  ctr_of (by decide +kernel) (Nat.le_of_ble_eq_true rfl) (fun ρ => w_X5_addSubscription (r := ()) l0 l1 l2 M h)
theorem wd_X7_157 : wdV RX7 157 RX5 yX5_addSubscription cX5_addSubscription 4 none 2 := ⟨gwi 938 (by decide +kernel) (by decide +kernel), gwi 939 (by decide +kernel) (by decide +kernel), gwi 940 (by decide +kernel) (by decide +kernel), nw_X5, gwi 941 (by decide +kernel) (by decide +kernel), ⟨rfl, by decide +kernel, by decide +kernel, by decide +kernel⟩⟩
theorem ca_X7_157 {G : Gl} {B : Bx} {cc : ByteArray} {ret : Option FieldType} {fr lo nL : Nat} {mn : String} {hh : List (Nat × Nat × Nat × Nat)} {pc : Nat} {ls : List (Nat × Value)} {st : List Value} {M M1 : Mem} {l0 : Nat} {l1 : Nat} {l2 : Int32} (e : f_X5_addSubscription l0 l1 l2 M = some M1) (hd : decode cc pc = .ok (.invokevirtual 157, 3)) (hcat : (st.map fun v => v.category).sum ≤ 8) (hR : 0 + 1 ≤ fr ∧ 8 + (4 + 11) + 0 ≤ lo) (k : V G (RX7, cc, ret, fr, lo, nL, mn, hh) B (pc + 3) ls (st) M1) : V G (RX7, cc, ret, fr, lo, nL, mn, hh) B pc ls (.int l2 :: .ref l1 :: .ref l0 :: st) M := v_callV0 (As := [.ref l1, .int l2]) (k_X5_addSubscription e) wd_X7_157 clX5 (kd_X5_addSubscription e) hd rfl rfl hcat hR k
set_option maxHeartbeats 4000000 in
set_option maxRecDepth 100000 in
theorem w_X5_removeSubscriptionAt_L31 {G : Gl} {ρ0 : Nat → Nat} {M0 MF : Mem} {r : Unit} : ∀ (n : Nat) (l0 : Nat) (l2 : Nat) (l3 : Int32) (M : Mem), f_X5_removeSubscriptionAt_L31 n l0 l2 l3 M = some MF → V G (RX5, cX5_removeSubscriptionAt, none, 0, 0, 4, "removeSubscriptionAt", []) (ρ0, M0, cvV r, MF) 31 [(0, .ref l0), (2, .ref l2), (3, .int l3)] [] M := by
  intro n
  induction n with
  | zero => intro l0 l2 l3 M h; cases h
  | succ n ih =>
    intro l0 l2 l3 M h
    rw [f_X5_removeSubscriptionAt_L31] at h
    refine v_iload_n dX5_removeSubscriptionAt_31 rfl 2 rfl ?_
    refine v_iconst (v := 1) dX5_removeSubscriptionAt_32 ci_1 ?_
    refine v_iadd dX5_removeSubscriptionAt_33 ?_
    refine v_aload_n dX5_removeSubscriptionAt_34 rfl 0 rfl ?_
    obtain ⟨v1, e, h⟩ := bind_some h
    refine gt_X5_56 e dX5_removeSubscriptionAt_35 ?_
    refine v_icmp_ge (tgt := 61) dX5_removeSubscriptionAt_38 (by decide) (fun c7 => ?_) (fun c7 => ?_)
    · replace h := ifP c7 h
      refine v_aload_n dX5_removeSubscriptionAt_61 rfl 0 rfl ?_
      obtain ⟨v2, e, h⟩ := bind_some h
      refine gt_X5_17 e dX5_removeSubscriptionAt_62 ?_
      refine v_aload_n dX5_removeSubscriptionAt_65 rfl 0 rfl ?_
      obtain ⟨v3, e, h⟩ := bind_some h
      refine gt_X5_56 e dX5_removeSubscriptionAt_66 ?_
      refine v_iconst (v := 1) dX5_removeSubscriptionAt_69 ci_1 ?_
      refine v_isub dX5_removeSubscriptionAt_70 ?_
      refine v_aload_n dX5_removeSubscriptionAt_71 rfl 1 rfl ?_
      obtain ⟨M4, e, h⟩ := bind_some h
      refine as_8 e dX5_removeSubscriptionAt_72 ?_
      refine v_aload_n dX5_removeSubscriptionAt_73 rfl 0 rfl ?_
      refine v_dup dX5_removeSubscriptionAt_74 rfl ?_
      obtain ⟨v5, e, h⟩ := bind_some h
      refine gt_X5_56 e dX5_removeSubscriptionAt_75 ?_
      refine v_iconst (v := 1) dX5_removeSubscriptionAt_78 ci_1 ?_
      refine v_isub dX5_removeSubscriptionAt_79 ?_
      obtain ⟨M6, e, h⟩ := bind_some h
      refine pt_X5_56 e dX5_removeSubscriptionAt_80 ?_
      cases h
      exact v_vreturn dX5_removeSubscriptionAt_83
    · replace h := ifN c7 h
      refine v_aload_n dX5_removeSubscriptionAt_41 rfl 0 rfl ?_
      obtain ⟨v2, e, h⟩ := bind_some h
      refine gt_X5_17 e dX5_removeSubscriptionAt_42 ?_
      refine v_iload_n dX5_removeSubscriptionAt_45 rfl 2 rfl ?_
      refine v_aload_n dX5_removeSubscriptionAt_46 rfl 0 rfl ?_
      obtain ⟨v3, e, h⟩ := bind_some h
      refine gt_X5_17 e dX5_removeSubscriptionAt_47 ?_
      refine v_iload_n dX5_removeSubscriptionAt_50 rfl 2 rfl ?_
      refine v_iconst (v := 1) dX5_removeSubscriptionAt_51 ci_1 ?_
      refine v_iadd dX5_removeSubscriptionAt_52 ?_
      obtain ⟨v4, e, h⟩ := bind_some h
      refine al_8 e dX5_removeSubscriptionAt_53 ?_
      obtain ⟨M5, e, h⟩ := bind_some h
      refine as_8 e dX5_removeSubscriptionAt_54 ?_
      refine v_iinc (ls' := [(3, .int (l3 + 1)), (0, .ref l0), (2, .ref l2)]) dX5_removeSubscriptionAt_55 2 rfl (v := 1) ci_1 (by decide) rfl ?_
      refine v_goto (tgt := 31) dX5_removeSubscriptionAt_58 (by decide) ?_
      refine v_sub [1, 2, 0] rfl ?_
      exact ih l0 l2 (l3 + 1) M5 h
set_option maxHeartbeats 4000000 in
set_option maxRecDepth 100000 in
theorem w_X5_removeSubscriptionAt {G : Gl} {ρ0 : Nat → Nat} {M0 MF : Mem} {r : Unit} (l0 : Nat) (l1 : Int32) (M : Mem) (h : f_X5_removeSubscriptionAt l0 l1 M = some MF) : V G (RX5, cX5_removeSubscriptionAt, none, 0, 0, 4, "removeSubscriptionAt", []) (ρ0, M0, cvV r, MF) 0 [(0, .ref l0), (1, .int l1)] [] M := by
  unfold f_X5_removeSubscriptionAt at h
  replace h := (ifS h).2
  refine v_iload_n dX5_removeSubscriptionAt_0 rfl 1 rfl ?_
  refine v_if_lt (tgt := 21) dX5_removeSubscriptionAt_1 (by decide) (fun c7 => ?_) (fun c7 => ?_)
  · replace h := ifP c7 h
    cases h
    exact v_vreturn dX5_removeSubscriptionAt_21
  · replace h := ifN c7 h
    refine v_iload_n dX5_removeSubscriptionAt_4 rfl 1 rfl ?_
    refine v_aload_n dX5_removeSubscriptionAt_5 rfl 0 rfl ?_
    obtain ⟨v1, e, h⟩ := bind_some h
    refine gt_X5_56 e dX5_removeSubscriptionAt_6 ?_
    refine v_icmp_ge (tgt := 21) dX5_removeSubscriptionAt_9 (by decide) (fun c6 => ?_) (fun c6 => ?_)
    · replace h := ifP c6 h
      cases h
      exact v_vreturn dX5_removeSubscriptionAt_21
    · replace h := ifN c6 h
      refine v_aload_n dX5_removeSubscriptionAt_12 rfl 0 rfl ?_
      obtain ⟨v2, e, h⟩ := bind_some h
      refine gt_X5_56 e dX5_removeSubscriptionAt_13 ?_
      refine v_bipush (v := 6) dX5_removeSubscriptionAt_16 cb_6 ?_
      refine v_icmp_le (tgt := 22) dX5_removeSubscriptionAt_18 (by decide) (fun c5 => ?_) (fun c5 => ?_)
      · replace h := ifP c5 h
        refine v_aload_n dX5_removeSubscriptionAt_22 rfl 0 rfl ?_
        obtain ⟨v3, e, h⟩ := bind_some h
        refine gt_X5_17 e dX5_removeSubscriptionAt_23 ?_
        refine v_iload_n dX5_removeSubscriptionAt_26 rfl 1 rfl ?_
        obtain ⟨v4, e, h⟩ := bind_some h
        refine al_8 e dX5_removeSubscriptionAt_27 ?_
        refine v_astore_n (ls' := [(2, .ref v4), (0, .ref l0), (1, .int l1)]) dX5_removeSubscriptionAt_28 rfl (by decide) rfl ?_
        refine v_iload_n dX5_removeSubscriptionAt_29 rfl 2 rfl ?_
        refine v_istore_n (ls' := [(3, .int l1), (2, .ref v4), (0, .ref l0), (1, .int l1)]) dX5_removeSubscriptionAt_30 rfl (by decide) rfl ?_
        refine v_sub [2, 1, 0] rfl ?_
        exact w_X5_removeSubscriptionAt_L31 FU l0 v4 l1 M h
      · replace h := ifN c5 h
        cases h
        exact v_vreturn dX5_removeSubscriptionAt_21
theorem kd_X5_removeSubscriptionAt {l0 : Nat} {l1 : Int32} {M : Mem} {z : _} (h : f_X5_removeSubscriptionAt l0 l1 M = some z) : (mK M l0).1 = 5 := by
  unfold f_X5_removeSubscriptionAt at h
  exact (ifS h).1
theorem k_X5_removeSubscriptionAt {G : Gl} {l0 : Nat} {l1 : Int32} {M MF : Mem} (h : f_X5_removeSubscriptionAt l0 l1 M = some MF) : CtrP G yX5_removeSubscriptionAt cX5_removeSubscriptionAt 4 none 0 0 [.ref l0, .int l1] M (cvV ()) MF :=
  ctr_of (by decide +kernel) (Nat.le_of_ble_eq_true rfl) (fun ρ => w_X5_removeSubscriptionAt (r := ()) l0 l1 M h)
theorem wd_X7_180 : wdV RX7 180 RX5 yX5_removeSubscriptionAt cX5_removeSubscriptionAt 4 none 1 := ⟨gwi 962 (by decide +kernel) (by decide +kernel), gwi 963 (by decide +kernel) (by decide +kernel), gwi 964 (by decide +kernel) (by decide +kernel), nw_X5, gwi 965 (by decide +kernel) (by decide +kernel), ⟨rfl, by decide +kernel, by decide +kernel, by decide +kernel⟩⟩
theorem ca_X7_180 {G : Gl} {B : Bx} {cc : ByteArray} {ret : Option FieldType} {fr lo nL : Nat} {mn : String} {hh : List (Nat × Nat × Nat × Nat)} {pc : Nat} {ls : List (Nat × Value)} {st : List Value} {M M1 : Mem} {l0 : Nat} {l1 : Int32} (e : f_X5_removeSubscriptionAt l0 l1 M = some M1) (hd : decode cc pc = .ok (.invokevirtual 180, 3)) (hcat : (st.map fun v => v.category).sum ≤ 8) (hR : 0 + 1 ≤ fr ∧ 8 + (4 + 11) + 0 ≤ lo) (k : V G (RX7, cc, ret, fr, lo, nL, mn, hh) B (pc + 3) ls (st) M1) : V G (RX7, cc, ret, fr, lo, nL, mn, hh) B pc ls (.int l1 :: .ref l0 :: st) M := v_callV0 (As := [.int l1]) (k_X5_removeSubscriptionAt e) wd_X7_180 clX5 (kd_X5_removeSubscriptionAt e) hd rfl rfl hcat hR k
set_option maxHeartbeats 4000000 in
set_option maxRecDepth 100000 in
theorem w_X10_fits {G : Gl} {ρ0 : Nat → Nat} {M0 MF : Mem} {r : Int32} (l0 : Nat) (l1 : Int32) (M : Mem) (h : f_X10_fits l0 l1 M = some (r, MF)) : V G (RX10, cX10_fits, (some .boolean), 0, 0, 2, "fits", []) (ρ0, M0, cvI r, MF) 0 [(0, .ref l0), (1, .int l1)] [] M := by
  unfold f_X10_fits at h
  replace h := (ifS h).2
  refine v_aload_n dX10_fits_0 rfl 0 rfl ?_
  obtain ⟨v1, e, h⟩ := bind_some h
  refine gt_X10_32 e dX10_fits_1 ?_
  refine v_if_eq (tgt := 23) dX10_fits_4 (by decide) (fun c4 => ?_) (fun c4 => ?_)
  · replace h := ifP c4 h
    refine v_iload_n dX10_fits_23 rfl 1 rfl ?_
    refine v_aload_n dX10_fits_24 rfl 0 rfl ?_
    obtain ⟨v2, e, h⟩ := bind_some h
    refine gt_X10_36 e dX10_fits_25 ?_
    refine v_icmp_ne (tgt := 35) dX10_fits_28 (by decide) (fun c3 => ?_) (fun c3 => ?_)
    · replace h := ifN c3 h
      refine v_iconst (v := 0) dX10_fits_35 ci_0 ?_
      obtain ⟨hz, rfl, rfl⟩ := okZ_some h
      exact v_zreturn dX10_fits_36 hz
    · replace h := ifP c3 h
      refine v_iconst (v := 1) dX10_fits_31 ci_1 ?_
      refine v_goto (tgt := 36) dX10_fits_32 (by decide) ?_
      obtain ⟨hz, rfl, rfl⟩ := okZ_some h
      exact v_zreturn dX10_fits_36 hz
  · replace h := ifN c4 h
    refine v_iload_n dX10_fits_7 rfl 1 rfl ?_
    refine v_aload_n dX10_fits_8 rfl 0 rfl ?_
    obtain ⟨v2, e, h⟩ := bind_some h
    refine gt_X10_36 e dX10_fits_9 ?_
    refine v_icmp_lt (tgt := 19) dX10_fits_12 (by decide) (fun c3 => ?_) (fun c3 => ?_)
    · replace h := ifP c3 h
      refine v_iconst (v := 0) dX10_fits_19 ci_0 ?_
      refine v_goto (tgt := 36) dX10_fits_20 (by decide) ?_
      obtain ⟨hz, rfl, rfl⟩ := okZ_some h
      exact v_zreturn dX10_fits_36 hz
    · replace h := ifN c3 h
      refine v_iconst (v := 1) dX10_fits_15 ci_1 ?_
      refine v_goto (tgt := 36) dX10_fits_16 (by decide) ?_
      obtain ⟨hz, rfl, rfl⟩ := okZ_some h
      exact v_zreturn dX10_fits_36 hz
theorem kd_X10_fits {l0 : Nat} {l1 : Int32} {M : Mem} {z : _} (h : f_X10_fits l0 l1 M = some z) : (mK M l0).1 = 10 := by
  unfold f_X10_fits at h
  exact (ifS h).1
theorem k_X10_fits {G : Gl} {l0 : Nat} {l1 : Int32} {M MF : Mem} {r : Int32} (h : f_X10_fits l0 l1 M = some (r, MF)) : CtrP G yX10_fits cX10_fits 2 (some .boolean) 0 0 [.ref l0, .int l1] M (cvI r) MF :=
  ctr_of (by decide +kernel) (Nat.le_of_ble_eq_true rfl) (fun ρ => w_X10_fits l0 l1 M h)
theorem wd_X10_47 : wdV RX10 47 RX10 yX10_fits cX10_fits 2 (some .boolean) 1 := ⟨gwi 765 (by decide +kernel) (by decide +kernel), gwi 767 (by decide +kernel) (by decide +kernel), gwi 6 (by decide +kernel) (by decide +kernel), nw_X10, gwi 768 (by decide +kernel) (by decide +kernel), ⟨rfl, by decide +kernel, by decide +kernel, by decide +kernel⟩⟩
theorem ca_X10_47 {G : Gl} {B : Bx} {cc : ByteArray} {ret : Option FieldType} {fr lo nL : Nat} {mn : String} {hh : List (Nat × Nat × Nat × Nat)} {pc : Nat} {ls : List (Nat × Value)} {st : List Value} {M M1 : Mem} {l0 : Nat} {l1 : Int32} {x : Int32} (e : f_X10_fits l0 l1 M = some (x, M1)) (hd : decode cc pc = .ok (.invokevirtual 47, 3)) (hcat : (st.map fun v => v.category).sum ≤ 8) (hR : 0 + 1 ≤ fr ∧ 8 + (2 + 11) + 0 ≤ lo) (k : V G (RX10, cc, ret, fr, lo, nL, mn, hh) B (pc + 3) ls (.int x :: st) M1) : V G (RX10, cc, ret, fr, lo, nL, mn, hh) B pc ls (.int l1 :: .ref l0 :: st) M := v_callVi (As := [.int l1]) (k_X10_fits e) wd_X10_47 clX10 (kd_X10_fits e) hd rfl rfl hcat hR k
set_option maxHeartbeats 4000000 in
set_option maxRecDepth 100000 in
theorem w_X10_levelAt {G : Gl} {ρ0 : Nat → Nat} {M0 MF : Mem} {r : Int64} (l0 : Nat) (l1 : Int32) (M : Mem) (h : f_X10_levelAt l0 l1 M = some (r, MF)) : V G (RX10, cX10_levelAt, (some .long), 0, 0, 2, "levelAt", []) (ρ0, M0, cvL r, MF) 0 [(0, .ref l0), (1, .int l1)] [] M := by
  unfold f_X10_levelAt at h
  replace h := (ifS h).2
  refine v_iload_n dX10_levelAt_0 rfl 1 rfl ?_
  refine v_if_lt (tgt := 26) dX10_levelAt_1 (by decide) (fun c6 => ?_) (fun c6 => ?_)
  · replace h := ifP c6 h
    refine kl_X10_54 dX10_levelAt_26 ?_
    cases h
    exact v_lreturn dX10_levelAt_29
  · replace h := ifN c6 h
    refine v_iload_n dX10_levelAt_4 rfl 1 rfl ?_
    refine v_aload_n dX10_levelAt_5 rfl 0 rfl ?_
    obtain ⟨v1, e, h⟩ := bind_some h
    refine gt_X10_36 e dX10_levelAt_6 ?_
    refine v_icmp_ge (tgt := 26) dX10_levelAt_9 (by decide) (fun c5 => ?_) (fun c5 => ?_)
    · replace h := ifP c5 h
      refine kl_X10_54 dX10_levelAt_26 ?_
      cases h
      exact v_lreturn dX10_levelAt_29
    · replace h := ifN c5 h
      refine v_iload_n dX10_levelAt_12 rfl 1 rfl ?_
      refine v_iconst (v := 4) dX10_levelAt_13 ci_4 ?_
      refine v_icmp_ge (tgt := 26) dX10_levelAt_14 (by decide) (fun c4 => ?_) (fun c4 => ?_)
      · replace h := ifP c4 h
        refine kl_X10_54 dX10_levelAt_26 ?_
        cases h
        exact v_lreturn dX10_levelAt_29
      · replace h := ifN c4 h
        refine v_aload_n dX10_levelAt_17 rfl 0 rfl ?_
        obtain ⟨v2, e, h⟩ := bind_some h
        refine gt_X10_24 e dX10_levelAt_18 ?_
        refine v_iload_n dX10_levelAt_21 rfl 1 rfl ?_
        obtain ⟨v3, e, h⟩ := bind_some h
        refine v_laload dX10_levelAt_22 e ?_
        refine v_goto (tgt := 29) dX10_levelAt_23 (by decide) ?_
        cases h
        exact v_lreturn dX10_levelAt_29
theorem kd_X10_levelAt {l0 : Nat} {l1 : Int32} {M : Mem} {z : _} (h : f_X10_levelAt l0 l1 M = some z) : (mK M l0).1 = 10 := by
  unfold f_X10_levelAt at h
  exact (ifS h).1
theorem k_X10_levelAt {G : Gl} {l0 : Nat} {l1 : Int32} {M MF : Mem} {r : Int64} (h : f_X10_levelAt l0 l1 M = some (r, MF)) : CtrP G yX10_levelAt cX10_levelAt 2 (some .long) 0 0 [.ref l0, .int l1] M (cvL r) MF :=
  ctr_of (by decide +kernel) (Nat.le_of_ble_eq_true rfl) (fun ρ => w_X10_levelAt l0 l1 M h)
theorem wd_X10_56 : wdV RX10 56 RX10 yX10_levelAt cX10_levelAt 2 (some .long) 1 := ⟨gwi 769 (by decide +kernel) (by decide +kernel), gwi 771 (by decide +kernel) (by decide +kernel), gwi 7 (by decide +kernel) (by decide +kernel), nw_X10, gwi 772 (by decide +kernel) (by decide +kernel), ⟨rfl, by decide +kernel, by decide +kernel, by decide +kernel⟩⟩
theorem ca_X10_56 {G : Gl} {B : Bx} {cc : ByteArray} {ret : Option FieldType} {fr lo nL : Nat} {mn : String} {hh : List (Nat × Nat × Nat × Nat)} {pc : Nat} {ls : List (Nat × Value)} {st : List Value} {M M1 : Mem} {l0 : Nat} {l1 : Int32} {x : Int64} (e : f_X10_levelAt l0 l1 M = some (x, M1)) (hd : decode cc pc = .ok (.invokevirtual 56, 3)) (hcat : (st.map fun v => v.category).sum ≤ 8) (hR : 0 + 1 ≤ fr ∧ 8 + (2 + 11) + 0 ≤ lo) (k : V G (RX10, cc, ret, fr, lo, nL, mn, hh) B (pc + 3) ls (.long x :: st) M1) : V G (RX10, cc, ret, fr, lo, nL, mn, hh) B pc ls (.int l1 :: .ref l0 :: st) M := v_callVl (As := [.int l1]) (k_X10_levelAt e) wd_X10_56 clX10 (kd_X10_levelAt e) hd rfl rfl hcat hR k
set_option maxHeartbeats 4000000 in
set_option maxRecDepth 100000 in
theorem w_X10_coversWith_L12 {G : Gl} {ρ0 : Nat → Nat} {M0 MF : Mem} {r : Int32} : ∀ (n : Nat) (l0 : Nat) (l1 : Nat) (l2 : Int32) (l3 : Int32) (M : Mem), f_X10_coversWith_L12 n l0 l1 l2 l3 M = some (r, MF) → V G (RX10, cX10_coversWith, (some .boolean), 1, 21, 6, "coversWith", []) (ρ0, M0, cvI r, MF) 12 [(0, .ref l0), (1, .ref l1), (2, .int l2), (3, .int l3)] [] M := by
  intro n
  induction n with
  | zero => intro l0 l1 l2 l3 M h; cases h
  | succ n ih =>
    intro l0 l1 l2 l3 M h
    rw [f_X10_coversWith_L12] at h
    refine v_iload_n dX10_coversWith_12 rfl 3 rfl ?_
    refine v_iload_n dX10_coversWith_13 rfl 2 rfl ?_
    refine v_icmp_ge (tgt := 52) dX10_coversWith_14 (by decide) (fun c7 => ?_) (fun c7 => ?_)
    · replace h := ifP c7 h
      refine v_iconst (v := 1) dX10_coversWith_52 ci_1 ?_
      obtain ⟨hz, rfl, rfl⟩ := okZ_some h
      exact v_zreturn dX10_coversWith_53 hz
    · replace h := ifN c7 h
      refine v_aload_n dX10_coversWith_17 rfl 0 rfl ?_
      refine v_iload_n dX10_coversWith_18 rfl 3 rfl ?_
      obtain ⟨v2, M1, e, h⟩ := bindP_some h
      refine ca_X10_56 e dX10_coversWith_19 (Nat.le_of_ble_eq_true rfl) (by decide) ?_
      refine v_lstore (ls' := [(4, .long v2), (0, .ref l0), (1, .ref l1), (2, .int l2), (3, .int l3)]) dX10_coversWith_22 (by decide) rfl ?_
      refine v_lload dX10_coversWith_24 0 rfl ?_
      refine kl_X10_54 dX10_coversWith_26 ?_
      refine v_lcmp dX10_coversWith_29 ?_
      refine v_if_eq (tgt := 46) dX10_coversWith_30 (by decide) (fun c6 => ?_) (fun c6 => ?_)
      · replace h := ifP c6 h
        refine v_iinc (ls' := [(3, .int (l3 + 1)), (4, .long v2), (0, .ref l0), (1, .ref l1), (2, .int l2)]) dX10_coversWith_46 4 rfl (v := 1) ci_1 (by decide) rfl ?_
        refine v_goto (tgt := 12) dX10_coversWith_49 (by decide) ?_
        refine v_sub [2, 3, 4, 0] rfl ?_
        exact ih l0 l1 l2 (l3 + 1) M1 h
      · replace h := ifN c6 h
        refine v_lload dX10_coversWith_33 0 rfl ?_
        refine v_aload_n dX10_coversWith_35 rfl 2 rfl ?_
        refine v_iload_n dX10_coversWith_36 rfl 4 rfl ?_
        obtain ⟨v4, M3, e, h⟩ := bindP_some h
        refine ca_X10_56 e dX10_coversWith_37 (Nat.le_of_ble_eq_true rfl) (by decide) ?_
        refine v_lcmp dX10_coversWith_40 ?_
        refine v_if_eq (tgt := 46) dX10_coversWith_41 (by decide) (fun c5 => ?_) (fun c5 => ?_)
        · replace h := ifP c5 h
          refine v_iinc (ls' := [(3, .int (l3 + 1)), (4, .long v2), (0, .ref l0), (1, .ref l1), (2, .int l2)]) dX10_coversWith_46 4 rfl (v := 1) ci_1 (by decide) rfl ?_
          refine v_goto (tgt := 12) dX10_coversWith_49 (by decide) ?_
          refine v_sub [2, 3, 4, 0] rfl ?_
          exact ih l0 l1 l2 (l3 + 1) M3 h
        · replace h := ifN c5 h
          refine v_iconst (v := 0) dX10_coversWith_44 ci_0 ?_
          obtain ⟨hz, rfl, rfl⟩ := okZ_some h
          exact v_zreturn dX10_coversWith_45 hz
set_option maxHeartbeats 4000000 in
set_option maxRecDepth 100000 in
theorem w_X10_coversWith {G : Gl} {ρ0 : Nat → Nat} {M0 MF : Mem} {r : Int32} (l0 : Nat) (l1 : Nat) (l2 : Int32) (M : Mem) (h : f_X10_coversWith l0 l1 l2 M = some (r, MF)) : V G (RX10, cX10_coversWith, (some .boolean), 1, 21, 6, "coversWith", []) (ρ0, M0, cvI r, MF) 0 [(0, .ref l0), (1, .ref l1), (2, .int l2)] [] M := by
  unfold f_X10_coversWith at h
  replace h := (ifS h).2
  refine v_aload_n dX10_coversWith_0 rfl 0 rfl ?_
  refine v_iload_n dX10_coversWith_1 rfl 2 rfl ?_
  obtain ⟨v2, M1, e, h⟩ := bindP_some h
  refine ca_X10_47 e dX10_coversWith_2 (Nat.le_of_ble_eq_true rfl) (by decide) ?_
  refine v_if_ne (tgt := 10) dX10_coversWith_5 (by decide) (fun c3 => ?_) (fun c3 => ?_)
  · replace h := ifN c3 h
    refine v_iconst (v := 0) dX10_coversWith_10 ci_0 ?_
    refine v_istore_n (ls' := [(3, .int (0 : Int32)), (0, .ref l0), (1, .ref l1), (2, .int l2)]) dX10_coversWith_11 rfl (by decide) rfl ?_
    refine v_sub [1, 2, 3, 0] rfl ?_
    exact w_X10_coversWith_L12 FU l0 l1 l2 (0 : Int32) M1 h
  · replace h := ifP c3 h
    refine v_iconst (v := 0) dX10_coversWith_8 ci_0 ?_
    obtain ⟨hz, rfl, rfl⟩ := okZ_some h
    exact v_zreturn dX10_coversWith_9 hz
theorem kd_X10_coversWith {l0 : Nat} {l1 : Nat} {l2 : Int32} {M : Mem} {z : _} (h : f_X10_coversWith l0 l1 l2 M = some z) : (mK M l0).1 = 10 := by
  unfold f_X10_coversWith at h
  exact (ifS h).1
theorem k_X10_coversWith {G : Gl} {l0 : Nat} {l1 : Nat} {l2 : Int32} {M MF : Mem} {r : Int32} (h : f_X10_coversWith l0 l1 l2 M = some (r, MF)) : CtrP G yX10_coversWith cX10_coversWith 6 (some .boolean) 1 21 [.ref l0, .ref l1, .int l2] M (cvI r) MF :=
  ctr_of (by decide +kernel) (Nat.le_of_ble_eq_true rfl) (fun ρ => w_X10_coversWith l0 l1 l2 M h)
theorem wd_X10_43 : wdV RX10 43 RX10 yX10_coversWith cX10_coversWith 6 (some .boolean) 2 := ⟨gwi 761 (by decide +kernel) (by decide +kernel), gwi 763 (by decide +kernel) (by decide +kernel), gwi 5 (by decide +kernel) (by decide +kernel), nw_X10, gwi 764 (by decide +kernel) (by decide +kernel), ⟨rfl, by decide +kernel, by decide +kernel, by decide +kernel⟩⟩
theorem ca_X10_43 {G : Gl} {B : Bx} {cc : ByteArray} {ret : Option FieldType} {fr lo nL : Nat} {mn : String} {hh : List (Nat × Nat × Nat × Nat)} {pc : Nat} {ls : List (Nat × Value)} {st : List Value} {M M1 : Mem} {l0 : Nat} {l1 : Nat} {l2 : Int32} {x : Int32} (e : f_X10_coversWith l0 l1 l2 M = some (x, M1)) (hd : decode cc pc = .ok (.invokevirtual 43, 3)) (hcat : (st.map fun v => v.category).sum ≤ 8) (hR : 1 + 1 ≤ fr ∧ 8 + (6 + 11) + 21 ≤ lo) (k : V G (RX10, cc, ret, fr, lo, nL, mn, hh) B (pc + 3) ls (.int x :: st) M1) : V G (RX10, cc, ret, fr, lo, nL, mn, hh) B pc ls (.int l2 :: .ref l1 :: .ref l0 :: st) M := v_callVi (As := [.ref l1, .int l2]) (k_X10_coversWith e) wd_X10_43 clX10 (kd_X10_coversWith e) hd rfl rfl hcat hR k
set_option maxHeartbeats 4000000 in
set_option maxRecDepth 100000 in
theorem w_X10_matches {G : Gl} {ρ0 : Nat → Nat} {M0 MF : Mem} {r : Int32} (l0 : Nat) (l1 : Nat) (M : Mem) (h : f_X10_matches l0 l1 M = some (r, MF)) : V G (RX10, cX10_matches, (some .boolean), 2, 46, 2, "matches", []) (ρ0, M0, cvI r, MF) 0 [(0, .ref l0), (1, .ref l1)] [] M := by
  unfold f_X10_matches at h
  replace h := (ifS h).2
  refine v_aload_n dX10_matches_0 rfl 0 rfl ?_
  refine v_aload_n dX10_matches_1 rfl 1 rfl ?_
  refine v_aload_n dX10_matches_2 rfl 1 rfl ?_
  obtain ⟨v1, e, h⟩ := bind_some h
  refine gt_X10_28 e dX10_matches_3 ?_
  obtain ⟨v3, M2, e, h⟩ := bindP_some h
  refine ca_X10_43 e dX10_matches_6 (Nat.le_of_ble_eq_true rfl) (by decide) ?_
  obtain ⟨hz, rfl, rfl⟩ := okZ_some h
  exact v_zreturn dX10_matches_9 hz
theorem kd_X10_matches {l0 : Nat} {l1 : Nat} {M : Mem} {z : _} (h : f_X10_matches l0 l1 M = some z) : (mK M l0).1 = 10 := by
  unfold f_X10_matches at h
  exact (ifS h).1
theorem k_X10_matches {G : Gl} {l0 : Nat} {l1 : Nat} {M MF : Mem} {r : Int32} (h : f_X10_matches l0 l1 M = some (r, MF)) : CtrP G yX10_matches cX10_matches 2 (some .boolean) 2 46 [.ref l0, .ref l1] M (cvI r) MF :=
  ctr_of (by decide +kernel) (Nat.le_of_ble_eq_true rfl) (fun ρ => w_X10_matches l0 l1 M h)
theorem wd_X5_89 : wdV RX5 89 RX10 yX10_matches cX10_matches 2 (some .boolean) 1 := ⟨gwi 757 (by decide +kernel) (by decide +kernel), gwi 758 (by decide +kernel) (by decide +kernel), gwi 759 (by decide +kernel) (by decide +kernel), nw_X10, gwi 760 (by decide +kernel) (by decide +kernel), ⟨rfl, by decide +kernel, by decide +kernel, by decide +kernel⟩⟩
theorem ca_X5_89 {G : Gl} {B : Bx} {cc : ByteArray} {ret : Option FieldType} {fr lo nL : Nat} {mn : String} {hh : List (Nat × Nat × Nat × Nat)} {pc : Nat} {ls : List (Nat × Value)} {st : List Value} {M M1 : Mem} {l0 : Nat} {l1 : Nat} {x : Int32} (e : f_X10_matches l0 l1 M = some (x, M1)) (hd : decode cc pc = .ok (.invokevirtual 89, 3)) (hcat : (st.map fun v => v.category).sum ≤ 8) (hR : 2 + 1 ≤ fr ∧ 8 + (2 + 11) + 46 ≤ lo) (k : V G (RX5, cc, ret, fr, lo, nL, mn, hh) B (pc + 3) ls (.int x :: st) M1) : V G (RX5, cc, ret, fr, lo, nL, mn, hh) B pc ls (.ref l1 :: .ref l0 :: st) M := v_callVi (As := [.ref l1]) (k_X10_matches e) wd_X5_89 clX10 (kd_X10_matches e) hd rfl rfl hcat hR k
theorem wd_X7_214 : wdV RX7 214 RX10 yX10_matches cX10_matches 2 (some .boolean) 1 := ⟨gwi 823 (by decide +kernel) (by decide +kernel), gwi 758 (by decide +kernel) (by decide +kernel), gwi 759 (by decide +kernel) (by decide +kernel), nw_X10, gwi 760 (by decide +kernel) (by decide +kernel), ⟨rfl, by decide +kernel, by decide +kernel, by decide +kernel⟩⟩
theorem ca_X7_214 {G : Gl} {B : Bx} {cc : ByteArray} {ret : Option FieldType} {fr lo nL : Nat} {mn : String} {hh : List (Nat × Nat × Nat × Nat)} {pc : Nat} {ls : List (Nat × Value)} {st : List Value} {M M1 : Mem} {l0 : Nat} {l1 : Nat} {x : Int32} (e : f_X10_matches l0 l1 M = some (x, M1)) (hd : decode cc pc = .ok (.invokevirtual 214, 3)) (hcat : (st.map fun v => v.category).sum ≤ 8) (hR : 2 + 1 ≤ fr ∧ 8 + (2 + 11) + 46 ≤ lo) (k : V G (RX7, cc, ret, fr, lo, nL, mn, hh) B (pc + 3) ls (.int x :: st) M1) : V G (RX7, cc, ret, fr, lo, nL, mn, hh) B pc ls (.ref l1 :: .ref l0 :: st) M := v_callVi (As := [.ref l1]) (k_X10_matches e) wd_X7_214 clX10 (kd_X10_matches e) hd rfl rfl hcat hR k
set_option maxHeartbeats 4000000 in
set_option maxRecDepth 100000 in
theorem w_X5_greatestGrade_J49 {G : Gl} {ρ0 : Nat → Nat} {M0 MF : Mem} {r : Int32} (k5 : Nat → Nat → Int32 → Int32 → Int32 → Mem → Option (Int32 × Mem)) (h5 : ∀ (l0 : Nat) (l1 : Nat) (l2 : Int32) (l3 : Int32) (l4 : Int32) (M : Mem), k5 l0 l1 l2 l3 l4 M = some (r, MF) → V G (RX5, cX5_greatestGrade, (some .int), 3, 67, 7, "greatestGrade", []) (ρ0, M0, cvI r, MF) 5 [(0, .ref l0), (1, .ref l1), (2, .int l2), (3, .int l3), (4, .int l4)] [] M) (l0 : Nat) (l1 : Nat) (l2 : Int32) (l3 : Int32) (l4 : Int32) (l5 : Nat) (s0 : Int32) (M : Mem) (h : f_X5_greatestGrade_J49 k5 l0 l1 l2 l3 l4 l5 s0 M = some (r, MF)) : V G (RX5, cX5_greatestGrade, (some .int), 3, 67, 7, "greatestGrade", []) (ρ0, M0, cvI r, MF) 49 [(0, .ref l0), (1, .ref l1), (2, .int l2), (3, .int l3), (4, .int l4), (5, .ref l5)] [.int s0] M := by
  unfold f_X5_greatestGrade_J49 at h
  refine v_istore (ls' := [(6, .int s0), (0, .ref l0), (1, .ref l1), (2, .int l2), (3, .int l3), (4, .int l4), (5, .ref l5)]) dX5_greatestGrade_49 (by decide) rfl ?_
  refine v_aload dX5_greatestGrade_51 6 rfl ?_
  obtain ⟨v1, e, h⟩ := bind_some h
  refine gt_X5_66 e dX5_greatestGrade_53 ?_
  refine v_if_ne (tgt := 86) dX5_greatestGrade_56 (by decide) (fun c8 => ?_) (fun c8 => ?_)
  · replace h := ifN c8 h
    refine v_iinc (ls' := [(4, .int (l4 + 1)), (6, .int s0), (0, .ref l0), (1, .ref l1), (2, .int l2), (3, .int l3), (5, .ref l5)]) dX5_greatestGrade_86 5 rfl (v := 1) ci_1 (by decide) rfl ?_
    refine v_goto (tgt := 5) dX5_greatestGrade_89 (by decide) ?_
    refine v_sub [2, 3, 4, 5, 0] rfl ?_
    exact h5 l0 l1 l2 l3 (l4 + 1) M h
  · replace h := ifP c8 h
    refine v_iload dX5_greatestGrade_59 0 rfl ?_
    refine v_if_ne (tgt := 86) dX5_greatestGrade_61 (by decide) (fun c7 => ?_) (fun c7 => ?_)
    · replace h := ifN c7 h
      refine v_iinc (ls' := [(4, .int (l4 + 1)), (6, .int s0), (0, .ref l0), (1, .ref l1), (2, .int l2), (3, .int l3), (5, .ref l5)]) dX5_greatestGrade_86 5 rfl (v := 1) ci_1 (by decide) rfl ?_
      refine v_goto (tgt := 5) dX5_greatestGrade_89 (by decide) ?_
      refine v_sub [2, 3, 4, 5, 0] rfl ?_
      exact h5 l0 l1 l2 l3 (l4 + 1) M h
    · replace h := ifP c7 h
      refine v_aload dX5_greatestGrade_64 6 rfl ?_
      obtain ⟨v2, e, h⟩ := bind_some h
      refine gt_X5_69 e dX5_greatestGrade_66 ?_
      refine v_aload_n dX5_greatestGrade_69 rfl 2 rfl ?_
      obtain ⟨v4, M3, e, h⟩ := bindP_some h
      refine ca_X5_89 e dX5_greatestGrade_70 (Nat.le_of_ble_eq_true rfl) (by decide) ?_
      refine v_if_eq (tgt := 86) dX5_greatestGrade_73 (by decide) (fun c6 => ?_) (fun c6 => ?_)
      · replace h := ifP c6 h
        refine v_iinc (ls' := [(4, .int (l4 + 1)), (6, .int s0), (0, .ref l0), (1, .ref l1), (2, .int l2), (3, .int l3), (5, .ref l5)]) dX5_greatestGrade_86 5 rfl (v := 1) ci_1 (by decide) rfl ?_
        refine v_goto (tgt := 5) dX5_greatestGrade_89 (by decide) ?_
        refine v_sub [2, 3, 4, 5, 0] rfl ?_
        exact h5 l0 l1 l2 l3 (l4 + 1) M3 h
      · replace h := ifN c6 h
        refine v_iload_n dX5_greatestGrade_76 rfl 4 rfl ?_
        refine v_aload dX5_greatestGrade_77 6 rfl ?_
        obtain ⟨v5, e, h⟩ := bind_some h
        refine gt_X5_83 e dX5_greatestGrade_79 ?_
        refine mx_X5_92 dX5_greatestGrade_82 (by decide) (Nat.le_of_ble_eq_true rfl) ?_
        refine v_istore_n (ls' := [(3, .int (imaxE l3 v5)), (6, .int s0), (0, .ref l0), (1, .ref l1), (2, .int l2), (4, .int l4), (5, .ref l5)]) dX5_greatestGrade_85 rfl (by decide) rfl ?_
        refine v_iinc (ls' := [(4, .int (l4 + 1)), (3, .int (imaxE l3 v5)), (6, .int s0), (0, .ref l0), (1, .ref l1), (2, .int l2), (5, .ref l5)]) dX5_greatestGrade_86 5 rfl (v := 1) ci_1 (by decide) rfl ?_
        refine v_goto (tgt := 5) dX5_greatestGrade_89 (by decide) ?_
        refine v_sub [3, 4, 5, 1, 0] rfl ?_
        exact h5 l0 l1 l2 (imaxE l3 v5) (l4 + 1) M3 h
theorem w_X5_greatestGrade_J48 {G : Gl} {ρ0 : Nat → Nat} {M0 MF : Mem} {r : Int32} (k5 : Nat → Nat → Int32 → Int32 → Int32 → Mem → Option (Int32 × Mem)) (h5 : ∀ (l0 : Nat) (l1 : Nat) (l2 : Int32) (l3 : Int32) (l4 : Int32) (M : Mem), k5 l0 l1 l2 l3 l4 M = some (r, MF) → V G (RX5, cX5_greatestGrade, (some .int), 3, 67, 7, "greatestGrade", []) (ρ0, M0, cvI r, MF) 5 [(0, .ref l0), (1, .ref l1), (2, .int l2), (3, .int l3), (4, .int l4)] [] M) (l0 : Nat) (l1 : Nat) (l2 : Int32) (l3 : Int32) (l4 : Int32) (l5 : Nat) (M : Mem) (h : f_X5_greatestGrade_J48 k5 l0 l1 l2 l3 l4 l5 M = some (r, MF)) : V G (RX5, cX5_greatestGrade, (some .int), 3, 67, 7, "greatestGrade", []) (ρ0, M0, cvI r, MF) 48 [(0, .ref l0), (1, .ref l1), (2, .int l2), (3, .int l3), (4, .int l4), (5, .ref l5)] [] M := by
  unfold f_X5_greatestGrade_J48 at h
  refine v_iconst (v := 0) dX5_greatestGrade_48 ci_0 ?_
  exact w_X5_greatestGrade_J49 k5 h5 l0 l1 l2 l3 l4 l5 (0 : Int32) M h
set_option maxHeartbeats 4000000 in
set_option maxRecDepth 100000 in
theorem w_X5_greatestGrade_L5 {G : Gl} {ρ0 : Nat → Nat} {M0 MF : Mem} {r : Int32} : ∀ (n : Nat) (l0 : Nat) (l1 : Nat) (l2 : Int32) (l3 : Int32) (l4 : Int32) (M : Mem), f_X5_greatestGrade_L5 n l0 l1 l2 l3 l4 M = some (r, MF) → V G (RX5, cX5_greatestGrade, (some .int), 3, 67, 7, "greatestGrade", []) (ρ0, M0, cvI r, MF) 5 [(0, .ref l0), (1, .ref l1), (2, .int l2), (3, .int l3), (4, .int l4)] [] M := by
  intro n
  induction n with
  | zero => intro l0 l1 l2 l3 l4 M h; cases h
  | succ n ih =>
    intro l0 l1 l2 l3 l4 M h
    rw [f_X5_greatestGrade_L5] at h
    refine v_iload dX5_greatestGrade_5 4 rfl ?_
    refine v_aload_n dX5_greatestGrade_7 rfl 0 rfl ?_
    obtain ⟨v1, e, h⟩ := bind_some h
    refine gt_X5_56 e dX5_greatestGrade_8 ?_
    refine v_icmp_ge (tgt := 92) dX5_greatestGrade_11 (by decide) (fun c8 => ?_) (fun c8 => ?_)
    · replace h := ifP c8 h
      refine v_iload_n dX5_greatestGrade_92 rfl 3 rfl ?_
      cases h
      exact v_ireturn dX5_greatestGrade_93
    · replace h := ifN c8 h
      refine v_iload dX5_greatestGrade_14 4 rfl ?_
      refine v_bipush (v := 6) dX5_greatestGrade_16 cb_6 ?_
      refine v_icmp_ge (tgt := 92) dX5_greatestGrade_18 (by decide) (fun c7 => ?_) (fun c7 => ?_)
      · replace h := ifP c7 h
        refine v_iload_n dX5_greatestGrade_92 rfl 3 rfl ?_
        cases h
        exact v_ireturn dX5_greatestGrade_93
      · replace h := ifN c7 h
        refine v_aload_n dX5_greatestGrade_21 rfl 0 rfl ?_
        obtain ⟨v2, e, h⟩ := bind_some h
        refine gt_X5_17 e dX5_greatestGrade_22 ?_
        refine v_iload dX5_greatestGrade_25 4 rfl ?_
        obtain ⟨v3, e, h⟩ := bind_some h
        refine al_8 e dX5_greatestGrade_27 ?_
        refine v_astore (ls' := [(5, .ref v3), (0, .ref l0), (1, .ref l1), (2, .int l2), (3, .int l3), (4, .int l4)]) dX5_greatestGrade_28 (by decide) rfl ?_
        refine v_iload_n dX5_greatestGrade_30 rfl 3 rfl ?_
        refine v_if_eq (tgt := 48) dX5_greatestGrade_31 (by decide) (fun c6 => ?_) (fun c6 => ?_)
        · replace h := ifP c6 h
          refine v_sub [1, 2, 3, 4, 5, 0] rfl ?_
          exact w_X5_greatestGrade_J48 (f_X5_greatestGrade_L5 n) ih l0 l1 l2 l3 l4 v3 M h
        · replace h := ifN c6 h
          refine v_aload dX5_greatestGrade_34 0 rfl ?_
          obtain ⟨v4, e, h⟩ := bind_some h
          refine gt_X5_86 e dX5_greatestGrade_36 ?_
          refine v_iconst (v := 1) dX5_greatestGrade_39 ci_1 ?_
          refine v_iand dX5_greatestGrade_40 ?_
          refine v_if_eq (tgt := 48) dX5_greatestGrade_41 (by decide) (fun c5 => ?_) (fun c5 => ?_)
          · replace h := ifP c5 h
            refine v_sub [1, 2, 3, 4, 5, 0] rfl ?_
            exact w_X5_greatestGrade_J48 (f_X5_greatestGrade_L5 n) ih l0 l1 l2 l3 l4 v3 M h
          · replace h := ifN c5 h
            refine v_iconst (v := 1) dX5_greatestGrade_44 ci_1 ?_
            refine v_goto (tgt := 49) dX5_greatestGrade_45 (by decide) ?_
            refine v_sub [1, 2, 3, 4, 5, 0] rfl ?_
            exact w_X5_greatestGrade_J49 (f_X5_greatestGrade_L5 n) ih l0 l1 l2 l3 l4 v3 (1 : Int32) M h
set_option maxHeartbeats 4000000 in
set_option maxRecDepth 100000 in
theorem w_X5_greatestGrade {G : Gl} {ρ0 : Nat → Nat} {M0 MF : Mem} {r : Int32} (l0 : Nat) (l1 : Nat) (l2 : Int32) (M : Mem) (h : f_X5_greatestGrade l0 l1 l2 M = some (r, MF)) : V G (RX5, cX5_greatestGrade, (some .int), 3, 67, 7, "greatestGrade", []) (ρ0, M0, cvI r, MF) 0 [(0, .ref l0), (1, .ref l1), (2, .int l2)] [] M := by
  unfold f_X5_greatestGrade at h
  replace h := (ifS h).2
  refine v_iconst (v := (-1)) dX5_greatestGrade_0 ci_m1 ?_
  refine v_istore_n (ls' := [(3, .int (-1 : Int32)), (0, .ref l0), (1, .ref l1), (2, .int l2)]) dX5_greatestGrade_1 rfl (by decide) rfl ?_
  refine v_iconst (v := 0) dX5_greatestGrade_2 ci_0 ?_
  refine v_istore (ls' := [(4, .int (0 : Int32)), (3, .int (-1 : Int32)), (0, .ref l0), (1, .ref l1), (2, .int l2)]) dX5_greatestGrade_3 (by decide) rfl ?_
  refine v_sub [2, 3, 4, 1, 0] rfl ?_
  exact w_X5_greatestGrade_L5 FU l0 l1 l2 (-1 : Int32) (0 : Int32) M h
theorem kd_X5_greatestGrade {l0 : Nat} {l1 : Nat} {l2 : Int32} {M : Mem} {z : _} (h : f_X5_greatestGrade l0 l1 l2 M = some z) : (mK M l0).1 = 5 := by
  unfold f_X5_greatestGrade at h
  exact (ifS h).1
theorem k_X5_greatestGrade {G : Gl} {l0 : Nat} {l1 : Nat} {l2 : Int32} {M MF : Mem} {r : Int32} (h : f_X5_greatestGrade l0 l1 l2 M = some (r, MF)) : CtrP G yX5_greatestGrade cX5_greatestGrade 7 (some .int) 3 67 [.ref l0, .ref l1, .int l2] M (cvI r) MF :=
  ctr_of (by decide +kernel) (Nat.le_of_ble_eq_true rfl) (fun ρ => w_X5_greatestGrade l0 l1 l2 M h)
theorem wd_X7_203 : wdV RX7 203 RX5 yX5_greatestGrade cX5_greatestGrade 7 (some .int) 2 := ⟨gwi 753 (by decide +kernel) (by decide +kernel), gwi 754 (by decide +kernel) (by decide +kernel), gwi 755 (by decide +kernel) (by decide +kernel), nw_X5, gwi 756 (by decide +kernel) (by decide +kernel), ⟨rfl, by decide +kernel, by decide +kernel, by decide +kernel⟩⟩
theorem ca_X7_203 {G : Gl} {B : Bx} {cc : ByteArray} {ret : Option FieldType} {fr lo nL : Nat} {mn : String} {hh : List (Nat × Nat × Nat × Nat)} {pc : Nat} {ls : List (Nat × Value)} {st : List Value} {M M1 : Mem} {l0 : Nat} {l1 : Nat} {l2 : Int32} {x : Int32} (e : f_X5_greatestGrade l0 l1 l2 M = some (x, M1)) (hd : decode cc pc = .ok (.invokevirtual 203, 3)) (hcat : (st.map fun v => v.category).sum ≤ 8) (hR : 3 + 1 ≤ fr ∧ 8 + (7 + 11) + 67 ≤ lo) (k : V G (RX7, cc, ret, fr, lo, nL, mn, hh) B (pc + 3) ls (.int x :: st) M1) : V G (RX7, cc, ret, fr, lo, nL, mn, hh) B pc ls (.int l2 :: .ref l1 :: .ref l0 :: st) M := v_callVi (As := [.ref l1, .int l2]) (k_X5_greatestGrade e) wd_X7_203 clX5 (kd_X5_greatestGrade e) hd rfl rfl hcat hR k
