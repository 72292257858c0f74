set_option maxHeartbeats 4000000 in
set_option maxRecDepth 100000 in
theorem w_X10_meetsWith_L2 {G : Gl} {ρ0 : Nat → Nat} {M0 MF : Mem} {r : Int32} : ∀ (n : Nat) (l0 : Nat) (l1 : Nat) (l2 : Int32) (l3 : Int32) (M : Mem), f_X10_meetsWith_L2 n l0 l1 l2 l3 M = some (r, MF) → V G (RX10, cX10_meetsWith, (some .boolean), 1, 21, 8, "meetsWith", []) (ρ0, M0, cvI r, MF) 2 [(0, .ref l0), (1, .ref l1), (2, .int l2), (3, .int l3)] [] M := by
  intro n
  induction n with
  | zero => intro l0 l1 l2 l3 M h; cases h
  | succ n ih =>
    intro l0 l1 l2 l3 M h
    rw [f_X10_meetsWith_L2] at h
    refine v_iload_n dX10_meetsWith_2 rfl 3 rfl ?_
    refine v_iload_n dX10_meetsWith_3 rfl 2 rfl ?_
    refine v_icmp_ge (tgt := 55) dX10_meetsWith_4 (by decide) (fun c8 => ?_) (fun c8 => ?_)
    · replace h := ifP c8 h
      refine v_iconst (v := 1) dX10_meetsWith_55 ci_1 ?_
      obtain ⟨hz, rfl, rfl⟩ := okZ_some h
      exact v_zreturn dX10_meetsWith_56 hz
    · replace h := ifN c8 h
      refine v_aload_n dX10_meetsWith_7 rfl 0 rfl ?_
      refine v_iload_n dX10_meetsWith_8 rfl 3 rfl ?_
      obtain ⟨v2, M1, e, h⟩ := bindP_some h
      refine ca_X10_56 e dX10_meetsWith_9 (Nat.le_of_ble_eq_true rfl) (by decide) ?_
      refine v_lstore (ls' := [(4, .long v2), (0, .ref l0), (1, .ref l1), (2, .int l2), (3, .int l3)]) dX10_meetsWith_12 (by decide) rfl ?_
      refine v_aload_n dX10_meetsWith_14 rfl 2 rfl ?_
      refine v_iload_n dX10_meetsWith_15 rfl 4 rfl ?_
      obtain ⟨v4, M3, e, h⟩ := bindP_some h
      refine ca_X10_56 e dX10_meetsWith_16 (Nat.le_of_ble_eq_true rfl) (by decide) ?_
      refine v_lstore (ls' := [(6, .long v4), (4, .long v2), (0, .ref l0), (1, .ref l1), (2, .int l2), (3, .int l3)]) dX10_meetsWith_19 (by decide) rfl ?_
      refine v_lload dX10_meetsWith_21 1 rfl ?_
      refine v_lload dX10_meetsWith_23 0 rfl ?_
      refine v_lcmp dX10_meetsWith_25 ?_
      refine v_if_eq (tgt := 49) dX10_meetsWith_26 (by decide) (fun c7 => ?_) (fun c7 => ?_)
      · replace h := ifP c7 h
        refine v_iinc (ls' := [(3, .int (l3 + 1)), (6, .long v4), (4, .long v2), (0, .ref l0), (1, .ref l1), (2, .int l2)]) dX10_meetsWith_49 5 rfl (v := 1) ci_1 (by decide) rfl ?_
        refine v_goto (tgt := 2) dX10_meetsWith_52 (by decide) ?_
        refine v_sub [3, 4, 5, 0] rfl ?_
        exact ih l0 l1 l2 (l3 + 1) M3 h
      · replace h := ifN c7 h
        refine v_lload dX10_meetsWith_29 1 rfl ?_
        refine kl_X10_54 dX10_meetsWith_31 ?_
        refine v_lcmp dX10_meetsWith_34 ?_
        refine v_if_eq (tgt := 49) dX10_meetsWith_35 (by decide) (fun c6 => ?_) (fun c6 => ?_)
        · replace h := ifP c6 h
          refine v_iinc (ls' := [(3, .int (l3 + 1)), (6, .long v4), (4, .long v2), (0, .ref l0), (1, .ref l1), (2, .int l2)]) dX10_meetsWith_49 5 rfl (v := 1) ci_1 (by decide) rfl ?_
          refine v_goto (tgt := 2) dX10_meetsWith_52 (by decide) ?_
          refine v_sub [3, 4, 5, 0] rfl ?_
          exact ih l0 l1 l2 (l3 + 1) M3 h
        · replace h := ifN c6 h
          refine v_lload dX10_meetsWith_38 0 rfl ?_
          refine kl_X10_54 dX10_meetsWith_40 ?_
          refine v_lcmp dX10_meetsWith_43 ?_
          refine v_if_eq (tgt := 49) dX10_meetsWith_44 (by decide) (fun c5 => ?_) (fun c5 => ?_)
          · replace h := ifP c5 h
            refine v_iinc (ls' := [(3, .int (l3 + 1)), (6, .long v4), (4, .long v2), (0, .ref l0), (1, .ref l1), (2, .int l2)]) dX10_meetsWith_49 5 rfl (v := 1) ci_1 (by decide) rfl ?_
            refine v_goto (tgt := 2) dX10_meetsWith_52 (by decide) ?_
            refine v_sub [3, 4, 5, 0] rfl ?_
            exact ih l0 l1 l2 (l3 + 1) M3 h
          · replace h := ifN c5 h
            refine v_iconst (v := 0) dX10_meetsWith_47 ci_0 ?_
            obtain ⟨hz, rfl, rfl⟩ := okZ_some h
            exact v_zreturn dX10_meetsWith_48 hz
set_option maxHeartbeats 4000000 in
set_option maxRecDepth 100000 in
theorem w_X10_meetsWith {G : Gl} {ρ0 : Nat → Nat} {M0 MF : Mem} {r : Int32} (l0 : Nat) (l1 : Nat) (l2 : Int32) (M : Mem) (h : f_X10_meetsWith l0 l1 l2 M = some (r, MF)) : V G (RX10, cX10_meetsWith, (some .boolean), 1, 21, 8, "meetsWith", []) (ρ0, M0, cvI r, MF) 0 [(0, .ref l0), (1, .ref l1), (2, .int l2)] [] M := by
  unfold f_X10_meetsWith at h
  replace h := (ifS h).2
  refine v_iconst (v := 0) dX10_meetsWith_0 ci_0 ?_
  refine v_istore_n (ls' := [(3, .int (0 : Int32)), (0, .ref l0), (1, .ref l1), (2, .int l2)]) dX10_meetsWith_1 rfl (by decide) rfl ?_
  refine v_sub [1, 2, 3, 0] rfl ?_
  exact w_X10_meetsWith_L2 FU l0 l1 l2 (0 : Int32) M h
theorem kd_X10_meetsWith {l0 : Nat} {l1 : Nat} {l2 : Int32} {M : Mem} {z : _} (h : f_X10_meetsWith l0 l1 l2 M = some z) : (mK M l0).1 = 10 := by
  unfold f_X10_meetsWith at h
  exact (ifS h).1
theorem k_X10_meetsWith {G : Gl} {l0 : Nat} {l1 : Nat} {l2 : Int32} {M MF : Mem} {r : Int32} (h : f_X10_meetsWith l0 l1 l2 M = some (r, MF)) : CtrP G yX10_meetsWith cX10_meetsWith 8 (some .boolean) 1 21 [.ref l0, .ref l1, .int l2] M (cvI r) MF :=
  ctr_of (by decide +kernel) (Nat.le_of_ble_eq_true rfl) (fun ρ => w_X10_meetsWith l0 l1 l2 M h)
theorem wd_X10_51 : wdV RX10 51 RX10 yX10_meetsWith cX10_meetsWith 8 (some .boolean) 2 := ⟨gwi 988 (by decide +kernel) (by decide +kernel), gwi 990 (by decide +kernel) (by decide +kernel), gwi 24 (by decide +kernel) (by decide +kernel), nw_X10, gwi 991 (by decide +kernel) (by decide +kernel), ⟨rfl, by decide +kernel, by decide +kernel, by decide +kernel⟩⟩
theorem ca_X10_51 {G : Gl} {B : Bx} {cc : ByteArray} {ret : Option FieldType} {fr lo nL : Nat} {mn : String} {hh : List (Nat × Nat × Nat × Nat)} {pc : Nat} {ls : List (Nat × Value)} {st : List Value} {M M1 : Mem} {l0 : Nat} {l1 : Nat} {l2 : Int32} {x : Int32} (e : f_X10_meetsWith l0 l1 l2 M = some (x, M1)) (hd : decode cc pc = .ok (.invokevirtual 51, 3)) (hcat : (st.map fun v => v.category).sum ≤ 8) (hR : 1 + 1 ≤ fr ∧ 8 + (8 + 11) + 21 ≤ lo) (k : V G (RX10, cc, ret, fr, lo, nL, mn, hh) B (pc + 3) ls (.int x :: st) M1) : V G (RX10, cc, ret, fr, lo, nL, mn, hh) B pc ls (.int l2 :: .ref l1 :: .ref l0 :: st) M := v_callVi (As := [.ref l1, .int l2]) (k_X10_meetsWith e) wd_X10_51 clX10 (kd_X10_meetsWith e) hd rfl rfl hcat hR k
set_option maxHeartbeats 4000000 in
set_option maxRecDepth 100000 in
theorem w_X10_meets_L2 {G : Gl} {ρ0 : Nat → Nat} {M0 MF : Mem} {r : Int32} : ∀ (n : Nat) (l0 : Nat) (l1 : Nat) (l2 : Int32) (M : Mem), f_X10_meets_L2 n l0 l1 l2 M = some (r, MF) → V G (RX10, cX10_meets, (some .boolean), 2, 48, 3, "meets", []) (ρ0, M0, cvI r, MF) 2 [(0, .ref l0), (1, .ref l1), (2, .int l2)] [] M := by
  intro n
  induction n with
  | zero => intro l0 l1 l2 M h; cases h
  | succ n ih =>
    intro l0 l1 l2 M h
    rw [f_X10_meets_L2] at h
    refine v_iload_n dX10_meets_2 rfl 2 rfl ?_
    refine v_iconst (v := 4) dX10_meets_3 ci_4 ?_
    refine v_icmp_gt (tgt := 40) dX10_meets_4 (by decide) (fun c10 => ?_) (fun c10 => ?_)
    · replace h := ifP c10 h
      refine v_iconst (v := 0) dX10_meets_40 ci_0 ?_
      obtain ⟨hz, rfl, rfl⟩ := okZ_some h
      exact v_zreturn dX10_meets_41 hz
    · replace h := ifN c10 h
      refine v_aload_n dX10_meets_7 rfl 0 rfl ?_
      refine v_iload_n dX10_meets_8 rfl 2 rfl ?_
      obtain ⟨v2, M1, e, h⟩ := bindP_some h
      refine ca_X10_47 e dX10_meets_9 (Nat.le_of_ble_eq_true rfl) (by decide) ?_
      refine v_if_eq (tgt := 34) dX10_meets_12 (by decide) (fun c9 => ?_) (fun c9 => ?_)
      · replace h := ifP c9 h
        refine v_iinc (ls' := [(2, .int (l2 + 1)), (0, .ref l0), (1, .ref l1)]) dX10_meets_34 2 rfl (v := 1) ci_1 (by decide) rfl ?_
        refine v_goto (tgt := 2) dX10_meets_37 (by decide) ?_
        refine v_sub [1, 2, 0] rfl ?_
        exact ih l0 l1 (l2 + 1) M1 h
      · replace h := ifN c9 h
        refine v_aload_n dX10_meets_15 rfl 1 rfl ?_
        refine v_iload_n dX10_meets_16 rfl 2 rfl ?_
        obtain ⟨v4, M3, e, h⟩ := bindP_some h
        refine ca_X10_47 e dX10_meets_17 (Nat.le_of_ble_eq_true rfl) (by decide) ?_
        refine v_if_eq (tgt := 34) dX10_meets_20 (by decide) (fun c8 => ?_) (fun c8 => ?_)
        · replace h := ifP c8 h
          refine v_iinc (ls' := [(2, .int (l2 + 1)), (0, .ref l0), (1, .ref l1)]) dX10_meets_34 2 rfl (v := 1) ci_1 (by decide) rfl ?_
          refine v_goto (tgt := 2) dX10_meets_37 (by decide) ?_
          refine v_sub [1, 2, 0] rfl ?_
          exact ih l0 l1 (l2 + 1) M3 h
        · replace h := ifN c8 h
          refine v_aload_n dX10_meets_23 rfl 0 rfl ?_
          refine v_aload_n dX10_meets_24 rfl 1 rfl ?_
          refine v_iload_n dX10_meets_25 rfl 2 rfl ?_
          obtain ⟨v6, M5, e, h⟩ := bindP_some h
          refine ca_X10_51 e dX10_meets_26 (Nat.le_of_ble_eq_true rfl) (by decide) ?_
          refine v_if_eq (tgt := 34) dX10_meets_29 (by decide) (fun c7 => ?_) (fun c7 => ?_)
          · replace h := ifP c7 h
            refine v_iinc (ls' := [(2, .int (l2 + 1)), (0, .ref l0), (1, .ref l1)]) dX10_meets_34 2 rfl (v := 1) ci_1 (by decide) rfl ?_
            refine v_goto (tgt := 2) dX10_meets_37 (by decide) ?_
            refine v_sub [1, 2, 0] rfl ?_
            exact ih l0 l1 (l2 + 1) M5 h
          · replace h := ifN c7 h
            refine v_iconst (v := 1) dX10_meets_32 ci_1 ?_
            obtain ⟨hz, rfl, rfl⟩ := okZ_some h
            exact v_zreturn dX10_meets_33 hz
set_option maxHeartbeats 4000000 in
set_option maxRecDepth 100000 in
theorem w_X10_meets {G : Gl} {ρ0 : Nat → Nat} {M0 MF : Mem} {r : Int32} (l0 : Nat) (l1 : Nat) (M : Mem) (h : f_X10_meets l0 l1 M = some (r, MF)) : V G (RX10, cX10_meets, (some .boolean), 2, 48, 3, "meets", []) (ρ0, M0, cvI r, MF) 0 [(0, .ref l0), (1, .ref l1)] [] M := by
  unfold f_X10_meets at h
  replace h := (ifS h).2
  refine v_iconst (v := 1) dX10_meets_0 ci_1 ?_
  refine v_istore_n (ls' := [(2, .int (1 : Int32)), (0, .ref l0), (1, .ref l1)]) dX10_meets_1 rfl (by decide) rfl ?_
  refine v_sub [1, 2, 0] rfl ?_
  exact w_X10_meets_L2 FU l0 l1 (1 : Int32) M h
theorem kd_X10_meets {l0 : Nat} {l1 : Nat} {M : Mem} {z : _} (h : f_X10_meets l0 l1 M = some z) : (mK M l0).1 = 10 := by
  unfold f_X10_meets at h
  exact (ifS h).1
theorem k_X10_meets {G : Gl} {l0 : Nat} {l1 : Nat} {M MF : Mem} {r : Int32} (h : f_X10_meets l0 l1 M = some (r, MF)) : CtrP G yX10_meets cX10_meets 3 (some .boolean) 2 48 [.ref l0, .ref l1] M (cvI r) MF :=
  ctr_of (by decide +kernel) (Nat.le_of_ble_eq_true rfl) (fun ρ => w_X10_meets l0 l1 M h)
theorem wd_X11_194 : wdV RX11 194 RX10 yX10_meets cX10_meets 3 (some .boolean) 1 := ⟨gwi 984 (by decide +kernel) (by decide +kernel), gwi 985 (by decide +kernel) (by decide +kernel), gwi 986 (by decide +kernel) (by decide +kernel), nw_X10, gwi 987 (by decide +kernel) (by decide +kernel), ⟨rfl, by decide +kernel, by decide +kernel, by decide +kernel⟩⟩
theorem ca_X11_194 {G : Gl} {B : Bx} {cc : ByteArray} {ret : Option FieldType} {fr lo nL : Nat} {mn : String} {hh : List (Nat × Nat × Nat × Nat)} {pc : Nat} {ls : List (Nat × Value)} {st : List Value} {M M1 : Mem} {l0 : Nat} {l1 : Nat} {x : Int32} (e : f_X10_meets l0 l1 M = some (x, M1)) (hd : decode cc pc = .ok (.invokevirtual 194, 3)) (hcat : (st.map fun v => v.category).sum ≤ 8) (hR : 2 + 1 ≤ fr ∧ 8 + (3 + 11) + 48 ≤ lo) (k : V G (RX11, cc, ret, fr, lo, nL, mn, hh) B (pc + 3) ls (.int x :: st) M1) : V G (RX11, cc, ret, fr, lo, nL, mn, hh) B pc ls (.ref l1 :: .ref l0 :: st) M := v_callVi (As := [.ref l1]) (k_X10_meets e) wd_X11_194 clX10 (kd_X10_meets e) hd rfl rfl hcat hR k
set_option maxHeartbeats 4000000 in
set_option maxRecDepth 100000 in
theorem w_X10_covers_L2 {G : Gl} {ρ0 : Nat → Nat} {M0 MF : Mem} {r : Int32} : ∀ (n : Nat) (l0 : Nat) (l1 : Nat) (l2 : Int32) (M : Mem), f_X10_covers_L2 n l0 l1 l2 M = some (r, MF) → V G (RX10, cX10_covers, (some .boolean), 2, 46, 3, "covers", []) (ρ0, M0, cvI r, MF) 2 [(0, .ref l0), (1, .ref l1), (2, .int l2)] [] M := by
  intro n
  induction n with
  | zero => intro l0 l1 l2 M h; cases h
  | succ n ih =>
    intro l0 l1 l2 M h
    rw [f_X10_covers_L2] at h
    refine v_iload_n dX10_covers_2 rfl 2 rfl ?_
    refine v_iconst (v := 4) dX10_covers_3 ci_4 ?_
    refine v_icmp_gt (tgt := 32) dX10_covers_4 (by decide) (fun c7 => ?_) (fun c7 => ?_)
    · replace h := ifP c7 h
      refine v_iconst (v := 1) dX10_covers_32 ci_1 ?_
      obtain ⟨hz, rfl, rfl⟩ := okZ_some h
      exact v_zreturn dX10_covers_33 hz
    · replace h := ifN c7 h
      refine v_aload_n dX10_covers_7 rfl 1 rfl ?_
      refine v_iload_n dX10_covers_8 rfl 2 rfl ?_
      obtain ⟨v2, M1, e, h⟩ := bindP_some h
      refine ca_X10_47 e dX10_covers_9 (Nat.le_of_ble_eq_true rfl) (by decide) ?_
      refine v_if_eq (tgt := 26) dX10_covers_12 (by decide) (fun c6 => ?_) (fun c6 => ?_)
      · replace h := ifP c6 h
        refine v_iinc (ls' := [(2, .int (l2 + 1)), (0, .ref l0), (1, .ref l1)]) dX10_covers_26 2 rfl (v := 1) ci_1 (by decide) rfl ?_
        refine v_goto (tgt := 2) dX10_covers_29 (by decide) ?_
        refine v_sub [1, 2, 0] rfl ?_
        exact ih l0 l1 (l2 + 1) M1 h
      · replace h := ifN c6 h
        refine v_aload_n dX10_covers_15 rfl 0 rfl ?_
        refine v_aload_n dX10_covers_16 rfl 1 rfl ?_
        refine v_iload_n dX10_covers_17 rfl 2 rfl ?_
        obtain ⟨v4, M3, e, h⟩ := bindP_some h
        refine ca_X10_43 e dX10_covers_18 (Nat.le_of_ble_eq_true rfl) (by decide) ?_
        refine v_if_ne (tgt := 26) dX10_covers_21 (by decide) (fun c5 => ?_) (fun c5 => ?_)
        · replace h := ifN c5 h
          refine v_iinc (ls' := [(2, .int (l2 + 1)), (0, .ref l0), (1, .ref l1)]) dX10_covers_26 2 rfl (v := 1) ci_1 (by decide) rfl ?_
          refine v_goto (tgt := 2) dX10_covers_29 (by decide) ?_
          refine v_sub [1, 2, 0] rfl ?_
          exact ih l0 l1 (l2 + 1) M3 h
        · replace h := ifP c5 h
          refine v_iconst (v := 0) dX10_covers_24 ci_0 ?_
          obtain ⟨hz, rfl, rfl⟩ := okZ_some h
          exact v_zreturn dX10_covers_25 hz
set_option maxHeartbeats 4000000 in
set_option maxRecDepth 100000 in
theorem w_X10_covers {G : Gl} {ρ0 : Nat → Nat} {M0 MF : Mem} {r : Int32} (l0 : Nat) (l1 : Nat) (M : Mem) (h : f_X10_covers l0 l1 M = some (r, MF)) : V G (RX10, cX10_covers, (some .boolean), 2, 46, 3, "covers", []) (ρ0, M0, cvI r, MF) 0 [(0, .ref l0), (1, .ref l1)] [] M := by
  unfold f_X10_covers at h
  replace h := (ifS h).2
  refine v_iconst (v := 1) dX10_covers_0 ci_1 ?_
  refine v_istore_n (ls' := [(2, .int (1 : Int32)), (0, .ref l0), (1, .ref l1)]) dX10_covers_1 rfl (by decide) rfl ?_
  refine v_sub [1, 2, 0] rfl ?_
  exact w_X10_covers_L2 FU l0 l1 (1 : Int32) M h
theorem kd_X10_covers {l0 : Nat} {l1 : Nat} {M : Mem} {z : _} (h : f_X10_covers l0 l1 M = some z) : (mK M l0).1 = 10 := by
  unfold f_X10_covers at h
  exact (ifS h).1
theorem k_X10_covers {G : Gl} {l0 : Nat} {l1 : Nat} {M MF : Mem} {r : Int32} (h : f_X10_covers l0 l1 M = some (r, MF)) : CtrP G yX10_covers cX10_covers 3 (some .boolean) 2 46 [.ref l0, .ref l1] M (cvI r) MF :=
  ctr_of (by decide +kernel) (Nat.le_of_ble_eq_true rfl) (fun ρ => w_X10_covers l0 l1 M h)
theorem wd_X11_198 : wdV RX11 198 RX10 yX10_covers cX10_covers 3 (some .boolean) 1 := ⟨gwi 992 (by decide +kernel) (by decide +kernel), gwi 993 (by decide +kernel) (by decide +kernel), gwi 994 (by decide +kernel) (by decide +kernel), nw_X10, gwi 995 (by decide +kernel) (by decide +kernel), ⟨rfl, by decide +kernel, by decide +kernel, by decide +kernel⟩⟩
theorem ca_X11_198 {G : Gl} {B : Bx} {cc : ByteArray} {ret : Option FieldType} {fr lo nL : Nat} {mn : String} {hh : List (Nat × Nat × Nat × Nat)} {pc : Nat} {ls : List (Nat × Value)} {st : List Value} {M M1 : Mem} {l0 : Nat} {l1 : Nat} {x : Int32} (e : f_X10_covers l0 l1 M = some (x, M1)) (hd : decode cc pc = .ok (.invokevirtual 198, 3)) (hcat : (st.map fun v => v.category).sum ≤ 8) (hR : 2 + 1 ≤ fr ∧ 8 + (3 + 11) + 46 ≤ lo) (k : V G (RX11, cc, ret, fr, lo, nL, mn, hh) B (pc + 3) ls (.int x :: st) M1) : V G (RX11, cc, ret, fr, lo, nL, mn, hh) B pc ls (.ref l1 :: .ref l0 :: st) M := v_callVi (As := [.ref l1]) (k_X10_covers e) wd_X11_198 clX10 (kd_X10_covers e) hd rfl rfl hcat hR k
set_option maxHeartbeats 4000000 in
set_option maxRecDepth 100000 in
theorem w_X11_init {G : Gl} {ρ0 : Nat → Nat} {M0 MF : Mem} {r : Unit} (l0 : Nat) (M : Mem) (h : f_X11_init l0 M = some MF) : V G (RX11, cX11_init, none, 6, 129, 2, "<init>", []) (ρ0, M0, cvV r, MF) 0 [(0, .ref l0)] [] M := by
  unfold f_X11_init at h
  refine v_aload_n dX11_init_0 rfl 0 rfl ?_
  refine oi_X11 dX11_init_1 (by decide) (Nat.le_of_ble_eq_true rfl) ?_
  obtain ⟨v1, M2, e, h⟩ := bindP_some h
  refine nx_X11_7 e dX11_init_4 ?_
  refine v_dup dX11_init_7 rfl ?_
  refine v_iconst (v := 0) dX11_init_8 ci_0 ?_
  obtain ⟨v3, M4, e, h⟩ := bindP_some h
  refine v_newa_char dX11_init_9 aw_char e ?_
  refine v_iconst (v := 0) dX11_init_11 ci_0 ?_
  obtain ⟨M5, e, h⟩ := bind_some h
  refine ca_X11_9 e dX11_init_12 (Nat.le_of_ble_eq_true rfl) (by decide) ?_
  refine v_astore_n (ls' := [(1, .ref v1), (0, .ref l0)]) dX11_init_15 rfl (by decide) rfl ?_
  refine v_aload_n dX11_init_16 rfl 1 rfl ?_
  refine v_bipush (v := 30) dX11_init_17 cb_30 ?_
  obtain ⟨v6, M7, e, h⟩ := bindP_some h
  refine v_newa_char dX11_init_19 aw_char e ?_
  obtain ⟨M8, e, h⟩ := bind_some h
  refine pt_X11_14 e dX11_init_21 ?_
  refine v_aload_n dX11_init_24 rfl 1 rfl ?_
  refine v_iconst (v := (-1)) dX11_init_25 ci_m1 ?_
  obtain ⟨M9, e, h⟩ := bind_some h
  refine pt_X11_18 e dX11_init_26 ?_
  refine v_aload_n dX11_init_29 rfl 1 rfl ?_
  obtain ⟨v10, M11, e, h⟩ := bindP_some h
  refine nx_X11_22 e dX11_init_30 ?_
  refine v_dup dX11_init_33 rfl ?_
  refine v_aload_n dX11_init_34 rfl 0 rfl ?_
  obtain ⟨M12, e, h⟩ := bind_some h
  refine ca_X11_24 e dX11_init_35 (Nat.le_of_ble_eq_true rfl) (by decide) ?_
  obtain ⟨M13, e, h⟩ := bind_some h
  refine pt_X11_27 e dX11_init_38 ?_
  refine v_aload_n dX11_init_41 rfl 1 rfl ?_
  obtain ⟨v14, M15, e, h⟩ := bindP_some h
  refine nx_X11_31 e dX11_init_42 ?_
  refine v_dup dX11_init_45 rfl ?_
  refine v_aload_n dX11_init_46 rfl 0 rfl ?_
  obtain ⟨M16, e, h⟩ := bind_some h
  refine ca_X11_33 e dX11_init_47 (Nat.le_of_ble_eq_true rfl) (by decide) ?_
  obtain ⟨M17, e, h⟩ := bind_some h
  refine pt_X11_34 e dX11_init_50 ?_
  refine v_aload_n dX11_init_53 rfl 1 rfl ?_
  obtain ⟨v18, M19, e, h⟩ := bindP_some h
  refine nx_X11_38 e dX11_init_54 ?_
  refine v_dup dX11_init_57 rfl ?_
  refine v_aload_n dX11_init_58 rfl 0 rfl ?_
  obtain ⟨M20, e, h⟩ := bind_some h
  refine ca_X11_40 e dX11_init_59 (Nat.le_of_ble_eq_true rfl) (by decide) ?_
  obtain ⟨M21, e, h⟩ := bind_some h
  refine pt_X11_41 e dX11_init_62 ?_
  refine v_aload_n dX11_init_65 rfl 1 rfl ?_
  obtain ⟨v22, M23, e, h⟩ := bindP_some h
  refine nx_X11_38 e dX11_init_66 ?_
  refine v_dup dX11_init_69 rfl ?_
  refine v_aload_n dX11_init_70 rfl 0 rfl ?_
  obtain ⟨M24, e, h⟩ := bind_some h
  refine ca_X11_40 e dX11_init_71 (Nat.le_of_ble_eq_true rfl) (by decide) ?_
  obtain ⟨M25, e, h⟩ := bind_some h
  refine pt_X11_45 e dX11_init_74 ?_
  cases h
  exact v_vreturn dX11_init_77
theorem k_X11_init {G : Gl} {l0 : Nat} {M MF : Mem} (h : f_X11_init l0 M = some MF) : CtrP G yX11_init cX11_init 2 none 6 129 [.ref l0] M (cvV ()) MF :=
  ctr_of (by decide +kernel) (Nat.le_of_ble_eq_true rfl) (fun ρ => w_X11_init (r := ()) l0 M h)
set_option maxHeartbeats 4000000 in
set_option maxRecDepth 100000 in
theorem w_X11_append_L76 {G : Gl} {ρ0 : Nat → Nat} {M0 MF : Mem} {r : Int32 ⊕ Nat} : ∀ (n : Nat) (l0 : Nat) (l1 : Int32) (l3 : Int32) (M : Mem), f_X11_append_L76 n l0 l1 l3 M = some (r, MF) → V G (RX11, cX11_append, (some .int), 6, 89, 5, "append", []) (ρ0, M0, cxI r, MF) 76 [(0, .ref l0), (1, .int l1), (3, .int l3)] [] M := by
  intro n
  induction n with
  | zero => intro l0 l1 l3 M h; cases h
  | succ n ih =>
    intro l0 l1 l3 M h
    rw [f_X11_append_L76] at h
    refine v_iload_n dX11_append_76 rfl 2 rfl ?_
    refine v_if_lt (tgt := 141) dX11_append_77 (by decide) (fun c13 => ?_) (fun c13 => ?_)
    · replace h := ifP c13 h
      refine v_aload_n dX11_append_141 rfl 0 rfl ?_
      obtain ⟨v1, e, h⟩ := bind_some h
      refine gt_X11_51 e dX11_append_142 ?_
      cases h
      exact v_ireturn dX11_append_145
    · replace h := ifN c13 h
      refine v_iload_n dX11_append_80 rfl 1 rfl ?_
      refine v_iload_n dX11_append_81 rfl 2 rfl ?_
      refine v_iushr dX11_append_82 ?_
      refine v_sipush (v := 255) dX11_append_83 cs_255 ?_
      refine v_iand dX11_append_86 ?_
      refine v_istore (ls' := [(4, .int ((iushrE l1 l3) &&& (255 : Int32))), (0, .ref l0), (1, .int l1), (3, .int l3)]) dX11_append_87 (by decide) rfl ?_
      refine v_iload dX11_append_89 0 rfl ?_
      refine v_if_eq (tgt := 135) dX11_append_91 (by decide) (fun c12 => ?_) (fun c12 => ?_)
      · replace h := ifP c12 h
        refine v_iinc (ls' := [(3, .int (l3 + (-8))), (4, .int ((iushrE l1 l3) &&& (255 : Int32))), (0, .ref l0), (1, .int l1)]) dX11_append_135 3 rfl (v := (-8)) ci_m8 (by decide) rfl ?_
        refine v_goto (tgt := 76) dX11_append_138 (by decide) ?_
        refine v_sub [2, 3, 0] rfl ?_
        exact ih l0 l1 (l3 + (-8)) M h
      · replace h := ifN c12 h
        refine v_aload_n dX11_append_94 rfl 1 rfl ?_
        obtain ⟨v1, e, h⟩ := bind_some h
        refine gt_X11_51 e dX11_append_95 ?_
        refine v_if_lt (tgt := 135) dX11_append_98 (by decide) (fun c11 => ?_) (fun c11 => ?_)
        · replace h := ifP c11 h
          refine v_iinc (ls' := [(3, .int (l3 + (-8))), (4, .int ((iushrE l1 l3) &&& (255 : Int32))), (0, .ref l0), (1, .int l1)]) dX11_append_135 3 rfl (v := (-8)) ci_m8 (by decide) rfl ?_
          refine v_goto (tgt := 76) dX11_append_138 (by decide) ?_
          refine v_sub [2, 3, 0] rfl ?_
          exact ih l0 l1 (l3 + (-8)) M h
        · replace h := ifN c11 h
          refine v_aload_n dX11_append_101 rfl 1 rfl ?_
          obtain ⟨v2, e, h⟩ := bind_some h
          refine gt_X11_51 e dX11_append_102 ?_
          refine v_aload_n dX11_append_105 rfl 1 rfl ?_
          obtain ⟨v3, e, h⟩ := bind_some h
          refine gt_X11_14 e dX11_append_106 ?_
          obtain ⟨v4, e, h⟩ := bind_some h
          refine v_alen dX11_append_109 e ?_
          refine v_icmp_ge (tgt := 135) dX11_append_110 (by decide) (fun c10 => ?_) (fun c10 => ?_)
          · replace h := ifP c10 h
            refine v_iinc (ls' := [(3, .int (l3 + (-8))), (4, .int ((iushrE l1 l3) &&& (255 : Int32))), (0, .ref l0), (1, .int l1)]) dX11_append_135 3 rfl (v := (-8)) ci_m8 (by decide) rfl ?_
            refine v_goto (tgt := 76) dX11_append_138 (by decide) ?_
            refine v_sub [2, 3, 0] rfl ?_
            exact ih l0 l1 (l3 + (-8)) M h
          · replace h := ifN c10 h
            refine v_aload_n dX11_append_113 rfl 1 rfl ?_
            obtain ⟨v5, e, h⟩ := bind_some h
            refine gt_X11_14 e dX11_append_114 ?_
            refine v_aload_n dX11_append_117 rfl 1 rfl ?_
            obtain ⟨v6, e, h⟩ := bind_some h
            refine gt_X11_51 e dX11_append_118 ?_
            refine v_iload dX11_append_121 0 rfl ?_
            refine v_i2c dX11_append_123 ?_
            obtain ⟨M7, e, h⟩ := bind_some h
            refine v_castore dX11_append_124 e ?_
            refine v_aload_n dX11_append_125 rfl 1 rfl ?_
            refine v_dup dX11_append_126 rfl ?_
            obtain ⟨v8, e, h⟩ := bind_some h
            refine gt_X11_51 e dX11_append_127 ?_
            refine v_iconst (v := 1) dX11_append_130 ci_1 ?_
            refine v_iadd dX11_append_131 ?_
            obtain ⟨M9, e, h⟩ := bind_some h
            refine pt_X11_51 e dX11_append_132 ?_
            refine v_iinc (ls' := [(3, .int (l3 + (-8))), (4, .int ((iushrE l1 l3) &&& (255 : Int32))), (0, .ref l0), (1, .int l1)]) dX11_append_135 3 rfl (v := (-8)) ci_m8 (by decide) rfl ?_
            refine v_goto (tgt := 76) dX11_append_138 (by decide) ?_
            refine v_sub [2, 3, 0] rfl ?_
            exact ih l0 l1 (l3 + (-8)) M9 h
theorem w_X11_append_J37 {G : Gl} {ρ0 : Nat → Nat} {M0 MF : Mem} {r : Int32 ⊕ Nat} (M : Mem) (h : f_X11_append_J37 M = some (r, MF)) : V G (RX11, cX11_append, (some .int), 6, 89, 5, "append", []) (ρ0, M0, cxI r, MF) 37 [] [] M := by
  unfold f_X11_append_J37 at h
  cases h
  exact th_1 dX11_append_37 dX11_append_40 dX11_append_41 dX11_append_44 (by decide) (Nat.le_of_ble_eq_true rfl)
set_option maxHeartbeats 4000000 in
set_option maxRecDepth 100000 in
theorem w_X11_append_L5 {G : Gl} {ρ0 : Nat → Nat} {M0 MF : Mem} {r : Int32 ⊕ Nat} : ∀ (n : Nat) (l0 : Nat) (l1 : Int32) (l2 : Int32) (l3 : Int32) (M : Mem), f_X11_append_L5 n l0 l1 l2 l3 M = some (r, MF) → V G (RX11, cX11_append, (some .int), 6, 89, 5, "append", []) (ρ0, M0, cxI r, MF) 5 [(0, .ref l0), (1, .int l1), (2, .int l2), (3, .int l3)] [] M := by
  intro n
  induction n with
  | zero => intro l0 l1 l2 l3 M h; cases h
  | succ n ih =>
    intro l0 l1 l2 l3 M h
    rw [f_X11_append_L5] at h
    refine v_iload_n dX11_append_5 rfl 3 rfl ?_
    refine v_if_lt (tgt := 54) dX11_append_6 (by decide) (fun c4 => ?_) (fun c4 => ?_)
    · replace h := ifP c4 h
      refine v_aload_n dX11_append_54 rfl 0 rfl ?_
      obtain ⟨v1, e, h⟩ := bind_some h
      refine gt_X11_51 e dX11_append_55 ?_
      refine v_iload_n dX11_append_58 rfl 2 rfl ?_
      refine v_iadd dX11_append_59 ?_
      refine v_bipush (v := 30) dX11_append_60 cb_30 ?_
      refine v_icmp_le (tgt := 73) dX11_append_62 (by decide) (fun c2 => ?_) (fun c2 => ?_)
      · replace h := ifP c2 h
        refine v_bipush (v := 24) dX11_append_73 cb_24 ?_
        refine v_istore_n (ls' := [(3, .int (24 : Int32)), (0, .ref l0), (1, .int l1), (2, .int l2)]) dX11_append_75 rfl (by decide) rfl ?_
        refine v_sub [1, 2, 0] rfl ?_
        exact w_X11_append_L76 FU l0 l1 (24 : Int32) M h
      · replace h := ifN c2 h
        cases h
        exact th_2 dX11_append_65 dX11_append_68 dX11_append_69 dX11_append_72 (by decide) (Nat.le_of_ble_eq_true rfl)
    · replace h := ifN c4 h
      refine v_iload_n dX11_append_9 rfl 1 rfl ?_
      refine v_iload_n dX11_append_10 rfl 3 rfl ?_
      refine v_iushr dX11_append_11 ?_
      refine v_sipush (v := 255) dX11_append_12 cs_255 ?_
      refine v_iand dX11_append_15 ?_
      refine v_istore (ls' := [(4, .int ((iushrE l1 l3) &&& (255 : Int32))), (0, .ref l0), (1, .int l1), (2, .int l2), (3, .int l3)]) dX11_append_16 (by decide) rfl ?_
      refine v_iload dX11_append_18 0 rfl ?_
      refine v_if_eq (tgt := 48) dX11_append_20 (by decide) (fun c3 => ?_) (fun c3 => ?_)
      · replace h := ifP c3 h
        refine v_iinc (ls' := [(3, .int (l3 + (-8))), (4, .int ((iushrE l1 l3) &&& (255 : Int32))), (0, .ref l0), (1, .int l1), (2, .int l2)]) dX11_append_48 4 rfl (v := (-8)) ci_m8 (by decide) rfl ?_
        refine v_goto (tgt := 5) dX11_append_51 (by decide) ?_
        refine v_sub [2, 3, 4, 0] rfl ?_
        exact ih l0 l1 l2 (l3 + (-8)) M h
      · replace h := ifN c3 h
        refine v_iload dX11_append_23 0 rfl ?_
        refine v_bipush (v := 33) dX11_append_25 cb_33 ?_
        refine v_icmp_lt (tgt := 37) dX11_append_27 (by decide) (fun c2 => ?_) (fun c2 => ?_)
        · replace h := ifP c2 h
          refine v_sub [] rfl ?_
          exact w_X11_append_J37 M h
        · replace h := ifN c2 h
          refine v_iload dX11_append_30 0 rfl ?_
          refine v_bipush (v := 126) dX11_append_32 cb_126 ?_
          refine v_icmp_le (tgt := 45) dX11_append_34 (by decide) (fun c1 => ?_) (fun c1 => ?_)
          · replace h := ifP c1 h
            refine v_iinc (ls' := [(2, .int (l2 + 1)), (4, .int ((iushrE l1 l3) &&& (255 : Int32))), (0, .ref l0), (1, .int l1), (3, .int l3)]) dX11_append_45 3 rfl (v := 1) ci_1 (by decide) rfl ?_
            refine v_iinc (ls' := [(3, .int (l3 + (-8))), (2, .int (l2 + 1)), (4, .int ((iushrE l1 l3) &&& (255 : Int32))), (0, .ref l0), (1, .int l1)]) dX11_append_48 4 rfl (v := (-8)) ci_m8 (by decide) rfl ?_
            refine v_goto (tgt := 5) dX11_append_51 (by decide) ?_
            refine v_sub [3, 4, 1, 0] rfl ?_
            exact ih l0 l1 (l2 + 1) (l3 + (-8)) M h
          · replace h := ifN c1 h
            refine v_sub [] rfl ?_
            exact w_X11_append_J37 M h
set_option maxHeartbeats 4000000 in
set_option maxRecDepth 100000 in
theorem w_X11_append {G : Gl} {ρ0 : Nat → Nat} {M0 MF : Mem} {r : Int32 ⊕ Nat} (l0 : Nat) (l1 : Int32) (M : Mem) (h : f_X11_append l0 l1 M = some (r, MF)) : V G (RX11, cX11_append, (some .int), 6, 89, 5, "append", []) (ρ0, M0, cxI r, MF) 0 [(0, .ref l0), (1, .int l1)] [] M := by
  unfold f_X11_append at h
  replace h := (ifS h).2
  refine v_iconst (v := 0) dX11_append_0 ci_0 ?_
  refine v_istore_n (ls' := [(2, .int (0 : Int32)), (0, .ref l0), (1, .int l1)]) dX11_append_1 rfl (by decide) rfl ?_
  refine v_bipush (v := 24) dX11_append_2 cb_24 ?_
  refine v_istore_n (ls' := [(3, .int (24 : Int32)), (2, .int (0 : Int32)), (0, .ref l0), (1, .int l1)]) dX11_append_4 rfl (by decide) rfl ?_
  refine v_sub [2, 3, 1, 0] rfl ?_
  exact w_X11_append_L5 FU l0 l1 (0 : Int32) (24 : Int32) M h
theorem kd_X11_append {l0 : Nat} {l1 : Int32} {M : Mem} {z : _} (h : f_X11_append l0 l1 M = some z) : (mK M l0).1 = 11 := by
  unfold f_X11_append at h
  exact (ifS h).1
theorem k_X11_append {G : Gl} {l0 : Nat} {l1 : Int32} {M MF : Mem} {r : Int32 ⊕ Nat} (h : f_X11_append l0 l1 M = some (r, MF)) : CtrP G yX11_append cX11_append 5 (some .int) 6 89 [.ref l0, .int l1] M (cxI r) MF :=
  ctr_of (by decide +kernel) (Nat.le_of_ble_eq_true rfl) (fun ρ => w_X11_append l0 l1 M h)
set_option maxHeartbeats 4000000 in
set_option maxRecDepth 100000 in
theorem w_X11_errorPosition {G : Gl} {ρ0 : Nat → Nat} {M0 MF : Mem} {r : Int32} (l0 : Nat) (M : Mem) (h : f_X11_errorPosition l0 M = some (r, MF)) : V G (RX11, cX11_errorPosition, (some .int), 0, 0, 1, "errorPosition", []) (ρ0, M0, cvI r, MF) 0 [(0, .ref l0)] [] M := by
  unfold f_X11_errorPosition at h
  replace h := (ifS h).2
  refine v_aload_n dX11_errorPosition_0 rfl 0 rfl ?_
  obtain ⟨v1, e, h⟩ := bind_some h
  refine gt_X11_18 e dX11_errorPosition_1 ?_
  cases h
  exact v_ireturn dX11_errorPosition_4
theorem kd_X11_errorPosition {l0 : Nat} {M : Mem} {z : _} (h : f_X11_errorPosition l0 M = some z) : (mK M l0).1 = 11 := by
  unfold f_X11_errorPosition at h
  exact (ifS h).1
theorem k_X11_errorPosition {G : Gl} {l0 : Nat} {M MF : Mem} {r : Int32} (h : f_X11_errorPosition l0 M = some (r, MF)) : CtrP G yX11_errorPosition cX11_errorPosition 1 (some .int) 0 0 [.ref l0] M (cvI r) MF :=
  ctr_of (by decide +kernel) (Nat.le_of_ble_eq_true rfl) (fun ρ => w_X11_errorPosition l0 M h)
theorem w_X11_setOption_J38 {G : Gl} {ρ0 : Nat → Nat} {M0 MF : Mem} {r : Int32 ⊕ Nat} (M : Mem) (h : f_X11_setOption_J38 M = some (r, MF)) : V G (RX11, cX11_setOption, (some .int), 6, 89, 4, "setOption", []) (ρ0, M0, cxI r, MF) 38 [] [] M := by
  unfold f_X11_setOption_J38 at h
  cases h
  exact th_1 dX11_setOption_38 dX11_setOption_41 dX11_setOption_42 dX11_setOption_45 (by decide) (Nat.le_of_ble_eq_true rfl)
theorem w_X11_setOption_J12 {G : Gl} {ρ0 : Nat → Nat} {M0 MF : Mem} {r : Int32 ⊕ Nat} (M : Mem) (h : f_X11_setOption_J12 M = some (r, MF)) : V G (RX11, cX11_setOption, (some .int), 6, 89, 4, "setOption", []) (ρ0, M0, cxI r, MF) 12 [] [] M := by
  unfold f_X11_setOption_J12 at h
  cases h
  exact th_3 dX11_setOption_12 dX11_setOption_15 dX11_setOption_16 dX11_setOption_19 (by decide) (Nat.le_of_ble_eq_true rfl)
set_option maxHeartbeats 4000000 in
set_option maxRecDepth 100000 in
theorem w_X11_setOption {G : Gl} {ρ0 : Nat → Nat} {M0 MF : Mem} {r : Int32 ⊕ Nat} (l0 : Nat) (l1 : Int32) (l2 : Int32) (M : Mem) (h : f_X11_setOption l0 l1 l2 M = some (r, MF)) : V G (RX11, cX11_setOption, (some .int), 6, 89, 4, "setOption", []) (ρ0, M0, cxI r, MF) 0 [(0, .ref l0), (1, .int l1), (2, .int l2)] [] M := by
  unfold f_X11_setOption at h
  replace h := (ifS h).2
  refine v_iload_n dX11_setOption_0 rfl 1 rfl ?_
  refine v_if_lt (tgt := 12) dX11_setOption_1 (by decide) (fun c12 => ?_) (fun c12 => ?_)
  · replace h := ifP c12 h
    refine v_sub [] rfl ?_
    exact w_X11_setOption_J12 M h
  · replace h := ifN c12 h
    refine v_iload_n dX11_setOption_4 rfl 1 rfl ?_
    refine gs_X11_57 dX11_setOption_5 ?_
    refine v_stlen (w := 2) (by decide) dX11_setOption_8 ?_
    refine v_icmp_lt (tgt := 20) dX11_setOption_9 (by decide) (fun c11 => ?_) (fun c11 => ?_)
    · replace h := ifP c11 h
      refine v_iload_n dX11_setOption_20 rfl 2 rfl ?_
      refine gs_X11_64 dX11_setOption_21 ?_
      refine v_iload_n dX11_setOption_24 rfl 1 rfl ?_
      obtain ⟨v1, e, h⟩ := bind_some h
      refine v_stld (w := 0) (by decide) dX11_setOption_25 e ?_
      refine v_icmp_lt (tgt := 38) dX11_setOption_26 (by decide) (fun c10 => ?_) (fun c10 => ?_)
      · replace h := ifP c10 h
        refine v_sub [] rfl ?_
        exact w_X11_setOption_J38 M h
      · replace h := ifN c10 h
        refine v_iload_n dX11_setOption_29 rfl 2 rfl ?_
        refine gs_X11_67 dX11_setOption_30 ?_
        refine v_iload_n dX11_setOption_33 rfl 1 rfl ?_
        obtain ⟨v2, e, h⟩ := bind_some h
        refine v_stld (w := 1) (by decide) dX11_setOption_34 e ?_
        refine v_icmp_le (tgt := 46) dX11_setOption_35 (by decide) (fun c9 => ?_) (fun c9 => ?_)
        · replace h := ifP c9 h
          refine v_aload_n dX11_setOption_46 rfl 0 rfl ?_
          obtain ⟨v3, e, h⟩ := bind_some h
          refine gt_X11_41 e dX11_setOption_47 ?_
          obtain ⟨v4, e, h⟩ := bind_some h
          refine gt_X11_70 e dX11_setOption_50 ?_
          refine v_iload_n dX11_setOption_53 rfl 1 rfl ?_
          obtain ⟨v5, e, h⟩ := bind_some h
          refine v_iaload dX11_setOption_54 e ?_
          refine v_istore_n (ls' := [(3, .int v5), (0, .ref l0), (1, .int l1), (2, .int l2)]) dX11_setOption_55 rfl (by decide) rfl ?_
          refine v_aload_n dX11_setOption_56 rfl 1 rfl ?_
          obtain ⟨v6, e, h⟩ := bind_some h
          refine gt_X11_41 e dX11_setOption_57 ?_
          obtain ⟨v7, e, h⟩ := bind_some h
          refine gt_X11_70 e dX11_setOption_60 ?_
          refine v_iload_n dX11_setOption_63 rfl 2 rfl ?_
          refine v_iload_n dX11_setOption_64 rfl 3 rfl ?_
          obtain ⟨M8, e, h⟩ := bind_some h
          refine v_iastore dX11_setOption_65 e ?_
          refine v_iload_n dX11_setOption_66 rfl 0 rfl ?_
          cases h
          exact v_ireturn dX11_setOption_67
        · replace h := ifN c9 h
          refine v_sub [] rfl ?_
          exact w_X11_setOption_J38 M h
    · replace h := ifN c11 h
      refine v_sub [] rfl ?_
      exact w_X11_setOption_J12 M h
theorem kd_X11_setOption {l0 : Nat} {l1 : Int32} {l2 : Int32} {M : Mem} {z : _} (h : f_X11_setOption l0 l1 l2 M = some z) : (mK M l0).1 = 11 := by
  unfold f_X11_setOption at h
  exact (ifS h).1
theorem k_X11_setOption {G : Gl} {l0 : Nat} {l1 : Int32} {l2 : Int32} {M MF : Mem} {r : Int32 ⊕ Nat} (h : f_X11_setOption l0 l1 l2 M = some (r, MF)) : CtrP G yX11_setOption cX11_setOption 4 (some .int) 6 89 [.ref l0, .int l1, .int l2] M (cxI r) MF :=
  ctr_of (by decide +kernel) (Nat.le_of_ble_eq_true rfl) (fun ρ => w_X11_setOption l0 l1 l2 M h)
theorem w_X11_requireClient_J10 {G : Gl} {ρ0 : Nat → Nat} {M0 MF : Mem} {r : Unit ⊕ Nat} (M : Mem) (h : f_X11_requireClient_J10 M = some (r, MF)) : V G (RX11, cX11_requireClient, none, 6, 89, 1, "requireClient", []) (ρ0, M0, cxV r, MF) 10 [] [] M := by
  unfold f_X11_requireClient_J10 at h
  cases h
  exact th_3 dX11_requireClient_10 dX11_requireClient_13 dX11_requireClient_14 dX11_requireClient_17 (by decide) (Nat.le_of_ble_eq_true rfl)
set_option maxHeartbeats 4000000 in
set_option maxRecDepth 100000 in
theorem w_X11_requireClient {G : Gl} {ρ0 : Nat → Nat} {M0 MF : Mem} {r : Unit ⊕ Nat} (l0 : Int32) (M : Mem) (h : f_X11_requireClient l0 M = some (r, MF)) : V G (RX11, cX11_requireClient, none, 6, 89, 1, "requireClient", []) (ρ0, M0, cxV r, MF) 0 [(0, .int l0)] [] M := by
  unfold f_X11_requireClient at h
  refine v_iload_n dX11_requireClient_0 rfl 0 rfl ?_
  refine v_if_lt (tgt := 10) dX11_requireClient_1 (by decide) (fun c2 => ?_) (fun c2 => ?_)
  · replace h := ifP c2 h
    refine v_sub [] rfl ?_
    exact w_X11_requireClient_J10 M h
  · replace h := ifN c2 h
    refine v_iload_n dX11_requireClient_4 rfl 0 rfl ?_
    refine v_bipush (v := 6) dX11_requireClient_5 cb_6 ?_
    refine v_icmp_lt (tgt := 18) dX11_requireClient_7 (by decide) (fun c1 => ?_) (fun c1 => ?_)
    · replace h := ifP c1 h
      cases h
      exact v_vreturn dX11_requireClient_18
    · replace h := ifN c1 h
      refine v_sub [] rfl ?_
      exact w_X11_requireClient_J10 M h
theorem k_X11_requireClient {G : Gl} {l0 : Int32} {M MF : Mem} {r : Unit ⊕ Nat} (h : f_X11_requireClient l0 M = some (r, MF)) : CtrP G yX11_requireClient cX11_requireClient 1 none 6 89 [.int l0] M (cxV r) MF :=
  ctr_of (by decide +kernel) (Nat.le_of_ble_eq_true rfl) (fun ρ => w_X11_requireClient l0 M h)
theorem wd_X11_73 : wdT RX11 73 yX11_requireClient cX11_requireClient 1 none 1 := ⟨gwi 688 (by decide +kernel) (by decide +kernel), gwi 689 (by decide +kernel) (by decide +kernel), nw_X11, gwi 690 (by decide +kernel) (by decide +kernel), ⟨by decide +kernel, by decide +kernel, by decide +kernel⟩⟩
theorem ca_X11_73 {G : Gl} {B : Bx} {cc : ByteArray} {ret : Option FieldType} {fr lo nL : Nat} {mn : String} {hh : List (Nat × Nat × Nat × Nat)} {pc : Nat} {ls : List (Nat × Value)} {st : List Value} {M M1 : Mem} {l0 : Int32} {x : Unit} (e : f_X11_requireClient l0 M = some (.inl x, M1)) (hd : decode cc pc = .ok (.invokestatic 73, 3)) (hcat : (st.map fun v => v.category).sum ≤ 8) (hR : 6 + 1 ≤ fr ∧ 8 + (1 + 11) + 89 ≤ lo) (k : V G (RX11, cc, ret, fr, lo, nL, mn, hh) B (pc + 3) ls (st) M1) : V G (RX11, cc, ret, fr, lo, nL, mn, hh) B pc ls (.int l0 :: st) M := v_callS0 (As := [.int l0]) (k_X11_requireClient e) wd_X11_73 hd rfl rfl hcat hR k
theorem cx_X11_73 {G : Gl} {ρ0 : Nat → Nat} {M0 : Mem} {cc : ByteArray} {ret : Option FieldType} {fr lo nL : Nat} {mn : String} {pc : Nat} {ls : List (Nat × Value)} {st : List Value} {M M1 : Mem} {l0 : Int32} {e9 : Nat} (e : f_X11_requireClient l0 M = some (.inr e9, M1)) (hd : decode cc pc = .ok (.invokestatic 73, 3)) (hcat : (st.map fun v => v.category).sum ≤ 8) (hR : 6 + 1 ≤ fr ∧ 8 + (1 + 11) + 89 ≤ lo) : V G (RX11, cc, ret, fr, lo, nL, mn, []) (ρ0, M0, Sum.inr e9, M1) pc ls (.int l0 :: st) M := v_callSx (As := [.int l0]) (k_X11_requireClient e) wd_X11_73 hd rfl rfl hcat hR
set_option maxHeartbeats 4000000 in
set_option maxRecDepth 100000 in
theorem w_X11_connect_J65 {G : Gl} {ρ0 : Nat → Nat} {M0 MF : Mem} {r : Int32 ⊕ Nat} (l0 : Nat) (l2 : Int32) (l3 : Nat) (M : Mem) (h : f_X11_connect_J65 l0 l2 l3 M = some (r, MF)) : V G (RX11, cX11_connect, (some .int), 7, 143, 4, "connect", []) (ρ0, M0, cxI r, MF) 65 [(0, .ref l0), (2, .int l2), (3, .ref l3)] [] M := by
  unfold f_X11_connect_J65 at h
  refine v_aload_n dX11_connect_65 rfl 2 rfl ?_
  refine v_iconst (v := 1) dX11_connect_66 ci_1 ?_
  obtain ⟨M1, e, h⟩ := bind_some h
  refine pt_X11_81 e dX11_connect_67 ?_
  refine v_aload_n dX11_connect_70 rfl 2 rfl ?_
  obtain ⟨v2, e, h⟩ := bind_some h
  refine gt_X11_94 e dX11_connect_71 ?_
  obtain ⟨v3, e, h⟩ := bind_some h
  refine gt_X11_98 e dX11_connect_74 ?_
  refine v_if_ne (tgt := 90) dX11_connect_77 (by decide) (fun c6 => ?_) (fun c6 => ?_)
  · replace h := ifN c6 h
    refine v_aload_n dX11_connect_90 rfl 0 rfl ?_
    obtain ⟨v4, e, h⟩ := bind_some h
    refine gt_X11_41 e dX11_connect_91 ?_
    refine v_aload_n dX11_connect_94 rfl 2 rfl ?_
    obtain ⟨M5, e, h⟩ := bind_some h
    refine ca_X11_110 e dX11_connect_95 (Nat.le_of_ble_eq_true rfl) (by decide) ?_
    refine v_iconst (v := 1) dX11_connect_98 ci_1 ?_
    cases h
    exact v_ireturn dX11_connect_99
  · replace h := ifP c6 h
    refine v_aload_n dX11_connect_80 rfl 2 rfl ?_
    obtain ⟨v4, e, h⟩ := bind_some h
    refine gt_X11_94 e dX11_connect_81 ?_
    refine v_iload_n dX11_connect_84 rfl 1 rfl ?_
    obtain ⟨M5, e, h⟩ := bind_some h
    refine ca_X11_106 e dX11_connect_85 (Nat.le_of_ble_eq_true rfl) (by decide) ?_
    refine v_iconst (v := 0) dX11_connect_88 ci_0 ?_
    cases h
    exact v_ireturn dX11_connect_89
set_option maxHeartbeats 4000000 in
set_option maxRecDepth 100000 in
theorem w_X11_connect_J43 {G : Gl} {ρ0 : Nat → Nat} {M0 MF : Mem} {r : Int32 ⊕ Nat} (l0 : Nat) (l1 : Int32) (l2 : Int32) (l3 : Nat) (M : Mem) (h : f_X11_connect_J43 l0 l1 l2 l3 M = some (r, MF)) : V G (RX11, cX11_connect, (some .int), 7, 143, 4, "connect", []) (ρ0, M0, cxI r, MF) 43 [(0, .ref l0), (1, .int l1), (2, .int l2), (3, .ref l3)] [] M := by
  unfold f_X11_connect_J43 at h
  refine v_iload_n dX11_connect_43 rfl 2 rfl ?_
  refine v_if_eq (tgt := 65) dX11_connect_44 (by decide) (fun c6 => ?_) (fun c6 => ?_)
  · replace h := ifP c6 h
    refine v_sub [0, 2, 3] rfl ?_
    exact w_X11_connect_J65 l0 l2 l3 M h
  · replace h := ifN c6 h
    refine v_aload_n dX11_connect_47 rfl 3 rfl ?_
    obtain ⟨v1, e, h⟩ := bind_some h
    refine gt_X11_94 e dX11_connect_48 ?_
    obtain ⟨v2, e, h⟩ := bind_some h
    refine gt_X11_98 e dX11_connect_51 ?_
    refine v_if_eq (tgt := 65) dX11_connect_54 (by decide) (fun c5 => ?_) (fun c5 => ?_)
    · replace h := ifP c5 h
      refine v_sub [0, 2, 3] rfl ?_
      exact w_X11_connect_J65 l0 l2 l3 M h
    · replace h := ifN c5 h
      refine v_aload_n dX11_connect_57 rfl 0 rfl ?_
      obtain ⟨v3, e, h⟩ := bind_some h
      refine gt_X11_41 e dX11_connect_58 ?_
      refine v_iload_n dX11_connect_61 rfl 1 rfl ?_
      obtain ⟨M4, e, h⟩ := bind_some h
      refine ca_X11_103 e dX11_connect_62 (Nat.le_of_ble_eq_true rfl) (by decide) ?_
      refine v_sub [0, 2, 3] rfl ?_
      exact w_X11_connect_J65 l0 l2 l3 M4 h
set_option maxHeartbeats 4000000 in
set_option maxRecDepth 100000 in
theorem w_X11_connect {G : Gl} {ρ0 : Nat → Nat} {M0 MF : Mem} {r : Int32 ⊕ Nat} (l0 : Nat) (l1 : Int32) (l2 : Int32) (M : Mem) (h : f_X11_connect l0 l1 l2 M = some (r, MF)) : V G (RX11, cX11_connect, (some .int), 7, 143, 4, "connect", []) (ρ0, M0, cxI r, MF) 0 [(0, .ref l0), (1, .int l1), (2, .int l2)] [] M := by
  unfold f_X11_connect at h
  replace h := (ifS h).2
  refine v_iload_n dX11_connect_0 rfl 1 rfl ?_
  rcases bindX_some h with ⟨u2, M1, e, h⟩ | ⟨e9, e, rfl⟩
  rotate_left
  · exact cx_X11_73 e dX11_connect_1 (Nat.le_of_ble_eq_true rfl) (by decide)
  refine ca_X11_73 e dX11_connect_1 (Nat.le_of_ble_eq_true rfl) (by decide) ?_
  refine v_aload_n dX11_connect_4 rfl 0 rfl ?_
  obtain ⟨v3, e, h⟩ := bind_some h
  refine gt_X11_41 e dX11_connect_5 ?_
  obtain ⟨v4, e, h⟩ := bind_some h
  refine gt_X11_77 e dX11_connect_8 ?_
  refine v_iload_n dX11_connect_11 rfl 1 rfl ?_
  obtain ⟨v5, e, h⟩ := bind_some h
  refine al_0 e dX11_connect_12 ?_
  refine v_astore_n (ls' := [(3, .ref v5), (0, .ref l0), (1, .int l1), (2, .int l2)]) dX11_connect_13 rfl (by decide) rfl ?_
  refine v_aload_n dX11_connect_14 rfl 0 rfl ?_
  obtain ⟨v6, e, h⟩ := bind_some h
  refine gt_X11_81 e dX11_connect_15 ?_
  refine v_if_eq (tgt := 43) dX11_connect_18 (by decide) (fun c14 => ?_) (fun c14 => ?_)
  · replace h := ifP c14 h
    refine v_sub [1, 2, 3, 0] rfl ?_
    exact w_X11_connect_J43 l0 l1 l2 v5 M1 h
  · replace h := ifN c14 h
    refine v_aload_n dX11_connect_21 rfl 1 rfl ?_
    obtain ⟨v7, e, h⟩ := bind_some h
    refine gt_X11_41 e dX11_connect_22 ?_
    obtain ⟨v8, e, h⟩ := bind_some h
    refine gt_X11_87 e dX11_connect_25 ?_
    refine v_iconst (v := 5) dX11_connect_28 ci_5 ?_
    refine v_dup2 dX11_connect_29 rfl rfl ?_
    obtain ⟨v9, e, h⟩ := bind_some h
    refine v_iaload dX11_connect_30 e ?_
    refine v_iconst (v := 1) dX11_connect_31 ci_1 ?_
    refine v_iadd dX11_connect_32 ?_
    obtain ⟨M10, e, h⟩ := bind_some h
    refine v_iastore dX11_connect_33 e ?_
    refine v_aload_n dX11_connect_34 rfl 1 rfl ?_
    obtain ⟨v11, e, h⟩ := bind_some h
    refine gt_X11_41 e dX11_connect_35 ?_
    refine v_iload_n dX11_connect_38 rfl 2 rfl ?_
    obtain ⟨v13, M12, e, h⟩ := bindP_some h
    refine ca_X11_90 e dX11_connect_39 (Nat.le_of_ble_eq_true rfl) (by decide) ?_
    refine v_pop dX11_connect_42 rfl ?_
    refine v_sub [1, 2, 3, 0] rfl ?_
    exact w_X11_connect_J43 l0 l1 l2 v5 M12 h
theorem kd_X11_connect {l0 : Nat} {l1 : Int32} {l2 : Int32} {M : Mem} {z : _} (h : f_X11_connect l0 l1 l2 M = some z) : (mK M l0).1 = 11 := by
  unfold f_X11_connect at h
  exact (ifS h).1
theorem k_X11_connect {G : Gl} {l0 : Nat} {l1 : Int32} {l2 : Int32} {M MF : Mem} {r : Int32 ⊕ Nat} (h : f_X11_connect l0 l1 l2 M = some (r, MF)) : CtrP G yX11_connect cX11_connect 4 (some .int) 7 143 [.ref l0, .int l1, .int l2] M (cxI r) MF :=
  ctr_of (by decide +kernel) (Nat.le_of_ble_eq_true rfl) (fun ρ => w_X11_connect l0 l1 l2 M h)
set_option maxHeartbeats 4000000 in
set_option maxRecDepth 100000 in
theorem w_X11_requireConnection {G : Gl} {ρ0 : Nat → Nat} {M0 MF : Mem} {r : Unit ⊕ Nat} (l0 : Nat) (l1 : Int32) (M : Mem) (h : f_X11_requireConnection l0 l1 M = some (r, MF)) : V G (RX11, cX11_requireConnection, none, 6, 89, 2, "requireConnection", []) (ρ0, M0, cxV r, MF) 0 [(0, .ref l0), (1, .int l1)] [] M := by
  unfold f_X11_requireConnection at h
  replace h := (ifS h).2
  refine v_aload_n dX11_requireConnection_0 rfl 0 rfl ?_
  obtain ⟨v1, e, h⟩ := bind_some h
  refine gt_X11_41 e dX11_requireConnection_1 ?_
  obtain ⟨v2, e, h⟩ := bind_some h
  refine gt_X11_77 e dX11_requireConnection_4 ?_
  refine v_iload_n dX11_requireConnection_7 rfl 1 rfl ?_
  obtain ⟨v3, e, h⟩ := bind_some h
  refine al_0 e dX11_requireConnection_8 ?_
  obtain ⟨v4, e, h⟩ := bind_some h
  refine gt_X11_81 e dX11_requireConnection_9 ?_
  refine v_if_ne (tgt := 23) dX11_requireConnection_12 (by decide) (fun c5 => ?_) (fun c5 => ?_)
  · replace h := ifN c5 h
    cases h
    exact v_vreturn dX11_requireConnection_23
  · replace h := ifP c5 h
    cases h
    exact th_2 dX11_requireConnection_15 dX11_requireConnection_18 dX11_requireConnection_19 dX11_requireConnection_22 (by decide) (Nat.le_of_ble_eq_true rfl)
theorem kd_X11_requireConnection {l0 : Nat} {l1 : Int32} {M : Mem} {z : _} (h : f_X11_requireConnection l0 l1 M = some z) : (mK M l0).1 = 11 := by
  unfold f_X11_requireConnection at h
  exact (ifS h).1
theorem k_X11_requireConnection {G : Gl} {l0 : Nat} {l1 : Int32} {M MF : Mem} {r : Unit ⊕ Nat} (h : f_X11_requireConnection l0 l1 M = some (r, MF)) : CtrP G yX11_requireConnection cX11_requireConnection 2 none 6 89 [.ref l0, .int l1] M (cxV r) MF :=
  ctr_of (by decide +kernel) (Nat.le_of_ble_eq_true rfl) (fun ρ => w_X11_requireConnection l0 l1 M h)
theorem wd_X11_114 : wdV RX11 114 RX11 yX11_requireConnection cX11_requireConnection 2 none 1 := ⟨gwi 874 (by decide +kernel) (by decide +kernel), gwi 876 (by decide +kernel) (by decide +kernel), gwi 18 (by decide +kernel) (by decide +kernel), nw_X11, gwi 877 (by decide +kernel) (by decide +kernel), ⟨rfl, by decide +kernel, by decide +kernel, by decide +kernel⟩⟩
theorem ca_X11_114 {G : Gl} {B : Bx} {cc : ByteArray} {ret : Option FieldType} {fr lo nL : Nat} {mn : String} {hh : List (Nat × Nat × Nat × Nat)} {pc : Nat} {ls : List (Nat × Value)} {st : List Value} {M M1 : Mem} {l0 : Nat} {l1 : Int32} {x : Unit} (e : f_X11_requireConnection l0 l1 M = some (.inl x, M1)) (hd : decode cc pc = .ok (.invokevirtual 114, 3)) (hcat : (st.map fun v => v.category).sum ≤ 8) (hR : 6 + 1 ≤ fr ∧ 8 + (2 + 11) + 89 ≤ lo) (k : V G (RX11, cc, ret, fr, lo, nL, mn, hh) B (pc + 3) ls (st) M1) : V G (RX11, cc, ret, fr, lo, nL, mn, hh) B pc ls (.int l1 :: .ref l0 :: st) M := v_callV0 (As := [.int l1]) (k_X11_requireConnection e) wd_X11_114 clX11 (kd_X11_requireConnection e) hd rfl rfl hcat hR k
theorem cx_X11_114 {G : Gl} {ρ0 : Nat → Nat} {M0 : Mem} {cc : ByteArray} {ret : Option FieldType} {fr lo nL : Nat} {mn : String} {pc : Nat} {ls : List (Nat × Value)} {st : List Value} {M M1 : Mem} {l0 : Nat} {l1 : Int32} {e9 : Nat} (e : f_X11_requireConnection l0 l1 M = some (.inr e9, M1)) (hd : decode cc pc = .ok (.invokevirtual 114, 3)) (hcat : (st.map fun v => v.category).sum ≤ 8) (hR : 6 + 1 ≤ fr ∧ 8 + (2 + 11) + 89 ≤ lo) : V G (RX11, cc, ret, fr, lo, nL, mn, []) (ρ0, M0, Sum.inr e9, M1) pc ls (.int l1 :: .ref l0 :: st) M := v_callVx (As := [.int l1]) (k_X11_requireConnection e) wd_X11_114 clX11 (kd_X11_requireConnection e) hd rfl rfl hcat hR
set_option maxHeartbeats 4000000 in
set_option maxRecDepth 100000 in
theorem w_X11_disconnect {G : Gl} {ρ0 : Nat → Nat} {M0 MF : Mem} {r : Int32 ⊕ Nat} (l0 : Nat) (l1 : Int32) (M : Mem) (h : f_X11_disconnect l0 l1 M = some (r, MF)) : V G (RX11, cX11_disconnect, (some .int), 7, 110, 3, "disconnect", []) (ρ0, M0, cxI r, MF) 0 [(0, .ref l0), (1, .int l1)] [] M := by
  unfold f_X11_disconnect at h
  replace h := (ifS h).2
  refine v_iload_n dX11_disconnect_0 rfl 1 rfl ?_
  rcases bindX_some h with ⟨u2, M1, e, h⟩ | ⟨e9, e, rfl⟩
  rotate_left
  · exact cx_X11_73 e dX11_disconnect_1 (Nat.le_of_ble_eq_true rfl) (by decide)
  refine ca_X11_73 e dX11_disconnect_1 (Nat.le_of_ble_eq_true rfl) (by decide) ?_
  refine v_aload_n dX11_disconnect_4 rfl 0 rfl ?_
  refine v_iload_n dX11_disconnect_5 rfl 1 rfl ?_
  rcases bindX_some h with ⟨u4, M3, e, h⟩ | ⟨e9, e, rfl⟩
  rotate_left
  · exact cx_X11_114 e dX11_disconnect_6 (Nat.le_of_ble_eq_true rfl) (by decide)
  refine ca_X11_114 e dX11_disconnect_6 (Nat.le_of_ble_eq_true rfl) (by decide) ?_
  refine v_aload_n dX11_disconnect_9 rfl 0 rfl ?_
  obtain ⟨v5, e, h⟩ := bind_some h
  refine gt_X11_41 e dX11_disconnect_10 ?_
  obtain ⟨v6, e, h⟩ := bind_some h
  refine gt_X11_77 e dX11_disconnect_13 ?_
  refine v_iload_n dX11_disconnect_16 rfl 1 rfl ?_
  obtain ⟨v7, e, h⟩ := bind_some h
  refine al_0 e dX11_disconnect_17 ?_
  refine v_astore_n (ls' := [(2, .ref v7), (0, .ref l0), (1, .int l1)]) dX11_disconnect_18 rfl (by decide) rfl ?_
  refine v_aload_n dX11_disconnect_19 rfl 0 rfl ?_
  refine v_iconst (v := 0) dX11_disconnect_20 ci_0 ?_
  obtain ⟨M8, e, h⟩ := bind_some h
  refine pt_X11_117 e dX11_disconnect_21 ?_
  refine v_aload_n dX11_disconnect_24 rfl 1 rfl ?_
  obtain ⟨v9, e, h⟩ := bind_some h
  refine gt_X11_41 e dX11_disconnect_25 ?_
  refine v_iload_n dX11_disconnect_28 rfl 2 rfl ?_
  obtain ⟨M10, e, h⟩ := bind_some h
  refine ca_X11_120 e dX11_disconnect_29 (Nat.le_of_ble_eq_true rfl) (by decide) ?_
  refine v_aload_n dX11_disconnect_32 rfl 0 rfl ?_
  obtain ⟨v11, e, h⟩ := bind_some h
  refine gt_X11_94 e dX11_disconnect_33 ?_
  obtain ⟨v12, e, h⟩ := bind_some h
  refine gt_X11_98 e dX11_disconnect_36 ?_
  refine v_if_eq (tgt := 46) dX11_disconnect_39 (by decide) (fun c13 => ?_) (fun c13 => ?_)
  · replace h := ifP c13 h
    refine v_iconst (v := 0) dX11_disconnect_46 ci_0 ?_
    cases h
    exact v_ireturn dX11_disconnect_47
  · replace h := ifN c13 h
    refine v_iconst (v := 1) dX11_disconnect_42 ci_1 ?_
    refine v_goto (tgt := 47) dX11_disconnect_43 (by decide) ?_
    cases h
    exact v_ireturn dX11_disconnect_47
theorem kd_X11_disconnect {l0 : Nat} {l1 : Int32} {M : Mem} {z : _} (h : f_X11_disconnect l0 l1 M = some z) : (mK M l0).1 = 11 := by
  unfold f_X11_disconnect at h
  exact (ifS h).1
theorem k_X11_disconnect {G : Gl} {l0 : Nat} {l1 : Int32} {M MF : Mem} {r : Int32 ⊕ Nat} (h : f_X11_disconnect l0 l1 M = some (r, MF)) : CtrP G yX11_disconnect cX11_disconnect 3 (some .int) 7 110 [.ref l0, .int l1] M (cxI r) MF :=
  ctr_of (by decide +kernel) (Nat.le_of_ble_eq_true rfl) (fun ρ => w_X11_disconnect l0 l1 M h)
set_option maxHeartbeats 4000000 in
set_option maxRecDepth 100000 in
theorem w_X11_breakConnection {G : Gl} {ρ0 : Nat → Nat} {M0 MF : Mem} {r : Int32 ⊕ Nat} (l0 : Nat) (l1 : Int32) (M : Mem) (h : f_X11_breakConnection l0 l1 M = some (r, MF)) : V G (RX11, cX11_breakConnection, (some .int), 7, 143, 2, "breakConnection", []) (ρ0, M0, cxI r, MF) 0 [(0, .ref l0), (1, .int l1)] [] M := by
  unfold f_X11_breakConnection at h
  replace h := (ifS h).2
  refine v_iload_n dX11_breakConnection_0 rfl 1 rfl ?_
  rcases bindX_some h with ⟨u2, M1, e, h⟩ | ⟨e9, e, rfl⟩
  rotate_left
  · exact cx_X11_73 e dX11_breakConnection_1 (Nat.le_of_ble_eq_true rfl) (by decide)
  refine ca_X11_73 e dX11_breakConnection_1 (Nat.le_of_ble_eq_true rfl) (by decide) ?_
  refine v_aload_n dX11_breakConnection_4 rfl 0 rfl ?_
  refine v_iload_n dX11_breakConnection_5 rfl 1 rfl ?_
  rcases bindX_some h with ⟨u4, M3, e, h⟩ | ⟨e9, e, rfl⟩
  rotate_left
  · exact cx_X11_114 e dX11_breakConnection_6 (Nat.le_of_ble_eq_true rfl) (by decide)
  refine ca_X11_114 e dX11_breakConnection_6 (Nat.le_of_ble_eq_true rfl) (by decide) ?_
  refine v_aload_n dX11_breakConnection_9 rfl 0 rfl ?_
  obtain ⟨v5, e, h⟩ := bind_some h
  refine gt_X11_41 e dX11_breakConnection_10 ?_
  refine v_iload_n dX11_breakConnection_13 rfl 1 rfl ?_
  obtain ⟨v7, M6, e, h⟩ := bindP_some h
  refine ca_X11_90 e dX11_breakConnection_14 (Nat.le_of_ble_eq_true rfl) (by decide) ?_
  cases h
  exact v_ireturn dX11_breakConnection_17
theorem kd_X11_breakConnection {l0 : Nat} {l1 : Int32} {M : Mem} {z : _} (h : f_X11_breakConnection l0 l1 M = some z) : (mK M l0).1 = 11 := by
  unfold f_X11_breakConnection at h
  exact (ifS h).1
theorem k_X11_breakConnection {G : Gl} {l0 : Nat} {l1 : Int32} {M MF : Mem} {r : Int32 ⊕ Nat} (h : f_X11_breakConnection l0 l1 M = some (r, MF)) : CtrP G yX11_breakConnection cX11_breakConnection 2 (some .int) 7 143 [.ref l0, .int l1] M (cxI r) MF :=
  ctr_of (by decide +kernel) (Nat.le_of_ble_eq_true rfl) (fun ρ => w_X11_breakConnection l0 l1 M h)
set_option maxHeartbeats 4000000 in
set_option maxRecDepth 100000 in
theorem w_X11_takeBuffer {G : Gl} {ρ0 : Nat → Nat} {M0 MF : Mem} {r : Int32} (l0 : Nat) (M : Mem) (h : f_X11_takeBuffer l0 M = some (r, MF)) : V G (RX11, cX11_takeBuffer, (some .int), 0, 0, 2, "takeBuffer", []) (ρ0, M0, cvI r, MF) 0 [(0, .ref l0)] [] M := by
  unfold f_X11_takeBuffer at h
  replace h := (ifS h).2
  refine v_aload_n dX11_takeBuffer_0 rfl 0 rfl ?_
  obtain ⟨v1, e, h⟩ := bind_some h
  refine gt_X11_51 e dX11_takeBuffer_1 ?_
  refine v_istore_n (ls' := [(1, .int v1), (0, .ref l0)]) dX11_takeBuffer_4 rfl (by decide) rfl ?_
  refine v_aload_n dX11_takeBuffer_5 rfl 1 rfl ?_
  refine v_iconst (v := 0) dX11_takeBuffer_6 ci_0 ?_
  obtain ⟨M2, e, h⟩ := bind_some h
  refine pt_X11_51 e dX11_takeBuffer_7 ?_
  refine v_iload_n dX11_takeBuffer_10 rfl 0 rfl ?_
  cases h
  exact v_ireturn dX11_takeBuffer_11
theorem kd_X11_takeBuffer {l0 : Nat} {M : Mem} {z : _} (h : f_X11_takeBuffer l0 M = some z) : (mK M l0).1 = 11 := by
  unfold f_X11_takeBuffer at h
  exact (ifS h).1
theorem k_X11_takeBuffer {G : Gl} {l0 : Nat} {M MF : Mem} {r : Int32} (h : f_X11_takeBuffer l0 M = some (r, MF)) : CtrP G yX11_takeBuffer cX11_takeBuffer 2 (some .int) 0 0 [.ref l0] M (cvI r) MF :=
  ctr_of (by decide +kernel) (Nat.le_of_ble_eq_true rfl) (fun ρ => w_X11_takeBuffer l0 M h)
theorem wd_X11_123 : wdV RX11 123 RX11 yX11_takeBuffer cX11_takeBuffer 2 (some .int) 0 := ⟨gwi 893 (by decide +kernel) (by decide +kernel), gwi 895 (by decide +kernel) (by decide +kernel), gwi 19 (by decide +kernel) (by decide +kernel), nw_X11, gwi 896 (by decide +kernel) (by decide +kernel), ⟨rfl, by decide +kernel, by decide +kernel, by decide +kernel⟩⟩
theorem ca_X11_123 {G : Gl} {B : Bx} {cc : ByteArray} {ret : Option FieldType} {fr lo nL : Nat} {mn : String} {hh : List (Nat × Nat × Nat × Nat)} {pc : Nat} {ls : List (Nat × Value)} {st : List Value} {M M1 : Mem} {l0 : Nat} {x : Int32} (e : f_X11_takeBuffer l0 M = some (x, M1)) (hd : decode cc pc = .ok (.invokevirtual 123, 3)) (hcat : (st.map fun v => v.category).sum ≤ 8) (hR : 0 + 1 ≤ fr ∧ 8 + (2 + 11) + 0 ≤ lo) (k : V G (RX11, cc, ret, fr, lo, nL, mn, hh) B (pc + 3) ls (.int x :: st) M1) : V G (RX11, cc, ret, fr, lo, nL, mn, hh) B pc ls (.ref l0 :: st) M := v_callVi (As := []) (k_X11_takeBuffer e) wd_X11_123 clX11 (kd_X11_takeBuffer e) hd rfl rfl hcat hR k
set_option maxHeartbeats 4000000 in
set_option maxRecDepth 100000 in
theorem w_X11_readText {G : Gl} {ρ0 : Nat → Nat} {M0 MF : Mem} {r : Nat ⊕ Nat} (l0 : Nat) (l1 : Int32) (l2 : Int32) (M : Mem) (h : f_X11_readText l0 l1 l2 M = some (r, MF)) : V G (RX11, cX11_readText, (some (.object "GradedTopicBroker$Text")), 6, 89, 3, "readText", []) (ρ0, M0, cxR r, MF) 0 [(0, .ref l0), (1, .int l1), (2, .int l2)] [] M := by
  unfold f_X11_readText at h
  replace h := (ifS h).2
  refine v_aload_n dX11_readText_0 rfl 0 rfl ?_
  refine v_aload_n dX11_readText_1 rfl 0 rfl ?_
  obtain ⟨v1, e, h⟩ := bind_some h
  refine gt_X11_14 e dX11_readText_2 ?_
  refine v_iload_n dX11_readText_5 rfl 1 rfl ?_
  refine v_iload_n dX11_readText_6 rfl 2 rfl ?_
  obtain ⟨v3, M2, e, h⟩ := bindP_some h
  refine ca_X11_353 e dX11_readText_7 (Nat.le_of_ble_eq_true rfl) (by decide) ?_
  obtain ⟨M4, e, h⟩ := bind_some h
  refine pt_X11_18 e dX11_readText_10 ?_
  refine v_aload_n dX11_readText_13 rfl 0 rfl ?_
  obtain ⟨v5, e, h⟩ := bind_some h
  refine gt_X11_18 e dX11_readText_14 ?_
  refine v_if_lt (tgt := 28) dX11_readText_17 (by decide) (fun c10 => ?_) (fun c10 => ?_)
  · replace h := ifP c10 h
    obtain ⟨v6, M7, e, h⟩ := bindP_some h
    refine nx_X11_7 e dX11_readText_28 ?_
    refine v_dup dX11_readText_31 rfl ?_
    refine v_aload_n dX11_readText_32 rfl 0 rfl ?_
    obtain ⟨v8, e, h⟩ := bind_some h
    refine gt_X11_14 e dX11_readText_33 ?_
    refine v_iload_n dX11_readText_36 rfl 1 rfl ?_
    obtain ⟨M9, e, h⟩ := bind_some h
    refine ca_X11_9 e dX11_readText_37 (Nat.le_of_ble_eq_true rfl) (by decide) ?_
    cases h
    exact v_areturn dX11_readText_40
  · replace h := ifN c10 h
    cases h
    exact th_1 dX11_readText_20 dX11_readText_23 dX11_readText_24 dX11_readText_27 (by decide) (Nat.le_of_ble_eq_true rfl)
theorem kd_X11_readText {l0 : Nat} {l1 : Int32} {l2 : Int32} {M : Mem} {z : _} (h : f_X11_readText l0 l1 l2 M = some z) : (mK M l0).1 = 11 := by
  unfold f_X11_readText at h
  exact (ifS h).1
theorem k_X11_readText {G : Gl} {l0 : Nat} {l1 : Int32} {l2 : Int32} {M MF : Mem} {r : Nat ⊕ Nat} (h : f_X11_readText l0 l1 l2 M = some (r, MF)) : CtrP G yX11_readText cX11_readText 3 (some (.object "GradedTopicBroker$Text")) 6 89 [.ref l0, .int l1, .int l2] M (cxR r) MF :=
  ctr_of (by decide +kernel) (Nat.le_of_ble_eq_true rfl) (fun ρ => w_X11_readText l0 l1 l2 M h)
theorem wd_X11_349 : wdV RX11 349 RX11 yX11_readText cX11_readText 3 (some (.object "GradedTopicBroker$Text")) 2 := ⟨gwi 901 (by decide +kernel) (by decide +kernel), gwi 903 (by decide +kernel) (by decide +kernel), gwi 21 (by decide +kernel) (by decide +kernel), nw_X11, gwi 904 (by decide +kernel) (by decide +kernel), ⟨rfl, by decide +kernel, by decide +kernel, by decide +kernel⟩⟩
theorem ca_X11_349 {G : Gl} {B : Bx} {cc : ByteArray} {ret : Option FieldType} {fr lo nL : Nat} {mn : String} {hh : List (Nat × Nat × Nat × Nat)} {pc : Nat} {ls : List (Nat × Value)} {st : List Value} {M M1 : Mem} {l0 : Nat} {l1 : Int32} {l2 : Int32} {x : Nat} (e : f_X11_readText l0 l1 l2 M = some (.inl x, M1)) (hd : decode cc pc = .ok (.invokevirtual 349, 3)) (hcat : (st.map fun v => v.category).sum ≤ 8) (hR : 6 + 1 ≤ fr ∧ 8 + (3 + 11) + 89 ≤ lo) (k : V G (RX11, cc, ret, fr, lo, nL, mn, hh) B (pc + 3) ls (.ref x :: st) M1) : V G (RX11, cc, ret, fr, lo, nL, mn, hh) B pc ls (.int l2 :: .int l1 :: .ref l0 :: st) M := v_callVr (As := [.int l1, .int l2]) (k_X11_readText e) wd_X11_349 clX11 (kd_X11_readText e) hd rfl rfl hcat hR k
theorem cx_X11_349 {G : Gl} {ρ0 : Nat → Nat} {M0 : Mem} {cc : ByteArray} {ret : Option FieldType} {fr lo nL : Nat} {mn : String} {pc : Nat} {ls : List (Nat × Value)} {st : List Value} {M M1 : Mem} {l0 : Nat} {l1 : Int32} {l2 : Int32} {e9 : Nat} (e : f_X11_readText l0 l1 l2 M = some (.inr e9, M1)) (hd : decode cc pc = .ok (.invokevirtual 349, 3)) (hcat : (st.map fun v => v.category).sum ≤ 8) (hR : 6 + 1 ≤ fr ∧ 8 + (3 + 11) + 89 ≤ lo) : V G (RX11, cc, ret, fr, lo, nL, mn, []) (ρ0, M0, Sum.inr e9, M1) pc ls (.int l2 :: .int l1 :: .ref l0 :: st) M := v_callVx (As := [.int l1, .int l2]) (k_X11_readText e) wd_X11_349 clX11 (kd_X11_readText e) hd rfl rfl hcat hR
set_option maxHeartbeats 4000000 in
set_option maxRecDepth 100000 in
theorem w_X11_readTopic {G : Gl} {ρ0 : Nat → Nat} {M0 MF : Mem} {r : Nat ⊕ Nat} (l0 : Nat) (l1 : Int32) (M : Mem) (h : f_X11_readTopic l0 l1 M = some (r, MF)) : V G (RX11, cX11_readTopic, (some (.object "GradedTopicBroker$Text")), 7, 111, 2, "readTopic", []) (ρ0, M0, cxR r, MF) 0 [(0, .ref l0), (1, .int l1)] [] M := by
  unfold f_X11_readTopic at h
  replace h := (ifS h).2
  refine v_aload_n dX11_readTopic_0 rfl 0 rfl ?_
  refine v_iload_n dX11_readTopic_1 rfl 1 rfl ?_
  refine v_iconst (v := 0) dX11_readTopic_2 ci_0 ?_
  rcases bindX_some h with ⟨v2, M1, e, h⟩ | ⟨e9, e, rfl⟩
  rotate_left
  · exact cx_X11_349 e dX11_readTopic_3 (Nat.le_of_ble_eq_true rfl) (by decide)
  refine ca_X11_349 e dX11_readTopic_3 (Nat.le_of_ble_eq_true rfl) (by decide) ?_
  cases h
  exact v_areturn dX11_readTopic_6
theorem kd_X11_readTopic {l0 : Nat} {l1 : Int32} {M : Mem} {z : _} (h : f_X11_readTopic l0 l1 M = some z) : (mK M l0).1 = 11 := by
  unfold f_X11_readTopic at h
  exact (ifS h).1
theorem k_X11_readTopic {G : Gl} {l0 : Nat} {l1 : Int32} {M MF : Mem} {r : Nat ⊕ Nat} (h : f_X11_readTopic l0 l1 M = some (r, MF)) : CtrP G yX11_readTopic cX11_readTopic 2 (some (.object "GradedTopicBroker$Text")) 7 111 [.ref l0, .int l1] M (cxR r) MF :=
  ctr_of (by decide +kernel) (Nat.le_of_ble_eq_true rfl) (fun ρ => w_X11_readTopic l0 l1 M h)
theorem wd_X11_127 : wdV RX11 127 RX11 yX11_readTopic cX11_readTopic 2 (some (.object "GradedTopicBroker$Text")) 1 := ⟨gwi 897 (by decide +kernel) (by decide +kernel), gwi 899 (by decide +kernel) (by decide +kernel), gwi 20 (by decide +kernel) (by decide +kernel), nw_X11, gwi 900 (by decide +kernel) (by decide +kernel), ⟨rfl, by decide +kernel, by decide +kernel, by decide +kernel⟩⟩
theorem ca_X11_127 {G : Gl} {B : Bx} {cc : ByteArray} {ret : Option FieldType} {fr lo nL : Nat} {mn : String} {hh : List (Nat × Nat × Nat × Nat)} {pc : Nat} {ls : List (Nat × Value)} {st : List Value} {M M1 : Mem} {l0 : Nat} {l1 : Int32} {x : Nat} (e : f_X11_readTopic l0 l1 M = some (.inl x, M1)) (hd : decode cc pc = .ok (.invokevirtual 127, 3)) (hcat : (st.map fun v => v.category).sum ≤ 8) (hR : 7 + 1 ≤ fr ∧ 8 + (2 + 11) + 111 ≤ lo) (k : V G (RX11, cc, ret, fr, lo, nL, mn, hh) B (pc + 3) ls (.ref x :: st) M1) : V G (RX11, cc, ret, fr, lo, nL, mn, hh) B pc ls (.int l1 :: .ref l0 :: st) M := v_callVr (As := [.int l1]) (k_X11_readTopic e) wd_X11_127 clX11 (kd_X11_readTopic e) hd rfl rfl hcat hR k
theorem cx_X11_127 {G : Gl} {ρ0 : Nat → Nat} {M0 : Mem} {cc : ByteArray} {ret : Option FieldType} {fr lo nL : Nat} {mn : String} {pc : Nat} {ls : List (Nat × Value)} {st : List Value} {M M1 : Mem} {l0 : Nat} {l1 : Int32} {e9 : Nat} (e : f_X11_readTopic l0 l1 M = some (.inr e9, M1)) (hd : decode cc pc = .ok (.invokevirtual 127, 3)) (hcat : (st.map fun v => v.category).sum ≤ 8) (hR : 7 + 1 ≤ fr ∧ 8 + (2 + 11) + 111 ≤ lo) : V G (RX11, cc, ret, fr, lo, nL, mn, []) (ρ0, M0, Sum.inr e9, M1) pc ls (.int l1 :: .ref l0 :: st) M := v_callVx (As := [.int l1]) (k_X11_readTopic e) wd_X11_127 clX11 (kd_X11_readTopic e) hd rfl rfl hcat hR
theorem w_X11_requireRange_J10 {G : Gl} {ρ0 : Nat → Nat} {M0 MF : Mem} {r : Unit ⊕ Nat} (M : Mem) (h : f_X11_requireRange_J10 M = some (r, MF)) : V G (RX11, cX11_requireRange, none, 6, 89, 3, "requireRange", []) (ρ0, M0, cxV r, MF) 10 [] [] M := by
  unfold f_X11_requireRange_J10 at h
  cases h
  exact th_1 dX11_requireRange_10 dX11_requireRange_13 dX11_requireRange_14 dX11_requireRange_17 (by decide) (Nat.le_of_ble_eq_true rfl)
set_option maxHeartbeats 4000000 in
set_option maxRecDepth 100000 in
theorem w_X11_requireRange {G : Gl} {ρ0 : Nat → Nat} {M0 MF : Mem} {r : Unit ⊕ Nat} (l0 : Int32) (l1 : Int32) (l2 : Int32) (M : Mem) (h : f_X11_requireRange l0 l1 l2 M = some (r, MF)) : V G (RX11, cX11_requireRange, none, 6, 89, 3, "requireRange", []) (ρ0, M0, cxV r, MF) 0 [(0, .int l0), (1, .int l1), (2, .int l2)] [] M := by
  unfold f_X11_requireRange at h
  refine v_iload_n dX11_requireRange_0 rfl 0 rfl ?_
  refine v_iload_n dX11_requireRange_1 rfl 1 rfl ?_
  refine v_icmp_lt (tgt := 10) dX11_requireRange_2 (by decide) (fun c2 => ?_) (fun c2 => ?_)
  · replace h := ifP c2 h
    refine v_sub [] rfl ?_
    exact w_X11_requireRange_J10 M h
  · replace h := ifN c2 h
    refine v_iload_n dX11_requireRange_5 rfl 0 rfl ?_
    refine v_iload_n dX11_requireRange_6 rfl 2 rfl ?_
    refine v_icmp_le (tgt := 18) dX11_requireRange_7 (by decide) (fun c1 => ?_) (fun c1 => ?_)
    · replace h := ifP c1 h
      cases h
      exact v_vreturn dX11_requireRange_18
    · replace h := ifN c1 h
      refine v_sub [] rfl ?_
      exact w_X11_requireRange_J10 M h
theorem k_X11_requireRange {G : Gl} {l0 : Int32} {l1 : Int32} {l2 : Int32} {M MF : Mem} {r : Unit ⊕ Nat} (h : f_X11_requireRange l0 l1 l2 M = some (r, MF)) : CtrP G yX11_requireRange cX11_requireRange 3 none 6 89 [.int l0, .int l1, .int l2] M (cxV r) MF :=
  ctr_of (by decide +kernel) (Nat.le_of_ble_eq_true rfl) (fun ρ => w_X11_requireRange l0 l1 l2 M h)
theorem wd_X11_131 : wdT RX11 131 yX11_requireRange cX11_requireRange 3 none 3 := ⟨gwi 911 (by decide +kernel) (by decide +kernel), gwi 912 (by decide +kernel) (by decide +kernel), nw_X11, gwi 913 (by decide +kernel) (by decide +kernel), ⟨by decide +kernel, by decide +kernel, by decide +kernel⟩⟩
theorem ca_X11_131 {G : Gl} {B : Bx} {cc : ByteArray} {ret : Option FieldType} {fr lo nL : Nat} {mn : String} {hh : List (Nat × Nat × Nat × Nat)} {pc : Nat} {ls : List (Nat × Value)} {st : List Value} {M M1 : Mem} {l0 : Int32} {l1 : Int32} {l2 : Int32} {x : Unit} (e : f_X11_requireRange l0 l1 l2 M = some (.inl x, M1)) (hd : decode cc pc = .ok (.invokestatic 131, 3)) (hcat : (st.map fun v => v.category).sum ≤ 8) (hR : 6 + 1 ≤ fr ∧ 8 + (3 + 11) + 89 ≤ lo) (k : V G (RX11, cc, ret, fr, lo, nL, mn, hh) B (pc + 3) ls (st) M1) : V G (RX11, cc, ret, fr, lo, nL, mn, hh) B pc ls (.int l2 :: .int l1 :: .int l0 :: st) M := v_callS0 (As := [.int l0, .int l1, .int l2]) (k_X11_requireRange e) wd_X11_131 hd rfl rfl hcat hR k
theorem cx_X11_131 {G : Gl} {ρ0 : Nat → Nat} {M0 : Mem} {cc : ByteArray} {ret : Option FieldType} {fr lo nL : Nat} {mn : String} {pc : Nat} {ls : List (Nat × Value)} {st : List Value} {M M1 : Mem} {l0 : Int32} {l1 : Int32} {l2 : Int32} {e9 : Nat} (e : f_X11_requireRange l0 l1 l2 M = some (.inr e9, M1)) (hd : decode cc pc = .ok (.invokestatic 131, 3)) (hcat : (st.map fun v => v.category).sum ≤ 8) (hR : 6 + 1 ≤ fr ∧ 8 + (3 + 11) + 89 ≤ lo) : V G (RX11, cc, ret, fr, lo, nL, mn, []) (ρ0, M0, Sum.inr e9, M1) pc ls (.int l2 :: .int l1 :: .int l0 :: st) M := v_callSx (As := [.int l0, .int l1, .int l2]) (k_X11_requireRange e) wd_X11_131 hd rfl rfl hcat hR
set_option maxHeartbeats 4000000 in
set_option maxRecDepth 100000 in
theorem w_X11_setWill {G : Gl} {ρ0 : Nat → Nat} {M0 MF : Mem} {r : Int32 ⊕ Nat} (l0 : Nat) (l1 : Int32) (l2 : Int32) (l3 : Int32) (l4 : Int32) (M : Mem) (h : f_X11_setWill l0 l1 l2 l3 l4 M = some (r, MF)) : V G (RX11, cX11_setWill, (some .int), 8, 132, 9, "setWill", []) (ρ0, M0, cxI r, MF) 0 [(0, .ref l0), (1, .int l1), (2, .int l2), (3, .int l3), (4, .int l4)] [] M := by
  unfold f_X11_setWill at h
  replace h := (ifS h).2
  refine v_aload_n dX11_setWill_0 rfl 0 rfl ?_
  obtain ⟨v2, M1, e, h⟩ := bindP_some h
  refine ca_X11_123 e dX11_setWill_1 (Nat.le_of_ble_eq_true rfl) (by decide) ?_
  refine v_istore (ls' := [(5, .int v2), (0, .ref l0), (1, .int l1), (2, .int l2), (3, .int l3), (4, .int l4)]) dX11_setWill_4 (by decide) rfl ?_
  refine v_iload_n dX11_setWill_6 rfl 2 rfl ?_
  rcases bindX_some h with ⟨u4, M3, e, h⟩ | ⟨e9, e, rfl⟩
  rotate_left
  · exact cx_X11_73 e dX11_setWill_7 (Nat.le_of_ble_eq_true rfl) (by decide)
  refine ca_X11_73 e dX11_setWill_7 (Nat.le_of_ble_eq_true rfl) (by decide) ?_
  refine v_aload_n dX11_setWill_10 rfl 1 rfl ?_
  refine v_iload dX11_setWill_11 0 rfl ?_
  rcases bindX_some h with ⟨v6, M5, e, h⟩ | ⟨e9, e, rfl⟩
  rotate_left
  · exact cx_X11_127 e dX11_setWill_13 (Nat.le_of_ble_eq_true rfl) (by decide)
  refine ca_X11_127 e dX11_setWill_13 (Nat.le_of_ble_eq_true rfl) (by decide) ?_
  refine v_astore (ls' := [(6, .ref v6), (5, .int v2), (0, .ref l0), (1, .int l1), (2, .int l2), (3, .int l3), (4, .int l4)]) dX11_setWill_16 (by decide) rfl ?_
  refine v_iload_n dX11_setWill_18 rfl 4 rfl ?_
  refine v_iconst (v := 0) dX11_setWill_19 ci_0 ?_
  refine v_iconst (v := 2) dX11_setWill_20 ci_2 ?_
  rcases bindX_some h with ⟨u8, M7, e, h⟩ | ⟨e9, e, rfl⟩
  rotate_left
  · exact cx_X11_131 e dX11_setWill_21 (Nat.le_of_ble_eq_true rfl) (by decide)
  refine ca_X11_131 e dX11_setWill_21 (Nat.le_of_ble_eq_true rfl) (by decide) ?_
  refine v_iload dX11_setWill_24 6 rfl ?_
  refine v_iconst (v := 0) dX11_setWill_26 ci_0 ?_
  refine v_sipush (v := 9999) dX11_setWill_27 cs_9999 ?_
  rcases bindX_some h with ⟨u10, M9, e, h⟩ | ⟨e9, e, rfl⟩
  rotate_left
  · exact cx_X11_131 e dX11_setWill_30 (Nat.le_of_ble_eq_true rfl) (by decide)
  refine ca_X11_131 e dX11_setWill_30 (Nat.le_of_ble_eq_true rfl) (by decide) ?_
  refine v_aload_n dX11_setWill_33 rfl 2 rfl ?_
  refine v_iload_n dX11_setWill_34 rfl 3 rfl ?_
  rcases bindX_some h with ⟨u12, M11, e, h⟩ | ⟨e9, e, rfl⟩
  rotate_left
  · exact cx_X11_114 e dX11_setWill_35 (Nat.le_of_ble_eq_true rfl) (by decide)
  refine ca_X11_114 e dX11_setWill_35 (Nat.le_of_ble_eq_true rfl) (by decide) ?_
  refine v_aload_n dX11_setWill_38 rfl 2 rfl ?_
  obtain ⟨v13, e, h⟩ := bind_some h
  refine gt_X11_41 e dX11_setWill_39 ?_
  obtain ⟨v14, e, h⟩ := bind_some h
  refine gt_X11_77 e dX11_setWill_42 ?_
  refine v_iload_n dX11_setWill_45 rfl 3 rfl ?_
  obtain ⟨v15, e, h⟩ := bind_some h
  refine al_0 e dX11_setWill_46 ?_
  refine v_astore (ls' := [(7, .ref v15), (6, .ref v6), (5, .int v2), (0, .ref l0), (1, .int l1), (2, .int l2), (3, .int l3), (4, .int l4)]) dX11_setWill_47 (by decide) rfl ?_
  refine v_aload dX11_setWill_49 0 rfl ?_
  obtain ⟨v16, e, h⟩ := bind_some h
  refine gt_X11_117 e dX11_setWill_51 ?_
  refine v_istore (ls' := [(8, .int v16), (7, .ref v15), (6, .ref v6), (5, .int v2), (0, .ref l0), (1, .int l1), (2, .int l2), (3, .int l3), (4, .int l4)]) dX11_setWill_54 (by decide) rfl ?_
  refine v_aload dX11_setWill_56 1 rfl ?_
  refine v_iconst (v := 1) dX11_setWill_58 ci_1 ?_
  obtain ⟨M17, e, h⟩ := bind_some h
  refine pt_X11_117 e dX11_setWill_59 ?_
  refine v_aload dX11_setWill_62 1 rfl ?_
  refine v_iload_n dX11_setWill_64 rfl 7 rfl ?_
  obtain ⟨M18, e, h⟩ := bind_some h
  refine pt_X11_135 e dX11_setWill_65 ?_
  refine v_aload dX11_setWill_68 1 rfl ?_
  obtain ⟨v19, e, h⟩ := bind_some h
  refine gt_X11_138 e dX11_setWill_70 ?_
  refine v_aload dX11_setWill_73 2 rfl ?_
  refine v_iload_n dX11_setWill_75 rfl 6 rfl ?_
  refine v_iload dX11_setWill_76 8 rfl ?_
  obtain ⟨M20, e, h⟩ := bind_some h
  refine ca_X11_141 e dX11_setWill_78 (Nat.le_of_ble_eq_true rfl) (by decide) ?_
  refine v_iload dX11_setWill_81 0 rfl ?_
  refine v_if_eq (tgt := 90) dX11_setWill_83 (by decide) (fun c21 => ?_) (fun c21 => ?_)
  · replace h := ifP c21 h
    refine v_iconst (v := 0) dX11_setWill_90 ci_0 ?_
    cases h
    exact v_ireturn dX11_setWill_91
  · replace h := ifN c21 h
    refine v_iconst (v := 1) dX11_setWill_86 ci_1 ?_
    refine v_goto (tgt := 91) dX11_setWill_87 (by decide) ?_
    cases h
    exact v_ireturn dX11_setWill_91
theorem kd_X11_setWill {l0 : Nat} {l1 : Int32} {l2 : Int32} {l3 : Int32} {l4 : Int32} {M : Mem} {z : _} (h : f_X11_setWill l0 l1 l2 l3 l4 M = some z) : (mK M l0).1 = 11 := by
  unfold f_X11_setWill at h
  exact (ifS h).1
theorem k_X11_setWill {G : Gl} {l0 : Nat} {l1 : Int32} {l2 : Int32} {l3 : Int32} {l4 : Int32} {M MF : Mem} {r : Int32 ⊕ Nat} (h : f_X11_setWill l0 l1 l2 l3 l4 M = some (r, MF)) : CtrP G yX11_setWill cX11_setWill 9 (some .int) 8 132 [.ref l0, .int l1, .int l2, .int l3, .int l4] M (cxI r) MF :=
  ctr_of (by decide +kernel) (Nat.le_of_ble_eq_true rfl) (fun ρ => w_X11_setWill l0 l1 l2 l3 l4 M h)
set_option maxHeartbeats 4000000 in
set_option maxRecDepth 100000 in
theorem w_X11_sessionState {G : Gl} {ρ0 : Nat → Nat} {M0 MF : Mem} {r : Int32 ⊕ Nat} (l0 : Nat) (l1 : Int32) (M : Mem) (h : f_X11_sessionState l0 l1 M = some (r, MF)) : V G (RX11, cX11_sessionState, (some .int), 7, 109, 3, "sessionState", []) (ρ0, M0, cxI r, MF) 0 [(0, .ref l0), (1, .int l1)] [] M := by
  unfold f_X11_sessionState at h
  replace h := (ifS h).2
  refine v_iload_n dX11_sessionState_0 rfl 1 rfl ?_
  rcases bindX_some h with ⟨u2, M1, e, h⟩ | ⟨e9, e, rfl⟩
  rotate_left
  · exact cx_X11_73 e dX11_sessionState_1 (Nat.le_of_ble_eq_true rfl) (by decide)
  refine ca_X11_73 e dX11_sessionState_1 (Nat.le_of_ble_eq_true rfl) (by decide) ?_
  refine v_aload_n dX11_sessionState_4 rfl 0 rfl ?_
  obtain ⟨v3, e, h⟩ := bind_some h
  refine gt_X11_41 e dX11_sessionState_5 ?_
  obtain ⟨v4, e, h⟩ := bind_some h
  refine gt_X11_77 e dX11_sessionState_8 ?_
  refine v_iload_n dX11_sessionState_11 rfl 1 rfl ?_
  obtain ⟨v5, e, h⟩ := bind_some h
  refine al_0 e dX11_sessionState_12 ?_
  refine v_astore_n (ls' := [(2, .ref v5), (0, .ref l0), (1, .int l1)]) dX11_sessionState_13 rfl (by decide) rfl ?_
  refine v_aload_n dX11_sessionState_14 rfl 0 rfl ?_
  obtain ⟨v6, e, h⟩ := bind_some h
  refine gt_X11_94 e dX11_sessionState_15 ?_
  obtain ⟨v7, e, h⟩ := bind_some h
  refine gt_X11_98 e dX11_sessionState_18 ?_
  refine v_if_ne (tgt := 26) dX11_sessionState_21 (by decide) (fun c13 => ?_) (fun c13 => ?_)
  · replace h := ifN c13 h
    refine v_aload_n dX11_sessionState_26 rfl 0 rfl ?_
    obtain ⟨v8, e, h⟩ := bind_some h
    refine gt_X11_81 e dX11_sessionState_27 ?_
    refine v_if_ne (tgt := 35) dX11_sessionState_30 (by decide) (fun c12 => ?_) (fun c12 => ?_)
    · replace h := ifN c12 h
      refine v_aload_n dX11_sessionState_35 rfl 0 rfl ?_
      obtain ⟨v9, e, h⟩ := bind_some h
      refine gt_X11_94 e dX11_sessionState_36 ?_
      obtain ⟨v10, e, h⟩ := bind_some h
      refine gt_X11_145 e dX11_sessionState_39 ?_
      refine v_if_eq (tgt := 49) dX11_sessionState_42 (by decide) (fun c11 => ?_) (fun c11 => ?_)
      · replace h := ifP c11 h
        refine v_iconst (v := 2) dX11_sessionState_49 ci_2 ?_
        cases h
        exact v_ireturn dX11_sessionState_50
      · replace h := ifN c11 h
        refine v_iconst (v := 3) dX11_sessionState_45 ci_3 ?_
        refine v_goto (tgt := 50) dX11_sessionState_46 (by decide) ?_
        cases h
        exact v_ireturn dX11_sessionState_50
    · replace h := ifP c12 h
      refine v_iconst (v := 1) dX11_sessionState_33 ci_1 ?_
      cases h
      exact v_ireturn dX11_sessionState_34
  · replace h := ifP c13 h
    refine v_iconst (v := 0) dX11_sessionState_24 ci_0 ?_
    cases h
    exact v_ireturn dX11_sessionState_25
theorem kd_X11_sessionState {l0 : Nat} {l1 : Int32} {M : Mem} {z : _} (h : f_X11_sessionState l0 l1 M = some z) : (mK M l0).1 = 11 := by
  unfold f_X11_sessionState at h
  exact (ifS h).1
theorem k_X11_sessionState {G : Gl} {l0 : Nat} {l1 : Int32} {M MF : Mem} {r : Int32 ⊕ Nat} (h : f_X11_sessionState l0 l1 M = some (r, MF)) : CtrP G yX11_sessionState cX11_sessionState 3 (some .int) 7 109 [.ref l0, .int l1] M (cxI r) MF :=
  ctr_of (by decide +kernel) (Nat.le_of_ble_eq_true rfl) (fun ρ => w_X11_sessionState l0 l1 M h)
set_option maxHeartbeats 4000000 in
set_option maxRecDepth 100000 in
theorem w_X11_readFilter {G : Gl} {ρ0 : Nat → Nat} {M0 MF : Mem} {r : Nat ⊕ Nat} (l0 : Nat) (l1 : Int32) (M : Mem) (h : f_X11_readFilter l0 l1 M = some (r, MF)) : V G (RX11, cX11_readFilter, (some (.object "GradedTopicBroker$Text")), 7, 111, 2, "readFilter", []) (ρ0, M0, cxR r, MF) 0 [(0, .ref l0), (1, .int l1)] [] M := by
  unfold f_X11_readFilter at h
  replace h := (ifS h).2
  refine v_aload_n dX11_readFilter_0 rfl 0 rfl ?_
  refine v_iload_n dX11_readFilter_1 rfl 1 rfl ?_
  refine v_iconst (v := 1) dX11_readFilter_2 ci_1 ?_
  rcases bindX_some h with ⟨v2, M1, e, h⟩ | ⟨e9, e, rfl⟩
  rotate_left
  · exact cx_X11_349 e dX11_readFilter_3 (Nat.le_of_ble_eq_true rfl) (by decide)
  refine ca_X11_349 e dX11_readFilter_3 (Nat.le_of_ble_eq_true rfl) (by decide) ?_
  cases h
  exact v_areturn dX11_readFilter_6
theorem kd_X11_readFilter {l0 : Nat} {l1 : Int32} {M : Mem} {z : _} (h : f_X11_readFilter l0 l1 M = some z) : (mK M l0).1 = 11 := by
  unfold f_X11_readFilter at h
  exact (ifS h).1
theorem k_X11_readFilter {G : Gl} {l0 : Nat} {l1 : Int32} {M MF : Mem} {r : Nat ⊕ Nat} (h : f_X11_readFilter l0 l1 M = some (r, MF)) : CtrP G yX11_readFilter cX11_readFilter 2 (some (.object "GradedTopicBroker$Text")) 7 111 [.ref l0, .int l1] M (cxR r) MF :=
  ctr_of (by decide +kernel) (Nat.le_of_ble_eq_true rfl) (fun ρ => w_X11_readFilter l0 l1 M h)
theorem wd_X11_148 : wdV RX11 148 RX11 yX11_readFilter cX11_readFilter 2 (some (.object "GradedTopicBroker$Text")) 1 := ⟨gwi 929 (by decide +kernel) (by decide +kernel), gwi 931 (by decide +kernel) (by decide +kernel), gwi 22 (by decide +kernel) (by decide +kernel), nw_X11, gwi 932 (by decide +kernel) (by decide +kernel), ⟨rfl, by decide +kernel, by decide +kernel, by decide +kernel⟩⟩
theorem ca_X11_148 {G : Gl} {B : Bx} {cc : ByteArray} {ret : Option FieldType} {fr lo nL : Nat} {mn : String} {hh : List (Nat × Nat × Nat × Nat)} {pc : Nat} {ls : List (Nat × Value)} {st : List Value} {M M1 : Mem} {l0 : Nat} {l1 : Int32} {x : Nat} (e : f_X11_readFilter l0 l1 M = some (.inl x, M1)) (hd : decode cc pc = .ok (.invokevirtual 148, 3)) (hcat : (st.map fun v => v.category).sum ≤ 8) (hR : 7 + 1 ≤ fr ∧ 8 + (2 + 11) + 111 ≤ lo) (k : V G (RX11, cc, ret, fr, lo, nL, mn, hh) B (pc + 3) ls (.ref x :: st) M1) : V G (RX11, cc, ret, fr, lo, nL, mn, hh) B pc ls (.int l1 :: .ref l0 :: st) M := v_callVr (As := [.int l1]) (k_X11_readFilter e) wd_X11_148 clX11 (kd_X11_readFilter e) hd rfl rfl hcat hR k
theorem cx_X11_148 {G : Gl} {ρ0 : Nat → Nat} {M0 : Mem} {cc : ByteArray} {ret : Option FieldType} {fr lo nL : Nat} {mn : String} {pc : Nat} {ls : List (Nat × Value)} {st : List Value} {M M1 : Mem} {l0 : Nat} {l1 : Int32} {e9 : Nat} (e : f_X11_readFilter l0 l1 M = some (.inr e9, M1)) (hd : decode cc pc = .ok (.invokevirtual 148, 3)) (hcat : (st.map fun v => v.category).sum ≤ 8) (hR : 7 + 1 ≤ fr ∧ 8 + (2 + 11) + 111 ≤ lo) : V G (RX11, cc, ret, fr, lo, nL, mn, []) (ρ0, M0, Sum.inr e9, M1) pc ls (.int l1 :: .ref l0 :: st) M := v_callVx (As := [.int l1]) (k_X11_readFilter e) wd_X11_148 clX11 (kd_X11_readFilter e) hd rfl rfl hcat hR
set_option maxHeartbeats 4000000 in
set_option maxRecDepth 100000 in
theorem w_X11_subscribe_J233 {G : Gl} {ρ0 : Nat → Nat} {M0 MF : Mem} {r : Int32 ⊕ Nat} (l7 : Nat) (M : Mem) (h : f_X11_subscribe_J233 l7 M = some (r, MF)) : V G (RX11, cX11_subscribe, (some .int), 8, 132, 11, "subscribe", []) (ρ0, M0, cxI r, MF) 233 [(7, .ref l7)] [] M := by
  unfold f_X11_subscribe_J233 at h
  refine v_aload dX11_subscribe_233 0 rfl ?_
  obtain ⟨v1, e, h⟩ := bind_some h
  refine gt_X11_155 e dX11_subscribe_235 ?_
  cases h
  exact v_ireturn dX11_subscribe_238
set_option maxHeartbeats 4000000 in
set_option maxRecDepth 100000 in
theorem w_X11_subscribe_J211 {G : Gl} {ρ0 : Nat → Nat} {M0 MF : Mem} {r : Int32 ⊕ Nat} (l0 : Nat) (l1 : Int32) (l2 : Int32) (l3 : Int32) (l6 : Nat) (l7 : Nat) (s0 : Int32) (M : Mem) (h : f_X11_subscribe_J211 l0 l1 l2 l3 l6 l7 s0 M = some (r, MF)) : V G (RX11, cX11_subscribe, (some .int), 8, 132, 11, "subscribe", []) (ρ0, M0, cxI r, MF) 211 [(0, .ref l0), (1, .int l1), (2, .int l2), (3, .int l3), (6, .ref l6), (7, .ref l7)] [.int s0] M := by
  unfold f_X11_subscribe_J211 at h
  refine v_istore (ls' := [(10, .int s0), (0, .ref l0), (1, .int l1), (2, .int l2), (3, .int l3), (6, .ref l6), (7, .ref l7)]) dX11_subscribe_211 (by decide) rfl ?_
  refine v_iload_n dX11_subscribe_213 rfl 4 rfl ?_
  refine v_if_ne (tgt := 233) dX11_subscribe_214 (by decide) (fun c4 => ?_) (fun c4 => ?_)
  · replace h := ifN c4 h
    refine v_sub [6] rfl ?_
    exact w_X11_subscribe_J233 l7 M h
  · replace h := ifP c4 h
    refine v_iload dX11_subscribe_217 0 rfl ?_
    refine v_if_eq (tgt := 233) dX11_subscribe_219 (by decide) (fun c3 => ?_) (fun c3 => ?_)
    · replace h := ifP c3 h
      refine v_sub [6] rfl ?_
      exact w_X11_subscribe_J233 l7 M h
    · replace h := ifN c3 h
      refine v_aload_n dX11_subscribe_222 rfl 1 rfl ?_
      obtain ⟨v1, e, h⟩ := bind_some h
      refine gt_X11_41 e dX11_subscribe_223 ?_
      refine v_iload_n dX11_subscribe_226 rfl 2 rfl ?_
      refine v_aload dX11_subscribe_227 5 rfl ?_
      refine v_iload_n dX11_subscribe_229 rfl 3 rfl ?_
      obtain ⟨M2, e, h⟩ := bind_some h
      refine ca_X11_173 e dX11_subscribe_230 (Nat.le_of_ble_eq_true rfl) (by decide) ?_
      refine v_sub [6] rfl ?_
      exact w_X11_subscribe_J233 l7 M2 h
theorem w_X11_subscribe_J210 {G : Gl} {ρ0 : Nat → Nat} {M0 MF : Mem} {r : Int32 ⊕ Nat} (l0 : Nat) (l1 : Int32) (l2 : Int32) (l3 : Int32) (l6 : Nat) (l7 : Nat) (M : Mem) (h : f_X11_subscribe_J210 l0 l1 l2 l3 l6 l7 M = some (r, MF)) : V G (RX11, cX11_subscribe, (some .int), 8, 132, 11, "subscribe", []) (ρ0, M0, cxI r, MF) 210 [(0, .ref l0), (1, .int l1), (2, .int l2), (3, .int l3), (6, .ref l6), (7, .ref l7)] [] M := by
  unfold f_X11_subscribe_J210 at h
  refine v_iconst (v := 0) dX11_subscribe_210 ci_0 ?_
  exact w_X11_subscribe_J211 l0 l1 l2 l3 l6 l7 (0 : Int32) M h
set_option maxHeartbeats 4000000 in
set_option maxRecDepth 100000 in
theorem w_X11_subscribe_J206 {G : Gl} {ρ0 : Nat → Nat} {M0 MF : Mem} {r : Int32 ⊕ Nat} (l0 : Nat) (l1 : Int32) (l2 : Int32) (l3 : Int32) (l6 : Nat) (l7 : Nat) (M : Mem) (h : f_X11_subscribe_J206 l0 l1 l2 l3 l6 l7 M = some (r, MF)) : V G (RX11, cX11_subscribe, (some .int), 8, 132, 11, "subscribe", []) (ρ0, M0, cxI r, MF) 206 [(0, .ref l0), (1, .int l1), (2, .int l2), (3, .int l3), (6, .ref l6), (7, .ref l7)] [] M := by
  unfold f_X11_subscribe_J206 at h
  refine v_iconst (v := 1) dX11_subscribe_206 ci_1 ?_
  refine v_goto (tgt := 211) dX11_subscribe_207 (by decide) ?_
  exact w_X11_subscribe_J211 l0 l1 l2 l3 l6 l7 (1 : Int32) M h
set_option maxHeartbeats 4000000 in
set_option maxRecDepth 100000 in
theorem w_X11_subscribe_J187 {G : Gl} {ρ0 : Nat → Nat} {M0 MF : Mem} {r : Int32 ⊕ Nat} (l0 : Nat) (l1 : Int32) (l2 : Int32) (l3 : Int32) (l4 : Int32) (l6 : Nat) (l7 : Nat) (l9 : Int32) (M : Mem) (h : f_X11_subscribe_J187 l0 l1 l2 l3 l4 l6 l7 l9 M = some (r, MF)) : V G (RX11, cX11_subscribe, (some .int), 8, 132, 11, "subscribe", []) (ρ0, M0, cxI r, MF) 187 [(0, .ref l0), (1, .int l1), (2, .int l2), (3, .int l3), (4, .int l4), (6, .ref l6), (7, .ref l7), (9, .int l9)] [] M := by
  unfold f_X11_subscribe_J187 at h
  refine v_iload dX11_subscribe_187 4 rfl ?_
  refine v_iconst (v := 2) dX11_subscribe_189 ci_2 ?_
  refine v_iand dX11_subscribe_190 ?_
  refine v_if_ne (tgt := 210) dX11_subscribe_191 (by decide) (fun c3 => ?_) (fun c3 => ?_)
  · replace h := ifN c3 h
    refine v_sub [0, 1, 2, 3, 5, 6] rfl ?_
    exact w_X11_subscribe_J210 l0 l1 l2 l3 l6 l7 M h
  · replace h := ifP c3 h
    refine v_iload dX11_subscribe_194 7 rfl ?_
    refine v_if_ne (tgt := 206) dX11_subscribe_196 (by decide) (fun c2 => ?_) (fun c2 => ?_)
    · replace h := ifN c2 h
      refine v_sub [0, 1, 2, 3, 5, 6] rfl ?_
      exact w_X11_subscribe_J206 l0 l1 l2 l3 l6 l7 M h
    · replace h := ifP c2 h
      refine v_iload dX11_subscribe_199 4 rfl ?_
      refine v_iconst (v := 4) dX11_subscribe_201 ci_4 ?_
      refine v_iand dX11_subscribe_202 ?_
      refine v_if_ne (tgt := 210) dX11_subscribe_203 (by decide) (fun c1 => ?_) (fun c1 => ?_)
      · replace h := ifN c1 h
        refine v_sub [0, 1, 2, 3, 5, 6] rfl ?_
        exact w_X11_subscribe_J210 l0 l1 l2 l3 l6 l7 M h
      · replace h := ifP c1 h
        refine v_sub [0, 1, 2, 3, 5, 6] rfl ?_
        exact w_X11_subscribe_J206 l0 l1 l2 l3 l6 l7 M h
set_option maxHeartbeats 4000000 in
set_option maxRecDepth 100000 in
theorem w_X11_subscribe_J146 {G : Gl} {ρ0 : Nat → Nat} {M0 MF : Mem} {r : Int32 ⊕ Nat} (l0 : Nat) (l1 : Int32) (l2 : Int32) (l3 : Int32) (l4 : Int32) (l6 : Nat) (l7 : Nat) (l8 : Int32) (l9 : Int32) (M : Mem) (h : f_X11_subscribe_J146 l0 l1 l2 l3 l4 l6 l7 l8 l9 M = some (r, MF)) : V G (RX11, cX11_subscribe, (some .int), 8, 132, 11, "subscribe", []) (ρ0, M0, cxI r, MF) 146 [(0, .ref l0), (1, .int l1), (2, .int l2), (3, .int l3), (4, .int l4), (6, .ref l6), (7, .ref l7), (8, .int l8), (9, .int l9)] [] M := by
  unfold f_X11_subscribe_J146 at h
  refine v_iload dX11_subscribe_146 7 rfl ?_
  refine v_if_lt (tgt := 187) dX11_subscribe_148 (by decide) (fun c10 => ?_) (fun c10 => ?_)
  · replace h := ifP c10 h
    refine v_sub [0, 1, 2, 3, 4, 5, 6, 8] rfl ?_
    exact w_X11_subscribe_J187 l0 l1 l2 l3 l4 l6 l7 l9 M h
  · replace h := ifN c10 h
    refine v_iload dX11_subscribe_151 7 rfl ?_
    refine v_aload dX11_subscribe_153 6 rfl ?_
    obtain ⟨v1, e, h⟩ := bind_some h
    refine gt_X11_162 e dX11_subscribe_155 ?_
    obtain ⟨v2, e, h⟩ := bind_some h
    refine v_alen dX11_subscribe_158 e ?_
    refine v_icmp_ge (tgt := 187) dX11_subscribe_159 (by decide) (fun c9 => ?_) (fun c9 => ?_)
    · replace h := ifP c9 h
      refine v_sub [0, 1, 2, 3, 4, 5, 6, 8] rfl ?_
      exact w_X11_subscribe_J187 l0 l1 l2 l3 l4 l6 l7 l9 M h
    · replace h := ifN c9 h
      refine v_aload dX11_subscribe_162 6 rfl ?_
      obtain ⟨v3, e, h⟩ := bind_some h
      refine gt_X11_162 e dX11_subscribe_164 ?_
      refine v_iload dX11_subscribe_167 7 rfl ?_
      obtain ⟨v4, e, h⟩ := bind_some h
      refine al_8 e dX11_subscribe_169 ?_
      refine v_iload_n dX11_subscribe_170 rfl 2 rfl ?_
      obtain ⟨M5, e, h⟩ := bind_some h
      refine pt_X11_166 e dX11_subscribe_171 ?_
      refine v_aload dX11_subscribe_174 6 rfl ?_
      obtain ⟨v6, e, h⟩ := bind_some h
      refine gt_X11_162 e dX11_subscribe_176 ?_
      refine v_iload dX11_subscribe_179 7 rfl ?_
      obtain ⟨v7, e, h⟩ := bind_some h
      refine al_8 e dX11_subscribe_181 ?_
      refine v_iload dX11_subscribe_182 4 rfl ?_
      obtain ⟨M8, e, h⟩ := bind_some h
      refine pt_X11_171 e dX11_subscribe_184 ?_
      refine v_sub [0, 1, 2, 3, 4, 5, 6, 8] rfl ?_
      exact w_X11_subscribe_J187 l0 l1 l2 l3 l4 l6 l7 l9 M8 h
set_option maxHeartbeats 4000000 in
set_option maxRecDepth 100000 in
theorem w_X11_subscribe_J121 {G : Gl} {ρ0 : Nat → Nat} {M0 MF : Mem} {r : Int32 ⊕ Nat} (l0 : Nat) (l1 : Int32) (l2 : Int32) (l3 : Int32) (l4 : Int32) (l6 : Nat) (l7 : Nat) (l8 : Int32) (l9 : Int32) (M : Mem) (h : f_X11_subscribe_J121 l0 l1 l2 l3 l4 l6 l7 l8 l9 M = some (r, MF)) : V G (RX11, cX11_subscribe, (some .int), 8, 132, 11, "subscribe", []) (ρ0, M0, cxI r, MF) 121 [(0, .ref l0), (1, .int l1), (2, .int l2), (3, .int l3), (4, .int l4), (6, .ref l6), (7, .ref l7), (8, .int l8), (9, .int l9)] [] M := by
  unfold f_X11_subscribe_J121 at h
  refine v_iload dX11_subscribe_121 8 rfl ?_
  refine v_if_eq (tgt := 146) dX11_subscribe_123 (by decide) (fun c4 => ?_) (fun c4 => ?_)
  · replace h := ifP c4 h
    exact w_X11_subscribe_J146 l0 l1 l2 l3 l4 l6 l7 l8 l9 M h
  · replace h := ifN c4 h
    refine v_aload_n dX11_subscribe_126 rfl 0 rfl ?_
    obtain ⟨v1, e, h⟩ := bind_some h
    refine gt_X11_41 e dX11_subscribe_127 ?_
    refine v_iload_n dX11_subscribe_130 rfl 1 rfl ?_
    refine v_aload dX11_subscribe_131 5 rfl ?_
    refine v_iload_n dX11_subscribe_133 rfl 3 rfl ?_
    obtain ⟨M2, e, h⟩ := bind_some h
    refine ca_X11_158 e dX11_subscribe_134 (Nat.le_of_ble_eq_true rfl) (by decide) ?_
    refine v_aload dX11_subscribe_137 6 rfl ?_
    obtain ⟨v3, e, h⟩ := bind_some h
    refine gt_X11_155 e dX11_subscribe_139 ?_
    refine v_iconst (v := 1) dX11_subscribe_142 ci_1 ?_
    refine v_isub dX11_subscribe_143 ?_
    refine v_istore (ls' := [(8, .int (v3 - (1 : Int32))), (0, .ref l0), (1, .int l1), (2, .int l2), (3, .int l3), (4, .int l4), (6, .ref l6), (7, .ref l7), (9, .int l9)]) dX11_subscribe_144 (by decide) rfl ?_
    refine v_sub [1, 2, 3, 4, 5, 6, 7, 0, 8] rfl ?_
    exact w_X11_subscribe_J146 l0 l1 l2 l3 l4 l6 l7 (v3 - (1 : Int32)) l9 M2 h
set_option maxHeartbeats 4000000 in
set_option maxRecDepth 100000 in
theorem w_X11_subscribe_J96 {G : Gl} {ρ0 : Nat → Nat} {M0 MF : Mem} {r : Int32 ⊕ Nat} (l0 : Nat) (l1 : Int32) (l2 : Int32) (l3 : Int32) (l4 : Int32) (l6 : Nat) (l7 : Nat) (l8 : Int32) (s0 : Int32) (M : Mem) (h : f_X11_subscribe_J96 l0 l1 l2 l3 l4 l6 l7 l8 s0 M = some (r, MF)) : V G (RX11, cX11_subscribe, (some .int), 8, 132, 11, "subscribe", []) (ρ0, M0, cxI r, MF) 96 [(0, .ref l0), (1, .int l1), (2, .int l2), (3, .int l3), (4, .int l4), (6, .ref l6), (7, .ref l7), (8, .int l8)] [.int s0] M := by
  unfold f_X11_subscribe_J96 at h
  refine v_istore (ls' := [(9, .int s0), (0, .ref l0), (1, .int l1), (2, .int l2), (3, .int l3), (4, .int l4), (6, .ref l6), (7, .ref l7), (8, .int l8)]) dX11_subscribe_96 (by decide) rfl ?_
  refine v_iload dX11_subscribe_98 0 rfl ?_
  refine v_if_eq (tgt := 121) dX11_subscribe_100 (by decide) (fun c3 => ?_) (fun c3 => ?_)
  · replace h := ifP c3 h
    refine v_sub [1, 2, 3, 4, 5, 6, 7, 8, 0] rfl ?_
    exact w_X11_subscribe_J121 l0 l1 l2 l3 l4 l6 l7 l8 s0 M h
  · replace h := ifN c3 h
    refine v_aload dX11_subscribe_103 7 rfl ?_
    obtain ⟨v1, e, h⟩ := bind_some h
    refine gt_X11_155 e dX11_subscribe_105 ?_
    refine v_bipush (v := 6) dX11_subscribe_108 cb_6 ?_
    refine v_icmp_lt (tgt := 121) dX11_subscribe_110 (by decide) (fun c2 => ?_) (fun c2 => ?_)
    · replace h := ifP c2 h
      refine v_sub [1, 2, 3, 4, 5, 6, 7, 8, 0] rfl ?_
      exact w_X11_subscribe_J121 l0 l1 l2 l3 l4 l6 l7 l8 s0 M h
    · replace h := ifN c2 h
      cases h
      exact th_2 dX11_subscribe_113 dX11_subscribe_116 dX11_subscribe_117 dX11_subscribe_120 (by decide) (Nat.le_of_ble_eq_true rfl)
set_option maxHeartbeats 4000000 in
set_option maxRecDepth 100000 in
theorem w_X11_subscribe_J57 {G : Gl} {ρ0 : Nat → Nat} {M0 MF : Mem} {r : Int32 ⊕ Nat} (l0 : Nat) (l1 : Int32) (l2 : Int32) (l3 : Int32) (l4 : Int32) (l6 : Nat) (M : Mem) (h : f_X11_subscribe_J57 l0 l1 l2 l3 l4 l6 M = some (r, MF)) : V G (RX11, cX11_subscribe, (some .int), 8, 132, 11, "subscribe", []) (ρ0, M0, cxI r, MF) 57 [(0, .ref l0), (1, .int l1), (2, .int l2), (3, .int l3), (4, .int l4), (6, .ref l6)] [] M := by
  unfold f_X11_subscribe_J57 at h
  refine v_aload_n dX11_subscribe_57 rfl 0 rfl ?_
  refine v_iload_n dX11_subscribe_58 rfl 1 rfl ?_
  rcases bindX_some h with ⟨u2, M1, e, h⟩ | ⟨e9, e, rfl⟩
  rotate_left
  · exact cx_X11_114 e dX11_subscribe_59 (Nat.le_of_ble_eq_true rfl) (by decide)
  refine ca_X11_114 e dX11_subscribe_59 (Nat.le_of_ble_eq_true rfl) (by decide) ?_
  refine v_aload_n dX11_subscribe_62 rfl 0 rfl ?_
  obtain ⟨v3, e, h⟩ := bind_some h
  refine gt_X11_41 e dX11_subscribe_63 ?_
  obtain ⟨v4, e, h⟩ := bind_some h
  refine gt_X11_77 e dX11_subscribe_66 ?_
  refine v_iload_n dX11_subscribe_69 rfl 1 rfl ?_
  obtain ⟨v5, e, h⟩ := bind_some h
  refine al_0 e dX11_subscribe_70 ?_
  obtain ⟨v6, e, h⟩ := bind_some h
  refine gt_X11_94 e dX11_subscribe_71 ?_
  refine v_astore (ls' := [(7, .ref v6), (0, .ref l0), (1, .int l1), (2, .int l2), (3, .int l3), (4, .int l4), (6, .ref l6)]) dX11_subscribe_74 (by decide) rfl ?_
  refine v_aload dX11_subscribe_76 0 rfl ?_
  refine v_aload dX11_subscribe_78 6 rfl ?_
  refine v_iload_n dX11_subscribe_80 rfl 4 rfl ?_
  obtain ⟨v8, M7, e, h⟩ := bindP_some h
  refine ca_X11_151 e dX11_subscribe_81 (Nat.le_of_ble_eq_true rfl) (by decide) ?_
  refine v_istore (ls' := [(8, .int v8), (7, .ref v6), (0, .ref l0), (1, .int l1), (2, .int l2), (3, .int l3), (4, .int l4), (6, .ref l6)]) dX11_subscribe_84 (by decide) rfl ?_
  refine v_iload dX11_subscribe_86 0 rfl ?_
  refine v_if_ge (tgt := 95) dX11_subscribe_88 (by decide) (fun c9 => ?_) (fun c9 => ?_)
  · replace h := ifP c9 h
    refine v_iconst (v := 0) dX11_subscribe_95 ci_0 ?_
    refine v_sub [2, 3, 4, 5, 6, 7, 1, 0] rfl ?_
    exact w_X11_subscribe_J96 l0 l1 l2 l3 l4 l6 v6 v8 (0 : Int32) M7 h
  · replace h := ifN c9 h
    refine v_iconst (v := 1) dX11_subscribe_91 ci_1 ?_
    refine v_goto (tgt := 96) dX11_subscribe_92 (by decide) ?_
    refine v_sub [2, 3, 4, 5, 6, 7, 1, 0] rfl ?_
    exact w_X11_subscribe_J96 l0 l1 l2 l3 l4 l6 v6 v8 (1 : Int32) M7 h
set_option maxHeartbeats 4000000 in
set_option maxRecDepth 100000 in
theorem w_X11_subscribe {G : Gl} {ρ0 : Nat → Nat} {M0 MF : Mem} {r : Int32 ⊕ Nat} (l0 : Nat) (l1 : Int32) (l2 : Int32) (l3 : Int32) (l4 : Int32) (M : Mem) (h : f_X11_subscribe l0 l1 l2 l3 l4 M = some (r, MF)) : V G (RX11, cX11_subscribe, (some .int), 8, 132, 11, "subscribe", []) (ρ0, M0, cxI r, MF) 0 [(0, .ref l0), (1, .int l1), (2, .int l2), (3, .int l3), (4, .int l4)] [] M := by
  unfold f_X11_subscribe at h
  replace h := (ifS h).2
  refine v_aload_n dX11_subscribe_0 rfl 0 rfl ?_
  obtain ⟨v2, M1, e, h⟩ := bindP_some h
  refine ca_X11_123 e dX11_subscribe_1 (Nat.le_of_ble_eq_true rfl) (by decide) ?_
  refine v_istore (ls' := [(5, .int v2), (0, .ref l0), (1, .int l1), (2, .int l2), (3, .int l3), (4, .int l4)]) dX11_subscribe_4 (by decide) rfl ?_
  refine v_iload_n dX11_subscribe_6 rfl 2 rfl ?_
  rcases bindX_some h with ⟨u4, M3, e, h⟩ | ⟨e9, e, rfl⟩
  rotate_left
  · exact cx_X11_73 e dX11_subscribe_7 (Nat.le_of_ble_eq_true rfl) (by decide)
  refine ca_X11_73 e dX11_subscribe_7 (Nat.le_of_ble_eq_true rfl) (by decide) ?_
  refine v_aload_n dX11_subscribe_10 rfl 1 rfl ?_
  refine v_iload dX11_subscribe_11 0 rfl ?_
  rcases bindX_some h with ⟨v6, M5, e, h⟩ | ⟨e9, e, rfl⟩
  rotate_left
  · exact cx_X11_148 e dX11_subscribe_13 (Nat.le_of_ble_eq_true rfl) (by decide)
  refine ca_X11_148 e dX11_subscribe_13 (Nat.le_of_ble_eq_true rfl) (by decide) ?_
  refine v_astore (ls' := [(6, .ref v6), (5, .int v2), (0, .ref l0), (1, .int l1), (2, .int l2), (3, .int l3), (4, .int l4)]) dX11_subscribe_16 (by decide) rfl ?_
  refine v_iload_n dX11_subscribe_18 rfl 4 rfl ?_
  refine v_iconst (v := 0) dX11_subscribe_19 ci_0 ?_
  refine v_iconst (v := 2) dX11_subscribe_20 ci_2 ?_
  rcases bindX_some h with ⟨u8, M7, e, h⟩ | ⟨e9, e, rfl⟩
  rotate_left
  · exact cx_X11_131 e dX11_subscribe_21 (Nat.le_of_ble_eq_true rfl) (by decide)
  refine ca_X11_131 e dX11_subscribe_21 (Nat.le_of_ble_eq_true rfl) (by decide) ?_
  refine v_iload_n dX11_subscribe_24 rfl 5 rfl ?_
  refine v_iconst (v := 0) dX11_subscribe_25 ci_0 ?_
  refine v_iconst (v := 3) dX11_subscribe_26 ci_3 ?_
  rcases bindX_some h with ⟨u10, M9, e, h⟩ | ⟨e9, e, rfl⟩
  rotate_left
  · exact cx_X11_131 e dX11_subscribe_27 (Nat.le_of_ble_eq_true rfl) (by decide)
  refine ca_X11_131 e dX11_subscribe_27 (Nat.le_of_ble_eq_true rfl) (by decide) ?_
  refine v_iload dX11_subscribe_30 6 rfl ?_
  refine v_iconst (v := 0) dX11_subscribe_32 ci_0 ?_
  refine v_bipush (v := 7) dX11_subscribe_33 cb_7 ?_
  rcases bindX_some h with ⟨u12, M11, e, h⟩ | ⟨e9, e, rfl⟩
  rotate_left
  · exact cx_X11_131 e dX11_subscribe_35 (Nat.le_of_ble_eq_true rfl) (by decide)
  refine ca_X11_131 e dX11_subscribe_35 (Nat.le_of_ble_eq_true rfl) (by decide) ?_
  refine v_iload_n dX11_subscribe_38 rfl 5 rfl ?_
  refine v_if_eq (tgt := 57) dX11_subscribe_39 (by decide) (fun c14 => ?_) (fun c14 => ?_)
  · replace h := ifP c14 h
    refine v_sub [2, 3, 4, 5, 6, 0] rfl ?_
    exact w_X11_subscribe_J57 l0 l1 l2 l3 l4 v6 M11 h
  · replace h := ifN c14 h
    refine v_iload dX11_subscribe_42 6 rfl ?_
    refine v_iconst (v := 1) dX11_subscribe_44 ci_1 ?_
    refine v_iand dX11_subscribe_45 ?_
    refine v_if_eq (tgt := 57) dX11_subscribe_46 (by decide) (fun c13 => ?_) (fun c13 => ?_)
    · replace h := ifP c13 h
      refine v_sub [2, 3, 4, 5, 6, 0] rfl ?_
      exact w_X11_subscribe_J57 l0 l1 l2 l3 l4 v6 M11 h
    · replace h := ifN c13 h
      cases h
      exact th_1 dX11_subscribe_49 dX11_subscribe_52 dX11_subscribe_53 dX11_subscribe_56 (by decide) (Nat.le_of_ble_eq_true rfl)
theorem kd_X11_subscribe {l0 : Nat} {l1 : Int32} {l2 : Int32} {l3 : Int32} {l4 : Int32} {M : Mem} {z : _} (h : f_X11_subscribe l0 l1 l2 l3 l4 M = some z) : (mK M l0).1 = 11 := by
  unfold f_X11_subscribe at h
  exact (ifS h).1
theorem k_X11_subscribe {G : Gl} {l0 : Nat} {l1 : Int32} {l2 : Int32} {l3 : Int32} {l4 : Int32} {M MF : Mem} {r : Int32 ⊕ Nat} (h : f_X11_subscribe l0 l1 l2 l3 l4 M = some (r, MF)) : CtrP G yX11_subscribe cX11_subscribe 11 (some .int) 8 132 [.ref l0, .int l1, .int l2, .int l3, .int l4] M (cxI r) MF :=
  ctr_of (by decide +kernel) (Nat.le_of_ble_eq_true rfl) (fun ρ => w_X11_subscribe l0 l1 l2 l3 l4 M h)
set_option maxHeartbeats 4000000 in
set_option maxRecDepth 100000 in
theorem w_X11_unsubscribe {G : Gl} {ρ0 : Nat → Nat} {M0 MF : Mem} {r : Int32 ⊕ Nat} (l0 : Nat) (l1 : Int32) (l2 : Int32) (M : Mem) (h : f_X11_unsubscribe l0 l1 l2 M = some (r, MF)) : V G (RX11, cX11_unsubscribe, (some .int), 8, 132, 5, "unsubscribe", []) (ρ0, M0, cxI r, MF) 0 [(0, .ref l0), (1, .int l1), (2, .int l2)] [] M := by
  unfold f_X11_unsubscribe at h
  replace h := (ifS h).2
  refine v_aload_n dX11_unsubscribe_0 rfl 0 rfl ?_
  obtain ⟨v2, M1, e, h⟩ := bindP_some h
  refine ca_X11_123 e dX11_unsubscribe_1 (Nat.le_of_ble_eq_true rfl) (by decide) ?_
  refine v_istore_n (ls' := [(3, .int v2), (0, .ref l0), (1, .int l1), (2, .int l2)]) dX11_unsubscribe_4 rfl (by decide) rfl ?_
  refine v_iload_n dX11_unsubscribe_5 rfl 2 rfl ?_
  rcases bindX_some h with ⟨u4, M3, e, h⟩ | ⟨e9, e, rfl⟩
  rotate_left
  · exact cx_X11_73 e dX11_unsubscribe_6 (Nat.le_of_ble_eq_true rfl) (by decide)
  refine ca_X11_73 e dX11_unsubscribe_6 (Nat.le_of_ble_eq_true rfl) (by decide) ?_
  refine v_aload_n dX11_unsubscribe_9 rfl 1 rfl ?_
  refine v_iload_n dX11_unsubscribe_10 rfl 0 rfl ?_
  rcases bindX_some h with ⟨v6, M5, e, h⟩ | ⟨e9, e, rfl⟩
  rotate_left
  · exact cx_X11_148 e dX11_unsubscribe_11 (Nat.le_of_ble_eq_true rfl) (by decide)
  refine ca_X11_148 e dX11_unsubscribe_11 (Nat.le_of_ble_eq_true rfl) (by decide) ?_
  refine v_astore (ls' := [(4, .ref v6), (3, .int v2), (0, .ref l0), (1, .int l1), (2, .int l2)]) dX11_unsubscribe_14 (by decide) rfl ?_
  refine v_iload_n dX11_unsubscribe_16 rfl 4 rfl ?_
  refine v_iconst (v := 0) dX11_unsubscribe_17 ci_0 ?_
  refine v_iconst (v := 3) dX11_unsubscribe_18 ci_3 ?_
  rcases bindX_some h with ⟨u8, M7, e, h⟩ | ⟨e9, e, rfl⟩
  rotate_left
  · exact cx_X11_131 e dX11_unsubscribe_19 (Nat.le_of_ble_eq_true rfl) (by decide)
  refine ca_X11_131 e dX11_unsubscribe_19 (Nat.le_of_ble_eq_true rfl) (by decide) ?_
  refine v_aload_n dX11_unsubscribe_22 rfl 2 rfl ?_
  refine v_iload_n dX11_unsubscribe_23 rfl 3 rfl ?_
  rcases bindX_some h with ⟨u10, M9, e, h⟩ | ⟨e9, e, rfl⟩
  rotate_left
  · exact cx_X11_114 e dX11_unsubscribe_24 (Nat.le_of_ble_eq_true rfl) (by decide)
  refine ca_X11_114 e dX11_unsubscribe_24 (Nat.le_of_ble_eq_true rfl) (by decide) ?_
  refine v_aload_n dX11_unsubscribe_27 rfl 2 rfl ?_
  obtain ⟨v11, e, h⟩ := bind_some h
  refine gt_X11_41 e dX11_unsubscribe_28 ?_
  refine v_iload_n dX11_unsubscribe_31 rfl 3 rfl ?_
  refine v_aload dX11_unsubscribe_32 0 rfl ?_
  refine v_iload_n dX11_unsubscribe_34 rfl 4 rfl ?_
  obtain ⟨v13, M12, e, h⟩ := bindP_some h
  refine ca_X11_176 e dX11_unsubscribe_35 (Nat.le_of_ble_eq_true rfl) (by decide) ?_
  refine v_if_eq (tgt := 45) dX11_unsubscribe_38 (by decide) (fun c14 => ?_) (fun c14 => ?_)
  · replace h := ifP c14 h
    refine v_iconst (v := 0) dX11_unsubscribe_45 ci_0 ?_
    cases h
    exact v_ireturn dX11_unsubscribe_46
  · replace h := ifN c14 h
    refine v_iconst (v := 1) dX11_unsubscribe_41 ci_1 ?_
    refine v_goto (tgt := 46) dX11_unsubscribe_42 (by decide) ?_
    cases h
    exact v_ireturn dX11_unsubscribe_46
theorem kd_X11_unsubscribe {l0 : Nat} {l1 : Int32} {l2 : Int32} {M : Mem} {z : _} (h : f_X11_unsubscribe l0 l1 l2 M = some z) : (mK M l0).1 = 11 := by
  unfold f_X11_unsubscribe at h
  exact (ifS h).1
theorem k_X11_unsubscribe {G : Gl} {l0 : Nat} {l1 : Int32} {l2 : Int32} {M MF : Mem} {r : Int32 ⊕ Nat} (h : f_X11_unsubscribe l0 l1 l2 M = some (r, MF)) : CtrP G yX11_unsubscribe cX11_unsubscribe 5 (some .int) 8 132 [.ref l0, .int l1, .int l2] M (cxI r) MF :=
  ctr_of (by decide +kernel) (Nat.le_of_ble_eq_true rfl) (fun ρ => w_X11_unsubscribe l0 l1 l2 M h)
theorem w_X11_requireSubscription_J34 {G : Gl} {ρ0 : Nat → Nat} {M0 MF : Mem} {r : Unit ⊕ Nat} (M : Mem) (h : f_X11_requireSubscription_J34 M = some (r, MF)) : V G (RX11, cX11_requireSubscription, none, 6, 89, 4, "requireSubscription", []) (ρ0, M0, cxV r, MF) 34 [] [] M := by
  unfold f_X11_requireSubscription_J34 at h
  cases h
  exact th_3 dX11_requireSubscription_34 dX11_requireSubscription_37 dX11_requireSubscription_38 dX11_requireSubscription_41 (by decide) (Nat.le_of_ble_eq_true rfl)
set_option maxHeartbeats 4000000 in
set_option maxRecDepth 100000 in
theorem w_X11_requireSubscription {G : Gl} {ρ0 : Nat → Nat} {M0 MF : Mem} {r : Unit ⊕ Nat} (l0 : Nat) (l1 : Int32) (l2 : Int32) (M : Mem) (h : f_X11_requireSubscription l0 l1 l2 M = some (r, MF)) : V G (RX11, cX11_requireSubscription, none, 6, 89, 4, "requireSubscription", []) (ρ0, M0, cxV r, MF) 0 [(0, .ref l0), (1, .int l1), (2, .int l2)] [] M := by
  unfold f_X11_requireSubscription at h
  replace h := (ifS h).2
  refine v_aload_n dX11_requireSubscription_0 rfl 0 rfl ?_
  obtain ⟨v1, e, h⟩ := bind_some h
  refine gt_X11_41 e dX11_requireSubscription_1 ?_
  obtain ⟨v2, e, h⟩ := bind_some h
  refine gt_X11_77 e dX11_requireSubscription_4 ?_
  refine v_iload_n dX11_requireSubscription_7 rfl 1 rfl ?_
  obtain ⟨v3, e, h⟩ := bind_some h
  refine al_0 e dX11_requireSubscription_8 ?_
  obtain ⟨v4, e, h⟩ := bind_some h
  refine gt_X11_94 e dX11_requireSubscription_9 ?_
  refine v_astore_n (ls' := [(3, .ref v4), (0, .ref l0), (1, .int l1), (2, .int l2)]) dX11_requireSubscription_12 rfl (by decide) rfl ?_
  refine v_iload_n dX11_requireSubscription_13 rfl 3 rfl ?_
  refine v_if_lt (tgt := 34) dX11_requireSubscription_14 (by decide) (fun c10 => ?_) (fun c10 => ?_)
  · replace h := ifP c10 h
    refine v_sub [] rfl ?_
    exact w_X11_requireSubscription_J34 M h
  · replace h := ifN c10 h
    refine v_iload_n dX11_requireSubscription_17 rfl 3 rfl ?_
    refine v_aload_n dX11_requireSubscription_18 rfl 0 rfl ?_
    obtain ⟨v5, e, h⟩ := bind_some h
    refine gt_X11_155 e dX11_requireSubscription_19 ?_
    refine v_icmp_ge (tgt := 34) dX11_requireSubscription_22 (by decide) (fun c9 => ?_) (fun c9 => ?_)
    · replace h := ifP c9 h
      refine v_sub [] rfl ?_
      exact w_X11_requireSubscription_J34 M h
    · replace h := ifN c9 h
      refine v_iload_n dX11_requireSubscription_25 rfl 3 rfl ?_
      refine v_aload_n dX11_requireSubscription_26 rfl 0 rfl ?_
      obtain ⟨v6, e, h⟩ := bind_some h
      refine gt_X11_162 e dX11_requireSubscription_27 ?_
      obtain ⟨v7, e, h⟩ := bind_some h
      refine v_alen dX11_requireSubscription_30 e ?_
      refine v_icmp_lt (tgt := 42) dX11_requireSubscription_31 (by decide) (fun c8 => ?_) (fun c8 => ?_)
      · replace h := ifP c8 h
        cases h
        exact v_vreturn dX11_requireSubscription_42
      · replace h := ifN c8 h
        refine v_sub [] rfl ?_
        exact w_X11_requireSubscription_J34 M h
theorem kd_X11_requireSubscription {l0 : Nat} {l1 : Int32} {l2 : Int32} {M : Mem} {z : _} (h : f_X11_requireSubscription l0 l1 l2 M = some z) : (mK M l0).1 = 11 := by
  unfold f_X11_requireSubscription at h
  exact (ifS h).1
theorem k_X11_requireSubscription {G : Gl} {l0 : Nat} {l1 : Int32} {l2 : Int32} {M MF : Mem} {r : Unit ⊕ Nat} (h : f_X11_requireSubscription l0 l1 l2 M = some (r, MF)) : CtrP G yX11_requireSubscription cX11_requireSubscription 4 none 6 89 [.ref l0, .int l1, .int l2] M (cxV r) MF :=
  ctr_of (by decide +kernel) (Nat.le_of_ble_eq_true rfl) (fun ρ => w_X11_requireSubscription l0 l1 l2 M h)
theorem wd_X11_180 : wdV RX11 180 RX11 yX11_requireSubscription cX11_requireSubscription 4 none 2 := ⟨gwi 973 (by decide +kernel) (by decide +kernel), gwi 975 (by decide +kernel) (by decide +kernel), gwi 23 (by decide +kernel) (by decide +kernel), nw_X11, gwi 976 (by decide +kernel) (by decide +kernel), ⟨rfl, by decide +kernel, by decide +kernel, by decide +kernel⟩⟩
theorem ca_X11_180 {G : Gl} {B : Bx} {cc : ByteArray} {ret : Option FieldType} {fr lo nL : Nat} {mn : String} {hh : List (Nat × Nat × Nat × Nat)} {pc : Nat} {ls : List (Nat × Value)} {st : List Value} {M M1 : Mem} {l0 : Nat} {l1 : Int32} {l2 : Int32} {x : Unit} (e : f_X11_requireSubscription l0 l1 l2 M = some (.inl x, M1)) (hd : decode cc pc = .ok (.invokevirtual 180, 3)) (hcat : (st.map fun v => v.category).sum ≤ 8) (hR : 6 + 1 ≤ fr ∧ 8 + (4 + 11) + 89 ≤ lo) (k : V G (RX11, cc, ret, fr, lo, nL, mn, hh) B (pc + 3) ls (st) M1) : V G (RX11, cc, ret, fr, lo, nL, mn, hh) B pc ls (.int l2 :: .int l1 :: .ref l0 :: st) M := v_callV0 (As := [.int l1, .int l2]) (k_X11_requireSubscription e) wd_X11_180 clX11 (kd_X11_requireSubscription e) hd rfl rfl hcat hR k
theorem cx_X11_180 {G : Gl} {ρ0 : Nat → Nat} {M0 : Mem} {cc : ByteArray} {ret : Option FieldType} {fr lo nL : Nat} {mn : String} {pc : Nat} {ls : List (Nat × Value)} {st : List Value} {M M1 : Mem} {l0 : Nat} {l1 : Int32} {l2 : Int32} {e9 : Nat} (e : f_X11_requireSubscription l0 l1 l2 M = some (.inr e9, M1)) (hd : decode cc pc = .ok (.invokevirtual 180, 3)) (hcat : (st.map fun v => v.category).sum ≤ 8) (hR : 6 + 1 ≤ fr ∧ 8 + (4 + 11) + 89 ≤ lo) : V G (RX11, cc, ret, fr, lo, nL, mn, []) (ρ0, M0, Sum.inr e9, M1) pc ls (.int l2 :: .int l1 :: .ref l0 :: st) M := v_callVx (As := [.int l1, .int l2]) (k_X11_requireSubscription e) wd_X11_180 clX11 (kd_X11_requireSubscription e) hd rfl rfl hcat hR
