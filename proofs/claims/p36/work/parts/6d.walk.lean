set_option maxHeartbeats 4000000 in
set_option maxRecDepth 100000 in
theorem w_X7_resend {G : Gl} {ρ0 : Nat → Nat} {M0 MF : Mem} {r : Unit} (l0 : Nat) (l1 : Nat) (l2 : Nat) (M : Mem) (h : f_X7_resend l0 l1 l2 M = some MF) : V G (RX7, cX7_resend, none, 3, 67, 3, "resend", []) (ρ0, M0, cvV r, MF) 0 [(0, .ref l0), (1, .ref l1), (2, .ref l2)] [] M := by
  unfold f_X7_resend at h
  replace h := (ifS h).2
  refine v_aload_n dX7_resend_0 rfl 0 rfl ?_
  obtain ⟨v1, e, h⟩ := bind_some h
  refine gt_X7_45 e dX7_resend_1 ?_
  refine v_iconst (v := 4) dX7_resend_4 ci_4 ?_
  refine v_dup2 dX7_resend_5 rfl rfl ?_
  obtain ⟨v2, e, h⟩ := bind_some h
  refine v_iaload dX7_resend_6 e ?_
  refine v_iconst (v := 1) dX7_resend_7 ci_1 ?_
  refine v_iadd dX7_resend_8 ?_
  obtain ⟨M3, e, h⟩ := bind_some h
  refine v_iastore dX7_resend_9 e ?_
  refine v_aload_n dX7_resend_10 rfl 2 rfl ?_
  obtain ⟨v4, e, h⟩ := bind_some h
  refine gt_X7_274 e dX7_resend_11 ?_
  refine v_iconst (v := 4) dX7_resend_14 ci_4 ?_
  refine v_icmp_ne (tgt := 27) dX7_resend_15 (by decide) (fun c6 => ?_) (fun c6 => ?_)
  · replace h := ifN c6 h
    refine v_aload_n dX7_resend_27 rfl 0 rfl ?_
    refine v_aload_n dX7_resend_28 rfl 1 rfl ?_
    refine v_aload_n dX7_resend_29 rfl 2 rfl ?_
    refine v_iconst (v := 1) dX7_resend_30 ci_1 ?_
    obtain ⟨M5, e, h⟩ := bind_some h
    refine ca_X7_244 e dX7_resend_31 (Nat.le_of_ble_eq_true rfl) (by decide) ?_
    cases h
    exact v_vreturn dX7_resend_34
  · replace h := ifP c6 h
    refine v_aload_n dX7_resend_18 rfl 0 rfl ?_
    refine v_aload_n dX7_resend_19 rfl 1 rfl ?_
    refine v_aload_n dX7_resend_20 rfl 2 rfl ?_
    obtain ⟨M5, e, h⟩ := bind_some h
    refine ca_X7_283 e dX7_resend_21 (Nat.le_of_ble_eq_true rfl) (by decide) ?_
    refine v_goto (tgt := 34) dX7_resend_24 (by decide) ?_
    cases h
    exact v_vreturn dX7_resend_34
theorem kd_X7_resend {l0 : Nat} {l1 : Nat} {l2 : Nat} {M : Mem} {z : _} (h : f_X7_resend l0 l1 l2 M = some z) : (mK M l0).1 = 7 := by
  unfold f_X7_resend at h
  exact (ifS h).1
theorem k_X7_resend {G : Gl} {l0 : Nat} {l1 : Nat} {l2 : Nat} {M MF : Mem} (h : f_X7_resend l0 l1 l2 M = some MF) : CtrP G yX7_resend cX7_resend 3 none 3 67 [.ref l0, .ref l1, .ref l2] M (cvV ()) MF :=
  ctr_of (by decide +kernel) (Nat.le_of_ble_eq_true rfl) (fun ρ => w_X7_resend (r := ()) l0 l1 l2 M h)
theorem wd_X7_150 : wdV RX7 150 RX7 yX7_resend cX7_resend 3 none 2 := ⟨gwi 790 (by decide +kernel) (by decide +kernel), gwi 792 (by decide +kernel) (by decide +kernel), gwi 15 (by decide +kernel) (by decide +kernel), nw_X7, gwi 793 (by decide +kernel) (by decide +kernel), ⟨rfl, by decide +kernel, by decide +kernel, by decide +kernel⟩⟩
theorem ca_X7_150 {G : Gl} {B : Bx} {cc : ByteArray} {ret : Option FieldType} {fr lo nL : Nat} {mn : String} {hh : List (Nat × Nat × Nat × Nat)} {pc : Nat} {ls : List (Nat × Value)} {st : List Value} {M M1 : Mem} {l0 : Nat} {l1 : Nat} {l2 : Nat} (e : f_X7_resend l0 l1 l2 M = some M1) (hd : decode cc pc = .ok (.invokevirtual 150, 3)) (hcat : (st.map fun v => v.category).sum ≤ 8) (hR : 3 + 1 ≤ fr ∧ 8 + (3 + 11) + 67 ≤ lo) (k : V G (RX7, cc, ret, fr, lo, nL, mn, hh) B (pc + 3) ls (st) M1) : V G (RX7, cc, ret, fr, lo, nL, mn, hh) B pc ls (.ref l2 :: .ref l1 :: .ref l0 :: st) M := v_callV0 (As := [.ref l1, .ref l2]) (k_X7_resend e) wd_X7_150 clX7 (kd_X7_resend e) hd rfl rfl hcat hR k
set_option maxHeartbeats 4000000 in
set_option maxRecDepth 100000 in
theorem w_X7_startPending_L10 {G : Gl} {ρ0 : Nat → Nat} {M0 MF : Mem} {r : Unit} : ∀ (n : Nat) (l0 : Nat) (l1 : Nat) (l2 : Nat) (l3 : Int32) (M : Mem), f_X7_startPending_L10 n l0 l1 l2 l3 M = some MF → V G (RX7, cX7_startPending, none, 3, 68, 4, "startPending", []) (ρ0, M0, cvV r, MF) 10 [(0, .ref l0), (1, .ref l1), (2, .ref l2), (3, .int l3)] [] M := by
  intro n
  induction n with
  | zero => intro l0 l1 l2 l3 M h; cases h
  | succ n ih =>
    intro l0 l1 l2 l3 M h
    rw [f_X7_startPending_L10] at h
    refine v_iload_n dX7_startPending_10 rfl 3 rfl ?_
    refine v_bipush (v := 8) dX7_startPending_11 cb_8 ?_
    refine v_icmp_ge (tgt := 53) dX7_startPending_13 (by decide) (fun c10 => ?_) (fun c10 => ?_)
    · replace h := ifP c10 h
      cases h
      exact v_vreturn dX7_startPending_53
    · replace h := ifN c10 h
      refine v_aload_n dX7_startPending_16 rfl 2 rfl ?_
      obtain ⟨v1, e, h⟩ := bind_some h
      refine gt_X7_142 e dX7_startPending_17 ?_
      refine v_if_le (tgt := 53) dX7_startPending_20 (by decide) (fun c9 => ?_) (fun c9 => ?_)
      · replace h := ifP c9 h
        cases h
        exact v_vreturn dX7_startPending_53
      · replace h := ifN c9 h
        refine v_aload_n dX7_startPending_23 rfl 0 rfl ?_
        refine v_aload_n dX7_startPending_24 rfl 1 rfl ?_
        obtain ⟨v3, M2, e, h⟩ := bindP_some h
        refine ca_X7_251 e dX7_startPending_25 (Nat.le_of_ble_eq_true rfl) (by decide) ?_
        refine v_if_eq (tgt := 53) dX7_startPending_28 (by decide) (fun c8 => ?_) (fun c8 => ?_)
        · replace h := ifP c8 h
          cases h
          exact v_vreturn dX7_startPending_53
        · replace h := ifN c8 h
          refine v_aload_n dX7_startPending_31 rfl 0 rfl ?_
          refine v_aload_n dX7_startPending_32 rfl 1 rfl ?_
          refine v_aload_n dX7_startPending_33 rfl 2 rfl ?_
          obtain ⟨v4, e, h⟩ := bind_some h
          refine gt_X7_147 e dX7_startPending_34 ?_
          refine v_iconst (v := 0) dX7_startPending_37 ci_0 ?_
          obtain ⟨v5, e, h⟩ := bind_some h
          refine al_1 e dX7_startPending_38 ?_
          obtain ⟨M6, e, h⟩ := bind_some h
          refine ca_X7_255 e dX7_startPending_39 (Nat.le_of_ble_eq_true rfl) (by decide) ?_
          refine v_aload_n dX7_startPending_42 rfl 2 rfl ?_
          refine v_iconst (v := 0) dX7_startPending_43 ci_0 ?_
          obtain ⟨M7, e, h⟩ := bind_some h
          refine ca_X7_262 e dX7_startPending_44 (Nat.le_of_ble_eq_true rfl) (by decide) ?_
          refine v_iinc (ls' := [(3, .int (l3 + 1)), (0, .ref l0), (1, .ref l1), (2, .ref l2)]) dX7_startPending_47 3 rfl (v := 1) ci_1 (by decide) rfl ?_
          refine v_goto (tgt := 10) dX7_startPending_50 (by decide) ?_
          refine v_sub [1, 2, 3, 0] rfl ?_
          exact ih l0 l1 l2 (l3 + 1) M7 h
set_option maxHeartbeats 4000000 in
set_option maxRecDepth 100000 in
theorem w_X7_startPending {G : Gl} {ρ0 : Nat → Nat} {M0 MF : Mem} {r : Unit} (l0 : Nat) (l1 : Nat) (M : Mem) (h : f_X7_startPending l0 l1 M = some MF) : V G (RX7, cX7_startPending, none, 3, 68, 4, "startPending", []) (ρ0, M0, cvV r, MF) 0 [(0, .ref l0), (1, .ref l1)] [] M := by
  unfold f_X7_startPending at h
  replace h := (ifS h).2
  refine v_aload_n dX7_startPending_0 rfl 1 rfl ?_
  obtain ⟨v1, e, h⟩ := bind_some h
  refine gt_X7_95 e dX7_startPending_1 ?_
  obtain ⟨v2, e, h⟩ := bind_some h
  refine gt_X7_248 e dX7_startPending_4 ?_
  refine v_astore_n (ls' := [(2, .ref v2), (0, .ref l0), (1, .ref l1)]) dX7_startPending_7 rfl (by decide) rfl ?_
  refine v_iconst (v := 0) dX7_startPending_8 ci_0 ?_
  refine v_istore_n (ls' := [(3, .int (0 : Int32)), (2, .ref v2), (0, .ref l0), (1, .ref l1)]) dX7_startPending_9 rfl (by decide) rfl ?_
  refine v_sub [2, 3, 1, 0] rfl ?_
  exact w_X7_startPending_L10 FU l0 l1 v2 (0 : Int32) M h
theorem kd_X7_startPending {l0 : Nat} {l1 : Nat} {M : Mem} {z : _} (h : f_X7_startPending l0 l1 M = some z) : (mK M l0).1 = 7 := by
  unfold f_X7_startPending at h
  exact (ifS h).1
theorem k_X7_startPending {G : Gl} {l0 : Nat} {l1 : Nat} {M MF : Mem} (h : f_X7_startPending l0 l1 M = some MF) : CtrP G yX7_startPending cX7_startPending 4 none 3 68 [.ref l0, .ref l1] M (cvV ()) MF :=
  ctr_of (by decide +kernel) (Nat.le_of_ble_eq_true rfl) (fun ρ => w_X7_startPending (r := ()) l0 l1 M h)
theorem wd_X7_154 : wdV RX7 154 RX7 yX7_startPending cX7_startPending 4 none 1 := ⟨gwi 802 (by decide +kernel) (by decide +kernel), gwi 804 (by decide +kernel) (by decide +kernel), gwi 17 (by decide +kernel) (by decide +kernel), nw_X7, gwi 805 (by decide +kernel) (by decide +kernel), ⟨rfl, by decide +kernel, by decide +kernel, by decide +kernel⟩⟩
theorem ca_X7_154 {G : Gl} {B : Bx} {cc : ByteArray} {ret : Option FieldType} {fr lo nL : Nat} {mn : String} {hh : List (Nat × Nat × Nat × Nat)} {pc : Nat} {ls : List (Nat × Value)} {st : List Value} {M M1 : Mem} {l0 : Nat} {l1 : Nat} (e : f_X7_startPending l0 l1 M = some M1) (hd : decode cc pc = .ok (.invokevirtual 154, 3)) (hcat : (st.map fun v => v.category).sum ≤ 8) (hR : 3 + 1 ≤ fr ∧ 8 + (4 + 11) + 68 ≤ lo) (k : V G (RX7, cc, ret, fr, lo, nL, mn, hh) B (pc + 3) ls (st) M1) : V G (RX7, cc, ret, fr, lo, nL, mn, hh) B pc ls (.ref l1 :: .ref l0 :: st) M := v_callV0 (As := [.ref l1]) (k_X7_startPending e) wd_X7_154 clX7 (kd_X7_startPending e) hd rfl rfl hcat hR k
set_option maxHeartbeats 4000000 in
set_option maxRecDepth 100000 in
theorem w_X7_resume_J44 {G : Gl} {ρ0 : Nat → Nat} {M0 MF : Mem} {r : Unit} (l0 : Nat) (l1 : Nat) (M : Mem) (h : f_X7_resume_J44 l0 l1 M = some MF) : V G (RX7, cX7_resume, none, 4, 91, 4, "resume", []) (ρ0, M0, cvV r, MF) 44 [(0, .ref l0), (1, .ref l1)] [] M := by
  unfold f_X7_resume_J44 at h
  refine v_aload_n dX7_resume_44 rfl 0 rfl ?_
  refine v_aload_n dX7_resume_45 rfl 1 rfl ?_
  obtain ⟨M1, e, h⟩ := bind_some h
  refine ca_X7_154 e dX7_resume_46 (Nat.le_of_ble_eq_true rfl) (by decide) ?_
  cases h
  exact v_vreturn dX7_resume_49
set_option maxHeartbeats 4000000 in
set_option maxRecDepth 100000 in
theorem w_X7_resume_L10 {G : Gl} {ρ0 : Nat → Nat} {M0 MF : Mem} {r : Unit} : ∀ (n : Nat) (l0 : Nat) (l1 : Nat) (l2 : Nat) (l3 : Int32) (M : Mem), f_X7_resume_L10 n l0 l1 l2 l3 M = some MF → V G (RX7, cX7_resume, none, 4, 91, 4, "resume", []) (ρ0, M0, cvV r, MF) 10 [(0, .ref l0), (1, .ref l1), (2, .ref l2), (3, .int l3)] [] M := by
  intro n
  induction n with
  | zero => intro l0 l1 l2 l3 M h; cases h
  | succ n ih =>
    intro l0 l1 l2 l3 M h
    rw [f_X7_resume_L10] at h
    refine v_iload_n dX7_resume_10 rfl 3 rfl ?_
    refine v_aload_n dX7_resume_11 rfl 2 rfl ?_
    obtain ⟨v1, e, h⟩ := bind_some h
    refine gt_X7_142 e dX7_resume_12 ?_
    refine v_icmp_ge (tgt := 44) dX7_resume_15 (by decide) (fun c8 => ?_) (fun c8 => ?_)
    · replace h := ifP c8 h
      refine v_sub [0, 1] rfl ?_
      exact w_X7_resume_J44 l0 l1 M h
    · replace h := ifN c8 h
      refine v_iload_n dX7_resume_18 rfl 3 rfl ?_
      refine v_aload_n dX7_resume_19 rfl 2 rfl ?_
      obtain ⟨v2, e, h⟩ := bind_some h
      refine gt_X7_147 e dX7_resume_20 ?_
      obtain ⟨v3, e, h⟩ := bind_some h
      refine v_alen dX7_resume_23 e ?_
      refine v_icmp_ge (tgt := 44) dX7_resume_24 (by decide) (fun c7 => ?_) (fun c7 => ?_)
      · replace h := ifP c7 h
        refine v_sub [0, 1] rfl ?_
        exact w_X7_resume_J44 l0 l1 M h
      · replace h := ifN c7 h
        refine v_aload_n dX7_resume_27 rfl 0 rfl ?_
        refine v_aload_n dX7_resume_28 rfl 1 rfl ?_
        refine v_aload_n dX7_resume_29 rfl 2 rfl ?_
        obtain ⟨v4, e, h⟩ := bind_some h
        refine gt_X7_147 e dX7_resume_30 ?_
        refine v_iload_n dX7_resume_33 rfl 3 rfl ?_
        obtain ⟨v5, e, h⟩ := bind_some h
        refine al_1 e dX7_resume_34 ?_
        obtain ⟨M6, e, h⟩ := bind_some h
        refine ca_X7_150 e dX7_resume_35 (Nat.le_of_ble_eq_true rfl) (by decide) ?_
        refine v_iinc (ls' := [(3, .int (l3 + 1)), (0, .ref l0), (1, .ref l1), (2, .ref l2)]) dX7_resume_38 3 rfl (v := 1) ci_1 (by decide) rfl ?_
        refine v_goto (tgt := 10) dX7_resume_41 (by decide) ?_
        refine v_sub [1, 2, 3, 0] rfl ?_
        exact ih l0 l1 l2 (l3 + 1) M6 h
set_option maxHeartbeats 4000000 in
set_option maxRecDepth 100000 in
theorem w_X7_resume {G : Gl} {ρ0 : Nat → Nat} {M0 MF : Mem} {r : Unit} (l0 : Nat) (l1 : Nat) (M : Mem) (h : f_X7_resume l0 l1 M = some MF) : V G (RX7, cX7_resume, none, 4, 91, 4, "resume", []) (ρ0, M0, cvV r, MF) 0 [(0, .ref l0), (1, .ref l1)] [] M := by
  unfold f_X7_resume at h
  replace h := (ifS h).2
  refine v_aload_n dX7_resume_0 rfl 1 rfl ?_
  obtain ⟨v1, e, h⟩ := bind_some h
  refine gt_X7_95 e dX7_resume_1 ?_
  obtain ⟨v2, e, h⟩ := bind_some h
  refine gt_X7_138 e dX7_resume_4 ?_
  refine v_astore_n (ls' := [(2, .ref v2), (0, .ref l0), (1, .ref l1)]) dX7_resume_7 rfl (by decide) rfl ?_
  refine v_iconst (v := 0) dX7_resume_8 ci_0 ?_
  refine v_istore_n (ls' := [(3, .int (0 : Int32)), (2, .ref v2), (0, .ref l0), (1, .ref l1)]) dX7_resume_9 rfl (by decide) rfl ?_
  refine v_sub [2, 3, 1, 0] rfl ?_
  exact w_X7_resume_L10 FU l0 l1 v2 (0 : Int32) M h
theorem kd_X7_resume {l0 : Nat} {l1 : Nat} {M : Mem} {z : _} (h : f_X7_resume l0 l1 M = some z) : (mK M l0).1 = 7 := by
  unfold f_X7_resume at h
  exact (ifS h).1
theorem k_X7_resume {G : Gl} {l0 : Nat} {l1 : Nat} {M MF : Mem} (h : f_X7_resume l0 l1 M = some MF) : CtrP G yX7_resume cX7_resume 4 none 4 91 [.ref l0, .ref l1] M (cvV ()) MF :=
  ctr_of (by decide +kernel) (Nat.le_of_ble_eq_true rfl) (fun ρ => w_X7_resume (r := ()) l0 l1 M h)
theorem wd_X11_110 : wdV RX11 110 RX7 yX7_resume cX7_resume 4 none 1 := ⟨gwi 786 (by decide +kernel) (by decide +kernel), gwi 787 (by decide +kernel) (by decide +kernel), gwi 788 (by decide +kernel) (by decide +kernel), nw_X7, gwi 789 (by decide +kernel) (by decide +kernel), ⟨rfl, by decide +kernel, by decide +kernel, by decide +kernel⟩⟩
theorem ca_X11_110 {G : Gl} {B : Bx} {cc : ByteArray} {ret : Option FieldType} {fr lo nL : Nat} {mn : String} {hh : List (Nat × Nat × Nat × Nat)} {pc : Nat} {ls : List (Nat × Value)} {st : List Value} {M M1 : Mem} {l0 : Nat} {l1 : Nat} (e : f_X7_resume l0 l1 M = some M1) (hd : decode cc pc = .ok (.invokevirtual 110, 3)) (hcat : (st.map fun v => v.category).sum ≤ 8) (hR : 4 + 1 ≤ fr ∧ 8 + (4 + 11) + 91 ≤ lo) (k : V G (RX11, cc, ret, fr, lo, nL, mn, hh) B (pc + 3) ls (st) M1) : V G (RX11, cc, ret, fr, lo, nL, mn, hh) B pc ls (.ref l1 :: .ref l0 :: st) M := v_callV0 (As := [.ref l1]) (k_X7_resume e) wd_X11_110 clX7 (kd_X7_resume e) hd rfl rfl hcat hR k
set_option maxHeartbeats 4000000 in
set_option maxRecDepth 100000 in
theorem w_X7_placeOfShare_L2 {G : Gl} {ρ0 : Nat → Nat} {M0 MF : Mem} {r : Int32} : ∀ (n : Nat) (l0 : Nat) (l1 : Nat) (l2 : Int32) (l3 : Int32) (M : Mem), f_X7_placeOfShare_L2 n l0 l1 l2 l3 M = some (r, MF) → V G (RX7, cX7_placeOfShare, (some .int), 1, 22, 4, "placeOfShare", []) (ρ0, M0, cvI r, MF) 2 [(0, .ref l0), (1, .ref l1), (2, .int l2), (3, .int l3)] [] M := by
  intro n
  induction n with
  | zero => intro l0 l1 l2 l3 M h; cases h
  | succ n ih =>
    intro l0 l1 l2 l3 M h
    rw [f_X7_placeOfShare_L2] at h
    refine v_iload_n dX7_placeOfShare_2 rfl 3 rfl ?_
    refine v_aload_n dX7_placeOfShare_3 rfl 0 rfl ?_
    obtain ⟨v1, e, h⟩ := bind_some h
    refine gt_X7_63 e dX7_placeOfShare_4 ?_
    refine v_icmp_ge (tgt := 53) dX7_placeOfShare_7 (by decide) (fun c13 => ?_) (fun c13 => ?_)
    · replace h := ifP c13 h
      refine v_iconst (v := (-1)) dX7_placeOfShare_53 ci_m1 ?_
      cases h
      exact v_ireturn dX7_placeOfShare_54
    · replace h := ifN c13 h
      refine v_iload_n dX7_placeOfShare_10 rfl 3 rfl ?_
      refine v_bipush (v := 36) dX7_placeOfShare_11 cb_36 ?_
      refine v_icmp_ge (tgt := 53) dX7_placeOfShare_13 (by decide) (fun c12 => ?_) (fun c12 => ?_)
      · replace h := ifP c12 h
        refine v_iconst (v := (-1)) dX7_placeOfShare_53 ci_m1 ?_
        cases h
        exact v_ireturn dX7_placeOfShare_54
      · replace h := ifN c12 h
        refine v_aload_n dX7_placeOfShare_16 rfl 0 rfl ?_
        obtain ⟨v2, e, h⟩ := bind_some h
        refine gt_X7_26 e dX7_placeOfShare_17 ?_
        refine v_iload_n dX7_placeOfShare_20 rfl 3 rfl ?_
        obtain ⟨v3, e, h⟩ := bind_some h
        refine al_6 e dX7_placeOfShare_21 ?_
        obtain ⟨v4, e, h⟩ := bind_some h
        refine gt_X7_168 e dX7_placeOfShare_22 ?_
        refine v_iload_n dX7_placeOfShare_25 rfl 2 rfl ?_
        refine v_icmp_ne (tgt := 47) dX7_placeOfShare_26 (by decide) (fun c11 => ?_) (fun c11 => ?_)
        · replace h := ifN c11 h
          refine v_iinc (ls' := [(3, .int (l3 + 1)), (0, .ref l0), (1, .ref l1), (2, .int l2)]) dX7_placeOfShare_47 3 rfl (v := 1) ci_1 (by decide) rfl ?_
          refine v_goto (tgt := 2) dX7_placeOfShare_50 (by decide) ?_
          refine v_sub [1, 2, 3, 0] rfl ?_
          exact ih l0 l1 l2 (l3 + 1) M h
        · replace h := ifP c11 h
          refine v_aload_n dX7_placeOfShare_29 rfl 0 rfl ?_
          obtain ⟨v5, e, h⟩ := bind_some h
          refine gt_X7_26 e dX7_placeOfShare_30 ?_
          refine v_iload_n dX7_placeOfShare_33 rfl 3 rfl ?_
          obtain ⟨v6, e, h⟩ := bind_some h
          refine al_6 e dX7_placeOfShare_34 ?_
          obtain ⟨v7, e, h⟩ := bind_some h
          refine gt_X7_165 e dX7_placeOfShare_35 ?_
          refine v_aload_n dX7_placeOfShare_38 rfl 1 rfl ?_
          obtain ⟨v9, M8, e, h⟩ := bindP_some h
          refine ca_X7_183 e dX7_placeOfShare_39 (Nat.le_of_ble_eq_true rfl) (by decide) ?_
          refine v_if_eq (tgt := 47) dX7_placeOfShare_42 (by decide) (fun c10 => ?_) (fun c10 => ?_)
          · replace h := ifP c10 h
            refine v_iinc (ls' := [(3, .int (l3 + 1)), (0, .ref l0), (1, .ref l1), (2, .int l2)]) dX7_placeOfShare_47 3 rfl (v := 1) ci_1 (by decide) rfl ?_
            refine v_goto (tgt := 2) dX7_placeOfShare_50 (by decide) ?_
            refine v_sub [1, 2, 3, 0] rfl ?_
            exact ih l0 l1 l2 (l3 + 1) M8 h
          · replace h := ifN c10 h
            refine v_iload_n dX7_placeOfShare_45 rfl 3 rfl ?_
            cases h
            exact v_ireturn dX7_placeOfShare_46
set_option maxHeartbeats 4000000 in
set_option maxRecDepth 100000 in
theorem w_X7_placeOfShare {G : Gl} {ρ0 : Nat → Nat} {M0 MF : Mem} {r : Int32} (l0 : Nat) (l1 : Nat) (l2 : Int32) (M : Mem) (h : f_X7_placeOfShare l0 l1 l2 M = some (r, MF)) : V G (RX7, cX7_placeOfShare, (some .int), 1, 22, 4, "placeOfShare", []) (ρ0, M0, cvI r, MF) 0 [(0, .ref l0), (1, .ref l1), (2, .int l2)] [] M := by
  unfold f_X7_placeOfShare at h
  replace h := (ifS h).2
  refine v_iconst (v := 0) dX7_placeOfShare_0 ci_0 ?_
  refine v_istore_n (ls' := [(3, .int (0 : Int32)), (0, .ref l0), (1, .ref l1), (2, .int l2)]) dX7_placeOfShare_1 rfl (by decide) rfl ?_
  refine v_sub [1, 2, 3, 0] rfl ?_
  exact w_X7_placeOfShare_L2 FU l0 l1 l2 (0 : Int32) M h
theorem kd_X7_placeOfShare {l0 : Nat} {l1 : Nat} {l2 : Int32} {M : Mem} {z : _} (h : f_X7_placeOfShare l0 l1 l2 M = some z) : (mK M l0).1 = 7 := by
  unfold f_X7_placeOfShare at h
  exact (ifS h).1
theorem k_X7_placeOfShare {G : Gl} {l0 : Nat} {l1 : Nat} {l2 : Int32} {M MF : Mem} {r : Int32} (h : f_X7_placeOfShare l0 l1 l2 M = some (r, MF)) : CtrP G yX7_placeOfShare cX7_placeOfShare 4 (some .int) 1 22 [.ref l0, .ref l1, .int l2] M (cvI r) MF :=
  ctr_of (by decide +kernel) (Nat.le_of_ble_eq_true rfl) (fun ρ => w_X7_placeOfShare l0 l1 l2 M h)
theorem wd_X7_161 : wdV RX7 161 RX7 yX7_placeOfShare cX7_placeOfShare 4 (some .int) 2 := ⟨gwi 914 (by decide +kernel) (by decide +kernel), gwi 915 (by decide +kernel) (by decide +kernel), gwi 916 (by decide +kernel) (by decide +kernel), nw_X7, gwi 917 (by decide +kernel) (by decide +kernel), ⟨rfl, by decide +kernel, by decide +kernel, by decide +kernel⟩⟩
theorem ca_X7_161 {G : Gl} {B : Bx} {cc : ByteArray} {ret : Option FieldType} {fr lo nL : Nat} {mn : String} {hh : List (Nat × Nat × Nat × Nat)} {pc : Nat} {ls : List (Nat × Value)} {st : List Value} {M M1 : Mem} {l0 : Nat} {l1 : Nat} {l2 : Int32} {x : Int32} (e : f_X7_placeOfShare l0 l1 l2 M = some (x, M1)) (hd : decode cc pc = .ok (.invokevirtual 161, 3)) (hcat : (st.map fun v => v.category).sum ≤ 8) (hR : 1 + 1 ≤ fr ∧ 8 + (4 + 11) + 22 ≤ lo) (k : V G (RX7, cc, ret, fr, lo, nL, mn, hh) B (pc + 3) ls (.int x :: st) M1) : V G (RX7, cc, ret, fr, lo, nL, mn, hh) B pc ls (.int l2 :: .ref l1 :: .ref l0 :: st) M := v_callVi (As := [.ref l1, .int l2]) (k_X7_placeOfShare e) wd_X7_161 clX7 (kd_X7_placeOfShare e) hd rfl rfl hcat hR k
set_option maxHeartbeats 4000000 in
set_option maxRecDepth 100000 in
theorem w_X7_addSubscription_J97 {G : Gl} {ρ0 : Nat → Nat} {M0 MF : Mem} {r : Unit} (l0 : Nat) (l1 : Int32) (l4 : Int32) (M : Mem) (h : f_X7_addSubscription_J97 l0 l1 l4 M = some MF) : V G (RX7, cX7_addSubscription, none, 2, 45, 5, "addSubscription", []) (ρ0, M0, cvV r, MF) 97 [(0, .ref l0), (1, .int l1), (4, .int l4)] [] M := by
  unfold f_X7_addSubscription_J97 at h
  refine v_iload dX7_addSubscription_97 2 rfl ?_
  refine v_if_lt (tgt := 113) dX7_addSubscription_99 (by decide) (fun c4 => ?_) (fun c4 => ?_)
  · replace h := ifP c4 h
    cases h
    exact v_vreturn dX7_addSubscription_113
  · replace h := ifN c4 h
    refine v_aload_n dX7_addSubscription_102 rfl 0 rfl ?_
    obtain ⟨v1, e, h⟩ := bind_some h
    refine gt_X7_26 e dX7_addSubscription_103 ?_
    refine v_iload dX7_addSubscription_106 2 rfl ?_
    obtain ⟨v2, e, h⟩ := bind_some h
    refine al_6 e dX7_addSubscription_108 ?_
    refine v_iload_n dX7_addSubscription_109 rfl 1 rfl ?_
    obtain ⟨M3, e, h⟩ := bind_some h
    refine ca_X7_174 e dX7_addSubscription_110 (Nat.le_of_ble_eq_true rfl) (by decide) ?_
    cases h
    exact v_vreturn dX7_addSubscription_113
set_option maxHeartbeats 4000000 in
set_option maxRecDepth 100000 in
theorem w_X7_addSubscription {G : Gl} {ρ0 : Nat → Nat} {M0 MF : Mem} {r : Unit} (l0 : Nat) (l1 : Int32) (l2 : Nat) (l3 : Int32) (M : Mem) (h : f_X7_addSubscription l0 l1 l2 l3 M = some MF) : V G (RX7, cX7_addSubscription, none, 2, 45, 5, "addSubscription", []) (ρ0, M0, cvV r, MF) 0 [(0, .ref l0), (1, .int l1), (2, .ref l2), (3, .int l3)] [] M := by
  unfold f_X7_addSubscription at h
  replace h := (ifS h).2
  refine v_aload_n dX7_addSubscription_0 rfl 0 rfl ?_
  obtain ⟨v1, e, h⟩ := bind_some h
  refine gt_X7_17 e dX7_addSubscription_1 ?_
  refine v_iload_n dX7_addSubscription_4 rfl 1 rfl ?_
  obtain ⟨v2, e, h⟩ := bind_some h
  refine al_0 e dX7_addSubscription_5 ?_
  obtain ⟨v3, e, h⟩ := bind_some h
  refine gt_X7_95 e dX7_addSubscription_6 ?_
  refine v_aload_n dX7_addSubscription_9 rfl 2 rfl ?_
  refine v_iload_n dX7_addSubscription_10 rfl 3 rfl ?_
  obtain ⟨M4, e, h⟩ := bind_some h
  refine ca_X7_157 e dX7_addSubscription_11 (Nat.le_of_ble_eq_true rfl) (by decide) ?_
  refine v_iload_n dX7_addSubscription_14 rfl 3 rfl ?_
  refine v_if_ne (tgt := 19) dX7_addSubscription_15 (by decide) (fun c24 => ?_) (fun c24 => ?_)
  · replace h := ifN c24 h
    refine v_aload_n dX7_addSubscription_19 rfl 0 rfl ?_
    refine v_aload_n dX7_addSubscription_20 rfl 2 rfl ?_
    refine v_iload_n dX7_addSubscription_21 rfl 3 rfl ?_
    obtain ⟨v6, M5, e, h⟩ := bindP_some h
    refine ca_X7_161 e dX7_addSubscription_22 (Nat.le_of_ble_eq_true rfl) (by decide) ?_
    refine v_istore (ls' := [(4, .int v6), (0, .ref l0), (1, .int l1), (2, .ref l2), (3, .int l3)]) dX7_addSubscription_25 (by decide) rfl ?_
    refine v_iload dX7_addSubscription_27 0 rfl ?_
    refine v_if_ge (tgt := 97) dX7_addSubscription_29 (by decide) (fun c23 => ?_) (fun c23 => ?_)
    · replace h := ifP c23 h
      refine v_sub [1, 2, 0] rfl ?_
      exact w_X7_addSubscription_J97 l0 l1 v6 M5 h
    · replace h := ifN c23 h
      refine v_aload_n dX7_addSubscription_32 rfl 1 rfl ?_
      obtain ⟨v7, e, h⟩ := bind_some h
      refine gt_X7_63 e dX7_addSubscription_33 ?_
      refine v_if_lt (tgt := 97) dX7_addSubscription_36 (by decide) (fun c22 => ?_) (fun c22 => ?_)
      · replace h := ifP c22 h
        refine v_sub [1, 2, 0] rfl ?_
        exact w_X7_addSubscription_J97 l0 l1 v6 M5 h
      · replace h := ifN c22 h
        refine v_aload_n dX7_addSubscription_39 rfl 1 rfl ?_
        obtain ⟨v8, e, h⟩ := bind_some h
        refine gt_X7_63 e dX7_addSubscription_40 ?_
        refine v_bipush (v := 36) dX7_addSubscription_43 cb_36 ?_
        refine v_icmp_ge (tgt := 97) dX7_addSubscription_45 (by decide) (fun c21 => ?_) (fun c21 => ?_)
        · replace h := ifP c21 h
          refine v_sub [1, 2, 0] rfl ?_
          exact w_X7_addSubscription_J97 l0 l1 v6 M5 h
        · replace h := ifN c21 h
          refine v_aload_n dX7_addSubscription_48 rfl 1 rfl ?_
          obtain ⟨v9, e, h⟩ := bind_some h
          refine gt_X7_63 e dX7_addSubscription_49 ?_
          refine v_istore (ls' := [(4, .int v9), (0, .ref l0), (1, .int l1), (2, .ref l2), (3, .int l3)]) dX7_addSubscription_52 (by decide) rfl ?_
          refine v_aload_n dX7_addSubscription_54 rfl 1 rfl ?_
          obtain ⟨v10, e, h⟩ := bind_some h
          refine gt_X7_26 e dX7_addSubscription_55 ?_
          refine v_iload dX7_addSubscription_58 0 rfl ?_
          obtain ⟨v11, e, h⟩ := bind_some h
          refine al_6 e dX7_addSubscription_60 ?_
          refine v_aload_n dX7_addSubscription_61 rfl 3 rfl ?_
          obtain ⟨M12, e, h⟩ := bind_some h
          refine pt_X7_165 e dX7_addSubscription_62 ?_
          refine v_aload_n dX7_addSubscription_65 rfl 1 rfl ?_
          obtain ⟨v13, e, h⟩ := bind_some h
          refine gt_X7_26 e dX7_addSubscription_66 ?_
          refine v_iload dX7_addSubscription_69 0 rfl ?_
          obtain ⟨v14, e, h⟩ := bind_some h
          refine al_6 e dX7_addSubscription_71 ?_
          refine v_iload_n dX7_addSubscription_72 rfl 4 rfl ?_
          obtain ⟨M15, e, h⟩ := bind_some h
          refine pt_X7_168 e dX7_addSubscription_73 ?_
          refine v_aload_n dX7_addSubscription_76 rfl 1 rfl ?_
          obtain ⟨v16, e, h⟩ := bind_some h
          refine gt_X7_26 e dX7_addSubscription_77 ?_
          refine v_iload dX7_addSubscription_80 0 rfl ?_
          obtain ⟨v17, e, h⟩ := bind_some h
          refine al_6 e dX7_addSubscription_82 ?_
          refine v_iconst (v := 0) dX7_addSubscription_83 ci_0 ?_
          obtain ⟨M18, e, h⟩ := bind_some h
          refine pt_X7_171 e dX7_addSubscription_84 ?_
          refine v_aload_n dX7_addSubscription_87 rfl 1 rfl ?_
          refine v_dup dX7_addSubscription_88 rfl ?_
          obtain ⟨v19, e, h⟩ := bind_some h
          refine gt_X7_63 e dX7_addSubscription_89 ?_
          refine v_iconst (v := 1) dX7_addSubscription_92 ci_1 ?_
          refine v_iadd dX7_addSubscription_93 ?_
          obtain ⟨M20, e, h⟩ := bind_some h
          refine pt_X7_63 e dX7_addSubscription_94 ?_
          refine v_sub [1, 2, 0] rfl ?_
          exact w_X7_addSubscription_J97 l0 l1 v9 M20 h
  · replace h := ifP c24 h
    cases h
    exact v_vreturn dX7_addSubscription_18
theorem kd_X7_addSubscription {l0 : Nat} {l1 : Int32} {l2 : Nat} {l3 : Int32} {M : Mem} {z : _} (h : f_X7_addSubscription l0 l1 l2 l3 M = some z) : (mK M l0).1 = 7 := by
  unfold f_X7_addSubscription at h
  exact (ifS h).1
theorem k_X7_addSubscription {G : Gl} {l0 : Nat} {l1 : Int32} {l2 : Nat} {l3 : Int32} {M MF : Mem} (h : f_X7_addSubscription l0 l1 l2 l3 M = some MF) : CtrP G yX7_addSubscription cX7_addSubscription 5 none 2 45 [.ref l0, .int l1, .ref l2, .int l3] M (cvV ()) MF :=
  ctr_of (by decide +kernel) (Nat.le_of_ble_eq_true rfl) (fun ρ => w_X7_addSubscription (r := ()) l0 l1 l2 l3 M h)
theorem wd_X11_158 : wdV RX11 158 RX7 yX7_addSubscription cX7_addSubscription 5 none 3 := ⟨gwi 906 (by decide +kernel) (by decide +kernel), gwi 907 (by decide +kernel) (by decide +kernel), gwi 908 (by decide +kernel) (by decide +kernel), nw_X7, gwi 909 (by decide +kernel) (by decide +kernel), ⟨rfl, by decide +kernel, by decide +kernel, by decide +kernel⟩⟩
theorem ca_X11_158 {G : Gl} {B : Bx} {cc : ByteArray} {ret : Option FieldType} {fr lo nL : Nat} {mn : String} {hh : List (Nat × Nat × Nat × Nat)} {pc : Nat} {ls : List (Nat × Value)} {st : List Value} {M M1 : Mem} {l0 : Nat} {l1 : Int32} {l2 : Nat} {l3 : Int32} (e : f_X7_addSubscription l0 l1 l2 l3 M = some M1) (hd : decode cc pc = .ok (.invokevirtual 158, 3)) (hcat : (st.map fun v => v.category).sum ≤ 8) (hR : 2 + 1 ≤ fr ∧ 8 + (5 + 11) + 45 ≤ lo) (k : V G (RX11, cc, ret, fr, lo, nL, mn, hh) B (pc + 3) ls (st) M1) : V G (RX11, cc, ret, fr, lo, nL, mn, hh) B pc ls (.int l3 :: .ref l2 :: .int l1 :: .ref l0 :: st) M := v_callV0 (As := [.int l1, .ref l2, .int l3]) (k_X7_addSubscription e) wd_X11_158 clX7 (kd_X7_addSubscription e) hd rfl rfl hcat hR k
set_option maxHeartbeats 4000000 in
set_option maxRecDepth 100000 in
theorem w_X7_removeSubscription {G : Gl} {ρ0 : Nat → Nat} {M0 MF : Mem} {r : Int32} (l0 : Nat) (l1 : Int32) (l2 : Nat) (l3 : Int32) (M : Mem) (h : f_X7_removeSubscription l0 l1 l2 l3 M = some (r, MF)) : V G (RX7, cX7_removeSubscription, (some .boolean), 2, 47, 6, "removeSubscription", []) (ρ0, M0, cvI r, MF) 0 [(0, .ref l0), (1, .int l1), (2, .ref l2), (3, .int l3)] [] M := by
  unfold f_X7_removeSubscription at h
  replace h := (ifS h).2
  refine v_aload_n dX7_removeSubscription_0 rfl 0 rfl ?_
  obtain ⟨v1, e, h⟩ := bind_some h
  refine gt_X7_17 e dX7_removeSubscription_1 ?_
  refine v_iload_n dX7_removeSubscription_4 rfl 1 rfl ?_
  obtain ⟨v2, e, h⟩ := bind_some h
  refine al_0 e dX7_removeSubscription_5 ?_
  obtain ⟨v3, e, h⟩ := bind_some h
  refine gt_X7_95 e dX7_removeSubscription_6 ?_
  refine v_astore (ls' := [(4, .ref v3), (0, .ref l0), (1, .int l1), (2, .ref l2), (3, .int l3)]) dX7_removeSubscription_9 (by decide) rfl ?_
  refine v_aload dX7_removeSubscription_11 0 rfl ?_
  refine v_aload_n dX7_removeSubscription_13 rfl 3 rfl ?_
  refine v_iload_n dX7_removeSubscription_14 rfl 4 rfl ?_
  obtain ⟨v5, M4, e, h⟩ := bindP_some h
  refine ca_X7_177 e dX7_removeSubscription_15 (Nat.le_of_ble_eq_true rfl) (by decide) ?_
  refine v_istore (ls' := [(5, .int v5), (4, .ref v3), (0, .ref l0), (1, .int l1), (2, .ref l2), (3, .int l3)]) dX7_removeSubscription_18 (by decide) rfl ?_
  refine v_iload dX7_removeSubscription_20 0 rfl ?_
  refine v_if_ge (tgt := 27) dX7_removeSubscription_22 (by decide) (fun c11 => ?_) (fun c11 => ?_)
  · replace h := ifP c11 h
    refine v_aload dX7_removeSubscription_27 1 rfl ?_
    refine v_iload dX7_removeSubscription_29 0 rfl ?_
    obtain ⟨M6, e, h⟩ := bind_some h
    refine ca_X7_180 e dX7_removeSubscription_31 (Nat.le_of_ble_eq_true rfl) (by decide) ?_
    refine v_iload_n dX7_removeSubscription_34 rfl 5 rfl ?_
    refine v_if_eq (tgt := 49) dX7_removeSubscription_35 (by decide) (fun c10 => ?_) (fun c10 => ?_)
    · replace h := ifP c10 h
      refine v_iconst (v := 1) dX7_removeSubscription_49 ci_1 ?_
      obtain ⟨hz, rfl, rfl⟩ := okZ_some h
      exact v_zreturn dX7_removeSubscription_50 hz
    · replace h := ifN c10 h
      refine v_aload_n dX7_removeSubscription_38 rfl 2 rfl ?_
      refine v_aload_n dX7_removeSubscription_39 rfl 2 rfl ?_
      refine v_aload_n dX7_removeSubscription_40 rfl 4 rfl ?_
      refine v_iload_n dX7_removeSubscription_41 rfl 5 rfl ?_
      obtain ⟨v8, M7, e, h⟩ := bindP_some h
      refine ca_X7_161 e dX7_removeSubscription_42 (Nat.le_of_ble_eq_true rfl) (by decide) ?_
      refine v_iload_n dX7_removeSubscription_45 rfl 3 rfl ?_
      obtain ⟨M9, e, h⟩ := bind_some h
      refine ca_X7_134 e dX7_removeSubscription_46 (Nat.le_of_ble_eq_true rfl) (by decide) ?_
      refine v_iconst (v := 1) dX7_removeSubscription_49 ci_1 ?_
      obtain ⟨hz, rfl, rfl⟩ := okZ_some h
      exact v_zreturn dX7_removeSubscription_50 hz
  · replace h := ifN c11 h
    refine v_iconst (v := 0) dX7_removeSubscription_25 ci_0 ?_
    obtain ⟨hz, rfl, rfl⟩ := okZ_some h
    exact v_zreturn dX7_removeSubscription_26 hz
theorem kd_X7_removeSubscription {l0 : Nat} {l1 : Int32} {l2 : Nat} {l3 : Int32} {M : Mem} {z : _} (h : f_X7_removeSubscription l0 l1 l2 l3 M = some z) : (mK M l0).1 = 7 := by
  unfold f_X7_removeSubscription at h
  exact (ifS h).1
theorem k_X7_removeSubscription {G : Gl} {l0 : Nat} {l1 : Int32} {l2 : Nat} {l3 : Int32} {M MF : Mem} {r : Int32} (h : f_X7_removeSubscription l0 l1 l2 l3 M = some (r, MF)) : CtrP G yX7_removeSubscription cX7_removeSubscription 6 (some .boolean) 2 47 [.ref l0, .int l1, .ref l2, .int l3] M (cvI r) MF :=
  ctr_of (by decide +kernel) (Nat.le_of_ble_eq_true rfl) (fun ρ => w_X7_removeSubscription l0 l1 l2 l3 M h)
theorem wd_X11_176 : wdV RX11 176 RX7 yX7_removeSubscription cX7_removeSubscription 6 (some .boolean) 3 := ⟨gwi 929 (by decide +kernel) (by decide +kernel), gwi 930 (by decide +kernel) (by decide +kernel), gwi 931 (by decide +kernel) (by decide +kernel), nw_X7, gwi 932 (by decide +kernel) (by decide +kernel), ⟨rfl, by decide +kernel, by decide +kernel, by decide +kernel⟩⟩
theorem ca_X11_176 {G : Gl} {B : Bx} {cc : ByteArray} {ret : Option FieldType} {fr lo nL : Nat} {mn : String} {hh : List (Nat × Nat × Nat × Nat)} {pc : Nat} {ls : List (Nat × Value)} {st : List Value} {M M1 : Mem} {l0 : Nat} {l1 : Int32} {l2 : Nat} {l3 : Int32} {x : Int32} (e : f_X7_removeSubscription l0 l1 l2 l3 M = some (x, M1)) (hd : decode cc pc = .ok (.invokevirtual 176, 3)) (hcat : (st.map fun v => v.category).sum ≤ 8) (hR : 2 + 1 ≤ fr ∧ 8 + (6 + 11) + 47 ≤ lo) (k : V G (RX11, cc, ret, fr, lo, nL, mn, hh) B (pc + 3) ls (.int x :: st) M1) : V G (RX11, cc, ret, fr, lo, nL, mn, hh) B pc ls (.int l3 :: .ref l2 :: .int l1 :: .ref l0 :: st) M := v_callVi (As := [.int l1, .ref l2, .int l3]) (k_X7_removeSubscription e) wd_X11_176 clX7 (kd_X7_removeSubscription e) hd rfl rfl hcat hR k
set_option maxHeartbeats 4000000 in
set_option maxRecDepth 100000 in
theorem w_X7_countAudience_L52 {G : Gl} {ρ0 : Nat → Nat} {M0 MF : Mem} {r : Int32} : ∀ (n : Nat) (l0 : Nat) (l2 : Nat) (l3 : Int32) (l4 : Int32) (M : Mem), f_X7_countAudience_L52 n l0 l2 l3 l4 M = some (r, MF) → V G (RX7, cX7_countAudience, (some .int), 4, 93, 5, "countAudience", []) (ρ0, M0, cvI r, MF) 52 [(0, .ref l0), (2, .ref l2), (3, .int l3), (4, .int l4)] [] M := by
  intro n
  induction n with
  | zero => intro l0 l2 l3 l4 M h; cases h
  | succ n ih =>
    intro l0 l2 l3 l4 M h
    rw [f_X7_countAudience_L52] at h
    refine v_iload dX7_countAudience_52 3 rfl ?_
    refine v_aload_n dX7_countAudience_54 rfl 0 rfl ?_
    obtain ⟨v1, e, h⟩ := bind_some h
    refine gt_X7_63 e dX7_countAudience_55 ?_
    refine v_icmp_ge (tgt := 94) dX7_countAudience_58 (by decide) (fun c9 => ?_) (fun c9 => ?_)
    · replace h := ifP c9 h
      refine v_iload_n dX7_countAudience_94 rfl 2 rfl ?_
      cases h
      exact v_ireturn dX7_countAudience_95
    · replace h := ifN c9 h
      refine v_iload dX7_countAudience_61 3 rfl ?_
      refine v_bipush (v := 36) dX7_countAudience_63 cb_36 ?_
      refine v_icmp_ge (tgt := 94) dX7_countAudience_65 (by decide) (fun c8 => ?_) (fun c8 => ?_)
      · replace h := ifP c8 h
        refine v_iload_n dX7_countAudience_94 rfl 2 rfl ?_
        cases h
        exact v_ireturn dX7_countAudience_95
      · replace h := ifN c8 h
        refine v_aload_n dX7_countAudience_68 rfl 0 rfl ?_
        obtain ⟨v2, e, h⟩ := bind_some h
        refine gt_X7_26 e dX7_countAudience_69 ?_
        refine v_iload dX7_countAudience_72 3 rfl ?_
        obtain ⟨v3, e, h⟩ := bind_some h
        refine al_6 e dX7_countAudience_74 ?_
        obtain ⟨v4, e, h⟩ := bind_some h
        refine gt_X7_165 e dX7_countAudience_75 ?_
        refine v_aload_n dX7_countAudience_78 rfl 1 rfl ?_
        obtain ⟨v6, M5, e, h⟩ := bindP_some h
        refine ca_X7_214 e dX7_countAudience_79 (Nat.le_of_ble_eq_true rfl) (by decide) ?_
        refine v_if_eq (tgt := 88) dX7_countAudience_82 (by decide) (fun c7 => ?_) (fun c7 => ?_)
        · replace h := ifP c7 h
          refine v_iinc (ls' := [(4, .int (l4 + 1)), (0, .ref l0), (2, .ref l2), (3, .int l3)]) dX7_countAudience_88 3 rfl (v := 1) ci_1 (by decide) rfl ?_
          refine v_goto (tgt := 52) dX7_countAudience_91 (by decide) ?_
          refine v_sub [1, 2, 3, 0] rfl ?_
          exact ih l0 l2 l3 (l4 + 1) M5 h
        · replace h := ifN c7 h
          refine v_iinc (ls' := [(3, .int (l3 + 1)), (0, .ref l0), (2, .ref l2), (4, .int l4)]) dX7_countAudience_85 2 rfl (v := 1) ci_1 (by decide) rfl ?_
          refine v_iinc (ls' := [(4, .int (l4 + 1)), (3, .int (l3 + 1)), (0, .ref l0), (2, .ref l2)]) dX7_countAudience_88 3 rfl (v := 1) ci_1 (by decide) rfl ?_
          refine v_goto (tgt := 52) dX7_countAudience_91 (by decide) ?_
          refine v_sub [2, 3, 1, 0] rfl ?_
          exact ih l0 l2 (l3 + 1) (l4 + 1) M5 h
set_option maxHeartbeats 4000000 in
set_option maxRecDepth 100000 in
theorem w_X7_countAudience_J34 {G : Gl} {ρ0 : Nat → Nat} {M0 MF : Mem} {r : Int32} (k5 : Nat → Int32 → Nat → Int32 → Int32 → Mem → Option (Int32 × Mem)) (h5 : ∀ (l0 : Nat) (l1 : Int32) (l2 : Nat) (l3 : Int32) (l4 : Int32) (M : Mem), k5 l0 l1 l2 l3 l4 M = some (r, MF) → V G (RX7, cX7_countAudience, (some .int), 4, 93, 5, "countAudience", []) (ρ0, M0, cvI r, MF) 5 [(0, .ref l0), (1, .int l1), (2, .ref l2), (3, .int l3), (4, .int l4)] [] M) (l0 : Nat) (l1 : Int32) (l2 : Nat) (l3 : Int32) (l4 : Int32) (s0 : Int32) (s1 : Nat) (s2 : Nat) (M : Mem) (h : f_X7_countAudience_J34 k5 l0 l1 l2 l3 l4 s0 s1 s2 M = some (r, MF)) : V G (RX7, cX7_countAudience, (some .int), 4, 93, 5, "countAudience", []) (ρ0, M0, cvI r, MF) 34 [(0, .ref l0), (1, .int l1), (2, .ref l2), (3, .int l3), (4, .int l4)] [.int s0, .ref s1, .ref s2] M := by
  unfold f_X7_countAudience_J34 at h
  obtain ⟨v2, M1, e, h⟩ := bindP_some h
  refine ca_X7_203 e dX7_countAudience_34 (Nat.le_of_ble_eq_true rfl) (by decide) ?_
  refine v_if_lt (tgt := 43) dX7_countAudience_37 (by decide) (fun c3 => ?_) (fun c3 => ?_)
  · replace h := ifP c3 h
    refine v_iinc (ls' := [(4, .int (l4 + 1)), (0, .ref l0), (1, .int l1), (2, .ref l2), (3, .int l3)]) dX7_countAudience_43 4 rfl (v := 1) ci_1 (by decide) rfl ?_
    refine v_goto (tgt := 5) dX7_countAudience_46 (by decide) ?_
    refine v_sub [1, 2, 3, 4, 0] rfl ?_
    exact h5 l0 l1 l2 l3 (l4 + 1) M1 h
  · replace h := ifN c3 h
    refine v_iinc (ls' := [(3, .int (l3 + 1)), (0, .ref l0), (1, .int l1), (2, .ref l2), (4, .int l4)]) dX7_countAudience_40 3 rfl (v := 1) ci_1 (by decide) rfl ?_
    refine v_iinc (ls' := [(4, .int (l4 + 1)), (3, .int (l3 + 1)), (0, .ref l0), (1, .int l1), (2, .ref l2)]) dX7_countAudience_43 4 rfl (v := 1) ci_1 (by decide) rfl ?_
    refine v_goto (tgt := 5) dX7_countAudience_46 (by decide) ?_
    refine v_sub [2, 3, 4, 1, 0] rfl ?_
    exact h5 l0 l1 l2 (l3 + 1) (l4 + 1) M1 h
set_option maxHeartbeats 4000000 in
set_option maxRecDepth 100000 in
theorem w_X7_countAudience_L5 {G : Gl} {ρ0 : Nat → Nat} {M0 MF : Mem} {r : Int32} : ∀ (n : Nat) (l0 : Nat) (l1 : Int32) (l2 : Nat) (l3 : Int32) (l4 : Int32) (M : Mem), f_X7_countAudience_L5 n l0 l1 l2 l3 l4 M = some (r, MF) → V G (RX7, cX7_countAudience, (some .int), 4, 93, 5, "countAudience", []) (ρ0, M0, cvI r, MF) 5 [(0, .ref l0), (1, .int l1), (2, .ref l2), (3, .int l3), (4, .int l4)] [] M := by
  intro n
  induction n with
  | zero => intro l0 l1 l2 l3 l4 M h; cases h
  | succ n ih =>
    intro l0 l1 l2 l3 l4 M h
    rw [f_X7_countAudience_L5] at h
    refine v_iload dX7_countAudience_5 4 rfl ?_
    refine v_bipush (v := 6) dX7_countAudience_7 cb_6 ?_
    refine v_icmp_ge (tgt := 49) dX7_countAudience_9 (by decide) (fun c5 => ?_) (fun c5 => ?_)
    · replace h := ifP c5 h
      refine v_iconst (v := 0) dX7_countAudience_49 ci_0 ?_
      refine v_istore (ls' := [(4, .int (0 : Int32)), (0, .ref l0), (1, .int l1), (2, .ref l2), (3, .int l3)]) dX7_countAudience_50 (by decide) rfl ?_
      refine v_sub [1, 3, 4, 0] rfl ?_
      exact w_X7_countAudience_L52 FU l0 l2 l3 (0 : Int32) M h
    · replace h := ifN c5 h
      refine v_aload_n dX7_countAudience_12 rfl 0 rfl ?_
      obtain ⟨v1, e, h⟩ := bind_some h
      refine gt_X7_17 e dX7_countAudience_13 ?_
      refine v_iload dX7_countAudience_16 4 rfl ?_
      obtain ⟨v2, e, h⟩ := bind_some h
      refine al_0 e dX7_countAudience_18 ?_
      obtain ⟨v3, e, h⟩ := bind_some h
      refine gt_X7_95 e dX7_countAudience_19 ?_
      refine v_aload_n dX7_countAudience_22 rfl 2 rfl ?_
      refine v_iload dX7_countAudience_23 4 rfl ?_
      refine v_iload_n dX7_countAudience_25 rfl 1 rfl ?_
      refine v_icmp_ne (tgt := 33) dX7_countAudience_26 (by decide) (fun c4 => ?_) (fun c4 => ?_)
      · replace h := ifN c4 h
        refine v_iconst (v := 0) dX7_countAudience_33 ci_0 ?_
        exact w_X7_countAudience_J34 (f_X7_countAudience_L5 n) ih l0 l1 l2 l3 l4 (0 : Int32) l2 v3 M h
      · replace h := ifP c4 h
        refine v_iconst (v := 1) dX7_countAudience_29 ci_1 ?_
        refine v_goto (tgt := 34) dX7_countAudience_30 (by decide) ?_
        exact w_X7_countAudience_J34 (f_X7_countAudience_L5 n) ih l0 l1 l2 l3 l4 (1 : Int32) l2 v3 M h
set_option maxHeartbeats 4000000 in
set_option maxRecDepth 100000 in
theorem w_X7_countAudience {G : Gl} {ρ0 : Nat → Nat} {M0 MF : Mem} {r : Int32} (l0 : Nat) (l1 : Int32) (l2 : Nat) (M : Mem) (h : f_X7_countAudience l0 l1 l2 M = some (r, MF)) : V G (RX7, cX7_countAudience, (some .int), 4, 93, 5, "countAudience", []) (ρ0, M0, cvI r, MF) 0 [(0, .ref l0), (1, .int l1), (2, .ref l2)] [] M := by
  unfold f_X7_countAudience at h
  replace h := (ifS h).2
  refine v_iconst (v := 0) dX7_countAudience_0 ci_0 ?_
  refine v_istore_n (ls' := [(3, .int (0 : Int32)), (0, .ref l0), (1, .int l1), (2, .ref l2)]) dX7_countAudience_1 rfl (by decide) rfl ?_
  refine v_iconst (v := 0) dX7_countAudience_2 ci_0 ?_
  refine v_istore (ls' := [(4, .int (0 : Int32)), (3, .int (0 : Int32)), (0, .ref l0), (1, .int l1), (2, .ref l2)]) dX7_countAudience_3 (by decide) rfl ?_
  refine v_sub [2, 3, 4, 1, 0] rfl ?_
  exact w_X7_countAudience_L5 FU l0 l1 l2 (0 : Int32) (0 : Int32) M h
theorem kd_X7_countAudience {l0 : Nat} {l1 : Int32} {l2 : Nat} {M : Mem} {z : _} (h : f_X7_countAudience l0 l1 l2 M = some z) : (mK M l0).1 = 7 := by
  unfold f_X7_countAudience at h
  exact (ifS h).1
theorem k_X7_countAudience {G : Gl} {l0 : Nat} {l1 : Int32} {l2 : Nat} {M MF : Mem} {r : Int32} (h : f_X7_countAudience l0 l1 l2 M = some (r, MF)) : CtrP G yX7_countAudience cX7_countAudience 5 (some .int) 4 93 [.ref l0, .int l1, .ref l2] M (cvI r) MF :=
  ctr_of (by decide +kernel) (Nat.le_of_ble_eq_true rfl) (fun ρ => w_X7_countAudience l0 l1 l2 M h)
theorem wd_X11_238 : wdV RX11 238 RX7 yX7_countAudience cX7_countAudience 5 (some .int) 2 := ⟨gwi 1018 (by decide +kernel) (by decide +kernel), gwi 1019 (by decide +kernel) (by decide +kernel), gwi 1020 (by decide +kernel) (by decide +kernel), nw_X7, gwi 1021 (by decide +kernel) (by decide +kernel), ⟨rfl, by decide +kernel, by decide +kernel, by decide +kernel⟩⟩
theorem ca_X11_238 {G : Gl} {B : Bx} {cc : ByteArray} {ret : Option FieldType} {fr lo nL : Nat} {mn : String} {hh : List (Nat × Nat × Nat × Nat)} {pc : Nat} {ls : List (Nat × Value)} {st : List Value} {M M1 : Mem} {l0 : Nat} {l1 : Int32} {l2 : Nat} {x : Int32} (e : f_X7_countAudience l0 l1 l2 M = some (x, M1)) (hd : decode cc pc = .ok (.invokevirtual 238, 3)) (hcat : (st.map fun v => v.category).sum ≤ 8) (hR : 4 + 1 ≤ fr ∧ 8 + (5 + 11) + 93 ≤ lo) (k : V G (RX11, cc, ret, fr, lo, nL, mn, hh) B (pc + 3) ls (.int x :: st) M1) : V G (RX11, cc, ret, fr, lo, nL, mn, hh) B pc ls (.ref l2 :: .int l1 :: .ref l0 :: st) M := v_callVi (As := [.int l1, .ref l2]) (k_X7_countAudience e) wd_X11_238 clX7 (kd_X7_countAudience e) hd rfl rfl hcat hR k
set_option maxHeartbeats 4000000 in
set_option maxRecDepth 100000 in
theorem w_X7_giveRetained_L3 {G : Gl} {ρ0 : Nat → Nat} {M0 MF : Mem} {r : Unit} : ∀ (n : Nat) (l0 : Nat) (l1 : Int32) (l2 : Nat) (l3 : Int32) (l4 : Int32) (M : Mem), f_X7_giveRetained_L3 n l0 l1 l2 l3 l4 M = some MF → V G (RX7, cX7_giveRetained, none, 4, 92, 6, "giveRetained", []) (ρ0, M0, cvV r, MF) 3 [(0, .ref l0), (1, .int l1), (2, .ref l2), (3, .int l3), (4, .int l4)] [] M := by
  intro n
  induction n with
  | zero => intro l0 l1 l2 l3 l4 M h; cases h
  | succ n ih =>
    intro l0 l1 l2 l3 l4 M h
    rw [f_X7_giveRetained_L3] at h
    refine v_iload dX7_giveRetained_3 4 rfl ?_
    refine v_aload_n dX7_giveRetained_5 rfl 0 rfl ?_
    obtain ⟨v1, e, h⟩ := bind_some h
    refine gt_X7_70 e dX7_giveRetained_6 ?_
    refine v_icmp_ge (tgt := 68) dX7_giveRetained_9 (by decide) (fun c13 => ?_) (fun c13 => ?_)
    · replace h := ifP c13 h
      cases h
      exact v_vreturn dX7_giveRetained_68
    · replace h := ifN c13 h
      refine v_iload dX7_giveRetained_12 4 rfl ?_
      refine v_bipush (v := 8) dX7_giveRetained_14 cb_8 ?_
      refine v_icmp_ge (tgt := 68) dX7_giveRetained_16 (by decide) (fun c12 => ?_) (fun c12 => ?_)
      · replace h := ifP c12 h
        cases h
        exact v_vreturn dX7_giveRetained_68
      · replace h := ifN c12 h
        refine v_aload_n dX7_giveRetained_19 rfl 0 rfl ?_
        obtain ⟨v2, e, h⟩ := bind_some h
        refine gt_X7_33 e dX7_giveRetained_20 ?_
        refine v_iload dX7_giveRetained_23 4 rfl ?_
        obtain ⟨v3, e, h⟩ := bind_some h
        refine al_1 e dX7_giveRetained_25 ?_
        refine v_astore (ls' := [(5, .ref v3), (0, .ref l0), (1, .int l1), (2, .ref l2), (3, .int l3), (4, .int l4)]) dX7_giveRetained_26 (by decide) rfl ?_
        refine v_aload_n dX7_giveRetained_28 rfl 3 rfl ?_
        refine v_aload dX7_giveRetained_29 0 rfl ?_
        obtain ⟨v4, e, h⟩ := bind_some h
        refine gt_X7_195 e dX7_giveRetained_31 ?_
        obtain ⟨v6, M5, e, h⟩ := bindP_some h
        refine ca_X7_214 e dX7_giveRetained_34 (Nat.le_of_ble_eq_true rfl) (by decide) ?_
        refine v_if_eq (tgt := 62) dX7_giveRetained_37 (by decide) (fun c11 => ?_) (fun c11 => ?_)
        · replace h := ifP c11 h
          refine v_iinc (ls' := [(4, .int (l4 + 1)), (5, .ref v3), (0, .ref l0), (1, .int l1), (2, .ref l2), (3, .int l3)]) dX7_giveRetained_62 5 rfl (v := 1) ci_1 (by decide) rfl ?_
          refine v_goto (tgt := 3) dX7_giveRetained_65 (by decide) ?_
          refine v_sub [2, 3, 4, 5, 0] rfl ?_
          exact ih l0 l1 l2 l3 (l4 + 1) M5 h
        · replace h := ifN c11 h
          refine v_aload_n dX7_giveRetained_40 rfl 1 rfl ?_
          refine v_aload_n dX7_giveRetained_41 rfl 1 rfl ?_
          obtain ⟨v7, e, h⟩ := bind_some h
          refine gt_X7_17 e dX7_giveRetained_42 ?_
          refine v_iload_n dX7_giveRetained_45 rfl 2 rfl ?_
          obtain ⟨v8, e, h⟩ := bind_some h
          refine al_0 e dX7_giveRetained_46 ?_
          refine v_aload dX7_giveRetained_47 0 rfl ?_
          refine v_aload dX7_giveRetained_49 0 rfl ?_
          obtain ⟨v9, e, h⟩ := bind_some h
          refine gt_X7_207 e dX7_giveRetained_51 ?_
          refine v_iload_n dX7_giveRetained_54 rfl 4 rfl ?_
          refine mx_X7_128 dX7_giveRetained_55 (by decide) (Nat.le_of_ble_eq_true rfl) ?_
          refine v_iconst (v := 2) dX7_giveRetained_58 ci_2 ?_
          obtain ⟨M10, e, h⟩ := bind_some h
          refine ca_X7_210 e dX7_giveRetained_59 (Nat.le_of_ble_eq_true rfl) (by decide) ?_
          refine v_iinc (ls' := [(4, .int (l4 + 1)), (5, .ref v3), (0, .ref l0), (1, .int l1), (2, .ref l2), (3, .int l3)]) dX7_giveRetained_62 5 rfl (v := 1) ci_1 (by decide) rfl ?_
          refine v_goto (tgt := 3) dX7_giveRetained_65 (by decide) ?_
          refine v_sub [2, 3, 4, 5, 0] rfl ?_
          exact ih l0 l1 l2 l3 (l4 + 1) M10 h
set_option maxHeartbeats 4000000 in
set_option maxRecDepth 100000 in
theorem w_X7_giveRetained {G : Gl} {ρ0 : Nat → Nat} {M0 MF : Mem} {r : Unit} (l0 : Nat) (l1 : Int32) (l2 : Nat) (l3 : Int32) (M : Mem) (h : f_X7_giveRetained l0 l1 l2 l3 M = some MF) : V G (RX7, cX7_giveRetained, none, 4, 92, 6, "giveRetained", []) (ρ0, M0, cvV r, MF) 0 [(0, .ref l0), (1, .int l1), (2, .ref l2), (3, .int l3)] [] M := by
  unfold f_X7_giveRetained at h
  replace h := (ifS h).2
  refine v_iconst (v := 0) dX7_giveRetained_0 ci_0 ?_
  refine v_istore (ls' := [(4, .int (0 : Int32)), (0, .ref l0), (1, .int l1), (2, .ref l2), (3, .int l3)]) dX7_giveRetained_1 (by decide) rfl ?_
  refine v_sub [1, 2, 3, 4, 0] rfl ?_
  exact w_X7_giveRetained_L3 FU l0 l1 l2 l3 (0 : Int32) M h
theorem kd_X7_giveRetained {l0 : Nat} {l1 : Int32} {l2 : Nat} {l3 : Int32} {M : Mem} {z : _} (h : f_X7_giveRetained l0 l1 l2 l3 M = some z) : (mK M l0).1 = 7 := by
  unfold f_X7_giveRetained at h
  exact (ifS h).1
theorem k_X7_giveRetained {G : Gl} {l0 : Nat} {l1 : Int32} {l2 : Nat} {l3 : Int32} {M MF : Mem} (h : f_X7_giveRetained l0 l1 l2 l3 M = some MF) : CtrP G yX7_giveRetained cX7_giveRetained 6 none 4 92 [.ref l0, .int l1, .ref l2, .int l3] M (cvV ()) MF :=
  ctr_of (by decide +kernel) (Nat.le_of_ble_eq_true rfl) (fun ρ => w_X7_giveRetained (r := ()) l0 l1 l2 l3 M h)
theorem wd_X11_173 : wdV RX11 173 RX7 yX7_giveRetained cX7_giveRetained 6 none 3 := ⟨gwi 918 (by decide +kernel) (by decide +kernel), gwi 919 (by decide +kernel) (by decide +kernel), gwi 920 (by decide +kernel) (by decide +kernel), nw_X7, gwi 921 (by decide +kernel) (by decide +kernel), ⟨rfl, by decide +kernel, by decide +kernel, by decide +kernel⟩⟩
theorem ca_X11_173 {G : Gl} {B : Bx} {cc : ByteArray} {ret : Option FieldType} {fr lo nL : Nat} {mn : String} {hh : List (Nat × Nat × Nat × Nat)} {pc : Nat} {ls : List (Nat × Value)} {st : List Value} {M M1 : Mem} {l0 : Nat} {l1 : Int32} {l2 : Nat} {l3 : Int32} (e : f_X7_giveRetained l0 l1 l2 l3 M = some M1) (hd : decode cc pc = .ok (.invokevirtual 173, 3)) (hcat : (st.map fun v => v.category).sum ≤ 8) (hR : 4 + 1 ≤ fr ∧ 8 + (6 + 11) + 92 ≤ lo) (k : V G (RX11, cc, ret, fr, lo, nL, mn, hh) B (pc + 3) ls (st) M1) : V G (RX11, cc, ret, fr, lo, nL, mn, hh) B pc ls (.int l3 :: .ref l2 :: .int l1 :: .ref l0 :: st) M := v_callV0 (As := [.int l1, .ref l2, .int l3]) (k_X7_giveRetained e) wd_X11_173 clX7 (kd_X7_giveRetained e) hd rfl rfl hcat hR k
set_option maxHeartbeats 4000000 in
set_option maxRecDepth 100000 in
theorem w_X7_takeAnswer_J63 {G : Gl} {ρ0 : Nat → Nat} {M0 MF : Mem} {r : Int32} (l0 : Nat) (l1 : Nat) (l2 : Int32) (l4 : Nat) (l5 : Int32) (l6 : Nat) (M : Mem) (h : f_X7_takeAnswer_J63 l0 l1 l2 l4 l5 l6 M = some (r, MF)) : V G (RX7, cX7_takeAnswer, (some .boolean), 4, 91, 7, "takeAnswer", []) (ρ0, M0, cvI r, MF) 63 [(0, .ref l0), (1, .ref l1), (2, .int l2), (4, .ref l4), (5, .int l5), (6, .ref l6)] [] M := by
  unfold f_X7_takeAnswer_J63 at h
  refine v_aload dX7_takeAnswer_63 5 rfl ?_
  obtain ⟨v1, e, h⟩ := bind_some h
  refine gt_X7_274 e dX7_takeAnswer_65 ?_
  refine v_iload_n dX7_takeAnswer_68 rfl 2 rfl ?_
  refine v_icmp_eq (tgt := 74) dX7_takeAnswer_69 (by decide) (fun c7 => ?_) (fun c7 => ?_)
  · replace h := ifP c7 h
    refine v_aload_n dX7_takeAnswer_74 rfl 0 rfl ?_
    obtain ⟨v2, e, h⟩ := bind_some h
    refine gt_X7_45 e dX7_takeAnswer_75 ?_
    refine v_bipush (v := 9) dX7_takeAnswer_78 cb_9 ?_
    refine v_dup2 dX7_takeAnswer_80 rfl rfl ?_
    obtain ⟨v3, e, h⟩ := bind_some h
    refine v_iaload dX7_takeAnswer_81 e ?_
    refine v_iconst (v := 1) dX7_takeAnswer_82 ci_1 ?_
    refine v_iadd dX7_takeAnswer_83 ?_
    obtain ⟨M4, e, h⟩ := bind_some h
    refine v_iastore dX7_takeAnswer_84 e ?_
    refine v_aload dX7_takeAnswer_85 3 rfl ?_
    refine v_iload dX7_takeAnswer_87 4 rfl ?_
    obtain ⟨M5, e, h⟩ := bind_some h
    refine ca_X7_262 e dX7_takeAnswer_89 (Nat.le_of_ble_eq_true rfl) (by decide) ?_
    refine v_aload_n dX7_takeAnswer_92 rfl 0 rfl ?_
    refine v_aload_n dX7_takeAnswer_93 rfl 1 rfl ?_
    obtain ⟨M6, e, h⟩ := bind_some h
    refine ca_X7_154 e dX7_takeAnswer_94 (Nat.le_of_ble_eq_true rfl) (by decide) ?_
    refine v_iconst (v := 1) dX7_takeAnswer_97 ci_1 ?_
    obtain ⟨hz, rfl, rfl⟩ := okZ_some h
    exact v_zreturn dX7_takeAnswer_98 hz
  · replace h := ifN c7 h
    refine v_iconst (v := 0) dX7_takeAnswer_72 ci_0 ?_
    obtain ⟨hz, rfl, rfl⟩ := okZ_some h
    exact v_zreturn dX7_takeAnswer_73 hz
set_option maxHeartbeats 4000000 in
set_option maxRecDepth 100000 in
theorem w_X7_takeAnswer {G : Gl} {ρ0 : Nat → Nat} {M0 MF : Mem} {r : Int32} (l0 : Nat) (l1 : Nat) (l2 : Int32) (l3 : Int32) (M : Mem) (h : f_X7_takeAnswer l0 l1 l2 l3 M = some (r, MF)) : V G (RX7, cX7_takeAnswer, (some .boolean), 4, 91, 7, "takeAnswer", []) (ρ0, M0, cvI r, MF) 0 [(0, .ref l0), (1, .ref l1), (2, .int l2), (3, .int l3)] [] M := by
  unfold f_X7_takeAnswer at h
  replace h := (ifS h).2
  refine v_aload_n dX7_takeAnswer_0 rfl 1 rfl ?_
  obtain ⟨v1, e, h⟩ := bind_some h
  refine gt_X7_95 e dX7_takeAnswer_1 ?_
  obtain ⟨v2, e, h⟩ := bind_some h
  refine gt_X7_138 e dX7_takeAnswer_4 ?_
  refine v_astore (ls' := [(4, .ref v2), (0, .ref l0), (1, .ref l1), (2, .int l2), (3, .int l3)]) dX7_takeAnswer_7 (by decide) rfl ?_
  refine v_aload dX7_takeAnswer_9 0 rfl ?_
  refine v_iload_n dX7_takeAnswer_11 rfl 4 rfl ?_
  obtain ⟨v4, M3, e, h⟩ := bindP_some h
  refine ca_X7_280 e dX7_takeAnswer_12 (Nat.le_of_ble_eq_true rfl) (by decide) ?_
  refine v_istore (ls' := [(5, .int v4), (4, .ref v2), (0, .ref l0), (1, .ref l1), (2, .int l2), (3, .int l3)]) dX7_takeAnswer_15 (by decide) rfl ?_
  refine v_iload dX7_takeAnswer_17 0 rfl ?_
  refine v_if_ge (tgt := 24) dX7_takeAnswer_19 (by decide) (fun c12 => ?_) (fun c12 => ?_)
  · replace h := ifP c12 h
    refine v_aload dX7_takeAnswer_24 1 rfl ?_
    obtain ⟨v5, e, h⟩ := bind_some h
    refine gt_X7_147 e dX7_takeAnswer_26 ?_
    refine v_iload dX7_takeAnswer_29 0 rfl ?_
    obtain ⟨v6, e, h⟩ := bind_some h
    refine al_1 e dX7_takeAnswer_31 ?_
    refine v_astore (ls' := [(6, .ref v6), (5, .int v4), (4, .ref v2), (0, .ref l0), (1, .ref l1), (2, .int l2), (3, .int l3)]) dX7_takeAnswer_32 (by decide) rfl ?_
    refine v_iload_n dX7_takeAnswer_34 rfl 5 rfl ?_
    refine v_iconst (v := 2) dX7_takeAnswer_35 ci_2 ?_
    refine v_icmp_ne (tgt := 63) dX7_takeAnswer_36 (by decide) (fun c11 => ?_) (fun c11 => ?_)
    · replace h := ifN c11 h
      refine v_sub [3, 4, 5, 2, 1, 0] rfl ?_
      exact w_X7_takeAnswer_J63 l0 l1 l2 v2 v4 v6 M3 h
    · replace h := ifP c11 h
      refine v_aload dX7_takeAnswer_39 0 rfl ?_
      obtain ⟨v7, e, h⟩ := bind_some h
      refine gt_X7_207 e dX7_takeAnswer_41 ?_
      refine v_iconst (v := 2) dX7_takeAnswer_44 ci_2 ?_
      refine v_icmp_ne (tgt := 63) dX7_takeAnswer_45 (by decide) (fun c10 => ?_) (fun c10 => ?_)
      · replace h := ifN c10 h
        refine v_sub [3, 4, 5, 2, 1, 0] rfl ?_
        exact w_X7_takeAnswer_J63 l0 l1 l2 v2 v4 v6 M3 h
      · replace h := ifP c10 h
        refine v_aload dX7_takeAnswer_48 0 rfl ?_
        refine v_iconst (v := 4) dX7_takeAnswer_50 ci_4 ?_
        obtain ⟨M8, e, h⟩ := bind_some h
        refine pt_X7_274 e dX7_takeAnswer_51 ?_
        refine v_aload_n dX7_takeAnswer_54 rfl 3 rfl ?_
        refine v_aload_n dX7_takeAnswer_55 rfl 4 rfl ?_
        refine v_aload dX7_takeAnswer_56 0 rfl ?_
        obtain ⟨M9, e, h⟩ := bind_some h
        refine ca_X7_283 e dX7_takeAnswer_58 (Nat.le_of_ble_eq_true rfl) (by decide) ?_
        refine v_iconst (v := 1) dX7_takeAnswer_61 ci_1 ?_
        obtain ⟨hz, rfl, rfl⟩ := okZ_some h
        exact v_zreturn dX7_takeAnswer_62 hz
  · replace h := ifN c12 h
    refine v_iconst (v := 0) dX7_takeAnswer_22 ci_0 ?_
    obtain ⟨hz, rfl, rfl⟩ := okZ_some h
    exact v_zreturn dX7_takeAnswer_23 hz
theorem kd_X7_takeAnswer {l0 : Nat} {l1 : Nat} {l2 : Int32} {l3 : Int32} {M : Mem} {z : _} (h : f_X7_takeAnswer l0 l1 l2 l3 M = some z) : (mK M l0).1 = 7 := by
  unfold f_X7_takeAnswer at h
  exact (ifS h).1
theorem k_X7_takeAnswer {G : Gl} {l0 : Nat} {l1 : Nat} {l2 : Int32} {l3 : Int32} {M MF : Mem} {r : Int32} (h : f_X7_takeAnswer l0 l1 l2 l3 M = some (r, MF)) : CtrP G yX7_takeAnswer cX7_takeAnswer 7 (some .boolean) 4 91 [.ref l0, .ref l1, .int l2, .int l3] M (cvI r) MF :=
  ctr_of (by decide +kernel) (Nat.le_of_ble_eq_true rfl) (fun ρ => w_X7_takeAnswer l0 l1 l2 l3 M h)
theorem wd_X11_234 : wdV RX11 234 RX7 yX7_takeAnswer cX7_takeAnswer 7 (some .boolean) 3 := ⟨gwi 967 (by decide +kernel) (by decide +kernel), gwi 968 (by decide +kernel) (by decide +kernel), gwi 969 (by decide +kernel) (by decide +kernel), nw_X7, gwi 970 (by decide +kernel) (by decide +kernel), ⟨rfl, by decide +kernel, by decide +kernel, by decide +kernel⟩⟩
theorem ca_X11_234 {G : Gl} {B : Bx} {cc : ByteArray} {ret : Option FieldType} {fr lo nL : Nat} {mn : String} {hh : List (Nat × Nat × Nat × Nat)} {pc : Nat} {ls : List (Nat × Value)} {st : List Value} {M M1 : Mem} {l0 : Nat} {l1 : Nat} {l2 : Int32} {l3 : Int32} {x : Int32} (e : f_X7_takeAnswer l0 l1 l2 l3 M = some (x, M1)) (hd : decode cc pc = .ok (.invokevirtual 234, 3)) (hcat : (st.map fun v => v.category).sum ≤ 8) (hR : 4 + 1 ≤ fr ∧ 8 + (7 + 11) + 91 ≤ lo) (k : V G (RX11, cc, ret, fr, lo, nL, mn, hh) B (pc + 3) ls (.int x :: st) M1) : V G (RX11, cc, ret, fr, lo, nL, mn, hh) B pc ls (.int l3 :: .int l2 :: .ref l1 :: .ref l0 :: st) M := v_callVi (As := [.ref l1, .int l2, .int l3]) (k_X7_takeAnswer e) wd_X11_234 clX7 (kd_X7_takeAnswer e) hd rfl rfl hcat hR k
set_option maxHeartbeats 4000000 in
set_option maxRecDepth 100000 in
theorem w_X7_resendLate_L10 {G : Gl} {ρ0 : Nat → Nat} {M0 MF : Mem} {r : Unit} : ∀ (n : Nat) (l0 : Nat) (l1 : Nat) (l2 : Nat) (l3 : Int32) (M : Mem), f_X7_resendLate_L10 n l0 l1 l2 l3 M = some MF → V G (RX7, cX7_resendLate, none, 4, 89, 4, "resendLate", []) (ρ0, M0, cvV r, MF) 10 [(0, .ref l0), (1, .ref l1), (2, .ref l2), (3, .int l3)] [] M := by
  intro n
  induction n with
  | zero => intro l0 l1 l2 l3 M h; cases h
  | succ n ih =>
    intro l0 l1 l2 l3 M h
    rw [f_X7_resendLate_L10] at h
    refine v_iload_n dX7_resendLate_10 rfl 3 rfl ?_
    refine v_aload_n dX7_resendLate_11 rfl 2 rfl ?_
    obtain ⟨v1, e, h⟩ := bind_some h
    refine gt_X7_142 e dX7_resendLate_12 ?_
    refine v_icmp_ge (tgt := 67) dX7_resendLate_15 (by decide) (fun c15 => ?_) (fun c15 => ?_)
    · replace h := ifP c15 h
      cases h
      exact v_vreturn dX7_resendLate_67
    · replace h := ifN c15 h
      refine v_iload_n dX7_resendLate_18 rfl 3 rfl ?_
      refine v_aload_n dX7_resendLate_19 rfl 2 rfl ?_
      obtain ⟨v2, e, h⟩ := bind_some h
      refine gt_X7_147 e dX7_resendLate_20 ?_
      obtain ⟨v3, e, h⟩ := bind_some h
      refine v_alen dX7_resendLate_23 e ?_
      refine v_icmp_ge (tgt := 67) dX7_resendLate_24 (by decide) (fun c14 => ?_) (fun c14 => ?_)
      · replace h := ifP c14 h
        cases h
        exact v_vreturn dX7_resendLate_67
      · replace h := ifN c14 h
        refine v_aload_n dX7_resendLate_27 rfl 0 rfl ?_
        obtain ⟨v4, e, h⟩ := bind_some h
        refine gt_X7_79 e dX7_resendLate_28 ?_
        refine v_aload_n dX7_resendLate_31 rfl 2 rfl ?_
        obtain ⟨v5, e, h⟩ := bind_some h
        refine gt_X7_147 e dX7_resendLate_32 ?_
        refine v_iload_n dX7_resendLate_35 rfl 3 rfl ?_
        obtain ⟨v6, e, h⟩ := bind_some h
        refine al_1 e dX7_resendLate_36 ?_
        obtain ⟨v7, e, h⟩ := bind_some h
        refine gt_X7_286 e dX7_resendLate_37 ?_
        refine v_isub dX7_resendLate_40 ?_
        refine v_aload_n dX7_resendLate_41 rfl 0 rfl ?_
        obtain ⟨v8, e, h⟩ := bind_some h
        refine gt_X7_42 e dX7_resendLate_42 ?_
        refine v_iconst (v := 1) dX7_resendLate_45 ci_1 ?_
        obtain ⟨v9, e, h⟩ := bind_some h
        refine v_iaload dX7_resendLate_46 e ?_
        refine v_icmp_lt (tgt := 61) dX7_resendLate_47 (by decide) (fun c13 => ?_) (fun c13 => ?_)
        · replace h := ifP c13 h
          refine v_iinc (ls' := [(3, .int (l3 + 1)), (0, .ref l0), (1, .ref l1), (2, .ref l2)]) dX7_resendLate_61 3 rfl (v := 1) ci_1 (by decide) rfl ?_
          refine v_goto (tgt := 10) dX7_resendLate_64 (by decide) ?_
          refine v_sub [1, 2, 3, 0] rfl ?_
          exact ih l0 l1 l2 (l3 + 1) M h
        · replace h := ifN c13 h
          refine v_aload_n dX7_resendLate_50 rfl 0 rfl ?_
          refine v_aload_n dX7_resendLate_51 rfl 1 rfl ?_
          refine v_aload_n dX7_resendLate_52 rfl 2 rfl ?_
          obtain ⟨v10, e, h⟩ := bind_some h
          refine gt_X7_147 e dX7_resendLate_53 ?_
          refine v_iload_n dX7_resendLate_56 rfl 3 rfl ?_
          obtain ⟨v11, e, h⟩ := bind_some h
          refine al_1 e dX7_resendLate_57 ?_
          obtain ⟨M12, e, h⟩ := bind_some h
          refine ca_X7_150 e dX7_resendLate_58 (Nat.le_of_ble_eq_true rfl) (by decide) ?_
          refine v_iinc (ls' := [(3, .int (l3 + 1)), (0, .ref l0), (1, .ref l1), (2, .ref l2)]) dX7_resendLate_61 3 rfl (v := 1) ci_1 (by decide) rfl ?_
          refine v_goto (tgt := 10) dX7_resendLate_64 (by decide) ?_
          refine v_sub [1, 2, 3, 0] rfl ?_
          exact ih l0 l1 l2 (l3 + 1) M12 h
set_option maxHeartbeats 4000000 in
set_option maxRecDepth 100000 in
theorem w_X7_resendLate {G : Gl} {ρ0 : Nat → Nat} {M0 MF : Mem} {r : Unit} (l0 : Nat) (l1 : Nat) (M : Mem) (h : f_X7_resendLate l0 l1 M = some MF) : V G (RX7, cX7_resendLate, none, 4, 89, 4, "resendLate", []) (ρ0, M0, cvV r, MF) 0 [(0, .ref l0), (1, .ref l1)] [] M := by
  unfold f_X7_resendLate at h
  replace h := (ifS h).2
  refine v_aload_n dX7_resendLate_0 rfl 1 rfl ?_
  obtain ⟨v1, e, h⟩ := bind_some h
  refine gt_X7_95 e dX7_resendLate_1 ?_
  obtain ⟨v2, e, h⟩ := bind_some h
  refine gt_X7_138 e dX7_resendLate_4 ?_
  refine v_astore_n (ls' := [(2, .ref v2), (0, .ref l0), (1, .ref l1)]) dX7_resendLate_7 rfl (by decide) rfl ?_
  refine v_iconst (v := 0) dX7_resendLate_8 ci_0 ?_
  refine v_istore_n (ls' := [(3, .int (0 : Int32)), (2, .ref v2), (0, .ref l0), (1, .ref l1)]) dX7_resendLate_9 rfl (by decide) rfl ?_
  refine v_sub [2, 3, 1, 0] rfl ?_
  exact w_X7_resendLate_L10 FU l0 l1 v2 (0 : Int32) M h
theorem kd_X7_resendLate {l0 : Nat} {l1 : Nat} {M : Mem} {z : _} (h : f_X7_resendLate l0 l1 M = some z) : (mK M l0).1 = 7 := by
  unfold f_X7_resendLate at h
  exact (ifS h).1
theorem k_X7_resendLate {G : Gl} {l0 : Nat} {l1 : Nat} {M MF : Mem} (h : f_X7_resendLate l0 l1 M = some MF) : CtrP G yX7_resendLate cX7_resendLate 4 none 4 89 [.ref l0, .ref l1] M (cvV ()) MF :=
  ctr_of (by decide +kernel) (Nat.le_of_ble_eq_true rfl) (fun ρ => w_X7_resendLate (r := ()) l0 l1 M h)
theorem wd_X7_314 : wdV RX7 314 RX7 yX7_resendLate cX7_resendLate 4 none 1 := ⟨gwi 998 (by decide +kernel) (by decide +kernel), gwi 1000 (by decide +kernel) (by decide +kernel), gwi 23 (by decide +kernel) (by decide +kernel), nw_X7, gwi 1001 (by decide +kernel) (by decide +kernel), ⟨rfl, by decide +kernel, by decide +kernel, by decide +kernel⟩⟩
theorem ca_X7_314 {G : Gl} {B : Bx} {cc : ByteArray} {ret : Option FieldType} {fr lo nL : Nat} {mn : String} {hh : List (Nat × Nat × Nat × Nat)} {pc : Nat} {ls : List (Nat × Value)} {st : List Value} {M M1 : Mem} {l0 : Nat} {l1 : Nat} (e : f_X7_resendLate l0 l1 M = some M1) (hd : decode cc pc = .ok (.invokevirtual 314, 3)) (hcat : (st.map fun v => v.category).sum ≤ 8) (hR : 4 + 1 ≤ fr ∧ 8 + (4 + 11) + 89 ≤ lo) (k : V G (RX7, cc, ret, fr, lo, nL, mn, hh) B (pc + 3) ls (st) M1) : V G (RX7, cc, ret, fr, lo, nL, mn, hh) B pc ls (.ref l1 :: .ref l0 :: st) M := v_callV0 (As := [.ref l1]) (k_X7_resendLate e) wd_X7_314 clX7 (kd_X7_resendLate e) hd rfl rfl hcat hR k
set_option maxHeartbeats 4000000 in
set_option maxRecDepth 100000 in
theorem w_X7_expire_J29 {G : Gl} {ρ0 : Nat → Nat} {M0 MF : Mem} {r : Unit} (l0 : Nat) (l1 : Int32) (l2 : Nat) (s0 : Int32) (M : Mem) (h : f_X7_expire_J29 l0 l1 l2 s0 M = some MF) : V G (RX7, cX7_expire, none, 3, 69, 4, "expire", []) (ρ0, M0, cvV r, MF) 29 [(0, .ref l0), (1, .int l1), (2, .ref l2)] [.int s0] M := by
  unfold f_X7_expire_J29 at h
  refine v_istore_n (ls' := [(3, .int s0), (0, .ref l0), (1, .int l1), (2, .ref l2)]) dX7_expire_29 rfl (by decide) rfl ?_
  refine v_iload_n dX7_expire_30 rfl 0 rfl ?_
  refine v_if_eq (tgt := 71) dX7_expire_31 (by decide) (fun c11 => ?_) (fun c11 => ?_)
  · replace h := ifP c11 h
    cases h
    exact v_vreturn dX7_expire_71
  · replace h := ifN c11 h
    refine v_aload_n dX7_expire_34 rfl 1 rfl ?_
    obtain ⟨v1, e, h⟩ := bind_some h
    refine gt_X7_79 e dX7_expire_35 ?_
    refine v_aload_n dX7_expire_38 rfl 3 rfl ?_
    obtain ⟨v2, e, h⟩ := bind_some h
    refine gt_X7_95 e dX7_expire_39 ?_
    obtain ⟨v3, e, h⟩ := bind_some h
    refine gt_X7_108 e dX7_expire_42 ?_
    refine v_isub dX7_expire_45 ?_
    refine v_aload_n dX7_expire_46 rfl 1 rfl ?_
    obtain ⟨v4, e, h⟩ := bind_some h
    refine gt_X7_42 e dX7_expire_47 ?_
    refine v_iconst (v := 2) dX7_expire_50 ci_2 ?_
    obtain ⟨v5, e, h⟩ := bind_some h
    refine v_iaload dX7_expire_51 e ?_
    refine v_icmp_lt (tgt := 71) dX7_expire_52 (by decide) (fun c10 => ?_) (fun c10 => ?_)
    · replace h := ifP c10 h
      cases h
      exact v_vreturn dX7_expire_71
    · replace h := ifN c10 h
      refine v_aload_n dX7_expire_55 rfl 1 rfl ?_
      refine v_iload_n dX7_expire_56 rfl 2 rfl ?_
      obtain ⟨M6, e, h⟩ := bind_some h
      refine ca_X7_104 e dX7_expire_57 (Nat.le_of_ble_eq_true rfl) (by decide) ?_
      refine v_aload_n dX7_expire_60 rfl 1 rfl ?_
      obtain ⟨v7, e, h⟩ := bind_some h
      refine gt_X7_45 e dX7_expire_61 ?_
      refine v_bipush (v := 7) dX7_expire_64 cb_7 ?_
      refine v_dup2 dX7_expire_66 rfl rfl ?_
      obtain ⟨v8, e, h⟩ := bind_some h
      refine v_iaload dX7_expire_67 e ?_
      refine v_iconst (v := 1) dX7_expire_68 ci_1 ?_
      refine v_iadd dX7_expire_69 ?_
      obtain ⟨M9, e, h⟩ := bind_some h
      refine v_iastore dX7_expire_70 e ?_
      cases h
      exact v_vreturn dX7_expire_71
theorem w_X7_expire_J28 {G : Gl} {ρ0 : Nat → Nat} {M0 MF : Mem} {r : Unit} (l0 : Nat) (l1 : Int32) (l2 : Nat) (M : Mem) (h : f_X7_expire_J28 l0 l1 l2 M = some MF) : V G (RX7, cX7_expire, none, 3, 69, 4, "expire", []) (ρ0, M0, cvV r, MF) 28 [(0, .ref l0), (1, .int l1), (2, .ref l2)] [] M := by
  unfold f_X7_expire_J28 at h
  refine v_iconst (v := 0) dX7_expire_28 ci_0 ?_
  exact w_X7_expire_J29 l0 l1 l2 (0 : Int32) M h
set_option maxHeartbeats 4000000 in
set_option maxRecDepth 100000 in
theorem w_X7_expire {G : Gl} {ρ0 : Nat → Nat} {M0 MF : Mem} {r : Unit} (l0 : Nat) (l1 : Int32) (M : Mem) (h : f_X7_expire l0 l1 M = some MF) : V G (RX7, cX7_expire, none, 3, 69, 4, "expire", []) (ρ0, M0, cvV r, MF) 0 [(0, .ref l0), (1, .int l1)] [] M := by
  unfold f_X7_expire at h
  replace h := (ifS h).2
  refine v_aload_n dX7_expire_0 rfl 0 rfl ?_
  obtain ⟨v1, e, h⟩ := bind_some h
  refine gt_X7_17 e dX7_expire_1 ?_
  refine v_iload_n dX7_expire_4 rfl 1 rfl ?_
  obtain ⟨v2, e, h⟩ := bind_some h
  refine al_0 e dX7_expire_5 ?_
  refine v_astore_n (ls' := [(2, .ref v2), (0, .ref l0), (1, .int l1)]) dX7_expire_6 rfl (by decide) rfl ?_
  refine v_aload_n dX7_expire_7 rfl 0 rfl ?_
  obtain ⟨v3, e, h⟩ := bind_some h
  refine gt_X7_95 e dX7_expire_8 ?_
  obtain ⟨v4, e, h⟩ := bind_some h
  refine gt_X7_326 e dX7_expire_11 ?_
  refine v_if_eq (tgt := 28) dX7_expire_14 (by decide) (fun c7 => ?_) (fun c7 => ?_)
  · replace h := ifP c7 h
    refine v_sub [1, 2, 0] rfl ?_
    exact w_X7_expire_J28 l0 l1 v2 M h
  · replace h := ifN c7 h
    refine v_aload_n dX7_expire_17 rfl 0 rfl ?_
    obtain ⟨v5, e, h⟩ := bind_some h
    refine gt_X7_82 e dX7_expire_18 ?_
    refine v_if_ne (tgt := 28) dX7_expire_21 (by decide) (fun c6 => ?_) (fun c6 => ?_)
    · replace h := ifN c6 h
      refine v_sub [1, 2, 0] rfl ?_
      exact w_X7_expire_J28 l0 l1 v2 M h
    · replace h := ifP c6 h
      refine v_iconst (v := 1) dX7_expire_24 ci_1 ?_
      refine v_goto (tgt := 29) dX7_expire_25 (by decide) ?_
      refine v_sub [1, 2, 0] rfl ?_
      exact w_X7_expire_J29 l0 l1 v2 (1 : Int32) M h
theorem kd_X7_expire {l0 : Nat} {l1 : Int32} {M : Mem} {z : _} (h : f_X7_expire l0 l1 M = some z) : (mK M l0).1 = 7 := by
  unfold f_X7_expire at h
  exact (ifS h).1
theorem k_X7_expire {G : Gl} {l0 : Nat} {l1 : Int32} {M MF : Mem} (h : f_X7_expire l0 l1 M = some MF) : CtrP G yX7_expire cX7_expire 4 none 3 69 [.ref l0, .int l1] M (cvV ()) MF :=
  ctr_of (by decide +kernel) (Nat.le_of_ble_eq_true rfl) (fun ρ => w_X7_expire (r := ()) l0 l1 M h)
theorem wd_X7_323 : wdV RX7 323 RX7 yX7_expire cX7_expire 4 none 1 := ⟨gwi 1004 (by decide +kernel) (by decide +kernel), gwi 1006 (by decide +kernel) (by decide +kernel), gwi 24 (by decide +kernel) (by decide +kernel), nw_X7, gwi 1007 (by decide +kernel) (by decide +kernel), ⟨rfl, by decide +kernel, by decide +kernel, by decide +kernel⟩⟩
theorem ca_X7_323 {G : Gl} {B : Bx} {cc : ByteArray} {ret : Option FieldType} {fr lo nL : Nat} {mn : String} {hh : List (Nat × Nat × Nat × Nat)} {pc : Nat} {ls : List (Nat × Value)} {st : List Value} {M M1 : Mem} {l0 : Nat} {l1 : Int32} (e : f_X7_expire l0 l1 M = some M1) (hd : decode cc pc = .ok (.invokevirtual 323, 3)) (hcat : (st.map fun v => v.category).sum ≤ 8) (hR : 3 + 1 ≤ fr ∧ 8 + (4 + 11) + 69 ≤ lo) (k : V G (RX7, cc, ret, fr, lo, nL, mn, hh) B (pc + 3) ls (st) M1) : V G (RX7, cc, ret, fr, lo, nL, mn, hh) B pc ls (.int l1 :: .ref l0 :: st) M := v_callV0 (As := [.int l1]) (k_X7_expire e) wd_X7_323 clX7 (kd_X7_expire e) hd rfl rfl hcat hR k
set_option maxHeartbeats 4000000 in
set_option maxRecDepth 100000 in
theorem w_X7_tick_L105 {G : Gl} {ρ0 : Nat → Nat} {M0 MF : Mem} {r : Unit} : ∀ (n : Nat) (l0 : Nat) (l1 : Int32) (M : Mem), f_X7_tick_L105 n l0 l1 M = some MF → V G (RX7, cX7_tick, none, 5, 112, 3, "tick", []) (ρ0, M0, cvV r, MF) 105 [(0, .ref l0), (1, .int l1)] [] M := by
  intro n
  induction n with
  | zero => intro l0 l1 M h; cases h
  | succ n ih =>
    intro l0 l1 M h
    rw [f_X7_tick_L105] at h
    refine v_iload_n dX7_tick_105 rfl 1 rfl ?_
    refine v_bipush (v := 6) dX7_tick_106 cb_6 ?_
    refine v_icmp_ge (tgt := 122) dX7_tick_108 (by decide) (fun c2 => ?_) (fun c2 => ?_)
    · replace h := ifP c2 h
      cases h
      exact v_vreturn dX7_tick_122
    · replace h := ifN c2 h
      refine v_aload_n dX7_tick_111 rfl 0 rfl ?_
      refine v_iload_n dX7_tick_112 rfl 1 rfl ?_
      obtain ⟨M1, e, h⟩ := bind_some h
      refine ca_X7_323 e dX7_tick_113 (Nat.le_of_ble_eq_true rfl) (by decide) ?_
      refine v_iinc (ls' := [(1, .int (l1 + 1)), (0, .ref l0)]) dX7_tick_116 1 rfl (v := 1) ci_1 (by decide) rfl ?_
      refine v_goto (tgt := 105) dX7_tick_119 (by decide) ?_
      refine v_sub [1, 0] rfl ?_
      exact ih l0 (l1 + 1) M1 h
set_option maxHeartbeats 4000000 in
set_option maxRecDepth 100000 in
theorem w_X7_tick_L57 {G : Gl} {ρ0 : Nat → Nat} {M0 MF : Mem} {r : Unit} : ∀ (n : Nat) (l0 : Nat) (l1 : Int32) (M : Mem), f_X7_tick_L57 n l0 l1 M = some MF → V G (RX7, cX7_tick, none, 5, 112, 3, "tick", []) (ρ0, M0, cvV r, MF) 57 [(0, .ref l0), (1, .int l1)] [] M := by
  intro n
  induction n with
  | zero => intro l0 l1 M h; cases h
  | succ n ih =>
    intro l0 l1 M h
    rw [f_X7_tick_L57] at h
    refine v_iload_n dX7_tick_57 rfl 1 rfl ?_
    refine v_bipush (v := 6) dX7_tick_58 cb_6 ?_
    refine v_icmp_ge (tgt := 103) dX7_tick_60 (by decide) (fun c10 => ?_) (fun c10 => ?_)
    · replace h := ifP c10 h
      refine v_iconst (v := 0) dX7_tick_103 ci_0 ?_
      refine v_istore_n (ls' := [(1, .int (0 : Int32)), (0, .ref l0)]) dX7_tick_104 rfl (by decide) rfl ?_
      refine v_sub [1, 0] rfl ?_
      exact w_X7_tick_L105 FU l0 (0 : Int32) M h
    · replace h := ifN c10 h
      refine v_aload_n dX7_tick_63 rfl 0 rfl ?_
      obtain ⟨v1, e, h⟩ := bind_some h
      refine gt_X7_17 e dX7_tick_64 ?_
      refine v_iload_n dX7_tick_67 rfl 1 rfl ?_
      obtain ⟨v2, e, h⟩ := bind_some h
      refine al_0 e dX7_tick_68 ?_
      refine v_astore_n (ls' := [(2, .ref v2), (0, .ref l0), (1, .int l1)]) dX7_tick_69 rfl (by decide) rfl ?_
      refine v_aload_n dX7_tick_70 rfl 0 rfl ?_
      refine v_aload_n dX7_tick_71 rfl 0 rfl ?_
      obtain ⟨v3, e, h⟩ := bind_some h
      refine gt_X7_317 e dX7_tick_72 ?_
      refine kf_X7_321 dX7_tick_75 ?_
      obtain ⟨v4, e, h⟩ := bind_some h
      refine v_fmul dX7_tick_78 e ?_
      refine v_aload_n dX7_tick_79 rfl 0 rfl ?_
      obtain ⟨v5, e, h⟩ := bind_some h
      refine gt_X7_310 e dX7_tick_80 ?_
      refine v_i2f dX7_tick_83 ?_
      refine kf_X7_322 dX7_tick_84 ?_
      obtain ⟨v6, e, h⟩ := bind_some h
      refine v_fmul dX7_tick_87 e ?_
      obtain ⟨v7, e, h⟩ := bind_some h
      refine v_fadd dX7_tick_88 e ?_
      obtain ⟨M8, e, h⟩ := bind_some h
      refine pt_X7_317 e dX7_tick_89 ?_
      refine v_aload_n dX7_tick_92 rfl 0 rfl ?_
      refine v_iconst (v := 0) dX7_tick_93 ci_0 ?_
      obtain ⟨M9, e, h⟩ := bind_some h
      refine pt_X7_310 e dX7_tick_94 ?_
      refine v_iinc (ls' := [(1, .int (l1 + 1)), (2, .ref v2), (0, .ref l0)]) dX7_tick_97 2 rfl (v := 1) ci_1 (by decide) rfl ?_
      refine v_goto (tgt := 57) dX7_tick_100 (by decide) ?_
      refine v_sub [2, 0] rfl ?_
      exact ih l0 (l1 + 1) M9 h
set_option maxHeartbeats 4000000 in
set_option maxRecDepth 100000 in
theorem w_X7_tick_L12 {G : Gl} {ρ0 : Nat → Nat} {M0 MF : Mem} {r : Unit} : ∀ (n : Nat) (l0 : Nat) (l1 : Int32) (M : Mem), f_X7_tick_L12 n l0 l1 M = some MF → V G (RX7, cX7_tick, none, 5, 112, 3, "tick", []) (ρ0, M0, cvV r, MF) 12 [(0, .ref l0), (1, .int l1)] [] M := by
  intro n
  induction n with
  | zero => intro l0 l1 M h; cases h
  | succ n ih =>
    intro l0 l1 M h
    rw [f_X7_tick_L12] at h
    refine v_iload_n dX7_tick_12 rfl 1 rfl ?_
    refine v_bipush (v := 6) dX7_tick_13 cb_6 ?_
    refine v_icmp_ge (tgt := 55) dX7_tick_15 (by decide) (fun c11 => ?_) (fun c11 => ?_)
    · replace h := ifP c11 h
      refine v_iconst (v := 0) dX7_tick_55 ci_0 ?_
      refine v_istore_n (ls' := [(1, .int (0 : Int32)), (0, .ref l0)]) dX7_tick_56 rfl (by decide) rfl ?_
      refine v_sub [1, 0] rfl ?_
      exact w_X7_tick_L57 FU l0 (0 : Int32) M h
    · replace h := ifN c11 h
      refine v_aload_n dX7_tick_18 rfl 0 rfl ?_
      obtain ⟨v1, e, h⟩ := bind_some h
      refine gt_X7_17 e dX7_tick_19 ?_
      refine v_iload_n dX7_tick_22 rfl 1 rfl ?_
      obtain ⟨v2, e, h⟩ := bind_some h
      refine al_0 e dX7_tick_23 ?_
      obtain ⟨v3, e, h⟩ := bind_some h
      refine gt_X7_82 e dX7_tick_24 ?_
      refine v_if_eq (tgt := 49) dX7_tick_27 (by decide) (fun c10 => ?_) (fun c10 => ?_)
      · replace h := ifP c10 h
        refine v_iinc (ls' := [(1, .int (l1 + 1)), (0, .ref l0)]) dX7_tick_49 1 rfl (v := 1) ci_1 (by decide) rfl ?_
        refine v_goto (tgt := 12) dX7_tick_52 (by decide) ?_
        refine v_sub [1, 0] rfl ?_
        exact ih l0 (l1 + 1) M h
      · replace h := ifN c10 h
        refine v_aload_n dX7_tick_30 rfl 0 rfl ?_
        obtain ⟨v4, e, h⟩ := bind_some h
        refine gt_X7_42 e dX7_tick_31 ?_
        refine v_iconst (v := 1) dX7_tick_34 ci_1 ?_
        obtain ⟨v5, e, h⟩ := bind_some h
        refine v_iaload dX7_tick_35 e ?_
        refine v_if_eq (tgt := 49) dX7_tick_36 (by decide) (fun c9 => ?_) (fun c9 => ?_)
        · replace h := ifP c9 h
          refine v_iinc (ls' := [(1, .int (l1 + 1)), (0, .ref l0)]) dX7_tick_49 1 rfl (v := 1) ci_1 (by decide) rfl ?_
          refine v_goto (tgt := 12) dX7_tick_52 (by decide) ?_
          refine v_sub [1, 0] rfl ?_
          exact ih l0 (l1 + 1) M h
        · replace h := ifN c9 h
          refine v_aload_n dX7_tick_39 rfl 0 rfl ?_
          refine v_aload_n dX7_tick_40 rfl 0 rfl ?_
          obtain ⟨v6, e, h⟩ := bind_some h
          refine gt_X7_17 e dX7_tick_41 ?_
          refine v_iload_n dX7_tick_44 rfl 1 rfl ?_
          obtain ⟨v7, e, h⟩ := bind_some h
          refine al_0 e dX7_tick_45 ?_
          obtain ⟨M8, e, h⟩ := bind_some h
          refine ca_X7_314 e dX7_tick_46 (Nat.le_of_ble_eq_true rfl) (by decide) ?_
          refine v_iinc (ls' := [(1, .int (l1 + 1)), (0, .ref l0)]) dX7_tick_49 1 rfl (v := 1) ci_1 (by decide) rfl ?_
          refine v_goto (tgt := 12) dX7_tick_52 (by decide) ?_
          refine v_sub [1, 0] rfl ?_
          exact ih l0 (l1 + 1) M8 h
set_option maxHeartbeats 4000000 in
set_option maxRecDepth 100000 in
theorem w_X7_tick {G : Gl} {ρ0 : Nat → Nat} {M0 MF : Mem} {r : Unit} (l0 : Nat) (M : Mem) (h : f_X7_tick l0 M = some MF) : V G (RX7, cX7_tick, none, 5, 112, 3, "tick", []) (ρ0, M0, cvV r, MF) 0 [(0, .ref l0)] [] M := by
  unfold f_X7_tick at h
  replace h := (ifS h).2
  refine v_aload_n dX7_tick_0 rfl 0 rfl ?_
  refine v_dup dX7_tick_1 rfl ?_
  obtain ⟨v1, e, h⟩ := bind_some h
  refine gt_X7_79 e dX7_tick_2 ?_
  refine v_iconst (v := 1) dX7_tick_5 ci_1 ?_
  refine v_iadd dX7_tick_6 ?_
  obtain ⟨M2, e, h⟩ := bind_some h
  refine pt_X7_79 e dX7_tick_7 ?_
  refine v_iconst (v := 0) dX7_tick_10 ci_0 ?_
  refine v_istore_n (ls' := [(1, .int (0 : Int32)), (0, .ref l0)]) dX7_tick_11 rfl (by decide) rfl ?_
  refine v_sub [1, 0] rfl ?_
  exact w_X7_tick_L12 FU l0 (0 : Int32) M2 h
theorem kd_X7_tick {l0 : Nat} {M : Mem} {z : _} (h : f_X7_tick l0 M = some z) : (mK M l0).1 = 7 := by
  unfold f_X7_tick at h
  exact (ifS h).1
theorem k_X7_tick {G : Gl} {l0 : Nat} {M MF : Mem} (h : f_X7_tick l0 M = some MF) : CtrP G yX7_tick cX7_tick 3 none 5 112 [.ref l0] M (cvV ()) MF :=
  ctr_of (by decide +kernel) (Nat.le_of_ble_eq_true rfl) (fun ρ => w_X7_tick (r := ()) l0 M h)
theorem wd_X11_313 : wdV RX11 313 RX7 yX7_tick cX7_tick 3 none 0 := ⟨gwi 994 (by decide +kernel) (by decide +kernel), gwi 995 (by decide +kernel) (by decide +kernel), gwi 996 (by decide +kernel) (by decide +kernel), nw_X7, gwi 997 (by decide +kernel) (by decide +kernel), ⟨rfl, by decide +kernel, by decide +kernel, by decide +kernel⟩⟩
theorem ca_X11_313 {G : Gl} {B : Bx} {cc : ByteArray} {ret : Option FieldType} {fr lo nL : Nat} {mn : String} {hh : List (Nat × Nat × Nat × Nat)} {pc : Nat} {ls : List (Nat × Value)} {st : List Value} {M M1 : Mem} {l0 : Nat} (e : f_X7_tick l0 M = some M1) (hd : decode cc pc = .ok (.invokevirtual 313, 3)) (hcat : (st.map fun v => v.category).sum ≤ 8) (hR : 5 + 1 ≤ fr ∧ 8 + (3 + 11) + 112 ≤ lo) (k : V G (RX11, cc, ret, fr, lo, nL, mn, hh) B (pc + 3) ls (st) M1) : V G (RX11, cc, ret, fr, lo, nL, mn, hh) B pc ls (.ref l0 :: st) M := v_callV0 (As := []) (k_X7_tick e) wd_X11_313 clX7 (kd_X7_tick e) hd rfl rfl hcat hR k
set_option maxHeartbeats 4000000 in
set_option maxRecDepth 100000 in
theorem w_X10_init_J165 {G : Gl} {ρ0 : Nat → Nat} {M0 MF : Mem} {r : Unit} (s0 : Int32) (s1 : Nat) (M : Mem) (h : f_X10_init_J165 s0 s1 M = some MF) : V G (RX10, cX10_init, none, 1, 21, 9, "<init>", []) (ρ0, M0, cvV r, MF) 165 [] [.int s0, .ref s1] M := by
  unfold f_X10_init_J165 at h
  obtain ⟨M1, e, h⟩ := bind_some h
  refine pt_X10_36 e dX10_init_165 ?_
  cases h
  exact v_vreturn dX10_init_168
set_option maxHeartbeats 4000000 in
set_option maxRecDepth 100000 in
theorem w_X10_init_J141 {G : Gl} {ρ0 : Nat → Nat} {M0 MF : Mem} {r : Unit} (l0 : Nat) (s0 : Int32) (s1 : Nat) (M : Mem) (h : f_X10_init_J141 l0 s0 s1 M = some MF) : V G (RX10, cX10_init, none, 1, 21, 9, "<init>", []) (ρ0, M0, cvV r, MF) 141 [(0, .ref l0)] [.int s0, .ref s1] M := by
  unfold f_X10_init_J141 at h
  obtain ⟨M1, e, h⟩ := bind_some h
  refine pt_X10_32 e dX10_init_141 ?_
  refine v_aload_n dX10_init_144 rfl 0 rfl ?_
  refine v_aload_n dX10_init_145 rfl 0 rfl ?_
  obtain ⟨v2, e, h⟩ := bind_some h
  refine gt_X10_32 e dX10_init_146 ?_
  refine v_if_eq (tgt := 161) dX10_init_149 (by decide) (fun c4 => ?_) (fun c4 => ?_)
  · replace h := ifP c4 h
    refine v_aload_n dX10_init_161 rfl 0 rfl ?_
    obtain ⟨v3, e, h⟩ := bind_some h
    refine gt_X10_28 e dX10_init_162 ?_
    refine v_sub [] rfl ?_
    exact w_X10_init_J165 v3 l0 M1 h
  · replace h := ifN c4 h
    refine v_aload_n dX10_init_152 rfl 0 rfl ?_
    obtain ⟨v3, e, h⟩ := bind_some h
    refine gt_X10_28 e dX10_init_153 ?_
    refine v_iconst (v := 1) dX10_init_156 ci_1 ?_
    refine v_isub dX10_init_157 ?_
    refine v_goto (tgt := 165) dX10_init_158 (by decide) ?_
    refine v_sub [] rfl ?_
    exact w_X10_init_J165 (v3 - (1 : Int32)) l0 M1 h
theorem w_X10_init_J140 {G : Gl} {ρ0 : Nat → Nat} {M0 MF : Mem} {r : Unit} (l0 : Nat) (s0 : Nat) (M : Mem) (h : f_X10_init_J140 l0 s0 M = some MF) : V G (RX10, cX10_init, none, 1, 21, 9, "<init>", []) (ρ0, M0, cvV r, MF) 140 [(0, .ref l0)] [.ref s0] M := by
  unfold f_X10_init_J140 at h
  refine v_iconst (v := 0) dX10_init_140 ci_0 ?_
  exact w_X10_init_J141 l0 (0 : Int32) s0 M h
set_option maxHeartbeats 4000000 in
set_option maxRecDepth 100000 in
theorem w_X10_init_J117 {G : Gl} {ρ0 : Nat → Nat} {M0 MF : Mem} {r : Unit} (l0 : Nat) (l3 : Int32) (l4 : Nat) (s0 : Int32) (s1 : Nat) (M : Mem) (h : f_X10_init_J117 l0 l3 l4 s0 s1 M = some MF) : V G (RX10, cX10_init, none, 1, 21, 9, "<init>", []) (ρ0, M0, cvV r, MF) 117 [(0, .ref l0), (3, .int l3), (4, .ref l4)] [.int s0, .ref s1] M := by
  unfold f_X10_init_J117 at h
  obtain ⟨M1, e, h⟩ := bind_some h
  refine pt_X10_28 e dX10_init_117 ?_
  refine v_aload_n dX10_init_120 rfl 0 rfl ?_
  refine v_iload_n dX10_init_121 rfl 1 rfl ?_
  refine v_if_le (tgt := 140) dX10_init_122 (by decide) (fun c4 => ?_) (fun c4 => ?_)
  · replace h := ifP c4 h
    refine v_sub [0] rfl ?_
    exact w_X10_init_J140 l0 l0 M1 h
  · replace h := ifN c4 h
    refine v_aload dX10_init_125 2 rfl ?_
    refine v_iload_n dX10_init_127 rfl 1 rfl ?_
    refine v_iconst (v := 1) dX10_init_128 ci_1 ?_
    refine v_isub dX10_init_129 ?_
    obtain ⟨v2, e, h⟩ := bind_some h
    refine v_caload dX10_init_130 e ?_
    refine v_bipush (v := 35) dX10_init_131 cb_35 ?_
    refine v_icmp_ne (tgt := 140) dX10_init_133 (by decide) (fun c3 => ?_) (fun c3 => ?_)
    · replace h := ifN c3 h
      refine v_sub [0] rfl ?_
      exact w_X10_init_J140 l0 l0 M1 h
    · replace h := ifP c3 h
      refine v_iconst (v := 1) dX10_init_136 ci_1 ?_
      refine v_goto (tgt := 141) dX10_init_137 (by decide) ?_
      refine v_sub [0] rfl ?_
      exact w_X10_init_J141 l0 (1 : Int32) l0 M1 h
set_option maxHeartbeats 4000000 in
set_option maxRecDepth 100000 in
theorem w_X10_init_L31 {G : Gl} {ρ0 : Nat → Nat} {M0 MF : Mem} {r : Unit} : ∀ (n : Nat) (l0 : Nat) (l1 : Nat) (l3 : Int32) (l4 : Nat) (l5 : Nat) (l6 : Int32) (l7 : Int32) (M : Mem), f_X10_init_L31 n l0 l1 l3 l4 l5 l6 l7 M = some MF → V G (RX10, cX10_init, none, 1, 21, 9, "<init>", []) (ρ0, M0, cvV r, MF) 31 [(0, .ref l0), (1, .ref l1), (3, .int l3), (4, .ref l4), (5, .ref l5), (6, .int l6), (7, .int l7)] [] M := by
  intro n
  induction n with
  | zero => intro l0 l1 l3 l4 l5 l6 l7 M h; cases h
  | succ n ih =>
    intro l0 l1 l3 l4 l5 l6 l7 M h
    rw [f_X10_init_L31] at h
    refine v_iload dX10_init_31 6 rfl ?_
    refine v_iload_n dX10_init_33 rfl 2 rfl ?_
    refine v_icmp_ge (tgt := 92) dX10_init_34 (by decide) (fun c7 => ?_) (fun c7 => ?_)
    · replace h := ifP c7 h
      refine v_aload_n dX10_init_92 rfl 0 rfl ?_
      refine v_aload dX10_init_93 3 rfl ?_
      obtain ⟨M1, e, h⟩ := bind_some h
      refine pt_X10_18 e dX10_init_95 ?_
      refine v_aload_n dX10_init_98 rfl 0 rfl ?_
      refine v_aload dX10_init_99 4 rfl ?_
      obtain ⟨M2, e, h⟩ := bind_some h
      refine pt_X10_24 e dX10_init_101 ?_
      refine v_aload_n dX10_init_104 rfl 0 rfl ?_
      refine v_iload_n dX10_init_105 rfl 2 rfl ?_
      refine v_if_ne (tgt := 113) dX10_init_106 (by decide) (fun c3 => ?_) (fun c3 => ?_)
      · replace h := ifN c3 h
        refine v_iload dX10_init_113 5 rfl ?_
        refine v_iconst (v := 1) dX10_init_115 ci_1 ?_
        refine v_iadd dX10_init_116 ?_
        refine v_sub [0, 2, 3] rfl ?_
        exact w_X10_init_J117 l0 l3 l4 (l6 + (1 : Int32)) l0 M2 h
      · replace h := ifP c3 h
        refine v_iconst (v := 0) dX10_init_109 ci_0 ?_
        refine v_goto (tgt := 117) dX10_init_110 (by decide) ?_
        refine v_sub [0, 2, 3] rfl ?_
        exact w_X10_init_J117 l0 l3 l4 (0 : Int32) l0 M2 h
    · replace h := ifN c7 h
      refine v_aload_n dX10_init_37 rfl 1 rfl ?_
      refine v_iload dX10_init_38 6 rfl ?_
      obtain ⟨v1, e, h⟩ := bind_some h
      refine v_caload dX10_init_40 e ?_
      refine v_istore (ls' := [(8, .int v1), (0, .ref l0), (1, .ref l1), (3, .int l3), (4, .ref l4), (5, .ref l5), (6, .int l6), (7, .int l7)]) dX10_init_41 (by decide) rfl ?_
      refine v_aload dX10_init_43 4 rfl ?_
      refine v_iload dX10_init_45 7 rfl ?_
      refine v_iload dX10_init_47 0 rfl ?_
      obtain ⟨M2, e, h⟩ := bind_some h
      refine v_castore dX10_init_49 e ?_
      refine v_iload dX10_init_50 0 rfl ?_
      refine v_bipush (v := 47) dX10_init_52 cb_47 ?_
      refine v_icmp_ne (tgt := 63) dX10_init_54 (by decide) (fun c6 => ?_) (fun c6 => ?_)
      · replace h := ifN c6 h
        refine v_iload dX10_init_63 6 rfl ?_
        refine v_iconst (v := 4) dX10_init_65 ci_4 ?_
        refine v_icmp_ge (tgt := 86) dX10_init_66 (by decide) (fun c5 => ?_) (fun c5 => ?_)
        · replace h := ifP c5 h
          refine v_iinc (ls' := [(7, .int (l7 + 1)), (8, .int v1), (0, .ref l0), (1, .ref l1), (3, .int l3), (4, .ref l4), (5, .ref l5), (6, .int l6)]) dX10_init_86 7 rfl (v := 1) ci_1 (by decide) rfl ?_
          refine v_goto (tgt := 31) dX10_init_89 (by decide) ?_
          refine v_sub [2, 3, 4, 5, 6, 7, 0] rfl ?_
          exact ih l0 l1 l3 l4 l5 l6 (l7 + 1) M2 h
        · replace h := ifN c5 h
          refine v_aload dX10_init_69 5 rfl ?_
          refine v_iload dX10_init_71 6 rfl ?_
          refine v_aload dX10_init_73 5 rfl ?_
          refine v_iload dX10_init_75 6 rfl ?_
          obtain ⟨v3, e, h⟩ := bind_some h
          refine v_laload dX10_init_77 e ?_
          refine v_bipush (v := 7) dX10_init_78 cb_7 ?_
          refine v_lshl dX10_init_80 ?_
          refine v_iload dX10_init_81 0 rfl ?_
          refine v_i2l dX10_init_83 ?_
          refine v_lor dX10_init_84 ?_
          obtain ⟨M4, e, h⟩ := bind_some h
          refine v_lastore dX10_init_85 e ?_
          refine v_iinc (ls' := [(7, .int (l7 + 1)), (8, .int v1), (0, .ref l0), (1, .ref l1), (3, .int l3), (4, .ref l4), (5, .ref l5), (6, .int l6)]) dX10_init_86 7 rfl (v := 1) ci_1 (by decide) rfl ?_
          refine v_goto (tgt := 31) dX10_init_89 (by decide) ?_
          refine v_sub [2, 3, 4, 5, 6, 7, 0] rfl ?_
          exact ih l0 l1 l3 l4 l5 l6 (l7 + 1) M4 h
      · replace h := ifP c6 h
        refine v_iinc (ls' := [(6, .int (l6 + 1)), (8, .int v1), (0, .ref l0), (1, .ref l1), (3, .int l3), (4, .ref l4), (5, .ref l5), (7, .int l7)]) dX10_init_57 6 rfl (v := 1) ci_1 (by decide) rfl ?_
        refine v_goto (tgt := 86) dX10_init_60 (by decide) ?_
        refine v_iinc (ls' := [(7, .int (l7 + 1)), (6, .int (l6 + 1)), (8, .int v1), (0, .ref l0), (1, .ref l1), (3, .int l3), (4, .ref l4), (5, .ref l5)]) dX10_init_86 7 rfl (v := 1) ci_1 (by decide) rfl ?_
        refine v_goto (tgt := 31) dX10_init_89 (by decide) ?_
        refine v_sub [3, 4, 5, 6, 7, 1, 0] rfl ?_
        exact ih l0 l1 l3 l4 l5 (l6 + 1) (l7 + 1) M2 h
set_option maxHeartbeats 4000000 in
set_option maxRecDepth 100000 in
theorem w_X10_init {G : Gl} {ρ0 : Nat → Nat} {M0 MF : Mem} {r : Unit} (l0 : Nat) (l1 : Nat) (l2 : Int32) (M : Mem) (h : f_X10_init l0 l1 l2 M = some MF) : V G (RX10, cX10_init, none, 1, 21, 9, "<init>", []) (ρ0, M0, cvV r, MF) 0 [(0, .ref l0), (1, .ref l1), (2, .int l2)] [] M := by
  unfold f_X10_init at h
  refine v_aload_n dX10_init_0 rfl 0 rfl ?_
  refine oi_X10 dX10_init_1 (by decide) (Nat.le_of_ble_eq_true rfl) ?_
  refine v_iconst (v := 0) dX10_init_4 ci_0 ?_
  refine v_iload_n dX10_init_5 rfl 2 rfl ?_
  refine v_aload_n dX10_init_6 rfl 1 rfl ?_
  obtain ⟨v1, e, h⟩ := bind_some h
  refine v_alen dX10_init_7 e ?_
  refine mx_X10_9 dX10_init_8 (by decide) (Nat.le_of_ble_eq_true rfl) ?_
  refine mx_X10_15 dX10_init_11 (by decide) (Nat.le_of_ble_eq_true rfl) ?_
  refine v_istore_n (ls' := [(3, .int (imaxE (0 : Int32) (iminE l2 v1))), (0, .ref l0), (1, .ref l1), (2, .int l2)]) dX10_init_14 rfl (by decide) rfl ?_
  refine v_iload_n dX10_init_15 rfl 0 rfl ?_
  obtain ⟨v2, M3, e, h⟩ := bindP_some h
  refine v_newa_char dX10_init_16 aw_char e ?_
  refine v_astore (ls' := [(4, .ref v2), (3, .int (imaxE (0 : Int32) (iminE l2 v1))), (0, .ref l0), (1, .ref l1), (2, .int l2)]) dX10_init_18 (by decide) rfl ?_
  refine v_iconst (v := 4) dX10_init_20 ci_4 ?_
  obtain ⟨v4, M5, e, h⟩ := bindP_some h
  refine v_newa_long dX10_init_21 aw_long e ?_
  refine v_astore (ls' := [(5, .ref v4), (4, .ref v2), (3, .int (imaxE (0 : Int32) (iminE l2 v1))), (0, .ref l0), (1, .ref l1), (2, .int l2)]) dX10_init_23 (by decide) rfl ?_
  refine v_iconst (v := 0) dX10_init_25 ci_0 ?_
  refine v_istore (ls' := [(6, .int (0 : Int32)), (5, .ref v4), (4, .ref v2), (3, .int (imaxE (0 : Int32) (iminE l2 v1))), (0, .ref l0), (1, .ref l1), (2, .int l2)]) dX10_init_26 (by decide) rfl ?_
  refine v_iconst (v := 0) dX10_init_28 ci_0 ?_
  refine v_istore (ls' := [(7, .int (0 : Int32)), (6, .int (0 : Int32)), (5, .ref v4), (4, .ref v2), (3, .int (imaxE (0 : Int32) (iminE l2 v1))), (0, .ref l0), (1, .ref l1), (2, .int l2)]) dX10_init_29 (by decide) rfl ?_
  refine v_sub [5, 6, 4, 3, 2, 1, 0] rfl ?_
  exact w_X10_init_L31 FU l0 l1 (imaxE (0 : Int32) (iminE l2 v1)) v2 v4 (0 : Int32) (0 : Int32) M5 h
theorem k_X10_init {G : Gl} {l0 : Nat} {l1 : Nat} {l2 : Int32} {M MF : Mem} (h : f_X10_init l0 l1 l2 M = some MF) : CtrP G yX10_init cX10_init 9 none 1 21 [.ref l0, .ref l1, .int l2] M (cvV ()) MF :=
  ctr_of (by decide +kernel) (Nat.le_of_ble_eq_true rfl) (fun ρ => w_X10_init (r := ()) l0 l1 l2 M h)
theorem wd_X11_9 : wdI RX11 9 yX10_init cX10_init 9 2 := ⟨gwi 60 (by decide +kernel) (by decide +kernel), gwi 61 (by decide +kernel) (by decide +kernel), nw_X10, gwi 62 (by decide +kernel) (by decide +kernel), rfl, ⟨by decide +kernel, by decide +kernel, by decide +kernel⟩⟩
theorem ca_X11_9 {G : Gl} {B : Bx} {cc : ByteArray} {ret : Option FieldType} {fr lo nL : Nat} {mn : String} {hh : List (Nat × Nat × Nat × Nat)} {pc : Nat} {ls : List (Nat × Value)} {st : List Value} {M M1 : Mem} {l0 : Nat} {l1 : Nat} {l2 : Int32} (e : f_X10_init l0 l1 l2 M = some M1) (hd : decode cc pc = .ok (.invokespecial 9, 3)) (hcat : (st.map fun v => v.category).sum ≤ 8) (hR : 1 + 1 ≤ fr ∧ 8 + (9 + 11) + 21 ≤ lo) (k : V G (RX11, cc, ret, fr, lo, nL, mn, hh) B (pc + 3) ls (st) M1) : V G (RX11, cc, ret, fr, lo, nL, mn, hh) B pc ls (.int l2 :: .ref l1 :: .ref l0 :: st) M := v_callI (As := [.ref l1, .int l2]) (k_X10_init e) wd_X11_9 hd rfl rfl hcat hR k
set_option maxHeartbeats 4000000 in
set_option maxRecDepth 100000 in
theorem w_X10_isPlain_J12 {G : Gl} {ρ0 : Nat → Nat} {M0 MF : Mem} {r : Int32} (l0 : Int32) (M : Mem) (h : f_X10_isPlain_J12 l0 M = some (r, MF)) : V G (RX10, cX10_isPlain, (some .boolean), 0, 0, 1, "isPlain", []) (ρ0, M0, cvI r, MF) 12 [(0, .int l0)] [] M := by
  unfold f_X10_isPlain_J12 at h
  refine v_iload_n dX10_isPlain_12 rfl 0 rfl ?_
  refine v_bipush (v := 48) dX10_isPlain_13 cb_48 ?_
  refine v_icmp_lt (tgt := 28) dX10_isPlain_15 (by decide) (fun c2 => ?_) (fun c2 => ?_)
  · replace h := ifP c2 h
    refine v_iconst (v := 0) dX10_isPlain_28 ci_0 ?_
    obtain ⟨hz, rfl, rfl⟩ := okZ_some h
    exact v_zreturn dX10_isPlain_29 hz
  · replace h := ifN c2 h
    refine v_iload_n dX10_isPlain_18 rfl 0 rfl ?_
    refine v_bipush (v := 57) dX10_isPlain_19 cb_57 ?_
    refine v_icmp_gt (tgt := 28) dX10_isPlain_21 (by decide) (fun c1 => ?_) (fun c1 => ?_)
    · replace h := ifP c1 h
      refine v_iconst (v := 0) dX10_isPlain_28 ci_0 ?_
      obtain ⟨hz, rfl, rfl⟩ := okZ_some h
      exact v_zreturn dX10_isPlain_29 hz
    · replace h := ifN c1 h
      refine v_iconst (v := 1) dX10_isPlain_24 ci_1 ?_
      refine v_goto (tgt := 29) dX10_isPlain_25 (by decide) ?_
      obtain ⟨hz, rfl, rfl⟩ := okZ_some h
      exact v_zreturn dX10_isPlain_29 hz
set_option maxHeartbeats 4000000 in
set_option maxRecDepth 100000 in
theorem w_X10_isPlain {G : Gl} {ρ0 : Nat → Nat} {M0 MF : Mem} {r : Int32} (l0 : Int32) (M : Mem) (h : f_X10_isPlain l0 M = some (r, MF)) : V G (RX10, cX10_isPlain, (some .boolean), 0, 0, 1, "isPlain", []) (ρ0, M0, cvI r, MF) 0 [(0, .int l0)] [] M := by
  unfold f_X10_isPlain at h
  refine v_iload_n dX10_isPlain_0 rfl 0 rfl ?_
  refine v_bipush (v := 97) dX10_isPlain_1 cb_97 ?_
  refine v_icmp_lt (tgt := 12) dX10_isPlain_3 (by decide) (fun c2 => ?_) (fun c2 => ?_)
  · replace h := ifP c2 h
    exact w_X10_isPlain_J12 l0 M h
  · replace h := ifN c2 h
    refine v_iload_n dX10_isPlain_6 rfl 0 rfl ?_
    refine v_bipush (v := 122) dX10_isPlain_7 cb_122 ?_
    refine v_icmp_le (tgt := 24) dX10_isPlain_9 (by decide) (fun c1 => ?_) (fun c1 => ?_)
    · replace h := ifP c1 h
      refine v_iconst (v := 1) dX10_isPlain_24 ci_1 ?_
      refine v_goto (tgt := 29) dX10_isPlain_25 (by decide) ?_
      obtain ⟨hz, rfl, rfl⟩ := okZ_some h
      exact v_zreturn dX10_isPlain_29 hz
    · replace h := ifN c1 h
      exact w_X10_isPlain_J12 l0 M h
theorem k_X10_isPlain {G : Gl} {l0 : Int32} {M MF : Mem} {r : Int32} (h : f_X10_isPlain l0 M = some (r, MF)) : CtrP G yX10_isPlain cX10_isPlain 1 (some .boolean) 0 0 [.int l0] M (cvI r) MF :=
  ctr_of (by decide +kernel) (Nat.le_of_ble_eq_true rfl) (fun ρ => w_X10_isPlain l0 M h)
theorem wd_X10_39 : wdT RX10 39 yX10_isPlain cX10_isPlain 1 (some .boolean) 1 := ⟨gwi 898 (by decide +kernel) (by decide +kernel), gwi 899 (by decide +kernel) (by decide +kernel), nw_X10, gwi 900 (by decide +kernel) (by decide +kernel), ⟨by decide +kernel, by decide +kernel, by decide +kernel⟩⟩
theorem ca_X10_39 {G : Gl} {B : Bx} {cc : ByteArray} {ret : Option FieldType} {fr lo nL : Nat} {mn : String} {hh : List (Nat × Nat × Nat × Nat)} {pc : Nat} {ls : List (Nat × Value)} {st : List Value} {M M1 : Mem} {l0 : Int32} {x : Int32} (e : f_X10_isPlain l0 M = some (x, M1)) (hd : decode cc pc = .ok (.invokestatic 39, 3)) (hcat : (st.map fun v => v.category).sum ≤ 8) (hR : 0 + 1 ≤ fr ∧ 8 + (1 + 11) + 0 ≤ lo) (k : V G (RX10, cc, ret, fr, lo, nL, mn, hh) B (pc + 3) ls (.int x :: st) M1) : V G (RX10, cc, ret, fr, lo, nL, mn, hh) B pc ls (.int l0 :: st) M := v_callSi (As := [.int l0]) (k_X10_isPlain e) wd_X10_39 hd rfl rfl hcat hR k
set_option maxHeartbeats 4000000 in
set_option maxRecDepth 100000 in
theorem w_X10_findError_J137 {G : Gl} {ρ0 : Nat → Nat} {M0 MF : Mem} {r : Int32} (l1 : Int32) (l4 : Int32) (M : Mem) (h : f_X10_findError_J137 l1 l4 M = some (r, MF)) : V G (RX10, cX10_findError, (some .int), 1, 20, 8, "findError", []) (ρ0, M0, cvI r, MF) 137 [(1, .int l1), (4, .int l4)] [] M := by
  unfold f_X10_findError_J137 at h
  refine v_iload dX10_findError_137 1 rfl ?_
  refine v_if_ne (tgt := 146) dX10_findError_139 (by decide) (fun c1 => ?_) (fun c1 => ?_)
  · replace h := ifN c1 h
    refine v_iconst (v := (-1)) dX10_findError_146 ci_m1 ?_
    cases h
    exact v_ireturn dX10_findError_147
  · replace h := ifP c1 h
    refine v_iload_n dX10_findError_142 rfl 0 rfl ?_
    refine v_goto (tgt := 147) dX10_findError_143 (by decide) ?_
    cases h
    exact v_ireturn dX10_findError_147
set_option maxHeartbeats 4000000 in
set_option maxRecDepth 100000 in
theorem w_X10_findError_J83 {G : Gl} {ρ0 : Nat → Nat} {M0 MF : Mem} {r : Int32} (k11 : Nat → Int32 → Int32 → Int32 → Int32 → Int32 → Int32 → Mem → Option (Int32 × Mem)) (h11 : ∀ (l0 : Nat) (l1 : Int32) (l2 : Int32) (l3 : Int32) (l4 : Int32) (l5 : Int32) (l6 : Int32) (M : Mem), k11 l0 l1 l2 l3 l4 l5 l6 M = some (r, MF) → V G (RX10, cX10_findError, (some .int), 1, 20, 8, "findError", []) (ρ0, M0, cvI r, MF) 11 [(0, .ref l0), (1, .int l1), (2, .int l2), (3, .int l3), (4, .int l4), (5, .int l5), (6, .int l6)] [] M) (l0 : Nat) (l1 : Int32) (l2 : Int32) (l3 : Int32) (l4 : Int32) (l6 : Int32) (l7 : Int32) (M : Mem) (h : f_X10_findError_J83 k11 l0 l1 l2 l3 l4 l6 l7 M = some (r, MF)) : V G (RX10, cX10_findError, (some .int), 1, 20, 8, "findError", []) (ρ0, M0, cvI r, MF) 83 [(0, .ref l0), (1, .int l1), (2, .int l2), (3, .int l3), (4, .int l4), (6, .int l6), (7, .int l7)] [] M := by
  unfold f_X10_findError_J83 at h
  refine v_iload_n dX10_findError_83 rfl 2 rfl ?_
  refine v_if_eq (tgt := 92) dX10_findError_84 (by decide) (fun c2 => ?_) (fun c2 => ?_)
  · replace h := ifP c2 h
    refine v_iload dX10_findError_92 5 rfl ?_
    cases h
    exact v_ireturn dX10_findError_94
  · replace h := ifN c2 h
    refine v_iload dX10_findError_87 4 rfl ?_
    refine v_if_eq (tgt := 95) dX10_findError_89 (by decide) (fun c1 => ?_) (fun c1 => ?_)
    · replace h := ifP c1 h
      refine v_iload dX10_findError_95 6 rfl ?_
      refine v_istore (ls' := [(5, .int l7), (0, .ref l0), (1, .int l1), (2, .int l2), (3, .int l3), (4, .int l4), (6, .int l6), (7, .int l7)]) dX10_findError_97 (by decide) rfl ?_
      refine v_iconst (v := 1) dX10_findError_99 ci_1 ?_
      refine v_istore (ls' := [(4, .int (1 : Int32)), (5, .int l7), (0, .ref l0), (1, .int l1), (2, .int l2), (3, .int l3), (6, .int l6), (7, .int l7)]) dX10_findError_100 (by decide) rfl ?_
      refine v_goto (tgt := 131) dX10_findError_102 (by decide) ?_
      refine v_iinc (ls' := [(6, .int (l6 + 1)), (4, .int (1 : Int32)), (5, .int l7), (0, .ref l0), (1, .int l1), (2, .int l2), (3, .int l3), (7, .int l7)]) dX10_findError_131 6 rfl (v := 1) ci_1 (by decide) rfl ?_
      refine v_goto (tgt := 11) dX10_findError_134 (by decide) ?_
      refine v_sub [3, 4, 5, 6, 1, 2, 0] rfl ?_
      exact h11 l0 l1 l2 l3 (1 : Int32) l7 (l6 + 1) M h
    · replace h := ifN c1 h
      refine v_iload dX10_findError_92 5 rfl ?_
      cases h
      exact v_ireturn dX10_findError_94
set_option maxHeartbeats 4000000 in
set_option maxRecDepth 100000 in
theorem w_X10_findError_L11 {G : Gl} {ρ0 : Nat → Nat} {M0 MF : Mem} {r : Int32} : ∀ (n : Nat) (l0 : Nat) (l1 : Int32) (l2 : Int32) (l3 : Int32) (l4 : Int32) (l5 : Int32) (l6 : Int32) (M : Mem), f_X10_findError_L11 n l0 l1 l2 l3 l4 l5 l6 M = some (r, MF) → V G (RX10, cX10_findError, (some .int), 1, 20, 8, "findError", []) (ρ0, M0, cvI r, MF) 11 [(0, .ref l0), (1, .int l1), (2, .int l2), (3, .int l3), (4, .int l4), (5, .int l5), (6, .int l6)] [] M := by
  intro n
  induction n with
  | zero => intro l0 l1 l2 l3 l4 l5 l6 M h; cases h
  | succ n ih =>
    intro l0 l1 l2 l3 l4 l5 l6 M h
    rw [f_X10_findError_L11] at h
    refine v_iload dX10_findError_11 6 rfl ?_
    refine v_iload_n dX10_findError_13 rfl 1 rfl ?_
    refine v_icmp_ge (tgt := 137) dX10_findError_14 (by decide) (fun c12 => ?_) (fun c12 => ?_)
    · replace h := ifP c12 h
      refine v_sub [1, 4] rfl ?_
      exact w_X10_findError_J137 l1 l4 M h
    · replace h := ifN c12 h
      refine v_iload dX10_findError_17 6 rfl ?_
      refine v_aload_n dX10_findError_19 rfl 0 rfl ?_
      obtain ⟨v1, e, h⟩ := bind_some h
      refine v_alen dX10_findError_20 e ?_
      refine v_icmp_ge (tgt := 137) dX10_findError_21 (by decide) (fun c11 => ?_) (fun c11 => ?_)
      · replace h := ifP c11 h
        refine v_sub [1, 4] rfl ?_
        exact w_X10_findError_J137 l1 l4 M h
      · replace h := ifN c11 h
        refine v_aload_n dX10_findError_24 rfl 0 rfl ?_
        refine v_iload dX10_findError_25 6 rfl ?_
        obtain ⟨v2, e, h⟩ := bind_some h
        refine v_caload dX10_findError_27 e ?_
        refine v_istore (ls' := [(7, .int v2), (0, .ref l0), (1, .int l1), (2, .int l2), (3, .int l3), (4, .int l4), (5, .int l5), (6, .int l6)]) dX10_findError_28 (by decide) rfl ?_
        refine v_iload dX10_findError_30 0 rfl ?_
        refine v_bipush (v := 47) dX10_findError_32 cb_47 ?_
        refine v_icmp_ne (tgt := 69) dX10_findError_34 (by decide) (fun c10 => ?_) (fun c10 => ?_)
        · replace h := ifN c10 h
          refine v_iload dX10_findError_69 0 rfl ?_
          refine v_bipush (v := 43) dX10_findError_71 cb_43 ?_
          refine v_icmp_eq (tgt := 83) dX10_findError_73 (by decide) (fun c9 => ?_) (fun c9 => ?_)
          · replace h := ifP c9 h
            refine v_sub [1, 2, 3, 4, 5, 7, 0] rfl ?_
            exact w_X10_findError_J83 (f_X10_findError_L11 n) ih l0 l1 l2 l3 l4 l6 v2 M h
          · replace h := ifN c9 h
            refine v_iload dX10_findError_76 0 rfl ?_
            refine v_bipush (v := 35) dX10_findError_78 cb_35 ?_
            refine v_icmp_ne (tgt := 105) dX10_findError_80 (by decide) (fun c8 => ?_) (fun c8 => ?_)
            · replace h := ifN c8 h
              refine v_iload dX10_findError_105 0 rfl ?_
              obtain ⟨v4, M3, e, h⟩ := bindP_some h
              refine ca_X10_39 e dX10_findError_107 (Nat.le_of_ble_eq_true rfl) (by decide) ?_
              refine v_if_eq (tgt := 125) dX10_findError_110 (by decide) (fun c7 => ?_) (fun c7 => ?_)
              · replace h := ifP c7 h
                refine v_iload dX10_findError_125 7 rfl ?_
                cases h
                exact v_ireturn dX10_findError_127
              · replace h := ifN c7 h
                refine v_iload dX10_findError_113 6 rfl ?_
                refine v_if_ne (tgt := 125) dX10_findError_115 (by decide) (fun c6 => ?_) (fun c6 => ?_)
                · replace h := ifN c6 h
                  refine v_iload dX10_findError_125 7 rfl ?_
                  cases h
                  exact v_ireturn dX10_findError_127
                · replace h := ifP c6 h
                  refine v_iload dX10_findError_118 5 rfl ?_
                  refine v_bipush (v := 6) dX10_findError_120 cb_6 ?_
                  refine v_icmp_ne (tgt := 128) dX10_findError_122 (by decide) (fun c5 => ?_) (fun c5 => ?_)
                  · replace h := ifN c5 h
                    refine v_iinc (ls' := [(4, .int (l4 + 1)), (7, .int v2), (0, .ref l0), (1, .int l1), (2, .int l2), (3, .int l3), (5, .int l5), (6, .int l6)]) dX10_findError_128 5 rfl (v := 1) ci_1 (by decide) rfl ?_
                    refine v_iinc (ls' := [(6, .int (l6 + 1)), (4, .int (l4 + 1)), (7, .int v2), (0, .ref l0), (1, .int l1), (2, .int l2), (3, .int l3), (5, .int l5)]) dX10_findError_131 7 rfl (v := 1) ci_1 (by decide) rfl ?_
                    refine v_goto (tgt := 11) dX10_findError_134 (by decide) ?_
                    refine v_sub [3, 4, 5, 6, 1, 7, 0] rfl ?_
                    exact ih l0 l1 l2 l3 (l4 + 1) l5 (l6 + 1) M3 h
                  · replace h := ifP c5 h
                    refine v_iload dX10_findError_125 7 rfl ?_
                    cases h
                    exact v_ireturn dX10_findError_127
            · replace h := ifP c8 h
              refine v_sub [1, 2, 3, 4, 5, 7, 0] rfl ?_
              exact w_X10_findError_J83 (f_X10_findError_L11 n) ih l0 l1 l2 l3 l4 l6 v2 M h
        · replace h := ifP c10 h
          refine v_iload dX10_findError_37 5 rfl ?_
          refine v_if_eq (tgt := 54) dX10_findError_39 (by decide) (fun c5 => ?_) (fun c5 => ?_)
          · replace h := ifP c5 h
            refine v_iload dX10_findError_54 7 rfl ?_
            cases h
            exact v_ireturn dX10_findError_56
          · replace h := ifN c5 h
            refine v_iload dX10_findError_42 6 rfl ?_
            refine v_bipush (v := 35) dX10_findError_44 cb_35 ?_
            refine v_icmp_eq (tgt := 54) dX10_findError_46 (by decide) (fun c4 => ?_) (fun c4 => ?_)
            · replace h := ifP c4 h
              refine v_iload dX10_findError_54 7 rfl ?_
              cases h
              exact v_ireturn dX10_findError_56
            · replace h := ifN c4 h
              refine v_iload_n dX10_findError_49 rfl 4 rfl ?_
              refine v_iconst (v := 4) dX10_findError_50 ci_4 ?_
              refine v_icmp_ne (tgt := 57) dX10_findError_51 (by decide) (fun c3 => ?_) (fun c3 => ?_)
              · replace h := ifN c3 h
                refine v_iinc (ls' := [(3, .int (l3 + 1)), (7, .int v2), (0, .ref l0), (1, .int l1), (2, .int l2), (4, .int l4), (5, .int l5), (6, .int l6)]) dX10_findError_57 4 rfl (v := 1) ci_1 (by decide) rfl ?_
                refine v_iconst (v := 0) dX10_findError_60 ci_0 ?_
                refine v_istore (ls' := [(4, .int (0 : Int32)), (3, .int (l3 + 1)), (7, .int v2), (0, .ref l0), (1, .int l1), (2, .int l2), (5, .int l5), (6, .int l6)]) dX10_findError_61 (by decide) rfl ?_
                refine v_iconst (v := 0) dX10_findError_63 ci_0 ?_
                refine v_istore (ls' := [(5, .int (0 : Int32)), (4, .int (0 : Int32)), (3, .int (l3 + 1)), (7, .int v2), (0, .ref l0), (1, .int l1), (2, .int l2), (6, .int l6)]) dX10_findError_64 (by decide) rfl ?_
                refine v_goto (tgt := 131) dX10_findError_66 (by decide) ?_
                refine v_iinc (ls' := [(6, .int (l6 + 1)), (5, .int (0 : Int32)), (4, .int (0 : Int32)), (3, .int (l3 + 1)), (7, .int v2), (0, .ref l0), (1, .int l1), (2, .int l2)]) dX10_findError_131 7 rfl (v := 1) ci_1 (by decide) rfl ?_
                refine v_goto (tgt := 11) dX10_findError_134 (by decide) ?_
                refine v_sub [5, 6, 7, 3, 2, 1, 0] rfl ?_
                exact ih l0 l1 l2 (l3 + 1) (0 : Int32) (0 : Int32) (l6 + 1) M h
              · replace h := ifP c3 h
                refine v_iload dX10_findError_54 7 rfl ?_
                cases h
                exact v_ireturn dX10_findError_56
set_option maxHeartbeats 4000000 in
set_option maxRecDepth 100000 in
theorem w_X10_findError {G : Gl} {ρ0 : Nat → Nat} {M0 MF : Mem} {r : Int32} (l0 : Nat) (l1 : Int32) (l2 : Int32) (M : Mem) (h : f_X10_findError l0 l1 l2 M = some (r, MF)) : V G (RX10, cX10_findError, (some .int), 1, 20, 8, "findError", []) (ρ0, M0, cvI r, MF) 0 [(0, .ref l0), (1, .int l1), (2, .int l2)] [] M := by
  unfold f_X10_findError at h
  refine v_iconst (v := 1) dX10_findError_0 ci_1 ?_
  refine v_istore_n (ls' := [(3, .int (1 : Int32)), (0, .ref l0), (1, .int l1), (2, .int l2)]) dX10_findError_1 rfl (by decide) rfl ?_
  refine v_iconst (v := 0) dX10_findError_2 ci_0 ?_
  refine v_istore (ls' := [(4, .int (0 : Int32)), (3, .int (1 : Int32)), (0, .ref l0), (1, .int l1), (2, .int l2)]) dX10_findError_3 (by decide) rfl ?_
  refine v_iconst (v := 0) dX10_findError_5 ci_0 ?_
  refine v_istore (ls' := [(5, .int (0 : Int32)), (4, .int (0 : Int32)), (3, .int (1 : Int32)), (0, .ref l0), (1, .int l1), (2, .int l2)]) dX10_findError_6 (by decide) rfl ?_
  refine v_iconst (v := 0) dX10_findError_8 ci_0 ?_
  refine v_istore (ls' := [(6, .int (0 : Int32)), (5, .int (0 : Int32)), (4, .int (0 : Int32)), (3, .int (1 : Int32)), (0, .ref l0), (1, .int l1), (2, .int l2)]) dX10_findError_9 (by decide) rfl ?_
  refine v_sub [4, 5, 6, 3, 2, 1, 0] rfl ?_
  exact w_X10_findError_L11 FU l0 l1 l2 (1 : Int32) (0 : Int32) (0 : Int32) (0 : Int32) M h
theorem k_X10_findError {G : Gl} {l0 : Nat} {l1 : Int32} {l2 : Int32} {M MF : Mem} {r : Int32} (h : f_X10_findError l0 l1 l2 M = some (r, MF)) : CtrP G yX10_findError cX10_findError 8 (some .int) 1 20 [.ref l0, .int l1, .int l2] M (cvI r) MF :=
  ctr_of (by decide +kernel) (Nat.le_of_ble_eq_true rfl) (fun ρ => w_X10_findError l0 l1 l2 M h)
theorem wd_X11_353 : wdT RX11 353 yX10_findError cX10_findError 8 (some .int) 3 := ⟨gwi 895 (by decide +kernel) (by decide +kernel), gwi 896 (by decide +kernel) (by decide +kernel), nw_X10, gwi 897 (by decide +kernel) (by decide +kernel), ⟨by decide +kernel, by decide +kernel, by decide +kernel⟩⟩
theorem ca_X11_353 {G : Gl} {B : Bx} {cc : ByteArray} {ret : Option FieldType} {fr lo nL : Nat} {mn : String} {hh : List (Nat × Nat × Nat × Nat)} {pc : Nat} {ls : List (Nat × Value)} {st : List Value} {M M1 : Mem} {l0 : Nat} {l1 : Int32} {l2 : Int32} {x : Int32} (e : f_X10_findError l0 l1 l2 M = some (x, M1)) (hd : decode cc pc = .ok (.invokestatic 353, 3)) (hcat : (st.map fun v => v.category).sum ≤ 8) (hR : 1 + 1 ≤ fr ∧ 8 + (8 + 11) + 20 ≤ lo) (k : V G (RX11, cc, ret, fr, lo, nL, mn, hh) B (pc + 3) ls (.int x :: st) M1) : V G (RX11, cc, ret, fr, lo, nL, mn, hh) B pc ls (.int l2 :: .int l1 :: .ref l0 :: st) M := v_callSi (As := [.ref l0, .int l1, .int l2]) (k_X10_findError e) wd_X11_353 hd rfl rfl hcat hR k
set_option maxHeartbeats 4000000 in
set_option maxRecDepth 100000 in
theorem w_X11_init {G : Gl} {ρ0 : Nat → Nat} {M0 MF : Mem} {r : Unit} (l0 : Nat) (M : Mem) (h : f_X11_init l0 M = some MF) : V G (RX11, cX11_init, none, 6, 129, 2, "<init>", []) (ρ0, M0, cvV r, MF) 0 [(0, .ref l0)] [] M := by
  unfold f_X11_init at h
  refine v_aload_n dX11_init_0 rfl 0 rfl ?_
  refine oi_X11 dX11_init_1 (by decide) (Nat.le_of_ble_eq_true rfl) ?_
  obtain ⟨v1, M2, e, h⟩ := bindP_some h
  refine nx_X11_7 e dX11_init_4 ?_
  refine v_dup dX11_init_7 rfl ?_
  refine v_iconst (v := 0) dX11_init_8 ci_0 ?_
  obtain ⟨v3, M4, e, h⟩ := bindP_some h
  refine v_newa_char dX11_init_9 aw_char e ?_
  refine v_iconst (v := 0) dX11_init_11 ci_0 ?_
  obtain ⟨M5, e, h⟩ := bind_some h
  refine ca_X11_9 e dX11_init_12 (Nat.le_of_ble_eq_true rfl) (by decide) ?_
  refine v_astore_n (ls' := [(1, .ref v1), (0, .ref l0)]) dX11_init_15 rfl (by decide) rfl ?_
  refine v_aload_n dX11_init_16 rfl 1 rfl ?_
  refine v_bipush (v := 30) dX11_init_17 cb_30 ?_
  obtain ⟨v6, M7, e, h⟩ := bindP_some h
  refine v_newa_char dX11_init_19 aw_char e ?_
  obtain ⟨M8, e, h⟩ := bind_some h
  refine pt_X11_14 e dX11_init_21 ?_
  refine v_aload_n dX11_init_24 rfl 1 rfl ?_
  refine v_iconst (v := (-1)) dX11_init_25 ci_m1 ?_
  obtain ⟨M9, e, h⟩ := bind_some h
  refine pt_X11_18 e dX11_init_26 ?_
  refine v_aload_n dX11_init_29 rfl 1 rfl ?_
  obtain ⟨v10, M11, e, h⟩ := bindP_some h
  refine nx_X11_22 e dX11_init_30 ?_
  refine v_dup dX11_init_33 rfl ?_
  refine v_aload_n dX11_init_34 rfl 0 rfl ?_
  obtain ⟨M12, e, h⟩ := bind_some h
  refine ca_X11_24 e dX11_init_35 (Nat.le_of_ble_eq_true rfl) (by decide) ?_
  obtain ⟨M13, e, h⟩ := bind_some h
  refine pt_X11_27 e dX11_init_38 ?_
  refine v_aload_n dX11_init_41 rfl 1 rfl ?_
  obtain ⟨v14, M15, e, h⟩ := bindP_some h
  refine nx_X11_31 e dX11_init_42 ?_
  refine v_dup dX11_init_45 rfl ?_
  refine v_aload_n dX11_init_46 rfl 0 rfl ?_
  obtain ⟨M16, e, h⟩ := bind_some h
  refine ca_X11_33 e dX11_init_47 (Nat.le_of_ble_eq_true rfl) (by decide) ?_
  obtain ⟨M17, e, h⟩ := bind_some h
  refine pt_X11_34 e dX11_init_50 ?_
  refine v_aload_n dX11_init_53 rfl 1 rfl ?_
  obtain ⟨v18, M19, e, h⟩ := bindP_some h
  refine nx_X11_38 e dX11_init_54 ?_
  refine v_dup dX11_init_57 rfl ?_
  refine v_aload_n dX11_init_58 rfl 0 rfl ?_
  obtain ⟨M20, e, h⟩ := bind_some h
  refine ca_X11_40 e dX11_init_59 (Nat.le_of_ble_eq_true rfl) (by decide) ?_
  obtain ⟨M21, e, h⟩ := bind_some h
  refine pt_X11_41 e dX11_init_62 ?_
  refine v_aload_n dX11_init_65 rfl 1 rfl ?_
  obtain ⟨v22, M23, e, h⟩ := bindP_some h
  refine nx_X11_38 e dX11_init_66 ?_
  refine v_dup dX11_init_69 rfl ?_
  refine v_aload_n dX11_init_70 rfl 0 rfl ?_
  obtain ⟨M24, e, h⟩ := bind_some h
  refine ca_X11_40 e dX11_init_71 (Nat.le_of_ble_eq_true rfl) (by decide) ?_
  obtain ⟨M25, e, h⟩ := bind_some h
  refine pt_X11_45 e dX11_init_74 ?_
  cases h
  exact v_vreturn dX11_init_77
theorem k_X11_init {G : Gl} {l0 : Nat} {M MF : Mem} (h : f_X11_init l0 M = some MF) : CtrP G yX11_init cX11_init 2 none 6 129 [.ref l0] M (cvV ()) MF :=
  ctr_of (by decide +kernel) (Nat.le_of_ble_eq_true rfl) (fun ρ => w_X11_init (r := ()) l0 M h)
set_option maxHeartbeats 4000000 in
set_option maxRecDepth 100000 in
theorem w_X11_append_L76 {G : Gl} {ρ0 : Nat → Nat} {M0 MF : Mem} {r : Int32 ⊕ Nat} : ∀ (n : Nat) (l0 : Nat) (l1 : Int32) (l3 : Int32) (M : Mem), f_X11_append_L76 n l0 l1 l3 M = some (r, MF) → V G (RX11, cX11_append, (some .int), 6, 89, 5, "append", []) (ρ0, M0, cxI r, MF) 76 [(0, .ref l0), (1, .int l1), (3, .int l3)] [] M := by
  intro n
  induction n with
  | zero => intro l0 l1 l3 M h; cases h
  | succ n ih =>
    intro l0 l1 l3 M h
    rw [f_X11_append_L76] at h
    refine v_iload_n dX11_append_76 rfl 2 rfl ?_
    refine v_if_lt (tgt := 141) dX11_append_77 (by decide) (fun c13 => ?_) (fun c13 => ?_)
    · replace h := ifP c13 h
      refine v_aload_n dX11_append_141 rfl 0 rfl ?_
      obtain ⟨v1, e, h⟩ := bind_some h
      refine gt_X11_51 e dX11_append_142 ?_
      cases h
      exact v_ireturn dX11_append_145
    · replace h := ifN c13 h
      refine v_iload_n dX11_append_80 rfl 1 rfl ?_
      refine v_iload_n dX11_append_81 rfl 2 rfl ?_
      refine v_iushr dX11_append_82 ?_
      refine v_sipush (v := 255) dX11_append_83 cs_255 ?_
      refine v_iand dX11_append_86 ?_
      refine v_istore (ls' := [(4, .int ((iushrE l1 l3) &&& (255 : Int32))), (0, .ref l0), (1, .int l1), (3, .int l3)]) dX11_append_87 (by decide) rfl ?_
      refine v_iload dX11_append_89 0 rfl ?_
      refine v_if_eq (tgt := 135) dX11_append_91 (by decide) (fun c12 => ?_) (fun c12 => ?_)
      · replace h := ifP c12 h
        refine v_iinc (ls' := [(3, .int (l3 + (-8))), (4, .int ((iushrE l1 l3) &&& (255 : Int32))), (0, .ref l0), (1, .int l1)]) dX11_append_135 3 rfl (v := (-8)) ci_m8 (by decide) rfl ?_
        refine v_goto (tgt := 76) dX11_append_138 (by decide) ?_
        refine v_sub [2, 3, 0] rfl ?_
        exact ih l0 l1 (l3 + (-8)) M h
      · replace h := ifN c12 h
        refine v_aload_n dX11_append_94 rfl 1 rfl ?_
        obtain ⟨v1, e, h⟩ := bind_some h
        refine gt_X11_51 e dX11_append_95 ?_
        refine v_if_lt (tgt := 135) dX11_append_98 (by decide) (fun c11 => ?_) (fun c11 => ?_)
        · replace h := ifP c11 h
          refine v_iinc (ls' := [(3, .int (l3 + (-8))), (4, .int ((iushrE l1 l3) &&& (255 : Int32))), (0, .ref l0), (1, .int l1)]) dX11_append_135 3 rfl (v := (-8)) ci_m8 (by decide) rfl ?_
          refine v_goto (tgt := 76) dX11_append_138 (by decide) ?_
          refine v_sub [2, 3, 0] rfl ?_
          exact ih l0 l1 (l3 + (-8)) M h
        · replace h := ifN c11 h
          refine v_aload_n dX11_append_101 rfl 1 rfl ?_
          obtain ⟨v2, e, h⟩ := bind_some h
          refine gt_X11_51 e dX11_append_102 ?_
          refine v_aload_n dX11_append_105 rfl 1 rfl ?_
          obtain ⟨v3, e, h⟩ := bind_some h
          refine gt_X11_14 e dX11_append_106 ?_
          obtain ⟨v4, e, h⟩ := bind_some h
          refine v_alen dX11_append_109 e ?_
          refine v_icmp_ge (tgt := 135) dX11_append_110 (by decide) (fun c10 => ?_) (fun c10 => ?_)
          · replace h := ifP c10 h
            refine v_iinc (ls' := [(3, .int (l3 + (-8))), (4, .int ((iushrE l1 l3) &&& (255 : Int32))), (0, .ref l0), (1, .int l1)]) dX11_append_135 3 rfl (v := (-8)) ci_m8 (by decide) rfl ?_
            refine v_goto (tgt := 76) dX11_append_138 (by decide) ?_
            refine v_sub [2, 3, 0] rfl ?_
            exact ih l0 l1 (l3 + (-8)) M h
          · replace h := ifN c10 h
            refine v_aload_n dX11_append_113 rfl 1 rfl ?_
            obtain ⟨v5, e, h⟩ := bind_some h
            refine gt_X11_14 e dX11_append_114 ?_
            refine v_aload_n dX11_append_117 rfl 1 rfl ?_
            obtain ⟨v6, e, h⟩ := bind_some h
            refine gt_X11_51 e dX11_append_118 ?_
            refine v_iload dX11_append_121 0 rfl ?_
            refine v_i2c dX11_append_123 ?_
            obtain ⟨M7, e, h⟩ := bind_some h
            refine v_castore dX11_append_124 e ?_
            refine v_aload_n dX11_append_125 rfl 1 rfl ?_
            refine v_dup dX11_append_126 rfl ?_
            obtain ⟨v8, e, h⟩ := bind_some h
            refine gt_X11_51 e dX11_append_127 ?_
            refine v_iconst (v := 1) dX11_append_130 ci_1 ?_
            refine v_iadd dX11_append_131 ?_
            obtain ⟨M9, e, h⟩ := bind_some h
            refine pt_X11_51 e dX11_append_132 ?_
            refine v_iinc (ls' := [(3, .int (l3 + (-8))), (4, .int ((iushrE l1 l3) &&& (255 : Int32))), (0, .ref l0), (1, .int l1)]) dX11_append_135 3 rfl (v := (-8)) ci_m8 (by decide) rfl ?_
            refine v_goto (tgt := 76) dX11_append_138 (by decide) ?_
            refine v_sub [2, 3, 0] rfl ?_
            exact ih l0 l1 (l3 + (-8)) M9 h
theorem w_X11_append_J37 {G : Gl} {ρ0 : Nat → Nat} {M0 MF : Mem} {r : Int32 ⊕ Nat} (M : Mem) (h : f_X11_append_J37 M = some (r, MF)) : V G (RX11, cX11_append, (some .int), 6, 89, 5, "append", []) (ρ0, M0, cxI r, MF) 37 [] [] M := by
  unfold f_X11_append_J37 at h
  cases h
  exact th_1 dX11_append_37 dX11_append_40 dX11_append_41 dX11_append_44 (by decide) (Nat.le_of_ble_eq_true rfl)
set_option maxHeartbeats 4000000 in
set_option maxRecDepth 100000 in
theorem w_X11_append_L5 {G : Gl} {ρ0 : Nat → Nat} {M0 MF : Mem} {r : Int32 ⊕ Nat} : ∀ (n : Nat) (l0 : Nat) (l1 : Int32) (l2 : Int32) (l3 : Int32) (M : Mem), f_X11_append_L5 n l0 l1 l2 l3 M = some (r, MF) → V G (RX11, cX11_append, (some .int), 6, 89, 5, "append", []) (ρ0, M0, cxI r, MF) 5 [(0, .ref l0), (1, .int l1), (2, .int l2), (3, .int l3)] [] M := by
  intro n
  induction n with
  | zero => intro l0 l1 l2 l3 M h; cases h
  | succ n ih =>
    intro l0 l1 l2 l3 M h
    rw [f_X11_append_L5] at h
    refine v_iload_n dX11_append_5 rfl 3 rfl ?_
    refine v_if_lt (tgt := 54) dX11_append_6 (by decide) (fun c4 => ?_) (fun c4 => ?_)
    · replace h := ifP c4 h
      refine v_aload_n dX11_append_54 rfl 0 rfl ?_
      obtain ⟨v1, e, h⟩ := bind_some h
      refine gt_X11_51 e dX11_append_55 ?_
      refine v_iload_n dX11_append_58 rfl 2 rfl ?_
      refine v_iadd dX11_append_59 ?_
      refine v_bipush (v := 30) dX11_append_60 cb_30 ?_
      refine v_icmp_le (tgt := 73) dX11_append_62 (by decide) (fun c2 => ?_) (fun c2 => ?_)
      · replace h := ifP c2 h
        refine v_bipush (v := 24) dX11_append_73 cb_24 ?_
        refine v_istore_n (ls' := [(3, .int (24 : Int32)), (0, .ref l0), (1, .int l1), (2, .int l2)]) dX11_append_75 rfl (by decide) rfl ?_
        refine v_sub [1, 2, 0] rfl ?_
        exact w_X11_append_L76 FU l0 l1 (24 : Int32) M h
      · replace h := ifN c2 h
        cases h
        exact th_2 dX11_append_65 dX11_append_68 dX11_append_69 dX11_append_72 (by decide) (Nat.le_of_ble_eq_true rfl)
    · replace h := ifN c4 h
      refine v_iload_n dX11_append_9 rfl 1 rfl ?_
      refine v_iload_n dX11_append_10 rfl 3 rfl ?_
      refine v_iushr dX11_append_11 ?_
      refine v_sipush (v := 255) dX11_append_12 cs_255 ?_
      refine v_iand dX11_append_15 ?_
      refine v_istore (ls' := [(4, .int ((iushrE l1 l3) &&& (255 : Int32))), (0, .ref l0), (1, .int l1), (2, .int l2), (3, .int l3)]) dX11_append_16 (by decide) rfl ?_
      refine v_iload dX11_append_18 0 rfl ?_
      refine v_if_eq (tgt := 48) dX11_append_20 (by decide) (fun c3 => ?_) (fun c3 => ?_)
      · replace h := ifP c3 h
        refine v_iinc (ls' := [(3, .int (l3 + (-8))), (4, .int ((iushrE l1 l3) &&& (255 : Int32))), (0, .ref l0), (1, .int l1), (2, .int l2)]) dX11_append_48 4 rfl (v := (-8)) ci_m8 (by decide) rfl ?_
        refine v_goto (tgt := 5) dX11_append_51 (by decide) ?_
        refine v_sub [2, 3, 4, 0] rfl ?_
        exact ih l0 l1 l2 (l3 + (-8)) M h
      · replace h := ifN c3 h
        refine v_iload dX11_append_23 0 rfl ?_
        refine v_bipush (v := 33) dX11_append_25 cb_33 ?_
        refine v_icmp_lt (tgt := 37) dX11_append_27 (by decide) (fun c2 => ?_) (fun c2 => ?_)
        · replace h := ifP c2 h
          refine v_sub [] rfl ?_
          exact w_X11_append_J37 M h
        · replace h := ifN c2 h
          refine v_iload dX11_append_30 0 rfl ?_
          refine v_bipush (v := 126) dX11_append_32 cb_126 ?_
          refine v_icmp_le (tgt := 45) dX11_append_34 (by decide) (fun c1 => ?_) (fun c1 => ?_)
          · replace h := ifP c1 h
            refine v_iinc (ls' := [(2, .int (l2 + 1)), (4, .int ((iushrE l1 l3) &&& (255 : Int32))), (0, .ref l0), (1, .int l1), (3, .int l3)]) dX11_append_45 3 rfl (v := 1) ci_1 (by decide) rfl ?_
            refine v_iinc (ls' := [(3, .int (l3 + (-8))), (2, .int (l2 + 1)), (4, .int ((iushrE l1 l3) &&& (255 : Int32))), (0, .ref l0), (1, .int l1)]) dX11_append_48 4 rfl (v := (-8)) ci_m8 (by decide) rfl ?_
            refine v_goto (tgt := 5) dX11_append_51 (by decide) ?_
            refine v_sub [3, 4, 1, 0] rfl ?_
            exact ih l0 l1 (l2 + 1) (l3 + (-8)) M h
          · replace h := ifN c1 h
            refine v_sub [] rfl ?_
            exact w_X11_append_J37 M h
set_option maxHeartbeats 4000000 in
set_option maxRecDepth 100000 in
theorem w_X11_append {G : Gl} {ρ0 : Nat → Nat} {M0 MF : Mem} {r : Int32 ⊕ Nat} (l0 : Nat) (l1 : Int32) (M : Mem) (h : f_X11_append l0 l1 M = some (r, MF)) : V G (RX11, cX11_append, (some .int), 6, 89, 5, "append", []) (ρ0, M0, cxI r, MF) 0 [(0, .ref l0), (1, .int l1)] [] M := by
  unfold f_X11_append at h
  replace h := (ifS h).2
  refine v_iconst (v := 0) dX11_append_0 ci_0 ?_
  refine v_istore_n (ls' := [(2, .int (0 : Int32)), (0, .ref l0), (1, .int l1)]) dX11_append_1 rfl (by decide) rfl ?_
  refine v_bipush (v := 24) dX11_append_2 cb_24 ?_
  refine v_istore_n (ls' := [(3, .int (24 : Int32)), (2, .int (0 : Int32)), (0, .ref l0), (1, .int l1)]) dX11_append_4 rfl (by decide) rfl ?_
  refine v_sub [2, 3, 1, 0] rfl ?_
  exact w_X11_append_L5 FU l0 l1 (0 : Int32) (24 : Int32) M h
theorem kd_X11_append {l0 : Nat} {l1 : Int32} {M : Mem} {z : _} (h : f_X11_append l0 l1 M = some z) : (mK M l0).1 = 11 := by
  unfold f_X11_append at h
  exact (ifS h).1
theorem k_X11_append {G : Gl} {l0 : Nat} {l1 : Int32} {M MF : Mem} {r : Int32 ⊕ Nat} (h : f_X11_append l0 l1 M = some (r, MF)) : CtrP G yX11_append cX11_append 5 (some .int) 6 89 [.ref l0, .int l1] M (cxI r) MF :=
  ctr_of (by decide +kernel) (Nat.le_of_ble_eq_true rfl) (fun ρ => w_X11_append l0 l1 M h)
set_option maxHeartbeats 4000000 in
set_option maxRecDepth 100000 in
theorem w_X11_errorPosition {G : Gl} {ρ0 : Nat → Nat} {M0 MF : Mem} {r : Int32} (l0 : Nat) (M : Mem) (h : f_X11_errorPosition l0 M = some (r, MF)) : V G (RX11, cX11_errorPosition, (some .int), 0, 0, 1, "errorPosition", []) (ρ0, M0, cvI r, MF) 0 [(0, .ref l0)] [] M := by
  unfold f_X11_errorPosition at h
  replace h := (ifS h).2
  refine v_aload_n dX11_errorPosition_0 rfl 0 rfl ?_
  obtain ⟨v1, e, h⟩ := bind_some h
  refine gt_X11_18 e dX11_errorPosition_1 ?_
  cases h
  exact v_ireturn dX11_errorPosition_4
theorem kd_X11_errorPosition {l0 : Nat} {M : Mem} {z : _} (h : f_X11_errorPosition l0 M = some z) : (mK M l0).1 = 11 := by
  unfold f_X11_errorPosition at h
  exact (ifS h).1
theorem k_X11_errorPosition {G : Gl} {l0 : Nat} {M MF : Mem} {r : Int32} (h : f_X11_errorPosition l0 M = some (r, MF)) : CtrP G yX11_errorPosition cX11_errorPosition 1 (some .int) 0 0 [.ref l0] M (cvI r) MF :=
  ctr_of (by decide +kernel) (Nat.le_of_ble_eq_true rfl) (fun ρ => w_X11_errorPosition l0 M h)
theorem w_X11_setOption_J38 {G : Gl} {ρ0 : Nat → Nat} {M0 MF : Mem} {r : Int32 ⊕ Nat} (M : Mem) (h : f_X11_setOption_J38 M = some (r, MF)) : V G (RX11, cX11_setOption, (some .int), 6, 89, 4, "setOption", []) (ρ0, M0, cxI r, MF) 38 [] [] M := by
  unfold f_X11_setOption_J38 at h
  cases h
  exact th_1 dX11_setOption_38 dX11_setOption_41 dX11_setOption_42 dX11_setOption_45 (by decide) (Nat.le_of_ble_eq_true rfl)
theorem w_X11_setOption_J12 {G : Gl} {ρ0 : Nat → Nat} {M0 MF : Mem} {r : Int32 ⊕ Nat} (M : Mem) (h : f_X11_setOption_J12 M = some (r, MF)) : V G (RX11, cX11_setOption, (some .int), 6, 89, 4, "setOption", []) (ρ0, M0, cxI r, MF) 12 [] [] M := by
  unfold f_X11_setOption_J12 at h
  cases h
  exact th_3 dX11_setOption_12 dX11_setOption_15 dX11_setOption_16 dX11_setOption_19 (by decide) (Nat.le_of_ble_eq_true rfl)
set_option maxHeartbeats 4000000 in
set_option maxRecDepth 100000 in
theorem w_X11_setOption {G : Gl} {ρ0 : Nat → Nat} {M0 MF : Mem} {r : Int32 ⊕ Nat} (l0 : Nat) (l1 : Int32) (l2 : Int32) (M : Mem) (h : f_X11_setOption l0 l1 l2 M = some (r, MF)) : V G (RX11, cX11_setOption, (some .int), 6, 89, 4, "setOption", []) (ρ0, M0, cxI r, MF) 0 [(0, .ref l0), (1, .int l1), (2, .int l2)] [] M := by
  unfold f_X11_setOption at h
  replace h := (ifS h).2
  refine v_iload_n dX11_setOption_0 rfl 1 rfl ?_
  refine v_if_lt (tgt := 12) dX11_setOption_1 (by decide) (fun c12 => ?_) (fun c12 => ?_)
  · replace h := ifP c12 h
    refine v_sub [] rfl ?_
    exact w_X11_setOption_J12 M h
  · replace h := ifN c12 h
    refine v_iload_n dX11_setOption_4 rfl 1 rfl ?_
    refine gs_X11_57 dX11_setOption_5 ?_
    refine v_stlen (w := 2) (by decide) dX11_setOption_8 ?_
    refine v_icmp_lt (tgt := 20) dX11_setOption_9 (by decide) (fun c11 => ?_) (fun c11 => ?_)
    · replace h := ifP c11 h
      refine v_iload_n dX11_setOption_20 rfl 2 rfl ?_
      refine gs_X11_64 dX11_setOption_21 ?_
      refine v_iload_n dX11_setOption_24 rfl 1 rfl ?_
      obtain ⟨v1, e, h⟩ := bind_some h
      refine v_stld (w := 0) (by decide) dX11_setOption_25 e ?_
      refine v_icmp_lt (tgt := 38) dX11_setOption_26 (by decide) (fun c10 => ?_) (fun c10 => ?_)
      · replace h := ifP c10 h
        refine v_sub [] rfl ?_
        exact w_X11_setOption_J38 M h
      · replace h := ifN c10 h
        refine v_iload_n dX11_setOption_29 rfl 2 rfl ?_
        refine gs_X11_67 dX11_setOption_30 ?_
        refine v_iload_n dX11_setOption_33 rfl 1 rfl ?_
        obtain ⟨v2, e, h⟩ := bind_some h
        refine v_stld (w := 1) (by decide) dX11_setOption_34 e ?_
        refine v_icmp_le (tgt := 46) dX11_setOption_35 (by decide) (fun c9 => ?_) (fun c9 => ?_)
        · replace h := ifP c9 h
          refine v_aload_n dX11_setOption_46 rfl 0 rfl ?_
          obtain ⟨v3, e, h⟩ := bind_some h
          refine gt_X11_41 e dX11_setOption_47 ?_
          obtain ⟨v4, e, h⟩ := bind_some h
          refine gt_X11_70 e dX11_setOption_50 ?_
          refine v_iload_n dX11_setOption_53 rfl 1 rfl ?_
          obtain ⟨v5, e, h⟩ := bind_some h
          refine v_iaload dX11_setOption_54 e ?_
          refine v_istore_n (ls' := [(3, .int v5), (0, .ref l0), (1, .int l1), (2, .int l2)]) dX11_setOption_55 rfl (by decide) rfl ?_
          refine v_aload_n dX11_setOption_56 rfl 1 rfl ?_
          obtain ⟨v6, e, h⟩ := bind_some h
          refine gt_X11_41 e dX11_setOption_57 ?_
          obtain ⟨v7, e, h⟩ := bind_some h
          refine gt_X11_70 e dX11_setOption_60 ?_
          refine v_iload_n dX11_setOption_63 rfl 2 rfl ?_
          refine v_iload_n dX11_setOption_64 rfl 3 rfl ?_
          obtain ⟨M8, e, h⟩ := bind_some h
          refine v_iastore dX11_setOption_65 e ?_
          refine v_iload_n dX11_setOption_66 rfl 0 rfl ?_
          cases h
          exact v_ireturn dX11_setOption_67
        · replace h := ifN c9 h
          refine v_sub [] rfl ?_
          exact w_X11_setOption_J38 M h
    · replace h := ifN c11 h
      refine v_sub [] rfl ?_
      exact w_X11_setOption_J12 M h
theorem kd_X11_setOption {l0 : Nat} {l1 : Int32} {l2 : Int32} {M : Mem} {z : _} (h : f_X11_setOption l0 l1 l2 M = some z) : (mK M l0).1 = 11 := by
  unfold f_X11_setOption at h
  exact (ifS h).1
theorem k_X11_setOption {G : Gl} {l0 : Nat} {l1 : Int32} {l2 : Int32} {M MF : Mem} {r : Int32 ⊕ Nat} (h : f_X11_setOption l0 l1 l2 M = some (r, MF)) : CtrP G yX11_setOption cX11_setOption 4 (some .int) 6 89 [.ref l0, .int l1, .int l2] M (cxI r) MF :=
  ctr_of (by decide +kernel) (Nat.le_of_ble_eq_true rfl) (fun ρ => w_X11_setOption l0 l1 l2 M h)
theorem w_X11_requireClient_J10 {G : Gl} {ρ0 : Nat → Nat} {M0 MF : Mem} {r : Unit ⊕ Nat} (M : Mem) (h : f_X11_requireClient_J10 M = some (r, MF)) : V G (RX11, cX11_requireClient, none, 6, 89, 1, "requireClient", []) (ρ0, M0, cxV r, MF) 10 [] [] M := by
  unfold f_X11_requireClient_J10 at h
  cases h
  exact th_3 dX11_requireClient_10 dX11_requireClient_13 dX11_requireClient_14 dX11_requireClient_17 (by decide) (Nat.le_of_ble_eq_true rfl)
set_option maxHeartbeats 4000000 in
set_option maxRecDepth 100000 in
theorem w_X11_requireClient {G : Gl} {ρ0 : Nat → Nat} {M0 MF : Mem} {r : Unit ⊕ Nat} (l0 : Int32) (M : Mem) (h : f_X11_requireClient l0 M = some (r, MF)) : V G (RX11, cX11_requireClient, none, 6, 89, 1, "requireClient", []) (ρ0, M0, cxV r, MF) 0 [(0, .int l0)] [] M := by
  unfold f_X11_requireClient at h
  refine v_iload_n dX11_requireClient_0 rfl 0 rfl ?_
  refine v_if_lt (tgt := 10) dX11_requireClient_1 (by decide) (fun c2 => ?_) (fun c2 => ?_)
  · replace h := ifP c2 h
    refine v_sub [] rfl ?_
    exact w_X11_requireClient_J10 M h
  · replace h := ifN c2 h
    refine v_iload_n dX11_requireClient_4 rfl 0 rfl ?_
    refine v_bipush (v := 6) dX11_requireClient_5 cb_6 ?_
    refine v_icmp_lt (tgt := 18) dX11_requireClient_7 (by decide) (fun c1 => ?_) (fun c1 => ?_)
    · replace h := ifP c1 h
      cases h
      exact v_vreturn dX11_requireClient_18
    · replace h := ifN c1 h
      refine v_sub [] rfl ?_
      exact w_X11_requireClient_J10 M h
theorem k_X11_requireClient {G : Gl} {l0 : Int32} {M MF : Mem} {r : Unit ⊕ Nat} (h : f_X11_requireClient l0 M = some (r, MF)) : CtrP G yX11_requireClient cX11_requireClient 1 none 6 89 [.int l0] M (cxV r) MF :=
  ctr_of (by decide +kernel) (Nat.le_of_ble_eq_true rfl) (fun ρ => w_X11_requireClient l0 M h)
theorem wd_X11_73 : wdT RX11 73 yX11_requireClient cX11_requireClient 1 none 1 := ⟨gwi 583 (by decide +kernel) (by decide +kernel), gwi 584 (by decide +kernel) (by decide +kernel), nw_X11, gwi 585 (by decide +kernel) (by decide +kernel), ⟨by decide +kernel, by decide +kernel, by decide +kernel⟩⟩
theorem ca_X11_73 {G : Gl} {B : Bx} {cc : ByteArray} {ret : Option FieldType} {fr lo nL : Nat} {mn : String} {hh : List (Nat × Nat × Nat × Nat)} {pc : Nat} {ls : List (Nat × Value)} {st : List Value} {M M1 : Mem} {l0 : Int32} {x : Unit} (e : f_X11_requireClient l0 M = some (.inl x, M1)) (hd : decode cc pc = .ok (.invokestatic 73, 3)) (hcat : (st.map fun v => v.category).sum ≤ 8) (hR : 6 + 1 ≤ fr ∧ 8 + (1 + 11) + 89 ≤ lo) (k : V G (RX11, cc, ret, fr, lo, nL, mn, hh) B (pc + 3) ls (st) M1) : V G (RX11, cc, ret, fr, lo, nL, mn, hh) B pc ls (.int l0 :: st) M := v_callS0 (As := [.int l0]) (k_X11_requireClient e) wd_X11_73 hd rfl rfl hcat hR k
theorem cx_X11_73 {G : Gl} {ρ0 : Nat → Nat} {M0 : Mem} {cc : ByteArray} {ret : Option FieldType} {fr lo nL : Nat} {mn : String} {pc : Nat} {ls : List (Nat × Value)} {st : List Value} {M M1 : Mem} {l0 : Int32} {e9 : Nat} (e : f_X11_requireClient l0 M = some (.inr e9, M1)) (hd : decode cc pc = .ok (.invokestatic 73, 3)) (hcat : (st.map fun v => v.category).sum ≤ 8) (hR : 6 + 1 ≤ fr ∧ 8 + (1 + 11) + 89 ≤ lo) : V G (RX11, cc, ret, fr, lo, nL, mn, []) (ρ0, M0, Sum.inr e9, M1) pc ls (.int l0 :: st) M := v_callSx (As := [.int l0]) (k_X11_requireClient e) wd_X11_73 hd rfl rfl hcat hR
set_option maxHeartbeats 4000000 in
set_option maxRecDepth 100000 in
theorem w_X11_connect_J65 {G : Gl} {ρ0 : Nat → Nat} {M0 MF : Mem} {r : Int32 ⊕ Nat} (l0 : Nat) (l2 : Int32) (l3 : Nat) (M : Mem) (h : f_X11_connect_J65 l0 l2 l3 M = some (r, MF)) : V G (RX11, cX11_connect, (some .int), 7, 143, 4, "connect", []) (ρ0, M0, cxI r, MF) 65 [(0, .ref l0), (2, .int l2), (3, .ref l3)] [] M := by
  unfold f_X11_connect_J65 at h
  refine v_aload_n dX11_connect_65 rfl 2 rfl ?_
  refine v_iconst (v := 1) dX11_connect_66 ci_1 ?_
  obtain ⟨M1, e, h⟩ := bind_some h
  refine pt_X11_81 e dX11_connect_67 ?_
  refine v_aload_n dX11_connect_70 rfl 2 rfl ?_
  obtain ⟨v2, e, h⟩ := bind_some h
  refine gt_X11_94 e dX11_connect_71 ?_
  obtain ⟨v3, e, h⟩ := bind_some h
  refine gt_X11_98 e dX11_connect_74 ?_
  refine v_if_ne (tgt := 90) dX11_connect_77 (by decide) (fun c6 => ?_) (fun c6 => ?_)
  · replace h := ifN c6 h
    refine v_aload_n dX11_connect_90 rfl 0 rfl ?_
    obtain ⟨v4, e, h⟩ := bind_some h
    refine gt_X11_41 e dX11_connect_91 ?_
    refine v_aload_n dX11_connect_94 rfl 2 rfl ?_
    obtain ⟨M5, e, h⟩ := bind_some h
    refine ca_X11_110 e dX11_connect_95 (Nat.le_of_ble_eq_true rfl) (by decide) ?_
    refine v_iconst (v := 1) dX11_connect_98 ci_1 ?_
    cases h
    exact v_ireturn dX11_connect_99
  · replace h := ifP c6 h
    refine v_aload_n dX11_connect_80 rfl 2 rfl ?_
    obtain ⟨v4, e, h⟩ := bind_some h
    refine gt_X11_94 e dX11_connect_81 ?_
    refine v_iload_n dX11_connect_84 rfl 1 rfl ?_
    obtain ⟨M5, e, h⟩ := bind_some h
    refine ca_X11_106 e dX11_connect_85 (Nat.le_of_ble_eq_true rfl) (by decide) ?_
    refine v_iconst (v := 0) dX11_connect_88 ci_0 ?_
    cases h
    exact v_ireturn dX11_connect_89
set_option maxHeartbeats 4000000 in
set_option maxRecDepth 100000 in
theorem w_X11_connect_J43 {G : Gl} {ρ0 : Nat → Nat} {M0 MF : Mem} {r : Int32 ⊕ Nat} (l0 : Nat) (l1 : Int32) (l2 : Int32) (l3 : Nat) (M : Mem) (h : f_X11_connect_J43 l0 l1 l2 l3 M = some (r, MF)) : V G (RX11, cX11_connect, (some .int), 7, 143, 4, "connect", []) (ρ0, M0, cxI r, MF) 43 [(0, .ref l0), (1, .int l1), (2, .int l2), (3, .ref l3)] [] M := by
  unfold f_X11_connect_J43 at h
  refine v_iload_n dX11_connect_43 rfl 2 rfl ?_
  refine v_if_eq (tgt := 65) dX11_connect_44 (by decide) (fun c6 => ?_) (fun c6 => ?_)
  · replace h := ifP c6 h
    refine v_sub [0, 2, 3] rfl ?_
    exact w_X11_connect_J65 l0 l2 l3 M h
  · replace h := ifN c6 h
    refine v_aload_n dX11_connect_47 rfl 3 rfl ?_
    obtain ⟨v1, e, h⟩ := bind_some h
    refine gt_X11_94 e dX11_connect_48 ?_
    obtain ⟨v2, e, h⟩ := bind_some h
    refine gt_X11_98 e dX11_connect_51 ?_
    refine v_if_eq (tgt := 65) dX11_connect_54 (by decide) (fun c5 => ?_) (fun c5 => ?_)
    · replace h := ifP c5 h
      refine v_sub [0, 2, 3] rfl ?_
      exact w_X11_connect_J65 l0 l2 l3 M h
    · replace h := ifN c5 h
      refine v_aload_n dX11_connect_57 rfl 0 rfl ?_
      obtain ⟨v3, e, h⟩ := bind_some h
      refine gt_X11_41 e dX11_connect_58 ?_
      refine v_iload_n dX11_connect_61 rfl 1 rfl ?_
      obtain ⟨M4, e, h⟩ := bind_some h
      refine ca_X11_103 e dX11_connect_62 (Nat.le_of_ble_eq_true rfl) (by decide) ?_
      refine v_sub [0, 2, 3] rfl ?_
      exact w_X11_connect_J65 l0 l2 l3 M4 h
set_option maxHeartbeats 4000000 in
set_option maxRecDepth 100000 in
theorem w_X11_connect {G : Gl} {ρ0 : Nat → Nat} {M0 MF : Mem} {r : Int32 ⊕ Nat} (l0 : Nat) (l1 : Int32) (l2 : Int32) (M : Mem) (h : f_X11_connect l0 l1 l2 M = some (r, MF)) : V G (RX11, cX11_connect, (some .int), 7, 143, 4, "connect", []) (ρ0, M0, cxI r, MF) 0 [(0, .ref l0), (1, .int l1), (2, .int l2)] [] M := by
  unfold f_X11_connect at h
  replace h := (ifS h).2
  refine v_iload_n dX11_connect_0 rfl 1 rfl ?_
  rcases bindX_some h with ⟨u2, M1, e, h⟩ | ⟨e9, e, rfl⟩
  rotate_left
  · exact cx_X11_73 e dX11_connect_1 (Nat.le_of_ble_eq_true rfl) (by decide)
  refine ca_X11_73 e dX11_connect_1 (Nat.le_of_ble_eq_true rfl) (by decide) ?_
  refine v_aload_n dX11_connect_4 rfl 0 rfl ?_
  obtain ⟨v3, e, h⟩ := bind_some h
  refine gt_X11_41 e dX11_connect_5 ?_
  obtain ⟨v4, e, h⟩ := bind_some h
  refine gt_X11_77 e dX11_connect_8 ?_
  refine v_iload_n dX11_connect_11 rfl 1 rfl ?_
  obtain ⟨v5, e, h⟩ := bind_some h
  refine al_0 e dX11_connect_12 ?_
  refine v_astore_n (ls' := [(3, .ref v5), (0, .ref l0), (1, .int l1), (2, .int l2)]) dX11_connect_13 rfl (by decide) rfl ?_
  refine v_aload_n dX11_connect_14 rfl 0 rfl ?_
  obtain ⟨v6, e, h⟩ := bind_some h
  refine gt_X11_81 e dX11_connect_15 ?_
  refine v_if_eq (tgt := 43) dX11_connect_18 (by decide) (fun c14 => ?_) (fun c14 => ?_)
  · replace h := ifP c14 h
    refine v_sub [1, 2, 3, 0] rfl ?_
    exact w_X11_connect_J43 l0 l1 l2 v5 M1 h
  · replace h := ifN c14 h
    refine v_aload_n dX11_connect_21 rfl 1 rfl ?_
    obtain ⟨v7, e, h⟩ := bind_some h
    refine gt_X11_41 e dX11_connect_22 ?_
    obtain ⟨v8, e, h⟩ := bind_some h
    refine gt_X11_87 e dX11_connect_25 ?_
    refine v_iconst (v := 5) dX11_connect_28 ci_5 ?_
    refine v_dup2 dX11_connect_29 rfl rfl ?_
    obtain ⟨v9, e, h⟩ := bind_some h
    refine v_iaload dX11_connect_30 e ?_
    refine v_iconst (v := 1) dX11_connect_31 ci_1 ?_
    refine v_iadd dX11_connect_32 ?_
    obtain ⟨M10, e, h⟩ := bind_some h
    refine v_iastore dX11_connect_33 e ?_
    refine v_aload_n dX11_connect_34 rfl 1 rfl ?_
    obtain ⟨v11, e, h⟩ := bind_some h
    refine gt_X11_41 e dX11_connect_35 ?_
    refine v_iload_n dX11_connect_38 rfl 2 rfl ?_
    obtain ⟨v13, M12, e, h⟩ := bindP_some h
    refine ca_X11_90 e dX11_connect_39 (Nat.le_of_ble_eq_true rfl) (by decide) ?_
    refine v_pop dX11_connect_42 rfl ?_
    refine v_sub [1, 2, 3, 0] rfl ?_
    exact w_X11_connect_J43 l0 l1 l2 v5 M12 h
theorem kd_X11_connect {l0 : Nat} {l1 : Int32} {l2 : Int32} {M : Mem} {z : _} (h : f_X11_connect l0 l1 l2 M = some z) : (mK M l0).1 = 11 := by
  unfold f_X11_connect at h
  exact (ifS h).1
theorem k_X11_connect {G : Gl} {l0 : Nat} {l1 : Int32} {l2 : Int32} {M MF : Mem} {r : Int32 ⊕ Nat} (h : f_X11_connect l0 l1 l2 M = some (r, MF)) : CtrP G yX11_connect cX11_connect 4 (some .int) 7 143 [.ref l0, .int l1, .int l2] M (cxI r) MF :=
  ctr_of (by decide +kernel) (Nat.le_of_ble_eq_true rfl) (fun ρ => w_X11_connect l0 l1 l2 M h)
set_option maxHeartbeats 4000000 in
set_option maxRecDepth 100000 in
theorem w_X11_requireConnection {G : Gl} {ρ0 : Nat → Nat} {M0 MF : Mem} {r : Unit ⊕ Nat} (l0 : Nat) (l1 : Int32) (M : Mem) (h : f_X11_requireConnection l0 l1 M = some (r, MF)) : V G (RX11, cX11_requireConnection, none, 6, 89, 2, "requireConnection", []) (ρ0, M0, cxV r, MF) 0 [(0, .ref l0), (1, .int l1)] [] M := by
  unfold f_X11_requireConnection at h
  replace h := (ifS h).2
  refine v_aload_n dX11_requireConnection_0 rfl 0 rfl ?_
  obtain ⟨v1, e, h⟩ := bind_some h
  refine gt_X11_41 e dX11_requireConnection_1 ?_
  obtain ⟨v2, e, h⟩ := bind_some h
  refine gt_X11_77 e dX11_requireConnection_4 ?_
  refine v_iload_n dX11_requireConnection_7 rfl 1 rfl ?_
  obtain ⟨v3, e, h⟩ := bind_some h
  refine al_0 e dX11_requireConnection_8 ?_
  obtain ⟨v4, e, h⟩ := bind_some h
  refine gt_X11_81 e dX11_requireConnection_9 ?_
  refine v_if_ne (tgt := 23) dX11_requireConnection_12 (by decide) (fun c5 => ?_) (fun c5 => ?_)
  · replace h := ifN c5 h
    cases h
    exact v_vreturn dX11_requireConnection_23
  · replace h := ifP c5 h
    cases h
    exact th_2 dX11_requireConnection_15 dX11_requireConnection_18 dX11_requireConnection_19 dX11_requireConnection_22 (by decide) (Nat.le_of_ble_eq_true rfl)
theorem kd_X11_requireConnection {l0 : Nat} {l1 : Int32} {M : Mem} {z : _} (h : f_X11_requireConnection l0 l1 M = some z) : (mK M l0).1 = 11 := by
  unfold f_X11_requireConnection at h
  exact (ifS h).1
theorem k_X11_requireConnection {G : Gl} {l0 : Nat} {l1 : Int32} {M MF : Mem} {r : Unit ⊕ Nat} (h : f_X11_requireConnection l0 l1 M = some (r, MF)) : CtrP G yX11_requireConnection cX11_requireConnection 2 none 6 89 [.ref l0, .int l1] M (cxV r) MF :=
  ctr_of (by decide +kernel) (Nat.le_of_ble_eq_true rfl) (fun ρ => w_X11_requireConnection l0 l1 M h)
theorem wd_X11_114 : wdV RX11 114 RX11 yX11_requireConnection cX11_requireConnection 2 none 1 := ⟨gwi 901 (by decide +kernel) (by decide +kernel), gwi 903 (by decide +kernel) (by decide +kernel), gwi 21 (by decide +kernel) (by decide +kernel), nw_X11, gwi 904 (by decide +kernel) (by decide +kernel), ⟨rfl, by decide +kernel, by decide +kernel, by decide +kernel⟩⟩
theorem ca_X11_114 {G : Gl} {B : Bx} {cc : ByteArray} {ret : Option FieldType} {fr lo nL : Nat} {mn : String} {hh : List (Nat × Nat × Nat × Nat)} {pc : Nat} {ls : List (Nat × Value)} {st : List Value} {M M1 : Mem} {l0 : Nat} {l1 : Int32} {x : Unit} (e : f_X11_requireConnection l0 l1 M = some (.inl x, M1)) (hd : decode cc pc = .ok (.invokevirtual 114, 3)) (hcat : (st.map fun v => v.category).sum ≤ 8) (hR : 6 + 1 ≤ fr ∧ 8 + (2 + 11) + 89 ≤ lo) (k : V G (RX11, cc, ret, fr, lo, nL, mn, hh) B (pc + 3) ls (st) M1) : V G (RX11, cc, ret, fr, lo, nL, mn, hh) B pc ls (.int l1 :: .ref l0 :: st) M := v_callV0 (As := [.int l1]) (k_X11_requireConnection e) wd_X11_114 clX11 (kd_X11_requireConnection e) hd rfl rfl hcat hR k
theorem cx_X11_114 {G : Gl} {ρ0 : Nat → Nat} {M0 : Mem} {cc : ByteArray} {ret : Option FieldType} {fr lo nL : Nat} {mn : String} {pc : Nat} {ls : List (Nat × Value)} {st : List Value} {M M1 : Mem} {l0 : Nat} {l1 : Int32} {e9 : Nat} (e : f_X11_requireConnection l0 l1 M = some (.inr e9, M1)) (hd : decode cc pc = .ok (.invokevirtual 114, 3)) (hcat : (st.map fun v => v.category).sum ≤ 8) (hR : 6 + 1 ≤ fr ∧ 8 + (2 + 11) + 89 ≤ lo) : V G (RX11, cc, ret, fr, lo, nL, mn, []) (ρ0, M0, Sum.inr e9, M1) pc ls (.int l1 :: .ref l0 :: st) M := v_callVx (As := [.int l1]) (k_X11_requireConnection e) wd_X11_114 clX11 (kd_X11_requireConnection e) hd rfl rfl hcat hR
