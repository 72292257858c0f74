theorem w_X11_retained_J27 {G : Gl} {ρ0 : Nat → Nat} {M0 MF : Mem} {r : Int32 ⊕ Nat} (M : Mem) (h : f_X11_retained_J27 M = some (r, MF)) : V G (RX11, cX11_retained, (some .int), 6, 89, 4, "retained", []) (ρ0, M0, cxI r, MF) 27 [] [] M := by
  unfold f_X11_retained_J27 at h
  cases h
  exact th_3 dX11_retained_27 dX11_retained_30 dX11_retained_31 dX11_retained_34 (by decide) (Nat.le_of_ble_eq_true rfl)
set_option maxHeartbeats 4000000 in
set_option maxRecDepth 100000 in
theorem w_X11_retained {G : Gl} {ρ0 : Nat → Nat} {M0 MF : Mem} {r : Int32 ⊕ Nat} (l0 : Nat) (l1 : Int32) (l2 : Int32) (M : Mem) (h : f_X11_retained l0 l1 l2 M = some (r, MF)) : V G (RX11, cX11_retained, (some .int), 6, 89, 4, "retained", []) (ρ0, M0, cxI r, MF) 0 [(0, .ref l0), (1, .int l1), (2, .int l2)] [] M := by
  unfold f_X11_retained at h
  replace h := (ifS h).2
  refine v_iload_n dX11_retained_0 rfl 1 rfl ?_
  refine v_if_lt (tgt := 27) dX11_retained_1 (by decide) (fun c15 => ?_) (fun c15 => ?_)
  · replace h := ifP c15 h
    refine v_sub [] rfl ?_
    exact w_X11_retained_J27 M h
  · replace h := ifN c15 h
    refine v_iload_n dX11_retained_4 rfl 1 rfl ?_
    refine v_aload_n dX11_retained_5 rfl 0 rfl ?_
    obtain ⟨v1, e, h⟩ := bind_some h
    refine gt_X11_41 e dX11_retained_6 ?_
    obtain ⟨v2, e, h⟩ := bind_some h
    refine gt_X11_324 e dX11_retained_9 ?_
    refine v_icmp_ge (tgt := 27) dX11_retained_12 (by decide) (fun c14 => ?_) (fun c14 => ?_)
    · replace h := ifP c14 h
      refine v_sub [] rfl ?_
      exact w_X11_retained_J27 M h
    · replace h := ifN c14 h
      refine v_iload_n dX11_retained_15 rfl 1 rfl ?_
      refine v_aload_n dX11_retained_16 rfl 0 rfl ?_
      obtain ⟨v3, e, h⟩ := bind_some h
      refine gt_X11_41 e dX11_retained_17 ?_
      obtain ⟨v4, e, h⟩ := bind_some h
      refine gt_X11_327 e dX11_retained_20 ?_
      obtain ⟨v5, e, h⟩ := bind_some h
      refine v_alen dX11_retained_23 e ?_
      refine v_icmp_lt (tgt := 35) dX11_retained_24 (by decide) (fun c13 => ?_) (fun c13 => ?_)
      · replace h := ifP c13 h
        refine v_aload_n dX11_retained_35 rfl 0 rfl ?_
        obtain ⟨v6, e, h⟩ := bind_some h
        refine gt_X11_41 e dX11_retained_36 ?_
        obtain ⟨v7, e, h⟩ := bind_some h
        refine gt_X11_327 e dX11_retained_39 ?_
        refine v_iload_n dX11_retained_42 rfl 1 rfl ?_
        obtain ⟨v8, e, h⟩ := bind_some h
        refine al_1 e dX11_retained_43 ?_
        refine v_astore_n (ls' := [(3, .ref v8), (0, .ref l0), (1, .int l1), (2, .int l2)]) dX11_retained_44 rfl (by decide) rfl ?_
        refine v_iload_n dX11_retained_45 rfl 3 rfl ?_
        rcases Decidable.em (l2 = 0) with c12_0 | c12_0
        · replace h := ifP c12_0 h
          refine v_tsw (tgt := 72) dX11_retained_46 c12_0 (by decide) (by decide) rfl (by decide) ?_
          refine v_aload_n dX11_retained_72 rfl 0 rfl ?_
          obtain ⟨v9, e, h⟩ := bind_some h
          refine gt_X11_305 e dX11_retained_73 ?_
          cases h
          exact v_ireturn dX11_retained_76
        replace h := ifN c12_0 h
        rcases Decidable.em (l2 = 1) with c12_1 | c12_1
        · replace h := ifP c12_1 h
          refine v_tsw (tgt := 77) dX11_retained_46 c12_1 (by decide) (by decide) rfl (by decide) ?_
          refine v_aload_n dX11_retained_77 rfl 0 rfl ?_
          obtain ⟨v9, e, h⟩ := bind_some h
          refine gt_X11_306 e dX11_retained_78 ?_
          cases h
          exact v_ireturn dX11_retained_81
        replace h := ifN c12_1 h
        rcases Decidable.em (l2 = 2) with c12_2 | c12_2
        · replace h := ifP c12_2 h
          refine v_tsw (tgt := 82) dX11_retained_46 c12_2 (by decide) (by decide) rfl (by decide) ?_
          refine v_aload_n dX11_retained_82 rfl 0 rfl ?_
          obtain ⟨v9, e, h⟩ := bind_some h
          refine gt_X11_330 e dX11_retained_83 ?_
          obtain ⟨v10, e, h⟩ := bind_some h
          refine gt_X11_281 e dX11_retained_86 ?_
          obtain ⟨v11, e, h⟩ := bind_some h
          refine v_alen dX11_retained_89 e ?_
          cases h
          exact v_ireturn dX11_retained_90
        replace h := ifN c12_2 h
        refine v_tswOut (tgt := 91) dX11_retained_46 (fun k h1 h2 => by rcases (show k = 0 ∨ k = 1 ∨ k = 2 by omega) with rfl | rfl | rfl <;> assumption) (by decide) ?_
        cases h
        exact th_1 dX11_retained_91 dX11_retained_94 dX11_retained_95 dX11_retained_98 (by decide) (Nat.le_of_ble_eq_true rfl)
      · replace h := ifN c13 h
        refine v_sub [] rfl ?_
        exact w_X11_retained_J27 M h
theorem kd_X11_retained {l0 : Nat} {l1 : Int32} {l2 : Int32} {M : Mem} {z : _} (h : f_X11_retained l0 l1 l2 M = some z) : (mK M l0).1 = 11 := by
  unfold f_X11_retained at h
  exact (ifS h).1
theorem k_X11_retained {G : Gl} {l0 : Nat} {l1 : Int32} {l2 : Int32} {M MF : Mem} {r : Int32 ⊕ Nat} (h : f_X11_retained l0 l1 l2 M = some (r, MF)) : CtrP G yX11_retained cX11_retained 4 (some .int) 6 89 [.ref l0, .int l1, .int l2] M (cxI r) MF :=
  ctr_of (by decide +kernel) (Nat.le_of_ble_eq_true rfl) (fun ρ => w_X11_retained l0 l1 l2 M h)
set_option maxHeartbeats 4000000 in
set_option maxRecDepth 100000 in
theorem w_X11_total {G : Gl} {ρ0 : Nat → Nat} {M0 MF : Mem} {r : Int32 ⊕ Nat} (l0 : Nat) (l1 : Int32) (M : Mem) (h : f_X11_total l0 l1 M = some (r, MF)) : V G (RX11, cX11_total, (some .int), 7, 111, 2, "total", []) (ρ0, M0, cxI r, MF) 0 [(0, .ref l0), (1, .int l1)] [] M := by
  unfold f_X11_total at h
  replace h := (ifS h).2
  refine v_iload_n dX11_total_0 rfl 1 rfl ?_
  refine v_iconst (v := 0) dX11_total_1 ci_0 ?_
  refine v_bipush (v := 9) dX11_total_2 cb_9 ?_
  rcases bindX_some h with ⟨u2, M1, e, h⟩ | ⟨e9, e, rfl⟩
  rotate_left
  · exact cx_X11_131 e dX11_total_4 (Nat.le_of_ble_eq_true rfl) (by decide)
  refine ca_X11_131 e dX11_total_4 (Nat.le_of_ble_eq_true rfl) (by decide) ?_
  refine v_aload_n dX11_total_7 rfl 0 rfl ?_
  obtain ⟨v3, e, h⟩ := bind_some h
  refine gt_X11_41 e dX11_total_8 ?_
  obtain ⟨v4, e, h⟩ := bind_some h
  refine gt_X11_87 e dX11_total_11 ?_
  refine v_iload_n dX11_total_14 rfl 1 rfl ?_
  obtain ⟨v5, e, h⟩ := bind_some h
  refine v_iaload dX11_total_15 e ?_
  cases h
  exact v_ireturn dX11_total_16
theorem kd_X11_total {l0 : Nat} {l1 : Int32} {M : Mem} {z : _} (h : f_X11_total l0 l1 M = some z) : (mK M l0).1 = 11 := by
  unfold f_X11_total at h
  exact (ifS h).1
theorem k_X11_total {G : Gl} {l0 : Nat} {l1 : Int32} {M MF : Mem} {r : Int32 ⊕ Nat} (h : f_X11_total l0 l1 M = some (r, MF)) : CtrP G yX11_total cX11_total 2 (some .int) 7 111 [.ref l0, .int l1] M (cxI r) MF :=
  ctr_of (by decide +kernel) (Nat.le_of_ble_eq_true rfl) (fun ρ => w_X11_total l0 l1 M h)
set_option maxHeartbeats 4000000 in
set_option maxRecDepth 100000 in
theorem w_X11_save {G : Gl} {ρ0 : Nat → Nat} {M0 MF : Mem} {r : Int32} (l0 : Nat) (M : Mem) (h : f_X11_save l0 M = some (r, MF)) : V G (RX11, cX11_save, (some .int), 5, 108, 1, "save", []) (ρ0, M0, cvI r, MF) 0 [(0, .ref l0)] [] M := by
  unfold f_X11_save at h
  replace h := (ifS h).2
  refine v_aload_n dX11_save_0 rfl 0 rfl ?_
  obtain ⟨v1, e, h⟩ := bind_some h
  refine gt_X11_45 e dX11_save_1 ?_
  refine v_aload_n dX11_save_4 rfl 0 rfl ?_
  obtain ⟨v2, e, h⟩ := bind_some h
  refine gt_X11_41 e dX11_save_5 ?_
  obtain ⟨M3, e, h⟩ := bind_some h
  refine ca_X11_343 e dX11_save_8 (Nat.le_of_ble_eq_true rfl) (by decide) ?_
  refine v_aload_n dX11_save_11 rfl 0 rfl ?_
  refine v_iconst (v := 1) dX11_save_12 ci_1 ?_
  obtain ⟨M4, e, h⟩ := bind_some h
  refine pt_X11_346 e dX11_save_13 ?_
  refine v_aload_n dX11_save_16 rfl 0 rfl ?_
  obtain ⟨v5, e, h⟩ := bind_some h
  refine gt_X11_41 e dX11_save_17 ?_
  obtain ⟨v6, e, h⟩ := bind_some h
  refine gt_X11_316 e dX11_save_20 ?_
  cases h
  exact v_ireturn dX11_save_23
theorem kd_X11_save {l0 : Nat} {M : Mem} {z : _} (h : f_X11_save l0 M = some z) : (mK M l0).1 = 11 := by
  unfold f_X11_save at h
  exact (ifS h).1
theorem k_X11_save {G : Gl} {l0 : Nat} {M MF : Mem} {r : Int32} (h : f_X11_save l0 M = some (r, MF)) : CtrP G yX11_save cX11_save 1 (some .int) 5 108 [.ref l0] M (cvI r) MF :=
  ctr_of (by decide +kernel) (Nat.le_of_ble_eq_true rfl) (fun ρ => w_X11_save l0 M h)
set_option maxHeartbeats 4000000 in
set_option maxRecDepth 100000 in
theorem w_X11_restore {G : Gl} {ρ0 : Nat → Nat} {M0 MF : Mem} {r : Int32 ⊕ Nat} (l0 : Nat) (M : Mem) (h : f_X11_restore l0 M = some (r, MF)) : V G (RX11, cX11_restore, (some .int), 6, 108, 1, "restore", []) (ρ0, M0, cxI r, MF) 0 [(0, .ref l0)] [] M := by
  unfold f_X11_restore at h
  replace h := (ifS h).2
  refine v_aload_n dX11_restore_0 rfl 0 rfl ?_
  obtain ⟨v1, e, h⟩ := bind_some h
  refine gt_X11_346 e dX11_restore_1 ?_
  refine v_if_ne (tgt := 15) dX11_restore_4 (by decide) (fun c7 => ?_) (fun c7 => ?_)
  · replace h := ifN c7 h
    refine v_aload_n dX11_restore_15 rfl 0 rfl ?_
    obtain ⟨v2, e, h⟩ := bind_some h
    refine gt_X11_41 e dX11_restore_16 ?_
    refine v_aload_n dX11_restore_19 rfl 0 rfl ?_
    obtain ⟨v3, e, h⟩ := bind_some h
    refine gt_X11_45 e dX11_restore_20 ?_
    obtain ⟨M4, e, h⟩ := bind_some h
    refine ca_X11_343 e dX11_restore_23 (Nat.le_of_ble_eq_true rfl) (by decide) ?_
    refine v_aload_n dX11_restore_26 rfl 0 rfl ?_
    obtain ⟨v5, e, h⟩ := bind_some h
    refine gt_X11_41 e dX11_restore_27 ?_
    obtain ⟨v6, e, h⟩ := bind_some h
    refine gt_X11_316 e dX11_restore_30 ?_
    cases h
    exact v_ireturn dX11_restore_33
  · replace h := ifP c7 h
    cases h
    exact th_2 dX11_restore_7 dX11_restore_10 dX11_restore_11 dX11_restore_14 (by decide) (Nat.le_of_ble_eq_true rfl)
theorem kd_X11_restore {l0 : Nat} {M : Mem} {z : _} (h : f_X11_restore l0 M = some z) : (mK M l0).1 = 11 := by
  unfold f_X11_restore at h
  exact (ifS h).1
theorem k_X11_restore {G : Gl} {l0 : Nat} {M MF : Mem} {r : Int32 ⊕ Nat} (h : f_X11_restore l0 M = some (r, MF)) : CtrP G yX11_restore cX11_restore 1 (some .int) 6 108 [.ref l0] M (cxI r) MF :=
  ctr_of (by decide +kernel) (Nat.le_of_ble_eq_true rfl) (fun ρ => w_X11_restore l0 M h)
