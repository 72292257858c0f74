set_option maxHeartbeats 4000000 in
set_option maxRecDepth 100000 in
theorem w_X11_restore {G : Gl} {ρ0 : Nat → Nat} {M0 MF : Mem} {r : Int32 ⊕ Nat} (l0 : Nat) (M : Mem) (h : f_X11_restore l0 M = some (r, MF)) : V G (RX11, cX11_restore, (some .int), 6, 108, 1, "restore", []) (ρ0, M0, cxI r, MF) 0 [(0, .ref l0)] [] M := by
  unfold f_X11_restore at h
  replace h := (ifS h).2
  refine v_aload_n dX11_restore_0 rfl 0 rfl ?_
  obtain ⟨v1, e, h⟩ := bind_some h
  refine gt_X11_346 e dX11_restore_1 ?_
  refine v_if_ne (tgt := 15) dX11_restore_4 (by decide) (fun c7 => ?_) (fun c7 => ?_)
  · replace h := ifN c7 h
    refine v_aload_n dX11_restore_15 rfl 0 rfl ?_
    obtain ⟨v2, e, h⟩ := bind_some h
    refine gt_X11_41 e dX11_restore_16 ?_
    refine v_aload_n dX11_restore_19 rfl 0 rfl ?_
    obtain ⟨v3, e, h⟩ := bind_some h
    refine gt_X11_45 e dX11_restore_20 ?_
    obtain ⟨M4, e, h⟩ := bind_some h
    refine ca_X11_343 e dX11_restore_23 (Nat.le_of_ble_eq_true rfl) (by decide) ?_
    refine v_aload_n dX11_restore_26 rfl 0 rfl ?_
    obtain ⟨v5, e, h⟩ := bind_some h
    refine gt_X11_41 e dX11_restore_27 ?_
    obtain ⟨v6, e, h⟩ := bind_some h
    refine gt_X11_316 e dX11_restore_30 ?_
    cases h
    exact v_ireturn dX11_restore_33
  · replace h := ifP c7 h
    cases h
    exact th_2 dX11_restore_7 dX11_restore_10 dX11_restore_11 dX11_restore_14 (by decide) (Nat.le_of_ble_eq_true rfl)
theorem kd_X11_restore {l0 : Nat} {M : Mem} {z : _} (h : f_X11_restore l0 M = some z) : (mK M l0).1 = 11 := by
  unfold f_X11_restore at h
  exact (ifS h).1
theorem k_X11_restore {G : Gl} {l0 : Nat} {M MF : Mem} {r : Int32 ⊕ Nat} (h : f_X11_restore l0 M = some (r, MF)) : CtrP G yX11_restore cX11_restore 1 (some .int) 6 108 [.ref l0] M (cxI r) MF :=
  ctr_of (by decide +kernel) (Nat.le_of_ble_eq_true rfl) (fun ρ => w_X11_restore l0 M h)
