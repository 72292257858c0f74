set_option maxHeartbeats 4000000 in
set_option maxRecDepth 100000 in
theorem w_L_law_J1207 {G : Gl} {ρ0 : Nat → Nat} {M0 MF : Mem} {r : Int32} (L : Nat) (xs : Nat → Int32) (hX : ∀ X : Cx, Ok X G (RL, cL_law, (some .boolean), 10, 206, 7, "law", []) (ρ0, M0, cvI r, MF) → va_X (ρ0 SCR) L xs X.s X.s.heap ∧ ρ0 SCR < X.s.heap.size ∧ ¬ AO G (ρ0 SCR)) (k23 : Nat → Nat → Nat → Int32 → Mem → Option (Int32 × Mem)) (h23 : ∀ (l1 : Nat) (l2 : Nat) (l3 : Nat) (l4 : Int32) (M : Mem), k23 l1 l2 l3 l4 M = some (r, MF) → V G (RL, cL_law, (some .boolean), 10, 206, 7, "law", []) (ρ0, M0, cvI r, MF) 23 [(0, .ref SCR), (1, .ref l1), (2, .ref l2), (3, .ref l3), (4, .int l4)] [] M) (l1 : Nat) (l2 : Nat) (l3 : Nat) (l4 : Int32) (l5 : Int32) (s0 : Int32) (s1 : Int32) (s2 : Int32) (s3 : Int32) (s4 : Nat) (M : Mem) (h : f_L_law_J1207 L xs k23 l1 l2 l3 l4 l5 s0 s1 s2 s3 s4 M = some (r, MF)) : V G (RL, cL_law, (some .boolean), 10, 206, 7, "law", []) (ρ0, M0, cvI r, MF) 1207 [(0, .ref SCR), (1, .ref l1), (2, .ref l2), (3, .ref l3), (4, .int l4), (5, .int l5)] [.int s0, .int s1, .int s2, .int s3, .ref s4] M := by
  unfold f_L_law_J1207 at h
  refine v_aload_n dL_law_1207 rfl 0 rfl ?_
  refine v_iload dL_law_1208 4 rfl ?_
  refine v_iconst (v := 5) dL_law_1210 ci_5 ?_
  refine v_iadd dL_law_1211 ?_
  obtain ⟨v1, e, h⟩ := bind_some h
  refine v_scld hX dL_law_1212 e ?_
  obtain ⟨v3, M2, e, h⟩ := bindP_some h
  refine ca_L_174 e dL_law_1213 (Nat.le_of_ble_eq_true rfl) (by decide) ?_
  refine v_istore (ls' := [(6, .int v3), (0, .ref SCR), (1, .ref l1), (2, .ref l2), (3, .ref l3), (4, .int l4), (5, .int l5)]) dL_law_1216 (by decide) rfl ?_
  refine v_aload_n dL_law_1218 rfl 3 rfl ?_
  obtain ⟨v5, M4, e, h⟩ := bindP_some h
  refine ca_L_123 e dL_law_1219 (Nat.le_of_ble_eq_true rfl) (by decide) ?_
  refine v_iload dL_law_1222 6 rfl ?_
  refine v_icmp_eq (tgt := 1229) dL_law_1224 (by decide) (fun c9 => ?_) (fun c9 => ?_)
  · replace h := ifP c9 h
    refine v_iload dL_law_1229 6 rfl ?_
    refine v_if_ne (tgt := 1246) dL_law_1231 (by decide) (fun c8 => ?_) (fun c8 => ?_)
    · replace h := ifN c8 h
      refine v_goto (tgt := 2231) dL_law_1246 (by decide) ?_
      refine v_iinc (ls' := [(4, .int (l4 + 6)), (6, .int v3), (0, .ref SCR), (1, .ref l1), (2, .ref l2), (3, .ref l3), (5, .int l5)]) dL_law_2231 5 rfl (v := 6) ci_6 (by decide) rfl ?_
      refine v_goto (tgt := 23) dL_law_2234 (by decide) ?_
      refine v_sub [2, 3, 4, 5, 0] rfl ?_
      exact h23 l1 l2 l3 (l4 + 6) M4 h
    · replace h := ifP c8 h
      refine v_aload_n dL_law_1234 rfl 4 rfl ?_
      refine v_iconst (v := 0) dL_law_1235 ci_0 ?_
      obtain ⟨v6, e, h⟩ := bind_some h
      refine v_laload dL_law_1236 e ?_
      refine v_iload dL_law_1237 0 rfl ?_
      refine v_i2l dL_law_1239 ?_
      refine v_lcmp dL_law_1240 ?_
      refine v_if_eq (tgt := 1246) dL_law_1241 (by decide) (fun c7 => ?_) (fun c7 => ?_)
      · replace h := ifP c7 h
        refine v_goto (tgt := 2231) dL_law_1246 (by decide) ?_
        refine v_iinc (ls' := [(4, .int (l4 + 6)), (6, .int v3), (0, .ref SCR), (1, .ref l1), (2, .ref l2), (3, .ref l3), (5, .int l5)]) dL_law_2231 5 rfl (v := 6) ci_6 (by decide) rfl ?_
        refine v_goto (tgt := 23) dL_law_2234 (by decide) ?_
        refine v_sub [2, 3, 4, 5, 0] rfl ?_
        exact h23 l1 l2 l3 (l4 + 6) M4 h
      · replace h := ifN c7 h
        refine v_iconst (v := 0) dL_law_1244 ci_0 ?_
        obtain ⟨hz, rfl, rfl⟩ := okZ_some h
        exact v_zreturn dL_law_1245 hz
  · replace h := ifN c9 h
    refine v_iconst (v := 0) dL_law_1227 ci_0 ?_
    obtain ⟨hz, rfl, rfl⟩ := okZ_some h
    exact v_zreturn dL_law_1228 hz
set_option maxHeartbeats 4000000 in
set_option maxRecDepth 100000 in
theorem w_L_law_J1162 {G : Gl} {ρ0 : Nat → Nat} {M0 MF : Mem} {r : Int32} (L : Nat) (xs : Nat → Int32) (hX : ∀ X : Cx, Ok X G (RL, cL_law, (some .boolean), 10, 206, 7, "law", []) (ρ0, M0, cvI r, MF) → va_X (ρ0 SCR) L xs X.s X.s.heap ∧ ρ0 SCR < X.s.heap.size ∧ ¬ AO G (ρ0 SCR)) (k23 : Nat → Nat → Nat → Int32 → Mem → Option (Int32 × Mem)) (h23 : ∀ (l1 : Nat) (l2 : Nat) (l3 : Nat) (l4 : Int32) (M : Mem), k23 l1 l2 l3 l4 M = some (r, MF) → V G (RL, cL_law, (some .boolean), 10, 206, 7, "law", []) (ρ0, M0, cvI r, MF) 23 [(0, .ref SCR), (1, .ref l1), (2, .ref l2), (3, .ref l3), (4, .int l4)] [] M) (l1 : Nat) (l2 : Nat) (l3 : Nat) (l4 : Int32) (s0 : Int32) (s1 : Int32) (s2 : Int32) (s3 : Int32) (s4 : Nat) (M : Mem) (h : f_L_law_J1162 L xs k23 l1 l2 l3 l4 s0 s1 s2 s3 s4 M = some (r, MF)) : V G (RL, cL_law, (some .boolean), 10, 206, 7, "law", []) (ρ0, M0, cvI r, MF) 1162 [(0, .ref SCR), (1, .ref l1), (2, .ref l2), (3, .ref l3), (4, .int l4)] [.int s0, .int s1, .int s2, .int s3, .ref s4] M := by
  unfold f_L_law_J1162 at h
  refine v_aload_n dL_law_1162 rfl 0 rfl ?_
  refine v_iload dL_law_1163 4 rfl ?_
  refine v_iconst (v := 5) dL_law_1165 ci_5 ?_
  refine v_iadd dL_law_1166 ?_
  obtain ⟨v1, e, h⟩ := bind_some h
  refine v_scld hX dL_law_1167 e ?_
  refine v_aload_n dL_law_1168 rfl 3 rfl ?_
  obtain ⟨v3, M2, e, h⟩ := bindP_some h
  refine ca_L_171 e dL_law_1169 (Nat.le_of_ble_eq_true rfl) (by decide) ?_
  refine v_istore (ls' := [(5, .int v3), (0, .ref SCR), (1, .ref l1), (2, .ref l2), (3, .ref l3), (4, .int l4)]) dL_law_1172 (by decide) rfl ?_
  refine v_aload_n dL_law_1174 rfl 3 rfl ?_
  refine v_aload_n dL_law_1175 rfl 1 rfl ?_
  refine v_iload dL_law_1176 5 rfl ?_
  refine v_iconst (v := 1) dL_law_1178 ci_1 ?_
  refine v_iadd dL_law_1179 ?_
  obtain ⟨v4, e, h⟩ := bind_some h
  refine v_scld hX dL_law_1180 e ?_
  refine v_aload_n dL_law_1181 rfl 1 rfl ?_
  refine v_iload dL_law_1182 5 rfl ?_
  refine v_iconst (v := 2) dL_law_1184 ci_2 ?_
  refine v_iadd dL_law_1185 ?_
  obtain ⟨v5, e, h⟩ := bind_some h
  refine v_scld hX dL_law_1186 e ?_
  refine v_aload_n dL_law_1187 rfl 1 rfl ?_
  refine v_iload dL_law_1188 5 rfl ?_
  refine v_iconst (v := 3) dL_law_1190 ci_3 ?_
  refine v_iadd dL_law_1191 ?_
  obtain ⟨v6, e, h⟩ := bind_some h
  refine v_scld hX dL_law_1192 e ?_
  refine v_aload_n dL_law_1193 rfl 1 rfl ?_
  refine v_iload dL_law_1194 5 rfl ?_
  refine v_iconst (v := 4) dL_law_1196 ci_4 ?_
  refine v_iadd dL_law_1197 ?_
  obtain ⟨v7, e, h⟩ := bind_some h
  refine v_scld hX dL_law_1198 e ?_
  refine v_if_eq (tgt := 1206) dL_law_1199 (by decide) (fun c8 => ?_) (fun c8 => ?_)
  · replace h := ifP c8 h
    refine v_iconst (v := 0) dL_law_1206 ci_0 ?_
    refine v_sub [1, 2, 3, 4, 5, 0] rfl ?_
    exact w_L_law_J1207 L xs hX k23 h23 l1 l2 l3 l4 v3 (0 : Int32) v6 v5 v4 l2 M2 h
  · replace h := ifN c8 h
    refine v_iconst (v := 1) dL_law_1202 ci_1 ?_
    refine v_goto (tgt := 1207) dL_law_1203 (by decide) ?_
    refine v_sub [1, 2, 3, 4, 5, 0] rfl ?_
    exact w_L_law_J1207 L xs hX k23 h23 l1 l2 l3 l4 v3 (1 : Int32) v6 v5 v4 l2 M2 h
set_option maxHeartbeats 4000000 in
set_option maxRecDepth 100000 in
theorem w_L_law_J587 {G : Gl} {ρ0 : Nat → Nat} {M0 MF : Mem} {r : Int32} (L : Nat) (xs : Nat → Int32) (hX : ∀ X : Cx, Ok X G (RL, cL_law, (some .boolean), 10, 206, 7, "law", []) (ρ0, M0, cvI r, MF) → va_X (ρ0 SCR) L xs X.s X.s.heap ∧ ρ0 SCR < X.s.heap.size ∧ ¬ AO G (ρ0 SCR)) (k23 : Nat → Nat → Nat → Int32 → Mem → Option (Int32 × Mem)) (h23 : ∀ (l1 : Nat) (l2 : Nat) (l3 : Nat) (l4 : Int32) (M : Mem), k23 l1 l2 l3 l4 M = some (r, MF) → V G (RL, cL_law, (some .boolean), 10, 206, 7, "law", []) (ρ0, M0, cvI r, MF) 23 [(0, .ref SCR), (1, .ref l1), (2, .ref l2), (3, .ref l3), (4, .int l4)] [] M) (l1 : Nat) (l2 : Nat) (l3 : Nat) (l4 : Int32) (l5 : Int32) (s0 : Int32) (s1 : Int32) (s2 : Int32) (s3 : Nat) (M : Mem) (h : f_L_law_J587 L xs k23 l1 l2 l3 l4 l5 s0 s1 s2 s3 M = some (r, MF)) : V G (RL, cL_law, (some .boolean), 10, 206, 7, "law", []) (ρ0, M0, cvI r, MF) 587 [(0, .ref SCR), (1, .ref l1), (2, .ref l2), (3, .ref l3), (4, .int l4), (5, .int l5)] [.int s0, .int s1, .int s2, .ref s3] M := by
  unfold f_L_law_J587 at h
  refine v_aload_n dL_law_587 rfl 0 rfl ?_
  refine v_iload dL_law_588 4 rfl ?_
  refine v_iconst (v := 4) dL_law_590 ci_4 ?_
  refine v_iadd dL_law_591 ?_
  obtain ⟨v1, e, h⟩ := bind_some h
  refine v_scld hX dL_law_592 e ?_
  obtain ⟨v3, M2, e, h⟩ := bindP_some h
  refine ca_L_147 e dL_law_593 (Nat.le_of_ble_eq_true rfl) (by decide) ?_
  refine v_istore (ls' := [(6, .int v3), (0, .ref SCR), (1, .ref l1), (2, .ref l2), (3, .ref l3), (4, .int l4), (5, .int l5)]) dL_law_596 (by decide) rfl ?_
  refine v_aload_n dL_law_598 rfl 3 rfl ?_
  obtain ⟨v5, M4, e, h⟩ := bindP_some h
  refine ca_L_123 e dL_law_599 (Nat.le_of_ble_eq_true rfl) (by decide) ?_
  refine v_iload dL_law_602 6 rfl ?_
  refine v_icmp_eq (tgt := 609) dL_law_604 (by decide) (fun c9 => ?_) (fun c9 => ?_)
  · replace h := ifP c9 h
    refine v_iload dL_law_609 6 rfl ?_
    refine v_if_ne (tgt := 626) dL_law_611 (by decide) (fun c8 => ?_) (fun c8 => ?_)
    · replace h := ifN c8 h
      refine v_goto (tgt := 2231) dL_law_626 (by decide) ?_
      refine v_iinc (ls' := [(4, .int (l4 + 6)), (6, .int v3), (0, .ref SCR), (1, .ref l1), (2, .ref l2), (3, .ref l3), (5, .int l5)]) dL_law_2231 5 rfl (v := 6) ci_6 (by decide) rfl ?_
      refine v_goto (tgt := 23) dL_law_2234 (by decide) ?_
      refine v_sub [2, 3, 4, 5, 0] rfl ?_
      exact h23 l1 l2 l3 (l4 + 6) M4 h
    · replace h := ifP c8 h
      refine v_aload_n dL_law_614 rfl 4 rfl ?_
      refine v_iconst (v := 0) dL_law_615 ci_0 ?_
      obtain ⟨v6, e, h⟩ := bind_some h
      refine v_laload dL_law_616 e ?_
      refine v_iload dL_law_617 0 rfl ?_
      refine v_i2l dL_law_619 ?_
      refine v_lcmp dL_law_620 ?_
      refine v_if_eq (tgt := 626) dL_law_621 (by decide) (fun c7 => ?_) (fun c7 => ?_)
      · replace h := ifP c7 h
        refine v_goto (tgt := 2231) dL_law_626 (by decide) ?_
        refine v_iinc (ls' := [(4, .int (l4 + 6)), (6, .int v3), (0, .ref SCR), (1, .ref l1), (2, .ref l2), (3, .ref l3), (5, .int l5)]) dL_law_2231 5 rfl (v := 6) ci_6 (by decide) rfl ?_
        refine v_goto (tgt := 23) dL_law_2234 (by decide) ?_
        refine v_sub [2, 3, 4, 5, 0] rfl ?_
        exact h23 l1 l2 l3 (l4 + 6) M4 h
      · replace h := ifN c7 h
        refine v_iconst (v := 0) dL_law_624 ci_0 ?_
        obtain ⟨hz, rfl, rfl⟩ := okZ_some h
        exact v_zreturn dL_law_625 hz
  · replace h := ifN c9 h
    refine v_iconst (v := 0) dL_law_607 ci_0 ?_
    obtain ⟨hz, rfl, rfl⟩ := okZ_some h
    exact v_zreturn dL_law_608 hz
set_option maxHeartbeats 4000000 in
set_option maxRecDepth 100000 in
theorem w_L_law_J548 {G : Gl} {ρ0 : Nat → Nat} {M0 MF : Mem} {r : Int32} (L : Nat) (xs : Nat → Int32) (hX : ∀ X : Cx, Ok X G (RL, cL_law, (some .boolean), 10, 206, 7, "law", []) (ρ0, M0, cvI r, MF) → va_X (ρ0 SCR) L xs X.s X.s.heap ∧ ρ0 SCR < X.s.heap.size ∧ ¬ AO G (ρ0 SCR)) (k23 : Nat → Nat → Nat → Int32 → Mem → Option (Int32 × Mem)) (h23 : ∀ (l1 : Nat) (l2 : Nat) (l3 : Nat) (l4 : Int32) (M : Mem), k23 l1 l2 l3 l4 M = some (r, MF) → V G (RL, cL_law, (some .boolean), 10, 206, 7, "law", []) (ρ0, M0, cvI r, MF) 23 [(0, .ref SCR), (1, .ref l1), (2, .ref l2), (3, .ref l3), (4, .int l4)] [] M) (l1 : Nat) (l2 : Nat) (l3 : Nat) (l4 : Int32) (s0 : Int32) (s1 : Int32) (s2 : Int32) (s3 : Nat) (M : Mem) (h : f_L_law_J548 L xs k23 l1 l2 l3 l4 s0 s1 s2 s3 M = some (r, MF)) : V G (RL, cL_law, (some .boolean), 10, 206, 7, "law", []) (ρ0, M0, cvI r, MF) 548 [(0, .ref SCR), (1, .ref l1), (2, .ref l2), (3, .ref l3), (4, .int l4)] [.int s0, .int s1, .int s2, .ref s3] M := by
  unfold f_L_law_J548 at h
  refine v_aload_n dL_law_548 rfl 0 rfl ?_
  refine v_iload dL_law_549 4 rfl ?_
  refine v_iconst (v := 4) dL_law_551 ci_4 ?_
  refine v_iadd dL_law_552 ?_
  obtain ⟨v1, e, h⟩ := bind_some h
  refine v_scld hX dL_law_553 e ?_
  refine v_aload_n dL_law_554 rfl 3 rfl ?_
  obtain ⟨v3, M2, e, h⟩ := bindP_some h
  refine ca_L_144 e dL_law_555 (Nat.le_of_ble_eq_true rfl) (by decide) ?_
  refine v_istore (ls' := [(5, .int v3), (0, .ref SCR), (1, .ref l1), (2, .ref l2), (3, .ref l3), (4, .int l4)]) dL_law_558 (by decide) rfl ?_
  refine v_aload_n dL_law_560 rfl 3 rfl ?_
  refine v_aload_n dL_law_561 rfl 1 rfl ?_
  refine v_iload dL_law_562 5 rfl ?_
  refine v_iconst (v := 1) dL_law_564 ci_1 ?_
  refine v_iadd dL_law_565 ?_
  obtain ⟨v4, e, h⟩ := bind_some h
  refine v_scld hX dL_law_566 e ?_
  refine v_aload_n dL_law_567 rfl 1 rfl ?_
  refine v_iload dL_law_568 5 rfl ?_
  refine v_iconst (v := 2) dL_law_570 ci_2 ?_
  refine v_iadd dL_law_571 ?_
  obtain ⟨v5, e, h⟩ := bind_some h
  refine v_scld hX dL_law_572 e ?_
  refine v_aload_n dL_law_573 rfl 1 rfl ?_
  refine v_iload dL_law_574 5 rfl ?_
  refine v_iconst (v := 3) dL_law_576 ci_3 ?_
  refine v_iadd dL_law_577 ?_
  obtain ⟨v6, e, h⟩ := bind_some h
  refine v_scld hX dL_law_578 e ?_
  refine v_if_eq (tgt := 586) dL_law_579 (by decide) (fun c7 => ?_) (fun c7 => ?_)
  · replace h := ifP c7 h
    refine v_iconst (v := 0) dL_law_586 ci_0 ?_
    refine v_sub [1, 2, 3, 4, 5, 0] rfl ?_
    exact w_L_law_J587 L xs hX k23 h23 l1 l2 l3 l4 v3 (0 : Int32) v5 v4 l2 M2 h
  · replace h := ifN c7 h
    refine v_iconst (v := 1) dL_law_582 ci_1 ?_
    refine v_goto (tgt := 587) dL_law_583 (by decide) ?_
    refine v_sub [1, 2, 3, 4, 5, 0] rfl ?_
    exact w_L_law_J587 L xs hX k23 h23 l1 l2 l3 l4 v3 (1 : Int32) v5 v4 l2 M2 h
set_option maxHeartbeats 4000000 in
set_option maxRecDepth 100000 in
theorem w_L_law_J373 {G : Gl} {ρ0 : Nat → Nat} {M0 MF : Mem} {r : Int32} (L : Nat) (xs : Nat → Int32) (hX : ∀ X : Cx, Ok X G (RL, cL_law, (some .boolean), 10, 206, 7, "law", []) (ρ0, M0, cvI r, MF) → va_X (ρ0 SCR) L xs X.s X.s.heap ∧ ρ0 SCR < X.s.heap.size ∧ ¬ AO G (ρ0 SCR)) (k23 : Nat → Nat → Nat → Int32 → Mem → Option (Int32 × Mem)) (h23 : ∀ (l1 : Nat) (l2 : Nat) (l3 : Nat) (l4 : Int32) (M : Mem), k23 l1 l2 l3 l4 M = some (r, MF) → V G (RL, cL_law, (some .boolean), 10, 206, 7, "law", []) (ρ0, M0, cvI r, MF) 23 [(0, .ref SCR), (1, .ref l1), (2, .ref l2), (3, .ref l3), (4, .int l4)] [] M) (l1 : Nat) (l2 : Nat) (l3 : Nat) (l4 : Int32) (l5 : Int32) (s0 : Int32) (s1 : Int32) (s2 : Nat) (M : Mem) (h : f_L_law_J373 L xs k23 l1 l2 l3 l4 l5 s0 s1 s2 M = some (r, MF)) : V G (RL, cL_law, (some .boolean), 10, 206, 7, "law", []) (ρ0, M0, cvI r, MF) 373 [(0, .ref SCR), (1, .ref l1), (2, .ref l2), (3, .ref l3), (4, .int l4), (5, .int l5)] [.int s0, .int s1, .ref s2] M := by
  unfold f_L_law_J373 at h
  obtain ⟨v2, M1, e, h⟩ := bindP_some h
  refine ca_L_137 e dL_law_373 (Nat.le_of_ble_eq_true rfl) (by decide) ?_
  refine v_istore (ls' := [(6, .int v2), (0, .ref SCR), (1, .ref l1), (2, .ref l2), (3, .ref l3), (4, .int l4), (5, .int l5)]) dL_law_376 (by decide) rfl ?_
  refine v_aload_n dL_law_378 rfl 3 rfl ?_
  obtain ⟨v4, M3, e, h⟩ := bindP_some h
  refine ca_L_123 e dL_law_379 (Nat.le_of_ble_eq_true rfl) (by decide) ?_
  refine v_iload dL_law_382 6 rfl ?_
  refine v_icmp_eq (tgt := 389) dL_law_384 (by decide) (fun c8 => ?_) (fun c8 => ?_)
  · replace h := ifP c8 h
    refine v_iload dL_law_389 6 rfl ?_
    refine v_if_ne (tgt := 406) dL_law_391 (by decide) (fun c7 => ?_) (fun c7 => ?_)
    · replace h := ifN c7 h
      refine v_goto (tgt := 2231) dL_law_406 (by decide) ?_
      refine v_iinc (ls' := [(4, .int (l4 + 6)), (6, .int v2), (0, .ref SCR), (1, .ref l1), (2, .ref l2), (3, .ref l3), (5, .int l5)]) dL_law_2231 5 rfl (v := 6) ci_6 (by decide) rfl ?_
      refine v_goto (tgt := 23) dL_law_2234 (by decide) ?_
      refine v_sub [2, 3, 4, 5, 0] rfl ?_
      exact h23 l1 l2 l3 (l4 + 6) M3 h
    · replace h := ifP c7 h
      refine v_aload_n dL_law_394 rfl 4 rfl ?_
      refine v_iconst (v := 0) dL_law_395 ci_0 ?_
      obtain ⟨v5, e, h⟩ := bind_some h
      refine v_laload dL_law_396 e ?_
      refine v_iload dL_law_397 0 rfl ?_
      refine v_i2l dL_law_399 ?_
      refine v_lcmp dL_law_400 ?_
      refine v_if_eq (tgt := 406) dL_law_401 (by decide) (fun c6 => ?_) (fun c6 => ?_)
      · replace h := ifP c6 h
        refine v_goto (tgt := 2231) dL_law_406 (by decide) ?_
        refine v_iinc (ls' := [(4, .int (l4 + 6)), (6, .int v2), (0, .ref SCR), (1, .ref l1), (2, .ref l2), (3, .ref l3), (5, .int l5)]) dL_law_2231 5 rfl (v := 6) ci_6 (by decide) rfl ?_
        refine v_goto (tgt := 23) dL_law_2234 (by decide) ?_
        refine v_sub [2, 3, 4, 5, 0] rfl ?_
        exact h23 l1 l2 l3 (l4 + 6) M3 h
      · replace h := ifN c6 h
        refine v_iconst (v := 0) dL_law_404 ci_0 ?_
        obtain ⟨hz, rfl, rfl⟩ := okZ_some h
        exact v_zreturn dL_law_405 hz
  · replace h := ifN c8 h
    refine v_iconst (v := 0) dL_law_387 ci_0 ?_
    obtain ⟨hz, rfl, rfl⟩ := okZ_some h
    exact v_zreturn dL_law_388 hz
set_option maxHeartbeats 4000000 in
set_option maxRecDepth 100000 in
theorem w_L_law_J346 {G : Gl} {ρ0 : Nat → Nat} {M0 MF : Mem} {r : Int32} (L : Nat) (xs : Nat → Int32) (hX : ∀ X : Cx, Ok X G (RL, cL_law, (some .boolean), 10, 206, 7, "law", []) (ρ0, M0, cvI r, MF) → va_X (ρ0 SCR) L xs X.s X.s.heap ∧ ρ0 SCR < X.s.heap.size ∧ ¬ AO G (ρ0 SCR)) (k23 : Nat → Nat → Nat → Int32 → Mem → Option (Int32 × Mem)) (h23 : ∀ (l1 : Nat) (l2 : Nat) (l3 : Nat) (l4 : Int32) (M : Mem), k23 l1 l2 l3 l4 M = some (r, MF) → V G (RL, cL_law, (some .boolean), 10, 206, 7, "law", []) (ρ0, M0, cvI r, MF) 23 [(0, .ref SCR), (1, .ref l1), (2, .ref l2), (3, .ref l3), (4, .int l4)] [] M) (l1 : Nat) (l2 : Nat) (l3 : Nat) (l4 : Int32) (s0 : Int32) (s1 : Int32) (s2 : Nat) (M : Mem) (h : f_L_law_J346 L xs k23 l1 l2 l3 l4 s0 s1 s2 M = some (r, MF)) : V G (RL, cL_law, (some .boolean), 10, 206, 7, "law", []) (ρ0, M0, cvI r, MF) 346 [(0, .ref SCR), (1, .ref l1), (2, .ref l2), (3, .ref l3), (4, .int l4)] [.int s0, .int s1, .ref s2] M := by
  unfold f_L_law_J346 at h
  refine v_aload_n dL_law_346 rfl 3 rfl ?_
  obtain ⟨v2, M1, e, h⟩ := bindP_some h
  refine ca_L_134 e dL_law_347 (Nat.le_of_ble_eq_true rfl) (by decide) ?_
  refine v_istore (ls' := [(5, .int v2), (0, .ref SCR), (1, .ref l1), (2, .ref l2), (3, .ref l3), (4, .int l4)]) dL_law_350 (by decide) rfl ?_
  refine v_aload_n dL_law_352 rfl 3 rfl ?_
  refine v_aload_n dL_law_353 rfl 1 rfl ?_
  refine v_iload dL_law_354 5 rfl ?_
  refine v_iconst (v := 1) dL_law_356 ci_1 ?_
  refine v_iadd dL_law_357 ?_
  obtain ⟨v3, e, h⟩ := bind_some h
  refine v_scld hX dL_law_358 e ?_
  refine v_aload_n dL_law_359 rfl 1 rfl ?_
  refine v_iload dL_law_360 5 rfl ?_
  refine v_iconst (v := 2) dL_law_362 ci_2 ?_
  refine v_iadd dL_law_363 ?_
  obtain ⟨v4, e, h⟩ := bind_some h
  refine v_scld hX dL_law_364 e ?_
  refine v_if_eq (tgt := 372) dL_law_365 (by decide) (fun c5 => ?_) (fun c5 => ?_)
  · replace h := ifP c5 h
    refine v_iconst (v := 0) dL_law_372 ci_0 ?_
    refine v_sub [1, 2, 3, 4, 5, 0] rfl ?_
    exact w_L_law_J373 L xs hX k23 h23 l1 l2 l3 l4 v2 (0 : Int32) v3 l2 M1 h
  · replace h := ifN c5 h
    refine v_iconst (v := 1) dL_law_368 ci_1 ?_
    refine v_goto (tgt := 373) dL_law_369 (by decide) ?_
    refine v_sub [1, 2, 3, 4, 5, 0] rfl ?_
    exact w_L_law_J373 L xs hX k23 h23 l1 l2 l3 l4 v2 (1 : Int32) v3 l2 M1 h
set_option maxHeartbeats 4000000 in
set_option maxRecDepth 100000 in
theorem w_L_law_L23 {G : Gl} {ρ0 : Nat → Nat} {M0 MF : Mem} {r : Int32} (L : Nat) (xs : Nat → Int32) (hX : ∀ X : Cx, Ok X G (RL, cL_law, (some .boolean), 10, 206, 7, "law", []) (ρ0, M0, cvI r, MF) → va_X (ρ0 SCR) L xs X.s X.s.heap ∧ ρ0 SCR < X.s.heap.size ∧ ¬ AO G (ρ0 SCR)) : ∀ (n : Nat) (l1 : Nat) (l2 : Nat) (l3 : Nat) (l4 : Int32) (M : Mem), f_L_law_L23 L xs n l1 l2 l3 l4 M = some (r, MF) → V G (RL, cL_law, (some .boolean), 10, 206, 7, "law", []) (ρ0, M0, cvI r, MF) 23 [(0, .ref SCR), (1, .ref l1), (2, .ref l2), (3, .ref l3), (4, .int l4)] [] M := by
  intro n
  induction n with
  | zero => intro l1 l2 l3 l4 M h; cases h
  | succ n ih =>
    intro l1 l2 l3 l4 M h
    rw [f_L_law_L23] at h
    refine v_iload dL_law_23 4 rfl ?_
    refine v_aload_n dL_law_25 rfl 0 rfl ?_
    refine v_sclen hX dL_law_26 ?_
    refine v_bipush (v := 6) dL_law_27 cb_6 ?_
    refine v_isub dL_law_29 ?_
    refine v_icmp_gt (tgt := 2237) dL_law_30 (by decide) (fun c21 => ?_) (fun c21 => ?_)
    · replace h := ifP c21 h
      refine v_iconst (v := 1) dL_law_2237 ci_1 ?_
      obtain ⟨hz, rfl, rfl⟩ := okZ_some h
      exact v_zreturn dL_law_2238 hz
    · replace h := ifN c21 h
      refine v_aload_n dL_law_33 rfl 0 rfl ?_
      refine v_iload dL_law_34 4 rfl ?_
      obtain ⟨v1, e, h⟩ := bind_some h
      refine v_scld hX dL_law_36 e ?_
      refine v_bipush (v := 63) dL_law_37 cb_63 ?_
      refine v_iand dL_law_39 ?_
      rcases Decidable.em ((v1 &&& (63 : Int32)) = 0) with c20_0 | c20_0
      · replace h := ifP c20_0 h
        refine v_tsw (tgt := 188) dL_law_40 c20_0 (by decide) (by decide) rfl (by decide) ?_
        refine v_aload_n dL_law_188 rfl 1 rfl ?_
        refine v_aload_n dL_law_189 rfl 0 rfl ?_
        refine v_iload dL_law_190 4 rfl ?_
        refine v_iconst (v := 1) dL_law_192 ci_1 ?_
        refine v_iadd dL_law_193 ?_
        obtain ⟨v2, e, h⟩ := bind_some h
        refine v_scld hX dL_law_194 e ?_
        refine v_aload_n dL_law_195 rfl 3 rfl ?_
        obtain ⟨v4, M3, e, h⟩ := bindP_some h
        refine ca_L_117 e dL_law_196 (Nat.le_of_ble_eq_true rfl) (by decide) ?_
        refine v_istore (ls' := [(5, .int v4), (0, .ref SCR), (1, .ref l1), (2, .ref l2), (3, .ref l3), (4, .int l4)]) dL_law_199 (by decide) rfl ?_
        refine v_aload_n dL_law_201 rfl 3 rfl ?_
        refine v_aload_n dL_law_202 rfl 1 rfl ?_
        refine v_iload dL_law_203 5 rfl ?_
        refine v_iconst (v := 1) dL_law_205 ci_1 ?_
        refine v_iadd dL_law_206 ?_
        obtain ⟨v5, e, h⟩ := bind_some h
        refine v_scld hX dL_law_207 e ?_
        obtain ⟨v7, M6, e, h⟩ := bindP_some h
        refine ca_L_122 e dL_law_208 (Nat.le_of_ble_eq_true rfl) (by decide) ?_
        refine v_istore (ls' := [(6, .int v7), (5, .int v4), (0, .ref SCR), (1, .ref l1), (2, .ref l2), (3, .ref l3), (4, .int l4)]) dL_law_211 (by decide) rfl ?_
        refine v_aload_n dL_law_213 rfl 4 rfl ?_
        obtain ⟨v9, M8, e, h⟩ := bindP_some h
        refine ca_L_123 e dL_law_214 (Nat.le_of_ble_eq_true rfl) (by decide) ?_
        refine v_iload dL_law_217 1 rfl ?_
        refine v_icmp_eq (tgt := 224) dL_law_219 (by decide) (fun c13 => ?_) (fun c13 => ?_)
        · replace h := ifP c13 h
          refine v_iload dL_law_224 1 rfl ?_
          refine v_if_ne (tgt := 241) dL_law_226 (by decide) (fun c12 => ?_) (fun c12 => ?_)
          · replace h := ifN c12 h
            refine v_goto (tgt := 2231) dL_law_241 (by decide) ?_
            refine v_iinc (ls' := [(4, .int (l4 + 6)), (6, .int v7), (5, .int v4), (0, .ref SCR), (1, .ref l1), (2, .ref l2), (3, .ref l3)]) dL_law_2231 6 rfl (v := 6) ci_6 (by decide) rfl ?_
            refine v_goto (tgt := 23) dL_law_2234 (by decide) ?_
            refine v_sub [3, 4, 5, 6, 0] rfl ?_
            exact ih l1 l2 l3 (l4 + 6) M8 h
          · replace h := ifP c12 h
            refine v_aload_n dL_law_229 rfl 5 rfl ?_
            refine v_iconst (v := 0) dL_law_230 ci_0 ?_
            obtain ⟨v10, e, h⟩ := bind_some h
            refine v_laload dL_law_231 e ?_
            refine v_iload dL_law_232 0 rfl ?_
            refine v_i2l dL_law_234 ?_
            refine v_lcmp dL_law_235 ?_
            refine v_if_eq (tgt := 241) dL_law_236 (by decide) (fun c11 => ?_) (fun c11 => ?_)
            · replace h := ifP c11 h
              refine v_goto (tgt := 2231) dL_law_241 (by decide) ?_
              refine v_iinc (ls' := [(4, .int (l4 + 6)), (6, .int v7), (5, .int v4), (0, .ref SCR), (1, .ref l1), (2, .ref l2), (3, .ref l3)]) dL_law_2231 6 rfl (v := 6) ci_6 (by decide) rfl ?_
              refine v_goto (tgt := 23) dL_law_2234 (by decide) ?_
              refine v_sub [3, 4, 5, 6, 0] rfl ?_
              exact ih l1 l2 l3 (l4 + 6) M8 h
            · replace h := ifN c11 h
              refine v_iconst (v := 0) dL_law_239 ci_0 ?_
              obtain ⟨hz, rfl, rfl⟩ := okZ_some h
              exact v_zreturn dL_law_240 hz
        · replace h := ifN c13 h
          refine v_iconst (v := 0) dL_law_222 ci_0 ?_
          obtain ⟨hz, rfl, rfl⟩ := okZ_some h
          exact v_zreturn dL_law_223 hz
      replace h := ifN c20_0 h
      rcases Decidable.em ((v1 &&& (63 : Int32)) = 1) with c20_1 | c20_1
      · replace h := ifP c20_1 h
        refine v_tsw (tgt := 244) dL_law_40 c20_1 (by decide) (by decide) rfl (by decide) ?_
        refine v_aload_n dL_law_244 rfl 1 rfl ?_
        obtain ⟨v3, M2, e, h⟩ := bindP_some h
        refine ca_L_126 e dL_law_245 (Nat.le_of_ble_eq_true rfl) (by decide) ?_
        refine v_aload_n dL_law_248 rfl 2 rfl ?_
        obtain ⟨v5, M4, e, h⟩ := bindP_some h
        refine ca_L_129 e dL_law_249 (Nat.le_of_ble_eq_true rfl) (by decide) ?_
        refine v_icmp_eq (tgt := 2231) dL_law_252 (by decide) (fun c6 => ?_) (fun c6 => ?_)
        · replace h := ifP c6 h
          refine v_iinc (ls' := [(4, .int (l4 + 6)), (0, .ref SCR), (1, .ref l1), (2, .ref l2), (3, .ref l3)]) dL_law_2231 4 rfl (v := 6) ci_6 (by decide) rfl ?_
          refine v_goto (tgt := 23) dL_law_2234 (by decide) ?_
          refine v_sub [1, 2, 3, 4, 0] rfl ?_
          exact ih l1 l2 l3 (l4 + 6) M4 h
        · replace h := ifN c6 h
          refine v_iconst (v := 0) dL_law_255 ci_0 ?_
          obtain ⟨hz, rfl, rfl⟩ := okZ_some h
          exact v_zreturn dL_law_256 hz
      replace h := ifN c20_1 h
      rcases Decidable.em ((v1 &&& (63 : Int32)) = 2) with c20_2 | c20_2
      · replace h := ifP c20_2 h
        refine v_tsw (tgt := 257) dL_law_40 c20_2 (by decide) (by decide) rfl (by decide) ?_
        refine v_aload_n dL_law_257 rfl 1 rfl ?_
        refine v_aload_n dL_law_258 rfl 0 rfl ?_
        refine v_iload dL_law_259 4 rfl ?_
        refine v_iconst (v := 1) dL_law_261 ci_1 ?_
        refine v_iadd dL_law_262 ?_
        obtain ⟨v2, e, h⟩ := bind_some h
        refine v_scld hX dL_law_263 e ?_
        refine v_aload_n dL_law_264 rfl 0 rfl ?_
        refine v_iload dL_law_265 4 rfl ?_
        refine v_iconst (v := 2) dL_law_267 ci_2 ?_
        refine v_iadd dL_law_268 ?_
        obtain ⟨v3, e, h⟩ := bind_some h
        refine v_scld hX dL_law_269 e ?_
        refine v_aload_n dL_law_270 rfl 3 rfl ?_
        obtain ⟨v5, M4, e, h⟩ := bindP_some h
        refine ca_L_130 e dL_law_271 (Nat.le_of_ble_eq_true rfl) (by decide) ?_
        refine v_istore (ls' := [(5, .int v5), (0, .ref SCR), (1, .ref l1), (2, .ref l2), (3, .ref l3), (4, .int l4)]) dL_law_274 (by decide) rfl ?_
        refine v_aload_n dL_law_276 rfl 3 rfl ?_
        refine v_aload_n dL_law_277 rfl 1 rfl ?_
        refine v_iload dL_law_278 5 rfl ?_
        refine v_iconst (v := 1) dL_law_280 ci_1 ?_
        refine v_iadd dL_law_281 ?_
        obtain ⟨v6, e, h⟩ := bind_some h
        refine v_scld hX dL_law_282 e ?_
        refine v_aload_n dL_law_283 rfl 1 rfl ?_
        refine v_iload dL_law_284 5 rfl ?_
        refine v_iconst (v := 2) dL_law_286 ci_2 ?_
        refine v_iadd dL_law_287 ?_
        obtain ⟨v7, e, h⟩ := bind_some h
        refine v_scld hX dL_law_288 e ?_
        obtain ⟨v9, M8, e, h⟩ := bindP_some h
        refine ca_L_133 e dL_law_289 (Nat.le_of_ble_eq_true rfl) (by decide) ?_
        refine v_istore (ls' := [(6, .int v9), (5, .int v5), (0, .ref SCR), (1, .ref l1), (2, .ref l2), (3, .ref l3), (4, .int l4)]) dL_law_292 (by decide) rfl ?_
        refine v_aload_n dL_law_294 rfl 4 rfl ?_
        obtain ⟨v11, M10, e, h⟩ := bindP_some h
        refine ca_L_123 e dL_law_295 (Nat.le_of_ble_eq_true rfl) (by decide) ?_
        refine v_iload dL_law_298 1 rfl ?_
        refine v_icmp_eq (tgt := 305) dL_law_300 (by decide) (fun c15 => ?_) (fun c15 => ?_)
        · replace h := ifP c15 h
          refine v_iload dL_law_305 1 rfl ?_
          refine v_if_ne (tgt := 322) dL_law_307 (by decide) (fun c14 => ?_) (fun c14 => ?_)
          · replace h := ifN c14 h
            refine v_goto (tgt := 2231) dL_law_322 (by decide) ?_
            refine v_iinc (ls' := [(4, .int (l4 + 6)), (6, .int v9), (5, .int v5), (0, .ref SCR), (1, .ref l1), (2, .ref l2), (3, .ref l3)]) dL_law_2231 6 rfl (v := 6) ci_6 (by decide) rfl ?_
            refine v_goto (tgt := 23) dL_law_2234 (by decide) ?_
            refine v_sub [3, 4, 5, 6, 0] rfl ?_
            exact ih l1 l2 l3 (l4 + 6) M10 h
          · replace h := ifP c14 h
            refine v_aload_n dL_law_310 rfl 5 rfl ?_
            refine v_iconst (v := 0) dL_law_311 ci_0 ?_
            obtain ⟨v12, e, h⟩ := bind_some h
            refine v_laload dL_law_312 e ?_
            refine v_iload dL_law_313 0 rfl ?_
            refine v_i2l dL_law_315 ?_
            refine v_lcmp dL_law_316 ?_
            refine v_if_eq (tgt := 322) dL_law_317 (by decide) (fun c13 => ?_) (fun c13 => ?_)
            · replace h := ifP c13 h
              refine v_goto (tgt := 2231) dL_law_322 (by decide) ?_
              refine v_iinc (ls' := [(4, .int (l4 + 6)), (6, .int v9), (5, .int v5), (0, .ref SCR), (1, .ref l1), (2, .ref l2), (3, .ref l3)]) dL_law_2231 6 rfl (v := 6) ci_6 (by decide) rfl ?_
              refine v_goto (tgt := 23) dL_law_2234 (by decide) ?_
              refine v_sub [3, 4, 5, 6, 0] rfl ?_
              exact ih l1 l2 l3 (l4 + 6) M10 h
            · replace h := ifN c13 h
              refine v_iconst (v := 0) dL_law_320 ci_0 ?_
              obtain ⟨hz, rfl, rfl⟩ := okZ_some h
              exact v_zreturn dL_law_321 hz
        · replace h := ifN c15 h
          refine v_iconst (v := 0) dL_law_303 ci_0 ?_
          obtain ⟨hz, rfl, rfl⟩ := okZ_some h
          exact v_zreturn dL_law_304 hz
      replace h := ifN c20_2 h
      rcases Decidable.em ((v1 &&& (63 : Int32)) = 3) with c20_3 | c20_3
      · replace h := ifP c20_3 h
        refine v_tsw (tgt := 325) dL_law_40 c20_3 (by decide) (by decide) rfl (by decide) ?_
        refine v_aload_n dL_law_325 rfl 1 rfl ?_
        refine v_aload_n dL_law_326 rfl 0 rfl ?_
        refine v_iload dL_law_327 4 rfl ?_
        refine v_iconst (v := 1) dL_law_329 ci_1 ?_
        refine v_iadd dL_law_330 ?_
        obtain ⟨v2, e, h⟩ := bind_some h
        refine v_scld hX dL_law_331 e ?_
        refine v_aload_n dL_law_332 rfl 0 rfl ?_
        refine v_iload dL_law_333 4 rfl ?_
        refine v_iconst (v := 2) dL_law_335 ci_2 ?_
        refine v_iadd dL_law_336 ?_
        obtain ⟨v3, e, h⟩ := bind_some h
        refine v_scld hX dL_law_337 e ?_
        refine v_if_eq (tgt := 345) dL_law_338 (by decide) (fun c4 => ?_) (fun c4 => ?_)
        · replace h := ifP c4 h
          refine v_iconst (v := 0) dL_law_345 ci_0 ?_
          exact w_L_law_J346 L xs hX (f_L_law_L23 L xs n) ih l1 l2 l3 l4 (0 : Int32) v2 l1 M h
        · replace h := ifN c4 h
          refine v_iconst (v := 1) dL_law_341 ci_1 ?_
          refine v_goto (tgt := 346) dL_law_342 (by decide) ?_
          exact w_L_law_J346 L xs hX (f_L_law_L23 L xs n) ih l1 l2 l3 l4 (1 : Int32) v2 l1 M h
      replace h := ifN c20_3 h
      rcases Decidable.em ((v1 &&& (63 : Int32)) = 4) with c20_4 | c20_4
      · replace h := ifP c20_4 h
        refine v_tsw (tgt := 409) dL_law_40 c20_4 (by decide) (by decide) rfl (by decide) ?_
        refine v_aload_n dL_law_409 rfl 1 rfl ?_
        refine v_aload_n dL_law_410 rfl 0 rfl ?_
        refine v_iload dL_law_411 4 rfl ?_
        refine v_iconst (v := 1) dL_law_413 ci_1 ?_
        refine v_iadd dL_law_414 ?_
        obtain ⟨v2, e, h⟩ := bind_some h
        refine v_scld hX dL_law_415 e ?_
        refine v_aload_n dL_law_416 rfl 3 rfl ?_
        obtain ⟨v4, M3, e, h⟩ := bindP_some h
        refine ca_L_138 e dL_law_417 (Nat.le_of_ble_eq_true rfl) (by decide) ?_
        refine v_istore (ls' := [(5, .int v4), (0, .ref SCR), (1, .ref l1), (2, .ref l2), (3, .ref l3), (4, .int l4)]) dL_law_420 (by decide) rfl ?_
        refine v_aload_n dL_law_422 rfl 3 rfl ?_
        refine v_aload_n dL_law_423 rfl 1 rfl ?_
        refine v_iload dL_law_424 5 rfl ?_
        refine v_iconst (v := 1) dL_law_426 ci_1 ?_
        refine v_iadd dL_law_427 ?_
        obtain ⟨v5, e, h⟩ := bind_some h
        refine v_scld hX dL_law_428 e ?_
        obtain ⟨v7, M6, e, h⟩ := bindP_some h
        refine ca_L_140 e dL_law_429 (Nat.le_of_ble_eq_true rfl) (by decide) ?_
        refine v_istore (ls' := [(6, .int v7), (5, .int v4), (0, .ref SCR), (1, .ref l1), (2, .ref l2), (3, .ref l3), (4, .int l4)]) dL_law_432 (by decide) rfl ?_
        refine v_aload_n dL_law_434 rfl 4 rfl ?_
        obtain ⟨v9, M8, e, h⟩ := bindP_some h
        refine ca_L_123 e dL_law_435 (Nat.le_of_ble_eq_true rfl) (by decide) ?_
        refine v_iload dL_law_438 1 rfl ?_
        refine v_icmp_eq (tgt := 445) dL_law_440 (by decide) (fun c13 => ?_) (fun c13 => ?_)
        · replace h := ifP c13 h
          refine v_iload dL_law_445 1 rfl ?_
          refine v_if_ne (tgt := 462) dL_law_447 (by decide) (fun c12 => ?_) (fun c12 => ?_)
          · replace h := ifN c12 h
            refine v_goto (tgt := 2231) dL_law_462 (by decide) ?_
            refine v_iinc (ls' := [(4, .int (l4 + 6)), (6, .int v7), (5, .int v4), (0, .ref SCR), (1, .ref l1), (2, .ref l2), (3, .ref l3)]) dL_law_2231 6 rfl (v := 6) ci_6 (by decide) rfl ?_
            refine v_goto (tgt := 23) dL_law_2234 (by decide) ?_
            refine v_sub [3, 4, 5, 6, 0] rfl ?_
            exact ih l1 l2 l3 (l4 + 6) M8 h
          · replace h := ifP c12 h
            refine v_aload_n dL_law_450 rfl 5 rfl ?_
            refine v_iconst (v := 0) dL_law_451 ci_0 ?_
            obtain ⟨v10, e, h⟩ := bind_some h
            refine v_laload dL_law_452 e ?_
            refine v_iload dL_law_453 0 rfl ?_
            refine v_i2l dL_law_455 ?_
            refine v_lcmp dL_law_456 ?_
            refine v_if_eq (tgt := 462) dL_law_457 (by decide) (fun c11 => ?_) (fun c11 => ?_)
            · replace h := ifP c11 h
              refine v_goto (tgt := 2231) dL_law_462 (by decide) ?_
              refine v_iinc (ls' := [(4, .int (l4 + 6)), (6, .int v7), (5, .int v4), (0, .ref SCR), (1, .ref l1), (2, .ref l2), (3, .ref l3)]) dL_law_2231 6 rfl (v := 6) ci_6 (by decide) rfl ?_
              refine v_goto (tgt := 23) dL_law_2234 (by decide) ?_
              refine v_sub [3, 4, 5, 6, 0] rfl ?_
              exact ih l1 l2 l3 (l4 + 6) M8 h
            · replace h := ifN c11 h
              refine v_iconst (v := 0) dL_law_460 ci_0 ?_
              obtain ⟨hz, rfl, rfl⟩ := okZ_some h
              exact v_zreturn dL_law_461 hz
        · replace h := ifN c13 h
          refine v_iconst (v := 0) dL_law_443 ci_0 ?_
          obtain ⟨hz, rfl, rfl⟩ := okZ_some h
          exact v_zreturn dL_law_444 hz
      replace h := ifN c20_4 h
      rcases Decidable.em ((v1 &&& (63 : Int32)) = 5) with c20_5 | c20_5
      · replace h := ifP c20_5 h
        refine v_tsw (tgt := 465) dL_law_40 c20_5 (by decide) (by decide) rfl (by decide) ?_
        refine v_aload_n dL_law_465 rfl 1 rfl ?_
        refine v_aload_n dL_law_466 rfl 0 rfl ?_
        refine v_iload dL_law_467 4 rfl ?_
        refine v_iconst (v := 1) dL_law_469 ci_1 ?_
        refine v_iadd dL_law_470 ?_
        obtain ⟨v2, e, h⟩ := bind_some h
        refine v_scld hX dL_law_471 e ?_
        refine v_aload_n dL_law_472 rfl 3 rfl ?_
        obtain ⟨v4, M3, e, h⟩ := bindP_some h
        refine ca_L_141 e dL_law_473 (Nat.le_of_ble_eq_true rfl) (by decide) ?_
        refine v_istore (ls' := [(5, .int v4), (0, .ref SCR), (1, .ref l1), (2, .ref l2), (3, .ref l3), (4, .int l4)]) dL_law_476 (by decide) rfl ?_
        refine v_aload_n dL_law_478 rfl 3 rfl ?_
        refine v_aload_n dL_law_479 rfl 1 rfl ?_
        refine v_iload dL_law_480 5 rfl ?_
        refine v_iconst (v := 1) dL_law_482 ci_1 ?_
        refine v_iadd dL_law_483 ?_
        obtain ⟨v5, e, h⟩ := bind_some h
        refine v_scld hX dL_law_484 e ?_
        obtain ⟨v7, M6, e, h⟩ := bindP_some h
        refine ca_L_143 e dL_law_485 (Nat.le_of_ble_eq_true rfl) (by decide) ?_
        refine v_istore (ls' := [(6, .int v7), (5, .int v4), (0, .ref SCR), (1, .ref l1), (2, .ref l2), (3, .ref l3), (4, .int l4)]) dL_law_488 (by decide) rfl ?_
        refine v_aload_n dL_law_490 rfl 4 rfl ?_
        obtain ⟨v9, M8, e, h⟩ := bindP_some h
        refine ca_L_123 e dL_law_491 (Nat.le_of_ble_eq_true rfl) (by decide) ?_
        refine v_iload dL_law_494 1 rfl ?_
        refine v_icmp_eq (tgt := 501) dL_law_496 (by decide) (fun c13 => ?_) (fun c13 => ?_)
        · replace h := ifP c13 h
          refine v_iload dL_law_501 1 rfl ?_
          refine v_if_ne (tgt := 518) dL_law_503 (by decide) (fun c12 => ?_) (fun c12 => ?_)
          · replace h := ifN c12 h
            refine v_goto (tgt := 2231) dL_law_518 (by decide) ?_
            refine v_iinc (ls' := [(4, .int (l4 + 6)), (6, .int v7), (5, .int v4), (0, .ref SCR), (1, .ref l1), (2, .ref l2), (3, .ref l3)]) dL_law_2231 6 rfl (v := 6) ci_6 (by decide) rfl ?_
            refine v_goto (tgt := 23) dL_law_2234 (by decide) ?_
            refine v_sub [3, 4, 5, 6, 0] rfl ?_
            exact ih l1 l2 l3 (l4 + 6) M8 h
          · replace h := ifP c12 h
            refine v_aload_n dL_law_506 rfl 5 rfl ?_
            refine v_iconst (v := 0) dL_law_507 ci_0 ?_
            obtain ⟨v10, e, h⟩ := bind_some h
            refine v_laload dL_law_508 e ?_
            refine v_iload dL_law_509 0 rfl ?_
            refine v_i2l dL_law_511 ?_
            refine v_lcmp dL_law_512 ?_
            refine v_if_eq (tgt := 518) dL_law_513 (by decide) (fun c11 => ?_) (fun c11 => ?_)
            · replace h := ifP c11 h
              refine v_goto (tgt := 2231) dL_law_518 (by decide) ?_
              refine v_iinc (ls' := [(4, .int (l4 + 6)), (6, .int v7), (5, .int v4), (0, .ref SCR), (1, .ref l1), (2, .ref l2), (3, .ref l3)]) dL_law_2231 6 rfl (v := 6) ci_6 (by decide) rfl ?_
              refine v_goto (tgt := 23) dL_law_2234 (by decide) ?_
              refine v_sub [3, 4, 5, 6, 0] rfl ?_
              exact ih l1 l2 l3 (l4 + 6) M8 h
            · replace h := ifN c11 h
              refine v_iconst (v := 0) dL_law_516 ci_0 ?_
              obtain ⟨hz, rfl, rfl⟩ := okZ_some h
              exact v_zreturn dL_law_517 hz
        · replace h := ifN c13 h
          refine v_iconst (v := 0) dL_law_499 ci_0 ?_
          obtain ⟨hz, rfl, rfl⟩ := okZ_some h
          exact v_zreturn dL_law_500 hz
      replace h := ifN c20_5 h
      rcases Decidable.em ((v1 &&& (63 : Int32)) = 6) with c20_6 | c20_6
      · replace h := ifP c20_6 h
        refine v_tsw (tgt := 521) dL_law_40 c20_6 (by decide) (by decide) rfl (by decide) ?_
        refine v_aload_n dL_law_521 rfl 1 rfl ?_
        refine v_aload_n dL_law_522 rfl 0 rfl ?_
        refine v_iload dL_law_523 4 rfl ?_
        refine v_iconst (v := 1) dL_law_525 ci_1 ?_
        refine v_iadd dL_law_526 ?_
        obtain ⟨v2, e, h⟩ := bind_some h
        refine v_scld hX dL_law_527 e ?_
        refine v_aload_n dL_law_528 rfl 0 rfl ?_
        refine v_iload dL_law_529 4 rfl ?_
        refine v_iconst (v := 2) dL_law_531 ci_2 ?_
        refine v_iadd dL_law_532 ?_
        obtain ⟨v3, e, h⟩ := bind_some h
        refine v_scld hX dL_law_533 e ?_
        refine v_aload_n dL_law_534 rfl 0 rfl ?_
        refine v_iload dL_law_535 4 rfl ?_
        refine v_iconst (v := 3) dL_law_537 ci_3 ?_
        refine v_iadd dL_law_538 ?_
        obtain ⟨v4, e, h⟩ := bind_some h
        refine v_scld hX dL_law_539 e ?_
        refine v_if_eq (tgt := 547) dL_law_540 (by decide) (fun c5 => ?_) (fun c5 => ?_)
        · replace h := ifP c5 h
          refine v_iconst (v := 0) dL_law_547 ci_0 ?_
          exact w_L_law_J548 L xs hX (f_L_law_L23 L xs n) ih l1 l2 l3 l4 (0 : Int32) v3 v2 l1 M h
        · replace h := ifN c5 h
          refine v_iconst (v := 1) dL_law_543 ci_1 ?_
          refine v_goto (tgt := 548) dL_law_544 (by decide) ?_
          exact w_L_law_J548 L xs hX (f_L_law_L23 L xs n) ih l1 l2 l3 l4 (1 : Int32) v3 v2 l1 M h
      replace h := ifN c20_6 h
      rcases Decidable.em ((v1 &&& (63 : Int32)) = 7) with c20_7 | c20_7
      · replace h := ifP c20_7 h
        refine v_tsw (tgt := 629) dL_law_40 c20_7 (by decide) (by decide) rfl (by decide) ?_
        refine v_aload_n dL_law_629 rfl 1 rfl ?_
        refine v_aload_n dL_law_630 rfl 0 rfl ?_
        refine v_iload dL_law_631 4 rfl ?_
        refine v_iconst (v := 1) dL_law_633 ci_1 ?_
        refine v_iadd dL_law_634 ?_
        obtain ⟨v2, e, h⟩ := bind_some h
        refine v_scld hX dL_law_635 e ?_
        refine v_aload_n dL_law_636 rfl 3 rfl ?_
        obtain ⟨v4, M3, e, h⟩ := bindP_some h
        refine ca_L_148 e dL_law_637 (Nat.le_of_ble_eq_true rfl) (by decide) ?_
        refine v_istore (ls' := [(5, .int v4), (0, .ref SCR), (1, .ref l1), (2, .ref l2), (3, .ref l3), (4, .int l4)]) dL_law_640 (by decide) rfl ?_
        refine v_aload_n dL_law_642 rfl 3 rfl ?_
        refine v_aload_n dL_law_643 rfl 1 rfl ?_
        refine v_iload dL_law_644 5 rfl ?_
        refine v_iconst (v := 1) dL_law_646 ci_1 ?_
        refine v_iadd dL_law_647 ?_
        obtain ⟨v5, e, h⟩ := bind_some h
        refine v_scld hX dL_law_648 e ?_
        obtain ⟨v7, M6, e, h⟩ := bindP_some h
        refine ca_L_150 e dL_law_649 (Nat.le_of_ble_eq_true rfl) (by decide) ?_
        refine v_istore (ls' := [(6, .int v7), (5, .int v4), (0, .ref SCR), (1, .ref l1), (2, .ref l2), (3, .ref l3), (4, .int l4)]) dL_law_652 (by decide) rfl ?_
        refine v_aload_n dL_law_654 rfl 4 rfl ?_
        obtain ⟨v9, M8, e, h⟩ := bindP_some h
        refine ca_L_123 e dL_law_655 (Nat.le_of_ble_eq_true rfl) (by decide) ?_
        refine v_iload dL_law_658 1 rfl ?_
        refine v_icmp_eq (tgt := 665) dL_law_660 (by decide) (fun c13 => ?_) (fun c13 => ?_)
        · replace h := ifP c13 h
          refine v_iload dL_law_665 1 rfl ?_
          refine v_if_ne (tgt := 682) dL_law_667 (by decide) (fun c12 => ?_) (fun c12 => ?_)
          · replace h := ifN c12 h
            refine v_goto (tgt := 2231) dL_law_682 (by decide) ?_
            refine v_iinc (ls' := [(4, .int (l4 + 6)), (6, .int v7), (5, .int v4), (0, .ref SCR), (1, .ref l1), (2, .ref l2), (3, .ref l3)]) dL_law_2231 6 rfl (v := 6) ci_6 (by decide) rfl ?_
            refine v_goto (tgt := 23) dL_law_2234 (by decide) ?_
            refine v_sub [3, 4, 5, 6, 0] rfl ?_
            exact ih l1 l2 l3 (l4 + 6) M8 h
          · replace h := ifP c12 h
            refine v_aload_n dL_law_670 rfl 5 rfl ?_
            refine v_iconst (v := 0) dL_law_671 ci_0 ?_
            obtain ⟨v10, e, h⟩ := bind_some h
            refine v_laload dL_law_672 e ?_
            refine v_iload dL_law_673 0 rfl ?_
            refine v_i2l dL_law_675 ?_
            refine v_lcmp dL_law_676 ?_
            refine v_if_eq (tgt := 682) dL_law_677 (by decide) (fun c11 => ?_) (fun c11 => ?_)
            · replace h := ifP c11 h
              refine v_goto (tgt := 2231) dL_law_682 (by decide) ?_
              refine v_iinc (ls' := [(4, .int (l4 + 6)), (6, .int v7), (5, .int v4), (0, .ref SCR), (1, .ref l1), (2, .ref l2), (3, .ref l3)]) dL_law_2231 6 rfl (v := 6) ci_6 (by decide) rfl ?_
              refine v_goto (tgt := 23) dL_law_2234 (by decide) ?_
              refine v_sub [3, 4, 5, 6, 0] rfl ?_
              exact ih l1 l2 l3 (l4 + 6) M8 h
            · replace h := ifN c11 h
              refine v_iconst (v := 0) dL_law_680 ci_0 ?_
              obtain ⟨hz, rfl, rfl⟩ := okZ_some h
              exact v_zreturn dL_law_681 hz
        · replace h := ifN c13 h
          refine v_iconst (v := 0) dL_law_663 ci_0 ?_
          obtain ⟨hz, rfl, rfl⟩ := okZ_some h
          exact v_zreturn dL_law_664 hz
      replace h := ifN c20_7 h
      rcases Decidable.em ((v1 &&& (63 : Int32)) = 8) with c20_8 | c20_8
      · replace h := ifP c20_8 h
        refine v_tsw (tgt := 685) dL_law_40 c20_8 (by decide) (by decide) rfl (by decide) ?_
        refine v_aload_n dL_law_685 rfl 1 rfl ?_
        refine v_aload_n dL_law_686 rfl 0 rfl ?_
        refine v_iload dL_law_687 4 rfl ?_
        refine v_iconst (v := 1) dL_law_689 ci_1 ?_
        refine v_iadd dL_law_690 ?_
        obtain ⟨v2, e, h⟩ := bind_some h
        refine v_scld hX dL_law_691 e ?_
        refine v_aload_n dL_law_692 rfl 0 rfl ?_
        refine v_iload dL_law_693 4 rfl ?_
        refine v_iconst (v := 2) dL_law_695 ci_2 ?_
        refine v_iadd dL_law_696 ?_
        obtain ⟨v3, e, h⟩ := bind_some h
        refine v_scld hX dL_law_697 e ?_
        refine v_aload_n dL_law_698 rfl 0 rfl ?_
        refine v_iload dL_law_699 4 rfl ?_
        refine v_iconst (v := 3) dL_law_701 ci_3 ?_
        refine v_iadd dL_law_702 ?_
        obtain ⟨v4, e, h⟩ := bind_some h
        refine v_scld hX dL_law_703 e ?_
        refine v_aload_n dL_law_704 rfl 0 rfl ?_
        refine v_iload dL_law_705 4 rfl ?_
        refine v_iconst (v := 4) dL_law_707 ci_4 ?_
        refine v_iadd dL_law_708 ?_
        obtain ⟨v5, e, h⟩ := bind_some h
        refine v_scld hX dL_law_709 e ?_
        refine v_aload_n dL_law_710 rfl 3 rfl ?_
        obtain ⟨v7, M6, e, h⟩ := bindP_some h
        refine ca_L_151 e dL_law_711 (Nat.le_of_ble_eq_true rfl) (by decide) ?_
        refine v_istore (ls' := [(5, .int v7), (0, .ref SCR), (1, .ref l1), (2, .ref l2), (3, .ref l3), (4, .int l4)]) dL_law_714 (by decide) rfl ?_
        refine v_aload_n dL_law_716 rfl 3 rfl ?_
        refine v_aload_n dL_law_717 rfl 1 rfl ?_
        refine v_iload dL_law_718 5 rfl ?_
        refine v_iconst (v := 1) dL_law_720 ci_1 ?_
        refine v_iadd dL_law_721 ?_
        obtain ⟨v8, e, h⟩ := bind_some h
        refine v_scld hX dL_law_722 e ?_
        refine v_aload_n dL_law_723 rfl 1 rfl ?_
        refine v_iload dL_law_724 5 rfl ?_
        refine v_iconst (v := 2) dL_law_726 ci_2 ?_
        refine v_iadd dL_law_727 ?_
        obtain ⟨v9, e, h⟩ := bind_some h
        refine v_scld hX dL_law_728 e ?_
        refine v_aload_n dL_law_729 rfl 1 rfl ?_
        refine v_iload dL_law_730 5 rfl ?_
        refine v_iconst (v := 3) dL_law_732 ci_3 ?_
        refine v_iadd dL_law_733 ?_
        obtain ⟨v10, e, h⟩ := bind_some h
        refine v_scld hX dL_law_734 e ?_
        refine v_aload_n dL_law_735 rfl 1 rfl ?_
        refine v_iload dL_law_736 5 rfl ?_
        refine v_iconst (v := 4) dL_law_738 ci_4 ?_
        refine v_iadd dL_law_739 ?_
        obtain ⟨v11, e, h⟩ := bind_some h
        refine v_scld hX dL_law_740 e ?_
        obtain ⟨v13, M12, e, h⟩ := bindP_some h
        refine ca_L_154 e dL_law_741 (Nat.le_of_ble_eq_true rfl) (by decide) ?_
        refine v_istore (ls' := [(6, .int v13), (5, .int v7), (0, .ref SCR), (1, .ref l1), (2, .ref l2), (3, .ref l3), (4, .int l4)]) dL_law_744 (by decide) rfl ?_
        refine v_aload_n dL_law_746 rfl 4 rfl ?_
        obtain ⟨v15, M14, e, h⟩ := bindP_some h
        refine ca_L_123 e dL_law_747 (Nat.le_of_ble_eq_true rfl) (by decide) ?_
        refine v_iload dL_law_750 1 rfl ?_
        refine v_icmp_eq (tgt := 757) dL_law_752 (by decide) (fun c19 => ?_) (fun c19 => ?_)
        · replace h := ifP c19 h
          refine v_iload dL_law_757 1 rfl ?_
          refine v_if_ne (tgt := 774) dL_law_759 (by decide) (fun c18 => ?_) (fun c18 => ?_)
          · replace h := ifN c18 h
            refine v_goto (tgt := 2231) dL_law_774 (by decide) ?_
            refine v_iinc (ls' := [(4, .int (l4 + 6)), (6, .int v13), (5, .int v7), (0, .ref SCR), (1, .ref l1), (2, .ref l2), (3, .ref l3)]) dL_law_2231 6 rfl (v := 6) ci_6 (by decide) rfl ?_
            refine v_goto (tgt := 23) dL_law_2234 (by decide) ?_
            refine v_sub [3, 4, 5, 6, 0] rfl ?_
            exact ih l1 l2 l3 (l4 + 6) M14 h
          · replace h := ifP c18 h
            refine v_aload_n dL_law_762 rfl 5 rfl ?_
            refine v_iconst (v := 0) dL_law_763 ci_0 ?_
            obtain ⟨v16, e, h⟩ := bind_some h
            refine v_laload dL_law_764 e ?_
            refine v_iload dL_law_765 0 rfl ?_
            refine v_i2l dL_law_767 ?_
            refine v_lcmp dL_law_768 ?_
            refine v_if_eq (tgt := 774) dL_law_769 (by decide) (fun c17 => ?_) (fun c17 => ?_)
            · replace h := ifP c17 h
              refine v_goto (tgt := 2231) dL_law_774 (by decide) ?_
              refine v_iinc (ls' := [(4, .int (l4 + 6)), (6, .int v13), (5, .int v7), (0, .ref SCR), (1, .ref l1), (2, .ref l2), (3, .ref l3)]) dL_law_2231 6 rfl (v := 6) ci_6 (by decide) rfl ?_
              refine v_goto (tgt := 23) dL_law_2234 (by decide) ?_
              refine v_sub [3, 4, 5, 6, 0] rfl ?_
              exact ih l1 l2 l3 (l4 + 6) M14 h
            · replace h := ifN c17 h
              refine v_iconst (v := 0) dL_law_772 ci_0 ?_
              obtain ⟨hz, rfl, rfl⟩ := okZ_some h
              exact v_zreturn dL_law_773 hz
        · replace h := ifN c19 h
          refine v_iconst (v := 0) dL_law_755 ci_0 ?_
          obtain ⟨hz, rfl, rfl⟩ := okZ_some h
          exact v_zreturn dL_law_756 hz
      replace h := ifN c20_8 h
      rcases Decidable.em ((v1 &&& (63 : Int32)) = 9) with c20_9 | c20_9
      · replace h := ifP c20_9 h
        refine v_tsw (tgt := 777) dL_law_40 c20_9 (by decide) (by decide) rfl (by decide) ?_
        refine v_aload_n dL_law_777 rfl 1 rfl ?_
        refine v_aload_n dL_law_778 rfl 0 rfl ?_
        refine v_iload dL_law_779 4 rfl ?_
        refine v_iconst (v := 1) dL_law_781 ci_1 ?_
        refine v_iadd dL_law_782 ?_
        obtain ⟨v2, e, h⟩ := bind_some h
        refine v_scld hX dL_law_783 e ?_
        refine v_aload_n dL_law_784 rfl 0 rfl ?_
        refine v_iload dL_law_785 4 rfl ?_
        refine v_iconst (v := 2) dL_law_787 ci_2 ?_
        refine v_iadd dL_law_788 ?_
        obtain ⟨v3, e, h⟩ := bind_some h
        refine v_scld hX dL_law_789 e ?_
        refine v_aload_n dL_law_790 rfl 3 rfl ?_
        obtain ⟨v5, M4, e, h⟩ := bindP_some h
        refine ca_L_155 e dL_law_791 (Nat.le_of_ble_eq_true rfl) (by decide) ?_
        refine v_istore (ls' := [(5, .int v5), (0, .ref SCR), (1, .ref l1), (2, .ref l2), (3, .ref l3), (4, .int l4)]) dL_law_794 (by decide) rfl ?_
        refine v_aload_n dL_law_796 rfl 3 rfl ?_
        refine v_aload_n dL_law_797 rfl 1 rfl ?_
        refine v_iload dL_law_798 5 rfl ?_
        refine v_iconst (v := 1) dL_law_800 ci_1 ?_
        refine v_iadd dL_law_801 ?_
        obtain ⟨v6, e, h⟩ := bind_some h
        refine v_scld hX dL_law_802 e ?_
        refine v_aload_n dL_law_803 rfl 1 rfl ?_
        refine v_iload dL_law_804 5 rfl ?_
        refine v_iconst (v := 2) dL_law_806 ci_2 ?_
        refine v_iadd dL_law_807 ?_
        obtain ⟨v7, e, h⟩ := bind_some h
        refine v_scld hX dL_law_808 e ?_
        obtain ⟨v9, M8, e, h⟩ := bindP_some h
        refine ca_L_157 e dL_law_809 (Nat.le_of_ble_eq_true rfl) (by decide) ?_
        refine v_istore (ls' := [(6, .int v9), (5, .int v5), (0, .ref SCR), (1, .ref l1), (2, .ref l2), (3, .ref l3), (4, .int l4)]) dL_law_812 (by decide) rfl ?_
        refine v_aload_n dL_law_814 rfl 4 rfl ?_
        obtain ⟨v11, M10, e, h⟩ := bindP_some h
        refine ca_L_123 e dL_law_815 (Nat.le_of_ble_eq_true rfl) (by decide) ?_
        refine v_iload dL_law_818 1 rfl ?_
        refine v_icmp_eq (tgt := 825) dL_law_820 (by decide) (fun c15 => ?_) (fun c15 => ?_)
        · replace h := ifP c15 h
          refine v_iload dL_law_825 1 rfl ?_
          refine v_if_ne (tgt := 842) dL_law_827 (by decide) (fun c14 => ?_) (fun c14 => ?_)
          · replace h := ifN c14 h
            refine v_goto (tgt := 2231) dL_law_842 (by decide) ?_
            refine v_iinc (ls' := [(4, .int (l4 + 6)), (6, .int v9), (5, .int v5), (0, .ref SCR), (1, .ref l1), (2, .ref l2), (3, .ref l3)]) dL_law_2231 6 rfl (v := 6) ci_6 (by decide) rfl ?_
            refine v_goto (tgt := 23) dL_law_2234 (by decide) ?_
            refine v_sub [3, 4, 5, 6, 0] rfl ?_
            exact ih l1 l2 l3 (l4 + 6) M10 h
          · replace h := ifP c14 h
            refine v_aload_n dL_law_830 rfl 5 rfl ?_
            refine v_iconst (v := 0) dL_law_831 ci_0 ?_
            obtain ⟨v12, e, h⟩ := bind_some h
            refine v_laload dL_law_832 e ?_
            refine v_iload dL_law_833 0 rfl ?_
            refine v_i2l dL_law_835 ?_
            refine v_lcmp dL_law_836 ?_
            refine v_if_eq (tgt := 842) dL_law_837 (by decide) (fun c13 => ?_) (fun c13 => ?_)
            · replace h := ifP c13 h
              refine v_goto (tgt := 2231) dL_law_842 (by decide) ?_
              refine v_iinc (ls' := [(4, .int (l4 + 6)), (6, .int v9), (5, .int v5), (0, .ref SCR), (1, .ref l1), (2, .ref l2), (3, .ref l3)]) dL_law_2231 6 rfl (v := 6) ci_6 (by decide) rfl ?_
              refine v_goto (tgt := 23) dL_law_2234 (by decide) ?_
              refine v_sub [3, 4, 5, 6, 0] rfl ?_
              exact ih l1 l2 l3 (l4 + 6) M10 h
            · replace h := ifN c13 h
              refine v_iconst (v := 0) dL_law_840 ci_0 ?_
              obtain ⟨hz, rfl, rfl⟩ := okZ_some h
              exact v_zreturn dL_law_841 hz
        · replace h := ifN c15 h
          refine v_iconst (v := 0) dL_law_823 ci_0 ?_
          obtain ⟨hz, rfl, rfl⟩ := okZ_some h
          exact v_zreturn dL_law_824 hz
      replace h := ifN c20_9 h
      rcases Decidable.em ((v1 &&& (63 : Int32)) = 10) with c20_10 | c20_10
      · replace h := ifP c20_10 h
        refine v_tsw (tgt := 845) dL_law_40 c20_10 (by decide) (by decide) rfl (by decide) ?_
        refine v_aload_n dL_law_845 rfl 1 rfl ?_
        refine v_aload_n dL_law_846 rfl 0 rfl ?_
        refine v_iload dL_law_847 4 rfl ?_
        refine v_iconst (v := 1) dL_law_849 ci_1 ?_
        refine v_iadd dL_law_850 ?_
        obtain ⟨v2, e, h⟩ := bind_some h
        refine v_scld hX dL_law_851 e ?_
        refine v_aload_n dL_law_852 rfl 0 rfl ?_
        refine v_iload dL_law_853 4 rfl ?_
        refine v_iconst (v := 2) dL_law_855 ci_2 ?_
        refine v_iadd dL_law_856 ?_
        obtain ⟨v3, e, h⟩ := bind_some h
        refine v_scld hX dL_law_857 e ?_
        refine v_aload_n dL_law_858 rfl 0 rfl ?_
        refine v_iload dL_law_859 4 rfl ?_
        refine v_iconst (v := 3) dL_law_861 ci_3 ?_
        refine v_iadd dL_law_862 ?_
        obtain ⟨v4, e, h⟩ := bind_some h
        refine v_scld hX dL_law_863 e ?_
        refine v_aload_n dL_law_864 rfl 3 rfl ?_
        obtain ⟨v6, M5, e, h⟩ := bindP_some h
        refine ca_L_158 e dL_law_865 (Nat.le_of_ble_eq_true rfl) (by decide) ?_
        refine v_istore (ls' := [(5, .int v6), (0, .ref SCR), (1, .ref l1), (2, .ref l2), (3, .ref l3), (4, .int l4)]) dL_law_868 (by decide) rfl ?_
        refine v_aload_n dL_law_870 rfl 3 rfl ?_
        refine v_aload_n dL_law_871 rfl 1 rfl ?_
        refine v_iload dL_law_872 5 rfl ?_
        refine v_iconst (v := 1) dL_law_874 ci_1 ?_
        refine v_iadd dL_law_875 ?_
        obtain ⟨v7, e, h⟩ := bind_some h
        refine v_scld hX dL_law_876 e ?_
        refine v_aload_n dL_law_877 rfl 1 rfl ?_
        refine v_iload dL_law_878 5 rfl ?_
        refine v_iconst (v := 2) dL_law_880 ci_2 ?_
        refine v_iadd dL_law_881 ?_
        obtain ⟨v8, e, h⟩ := bind_some h
        refine v_scld hX dL_law_882 e ?_
        refine v_aload_n dL_law_883 rfl 1 rfl ?_
        refine v_iload dL_law_884 5 rfl ?_
        refine v_iconst (v := 3) dL_law_886 ci_3 ?_
        refine v_iadd dL_law_887 ?_
        obtain ⟨v9, e, h⟩ := bind_some h
        refine v_scld hX dL_law_888 e ?_
        obtain ⟨v11, M10, e, h⟩ := bindP_some h
        refine ca_L_161 e dL_law_889 (Nat.le_of_ble_eq_true rfl) (by decide) ?_
        refine v_istore (ls' := [(6, .int v11), (5, .int v6), (0, .ref SCR), (1, .ref l1), (2, .ref l2), (3, .ref l3), (4, .int l4)]) dL_law_892 (by decide) rfl ?_
        refine v_aload_n dL_law_894 rfl 4 rfl ?_
        obtain ⟨v13, M12, e, h⟩ := bindP_some h
        refine ca_L_123 e dL_law_895 (Nat.le_of_ble_eq_true rfl) (by decide) ?_
        refine v_iload dL_law_898 1 rfl ?_
        refine v_icmp_eq (tgt := 905) dL_law_900 (by decide) (fun c17 => ?_) (fun c17 => ?_)
        · replace h := ifP c17 h
          refine v_iload dL_law_905 1 rfl ?_
          refine v_if_ne (tgt := 922) dL_law_907 (by decide) (fun c16 => ?_) (fun c16 => ?_)
          · replace h := ifN c16 h
            refine v_goto (tgt := 2231) dL_law_922 (by decide) ?_
            refine v_iinc (ls' := [(4, .int (l4 + 6)), (6, .int v11), (5, .int v6), (0, .ref SCR), (1, .ref l1), (2, .ref l2), (3, .ref l3)]) dL_law_2231 6 rfl (v := 6) ci_6 (by decide) rfl ?_
            refine v_goto (tgt := 23) dL_law_2234 (by decide) ?_
            refine v_sub [3, 4, 5, 6, 0] rfl ?_
            exact ih l1 l2 l3 (l4 + 6) M12 h
          · replace h := ifP c16 h
            refine v_aload_n dL_law_910 rfl 5 rfl ?_
            refine v_iconst (v := 0) dL_law_911 ci_0 ?_
            obtain ⟨v14, e, h⟩ := bind_some h
            refine v_laload dL_law_912 e ?_
            refine v_iload dL_law_913 0 rfl ?_
            refine v_i2l dL_law_915 ?_
            refine v_lcmp dL_law_916 ?_
            refine v_if_eq (tgt := 922) dL_law_917 (by decide) (fun c15 => ?_) (fun c15 => ?_)
            · replace h := ifP c15 h
              refine v_goto (tgt := 2231) dL_law_922 (by decide) ?_
              refine v_iinc (ls' := [(4, .int (l4 + 6)), (6, .int v11), (5, .int v6), (0, .ref SCR), (1, .ref l1), (2, .ref l2), (3, .ref l3)]) dL_law_2231 6 rfl (v := 6) ci_6 (by decide) rfl ?_
              refine v_goto (tgt := 23) dL_law_2234 (by decide) ?_
              refine v_sub [3, 4, 5, 6, 0] rfl ?_
              exact ih l1 l2 l3 (l4 + 6) M12 h
            · replace h := ifN c15 h
              refine v_iconst (v := 0) dL_law_920 ci_0 ?_
              obtain ⟨hz, rfl, rfl⟩ := okZ_some h
              exact v_zreturn dL_law_921 hz
        · replace h := ifN c17 h
          refine v_iconst (v := 0) dL_law_903 ci_0 ?_
          obtain ⟨hz, rfl, rfl⟩ := okZ_some h
          exact v_zreturn dL_law_904 hz
      replace h := ifN c20_10 h
      rcases Decidable.em ((v1 &&& (63 : Int32)) = 11) with c20_11 | c20_11
      · replace h := ifP c20_11 h
        refine v_tsw (tgt := 925) dL_law_40 c20_11 (by decide) (by decide) rfl (by decide) ?_
        refine v_aload_n dL_law_925 rfl 1 rfl ?_
        refine v_aload_n dL_law_926 rfl 0 rfl ?_
        refine v_iload dL_law_927 4 rfl ?_
        refine v_iconst (v := 1) dL_law_929 ci_1 ?_
        refine v_iadd dL_law_930 ?_
        obtain ⟨v2, e, h⟩ := bind_some h
        refine v_scld hX dL_law_931 e ?_
        refine v_aload_n dL_law_932 rfl 0 rfl ?_
        refine v_iload dL_law_933 4 rfl ?_
        refine v_iconst (v := 2) dL_law_935 ci_2 ?_
        refine v_iadd dL_law_936 ?_
        obtain ⟨v3, e, h⟩ := bind_some h
        refine v_scld hX dL_law_937 e ?_
        refine v_aload_n dL_law_938 rfl 0 rfl ?_
        refine v_iload dL_law_939 4 rfl ?_
        refine v_iconst (v := 3) dL_law_941 ci_3 ?_
        refine v_iadd dL_law_942 ?_
        obtain ⟨v4, e, h⟩ := bind_some h
        refine v_scld hX dL_law_943 e ?_
        refine v_aload_n dL_law_944 rfl 3 rfl ?_
        obtain ⟨v6, M5, e, h⟩ := bindP_some h
        refine ca_L_162 e dL_law_945 (Nat.le_of_ble_eq_true rfl) (by decide) ?_
        refine v_istore (ls' := [(5, .int v6), (0, .ref SCR), (1, .ref l1), (2, .ref l2), (3, .ref l3), (4, .int l4)]) dL_law_948 (by decide) rfl ?_
        refine v_aload_n dL_law_950 rfl 3 rfl ?_
        refine v_aload_n dL_law_951 rfl 1 rfl ?_
        refine v_iload dL_law_952 5 rfl ?_
        refine v_iconst (v := 1) dL_law_954 ci_1 ?_
        refine v_iadd dL_law_955 ?_
        obtain ⟨v7, e, h⟩ := bind_some h
        refine v_scld hX dL_law_956 e ?_
        refine v_aload_n dL_law_957 rfl 1 rfl ?_
        refine v_iload dL_law_958 5 rfl ?_
        refine v_iconst (v := 2) dL_law_960 ci_2 ?_
        refine v_iadd dL_law_961 ?_
        obtain ⟨v8, e, h⟩ := bind_some h
        refine v_scld hX dL_law_962 e ?_
        refine v_aload_n dL_law_963 rfl 1 rfl ?_
        refine v_iload dL_law_964 5 rfl ?_
        refine v_iconst (v := 3) dL_law_966 ci_3 ?_
        refine v_iadd dL_law_967 ?_
        obtain ⟨v9, e, h⟩ := bind_some h
        refine v_scld hX dL_law_968 e ?_
        obtain ⟨v11, M10, e, h⟩ := bindP_some h
        refine ca_L_164 e dL_law_969 (Nat.le_of_ble_eq_true rfl) (by decide) ?_
        refine v_istore (ls' := [(6, .int v11), (5, .int v6), (0, .ref SCR), (1, .ref l1), (2, .ref l2), (3, .ref l3), (4, .int l4)]) dL_law_972 (by decide) rfl ?_
        refine v_aload_n dL_law_974 rfl 4 rfl ?_
        obtain ⟨v13, M12, e, h⟩ := bindP_some h
        refine ca_L_123 e dL_law_975 (Nat.le_of_ble_eq_true rfl) (by decide) ?_
        refine v_iload dL_law_978 1 rfl ?_
        refine v_icmp_eq (tgt := 985) dL_law_980 (by decide) (fun c17 => ?_) (fun c17 => ?_)
        · replace h := ifP c17 h
          refine v_iload dL_law_985 1 rfl ?_
          refine v_if_ne (tgt := 1002) dL_law_987 (by decide) (fun c16 => ?_) (fun c16 => ?_)
          · replace h := ifN c16 h
            refine v_goto (tgt := 2231) dL_law_1002 (by decide) ?_
            refine v_iinc (ls' := [(4, .int (l4 + 6)), (6, .int v11), (5, .int v6), (0, .ref SCR), (1, .ref l1), (2, .ref l2), (3, .ref l3)]) dL_law_2231 6 rfl (v := 6) ci_6 (by decide) rfl ?_
            refine v_goto (tgt := 23) dL_law_2234 (by decide) ?_
            refine v_sub [3, 4, 5, 6, 0] rfl ?_
            exact ih l1 l2 l3 (l4 + 6) M12 h
          · replace h := ifP c16 h
            refine v_aload_n dL_law_990 rfl 5 rfl ?_
            refine v_iconst (v := 0) dL_law_991 ci_0 ?_
            obtain ⟨v14, e, h⟩ := bind_some h
            refine v_laload dL_law_992 e ?_
            refine v_iload dL_law_993 0 rfl ?_
            refine v_i2l dL_law_995 ?_
            refine v_lcmp dL_law_996 ?_
            refine v_if_eq (tgt := 1002) dL_law_997 (by decide) (fun c15 => ?_) (fun c15 => ?_)
            · replace h := ifP c15 h
              refine v_goto (tgt := 2231) dL_law_1002 (by decide) ?_
              refine v_iinc (ls' := [(4, .int (l4 + 6)), (6, .int v11), (5, .int v6), (0, .ref SCR), (1, .ref l1), (2, .ref l2), (3, .ref l3)]) dL_law_2231 6 rfl (v := 6) ci_6 (by decide) rfl ?_
              refine v_goto (tgt := 23) dL_law_2234 (by decide) ?_
              refine v_sub [3, 4, 5, 6, 0] rfl ?_
              exact ih l1 l2 l3 (l4 + 6) M12 h
            · replace h := ifN c15 h
              refine v_iconst (v := 0) dL_law_1000 ci_0 ?_
              obtain ⟨hz, rfl, rfl⟩ := okZ_some h
              exact v_zreturn dL_law_1001 hz
        · replace h := ifN c17 h
          refine v_iconst (v := 0) dL_law_983 ci_0 ?_
          obtain ⟨hz, rfl, rfl⟩ := okZ_some h
          exact v_zreturn dL_law_984 hz
      replace h := ifN c20_11 h
      rcases Decidable.em ((v1 &&& (63 : Int32)) = 12) with c20_12 | c20_12
      · replace h := ifP c20_12 h
        refine v_tsw (tgt := 1005) dL_law_40 c20_12 (by decide) (by decide) rfl (by decide) ?_
        refine v_aload_n dL_law_1005 rfl 1 rfl ?_
        refine v_aload_n dL_law_1006 rfl 0 rfl ?_
        refine v_iload dL_law_1007 4 rfl ?_
        refine v_iconst (v := 1) dL_law_1009 ci_1 ?_
        refine v_iadd dL_law_1010 ?_
        obtain ⟨v2, e, h⟩ := bind_some h
        refine v_scld hX dL_law_1011 e ?_
        refine v_aload_n dL_law_1012 rfl 3 rfl ?_
        obtain ⟨v4, M3, e, h⟩ := bindP_some h
        refine ca_L_165 e dL_law_1013 (Nat.le_of_ble_eq_true rfl) (by decide) ?_
        refine v_istore (ls' := [(5, .int v4), (0, .ref SCR), (1, .ref l1), (2, .ref l2), (3, .ref l3), (4, .int l4)]) dL_law_1016 (by decide) rfl ?_
        refine v_aload_n dL_law_1018 rfl 3 rfl ?_
        refine v_aload_n dL_law_1019 rfl 1 rfl ?_
        refine v_iload dL_law_1020 5 rfl ?_
        refine v_iconst (v := 1) dL_law_1022 ci_1 ?_
        refine v_iadd dL_law_1023 ?_
        obtain ⟨v5, e, h⟩ := bind_some h
        refine v_scld hX dL_law_1024 e ?_
        obtain ⟨v7, M6, e, h⟩ := bindP_some h
        refine ca_L_167 e dL_law_1025 (Nat.le_of_ble_eq_true rfl) (by decide) ?_
        refine v_istore (ls' := [(6, .int v7), (5, .int v4), (0, .ref SCR), (1, .ref l1), (2, .ref l2), (3, .ref l3), (4, .int l4)]) dL_law_1028 (by decide) rfl ?_
        refine v_aload_n dL_law_1030 rfl 4 rfl ?_
        obtain ⟨v9, M8, e, h⟩ := bindP_some h
        refine ca_L_123 e dL_law_1031 (Nat.le_of_ble_eq_true rfl) (by decide) ?_
        refine v_iload dL_law_1034 1 rfl ?_
        refine v_icmp_eq (tgt := 1041) dL_law_1036 (by decide) (fun c13 => ?_) (fun c13 => ?_)
        · replace h := ifP c13 h
          refine v_iload dL_law_1041 1 rfl ?_
          refine v_if_ne (tgt := 1058) dL_law_1043 (by decide) (fun c12 => ?_) (fun c12 => ?_)
          · replace h := ifN c12 h
            refine v_goto (tgt := 2231) dL_law_1058 (by decide) ?_
            refine v_iinc (ls' := [(4, .int (l4 + 6)), (6, .int v7), (5, .int v4), (0, .ref SCR), (1, .ref l1), (2, .ref l2), (3, .ref l3)]) dL_law_2231 6 rfl (v := 6) ci_6 (by decide) rfl ?_
            refine v_goto (tgt := 23) dL_law_2234 (by decide) ?_
            refine v_sub [3, 4, 5, 6, 0] rfl ?_
            exact ih l1 l2 l3 (l4 + 6) M8 h
          · replace h := ifP c12 h
            refine v_aload_n dL_law_1046 rfl 5 rfl ?_
            refine v_iconst (v := 0) dL_law_1047 ci_0 ?_
            obtain ⟨v10, e, h⟩ := bind_some h
            refine v_laload dL_law_1048 e ?_
            refine v_iload dL_law_1049 0 rfl ?_
            refine v_i2l dL_law_1051 ?_
            refine v_lcmp dL_law_1052 ?_
            refine v_if_eq (tgt := 1058) dL_law_1053 (by decide) (fun c11 => ?_) (fun c11 => ?_)
            · replace h := ifP c11 h
              refine v_goto (tgt := 2231) dL_law_1058 (by decide) ?_
              refine v_iinc (ls' := [(4, .int (l4 + 6)), (6, .int v7), (5, .int v4), (0, .ref SCR), (1, .ref l1), (2, .ref l2), (3, .ref l3)]) dL_law_2231 6 rfl (v := 6) ci_6 (by decide) rfl ?_
              refine v_goto (tgt := 23) dL_law_2234 (by decide) ?_
              refine v_sub [3, 4, 5, 6, 0] rfl ?_
              exact ih l1 l2 l3 (l4 + 6) M8 h
            · replace h := ifN c11 h
              refine v_iconst (v := 0) dL_law_1056 ci_0 ?_
              obtain ⟨hz, rfl, rfl⟩ := okZ_some h
              exact v_zreturn dL_law_1057 hz
        · replace h := ifN c13 h
          refine v_iconst (v := 0) dL_law_1039 ci_0 ?_
          obtain ⟨hz, rfl, rfl⟩ := okZ_some h
          exact v_zreturn dL_law_1040 hz
      replace h := ifN c20_12 h
      rcases Decidable.em ((v1 &&& (63 : Int32)) = 13) with c20_13 | c20_13
      · replace h := ifP c20_13 h
        refine v_tsw (tgt := 1061) dL_law_40 c20_13 (by decide) (by decide) rfl (by decide) ?_
        refine v_aload_n dL_law_1061 rfl 1 rfl ?_
        refine v_aload_n dL_law_1062 rfl 0 rfl ?_
        refine v_iload dL_law_1063 4 rfl ?_
        refine v_iconst (v := 1) dL_law_1065 ci_1 ?_
        refine v_iadd dL_law_1066 ?_
        obtain ⟨v2, e, h⟩ := bind_some h
        refine v_scld hX dL_law_1067 e ?_
        refine v_aload_n dL_law_1068 rfl 0 rfl ?_
        refine v_iload dL_law_1069 4 rfl ?_
        refine v_iconst (v := 2) dL_law_1071 ci_2 ?_
        refine v_iadd dL_law_1072 ?_
        obtain ⟨v3, e, h⟩ := bind_some h
        refine v_scld hX dL_law_1073 e ?_
        refine v_aload_n dL_law_1074 rfl 3 rfl ?_
        obtain ⟨v5, M4, e, h⟩ := bindP_some h
        refine ca_L_168 e dL_law_1075 (Nat.le_of_ble_eq_true rfl) (by decide) ?_
        refine v_istore (ls' := [(5, .int v5), (0, .ref SCR), (1, .ref l1), (2, .ref l2), (3, .ref l3), (4, .int l4)]) dL_law_1078 (by decide) rfl ?_
        refine v_aload_n dL_law_1080 rfl 3 rfl ?_
        refine v_aload_n dL_law_1081 rfl 1 rfl ?_
        refine v_iload dL_law_1082 5 rfl ?_
        refine v_iconst (v := 1) dL_law_1084 ci_1 ?_
        refine v_iadd dL_law_1085 ?_
        obtain ⟨v6, e, h⟩ := bind_some h
        refine v_scld hX dL_law_1086 e ?_
        refine v_aload_n dL_law_1087 rfl 1 rfl ?_
        refine v_iload dL_law_1088 5 rfl ?_
        refine v_iconst (v := 2) dL_law_1090 ci_2 ?_
        refine v_iadd dL_law_1091 ?_
        obtain ⟨v7, e, h⟩ := bind_some h
        refine v_scld hX dL_law_1092 e ?_
        obtain ⟨v9, M8, e, h⟩ := bindP_some h
        refine ca_L_170 e dL_law_1093 (Nat.le_of_ble_eq_true rfl) (by decide) ?_
        refine v_istore (ls' := [(6, .int v9), (5, .int v5), (0, .ref SCR), (1, .ref l1), (2, .ref l2), (3, .ref l3), (4, .int l4)]) dL_law_1096 (by decide) rfl ?_
        refine v_aload_n dL_law_1098 rfl 4 rfl ?_
        obtain ⟨v11, M10, e, h⟩ := bindP_some h
        refine ca_L_123 e dL_law_1099 (Nat.le_of_ble_eq_true rfl) (by decide) ?_
        refine v_iload dL_law_1102 1 rfl ?_
        refine v_icmp_eq (tgt := 1109) dL_law_1104 (by decide) (fun c15 => ?_) (fun c15 => ?_)
        · replace h := ifP c15 h
          refine v_iload dL_law_1109 1 rfl ?_
          refine v_if_ne (tgt := 1126) dL_law_1111 (by decide) (fun c14 => ?_) (fun c14 => ?_)
          · replace h := ifN c14 h
            refine v_goto (tgt := 2231) dL_law_1126 (by decide) ?_
            refine v_iinc (ls' := [(4, .int (l4 + 6)), (6, .int v9), (5, .int v5), (0, .ref SCR), (1, .ref l1), (2, .ref l2), (3, .ref l3)]) dL_law_2231 6 rfl (v := 6) ci_6 (by decide) rfl ?_
            refine v_goto (tgt := 23) dL_law_2234 (by decide) ?_
            refine v_sub [3, 4, 5, 6, 0] rfl ?_
            exact ih l1 l2 l3 (l4 + 6) M10 h
          · replace h := ifP c14 h
            refine v_aload_n dL_law_1114 rfl 5 rfl ?_
            refine v_iconst (v := 0) dL_law_1115 ci_0 ?_
            obtain ⟨v12, e, h⟩ := bind_some h
            refine v_laload dL_law_1116 e ?_
            refine v_iload dL_law_1117 0 rfl ?_
            refine v_i2l dL_law_1119 ?_
            refine v_lcmp dL_law_1120 ?_
            refine v_if_eq (tgt := 1126) dL_law_1121 (by decide) (fun c13 => ?_) (fun c13 => ?_)
            · replace h := ifP c13 h
              refine v_goto (tgt := 2231) dL_law_1126 (by decide) ?_
              refine v_iinc (ls' := [(4, .int (l4 + 6)), (6, .int v9), (5, .int v5), (0, .ref SCR), (1, .ref l1), (2, .ref l2), (3, .ref l3)]) dL_law_2231 6 rfl (v := 6) ci_6 (by decide) rfl ?_
              refine v_goto (tgt := 23) dL_law_2234 (by decide) ?_
              refine v_sub [3, 4, 5, 6, 0] rfl ?_
              exact ih l1 l2 l3 (l4 + 6) M10 h
            · replace h := ifN c13 h
              refine v_iconst (v := 0) dL_law_1124 ci_0 ?_
              obtain ⟨hz, rfl, rfl⟩ := okZ_some h
              exact v_zreturn dL_law_1125 hz
        · replace h := ifN c15 h
          refine v_iconst (v := 0) dL_law_1107 ci_0 ?_
          obtain ⟨hz, rfl, rfl⟩ := okZ_some h
          exact v_zreturn dL_law_1108 hz
      replace h := ifN c20_13 h
      rcases Decidable.em ((v1 &&& (63 : Int32)) = 14) with c20_14 | c20_14
      · replace h := ifP c20_14 h
        refine v_tsw (tgt := 1129) dL_law_40 c20_14 (by decide) (by decide) rfl (by decide) ?_
        refine v_aload_n dL_law_1129 rfl 1 rfl ?_
        refine v_aload_n dL_law_1130 rfl 0 rfl ?_
        refine v_iload dL_law_1131 4 rfl ?_
        refine v_iconst (v := 1) dL_law_1133 ci_1 ?_
        refine v_iadd dL_law_1134 ?_
        obtain ⟨v2, e, h⟩ := bind_some h
        refine v_scld hX dL_law_1135 e ?_
        refine v_aload_n dL_law_1136 rfl 0 rfl ?_
        refine v_iload dL_law_1137 4 rfl ?_
        refine v_iconst (v := 2) dL_law_1139 ci_2 ?_
        refine v_iadd dL_law_1140 ?_
        obtain ⟨v3, e, h⟩ := bind_some h
        refine v_scld hX dL_law_1141 e ?_
        refine v_aload_n dL_law_1142 rfl 0 rfl ?_
        refine v_iload dL_law_1143 4 rfl ?_
        refine v_iconst (v := 3) dL_law_1145 ci_3 ?_
        refine v_iadd dL_law_1146 ?_
        obtain ⟨v4, e, h⟩ := bind_some h
        refine v_scld hX dL_law_1147 e ?_
        refine v_aload_n dL_law_1148 rfl 0 rfl ?_
        refine v_iload dL_law_1149 4 rfl ?_
        refine v_iconst (v := 4) dL_law_1151 ci_4 ?_
        refine v_iadd dL_law_1152 ?_
        obtain ⟨v5, e, h⟩ := bind_some h
        refine v_scld hX dL_law_1153 e ?_
        refine v_if_eq (tgt := 1161) dL_law_1154 (by decide) (fun c6 => ?_) (fun c6 => ?_)
        · replace h := ifP c6 h
          refine v_iconst (v := 0) dL_law_1161 ci_0 ?_
          exact w_L_law_J1162 L xs hX (f_L_law_L23 L xs n) ih l1 l2 l3 l4 (0 : Int32) v4 v3 v2 l1 M h
        · replace h := ifN c6 h
          refine v_iconst (v := 1) dL_law_1157 ci_1 ?_
          refine v_goto (tgt := 1162) dL_law_1158 (by decide) ?_
          exact w_L_law_J1162 L xs hX (f_L_law_L23 L xs n) ih l1 l2 l3 l4 (1 : Int32) v4 v3 v2 l1 M h
      replace h := ifN c20_14 h
      rcases Decidable.em ((v1 &&& (63 : Int32)) = 15) with c20_15 | c20_15
      · replace h := ifP c20_15 h
        refine v_tsw (tgt := 1249) dL_law_40 c20_15 (by decide) (by decide) rfl (by decide) ?_
        refine v_aload_n dL_law_1249 rfl 1 rfl ?_
        refine v_aload_n dL_law_1250 rfl 0 rfl ?_
        refine v_iload dL_law_1251 4 rfl ?_
        refine v_iconst (v := 1) dL_law_1253 ci_1 ?_
        refine v_iadd dL_law_1254 ?_
        obtain ⟨v2, e, h⟩ := bind_some h
        refine v_scld hX dL_law_1255 e ?_
        refine v_aload_n dL_law_1256 rfl 0 rfl ?_
        refine v_iload dL_law_1257 4 rfl ?_
        refine v_iconst (v := 2) dL_law_1259 ci_2 ?_
        refine v_iadd dL_law_1260 ?_
        obtain ⟨v3, e, h⟩ := bind_some h
        refine v_scld hX dL_law_1261 e ?_
        refine v_aload_n dL_law_1262 rfl 3 rfl ?_
        obtain ⟨v5, M4, e, h⟩ := bindP_some h
        refine ca_L_175 e dL_law_1263 (Nat.le_of_ble_eq_true rfl) (by decide) ?_
        refine v_istore (ls' := [(5, .int v5), (0, .ref SCR), (1, .ref l1), (2, .ref l2), (3, .ref l3), (4, .int l4)]) dL_law_1266 (by decide) rfl ?_
        refine v_aload_n dL_law_1268 rfl 3 rfl ?_
        refine v_aload_n dL_law_1269 rfl 1 rfl ?_
        refine v_iload dL_law_1270 5 rfl ?_
        refine v_iconst (v := 1) dL_law_1272 ci_1 ?_
        refine v_iadd dL_law_1273 ?_
        obtain ⟨v6, e, h⟩ := bind_some h
        refine v_scld hX dL_law_1274 e ?_
        refine v_aload_n dL_law_1275 rfl 1 rfl ?_
        refine v_iload dL_law_1276 5 rfl ?_
        refine v_iconst (v := 2) dL_law_1278 ci_2 ?_
        refine v_iadd dL_law_1279 ?_
        obtain ⟨v7, e, h⟩ := bind_some h
        refine v_scld hX dL_law_1280 e ?_
        obtain ⟨v9, M8, e, h⟩ := bindP_some h
        refine ca_L_177 e dL_law_1281 (Nat.le_of_ble_eq_true rfl) (by decide) ?_
        refine v_istore (ls' := [(6, .int v9), (5, .int v5), (0, .ref SCR), (1, .ref l1), (2, .ref l2), (3, .ref l3), (4, .int l4)]) dL_law_1284 (by decide) rfl ?_
        refine v_aload_n dL_law_1286 rfl 4 rfl ?_
        obtain ⟨v11, M10, e, h⟩ := bindP_some h
        refine ca_L_123 e dL_law_1287 (Nat.le_of_ble_eq_true rfl) (by decide) ?_
        refine v_iload dL_law_1290 1 rfl ?_
        refine v_icmp_eq (tgt := 1297) dL_law_1292 (by decide) (fun c15 => ?_) (fun c15 => ?_)
        · replace h := ifP c15 h
          refine v_iload dL_law_1297 1 rfl ?_
          refine v_if_ne (tgt := 1314) dL_law_1299 (by decide) (fun c14 => ?_) (fun c14 => ?_)
          · replace h := ifN c14 h
            refine v_goto (tgt := 2231) dL_law_1314 (by decide) ?_
            refine v_iinc (ls' := [(4, .int (l4 + 6)), (6, .int v9), (5, .int v5), (0, .ref SCR), (1, .ref l1), (2, .ref l2), (3, .ref l3)]) dL_law_2231 6 rfl (v := 6) ci_6 (by decide) rfl ?_
            refine v_goto (tgt := 23) dL_law_2234 (by decide) ?_
            refine v_sub [3, 4, 5, 6, 0] rfl ?_
            exact ih l1 l2 l3 (l4 + 6) M10 h
          · replace h := ifP c14 h
            refine v_aload_n dL_law_1302 rfl 5 rfl ?_
            refine v_iconst (v := 0) dL_law_1303 ci_0 ?_
            obtain ⟨v12, e, h⟩ := bind_some h
            refine v_laload dL_law_1304 e ?_
            refine v_iload dL_law_1305 0 rfl ?_
            refine v_i2l dL_law_1307 ?_
            refine v_lcmp dL_law_1308 ?_
            refine v_if_eq (tgt := 1314) dL_law_1309 (by decide) (fun c13 => ?_) (fun c13 => ?_)
            · replace h := ifP c13 h
              refine v_goto (tgt := 2231) dL_law_1314 (by decide) ?_
              refine v_iinc (ls' := [(4, .int (l4 + 6)), (6, .int v9), (5, .int v5), (0, .ref SCR), (1, .ref l1), (2, .ref l2), (3, .ref l3)]) dL_law_2231 6 rfl (v := 6) ci_6 (by decide) rfl ?_
              refine v_goto (tgt := 23) dL_law_2234 (by decide) ?_
              refine v_sub [3, 4, 5, 6, 0] rfl ?_
              exact ih l1 l2 l3 (l4 + 6) M10 h
            · replace h := ifN c13 h
              refine v_iconst (v := 0) dL_law_1312 ci_0 ?_
              obtain ⟨hz, rfl, rfl⟩ := okZ_some h
              exact v_zreturn dL_law_1313 hz
        · replace h := ifN c15 h
          refine v_iconst (v := 0) dL_law_1295 ci_0 ?_
          obtain ⟨hz, rfl, rfl⟩ := okZ_some h
          exact v_zreturn dL_law_1296 hz
      replace h := ifN c20_15 h
      rcases Decidable.em ((v1 &&& (63 : Int32)) = 16) with c20_16 | c20_16
      · replace h := ifP c20_16 h
        refine v_tsw (tgt := 1317) dL_law_40 c20_16 (by decide) (by decide) rfl (by decide) ?_
        refine v_aload_n dL_law_1317 rfl 1 rfl ?_
        refine v_aload_n dL_law_1318 rfl 0 rfl ?_
        refine v_iload dL_law_1319 4 rfl ?_
        refine v_iconst (v := 1) dL_law_1321 ci_1 ?_
        refine v_iadd dL_law_1322 ?_
        obtain ⟨v2, e, h⟩ := bind_some h
        refine v_scld hX dL_law_1323 e ?_
        refine v_aload_n dL_law_1324 rfl 0 rfl ?_
        refine v_iload dL_law_1325 4 rfl ?_
        refine v_iconst (v := 2) dL_law_1327 ci_2 ?_
        refine v_iadd dL_law_1328 ?_
        obtain ⟨v3, e, h⟩ := bind_some h
        refine v_scld hX dL_law_1329 e ?_
        refine v_aload_n dL_law_1330 rfl 0 rfl ?_
        refine v_iload dL_law_1331 4 rfl ?_
        refine v_iconst (v := 3) dL_law_1333 ci_3 ?_
        refine v_iadd dL_law_1334 ?_
        obtain ⟨v4, e, h⟩ := bind_some h
        refine v_scld hX dL_law_1335 e ?_
        refine v_aload_n dL_law_1336 rfl 3 rfl ?_
        obtain ⟨v6, M5, e, h⟩ := bindP_some h
        refine ca_L_178 e dL_law_1337 (Nat.le_of_ble_eq_true rfl) (by decide) ?_
        refine v_istore (ls' := [(5, .int v6), (0, .ref SCR), (1, .ref l1), (2, .ref l2), (3, .ref l3), (4, .int l4)]) dL_law_1340 (by decide) rfl ?_
        refine v_aload_n dL_law_1342 rfl 3 rfl ?_
        refine v_aload_n dL_law_1343 rfl 1 rfl ?_
        refine v_iload dL_law_1344 5 rfl ?_
        refine v_iconst (v := 1) dL_law_1346 ci_1 ?_
        refine v_iadd dL_law_1347 ?_
        obtain ⟨v7, e, h⟩ := bind_some h
        refine v_scld hX dL_law_1348 e ?_
        refine v_aload_n dL_law_1349 rfl 1 rfl ?_
        refine v_iload dL_law_1350 5 rfl ?_
        refine v_iconst (v := 2) dL_law_1352 ci_2 ?_
        refine v_iadd dL_law_1353 ?_
        obtain ⟨v8, e, h⟩ := bind_some h
        refine v_scld hX dL_law_1354 e ?_
        refine v_aload_n dL_law_1355 rfl 1 rfl ?_
        refine v_iload dL_law_1356 5 rfl ?_
        refine v_iconst (v := 3) dL_law_1358 ci_3 ?_
        refine v_iadd dL_law_1359 ?_
        obtain ⟨v9, e, h⟩ := bind_some h
        refine v_scld hX dL_law_1360 e ?_
        obtain ⟨v11, M10, e, h⟩ := bindP_some h
        refine ca_L_180 e dL_law_1361 (Nat.le_of_ble_eq_true rfl) (by decide) ?_
        refine v_istore (ls' := [(6, .int v11), (5, .int v6), (0, .ref SCR), (1, .ref l1), (2, .ref l2), (3, .ref l3), (4, .int l4)]) dL_law_1364 (by decide) rfl ?_
        refine v_aload_n dL_law_1366 rfl 4 rfl ?_
        obtain ⟨v13, M12, e, h⟩ := bindP_some h
        refine ca_L_123 e dL_law_1367 (Nat.le_of_ble_eq_true rfl) (by decide) ?_
        refine v_iload dL_law_1370 1 rfl ?_
        refine v_icmp_eq (tgt := 1377) dL_law_1372 (by decide) (fun c17 => ?_) (fun c17 => ?_)
        · replace h := ifP c17 h
          refine v_iload dL_law_1377 1 rfl ?_
          refine v_if_ne (tgt := 1394) dL_law_1379 (by decide) (fun c16 => ?_) (fun c16 => ?_)
          · replace h := ifN c16 h
            refine v_goto (tgt := 2231) dL_law_1394 (by decide) ?_
            refine v_iinc (ls' := [(4, .int (l4 + 6)), (6, .int v11), (5, .int v6), (0, .ref SCR), (1, .ref l1), (2, .ref l2), (3, .ref l3)]) dL_law_2231 6 rfl (v := 6) ci_6 (by decide) rfl ?_
            refine v_goto (tgt := 23) dL_law_2234 (by decide) ?_
            refine v_sub [3, 4, 5, 6, 0] rfl ?_
            exact ih l1 l2 l3 (l4 + 6) M12 h
          · replace h := ifP c16 h
            refine v_aload_n dL_law_1382 rfl 5 rfl ?_
            refine v_iconst (v := 0) dL_law_1383 ci_0 ?_
            obtain ⟨v14, e, h⟩ := bind_some h
            refine v_laload dL_law_1384 e ?_
            refine v_iload dL_law_1385 0 rfl ?_
            refine v_i2l dL_law_1387 ?_
            refine v_lcmp dL_law_1388 ?_
            refine v_if_eq (tgt := 1394) dL_law_1389 (by decide) (fun c15 => ?_) (fun c15 => ?_)
            · replace h := ifP c15 h
              refine v_goto (tgt := 2231) dL_law_1394 (by decide) ?_
              refine v_iinc (ls' := [(4, .int (l4 + 6)), (6, .int v11), (5, .int v6), (0, .ref SCR), (1, .ref l1), (2, .ref l2), (3, .ref l3)]) dL_law_2231 6 rfl (v := 6) ci_6 (by decide) rfl ?_
              refine v_goto (tgt := 23) dL_law_2234 (by decide) ?_
              refine v_sub [3, 4, 5, 6, 0] rfl ?_
              exact ih l1 l2 l3 (l4 + 6) M12 h
            · replace h := ifN c15 h
              refine v_iconst (v := 0) dL_law_1392 ci_0 ?_
              obtain ⟨hz, rfl, rfl⟩ := okZ_some h
              exact v_zreturn dL_law_1393 hz
        · replace h := ifN c17 h
          refine v_iconst (v := 0) dL_law_1375 ci_0 ?_
          obtain ⟨hz, rfl, rfl⟩ := okZ_some h
          exact v_zreturn dL_law_1376 hz
      replace h := ifN c20_16 h
      rcases Decidable.em ((v1 &&& (63 : Int32)) = 17) with c20_17 | c20_17
      · replace h := ifP c20_17 h
        refine v_tsw (tgt := 1397) dL_law_40 c20_17 (by decide) (by decide) rfl (by decide) ?_
        refine v_aload_n dL_law_1397 rfl 1 rfl ?_
        refine v_aload_n dL_law_1398 rfl 0 rfl ?_
        refine v_iload dL_law_1399 4 rfl ?_
        refine v_iconst (v := 1) dL_law_1401 ci_1 ?_
        refine v_iadd dL_law_1402 ?_
        obtain ⟨v2, e, h⟩ := bind_some h
        refine v_scld hX dL_law_1403 e ?_
        refine v_aload_n dL_law_1404 rfl 3 rfl ?_
        obtain ⟨v4, M3, e, h⟩ := bindP_some h
        refine ca_L_181 e dL_law_1405 (Nat.le_of_ble_eq_true rfl) (by decide) ?_
        refine v_istore (ls' := [(5, .int v4), (0, .ref SCR), (1, .ref l1), (2, .ref l2), (3, .ref l3), (4, .int l4)]) dL_law_1408 (by decide) rfl ?_
        refine v_aload_n dL_law_1410 rfl 3 rfl ?_
        refine v_aload_n dL_law_1411 rfl 1 rfl ?_
        refine v_iload dL_law_1412 5 rfl ?_
        refine v_iconst (v := 1) dL_law_1414 ci_1 ?_
        refine v_iadd dL_law_1415 ?_
        obtain ⟨v5, e, h⟩ := bind_some h
        refine v_scld hX dL_law_1416 e ?_
        obtain ⟨v7, M6, e, h⟩ := bindP_some h
        refine ca_L_183 e dL_law_1417 (Nat.le_of_ble_eq_true rfl) (by decide) ?_
        refine v_istore (ls' := [(6, .int v7), (5, .int v4), (0, .ref SCR), (1, .ref l1), (2, .ref l2), (3, .ref l3), (4, .int l4)]) dL_law_1420 (by decide) rfl ?_
        refine v_aload_n dL_law_1422 rfl 4 rfl ?_
        obtain ⟨v9, M8, e, h⟩ := bindP_some h
        refine ca_L_123 e dL_law_1423 (Nat.le_of_ble_eq_true rfl) (by decide) ?_
        refine v_iload dL_law_1426 1 rfl ?_
        refine v_icmp_eq (tgt := 1433) dL_law_1428 (by decide) (fun c13 => ?_) (fun c13 => ?_)
        · replace h := ifP c13 h
          refine v_iload dL_law_1433 1 rfl ?_
          refine v_if_ne (tgt := 1450) dL_law_1435 (by decide) (fun c12 => ?_) (fun c12 => ?_)
          · replace h := ifN c12 h
            refine v_goto (tgt := 2231) dL_law_1450 (by decide) ?_
            refine v_iinc (ls' := [(4, .int (l4 + 6)), (6, .int v7), (5, .int v4), (0, .ref SCR), (1, .ref l1), (2, .ref l2), (3, .ref l3)]) dL_law_2231 6 rfl (v := 6) ci_6 (by decide) rfl ?_
            refine v_goto (tgt := 23) dL_law_2234 (by decide) ?_
            refine v_sub [3, 4, 5, 6, 0] rfl ?_
            exact ih l1 l2 l3 (l4 + 6) M8 h
          · replace h := ifP c12 h
            refine v_aload_n dL_law_1438 rfl 5 rfl ?_
            refine v_iconst (v := 0) dL_law_1439 ci_0 ?_
            obtain ⟨v10, e, h⟩ := bind_some h
            refine v_laload dL_law_1440 e ?_
            refine v_iload dL_law_1441 0 rfl ?_
            refine v_i2l dL_law_1443 ?_
            refine v_lcmp dL_law_1444 ?_
            refine v_if_eq (tgt := 1450) dL_law_1445 (by decide) (fun c11 => ?_) (fun c11 => ?_)
            · replace h := ifP c11 h
              refine v_goto (tgt := 2231) dL_law_1450 (by decide) ?_
              refine v_iinc (ls' := [(4, .int (l4 + 6)), (6, .int v7), (5, .int v4), (0, .ref SCR), (1, .ref l1), (2, .ref l2), (3, .ref l3)]) dL_law_2231 6 rfl (v := 6) ci_6 (by decide) rfl ?_
              refine v_goto (tgt := 23) dL_law_2234 (by decide) ?_
              refine v_sub [3, 4, 5, 6, 0] rfl ?_
              exact ih l1 l2 l3 (l4 + 6) M8 h
            · replace h := ifN c11 h
              refine v_iconst (v := 0) dL_law_1448 ci_0 ?_
              obtain ⟨hz, rfl, rfl⟩ := okZ_some h
              exact v_zreturn dL_law_1449 hz
        · replace h := ifN c13 h
          refine v_iconst (v := 0) dL_law_1431 ci_0 ?_
          obtain ⟨hz, rfl, rfl⟩ := okZ_some h
          exact v_zreturn dL_law_1432 hz
      replace h := ifN c20_17 h
      rcases Decidable.em ((v1 &&& (63 : Int32)) = 18) with c20_18 | c20_18
      · replace h := ifP c20_18 h
        refine v_tsw (tgt := 1453) dL_law_40 c20_18 (by decide) (by decide) rfl (by decide) ?_
        refine v_aload_n dL_law_1453 rfl 1 rfl ?_
        refine v_aload_n dL_law_1454 rfl 0 rfl ?_
        refine v_iload dL_law_1455 4 rfl ?_
        refine v_iconst (v := 1) dL_law_1457 ci_1 ?_
        refine v_iadd dL_law_1458 ?_
        obtain ⟨v2, e, h⟩ := bind_some h
        refine v_scld hX dL_law_1459 e ?_
        refine v_aload_n dL_law_1460 rfl 3 rfl ?_
        obtain ⟨v4, M3, e, h⟩ := bindP_some h
        refine ca_L_184 e dL_law_1461 (Nat.le_of_ble_eq_true rfl) (by decide) ?_
        refine v_istore (ls' := [(5, .int v4), (0, .ref SCR), (1, .ref l1), (2, .ref l2), (3, .ref l3), (4, .int l4)]) dL_law_1464 (by decide) rfl ?_
        refine v_aload_n dL_law_1466 rfl 3 rfl ?_
        refine v_aload_n dL_law_1467 rfl 1 rfl ?_
        refine v_iload dL_law_1468 5 rfl ?_
        refine v_iconst (v := 1) dL_law_1470 ci_1 ?_
        refine v_iadd dL_law_1471 ?_
        obtain ⟨v5, e, h⟩ := bind_some h
        refine v_scld hX dL_law_1472 e ?_
        obtain ⟨v7, M6, e, h⟩ := bindP_some h
        refine ca_L_186 e dL_law_1473 (Nat.le_of_ble_eq_true rfl) (by decide) ?_
        refine v_istore (ls' := [(6, .int v7), (5, .int v4), (0, .ref SCR), (1, .ref l1), (2, .ref l2), (3, .ref l3), (4, .int l4)]) dL_law_1476 (by decide) rfl ?_
        refine v_aload_n dL_law_1478 rfl 4 rfl ?_
        obtain ⟨v9, M8, e, h⟩ := bindP_some h
        refine ca_L_123 e dL_law_1479 (Nat.le_of_ble_eq_true rfl) (by decide) ?_
        refine v_iload dL_law_1482 1 rfl ?_
        refine v_icmp_eq (tgt := 1489) dL_law_1484 (by decide) (fun c13 => ?_) (fun c13 => ?_)
        · replace h := ifP c13 h
          refine v_iload dL_law_1489 1 rfl ?_
          refine v_if_ne (tgt := 1506) dL_law_1491 (by decide) (fun c12 => ?_) (fun c12 => ?_)
          · replace h := ifN c12 h
            refine v_goto (tgt := 2231) dL_law_1506 (by decide) ?_
            refine v_iinc (ls' := [(4, .int (l4 + 6)), (6, .int v7), (5, .int v4), (0, .ref SCR), (1, .ref l1), (2, .ref l2), (3, .ref l3)]) dL_law_2231 6 rfl (v := 6) ci_6 (by decide) rfl ?_
            refine v_goto (tgt := 23) dL_law_2234 (by decide) ?_
            refine v_sub [3, 4, 5, 6, 0] rfl ?_
            exact ih l1 l2 l3 (l4 + 6) M8 h
          · replace h := ifP c12 h
            refine v_aload_n dL_law_1494 rfl 5 rfl ?_
            refine v_iconst (v := 0) dL_law_1495 ci_0 ?_
            obtain ⟨v10, e, h⟩ := bind_some h
            refine v_laload dL_law_1496 e ?_
            refine v_iload dL_law_1497 0 rfl ?_
            refine v_i2l dL_law_1499 ?_
            refine v_lcmp dL_law_1500 ?_
            refine v_if_eq (tgt := 1506) dL_law_1501 (by decide) (fun c11 => ?_) (fun c11 => ?_)
            · replace h := ifP c11 h
              refine v_goto (tgt := 2231) dL_law_1506 (by decide) ?_
              refine v_iinc (ls' := [(4, .int (l4 + 6)), (6, .int v7), (5, .int v4), (0, .ref SCR), (1, .ref l1), (2, .ref l2), (3, .ref l3)]) dL_law_2231 6 rfl (v := 6) ci_6 (by decide) rfl ?_
              refine v_goto (tgt := 23) dL_law_2234 (by decide) ?_
              refine v_sub [3, 4, 5, 6, 0] rfl ?_
              exact ih l1 l2 l3 (l4 + 6) M8 h
            · replace h := ifN c11 h
              refine v_iconst (v := 0) dL_law_1504 ci_0 ?_
              obtain ⟨hz, rfl, rfl⟩ := okZ_some h
              exact v_zreturn dL_law_1505 hz
        · replace h := ifN c13 h
          refine v_iconst (v := 0) dL_law_1487 ci_0 ?_
          obtain ⟨hz, rfl, rfl⟩ := okZ_some h
          exact v_zreturn dL_law_1488 hz
      replace h := ifN c20_18 h
      rcases Decidable.em ((v1 &&& (63 : Int32)) = 19) with c20_19 | c20_19
      · replace h := ifP c20_19 h
        refine v_tsw (tgt := 1509) dL_law_40 c20_19 (by decide) (by decide) rfl (by decide) ?_
        refine v_aload_n dL_law_1509 rfl 1 rfl ?_
        refine v_aload_n dL_law_1510 rfl 0 rfl ?_
        refine v_iload dL_law_1511 4 rfl ?_
        refine v_iconst (v := 1) dL_law_1513 ci_1 ?_
        refine v_iadd dL_law_1514 ?_
        obtain ⟨v2, e, h⟩ := bind_some h
        refine v_scld hX dL_law_1515 e ?_
        refine v_aload_n dL_law_1516 rfl 3 rfl ?_
        obtain ⟨v4, M3, e, h⟩ := bindP_some h
        refine ca_L_187 e dL_law_1517 (Nat.le_of_ble_eq_true rfl) (by decide) ?_
        refine v_istore (ls' := [(5, .int v4), (0, .ref SCR), (1, .ref l1), (2, .ref l2), (3, .ref l3), (4, .int l4)]) dL_law_1520 (by decide) rfl ?_
        refine v_aload_n dL_law_1522 rfl 3 rfl ?_
        refine v_aload_n dL_law_1523 rfl 1 rfl ?_
        refine v_iload dL_law_1524 5 rfl ?_
        refine v_iconst (v := 1) dL_law_1526 ci_1 ?_
        refine v_iadd dL_law_1527 ?_
        obtain ⟨v5, e, h⟩ := bind_some h
        refine v_scld hX dL_law_1528 e ?_
        obtain ⟨v7, M6, e, h⟩ := bindP_some h
        refine ca_L_189 e dL_law_1529 (Nat.le_of_ble_eq_true rfl) (by decide) ?_
        refine v_istore (ls' := [(6, .int v7), (5, .int v4), (0, .ref SCR), (1, .ref l1), (2, .ref l2), (3, .ref l3), (4, .int l4)]) dL_law_1532 (by decide) rfl ?_
        refine v_aload_n dL_law_1534 rfl 4 rfl ?_
        obtain ⟨v9, M8, e, h⟩ := bindP_some h
        refine ca_L_123 e dL_law_1535 (Nat.le_of_ble_eq_true rfl) (by decide) ?_
        refine v_iload dL_law_1538 1 rfl ?_
        refine v_icmp_eq (tgt := 1545) dL_law_1540 (by decide) (fun c13 => ?_) (fun c13 => ?_)
        · replace h := ifP c13 h
          refine v_iload dL_law_1545 1 rfl ?_
          refine v_if_ne (tgt := 1562) dL_law_1547 (by decide) (fun c12 => ?_) (fun c12 => ?_)
          · replace h := ifN c12 h
            refine v_goto (tgt := 2231) dL_law_1562 (by decide) ?_
            refine v_iinc (ls' := [(4, .int (l4 + 6)), (6, .int v7), (5, .int v4), (0, .ref SCR), (1, .ref l1), (2, .ref l2), (3, .ref l3)]) dL_law_2231 6 rfl (v := 6) ci_6 (by decide) rfl ?_
            refine v_goto (tgt := 23) dL_law_2234 (by decide) ?_
            refine v_sub [3, 4, 5, 6, 0] rfl ?_
            exact ih l1 l2 l3 (l4 + 6) M8 h
          · replace h := ifP c12 h
            refine v_aload_n dL_law_1550 rfl 5 rfl ?_
            refine v_iconst (v := 0) dL_law_1551 ci_0 ?_
            obtain ⟨v10, e, h⟩ := bind_some h
            refine v_laload dL_law_1552 e ?_
            refine v_iload dL_law_1553 0 rfl ?_
            refine v_i2l dL_law_1555 ?_
            refine v_lcmp dL_law_1556 ?_
            refine v_if_eq (tgt := 1562) dL_law_1557 (by decide) (fun c11 => ?_) (fun c11 => ?_)
            · replace h := ifP c11 h
              refine v_goto (tgt := 2231) dL_law_1562 (by decide) ?_
              refine v_iinc (ls' := [(4, .int (l4 + 6)), (6, .int v7), (5, .int v4), (0, .ref SCR), (1, .ref l1), (2, .ref l2), (3, .ref l3)]) dL_law_2231 6 rfl (v := 6) ci_6 (by decide) rfl ?_
              refine v_goto (tgt := 23) dL_law_2234 (by decide) ?_
              refine v_sub [3, 4, 5, 6, 0] rfl ?_
              exact ih l1 l2 l3 (l4 + 6) M8 h
            · replace h := ifN c11 h
              refine v_iconst (v := 0) dL_law_1560 ci_0 ?_
              obtain ⟨hz, rfl, rfl⟩ := okZ_some h
              exact v_zreturn dL_law_1561 hz
        · replace h := ifN c13 h
          refine v_iconst (v := 0) dL_law_1543 ci_0 ?_
          obtain ⟨hz, rfl, rfl⟩ := okZ_some h
          exact v_zreturn dL_law_1544 hz
      replace h := ifN c20_19 h
      rcases Decidable.em ((v1 &&& (63 : Int32)) = 20) with c20_20 | c20_20
      · replace h := ifP c20_20 h
        refine v_tsw (tgt := 1565) dL_law_40 c20_20 (by decide) (by decide) rfl (by decide) ?_
        refine v_aload_n dL_law_1565 rfl 1 rfl ?_
        refine v_aload_n dL_law_1566 rfl 0 rfl ?_
        refine v_iload dL_law_1567 4 rfl ?_
        refine v_iconst (v := 1) dL_law_1569 ci_1 ?_
        refine v_iadd dL_law_1570 ?_
        obtain ⟨v2, e, h⟩ := bind_some h
        refine v_scld hX dL_law_1571 e ?_
        refine v_aload_n dL_law_1572 rfl 3 rfl ?_
        obtain ⟨v4, M3, e, h⟩ := bindP_some h
        refine ca_L_190 e dL_law_1573 (Nat.le_of_ble_eq_true rfl) (by decide) ?_
        refine v_istore (ls' := [(5, .int v4), (0, .ref SCR), (1, .ref l1), (2, .ref l2), (3, .ref l3), (4, .int l4)]) dL_law_1576 (by decide) rfl ?_
        refine v_aload_n dL_law_1578 rfl 3 rfl ?_
        refine v_aload_n dL_law_1579 rfl 1 rfl ?_
        refine v_iload dL_law_1580 5 rfl ?_
        refine v_iconst (v := 1) dL_law_1582 ci_1 ?_
        refine v_iadd dL_law_1583 ?_
        obtain ⟨v5, e, h⟩ := bind_some h
        refine v_scld hX dL_law_1584 e ?_
        obtain ⟨v7, M6, e, h⟩ := bindP_some h
        refine ca_L_192 e dL_law_1585 (Nat.le_of_ble_eq_true rfl) (by decide) ?_
        refine v_istore (ls' := [(6, .int v7), (5, .int v4), (0, .ref SCR), (1, .ref l1), (2, .ref l2), (3, .ref l3), (4, .int l4)]) dL_law_1588 (by decide) rfl ?_
        refine v_aload_n dL_law_1590 rfl 4 rfl ?_
        obtain ⟨v9, M8, e, h⟩ := bindP_some h
        refine ca_L_123 e dL_law_1591 (Nat.le_of_ble_eq_true rfl) (by decide) ?_
        refine v_iload dL_law_1594 1 rfl ?_
        refine v_icmp_eq (tgt := 1601) dL_law_1596 (by decide) (fun c13 => ?_) (fun c13 => ?_)
        · replace h := ifP c13 h
          refine v_iload dL_law_1601 1 rfl ?_
          refine v_if_ne (tgt := 1618) dL_law_1603 (by decide) (fun c12 => ?_) (fun c12 => ?_)
          · replace h := ifN c12 h
            refine v_goto (tgt := 2231) dL_law_1618 (by decide) ?_
            refine v_iinc (ls' := [(4, .int (l4 + 6)), (6, .int v7), (5, .int v4), (0, .ref SCR), (1, .ref l1), (2, .ref l2), (3, .ref l3)]) dL_law_2231 6 rfl (v := 6) ci_6 (by decide) rfl ?_
            refine v_goto (tgt := 23) dL_law_2234 (by decide) ?_
            refine v_sub [3, 4, 5, 6, 0] rfl ?_
            exact ih l1 l2 l3 (l4 + 6) M8 h
          · replace h := ifP c12 h
            refine v_aload_n dL_law_1606 rfl 5 rfl ?_
            refine v_iconst (v := 0) dL_law_1607 ci_0 ?_
            obtain ⟨v10, e, h⟩ := bind_some h
            refine v_laload dL_law_1608 e ?_
            refine v_iload dL_law_1609 0 rfl ?_
            refine v_i2l dL_law_1611 ?_
            refine v_lcmp dL_law_1612 ?_
            refine v_if_eq (tgt := 1618) dL_law_1613 (by decide) (fun c11 => ?_) (fun c11 => ?_)
            · replace h := ifP c11 h
              refine v_goto (tgt := 2231) dL_law_1618 (by decide) ?_
              refine v_iinc (ls' := [(4, .int (l4 + 6)), (6, .int v7), (5, .int v4), (0, .ref SCR), (1, .ref l1), (2, .ref l2), (3, .ref l3)]) dL_law_2231 6 rfl (v := 6) ci_6 (by decide) rfl ?_
              refine v_goto (tgt := 23) dL_law_2234 (by decide) ?_
              refine v_sub [3, 4, 5, 6, 0] rfl ?_
              exact ih l1 l2 l3 (l4 + 6) M8 h
            · replace h := ifN c11 h
              refine v_iconst (v := 0) dL_law_1616 ci_0 ?_
              obtain ⟨hz, rfl, rfl⟩ := okZ_some h
              exact v_zreturn dL_law_1617 hz
        · replace h := ifN c13 h
          refine v_iconst (v := 0) dL_law_1599 ci_0 ?_
          obtain ⟨hz, rfl, rfl⟩ := okZ_some h
          exact v_zreturn dL_law_1600 hz
      replace h := ifN c20_20 h
      rcases Decidable.em ((v1 &&& (63 : Int32)) = 21) with c20_21 | c20_21
      · replace h := ifP c20_21 h
        refine v_tsw (tgt := 1621) dL_law_40 c20_21 (by decide) (by decide) rfl (by decide) ?_
        refine v_aload_n dL_law_1621 rfl 1 rfl ?_
        refine v_aload_n dL_law_1622 rfl 0 rfl ?_
        refine v_iload dL_law_1623 4 rfl ?_
        refine v_iconst (v := 1) dL_law_1625 ci_1 ?_
        refine v_iadd dL_law_1626 ?_
        obtain ⟨v2, e, h⟩ := bind_some h
        refine v_scld hX dL_law_1627 e ?_
        refine v_aload_n dL_law_1628 rfl 3 rfl ?_
        obtain ⟨v4, M3, e, h⟩ := bindP_some h
        refine ca_L_193 e dL_law_1629 (Nat.le_of_ble_eq_true rfl) (by decide) ?_
        refine v_istore (ls' := [(5, .int v4), (0, .ref SCR), (1, .ref l1), (2, .ref l2), (3, .ref l3), (4, .int l4)]) dL_law_1632 (by decide) rfl ?_
        refine v_aload_n dL_law_1634 rfl 3 rfl ?_
        refine v_aload_n dL_law_1635 rfl 1 rfl ?_
        refine v_iload dL_law_1636 5 rfl ?_
        refine v_iconst (v := 1) dL_law_1638 ci_1 ?_
        refine v_iadd dL_law_1639 ?_
        obtain ⟨v5, e, h⟩ := bind_some h
        refine v_scld hX dL_law_1640 e ?_
        obtain ⟨v7, M6, e, h⟩ := bindP_some h
        refine ca_L_195 e dL_law_1641 (Nat.le_of_ble_eq_true rfl) (by decide) ?_
        refine v_istore (ls' := [(6, .int v7), (5, .int v4), (0, .ref SCR), (1, .ref l1), (2, .ref l2), (3, .ref l3), (4, .int l4)]) dL_law_1644 (by decide) rfl ?_
        refine v_aload_n dL_law_1646 rfl 4 rfl ?_
        obtain ⟨v9, M8, e, h⟩ := bindP_some h
        refine ca_L_123 e dL_law_1647 (Nat.le_of_ble_eq_true rfl) (by decide) ?_
        refine v_iload dL_law_1650 1 rfl ?_
        refine v_icmp_eq (tgt := 1657) dL_law_1652 (by decide) (fun c13 => ?_) (fun c13 => ?_)
        · replace h := ifP c13 h
          refine v_iload dL_law_1657 1 rfl ?_
          refine v_if_ne (tgt := 1674) dL_law_1659 (by decide) (fun c12 => ?_) (fun c12 => ?_)
          · replace h := ifN c12 h
            refine v_goto (tgt := 2231) dL_law_1674 (by decide) ?_
            refine v_iinc (ls' := [(4, .int (l4 + 6)), (6, .int v7), (5, .int v4), (0, .ref SCR), (1, .ref l1), (2, .ref l2), (3, .ref l3)]) dL_law_2231 6 rfl (v := 6) ci_6 (by decide) rfl ?_
            refine v_goto (tgt := 23) dL_law_2234 (by decide) ?_
            refine v_sub [3, 4, 5, 6, 0] rfl ?_
            exact ih l1 l2 l3 (l4 + 6) M8 h
          · replace h := ifP c12 h
            refine v_aload_n dL_law_1662 rfl 5 rfl ?_
            refine v_iconst (v := 0) dL_law_1663 ci_0 ?_
            obtain ⟨v10, e, h⟩ := bind_some h
            refine v_laload dL_law_1664 e ?_
            refine v_iload dL_law_1665 0 rfl ?_
            refine v_i2l dL_law_1667 ?_
            refine v_lcmp dL_law_1668 ?_
            refine v_if_eq (tgt := 1674) dL_law_1669 (by decide) (fun c11 => ?_) (fun c11 => ?_)
            · replace h := ifP c11 h
              refine v_goto (tgt := 2231) dL_law_1674 (by decide) ?_
              refine v_iinc (ls' := [(4, .int (l4 + 6)), (6, .int v7), (5, .int v4), (0, .ref SCR), (1, .ref l1), (2, .ref l2), (3, .ref l3)]) dL_law_2231 6 rfl (v := 6) ci_6 (by decide) rfl ?_
              refine v_goto (tgt := 23) dL_law_2234 (by decide) ?_
              refine v_sub [3, 4, 5, 6, 0] rfl ?_
              exact ih l1 l2 l3 (l4 + 6) M8 h
            · replace h := ifN c11 h
              refine v_iconst (v := 0) dL_law_1672 ci_0 ?_
              obtain ⟨hz, rfl, rfl⟩ := okZ_some h
              exact v_zreturn dL_law_1673 hz
        · replace h := ifN c13 h
          refine v_iconst (v := 0) dL_law_1655 ci_0 ?_
          obtain ⟨hz, rfl, rfl⟩ := okZ_some h
          exact v_zreturn dL_law_1656 hz
      replace h := ifN c20_21 h
      rcases Decidable.em ((v1 &&& (63 : Int32)) = 22) with c20_22 | c20_22
      · replace h := ifP c20_22 h
        refine v_tsw (tgt := 1677) dL_law_40 c20_22 (by decide) (by decide) rfl (by decide) ?_
        refine v_aload_n dL_law_1677 rfl 1 rfl ?_
        refine v_aload_n dL_law_1678 rfl 0 rfl ?_
        refine v_iload dL_law_1679 4 rfl ?_
        refine v_iconst (v := 1) dL_law_1681 ci_1 ?_
        refine v_iadd dL_law_1682 ?_
        obtain ⟨v2, e, h⟩ := bind_some h
        refine v_scld hX dL_law_1683 e ?_
        refine v_aload_n dL_law_1684 rfl 3 rfl ?_
        obtain ⟨v4, M3, e, h⟩ := bindP_some h
        refine ca_L_196 e dL_law_1685 (Nat.le_of_ble_eq_true rfl) (by decide) ?_
        refine v_istore (ls' := [(5, .int v4), (0, .ref SCR), (1, .ref l1), (2, .ref l2), (3, .ref l3), (4, .int l4)]) dL_law_1688 (by decide) rfl ?_
        refine v_aload_n dL_law_1690 rfl 3 rfl ?_
        refine v_aload_n dL_law_1691 rfl 1 rfl ?_
        refine v_iload dL_law_1692 5 rfl ?_
        refine v_iconst (v := 1) dL_law_1694 ci_1 ?_
        refine v_iadd dL_law_1695 ?_
        obtain ⟨v5, e, h⟩ := bind_some h
        refine v_scld hX dL_law_1696 e ?_
        obtain ⟨v7, M6, e, h⟩ := bindP_some h
        refine ca_L_198 e dL_law_1697 (Nat.le_of_ble_eq_true rfl) (by decide) ?_
        refine v_istore (ls' := [(6, .int v7), (5, .int v4), (0, .ref SCR), (1, .ref l1), (2, .ref l2), (3, .ref l3), (4, .int l4)]) dL_law_1700 (by decide) rfl ?_
        refine v_aload_n dL_law_1702 rfl 4 rfl ?_
        obtain ⟨v9, M8, e, h⟩ := bindP_some h
        refine ca_L_123 e dL_law_1703 (Nat.le_of_ble_eq_true rfl) (by decide) ?_
        refine v_iload dL_law_1706 1 rfl ?_
        refine v_icmp_eq (tgt := 1713) dL_law_1708 (by decide) (fun c13 => ?_) (fun c13 => ?_)
        · replace h := ifP c13 h
          refine v_iload dL_law_1713 1 rfl ?_
          refine v_if_ne (tgt := 1730) dL_law_1715 (by decide) (fun c12 => ?_) (fun c12 => ?_)
          · replace h := ifN c12 h
            refine v_goto (tgt := 2231) dL_law_1730 (by decide) ?_
            refine v_iinc (ls' := [(4, .int (l4 + 6)), (6, .int v7), (5, .int v4), (0, .ref SCR), (1, .ref l1), (2, .ref l2), (3, .ref l3)]) dL_law_2231 6 rfl (v := 6) ci_6 (by decide) rfl ?_
            refine v_goto (tgt := 23) dL_law_2234 (by decide) ?_
            refine v_sub [3, 4, 5, 6, 0] rfl ?_
            exact ih l1 l2 l3 (l4 + 6) M8 h
          · replace h := ifP c12 h
            refine v_aload_n dL_law_1718 rfl 5 rfl ?_
            refine v_iconst (v := 0) dL_law_1719 ci_0 ?_
            obtain ⟨v10, e, h⟩ := bind_some h
            refine v_laload dL_law_1720 e ?_
            refine v_iload dL_law_1721 0 rfl ?_
            refine v_i2l dL_law_1723 ?_
            refine v_lcmp dL_law_1724 ?_
            refine v_if_eq (tgt := 1730) dL_law_1725 (by decide) (fun c11 => ?_) (fun c11 => ?_)
            · replace h := ifP c11 h
              refine v_goto (tgt := 2231) dL_law_1730 (by decide) ?_
              refine v_iinc (ls' := [(4, .int (l4 + 6)), (6, .int v7), (5, .int v4), (0, .ref SCR), (1, .ref l1), (2, .ref l2), (3, .ref l3)]) dL_law_2231 6 rfl (v := 6) ci_6 (by decide) rfl ?_
              refine v_goto (tgt := 23) dL_law_2234 (by decide) ?_
              refine v_sub [3, 4, 5, 6, 0] rfl ?_
              exact ih l1 l2 l3 (l4 + 6) M8 h
            · replace h := ifN c11 h
              refine v_iconst (v := 0) dL_law_1728 ci_0 ?_
              obtain ⟨hz, rfl, rfl⟩ := okZ_some h
              exact v_zreturn dL_law_1729 hz
        · replace h := ifN c13 h
          refine v_iconst (v := 0) dL_law_1711 ci_0 ?_
          obtain ⟨hz, rfl, rfl⟩ := okZ_some h
          exact v_zreturn dL_law_1712 hz
      replace h := ifN c20_22 h
      rcases Decidable.em ((v1 &&& (63 : Int32)) = 23) with c20_23 | c20_23
      · replace h := ifP c20_23 h
        refine v_tsw (tgt := 1733) dL_law_40 c20_23 (by decide) (by decide) rfl (by decide) ?_
        refine v_aload_n dL_law_1733 rfl 1 rfl ?_
        refine v_aload_n dL_law_1734 rfl 0 rfl ?_
        refine v_iload dL_law_1735 4 rfl ?_
        refine v_iconst (v := 1) dL_law_1737 ci_1 ?_
        refine v_iadd dL_law_1738 ?_
        obtain ⟨v2, e, h⟩ := bind_some h
        refine v_scld hX dL_law_1739 e ?_
        refine v_aload_n dL_law_1740 rfl 0 rfl ?_
        refine v_iload dL_law_1741 4 rfl ?_
        refine v_iconst (v := 2) dL_law_1743 ci_2 ?_
        refine v_iadd dL_law_1744 ?_
        obtain ⟨v3, e, h⟩ := bind_some h
        refine v_scld hX dL_law_1745 e ?_
        refine v_aload_n dL_law_1746 rfl 3 rfl ?_
        obtain ⟨v5, M4, e, h⟩ := bindP_some h
        refine ca_L_199 e dL_law_1747 (Nat.le_of_ble_eq_true rfl) (by decide) ?_
        refine v_istore (ls' := [(5, .int v5), (0, .ref SCR), (1, .ref l1), (2, .ref l2), (3, .ref l3), (4, .int l4)]) dL_law_1750 (by decide) rfl ?_
        refine v_aload_n dL_law_1752 rfl 3 rfl ?_
        refine v_aload_n dL_law_1753 rfl 1 rfl ?_
        refine v_iload dL_law_1754 5 rfl ?_
        refine v_iconst (v := 1) dL_law_1756 ci_1 ?_
        refine v_iadd dL_law_1757 ?_
        obtain ⟨v6, e, h⟩ := bind_some h
        refine v_scld hX dL_law_1758 e ?_
        refine v_aload_n dL_law_1759 rfl 1 rfl ?_
        refine v_iload dL_law_1760 5 rfl ?_
        refine v_iconst (v := 2) dL_law_1762 ci_2 ?_
        refine v_iadd dL_law_1763 ?_
        obtain ⟨v7, e, h⟩ := bind_some h
        refine v_scld hX dL_law_1764 e ?_
        obtain ⟨v9, M8, e, h⟩ := bindP_some h
        refine ca_L_201 e dL_law_1765 (Nat.le_of_ble_eq_true rfl) (by decide) ?_
        refine v_istore (ls' := [(6, .int v9), (5, .int v5), (0, .ref SCR), (1, .ref l1), (2, .ref l2), (3, .ref l3), (4, .int l4)]) dL_law_1768 (by decide) rfl ?_
        refine v_aload_n dL_law_1770 rfl 4 rfl ?_
        obtain ⟨v11, M10, e, h⟩ := bindP_some h
        refine ca_L_123 e dL_law_1771 (Nat.le_of_ble_eq_true rfl) (by decide) ?_
        refine v_iload dL_law_1774 1 rfl ?_
        refine v_icmp_eq (tgt := 1781) dL_law_1776 (by decide) (fun c15 => ?_) (fun c15 => ?_)
        · replace h := ifP c15 h
          refine v_iload dL_law_1781 1 rfl ?_
          refine v_if_ne (tgt := 1798) dL_law_1783 (by decide) (fun c14 => ?_) (fun c14 => ?_)
          · replace h := ifN c14 h
            refine v_goto (tgt := 2231) dL_law_1798 (by decide) ?_
            refine v_iinc (ls' := [(4, .int (l4 + 6)), (6, .int v9), (5, .int v5), (0, .ref SCR), (1, .ref l1), (2, .ref l2), (3, .ref l3)]) dL_law_2231 6 rfl (v := 6) ci_6 (by decide) rfl ?_
            refine v_goto (tgt := 23) dL_law_2234 (by decide) ?_
            refine v_sub [3, 4, 5, 6, 0] rfl ?_
            exact ih l1 l2 l3 (l4 + 6) M10 h
          · replace h := ifP c14 h
            refine v_aload_n dL_law_1786 rfl 5 rfl ?_
            refine v_iconst (v := 0) dL_law_1787 ci_0 ?_
            obtain ⟨v12, e, h⟩ := bind_some h
            refine v_laload dL_law_1788 e ?_
            refine v_iload dL_law_1789 0 rfl ?_
            refine v_i2l dL_law_1791 ?_
            refine v_lcmp dL_law_1792 ?_
            refine v_if_eq (tgt := 1798) dL_law_1793 (by decide) (fun c13 => ?_) (fun c13 => ?_)
            · replace h := ifP c13 h
              refine v_goto (tgt := 2231) dL_law_1798 (by decide) ?_
              refine v_iinc (ls' := [(4, .int (l4 + 6)), (6, .int v9), (5, .int v5), (0, .ref SCR), (1, .ref l1), (2, .ref l2), (3, .ref l3)]) dL_law_2231 6 rfl (v := 6) ci_6 (by decide) rfl ?_
              refine v_goto (tgt := 23) dL_law_2234 (by decide) ?_
              refine v_sub [3, 4, 5, 6, 0] rfl ?_
              exact ih l1 l2 l3 (l4 + 6) M10 h
            · replace h := ifN c13 h
              refine v_iconst (v := 0) dL_law_1796 ci_0 ?_
              obtain ⟨hz, rfl, rfl⟩ := okZ_some h
              exact v_zreturn dL_law_1797 hz
        · replace h := ifN c15 h
          refine v_iconst (v := 0) dL_law_1779 ci_0 ?_
          obtain ⟨hz, rfl, rfl⟩ := okZ_some h
          exact v_zreturn dL_law_1780 hz
      replace h := ifN c20_23 h
      rcases Decidable.em ((v1 &&& (63 : Int32)) = 24) with c20_24 | c20_24
      · replace h := ifP c20_24 h
        refine v_tsw (tgt := 1801) dL_law_40 c20_24 (by decide) (by decide) rfl (by decide) ?_
        refine v_aload_n dL_law_1801 rfl 1 rfl ?_
        refine v_aload_n dL_law_1802 rfl 0 rfl ?_
        refine v_iload dL_law_1803 4 rfl ?_
        refine v_iconst (v := 1) dL_law_1805 ci_1 ?_
        refine v_iadd dL_law_1806 ?_
        obtain ⟨v2, e, h⟩ := bind_some h
        refine v_scld hX dL_law_1807 e ?_
        refine v_aload_n dL_law_1808 rfl 0 rfl ?_
        refine v_iload dL_law_1809 4 rfl ?_
        refine v_iconst (v := 2) dL_law_1811 ci_2 ?_
        refine v_iadd dL_law_1812 ?_
        obtain ⟨v3, e, h⟩ := bind_some h
        refine v_scld hX dL_law_1813 e ?_
        refine v_aload_n dL_law_1814 rfl 0 rfl ?_
        refine v_iload dL_law_1815 4 rfl ?_
        refine v_iconst (v := 3) dL_law_1817 ci_3 ?_
        refine v_iadd dL_law_1818 ?_
        obtain ⟨v4, e, h⟩ := bind_some h
        refine v_scld hX dL_law_1819 e ?_
        refine v_aload_n dL_law_1820 rfl 3 rfl ?_
        obtain ⟨v6, M5, e, h⟩ := bindP_some h
        refine ca_L_202 e dL_law_1821 (Nat.le_of_ble_eq_true rfl) (by decide) ?_
        refine v_istore (ls' := [(5, .int v6), (0, .ref SCR), (1, .ref l1), (2, .ref l2), (3, .ref l3), (4, .int l4)]) dL_law_1824 (by decide) rfl ?_
        refine v_aload_n dL_law_1826 rfl 3 rfl ?_
        refine v_aload_n dL_law_1827 rfl 1 rfl ?_
        refine v_iload dL_law_1828 5 rfl ?_
        refine v_iconst (v := 1) dL_law_1830 ci_1 ?_
        refine v_iadd dL_law_1831 ?_
        obtain ⟨v7, e, h⟩ := bind_some h
        refine v_scld hX dL_law_1832 e ?_
        refine v_aload_n dL_law_1833 rfl 1 rfl ?_
        refine v_iload dL_law_1834 5 rfl ?_
        refine v_iconst (v := 2) dL_law_1836 ci_2 ?_
        refine v_iadd dL_law_1837 ?_
        obtain ⟨v8, e, h⟩ := bind_some h
        refine v_scld hX dL_law_1838 e ?_
        refine v_aload_n dL_law_1839 rfl 1 rfl ?_
        refine v_iload dL_law_1840 5 rfl ?_
        refine v_iconst (v := 3) dL_law_1842 ci_3 ?_
        refine v_iadd dL_law_1843 ?_
        obtain ⟨v9, e, h⟩ := bind_some h
        refine v_scld hX dL_law_1844 e ?_
        obtain ⟨v11, M10, e, h⟩ := bindP_some h
        refine ca_L_204 e dL_law_1845 (Nat.le_of_ble_eq_true rfl) (by decide) ?_
        refine v_istore (ls' := [(6, .int v11), (5, .int v6), (0, .ref SCR), (1, .ref l1), (2, .ref l2), (3, .ref l3), (4, .int l4)]) dL_law_1848 (by decide) rfl ?_
        refine v_aload_n dL_law_1850 rfl 4 rfl ?_
        obtain ⟨v13, M12, e, h⟩ := bindP_some h
        refine ca_L_123 e dL_law_1851 (Nat.le_of_ble_eq_true rfl) (by decide) ?_
        refine v_iload dL_law_1854 1 rfl ?_
        refine v_icmp_eq (tgt := 1861) dL_law_1856 (by decide) (fun c17 => ?_) (fun c17 => ?_)
        · replace h := ifP c17 h
          refine v_iload dL_law_1861 1 rfl ?_
          refine v_if_ne (tgt := 1878) dL_law_1863 (by decide) (fun c16 => ?_) (fun c16 => ?_)
          · replace h := ifN c16 h
            refine v_goto (tgt := 2231) dL_law_1878 (by decide) ?_
            refine v_iinc (ls' := [(4, .int (l4 + 6)), (6, .int v11), (5, .int v6), (0, .ref SCR), (1, .ref l1), (2, .ref l2), (3, .ref l3)]) dL_law_2231 6 rfl (v := 6) ci_6 (by decide) rfl ?_
            refine v_goto (tgt := 23) dL_law_2234 (by decide) ?_
            refine v_sub [3, 4, 5, 6, 0] rfl ?_
            exact ih l1 l2 l3 (l4 + 6) M12 h
          · replace h := ifP c16 h
            refine v_aload_n dL_law_1866 rfl 5 rfl ?_
            refine v_iconst (v := 0) dL_law_1867 ci_0 ?_
            obtain ⟨v14, e, h⟩ := bind_some h
            refine v_laload dL_law_1868 e ?_
            refine v_iload dL_law_1869 0 rfl ?_
            refine v_i2l dL_law_1871 ?_
            refine v_lcmp dL_law_1872 ?_
            refine v_if_eq (tgt := 1878) dL_law_1873 (by decide) (fun c15 => ?_) (fun c15 => ?_)
            · replace h := ifP c15 h
              refine v_goto (tgt := 2231) dL_law_1878 (by decide) ?_
              refine v_iinc (ls' := [(4, .int (l4 + 6)), (6, .int v11), (5, .int v6), (0, .ref SCR), (1, .ref l1), (2, .ref l2), (3, .ref l3)]) dL_law_2231 6 rfl (v := 6) ci_6 (by decide) rfl ?_
              refine v_goto (tgt := 23) dL_law_2234 (by decide) ?_
              refine v_sub [3, 4, 5, 6, 0] rfl ?_
              exact ih l1 l2 l3 (l4 + 6) M12 h
            · replace h := ifN c15 h
              refine v_iconst (v := 0) dL_law_1876 ci_0 ?_
              obtain ⟨hz, rfl, rfl⟩ := okZ_some h
              exact v_zreturn dL_law_1877 hz
        · replace h := ifN c17 h
          refine v_iconst (v := 0) dL_law_1859 ci_0 ?_
          obtain ⟨hz, rfl, rfl⟩ := okZ_some h
          exact v_zreturn dL_law_1860 hz
      replace h := ifN c20_24 h
      rcases Decidable.em ((v1 &&& (63 : Int32)) = 25) with c20_25 | c20_25
      · replace h := ifP c20_25 h
        refine v_tsw (tgt := 1881) dL_law_40 c20_25 (by decide) (by decide) rfl (by decide) ?_
        refine v_aload_n dL_law_1881 rfl 1 rfl ?_
        refine v_aload_n dL_law_1882 rfl 0 rfl ?_
        refine v_iload dL_law_1883 4 rfl ?_
        refine v_iconst (v := 1) dL_law_1885 ci_1 ?_
        refine v_iadd dL_law_1886 ?_
        obtain ⟨v2, e, h⟩ := bind_some h
        refine v_scld hX dL_law_1887 e ?_
        refine v_aload_n dL_law_1888 rfl 3 rfl ?_
        obtain ⟨v4, M3, e, h⟩ := bindP_some h
        refine ca_L_205 e dL_law_1889 (Nat.le_of_ble_eq_true rfl) (by decide) ?_
        refine v_istore (ls' := [(5, .int v4), (0, .ref SCR), (1, .ref l1), (2, .ref l2), (3, .ref l3), (4, .int l4)]) dL_law_1892 (by decide) rfl ?_
        refine v_aload_n dL_law_1894 rfl 3 rfl ?_
        refine v_aload_n dL_law_1895 rfl 1 rfl ?_
        refine v_iload dL_law_1896 5 rfl ?_
        refine v_iconst (v := 1) dL_law_1898 ci_1 ?_
        refine v_iadd dL_law_1899 ?_
        obtain ⟨v5, e, h⟩ := bind_some h
        refine v_scld hX dL_law_1900 e ?_
        obtain ⟨v7, M6, e, h⟩ := bindP_some h
        refine ca_L_207 e dL_law_1901 (Nat.le_of_ble_eq_true rfl) (by decide) ?_
        refine v_istore (ls' := [(6, .int v7), (5, .int v4), (0, .ref SCR), (1, .ref l1), (2, .ref l2), (3, .ref l3), (4, .int l4)]) dL_law_1904 (by decide) rfl ?_
        refine v_aload_n dL_law_1906 rfl 4 rfl ?_
        obtain ⟨v9, M8, e, h⟩ := bindP_some h
        refine ca_L_123 e dL_law_1907 (Nat.le_of_ble_eq_true rfl) (by decide) ?_
        refine v_iload dL_law_1910 1 rfl ?_
        refine v_icmp_eq (tgt := 1917) dL_law_1912 (by decide) (fun c13 => ?_) (fun c13 => ?_)
        · replace h := ifP c13 h
          refine v_iload dL_law_1917 1 rfl ?_
          refine v_if_ne (tgt := 1934) dL_law_1919 (by decide) (fun c12 => ?_) (fun c12 => ?_)
          · replace h := ifN c12 h
            refine v_goto (tgt := 2231) dL_law_1934 (by decide) ?_
            refine v_iinc (ls' := [(4, .int (l4 + 6)), (6, .int v7), (5, .int v4), (0, .ref SCR), (1, .ref l1), (2, .ref l2), (3, .ref l3)]) dL_law_2231 6 rfl (v := 6) ci_6 (by decide) rfl ?_
            refine v_goto (tgt := 23) dL_law_2234 (by decide) ?_
            refine v_sub [3, 4, 5, 6, 0] rfl ?_
            exact ih l1 l2 l3 (l4 + 6) M8 h
          · replace h := ifP c12 h
            refine v_aload_n dL_law_1922 rfl 5 rfl ?_
            refine v_iconst (v := 0) dL_law_1923 ci_0 ?_
            obtain ⟨v10, e, h⟩ := bind_some h
            refine v_laload dL_law_1924 e ?_
            refine v_iload dL_law_1925 0 rfl ?_
            refine v_i2l dL_law_1927 ?_
            refine v_lcmp dL_law_1928 ?_
            refine v_if_eq (tgt := 1934) dL_law_1929 (by decide) (fun c11 => ?_) (fun c11 => ?_)
            · replace h := ifP c11 h
              refine v_goto (tgt := 2231) dL_law_1934 (by decide) ?_
              refine v_iinc (ls' := [(4, .int (l4 + 6)), (6, .int v7), (5, .int v4), (0, .ref SCR), (1, .ref l1), (2, .ref l2), (3, .ref l3)]) dL_law_2231 6 rfl (v := 6) ci_6 (by decide) rfl ?_
              refine v_goto (tgt := 23) dL_law_2234 (by decide) ?_
              refine v_sub [3, 4, 5, 6, 0] rfl ?_
              exact ih l1 l2 l3 (l4 + 6) M8 h
            · replace h := ifN c11 h
              refine v_iconst (v := 0) dL_law_1932 ci_0 ?_
              obtain ⟨hz, rfl, rfl⟩ := okZ_some h
              exact v_zreturn dL_law_1933 hz
        · replace h := ifN c13 h
          refine v_iconst (v := 0) dL_law_1915 ci_0 ?_
          obtain ⟨hz, rfl, rfl⟩ := okZ_some h
          exact v_zreturn dL_law_1916 hz
      replace h := ifN c20_25 h
      rcases Decidable.em ((v1 &&& (63 : Int32)) = 26) with c20_26 | c20_26
      · replace h := ifP c20_26 h
        refine v_tsw (tgt := 1937) dL_law_40 c20_26 (by decide) (by decide) rfl (by decide) ?_
        refine v_aload_n dL_law_1937 rfl 1 rfl ?_
        refine v_aload_n dL_law_1938 rfl 0 rfl ?_
        refine v_iload dL_law_1939 4 rfl ?_
        refine v_iconst (v := 1) dL_law_1941 ci_1 ?_
        refine v_iadd dL_law_1942 ?_
        obtain ⟨v2, e, h⟩ := bind_some h
        refine v_scld hX dL_law_1943 e ?_
        refine v_aload_n dL_law_1944 rfl 3 rfl ?_
        obtain ⟨v4, M3, e, h⟩ := bindP_some h
        refine ca_L_208 e dL_law_1945 (Nat.le_of_ble_eq_true rfl) (by decide) ?_
        refine v_istore (ls' := [(5, .int v4), (0, .ref SCR), (1, .ref l1), (2, .ref l2), (3, .ref l3), (4, .int l4)]) dL_law_1948 (by decide) rfl ?_
        refine v_aload_n dL_law_1950 rfl 3 rfl ?_
        refine v_aload_n dL_law_1951 rfl 1 rfl ?_
        refine v_iload dL_law_1952 5 rfl ?_
        refine v_iconst (v := 1) dL_law_1954 ci_1 ?_
        refine v_iadd dL_law_1955 ?_
        obtain ⟨v5, e, h⟩ := bind_some h
        refine v_scld hX dL_law_1956 e ?_
        obtain ⟨v7, M6, e, h⟩ := bindP_some h
        refine ca_L_210 e dL_law_1957 (Nat.le_of_ble_eq_true rfl) (by decide) ?_
        refine v_istore (ls' := [(6, .int v7), (5, .int v4), (0, .ref SCR), (1, .ref l1), (2, .ref l2), (3, .ref l3), (4, .int l4)]) dL_law_1960 (by decide) rfl ?_
        refine v_aload_n dL_law_1962 rfl 4 rfl ?_
        obtain ⟨v9, M8, e, h⟩ := bindP_some h
        refine ca_L_123 e dL_law_1963 (Nat.le_of_ble_eq_true rfl) (by decide) ?_
        refine v_iload dL_law_1966 1 rfl ?_
        refine v_icmp_eq (tgt := 1973) dL_law_1968 (by decide) (fun c13 => ?_) (fun c13 => ?_)
        · replace h := ifP c13 h
          refine v_iload dL_law_1973 1 rfl ?_
          refine v_if_ne (tgt := 1990) dL_law_1975 (by decide) (fun c12 => ?_) (fun c12 => ?_)
          · replace h := ifN c12 h
            refine v_goto (tgt := 2231) dL_law_1990 (by decide) ?_
            refine v_iinc (ls' := [(4, .int (l4 + 6)), (6, .int v7), (5, .int v4), (0, .ref SCR), (1, .ref l1), (2, .ref l2), (3, .ref l3)]) dL_law_2231 6 rfl (v := 6) ci_6 (by decide) rfl ?_
            refine v_goto (tgt := 23) dL_law_2234 (by decide) ?_
            refine v_sub [3, 4, 5, 6, 0] rfl ?_
            exact ih l1 l2 l3 (l4 + 6) M8 h
          · replace h := ifP c12 h
            refine v_aload_n dL_law_1978 rfl 5 rfl ?_
            refine v_iconst (v := 0) dL_law_1979 ci_0 ?_
            obtain ⟨v10, e, h⟩ := bind_some h
            refine v_laload dL_law_1980 e ?_
            refine v_iload dL_law_1981 0 rfl ?_
            refine v_i2l dL_law_1983 ?_
            refine v_lcmp dL_law_1984 ?_
            refine v_if_eq (tgt := 1990) dL_law_1985 (by decide) (fun c11 => ?_) (fun c11 => ?_)
            · replace h := ifP c11 h
              refine v_goto (tgt := 2231) dL_law_1990 (by decide) ?_
              refine v_iinc (ls' := [(4, .int (l4 + 6)), (6, .int v7), (5, .int v4), (0, .ref SCR), (1, .ref l1), (2, .ref l2), (3, .ref l3)]) dL_law_2231 6 rfl (v := 6) ci_6 (by decide) rfl ?_
              refine v_goto (tgt := 23) dL_law_2234 (by decide) ?_
              refine v_sub [3, 4, 5, 6, 0] rfl ?_
              exact ih l1 l2 l3 (l4 + 6) M8 h
            · replace h := ifN c11 h
              refine v_iconst (v := 0) dL_law_1988 ci_0 ?_
              obtain ⟨hz, rfl, rfl⟩ := okZ_some h
              exact v_zreturn dL_law_1989 hz
        · replace h := ifN c13 h
          refine v_iconst (v := 0) dL_law_1971 ci_0 ?_
          obtain ⟨hz, rfl, rfl⟩ := okZ_some h
          exact v_zreturn dL_law_1972 hz
      replace h := ifN c20_26 h
      rcases Decidable.em ((v1 &&& (63 : Int32)) = 27) with c20_27 | c20_27
      · replace h := ifP c20_27 h
        refine v_tsw (tgt := 1993) dL_law_40 c20_27 (by decide) (by decide) rfl (by decide) ?_
        refine v_aload_n dL_law_1993 rfl 1 rfl ?_
        obtain ⟨v3, M2, e, h⟩ := bindP_some h
        refine ca_L_211 e dL_law_1994 (Nat.le_of_ble_eq_true rfl) (by decide) ?_
        refine v_aload_n dL_law_1997 rfl 2 rfl ?_
        obtain ⟨v5, M4, e, h⟩ := bindP_some h
        refine ca_L_214 e dL_law_1998 (Nat.le_of_ble_eq_true rfl) (by decide) ?_
        refine v_icmp_eq (tgt := 2231) dL_law_2001 (by decide) (fun c6 => ?_) (fun c6 => ?_)
        · replace h := ifP c6 h
          refine v_iinc (ls' := [(4, .int (l4 + 6)), (0, .ref SCR), (1, .ref l1), (2, .ref l2), (3, .ref l3)]) dL_law_2231 4 rfl (v := 6) ci_6 (by decide) rfl ?_
          refine v_goto (tgt := 23) dL_law_2234 (by decide) ?_
          refine v_sub [1, 2, 3, 4, 0] rfl ?_
          exact ih l1 l2 l3 (l4 + 6) M4 h
        · replace h := ifN c6 h
          refine v_iconst (v := 0) dL_law_2004 ci_0 ?_
          obtain ⟨hz, rfl, rfl⟩ := okZ_some h
          exact v_zreturn dL_law_2005 hz
      replace h := ifN c20_27 h
      rcases Decidable.em ((v1 &&& (63 : Int32)) = 28) with c20_28 | c20_28
      · replace h := ifP c20_28 h
        refine v_tsw (tgt := 2006) dL_law_40 c20_28 (by decide) (by decide) rfl (by decide) ?_
        refine v_aload_n dL_law_2006 rfl 1 rfl ?_
        refine v_aload_n dL_law_2007 rfl 0 rfl ?_
        refine v_iload dL_law_2008 4 rfl ?_
        refine v_iconst (v := 1) dL_law_2010 ci_1 ?_
        refine v_iadd dL_law_2011 ?_
        obtain ⟨v2, e, h⟩ := bind_some h
        refine v_scld hX dL_law_2012 e ?_
        refine v_aload_n dL_law_2013 rfl 0 rfl ?_
        refine v_iload dL_law_2014 4 rfl ?_
        refine v_iconst (v := 2) dL_law_2016 ci_2 ?_
        refine v_iadd dL_law_2017 ?_
        obtain ⟨v3, e, h⟩ := bind_some h
        refine v_scld hX dL_law_2018 e ?_
        refine v_aload_n dL_law_2019 rfl 3 rfl ?_
        obtain ⟨v5, M4, e, h⟩ := bindP_some h
        refine ca_L_215 e dL_law_2020 (Nat.le_of_ble_eq_true rfl) (by decide) ?_
        refine v_istore (ls' := [(5, .int v5), (0, .ref SCR), (1, .ref l1), (2, .ref l2), (3, .ref l3), (4, .int l4)]) dL_law_2023 (by decide) rfl ?_
        refine v_aload_n dL_law_2025 rfl 3 rfl ?_
        refine v_aload_n dL_law_2026 rfl 1 rfl ?_
        refine v_iload dL_law_2027 5 rfl ?_
        refine v_iconst (v := 1) dL_law_2029 ci_1 ?_
        refine v_iadd dL_law_2030 ?_
        obtain ⟨v6, e, h⟩ := bind_some h
        refine v_scld hX dL_law_2031 e ?_
        refine v_aload_n dL_law_2032 rfl 1 rfl ?_
        refine v_iload dL_law_2033 5 rfl ?_
        refine v_iconst (v := 2) dL_law_2035 ci_2 ?_
        refine v_iadd dL_law_2036 ?_
        obtain ⟨v7, e, h⟩ := bind_some h
        refine v_scld hX dL_law_2037 e ?_
        obtain ⟨v9, M8, e, h⟩ := bindP_some h
        refine ca_L_217 e dL_law_2038 (Nat.le_of_ble_eq_true rfl) (by decide) ?_
        refine v_istore (ls' := [(6, .int v9), (5, .int v5), (0, .ref SCR), (1, .ref l1), (2, .ref l2), (3, .ref l3), (4, .int l4)]) dL_law_2041 (by decide) rfl ?_
        refine v_aload_n dL_law_2043 rfl 4 rfl ?_
        obtain ⟨v11, M10, e, h⟩ := bindP_some h
        refine ca_L_123 e dL_law_2044 (Nat.le_of_ble_eq_true rfl) (by decide) ?_
        refine v_iload dL_law_2047 1 rfl ?_
        refine v_icmp_eq (tgt := 2054) dL_law_2049 (by decide) (fun c15 => ?_) (fun c15 => ?_)
        · replace h := ifP c15 h
          refine v_iload dL_law_2054 1 rfl ?_
          refine v_if_ne (tgt := 2071) dL_law_2056 (by decide) (fun c14 => ?_) (fun c14 => ?_)
          · replace h := ifN c14 h
            refine v_goto (tgt := 2231) dL_law_2071 (by decide) ?_
            refine v_iinc (ls' := [(4, .int (l4 + 6)), (6, .int v9), (5, .int v5), (0, .ref SCR), (1, .ref l1), (2, .ref l2), (3, .ref l3)]) dL_law_2231 6 rfl (v := 6) ci_6 (by decide) rfl ?_
            refine v_goto (tgt := 23) dL_law_2234 (by decide) ?_
            refine v_sub [3, 4, 5, 6, 0] rfl ?_
            exact ih l1 l2 l3 (l4 + 6) M10 h
          · replace h := ifP c14 h
            refine v_aload_n dL_law_2059 rfl 5 rfl ?_
            refine v_iconst (v := 0) dL_law_2060 ci_0 ?_
            obtain ⟨v12, e, h⟩ := bind_some h
            refine v_laload dL_law_2061 e ?_
            refine v_iload dL_law_2062 0 rfl ?_
            refine v_i2l dL_law_2064 ?_
            refine v_lcmp dL_law_2065 ?_
            refine v_if_eq (tgt := 2071) dL_law_2066 (by decide) (fun c13 => ?_) (fun c13 => ?_)
            · replace h := ifP c13 h
              refine v_goto (tgt := 2231) dL_law_2071 (by decide) ?_
              refine v_iinc (ls' := [(4, .int (l4 + 6)), (6, .int v9), (5, .int v5), (0, .ref SCR), (1, .ref l1), (2, .ref l2), (3, .ref l3)]) dL_law_2231 6 rfl (v := 6) ci_6 (by decide) rfl ?_
              refine v_goto (tgt := 23) dL_law_2234 (by decide) ?_
              refine v_sub [3, 4, 5, 6, 0] rfl ?_
              exact ih l1 l2 l3 (l4 + 6) M10 h
            · replace h := ifN c13 h
              refine v_iconst (v := 0) dL_law_2069 ci_0 ?_
              obtain ⟨hz, rfl, rfl⟩ := okZ_some h
              exact v_zreturn dL_law_2070 hz
        · replace h := ifN c15 h
          refine v_iconst (v := 0) dL_law_2052 ci_0 ?_
          obtain ⟨hz, rfl, rfl⟩ := okZ_some h
          exact v_zreturn dL_law_2053 hz
      replace h := ifN c20_28 h
      rcases Decidable.em ((v1 &&& (63 : Int32)) = 29) with c20_29 | c20_29
      · replace h := ifP c20_29 h
        refine v_tsw (tgt := 2074) dL_law_40 c20_29 (by decide) (by decide) rfl (by decide) ?_
        refine v_aload_n dL_law_2074 rfl 1 rfl ?_
        refine v_aload_n dL_law_2075 rfl 3 rfl ?_
        obtain ⟨v3, M2, e, h⟩ := bindP_some h
        refine ca_L_218 e dL_law_2076 (Nat.le_of_ble_eq_true rfl) (by decide) ?_
        refine v_istore (ls' := [(5, .int v3), (0, .ref SCR), (1, .ref l1), (2, .ref l2), (3, .ref l3), (4, .int l4)]) dL_law_2079 (by decide) rfl ?_
        refine v_aload_n dL_law_2081 rfl 3 rfl ?_
        obtain ⟨v5, M4, e, h⟩ := bindP_some h
        refine ca_L_221 e dL_law_2082 (Nat.le_of_ble_eq_true rfl) (by decide) ?_
        refine v_istore (ls' := [(6, .int v5), (5, .int v3), (0, .ref SCR), (1, .ref l1), (2, .ref l2), (3, .ref l3), (4, .int l4)]) dL_law_2085 (by decide) rfl ?_
        refine v_aload_n dL_law_2087 rfl 4 rfl ?_
        obtain ⟨v7, M6, e, h⟩ := bindP_some h
        refine ca_L_123 e dL_law_2088 (Nat.le_of_ble_eq_true rfl) (by decide) ?_
        refine v_iload dL_law_2091 1 rfl ?_
        refine v_icmp_eq (tgt := 2098) dL_law_2093 (by decide) (fun c11 => ?_) (fun c11 => ?_)
        · replace h := ifP c11 h
          refine v_iload dL_law_2098 1 rfl ?_
          refine v_if_ne (tgt := 2115) dL_law_2100 (by decide) (fun c10 => ?_) (fun c10 => ?_)
          · replace h := ifN c10 h
            refine v_goto (tgt := 2231) dL_law_2115 (by decide) ?_
            refine v_iinc (ls' := [(4, .int (l4 + 6)), (6, .int v5), (5, .int v3), (0, .ref SCR), (1, .ref l1), (2, .ref l2), (3, .ref l3)]) dL_law_2231 6 rfl (v := 6) ci_6 (by decide) rfl ?_
            refine v_goto (tgt := 23) dL_law_2234 (by decide) ?_
            refine v_sub [3, 4, 5, 6, 0] rfl ?_
            exact ih l1 l2 l3 (l4 + 6) M6 h
          · replace h := ifP c10 h
            refine v_aload_n dL_law_2103 rfl 5 rfl ?_
            refine v_iconst (v := 0) dL_law_2104 ci_0 ?_
            obtain ⟨v8, e, h⟩ := bind_some h
            refine v_laload dL_law_2105 e ?_
            refine v_iload dL_law_2106 0 rfl ?_
            refine v_i2l dL_law_2108 ?_
            refine v_lcmp dL_law_2109 ?_
            refine v_if_eq (tgt := 2115) dL_law_2110 (by decide) (fun c9 => ?_) (fun c9 => ?_)
            · replace h := ifP c9 h
              refine v_goto (tgt := 2231) dL_law_2115 (by decide) ?_
              refine v_iinc (ls' := [(4, .int (l4 + 6)), (6, .int v5), (5, .int v3), (0, .ref SCR), (1, .ref l1), (2, .ref l2), (3, .ref l3)]) dL_law_2231 6 rfl (v := 6) ci_6 (by decide) rfl ?_
              refine v_goto (tgt := 23) dL_law_2234 (by decide) ?_
              refine v_sub [3, 4, 5, 6, 0] rfl ?_
              exact ih l1 l2 l3 (l4 + 6) M6 h
            · replace h := ifN c9 h
              refine v_iconst (v := 0) dL_law_2113 ci_0 ?_
              obtain ⟨hz, rfl, rfl⟩ := okZ_some h
              exact v_zreturn dL_law_2114 hz
        · replace h := ifN c11 h
          refine v_iconst (v := 0) dL_law_2096 ci_0 ?_
          obtain ⟨hz, rfl, rfl⟩ := okZ_some h
          exact v_zreturn dL_law_2097 hz
      replace h := ifN c20_29 h
      rcases Decidable.em ((v1 &&& (63 : Int32)) = 30) with c20_30 | c20_30
      · replace h := ifP c20_30 h
        refine v_tsw (tgt := 2118) dL_law_40 c20_30 (by decide) (by decide) rfl (by decide) ?_
        refine v_aload_n dL_law_2118 rfl 1 rfl ?_
        refine v_aload_n dL_law_2119 rfl 0 rfl ?_
        refine v_iload dL_law_2120 4 rfl ?_
        refine v_iconst (v := 1) dL_law_2122 ci_1 ?_
        refine v_iadd dL_law_2123 ?_
        obtain ⟨v2, e, h⟩ := bind_some h
        refine v_scld hX dL_law_2124 e ?_
        refine v_aload_n dL_law_2125 rfl 3 rfl ?_
        obtain ⟨v4, M3, e, h⟩ := bindP_some h
        refine ca_L_222 e dL_law_2126 (Nat.le_of_ble_eq_true rfl) (by decide) ?_
        refine v_istore (ls' := [(5, .int v4), (0, .ref SCR), (1, .ref l1), (2, .ref l2), (3, .ref l3), (4, .int l4)]) dL_law_2129 (by decide) rfl ?_
        refine v_aload_n dL_law_2131 rfl 3 rfl ?_
        refine v_aload_n dL_law_2132 rfl 1 rfl ?_
        refine v_iload dL_law_2133 5 rfl ?_
        refine v_iconst (v := 1) dL_law_2135 ci_1 ?_
        refine v_iadd dL_law_2136 ?_
        obtain ⟨v5, e, h⟩ := bind_some h
        refine v_scld hX dL_law_2137 e ?_
        obtain ⟨v7, M6, e, h⟩ := bindP_some h
        refine ca_L_224 e dL_law_2138 (Nat.le_of_ble_eq_true rfl) (by decide) ?_
        refine v_istore (ls' := [(6, .int v7), (5, .int v4), (0, .ref SCR), (1, .ref l1), (2, .ref l2), (3, .ref l3), (4, .int l4)]) dL_law_2141 (by decide) rfl ?_
        refine v_aload_n dL_law_2143 rfl 4 rfl ?_
        obtain ⟨v9, M8, e, h⟩ := bindP_some h
        refine ca_L_123 e dL_law_2144 (Nat.le_of_ble_eq_true rfl) (by decide) ?_
        refine v_iload dL_law_2147 1 rfl ?_
        refine v_icmp_eq (tgt := 2154) dL_law_2149 (by decide) (fun c13 => ?_) (fun c13 => ?_)
        · replace h := ifP c13 h
          refine v_iload dL_law_2154 1 rfl ?_
          refine v_if_ne (tgt := 2171) dL_law_2156 (by decide) (fun c12 => ?_) (fun c12 => ?_)
          · replace h := ifN c12 h
            refine v_goto (tgt := 2231) dL_law_2171 (by decide) ?_
            refine v_iinc (ls' := [(4, .int (l4 + 6)), (6, .int v7), (5, .int v4), (0, .ref SCR), (1, .ref l1), (2, .ref l2), (3, .ref l3)]) dL_law_2231 6 rfl (v := 6) ci_6 (by decide) rfl ?_
            refine v_goto (tgt := 23) dL_law_2234 (by decide) ?_
            refine v_sub [3, 4, 5, 6, 0] rfl ?_
            exact ih l1 l2 l3 (l4 + 6) M8 h
          · replace h := ifP c12 h
            refine v_aload_n dL_law_2159 rfl 5 rfl ?_
            refine v_iconst (v := 0) dL_law_2160 ci_0 ?_
            obtain ⟨v10, e, h⟩ := bind_some h
            refine v_laload dL_law_2161 e ?_
            refine v_iload dL_law_2162 0 rfl ?_
            refine v_i2l dL_law_2164 ?_
            refine v_lcmp dL_law_2165 ?_
            refine v_if_eq (tgt := 2171) dL_law_2166 (by decide) (fun c11 => ?_) (fun c11 => ?_)
            · replace h := ifP c11 h
              refine v_goto (tgt := 2231) dL_law_2171 (by decide) ?_
              refine v_iinc (ls' := [(4, .int (l4 + 6)), (6, .int v7), (5, .int v4), (0, .ref SCR), (1, .ref l1), (2, .ref l2), (3, .ref l3)]) dL_law_2231 6 rfl (v := 6) ci_6 (by decide) rfl ?_
              refine v_goto (tgt := 23) dL_law_2234 (by decide) ?_
              refine v_sub [3, 4, 5, 6, 0] rfl ?_
              exact ih l1 l2 l3 (l4 + 6) M8 h
            · replace h := ifN c11 h
              refine v_iconst (v := 0) dL_law_2169 ci_0 ?_
              obtain ⟨hz, rfl, rfl⟩ := okZ_some h
              exact v_zreturn dL_law_2170 hz
        · replace h := ifN c13 h
          refine v_iconst (v := 0) dL_law_2152 ci_0 ?_
          obtain ⟨hz, rfl, rfl⟩ := okZ_some h
          exact v_zreturn dL_law_2153 hz
      replace h := ifN c20_30 h
      rcases Decidable.em ((v1 &&& (63 : Int32)) = 31) with c20_31 | c20_31
      · replace h := ifP c20_31 h
        refine v_tsw (tgt := 2174) dL_law_40 c20_31 (by decide) (by decide) rfl (by decide) ?_
        refine v_aload_n dL_law_2174 rfl 1 rfl ?_
        obtain ⟨v3, M2, e, h⟩ := bindP_some h
        refine ca_L_225 e dL_law_2175 (Nat.le_of_ble_eq_true rfl) (by decide) ?_
        refine v_aload_n dL_law_2178 rfl 2 rfl ?_
        obtain ⟨v5, M4, e, h⟩ := bindP_some h
        refine ca_L_228 e dL_law_2179 (Nat.le_of_ble_eq_true rfl) (by decide) ?_
        refine v_icmp_eq (tgt := 2231) dL_law_2182 (by decide) (fun c6 => ?_) (fun c6 => ?_)
        · replace h := ifP c6 h
          refine v_iinc (ls' := [(4, .int (l4 + 6)), (0, .ref SCR), (1, .ref l1), (2, .ref l2), (3, .ref l3)]) dL_law_2231 4 rfl (v := 6) ci_6 (by decide) rfl ?_
          refine v_goto (tgt := 23) dL_law_2234 (by decide) ?_
          refine v_sub [1, 2, 3, 4, 0] rfl ?_
          exact ih l1 l2 l3 (l4 + 6) M4 h
        · replace h := ifN c6 h
          refine v_iconst (v := 0) dL_law_2185 ci_0 ?_
          obtain ⟨hz, rfl, rfl⟩ := okZ_some h
          exact v_zreturn dL_law_2186 hz
      replace h := ifN c20_31 h
      rcases Decidable.em ((v1 &&& (63 : Int32)) = 32) with c20_32 | c20_32
      · replace h := ifP c20_32 h
        refine v_tsw (tgt := 2187) dL_law_40 c20_32 (by decide) (by decide) rfl (by decide) ?_
        refine v_aload_n dL_law_2187 rfl 1 rfl ?_
        refine v_aload_n dL_law_2188 rfl 3 rfl ?_
        obtain ⟨v3, M2, e, h⟩ := bindP_some h
        refine ca_L_229 e dL_law_2189 (Nat.le_of_ble_eq_true rfl) (by decide) ?_
        refine v_istore (ls' := [(5, .int v3), (0, .ref SCR), (1, .ref l1), (2, .ref l2), (3, .ref l3), (4, .int l4)]) dL_law_2192 (by decide) rfl ?_
        refine v_aload_n dL_law_2194 rfl 3 rfl ?_
        obtain ⟨v5, M4, e, h⟩ := bindP_some h
        refine ca_L_231 e dL_law_2195 (Nat.le_of_ble_eq_true rfl) (by decide) ?_
        refine v_istore (ls' := [(6, .int v5), (5, .int v3), (0, .ref SCR), (1, .ref l1), (2, .ref l2), (3, .ref l3), (4, .int l4)]) dL_law_2198 (by decide) rfl ?_
        refine v_aload_n dL_law_2200 rfl 4 rfl ?_
        obtain ⟨v7, M6, e, h⟩ := bindP_some h
        refine ca_L_123 e dL_law_2201 (Nat.le_of_ble_eq_true rfl) (by decide) ?_
        refine v_iload dL_law_2204 1 rfl ?_
        refine v_icmp_eq (tgt := 2211) dL_law_2206 (by decide) (fun c11 => ?_) (fun c11 => ?_)
        · replace h := ifP c11 h
          refine v_iload dL_law_2211 1 rfl ?_
          refine v_if_ne (tgt := 2228) dL_law_2213 (by decide) (fun c10 => ?_) (fun c10 => ?_)
          · replace h := ifN c10 h
            refine v_goto (tgt := 2231) dL_law_2228 (by decide) ?_
            refine v_iinc (ls' := [(4, .int (l4 + 6)), (6, .int v5), (5, .int v3), (0, .ref SCR), (1, .ref l1), (2, .ref l2), (3, .ref l3)]) dL_law_2231 6 rfl (v := 6) ci_6 (by decide) rfl ?_
            refine v_goto (tgt := 23) dL_law_2234 (by decide) ?_
            refine v_sub [3, 4, 5, 6, 0] rfl ?_
            exact ih l1 l2 l3 (l4 + 6) M6 h
          · replace h := ifP c10 h
            refine v_aload_n dL_law_2216 rfl 5 rfl ?_
            refine v_iconst (v := 0) dL_law_2217 ci_0 ?_
            obtain ⟨v8, e, h⟩ := bind_some h
            refine v_laload dL_law_2218 e ?_
            refine v_iload dL_law_2219 0 rfl ?_
            refine v_i2l dL_law_2221 ?_
            refine v_lcmp dL_law_2222 ?_
            refine v_if_eq (tgt := 2228) dL_law_2223 (by decide) (fun c9 => ?_) (fun c9 => ?_)
            · replace h := ifP c9 h
              refine v_goto (tgt := 2231) dL_law_2228 (by decide) ?_
              refine v_iinc (ls' := [(4, .int (l4 + 6)), (6, .int v5), (5, .int v3), (0, .ref SCR), (1, .ref l1), (2, .ref l2), (3, .ref l3)]) dL_law_2231 6 rfl (v := 6) ci_6 (by decide) rfl ?_
              refine v_goto (tgt := 23) dL_law_2234 (by decide) ?_
              refine v_sub [3, 4, 5, 6, 0] rfl ?_
              exact ih l1 l2 l3 (l4 + 6) M6 h
            · replace h := ifN c9 h
              refine v_iconst (v := 0) dL_law_2226 ci_0 ?_
              obtain ⟨hz, rfl, rfl⟩ := okZ_some h
              exact v_zreturn dL_law_2227 hz
        · replace h := ifN c11 h
          refine v_iconst (v := 0) dL_law_2209 ci_0 ?_
          obtain ⟨hz, rfl, rfl⟩ := okZ_some h
          exact v_zreturn dL_law_2210 hz
      replace h := ifN c20_32 h
      refine v_tswOut (tgt := 2231) dL_law_40 (fun k h1 h2 => by rcases (show k = 0 ∨ k = 1 ∨ k = 2 ∨ k = 3 ∨ k = 4 ∨ k = 5 ∨ k = 6 ∨ k = 7 ∨ k = 8 ∨ k = 9 ∨ k = 10 ∨ k = 11 ∨ k = 12 ∨ k = 13 ∨ k = 14 ∨ k = 15 ∨ k = 16 ∨ k = 17 ∨ k = 18 ∨ k = 19 ∨ k = 20 ∨ k = 21 ∨ k = 22 ∨ k = 23 ∨ k = 24 ∨ k = 25 ∨ k = 26 ∨ k = 27 ∨ k = 28 ∨ k = 29 ∨ k = 30 ∨ k = 31 ∨ k = 32 by omega) with rfl | rfl | rfl | rfl | rfl | rfl | rfl | rfl | rfl | rfl | rfl | rfl | rfl | rfl | rfl | rfl | rfl | rfl | rfl | rfl | rfl | rfl | rfl | rfl | rfl | rfl | rfl | rfl | rfl | rfl | rfl | rfl | rfl <;> assumption) (by decide) ?_
      refine v_iinc (ls' := [(4, .int (l4 + 6)), (0, .ref SCR), (1, .ref l1), (2, .ref l2), (3, .ref l3)]) dL_law_2231 4 rfl (v := 6) ci_6 (by decide) rfl ?_
      refine v_goto (tgt := 23) dL_law_2234 (by decide) ?_
      refine v_sub [1, 2, 3, 4, 0] rfl ?_
      exact ih l1 l2 l3 (l4 + 6) M h
set_option maxHeartbeats 4000000 in
set_option maxRecDepth 100000 in
theorem w_L_law {G : Gl} {ρ0 : Nat → Nat} {M0 MF : Mem} {r : Int32} (L : Nat) (xs : Nat → Int32) (hX : ∀ X : Cx, Ok X G (RL, cL_law, (some .boolean), 10, 206, 7, "law", []) (ρ0, M0, cvI r, MF) → va_X (ρ0 SCR) L xs X.s X.s.heap ∧ ρ0 SCR < X.s.heap.size ∧ ¬ AO G (ρ0 SCR)) (M : Mem) (h : f_L_law L xs M = some (r, MF)) : V G (RL, cL_law, (some .boolean), 10, 206, 7, "law", []) (ρ0, M0, cvI r, MF) 0 [(0, .ref SCR)] [] M := by
  unfold f_L_law at h
  obtain ⟨v1, M2, e, h⟩ := bindP_some h
  refine nx_L_8 e dL_law_0 ?_
  refine v_dup dL_law_3 rfl ?_
  obtain ⟨M3, e, h⟩ := bind_some h
  refine ca_L_113 e dL_law_4 (Nat.le_of_ble_eq_true rfl) (by decide) ?_
  refine v_astore_n (ls' := [(1, .ref v1), (0, .ref SCR)]) dL_law_7 rfl (by decide) rfl ?_
  obtain ⟨v4, M5, e, h⟩ := bindP_some h
  refine nx_L_114 e dL_law_8 ?_
  refine v_dup dL_law_11 rfl ?_
  obtain ⟨M6, e, h⟩ := bind_some h
  refine ca_L_116 e dL_law_12 (Nat.le_of_ble_eq_true rfl) (by decide) ?_
  refine v_astore_n (ls' := [(2, .ref v4), (1, .ref v1), (0, .ref SCR)]) dL_law_15 rfl (by decide) rfl ?_
  refine v_iconst (v := 1) dL_law_16 ci_1 ?_
  obtain ⟨v7, M8, e, h⟩ := bindP_some h
  refine v_newa_long dL_law_17 aw_long e ?_
  refine v_astore_n (ls' := [(3, .ref v7), (2, .ref v4), (1, .ref v1), (0, .ref SCR)]) dL_law_19 rfl (by decide) rfl ?_
  refine v_iconst (v := 0) dL_law_20 ci_0 ?_
  refine v_istore (ls' := [(4, .int (0 : Int32)), (3, .ref v7), (2, .ref v4), (1, .ref v1), (0, .ref SCR)]) dL_law_21 (by decide) rfl ?_
  refine v_sub [4, 3, 2, 1, 0] rfl ?_
  exact w_L_law_L23 L xs hX FU v1 v4 v7 (0 : Int32) M8 h
