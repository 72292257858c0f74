/-! THE LAW, its loop -/
theorem sc_1 {L i : Nat} (xs : Nat → Int32) (hi : i + 6 ≤ L) (hL : L ≤ 3072) : scI L xs (nW i + (1 : Int32)) = some (xs (i + 1)) := by
  have e : nW i + (1 : Int32) = nW (i + 1) := nW_add i 1
  rw [e]
  simp (disch := omega) only [scI, ix_nW, Option.map_some]
theorem sc_2 {L i : Nat} (xs : Nat → Int32) (hi : i + 6 ≤ L) (hL : L ≤ 3072) : scI L xs (nW i + (2 : Int32)) = some (xs (i + 2)) := by
  have e : nW i + (2 : Int32) = nW (i + 2) := nW_add i 2
  rw [e]
  simp (disch := omega) only [scI, ix_nW, Option.map_some]
theorem sc_3 {L i : Nat} (xs : Nat → Int32) (hi : i + 6 ≤ L) (hL : L ≤ 3072) : scI L xs (nW i + (3 : Int32)) = some (xs (i + 3)) := by
  have e : nW i + (3 : Int32) = nW (i + 3) := nW_add i 3
  rw [e]
  simp (disch := omega) only [scI, ix_nW, Option.map_some]
theorem sc_4 {L i : Nat} (xs : Nat → Int32) (hi : i + 6 ≤ L) (hL : L ≤ 3072) : scI L xs (nW i + (4 : Int32)) = some (xs (i + 4)) := by
  have e : nW i + (4 : Int32) = nW (i + 4) := nW_add i 4
  rw [e]
  simp (disch := omega) only [scI, ix_nW, Option.map_some]
theorem sc_5 {L i : Nat} (xs : Nat → Int32) (hi : i + 6 ≤ L) (hL : L ≤ 3072) : scI L xs (nW i + (5 : Int32)) = some (xs (i + 5)) := by
  have e : nW i + (5 : Int32) = nW (i + 5) := nW_add i 5
  rw [e]
  simp (disch := omega) only [scI, ix_nW, Option.map_some]
theorem sc_0 {L i : Nat} (xs : Nat → Int32) (hi : i + 6 ≤ L) (hL : L ≤ 3072) : scI L xs (nW i) = some (xs i) := by
  simp (disch := omega) only [scI, ix_nW, Option.map_some]
theorem st_1 {L i : Nat} {xs : Nat → Int32} (hi : i + 6 ≤ L) (hL : L ≤ 3072) {cd : Nat → Nat} {f : Int32 → Mem → Option ((Int32 ⊕ Nat) × Mem)} {g fL : Int32 → Mem → Option (Int32 × Mem)} {hnd : Nat → Mem → Option (Int32 × Mem)} (hO : ∀ x1, OpOK cd (f x1) (g x1)) (hH : Hd cd hnd) (hf : ∀ x1, ∀ M, fL x1 M = bindH (f x1 M) wr hnd) {k : Nat} {A : Wh} {M : Mem} {K : Mem → Option (Int32 × Mem)} (h : LI k A M) (hk : k < 512) (hN : mN M ≤ 100000) : LStp k M K ((scI L xs (nW i + (1 : Int32))).bind (fun v20 => bindP (fL v20 M) (fun v4 M3 => (scI L xs (nW i + (1 : Int32))).bind (fun v40 => bindP (g v40 M3) (fun v7 M6 => bindP (f_X12_thrown 908 M6) (fun v9 M8 => if v9 = v4 then if v4 = 0 then (aL 921 (0 : Int32) M8).bind (fun v10 => if (lcmpE v10 (v7.toInt64)) = 0 then K M8 else okZ (0 : Int32) M8) else K M8 else okZ (0 : Int32) M8)))))) := by
  simp only [sc_1 xs hi hL, Option.bind_some]
  exact st_X (hO (xs (i + 1))) hH (hf (xs (i + 1))) h hk hN
theorem st_2 {L i : Nat} {xs : Nat → Int32} (hi : i + 6 ≤ L) (hL : L ≤ 3072) {cd : Nat → Nat} {f : Int32 → Int32 → Mem → Option ((Int32 ⊕ Nat) × Mem)} {g fL : Int32 → Int32 → Mem → Option (Int32 × Mem)} {hnd : Nat → Mem → Option (Int32 × Mem)} (hO : ∀ x1 x2, OpOK cd (f x1 x2) (g x1 x2)) (hH : Hd cd hnd) (hf : ∀ x1 x2, ∀ M, fL x1 x2 M = bindH (f x1 x2 M) wr hnd) {k : Nat} {A : Wh} {M : Mem} {K : Mem → Option (Int32 × Mem)} (h : LI k A M) (hk : k < 512) (hN : mN M ≤ 100000) : LStp k M K ((scI L xs (nW i + (1 : Int32))).bind (fun v20 => (scI L xs (nW i + (2 : Int32))).bind (fun v21 => bindP (fL v20 v21 M) (fun v4 M3 => (scI L xs (nW i + (1 : Int32))).bind (fun v40 => (scI L xs (nW i + (2 : Int32))).bind (fun v41 => bindP (g v40 v41 M3) (fun v7 M6 => bindP (f_X12_thrown 908 M6) (fun v9 M8 => if v9 = v4 then if v4 = 0 then (aL 921 (0 : Int32) M8).bind (fun v10 => if (lcmpE v10 (v7.toInt64)) = 0 then K M8 else okZ (0 : Int32) M8) else K M8 else okZ (0 : Int32) M8)))))))) := by
  simp only [sc_1 xs hi hL, sc_2 xs hi hL, Option.bind_some]
  exact st_X (hO (xs (i + 1)) (xs (i + 2))) hH (hf (xs (i + 1)) (xs (i + 2))) h hk hN
theorem st_3 {L i : Nat} {xs : Nat → Int32} (hi : i + 6 ≤ L) (hL : L ≤ 3072) {cd : Nat → Nat} {f : Int32 → Int32 → Int32 → Mem → Option ((Int32 ⊕ Nat) × Mem)} {g fL : Int32 → Int32 → Int32 → Mem → Option (Int32 × Mem)} {hnd : Nat → Mem → Option (Int32 × Mem)} (hO : ∀ x1 x2 x3, OpOK cd (f x1 x2 x3) (g x1 x2 x3)) (hH : Hd cd hnd) (hf : ∀ x1 x2 x3, ∀ M, fL x1 x2 x3 M = bindH (f x1 x2 x3 M) wr hnd) {k : Nat} {A : Wh} {M : Mem} {K : Mem → Option (Int32 × Mem)} (h : LI k A M) (hk : k < 512) (hN : mN M ≤ 100000) : LStp k M K ((scI L xs (nW i + (1 : Int32))).bind (fun v20 => (scI L xs (nW i + (2 : Int32))).bind (fun v21 => (scI L xs (nW i + (3 : Int32))).bind (fun v22 => bindP (fL v20 v21 v22 M) (fun v4 M3 => (scI L xs (nW i + (1 : Int32))).bind (fun v40 => (scI L xs (nW i + (2 : Int32))).bind (fun v41 => (scI L xs (nW i + (3 : Int32))).bind (fun v42 => bindP (g v40 v41 v42 M3) (fun v7 M6 => bindP (f_X12_thrown 908 M6) (fun v9 M8 => if v9 = v4 then if v4 = 0 then (aL 921 (0 : Int32) M8).bind (fun v10 => if (lcmpE v10 (v7.toInt64)) = 0 then K M8 else okZ (0 : Int32) M8) else K M8 else okZ (0 : Int32) M8)))))))))) := by
  simp only [sc_1 xs hi hL, sc_2 xs hi hL, sc_3 xs hi hL, Option.bind_some]
  exact st_X (hO (xs (i + 1)) (xs (i + 2)) (xs (i + 3))) hH (hf (xs (i + 1)) (xs (i + 2)) (xs (i + 3))) h hk hN
theorem st_4 {L i : Nat} {xs : Nat → Int32} (hi : i + 6 ≤ L) (hL : L ≤ 3072) {cd : Nat → Nat} {f : Int32 → Int32 → Int32 → Int32 → Mem → Option ((Int32 ⊕ Nat) × Mem)} {g fL : Int32 → Int32 → Int32 → Int32 → Mem → Option (Int32 × Mem)} {hnd : Nat → Mem → Option (Int32 × Mem)} (hO : ∀ x1 x2 x3 x4, OpOK cd (f x1 x2 x3 x4) (g x1 x2 x3 x4)) (hH : Hd cd hnd) (hf : ∀ x1 x2 x3 x4, ∀ M, fL x1 x2 x3 x4 M = bindH (f x1 x2 x3 x4 M) wr hnd) {k : Nat} {A : Wh} {M : Mem} {K : Mem → Option (Int32 × Mem)} (h : LI k A M) (hk : k < 512) (hN : mN M ≤ 100000) : LStp k M K ((scI L xs (nW i + (1 : Int32))).bind (fun v20 => (scI L xs (nW i + (2 : Int32))).bind (fun v21 => (scI L xs (nW i + (3 : Int32))).bind (fun v22 => (scI L xs (nW i + (4 : Int32))).bind (fun v23 => bindP (fL v20 v21 v22 v23 M) (fun v4 M3 => (scI L xs (nW i + (1 : Int32))).bind (fun v40 => (scI L xs (nW i + (2 : Int32))).bind (fun v41 => (scI L xs (nW i + (3 : Int32))).bind (fun v42 => (scI L xs (nW i + (4 : Int32))).bind (fun v43 => bindP (g v40 v41 v42 v43 M3) (fun v7 M6 => bindP (f_X12_thrown 908 M6) (fun v9 M8 => if v9 = v4 then if v4 = 0 then (aL 921 (0 : Int32) M8).bind (fun v10 => if (lcmpE v10 (v7.toInt64)) = 0 then K M8 else okZ (0 : Int32) M8) else K M8 else okZ (0 : Int32) M8)))))))))))) := by
  simp only [sc_1 xs hi hL, sc_2 xs hi hL, sc_3 xs hi hL, sc_4 xs hi hL, Option.bind_some]
  exact st_X (hO (xs (i + 1)) (xs (i + 2)) (xs (i + 3)) (xs (i + 4))) hH (hf (xs (i + 1)) (xs (i + 2)) (xs (i + 3)) (xs (i + 4))) h hk hN
theorem st_connect {L i : Nat} {xs : Nat → Int32} (hi : i + 6 ≤ L) (hL : L ≤ 3072) (k23 : Nat → Nat → Nat → Int32 → Mem → Option (Int32 × Mem)) {k : Nat} {A : Wh} {M : Mem} (h : LI k A M) (hk : k < 512) (hN : mN M ≤ 100000) : LStp k M (k23 0 908 921 (nW i + 6)) ((scI L xs (nW i + (1 : Int32))).bind (fun v21 => (scI L xs (nW i + (2 : Int32))).bind (fun v22 => if v22 = 0 then f_L_law_J346 L xs k23 0 908 921 (nW i) (0 : Int32) v21 0 M else f_L_law_J346 L xs k23 0 908 921 (nW i) (1 : Int32) v21 0 M))) := by
  simp only [sc_1 xs hi hL, sc_2 xs hi hL, Option.bind_some]
  by_cases q : xs (i + 2) = 0
  · rw [if_pos q]
    simp only [f_L_law_J346, f_L_law_J373, sc_1 xs hi hL, sc_2 xs hi hL, Option.bind_some, q, ↓reduceIte]
    exact st_X (fL := fun M => f_L_connect 0 (xs (i + 1)) 0 921 M) (Op_connect (xs (i + 1)) false) (Hd_A 3) (fun _ => rfl) h hk hN
  · rw [if_neg q]
    simp only [f_L_law_J346, f_L_law_J373, sc_1 xs hi hL, sc_2 xs hi hL, Option.bind_some, q, ↓reduceIte]
    exact st_X (fL := fun M => f_L_connect 0 (xs (i + 1)) 1 921 M) (Op_connect (xs (i + 1)) true) (Hd_A 3) (fun _ => rfl) h hk hN
theorem st_setWill {L i : Nat} {xs : Nat → Int32} (hi : i + 6 ≤ L) (hL : L ≤ 3072) (k23 : Nat → Nat → Nat → Int32 → Mem → Option (Int32 × Mem)) {k : Nat} {A : Wh} {M : Mem} (h : LI k A M) (hk : k < 512) (hN : mN M ≤ 100000) : LStp k M (k23 0 908 921 (nW i + 6)) ((scI L xs (nW i + (1 : Int32))).bind (fun v21 => (scI L xs (nW i + (2 : Int32))).bind (fun v22 => (scI L xs (nW i + (3 : Int32))).bind (fun v23 => if v23 = 0 then f_L_law_J548 L xs k23 0 908 921 (nW i) (0 : Int32) v22 v21 0 M else f_L_law_J548 L xs k23 0 908 921 (nW i) (1 : Int32) v22 v21 0 M)))) := by
  simp only [sc_1 xs hi hL, sc_2 xs hi hL, sc_3 xs hi hL, sc_4 xs hi hL, Option.bind_some]
  by_cases q : xs (i + 3) = 0
  · rw [if_pos q]
    simp only [f_L_law_J548, f_L_law_J587, sc_1 xs hi hL, sc_2 xs hi hL, sc_3 xs hi hL, sc_4 xs hi hL, Option.bind_some, q, ↓reduceIte]
    exact st_X (fL := fun M => f_L_setWill 0 (xs (i + 1)) (xs (i + 2)) 0 (xs (i + 4)) 921 M) (Op_setWill (xs (i + 1)) (xs (i + 2)) false (xs (i + 4))) (Hd_C 3 1 2) (fun _ => rfl) h hk hN
  · rw [if_neg q]
    simp only [f_L_law_J548, f_L_law_J587, sc_1 xs hi hL, sc_2 xs hi hL, sc_3 xs hi hL, sc_4 xs hi hL, Option.bind_some, q, ↓reduceIte]
    exact st_X (fL := fun M => f_L_setWill 0 (xs (i + 1)) (xs (i + 2)) 1 (xs (i + 4)) 921 M) (Op_setWill (xs (i + 1)) (xs (i + 2)) true (xs (i + 4))) (Hd_C 3 1 2) (fun _ => rfl) h hk hN
theorem st_publish {L i : Nat} {xs : Nat → Int32} (hi : i + 6 ≤ L) (hL : L ≤ 3072) (k23 : Nat → Nat → Nat → Int32 → Mem → Option (Int32 × Mem)) {k : Nat} {A : Wh} {M : Mem} (h : LI k A M) (hk : k < 512) (hN : mN M ≤ 100000) : LStp k M (k23 0 908 921 (nW i + 6)) ((scI L xs (nW i + (1 : Int32))).bind (fun v21 => (scI L xs (nW i + (2 : Int32))).bind (fun v22 => (scI L xs (nW i + (3 : Int32))).bind (fun v23 => (scI L xs (nW i + (4 : Int32))).bind (fun v24 => if v24 = 0 then f_L_law_J1162 L xs k23 0 908 921 (nW i) (0 : Int32) v23 v22 v21 0 M else f_L_law_J1162 L xs k23 0 908 921 (nW i) (1 : Int32) v23 v22 v21 0 M))))) := by
  simp only [sc_1 xs hi hL, sc_2 xs hi hL, sc_3 xs hi hL, sc_4 xs hi hL, sc_5 xs hi hL, Option.bind_some]
  by_cases q : xs (i + 4) = 0
  · rw [if_pos q]
    simp only [f_L_law_J1162, f_L_law_J1207, sc_1 xs hi hL, sc_2 xs hi hL, sc_3 xs hi hL, sc_4 xs hi hL, sc_5 xs hi hL, Option.bind_some, q, ↓reduceIte]
    exact st_X (fL := fun M => f_L_publish 0 (xs (i + 1)) (xs (i + 2)) (xs (i + 3)) 0 (xs (i + 5)) 921 M) (Op_publish (xs (i + 1)) (xs (i + 2)) (xs (i + 3)) false (xs (i + 5))) (Hd_C 3 1 2) (fun _ => rfl) h hk hN
  · rw [if_neg q]
    simp only [f_L_law_J1162, f_L_law_J1207, sc_1 xs hi hL, sc_2 xs hi hL, sc_3 xs hi hL, sc_4 xs hi hL, sc_5 xs hi hL, Option.bind_some, q, ↓reduceIte]
    exact st_X (fL := fun M => f_L_publish 0 (xs (i + 1)) (xs (i + 2)) (xs (i + 3)) 1 (xs (i + 5)) 921 M) (Op_publish (xs (i + 1)) (xs (i + 2)) (xs (i + 3)) true (xs (i + 5))) (Hd_C 3 1 2) (fun _ => rfl) h hk hN
theorem law_one {L i n : Nat} {xs : Nat → Int32} (hi : i + 6 ≤ L) (hL : L ≤ 3072) {k : Nat} {A : Wh} {M : Mem} (h : LI k A M) (hk : k < 512) (hN : mN M ≤ 100000) : LStp k M (f_L_law_L23 L xs n 0 908 921 (nW i + 6)) (f_L_law_L23 L xs (n + 1) 0 908 921 (nW i) M) := by
  have hx : ¬ (Int32.ofNat L - (6 : Int32)) < nW i := by
    have e : Int32.ofNat L - (6 : Int32) = nW (L - 6) := nW_sub (a := L) (b := 6) (by omega)
    rw [e, nW_lt (by omega) (by omega)]; omega
  rw [f_L_law_L23, if_neg hx, sc_0 xs hi hL]
  simp only [Option.bind_some]
  refine LStp_ite (fun _ => st_1 hi hL (fL := fun x0 M => f_L_append 0 x0 921 M) Op_append (Hd_B 1 2) (fun _ _ => rfl) h hk hN) (fun _ => ?_)
  refine LStp_ite (fun _ => st_R Op_errorPosition h hk hN) (fun _ => ?_)
  refine LStp_ite (fun _ => st_2 hi hL (fL := fun x0 x1 M => f_L_setOption 0 x0 x1 921 M) Op_setOption (Hd_B 3 1) (fun _ _ _ => rfl) h hk hN) (fun _ => ?_)
  refine LStp_ite (fun _ => st_connect hi hL (f_L_law_L23 L xs n) h hk hN) (fun _ => ?_)
  refine LStp_ite (fun _ => st_1 hi hL (fL := fun x0 M => f_L_disconnect 0 x0 921 M) Op_disconnect (Hd_B 3 2) (fun _ _ => rfl) h hk hN) (fun _ => ?_)
  refine LStp_ite (fun _ => st_1 hi hL (fL := fun x0 M => f_L_breakConnection 0 x0 921 M) Op_break (Hd_B 3 2) (fun _ _ => rfl) h hk hN) (fun _ => ?_)
  refine LStp_ite (fun _ => st_setWill hi hL (f_L_law_L23 L xs n) h hk hN) (fun _ => ?_)
  refine LStp_ite (fun _ => st_1 hi hL (fL := fun x0 M => f_L_sessionState 0 x0 921 M) Op_sessionState (Hd_A 3) (fun _ _ => rfl) h hk hN) (fun _ => ?_)
  refine LStp_ite (fun _ => st_4 hi hL (fL := fun x0 x1 x2 x3 M => f_L_subscribe 0 x0 x1 x2 x3 921 M) Op_subscribe (Hd_C 3 1 2) (fun _ _ _ _ _ => rfl) h hk hN) (fun _ => ?_)
  refine LStp_ite (fun _ => st_2 hi hL (fL := fun x0 x1 M => f_L_unsubscribe 0 x0 x1 921 M) Op_unsubscribe (Hd_C 3 1 2) (fun _ _ _ => rfl) h hk hN) (fun _ => ?_)
  refine LStp_ite (fun _ => st_3 hi hL (fL := fun x0 x1 x2 M => f_L_subscription 0 x0 x1 x2 921 M) Op_subscription (Hd_B 3 1) (fun _ _ _ _ => rfl) h hk hN) (fun _ => ?_)
  refine LStp_ite (fun _ => st_3 hi hL (fL := fun x0 x1 x2 M => f_L_relation 0 x0 x1 x2 921 M) Op_relation (Hd_A 3) (fun _ _ _ _ => rfl) h hk hN) (fun _ => ?_)
  refine LStp_ite (fun _ => st_1 hi hL (fL := fun x0 M => f_L_shareSize 0 x0 921 M) Op_shareSize (Hd_A 1) (fun _ _ => rfl) h hk hN) (fun _ => ?_)
  refine LStp_ite (fun _ => st_2 hi hL (fL := fun x0 x1 M => f_L_shareMember 0 x0 x1 921 M) Op_shareMember (Hd_B 1 3) (fun _ _ _ => rfl) h hk hN) (fun _ => ?_)
  refine LStp_ite (fun _ => st_publish hi hL (f_L_law_L23 L xs n) h hk hN) (fun _ => ?_)
  refine LStp_ite (fun _ => st_2 hi hL (fL := fun x0 x1 M => f_L_release 0 x0 x1 921 M) Op_release (Hd_C 3 1 2) (fun _ _ _ => rfl) h hk hN) (fun _ => ?_)
  refine LStp_ite (fun _ => st_3 hi hL (fL := fun x0 x1 x2 M => f_L_answer 0 x0 x1 x2 921 M) Op_answer (Hd_C 3 1 2) (fun _ _ _ _ => rfl) h hk hN) (fun _ => ?_)
  refine LStp_ite (fun _ => st_1 hi hL (fL := fun x0 M => f_L_audience 0 x0 921 M) Op_audience (Hd_B 3 1) (fun _ _ => rfl) h hk hN) (fun _ => ?_)
  refine LStp_ite (fun _ => st_1 hi hL (fL := fun x0 M => f_L_receive 0 x0 921 M) Op_receive (Hd_B 3 2) (fun _ _ => rfl) h hk hN) (fun _ => ?_)
  refine LStp_ite (fun _ => st_1 hi hL (fL := fun x0 M => f_L_packet 0 x0 921 M) Op_packet (Hd_B 1 2) (fun _ _ => rfl) h hk hN) (fun _ => ?_)
  refine LStp_ite (fun _ => st_1 hi hL (fL := fun x0 M => f_L_topicCharacter 0 x0 921 M) Op_topicCharacter (Hd_B 2 3) (fun _ _ => rfl) h hk hN) (fun _ => ?_)
  refine LStp_ite (fun _ => st_1 hi hL (fL := fun x0 M => f_L_lose 0 x0 921 M) Op_lose (Hd_B 3 2) (fun _ _ => rfl) h hk hN) (fun _ => ?_)
  refine LStp_ite (fun _ => st_1 hi hL (fL := fun x0 M => f_L_repeat 0 x0 921 M) Op_repeat (Hd_B 3 2) (fun _ _ => rfl) h hk hN) (fun _ => ?_)
  refine LStp_ite (fun _ => st_2 hi hL (fL := fun x0 x1 M => f_L_length 0 x0 x1 921 M) Op_length (Hd_B 3 1) (fun _ _ _ => rfl) h hk hN) (fun _ => ?_)
  refine LStp_ite (fun _ => st_3 hi hL (fL := fun x0 x1 x2 M => f_L_inFlight 0 x0 x1 x2 921 M) Op_inFlight (Hd_B 3 1) (fun _ _ _ _ => rfl) h hk hN) (fun _ => ?_)
  refine LStp_ite (fun _ => st_1 hi hL (fL := fun x0 M => f_L_advance 0 x0 921 M) Op_advance (Hd_A 1) (fun _ _ => rfl) h hk hN) (fun _ => ?_)
  refine LStp_ite (fun _ => st_1 hi hL (fL := fun x0 M => f_L_load 0 x0 921 M) Op_load (Hd_A 3) (fun _ _ => rfl) h hk hN) (fun _ => ?_)
  refine LStp_ite (fun _ => st_R Op_retainedCount h hk hN) (fun _ => ?_)
  refine LStp_ite (fun _ => st_2 hi hL (fL := fun x0 x1 M => f_L_retained 0 x0 x1 921 M) Op_retained (Hd_B 3 1) (fun _ _ _ => rfl) h hk hN) (fun _ => ?_)
  refine LStp_ite (fun _ => st_X (fL := fun M => f_L_published 0 921 M) Op_published (Hd_A 1) (fun _ => rfl) h hk hN) (fun _ => ?_)
  refine LStp_ite (fun _ => st_1 hi hL (fL := fun x0 M => f_L_total 0 x0 921 M) Op_total (Hd_A 1) (fun _ _ => rfl) h hk hN) (fun _ => ?_)
  refine LStp_ite (fun _ => st_R Op_save h hk hN) (fun _ => ?_)
  refine LStp_ite (fun _ => st_X (fL := fun M => f_L_restore 0 921 M) Op_restore (Hd_A 2) (fun _ => rfl) h hk hN) (fun _ => ?_)
  exact LStp_none h
