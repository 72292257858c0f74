set_option maxHeartbeats 4000000 in
set_option maxRecDepth 100000 in
theorem w_L_publishes_J307 {G : Gl} {ρ0 : Nat → Nat} {M0 MF : Mem} {r : Int32 ⊕ Nat} (L : Nat) (xs : Nat → Int32) (hX : G.2.2.2.2.1 = L ∧ G.2.2.2.2.2 = xs) (l1 : Int32) (l2 : Nat) (l3 : Int32) (l4 : Int32) (l7 : Int32) (s0 : Int32) (s1 : Int32) (M : Mem) (h : f_L_publishes_J307 L xs l1 l2 l3 l4 l7 s0 s1 M = some (r, MF)) : V G (RL, cL_publishes, (some .boolean), 11, 213, 16, "publishes", []) (ρ0, M0, cxI r, MF) 307 [(0, .ref SCR), (1, .int l1), (2, .ref l2), (3, .int l3), (4, .int l4), (7, .int l7)] [.int s0, .int s1] M := by
  unfold f_L_publishes_J307 at h
  refine v_iand dL_publishes_307 ?_
  refine v_istore (ls' := [(15, .int (s1 &&& s0)), (0, .ref SCR), (1, .int l1), (2, .ref l2), (3, .int l3), (4, .int l4), (7, .int l7)]) dL_publishes_308 (by decide) rfl ?_
  refine v_iload dL_publishes_310 0 rfl ?_
  refine v_if_eq (tgt := 347) dL_publishes_312 (by decide) (fun c8 => ?_) (fun c8 => ?_)
  · replace h := ifP c8 h
    refine v_iconst (v := 0) dL_publishes_347 ci_0 ?_
    obtain ⟨hz, rfl, rfl⟩ := okZX_some h
    exact v_zreturn dL_publishes_348 hz
  · replace h := ifN c8 h
    refine v_iload dL_publishes_315 5 rfl ?_
    refine v_iconst (v := 2) dL_publishes_317 ci_2 ?_
    refine v_icmp_lt (tgt := 343) dL_publishes_318 (by decide) (fun c7 => ?_) (fun c7 => ?_)
    · replace h := ifP c7 h
      refine v_iconst (v := 1) dL_publishes_343 ci_1 ?_
      refine v_goto (tgt := 348) dL_publishes_344 (by decide) ?_
      obtain ⟨hz, rfl, rfl⟩ := okZX_some h
      exact v_zreturn dL_publishes_348 hz
    · replace h := ifN c7 h
      refine v_aload_n dL_publishes_321 rfl 1 rfl ?_
      refine v_iload_n dL_publishes_322 rfl 2 rfl ?_
      refine v_iconst (v := 2) dL_publishes_323 ci_2 ?_
      refine v_iadd dL_publishes_324 ?_
      refine v_iconst (v := 2) dL_publishes_325 ci_2 ?_
      obtain ⟨v2, M1, e, h⟩ := bindP_some h
      refine ca_L_137 hX e dL_publishes_326 (Nat.le_of_ble_eq_true rfl) (by decide) ?_
      refine v_if_eq (tgt := 343) dL_publishes_329 (by decide) (fun c6 => ?_) (fun c6 => ?_)
      · replace h := ifP c6 h
        refine v_iconst (v := 1) dL_publishes_343 ci_1 ?_
        refine v_goto (tgt := 348) dL_publishes_344 (by decide) ?_
        obtain ⟨hz, rfl, rfl⟩ := okZX_some h
        exact v_zreturn dL_publishes_348 hz
      · replace h := ifN c6 h
        refine v_aload_n dL_publishes_332 rfl 3 rfl ?_
        refine v_iload_n dL_publishes_333 rfl 4 rfl ?_
        refine v_iload dL_publishes_334 6 rfl ?_
        obtain ⟨v4, M3, e, h⟩ := bindP_some h
        refine ca_L_201 e dL_publishes_336 (Nat.le_of_ble_eq_true rfl) (by decide) ?_
        refine v_iconst (v := 1) dL_publishes_339 ci_1 ?_
        refine v_icmp_ne (tgt := 347) dL_publishes_340 (by decide) (fun c5 => ?_) (fun c5 => ?_)
        · replace h := ifN c5 h
          refine v_iconst (v := 0) dL_publishes_347 ci_0 ?_
          obtain ⟨hz, rfl, rfl⟩ := okZX_some h
          exact v_zreturn dL_publishes_348 hz
        · replace h := ifP c5 h
          refine v_iconst (v := 1) dL_publishes_343 ci_1 ?_
          refine v_goto (tgt := 348) dL_publishes_344 (by decide) ?_
          obtain ⟨hz, rfl, rfl⟩ := okZX_some h
          exact v_zreturn dL_publishes_348 hz
theorem w_L_publishes_J306 {G : Gl} {ρ0 : Nat → Nat} {M0 MF : Mem} {r : Int32 ⊕ Nat} (L : Nat) (xs : Nat → Int32) (hX : G.2.2.2.2.1 = L ∧ G.2.2.2.2.2 = xs) (l1 : Int32) (l2 : Nat) (l3 : Int32) (l4 : Int32) (l7 : Int32) (s0 : Int32) (M : Mem) (h : f_L_publishes_J306 L xs l1 l2 l3 l4 l7 s0 M = some (r, MF)) : V G (RL, cL_publishes, (some .boolean), 11, 213, 16, "publishes", []) (ρ0, M0, cxI r, MF) 306 [(0, .ref SCR), (1, .int l1), (2, .ref l2), (3, .int l3), (4, .int l4), (7, .int l7)] [.int s0] M := by
  unfold f_L_publishes_J306 at h
  refine v_iconst (v := 0) dL_publishes_306 ci_0 ?_
  exact w_L_publishes_J307 L xs hX l1 l2 l3 l4 l7 (0 : Int32) s0 M h
set_option maxHeartbeats 4000000 in
set_option maxRecDepth 100000 in
theorem w_L_publishes_J302 {G : Gl} {ρ0 : Nat → Nat} {M0 MF : Mem} {r : Int32 ⊕ Nat} (L : Nat) (xs : Nat → Int32) (hX : G.2.2.2.2.1 = L ∧ G.2.2.2.2.2 = xs) (l1 : Int32) (l2 : Nat) (l3 : Int32) (l4 : Int32) (l7 : Int32) (s0 : Int32) (M : Mem) (h : f_L_publishes_J302 L xs l1 l2 l3 l4 l7 s0 M = some (r, MF)) : V G (RL, cL_publishes, (some .boolean), 11, 213, 16, "publishes", []) (ρ0, M0, cxI r, MF) 302 [(0, .ref SCR), (1, .int l1), (2, .ref l2), (3, .int l3), (4, .int l4), (7, .int l7)] [.int s0] M := by
  unfold f_L_publishes_J302 at h
  refine v_iconst (v := 1) dL_publishes_302 ci_1 ?_
  refine v_goto (tgt := 307) dL_publishes_303 (by decide) ?_
  exact w_L_publishes_J307 L xs hX l1 l2 l3 l4 l7 (1 : Int32) s0 M h
set_option maxHeartbeats 4000000 in
set_option maxRecDepth 100000 in
theorem w_L_publishes_J298 {G : Gl} {ρ0 : Nat → Nat} {M0 MF : Mem} {r : Int32 ⊕ Nat} (L : Nat) (xs : Nat → Int32) (hX : G.2.2.2.2.1 = L ∧ G.2.2.2.2.2 = xs) (l1 : Int32) (l2 : Nat) (l3 : Int32) (l4 : Int32) (l7 : Int32) (s0 : Int32) (s1 : Int32) (s2 : Int32) (s3 : Int32) (M : Mem) (h : f_L_publishes_J298 L xs l1 l2 l3 l4 l7 s0 s1 s2 s3 M = some (r, MF)) : V G (RL, cL_publishes, (some .boolean), 11, 213, 16, "publishes", []) (ρ0, M0, cxI r, MF) 298 [(0, .ref SCR), (1, .int l1), (2, .ref l2), (3, .int l3), (4, .int l4), (7, .int l7)] [.int s0, .int s1, .int s2, .int s3] M := by
  unfold f_L_publishes_J298 at h
  refine v_iadd dL_publishes_298 ?_
  refine v_icmp_ne (tgt := 306) dL_publishes_299 (by decide) (fun c1 => ?_) (fun c1 => ?_)
  · replace h := ifN c1 h
    exact w_L_publishes_J306 L xs hX l1 l2 l3 l4 l7 s3 M h
  · replace h := ifP c1 h
    exact w_L_publishes_J302 L xs hX l1 l2 l3 l4 l7 s3 M h
set_option maxHeartbeats 4000000 in
set_option maxRecDepth 100000 in
theorem w_L_publishes_J257 {G : Gl} {ρ0 : Nat → Nat} {M0 MF : Mem} {r : Int32 ⊕ Nat} (L : Nat) (xs : Nat → Int32) (hX : G.2.2.2.2.1 = L ∧ G.2.2.2.2.2 = xs) (l1 : Int32) (l2 : Nat) (l3 : Int32) (l4 : Int32) (l7 : Int32) (l9 : Int32) (l12 : Int32) (l13 : Int32) (l14 : Int32) (s0 : Int32) (M : Mem) (h : f_L_publishes_J257 L xs l1 l2 l3 l4 l7 l9 l12 l13 l14 s0 M = some (r, MF)) : V G (RL, cL_publishes, (some .boolean), 11, 213, 16, "publishes", []) (ρ0, M0, cxI r, MF) 257 [(0, .ref SCR), (1, .int l1), (2, .ref l2), (3, .int l3), (4, .int l4), (7, .int l7), (9, .int l9), (12, .int l12), (13, .int l13), (14, .int l14)] [.int s0] M := by
  unfold f_L_publishes_J257 at h
  refine v_istore (ls' := [(15, .int s0), (0, .ref SCR), (1, .int l1), (2, .ref l2), (3, .int l3), (4, .int l4), (7, .int l7), (9, .int l9), (12, .int l12), (13, .int l13), (14, .int l14)]) dL_publishes_257 (by decide) rfl ?_
  refine v_iload dL_publishes_259 0 rfl ?_
  refine v_aload_n dL_publishes_261 rfl 3 rfl ?_
  refine v_iconst (v := 1) dL_publishes_262 ci_1 ?_
  rcases bindX_some h with ⟨v2, M1, e, h⟩ | ⟨e9, e, rfl⟩
  rotate_left
  · exact cx_L_180 e dL_publishes_263 (Nat.le_of_ble_eq_true rfl) (by decide)
  refine ca_L_180 e dL_publishes_263 (Nat.le_of_ble_eq_true rfl) (by decide) ?_
  refine v_iload dL_publishes_266 7 rfl ?_
  refine v_iload dL_publishes_268 9 rfl ?_
  refine v_iadd dL_publishes_270 ?_
  refine v_icmp_ne (tgt := 306) dL_publishes_271 (by decide) (fun c7 => ?_) (fun c7 => ?_)
  · replace h := ifN c7 h
    refine v_sub [1, 2, 3, 4, 5, 6] rfl ?_
    exact w_L_publishes_J306 L xs hX l1 l2 l3 l4 l7 s0 M1 h
  · replace h := ifP c7 h
    refine v_iload dL_publishes_274 10 rfl ?_
    refine v_if_ne (tgt := 302) dL_publishes_276 (by decide) (fun c6 => ?_) (fun c6 => ?_)
    · replace h := ifN c6 h
      refine v_sub [1, 2, 3, 4, 5, 6] rfl ?_
      exact w_L_publishes_J302 L xs hX l1 l2 l3 l4 l7 s0 M1 h
    · replace h := ifP c6 h
      refine v_aload_n dL_publishes_279 rfl 3 rfl ?_
      refine v_iload_n dL_publishes_280 rfl 4 rfl ?_
      refine v_iconst (v := 3) dL_publishes_281 ci_3 ?_
      rcases bindX_some h with ⟨v4, M3, e, h⟩ | ⟨e9, e, rfl⟩
      rotate_left
      · exact cx_L_187 e dL_publishes_282 (Nat.le_of_ble_eq_true rfl) (by decide)
      refine ca_L_187 e dL_publishes_282 (Nat.le_of_ble_eq_true rfl) (by decide) ?_
      refine v_iload dL_publishes_285 8 rfl ?_
      refine v_iload dL_publishes_287 5 rfl ?_
      refine v_iconst (v := 2) dL_publishes_289 ci_2 ?_
      refine v_icmp_ne (tgt := 297) dL_publishes_290 (by decide) (fun c5 => ?_) (fun c5 => ?_)
      · replace h := ifN c5 h
        refine v_iconst (v := 0) dL_publishes_297 ci_0 ?_
        refine v_sub [1, 2, 3, 4, 5, 6] rfl ?_
        exact w_L_publishes_J298 L xs hX l1 l2 l3 l4 l7 (0 : Int32) l12 v4 s0 M3 h
      · replace h := ifP c5 h
        refine v_iconst (v := 1) dL_publishes_293 ci_1 ?_
        refine v_goto (tgt := 298) dL_publishes_294 (by decide) ?_
        refine v_sub [1, 2, 3, 4, 5, 6] rfl ?_
        exact w_L_publishes_J298 L xs hX l1 l2 l3 l4 l7 (1 : Int32) l12 v4 s0 M3 h
theorem w_L_publishes_J256 {G : Gl} {ρ0 : Nat → Nat} {M0 MF : Mem} {r : Int32 ⊕ Nat} (L : Nat) (xs : Nat → Int32) (hX : G.2.2.2.2.1 = L ∧ G.2.2.2.2.2 = xs) (l1 : Int32) (l2 : Nat) (l3 : Int32) (l4 : Int32) (l7 : Int32) (l9 : Int32) (l12 : Int32) (l13 : Int32) (l14 : Int32) (M : Mem) (h : f_L_publishes_J256 L xs l1 l2 l3 l4 l7 l9 l12 l13 l14 M = some (r, MF)) : V G (RL, cL_publishes, (some .boolean), 11, 213, 16, "publishes", []) (ρ0, M0, cxI r, MF) 256 [(0, .ref SCR), (1, .int l1), (2, .ref l2), (3, .int l3), (4, .int l4), (7, .int l7), (9, .int l9), (12, .int l12), (13, .int l13), (14, .int l14)] [] M := by
  unfold f_L_publishes_J256 at h
  refine v_iconst (v := 0) dL_publishes_256 ci_0 ?_
  exact w_L_publishes_J257 L xs hX l1 l2 l3 l4 l7 l9 l12 l13 l14 (0 : Int32) M h
set_option maxHeartbeats 4000000 in
set_option maxRecDepth 100000 in
theorem w_L_publishes_J229 {G : Gl} {ρ0 : Nat → Nat} {M0 MF : Mem} {r : Int32 ⊕ Nat} (L : Nat) (xs : Nat → Int32) (hX : G.2.2.2.2.1 = L ∧ G.2.2.2.2.2 = xs) (l1 : Int32) (l2 : Nat) (l3 : Int32) (l4 : Int32) (l7 : Int32) (l9 : Int32) (l12 : Int32) (l13 : Int32) (l14 : Int32) (M : Mem) (h : f_L_publishes_J229 L xs l1 l2 l3 l4 l7 l9 l12 l13 l14 M = some (r, MF)) : V G (RL, cL_publishes, (some .boolean), 11, 213, 16, "publishes", []) (ρ0, M0, cxI r, MF) 229 [(0, .ref SCR), (1, .int l1), (2, .ref l2), (3, .int l3), (4, .int l4), (7, .int l7), (9, .int l9), (12, .int l12), (13, .int l13), (14, .int l14)] [] M := by
  unfold f_L_publishes_J229 at h
  refine v_iconst (v := 0) dL_publishes_229 ci_0 ?_
  refine v_goto (tgt := 257) dL_publishes_230 (by decide) ?_
  exact w_L_publishes_J257 L xs hX l1 l2 l3 l4 l7 l9 l12 l13 l14 (0 : Int32) M h
set_option maxHeartbeats 4000000 in
set_option maxRecDepth 100000 in
theorem w_L_publishes_J186 {G : Gl} {ρ0 : Nat → Nat} {M0 MF : Mem} {r : Int32 ⊕ Nat} (L : Nat) (xs : Nat → Int32) (hX : G.2.2.2.2.1 = L ∧ G.2.2.2.2.2 = xs) (l1 : Int32) (l2 : Nat) (l3 : Int32) (l4 : Int32) (l7 : Int32) (l8 : Int32) (l9 : Int32) (l10 : Int32) (l12 : Int32) (l13 : Int32) (s0 : Int32) (M : Mem) (h : f_L_publishes_J186 L xs l1 l2 l3 l4 l7 l8 l9 l10 l12 l13 s0 M = some (r, MF)) : V G (RL, cL_publishes, (some .boolean), 11, 213, 16, "publishes", []) (ρ0, M0, cxI r, MF) 186 [(0, .ref SCR), (1, .int l1), (2, .ref l2), (3, .int l3), (4, .int l4), (7, .int l7), (8, .int l8), (9, .int l9), (10, .int l10), (12, .int l12), (13, .int l13)] [.int s0] M := by
  unfold f_L_publishes_J186 at h
  refine v_istore (ls' := [(14, .int s0), (0, .ref SCR), (1, .int l1), (2, .ref l2), (3, .int l3), (4, .int l4), (7, .int l7), (8, .int l8), (9, .int l9), (10, .int l10), (12, .int l12), (13, .int l13)]) dL_publishes_186 (by decide) rfl ?_
  refine v_iload dL_publishes_188 0 rfl ?_
  refine v_if_eq (tgt := 233) dL_publishes_190 (by decide) (fun c9 => ?_) (fun c9 => ?_)
  · replace h := ifP c9 h
    refine v_iload dL_publishes_233 11 rfl ?_
    refine v_iload dL_publishes_235 7 rfl ?_
    refine v_icmp_ne (tgt := 256) dL_publishes_237 (by decide) (fun c4 => ?_) (fun c4 => ?_)
    · replace h := ifN c4 h
      refine v_sub [1, 2, 3, 4, 5, 6, 8, 10, 11, 0] rfl ?_
      exact w_L_publishes_J256 L xs hX l1 l2 l3 l4 l7 l9 l12 l13 s0 M h
    · replace h := ifP c4 h
      refine v_aload_n dL_publishes_240 rfl 3 rfl ?_
      refine v_iconst (v := 0) dL_publishes_241 ci_0 ?_
      rcases bindX_some h with ⟨v2, M1, e, h⟩ | ⟨e9, e, rfl⟩
      rotate_left
      · exact cx_L_180 e dL_publishes_242 (Nat.le_of_ble_eq_true rfl) (by decide)
      refine ca_L_180 e dL_publishes_242 (Nat.le_of_ble_eq_true rfl) (by decide) ?_
      refine v_iload dL_publishes_245 9 rfl ?_
      refine v_iconst (v := 1) dL_publishes_247 ci_1 ?_
      refine v_iadd dL_publishes_248 ?_
      refine v_icmp_ne (tgt := 256) dL_publishes_249 (by decide) (fun c3 => ?_) (fun c3 => ?_)
      · replace h := ifN c3 h
        refine v_sub [1, 2, 3, 4, 5, 6, 8, 10, 11, 0] rfl ?_
        exact w_L_publishes_J256 L xs hX l1 l2 l3 l4 l7 l9 l12 l13 s0 M1 h
      · replace h := ifP c3 h
        refine v_iconst (v := 1) dL_publishes_252 ci_1 ?_
        refine v_goto (tgt := 257) dL_publishes_253 (by decide) ?_
        refine v_sub [1, 2, 3, 4, 5, 6, 8, 10, 11, 0] rfl ?_
        exact w_L_publishes_J257 L xs hX l1 l2 l3 l4 l7 l9 l12 l13 s0 (1 : Int32) M1 h
  · replace h := ifN c9 h
    refine v_iload dL_publishes_193 11 rfl ?_
    refine v_if_ne (tgt := 229) dL_publishes_195 (by decide) (fun c8 => ?_) (fun c8 => ?_)
    · replace h := ifN c8 h
      refine v_sub [1, 2, 3, 4, 5, 6, 8, 10, 11, 0] rfl ?_
      exact w_L_publishes_J229 L xs hX l1 l2 l3 l4 l7 l9 l12 l13 s0 M h
    · replace h := ifP c8 h
      refine v_iload dL_publishes_198 5 rfl ?_
      refine v_iconst (v := 2) dL_publishes_200 ci_2 ?_
      refine v_icmp_ne (tgt := 229) dL_publishes_201 (by decide) (fun c7 => ?_) (fun c7 => ?_)
      · replace h := ifN c7 h
        refine v_sub [1, 2, 3, 4, 5, 6, 8, 10, 11, 0] rfl ?_
        exact w_L_publishes_J229 L xs hX l1 l2 l3 l4 l7 l9 l12 l13 s0 M h
      · replace h := ifP c7 h
        refine v_aload_n dL_publishes_204 rfl 3 rfl ?_
        refine v_iconst (v := 0) dL_publishes_205 ci_0 ?_
        rcases bindX_some h with ⟨v2, M1, e, h⟩ | ⟨e9, e, rfl⟩
        rotate_left
        · exact cx_L_180 e dL_publishes_206 (Nat.le_of_ble_eq_true rfl) (by decide)
        refine ca_L_180 e dL_publishes_206 (Nat.le_of_ble_eq_true rfl) (by decide) ?_
        refine v_iload dL_publishes_209 9 rfl ?_
        refine v_icmp_ne (tgt := 229) dL_publishes_211 (by decide) (fun c6 => ?_) (fun c6 => ?_)
        · replace h := ifN c6 h
          refine v_sub [1, 2, 3, 4, 5, 6, 8, 10, 11, 0] rfl ?_
          exact w_L_publishes_J229 L xs hX l1 l2 l3 l4 l7 l9 l12 l13 s0 M1 h
        · replace h := ifP c6 h
          refine v_aload_n dL_publishes_214 rfl 3 rfl ?_
          refine v_iload_n dL_publishes_215 rfl 4 rfl ?_
          refine v_iconst (v := 3) dL_publishes_216 ci_3 ?_
          rcases bindX_some h with ⟨v4, M3, e, h⟩ | ⟨e9, e, rfl⟩
          rotate_left
          · exact cx_L_187 e dL_publishes_217 (Nat.le_of_ble_eq_true rfl) (by decide)
          refine ca_L_187 e dL_publishes_217 (Nat.le_of_ble_eq_true rfl) (by decide) ?_
          refine v_iload dL_publishes_220 10 rfl ?_
          refine v_icmp_ne (tgt := 229) dL_publishes_222 (by decide) (fun c5 => ?_) (fun c5 => ?_)
          · replace h := ifN c5 h
            refine v_sub [1, 2, 3, 4, 5, 6, 8, 10, 11, 0] rfl ?_
            exact w_L_publishes_J229 L xs hX l1 l2 l3 l4 l7 l9 l12 l13 s0 M3 h
          · replace h := ifP c5 h
            refine v_iconst (v := 1) dL_publishes_225 ci_1 ?_
            refine v_goto (tgt := 257) dL_publishes_226 (by decide) ?_
            refine v_sub [1, 2, 3, 4, 5, 6, 8, 10, 11, 0] rfl ?_
            exact w_L_publishes_J257 L xs hX l1 l2 l3 l4 l7 l9 l12 l13 s0 (1 : Int32) M3 h
set_option maxHeartbeats 4000000 in
set_option maxRecDepth 100000 in
theorem w_L_publishes_J117 {G : Gl} {ρ0 : Nat → Nat} {M0 MF : Mem} {r : Int32 ⊕ Nat} (L : Nat) (xs : Nat → Int32) (hX : G.2.2.2.2.1 = L ∧ G.2.2.2.2.2 = xs) (l1 : Int32) (l2 : Nat) (l3 : Int32) (l4 : Int32) (l5 : Int32) (l7 : Int32) (l8 : Int32) (l9 : Int32) (l10 : Int32) (l11 : Int32) (l12 : Int32) (s0 : Int32) (s1 : Int32) (s2 : Int32) (s3 : Int32) (s4 : Nat) (s5 : Nat) (M : Mem) (h : f_L_publishes_J117 L xs l1 l2 l3 l4 l5 l7 l8 l9 l10 l11 l12 s0 s1 s2 s3 s4 s5 M = some (r, MF)) : V G (RL, cL_publishes, (some .boolean), 11, 213, 16, "publishes", []) (ρ0, M0, cxI r, MF) 117 [(0, .ref SCR), (1, .int l1), (2, .ref l2), (3, .int l3), (4, .int l4), (5, .int l5), (7, .int l7), (8, .int l8), (9, .int l9), (10, .int l10), (11, .int l11), (12, .int l12)] [.int s0, .int s1, .int s2, .int s3, .ref s4, .ref s5] M := by
  unfold f_L_publishes_J117 at h
  refine v_aload_n dL_publishes_117 rfl 0 rfl ?_
  refine v_iload_n dL_publishes_118 rfl 1 rfl ?_
  refine v_iconst (v := 5) dL_publishes_119 ci_5 ?_
  refine v_iadd dL_publishes_120 ?_
  refine v_bipush (v := 30) dL_publishes_121 cb_30 ?_
  obtain ⟨v2, M1, e, h⟩ := bindP_some h
  refine ca_L_137 hX e dL_publishes_123 (Nat.le_of_ble_eq_true rfl) (by decide) ?_
  obtain ⟨v4, M3, e, h⟩ := bindP_some h
  refine ca_L_197 e dL_publishes_126 (Nat.le_of_ble_eq_true rfl) (by decide) ?_
  refine v_istore (ls' := [(13, .int v4), (0, .ref SCR), (1, .int l1), (2, .ref l2), (3, .int l3), (4, .int l4), (5, .int l5), (7, .int l7), (8, .int l8), (9, .int l9), (10, .int l10), (11, .int l11), (12, .int l12)]) dL_publishes_129 (by decide) rfl ?_
  refine v_iload dL_publishes_131 6 rfl ?_
  refine v_if_ne (tgt := 169) dL_publishes_133 (by decide) (fun c12 => ?_) (fun c12 => ?_)
  · replace h := ifN c12 h
    refine v_aload_n dL_publishes_169 rfl 3 rfl ?_
    refine v_iconst (v := 3) dL_publishes_170 ci_3 ?_
    rcases bindX_some h with ⟨v6, M5, e, h⟩ | ⟨e9, e, rfl⟩
    rotate_left
    · exact cx_L_180 e dL_publishes_171 (Nat.le_of_ble_eq_true rfl) (by decide)
    refine ca_L_180 e dL_publishes_171 (Nat.le_of_ble_eq_true rfl) (by decide) ?_
    refine v_iload dL_publishes_174 11 rfl ?_
    refine v_iconst (v := 1) dL_publishes_176 ci_1 ?_
    refine v_iadd dL_publishes_177 ?_
    refine v_icmp_ne (tgt := 185) dL_publishes_178 (by decide) (fun c7 => ?_) (fun c7 => ?_)
    · replace h := ifN c7 h
      refine v_iconst (v := 0) dL_publishes_185 ci_0 ?_
      refine v_sub [1, 2, 3, 4, 5, 7, 8, 9, 10, 12, 0] rfl ?_
      exact w_L_publishes_J186 L xs hX l1 l2 l3 l4 l7 l8 l9 l10 l12 v4 (0 : Int32) M5 h
    · replace h := ifP c7 h
      refine v_iconst (v := 1) dL_publishes_181 ci_1 ?_
      refine v_goto (tgt := 186) dL_publishes_182 (by decide) ?_
      refine v_sub [1, 2, 3, 4, 5, 7, 8, 9, 10, 12, 0] rfl ?_
      exact w_L_publishes_J186 L xs hX l1 l2 l3 l4 l7 l8 l9 l10 l12 v4 (1 : Int32) M5 h
  · replace h := ifP c12 h
    refine v_iload dL_publishes_136 0 rfl ?_
    refine v_bipush (v := (-3)) dL_publishes_138 cb_m3 ?_
    refine v_icmp_ne (tgt := 167) dL_publishes_140 (by decide) (fun c11 => ?_) (fun c11 => ?_)
    · replace h := ifN c11 h
      refine v_iconst (v := 0) dL_publishes_167 ci_0 ?_
      obtain ⟨hz, rfl, rfl⟩ := okZX_some h
      exact v_zreturn dL_publishes_168 hz
    · replace h := ifP c11 h
      refine v_aload_n dL_publishes_143 rfl 3 rfl ?_
      refine v_iconst (v := 0) dL_publishes_144 ci_0 ?_
      rcases bindX_some h with ⟨v6, M5, e, h⟩ | ⟨e9, e, rfl⟩
      rotate_left
      · exact cx_L_180 e dL_publishes_145 (Nat.le_of_ble_eq_true rfl) (by decide)
      refine ca_L_180 e dL_publishes_145 (Nat.le_of_ble_eq_true rfl) (by decide) ?_
      refine v_iload dL_publishes_148 10 rfl ?_
      refine v_icmp_ne (tgt := 167) dL_publishes_150 (by decide) (fun c10 => ?_) (fun c10 => ?_)
      · replace h := ifN c10 h
        refine v_iconst (v := 0) dL_publishes_167 ci_0 ?_
        obtain ⟨hz, rfl, rfl⟩ := okZX_some h
        exact v_zreturn dL_publishes_168 hz
      · replace h := ifP c10 h
        refine v_aload_n dL_publishes_153 rfl 3 rfl ?_
        refine v_iconst (v := 1) dL_publishes_154 ci_1 ?_
        rcases bindX_some h with ⟨v8, M7, e, h⟩ | ⟨e9, e, rfl⟩
        rotate_left
        · exact cx_L_180 e dL_publishes_155 (Nat.le_of_ble_eq_true rfl) (by decide)
        refine ca_L_180 e dL_publishes_155 (Nat.le_of_ble_eq_true rfl) (by decide) ?_
        refine v_iload dL_publishes_158 9 rfl ?_
        refine v_icmp_ne (tgt := 167) dL_publishes_160 (by decide) (fun c9 => ?_) (fun c9 => ?_)
        · replace h := ifN c9 h
          refine v_iconst (v := 0) dL_publishes_167 ci_0 ?_
          obtain ⟨hz, rfl, rfl⟩ := okZX_some h
          exact v_zreturn dL_publishes_168 hz
        · replace h := ifP c9 h
          refine v_iconst (v := 1) dL_publishes_163 ci_1 ?_
          refine v_goto (tgt := 168) dL_publishes_164 (by decide) ?_
          obtain ⟨hz, rfl, rfl⟩ := okZX_some h
          exact v_zreturn dL_publishes_168 hz
set_option maxHeartbeats 4000000 in
set_option maxRecDepth 100000 in
theorem w_L_publishes_J62 {G : Gl} {ρ0 : Nat → Nat} {M0 MF : Mem} {r : Int32 ⊕ Nat} (L : Nat) (xs : Nat → Int32) (hX : G.2.2.2.2.1 = L ∧ G.2.2.2.2.2 = xs) (l1 : Int32) (l2 : Nat) (l3 : Int32) (l4 : Int32) (l5 : Int32) (l6 : Nat) (l7 : Int32) (s0 : Int32) (M : Mem) (h : f_L_publishes_J62 L xs l1 l2 l3 l4 l5 l6 l7 s0 M = some (r, MF)) : V G (RL, cL_publishes, (some .boolean), 11, 213, 16, "publishes", []) (ρ0, M0, cxI r, MF) 62 [(0, .ref SCR), (1, .int l1), (2, .ref l2), (3, .int l3), (4, .int l4), (5, .int l5), (6, .ref l6), (7, .int l7)] [.int s0] M := by
  unfold f_L_publishes_J62 at h
  refine v_istore (ls' := [(8, .int s0), (0, .ref SCR), (1, .int l1), (2, .ref l2), (3, .int l3), (4, .int l4), (5, .int l5), (6, .ref l6), (7, .int l7)]) dL_publishes_62 (by decide) rfl ?_
  refine v_aload_n dL_publishes_64 rfl 3 rfl ?_
  refine v_iconst (v := 1) dL_publishes_65 ci_1 ?_
  rcases bindX_some h with ⟨v2, M1, e, h⟩ | ⟨e9, e, rfl⟩
  rotate_left
  · exact cx_L_180 e dL_publishes_66 (Nat.le_of_ble_eq_true rfl) (by decide)
  refine ca_L_180 e dL_publishes_66 (Nat.le_of_ble_eq_true rfl) (by decide) ?_
  refine v_istore (ls' := [(9, .int v2), (8, .int s0), (0, .ref SCR), (1, .int l1), (2, .ref l2), (3, .int l3), (4, .int l4), (5, .int l5), (6, .ref l6), (7, .int l7)]) dL_publishes_69 (by decide) rfl ?_
  refine v_aload_n dL_publishes_71 rfl 4 rfl ?_
  refine v_iconst (v := 0) dL_publishes_72 ci_0 ?_
  rcases bindX_some h with ⟨v4, M3, e, h⟩ | ⟨e9, e, rfl⟩
  rotate_left
  · exact cx_L_180 e dL_publishes_73 (Nat.le_of_ble_eq_true rfl) (by decide)
  refine ca_L_180 e dL_publishes_73 (Nat.le_of_ble_eq_true rfl) (by decide) ?_
  refine v_istore (ls' := [(10, .int v4), (9, .int v2), (8, .int s0), (0, .ref SCR), (1, .int l1), (2, .ref l2), (3, .int l3), (4, .int l4), (5, .int l5), (6, .ref l6), (7, .int l7)]) dL_publishes_76 (by decide) rfl ?_
  refine v_aload_n dL_publishes_78 rfl 5 rfl ?_
  refine v_iconst (v := 3) dL_publishes_79 ci_3 ?_
  rcases bindX_some h with ⟨v6, M5, e, h⟩ | ⟨e9, e, rfl⟩
  rotate_left
  · exact cx_L_180 e dL_publishes_80 (Nat.le_of_ble_eq_true rfl) (by decide)
  refine ca_L_180 e dL_publishes_80 (Nat.le_of_ble_eq_true rfl) (by decide) ?_
  refine v_istore (ls' := [(11, .int v6), (10, .int v4), (9, .int v2), (8, .int s0), (0, .ref SCR), (1, .int l1), (2, .ref l2), (3, .int l3), (4, .int l4), (5, .int l5), (6, .ref l6), (7, .int l7)]) dL_publishes_83 (by decide) rfl ?_
  refine v_aload_n dL_publishes_85 rfl 6 rfl ?_
  refine v_iload_n dL_publishes_86 rfl 7 rfl ?_
  refine v_iconst (v := 3) dL_publishes_87 ci_3 ?_
  rcases bindX_some h with ⟨v8, M7, e, h⟩ | ⟨e9, e, rfl⟩
  rotate_left
  · exact cx_L_187 e dL_publishes_88 (Nat.le_of_ble_eq_true rfl) (by decide)
  refine ca_L_187 e dL_publishes_88 (Nat.le_of_ble_eq_true rfl) (by decide) ?_
  refine v_istore (ls' := [(12, .int v8), (11, .int v6), (10, .int v4), (9, .int v2), (8, .int s0), (0, .ref SCR), (1, .int l1), (2, .ref l2), (3, .int l3), (4, .int l4), (5, .int l5), (6, .ref l6), (7, .int l7)]) dL_publishes_91 (by decide) rfl ?_
  refine v_aload_n dL_publishes_93 rfl 7 rfl ?_
  refine v_aload dL_publishes_94 11 rfl ?_
  refine v_iload_n dL_publishes_96 rfl 8 rfl ?_
  refine v_iload dL_publishes_97 9 rfl ?_
  refine v_iload dL_publishes_99 12 rfl ?_
  refine v_aload_n dL_publishes_101 rfl 5 rfl ?_
  refine v_iload_n dL_publishes_102 rfl 6 rfl ?_
  refine v_iconst (v := 5) dL_publishes_103 ci_5 ?_
  refine v_iadd dL_publishes_104 ?_
  refine v_iconst (v := 3) dL_publishes_105 ci_3 ?_
  obtain ⟨v10, M9, e, h⟩ := bindP_some h
  refine ca_L_137 hX e dL_publishes_106 (Nat.le_of_ble_eq_true rfl) (by decide) ?_
  refine v_if_ne (tgt := 116) dL_publishes_109 (by decide) (fun c11 => ?_) (fun c11 => ?_)
  · replace h := ifN c11 h
    refine v_iconst (v := 0) dL_publishes_116 ci_0 ?_
    refine v_sub [5, 6, 7, 8, 9, 10, 12, 4, 3, 2, 1, 0] rfl ?_
    exact w_L_publishes_J117 L xs hX l1 l2 l3 l4 l5 l7 s0 v2 v4 v6 v8 (0 : Int32) l7 l4 l3 l6 l2 M9 h
  · replace h := ifP c11 h
    refine v_iconst (v := 1) dL_publishes_112 ci_1 ?_
    refine v_goto (tgt := 117) dL_publishes_113 (by decide) ?_
    refine v_sub [5, 6, 7, 8, 9, 10, 12, 4, 3, 2, 1, 0] rfl ?_
    exact w_L_publishes_J117 L xs hX l1 l2 l3 l4 l5 l7 s0 v2 v4 v6 v8 (1 : Int32) l7 l4 l3 l6 l2 M9 h
set_option maxHeartbeats 4000000 in
set_option maxRecDepth 100000 in
theorem w_L_publishes_J14 {G : Gl} {ρ0 : Nat → Nat} {M0 MF : Mem} {r : Int32 ⊕ Nat} (L : Nat) (xs : Nat → Int32) (hX : G.2.2.2.2.1 = L ∧ G.2.2.2.2.2 = xs) (l1 : Int32) (l2 : Nat) (l3 : Int32) (l4 : Int32) (s0 : Int32) (M : Mem) (h : f_L_publishes_J14 L xs l1 l2 l3 l4 s0 M = some (r, MF)) : V G (RL, cL_publishes, (some .boolean), 11, 213, 16, "publishes", []) (ρ0, M0, cxI r, MF) 14 [(0, .ref SCR), (1, .int l1), (2, .ref l2), (3, .int l3), (4, .int l4)] [.int s0] M := by
  unfold f_L_publishes_J14 at h
  refine v_istore (ls' := [(5, .int s0), (0, .ref SCR), (1, .int l1), (2, .ref l2), (3, .int l3), (4, .int l4)]) dL_publishes_14 (by decide) rfl ?_
  refine gs_L_167 dL_publishes_16 ?_
  refine v_aload_n dL_publishes_19 rfl 1 rfl ?_
  refine v_iload_n dL_publishes_20 rfl 2 rfl ?_
  refine v_iconst (v := 3) dL_publishes_21 ci_3 ?_
  refine v_iadd dL_publishes_22 ?_
  refine v_bipush (v := 16) dL_publishes_23 cb_16 ?_
  obtain ⟨v2, M1, e, h⟩ := bindP_some h
  refine ca_L_137 hX e dL_publishes_25 (Nat.le_of_ble_eq_true rfl) (by decide) ?_
  obtain ⟨v3, e, h⟩ := bind_some h
  refine v_sald (w := 1) (by decide) dL_publishes_28 e ?_
  refine v_astore (ls' := [(6, .ref v3), (5, .int s0), (0, .ref SCR), (1, .int l1), (2, .ref l2), (3, .int l3), (4, .int l4)]) dL_publishes_29 (by decide) rfl ?_
  refine v_iconst (v := 1) dL_publishes_31 ci_1 ?_
  refine v_aload_n dL_publishes_32 rfl 2 rfl ?_
  refine v_iload_n dL_publishes_33 rfl 3 rfl ?_
  refine v_iconst (v := 4) dL_publishes_34 ci_4 ?_
  refine v_iadd dL_publishes_35 ?_
  refine v_iconst (v := 5) dL_publishes_36 ci_5 ?_
  obtain ⟨v5, M4, e, h⟩ := bindP_some h
  refine ca_L_137 hX e dL_publishes_37 (Nat.le_of_ble_eq_true rfl) (by decide) ?_
  refine v_iadd dL_publishes_40 ?_
  refine v_istore (ls' := [(7, .int ((1 : Int32) + v5)), (6, .ref v3), (5, .int s0), (0, .ref SCR), (1, .int l1), (2, .ref l2), (3, .int l3), (4, .int l4)]) dL_publishes_41 (by decide) rfl ?_
  refine v_aload_n dL_publishes_43 rfl 5 rfl ?_
  refine v_aload dL_publishes_44 1 rfl ?_
  obtain ⟨v7, M6, e, h⟩ := bindP_some h
  refine ca_L_66 e dL_publishes_46 (Nat.le_of_ble_eq_true rfl) (by decide) ?_
  refine v_if_eq (tgt := 60) dL_publishes_49 (by decide) (fun c10 => ?_) (fun c10 => ?_)
  · replace h := ifP c10 h
    refine v_bipush (v := (-7)) dL_publishes_60 cb_m7 ?_
    refine v_sub [3, 4, 5, 6, 7, 2, 1, 0] rfl ?_
    exact w_L_publishes_J62 L xs hX l1 l2 l3 l4 s0 v3 ((1 : Int32) + v5) (-7 : Int32) M6 h
  · replace h := ifN c10 h
    refine v_aload_n dL_publishes_52 rfl 5 rfl ?_
    refine v_iload_n dL_publishes_53 rfl 6 rfl ?_
    obtain ⟨v9, M8, e, h⟩ := bindP_some h
    refine ca_L_195 e dL_publishes_54 (Nat.le_of_ble_eq_true rfl) (by decide) ?_
    refine v_goto (tgt := 62) dL_publishes_57 (by decide) ?_
    refine v_sub [3, 4, 5, 6, 7, 2, 1, 0] rfl ?_
    exact w_L_publishes_J62 L xs hX l1 l2 l3 l4 s0 v3 ((1 : Int32) + v5) v9 M8 h
set_option maxHeartbeats 4000000 in
set_option maxRecDepth 100000 in
theorem w_L_publishes {G : Gl} {ρ0 : Nat → Nat} {M0 MF : Mem} {r : Int32 ⊕ Nat} (L : Nat) (xs : Nat → Int32) (hX : G.2.2.2.2.1 = L ∧ G.2.2.2.2.2 = xs) (l1 : Int32) (l2 : Nat) (l3 : Int32) (l4 : Int32) (M : Mem) (h : f_L_publishes L xs l1 l2 l3 l4 M = some (r, MF)) : V G (RL, cL_publishes, (some .boolean), 11, 213, 16, "publishes", []) (ρ0, M0, cxI r, MF) 0 [(0, .ref SCR), (1, .int l1), (2, .ref l2), (3, .int l3), (4, .int l4)] [] M := by
  unfold f_L_publishes at h
  refine v_aload_n dL_publishes_0 rfl 2 rfl ?_
  refine v_iload_n dL_publishes_1 rfl 3 rfl ?_
  rcases bindX_some h with ⟨v2, M1, e, h⟩ | ⟨e9, e, rfl⟩
  rotate_left
  · exact cx_L_141 e dL_publishes_2 (Nat.le_of_ble_eq_true rfl) (by decide)
  refine ca_L_141 e dL_publishes_2 (Nat.le_of_ble_eq_true rfl) (by decide) ?_
  refine v_iconst (v := 1) dL_publishes_5 ci_1 ?_
  refine v_icmp_le (tgt := 13) dL_publishes_6 (by decide) (fun c3 => ?_) (fun c3 => ?_)
  · replace h := ifP c3 h
    refine v_iconst (v := 0) dL_publishes_13 ci_0 ?_
    exact w_L_publishes_J14 L xs hX l1 l2 l3 l4 (0 : Int32) M1 h
  · replace h := ifN c3 h
    refine v_iconst (v := 1) dL_publishes_9 ci_1 ?_
    refine v_goto (tgt := 14) dL_publishes_10 (by decide) ?_
    exact w_L_publishes_J14 L xs hX l1 l2 l3 l4 (1 : Int32) M1 h
theorem k_L_publishes {G : Gl} {L : Nat} {xs : Nat → Int32} (hX : G.2.2.2.2.1 = L ∧ G.2.2.2.2.2 = xs) {l1 : Int32} {l2 : Nat} {l3 : Int32} {l4 : Int32} {M MF : Mem} {r : Int32 ⊕ Nat} (h : f_L_publishes L xs l1 l2 l3 l4 M = some (r, MF)) : CtrP G yL_publishes cL_publishes 16 (some .boolean) 11 213 [.ref SCR, .int l1, .ref l2, .int l3, .int l4] M (cxI r) MF :=
  ctr_of (by decide +kernel) (Nat.le_of_ble_eq_true rfl) (fun ρ => w_L_publishes L xs hX l1 l2 l3 l4 M h)
theorem wd_L_176 : wdT RL 176 yL_publishes cL_publishes 16 (some .boolean) 5 := ⟨gwi 1008 (by decide +kernel) (by decide +kernel), gwi 1009 (by decide +kernel) (by decide +kernel), nw_L, gwi 1010 (by decide +kernel) (by decide +kernel), ⟨by decide +kernel, by decide +kernel, by decide +kernel⟩⟩
theorem ca_L_176 {G : Gl} {B : Bx} {cc : ByteArray} {ret : Option FieldType} {fr lo nL : Nat} {mn : String} {hh : List (Nat × Nat × Nat × Nat)} {pc : Nat} {ls : List (Nat × Value)} {st : List Value} {M M1 : Mem} {L : Nat} {xs : Nat → Int32} (hX : G.2.2.2.2.1 = L ∧ G.2.2.2.2.2 = xs) {l1 : Int32} {l2 : Nat} {l3 : Int32} {l4 : Int32} {x : Int32} (e : f_L_publishes L xs l1 l2 l3 l4 M = some (.inl x, M1)) (hd : decode cc pc = .ok (.invokestatic 176, 3)) (hcat : (st.map fun v => v.category).sum ≤ 8) (hR : 11 + 1 ≤ fr ∧ 8 + (16 + 11) + 213 ≤ lo) (k : V G (RL, cc, ret, fr, lo, nL, mn, hh) B (pc + 3) ls (.int x :: st) M1) : V G (RL, cc, ret, fr, lo, nL, mn, hh) B pc ls (.int l4 :: .int l3 :: .ref l2 :: .int l1 :: .ref SCR :: st) M := v_callSi (As := [.ref SCR, .int l1, .ref l2, .int l3, .int l4]) (k_L_publishes hX e) wd_L_176 hd rfl rfl hcat hR k
theorem cx_L_176 {G : Gl} {ρ0 : Nat → Nat} {M0 : Mem} {cc : ByteArray} {ret : Option FieldType} {fr lo nL : Nat} {mn : String} {pc : Nat} {ls : List (Nat × Value)} {st : List Value} {M M1 : Mem} {L : Nat} {xs : Nat → Int32} (hX : G.2.2.2.2.1 = L ∧ G.2.2.2.2.2 = xs) {l1 : Int32} {l2 : Nat} {l3 : Int32} {l4 : Int32} {e9 : Nat} (e : f_L_publishes L xs l1 l2 l3 l4 M = some (.inr e9, M1)) (hd : decode cc pc = .ok (.invokestatic 176, 3)) (hcat : (st.map fun v => v.category).sum ≤ 8) (hR : 11 + 1 ≤ fr ∧ 8 + (16 + 11) + 213 ≤ lo) : V G (RL, cc, ret, fr, lo, nL, mn, []) (ρ0, M0, Sum.inr e9, M1) pc ls (.int l4 :: .int l3 :: .ref l2 :: .int l1 :: .ref SCR :: st) M := v_callSx (As := [.ref SCR, .int l1, .ref l2, .int l3, .int l4]) (k_L_publishes hX e) wd_L_176 hd rfl rfl hcat hR
set_option maxHeartbeats 4000000 in
set_option maxRecDepth 100000 in
theorem w_L_step_J358 {G : Gl} {ρ0 : Nat → Nat} {M0 MF : Mem} {r : Int32 ⊕ Nat} (L : Nat) (xs : Nat → Int32) (hX : G.2.2.2.2.1 = L ∧ G.2.2.2.2.2 = xs) (s0 : Int32) (s1 : Int32) (M : Mem) (h : f_L_step_J358 L xs s0 s1 M = some (r, MF)) : V G (RL, cL_step, (some .boolean), 12, 248, 6, "step", []) (ρ0, M0, cxI r, MF) 358 [] [.int s0, .int s1] M := by
  unfold f_L_step_J358 at h
  refine v_icmp_lt (tgt := 365) dL_step_358 (by decide) (fun c1 => ?_) (fun c1 => ?_)
  · replace h := ifP c1 h
    refine v_iconst (v := 0) dL_step_365 ci_0 ?_
    obtain ⟨hz, rfl, rfl⟩ := okZX_some h
    exact v_zreturn dL_step_366 hz
  · replace h := ifN c1 h
    refine v_iconst (v := 1) dL_step_361 ci_1 ?_
    refine v_goto (tgt := 366) dL_step_362 (by decide) ?_
    obtain ⟨hz, rfl, rfl⟩ := okZX_some h
    exact v_zreturn dL_step_366 hz
set_option maxHeartbeats 4000000 in
set_option maxRecDepth 100000 in
theorem w_L_step_J335 {G : Gl} {ρ0 : Nat → Nat} {M0 MF : Mem} {r : Int32 ⊕ Nat} (L : Nat) (xs : Nat → Int32) (hX : G.2.2.2.2.1 = L ∧ G.2.2.2.2.2 = xs) (l1 : Int32) (l4 : Int32) (s0 : Int32) (s1 : Int32) (s2 : Int32) (s3 : Nat) (M : Mem) (h : f_L_step_J335 L xs l1 l4 s0 s1 s2 s3 M = some (r, MF)) : V G (RL, cL_step, (some .boolean), 12, 248, 6, "step", []) (ρ0, M0, cxI r, MF) 335 [(0, .ref SCR), (1, .int l1), (4, .int l4)] [.int s0, .int s1, .int s2, .ref s3] M := by
  unfold f_L_step_J335 at h
  refine v_aload_n dL_step_335 rfl 0 rfl ?_
  refine v_iload_n dL_step_336 rfl 1 rfl ?_
  refine v_iconst (v := 5) dL_step_337 ci_5 ?_
  refine v_iadd dL_step_338 ?_
  refine v_bipush (v := 20) dL_step_339 cb_20 ?_
  obtain ⟨v2, M1, e, h⟩ := bindP_some h
  refine ca_L_137 hX e dL_step_341 (Nat.le_of_ble_eq_true rfl) (by decide) ?_
  obtain ⟨v4, M3, e, h⟩ := bindP_some h
  refine ca_L_170 e dL_step_344 (Nat.le_of_ble_eq_true rfl) (by decide) ?_
  refine v_iload dL_step_347 2 rfl ?_
  refine v_if_eq (tgt := 356) dL_step_349 (by decide) (fun c5 => ?_) (fun c5 => ?_)
  · replace h := ifP c5 h
    refine v_bipush (v := (-3)) dL_step_356 cb_m3 ?_
    refine v_sub [] rfl ?_
    exact w_L_step_J358 L xs hX (-3 : Int32) v4 M3 h
  · replace h := ifN c5 h
    refine v_iconst (v := 0) dL_step_352 ci_0 ?_
    refine v_goto (tgt := 358) dL_step_353 (by decide) ?_
    refine v_sub [] rfl ?_
    exact w_L_step_J358 L xs hX (0 : Int32) v4 M3 h
set_option maxHeartbeats 4000000 in
set_option maxRecDepth 100000 in
theorem w_L_step_J239 {G : Gl} {ρ0 : Nat → Nat} {M0 MF : Mem} {r : Int32 ⊕ Nat} (L : Nat) (xs : Nat → Int32) (hX : G.2.2.2.2.1 = L ∧ G.2.2.2.2.2 = xs) (s0 : Int32) (s1 : Int32) (M : Mem) (h : f_L_step_J239 L xs s0 s1 M = some (r, MF)) : V G (RL, cL_step, (some .boolean), 12, 248, 6, "step", []) (ρ0, M0, cxI r, MF) 239 [] [.int s0, .int s1] M := by
  unfold f_L_step_J239 at h
  refine v_icmp_ne (tgt := 246) dL_step_239 (by decide) (fun c1 => ?_) (fun c1 => ?_)
  · replace h := ifN c1 h
    refine v_iconst (v := 0) dL_step_246 ci_0 ?_
    obtain ⟨hz, rfl, rfl⟩ := okZX_some h
    exact v_zreturn dL_step_247 hz
  · replace h := ifP c1 h
    refine v_iconst (v := 1) dL_step_242 ci_1 ?_
    refine v_goto (tgt := 247) dL_step_243 (by decide) ?_
    obtain ⟨hz, rfl, rfl⟩ := okZX_some h
    exact v_zreturn dL_step_247 hz
set_option maxHeartbeats 4000000 in
set_option maxRecDepth 100000 in
theorem w_L_step_J229 {G : Gl} {ρ0 : Nat → Nat} {M0 MF : Mem} {r : Int32 ⊕ Nat} (L : Nat) (xs : Nat → Int32) (hX : G.2.2.2.2.1 = L ∧ G.2.2.2.2.2 = xs) (l4 : Int32) (s0 : Int32) (M : Mem) (h : f_L_step_J229 L xs l4 s0 M = some (r, MF)) : V G (RL, cL_step, (some .boolean), 12, 248, 6, "step", []) (ρ0, M0, cxI r, MF) 229 [(4, .int l4)] [.int s0] M := by
  unfold f_L_step_J229 at h
  refine v_iload dL_step_229 0 rfl ?_
  refine v_if_ne (tgt := 238) dL_step_231 (by decide) (fun c1 => ?_) (fun c1 => ?_)
  · replace h := ifN c1 h
    refine v_iconst (v := 0) dL_step_238 ci_0 ?_
    refine v_sub [] rfl ?_
    exact w_L_step_J239 L xs hX (0 : Int32) s0 M h
  · replace h := ifP c1 h
    refine v_iconst (v := 1) dL_step_234 ci_1 ?_
    refine v_goto (tgt := 239) dL_step_235 (by decide) ?_
    refine v_sub [] rfl ?_
    exact w_L_step_J239 L xs hX (1 : Int32) s0 M h
set_option maxHeartbeats 4000000 in
set_option maxRecDepth 100000 in
theorem w_L_step_J205 {G : Gl} {ρ0 : Nat → Nat} {M0 MF : Mem} {r : Int32 ⊕ Nat} (L : Nat) (xs : Nat → Int32) (hX : G.2.2.2.2.1 = L ∧ G.2.2.2.2.2 = xs) (s0 : Int32) (s1 : Int32) (M : Mem) (h : f_L_step_J205 L xs s0 s1 M = some (r, MF)) : V G (RL, cL_step, (some .boolean), 12, 248, 6, "step", []) (ρ0, M0, cxI r, MF) 205 [] [.int s0, .int s1] M := by
  unfold f_L_step_J205 at h
  refine v_icmp_lt (tgt := 212) dL_step_205 (by decide) (fun c1 => ?_) (fun c1 => ?_)
  · replace h := ifP c1 h
    refine v_iconst (v := 0) dL_step_212 ci_0 ?_
    obtain ⟨hz, rfl, rfl⟩ := okZX_some h
    exact v_zreturn dL_step_213 hz
  · replace h := ifN c1 h
    refine v_iconst (v := 1) dL_step_208 ci_1 ?_
    refine v_goto (tgt := 213) dL_step_209 (by decide) ?_
    obtain ⟨hz, rfl, rfl⟩ := okZX_some h
    exact v_zreturn dL_step_213 hz
set_option maxHeartbeats 4000000 in
set_option maxRecDepth 100000 in
theorem w_L_step_J118 {G : Gl} {ρ0 : Nat → Nat} {M0 MF : Mem} {r : Int32 ⊕ Nat} (L : Nat) (xs : Nat → Int32) (hX : G.2.2.2.2.1 = L ∧ G.2.2.2.2.2 = xs) (s0 : Int32) (s1 : Int32) (s2 : Nat) (M : Mem) (h : f_L_step_J118 L xs s0 s1 s2 M = some (r, MF)) : V G (RL, cL_step, (some .boolean), 12, 248, 6, "step", []) (ρ0, M0, cxI r, MF) 118 [] [.int s0, .int s1, .ref s2] M := by
  unfold f_L_step_J118 at h
  rcases bindX_some h with ⟨v2, M1, e, h⟩ | ⟨e9, e, rfl⟩
  rotate_left
  · exact cx_L_144 e dL_step_118 (Nat.le_of_ble_eq_true rfl) (by decide)
  refine ca_L_144 e dL_step_118 (Nat.le_of_ble_eq_true rfl) (by decide) ?_
  obtain ⟨hz, rfl, rfl⟩ := okZX_some h
  exact v_zreturn dL_step_121 hz
set_option maxHeartbeats 4000000 in
set_option maxRecDepth 100000 in
theorem w_L_step_J23 {G : Gl} {ρ0 : Nat → Nat} {M0 MF : Mem} {r : Int32 ⊕ Nat} (L : Nat) (xs : Nat → Int32) (hX : G.2.2.2.2.1 = L ∧ G.2.2.2.2.2 = xs) (l1 : Int32) (l2 : Nat) (l3 : Int32) (s0 : Int32) (M : Mem) (h : f_L_step_J23 L xs l1 l2 l3 s0 M = some (r, MF)) : V G (RL, cL_step, (some .boolean), 12, 248, 6, "step", []) (ρ0, M0, cxI r, MF) 23 [(0, .ref SCR), (1, .int l1), (2, .ref l2), (3, .int l3)] [.int s0] M := by
  unfold f_L_step_J23 at h
  refine v_istore (ls' := [(4, .int s0), (0, .ref SCR), (1, .int l1), (2, .ref l2), (3, .int l3)]) dL_step_23 (by decide) rfl ?_
  refine v_aload_n dL_step_25 rfl 1 rfl ?_
  refine v_iload_n dL_step_26 rfl 2 rfl ?_
  refine v_iconst (v := 2) dL_step_27 ci_2 ?_
  refine v_iadd dL_step_28 ?_
  refine v_iconst (v := 3) dL_step_29 ci_3 ?_
  obtain ⟨v2, M1, e, h⟩ := bindP_some h
  refine ca_L_137 hX e dL_step_30 (Nat.le_of_ble_eq_true rfl) (by decide) ?_
  refine v_istore (ls' := [(5, .int v2), (4, .int s0), (0, .ref SCR), (1, .int l1), (2, .ref l2), (3, .int l3)]) dL_step_33 (by decide) rfl ?_
  refine v_aload_n dL_step_35 rfl 2 rfl ?_
  refine v_iload_n dL_step_36 rfl 3 rfl ?_
  refine v_bipush (v := 14) dL_step_37 cb_14 ?_
  obtain ⟨v4, M3, e, h⟩ := bindP_some h
  refine ca_L_137 hX e dL_step_39 (Nat.le_of_ble_eq_true rfl) (by decide) ?_
  rcases Decidable.em (v4 = 0) with c16_0 | c16_0
  · replace h := ifP c16_0 h
    refine v_tsw (tgt := 100) dL_step_42 c16_0 (by decide) (by decide) rfl (by decide) ?_
    refine v_aload_n dL_step_100 rfl 4 rfl ?_
    refine v_iload_n dL_step_101 rfl 5 rfl ?_
    refine v_aload_n dL_step_102 rfl 2 rfl ?_
    refine v_iload_n dL_step_103 rfl 3 rfl ?_
    refine v_iconst (v := 2) dL_step_104 ci_2 ?_
    refine v_iadd dL_step_105 ?_
    refine v_iconst (v := 2) dL_step_106 ci_2 ?_
    obtain ⟨v6, M5, e, h⟩ := bindP_some h
    refine ca_L_137 hX e dL_step_107 (Nat.le_of_ble_eq_true rfl) (by decide) ?_
    refine v_if_ne (tgt := 117) dL_step_110 (by decide) (fun c7 => ?_) (fun c7 => ?_)
    · replace h := ifN c7 h
      refine v_iconst (v := 0) dL_step_117 ci_0 ?_
      refine v_sub [] rfl ?_
      exact w_L_step_J118 L xs hX (0 : Int32) l3 l2 M5 h
    · replace h := ifP c7 h
      refine v_iconst (v := 1) dL_step_113 ci_1 ?_
      refine v_goto (tgt := 118) dL_step_114 (by decide) ?_
      refine v_sub [] rfl ?_
      exact w_L_step_J118 L xs hX (1 : Int32) l3 l2 M5 h
  replace h := ifN c16_0 h
  rcases Decidable.em (v4 = 1) with c16_1 | c16_1
  · replace h := ifP c16_1 h
    refine v_tsw (tgt := 100) dL_step_42 c16_1 (by decide) (by decide) rfl (by decide) ?_
    refine v_aload_n dL_step_100 rfl 4 rfl ?_
    refine v_iload_n dL_step_101 rfl 5 rfl ?_
    refine v_aload_n dL_step_102 rfl 2 rfl ?_
    refine v_iload_n dL_step_103 rfl 3 rfl ?_
    refine v_iconst (v := 2) dL_step_104 ci_2 ?_
    refine v_iadd dL_step_105 ?_
    refine v_iconst (v := 2) dL_step_106 ci_2 ?_
    obtain ⟨v6, M5, e, h⟩ := bindP_some h
    refine ca_L_137 hX e dL_step_107 (Nat.le_of_ble_eq_true rfl) (by decide) ?_
    refine v_if_ne (tgt := 117) dL_step_110 (by decide) (fun c7 => ?_) (fun c7 => ?_)
    · replace h := ifN c7 h
      refine v_iconst (v := 0) dL_step_117 ci_0 ?_
      refine v_sub [] rfl ?_
      exact w_L_step_J118 L xs hX (0 : Int32) l3 l2 M5 h
    · replace h := ifP c7 h
      refine v_iconst (v := 1) dL_step_113 ci_1 ?_
      refine v_goto (tgt := 118) dL_step_114 (by decide) ?_
      refine v_sub [] rfl ?_
      exact w_L_step_J118 L xs hX (1 : Int32) l3 l2 M5 h
  replace h := ifN c16_1 h
  rcases Decidable.em (v4 = 2) with c16_2 | c16_2
  · replace h := ifP c16_2 h
    refine v_tsw (tgt := 122) dL_step_42 c16_2 (by decide) (by decide) rfl (by decide) ?_
    refine v_aload_n dL_step_122 rfl 4 rfl ?_
    refine gs_L_148 dL_step_123 ?_
    refine v_aload_n dL_step_126 rfl 2 rfl ?_
    refine v_iload_n dL_step_127 rfl 3 rfl ?_
    refine v_iconst (v := 3) dL_step_128 ci_3 ?_
    refine v_iadd dL_step_129 ?_
    refine v_bipush (v := 16) dL_step_130 cb_16 ?_
    obtain ⟨v6, M5, e, h⟩ := bindP_some h
    refine ca_L_137 hX e dL_step_132 (Nat.le_of_ble_eq_true rfl) (by decide) ?_
    obtain ⟨v7, e, h⟩ := bind_some h
    refine v_sald (w := 0) (by decide) dL_step_135 e ?_
    refine v_iload_n dL_step_136 rfl 5 rfl ?_
    refine v_iload dL_step_137 0 rfl ?_
    refine v_aload_n dL_step_139 rfl 2 rfl ?_
    refine v_iload_n dL_step_140 rfl 3 rfl ?_
    refine v_iconst (v := 4) dL_step_141 ci_4 ?_
    refine v_iadd dL_step_142 ?_
    refine v_iconst (v := 3) dL_step_143 ci_3 ?_
    obtain ⟨v9, M8, e, h⟩ := bindP_some h
    refine ca_L_137 hX e dL_step_144 (Nat.le_of_ble_eq_true rfl) (by decide) ?_
    refine v_aload_n dL_step_147 rfl 2 rfl ?_
    refine v_iload_n dL_step_148 rfl 3 rfl ?_
    refine v_iconst (v := 5) dL_step_149 ci_5 ?_
    refine v_iadd dL_step_150 ?_
    refine v_iconst (v := 4) dL_step_151 ci_4 ?_
    obtain ⟨v11, M10, e, h⟩ := bindP_some h
    refine ca_L_137 hX e dL_step_152 (Nat.le_of_ble_eq_true rfl) (by decide) ?_
    refine v_iconst (v := 2) dL_step_155 ci_2 ?_
    refine v_imul dL_step_156 ?_
    rcases bindX_some h with ⟨v13, M12, e, h⟩ | ⟨e9, e, rfl⟩
    rotate_left
    · exact cx_L_152 e dL_step_157 (Nat.le_of_ble_eq_true rfl) (by decide)
    refine ca_L_152 e dL_step_157 (Nat.le_of_ble_eq_true rfl) (by decide) ?_
    obtain ⟨hz, rfl, rfl⟩ := okZX_some h
    exact v_zreturn dL_step_160 hz
  replace h := ifN c16_2 h
  rcases Decidable.em (v4 = 3) with c16_3 | c16_3
  · replace h := ifP c16_3 h
    refine v_tsw (tgt := 122) dL_step_42 c16_3 (by decide) (by decide) rfl (by decide) ?_
    refine v_aload_n dL_step_122 rfl 4 rfl ?_
    refine gs_L_148 dL_step_123 ?_
    refine v_aload_n dL_step_126 rfl 2 rfl ?_
    refine v_iload_n dL_step_127 rfl 3 rfl ?_
    refine v_iconst (v := 3) dL_step_128 ci_3 ?_
    refine v_iadd dL_step_129 ?_
    refine v_bipush (v := 16) dL_step_130 cb_16 ?_
    obtain ⟨v6, M5, e, h⟩ := bindP_some h
    refine ca_L_137 hX e dL_step_132 (Nat.le_of_ble_eq_true rfl) (by decide) ?_
    obtain ⟨v7, e, h⟩ := bind_some h
    refine v_sald (w := 0) (by decide) dL_step_135 e ?_
    refine v_iload_n dL_step_136 rfl 5 rfl ?_
    refine v_iload dL_step_137 0 rfl ?_
    refine v_aload_n dL_step_139 rfl 2 rfl ?_
    refine v_iload_n dL_step_140 rfl 3 rfl ?_
    refine v_iconst (v := 4) dL_step_141 ci_4 ?_
    refine v_iadd dL_step_142 ?_
    refine v_iconst (v := 3) dL_step_143 ci_3 ?_
    obtain ⟨v9, M8, e, h⟩ := bindP_some h
    refine ca_L_137 hX e dL_step_144 (Nat.le_of_ble_eq_true rfl) (by decide) ?_
    refine v_aload_n dL_step_147 rfl 2 rfl ?_
    refine v_iload_n dL_step_148 rfl 3 rfl ?_
    refine v_iconst (v := 5) dL_step_149 ci_5 ?_
    refine v_iadd dL_step_150 ?_
    refine v_iconst (v := 4) dL_step_151 ci_4 ?_
    obtain ⟨v11, M10, e, h⟩ := bindP_some h
    refine ca_L_137 hX e dL_step_152 (Nat.le_of_ble_eq_true rfl) (by decide) ?_
    refine v_iconst (v := 2) dL_step_155 ci_2 ?_
    refine v_imul dL_step_156 ?_
    rcases bindX_some h with ⟨v13, M12, e, h⟩ | ⟨e9, e, rfl⟩
    rotate_left
    · exact cx_L_152 e dL_step_157 (Nat.le_of_ble_eq_true rfl) (by decide)
    refine ca_L_152 e dL_step_157 (Nat.le_of_ble_eq_true rfl) (by decide) ?_
    obtain ⟨hz, rfl, rfl⟩ := okZX_some h
    exact v_zreturn dL_step_160 hz
  replace h := ifN c16_3 h
  rcases Decidable.em (v4 = 4) with c16_4 | c16_4
  · replace h := ifP c16_4 h
    refine v_tsw (tgt := 122) dL_step_42 c16_4 (by decide) (by decide) rfl (by decide) ?_
    refine v_aload_n dL_step_122 rfl 4 rfl ?_
    refine gs_L_148 dL_step_123 ?_
    refine v_aload_n dL_step_126 rfl 2 rfl ?_
    refine v_iload_n dL_step_127 rfl 3 rfl ?_
    refine v_iconst (v := 3) dL_step_128 ci_3 ?_
    refine v_iadd dL_step_129 ?_
    refine v_bipush (v := 16) dL_step_130 cb_16 ?_
    obtain ⟨v6, M5, e, h⟩ := bindP_some h
    refine ca_L_137 hX e dL_step_132 (Nat.le_of_ble_eq_true rfl) (by decide) ?_
    obtain ⟨v7, e, h⟩ := bind_some h
    refine v_sald (w := 0) (by decide) dL_step_135 e ?_
    refine v_iload_n dL_step_136 rfl 5 rfl ?_
    refine v_iload dL_step_137 0 rfl ?_
    refine v_aload_n dL_step_139 rfl 2 rfl ?_
    refine v_iload_n dL_step_140 rfl 3 rfl ?_
    refine v_iconst (v := 4) dL_step_141 ci_4 ?_
    refine v_iadd dL_step_142 ?_
    refine v_iconst (v := 3) dL_step_143 ci_3 ?_
    obtain ⟨v9, M8, e, h⟩ := bindP_some h
    refine ca_L_137 hX e dL_step_144 (Nat.le_of_ble_eq_true rfl) (by decide) ?_
    refine v_aload_n dL_step_147 rfl 2 rfl ?_
    refine v_iload_n dL_step_148 rfl 3 rfl ?_
    refine v_iconst (v := 5) dL_step_149 ci_5 ?_
    refine v_iadd dL_step_150 ?_
    refine v_iconst (v := 4) dL_step_151 ci_4 ?_
    obtain ⟨v11, M10, e, h⟩ := bindP_some h
    refine ca_L_137 hX e dL_step_152 (Nat.le_of_ble_eq_true rfl) (by decide) ?_
    refine v_iconst (v := 2) dL_step_155 ci_2 ?_
    refine v_imul dL_step_156 ?_
    rcases bindX_some h with ⟨v13, M12, e, h⟩ | ⟨e9, e, rfl⟩
    rotate_left
    · exact cx_L_152 e dL_step_157 (Nat.le_of_ble_eq_true rfl) (by decide)
    refine ca_L_152 e dL_step_157 (Nat.le_of_ble_eq_true rfl) (by decide) ?_
    obtain ⟨hz, rfl, rfl⟩ := okZX_some h
    exact v_zreturn dL_step_160 hz
  replace h := ifN c16_4 h
  rcases Decidable.em (v4 = 5) with c16_5 | c16_5
  · replace h := ifP c16_5 h
    refine v_tsw (tgt := 161) dL_step_42 c16_5 (by decide) (by decide) rfl (by decide) ?_
    refine v_aload_n dL_step_161 rfl 4 rfl ?_
    refine gs_L_148 dL_step_162 ?_
    refine v_aload_n dL_step_165 rfl 2 rfl ?_
    refine v_iload_n dL_step_166 rfl 3 rfl ?_
    refine v_iconst (v := 3) dL_step_167 ci_3 ?_
    refine v_iadd dL_step_168 ?_
    refine v_bipush (v := 16) dL_step_169 cb_16 ?_
    obtain ⟨v6, M5, e, h⟩ := bindP_some h
    refine ca_L_137 hX e dL_step_171 (Nat.le_of_ble_eq_true rfl) (by decide) ?_
    obtain ⟨v7, e, h⟩ := bind_some h
    refine v_sald (w := 0) (by decide) dL_step_174 e ?_
    obtain ⟨v9, M8, e, h⟩ := bindP_some h
    refine ca_L_66 e dL_step_175 (Nat.le_of_ble_eq_true rfl) (by decide) ?_
    refine v_if_eq (tgt := 212) dL_step_178 (by decide) (fun c15 => ?_) (fun c15 => ?_)
    · replace h := ifP c15 h
      refine v_iconst (v := 0) dL_step_212 ci_0 ?_
      obtain ⟨hz, rfl, rfl⟩ := okZX_some h
      exact v_zreturn dL_step_213 hz
    · replace h := ifN c15 h
      refine v_aload_n dL_step_181 rfl 4 rfl ?_
      refine v_iload_n dL_step_182 rfl 5 rfl ?_
      refine v_aload_n dL_step_183 rfl 2 rfl ?_
      refine v_iload_n dL_step_184 rfl 3 rfl ?_
      refine v_iconst (v := 4) dL_step_185 ci_4 ?_
      refine v_iadd dL_step_186 ?_
      refine v_iconst (v := 3) dL_step_187 ci_3 ?_
      obtain ⟨v11, M10, e, h⟩ := bindP_some h
      refine ca_L_137 hX e dL_step_188 (Nat.le_of_ble_eq_true rfl) (by decide) ?_
      obtain ⟨v13, M12, e, h⟩ := bindP_some h
      refine ca_L_156 e dL_step_191 (Nat.le_of_ble_eq_true rfl) (by decide) ?_
      refine v_iload dL_step_194 1 rfl ?_
      refine v_if_eq (tgt := 203) dL_step_196 (by decide) (fun c14 => ?_) (fun c14 => ?_)
      · replace h := ifP c14 h
        refine v_bipush (v := (-3)) dL_step_203 cb_m3 ?_
        refine v_sub [] rfl ?_
        exact w_L_step_J205 L xs hX (-3 : Int32) v13 M12 h
      · replace h := ifN c14 h
        refine v_iconst (v := 0) dL_step_199 ci_0 ?_
        refine v_goto (tgt := 205) dL_step_200 (by decide) ?_
        refine v_sub [] rfl ?_
        exact w_L_step_J205 L xs hX (0 : Int32) v13 M12 h
  replace h := ifN c16_5 h
  rcases Decidable.em (v4 = 6) with c16_6 | c16_6
  · replace h := ifP c16_6 h
    refine v_tsw (tgt := 214) dL_step_42 c16_6 (by decide) (by decide) rfl (by decide) ?_
    refine v_aload_n dL_step_214 rfl 4 rfl ?_
    refine v_iload_n dL_step_215 rfl 5 rfl ?_
    obtain ⟨v6, M5, e, h⟩ := bindP_some h
    refine ca_L_159 e dL_step_216 (Nat.le_of_ble_eq_true rfl) (by decide) ?_
    refine v_bipush (v := (-2)) dL_step_219 cb_m2 ?_
    refine v_icmp_ne (tgt := 228) dL_step_221 (by decide) (fun c7 => ?_) (fun c7 => ?_)
    · replace h := ifN c7 h
      refine v_iconst (v := 0) dL_step_228 ci_0 ?_
      refine v_sub [1] rfl ?_
      exact w_L_step_J229 L xs hX s0 (0 : Int32) M5 h
    · replace h := ifP c7 h
      refine v_iconst (v := 1) dL_step_224 ci_1 ?_
      refine v_goto (tgt := 229) dL_step_225 (by decide) ?_
      refine v_sub [1] rfl ?_
      exact w_L_step_J229 L xs hX s0 (1 : Int32) M5 h
  replace h := ifN c16_6 h
  rcases Decidable.em (v4 = 7) with c16_7 | c16_7
  · replace h := ifP c16_7 h
    refine v_tsw (tgt := 248) dL_step_42 c16_7 (by decide) (by decide) rfl (by decide) ?_
    refine v_aload_n dL_step_248 rfl 4 rfl ?_
    refine v_aload_n dL_step_249 rfl 2 rfl ?_
    refine v_iload_n dL_step_250 rfl 3 rfl ?_
    refine v_iconst (v := 2) dL_step_251 ci_2 ?_
    refine v_iadd dL_step_252 ?_
    refine v_iconst (v := 4) dL_step_253 ci_4 ?_
    obtain ⟨v6, M5, e, h⟩ := bindP_some h
    refine ca_L_137 hX e dL_step_254 (Nat.le_of_ble_eq_true rfl) (by decide) ?_
    refine v_aload_n dL_step_257 rfl 2 rfl ?_
    refine v_iload_n dL_step_258 rfl 3 rfl ?_
    refine v_iconst (v := 3) dL_step_259 ci_3 ?_
    refine v_iadd dL_step_260 ?_
    refine v_iconst (v := 2) dL_step_261 ci_2 ?_
    obtain ⟨v8, M7, e, h⟩ := bindP_some h
    refine ca_L_137 hX e dL_step_262 (Nat.le_of_ble_eq_true rfl) (by decide) ?_
    refine v_aload_n dL_step_265 rfl 2 rfl ?_
    refine v_iload_n dL_step_266 rfl 3 rfl ?_
    refine v_iconst (v := 4) dL_step_267 ci_4 ?_
    refine v_iadd dL_step_268 ?_
    refine v_iconst (v := 3) dL_step_269 ci_3 ?_
    obtain ⟨v10, M9, e, h⟩ := bindP_some h
    refine ca_L_137 hX e dL_step_270 (Nat.le_of_ble_eq_true rfl) (by decide) ?_
    refine v_iadd dL_step_273 ?_
    obtain ⟨v12, M11, e, h⟩ := bindP_some h
    refine ca_L_162 e dL_step_274 (Nat.le_of_ble_eq_true rfl) (by decide) ?_
    refine v_iconst (v := (-1)) dL_step_277 ci_m1 ?_
    refine v_icmp_eq (tgt := 285) dL_step_278 (by decide) (fun c13 => ?_) (fun c13 => ?_)
    · replace h := ifP c13 h
      refine v_iconst (v := 0) dL_step_285 ci_0 ?_
      obtain ⟨hz, rfl, rfl⟩ := okZX_some h
      exact v_zreturn dL_step_286 hz
    · replace h := ifN c13 h
      refine v_iconst (v := 1) dL_step_281 ci_1 ?_
      refine v_goto (tgt := 286) dL_step_282 (by decide) ?_
      obtain ⟨hz, rfl, rfl⟩ := okZX_some h
      exact v_zreturn dL_step_286 hz
  replace h := ifN c16_7 h
  rcases Decidable.em (v4 = 8) with c16_8 | c16_8
  · replace h := ifP c16_8 h
    refine v_tsw (tgt := 287) dL_step_42 c16_8 (by decide) (by decide) rfl (by decide) ?_
    refine v_aload_n dL_step_287 rfl 4 rfl ?_
    refine v_iload_n dL_step_288 rfl 5 rfl ?_
    refine v_iload dL_step_289 1 rfl ?_
    rcases bindX_some h with ⟨v6, M5, e, h⟩ | ⟨e9, e, rfl⟩
    rotate_left
    · exact cx_L_164 e dL_step_291 (Nat.le_of_ble_eq_true rfl) (by decide)
    refine ca_L_164 e dL_step_291 (Nat.le_of_ble_eq_true rfl) (by decide) ?_
    obtain ⟨hz, rfl, rfl⟩ := okZX_some h
    exact v_zreturn dL_step_294 hz
  replace h := ifN c16_8 h
  rcases Decidable.em (v4 = 9) with c16_9 | c16_9
  · replace h := ifP c16_9 h
    refine v_tsw (tgt := 295) dL_step_42 c16_9 (by decide) (by decide) rfl (by decide) ?_
    refine v_aload_n dL_step_295 rfl 4 rfl ?_
    refine gs_L_167 dL_step_296 ?_
    refine v_aload_n dL_step_299 rfl 2 rfl ?_
    refine v_iload_n dL_step_300 rfl 3 rfl ?_
    refine v_iconst (v := 3) dL_step_301 ci_3 ?_
    refine v_iadd dL_step_302 ?_
    refine v_bipush (v := 16) dL_step_303 cb_16 ?_
    obtain ⟨v6, M5, e, h⟩ := bindP_some h
    refine ca_L_137 hX e dL_step_305 (Nat.le_of_ble_eq_true rfl) (by decide) ?_
    obtain ⟨v7, e, h⟩ := bind_some h
    refine v_sald (w := 1) (by decide) dL_step_308 e ?_
    obtain ⟨v9, M8, e, h⟩ := bindP_some h
    refine ca_L_66 e dL_step_309 (Nat.le_of_ble_eq_true rfl) (by decide) ?_
    refine v_if_eq (tgt := 365) dL_step_312 (by decide) (fun c13 => ?_) (fun c13 => ?_)
    · replace h := ifP c13 h
      refine v_iconst (v := 0) dL_step_365 ci_0 ?_
      obtain ⟨hz, rfl, rfl⟩ := okZX_some h
      exact v_zreturn dL_step_366 hz
    · replace h := ifN c13 h
      refine v_aload_n dL_step_315 rfl 4 rfl ?_
      refine v_iload_n dL_step_316 rfl 5 rfl ?_
      refine v_iload dL_step_317 0 rfl ?_
      refine v_aload_n dL_step_319 rfl 2 rfl ?_
      refine v_iload_n dL_step_320 rfl 3 rfl ?_
      refine v_iconst (v := 4) dL_step_321 ci_4 ?_
      refine v_iadd dL_step_322 ?_
      refine v_iconst (v := 2) dL_step_323 ci_2 ?_
      obtain ⟨v11, M10, e, h⟩ := bindP_some h
      refine ca_L_137 hX e dL_step_324 (Nat.le_of_ble_eq_true rfl) (by decide) ?_
      refine v_if_ne (tgt := 334) dL_step_327 (by decide) (fun c12 => ?_) (fun c12 => ?_)
      · replace h := ifN c12 h
        refine v_iconst (v := 0) dL_step_334 ci_0 ?_
        refine v_sub [2, 3, 1] rfl ?_
        exact w_L_step_J335 L xs hX l1 s0 (0 : Int32) v2 l3 l2 M10 h
      · replace h := ifP c12 h
        refine v_iconst (v := 1) dL_step_330 ci_1 ?_
        refine v_goto (tgt := 335) dL_step_331 (by decide) ?_
        refine v_sub [2, 3, 1] rfl ?_
        exact w_L_step_J335 L xs hX l1 s0 (1 : Int32) v2 l3 l2 M10 h
  replace h := ifN c16_9 h
  rcases Decidable.em (v4 = 10) with c16_10 | c16_10
  · replace h := ifP c16_10 h
    refine v_tsw (tgt := 367) dL_step_42 c16_10 (by decide) (by decide) rfl (by decide) ?_
    refine v_aload_n dL_step_367 rfl 4 rfl ?_
    refine v_iconst (v := 1) dL_step_368 ci_1 ?_
    refine v_aload_n dL_step_369 rfl 2 rfl ?_
    refine v_iload_n dL_step_370 rfl 3 rfl ?_
    refine v_iconst (v := 2) dL_step_371 ci_2 ?_
    refine v_iadd dL_step_372 ?_
    refine v_iconst (v := 5) dL_step_373 ci_5 ?_
    obtain ⟨v6, M5, e, h⟩ := bindP_some h
    refine ca_L_137 hX e dL_step_374 (Nat.le_of_ble_eq_true rfl) (by decide) ?_
    refine v_iadd dL_step_377 ?_
    rcases bindX_some h with ⟨v8, M7, e, h⟩ | ⟨e9, e, rfl⟩
    rotate_left
    · exact cx_L_173 e dL_step_378 (Nat.le_of_ble_eq_true rfl) (by decide)
    refine ca_L_173 e dL_step_378 (Nat.le_of_ble_eq_true rfl) (by decide) ?_
    refine v_if_le (tgt := 388) dL_step_381 (by decide) (fun c9 => ?_) (fun c9 => ?_)
    · replace h := ifP c9 h
      refine v_iconst (v := 0) dL_step_388 ci_0 ?_
      obtain ⟨hz, rfl, rfl⟩ := okZX_some h
      exact v_zreturn dL_step_389 hz
    · replace h := ifN c9 h
      refine v_iconst (v := 1) dL_step_384 ci_1 ?_
      refine v_goto (tgt := 389) dL_step_385 (by decide) ?_
      obtain ⟨hz, rfl, rfl⟩ := okZX_some h
      exact v_zreturn dL_step_389 hz
  replace h := ifN c16_10 h
  refine v_tswOut (tgt := 390) dL_step_42 (fun k h1 h2 => by rcases (show k = 0 ∨ k = 1 ∨ k = 2 ∨ k = 3 ∨ k = 4 ∨ k = 5 ∨ k = 6 ∨ k = 7 ∨ k = 8 ∨ k = 9 ∨ k = 10 by omega) with rfl | rfl | rfl | rfl | rfl | rfl | rfl | rfl | rfl | rfl | rfl <;> assumption) (by decide) ?_
  refine v_aload_n dL_step_390 rfl 2 rfl ?_
  refine v_iload_n dL_step_391 rfl 3 rfl ?_
  refine v_aload_n dL_step_392 rfl 4 rfl ?_
  refine v_iload_n dL_step_393 rfl 5 rfl ?_
  refine v_iload dL_step_394 0 rfl ?_
  rcases bindX_some h with ⟨v6, M5, e, h⟩ | ⟨e9, e, rfl⟩
  rotate_left
  · exact cx_L_176 hX e dL_step_396 (Nat.le_of_ble_eq_true rfl) (by decide)
  refine ca_L_176 hX e dL_step_396 (Nat.le_of_ble_eq_true rfl) (by decide) ?_
  obtain ⟨hz, rfl, rfl⟩ := okZX_some h
  exact v_zreturn dL_step_399 hz
set_option maxHeartbeats 4000000 in
set_option maxRecDepth 100000 in
theorem w_L_step {G : Gl} {ρ0 : Nat → Nat} {M0 MF : Mem} {r : Int32 ⊕ Nat} (L : Nat) (xs : Nat → Int32) (hX : G.2.2.2.2.1 = L ∧ G.2.2.2.2.2 = xs) (l1 : Int32) (l2 : Nat) (M : Mem) (h : f_L_step L xs l1 l2 M = some (r, MF)) : V G (RL, cL_step, (some .boolean), 12, 248, 6, "step", []) (ρ0, M0, cxI r, MF) 0 [(0, .ref SCR), (1, .int l1), (2, .ref l2)] [] M := by
  unfold f_L_step at h
  refine v_aload_n dL_step_0 rfl 0 rfl ?_
  refine v_iload_n dL_step_1 rfl 1 rfl ?_
  refine v_iconst (v := 1) dL_step_2 ci_1 ?_
  refine v_iadd dL_step_3 ?_
  refine v_iconst (v := 4) dL_step_4 ci_4 ?_
  obtain ⟨v2, M1, e, h⟩ := bindP_some h
  refine ca_L_137 hX e dL_step_5 (Nat.le_of_ble_eq_true rfl) (by decide) ?_
  refine v_istore_n (ls' := [(3, .int v2), (0, .ref SCR), (1, .int l1), (2, .ref l2)]) dL_step_8 rfl (by decide) rfl ?_
  refine v_aload_n dL_step_9 rfl 3 rfl ?_
  refine v_iload_n dL_step_10 rfl 0 rfl ?_
  rcases bindX_some h with ⟨v4, M3, e, h⟩ | ⟨e9, e, rfl⟩
  rotate_left
  · exact cx_L_141 e dL_step_11 (Nat.le_of_ble_eq_true rfl) (by decide)
  refine ca_L_141 e dL_step_11 (Nat.le_of_ble_eq_true rfl) (by decide) ?_
  refine v_iconst (v := 1) dL_step_14 ci_1 ?_
  refine v_icmp_le (tgt := 22) dL_step_15 (by decide) (fun c5 => ?_) (fun c5 => ?_)
  · replace h := ifP c5 h
    refine v_iconst (v := 0) dL_step_22 ci_0 ?_
    refine v_sub [1, 2, 3, 0] rfl ?_
    exact w_L_step_J23 L xs hX l1 l2 v2 (0 : Int32) M3 h
  · replace h := ifN c5 h
    refine v_iconst (v := 1) dL_step_18 ci_1 ?_
    refine v_goto (tgt := 23) dL_step_19 (by decide) ?_
    refine v_sub [1, 2, 3, 0] rfl ?_
    exact w_L_step_J23 L xs hX l1 l2 v2 (1 : Int32) M3 h
theorem k_L_step {G : Gl} {L : Nat} {xs : Nat → Int32} (hX : G.2.2.2.2.1 = L ∧ G.2.2.2.2.2 = xs) {l1 : Int32} {l2 : Nat} {M MF : Mem} {r : Int32 ⊕ Nat} (h : f_L_step L xs l1 l2 M = some (r, MF)) : CtrP G yL_step cL_step 6 (some .boolean) 12 248 [.ref SCR, .int l1, .ref l2] M (cxI r) MF :=
  ctr_of (by decide +kernel) (Nat.le_of_ble_eq_true rfl) (fun ρ => w_L_step L xs hX l1 l2 M h)
theorem wd_L_123 : wdT RL 123 yL_step cL_step 6 (some .boolean) 3 := ⟨gwi 569 (by decide +kernel) (by decide +kernel), gwi 570 (by decide +kernel) (by decide +kernel), nw_L, gwi 571 (by decide +kernel) (by decide +kernel), ⟨by decide +kernel, by decide +kernel, by decide +kernel⟩⟩
theorem ca_L_123 {G : Gl} {B : Bx} {cc : ByteArray} {ret : Option FieldType} {fr lo nL : Nat} {mn : String} {hh : List (Nat × Nat × Nat × Nat)} {pc : Nat} {ls : List (Nat × Value)} {st : List Value} {M M1 : Mem} {L : Nat} {xs : Nat → Int32} (hX : G.2.2.2.2.1 = L ∧ G.2.2.2.2.2 = xs) {l1 : Int32} {l2 : Nat} {x : Int32} (e : f_L_step L xs l1 l2 M = some (.inl x, M1)) (hd : decode cc pc = .ok (.invokestatic 123, 3)) (hcat : (st.map fun v => v.category).sum ≤ 8) (hR : 12 + 1 ≤ fr ∧ 8 + (6 + 11) + 248 ≤ lo) (k : V G (RL, cc, ret, fr, lo, nL, mn, hh) B (pc + 3) ls (.int x :: st) M1) : V G (RL, cc, ret, fr, lo, nL, mn, hh) B pc ls (.ref l2 :: .int l1 :: .ref SCR :: st) M := v_callSi (As := [.ref SCR, .int l1, .ref l2]) (k_L_step hX e) wd_L_123 hd rfl rfl hcat hR k
theorem cx_L_123 {G : Gl} {ρ0 : Nat → Nat} {M0 : Mem} {cc : ByteArray} {ret : Option FieldType} {fr lo nL : Nat} {mn : String} {pc : Nat} {ls : List (Nat × Value)} {st : List Value} {M M1 : Mem} {L : Nat} {xs : Nat → Int32} (hX : G.2.2.2.2.1 = L ∧ G.2.2.2.2.2 = xs) {l1 : Int32} {l2 : Nat} {e9 : Nat} (e : f_L_step L xs l1 l2 M = some (.inr e9, M1)) (hd : decode cc pc = .ok (.invokestatic 123, 3)) (hcat : (st.map fun v => v.category).sum ≤ 8) (hR : 12 + 1 ≤ fr ∧ 8 + (6 + 11) + 248 ≤ lo) : V G (RL, cc, ret, fr, lo, nL, mn, []) (ρ0, M0, Sum.inr e9, M1) pc ls (.ref l2 :: .int l1 :: .ref SCR :: st) M := v_callSx (As := [.ref SCR, .int l1, .ref l2]) (k_L_step hX e) wd_L_123 hd rfl rfl hcat hR
set_option maxHeartbeats 4000000 in
set_option maxRecDepth 100000 in
theorem w_L_isSound_L324 {G : Gl} {ρ0 : Nat → Nat} {M0 MF : Mem} {r : Int32 ⊕ Nat} : ∀ (n : Nat) (l0 : Nat) (l1 : Int32) (l2 : Int32) (M : Mem), f_L_isSound_L324 n l0 l1 l2 M = some (r, MF) → V G (RL, cL_isSound, (some .boolean), 8, 134, 8, "isSound", []) (ρ0, M0, cxI r, MF) 324 [(0, .ref l0), (1, .int l1), (2, .int l2)] [] M := by
  intro n
  induction n with
  | zero => intro l0 l1 l2 M h; cases h
  | succ n ih =>
    intro l0 l1 l2 M h
    rw [f_L_isSound_L324] at h
    refine v_iload_n dL_isSound_324 rfl 2 rfl ?_
    refine v_aload_n dL_isSound_325 rfl 0 rfl ?_
    obtain ⟨v2, M1, e, h⟩ := bindP_some h
    refine ca_L_203 e dL_isSound_326 (Nat.le_of_ble_eq_true rfl) (by decide) ?_
    refine v_icmp_ge (tgt := 376) dL_isSound_329 (by decide) (fun c12 => ?_) (fun c12 => ?_)
    · replace h := ifP c12 h
      refine v_iload_n dL_isSound_376 rfl 1 rfl ?_
      obtain ⟨hz, rfl, rfl⟩ := okZX_some h
      exact v_zreturn dL_isSound_377 hz
    · replace h := ifN c12 h
      refine v_iload_n dL_isSound_332 rfl 1 rfl ?_
      refine v_aload_n dL_isSound_333 rfl 0 rfl ?_
      refine v_iload_n dL_isSound_334 rfl 2 rfl ?_
      refine v_iconst (v := 1) dL_isSound_335 ci_1 ?_
      rcases bindX_some h with ⟨v4, M3, e, h⟩ | ⟨e9, e, rfl⟩
      rotate_left
      · exact cx_L_212 e dL_isSound_336 (Nat.le_of_ble_eq_true rfl) (by decide)
      refine ca_L_212 e dL_isSound_336 (Nat.le_of_ble_eq_true rfl) (by decide) ?_
      refine v_iconst (v := 1) dL_isSound_339 ci_1 ?_
      refine v_icmp_lt (tgt := 367) dL_isSound_340 (by decide) (fun c11 => ?_) (fun c11 => ?_)
      · replace h := ifP c11 h
        refine v_iconst (v := 0) dL_isSound_367 ci_0 ?_
        refine v_iand dL_isSound_368 ?_
        refine v_istore_n (ls' := [(1, .int (l1 &&& (0 : Int32))), (0, .ref l0), (2, .int l2)]) dL_isSound_369 rfl (by decide) rfl ?_
        refine v_iinc (ls' := [(2, .int (l2 + 1)), (1, .int (l1 &&& (0 : Int32))), (0, .ref l0)]) dL_isSound_370 2 rfl (v := 1) ci_1 (by decide) rfl ?_
        refine v_goto (tgt := 324) dL_isSound_373 (by decide) ?_
        refine v_sub [2, 1, 0] rfl ?_
        exact ih l0 (l1 &&& (0 : Int32)) (l2 + 1) M3 h
      · replace h := ifN c11 h
        refine v_aload_n dL_isSound_343 rfl 0 rfl ?_
        refine v_iload_n dL_isSound_344 rfl 2 rfl ?_
        refine v_iconst (v := 2) dL_isSound_345 ci_2 ?_
        rcases bindX_some h with ⟨v6, M5, e, h⟩ | ⟨e9, e, rfl⟩
        rotate_left
        · exact cx_L_212 e dL_isSound_346 (Nat.le_of_ble_eq_true rfl) (by decide)
        refine ca_L_212 e dL_isSound_346 (Nat.le_of_ble_eq_true rfl) (by decide) ?_
        refine v_iconst (v := 1) dL_isSound_349 ci_1 ?_
        refine v_icmp_lt (tgt := 367) dL_isSound_350 (by decide) (fun c10 => ?_) (fun c10 => ?_)
        · replace h := ifP c10 h
          refine v_iconst (v := 0) dL_isSound_367 ci_0 ?_
          refine v_iand dL_isSound_368 ?_
          refine v_istore_n (ls' := [(1, .int (l1 &&& (0 : Int32))), (0, .ref l0), (2, .int l2)]) dL_isSound_369 rfl (by decide) rfl ?_
          refine v_iinc (ls' := [(2, .int (l2 + 1)), (1, .int (l1 &&& (0 : Int32))), (0, .ref l0)]) dL_isSound_370 2 rfl (v := 1) ci_1 (by decide) rfl ?_
          refine v_goto (tgt := 324) dL_isSound_373 (by decide) ?_
          refine v_sub [2, 1, 0] rfl ?_
          exact ih l0 (l1 &&& (0 : Int32)) (l2 + 1) M5 h
        · replace h := ifN c10 h
          refine v_aload_n dL_isSound_353 rfl 0 rfl ?_
          refine v_iload_n dL_isSound_354 rfl 2 rfl ?_
          refine v_iconst (v := 0) dL_isSound_355 ci_0 ?_
          rcases bindX_some h with ⟨v8, M7, e, h⟩ | ⟨e9, e, rfl⟩
          rotate_left
          · exact cx_L_212 e dL_isSound_356 (Nat.le_of_ble_eq_true rfl) (by decide)
          refine ca_L_212 e dL_isSound_356 (Nat.le_of_ble_eq_true rfl) (by decide) ?_
          refine v_iconst (v := 2) dL_isSound_359 ci_2 ?_
          refine v_icmp_gt (tgt := 367) dL_isSound_360 (by decide) (fun c9 => ?_) (fun c9 => ?_)
          · replace h := ifP c9 h
            refine v_iconst (v := 0) dL_isSound_367 ci_0 ?_
            refine v_iand dL_isSound_368 ?_
            refine v_istore_n (ls' := [(1, .int (l1 &&& (0 : Int32))), (0, .ref l0), (2, .int l2)]) dL_isSound_369 rfl (by decide) rfl ?_
            refine v_iinc (ls' := [(2, .int (l2 + 1)), (1, .int (l1 &&& (0 : Int32))), (0, .ref l0)]) dL_isSound_370 2 rfl (v := 1) ci_1 (by decide) rfl ?_
            refine v_goto (tgt := 324) dL_isSound_373 (by decide) ?_
            refine v_sub [2, 1, 0] rfl ?_
            exact ih l0 (l1 &&& (0 : Int32)) (l2 + 1) M7 h
          · replace h := ifN c9 h
            refine v_iconst (v := 1) dL_isSound_363 ci_1 ?_
            refine v_goto (tgt := 368) dL_isSound_364 (by decide) ?_
            refine v_iand dL_isSound_368 ?_
            refine v_istore_n (ls' := [(1, .int (l1 &&& (1 : Int32))), (0, .ref l0), (2, .int l2)]) dL_isSound_369 rfl (by decide) rfl ?_
            refine v_iinc (ls' := [(2, .int (l2 + 1)), (1, .int (l1 &&& (1 : Int32))), (0, .ref l0)]) dL_isSound_370 2 rfl (v := 1) ci_1 (by decide) rfl ?_
            refine v_goto (tgt := 324) dL_isSound_373 (by decide) ?_
            refine v_sub [2, 1, 0] rfl ?_
            exact ih l0 (l1 &&& (1 : Int32)) (l2 + 1) M7 h
set_option maxHeartbeats 4000000 in
set_option maxRecDepth 100000 in
theorem w_L_isSound_L177 {G : Gl} {ρ0 : Nat → Nat} {M0 MF : Mem} {r : Int32 ⊕ Nat} (k25 : Nat → Int32 → Int32 → Mem → Option ((Int32 ⊕ Nat) × Mem)) (k153 : Nat → Int32 → Int32 → Int32 → Int32 → Mem → Option ((Int32 ⊕ Nat) × Mem)) (h25 : ∀ (l0 : Nat) (l1 : Int32) (l2 : Int32) (M : Mem), k25 l0 l1 l2 M = some (r, MF) → V G (RL, cL_isSound, (some .boolean), 8, 134, 8, "isSound", []) (ρ0, M0, cxI r, MF) 25 [(0, .ref l0), (1, .int l1), (2, .int l2)] [] M) (h153 : ∀ (l0 : Nat) (l1 : Int32) (l2 : Int32) (l4 : Int32) (l5 : Int32) (M : Mem), k153 l0 l1 l2 l4 l5 M = some (r, MF) → V G (RL, cL_isSound, (some .boolean), 8, 134, 8, "isSound", []) (ρ0, M0, cxI r, MF) 153 [(0, .ref l0), (1, .int l1), (2, .int l2), (4, .int l4), (5, .int l5)] [] M) : ∀ (n : Nat) (l0 : Nat) (l1 : Int32) (l2 : Int32) (l4 : Int32) (l5 : Int32) (l6 : Int32) (l7 : Int32) (M : Mem), f_L_isSound_L177 n k25 k153 l0 l1 l2 l4 l5 l6 l7 M = some (r, MF) → V G (RL, cL_isSound, (some .boolean), 8, 134, 8, "isSound", []) (ρ0, M0, cxI r, MF) 177 [(0, .ref l0), (1, .int l1), (2, .int l2), (4, .int l4), (5, .int l5), (6, .int l6), (7, .int l7)] [] M := by
  intro n
  induction n with
  | zero => intro l0 l1 l2 l4 l5 l6 l7 M h; cases h
  | succ n ih =>
    intro l0 l1 l2 l4 l5 l6 l7 M h
    rw [f_L_isSound_L177] at h
    refine v_iload dL_isSound_177 6 rfl ?_
    refine v_iload dL_isSound_179 4 rfl ?_
    refine v_icmp_ge (tgt := 211) dL_isSound_181 (by decide) (fun c17 => ?_) (fun c17 => ?_)
    · replace h := ifP c17 h
      refine v_iload dL_isSound_211 3 rfl ?_
      refine v_iload dL_isSound_213 5 rfl ?_
      refine v_iadd dL_isSound_215 ?_
      refine v_istore (ls' := [(4, .int (l4 + l6)), (0, .ref l0), (1, .int l1), (2, .int l2), (5, .int l5), (6, .int l6), (7, .int l7)]) dL_isSound_216 (by decide) rfl ?_
      refine v_iload_n dL_isSound_218 rfl 2 rfl ?_
      refine v_iload dL_isSound_219 5 rfl ?_
      refine v_iconst (v := 1) dL_isSound_221 ci_1 ?_
      refine v_icmp_lt (tgt := 291) dL_isSound_222 (by decide) (fun c16 => ?_) (fun c16 => ?_)
      · replace h := ifP c16 h
        refine v_iconst (v := 0) dL_isSound_291 ci_0 ?_
        refine v_iand dL_isSound_292 ?_
        refine v_istore_n (ls' := [(1, .int (l1 &&& (0 : Int32))), (4, .int (l4 + l6)), (0, .ref l0), (2, .int l2), (5, .int l5), (6, .int l6), (7, .int l7)]) dL_isSound_293 rfl (by decide) rfl ?_
        refine v_iinc (ls' := [(5, .int (l5 + 1)), (1, .int (l1 &&& (0 : Int32))), (4, .int (l4 + l6)), (0, .ref l0), (2, .int l2), (6, .int l6), (7, .int l7)]) dL_isSound_294 4 rfl (v := 1) ci_1 (by decide) rfl ?_
        refine v_goto (tgt := 153) dL_isSound_297 (by decide) ?_
        refine v_sub [3, 1, 4, 2, 0] rfl ?_
        exact h153 l0 (l1 &&& (0 : Int32)) l2 (l4 + l6) (l5 + 1) M h
      · replace h := ifN c16 h
        refine v_iload dL_isSound_225 5 rfl ?_
        refine v_bipush (v := 50) dL_isSound_227 cb_50 ?_
        refine v_icmp_gt (tgt := 291) dL_isSound_229 (by decide) (fun c15 => ?_) (fun c15 => ?_)
        · replace h := ifP c15 h
          refine v_iconst (v := 0) dL_isSound_291 ci_0 ?_
          refine v_iand dL_isSound_292 ?_
          refine v_istore_n (ls' := [(1, .int (l1 &&& (0 : Int32))), (4, .int (l4 + l6)), (0, .ref l0), (2, .int l2), (5, .int l5), (6, .int l6), (7, .int l7)]) dL_isSound_293 rfl (by decide) rfl ?_
          refine v_iinc (ls' := [(5, .int (l5 + 1)), (1, .int (l1 &&& (0 : Int32))), (4, .int (l4 + l6)), (0, .ref l0), (2, .int l2), (6, .int l6), (7, .int l7)]) dL_isSound_294 4 rfl (v := 1) ci_1 (by decide) rfl ?_
          refine v_goto (tgt := 153) dL_isSound_297 (by decide) ?_
          refine v_sub [3, 1, 4, 2, 0] rfl ?_
          exact h153 l0 (l1 &&& (0 : Int32)) l2 (l4 + l6) (l5 + 1) M h
        · replace h := ifN c15 h
          refine v_aload_n dL_isSound_232 rfl 1 rfl ?_
          refine v_iload_n dL_isSound_233 rfl 3 rfl ?_
          refine v_iload dL_isSound_234 4 rfl ?_
          refine v_iconst (v := 1) dL_isSound_236 ci_1 ?_
          rcases bindX_some h with ⟨v2, M1, e, h⟩ | ⟨e9, e, rfl⟩
          rotate_left
          · exact cx_L_192 e dL_isSound_237 (Nat.le_of_ble_eq_true rfl) (by decide)
          refine ca_L_192 e dL_isSound_237 (Nat.le_of_ble_eq_true rfl) (by decide) ?_
          refine v_iconst (v := 1) dL_isSound_240 ci_1 ?_
          refine v_icmp_lt (tgt := 291) dL_isSound_241 (by decide) (fun c14 => ?_) (fun c14 => ?_)
          · replace h := ifP c14 h
            refine v_iconst (v := 0) dL_isSound_291 ci_0 ?_
            refine v_iand dL_isSound_292 ?_
            refine v_istore_n (ls' := [(1, .int (l1 &&& (0 : Int32))), (4, .int (l4 + l6)), (0, .ref l0), (2, .int l2), (5, .int l5), (6, .int l6), (7, .int l7)]) dL_isSound_293 rfl (by decide) rfl ?_
            refine v_iinc (ls' := [(5, .int (l5 + 1)), (1, .int (l1 &&& (0 : Int32))), (4, .int (l4 + l6)), (0, .ref l0), (2, .int l2), (6, .int l6), (7, .int l7)]) dL_isSound_294 4 rfl (v := 1) ci_1 (by decide) rfl ?_
            refine v_goto (tgt := 153) dL_isSound_297 (by decide) ?_
            refine v_sub [3, 1, 4, 2, 0] rfl ?_
            exact h153 l0 (l1 &&& (0 : Int32)) l2 (l4 + l6) (l5 + 1) M1 h
          · replace h := ifN c14 h
            refine v_aload_n dL_isSound_244 rfl 1 rfl ?_
            refine v_iload_n dL_isSound_245 rfl 3 rfl ?_
            refine v_iload dL_isSound_246 4 rfl ?_
            refine v_iconst (v := 3) dL_isSound_248 ci_3 ?_
            rcases bindX_some h with ⟨v4, M3, e, h⟩ | ⟨e9, e, rfl⟩
            rotate_left
            · exact cx_L_192 e dL_isSound_249 (Nat.le_of_ble_eq_true rfl) (by decide)
            refine ca_L_192 e dL_isSound_249 (Nat.le_of_ble_eq_true rfl) (by decide) ?_
            refine v_aload_n dL_isSound_252 rfl 1 rfl ?_
            refine v_iload_n dL_isSound_253 rfl 3 rfl ?_
            refine v_iload dL_isSound_254 4 rfl ?_
            refine v_iconst (v := 1) dL_isSound_256 ci_1 ?_
            rcases bindX_some h with ⟨v6, M5, e, h⟩ | ⟨e9, e, rfl⟩
            rotate_left
            · exact cx_L_192 e dL_isSound_257 (Nat.le_of_ble_eq_true rfl) (by decide)
            refine ca_L_192 e dL_isSound_257 (Nat.le_of_ble_eq_true rfl) (by decide) ?_
            refine v_icmp_eq (tgt := 287) dL_isSound_260 (by decide) (fun c13 => ?_) (fun c13 => ?_)
            · replace h := ifP c13 h
              refine v_iconst (v := 1) dL_isSound_287 ci_1 ?_
              refine v_goto (tgt := 292) dL_isSound_288 (by decide) ?_
              refine v_iand dL_isSound_292 ?_
              refine v_istore_n (ls' := [(1, .int (l1 &&& (1 : Int32))), (4, .int (l4 + l6)), (0, .ref l0), (2, .int l2), (5, .int l5), (6, .int l6), (7, .int l7)]) dL_isSound_293 rfl (by decide) rfl ?_
              refine v_iinc (ls' := [(5, .int (l5 + 1)), (1, .int (l1 &&& (1 : Int32))), (4, .int (l4 + l6)), (0, .ref l0), (2, .int l2), (6, .int l6), (7, .int l7)]) dL_isSound_294 4 rfl (v := 1) ci_1 (by decide) rfl ?_
              refine v_goto (tgt := 153) dL_isSound_297 (by decide) ?_
              refine v_sub [3, 1, 4, 2, 0] rfl ?_
              exact h153 l0 (l1 &&& (1 : Int32)) l2 (l4 + l6) (l5 + 1) M5 h
            · replace h := ifN c13 h
              refine v_aload_n dL_isSound_263 rfl 1 rfl ?_
              refine v_iload_n dL_isSound_264 rfl 3 rfl ?_
              refine v_iload dL_isSound_265 4 rfl ?_
              refine v_iconst (v := 1) dL_isSound_267 ci_1 ?_
              rcases bindX_some h with ⟨v8, M7, e, h⟩ | ⟨e9, e, rfl⟩
              rotate_left
              · exact cx_L_192 e dL_isSound_268 (Nat.le_of_ble_eq_true rfl) (by decide)
              refine ca_L_192 e dL_isSound_268 (Nat.le_of_ble_eq_true rfl) (by decide) ?_
              refine v_iconst (v := 2) dL_isSound_271 ci_2 ?_
              refine v_icmp_ne (tgt := 291) dL_isSound_272 (by decide) (fun c12 => ?_) (fun c12 => ?_)
              · replace h := ifN c12 h
                refine v_iconst (v := 0) dL_isSound_291 ci_0 ?_
                refine v_iand dL_isSound_292 ?_
                refine v_istore_n (ls' := [(1, .int (l1 &&& (0 : Int32))), (4, .int (l4 + l6)), (0, .ref l0), (2, .int l2), (5, .int l5), (6, .int l6), (7, .int l7)]) dL_isSound_293 rfl (by decide) rfl ?_
                refine v_iinc (ls' := [(5, .int (l5 + 1)), (1, .int (l1 &&& (0 : Int32))), (4, .int (l4 + l6)), (0, .ref l0), (2, .int l2), (6, .int l6), (7, .int l7)]) dL_isSound_294 4 rfl (v := 1) ci_1 (by decide) rfl ?_
                refine v_goto (tgt := 153) dL_isSound_297 (by decide) ?_
                refine v_sub [3, 1, 4, 2, 0] rfl ?_
                exact h153 l0 (l1 &&& (0 : Int32)) l2 (l4 + l6) (l5 + 1) M7 h
              · replace h := ifP c12 h
                refine v_aload_n dL_isSound_275 rfl 1 rfl ?_
                refine v_iload_n dL_isSound_276 rfl 3 rfl ?_
                refine v_iload dL_isSound_277 4 rfl ?_
                refine v_iconst (v := 3) dL_isSound_279 ci_3 ?_
                rcases bindX_some h with ⟨v10, M9, e, h⟩ | ⟨e9, e, rfl⟩
                rotate_left
                · exact cx_L_192 e dL_isSound_280 (Nat.le_of_ble_eq_true rfl) (by decide)
                refine ca_L_192 e dL_isSound_280 (Nat.le_of_ble_eq_true rfl) (by decide) ?_
                refine v_iconst (v := 4) dL_isSound_283 ci_4 ?_
                refine v_icmp_ne (tgt := 291) dL_isSound_284 (by decide) (fun c11 => ?_) (fun c11 => ?_)
                · replace h := ifN c11 h
                  refine v_iconst (v := 0) dL_isSound_291 ci_0 ?_
                  refine v_iand dL_isSound_292 ?_
                  refine v_istore_n (ls' := [(1, .int (l1 &&& (0 : Int32))), (4, .int (l4 + l6)), (0, .ref l0), (2, .int l2), (5, .int l5), (6, .int l6), (7, .int l7)]) dL_isSound_293 rfl (by decide) rfl ?_
                  refine v_iinc (ls' := [(5, .int (l5 + 1)), (1, .int (l1 &&& (0 : Int32))), (4, .int (l4 + l6)), (0, .ref l0), (2, .int l2), (6, .int l6), (7, .int l7)]) dL_isSound_294 4 rfl (v := 1) ci_1 (by decide) rfl ?_
                  refine v_goto (tgt := 153) dL_isSound_297 (by decide) ?_
                  refine v_sub [3, 1, 4, 2, 0] rfl ?_
                  exact h153 l0 (l1 &&& (0 : Int32)) l2 (l4 + l6) (l5 + 1) M9 h
                · replace h := ifP c11 h
                  refine v_iconst (v := 1) dL_isSound_287 ci_1 ?_
                  refine v_goto (tgt := 292) dL_isSound_288 (by decide) ?_
                  refine v_iand dL_isSound_292 ?_
                  refine v_istore_n (ls' := [(1, .int (l1 &&& (1 : Int32))), (4, .int (l4 + l6)), (0, .ref l0), (2, .int l2), (5, .int l5), (6, .int l6), (7, .int l7)]) dL_isSound_293 rfl (by decide) rfl ?_
                  refine v_iinc (ls' := [(5, .int (l5 + 1)), (1, .int (l1 &&& (1 : Int32))), (4, .int (l4 + l6)), (0, .ref l0), (2, .int l2), (6, .int l6), (7, .int l7)]) dL_isSound_294 4 rfl (v := 1) ci_1 (by decide) rfl ?_
                  refine v_goto (tgt := 153) dL_isSound_297 (by decide) ?_
                  refine v_sub [3, 1, 4, 2, 0] rfl ?_
                  exact h153 l0 (l1 &&& (1 : Int32)) l2 (l4 + l6) (l5 + 1) M9 h
    · replace h := ifN c17 h
      refine v_iload_n dL_isSound_184 rfl 1 rfl ?_
      refine v_aload_n dL_isSound_185 rfl 0 rfl ?_
      refine v_iload_n dL_isSound_186 rfl 2 rfl ?_
      refine v_iload dL_isSound_187 6 rfl ?_
      refine v_iconst (v := 0) dL_isSound_189 ci_0 ?_
      rcases bindX_some h with ⟨v2, M1, e, h⟩ | ⟨e9, e, rfl⟩
      rotate_left
      · exact cx_L_192 e dL_isSound_190 (Nat.le_of_ble_eq_true rfl) (by decide)
      refine ca_L_192 e dL_isSound_190 (Nat.le_of_ble_eq_true rfl) (by decide) ?_
      refine v_iload dL_isSound_193 5 rfl ?_
      refine v_icmp_eq (tgt := 202) dL_isSound_195 (by decide) (fun c3 => ?_) (fun c3 => ?_)
      · replace h := ifP c3 h
        refine v_iconst (v := 0) dL_isSound_202 ci_0 ?_
        refine v_iand dL_isSound_203 ?_
        refine v_istore_n (ls' := [(1, .int (l1 &&& (0 : Int32))), (0, .ref l0), (2, .int l2), (4, .int l4), (5, .int l5), (6, .int l6), (7, .int l7)]) dL_isSound_204 rfl (by decide) rfl ?_
        refine v_iinc (ls' := [(7, .int (l7 + 1)), (1, .int (l1 &&& (0 : Int32))), (0, .ref l0), (2, .int l2), (4, .int l4), (5, .int l5), (6, .int l6)]) dL_isSound_205 6 rfl (v := 1) ci_1 (by decide) rfl ?_
        refine v_goto (tgt := 177) dL_isSound_208 (by decide) ?_
        refine v_sub [2, 1, 3, 4, 5, 6, 0] rfl ?_
        exact ih l0 (l1 &&& (0 : Int32)) l2 l4 l5 l6 (l7 + 1) M1 h
      · replace h := ifN c3 h
        refine v_iconst (v := 1) dL_isSound_198 ci_1 ?_
        refine v_goto (tgt := 203) dL_isSound_199 (by decide) ?_
        refine v_iand dL_isSound_203 ?_
        refine v_istore_n (ls' := [(1, .int (l1 &&& (1 : Int32))), (0, .ref l0), (2, .int l2), (4, .int l4), (5, .int l5), (6, .int l6), (7, .int l7)]) dL_isSound_204 rfl (by decide) rfl ?_
        refine v_iinc (ls' := [(7, .int (l7 + 1)), (1, .int (l1 &&& (1 : Int32))), (0, .ref l0), (2, .int l2), (4, .int l4), (5, .int l5), (6, .int l6)]) dL_isSound_205 6 rfl (v := 1) ci_1 (by decide) rfl ?_
        refine v_goto (tgt := 177) dL_isSound_208 (by decide) ?_
        refine v_sub [2, 1, 3, 4, 5, 6, 0] rfl ?_
        exact ih l0 (l1 &&& (1 : Int32)) l2 l4 l5 l6 (l7 + 1) M1 h
set_option maxHeartbeats 4000000 in
set_option maxRecDepth 100000 in
theorem w_L_isSound_L153 {G : Gl} {ρ0 : Nat → Nat} {M0 MF : Mem} {r : Int32 ⊕ Nat} (k25 : Nat → Int32 → Int32 → Mem → Option ((Int32 ⊕ Nat) × Mem)) (h25 : ∀ (l0 : Nat) (l1 : Int32) (l2 : Int32) (M : Mem), k25 l0 l1 l2 M = some (r, MF) → V G (RL, cL_isSound, (some .boolean), 8, 134, 8, "isSound", []) (ρ0, M0, cxI r, MF) 25 [(0, .ref l0), (1, .int l1), (2, .int l2)] [] M) : ∀ (n : Nat) (l0 : Nat) (l1 : Int32) (l2 : Int32) (l4 : Int32) (l5 : Int32) (M : Mem), f_L_isSound_L153 n k25 l0 l1 l2 l4 l5 M = some (r, MF) → V G (RL, cL_isSound, (some .boolean), 8, 134, 8, "isSound", []) (ρ0, M0, cxI r, MF) 153 [(0, .ref l0), (1, .int l1), (2, .int l2), (4, .int l4), (5, .int l5)] [] M := by
  intro n
  induction n with
  | zero => intro l0 l1 l2 l4 l5 M h; cases h
  | succ n ih =>
    intro l0 l1 l2 l4 l5 M h
    rw [f_L_isSound_L153] at h
    refine v_iload dL_isSound_153 4 rfl ?_
    refine v_aload_n dL_isSound_155 rfl 0 rfl ?_
    refine v_iload_n dL_isSound_156 rfl 2 rfl ?_
    refine v_iconst (v := 1) dL_isSound_157 ci_1 ?_
    rcases bindX_some h with ⟨v2, M1, e, h⟩ | ⟨e9, e, rfl⟩
    rotate_left
    · exact cx_L_187 e dL_isSound_158 (Nat.le_of_ble_eq_true rfl) (by decide)
    refine ca_L_187 e dL_isSound_158 (Nat.le_of_ble_eq_true rfl) (by decide) ?_
    refine v_icmp_ge (tgt := 300) dL_isSound_161 (by decide) (fun c5 => ?_) (fun c5 => ?_)
    · replace h := ifP c5 h
      refine v_iload_n dL_isSound_300 rfl 1 rfl ?_
      refine v_iload dL_isSound_301 3 rfl ?_
      refine v_sipush (v := 250) dL_isSound_303 cs_250 ?_
      refine v_icmp_gt (tgt := 313) dL_isSound_306 (by decide) (fun c3 => ?_) (fun c3 => ?_)
      · replace h := ifP c3 h
        refine v_iconst (v := 0) dL_isSound_313 ci_0 ?_
        refine v_iand dL_isSound_314 ?_
        refine v_istore_n (ls' := [(1, .int (l1 &&& (0 : Int32))), (0, .ref l0), (2, .int l2), (4, .int l4), (5, .int l5)]) dL_isSound_315 rfl (by decide) rfl ?_
        refine v_iinc (ls' := [(2, .int (l2 + 1)), (1, .int (l1 &&& (0 : Int32))), (0, .ref l0), (4, .int l4), (5, .int l5)]) dL_isSound_316 2 rfl (v := 1) ci_1 (by decide) rfl ?_
        refine v_goto (tgt := 25) dL_isSound_319 (by decide) ?_
        refine v_sub [2, 1, 0] rfl ?_
        exact h25 l0 (l1 &&& (0 : Int32)) (l2 + 1) M1 h
      · replace h := ifN c3 h
        refine v_iconst (v := 1) dL_isSound_309 ci_1 ?_
        refine v_goto (tgt := 314) dL_isSound_310 (by decide) ?_
        refine v_iand dL_isSound_314 ?_
        refine v_istore_n (ls' := [(1, .int (l1 &&& (1 : Int32))), (0, .ref l0), (2, .int l2), (4, .int l4), (5, .int l5)]) dL_isSound_315 rfl (by decide) rfl ?_
        refine v_iinc (ls' := [(2, .int (l2 + 1)), (1, .int (l1 &&& (1 : Int32))), (0, .ref l0), (4, .int l4), (5, .int l5)]) dL_isSound_316 2 rfl (v := 1) ci_1 (by decide) rfl ?_
        refine v_goto (tgt := 25) dL_isSound_319 (by decide) ?_
        refine v_sub [2, 1, 0] rfl ?_
        exact h25 l0 (l1 &&& (1 : Int32)) (l2 + 1) M1 h
    · replace h := ifN c5 h
      refine v_aload_n dL_isSound_164 rfl 0 rfl ?_
      refine v_iload_n dL_isSound_165 rfl 2 rfl ?_
      refine v_iload dL_isSound_166 4 rfl ?_
      refine v_iconst (v := 0) dL_isSound_168 ci_0 ?_
      rcases bindX_some h with ⟨v4, M3, e, h⟩ | ⟨e9, e, rfl⟩
      rotate_left
      · exact cx_L_192 e dL_isSound_169 (Nat.le_of_ble_eq_true rfl) (by decide)
      refine ca_L_192 e dL_isSound_169 (Nat.le_of_ble_eq_true rfl) (by decide) ?_
      refine v_istore (ls' := [(6, .int v4), (0, .ref l0), (1, .int l1), (2, .int l2), (4, .int l4), (5, .int l5)]) dL_isSound_172 (by decide) rfl ?_
      refine v_iconst (v := 0) dL_isSound_174 ci_0 ?_
      refine v_istore (ls' := [(7, .int (0 : Int32)), (6, .int v4), (0, .ref l0), (1, .int l1), (2, .int l2), (4, .int l4), (5, .int l5)]) dL_isSound_175 (by decide) rfl ?_
      refine v_sub [2, 3, 4, 5, 6, 1, 0] rfl ?_
      exact w_L_isSound_L177 k25 (f_L_isSound_L153 n k25) h25 ih FU l0 l1 l2 l4 l5 v4 (0 : Int32) M3 h
set_option maxHeartbeats 4000000 in
set_option maxRecDepth 100000 in
theorem w_L_isSound_J140 {G : Gl} {ρ0 : Nat → Nat} {M0 MF : Mem} {r : Int32 ⊕ Nat} (k25 : Nat → Int32 → Int32 → Mem → Option ((Int32 ⊕ Nat) × Mem)) (h25 : ∀ (l0 : Nat) (l1 : Int32) (l2 : Int32) (M : Mem), k25 l0 l1 l2 M = some (r, MF) → V G (RL, cL_isSound, (some .boolean), 8, 134, 8, "isSound", []) (ρ0, M0, cxI r, MF) 25 [(0, .ref l0), (1, .int l1), (2, .int l2)] [] M) (l0 : Nat) (l2 : Int32) (s0 : Int32) (M : Mem) (h : f_L_isSound_J140 k25 l0 l2 s0 M = some (r, MF)) : V G (RL, cL_isSound, (some .boolean), 8, 134, 8, "isSound", []) (ρ0, M0, cxI r, MF) 140 [(0, .ref l0), (2, .int l2)] [.int s0] M := by
  unfold f_L_isSound_J140 at h
  refine v_iconst (v := 1) dL_isSound_140 ci_1 ?_
  refine v_goto (tgt := 145) dL_isSound_141 (by decide) ?_
  refine v_iand dL_isSound_145 ?_
  refine v_istore_n (ls' := [(1, .int (s0 &&& (1 : Int32))), (0, .ref l0), (2, .int l2)]) dL_isSound_146 rfl (by decide) rfl ?_
  refine v_iconst (v := 0) dL_isSound_147 ci_0 ?_
  refine v_istore (ls' := [(4, .int (0 : Int32)), (1, .int (s0 &&& (1 : Int32))), (0, .ref l0), (2, .int l2)]) dL_isSound_148 (by decide) rfl ?_
  refine v_iconst (v := 0) dL_isSound_150 ci_0 ?_
  refine v_istore (ls' := [(5, .int (0 : Int32)), (4, .int (0 : Int32)), (1, .int (s0 &&& (1 : Int32))), (0, .ref l0), (2, .int l2)]) dL_isSound_151 (by decide) rfl ?_
  refine v_sub [3, 2, 4, 1, 0] rfl ?_
  exact w_L_isSound_L153 k25 h25 FU l0 (s0 &&& (1 : Int32)) l2 (0 : Int32) (0 : Int32) M h
set_option maxHeartbeats 4000000 in
set_option maxRecDepth 100000 in
theorem w_L_isSound_J103 {G : Gl} {ρ0 : Nat → Nat} {M0 MF : Mem} {r : Int32 ⊕ Nat} (k25 : Nat → Int32 → Int32 → Mem → Option ((Int32 ⊕ Nat) × Mem)) (h25 : ∀ (l0 : Nat) (l1 : Int32) (l2 : Int32) (M : Mem), k25 l0 l1 l2 M = some (r, MF) → V G (RL, cL_isSound, (some .boolean), 8, 134, 8, "isSound", []) (ρ0, M0, cxI r, MF) 25 [(0, .ref l0), (1, .int l1), (2, .int l2)] [] M) (l0 : Nat) (l2 : Int32) (l3 : Int32) (s0 : Int32) (s1 : Int32) (M : Mem) (h : f_L_isSound_J103 k25 l0 l2 l3 s0 s1 M = some (r, MF)) : V G (RL, cL_isSound, (some .boolean), 8, 134, 8, "isSound", []) (ρ0, M0, cxI r, MF) 103 [(0, .ref l0), (2, .int l2), (3, .int l3)] [.int s0, .int s1] M := by
  unfold f_L_isSound_J103 at h
  refine v_iand dL_isSound_103 ?_
  refine v_istore_n (ls' := [(1, .int (s1 &&& s0)), (0, .ref l0), (2, .int l2), (3, .int l3)]) dL_isSound_104 rfl (by decide) rfl ?_
  refine v_iload_n dL_isSound_105 rfl 0 rfl ?_
  refine v_iload_n dL_isSound_106 rfl 3 rfl ?_
  refine v_if_gt (tgt := 140) dL_isSound_107 (by decide) (fun c10 => ?_) (fun c10 => ?_)
  · replace h := ifP c10 h
    refine v_sub [1, 2] rfl ?_
    exact w_L_isSound_J140 k25 h25 l0 l2 (s1 &&& s0) M h
  · replace h := ifN c10 h
    refine v_aload_n dL_isSound_110 rfl 1 rfl ?_
    refine v_iload_n dL_isSound_111 rfl 2 rfl ?_
    refine v_iconst (v := 1) dL_isSound_112 ci_1 ?_
    rcases bindX_some h with ⟨v2, M1, e, h⟩ | ⟨e9, e, rfl⟩
    rotate_left
    · exact cx_L_187 e dL_isSound_113 (Nat.le_of_ble_eq_true rfl) (by decide)
    refine ca_L_187 e dL_isSound_113 (Nat.le_of_ble_eq_true rfl) (by decide) ?_
    refine v_aload_n dL_isSound_116 rfl 1 rfl ?_
    refine v_iload_n dL_isSound_117 rfl 2 rfl ?_
    refine v_iconst (v := 2) dL_isSound_118 ci_2 ?_
    rcases bindX_some h with ⟨v4, M3, e, h⟩ | ⟨e9, e, rfl⟩
    rotate_left
    · exact cx_L_187 e dL_isSound_119 (Nat.le_of_ble_eq_true rfl) (by decide)
    refine ca_L_187 e dL_isSound_119 (Nat.le_of_ble_eq_true rfl) (by decide) ?_
    refine v_iadd dL_isSound_122 ?_
    refine v_aload_n dL_isSound_123 rfl 1 rfl ?_
    refine v_iload_n dL_isSound_124 rfl 2 rfl ?_
    refine v_iconst (v := 3) dL_isSound_125 ci_3 ?_
    rcases bindX_some h with ⟨v6, M5, e, h⟩ | ⟨e9, e, rfl⟩
    rotate_left
    · exact cx_L_187 e dL_isSound_126 (Nat.le_of_ble_eq_true rfl) (by decide)
    refine ca_L_187 e dL_isSound_126 (Nat.le_of_ble_eq_true rfl) (by decide) ?_
    refine v_iadd dL_isSound_129 ?_
    refine v_aload_n dL_isSound_130 rfl 1 rfl ?_
    refine v_iload_n dL_isSound_131 rfl 2 rfl ?_
    refine v_iconst (v := 4) dL_isSound_132 ci_4 ?_
    rcases bindX_some h with ⟨v8, M7, e, h⟩ | ⟨e9, e, rfl⟩
    rotate_left
    · exact cx_L_187 e dL_isSound_133 (Nat.le_of_ble_eq_true rfl) (by decide)
    refine ca_L_187 e dL_isSound_133 (Nat.le_of_ble_eq_true rfl) (by decide) ?_
    refine v_iadd dL_isSound_136 ?_
    refine v_if_ne (tgt := 144) dL_isSound_137 (by decide) (fun c9 => ?_) (fun c9 => ?_)
    · replace h := ifN c9 h
      refine v_iconst (v := 0) dL_isSound_144 ci_0 ?_
      refine v_iand dL_isSound_145 ?_
      refine v_istore_n (ls' := [(1, .int ((s1 &&& s0) &&& (0 : Int32))), (0, .ref l0), (2, .int l2), (3, .int l3)]) dL_isSound_146 rfl (by decide) rfl ?_
      refine v_iconst (v := 0) dL_isSound_147 ci_0 ?_
      refine v_istore (ls' := [(4, .int (0 : Int32)), (1, .int ((s1 &&& s0) &&& (0 : Int32))), (0, .ref l0), (2, .int l2), (3, .int l3)]) dL_isSound_148 (by decide) rfl ?_
      refine v_iconst (v := 0) dL_isSound_150 ci_0 ?_
      refine v_istore (ls' := [(5, .int (0 : Int32)), (4, .int (0 : Int32)), (1, .int ((s1 &&& s0) &&& (0 : Int32))), (0, .ref l0), (2, .int l2), (3, .int l3)]) dL_isSound_151 (by decide) rfl ?_
      refine v_sub [3, 2, 4, 1, 0] rfl ?_
      exact w_L_isSound_L153 k25 h25 FU l0 ((s1 &&& s0) &&& (0 : Int32)) l2 (0 : Int32) (0 : Int32) M7 h
    · replace h := ifP c9 h
      refine v_sub [1, 2] rfl ?_
      exact w_L_isSound_J140 k25 h25 l0 l2 (s1 &&& s0) M7 h
theorem w_L_isSound_J102 {G : Gl} {ρ0 : Nat → Nat} {M0 MF : Mem} {r : Int32 ⊕ Nat} (k25 : Nat → Int32 → Int32 → Mem → Option ((Int32 ⊕ Nat) × Mem)) (h25 : ∀ (l0 : Nat) (l1 : Int32) (l2 : Int32) (M : Mem), k25 l0 l1 l2 M = some (r, MF) → V G (RL, cL_isSound, (some .boolean), 8, 134, 8, "isSound", []) (ρ0, M0, cxI r, MF) 25 [(0, .ref l0), (1, .int l1), (2, .int l2)] [] M) (l0 : Nat) (l2 : Int32) (l3 : Int32) (s0 : Int32) (M : Mem) (h : f_L_isSound_J102 k25 l0 l2 l3 s0 M = some (r, MF)) : V G (RL, cL_isSound, (some .boolean), 8, 134, 8, "isSound", []) (ρ0, M0, cxI r, MF) 102 [(0, .ref l0), (2, .int l2), (3, .int l3)] [.int s0] M := by
  unfold f_L_isSound_J102 at h
  refine v_iconst (v := 0) dL_isSound_102 ci_0 ?_
  exact w_L_isSound_J103 k25 h25 l0 l2 l3 (0 : Int32) s0 M h
set_option maxHeartbeats 4000000 in
set_option maxRecDepth 100000 in
theorem w_L_isSound_J55 {G : Gl} {ρ0 : Nat → Nat} {M0 MF : Mem} {r : Int32 ⊕ Nat} (k25 : Nat → Int32 → Int32 → Mem → Option ((Int32 ⊕ Nat) × Mem)) (h25 : ∀ (l0 : Nat) (l1 : Int32) (l2 : Int32) (M : Mem), k25 l0 l1 l2 M = some (r, MF) → V G (RL, cL_isSound, (some .boolean), 8, 134, 8, "isSound", []) (ρ0, M0, cxI r, MF) 25 [(0, .ref l0), (1, .int l1), (2, .int l2)] [] M) (l0 : Nat) (l2 : Int32) (l3 : Int32) (s0 : Int32) (s1 : Int32) (s2 : Int32) (M : Mem) (h : f_L_isSound_J55 k25 l0 l2 l3 s0 s1 s2 M = some (r, MF)) : V G (RL, cL_isSound, (some .boolean), 8, 134, 8, "isSound", []) (ρ0, M0, cxI r, MF) 55 [(0, .ref l0), (2, .int l2), (3, .int l3)] [.int s0, .int s1, .int s2] M := by
  unfold f_L_isSound_J55 at h
  refine v_icmp_gt (tgt := 102) dL_isSound_55 (by decide) (fun c13 => ?_) (fun c13 => ?_)
  · replace h := ifP c13 h
    exact w_L_isSound_J102 k25 h25 l0 l2 l3 s2 M h
  · replace h := ifN c13 h
    refine v_aload_n dL_isSound_58 rfl 0 rfl ?_
    refine v_iload_n dL_isSound_59 rfl 1 rfl ?_
    refine v_iconst (v := 1) dL_isSound_60 ci_1 ?_
    rcases bindX_some h with ⟨v2, M1, e, h⟩ | ⟨e9, e, rfl⟩
    rotate_left
    · exact cx_L_187 e dL_isSound_61 (Nat.le_of_ble_eq_true rfl) (by decide)
    refine ca_L_187 e dL_isSound_61 (Nat.le_of_ble_eq_true rfl) (by decide) ?_
    refine v_iconst (v := 5) dL_isSound_64 ci_5 ?_
    refine v_icmp_gt (tgt := 102) dL_isSound_65 (by decide) (fun c12 => ?_) (fun c12 => ?_)
    · replace h := ifP c12 h
      exact w_L_isSound_J102 k25 h25 l0 l2 l3 s2 M1 h
    · replace h := ifN c12 h
      refine v_aload_n dL_isSound_68 rfl 0 rfl ?_
      refine v_iload_n dL_isSound_69 rfl 1 rfl ?_
      refine v_iconst (v := 2) dL_isSound_70 ci_2 ?_
      rcases bindX_some h with ⟨v4, M3, e, h⟩ | ⟨e9, e, rfl⟩
      rotate_left
      · exact cx_L_187 e dL_isSound_71 (Nat.le_of_ble_eq_true rfl) (by decide)
      refine ca_L_187 e dL_isSound_71 (Nat.le_of_ble_eq_true rfl) (by decide) ?_
      refine v_bipush (v := 8) dL_isSound_74 cb_8 ?_
      refine v_icmp_gt (tgt := 102) dL_isSound_76 (by decide) (fun c11 => ?_) (fun c11 => ?_)
      · replace h := ifP c11 h
        exact w_L_isSound_J102 k25 h25 l0 l2 l3 s2 M3 h
      · replace h := ifN c11 h
        refine v_aload_n dL_isSound_79 rfl 0 rfl ?_
        refine v_iload_n dL_isSound_80 rfl 1 rfl ?_
        refine v_iconst (v := 4) dL_isSound_81 ci_4 ?_
        rcases bindX_some h with ⟨v6, M5, e, h⟩ | ⟨e9, e, rfl⟩
        rotate_left
        · exact cx_L_187 e dL_isSound_82 (Nat.le_of_ble_eq_true rfl) (by decide)
        refine ca_L_187 e dL_isSound_82 (Nat.le_of_ble_eq_true rfl) (by decide) ?_
        refine v_bipush (v := 6) dL_isSound_85 cb_6 ?_
        refine v_icmp_gt (tgt := 102) dL_isSound_87 (by decide) (fun c10 => ?_) (fun c10 => ?_)
        · replace h := ifP c10 h
          exact w_L_isSound_J102 k25 h25 l0 l2 l3 s2 M5 h
        · replace h := ifN c10 h
          refine v_aload_n dL_isSound_90 rfl 0 rfl ?_
          refine v_iload_n dL_isSound_91 rfl 1 rfl ?_
          rcases bindX_some h with ⟨v8, M7, e, h⟩ | ⟨e9, e, rfl⟩
          rotate_left
          · exact cx_L_209 e dL_isSound_92 (Nat.le_of_ble_eq_true rfl) (by decide)
          refine ca_L_209 e dL_isSound_92 (Nat.le_of_ble_eq_true rfl) (by decide) ?_
          refine v_if_lt (tgt := 102) dL_isSound_95 (by decide) (fun c9 => ?_) (fun c9 => ?_)
          · replace h := ifP c9 h
            exact w_L_isSound_J102 k25 h25 l0 l2 l3 s2 M7 h
          · replace h := ifN c9 h
            refine v_iconst (v := 1) dL_isSound_98 ci_1 ?_
            refine v_goto (tgt := 103) dL_isSound_99 (by decide) ?_
            exact w_L_isSound_J103 k25 h25 l0 l2 l3 (1 : Int32) s2 M7 h
set_option maxHeartbeats 4000000 in
set_option maxRecDepth 100000 in
theorem w_L_isSound_L25 {G : Gl} {ρ0 : Nat → Nat} {M0 MF : Mem} {r : Int32 ⊕ Nat} : ∀ (n : Nat) (l0 : Nat) (l1 : Int32) (l2 : Int32) (M : Mem), f_L_isSound_L25 n l0 l1 l2 M = some (r, MF) → V G (RL, cL_isSound, (some .boolean), 8, 134, 8, "isSound", []) (ρ0, M0, cxI r, MF) 25 [(0, .ref l0), (1, .int l1), (2, .int l2)] [] M := by
  intro n
  induction n with
  | zero => intro l0 l1 l2 M h; cases h
  | succ n ih =>
    intro l0 l1 l2 M h
    rw [f_L_isSound_L25] at h
    refine v_iload_n dL_isSound_25 rfl 2 rfl ?_
    refine v_bipush (v := 6) dL_isSound_26 cb_6 ?_
    refine v_icmp_ge (tgt := 322) dL_isSound_28 (by decide) (fun c6 => ?_) (fun c6 => ?_)
    · replace h := ifP c6 h
      refine v_iconst (v := 0) dL_isSound_322 ci_0 ?_
      refine v_istore_n (ls' := [(2, .int (0 : Int32)), (0, .ref l0), (1, .int l1)]) dL_isSound_323 rfl (by decide) rfl ?_
      refine v_sub [1, 2, 0] rfl ?_
      exact w_L_isSound_L324 FU l0 l1 (0 : Int32) M h
    · replace h := ifN c6 h
      refine v_aload_n dL_isSound_31 rfl 0 rfl ?_
      refine v_iload_n dL_isSound_32 rfl 2 rfl ?_
      rcases bindX_some h with ⟨v2, M1, e, h⟩ | ⟨e9, e, rfl⟩
      rotate_left
      · exact cx_L_141 e dL_isSound_33 (Nat.le_of_ble_eq_true rfl) (by decide)
      refine ca_L_141 e dL_isSound_33 (Nat.le_of_ble_eq_true rfl) (by decide) ?_
      refine v_istore_n (ls' := [(3, .int v2), (0, .ref l0), (1, .int l1), (2, .int l2)]) dL_isSound_36 rfl (by decide) rfl ?_
      refine v_iload_n dL_isSound_37 rfl 2 rfl ?_
      refine v_aload_n dL_isSound_38 rfl 1 rfl ?_
      refine v_iload_n dL_isSound_39 rfl 3 rfl ?_
      refine v_iconst (v := 0) dL_isSound_40 ci_0 ?_
      rcases bindX_some h with ⟨v4, M3, e, h⟩ | ⟨e9, e, rfl⟩
      rotate_left
      · exact cx_L_187 e dL_isSound_41 (Nat.le_of_ble_eq_true rfl) (by decide)
      refine ca_L_187 e dL_isSound_41 (Nat.le_of_ble_eq_true rfl) (by decide) ?_
      refine v_iload_n dL_isSound_44 rfl 0 rfl ?_
      refine v_iconst (v := 1) dL_isSound_45 ci_1 ?_
      refine v_icmp_le (tgt := 54) dL_isSound_46 (by decide) (fun c5 => ?_) (fun c5 => ?_)
      · replace h := ifP c5 h
        refine v_iconst (v := 0) dL_isSound_54 ci_0 ?_
        refine v_sub [1, 3, 0] rfl ?_
        exact w_L_isSound_J55 (f_L_isSound_L25 n) ih l0 l2 v2 (0 : Int32) v4 l1 M3 h
      · replace h := ifN c5 h
        refine v_bipush (v := 30) dL_isSound_49 cb_30 ?_
        refine v_goto (tgt := 55) dL_isSound_51 (by decide) ?_
        refine v_sub [1, 3, 0] rfl ?_
        exact w_L_isSound_J55 (f_L_isSound_L25 n) ih l0 l2 v2 (30 : Int32) v4 l1 M3 h
set_option maxHeartbeats 4000000 in
set_option maxRecDepth 100000 in
theorem w_L_isSound {G : Gl} {ρ0 : Nat → Nat} {M0 MF : Mem} {r : Int32 ⊕ Nat} (l0 : Nat) (M : Mem) (h : f_L_isSound l0 M = some (r, MF)) : V G (RL, cL_isSound, (some .boolean), 8, 134, 8, "isSound", []) (ρ0, M0, cxI r, MF) 0 [(0, .ref l0)] [] M := by
  unfold f_L_isSound at h
  refine v_aload_n dL_isSound_0 rfl 0 rfl ?_
  obtain ⟨v2, M1, e, h⟩ := bindP_some h
  refine ca_L_203 e dL_isSound_1 (Nat.le_of_ble_eq_true rfl) (by decide) ?_
  refine v_bipush (v := 8) dL_isSound_4 cb_8 ?_
  refine v_icmp_gt (tgt := 21) dL_isSound_6 (by decide) (fun c6 => ?_) (fun c6 => ?_)
  · replace h := ifP c6 h
    refine v_iconst (v := 0) dL_isSound_21 ci_0 ?_
    refine v_istore_n (ls' := [(1, .int (0 : Int32)), (0, .ref l0)]) dL_isSound_22 rfl (by decide) rfl ?_
    refine v_iconst (v := 0) dL_isSound_23 ci_0 ?_
    refine v_istore_n (ls' := [(2, .int (0 : Int32)), (1, .int (0 : Int32)), (0, .ref l0)]) dL_isSound_24 rfl (by decide) rfl ?_
    refine v_sub [2, 1, 0] rfl ?_
    exact w_L_isSound_L25 FU l0 (0 : Int32) (0 : Int32) M1 h
  · replace h := ifN c6 h
    refine v_aload_n dL_isSound_9 rfl 0 rfl ?_
    obtain ⟨v4, M3, e, h⟩ := bindP_some h
    refine ca_L_206 e dL_isSound_10 (Nat.le_of_ble_eq_true rfl) (by decide) ?_
    refine v_iconst (v := (-1)) dL_isSound_13 ci_m1 ?_
    refine v_icmp_ne (tgt := 21) dL_isSound_14 (by decide) (fun c5 => ?_) (fun c5 => ?_)
    · replace h := ifN c5 h
      refine v_iconst (v := 0) dL_isSound_21 ci_0 ?_
      refine v_istore_n (ls' := [(1, .int (0 : Int32)), (0, .ref l0)]) dL_isSound_22 rfl (by decide) rfl ?_
      refine v_iconst (v := 0) dL_isSound_23 ci_0 ?_
      refine v_istore_n (ls' := [(2, .int (0 : Int32)), (1, .int (0 : Int32)), (0, .ref l0)]) dL_isSound_24 rfl (by decide) rfl ?_
      refine v_sub [2, 1, 0] rfl ?_
      exact w_L_isSound_L25 FU l0 (0 : Int32) (0 : Int32) M3 h
    · replace h := ifP c5 h
      refine v_iconst (v := 1) dL_isSound_17 ci_1 ?_
      refine v_goto (tgt := 22) dL_isSound_18 (by decide) ?_
      refine v_istore_n (ls' := [(1, .int (1 : Int32)), (0, .ref l0)]) dL_isSound_22 rfl (by decide) rfl ?_
      refine v_iconst (v := 0) dL_isSound_23 ci_0 ?_
      refine v_istore_n (ls' := [(2, .int (0 : Int32)), (1, .int (1 : Int32)), (0, .ref l0)]) dL_isSound_24 rfl (by decide) rfl ?_
      refine v_sub [2, 1, 0] rfl ?_
      exact w_L_isSound_L25 FU l0 (1 : Int32) (0 : Int32) M3 h
theorem k_L_isSound {G : Gl} {l0 : Nat} {M MF : Mem} {r : Int32 ⊕ Nat} (h : f_L_isSound l0 M = some (r, MF)) : CtrP G yL_isSound cL_isSound 8 (some .boolean) 8 134 [.ref l0] M (cxI r) MF :=
  ctr_of (by decide +kernel) (Nat.le_of_ble_eq_true rfl) (fun ρ => w_L_isSound l0 M h)
theorem wd_L_127 : wdT RL 127 yL_isSound cL_isSound 8 (some .boolean) 1 := ⟨gwi 1054 (by decide +kernel) (by decide +kernel), gwi 1055 (by decide +kernel) (by decide +kernel), nw_L, gwi 1056 (by decide +kernel) (by decide +kernel), ⟨by decide +kernel, by decide +kernel, by decide +kernel⟩⟩
theorem ca_L_127 {G : Gl} {B : Bx} {cc : ByteArray} {ret : Option FieldType} {fr lo nL : Nat} {mn : String} {hh : List (Nat × Nat × Nat × Nat)} {pc : Nat} {ls : List (Nat × Value)} {st : List Value} {M M1 : Mem} {l0 : Nat} {x : Int32} (e : f_L_isSound l0 M = some (.inl x, M1)) (hd : decode cc pc = .ok (.invokestatic 127, 3)) (hcat : (st.map fun v => v.category).sum ≤ 8) (hR : 8 + 1 ≤ fr ∧ 8 + (8 + 11) + 134 ≤ lo) (k : V G (RL, cc, ret, fr, lo, nL, mn, hh) B (pc + 3) ls (.int x :: st) M1) : V G (RL, cc, ret, fr, lo, nL, mn, hh) B pc ls (.ref l0 :: st) M := v_callSi (As := [.ref l0]) (k_L_isSound e) wd_L_127 hd rfl rfl hcat hR k
theorem cx_L_127 {G : Gl} {ρ0 : Nat → Nat} {M0 : Mem} {cc : ByteArray} {ret : Option FieldType} {fr lo nL : Nat} {mn : String} {pc : Nat} {ls : List (Nat × Value)} {st : List Value} {M M1 : Mem} {l0 : Nat} {e9 : Nat} (e : f_L_isSound l0 M = some (.inr e9, M1)) (hd : decode cc pc = .ok (.invokestatic 127, 3)) (hcat : (st.map fun v => v.category).sum ≤ 8) (hR : 8 + 1 ≤ fr ∧ 8 + (8 + 11) + 134 ≤ lo) : V G (RL, cc, ret, fr, lo, nL, mn, []) (ρ0, M0, Sum.inr e9, M1) pc ls (.ref l0 :: st) M := v_callSx (As := [.ref l0]) (k_L_isSound e) wd_L_127 hd rfl rfl hcat hR
