/-! WILLS, UNSUBSCRIBE -/
def wlC (x : Cl) (b : Bool) (t : Txt) (g p : Int32) : Cl := uW (uB (uB x 1 true) 2 b) (mkMs t g p (nW 0) (nW 0) (nW 0) (nW 0))
theorem wlC_f (x : Cl) (b : Bool) (t : Txt) (g p : Int32) : cB (wlC x b t g p) 0 = cB x 0 ∧ cB (wlC x b t g p) 3 = cB x 3 ∧ cB (wlC x b t g p) 4 = cB x 4 ∧ cB (wlC x b t g p) 1 = true ∧ cB (wlC x b t g p) 2 = b ∧ cW (wlC x b t g p) = mkMs t g p (nW 0) (nW 0) (nW 0) (nW 0) ∧ cL (wlC x b t g p) = cL x ∧ cN (wlC x b t g p) = cN x ∧ cK (wlC x b t g p) = cK x ∧ cI (wlC x b t g p) = cI x ∧ cF (wlC x b t g p) = cF x := by
  simp (disch := omega) only [wlC, uB_B, uB_I, uB_F, uB_W, uB_K, uB_N, uB_L, uI_B, uI_I, uI_F, uI_W, uI_K, uI_N, uI_L, uF_B, uF_I, uF_F, uF_W, uF_K, uF_N, uF_L, uW_B, uW_I, uW_F, uW_W, uW_K, uW_N, uW_L, uK_B, uK_I, uK_F, uK_W, uK_K, uK_N, uK_L, uN_B, uN_I, uN_F, uN_W, uN_K, uN_N, uN_L, uL_B, uL_I, uL_F, uL_W, uL_K, uL_N, uL_L, fset_ne, fset_eq, and_self]
theorem GI_will {g : GS} (h : GI g) (b : Bool) (t : Txt) (gr p : Int32) : GI (g.1, wlC g.2 b t gr p) := by
  obtain ⟨f0, f3, f4, f1, f2, fW, fL, fN, fK, fI, fF⟩ := wlC_f g.2 b t gr p
  unfold GI lim1 at *
  simp only [f0, f3, f4, fL, fN, fK] at *
  exact h
theorem Op_setWill (x g : Int32) (b : Bool) (p : Int32) : OpOK (cdC 3 1 2) (f_X11_setWill 0 x g (zI b) p) (f_X12_setWill 908 x g (zI b) p) := by
  intro k M A hk5 hB hF hN hW hX
  have k1 := hB.1.1
  refine Op_text (x := x) (F := fun v6 M5 => bindX (f_X11_requireRange g (nW 0) (nW 2) M5) (fun _ M7 => bindX (f_X11_requireRange p (nW 0) (nW 9999) M7) (fun _ M9 => bindX (f_X11_requireConnection 0 x M9) (fun _ M11 => (gR 11 6 0 M11).bind (fun v13 => (gR 7 1 v13 M11).bind (fun v14 => (aR 18 v14 x M11).bind (fun v15 => (gI 0 1 v15 M11).bind (fun v16 => (pZ 0 1 v15 (nW 1) M11).bind (fun M17 => (pZ 0 2 v15 (zI b) M17).bind (fun M18 => (gR 0 3 v15 M18).bind (fun v19 => (f_X1_fill v19 v6 g p M18).bind (fun M20 => if v16 = nW 0 then some (.inl (nW 0), M20) else some (.inl (nW 1), M20)))))))))))))
    (G := fun v5 M4 => if v5 = nW 0 then f_X12_setWill_J47 908 M4 else bindP (f_X12_in g (nW 0) (nW 2) M4) (fun v7 M6 => if v7 = nW 0 then f_X12_setWill_J47 908 M6 else bindP (f_X12_in p (nW 0) (nW 9999) M6) (fun v9 M8 => if v9 = nW 0 then f_X12_setWill_J47 908 M8 else bindP (f_X12_isOn 908 x M8) (fun v11 M10 => if v11 = nW 0 then bindP (f_X12_fails 908 (nW 3) M10) (fun v13 M12 => some (v13, M12)) else (gR 12 1 908 M10).bind (fun v12 => (aI 13 v12 (nW 74 + x) M10).bind (fun v13 => (gR 12 1 908 M10).bind (fun v14 => (wI 13 v14 (nW 74 + x) (nW 1) M10).bind (fun M15 => (gR 12 1 908 M15).bind (fun v16 => (wI 13 v16 (nW 86 + x) g M15).bind (fun M17 => (gR 12 1 908 M17).bind (fun v18 => if zI b = nW 0 then f_X12_setWill_J115 908 x p v13 (nW 0) (nW 92 + x) v18 M17 else f_X12_setWill_J115 908 x p v13 (nW 1) (nW 92 + x) v18 M17))))))))))) false hB hF hN hW rfl ?_ (fun N V s t hk => ?_) (fun N V s t hk => ?_) (fun c t x' M5 hc ec hp hx hB5 => ?_)
  · obtain ⟨M1, ek, F1, B1, _⟩ := c_take hB
    have cc := c_client x M1
    by_cases hx : inB x (nW 0) (nW 5) = true
    · rw [if_pos hx] at cc
      simp only [f_X11_setWill, k1, ↓reduceIte, ek, bindP, cc, bindX, c_topic B1.1.1, nW_lit]
      try rfl
    · rw [if_neg hx] at cc
      simp only [f_X11_setWill, k1, ↓reduceIte, ek, bindP, cc, bindX, nW_lit]
      try rfl
  · simp only [f_X12_setWill, q_k hk, ↓reduceIte, q_pI hk, Option.bind_some, nW_lit, r_client, bindP, zI_f]
    cases inB x (nW 0) (nW 5)
    · simp only [zI_f, ↓reduceIte, r_unread hk, Bool.false_eq_true]
    · simp only [zI_t, z1n0, ↓reduceIte]
      try rfl
  · simp only [f_X12_setWill_J47, ↓reduceIte, nW_lit, r_fails hk, bindP]; rfl
  · subst ec
    obtain ⟨_, _, _, pok, ptop⟩ := parse_ok hp
    have ptop := ptop rfl
    have hW5 := WI_clr hW (-nW 1)
    have k2 := (BrR_k hB5).2.1
    have hSt := hB5.2.2.2.2.2.2
    have cg := c_range g (nW 0) (nW 2) M5
    have cp := c_range p (nW 0) (nW 9999) M5
    by_cases hg : inB g (nW 0) (nW 2) = true
    · rw [if_pos hg] at cg
      by_cases hpp : inB p (nW 0) (nW 9999) = true
      · rw [if_pos hpp] at cp
        have cn := c_conn hB5 hc
        rw [show oS (clr A (-nW 1)) = oS A from rfl] at cn
        cases hon : cB (gCl (oS A) c) 0 with
        | false =>
          rw [hon, if_neg (by decide)] at cn
          refine Op_refT 2 hB5 hW5 ?_ (fun N V s t' hk hR hQ => ?_)
          · simp only [cg, cp, cn, bindX]
          · have e := ref_isOn (N := N) (V := V) (t := t') hk hc (RfR_on hR hc).1
            rw [show oS (clr A (-nW 1)) = oS A from rfl, hon, zI_f] at e
            simp only [z1n0, ↓reduceIte, r_in, hg, hpp, zI_t, bindP, e, r_fails hk]; rfl
        | true =>
          rw [hon, if_pos rfl] at cn
          obtain ⟨r1, r2, r3, r4, r5⟩ := BrR_c hB5 hc
          have hZ : inZ 8 := ⟨by omega, by omega⟩
          have hex := (hW.1.1.1.2 c hc).2.2.1 hon
          have hC := hZ.c hc
          have hCl := hSt.2.1 c hc
          obtain ⟨M1, e1, F1, R1⟩ := Cl_B true hC hCl (show 1 < 3 by omega)
          obtain ⟨M2, e2, F2, R2⟩ := Cl_B b hC R1 (show 2 < 3 by omega)
          obtain ⟨M3, e3, F3, R3⟩ := Cl_will g p hC R2 ((hx.gr F1.gr).gr F2.gr)
          rw [zI_t] at e1
          have g1 : gI 0 1 (8 + 2 + 60 * c) M5 = some (zI (cB (gCl (oS A) c) 1)) := by
            have h2 : mI M5 (8 + 2 + 60 * c) 1 = zI (cB (gCl (oS A) c) 1) := hCl.1.2.2.1
            simp only [gI, hCl.1.1.1, ↓reduceIte, h2]
          have g3 : gR 0 3 (8 + 2 + 60 * c) M2 = some (8 + 2 + 60 * c + 1) := by
            simp only [gR, R2.1.1.1, ↓reduceIte, R2.1.1.2.1]
          have F123 : Fr (fun a => 8 + 2 + 60 * c ≤ a ∧ a < 8 + 2 + 60 * c + 60) M5 M3 := ((F1.mono (fun a h => by omega)).trans (F2.mono (fun a h => by omega))).trans (F3.mono (fun a h => by omega))
          obtain ⟨H1, F1'⟩ := St_cl hSt hc F123 (fun a h => h) R3
          have H1' : StR M3 8 (putG (oS A) c (gSc (oS A), wlC (gCl (oS A) c) b t g p)) := H1
          obtain ⟨f0, f3, f4, f1, f2, fW, fL, fN, fK, fI, fF⟩ := wlC_f (gCl (oS A) c) b t g p
          obtain ⟨gn, _, hgn, egn⟩ := inB_nat (by omega) hg (by omega)
          have S1 : SI (putG (oS A) c (gSc (oS A), wlC (gCl (oS A) c) b t g p)) := SI_put hW.1.1 hc (GI_will (hW.1.1.1.2 c hc) b t g p) (fun _ _ _ => rfl) (by show cL (wlC (gCl (oS A) c) b t g p) 3 = _; rw [fL]) (fun _ => by
            show okTx (cW (wlC (gCl (oS A) c) b t g p)).1 ∧ topical (cW (wlC (gCl (oS A) c) b t g p)).1 ∧ ∃ n, n ≤ 2 ∧ (cW (wlC (gCl (oS A) c) b t g p)).2 1 = nW n
            rw [fW]
            exact ⟨pok, ptop, gn, hgn, egn⟩)
          have NLx : NL (oS A) (putG (oS A) c (gSc (oS A), wlC (gCl (oS A) c) b t g p)) := NL_put fF (Or.inl (by show cL (wlC (gCl (oS A) c) b t g p) 3 = _; rw [fL]))
          refine Op_S (zI (cB (gCl (oS A) c) 1)) hB5 hW5 (M' := M3) ?_ F1' (fun a h => Or.inr h) H1' (SgI_of hW.1 S1 (Pe_put hW.1.2.1 (fun _ h0 => ?_)) NLx (Nat.le_succ _)) (fun c' _ => (NLx c').1) (fun N V s t' hk hR hQ => ?_)
          · simp only [cg, cp, cn, bindX, k2, r1, r2, g1, e1, e2, g3, e3, Option.bind_some, zI_eq0]
            cases cB (gCl (oS A) c) 1 <;> rfl
          · have h0 : cB (wlC (gCl (oS A) c) b t g p) 0 = false := h0
            rw [f0] at h0
            exact absurd (hon.symm.trans h0) (by decide)
          · have e := ref_isOn (N := N) (V := V) (t := t') hk hc (RfR_on hR hc).1
            rw [show oS (clr A (-nW 1)) = oS A from rfl, hon, zI_t] at e
            have hRS : RSt s t' (oS A) := hR.2.2.2.2.2.1
            have a7 : s (74 + c) = zI (cB (gCl (oS A) c) 1) := (hRS.2.1 c hc).2.1.2.2.2.2.2.2.1
            refine ⟨V, fset (fset (fset (fset s (74 + c) (nW 1)) (86 + c) g) (92 + c) (zI b)) (98 + c) p, blk t' (4 * c) (fun i => V.2.1 8 (0 + i)), ?_, VQ.refl V, hQ.1, ?_⟩
            · have z0 : 0 + 4 * c = 4 * c := by omega
              cases b with
              | true => simp (disch := omega) only [z1n0, ↓reduceIte, r_in, hg, hpp, zI_t, bindP, e, q_k hk, q_gR1 hk, q_gR2 hk, q_gR8 hk, q_gR11 hk, q_gR13 hk, q_gR14 hk, q_gR15 hk, q_gR16 hk, q_gI hk, q_pI hk, q_a hk, q_w hk, q_l hk, Option.bind_some, nW_mul, nW_add, a7, f_X12_setWill_J115, nW_lit, z0, q_mv8 hk]
              | false => simp (disch := omega) only [z1n0, ↓reduceIte, r_in, hg, hpp, zI_t, zI_f, bindP, e, q_k hk, q_gR1 hk, q_gR2 hk, q_gR8 hk, q_gR11 hk, q_gR13 hk, q_gR14 hk, q_gR15 hk, q_gR16 hk, q_gI hk, q_pI hk, q_a hk, q_w hk, q_l hk, Option.bind_some, nW_mul, nW_add, a7, f_X12_setWill_J115, nW_lit, z0, q_mv8 hk]
            · refine RSt_put hRS ?_ (fun i h1 h2 => by unfold cs at h2; simp (disch := omega) only [fset_ne]) (fun i h => by unfold ct at h; exact blk_out _ _ (by omega)) hc
              obtain ⟨hsc, ⟨l1, l2, l3, l4⟩, ⟨a1, a2, a3, a4, a5, a6, a7, a8⟩, bb, w, kk, u, f, pp, q⟩ := RSt_get hRS hc
              have a1 : s (20 + c) = zI (cB (gCl (oS A) c) 3) := a1
              have a2 : s (32 + c) = zI (cB (gCl (oS A) c) 0) := a2
              have a3 : s (50 + c) = nW (cL (gCl (oS A) c) 3).1 := a3
              have a4 : s (56 + c) = nW (cL (gCl (oS A) c) 1).1 := a4
              have a5 : s (62 + c) = nW (cL (gCl (oS A) c) 2).1 := a5
              have a6 : s (68 + c) = nW (cL (gCl (oS A) c) 0).1 := a6
              have a8 : s (80 + c) = cI (gCl (oS A) c) 0 := a8
              refine ⟨hsc.fr (fun i hi => by simp (disch := omega) only [fset_ne]), ?_, ?_, ?_, ?_, ?_, ?_, ?_, ?_, ?_⟩
              · show lim1 (wlC (gCl (oS A) c) b t g p)
                unfold lim1; rw [fL]; exact ⟨l1, l2, l3, l4⟩
              · show R_c1 _ c (wlC (gCl (oS A) c) b t g p)
                unfold R_c1
                rw [f3, f0, f1, fL, fI]
                simp (disch := omega) only [fset_ne, fset_eq, zI_t]
                exact ⟨a1, a2, a3, a4, a5, a6, trivial, a8⟩
              · show R_c2 _ c (wlC (gCl (oS A) c) b t g p)
                have := bb.fr hc (s' := fset (fset (fset (fset s (74 + c) (nW 1)) (86 + c) g) (92 + c) (zI b)) (98 + c) p) (fun i h1 h2 => by simp (disch := omega) only [fset_ne])
                unfold R_c2 at this ⊢
                rw [f3, f4, f0, fN, fI]; exact this
              · show R_wi _ _ c (wlC (gCl (oS A) c) b t g p)
                intro _
                rw [fW, f2]
                simp (disch := omega) only [fset_ne, fset_eq]
                exact ⟨rfl, trivial, rfl, TB.blk hQ.2.2⟩
              · show R_ke _ c (wlC (gCl (oS A) c) b t g p)
                have := kk.fr hc (s' := fset (fset (fset (fset s (74 + c) (nW 1)) (86 + c) g) (92 + c) (zI b)) (98 + c) p) (fun i h1 h2 => by simp (disch := omega) only [fset_ne])
                unfold R_ke at this ⊢
                rw [fK]; exact this
              · show R_su _ _ c (cL (wlC (gCl (oS A) c) b t g p) 3)
                rw [fL]; exact u.fr hc l4 (fun i h1 h2 => by simp (disch := omega) only [fset_ne]) (fun i h1 h2 => blk_out _ _ (by omega))
              · show R_fl _ _ c (cL (wlC (gCl (oS A) c) b t g p) 1)
                rw [fL]; exact f.fr hc l2 (fun i h1 h2 => by simp (disch := omega) only [fset_ne]) (fun i h1 h2 => blk_out _ _ (by omega))
              · show R_pe _ _ c (cL (wlC (gCl (oS A) c) b t g p) 2)
                rw [fL]; exact pp.fr hc l3 (fun i h1 h2 => by simp (disch := omega) only [fset_ne]) (fun i h1 h2 => blk_out _ _ (by omega))
              · show R_qu _ _ c (cL (wlC (gCl (oS A) c) b t g p) 0)
                rw [fL]; exact q.fr hc l1 (fun i h1 h2 => by simp (disch := omega) only [fset_ne]) (fun i h1 h2 => blk_out _ _ (by omega))
      · rw [if_neg hpp] at cp
        have hp0 : inB p (nW 0) (nW 9999) = false := by simpa using hpp
        refine Op_refT 1 hB5 hW5 ?_ (fun N V s t' hk hR hQ => ?_)
        · simp only [cg, cp, bindX]
        · simp only [f_X12_setWill_J47, z1n0, ↓reduceIte, r_in, hg, hp0, zI_t, zI_f, nW_lit, r_fails hk, bindP]; rfl
    · rw [if_neg hg] at cg
      have hg0 : inB g (nW 0) (nW 2) = false := by simpa using hg
      refine Op_refT 1 hB5 hW5 ?_ (fun N V s t' hk hR hQ => ?_)
      · simp only [cg, bindX]
      · simp only [f_X12_setWill_J47, z1n0, ↓reduceIte, r_in, hg0, zI_f, nW_lit, r_fails hk, bindP]; rfl
/-! unsubscribe -/
theorem NeS_drop {σ : Sg} {c k : Nat} (h : NeS σ) : NeS (spDrop σ c k) := by
  intro c' hc' j hj
  have e : gCl (spDrop σ c k) c' = if c' = c then uL (gCl σ c) 3 (ldel (cL (gCl σ c) 3) k) else gCl σ c' := rfl
  rw [e] at hj ⊢
  by_cases hcc : c' = c
  · subst hcc
    rw [if_pos rfl] at hj ⊢
    have e3 : cL (uL (gCl σ c') 3 (ldel (cL (gCl σ c') 3) k)) 3 = ldel (cL (gCl σ c') 3) k := by
      show fset (cL (gCl σ c')) 3 (ldel (cL (gCl σ c') 3) k) 3 = _
      exact fset_eq _ _ _
    rw [e3] at hj ⊢
    simp only [ldel] at hj ⊢
    split
    · exact h c' hc' j (by omega)
    · exact h c' hc' (j + 1) (by omega)
  · rw [if_neg hcc] at hj ⊢; exact h c' hc' j hj
theorem drop_f (σ : Sg) (c k c' : Nat) : cB (gCl (spDrop σ c k) c') = cB (gCl σ c') ∧ cF (gCl (spDrop σ c k) c') = cF (gCl σ c') := by
  have e : gCl (spDrop σ c k) c' = if c' = c then uL (gCl σ c) 3 (ldel (cL (gCl σ c) 3) k) else gCl σ c' := rfl
  rw [e]
  by_cases hcc : c' = c
  · subst hcc; rw [if_pos rfl]; exact ⟨rfl, rfl⟩
  · rw [if_neg hcc]; exact ⟨rfl, rfl⟩
theorem Op_unsubscribe (x gr : Int32) : OpOK (cdC 3 1 2) (f_X11_unsubscribe 0 x gr) (f_X12_unsubscribe 908 x gr) := by
  intro k M A hk5 hB hF hN hW hX
  have k1 := hB.1.1
  refine Op_text (x := x) (F := fun v6 M5 => bindX (f_X11_requireRange gr (nW 0) (nW 3) M5) (fun _ M7 => bindX (f_X11_requireConnection 0 x M7) (fun _ M9 => (gR 11 6 0 M9).bind (fun v11 => bindP (f_X7_removeSubscription v11 x v6 gr M9) (fun v13 M12 => if v13 = nW 0 then some (.inl (nW 0), M12) else some (.inl (nW 1), M12))))))
    (G := fun v5 M4 => if v5 = nW 0 then f_X12_unsubscribe_J35 908 M4 else bindP (f_X12_in gr (nW 0) (nW 3) M4) (fun v7 M6 => if v7 = nW 0 then f_X12_unsubscribe_J35 908 M6 else bindP (f_X12_isOn 908 x M6) (fun v9 M8 => if v9 = nW 0 then bindP (f_X12_fails 908 (nW 3) M8) (fun v11 M10 => some (v11, M10)) else bindP (f_X12_placeOf 908 x gr M8) (fun v11 M10 => if v11 = -nW 1 then some (nW 0, M10) else (f_X12_drops 908 x v11 M10).bind (fun M12 => some (nW 1, M12)))))) true hB hF hN hW rfl ?_ (fun N V s t hk => ?_) (fun N V s t hk => ?_) (fun c t x' M5 hc ec hp hx hB5 => ?_)
  · obtain ⟨M1, ek, F1, B1, _⟩ := c_take hB
    have cc := c_client x M1
    by_cases hx : inB x (nW 0) (nW 5) = true
    · rw [if_pos hx] at cc
      simp only [f_X11_unsubscribe, k1, ↓reduceIte, ek, bindP, cc, bindX, c_filter B1.1.1, nW_lit]
      try rfl
    · rw [if_neg hx] at cc
      simp only [f_X11_unsubscribe, k1, ↓reduceIte, ek, bindP, cc, bindX, nW_lit]
      try rfl
  · simp only [f_X12_unsubscribe, q_k hk, ↓reduceIte, q_pI hk, Option.bind_some, nW_lit, r_client, bindP, zI_t, lit_m1i]
    cases inB x (nW 0) (nW 5)
    · simp only [zI_f, ↓reduceIte, r_unread hk, Bool.false_eq_true]
    · simp only [zI_t, z1n0, ↓reduceIte]
      try rfl
  · simp only [f_X12_unsubscribe_J35, ↓reduceIte, nW_lit, r_fails hk, bindP]; rfl
  · subst ec
    obtain ⟨_, _, _, pok, _⟩ := parse_ok hp
    have hW5 := WI_clr hW (-nW 1)
    have k2 := (BrR_k hB5).2.1
    have hSt := hB5.2.2.2.2.2.2
    have cg := c_range gr (nW 0) (nW 3) M5
    by_cases hg : inB gr (nW 0) (nW 3) = true
    · rw [if_pos hg] at cg
      have cn := c_conn hB5 hc
      rw [show oS (clr A (-nW 1)) = oS A from rfl] at cn
      cases hon : cB (gCl (oS A) c) 0 with
      | false =>
        rw [hon, if_neg (by decide)] at cn
        refine Op_refT 2 hB5 hW5 ?_ (fun N V s t' hk hR hQ => ?_)
        · simp only [cg, cn, bindX]
        · have e := ref_isOn (N := N) (V := V) (t := t') hk hc (RfR_on hR hc).1
          rw [show oS (clr A (-nW 1)) = oS A from rfl, hon, zI_f] at e
          simp only [z1n0, ↓reduceIte, r_in, hg, zI_t, bindP, e, r_fails hk]; rfl
      | true =>
        rw [hon, if_pos rfl] at cn
        have hZ : inZ 8 := ⟨by omega, by omega⟩
        obtain ⟨M1, e1, F1, R1⟩ := St_unsub gr hZ hSt hW.1.1 hc hx
        have e1 : f_X7_removeSubscription 8 (nW c) x' gr M5 = some (zI (spUnsub (oS A) c t gr).1, M1) := e1
        have R1 : StR M1 8 (spUnsub (oS A) c t gr).2 := R1
        have l6 : (cL (gCl (oS A) c) 3).1 ≤ 6 := (hW.1.1.1.2 c hc).2.1.2.2.2
        have RP : ∀ N V s t', KR N → RfR V s t' (clr A (-nW 1)) → QT t V → f_X12_placeOf 908 (nW c) gr (QW N V s t') = some (posK (6 * c) (subAt (cL (gCl (oS A) c) 3) t gr), QW N V s t') := fun N V s t' hk hR hQ => by
          have hcl := hR.2.2.2.2.2.1.2.1 c hc
          exact ref_placeOf gr hk hc l6 hcl.2.1.2.2.1 hcl.2.2.2.2.2.1 (hW.1.1.2.1 c hc).1 hQ.2.2 pok (hW.1.1.2.1 c hc).2
        have H : SgI (k + 1) (spUnsub (oS A) c t gr).2 ∧ ∀ c', cF (gCl (spUnsub (oS A) c t gr).2 c') = cF (gCl (oS A) c') := by
          unfold spUnsub
          cases hs : subAt (cL (gCl (oS A) c) 3) t gr with
          | none => exact ⟨hW.1.mono (Nat.le_succ _), fun _ => rfl⟩
          | some j =>
            have hj := (subAt_lt hs).1
            exact ⟨⟨SI_drop hW.1.1 hc hj, Pe_B hW.1.2.1 (fun c' _ _ _ => (drop_f _ _ _ _).1), fun c' hc' => by rw [(drop_f _ _ _ _).2]; exact hW.1.2.2.1 c' hc', NeS_drop hW.1.2.2.2.1, Nat.le_succ_of_le hW.1.2.2.2.2⟩, fun c' => (drop_f _ _ _ _).2⟩
        refine Op_S (zI (spUnsub (oS A) c t gr).1) hB5 hW5 (M' := M1) ?_ F1 (fun a h => Or.inr h) R1 H.1 (fun c' _ => H.2 c') (fun N V s t' hk hR hQ => ?_)
        · simp only [cg, cn, bindX, k2, e1, bindP, Option.bind_some, zI_eq0]
          cases (spUnsub (oS A) c t gr).1 <;> rfl
        · have e := ref_isOn (N := N) (V := V) (t := t') hk hc (RfR_on hR hc).1
          rw [show oS (clr A (-nW 1)) = oS A from rfl, hon, zI_t] at e
          have ep := RP N V s t' hk hR hQ
          have hRS : RSt s t' (oS A) := hR.2.2.2.2.2.1
          unfold spUnsub
          cases hs : subAt (cL (gCl (oS A) c) 3) t gr with
          | none =>
            rw [hs] at ep
            refine ⟨V, s, t', ?_, VQ.refl V, hQ.1, hRS⟩
            simp only [z1n0, ↓reduceIte, r_in, hg, zI_t, zI_f, bindP, e, ep, posK]
          | some j =>
            rw [hs] at ep
            have hj := (subAt_lt hs).1
            have nm : ¬ nW (6 * c + j) = -nW 1 := nW_neg (by omega) (by omega) (by omega)
            obtain ⟨s2, t2, e2, R2⟩ := ref_drops (N := N) (V := V) hk hRS hc hj hW.1.1.2.2.1 (hW.1.1.2.1 c hc).1 (hW.1.1.2.1 c hc).2 (hW.1.1.2.2.2.1 c hc).1
            refine ⟨V, s2, t2, ?_, VQ.refl V, hQ.1, R2⟩
            simp only [z1n0, ↓reduceIte, r_in, hg, zI_t, bindP, e, ep, posK, nm, e2, Option.bind_some]
    · rw [if_neg hg] at cg
      have hg0 : inB gr (nW 0) (nW 3) = false := by simpa using hg
      refine Op_refT 1 hB5 hW5 ?_ (fun N V s t' hk hR hQ => ?_)
      · simp only [cg, bindX]
      · simp only [f_X12_unsubscribe_J35, z1n0, ↓reduceIte, r_in, hg0, zI_f, nW_lit, r_fails hk, bindP]; rfl
