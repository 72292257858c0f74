/-! CONNECT, RELEASE, ANSWER -/
theorem off_endC {σ : Sg} {c : Nat} : cB (gCl (spEndC σ c) c) 0 = false := by
  unfold spEndC
  split
  · have e : gCl (spRemove (putG σ c (gSc σ, spOff (gCl σ c) (gSc σ 14))) c) c = spClear (spOff (gCl σ c) (gSc σ 14)) := by
      rw [spRemove_put]; exact fset_eq _ _ _
    rw [e]; simp (disch := omega) only [spClear, spOff, uB_B, uB_I, uB_F, uB_W, uB_K, uB_N, uB_L, uI_B, uI_I, uI_F, uI_W, uI_K, uI_N, uI_L, uF_B, uF_I, uF_F, uF_W, uF_K, uF_N, uF_L, uW_B, uW_I, uW_F, uW_W, uW_K, uW_N, uW_L, uK_B, uK_I, uK_F, uK_W, uK_K, uK_N, uK_L, uN_B, uN_I, uN_F, uN_W, uN_K, uN_N, uN_L, uL_B, uL_I, uL_F, uL_W, uL_K, uL_N, uL_L, fset_ne, fset_eq]
  · rw [gCl_putG]; simp (disch := omega) only [spOff, uB_B, uB_I, uB_F, uB_W, uB_K, uB_N, uB_L, uI_B, uI_I, uI_F, uI_W, uI_K, uI_N, uI_L, uF_B, uF_I, uF_F, uF_W, uF_K, uF_N, uF_L, uW_B, uW_I, uW_F, uW_W, uW_K, uW_N, uW_L, uK_B, uK_I, uK_F, uK_W, uK_K, uK_N, uK_L, uN_B, uN_I, uN_F, uN_W, uN_K, uN_N, uN_L, uL_B, uL_I, uL_F, uL_W, uL_K, uL_N, uL_L, fset_ne, fset_eq]
theorem off_fail {σ : Sg} {c : Nat} : cB (gCl (spFail σ c).2 c) 0 = false := by
  unfold spFail
  split
  · rw [((SB_publ _ _ _ _).1 c).1]
    have e : gCl (spNoWill (spEndC σ c) c) c = uB (gCl (spEndC σ c) c) 1 false := gCl_putG _ _ _
    rw [e]; simp (disch := omega) only [uB_B, uB_I, uB_F, uB_W, uB_K, uB_N, uB_L, uI_B, uI_I, uI_F, uI_W, uI_K, uI_N, uI_L, uF_B, uF_I, uF_F, uF_W, uF_K, uF_N, uF_L, uW_B, uW_I, uW_F, uW_W, uW_K, uW_N, uW_L, uK_B, uK_I, uK_F, uK_W, uK_K, uK_N, uK_L, uN_B, uN_I, uN_F, uN_W, uN_K, uN_N, uN_L, uL_B, uL_I, uL_F, uL_W, uL_K, uL_N, uL_L, fset_ne]; exact off_endC
  · exact off_endC
theorem fr_0 {M M' : Mem} {P : Nat → Prop} (F : Fr P M M') (hP : ¬ P 0) (h : (mK M 0).1 = 11 ∧ mR M 0 6 = some 8) : (mK M' 0).1 = 11 ∧ mR M' 0 6 = some 8 := by
  have := F.2.2 0 (Or.inr hP)
  exact ⟨by rw [F.1]; exact h.1, by rw [this.2.2.2]; exact h.2⟩
theorem Op_connect (x : Int32) (clean : Bool) : OpOK (cdA 3) (f_X11_connect 0 x (zI clean)) (f_X12_connect 908 x (zI clean)) := by
  intro k M A hk5 hB hF hN hW hX
  obtain ⟨k1, k2, _⟩ := BrR_k hB
  refine Op_cl (f := fun x => f_X11_connect 0 x (zI clean)) (g := fun x => f_X12_connect 908 x (zI clean)) (by omega) hB hW (fun cc => ?_) (fun hx0 N V s t hk hR => ?_) (fun c hc hx cc => ?_)
  · simp only [f_X11_connect, k1, ↓reduceIte, cc, bindX]
  · simp (disch := omega) only [f_X12_connect, q_k hk, q_gR1 hk, q_gR2 hk, q_gR8 hk, q_gR11 hk, q_gR13 hk, q_gR14 hk, q_gR15 hk, q_gR16 hk, q_gI hk, q_pI hk, q_a hk, q_w hk, q_l hk, nW_lit, r_client, bindP, hx0, zI_f, ↓reduceIte, Option.bind_some, r_fails hk]
    rfl
  · obtain ⟨r1, r2, r3, r4, r5⟩ := BrR_c hB hc
    have hSt := hB.2.2.2.2.2.2
    have hZ : inZ 8 := ⟨by omega, by omega⟩
    have hB0 : (mK M 0).1 = 11 ∧ mR M 0 6 = some 8 := ⟨hB.1.1, hB.1.2.2.2.2.1⟩
    cases hon : cB (gCl (oS A) c) 0 with
    | false =>
      rw [hon, zI_f] at r3
      obtain ⟨M2, e2, F2, R2⟩ := B_connect clean hB0 hSt hW.1.1 hc hon
      refine Op_S (zI (spConn (oS A) c clean).1) hB hW (M' := M2) ?_ F2 (fun a h => Or.inr h) R2 (SgI_of hW.1 (SI_conn hW.1.1 hc hon clean) (Pe_conn clean hW.1.2.1) (NL_conn _ c clean) (by rw [gTa_conn]; exact Nat.le_succ _)) (fun c' _ => (NL_conn _ c clean c').1) (fun N V s t hk hR _ => ?_)
      · simp only [f_X11_connect, k1, ↓reduceIte, cc, bindX, k2, r1, r2, r3, nW_lit, e2, Option.bind_some]
      · have e := ref_isOn (N := N) (V := vI V 0 0 (nW 0)) (t := t) hk hc (RfR_on hR hc).1
        rw [hon, zI_f] at e
        obtain ⟨s', t', e3, R3⟩ := ref_connect (N := N) (V := vI V 0 0 (nW 0)) clean hk hR.2.2.2.2.2.1 hW.1.1 hW.1.2.1 hc hon hR.2.2.2.2.1
        refine ⟨_, s', t', ?_, VQ_0 V _, vI_00 _ _, R3⟩
        simp (disch := omega) only [f_X12_connect, q_k hk, q_gR1 hk, q_gR2 hk, q_gR8 hk, q_gR11 hk, q_gR13 hk, q_gR14 hk, q_gR15 hk, q_gR16 hk, q_gI hk, q_pI hk, q_a hk, q_w hk, q_l hk, nW_lit, r_client, bindP, hx, zI_t, z1n0, e, ↓reduceIte, Option.bind_some, e3]
    | true =>
      rw [hon, zI_t] at r3
      have hex := (hW.1.1.1.2 c hc).2.2.1 hon
      obtain ⟨t1, t2, M1, t3, F1, R1, _⟩ := StR_inc hZ hSt (i := 5) (by omega)
      have B1 := BrR_S hB F1.gr (fun a h => Or.inr h) R1
      have S1 := SI_tot hW.1.1 (i := 5) (by omega)
      have hta : (gTa (uSc (oS A) (tot (gSc (oS A)) 5))).1 < 512 := by
        have := hW.1.2.2.2.2
        show (gTa (oS A)).1 < 512
        omega
      have X1 := WtR_tot hX (i := 5) (by omega)
      obtain ⟨M2, e2, F2, R2⟩ := St_fail hZ R1 S1 hc hta
      have S2 := SI_fail X1 S1 hc hex hta
      have B2 := BrR_S B1 F2.gr (fun a h => Or.inr h) R2
      have hB2 := fr_0 F2 (by unfold SZ; omega) (fr_0 F1 (by unfold SZ; omega) hB0)
      obtain ⟨M3, e3, F3, R3⟩ := B_connect clean hB2 R2 S2 hc off_fail
      have P1 : Pe (uSc (oS A) (tot (gSc (oS A)) 5)) := hW.1.2.1
      have P2 := Pe_fail (c := c) P1
      have NLx : NL (oS A) (spConn (spFail (uSc (oS A) (tot (gSc (oS A)) 5)) c).2 c clean).2 := NL.trans (σ' := (spFail (uSc (oS A) (tot (gSc (oS A)) 5)) c).2) (NL_fail (uSc (oS A) (tot (gSc (oS A)) 5)) c) (NL_conn _ c clean)
      have kk := (BrR_k B1).2.1
      refine Op_S (zI (spConn (spFail (uSc (oS A) (tot (gSc (oS A)) 5)) c).2 c clean).1) hB hW (M' := M3) ?_ ((F1.trans F2).trans F3) (fun a h => Or.inr h) R3 (SgI_of hW.1 (SI_conn S2 hc off_fail clean) (Pe_conn clean P2) NLx (by rw [gTa_conn]; exact gTa_fail (uSc (oS A) (tot (gSc (oS A)) 5)) c)) (fun c' _ => (NLx c').1) (fun N V s t hk hR _ => ?_)
      · simp only [f_X11_connect, k1, ↓reduceIte, cc, bindX, k2, r1, r2, r3, z1n0, nW_lit, t1, t2, t3, kk, e2, bindP, e3, Option.bind_some]
      · have e := ref_isOn (N := N) (V := vI V 0 0 (nW 0)) (t := t) hk hc (RfR_on hR hc).1
        rw [hon, zI_t] at e
        have H1 := RSt_tot hR.2.2.2.2.2.1 (i := 5) (by omega)
        obtain ⟨V', s', t', e4, hE, R4, _⟩ := ref_breaks (N := N) (V := vI V 0 0 (nW 0)) hk H1 S1 hc hex hta
        have h10 : TB (V'.2.1 10) 0 [] := by rw [hE.2.2 10 (by omega)]; exact hR.2.2.2.2.1
        obtain ⟨s5, t5, e5, R5⟩ := ref_connect (N := N) (V := V') clean hk R4 S2 P2 hc off_fail h10
        refine ⟨V', s5, t5, ?_, (VQ_0 V _).trans hE.vq, by rw [hE.1]; exact vI_00 _ _, R5⟩
        rw [show 5 + 5 = 10 by omega] at e4
        simp (disch := omega) only [f_X12_connect, q_k hk, q_gR1 hk, q_gR2 hk, q_gR8 hk, q_gR11 hk, q_gR13 hk, q_gR14 hk, q_gR15 hk, q_gR16 hk, q_gI hk, q_pI hk, q_a hk, q_w hk, q_l hk, nW_lit, r_client, bindP, hx, zI_t, z1n0, e, ↓reduceIte, Option.bind_some, e4, e5]
theorem SI_forget {σ : Sg} {c i : Nat} (h : SI σ) (hc : c < 6) (hex : cB (gCl σ c) 3 = true) : SI (putG σ c (gSc σ, spForget (gCl σ c) i)) := by
  refine SI_put h hc (GI_K (h.1.2 c hc) hex) (fun _ _ _ => rfl) rfl ?_
  have := h.2.2.2.2.2.2 c hc
  exact this
theorem sign_same (g : GS) (kind id : Int32) : cB (spSignR g kind id).2 = cB g.2 ∧ cW (spSignR g kind id).2 = cW g.2 ∧ cL (spSignR g kind id).2 3 = cL g.2 3 ∧ cF (spSignR g kind id).2 = cF g.2 ∧ ∀ j, 10 ≤ j → (spSignR g kind id).1 j = g.1 j := by
  unfold spSignR
  exact ⟨spSend_B _ _, spSend_W _ _, spSend_L _ _ (by decide), spSend_F _ _, fun j hj => spSend_sc _ _ (by omega)⟩
theorem Op_release (x y : Int32) : OpOK (cdC 3 1 2) (f_X11_release 0 x y) (f_X12_release 908 x y) := by
  intro k M A hk5 hB hF hN hW hX
  obtain ⟨k1, k2, _⟩ := BrR_k hB
  refine Op_cl (f := fun x => f_X11_release 0 x y) (g := fun x => f_X12_release 908 x y) (by omega) hB hW (fun cc => ?_) (fun hx0 N V s t hk hR => ?_) (fun c hc hx cc => ?_)
  · simp only [f_X11_release, k1, ↓reduceIte, cc, bindX]
  · simp (disch := omega) only [f_X12_release, q_k hk, q_gR1 hk, q_gR2 hk, q_gR8 hk, q_gR11 hk, q_gR13 hk, q_gR14 hk, q_gR15 hk, q_gR16 hk, q_gI hk, q_pI hk, q_a hk, q_w hk, q_l hk, nW_lit, r_client, bindP, hx0, zI_f, ↓reduceIte, Option.bind_some, r_fails hk]
    rfl
  · have cr := c_range y (nW 1) (nW 50) M
    by_cases hy : inB y (nW 1) (nW 50) = true
    · obtain ⟨i, hi1, hi2, rfl⟩ := inB_nat (by omega) hy (by omega)
      rw [if_pos hy] at cr
      have cn := c_conn hB hc
      cases hon : cB (gCl (oS A) c) 0 with
      | false =>
        rw [hon, if_neg (by decide)] at cn
        refine Op_noClient 2 (by omega) hB hW ?_ (fun N V s t hk hR => ?_)
        · simp only [f_X11_release, k1, ↓reduceIte, cc, nW_lit, cr, cn, bindX]
        · have e := ref_isOn (N := N) (V := vI V 0 0 (nW 0)) (t := t) hk hc (RfR_on hR hc).1
          rw [hon, zI_f] at e
          simp (disch := omega) only [f_X12_release, q_k hk, q_gR1 hk, q_gR2 hk, q_gR8 hk, q_gR11 hk, q_gR13 hk, q_gR14 hk, q_gR15 hk, q_gR16 hk, q_gI hk, q_pI hk, q_a hk, q_w hk, q_l hk, nW_lit, r_client, r_in, bindP, hx, hy, zI_t, z1n0, e, ↓reduceIte, Option.bind_some, r_fails hk]
          rfl
      | true =>
        rw [hon, if_pos rfl] at cn
        obtain ⟨r1, r2, r3, r4, r5⟩ := BrR_c hB hc
        have hSt := hB.2.2.2.2.2.2
        have hZ : inZ 8 := ⟨by omega, by omega⟩
        have hex := (hW.1.1.1.2 c hc).2.2.1 hon
        have ek := Cl_keeps (hSt.2.1 c hc) (show i < 51 by omega)
        obtain ⟨M1, e1, F1, R1⟩ := Cl_forget (hZ.c hc) (hSt.2.1 c hc) hi1 hi2
        obtain ⟨H1, F1'⟩ := St_cl hSt hc F1 (fun a h => by omega) R1
        have S1 := SI_forget (i := i) hW.1.1 hc hex
        obtain ⟨M2, e2, F2, R2⟩ := St_sign (nW 4) (nW i) hZ H1 hc
        have B1 := BrR_S hB F1'.gr (fun a h => Or.inr h) H1
        have kk := (BrR_k B1).2.1
        have S2 := SI_sign (nW 4) (nW i) S1 hc (by rw [gCl_putG]; exact hon)
        rw [getG_putG, putG_putG] at R2 S2
        have sm := sign_same (gSc (oS A), spForget (gCl (oS A) c) i) (nW 4) (nW i)
        refine Op_S (zI (cK (gCl (oS A) c) i)) hB hW (M' := M2) ?_ (F1'.trans F2) (fun a h => Or.inr h) R2 (SgI_of hW.1 S2 (Pe_put hW.1.2.1 (fun _ h0 => ?_)) (NL_put sm.2.2.2.1 (Or.inl sm.2.2.1)) (Nat.le_succ _)) (fun c' _ => (NL_put (σ := oS A) (c := c) (g := spSignR (gSc (oS A), spForget (gCl (oS A) c) i) (nW 4) (nW i)) sm.2.2.2.1 (Or.inl sm.2.2.1) c').1) (fun N V s t hk hR _ => ?_)
        · simp only [f_X11_release, k1, ↓reduceIte, cc, nW_lit, cr, cn, bindX, k2, r1, r2, r4, ek, bindP, e1, kk, e2, Option.bind_some, zI_eq0]
          cases cK (gCl (oS A) c) i <;> rfl
        · rw [sm.1] at h0
          exact absurd (hon.symm.trans h0) (by decide)
        · have e := ref_isOn (N := N) (V := vI V 0 0 (nW 0)) (t := t) hk hc (RfR_on hR hc).1
          rw [hon, zI_t] at e
          have hRS := hR.2.2.2.2.2.1
          have hv : s (104 + 51 * c + i) = zI (cK (gCl (oS A) c) i) := by
            rw [Nat.add_assoc]; exact (RSt_get hRS hc).2.2.2.2.2.1 i hi1 (by omega)
          obtain ⟨G1, FT1⟩ := RG_K false hc (RSt_get hRS hc) (show i < 51 by omega)
          have H2 := RSt_put hRS G1 FT1 (Ft.refl _ _) hc
          obtain ⟨s2, t2, e3, G2, F3, Ft2⟩ := ref_answers (N := N) (V := vI V 0 0 (nW 0)) (nW 4) (nW i) hk hc G1 hR.2.2.2.2.1
          have H3 := RSt_put H2 G2 F3 Ft2 hc
          rw [putG_putG] at H3
          refine ⟨_, s2, t2, ?_, VQ_0 V _, vI_00 _ _, H3⟩
          rw [zI_f, ← Nat.add_assoc] at e3
          simp (disch := omega) only [f_X12_release, q_k hk, q_gR1 hk, q_gR2 hk, q_gR8 hk, q_gR11 hk, q_gR13 hk, q_gR14 hk, q_gR15 hk, q_gR16 hk, q_gI hk, q_pI hk, q_a hk, q_w hk, q_l hk, nW_mul, nW_add, nW_lit, r_client, r_in, bindP, hx, hy, zI_t, z1n0, e, ↓reduceIte, Option.bind_some, e3, hv]
    · have hy0 : inB y (nW 1) (nW 50) = false := by simpa using hy
      rw [if_neg hy] at cr
      refine Op_noClient 1 (by omega) hB hW ?_ (fun N V s t hk hR => ?_)
      · simp only [f_X11_release, k1, ↓reduceIte, cc, nW_lit, cr, bindX]
      · simp (disch := omega) only [f_X12_release, q_k hk, q_gR1 hk, q_gR2 hk, q_gR8 hk, q_gR11 hk, q_gR13 hk, q_gR14 hk, q_gR15 hk, q_gR16 hk, q_gI hk, q_pI hk, q_a hk, q_w hk, q_l hk, nW_lit, r_client, r_in, bindP, hx, hy0, zI_t, zI_f, z1n0, ↓reduceIte, Option.bind_some, r_fails hk]
        rfl
theorem ans_same (g : GS) (kind id : Int32) : cB (spAns g kind id).2.2 = cB g.2 ∧ cW (spAns g kind id).2.2 = cW g.2 ∧ cL (spAns g kind id).2.2 3 = cL g.2 3 ∧ cF (spAns g kind id).2.2 = cF g.2 ∧ ∀ j, 10 ≤ j → (spAns g kind id).2.1 j = g.1 j := by
  unfold spAns
  cases flAt g id with
  | none => exact ⟨rfl, rfl, rfl, rfl, fun _ _ => rfl⟩
  | some q =>
    show cB (spAnsAt g kind q).2.2 = _ ∧ cW (spAnsAt g kind q).2.2 = _ ∧ cL (spAnsAt g kind q).2.2 3 = _ ∧ cF (spAnsAt g kind q).2.2 = _ ∧ ∀ j, 10 ≤ j → (spAnsAt g kind q).2.1 j = g.1 j
    unfold spAnsAt
    split
    · have sm := sign_same g (nW 3) (((cL g.2 1).2 q).2 4)
      refine ⟨sm.1, sm.2.1, ?_, sm.2.2.2.1, sm.2.2.2.2⟩
      show cL (spRel g q).2 3 = _
      simp (disch := omega) only [spRel, uB_B, uB_I, uB_F, uB_W, uB_K, uB_N, uB_L, uI_B, uI_I, uI_F, uI_W, uI_K, uI_N, uI_L, uF_B, uF_I, uF_F, uF_W, uF_K, uF_N, uF_L, uW_B, uW_I, uW_F, uW_W, uW_K, uW_N, uW_L, uK_B, uK_I, uK_F, uK_W, uK_K, uK_N, uK_L, uN_B, uN_I, uN_F, uN_W, uN_K, uN_N, uN_L, uL_B, uL_I, uL_F, uL_W, uL_K, uL_N, uL_L, fset_ne]; exact sm.2.2.1
    · split
      · have sm := spPend_same 8 (tot g.1 9, uL g.2 1 (ldel (cL g.2 1) q))
        refine ⟨sm.1, sm.2.1, ?_, sm.2.2.2.1, fun j hj => ?_⟩
        · show cL (spEnd g q).2 3 = _
          unfold spEnd
          rw [sm.2.2.1]; simp (disch := omega) only [uB_B, uB_I, uB_F, uB_W, uB_K, uB_N, uB_L, uI_B, uI_I, uI_F, uI_W, uI_K, uI_N, uI_L, uF_B, uF_I, uF_F, uF_W, uF_K, uF_N, uF_L, uW_B, uW_I, uW_F, uW_W, uW_K, uW_N, uW_L, uK_B, uK_I, uK_F, uK_W, uK_K, uK_N, uK_L, uN_B, uN_I, uN_F, uN_W, uN_K, uN_N, uN_L, uL_B, uL_I, uL_F, uL_W, uL_K, uL_N, uL_L, fset_ne]
        · show (spEnd g q).1 j = _
          unfold spEnd
          rw [sm.2.2.2.2 j hj]; exact fset_ne _ _ (by omega)
      · exact ⟨rfl, rfl, rfl, rfl, fun _ _ => rfl⟩
theorem Op_answer (x y z : Int32) : OpOK (cdC 3 1 2) (f_X11_answer 0 x y z) (f_X12_answer 908 x y z) := by
  intro k M A hk5 hB hF hN hW hX
  obtain ⟨k1, k2, _⟩ := BrR_k hB
  refine Op_cl (f := fun x => f_X11_answer 0 x y z) (g := fun x => f_X12_answer 908 x y z) (by omega) hB hW (fun cc => ?_) (fun hx0 N V s t hk hR => ?_) (fun c hc hx cc => ?_)
  · simp only [f_X11_answer, k1, ↓reduceIte, cc, bindX]
  · simp (disch := omega) only [f_X12_answer, q_k hk, q_gR1 hk, q_gR2 hk, q_gR8 hk, q_gR11 hk, q_gR13 hk, q_gR14 hk, q_gR15 hk, q_gR16 hk, q_gI hk, q_pI hk, q_a hk, q_w hk, q_l hk, nW_lit, r_client, bindP, hx0, zI_f, ↓reduceIte, Option.bind_some, r_fails hk]
    rfl
  · by_cases hkd : y = nW 1 ∨ y = nW 2 ∨ y = nW 4
    · have ef : f_X11_answer 0 (nW c) y z M = f_X11_answer_J27 0 (nW c) y z M := by
        rcases hkd with rfl | rfl | rfl
        · simp only [f_X11_answer, k1, ↓reduceIte, cc, bindX, nW_lit]
        · simp only [f_X11_answer, k1, ↓reduceIte, cc, bindX, nW_lit, d21]
        · simp only [f_X11_answer, k1, ↓reduceIte, cc, bindX, nW_lit, d41, d42]
      have eg : ∀ N V s t, KR N → f_X12_answer 908 (nW c) y z (QW N V s t) = f_X12_answer_J33 908 (nW c) y z (QW N (vI V 0 0 (nW 0)) s t) := fun N V s t hk => by
        rcases hkd with rfl | rfl | rfl
        · simp (disch := omega) only [f_X12_answer, q_k hk, q_gR1 hk, q_gR2 hk, q_gR8 hk, q_gR11 hk, q_gR13 hk, q_gR14 hk, q_gR15 hk, q_gR16 hk, q_gI hk, q_pI hk, q_a hk, q_w hk, q_l hk, nW_lit, r_client, bindP, hx, zI_t, z1n0, ↓reduceIte, Option.bind_some]
        · simp (disch := omega) only [f_X12_answer, q_k hk, q_gR1 hk, q_gR2 hk, q_gR8 hk, q_gR11 hk, q_gR13 hk, q_gR14 hk, q_gR15 hk, q_gR16 hk, q_gI hk, q_pI hk, q_a hk, q_w hk, q_l hk, nW_lit, r_client, bindP, hx, zI_t, z1n0, ↓reduceIte, Option.bind_some, d21]
        · simp (disch := omega) only [f_X12_answer, q_k hk, q_gR1 hk, q_gR2 hk, q_gR8 hk, q_gR11 hk, q_gR13 hk, q_gR14 hk, q_gR15 hk, q_gR16 hk, q_gI hk, q_pI hk, q_a hk, q_w hk, q_l hk, nW_lit, r_client, bindP, hx, zI_t, z1n0, ↓reduceIte, Option.bind_some, d41, d42]
      have cr := c_range z (nW 1) (nW 50) M
      by_cases hy : inB z (nW 1) (nW 50) = true
      · obtain ⟨i, hi1, hi2, rfl⟩ := inB_nat (by omega) hy (by omega)
        rw [if_pos hy] at cr
        have cn := c_conn hB hc
        cases hon : cB (gCl (oS A) c) 0 with
        | false =>
          rw [hon, if_neg (by decide)] at cn
          refine Op_noClient 2 (by omega) hB hW ?_ (fun N V s t hk hR => ?_)
          · rw [ef]; simp only [f_X11_answer_J27, cc, nW_lit, cr, cn, bindX]
          · have e := ref_isOn (N := N) (V := vI V 0 0 (nW 0)) (t := t) hk hc (RfR_on hR hc).1
            rw [hon, zI_f] at e
            rw [eg N V s t hk]
            simp (disch := omega) only [f_X12_answer_J33, nW_lit, r_in, bindP, hy, zI_t, z1n0, e, ↓reduceIte, r_fails hk]
            rfl
        | true =>
          rw [hon, if_pos rfl] at cn
          obtain ⟨r1, r2, r3, r4, r5⟩ := BrR_c hB hc
          have hSt := hB.2.2.2.2.2.2
          have hZ : inZ 8 := ⟨by omega, by omega⟩
          have hG := hW.1.1.1.2 c hc
          obtain ⟨M1, e1, F1, R1⟩ := C_answer y (nW i) (hZ.s hc) (StR_get hSt hc) hG
          have H1 := StR_put hSt hc F1 R1
          have sm := ans_same (getG (oS A) c) y (nW i)
          have S1 : SI (putG (oS A) c (spAns (getG (oS A) c) y (nW i)).2) := SI_put hW.1.1 hc (GI_ans hG hon) (fun j h1 h2 => sm.2.2.2.2 j h1) sm.2.2.1 (by
            have := hW.1.1.2.2.2.2.2.2 c hc
            unfold WiOk at this ⊢
            rw [sm.1, sm.2.1]; exact this)
          have NLx : NL (oS A) (putG (oS A) c (spAns (getG (oS A) c) y (nW i)).2) := NL_put sm.2.2.2.1 (Or.inl sm.2.2.1)
          refine Op_S (zI (spAns (getG (oS A) c) y (nW i)).1) hB hW (M' := M1) ?_ (F1.mono (fun a h => CZ_SZ hc h)) (fun a h => Or.inr h) H1 (SgI_of hW.1 S1 (Pe_put hW.1.2.1 (fun _ h0 => ?_)) NLx (Nat.le_succ _)) (fun c' _ => (NLx c').1) (fun N V s t hk hR _ => ?_)
          · rw [ef]
            simp only [f_X11_answer_J27, cc, nW_lit, cr, cn, bindX, k2, r1, r2, e1, bindP, Option.bind_some, zI_eq0]
            cases (spAns (getG (oS A) c) y (nW i)).1 <;> rfl
          · rw [sm.1] at h0
            exact absurd (hon.symm.trans h0) (by decide)
          · obtain ⟨s', t', e3, G3, FT3, Ft3⟩ := ref_answer (N := N) (V := vI V 0 0 (nW 0)) hk hc (RSt_get hR.2.2.2.2.2.1 hc) hG hon hR.2.2.2.2.1 ⟨hi1, hi2⟩ hkd
            exact ⟨_, s', t', (eg N V s t hk).trans e3, VQ_0 V _, vI_00 _ _, RSt_put hR.2.2.2.2.2.1 G3 FT3 Ft3 hc⟩
      · have hy0 : inB z (nW 1) (nW 50) = false := by simpa using hy
        rw [if_neg hy] at cr
        refine Op_noClient 1 (by omega) hB hW ?_ (fun N V s t hk hR => ?_)
        · rw [ef]; simp only [f_X11_answer_J27, nW_lit, cr, bindX]
        · rw [eg N V s t hk]
          simp (disch := omega) only [f_X12_answer_J33, f_X12_answer_J43, nW_lit, r_in, bindP, hy0, zI_f, ↓reduceIte, r_fails hk]
          rfl
    · have y1 : ¬ y = nW 1 := fun h => hkd (Or.inl h)
      have y2 : ¬ y = nW 2 := fun h => hkd (Or.inr (Or.inl h))
      have y4 : ¬ y = nW 4 := fun h => hkd (Or.inr (Or.inr h))
      refine Op_noClient 1 (by omega) hB hW ?_ (fun N V s t hk hR => ?_)
      · simp only [f_X11_answer, k1, ↓reduceIte, cc, bindX, nW_lit, y1, y2, y4]
      · simp (disch := omega) only [f_X12_answer, f_X12_answer_J43, q_k hk, q_gR1 hk, q_gR2 hk, q_gR8 hk, q_gR11 hk, q_gR13 hk, q_gR14 hk, q_gR15 hk, q_gR16 hk, q_gI hk, q_pI hk, q_a hk, q_w hk, q_l hk, nW_lit, r_client, bindP, hx, zI_t, z1n0, ↓reduceIte, Option.bind_some, y1, y2, y4, r_fails hk]
        rfl
