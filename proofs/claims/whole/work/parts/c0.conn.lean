/-! WHAT OPERATIONS LEAVE of loads and filters -/
def NL (σ σ' : Sg) : Prop := ∀ c, cF (gCl σ' c) = cF (gCl σ c) ∧ (cL (gCl σ' c) 3 = cL (gCl σ c) 3 ∨ (cL (gCl σ' c) 3).1 = 0)
theorem NL.refl (σ : Sg) : NL σ σ := fun _ => ⟨rfl, Or.inl rfl⟩
theorem NL.trans {σ σ' σ'' : Sg} (h : NL σ σ') (g : NL σ' σ'') : NL σ σ'' := fun c => by
  obtain ⟨a1, a2⟩ := h c
  obtain ⟨b1, b2⟩ := g c
  refine ⟨b1.trans a1, ?_⟩
  rcases b2 with b2 | b2
  · rw [b2]; exact a2
  · exact Or.inr b2
theorem SB.nl {σ σ' : Sg} (h : SB σ σ') : NL σ σ' := fun c => ⟨(h c).2.2.2.2, Or.inl (h c).2.2.2.1⟩
theorem NL_put {σ : Sg} {c : Nat} {g : GS} (h1 : cF g.2 = cF (gCl σ c)) (h2 : cL g.2 3 = cL (gCl σ c) 3 ∨ (cL g.2 3).1 = 0) : NL σ (putG σ c g) := by
  intro c'
  have ecl : gCl (putG σ c g) c' = if c' = c then g.2 else gCl σ c' := rfl
  rw [ecl]
  by_cases e : c' = c
  · subst e; rw [if_pos rfl]; exact ⟨h1, h2⟩
  · rw [if_neg e]; exact ⟨rfl, Or.inl rfl⟩
theorem NL.ne {σ σ' : Sg} (h : NeS σ) (g : NL σ σ') : NeS σ' := fun c hc j hj => by
  rcases (g c).2 with e | e
  · rw [e] at hj ⊢; exact h c hc j hj
  · rw [e] at hj; exact absurd hj (Nat.not_lt_zero j)
theorem NL_clear (x : Cl) : cF (spClear x) = cF x ∧ (cL (spClear x) 3).1 = 0 := by
  refine ⟨rfl, ?_⟩
  simp (disch := omega) only [spClear, uB_B, uB_I, uB_F, uB_W, uB_K, uB_N, uB_L, uI_B, uI_I, uI_F, uI_W, uI_K, uI_N, uI_L, uF_B, uF_I, uF_F, uF_W, uF_K, uF_N, uF_L, uW_B, uW_I, uW_F, uW_W, uW_K, uW_N, uW_L, uK_B, uK_I, uK_F, uK_W, uK_K, uK_N, uK_L, uN_B, uN_I, uN_F, uN_W, uN_K, uN_N, uN_L, uL_B, uL_I, uL_F, uL_W, uL_K, uL_N, uL_L, fset_eq]
theorem NL_remove (σ : Sg) (c : Nat) : NL σ (spRemove σ c) := by
  have : NL σ (putG σ c (gSc σ, spClear (gCl σ c))) := NL_put (NL_clear _).1 (Or.inr (NL_clear _).2)
  exact this
theorem NL_endC (σ : Sg) (c : Nat) : NL σ (spEndC σ c) := by
  have h1 : NL σ (putG σ c (gSc σ, spOff (gCl σ c) (gSc σ 14))) := NL_put rfl (Or.inl (by simp (disch := omega) only [spOff, uB_B, uB_I, uB_F, uB_W, uB_K, uB_N, uB_L, uI_B, uI_I, uI_F, uI_W, uI_K, uI_N, uI_L, uF_B, uF_I, uF_F, uF_W, uF_K, uF_N, uF_L, uW_B, uW_I, uW_F, uW_W, uW_K, uW_N, uW_L, uK_B, uK_I, uK_F, uK_W, uK_K, uK_N, uK_L, uN_B, uN_I, uN_F, uN_W, uN_K, uN_N, uN_L, uL_B, uL_I, uL_F, uL_W, uL_K, uL_N, uL_L, fset_ne]))
  unfold spEndC
  split
  · exact h1.trans (NL_remove _ c)
  · exact h1
theorem NL_fail (σ : Sg) (c : Nat) : NL σ (spFail σ c).2 := by
  unfold spFail
  split
  · refine (NL_endC σ c).trans (NL.trans ?_ (SB_publ _ _ _ _).1.nl)
    exact NL_put rfl (Or.inl rfl)
  · exact NL_endC σ c
theorem gTa_fail (σ : Sg) (c : Nat) : (gTa (spFail σ c).2).1 ≤ (gTa σ).1 + 1 := by
  unfold spFail
  split
  · have := spCount_le (gTa (spNoWill (spEndC σ c) c)) (cW (gCl (spEndC σ c) c)).1
    have e : gTa (spNoWill (spEndC σ c) c) = gTa σ := gTa_endC σ c
    rw [e] at this
    show (gTa (spPubl _ _ _ _).1).1 ≤ _
    rw [(SB_publ _ _ _ _).2, e]; exact this
  · show (gTa (spEndC σ c)).1 ≤ _
    rw [gTa_endC]; exact Nat.le_succ _
theorem NL_conn (σ : Sg) (c : Nat) (clean : Bool) : NL σ (spConn σ c clean).2 := by
  have h1 : NL σ (cnPre σ c clean) := by
    unfold cnPre; split
    · exact NL_remove σ c
    · exact NL.refl σ
  unfold spConn
  split
  · refine h1.trans (NL_put ?_ (Or.inl ?_))
    · unfold cnRes
      rw [(spPend_same _ _).2.2.2.1, (spResN_same _ _ _).2.2.2.1]; rfl
    · unfold cnRes
      rw [(spPend_same _ _).2.2.1, (spResN_same _ _ _).2.2.1]; rfl
  · refine h1.trans (NL_put rfl (Or.inr ?_))
    have := (NL_clear (uB (gCl (cnPre σ c clean) c) 0 true)).2
    simp only [cnNew, uB_B, uB_I, uB_F, uB_W, uB_K, uB_N, uB_L, uI_B, uI_I, uI_F, uI_W, uI_K, uI_N, uI_L, uF_B, uF_I, uF_F, uF_W, uF_K, uF_N, uF_L, uW_B, uW_I, uW_F, uW_W, uW_K, uW_N, uW_L, uK_B, uK_I, uK_F, uK_W, uK_K, uK_N, uK_L, uN_B, uN_I, uN_F, uN_W, uN_K, uN_N, uN_L, uL_B, uL_I, uL_F, uL_W, uL_K, uL_N, uL_L]; exact this
theorem gTa_conn (σ : Sg) (c : Nat) (clean : Bool) : gTa (spConn σ c clean).2 = gTa σ := by
  have h1 : gTa (cnPre σ c clean) = gTa σ := by unfold cnPre; split <;> rfl
  unfold spConn
  split
  · exact h1
  · exact h1
theorem SgI_of {k : Nat} {σ σ' : Sg} (h : SgI k σ) (hS : SI σ') (hP : Pe σ') (hN : NL σ σ') (hT : (gTa σ').1 ≤ (gTa σ).1 + 1) : SgI (k + 1) σ' := ⟨hS, hP, fun c hc => by rw [(hN c).1]; exact h.2.2.1 c hc, hN.ne h.2.2.2.1, by have := h.2.2.2.2; omega⟩
theorem SI_fail {σ : Sg} {c : Nat} (hw : WtR σ) (hS : SI σ) (hc : c < 6) (hex : cB (gCl σ c) 3 = true) (hta : (gTa σ).1 < 512) : SI (spFail σ c).2 := by
  obtain ⟨N, s, t, hk, hR⟩ := hw
  obtain ⟨V', s', t', _, _, _, h⟩ := ref_breaks (V := (fun _ _ => nW 0, fun _ _ => nL 0, fun _ _ => 0)) hk hR hS hc hex hta
  exact h
theorem WtR_tot {σ : Sg} {i : Nat} (h : WtR σ) (hi : i < 10) : WtR (uSc σ (tot (gSc σ) i)) := by
  obtain ⟨N, s, t, hk, hR⟩ := h
  exact ⟨N, _, t, hk, RSt_tot hR hi⟩
/-! a call of a connected client -/
theorem Op_cl {w : Nat} {cd : Nat → Nat} {k : Nat} {M : Mem} {A : Wh} {x : Int32} {f : Int32 → Mem → Option ((Int32 ⊕ Nat) × Mem)} {g : Int32 → Mem → Option (Int32 × Mem)} (hw : 1 ≤ w) (hB : BrR M A) (hW : WI k A) (e0 : f_X11_requireClient x M = some (.inr 3, xM M) → f x M = some (.inr 3, xM M)) (r0 : inB x (nW 0) (nW 5) = false → ∀ N V s t, KR N → RfR V s t A → g x (QW N V s t) = some (nW 0, QW N (vI (vI V 0 0 (nW 0)) 0 0 (nW (cd 3))) s t)) (main : ∀ c, c < 6 → inB (nW c) (nW 0) (nW 5) = true → f_X11_requireClient (nW c) M = some (.inl (), M) → OpAt w cd k M A (fun _ => True) (f (nW c)) (g (nW c))) (h9 : cd 3 < 9 := by decide) : OpAt w cd k M A (fun _ => True) (f x) (g x) := by
  have cc := c_client x M
  by_cases hx : inB x (nW 0) (nW 5) = true
  · obtain ⟨c, _, hc, rfl⟩ := inB_nat (by omega) hx (by omega)
    rw [if_pos hx] at cc
    exact main c (by omega) hx cc
  · have hx0 : inB x (nW 0) (nW 5) = false := by simpa using hx
    rw [if_neg hx] at cc
    exact Op_noClient 3 hw hB hW (e0 cc) (r0 hx0) h9
theorem Op_disconnect (x : Int32) : OpOK (cdB 3 2) (f_X11_disconnect 0 x) (f_X12_disconnect 908 x) := by
  intro k M A hk5 hB hF hN hW _
  obtain ⟨k1, k2, _⟩ := BrR_k hB
  refine Op_cl (f := f_X11_disconnect 0) (g := f_X12_disconnect 908) (by omega) hB hW (fun cc => ?_) (fun hx0 N V s t hk hR => ?_) (fun c hc hx cc => ?_)
  · simp only [f_X11_disconnect, k1, ↓reduceIte, cc, bindX]
  · simp (disch := omega) only [f_X12_disconnect, q_k hk, q_gR1 hk, q_gR2 hk, q_gR8 hk, q_gR11 hk, q_gR13 hk, q_gR14 hk, q_gR15 hk, q_gR16 hk, q_gI hk, q_pI hk, q_a hk, q_w hk, q_l hk, nW_lit, r_client, bindP, hx0, zI_f, ↓reduceIte, Option.bind_some, r_fails hk]
    rfl
  · have cn := c_conn hB hc
    cases hon : cB (gCl (oS A) c) 0 with
    | false =>
      rw [hon, if_neg (by decide)] at cn
      refine Op_noClient 2 (by omega) hB hW ?_ (fun N V s t hk hR => ?_)
      · simp only [f_X11_disconnect, k1, ↓reduceIte, cc, cn, bindX]
      · have e := ref_isOn (N := N) (V := vI V 0 0 (nW 0)) (t := t) hk hc (RfR_on hR hc).1
        rw [hon, zI_f] at e
        simp (disch := omega) only [f_X12_disconnect, q_k hk, q_gR1 hk, q_gR2 hk, q_gR8 hk, q_gR11 hk, q_gR13 hk, q_gR14 hk, q_gR15 hk, q_gR16 hk, q_gI hk, q_pI hk, q_a hk, q_w hk, q_l hk, nW_lit, r_client, bindP, hx, zI_t, z1n0, e, ↓reduceIte, Option.bind_some, r_fails hk]
        rfl
    | true =>
      rw [hon, if_pos rfl] at cn
      obtain ⟨r1, r2, r3, r4, r5⟩ := BrR_c hB hc
      have hSt := hB.2.2.2.2.2.2
      have hZ : inZ 8 := ⟨by omega, by omega⟩
      have hex := (hW.1.1.1.2 c hc).2.2.1 hon
      obtain ⟨M1, e1, F1, R1⟩ := Cl_B false (hZ.c hc) (hSt.2.1 c hc) (show 1 < 3 by omega)
      rw [zI_f] at e1
      obtain ⟨H1, F1'⟩ := St_cl hSt hc F1 (fun a h => by omega) R1
      have S1 : SI (putG (oS A) c (gSc (oS A), uB (gCl (oS A) c) 1 false)) := SI_put hW.1.1 hc (GI_B1 (hW.1.1.1.2 c hc) false) (fun _ _ _ => rfl) rfl (fun e => by
        simp (disch := omega) only [uB_B, uB_I, uB_F, uB_W, uB_K, uB_N, uB_L, uI_B, uI_I, uI_F, uI_W, uI_K, uI_N, uI_L, uF_B, uF_I, uF_F, uF_W, uF_K, uF_N, uF_L, uW_B, uW_I, uW_F, uW_W, uW_K, uW_N, uW_L, uK_B, uK_I, uK_F, uK_W, uK_K, uK_N, uK_L, uN_B, uN_I, uN_F, uN_W, uN_K, uN_N, uN_L, uL_B, uL_I, uL_F, uL_W, uL_K, uL_N, uL_L, fset_eq] at e
        cases e)
      obtain ⟨M2, e2, F2, R2⟩ := St_endC hZ H1 S1 hc
      have B1 := BrR_S hB F1'.gr (fun a h => Or.inr h) H1
      have B2 := BrR_S B1 F2.gr (fun a h => Or.inr h) R2
      have kk := (BrR_k B1).2.1
      have rr := (BrR_c B2 hc).2.2.2.1
      have ss := (BrR_s B2 hc).1
      have NLx : NL (oS A) (spEndC (putG (oS A) c (gSc (oS A), uB (gCl (oS A) c) 1 false)) c) := NL.trans (NL_put rfl (Or.inl rfl)) (NL_endC _ c)
      refine Op_S (zI (cB (gCl (spEndC (putG (oS A) c (gSc (oS A), uB (gCl (oS A) c) 1 false)) c) c) 3)) hB hW (M' := M2) ?_ (F1'.trans F2) (fun a h => Or.inr h) R2 (SgI_of hW.1 (SI_endC S1 hc) (Pe_endC (Pe_put hW.1.2.1 (fun _ h0 => ?_))) NLx (by rw [gTa_endC]; exact Nat.le_succ _)) (fun c' _ => (NLx c').1) (fun N V s t hk hR _ => ?_)
      · simp only [f_X11_disconnect, k1, ↓reduceIte, cc, cn, bindX, k2, r1, r2, nW_lit, e1, kk, e2, rr, ss, Option.bind_some, zI_eq0, pS]
        cases cB (gCl (spEndC (putG (oS A) c (gSc (oS A), uB (gCl (oS A) c) 1 false)) c) c) 3 <;> rfl
      · simp (disch := omega) only [uB_B, uB_I, uB_F, uB_W, uB_K, uB_N, uB_L, uI_B, uI_I, uI_F, uI_W, uI_K, uI_N, uI_L, uF_B, uF_I, uF_F, uF_W, uF_K, uF_N, uF_L, uW_B, uW_I, uW_F, uW_W, uW_K, uW_N, uW_L, uK_B, uK_I, uK_F, uK_W, uK_K, uK_N, uK_L, uN_B, uN_I, uN_F, uN_W, uN_K, uN_N, uN_L, uL_B, uL_I, uL_F, uL_W, uL_K, uL_N, uL_L, fset_ne] at h0
        exact absurd (hon.symm.trans h0) (by decide)
      · have e := ref_isOn (N := N) (V := vI V 0 0 (nW 0)) (t := t) hk hc (RfR_on hR hc).1
        rw [hon, zI_t] at e
        have hRS := hR.2.2.2.2.2.1
        have H2 : RSt (fset s (74 + c) (nW 0)) t (putG (oS A) c (gSc (oS A), uB (gCl (oS A) c) 1 false)) := by
          refine RSt_put hRS ?_ (fun i h1 h2 => by unfold cs at h2; simp (disch := omega) only [fset_ne]) (fun _ _ => rfl) hc
          obtain ⟨hsc, ⟨l1, l2, l3, l4⟩, ⟨a1, a2, a3, a4, a5, a6, a7, a8⟩, b, w, k, u, f, p, q⟩ := RSt_get hRS hc
          refine ⟨hsc.fr (fun i hi => by simp (disch := omega) only [fset_ne]), ⟨l1, l2, l3, l4⟩, ?_, ?_, ?_, k.fr hc (fun i h1 h2 => by simp (disch := omega) only [fset_ne]), u.fr hc l4 (fun i h1 h2 => by simp (disch := omega) only [fset_ne]) (fun _ _ _ => rfl), f.fr hc l2 (fun i h1 h2 => by simp (disch := omega) only [fset_ne]) (fun _ _ _ => rfl), p.fr hc l3 (fun i h1 h2 => by simp (disch := omega) only [fset_ne]) (fun _ _ _ => rfl), q.fr hc l1 (fun i h1 h2 => by simp (disch := omega) only [fset_ne]) (fun _ _ _ => rfl)⟩
          · unfold R_c1
            simp (disch := omega) only [uB_B, uB_I, uB_F, uB_W, uB_K, uB_N, uB_L, uI_B, uI_I, uI_F, uI_W, uI_K, uI_N, uI_L, uF_B, uF_I, uF_F, uF_W, uF_K, uF_N, uF_L, uW_B, uW_I, uW_F, uW_W, uW_K, uW_N, uW_L, uK_B, uK_I, uK_F, uK_W, uK_K, uK_N, uK_L, uN_B, uN_I, uN_F, uN_W, uN_K, uN_N, uN_L, uL_B, uL_I, uL_F, uL_W, uL_K, uL_N, uL_L, fset_ne, fset_eq, zI_f]
            exact ⟨a1, a2, a3, a4, a5, a6, trivial, a8⟩
          · have := b.fr hc (s' := fset s (74 + c) (nW 0)) (fun i h1 h2 => by simp (disch := omega) only [fset_ne])
            unfold R_c2 at this ⊢
            simp (disch := omega) only [uB_B, uB_I, uB_F, uB_W, uB_K, uB_N, uB_L, uI_B, uI_I, uI_F, uI_W, uI_K, uI_N, uI_L, uF_B, uF_I, uF_F, uF_W, uF_K, uF_N, uF_L, uW_B, uW_I, uW_F, uW_W, uW_K, uW_N, uW_L, uK_B, uK_I, uK_F, uK_W, uK_K, uK_N, uK_L, uN_B, uN_I, uN_F, uN_W, uN_K, uN_N, uN_L, uL_B, uL_I, uL_F, uL_W, uL_K, uL_N, uL_L, fset_ne] at this ⊢; exact this
          · intro e
            simp (disch := omega) only [uB_B, uB_I, uB_F, uB_W, uB_K, uB_N, uB_L, uI_B, uI_I, uI_F, uI_W, uI_K, uI_N, uI_L, uF_B, uF_I, uF_F, uF_W, uF_K, uF_N, uF_L, uW_B, uW_I, uW_F, uW_W, uW_K, uW_N, uW_L, uK_B, uK_I, uK_F, uK_W, uK_K, uK_N, uK_L, uN_B, uN_I, uN_F, uN_W, uN_K, uN_N, uN_L, uL_B, uL_I, uL_F, uL_W, uL_K, uL_N, uL_L, fset_eq] at e
            cases e
        obtain ⟨s2, t2, e2', R2'⟩ := ref_leaves (N := N) (V := vI V 0 0 (nW 0)) hk H2 S1 hc (by rw [gCl_putG]; exact hex)
        refine ⟨_, s2, t2, ?_, VQ_0 V _, vI_00 _ _, R2'⟩
        have e3 := (R2'.2.1 c hc).2.1.1
        simp (disch := omega) only [f_X12_disconnect, q_k hk, q_gR1 hk, q_gR2 hk, q_gR8 hk, q_gR11 hk, q_gR13 hk, q_gR14 hk, q_gR15 hk, q_gR16 hk, q_gI hk, q_pI hk, q_a hk, q_w hk, q_l hk, nW_add, nW_mul, nW_le, nW_lt, irem_nW, ix_nW, nW_lit, r_client, bindP, hx, zI_t, z1n0, e, ↓reduceIte, Option.bind_some, e2', e3]
theorem Op_break (x : Int32) : OpOK (cdB 3 2) (f_X11_breakConnection 0 x) (f_X12_breakConnection 908 x) := by
  intro k M A hk5 hB hF hN hW hX
  obtain ⟨k1, k2, _⟩ := BrR_k hB
  refine Op_cl (f := f_X11_breakConnection 0) (g := f_X12_breakConnection 908) (by omega) hB hW (fun cc => ?_) (fun hx0 N V s t hk hR => ?_) (fun c hc hx cc => ?_)
  · simp only [f_X11_breakConnection, k1, ↓reduceIte, cc, bindX]
  · simp (disch := omega) only [f_X12_breakConnection, q_k hk, q_gR1 hk, q_gR2 hk, q_gR8 hk, q_gR11 hk, q_gR13 hk, q_gR14 hk, q_gR15 hk, q_gR16 hk, q_gI hk, q_pI hk, q_a hk, q_w hk, q_l hk, nW_lit, r_client, bindP, hx0, zI_f, ↓reduceIte, Option.bind_some, r_fails hk]
    rfl
  · have cn := c_conn hB hc
    cases hon : cB (gCl (oS A) c) 0 with
    | false =>
      rw [hon, if_neg (by decide)] at cn
      refine Op_noClient 2 (by omega) hB hW ?_ (fun N V s t hk hR => ?_)
      · simp only [f_X11_breakConnection, k1, ↓reduceIte, cc, cn, bindX]
      · have e := ref_isOn (N := N) (V := vI V 0 0 (nW 0)) (t := t) hk hc (RfR_on hR hc).1
        rw [hon, zI_f] at e
        simp (disch := omega) only [f_X12_breakConnection, q_k hk, q_gR1 hk, q_gR2 hk, q_gR8 hk, q_gR11 hk, q_gR13 hk, q_gR14 hk, q_gR15 hk, q_gR16 hk, q_gI hk, q_pI hk, q_a hk, q_w hk, q_l hk, nW_lit, r_client, bindP, hx, zI_t, z1n0, e, ↓reduceIte, Option.bind_some, r_fails hk]
        rfl
    | true =>
      rw [hon, if_pos rfl] at cn
      have hSt := hB.2.2.2.2.2.2
      have hZ : inZ 8 := ⟨by omega, by omega⟩
      have hex := (hW.1.1.1.2 c hc).2.2.1 hon
      have hta : (gTa (oS A)).1 < 512 := by have := hW.1.2.2.2.2; omega
      obtain ⟨M2, e2, F2, R2⟩ := St_fail hZ hSt hW.1.1 hc hta
      have S2 := SI_fail hX hW.1.1 hc hex hta
      refine Op_S (zI (spFail (oS A) c).1) hB hW (M' := M2) ?_ F2 (fun a h => Or.inr h) R2 (SgI_of hW.1 S2 (Pe_fail hW.1.2.1) (NL_fail _ c) (gTa_fail _ c)) (fun c' _ => (NL_fail _ c c').1) (fun N V s t hk hR _ => ?_)
      · simp only [f_X11_breakConnection, k1, ↓reduceIte, cc, cn, bindX, k2, e2, bindP, Option.bind_some]
      · have e := ref_isOn (N := N) (V := vI V 0 0 (nW 0)) (t := t) hk hc (RfR_on hR hc).1
        rw [hon, zI_t] at e
        obtain ⟨V', s', t', e3, hE, R3, _⟩ := ref_breaks (N := N) (V := vI V 0 0 (nW 0)) hk hR.2.2.2.2.2.1 hW.1.1 hc hex hta
        refine ⟨V', s', t', ?_, (VQ_0 V _).trans hE.vq, by rw [hE.1]; exact vI_00 _ _, R3⟩
        simp (disch := omega) only [f_X12_breakConnection, q_k hk, q_gR1 hk, q_gR2 hk, q_gR8 hk, q_gR11 hk, q_gR13 hk, q_gR14 hk, q_gR15 hk, q_gR16 hk, q_gI hk, q_pI hk, q_a hk, q_w hk, q_l hk, nW_lit, r_client, bindP, hx, zI_t, z1n0, e, ↓reduceIte, Option.bind_some, e3]
