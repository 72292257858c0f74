/-! WHAT SENDING CHANGES: the packets counted, the totals -/
theorem add_w0 (x : Int32) : x + nW 0 = x := Int32.add_zero x
theorem add_nW (x : Int32) (a b : Nat) : x + nW a + nW b = x + nW (a + b) := by rw [Int32.add_assoc, nW_add]
def PrG (n : Nat) (g g' : GS) : Prop := (∃ m, m ≤ n ∧ cI g'.2 0 = cI g.2 0 + nW m) ∧ ∀ i, i ≠ 2 → i ≠ 4 → i ≠ 8 → g'.1 i = g.1 i
theorem PrG.refl (g : GS) : PrG 0 g g := ⟨⟨0, Nat.le_refl _, (add_w0 _).symm⟩, fun _ _ _ _ => rfl⟩
theorem PrG.trans {n m : Nat} {g g' g'' : GS} (h : PrG n g g') (k : PrG m g' g'') : PrG (n + m) g g'' := by
  obtain ⟨⟨a, ha, ea⟩, h2⟩ := h
  obtain ⟨⟨b, hb, eb⟩, k2⟩ := k
  exact ⟨⟨a + b, by omega, by rw [eb, ea, add_nW]⟩, fun i x y z => (k2 i x y z).trans (h2 i x y z)⟩
theorem PrG.mono {n m : Nat} {g g' : GS} (h : PrG n g g') (hn : n ≤ m) : PrG m g g' := ⟨by obtain ⟨a, ha, ea⟩ := h.1; exact ⟨a, by omega, ea⟩, h.2⟩
theorem PrG.to {n : Nat} {g g' : GS} {sc : Nat → Int32} {x : Cl} (h : PrG n g g') (h1 : cI x 0 = cI g'.2 0) (h2 : ∀ i, i ≠ 2 → i ≠ 4 → i ≠ 8 → sc i = g'.1 i) : PrG n g (sc, x) :=
  ⟨by obtain ⟨a, ha, ea⟩ := h.1; exact ⟨a, ha, h1.trans ea⟩, fun i x y z => (h2 i x y z).trans (h.2 i x y z)⟩
theorem tot_ne (sc : Nat → Int32) {i j : Nat} (h : j ≠ i) : tot sc i j = sc j := fset_ne _ _ h
theorem tot_eq (sc : Nat → Int32) (i : Nat) : tot sc i i = sc i + nW 1 := fset_eq _ _ _
theorem PrG_send (g : GS) (r : Row) : PrG 1 g (spSend g r) := by
  unfold spSend
  split
  · exact ⟨⟨1, Nat.le_refl _, (fset_eq (cI g.2) 0 (cI g.2 0 + nW 1) : fset (cI g.2) 0 (cI g.2 0 + nW 1) 0 = cI g.2 0 + nW 1)⟩, fun _ _ _ _ => rfl⟩
  · exact ⟨⟨1, Nat.le_refl _, (fset_eq (cI g.2) 0 (cI g.2 0 + nW 1) : fset (cI g.2) 0 (cI g.2 0 + nW 1) 0 = cI g.2 0 + nW 1)⟩, fun i _ _ h => tot_ne _ h⟩
theorem PrG_fly (g : GS) (r : Row) : PrG 1 g (spFly g r) := by
  unfold spFly
  exact (PrG_send g _).to rfl (fun _ _ _ _ => rfl)
theorem PrG_hold (g : GS) (r : Row) : PrG 0 g (spHold g r) := by
  unfold spHold
  split
  · exact (PrG.refl g).to rfl (fun _ _ _ _ => rfl)
  · split
    · exact (PrG.refl g).to rfl (fun i h _ _ => tot_ne _ h)
    · exact (PrG.refl g).to rfl (fun i h _ _ => tot_ne _ h)
theorem PrG_give0 (g : GS) (r : Row) : PrG 1 g (spGive0 g r) := by
  unfold spGive0
  split
  · split
    · exact PrG_send _ _
    · exact ((PrG.refl g).to rfl (fun i h _ _ => tot_ne _ h)).mono (Nat.zero_le _)
  · split
    · exact PrG_fly _ _
    · exact (PrG_hold _ _).mono (Nat.zero_le _)
theorem give_1 (g : GS) (r : Row) : (spGive g r).1 1 = g.1 1 + nW 1 := ((PrG_give0 (tot g.1 1, g.2) r).2 1 (by omega) (by omega) (by omega)).trans (show tot g.1 1 1 = g.1 1 + nW 1 from tot_eq _ _)
theorem give_I (g : GS) (r : Row) : ∃ m, m ≤ 1 ∧ cI (spGive g r).2 0 = cI g.2 0 + nW m := (PrG_give0 (tot g.1 1, g.2) r).1
theorem give_s (g : GS) (r : Row) {i : Nat} (h1 : i ≠ 1) (h2 : i ≠ 2) (h4 : i ≠ 4) (h8 : i ≠ 8) : (spGive g r).1 i = g.1 i := ((PrG_give0 (tot g.1 1, g.2) r).2 i h2 h4 h8).trans (tot_ne _ h1)
theorem PrG_sign (g : GS) (kind id : Int32) : PrG 1 g (spSignR g kind id) := PrG_send _ _
theorem PrG_again (g : GS) (r : Row) : PrG 1 g (spAgain g r) := by
  unfold spAgain
  split
  · exact PrG_sign _ _ _
  · exact PrG_send _ _
theorem PrG_resend (g : GS) (i : Nat) : PrG 1 g (spResend g i) := by
  have h0 : PrG 0 g (tot g.1 4, g.2) := (PrG.refl g).to rfl (fun i _ h _ => tot_ne _ h)
  have h1 := h0.trans (PrG_again (tot g.1 4, g.2) ((cL g.2 1).2 i))
  unfold spResend
  exact (h1.to rfl (fun _ _ _ _ => rfl)).mono (by omega)
theorem PrG_resN : ∀ n i (g : GS), PrG n g (spResN n i g)
  | 0, _, g => PrG.refl g
  | n + 1, i, g => by
    rw [spResN]
    exact ((PrG_resend g i).trans (PrG_resN n (i + 1) _)).mono (by omega)
theorem PrG_late : ∀ n i (g : GS), PrG n g (spLate n i g)
  | 0, _, g => PrG.refl g
  | n + 1, i, g => by
    rw [spLate]
    split
    · exact ((PrG_resend g i).trans (PrG_late n (i + 1) _)).mono (by omega)
    · exact (PrG_late n (i + 1) _).mono (by omega)
theorem PrG_pend : ∀ n (g : GS), PrG n g (spPend n g)
  | 0, g => PrG.refl g
  | n + 1, g => by
    rw [spPend]
    split
    · exact (((PrG_fly g _).to (x := uL (spFly g ((cL g.2 2).2 0)).2 2 (ldel (cL g.2 2) 0)) rfl (fun _ _ _ _ => rfl)).trans (PrG_pend n _)).mono (by omega)
    · exact (PrG.refl g).mono (by omega)
theorem PrG_rel (g : GS) (k : Nat) : PrG 1 g (spRel g k) := by
  unfold spRel
  exact (PrG_sign g _ _).to rfl (fun _ _ _ _ => rfl)
/-! the messages that wait, and those in flight -/
theorem fly_L1 (g : GS) (r : Row) : (cL (spFly g r).2 1).1 = (cL g.2 1).1 + 1 := by
  simp (disch := omega) only [spFly, uB_B, uB_I, uB_F, uB_W, uB_K, uB_N, uB_L, uI_B, uI_I, uI_F, uI_W, uI_K, uI_N, uI_L, uF_B, uF_I, uF_F, uF_W, uF_K, uF_N, uF_L, uW_B, uW_I, uW_F, uW_W, uW_K, uW_N, uW_L, uK_B, uK_I, uK_F, uK_W, uK_K, uK_N, uK_L, uN_B, uN_I, uN_F, uN_W, uN_K, uN_N, uN_L, uL_B, uL_I, uL_F, uL_W, uL_K, uL_N, uL_L, fset_eq]; rfl
theorem pend_len : ∀ n (g : GS), (cL (spPend n g).2 1).1 + (cL (spPend n g).2 2).1 = (cL g.2 1).1 + (cL g.2 2).1
  | 0, g => rfl
  | n + 1, g => by
    rw [spPend]
    split
    · rename_i hc
      rw [pend_len n _]
      have e1 : (cL (uL (spFly g ((cL g.2 2).2 0)).2 2 (ldel (cL g.2 2) 0)) 1) = cL (spFly g ((cL g.2 2).2 0)).2 1 := by
        simp (disch := omega) only [uB_B, uB_I, uB_F, uB_W, uB_K, uB_N, uB_L, uI_B, uI_I, uI_F, uI_W, uI_K, uI_N, uI_L, uF_B, uF_I, uF_F, uF_W, uF_K, uF_N, uF_L, uW_B, uW_I, uW_F, uW_W, uW_K, uW_N, uW_L, uK_B, uK_I, uK_F, uK_W, uK_K, uK_N, uK_L, uN_B, uN_I, uN_F, uN_W, uN_K, uN_N, uN_L, uL_B, uL_I, uL_F, uL_W, uL_K, uL_N, uL_L, fset_ne]
      have e2 : (cL (uL (spFly g ((cL g.2 2).2 0)).2 2 (ldel (cL g.2 2) 0)) 2) = ldel (cL g.2 2) 0 := by
        simp only [uB_B, uB_I, uB_F, uB_W, uB_K, uB_N, uB_L, uI_B, uI_I, uI_F, uI_W, uI_K, uI_N, uI_L, uF_B, uF_I, uF_F, uF_W, uF_K, uF_N, uF_L, uW_B, uW_I, uW_F, uW_W, uW_K, uW_N, uW_L, uK_B, uK_I, uK_F, uK_W, uK_K, uK_N, uK_L, uN_B, uN_I, uN_F, uN_W, uN_K, uN_N, uN_L, uL_B, uL_I, uL_F, uL_W, uL_K, uL_N, uL_L, fset_eq]
      show (cL (uL (spFly g ((cL g.2 2).2 0)).2 2 (ldel (cL g.2 2) 0)) 1).1 + (cL (uL (spFly g ((cL g.2 2).2 0)).2 2 (ldel (cL g.2 2) 0)) 2).1 = _
      rw [e1, e2, fly_L1]
      show _ + ((cL g.2 2).1 - 1) = _
      omega
    · rfl
/-! the same of the whole state -/
def Pr (n : Nat) (σ σ' : Sg) : Prop := (∀ c, ∃ m, m ≤ n ∧ cI (gCl σ' c) 0 = cI (gCl σ c) 0 + nW m) ∧ (∀ i, i ≠ 1 → i ≠ 2 → i ≠ 4 → i ≠ 8 → gSc σ' i = gSc σ i) ∧ gRe σ' = gRe σ
theorem Pr.refl (σ : Sg) : Pr 0 σ σ := ⟨fun _ => ⟨0, Nat.le_refl _, (add_w0 _).symm⟩, fun _ _ _ _ _ => rfl, rfl⟩
theorem Pr.trans {n m : Nat} {σ σ' σ'' : Sg} (h : Pr n σ σ') (k : Pr m σ' σ'') : Pr (n + m) σ σ'' := by
  obtain ⟨h1, h2, h3⟩ := h
  obtain ⟨k1, k2, k3⟩ := k
  refine ⟨fun c => ?_, fun i x y z w => (k2 i x y z w).trans (h2 i x y z w), k3.trans h3⟩
  obtain ⟨a, ha, ea⟩ := h1 c
  obtain ⟨b, hb, eb⟩ := k1 c
  exact ⟨a + b, by omega, by rw [eb, ea, add_nW]⟩
theorem Pr.mono {n m : Nat} {σ σ' : Sg} (h : Pr n σ σ') (hn : n ≤ m) : Pr m σ σ' := ⟨fun c => by obtain ⟨a, ha, ea⟩ := h.1 c; exact ⟨a, by omega, ea⟩, h.2⟩
theorem gCl_put (σ : Sg) (c : Nat) (g : GS) (c' : Nat) : gCl (putG σ c g) c' = if c' = c then g.2 else gCl σ c' := rfl
theorem Pr_put' {n : Nat} {σ : Sg} {c : Nat} {g : GS} (h1 : ∃ m, m ≤ n ∧ cI g.2 0 = cI (gCl σ c) 0 + nW m) (h2 : ∀ i, i ≠ 1 → i ≠ 2 → i ≠ 4 → i ≠ 8 → g.1 i = gSc σ i) : Pr n σ (putG σ c g) := by
  refine ⟨fun c' => ?_, h2, rfl⟩
  rw [gCl_put]
  by_cases e : c' = c
  · rw [if_pos e, e]; exact h1
  · rw [if_neg e]; exact ⟨0, Nat.zero_le _, (add_w0 _).symm⟩
theorem Pr_put {n : Nat} {σ : Sg} {c : Nat} {g : GS} (h : PrG n (getG σ c) g) : Pr n σ (putG σ c g) := Pr_put' h.1 (fun i _ h2 h4 h8 => h.2 i h2 h4 h8)
theorem Pr_give (σ : Sg) (c : Nat) (r : Row) : Pr 1 σ (putG σ c (spGive (getG σ c) r)) := Pr_put' (give_I _ _) (fun i h1 h2 h4 h8 => give_s _ _ h1 h2 h4 h8)
theorem Pr_spC (t : Txt) (g p : Int32) (by' : Nat) : ∀ n c (a : Sg × Nat), Pr n a.1 (spC t g p by' n c a).1 ∧ ∃ k, (spC t g p by' n c a).2 = a.2 + k ∧ gSc (spC t g p by' n c a).1 1 = gSc a.1 1 + nW k
  | 0, _, a => ⟨Pr.refl _, 0, rfl, (add_w0 _).symm⟩
  | n + 1, c, a => by
    rw [spC]
    split
    · obtain ⟨h, k, e1, e2⟩ := Pr_spC t g p by' n (c + 1) a
      exact ⟨h.mono (by omega), k, e1, e2⟩
    · obtain ⟨h, k, e1, e2⟩ := Pr_spC t g p by' n (c + 1) (putG a.1 c (spGive (getG a.1 c) (msg t (iminE g (spBest (cL (gCl a.1 c) 3) t (decide (c = by')))) p (nW 0))), a.2 + 1)
      refine ⟨((Pr_give a.1 c _).trans h).mono (by omega), k + 1, by rw [e1]; show a.2 + 1 + k = _; omega, ?_⟩
      rw [e2]
      show (spGive (getG a.1 c) _).1 1 + nW k = _
      rw [give_1, add_nW, Nat.add_comm]; rfl
theorem Pr_turn (σ : Sg) (h : Nat) : Pr 0 σ (turnS σ h) := Pr.refl σ
theorem Pr_giveH (σ : Sg) (t : Txt) (g p : Int32) (h : Nat) : Pr 1 σ (giveH σ t g p h) ∧ gSc (giveH σ t g p h) 1 = gSc σ 1 + nW 1 := by
  unfold giveH
  refine ⟨((Pr_turn σ h).trans (Pr_give (turnS σ h) (pickS σ h) _)).mono (by omega), ?_⟩
  show (spGive (getG (turnS σ h) (pickS σ h)) _).1 1 = _
  rw [give_1]; rfl
theorem Pr_spH (t : Txt) (g p : Int32) : ∀ n h (a : Sg × Nat), Pr n a.1 (spH t g p n h a).1 ∧ ∃ k, (spH t g p n h a).2 = a.2 + k ∧ gSc (spH t g p n h a).1 1 = gSc a.1 1 + nW k
  | 0, _, a => ⟨Pr.refl _, 0, rfl, (add_w0 _).symm⟩
  | n + 1, h, a => by
    rw [spH]
    split
    · obtain ⟨q, k, e1, e2⟩ := Pr_spH t g p n (h + 1) (giveH a.1 t g p h, a.2 + 1)
      obtain ⟨x1, x2⟩ := Pr_giveH a.1 t g p h
      refine ⟨(x1.trans q).mono (by omega), k + 1, by rw [e1]; show a.2 + 1 + k = _; omega, ?_⟩
      rw [e2]
      show gSc (giveH a.1 t g p h) 1 + nW k = _
      rw [x2, add_nW, Nat.add_comm]
    · obtain ⟨q, k, e1, e2⟩ := Pr_spH t g p n (h + 1) a
      exact ⟨q.mono (by omega), k, e1, e2⟩
theorem Pr_GR (c : Nat) (t : Txt) (g : Int32) : ∀ n i σ, Pr n σ (spGR c t g n i σ)
  | 0, _, σ => Pr.refl σ
  | n + 1, i, σ => by
    rw [spGR]
    split
    · exact ((Pr_give σ c _).trans (Pr_GR c t g n (i + 1) _)).mono (by omega)
    · exact (Pr_GR c t g n (i + 1) σ).mono (by omega)
theorem pub0_cl (σ : Sg) (r : Row) (ret : Bool) : gCl (spPub0 σ r ret) = gCl σ ∧ gSh (spPub0 σ r ret) = gSh σ ∧ gSc (spPub0 σ r ret) = tot (gSc σ) 0 ∧ gRe (spPub0 σ r ret) = if ret = true then spRetain (gRe σ) r else gRe σ := by
  unfold spPub0
  cases ret <;> exact ⟨rfl, rfl, rfl, rfl⟩
/-- a publication: what it counts -/
theorem publ_facts (σ : Sg) (r : Row) (ret : Bool) (by' : Nat) (h36 : (gSh σ).length ≤ 36) : (∀ c, ∃ m, m ≤ 42 ∧ cI (gCl (spPubl σ r ret by').1 c) 0 = cI (gCl σ c) 0 + nW m) ∧ (∀ i, i ≠ 0 → i ≠ 1 → i ≠ 2 → i ≠ 4 → i ≠ 8 → gSc (spPubl σ r ret by').1 i = gSc σ i) ∧ gSc (spPubl σ r ret by').1 0 = gSc σ 0 + nW 1 ∧ gSc (spPubl σ r ret by').1 1 = gSc σ 1 + nW (spPubl σ r ret by').2 ∧ gRe (spPubl σ r ret by').1 = if ret = true then spRetain (gRe σ) r else gRe σ := by
  obtain ⟨p1, p2, p3, p4⟩ := pub0_cl σ r ret
  obtain ⟨h1, k1, e1, f1⟩ := Pr_spC r.1 (r.2 1) (r.2 2) by' 6 0 (spPub0 σ r ret, 0)
  obtain ⟨h2, k2, e2, f2⟩ := Pr_spH r.1 (r.2 1) (r.2 2) (gSh σ).length 0 (spC r.1 (r.2 1) (r.2 2) by' 6 0 (spPub0 σ r ret, 0))
  have h := (h1.trans h2).mono (show 6 + (gSh σ).length ≤ 42 by omega)
  have hd : spPubl σ r ret by' = spH r.1 (r.2 1) (r.2 2) (gSh σ).length 0 (spC r.1 (r.2 1) (r.2 2) by' 6 0 (spPub0 σ r ret, 0)) := rfl
  rw [hd]
  refine ⟨fun c => ?_, fun i i0 i1 i2 i4 i8 => ?_, ?_, ?_, ?_⟩
  · obtain ⟨m, hm, em⟩ := h.1 c
    refine ⟨m, hm, ?_⟩
    rw [em]
    show cI (gCl (spPub0 σ r ret) c) 0 + _ = _
    rw [p1]
  · rw [h.2.1 i i1 i2 i4 i8]
    show gSc (spPub0 σ r ret) i = _
    rw [p3]; exact tot_ne _ i0
  · rw [h.2.1 0 (by omega) (by omega) (by omega) (by omega)]
    show gSc (spPub0 σ r ret) 0 = _
    rw [p3]; exact tot_eq _ _
  · rw [f2, f1, e2, e1, add_nW, Nat.zero_add]
    show gSc (spPub0 σ r ret) 1 + _ = _
    rw [p3, tot_ne _ (by omega)]
  · rw [h.2.2]
    show gRe (spPub0 σ r ret) = _
    exact p4
/-! as many copies as the audience -/
theorem shPut_tx (l : List Sh) (h : Nat) (m : List Nat) (j : Nat) : ((shPut l h m).getD j shD).1 = (l.getD j shD).1 := by
  unfold shPut
  rw [List.getD_eq_getElem?_getD, List.getElem?_set]
  by_cases e : h = j
  · subst e
    rw [if_pos rfl]
    by_cases hl : h < l.length
    · rw [if_pos hl]; try rfl
    · rw [if_neg hl, List.getD_eq_getElem?_getD, List.getElem?_eq_none (by omega)]; try rfl
  · rw [if_neg e, List.getD_eq_getElem?_getD]
theorem spC_aud (σ : Sg) (t : Txt) (g p : Int32) (by' : Nat) : ∀ n c (a : Sg × Nat), (∀ c', cL (gCl a.1 c') 3 = cL (gCl σ c') 3) → gSh a.1 = gSh σ → (spC t g p by' n c a).2 = auC σ t by' n c a.2 ∧ gSh (spC t g p by' n c a).1 = gSh σ
  | 0, _, a, _, h => ⟨rfl, h⟩
  | n + 1, c, a, h, h2 => by
    rw [spC, auC, h c]
    by_cases e : spBest (cL (gCl σ c) 3) t (decide (c = by')) = -nW 1
    · rw [if_pos e, if_pos e]; exact spC_aud σ t g p by' n (c + 1) a h h2
    · rw [if_neg e, if_neg e]
      exact spC_aud σ t g p by' n (c + 1) _ (fun c' => ((SB_give a.1 c _ c').2.2.2.1).trans (h c')) h2
theorem spH_aud (σ : Sg) (t : Txt) (g p : Int32) : ∀ n h (a : Sg × Nat), (∀ j, ((gSh a.1).getD j shD).1 = ((gSh σ).getD j shD).1) → (spH t g p n h a).2 = auH σ t n h a.2
  | 0, _, _, _ => rfl
  | n + 1, h, a, hh => by
    rw [spH, auH, hh h]
    cases e : spMatch ((gSh σ).getD h shD).1 t with
    | true =>
      rw [if_pos rfl, if_pos rfl]
      exact spH_aud σ t g p n (h + 1) _ (fun j => (shPut_tx (gSh a.1) h _ j).trans (hh j))
    | false =>
      rw [if_neg (by decide), if_neg (by decide)]
      exact spH_aud σ t g p n (h + 1) a hh
theorem publ_aud (σ : Sg) (r : Row) (ret : Bool) (by' : Nat) : (spPubl σ r ret by').2 = auH σ r.1 (gSh σ).length 0 (auC σ r.1 by' 6 0 0) := by
  obtain ⟨p1, p2, p3, p4⟩ := pub0_cl σ r ret
  obtain ⟨h1, h2⟩ := spC_aud σ r.1 (r.2 1) (r.2 2) by' 6 0 (spPub0 σ r ret, 0) (fun c' => by show cL (gCl (spPub0 σ r ret) c') 3 = _; rw [p1]) p2
  have h3 := spH_aud σ r.1 (r.2 1) (r.2 2) (gSh σ).length 0 (spC r.1 (r.2 1) (r.2 2) by' 6 0 (spPub0 σ r ret, 0)) (fun j => by rw [h2])
  show (spH r.1 (r.2 1) (r.2 2) (gSh σ).length 0 (spC r.1 (r.2 1) (r.2 2) by' 6 0 (spPub0 σ r ret, 0))).2 = _
  rw [h3, h1]
/-! what always holds: publication, and a connection's failure -/
theorem SI_spC {t : Txt} {p : Int32} {by' g : Nat} (hg : g ≤ 2) (htop : topical t) : ∀ n c (a : Sg × Nat), c + n ≤ 6 → SI a.1 → SI (spC t (nW g) p by' n c a).1
  | 0, _, _, _, h => h
  | n + 1, c, a, hc, h => by
    rw [spC]
    by_cases hb : spBest (cL (gCl a.1 c) 3) t (decide (c = by')) = -nW 1
    · rw [if_pos hb]; exact SI_spC hg htop n (c + 1) a (by omega) h
    · rw [if_neg hb]
      obtain ⟨b, b1, b2⟩ := (spBest_val t (decide (c = by')) (h.2.1 c (by omega)).1).resolve_left hb
      have hne : (cL (gCl a.1 c) 3).1 ≠ 0 := fun h0 => hb (spBest_zero _ _ h0)
      have hgr : ∃ n, n ≤ 2 ∧ iminE (nW g) (spBest (cL (gCl a.1 c) 3) t (decide (c = by'))) = nW n := by rw [b2]; exact imin_nW hg b1
      exact SI_spC hg htop n (c + 1) _ (by omega) (SI_giveC (pay := p) (fl := nW 0) h (by omega) htop hgr hne)
theorem SI_spH {t : Txt} {p : Int32} {g : Nat} (hg : g ≤ 2) (htop : topical t) : ∀ n h (a : Sg × Nat), h + n ≤ (gSh a.1).length → SI a.1 → SI (spH t (nW g) p n h a).1
  | 0, _, _, _, h => h
  | n + 1, h, a, hh, hS => by
    rw [spH]
    split
    · have hlt : h < (gSh a.1).length := by omega
      have S1 := SI_turn hS hlt
      have mem : pickS a.1 h ∈ ((gSh a.1).getD h shD).2.2 := shPick_mem (hS.2.2.1.1 _ (shAt_get hlt)).2.2
      have p6 : pickS a.1 h < 6 := (hS.2.2.1.1 _ (shAt_get hlt)).1 _ mem
      have hsub := hS.2.1 (pickS a.1 h) p6
      obtain ⟨j, j1, j2⟩ := ((hS.2.2.2.1 (pickS a.1 h) p6).1 _ (shAt_get hlt)).mp mem
      have hne : (cL (gCl a.1 (pickS a.1 h)) 3).1 ≠ 0 := by omega
      have hgg : ∃ n, n ≤ 2 ∧ spGradeOf (cL (gCl a.1 (pickS a.1 h)) 3) ((gSh a.1).getD h shD).1 ((gSh a.1).getD h shD).2.1 = nW n := by
        rw [spGradeOf_grd]
        cases e : subAt (cL (gCl a.1 (pickS a.1 h)) 3) ((gSh a.1).getD h shD).1 ((gSh a.1).getD h shD).2.1 with
        | none => exact ⟨0, by omega, rfl⟩
        | some k => exact (hsub.1 k (subAt_lt e).1).2.2.1
      obtain ⟨b, b1, b2⟩ := hgg
      have hgr : ∃ n, n ≤ 2 ∧ iminE (nW g) (spGradeOf (cL (gCl a.1 (pickS a.1 h)) 3) ((gSh a.1).getD h shD).1 ((gSh a.1).getD h shD).2.1) = nW n := by rw [b2]; exact imin_nW hg b1
      have S2 : SI (giveH a.1 t (nW g) p h) := SI_giveC (σ := turnS a.1 h) (pay := p) (fl := nW 0) S1 p6 htop hgr hne
      have hl2 : (gSh (giveH a.1 t (nW g) p h)).length = (gSh a.1).length := len_setL _ _ _
      exact SI_spH hg htop n (h + 1) _ (by show h + 1 + n ≤ (gSh (giveH a.1 t (nW g) p h)).length; rw [hl2]; omega) S2
    · exact SI_spH hg htop n (h + 1) a (by omega) hS
theorem SI_publP {σ : Sg} {r : Row} {by' : Nat} (ret : Bool) (hS : SI σ) (hx : okTx r.1) (htop : topical r.1) (hg : ∃ n, n ≤ 2 ∧ r.2 1 = nW n) : SI (spPubl σ r ret by').1 := by
  obtain ⟨g, g1, g2⟩ := hg
  have S0 : SI (spPub0 σ r ret) := SI_pub0 hS hx htop ⟨g, g1, g2⟩
  obtain ⟨p1, p2, p3, p4⟩ := pub0_cl σ r ret
  have S1 := SI_spC (p := r.2 2) (by' := by') g1 htop 6 0 (spPub0 σ r ret, 0) (by omega) S0
  have h2 := (spC_aud σ r.1 (nW g) (r.2 2) by' 6 0 (spPub0 σ r ret, 0) (fun c' => by show cL (gCl (spPub0 σ r ret) c') 3 = _; rw [p1]) p2).2
  show SI (spH r.1 (r.2 1) (r.2 2) (gSh σ).length 0 (spC r.1 (r.2 1) (r.2 2) by' 6 0 (spPub0 σ r ret, 0))).1
  rw [g2]
  exact SI_spH g1 htop _ 0 _ (by rw [h2]; omega) S1
theorem SI_failP {σ : Sg} {c : Nat} (hS : SI σ) (hc : c < 6) : SI (spFail σ c).2 := by
  have S1 := SI_endC hS hc
  unfold spFail
  cases hwl : cB (gCl (spEndC σ c) c) 1 with
  | false => exact S1
  | true =>
    have wok := S1.2.2.2.2.2.2 c hc hwl
    exact SI_publP (by' := c) _ (SI_noWill S1 hc) wok.1 wok.2.1 wok.2.2
