/-! WHAT OPERATIONS LEAVE: flags, wills, kept identifiers, subscriptions, loads; and the count of topics -/
def SB (σ σ' : Sg) : Prop := ∀ c, cB (gCl σ' c) = cB (gCl σ c) ∧ cW (gCl σ' c) = cW (gCl σ c) ∧ cK (gCl σ' c) = cK (gCl σ c) ∧ cL (gCl σ' c) 3 = cL (gCl σ c) 3 ∧ cF (gCl σ' c) = cF (gCl σ c)
theorem SB.refl (σ : Sg) : SB σ σ := fun _ => ⟨rfl, rfl, rfl, rfl, rfl⟩
theorem SB.trans {σ σ' σ'' : Sg} (h : SB σ σ') (g : SB σ' σ'') : SB σ σ'' := fun c => by
  obtain ⟨a1, a2, a3, a4, a5⟩ := h c
  obtain ⟨b1, b2, b3, b4, b5⟩ := g c
  exact ⟨b1.trans a1, b2.trans a2, b3.trans a3, b4.trans a4, b5.trans a5⟩
theorem SB_put {σ : Sg} {c : Nat} {g : GS} (h : cB g.2 = cB (gCl σ c) ∧ cW g.2 = cW (gCl σ c) ∧ cK g.2 = cK (gCl σ c) ∧ cL g.2 3 = cL (gCl σ c) 3 ∧ cF g.2 = cF (gCl σ c)) : SB σ (putG σ c g) := by
  intro c'
  have ecl : gCl (putG σ c g) c' = if c' = c then g.2 else gCl σ c' := rfl
  rw [ecl]
  by_cases e : c' = c
  · subst e; rw [if_pos rfl]; exact h
  · rw [if_neg e]; exact ⟨rfl, rfl, rfl, rfl, rfl⟩
theorem SB_give (σ : Sg) (c : Nat) (r : Row) : SB σ (putG σ c (spGive (getG σ c) r)) := SB_put (spGive_same _ _)
theorem gTa_put (σ : Sg) (c : Nat) (g : GS) : gTa (putG σ c g) = gTa σ := rfl
theorem SB_spC (t : Txt) (g p : Int32) (by' : Nat) : ∀ n c (a : Sg × Nat), SB a.1 (spC t g p by' n c a).1 ∧ gTa (spC t g p by' n c a).1 = gTa a.1
  | 0, c, a => ⟨SB.refl _, rfl⟩
  | n + 1, c, a => by
    rw [spC]
    obtain ⟨h1, h2⟩ := SB_spC t g p by' n (c + 1) (if spBest (cL (gCl a.1 c) 3) t (decide (c = by')) = -nW 1 then a else (putG a.1 c (spGive (getG a.1 c) (msg t (iminE g (spBest (cL (gCl a.1 c) 3) t (decide (c = by')))) p (nW 0))), a.2 + 1))
    by_cases he : spBest (cL (gCl a.1 c) 3) t (decide (c = by')) = -nW 1
    · rw [if_pos he] at h1 h2 ⊢; exact ⟨h1, h2⟩
    · rw [if_neg he] at h1 h2 ⊢
      exact ⟨(SB_give _ _ _).trans h1, h2⟩
theorem SB_spH (t : Txt) (g p : Int32) : ∀ n h (a : Sg × Nat), SB a.1 (spH t g p n h a).1 ∧ gTa (spH t g p n h a).1 = gTa a.1
  | 0, h, a => ⟨SB.refl _, rfl⟩
  | n + 1, h, a => by
    rw [spH]
    obtain ⟨h1, h2⟩ := SB_spH t g p n (h + 1) (if spMatch ((gSh a.1).getD h shD).1 t = true then (giveH a.1 t g p h, a.2 + 1) else a)
    by_cases he : spMatch ((gSh a.1).getD h shD).1 t = true
    · rw [if_pos he] at h1 h2 ⊢
      exact ⟨SB.trans (σ' := giveH a.1 t g p h) (fun c => SB_give (turnS a.1 h) (pickS a.1 h) _ c) h1, h2⟩
    · rw [if_neg he] at h1 h2 ⊢; exact ⟨h1, h2⟩
theorem SB_pub0 (σ : Sg) (r : Row) (ret : Bool) : SB σ (spPub0 σ r ret) ∧ gTa (spPub0 σ r ret) = spCount (gTa σ) r.1 := by
  unfold spPub0
  split
  · exact ⟨SB.refl _, rfl⟩
  · exact ⟨SB.refl _, rfl⟩
theorem SB_publ (σ : Sg) (r : Row) (ret : Bool) (by' : Nat) : SB σ (spPubl σ r ret by').1 ∧ gTa (spPubl σ r ret by').1 = spCount (gTa σ) r.1 := by
  unfold spPubl
  obtain ⟨a1, a2⟩ := SB_pub0 σ r ret
  obtain ⟨b1, b2⟩ := SB_spC r.1 (r.2 1) (r.2 2) by' 6 0 (spPub0 σ r ret, 0)
  obtain ⟨d1, d2⟩ := SB_spH r.1 (r.2 1) (r.2 2) (gSh σ).length 0 (spC r.1 (r.2 1) (r.2 2) by' 6 0 (spPub0 σ r ret, 0))
  exact ⟨(a1.trans b1).trans d1, (d2.trans b2).trans a2⟩
theorem spCount_le (l : Ls (Txt × Int32)) (t : Txt) : (spCount l t).1 ≤ l.1 + 1 := by
  unfold spCount
  split
  · exact Nat.le_refl _
  · exact Nat.le_succ _
theorem SB_GR (c : Nat) (t : Txt) (g : Int32) : ∀ n i σ, SB σ (spGR c t g n i σ) ∧ gTa (spGR c t g n i σ) = gTa σ
  | 0, i, σ => ⟨SB.refl _, rfl⟩
  | n + 1, i, σ => by
    rw [spGR]
    by_cases he : spMatch t ((gRe σ).2 i).1 = true
    · rw [if_pos he]
      obtain ⟨h1, h2⟩ := SB_GR c t g n (i + 1) (putG σ c (spGive (getG σ c) (msg ((gRe σ).2 i).1 (iminE (((gRe σ).2 i).2 1) g) (((gRe σ).2 i).2 2) (nW 2))))
      exact ⟨(SB_give _ _ _).trans h1, h2⟩
    · rw [if_neg he]; exact SB_GR c t g n (i + 1) σ
/-! sessions outlive a connection only where it was not clean -/
theorem Pe_B {σ σ' : Sg} (h : Pe σ) (hB : ∀ c, c < 6 → cB (gCl σ' c) 3 = true → cB (gCl σ' c) 0 = false → cB (gCl σ' c) = cB (gCl σ c)) : Pe σ' := fun c hc h3 h0 => by
  have e := hB c hc h3 h0
  rw [e] at h3 h0 ⊢; exact h c hc h3 h0
theorem Pe_SB {σ σ' : Sg} (h : Pe σ) (g : SB σ σ') : Pe σ' := Pe_B h (fun c _ _ _ => (g c).1)
theorem Pe_put {σ : Sg} {c : Nat} {g : GS} (h : Pe σ) (hg : cB g.2 3 = true → cB g.2 0 = false → cB g.2 4 = false) : Pe (putG σ c g) := by
  intro c' hc' h3 h0
  have ecl : gCl (putG σ c g) c' = if c' = c then g.2 else gCl σ c' := rfl
  rw [ecl] at h3 h0 ⊢
  by_cases e : c' = c
  · subst e; rw [if_pos rfl] at h3 h0 ⊢; exact hg h3 h0
  · rw [if_neg e] at h3 h0 ⊢; exact h c' hc' h3 h0
theorem Pe_remove {σ : Sg} {c : Nat} (h : Pe σ) : Pe (spRemove σ c) := by
  have : Pe (putG σ c (gSc σ, spClear (gCl σ c))) := Pe_put h (fun h3 _ => by
    simp (disch := omega) only [spClear, uB_B, uB_I, uB_F, uB_W, uB_K, uB_N, uB_L, uI_B, uI_I, uI_F, uI_W, uI_K, uI_N, uI_L, uF_B, uF_I, uF_F, uF_W, uF_K, uF_N, uF_L, uW_B, uW_I, uW_F, uW_W, uW_K, uW_N, uW_L, uK_B, uK_I, uK_F, uK_W, uK_K, uK_N, uK_L, uN_B, uN_I, uN_F, uN_W, uN_K, uN_N, uN_L, uL_B, uL_I, uL_F, uL_W, uL_K, uL_N, uL_L, fset_ne, fset_eq] at h3
    cases h3)
  exact this
theorem Pe_endC {σ : Sg} {c : Nat} (h : Pe σ) : Pe (spEndC σ c) := by
  unfold spEndC
  split
  · rename_i hc
    intro c' hc' h3 h0
    have ecl : gCl (spRemove (putG σ c (gSc σ, spOff (gCl σ c) (gSc σ 14))) c) c' = if c' = c then spClear (spOff (gCl σ c) (gSc σ 14)) else gCl σ c' := by
      rw [spRemove_put]
      rfl
    rw [ecl] at h3 h0 ⊢
    by_cases e : c' = c
    · subst e; rw [if_pos rfl] at h3
      simp (disch := omega) only [spClear, spOff, uB_B, uB_I, uB_F, uB_W, uB_K, uB_N, uB_L, uI_B, uI_I, uI_F, uI_W, uI_K, uI_N, uI_L, uF_B, uF_I, uF_F, uF_W, uF_K, uF_N, uF_L, uW_B, uW_I, uW_F, uW_W, uW_K, uW_N, uW_L, uK_B, uK_I, uK_F, uK_W, uK_K, uK_N, uK_L, uN_B, uN_I, uN_F, uN_W, uN_K, uN_N, uN_L, uL_B, uL_I, uL_F, uL_W, uL_K, uL_N, uL_L, fset_ne, fset_eq] at h3
      cases h3
    · rw [if_neg e] at h3 h0 ⊢; exact h c' hc' h3 h0
  · rename_i hc
    refine Pe_put h (fun _ _ => ?_)
    simp (disch := omega) only [spOff, uB_B, uB_I, uB_F, uB_W, uB_K, uB_N, uB_L, uI_B, uI_I, uI_F, uI_W, uI_K, uI_N, uI_L, uF_B, uF_I, uF_F, uF_W, uF_K, uF_N, uF_L, uW_B, uW_I, uW_F, uW_W, uW_K, uW_N, uW_L, uK_B, uK_I, uK_F, uK_W, uK_K, uK_N, uK_L, uN_B, uN_I, uN_F, uN_W, uN_K, uN_N, uN_L, uL_B, uL_I, uL_F, uL_W, uL_K, uL_N, uL_L, fset_ne]
    cases e : cB (gCl σ c) 4 with
    | true => exact absurd e hc
    | false => rfl
theorem Pe_fail {σ : Sg} {c : Nat} (h : Pe σ) : Pe (spFail σ c).2 := by
  have h1 := Pe_endC (c := c) h
  unfold spFail
  split
  · refine Pe_SB ?_ (SB_publ _ _ _ _).1
    unfold spNoWill
    intro c' hc' h3 h0
    have ecl : gCl (putG (spEndC σ c) c (tot (gSc (spEndC σ c)) 6, uB (gCl (spEndC σ c) c) 1 false)) c' = if c' = c then uB (gCl (spEndC σ c) c) 1 false else gCl (spEndC σ c) c' := rfl
    rw [ecl] at h3 h0 ⊢
    by_cases e : c' = c
    · subst e
      rw [if_pos rfl] at h3 h0 ⊢
      simp (disch := omega) only [uB_B, uB_I, uB_F, uB_W, uB_K, uB_N, uB_L, uI_B, uI_I, uI_F, uI_W, uI_K, uI_N, uI_L, uF_B, uF_I, uF_F, uF_W, uF_K, uF_N, uF_L, uW_B, uW_I, uW_F, uW_W, uW_K, uW_N, uW_L, uK_B, uK_I, uK_F, uK_W, uK_K, uK_N, uK_L, uN_B, uN_I, uN_F, uN_W, uN_K, uN_N, uN_L, uL_B, uL_I, uL_F, uL_W, uL_K, uL_N, uL_L, fset_ne] at h3 h0 ⊢
      exact h1 c' hc' h3 h0
    · rw [if_neg e] at h3 h0 ⊢; exact h1 c' hc' h3 h0
  · exact h1
theorem Pe_conn {σ : Sg} {c : Nat} (clean : Bool) (h : Pe σ) : Pe (spConn σ c clean).2 := by
  have h1 : Pe (cnPre σ c clean) := by
    unfold cnPre; split
    · exact Pe_remove h
    · exact h
  unfold spConn
  split
  · refine Pe_put h1 (fun _ h0 => ?_)
    unfold cnRes at h0
    rw [(spPend_same _ _).1, (spResN_same _ _ _).1] at h0
    have h0' : fset (cB (gCl (cnPre σ c clean) c)) 0 true 0 = false := h0
    rw [fset_eq] at h0'; cases h0'
  · refine Pe_put h1 (fun _ h0 => ?_)
    simp (disch := omega) only [cnNew, spClear, uB_B, uB_I, uB_F, uB_W, uB_K, uB_N, uB_L, uI_B, uI_I, uI_F, uI_W, uI_K, uI_N, uI_L, uF_B, uF_I, uF_F, uF_W, uF_K, uF_N, uF_L, uW_B, uW_I, uW_F, uW_W, uW_K, uW_N, uW_L, uK_B, uK_I, uK_F, uK_W, uK_K, uK_N, uK_L, uN_B, uN_I, uN_F, uN_W, uN_K, uN_N, uN_L, uL_B, uL_I, uL_F, uL_W, uL_K, uL_N, uL_L, fset_ne, fset_eq] at h0
    cases h0
