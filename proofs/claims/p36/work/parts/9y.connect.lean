/-! A CLIENT CONNECTS (behind a takeover) -/
def Pe (σ : Sg) : Prop := ∀ c, c < 6 → cB (gCl σ c) 3 = true → cB (gCl σ c) 0 = false → cB (gCl σ c) 4 = false
def cnPre (σ : Sg) (c : Nat) (clean : Bool) : Sg := if clean = true ∧ cB (gCl σ c) 3 = true then spRemove σ c else σ
def cnNew (x : Cl) (clean : Bool) : Cl := uB (uB (spClear (uB x 0 true)) 3 true) 4 clean
def cnRes (g : GS) : GS := spPend 8 (spResN (cL g.2 1).1 0 g)
def spConn (σ : Sg) (c : Nat) (clean : Bool) : Bool × Sg := if cB (gCl (cnPre σ c clean) c) 3 = true then (true, putG (cnPre σ c clean) c (cnRes (gSc (cnPre σ c clean), uB (gCl (cnPre σ c clean) c) 0 true))) else (false, putG (cnPre σ c clean) c (gSc (cnPre σ c clean), cnNew (gCl (cnPre σ c clean) c) clean))
theorem SI_pre {σ : Sg} {c : Nat} (h : SI σ) (hc : c < 6) (hon : cB (gCl σ c) 0 = false) (clean : Bool) : SI (cnPre σ c clean) ∧ cB (gCl (cnPre σ c clean) c) 0 = false := by
  unfold cnPre
  split
  · refine ⟨SI_remove h hc hon, ?_⟩
    show cB (fset (gCl σ) c (spClear (gCl σ c)) c) 0 = false
    rw [fset_eq]; simp (disch := omega) only [spClear, uB_B, uB_I, uB_F, uB_W, uB_K, uB_N, uB_L, uI_B, uI_I, uI_F, uI_W, uI_K, uI_N, uI_L, uF_B, uF_I, uF_F, uF_W, uF_K, uF_N, uF_L, uW_B, uW_I, uW_F, uW_W, uW_K, uW_N, uW_L, uK_B, uK_I, uK_F, uK_W, uK_K, uK_N, uK_L, uN_B, uN_I, uN_F, uN_W, uN_K, uN_N, uN_L, uL_B, uL_I, uL_F, uL_W, uL_K, uL_N, uL_L, fset_ne]; exact hon
  · exact ⟨h, hon⟩
theorem GI_on {g : GS} (h : GI g) (hex : cB g.2 3 = true) : GI (g.1, uB g.2 0 true) := by
  obtain ⟨h1, ⟨l1, l2, l3, l4⟩, h3, h4, h5, h6, h7, h8, h9, h10⟩ := h
  unfold GI lim1
  simp (disch := omega) only [uB_B, uB_I, uB_F, uB_W, uB_K, uB_N, uB_L, uI_B, uI_I, uI_F, uI_W, uI_K, uI_N, uI_L, uF_B, uF_I, uF_F, uF_W, uF_K, uF_N, uF_L, uW_B, uW_I, uW_F, uW_W, uW_K, uW_N, uW_L, uK_B, uK_I, uK_F, uK_W, uK_K, uK_N, uK_L, uN_B, uN_I, uN_F, uN_W, uN_K, uN_N, uN_L, uL_B, uL_I, uL_F, uL_W, uL_K, uL_N, uL_L, fset_ne, fset_eq]
  exact ⟨h1, ⟨l1, l2, l3, l4⟩, fun _ => hex, h4, h5, h6, h7, h8, fun e => absurd e (by decide), h10⟩
theorem GI_new {g : GS} (h : GI g) (hon : cB g.2 0 = false) (clean : Bool) : GI (g.1, cnNew g.2 clean) := by
  obtain ⟨h1, ⟨l1, l2, l3, l4⟩, h3, h4, h5, h6, h7, h8, h9, h10⟩ := h
  unfold GI lim1
  simp (disch := omega) only [cnNew, spClear, uB_B, uB_I, uB_F, uB_W, uB_K, uB_N, uB_L, uI_B, uI_I, uI_F, uI_W, uI_K, uI_N, uI_L, uF_B, uF_I, uF_F, uF_W, uF_K, uF_N, uF_L, uW_B, uW_I, uW_F, uW_W, uW_K, uW_N, uW_L, uK_B, uK_I, uK_F, uK_W, uK_K, uK_N, uK_L, uN_B, uN_I, uN_F, uN_W, uN_K, uN_N, uN_L, uL_B, uL_I, uL_F, uL_W, uL_K, uL_N, uL_L, fset_ne, fset_eq]
  refine ⟨h1, ⟨l1, by omega, by omega, by omega⟩, fun _ => trivial, fun _ => ⟨⟨by omega, by omega⟩, by rw [spIn_false]; intro j hj; exact absurd hj (Nat.not_lt_zero j)⟩, h5, fun j hj => absurd hj (Nat.not_lt_zero j), fun i j hi => absurd hi (Nat.not_lt_zero i), fun j hj => absurd hj (Nat.not_lt_zero j), fun e => absurd e (by decide), fun e => absurd e (by decide)⟩
theorem spResend_same (g : GS) (i : Nat) : cB (spResend g i).2 = cB g.2 ∧ cW (spResend g i).2 = cW g.2 ∧ cL (spResend g i).2 3 = cL g.2 3 ∧ cF (spResend g i).2 = cF g.2 ∧ ∀ j, 10 ≤ j → (spResend g i).1 j = g.1 j := by
  have k := Kp_again g i
  refine ⟨spResend_B g i, k.1, k.2.2.2, ?_, fun j hj => ?_⟩
  · simp only [spResend, uB_B, uB_I, uB_F, uB_W, uB_K, uB_N, uB_L, uI_B, uI_I, uI_F, uI_W, uI_K, uI_N, uI_L, uF_B, uF_I, uF_F, uF_W, uF_K, uF_N, uF_L, uW_B, uW_I, uW_F, uW_W, uW_K, uW_N, uW_L, uK_B, uK_I, uK_F, uK_W, uK_K, uK_N, uK_L, uN_B, uN_I, uN_F, uN_W, uN_K, uN_N, uN_L, uL_B, uL_I, uL_F, uL_W, uL_K, uL_N, uL_L]
    unfold spAgain spSignR
    split <;> exact spSend_F _ _
  · show (spAgain (tot g.1 4, g.2) _).1 j = _
    rw [spAgain_sc _ _ (by omega)]; exact fset_ne _ _ (by omega)
theorem spResN_same : ∀ n i (g : GS), cB (spResN n i g).2 = cB g.2 ∧ cW (spResN n i g).2 = cW g.2 ∧ cL (spResN n i g).2 3 = cL g.2 3 ∧ cF (spResN n i g).2 = cF g.2 ∧ ∀ j, 10 ≤ j → (spResN n i g).1 j = g.1 j
  | 0, i, g => ⟨rfl, rfl, rfl, rfl, fun _ _ => rfl⟩
  | n + 1, i, g => by
    obtain ⟨a1, a2, a3, a4, a5⟩ := spResN_same n (i + 1) (spResend g i)
    obtain ⟨b1, b2, b3, b4, b5⟩ := spResend_same g i
    exact ⟨a1.trans b1, a2.trans b2, a3.trans b3, a4.trans b4, fun j hj => (a5 j hj).trans (b5 j hj)⟩
theorem spPend_same : ∀ n (g : GS), cB (spPend n g).2 = cB g.2 ∧ cW (spPend n g).2 = cW g.2 ∧ cL (spPend n g).2 3 = cL g.2 3 ∧ cF (spPend n g).2 = cF g.2 ∧ ∀ j, 10 ≤ j → (spPend n g).1 j = g.1 j
  | 0, g => ⟨rfl, rfl, rfl, rfl, fun _ _ => rfl⟩
  | n + 1, g => by
    rw [spPend]
    split
    · obtain ⟨a1, a2, a3, a4, a5⟩ := spPend_same n ((spFly g ((cL g.2 2).2 0)).1, uL (spFly g ((cL g.2 2).2 0)).2 2 (ldel (cL g.2 2) 0))
      refine ⟨a1.trans ?_, a2.trans ?_, a3.trans ?_, a4.trans ?_, fun j hj => (a5 j hj).trans ?_⟩
      · simp only [uB_B, uB_I, uB_F, uB_W, uB_K, uB_N, uB_L, uI_B, uI_I, uI_F, uI_W, uI_K, uI_N, uI_L, uF_B, uF_I, uF_F, uF_W, uF_K, uF_N, uF_L, uW_B, uW_I, uW_F, uW_W, uW_K, uW_N, uW_L, uK_B, uK_I, uK_F, uK_W, uK_K, uK_N, uK_L, uN_B, uN_I, uN_F, uN_W, uN_K, uN_N, uN_L, uL_B, uL_I, uL_F, uL_W, uL_K, uL_N, uL_L]; exact spFly_B _ _
      · simp only [uB_B, uB_I, uB_F, uB_W, uB_K, uB_N, uB_L, uI_B, uI_I, uI_F, uI_W, uI_K, uI_N, uI_L, uF_B, uF_I, uF_F, uF_W, uF_K, uF_N, uF_L, uW_B, uW_I, uW_F, uW_W, uW_K, uW_N, uW_L, uK_B, uK_I, uK_F, uK_W, uK_K, uK_N, uK_L, uN_B, uN_I, uN_F, uN_W, uN_K, uN_N, uN_L, uL_B, uL_I, uL_F, uL_W, uL_K, uL_N, uL_L]; exact spFly_W _ _
      · simp only [uB_B, uB_I, uB_F, uB_W, uB_K, uB_N, uB_L, uI_B, uI_I, uI_F, uI_W, uI_K, uI_N, uI_L, uF_B, uF_I, uF_F, uF_W, uF_K, uF_N, uF_L, uW_B, uW_I, uW_F, uW_W, uW_K, uW_N, uW_L, uK_B, uK_I, uK_F, uK_W, uK_K, uK_N, uK_L, uN_B, uN_I, uN_F, uN_W, uN_K, uN_N, uN_L, uL_B, uL_I, uL_F, uL_W, uL_K, uL_N, uL_L, fset_ne _ _ (show (3 : Nat) ≠ 2 by omega)]; exact spFly_L2 _ _ (by decide) (by decide)
      · simp only [uB_B, uB_I, uB_F, uB_W, uB_K, uB_N, uB_L, uI_B, uI_I, uI_F, uI_W, uI_K, uI_N, uI_L, uF_B, uF_I, uF_F, uF_W, uF_K, uF_N, uF_L, uW_B, uW_I, uW_F, uW_W, uW_K, uW_N, uW_L, uK_B, uK_I, uK_F, uK_W, uK_K, uK_N, uK_L, uN_B, uN_I, uN_F, uN_W, uN_K, uN_N, uN_L, uL_B, uL_I, uL_F, uL_W, uL_K, uL_N, uL_L]; exact spFly_F _ _
      · show (spSend _ _).1 j = _; exact spSend_sc' _ _ hj
    · exact ⟨rfl, rfl, rfl, rfl, fun _ _ => rfl⟩
theorem SI_conn {σ : Sg} {c : Nat} (h : SI σ) (hc : c < 6) (hon : cB (gCl σ c) 0 = false) (clean : Bool) : SI (spConn σ c clean).2 := by
  obtain ⟨h1, h2⟩ := SI_pre h hc hon clean
  unfold spConn
  split
  · rename_i hex
    have hg := GI_on (h1.1.2 c hc) hex
    obtain ⟨g1, g2⟩ := GI_resN (cL (uB (gCl (cnPre σ c clean) c) 0 true) 1).1 0 hg (show fset (cB (gCl (cnPre σ c clean) c)) 0 true 0 = true from fset_eq _ _ _) (by rw [Nat.zero_add]; exact Nat.le_refl _)
    obtain ⟨a1, a2, a3, a4, a5⟩ := spResN_same (cL (uB (gCl (cnPre σ c clean) c) 0 true) 1).1 0 (gSc (cnPre σ c clean), uB (gCl (cnPre σ c clean) c) 0 true)
    obtain ⟨b1, b2, b3, b4, b5⟩ := spPend_same 8 (spResN (cL (uB (gCl (cnPre σ c clean) c) 0 true) 1).1 0 (gSc (cnPre σ c clean), uB (gCl (cnPre σ c clean) c) 0 true))
    refine SI_put h1 hc (GI_pend 8 g1) (fun i hi _ => (b5 i hi).trans (a5 i hi)) (b3.trans a3) ?_
    have hw := h1.2.2.2.2.2.2 c hc
    unfold WiOk at hw ⊢
    show cB (cnRes _).2 1 = true → _
    unfold cnRes
    rw [b1, a1, b2, a2]
    simp (disch := omega) only [uB_B, uB_I, uB_F, uB_W, uB_K, uB_N, uB_L, uI_B, uI_I, uI_F, uI_W, uI_K, uI_N, uI_L, uF_B, uF_I, uF_F, uF_W, uF_K, uF_N, uF_L, uW_B, uW_I, uW_F, uW_W, uW_K, uW_N, uW_L, uK_B, uK_I, uK_F, uK_W, uK_K, uK_N, uK_L, uN_B, uN_I, uN_F, uN_W, uN_K, uN_N, uN_L, uL_B, uL_I, uL_F, uL_W, uL_K, uL_N, uL_L, fset_ne]; exact hw
  · rename_i hex
    have hex' : cB (gCl (cnPre σ c clean) c) 3 = false := by
      cases e : cB (gCl (cnPre σ c clean) c) 3 with
      | true => exact absurd e hex
      | false => rfl
    have h0 := ((h1.1.2 c hc).2.2.2.2.2.2.2.2.2 hex').2.2.1
    -- no subscriptions before and after
    obtain ⟨⟨q0, q1⟩, q2, q3, q4, q5, q6, q7⟩ := h1
    have ecl : ∀ c', gCl (putG (cnPre σ c clean) c (gSc (cnPre σ c clean), cnNew (gCl (cnPre σ c clean) c) clean)) c' = if c' = c then cnNew (gCl (cnPre σ c clean) c) clean else gCl (cnPre σ c clean) c' := fun c' => rfl
    have z3 : (cL (cnNew (gCl (cnPre σ c clean) c) clean) 3).1 = 0 := by simp (disch := omega) only [cnNew, spClear, uB_B, uB_I, uB_F, uB_W, uB_K, uB_N, uB_L, uI_B, uI_I, uI_F, uI_W, uI_K, uI_N, uI_L, uF_B, uF_I, uF_F, uF_W, uF_K, uF_N, uF_L, uW_B, uW_I, uW_F, uW_W, uW_K, uW_N, uW_L, uK_B, uK_I, uK_F, uK_W, uK_K, uK_N, uK_L, uN_B, uN_I, uN_F, uN_W, uN_K, uN_N, uN_L, uL_B, uL_I, uL_F, uL_W, uL_K, uL_N, uL_L, fset_eq]
    refine ⟨⟨q0, fun c' hc' => ?_⟩, fun c' hc' => ?_, q3, fun c' hc' => ⟨fun x hx => ?_, fun j hj hg => ?_⟩, q5, q6, fun c' hc' => ?_⟩
    · show GI (gSc (cnPre σ c clean), gCl (putG _ c _) c')
      rw [ecl]
      by_cases e : c' = c
      · subst e; rw [if_pos rfl]; exact GI_new (q1 c' hc') h2 clean
      · rw [if_neg e]; exact q1 c' hc'
    · rw [ecl]
      by_cases e : c' = c
      · subst e; rw [if_pos rfl]
        exact ⟨fun j hj => absurd hj (by omega), fun i j hi => absurd hi (by omega)⟩
      · rw [if_neg e]; exact q2 c' hc'
    · rw [ecl]
      by_cases e : c' = c
      · subst e; rw [if_pos rfl]
        have := (q4 c' hc').1 x hx
        constructor
        · intro hm; obtain ⟨j, hj, _⟩ := this.mp hm; have hj' : j < (cL (gCl (cnPre σ c' clean) c') 3).1 := hj; have h0' : (cL (gCl (cnPre σ c' clean) c') 3).1 = 0 := h0; omega
        · rintro ⟨j, hj, _⟩; omega
      · rw [if_neg e]; exact (q4 c' hc').1 x hx
    · rw [ecl] at hj hg ⊢
      by_cases e : c' = c
      · subst e; rw [if_pos rfl] at hj; omega
      · rw [if_neg e] at hj hg ⊢; exact (q4 c' hc').2 j hj hg
    · rw [ecl]
      by_cases e : c' = c
      · subst e; rw [if_pos rfl]
        have hw := q7 c' hc'
        unfold WiOk at hw ⊢
        simp (disch := omega) only [cnNew, spClear, uB_B, uB_I, uB_F, uB_W, uB_K, uB_N, uB_L, uI_B, uI_I, uI_F, uI_W, uI_K, uI_N, uI_L, uF_B, uF_I, uF_F, uF_W, uF_K, uF_N, uF_L, uW_B, uW_I, uW_F, uW_W, uW_K, uW_N, uW_L, uK_B, uK_I, uK_F, uK_W, uK_K, uK_N, uK_L, uN_B, uN_I, uN_F, uN_W, uN_K, uN_N, uN_L, uL_B, uL_I, uL_F, uL_W, uL_K, uL_N, uL_L, fset_ne]; exact hw
      · rw [if_neg e]; exact q7 c' hc'
/-! in the class -/
theorem B_connect {M : Mem} {c : Nat} {σ : Sg} (clean : Bool) (hB : (mK M 0).1 = 11 ∧ mR M 0 6 = some 8) (hR : StR M 8 σ) (hS : SI σ) (hc : c < 6) (hon : cB (gCl σ c) 0 = false) : ∃ M', f_X11_connect_J43 0 (nW c) (zI clean) (8 + 2 + 60 * c) M = some (.inl (zI (spConn σ c clean).1), M') ∧ Fr (SZ 8) M M' ∧ StR M' 8 (spConn σ c clean).2 := by
  have hZ : inZ 8 := ⟨by omega, by omega⟩
  have hB6 : ∀ M1, Fr (SZ 8) M M1 → gR 11 6 0 M1 = some 8 := fun M1 F => by
    have := F.2.2 0 (Or.inr (by unfold SZ; omega))
    simp only [gR, F.1, hB.1, this.2.2.2, hB.2, ↓reduceIte]
  -- behind the removal
  have main : ∀ M1, Fr (SZ 8) M M1 → StR M1 8 (cnPre σ c clean) → ∃ M', f_X11_connect_J65 0 (zI clean) (8 + 2 + 60 * c) M1 = some (.inl (zI (spConn σ c clean).1), M') ∧ Fr (SZ 8) M M' ∧ StR M' 8 (spConn σ c clean).2 := by
    intro M1 F1 R1
    obtain ⟨S1, on1⟩ := SI_pre hS hc hon clean
    obtain ⟨M2, e2, F2, R2⟩ := Cl_B (f := 0) true (hZ.c hc) (R1.2.1 c hc) (by omega)
    obtain ⟨H2, F2'⟩ := St_cl R1 hc F2 (fun a h => by omega) R2
    have k2 := (CR_k (StR_get H2 hc)).2.1
    have gex : gI 5 0 (8 + 2 + 60 * c + 34) M2 = some (zI (cB (gCl (cnPre σ c clean) c) 3)) := by
      have := R2.2.2.2.1
      simp only [gI, this.1.1, ↓reduceIte, this.2.1]
      simp (disch := omega) only [uB_B, uB_I, uB_F, uB_W, uB_K, uB_N, uB_L, uI_B, uI_I, uI_F, uI_W, uI_K, uI_N, uI_L, uF_B, uF_I, uF_F, uF_W, uF_K, uF_N, uF_L, uW_B, uW_I, uW_F, uW_W, uW_K, uW_N, uW_L, uK_B, uK_I, uK_F, uK_W, uK_K, uK_N, uK_L, uN_B, uN_I, uN_F, uN_W, uN_K, uN_N, uN_L, uL_B, uL_I, uL_F, uL_W, uL_K, uL_N, uL_L, fset_ne]
    rw [zI_t] at e2
    unfold spConn
    cases hex : cB (gCl (cnPre σ c clean) c) 3 with
    | false =>
      rw [hex, zI_f] at gex
      obtain ⟨M3, e3, F3, R3⟩ := Cl_begin clean (hZ.c hc) R2
      obtain ⟨H3, F3'⟩ := St_cl R1 hc (F2.tr F3 (R := fun a => 8 + 2 + 60 * c ≤ a ∧ a < 8 + 2 + 60 * c + 60) (fun a h => by omega) (fun a h => by omega)) (fun a h => h) R3
      refine ⟨M3, ?_, F1.trans F3', by rw [if_neg (by decide)]; exact H3⟩
      rw [if_neg (by decide)]
      simp only [f_X11_connect_J65, nW_lit, e2, Option.bind_some, k2, gex, ↓reduceIte, e3, zI_f]
    | true =>
      rw [hex, zI_t] at gex
      have n1 : ¬ nW 1 = nW 0 := by decide
      have hg := GI_on (S1.1.2 c hc) hex
      have hcr : CR M2 8 (8 + 2 + 60 * c) (gSc (cnPre σ c clean), uB (gCl (cnPre σ c clean) c) 0 true) := by
        have := StR_get H2 hc
        rw [getG_putG] at this; exact this
      obtain ⟨M3, e3, F3, R3⟩ := C_resume (hZ.s hc) hcr hg (show fset (cB (gCl (cnPre σ c clean) c)) 0 true 0 = true from fset_eq _ _ _)
      have H3 := StR_put H2 hc F3 R3
      rw [putG_putG] at H3
      refine ⟨M3, ?_, F1.trans (F2'.trans (F3.mono (fun a h => CZ_SZ hc h))), by rw [if_pos rfl]; exact H3⟩
      rw [if_pos rfl]
      simp only [f_X11_connect_J65, nW_lit, e2, Option.bind_some, k2, gex, n1, ↓reduceIte, hB6 M2 (F1.trans F2'), e3, zI_t]
  have k2 := (CR_k (StR_get hR hc)).2.1
  have gex : gI 5 0 (8 + 2 + 60 * c + 34) M = some (zI (cB (gCl σ c) 3)) := by
    have := (hR.2.1 c hc).2.2.2.1
    simp only [gI, this.1.1, ↓reduceIte, this.2.1]
  cases clean with
  | false =>
    have ep : cnPre σ c false = σ := by unfold cnPre; rw [if_neg (fun h => absurd h.1 (by decide))]
    obtain ⟨M', e, F, R⟩ := main M (Fr.refl _ _) (by rw [ep]; exact hR)
    refine ⟨M', ?_, F, R⟩
    rw [zI_f] at e ⊢
    simp only [f_X11_connect_J43, nW_lit, ↓reduceIte, e]
  | true =>
    have n1 : ¬ nW 1 = nW 0 := by decide
    cases hex : cB (gCl σ c) 3 with
    | false =>
      have ep : cnPre σ c true = σ := by unfold cnPre; rw [if_neg (fun h => absurd (hex.symm.trans h.2) (by decide))]
      obtain ⟨M', e, F, R⟩ := main M (Fr.refl _ _) (by rw [ep]; exact hR)
      refine ⟨M', ?_, F, R⟩
      rw [zI_t] at e ⊢
      rw [hex, zI_f] at gex
      simp only [f_X11_connect_J43, nW_lit, n1, ↓reduceIte, k2, Option.bind_some, gex, e]
    | true =>
      have ep : cnPre σ c true = spRemove σ c := by unfold cnPre; rw [if_pos ⟨rfl, hex⟩]
      obtain ⟨M1, e1, F1, R1⟩ := St_remove hZ hR hc hS.2.2.1.1
      obtain ⟨M', e, F, R⟩ := main M1 F1 (by rw [ep]; exact R1)
      refine ⟨M', ?_, F, R⟩
      rw [zI_t] at e ⊢
      rw [hex, zI_t] at gex
      simp only [f_X11_connect_J43, nW_lit, n1, ↓reduceIte, k2, Option.bind_some, gex, hB6 M (Fr.refl _ _), e1, e]
