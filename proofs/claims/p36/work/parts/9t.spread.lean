/-! PUBLICATION over the abstract state -/
theorem spHold_same (g : GS) (r : Row) : cB (spHold g r).2 = cB g.2 ∧ cW (spHold g r).2 = cW g.2 ∧ cK (spHold g r).2 = cK g.2 ∧ cL (spHold g r).2 3 = cL g.2 3 ∧ cF (spHold g r).2 = cF g.2 := by
  unfold spHold
  split
  · simp only [uB_B, uB_I, uB_F, uB_W, uB_K, uB_N, uB_L, uI_B, uI_I, uI_F, uI_W, uI_K, uI_N, uI_L, uF_B, uF_I, uF_F, uF_W, uF_K, uF_N, uF_L, uW_B, uW_I, uW_F, uW_W, uW_K, uW_N, uW_L, uK_B, uK_I, uK_F, uK_W, uK_K, uK_N, uK_L, uN_B, uN_I, uN_F, uN_W, uN_K, uN_N, uN_L, uL_B, uL_I, uL_F, uL_W, uL_K, uL_N, uL_L, fset_ne _ _ (show (3 : Nat) ≠ 2 by omega)]; exact ⟨trivial, trivial, trivial, trivial, trivial⟩
  · split
    · exact ⟨rfl, rfl, rfl, rfl, rfl⟩
    · simp only [uB_B, uB_I, uB_F, uB_W, uB_K, uB_N, uB_L, uI_B, uI_I, uI_F, uI_W, uI_K, uI_N, uI_L, uF_B, uF_I, uF_F, uF_W, uF_K, uF_N, uF_L, uW_B, uW_I, uW_F, uW_W, uW_K, uW_N, uW_L, uK_B, uK_I, uK_F, uK_W, uK_K, uK_N, uK_L, uN_B, uN_I, uN_F, uN_W, uN_K, uN_N, uN_L, uL_B, uL_I, uL_F, uL_W, uL_K, uL_N, uL_L, fset_ne _ _ (show (3 : Nat) ≠ 2 by omega)]; exact ⟨trivial, trivial, trivial, trivial, trivial⟩
theorem spGive_same (g : GS) (r : Row) : cB (spGive g r).2 = cB g.2 ∧ cW (spGive g r).2 = cW g.2 ∧ cK (spGive g r).2 = cK g.2 ∧ cL (spGive g r).2 3 = cL g.2 3 ∧ cF (spGive g r).2 = cF g.2 := by
  unfold spGive spGive0
  split
  · split
    · exact ⟨spSend_B _ _, spSend_W _ _, spSend_K _ _, spSend_L _ _ (by decide), spSend_F _ _⟩
    · exact ⟨rfl, rfl, rfl, rfl, rfl⟩
  · split
    · exact ⟨spFly_B _ _, spFly_W _ _, spFly_K _ _, spFly_L2 _ _ (by decide) (by decide), spFly_F _ _⟩
    · exact spHold_same _ _
theorem spSend_sc' (g : GS) (r : Row) {i : Nat} (h : 10 ≤ i) : (spSend g r).1 i = g.1 i := spSend_sc g r (by omega)
theorem spGive_sc (g : GS) (r : Row) {i : Nat} (h : 10 ≤ i) : (spGive g r).1 i = g.1 i := by
  have t : ∀ (sc : Nat → Int32) (k : Nat), k < 10 → tot sc k i = sc i := fun sc k hk => fset_ne _ _ (by omega)
  unfold spGive spGive0
  split
  · split
    · rw [spSend_sc' _ _ h]; exact t _ _ (by omega)
    · show tot (tot g.1 1) 2 i = _; rw [t _ _ (by omega), t _ _ (by omega)]
  · split
    · show (spSend _ _).1 i = _; rw [spSend_sc' _ _ h]; exact t _ _ (by omega)
    · unfold spHold
      split
      · exact t _ _ (by omega)
      · split
        · show tot (tot g.1 1) 2 i = _; rw [t _ _ (by omega), t _ _ (by omega)]
        · show tot (tot g.1 1) 2 i = _; rw [t _ _ (by omega), t _ _ (by omega)]
theorem GI_L2 {g : GS} {l : Ls Row} (h : GI g) (h8 : l.1 ≤ 8) (hl : ∀ j, j < l.1 → okG (l.2 j)) (hex : cB g.2 3 = false → l.1 = 0) : GI (g.1, uL g.2 2 l) := by
  obtain ⟨h1, ⟨l1, l2, l3, l4⟩, h3, h4, h5, h6, h7, h8', h9, h10⟩ := h
  unfold GI
  simp only [uB_B, uB_I, uB_F, uB_W, uB_K, uB_N, uB_L, uI_B, uI_I, uI_F, uI_W, uI_K, uI_N, uI_L, uF_B, uF_I, uF_F, uF_W, uF_K, uF_N, uF_L, uW_B, uW_I, uW_F, uW_W, uW_K, uW_N, uW_L, uK_B, uK_I, uK_F, uK_W, uK_K, uK_N, uK_L, uN_B, uN_I, uN_F, uN_W, uN_K, uN_N, uN_L, uL_B, uL_I, uL_F, uL_W, uL_K, uL_N, uL_L, fset_eq, fset_ne _ _ (show (0 : Nat) ≠ 2 by omega), fset_ne _ _ (show (1 : Nat) ≠ 2 by omega), fset_ne _ _ (show (3 : Nat) ≠ 2 by omega)]
  refine ⟨h1, ⟨l1, l2, ?_, l4⟩, h3, h4, h5, h6, h7, hl, h9, fun e => ⟨(h10 e).1, hex e, (h10 e).2.2⟩⟩
  simp only [uB_B, uB_I, uB_F, uB_W, uB_K, uB_N, uB_L, uI_B, uI_I, uI_F, uI_W, uI_K, uI_N, uI_L, uF_B, uF_I, uF_F, uF_W, uF_K, uF_N, uF_L, uW_B, uW_I, uW_F, uW_W, uW_K, uW_N, uW_L, uK_B, uK_I, uK_F, uK_W, uK_K, uK_N, uK_L, uN_B, uN_I, uN_F, uN_W, uN_K, uN_N, uN_L, uL_B, uL_I, uL_F, uL_W, uL_K, uL_N, uL_L, fset_eq]; exact h8
theorem GI_give {g : GS} {r : Row} (h : GI g) (hx : topical r.1) (hg : r.2 1 = nW 0 ∨ r.2 1 = nW 1 ∨ r.2 1 = nW 2) (hex : cB g.2 3 = true) : GI (spGive g r) := by
  have h1 := h.tot (i := 1) (by omega)
  unfold spGive spGive0
  split
  · split
    · rename_i hon; exact GI_send h1 hx hon
    · exact h1.tot (i := 2) (by omega)
  · rename_i h0
    have og : okG r := ⟨hx, hg.resolve_left h0⟩
    split
    · rename_i hc
      obtain ⟨hon, hfl⟩ := GI_may h1 hc.2
      exact GI_fly h1 og hon hfl
    · unfold spHold
      split
      · rename_i h8
        have h8' : (cL g.2 2).1 < 8 := h8
        refine GI_L2 (g := (tot g.1 1, g.2)) h1 (by show (cL g.2 2).1 + 1 ≤ 8; omega) (fun j hj => ?_) (fun e => absurd (hex.symm.trans e) (by decide))
        have hj' : j < (cL g.2 2).1 + 1 := hj
        simp only [lpush]
        split
        · exact og
        · exact h.2.2.2.2.2.2.2.1 j (by omega)
      · split
        · exact h1.tot (i := 2) (by omega)
        · have h8'' : (cL g.2 2).1 ≤ 8 := h.2.1.2.2.1
          rename_i h8 _
          have h8' : ¬ (cL g.2 2).1 < 8 := h8
          refine GI_L2 (g := (tot (tot g.1 1) 2, g.2)) (h1.tot (i := 2) (by omega)) (by show (cL g.2 2).1 - 1 + 1 ≤ 8; omega) (fun j hj => ?_) (fun e => absurd (hex.symm.trans e) (by decide))
          have hj' : j < (cL g.2 2).1 - 1 + 1 := hj
          simp only [lpush, ldel]
          split
          · exact og
          · split
            · exact h.2.2.2.2.2.2.2.1 j (by omega)
            · exact h.2.2.2.2.2.2.2.1 (j + 1) (by omega)
/-- options -/
def OpOk (sc : Nat → Int32) : Prop := Win sc ∧ (∃ n, n ≤ 20 ∧ sc 11 = nW n) ∧ (∃ n, n ≤ 100 ∧ sc 12 = nW n) ∧ ∃ n, n ≤ 1 ∧ sc 13 = nW n
def WiOk (x : Cl) : Prop := cB x 1 = true → okTx (cW x).1 ∧ topical (cW x).1 ∧ ∃ n, n ≤ 2 ∧ (cW x).2 1 = nW n
/-- WHAT ALWAYS HOLDS -/
def SI (σ : Sg) : Prop := (OpOk (gSc σ) ∧ ∀ c, c < 6 → GI (getG σ c)) ∧ (∀ c, c < 6 → SubOk (cL (gCl σ c) 3) ∧ SubDi (cL (gCl σ c) 3)) ∧ ShG (gSh σ) ∧ (∀ c, c < 6 → CC (gSh σ) (cL (gCl σ c) 3) c ∧ CE (gSh σ) (cL (gCl σ c) 3)) ∧ ReOk (gRe σ) ∧ TaOk (gTa σ) ∧ ∀ c, c < 6 → WiOk (gCl σ c)
/-- a client's change that leaves its subscriptions and will -/
theorem SI_put {σ : Sg} {c : Nat} {g : GS} (h : SI σ) (hc : c < 6) (hg : GI g) (hsc : ∀ i, 10 ≤ i → i < 14 → g.1 i = gSc σ i) (h3 : cL g.2 3 = cL (gCl σ c) 3) (hw : WiOk g.2) : SI (putG σ c g) := by
  obtain ⟨⟨h0, h1⟩, h2, h4, h5, h6, h7, h8⟩ := h
  have at3 : ∀ c', cL (gCl (putG σ c g) c') 3 = cL (gCl σ c') 3 := by
    intro c'
    show cL (fset (gCl σ) c g.2 c') 3 = _
    by_cases e : c' = c
    · subst e; rw [fset_eq]; exact h3
    · rw [fset_ne _ _ e]
  refine ⟨⟨?_, fun c' hc' => ?_⟩, fun c' hc' => by rw [at3]; exact h2 c' hc', h4, fun c' hc' => by rw [at3]; exact h5 c' hc', h6, h7, fun c' hc' => ?_⟩
  · unfold OpOk Win at h0 ⊢
    show (∃ w, g.1 10 = nW w ∧ 1 ≤ w ∧ w ≤ 5) ∧ (∃ n, n ≤ 20 ∧ g.1 11 = nW n) ∧ (∃ n, n ≤ 100 ∧ g.1 12 = nW n) ∧ ∃ n, n ≤ 1 ∧ g.1 13 = nW n
    rw [hsc 10 (by omega) (by omega), hsc 11 (by omega) (by omega), hsc 12 (by omega) (by omega), hsc 13 (by omega) (by omega)]; exact h0
  · show GI (g.1, fset (gCl σ) c g.2 c')
    by_cases e : c' = c
    · subst e; rw [fset_eq]; exact hg
    · rw [fset_ne _ _ e]
      have := h1 c' hc'
      refine ⟨?_, this.2⟩
      have hw := this.1
      unfold Win at hw ⊢
      show ∃ w, g.1 10 = nW w ∧ _
      rw [hsc 10 (by omega) (by omega)]; exact hw
  · show WiOk (fset (gCl σ) c g.2 c')
    by_cases e : c' = c
    · subst e; rw [fset_eq]; exact hw
    · rw [fset_ne _ _ e]; exact h8 c' hc'
theorem SI_give {σ : Sg} {c : Nat} {r : Row} (h : SI σ) (hc : c < 6) (hx : topical r.1) (hg : r.2 1 = nW 0 ∨ r.2 1 = nW 1 ∨ r.2 1 = nW 2) (hex : cB (gCl σ c) 3 = true) : SI (putG σ c (spGive (getG σ c) r)) := by
  obtain ⟨e1, e2, e3, e4, e5⟩ := spGive_same (getG σ c) r
  refine SI_put h hc (GI_give (h.1.2 c hc) hx hg hex) (fun i h1 h2 => spGive_sc _ _ h1) e4 ?_
  unfold WiOk
  rw [e1, e2]; exact h.2.2.2.2.2.2 c hc
theorem SI_sc {σ : Sg} {sc : Nat → Int32} (h : SI σ) (hsc : ∀ i, 10 ≤ i → i < 14 → sc i = gSc σ i) : SI (uSc σ sc) := by
  have := SI_put (c := 0) (g := (sc, gCl σ 0)) h (by omega) ⟨?_, (h.1.2 0 (by omega)).2⟩ hsc rfl (h.2.2.2.2.2.2 0 (by omega))
  · have e : putG σ 0 (sc, gCl σ 0) = uSc σ sc := by
      show (sc, fset (gCl σ) 0 (gCl σ 0), σ.2.2) = (sc, σ.2.1, σ.2.2)
      rw [fset_self _ _ _ rfl]
    rw [e] at this; exact this
  · have := (h.1.2 0 (by omega)).1
    unfold Win at this ⊢
    show ∃ w, sc 10 = nW w ∧ _
    rw [hsc 10 (by omega) (by omega)]; exact this
theorem SI_tot {σ : Sg} (h : SI σ) {i : Nat} (hi : i < 10) : SI (uSc σ (tot (gSc σ) i)) := SI_sc h (fun j h1 h2 => fset_ne _ _ (by omega))
theorem imin_nW {a b : Nat} (ha : a ≤ 2) (hb : b ≤ 2) : ∃ n, n ≤ 2 ∧ iminE (nW a) (nW b) = nW n := by
  unfold iminE
  split
  · exact ⟨b, hb, rfl⟩
  · exact ⟨a, ha, rfl⟩
theorem grade3 {x : Int32} (h : ∃ n, n ≤ 2 ∧ x = nW n) : x = nW 0 ∨ x = nW 1 ∨ x = nW 2 := by
  obtain ⟨n, h1, rfl⟩ := h
  have : n = 0 ∨ n = 1 ∨ n = 2 := by omega
  rcases this with e | e | e <;> subst e
  · exact Or.inl rfl
  · exact Or.inr (Or.inl rfl)
  · exact Or.inr (Or.inr rfl)
theorem imax_n {a b : Int32} (ha : a = -nW 1 ∨ ∃ n, n ≤ 2 ∧ a = nW n) (hb : ∃ n, n ≤ 2 ∧ b = nW n) : (imaxE a b = -nW 1 ∨ ∃ n, n ≤ 2 ∧ imaxE a b = nW n) := by
  unfold imaxE
  split
  · exact Or.inr hb
  · exact ha
theorem bst_val {l : Ls Row} {t : Txt} {own : Bool} (h : SubOk l) : ∀ n i b, i + n ≤ l.1 → (b = -nW 1 ∨ ∃ n, n ≤ 2 ∧ b = nW n) → (bst l t own n i b = -nW 1 ∨ ∃ k, k ≤ 2 ∧ bst l t own n i b = nW k)
  | 0, i, b, _, hb => hb
  | n + 1, i, b, hi, hb => by
    rw [bst]
    refine bst_val h n (i + 1) _ (by omega) ?_
    split
    · exact imax_n hb (h i (by omega)).2.2.1
    · exact hb
theorem spBest_val {l : Ls Row} (t : Txt) (own : Bool) (h : SubOk l) : spBest l t own = -nW 1 ∨ ∃ k, k ≤ 2 ∧ spBest l t own = nW k := bst_val h l.1 0 _ (by omega) (Or.inl rfl)
theorem spBest_zero {l : Ls Row} (t : Txt) (own : Bool) (h : l.1 = 0) : spBest l t own = -nW 1 := by unfold spBest; rw [h]; rfl
def msg (t : Txt) (g p fl : Int32) : Row := mkMs t g p fl (nW 0) (nW 0) (nW 0)
theorem msg_f (t : Txt) (g p fl : Int32) : (msg t g p fl).1 = t ∧ (msg t g p fl).2 1 = g ∧ (msg t g p fl).2 2 = p ∧ (msg t g p fl).2 3 = fl := ⟨rfl, rfl, rfl, rfl⟩
/-- clients one after the other -/
def spC (t : Txt) (g p : Int32) (by' : Nat) : Nat → Nat → Sg × Nat → Sg × Nat
  | 0, _, a => a
  | n + 1, c, a => spC t g p by' n (c + 1) (if spBest (cL (gCl a.1 c) 3) t (decide (c = by')) = -nW 1 then a else (putG a.1 c (spGive (getG a.1 c) (msg t (iminE g (spBest (cL (gCl a.1 c) 3) t (decide (c = by')))) p (nW 0))), a.2 + 1))
def shPick (on : Nat → Bool) (m : List Nat) : Nat := m.getD ((ffind (fun i => on (m.getD i 0)) m.length 0).getD 0) 0
def shTurn (on : Nat → Bool) (m : List Nat) : List Nat := m.erase (shPick on m) ++ [shPick on m]
def onS (σ : Sg) (c : Nat) : Bool := cB (gCl σ c) 0
def shMem (σ : Sg) (h : Nat) : List Nat := ((gSh σ).getD h shD).2.2
def turnS (σ : Sg) (h : Nat) : Sg := uSh σ (shPut (gSh σ) h (shTurn (onS σ) (shMem σ h)))
def pickS (σ : Sg) (h : Nat) : Nat := shPick (onS σ) (shMem σ h)
def giveH (σ : Sg) (t : Txt) (g p : Int32) (h : Nat) : Sg := putG (turnS σ h) (pickS σ h) (spGive (getG (turnS σ h) (pickS σ h)) (msg t (iminE g (spGradeOf (cL (gCl σ (pickS σ h)) 3) ((gSh σ).getD h shD).1 ((gSh σ).getD h shD).2.1)) p (nW 0)))
def spH (t : Txt) (g p : Int32) : Nat → Nat → Sg × Nat → Sg × Nat
  | 0, _, a => a
  | n + 1, h, a => spH t g p n (h + 1) (if spMatch ((gSh a.1).getD h shD).1 t = true then (giveH a.1 t g p h, a.2 + 1) else a)
def spPub0 (σ : Sg) (r : Row) (ret : Bool) : Sg := if ret = true then uRe (uSc (uTa σ (spCount (gTa σ) r.1)) (tot (gSc σ) 0)) (spRetain (gRe σ) r) else uSc (uTa σ (spCount (gTa σ) r.1)) (tot (gSc σ) 0)
def spPubl (σ : Sg) (r : Row) (ret : Bool) (by' : Nat) : Sg × Nat := spH r.1 (r.2 1) (r.2 2) (gSh σ).length 0 (spC r.1 (r.2 1) (r.2 2) by' 6 0 (spPub0 σ r ret, 0))
theorem shPick_mem {on : Nat → Bool} {m : List Nat} (h : m ≠ []) : shPick on m ∈ m := by
  have hl := len_pos h
  unfold shPick
  have : (ffind (fun i => on (m.getD i 0)) m.length 0).getD 0 < m.length := by
    cases e : ffind (fun i => on (m.getD i 0)) m.length 0 with
    | none => exact hl
    | some i => have := (ffind_some e).2.1; simp only [Option.getD_some]; omega
  rw [gd_in _ _ this]; exact List.getElem_mem this
theorem turn_perm {on : Nat → Bool} {m : List Nat} (h : m ≠ []) : (shTurn on m).Perm m := by
  unfold shTurn
  exact (List.perm_append_comm).trans (List.perm_cons_erase (shPick_mem h)).symm
theorem SI_turn {σ : Sg} {h : Nat} (hS : SI σ) (hh : h < (gSh σ).length) : SI (turnS σ h) := by
  obtain ⟨h0, h2, ⟨k1, k2, k3⟩, h5, h6, h7, h8⟩ := hS
  have hx := shAt_get hh
  obtain ⟨m1, m2, m3⟩ := k1 _ hx
  have tp := turn_perm (on := onS σ) m3
  have mem : ∀ x, x ∈ shPut (gSh σ) h (shTurn (onS σ) (shMem σ h)) → ∃ y ∈ gSh σ, shKey x = shKey y ∧ x.2.2.Perm y.2.2 := by
    intro x hx'
    rcases List.mem_or_eq_of_mem_set hx' with hx' | rfl
    · exact ⟨x, hx', rfl, List.Perm.refl _⟩
    · exact ⟨_, hx, rfl, tp⟩
  refine ⟨h0, h2, ⟨fun x hx' => ?_, fun x hx' => ?_, ?_⟩, fun c hc => ⟨fun x hx' => ?_, fun j hj hg => ?_⟩, h6, h7, h8⟩
  · obtain ⟨y, hy, _, hp⟩ := mem x hx'
    obtain ⟨a, b, d⟩ := k1 y hy
    exact ⟨fun z hz => a z (hp.mem_iff.mp hz), hp.nodup_iff.mpr b, fun e => d (by rw [e] at hp; exact List.nil_perm.mp hp)⟩
  · obtain ⟨y, hy, hk, _⟩ := mem x hx'
    have e := Prod.mk.inj hk
    rw [e.1, e.2]; exact k2 y hy
  · unfold ShDi
    show ((shPut (gSh σ) h _).map shKey).Nodup
    rw [shPut, List.map_set]
    have : ((gSh σ).map shKey).set h (shKey ((gSh σ).getD h shD)) = (gSh σ).map shKey := by
      rw [gd_in _ _ hh]
      apply List.ext_getElem?
      intro i
      rw [List.getElem?_set]
      split
      · rename_i e; subst e; simp [hh]
      · rfl
    show (((gSh σ).map shKey).set h (shKey ((gSh σ).getD h shD))).Nodup
    rw [this]; exact k3
  · obtain ⟨y, hy, hk, hp⟩ := mem x hx'
    rw [hp.mem_iff, (h5 c hc).1 y hy, hk]; exact Iff.rfl
  · obtain ⟨x, hx', hk⟩ := (h5 c hc).2 j hj hg
    obtain ⟨i, hi, rfl⟩ := List.mem_iff_getElem.mp hx'
    by_cases e : i = h
    · subst e
      refine ⟨(((gSh σ).getD i shD).1, ((gSh σ).getD i shD).2.1, shTurn (onS σ) (shMem σ i)), ?_, ?_⟩
      · show _ ∈ (gSh σ).set i _
        rw [List.mem_iff_getElem]
        exact ⟨i, by rw [List.length_set]; exact hi, by rw [List.getElem_set_self]⟩
      · have e9 : shKey (((gSh σ).getD i shD).1, ((gSh σ).getD i shD).2.1, shTurn (onS σ) (shMem σ i)) = shKey ((gSh σ)[i]) := by rw [gd_in _ _ hi]; rfl
        exact e9.trans hk
    · refine ⟨(gSh σ)[i], ?_, hk⟩
      show _ ∈ (gSh σ).set h _
      rw [List.mem_iff_getElem]
      exact ⟨i, by rw [List.length_set]; exact hi, by rw [List.getElem_set_ne (fun x => e x.symm)]⟩
