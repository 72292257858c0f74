/-! CONNECTIONS THAT END, in the class; wills -/
theorem fset_fset {α : Type} (f : Nat → α) (i : Nat) (x y : α) : fset (fset f i x) i y = fset f i y := by
  funext j
  by_cases e : j = i
  · subst e; rw [fset_eq, fset_eq]
  · rw [fset_ne _ _ e, fset_ne _ _ e, fset_ne _ _ e]
theorem spClear_uI (x : Cl) (t : Int32) : spClear (uI x 1 t) = spClear x := by
  simp only [spClear, uB, uI, uK, uN, uL, fset_fset]
theorem spRemove_put (σ : Sg) (c : Nat) (y : Cl) : spRemove (putG σ c (gSc σ, y)) c = uSh (putG σ c (gSc σ, spClear y)) (shGone (gSh σ) c) := by
  unfold spRemove
  have e1 : (putG σ c (gSc σ, y)).2.1 c = y := fset_eq _ _ _
  rw [e1]
  show (gSc σ, fset (fset (gCl σ) c y) c (spClear y), shGone (gSh σ) c, σ.2.2.2) = (gSc σ, fset (gCl σ) c (spClear y), shGone (gSh σ) c, σ.2.2.2)
  rw [fset_fset]
theorem putG_putG (σ : Sg) (c : Nat) (g g' : GS) : putG (putG σ c g) c g' = putG σ c g' := by
  show (g'.1, fset (fset (gCl σ) c g.2) c g'.2, σ.2.2) = (g'.1, fset (gCl σ) c g'.2, σ.2.2)
  rw [fset_fset]
theorem getG_putG (σ : Sg) (c : Nat) (g : GS) : getG (putG σ c g) c = g := by
  show (g.1, fset (gCl σ) c g.2 c) = g
  rw [fset_eq]
theorem gCl_putG (σ : Sg) (c : Nat) (g : GS) : gCl (putG σ c g) c = g.2 := fset_eq _ _ _
theorem St_cl {M M' : Mem} {S c : Nat} {σ : Sg} {x : Cl} {P : Nat → Prop} (h : StR M S σ) (hc : c < 6) (F : Fr P M M') (hP : ∀ a, P a → S + 2 + 60 * c ≤ a ∧ a < S + 2 + 60 * c + 60) (hx : ClR M' (S + 2 + 60 * c) x) : StR M' S (putG σ c (gSc σ, x)) ∧ Fr (SZ S) M M' := by
  refine ⟨StR_put h hc (F.mono (fun a h => by have := hP a h; unfold CZ; omega)) ⟨h.1.gr F.gr ⟨fun h => by have := hP _ h; omega, fun h => by have := hP _ h; omega, fun h => by have := hP _ h; omega, fun h => by have := hP _ h; omega⟩, hx⟩, F.mono (fun a h => by have := hP a h; unfold SZ; omega)⟩
theorem St_endC {M : Mem} {S c : Nat} {σ : Sg} (hZ : inZ S) (hR : StR M S σ) (hS : SI σ) (hc : c < 6) : ∃ M', f_X7_endConnection S (nW c) M = some M' ∧ Fr (SZ S) M M' ∧ StR M' S (spEndC σ c) := by
  obtain ⟨s1, s2, s3, s4, s5, s6, s7, s8⟩ := StR_k hR
  have hC := hZ.c hc
  have hC' := hC
  obtain ⟨d1, d2⟩ := hC
  obtain ⟨M1, e1, F1, R1⟩ := Cl_B (f := 0) false hC' (hR.2.1 c hc) (by omega)
  obtain ⟨H1, F1'⟩ := St_cl hR hc F1 (fun a h => by omega) R1
  obtain ⟨k1, k2, k3, k4, k5, k6, k7, k8, k9⟩ := CR_k (StR_get H1 hc)
  obtain ⟨M2, e2, F2, Q2⟩ := X4_clear R1.2.2.1 (by omega) (cL (gCl σ c) 0).2
  have R2 := Cl_queue R1 F2.gr (fun a h => by omega) Q2
  obtain ⟨H2, F2'⟩ := St_cl hR hc (F1.tr F2 (R := fun a => S + 2 + 60 * c ≤ a ∧ a < S + 2 + 60 * c + 60) (fun a h => by omega) (fun a h => by omega)) (fun a h => h) R2
  obtain ⟨j1, j2, j3, j4, j5, j6, j7, j8, j9⟩ := CR_k (StR_get H2 hc)
  have gcl : gI 5 1 (S + 2 + 60 * c + 34) M2 = some (zI (cB (gCl σ c) 4)) := by
    have := R2.2.2.2.1
    simp only [gI, this.1.1, ↓reduceIte, this.2.2.1]
    simp (disch := omega) only [uB_B, uB_I, uB_F, uB_W, uB_K, uB_N, uB_L, uI_B, uI_I, uI_F, uI_W, uI_K, uI_N, uI_L, uF_B, uF_I, uF_F, uF_W, uF_K, uF_N, uF_L, uW_B, uW_I, uW_F, uW_W, uW_K, uW_N, uW_L, uK_B, uK_I, uK_F, uK_W, uK_K, uK_N, uK_L, uN_B, uN_I, uN_F, uN_W, uN_K, uN_N, uN_L, uL_B, uL_I, uL_F, uL_W, uL_K, uL_N, uL_L, fset_ne]
  rw [zI_f] at e1
  unfold spEndC
  cases hcl : cB (gCl σ c) 4 with
  | false =>
    rw [hcl, zI_f] at gcl
    obtain ⟨M3, e3, F3, R3⟩ := Cl_since (gSc σ 14) hC' R2
    obtain ⟨H3, F3'⟩ := St_cl hR hc ((F1.tr F2 (R := fun a => S + 2 + 60 * c ≤ a ∧ a < S + 2 + 60 * c + 60) (fun a h => by omega) (fun a h => by omega)).tr F3 (R := fun a => S + 2 + 60 * c ≤ a ∧ a < S + 2 + 60 * c + 60) (fun a h => h) (fun a h => by omega)) (fun a h => h) R3
    have clk := BaR_clock H2.1
    have clk' : gI 7 9 S M2 = some (gSc σ 14) := clk
    refine ⟨M3, ?_, F3', by rw [if_neg (by decide)]; exact H3⟩
    simp only [f_X7_endConnection, s1, ↓reduceIte, s2, Option.bind_some, s8 c hc, nW_lit, e1, k3, e2, j2, gcl, clk', e3]
  | true =>
    rw [hcl, zI_t] at gcl
    have t1 : ¬ nW 1 = nW 0 := by decide
    obtain ⟨M3, e3, F3, R3⟩ := St_remove hZ H2 hc hS.2.2.1.1
    refine ⟨M3, ?_, F2'.trans F3, ?_⟩
    · simp only [f_X7_endConnection, s1, ↓reduceIte, s2, Option.bind_some, s8 c hc, nW_lit, e1, k3, e2, j2, gcl, t1, e3]
    · rw [if_pos rfl]
      unfold spOff
      have : spRemove (putG σ c (gSc σ, uI (uL (uB (gCl σ c) 0 false) 0 (0, (cL (gCl σ c) 0).2)) 1 (gSc σ 14))) c = spRemove (putG σ c (gSc σ, uL (uB (gCl σ c) 0 false) 0 (0, (cL (gCl σ c) 0).2))) c := by
        rw [spRemove_put, spRemove_put, spClear_uI]
      rw [this]; exact R3
def spNoWill (σ : Sg) (c : Nat) : Sg := putG σ c (tot (gSc σ) 6, uB (gCl σ c) 1 false)
def spFail (σ : Sg) (c : Nat) : Bool × Sg := if cB (gCl (spEndC σ c) c) 1 = true then (true, (spPubl (spNoWill (spEndC σ c) c) (cW (gCl (spEndC σ c) c)) (cB (gCl (spEndC σ c) c) 2) c).1) else (false, spEndC σ c)
theorem GI_B1 {g : GS} (h : GI g) (b : Bool) : GI (g.1, uB g.2 1 b) := by
  obtain ⟨h1, ⟨l1, l2, l3, l4⟩, h3, h4, h5, h6, h7, h8, h9, h10⟩ := h
  unfold GI lim1
  simp (disch := omega) only [uB_B, uB_I, uB_F, uB_W, uB_K, uB_N, uB_L, uI_B, uI_I, uI_F, uI_W, uI_K, uI_N, uI_L, uF_B, uF_I, uF_F, uF_W, uF_K, uF_N, uF_L, uW_B, uW_I, uW_F, uW_W, uW_K, uW_N, uW_L, uK_B, uK_I, uK_F, uK_W, uK_K, uK_N, uK_L, uN_B, uN_I, uN_F, uN_W, uN_K, uN_N, uN_L, uL_B, uL_I, uL_F, uL_W, uL_K, uL_N, uL_L, fset_ne]
  exact ⟨h1, ⟨l1, l2, l3, l4⟩, h3, h4, h5, h6, h7, h8, h9, h10⟩
theorem SI_noWill {σ : Sg} {c : Nat} (h : SI σ) (hc : c < 6) : SI (spNoWill σ c) := by
  refine SI_put h hc ?_ (fun i h1 h2 => fset_ne _ _ (by omega)) ?_ ?_
  · exact (GI_B1 (h.1.2 c hc) false).tot (i := 6) (by omega)
  · simp only [uB_B, uB_I, uB_F, uB_W, uB_K, uB_N, uB_L, uI_B, uI_I, uI_F, uI_W, uI_K, uI_N, uI_L, uF_B, uF_I, uF_F, uF_W, uF_K, uF_N, uF_L, uW_B, uW_I, uW_F, uW_W, uW_K, uW_N, uW_L, uK_B, uK_I, uK_F, uK_W, uK_K, uK_N, uK_L, uN_B, uN_I, uN_F, uN_W, uN_K, uN_N, uN_L, uL_B, uL_I, uL_F, uL_W, uL_K, uL_N, uL_L]
  · intro e
    simp (disch := omega) only [uB_B, uB_I, uB_F, uB_W, uB_K, uB_N, uB_L, uI_B, uI_I, uI_F, uI_W, uI_K, uI_N, uI_L, uF_B, uF_I, uF_F, uF_W, uF_K, uF_N, uF_L, uW_B, uW_I, uW_F, uW_W, uW_K, uW_N, uW_L, uK_B, uK_I, uK_F, uK_W, uK_K, uK_N, uK_L, uN_B, uN_I, uN_F, uN_W, uN_K, uN_N, uN_L, uL_B, uL_I, uL_F, uL_W, uL_K, uL_N, uL_L, fset_eq] at e
    cases e
theorem gTa_endC (σ : Sg) (c : Nat) : gTa (spEndC σ c) = gTa σ := by unfold spEndC; split <;> rfl
theorem St_fail {M : Mem} {S c : Nat} {σ : Sg} (hZ : inZ S) (hR : StR M S σ) (hS : SI σ) (hc : c < 6) (hta : (gTa σ).1 < 512) : ∃ M', f_X7_failConnection S (nW c) M = some (zI (spFail σ c).1, M') ∧ Fr (SZ S) M M' ∧ StR M' S (spFail σ c).2 := by
  obtain ⟨s1, _⟩ := StR_k hR
  obtain ⟨M1, e1, F1, R1⟩ := St_endC hZ hR hS hc
  have S1 := SI_endC hS hc
  obtain ⟨t1, t2, t3, t4, t5, t6, t7, t8⟩ := StR_k R1
  have hw : gI 0 1 (S + 2 + 60 * c) M1 = some (zI (cB (gCl (spEndC σ c) c) 1)) := by
    have := (R1.2.1 c hc).1
    simp only [gI, this.1.1, ↓reduceIte, this.2.2.1]
  unfold spFail
  cases hwl : cB (gCl (spEndC σ c) c) 1 with
  | false =>
    rw [hwl, zI_f] at hw
    refine ⟨M1, ?_, F1, by rw [if_neg (by decide)]; exact R1⟩
    rw [if_neg (by decide)]
    simp only [f_X7_failConnection, s1, ↓reduceIte, e1, Option.bind_some, t2, t8 c hc, hw, nW_lit, zI_f]
  | true =>
    rw [hwl, zI_t] at hw
    have n1 : ¬ nW 1 = nW 0 := by decide
    obtain ⟨M2, e2, F2, R2⟩ := Cl_B (f := 1) false (hZ.c hc) (R1.2.1 c hc) (by omega)
    obtain ⟨H2, F2'⟩ := St_cl R1 hc F2 (fun a h => by omega) R2
    obtain ⟨i7, i1, M3, i2, F3, R3, _⟩ := StR_inc hZ H2 (i := 6) (by omega)
    have R3' : StR M3 S (spNoWill (spEndC σ c) c) := R3
    have S3 := SI_noWill S1 hc
    have wok := S1.2.2.2.2.2.2 c hc hwl
    have ecl : gCl (spNoWill (spEndC σ c) c) c = uB (gCl (spEndC σ c) c) 1 false := gCl_putG _ _ _
    have hcr := R3'.2.1 c hc
    rw [ecl] at hcr
    have g3 : gR 0 3 (S + 2 + 60 * c) M3 = some (S + 2 + 60 * c + 1) := by
      have := hcr.1.1
      simp only [gR, this.1, this.2.1, ↓reduceIte]
    have g2 : gI 0 2 (S + 2 + 60 * c) M3 = some (zI (cB (gCl (spEndC σ c) c) 2)) := by
      have := hcr.1
      simp only [gI, this.1.1, ↓reduceIte, this.2.2.2.1]
      simp (disch := omega) only [uB_B, uB_I, uB_F, uB_W, uB_K, uB_N, uB_L, uI_B, uI_I, uI_F, uI_W, uI_K, uI_N, uI_L, uF_B, uF_I, uF_F, uF_W, uF_K, uF_N, uF_L, uW_B, uW_I, uW_F, uW_W, uW_K, uW_N, uW_L, uK_B, uK_I, uK_F, uK_W, uK_K, uK_N, uK_L, uN_B, uN_I, uN_F, uN_W, uN_K, uN_N, uN_L, uL_B, uL_I, uL_F, uL_W, uL_K, uL_N, uL_L, fset_ne]
    have G3 : MG M3 S (spNoWill (spEndC σ c) c) (S + 2 + 60 * c + 1) (cW (gCl (spEndC σ c) c)) := ⟨hcr.2.1, Or.inr ⟨c, hc, rfl, by rw [ecl]; rfl⟩⟩
    obtain ⟨M4, e4, F4, R4⟩ := St_spread (by' := c) (cB (gCl (spEndC σ c) c) 2) hZ R3' S3 G3 wok.1 wok.2.1 wok.2.2 hc (by show (gTa (spEndC σ c)).1 < 512; rw [gTa_endC]; exact hta)
    refine ⟨M4, ?_, F1.trans (F2'.trans (F3.trans F4)), by rw [if_pos rfl]; exact R4⟩
    rw [if_pos rfl]
    rw [zI_f] at e2
    have i1' : aI 13 (S + 445) (nW 6) M2 = some (gSc (putG (spEndC σ c) c (gSc (spEndC σ c), uB (gCl (spEndC σ c) c) 1 false)) 6) := i1
    simp only [f_X7_failConnection, s1, ↓reduceIte, e1, Option.bind_some, t2, t8 c hc, hw, nW_lit, n1, e2, i7, i1, i2, g3, g2, e4, bindP, zI_t]
/-! in the reference: the text of a will becomes the topic -/
theorem hW_endC {σ : Sg} {c : Nat} : cB (gCl (spEndC σ c) c) 1 = cB (gCl σ c) 1 := by
  unfold spEndC
  split
  · rw [spRemove_put]
    show cB (fset (gCl σ) c _ c) 1 = _
    rw [fset_eq]; simp (disch := omega) only [spClear, spOff, uB_B, uB_I, uB_F, uB_W, uB_K, uB_N, uB_L, uI_B, uI_I, uI_F, uI_W, uI_K, uI_N, uI_L, uF_B, uF_I, uF_F, uF_W, uF_K, uF_N, uF_L, uW_B, uW_I, uW_F, uW_W, uW_K, uW_N, uW_L, uK_B, uK_I, uK_F, uK_W, uK_K, uK_N, uK_L, uN_B, uN_I, uN_F, uN_W, uN_K, uN_N, uN_L, uL_B, uL_I, uL_F, uL_W, uL_K, uL_N, uL_L, fset_ne]
  · rw [gCl_putG]; simp (disch := omega) only [spOff, uB_B, uB_I, uB_F, uB_W, uB_K, uB_N, uB_L, uI_B, uI_I, uI_F, uI_W, uI_K, uI_N, uI_L, uF_B, uF_I, uF_F, uF_W, uF_K, uF_N, uF_L, uW_B, uW_I, uW_F, uW_W, uW_K, uW_N, uW_L, uK_B, uK_I, uK_F, uK_W, uK_K, uK_N, uK_L, uN_B, uN_I, uN_F, uN_W, uN_K, uN_N, uN_L, uL_B, uL_I, uL_F, uL_W, uL_K, uL_N, uL_L, fset_ne]
