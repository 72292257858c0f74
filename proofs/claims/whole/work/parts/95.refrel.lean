/-! THE ABSTRACT STATE: scalars (0 to 9 totals, 10 to 13 options, 14 clock), clients, shares (filter, group, members), retained messages, counts of topics -/
abbrev Sh : Type := Txt × Int32 × List Nat
def shD : Sh := ([], nW 0, [])
abbrev Sg : Type := (Nat → Int32) × (Nat → Cl) × List Sh × Ls Row × Ls (Txt × Int32)
abbrev gSc (σ : Sg) : Nat → Int32 := σ.1
abbrev gCl (σ : Sg) : Nat → Cl := σ.2.1
abbrev gSh (σ : Sg) : List Sh := σ.2.2.1
abbrev gRe (σ : Sg) : Ls Row := σ.2.2.2.1
abbrev gTa (σ : Sg) : Ls (Txt × Int32) := σ.2.2.2.2
def getG (σ : Sg) (c : Nat) : GS := (σ.1, σ.2.1 c)
def putG (σ : Sg) (c : Nat) (g : GS) : Sg := (g.1, fset σ.2.1 c g.2, σ.2.2)
/-! .. in the reference's rows of numbers -/
def R_sc (s : Nat → Int32) (sc : Nat → Int32) : Prop := s 0 = sc 14 ∧ (∀ i, i < 4 → s (1 + i) = sc (10 + i)) ∧ ∀ i, i < 10 → s (5 + i) = sc i
def R_c1 (s : Nat → Int32) (c : Nat) (x : Cl) : Prop := s (20 + c) = zI (cB x 3) ∧ s (32 + c) = zI (cB x 0) ∧ s (50 + c) = nW (cL x 3).1 ∧ s (56 + c) = nW (cL x 1).1 ∧ s (62 + c) = nW (cL x 2).1 ∧ s (68 + c) = nW (cL x 0).1 ∧ s (74 + c) = zI (cB x 1) ∧ s (80 + c) = cI x 0
def R_c2 (s : Nat → Int32) (c : Nat) (x : Cl) : Prop := cB x 3 = true → s (26 + c) = zI (cB x 4) ∧ s (44 + c) = nW (cN x) ∧ (cB x 0 = false → s (38 + c) = cI x 1)
def R_wi (s : Nat → Int32) (t : Nat → Int64) (c : Nat) (x : Cl) : Prop := cB x 1 = true → s (86 + c) = (cW x).2 1 ∧ s (92 + c) = zI (cB x 2) ∧ s (98 + c) = (cW x).2 2 ∧ TB t (4 * c) (cW x).1
def R_ke (s : Nat → Int32) (c : Nat) (x : Cl) : Prop := ∀ i, 1 ≤ i → i < 51 → s (104 + (51 * c + i)) = zI (cK x i)
def R_su (s : Nat → Int32) (t : Nat → Int64) (c : Nat) (l : Ls Row) : Prop := ∀ j, j < l.1 → s (410 + (6 * c + j)) = (l.2 j).2 2 ∧ s (446 + (6 * c + j)) = (l.2 j).2 1 ∧ s (482 + (6 * c + j)) = (l.2 j).2 3 ∧ s (518 + (6 * c + j)) = nW (l.2 j).1.length ∧ TB t (24 + 4 * (6 * c + j)) (l.2 j).1
def R_fl (s : Nat → Int32) (t : Nat → Int64) (c : Nat) (l : Ls Row) : Prop := ∀ j, j < l.1 → s (554 + (5 * c + j)) = (l.2 j).2 4 ∧ s (584 + (5 * c + j)) = (l.2 j).2 1 ∧ s (614 + (5 * c + j)) = (l.2 j).2 2 ∧ (l.2 j).2 3 = nW 2 * s (644 + (5 * c + j)) ∧ s (674 + (5 * c + j)) = (l.2 j).2 5 ∧ s (704 + (5 * c + j)) = (l.2 j).2 6 ∧ TB t (168 + 4 * (5 * c + j)) (l.2 j).1
def R_pe (s : Nat → Int32) (t : Nat → Int64) (c : Nat) (l : Ls Row) : Prop := ∀ j, j < l.1 → s (734 + (8 * c + j)) = (l.2 j).2 1 ∧ s (782 + (8 * c + j)) = (l.2 j).2 2 ∧ (l.2 j).2 3 = nW 2 * s (830 + (8 * c + j)) ∧ TB t (312 + 4 * (8 * c + j)) (l.2 j).1
def R_qu (s : Nat → Int32) (t : Nat → Int64) (c : Nat) (l : Ls Row) : Prop := ∀ j, j < l.1 → s (878 + (30 * c + j)) = (l.2 j).2 0 ∧ s (1058 + (30 * c + j)) = (l.2 j).2 1 ∧ s (1238 + (30 * c + j)) = (l.2 j).2 2 ∧ s (1418 + (30 * c + j)) = (l.2 j).2 3 ∧ s (1598 + (30 * c + j)) = (l.2 j).2 4 ∧ TB t (504 + 4 * (30 * c + j)) (l.2 j).1
def R_re (s : Nat → Int32) (t : Nat → Int64) (l : Ls Row) : Prop := s 15 = nW l.1 ∧ ∀ j, j < l.1 → s (1778 + j) = (l.2 j).2 1 ∧ s (1786 + j) = (l.2 j).2 2 ∧ TB t (1224 + 4 * j) (l.2 j).1
def R_sh1 (s : Nat → Int32) (t : Nat → Int64) (j : Nat) (x : Sh) : Prop := s (1794 + j) = x.2.1 ∧ s (1830 + j) = nW x.1.length ∧ s (1866 + j) = nW x.2.2.length ∧ TB t (1256 + 4 * j) x.1 ∧ ∀ i, i < x.2.2.length → s (1902 + (6 * j + i)) = nW (x.2.2.getD i 0)
def R_sh (s : Nat → Int32) (t : Nat → Int64) (l : List Sh) : Prop := s 16 = nW l.length ∧ ∀ j, j < l.length → R_sh1 s t j (l.getD j shD)
def R_pu (s : Nat → Int32) (t : Nat → Int64) (l : Ls (Txt × Int32)) : Prop := s 17 = nW l.1 ∧ ∀ j, j < l.1 → s (2118 + j) = (l.2 j).2 ∧ TB t (1400 + 4 * j) (l.2 j).1
/-- limits -/
def lim1 (x : Cl) : Prop := (cL x 0).1 ≤ 30 ∧ (cL x 1).1 ≤ 5 ∧ (cL x 2).1 ≤ 8 ∧ (cL x 3).1 ≤ 6
def R_cl (s : Nat → Int32) (t : Nat → Int64) (c : Nat) (x : Cl) : Prop := lim1 x ∧ R_c1 s c x ∧ R_c2 s c x ∧ R_wi s t c x ∧ R_ke s c x ∧ R_su s t c (cL x 3) ∧ R_fl s t c (cL x 1) ∧ R_pe s t c (cL x 2) ∧ R_qu s t c (cL x 0)
def R_gl (s : Nat → Int32) (t : Nat → Int64) (σ : Sg) : Prop := R_re s t (gRe σ) ∧ R_sh s t (gSh σ) ∧ R_pu s t (gTa σ) ∧ (gRe σ).1 ≤ 8 ∧ (gSh σ).length ≤ 36 ∧ (gTa σ).1 ≤ 512 ∧ ∀ j, j < (gSh σ).length → ((gSh σ).getD j shD).2.2.length ≤ 6
def RSt (s : Nat → Int32) (t : Nat → Int64) (σ : Sg) : Prop := R_sc s (gSc σ) ∧ (∀ c, c < 6 → R_cl s t c (gCl σ c)) ∧ R_gl s t σ
/-- the places of client c -/
def cs (c i : Nat) : Prop := (20 ≤ i ∧ i < 104 ∧ (i - 20) % 6 = c) ∨ (104 ≤ i ∧ i < 410 ∧ (i - 104) / 51 = c) ∨ (410 ≤ i ∧ i < 554 ∧ (i - 410) % 36 / 6 = c) ∨ (554 ≤ i ∧ i < 734 ∧ (i - 554) % 30 / 5 = c) ∨ (734 ≤ i ∧ i < 878 ∧ (i - 734) % 48 / 8 = c) ∨ (878 ≤ i ∧ i < 1778 ∧ (i - 878) % 180 / 30 = c)
def ct (c i : Nat) : Prop := (i < 24 ∧ i / 4 = c) ∨ (24 ≤ i ∧ i < 168 ∧ (i - 24) / 24 = c) ∨ (168 ≤ i ∧ i < 288 ∧ (i - 168) / 20 = c) ∨ (312 ≤ i ∧ i < 504 ∧ (i - 312) / 32 = c) ∨ (504 ≤ i ∧ i < 1224 ∧ (i - 504) / 120 = c)
theorem cs_ne {c c' i : Nat} (h : cs c i) (hc : c ≠ c') : ¬ cs c' i := by
  unfold cs at *; omega
theorem ct_ne {c c' i : Nat} (h : ct c i) (hc : c ≠ c') : ¬ ct c' i := by
  unfold ct at *; omega
/-- what a client's operation may change -/
def FT (c : Nat) (s s' : Nat → Int32) : Prop := ∀ i, 15 ≤ i → ¬ cs c i → s' i = s i
def Ft (c : Nat) (t t' : Nat → Int64) : Prop := ∀ i, ¬ ct c i → t' i = t i
theorem FT.refl (c : Nat) (s : Nat → Int32) : FT c s s := fun _ _ _ => rfl
theorem Ft.refl (c : Nat) (t : Nat → Int64) : Ft c t t := fun _ _ => rfl
theorem FT.trans {c : Nat} {s s' s'' : Nat → Int32} (h : FT c s s') (g : FT c s' s'') : FT c s s'' := fun i h1 h2 => (g i h1 h2).trans (h i h1 h2)
theorem Ft.trans {c : Nat} {t t' t'' : Nat → Int64} (h : Ft c t t') (g : Ft c t' t'') : Ft c t t'' := fun i h2 => (g i h2).trans (h i h2)
theorem TB.fr {t t' : Nat → Int64} {i : Nat} {x : Txt} (h : TB t i x) (ht : ∀ k, k < 4 → t' (i + k) = t (i + k)) : TB t' i x := fun k hk => (ht k hk).trans (h k hk)
theorem TB.blk {f : Nat → Int64} {i : Nat} {v : Nat → Int64} {x : Txt} (h : ∀ k, k < 4 → v k = rc (x.getD k [])) : TB (blk f i v) i x := fun k hk => (blk_in f i v hk).trans (h k hk)
theorem R_c2.fr {s s' : Nat → Int32} {c : Nat} {x : Cl} (hc : c < 6) (h : R_c2 s c x) (hs : ∀ i, 26 ≤ i → i < 50 → s' i = s i) : R_c2 s' c x := by
  unfold R_c2 at *
  rw [hs _ (by omega) (by omega), hs _ (by omega) (by omega), hs _ (by omega) (by omega)]; exact h
theorem R_wi.fr {s s' : Nat → Int32} {t t' : Nat → Int64} {c : Nat} {x : Cl} (hc : c < 6) (h : R_wi s t c x) (hs : ∀ i, 86 ≤ i → i < 104 → s' i = s i) (ht : ∀ i, i < 24 → t' i = t i) : R_wi s' t' c x := by
  unfold R_wi at *
  rw [hs _ (by omega) (by omega), hs _ (by omega) (by omega), hs _ (by omega) (by omega)]
  exact fun e => ⟨(h e).1, (h e).2.1, (h e).2.2.1, (h e).2.2.2.fr (fun k hk => ht _ (by omega))⟩
theorem R_ke.fr {s s' : Nat → Int32} {c : Nat} {x : Cl} (hc : c < 6) (h : R_ke s c x) (hs : ∀ i, 104 ≤ i → i < 410 → s' i = s i) : R_ke s' c x := fun i h1 h2 => by
  rw [hs _ (by omega) (by omega)]; exact h i h1 h2
theorem R_su.fr {s s' : Nat → Int32} {t t' : Nat → Int64} {c : Nat} {l : Ls Row} (hc : c < 6) (hl : l.1 ≤ 6) (h : R_su s t c l) (hs : ∀ i, 410 ≤ i → i < 554 → s' i = s i) (ht : ∀ i, 24 ≤ i → i < 168 → t' i = t i) : R_su s' t' c l := fun j hj => by
  obtain ⟨h1, h2, h3, h4, h5⟩ := h j hj
  rw [hs _ (by omega) (by omega), hs _ (by omega) (by omega), hs _ (by omega) (by omega), hs _ (by omega) (by omega)]
  exact ⟨h1, h2, h3, h4, h5.fr (fun k hk => ht _ (by omega) (by omega))⟩
theorem R_fl.fr {s s' : Nat → Int32} {t t' : Nat → Int64} {c : Nat} {l : Ls Row} (hc : c < 6) (hl : l.1 ≤ 5) (h : R_fl s t c l) (hs : ∀ i, 554 ≤ i → i < 734 → s' i = s i) (ht : ∀ i, 168 ≤ i → i < 288 → t' i = t i) : R_fl s' t' c l := fun j hj => by
  obtain ⟨h1, h2, h3, h4, h5, h6, h7⟩ := h j hj
  rw [hs _ (by omega) (by omega), hs _ (by omega) (by omega), hs _ (by omega) (by omega), hs _ (by omega) (by omega), hs _ (by omega) (by omega), hs _ (by omega) (by omega)]
  exact ⟨h1, h2, h3, h4, h5, h6, h7.fr (fun k hk => ht _ (by omega) (by omega))⟩
theorem R_pe.fr {s s' : Nat → Int32} {t t' : Nat → Int64} {c : Nat} {l : Ls Row} (hc : c < 6) (hl : l.1 ≤ 8) (h : R_pe s t c l) (hs : ∀ i, 734 ≤ i → i < 878 → s' i = s i) (ht : ∀ i, 312 ≤ i → i < 504 → t' i = t i) : R_pe s' t' c l := fun j hj => by
  obtain ⟨h1, h2, h3, h4⟩ := h j hj
  rw [hs _ (by omega) (by omega), hs _ (by omega) (by omega), hs _ (by omega) (by omega)]
  exact ⟨h1, h2, h3, h4.fr (fun k hk => ht _ (by omega) (by omega))⟩
theorem R_qu.fr {s s' : Nat → Int32} {t t' : Nat → Int64} {c : Nat} {l : Ls Row} (hc : c < 6) (hl : l.1 ≤ 30) (h : R_qu s t c l) (hs : ∀ i, 878 ≤ i → i < 1778 → s' i = s i) (ht : ∀ i, 504 ≤ i → i < 1224 → t' i = t i) : R_qu s' t' c l := fun j hj => by
  obtain ⟨h1, h2, h3, h4, h5, h6⟩ := h j hj
  rw [hs _ (by omega) (by omega), hs _ (by omega) (by omega), hs _ (by omega) (by omega), hs _ (by omega) (by omega), hs _ (by omega) (by omega)]
  exact ⟨h1, h2, h3, h4, h5, h6.fr (fun k hk => ht _ (by omega) (by omega))⟩
theorem R_cl.fr {s s' : Nat → Int32} {t t' : Nat → Int64} {c : Nat} {x : Cl} (hc : c < 6) (h : R_cl s t c x) (hs : ∀ i, cs c i → s' i = s i) (ht : ∀ i, ct c i → t' i = t i) : R_cl s' t' c x := by
  obtain ⟨⟨l1, l2, l3, l4⟩, ⟨a1, a2, a3, a4, a5, a6, a7, a8⟩, b, w, k, u, f, p, q⟩ := h
  simp only [cs] at hs
  simp only [ct] at ht
  refine ⟨⟨l1, l2, l3, l4⟩, ?_, ?_, ?_, ?_, ?_, ?_, ?_, ?_⟩
  · unfold R_c1
    rw [hs (20 + c) (by omega), hs (32 + c) (by omega), hs (50 + c) (by omega), hs (56 + c) (by omega), hs (62 + c) (by omega), hs (68 + c) (by omega), hs (74 + c) (by omega), hs (80 + c) (by omega)]
    exact ⟨a1, a2, a3, a4, a5, a6, a7, a8⟩
  · unfold R_c2 at *
    rw [hs (26 + c) (by omega), hs (44 + c) (by omega), hs (38 + c) (by omega)]; exact b
  · unfold R_wi at *
    rw [hs (86 + c) (by omega), hs (92 + c) (by omega), hs (98 + c) (by omega)]
    exact fun e => ⟨(w e).1, (w e).2.1, (w e).2.2.1, (w e).2.2.2.fr (fun k hk => ht _ (by omega))⟩
  · intro i h1 h2
    rw [hs _ (by omega)]; exact k i h1 h2
  · intro j hj
    obtain ⟨h1, h2, h3, h4, h5⟩ := u j hj
    rw [hs _ (by omega), hs _ (by omega), hs _ (by omega), hs _ (by omega)]
    exact ⟨h1, h2, h3, h4, h5.fr (fun k hk => ht _ (by omega))⟩
  · intro j hj
    obtain ⟨h1, h2, h3, h4, h5, h6, h7⟩ := f j hj
    rw [hs _ (by omega), hs _ (by omega), hs _ (by omega), hs _ (by omega), hs _ (by omega), hs _ (by omega)]
    exact ⟨h1, h2, h3, h4, h5, h6, h7.fr (fun k hk => ht _ (by omega))⟩
  · intro j hj
    obtain ⟨h1, h2, h3, h4⟩ := p j hj
    rw [hs _ (by omega), hs _ (by omega), hs _ (by omega)]
    exact ⟨h1, h2, h3, h4.fr (fun k hk => ht _ (by omega))⟩
  · intro j hj
    obtain ⟨h1, h2, h3, h4, h5, h6⟩ := q j hj
    rw [hs _ (by omega), hs _ (by omega), hs _ (by omega), hs _ (by omega), hs _ (by omega)]
    exact ⟨h1, h2, h3, h4, h5, h6.fr (fun k hk => ht _ (by omega))⟩
theorem R_gl.fr {s s' : Nat → Int32} {t t' : Nat → Int64} {σ : Sg} (h : R_gl s t σ) (hs : ∀ i, (15 ≤ i ∧ i < 18) ∨ 1778 ≤ i → s' i = s i) (ht : ∀ i, 1224 ≤ i → t' i = t i) : R_gl s' t' σ := by
  obtain ⟨⟨a1, a2⟩, ⟨b1, b2⟩, ⟨c1, c2⟩, d1, d2, d3, d4⟩ := h
  refine ⟨⟨?_, ?_⟩, ⟨?_, ?_⟩, ⟨?_, ?_⟩, d1, d2, d3, d4⟩
  · rw [hs 15 (by omega)]; exact a1
  · intro j hj
    obtain ⟨h1, h2, h3⟩ := a2 j hj
    rw [hs _ (by omega), hs _ (by omega)]
    exact ⟨h1, h2, h3.fr (fun k hk => ht _ (by omega))⟩
  · rw [hs 16 (by omega)]; exact b1
  · intro j hj
    obtain ⟨h1, h2, h3, h4, h5⟩ := b2 j hj
    unfold R_sh1
    rw [hs _ (by omega), hs _ (by omega), hs _ (by omega)]
    refine ⟨h1, h2, h3, h4.fr (fun k hk => ht _ (by omega)), fun i hi => ?_⟩
    rw [hs _ (by omega)]; exact h5 i hi
  · rw [hs 17 (by omega)]; exact c1
  · intro j hj
    obtain ⟨h1, h2⟩ := c2 j hj
    rw [hs _ (by omega)]
    exact ⟨h1, h2.fr (fun k hk => ht _ (by omega))⟩
/-- one client, with the scalars -/
def RG (s : Nat → Int32) (t : Nat → Int64) (c : Nat) (g : GS) : Prop := R_sc s g.1 ∧ R_cl s t c g.2
theorem RSt_get {s : Nat → Int32} {t : Nat → Int64} {σ : Sg} {c : Nat} (h : RSt s t σ) (hc : c < 6) : RG s t c (getG σ c) := ⟨h.1, h.2.1 c hc⟩
theorem RSt_put {s s' : Nat → Int32} {t t' : Nat → Int64} {σ : Sg} {c : Nat} {g : GS} (h : RSt s t σ) (h' : RG s' t' c g) (hs : FT c s s') (ht : Ft c t t') (hc6 : c < 6) : RSt s' t' (putG σ c g) := by
  refine ⟨h'.1, fun c' hc' => ?_, ?_⟩
  · by_cases e : c' = c
    · subst e; show R_cl s' t' c' (fset σ.2.1 c' g.2 c'); rw [fset_eq]; exact h'.2
    · show R_cl s' t' c' (fset σ.2.1 c g.2 c')
      rw [fset_ne _ _ e]
      refine (h.2.1 c' hc').fr hc' (fun i hi => hs i ?_ (cs_ne hi e)) (fun i hi => ht i (ct_ne hi e))
      unfold cs at hi; omega
  · have := h.2.2
    refine R_gl.fr (σ := putG σ c g) this (fun i hi => hs i (by omega) ?_) (fun i hi => ht i ?_)
    · unfold cs; omega
    · unfold ct; omega
