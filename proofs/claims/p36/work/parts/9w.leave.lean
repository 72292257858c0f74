/-! PUBLICATION WHOLE, connections that end -/
theorem putG_sc (σ : Sg) (c : Nat) (sc : Nat → Int32) : putG σ c (sc, gCl σ c) = uSc σ sc := by
  show (sc, fset (gCl σ) c (gCl σ c), σ.2.2) = (sc, σ.2.1, σ.2.2)
  rw [fset_self _ _ _ rfl]
theorem StR_inc {M : Mem} {S i : Nat} {σ : Sg} (hZ : inZ S) (h : StR M S σ) (hi : i < 10) : gR 7 7 S M = some (S + 445) ∧ aI 13 (S + 445) (nW i) M = some (gSc σ i) ∧ ∃ M1, wI 13 (S + 445) (nW i) (gSc σ i + nW 1) M = some M1 ∧ Fr (SZ S) M M1 ∧ StR M1 S (uSc σ (tot (gSc σ) i)) ∧ Fr (fun a => a = S + 445) M M1 := by
  have hc := StR_get h (c := 0) (by omega)
  obtain ⟨e1, M1, e2, F, R⟩ := CR_inc hc (hZ.s (by omega)) hi
  have := StR_put h (by omega) F R
  have F' : Fr (fun a => a = S + 445) M M1 := by
    obtain ⟨F, B⟩ := BaR_tot h.1 hZ (i := i) hi
    have e3 : wI 13 (S + 445) (nW i) (gSc σ i + nW 1) M = some (sI M (up2 (mI M) (S + 445) i (gSc σ i + nW 1))) := by
      simp (disch := omega) only [wI, h.1.2.2.2.2.1.1, ↓reduceIte, ix_nW, Option.map_some, nar13]
    rw [Option.some.inj (e2.symm.trans e3)]; exact F
  refine ⟨(CR_k hc).2.2.2.2.2.2.1, e1, M1, e2, F.mono (fun a h => CZ_SZ (by omega) h), ?_, F'⟩
  have e : putG σ 0 (tot (gSc σ) i, gCl σ 0) = uSc σ (tot (gSc σ) i) := putG_sc σ 0 _
  rw [← e]; exact this
theorem St_spread {M : Mem} {S m by' : Nat} {σ : Sg} {r : Row} (ret : Bool) (hZ : inZ S) (hR : StR M S σ) (hS : SI σ) (hm : MG M S σ m r) (hx : okTx r.1) (htop : topical r.1) (hg : ∃ n, n ≤ 2 ∧ r.2 1 = nW n) (hby : by' < 6) (hta : (gTa σ).1 < 512) : ∃ M', f_X7_spread S (nW by') m (zI ret) M = some (nW (spPubl σ r ret by').2, M') ∧ Fr (SZ S) M M' ∧ StR M' S (spPubl σ r ret by').1 := by
  obtain ⟨g, g1, g2⟩ := hg
  obtain ⟨k7, i1, M1, i2, F1, R1, _⟩ := StR_inc hZ hR (i := 0) (by omega)
  have G1 := MG_step hm F1 R1 (fun _ _ => rfl)
  obtain ⟨x, gx, hxt⟩ := MsR_top G1.1
  obtain ⟨s1, s2, s3, s4, s5, s6, s7, s8⟩ := StR_k R1
  obtain ⟨c1, c2⟩ := hZ
  obtain ⟨M2, e2, F2, T2⟩ := X9_count (by omega) R1.2.2.2.2 hxt hta
  have F2' : Fr (SZ S) M1 M2 := F2.mono (fun a h => by unfold SZ; omega)
  have R2 : StR M2 S (uSc (uTa σ (spCount (gTa σ) r.1)) (tot (gSc σ) 0)) := by
    obtain ⟨h1, h2, h3, h4, h5⟩ := R1
    have hk : (mK M1 S).1 ≠ 99 := by rw [h1.1.1]; decide
    exact ⟨h1.gr F2.gr (by omega), fun c hc => (h2 c hc).gr F2.gr (fun b _ _ => by omega), h3.gr F2.gr hk (by omega) (fun a _ _ => by omega), h4.gr F2.gr hk (by omega) (fun a _ _ => by omega), T2⟩
  have G2 := MG_step G1 F2' R2 (fun _ _ => rfl)
  have S0 : SI (spPub0 σ r ret) := SI_pub0 hS hx htop ⟨g, g1, g2⟩
  have hsh0 : gSh (spPub0 σ r ret) = gSh σ := by unfold spPub0; split <;> rfl
  have main : ∀ M3, StR M3 S (spPub0 σ r ret) → MG M3 S (spPub0 σ r ret) m r → ∃ M', f_X7_spread_L36 FU S (nW by') m (nW 0) (nW 0) M3 = some (nW (spPubl σ r ret by').2, M') ∧ Fr (SZ S) M3 M' ∧ StR M' S (spPubl σ r ret by').1 := by
    intro M3 R3 G3
    obtain ⟨a1, a2, a3, M4, e4, F4, R4, G4⟩ := St_spreadC (by' := by') ⟨c1, c2⟩ g1 g2 htop hby FU 0 0 M3 (spPub0 σ r ret) (by omega) (by simp only [FU]; omega) R3 S0 G3
    simp only [Nat.sub_zero] at a1 a2 a3 e4 R4 G4
    have ll : (gSh (spC r.1 (nW g) (r.2 2) by' 6 0 (spPub0 σ r ret, 0)).1).length = (gSh σ).length := by rw [a3, hsh0]
    have h36 : (gSh σ).length ≤ 36 := hR.2.2.1.2.1
    obtain ⟨b1, M5, e5, F5, R5⟩ := St_spreadH ⟨c1, c2⟩ g1 g2 htop FU 0 (spC r.1 (nW g) (r.2 2) by' 6 0 (spPub0 σ r ret, 0)).2 M4 (spC r.1 (nW g) (r.2 2) by' 6 0 (spPub0 σ r ret, 0)).1 (Nat.zero_le _) (by rw [ll]; simp only [FU]; omega) R4 a1 G4
    rw [Nat.sub_zero, ll] at b1 e5 R5
    have epp : spPubl σ r ret by' = spH r.1 (nW g) (r.2 2) (gSh σ).length 0 ((spC r.1 (nW g) (r.2 2) by' 6 0 (spPub0 σ r ret, 0)).1, (spC r.1 (nW g) (r.2 2) by' 6 0 (spPub0 σ r ret, 0)).2) := by
      unfold spPubl
      rw [g2]
    rw [epp]
    exact ⟨M5, by rw [e4]; exact e5, F4.trans F5, R5⟩
  cases ret with
  | true =>
    obtain ⟨m1, m2, m3⟩ := MG_ne G2
    obtain ⟨M3, e3, F3, R3⟩ := St_keepRetained ⟨c1, c2⟩ R2 G2.1 ⟨m2, by omega⟩
    have F3' : Fr (SZ S) M2 M3 := F3.mono (fun a h => by unfold SZ; omega)
    obtain ⟨M', e4, F4, R4⟩ := main M3 R3 (MG_step G2 F3' R3 (fun _ _ => rfl))
    refine ⟨M', ?_, F1.trans (F2'.trans (F3'.trans F4)), R4⟩
    have t1 : ¬ nW 1 = nW 0 := by decide
    simp only [f_X7_spread, hR.1.1.1, ↓reduceIte, k7, Option.bind_some, nW_lit, i1, i2, s5, gx, e2, zI_t, t1, e3, e4]
  | false =>
    obtain ⟨M', e4, F4, R4⟩ := main M2 R2 G2
    refine ⟨M', ?_, F1.trans (F2'.trans F4), R4⟩
    simp only [f_X7_spread, hR.1.1.1, ↓reduceIte, k7, Option.bind_some, nW_lit, i1, i2, s5, gx, e2, zI_f, e4]
/-! sessions removed: what always holds -/
theorem mem_shGone {l : List Sh} {c : Nat} {x : Sh} : x ∈ shGone l c ↔ ∃ y ∈ l, x = (y.1, y.2.1, y.2.2.erase c) ∧ y.2.2.erase c ≠ [] := by
  unfold shGone
  rw [List.mem_filter, List.mem_map]
  constructor
  · rintro ⟨⟨y, hy, rfl⟩, h⟩
    refine ⟨y, hy, rfl, fun e => ?_⟩
    simp [e] at h
  · rintro ⟨y, hy, rfl, h⟩
    refine ⟨⟨y, hy, rfl⟩, ?_⟩
    simp [h]
theorem ShG_gone {l : List Sh} {c : Nat} (h : ShG l) : ShG (shGone l c) := by
  obtain ⟨h1, h2, h3⟩ := h
  refine ⟨fun x hx => ?_, fun x hx => ?_, ?_⟩
  · obtain ⟨y, hy, rfl, he⟩ := mem_shGone.mp hx
    obtain ⟨a, b, d⟩ := h1 y hy
    exact ⟨fun z hz => a z (List.mem_of_mem_erase hz), b.erase c, he⟩
  · obtain ⟨y, hy, rfl, he⟩ := mem_shGone.mp hx
    exact h2 y hy
  · unfold ShDi shGone
    refine List.Sublist.nodup (List.Sublist.map shKey List.filter_sublist) ?_
    rw [List.map_map]
    exact h3
theorem GI_clear {g : GS} (h : GI g) (hon : cB g.2 0 = false) : GI (g.1, spClear g.2) := by
  obtain ⟨h1, ⟨l1, l2, l3, l4⟩, h3, h4, h5, h6, h7, h8, h9, h10⟩ := h
  unfold GI lim1
  simp (disch := omega) only [spClear, uB_B, uB_I, uB_F, uB_W, uB_K, uB_N, uB_L, uI_B, uI_I, uI_F, uI_W, uI_K, uI_N, uI_L, uF_B, uF_I, uF_F, uF_W, uF_K, uF_N, uF_L, uW_B, uW_I, uW_F, uW_W, uW_K, uW_N, uW_L, uK_B, uK_I, uK_F, uK_W, uK_K, uK_N, uK_L, uN_B, uN_I, uN_F, uN_W, uN_K, uN_N, uN_L, uL_B, uL_I, uL_F, uL_W, uL_K, uL_N, uL_L, fset_ne, fset_eq]
  refine ⟨h1, ⟨l1, by omega, by omega, by omega⟩, fun e => absurd (hon.symm.trans e) (by decide), fun e => absurd e (by decide), h5, fun j hj => absurd hj (Nat.not_lt_zero j), fun i j hi => absurd hi (Nat.not_lt_zero i), fun j hj => absurd hj (Nat.not_lt_zero j), h9, fun _ => ⟨trivial, trivial, trivial, fun i => trivial⟩⟩
theorem SI_remove {σ : Sg} {c : Nat} (h : SI σ) (hc : c < 6) (hon : cB (gCl σ c) 0 = false) : SI (spRemove σ c) := by
  obtain ⟨⟨h0, h1⟩, h2, h3, h4, h5, h6, h7⟩ := h
  have ecl : ∀ c', gCl (spRemove σ c) c' = if c' = c then spClear (gCl σ c) else gCl σ c' := fun c' => rfl
  have g3 : ∀ c', c' ≠ c → gCl (spRemove σ c) c' = gCl σ c' := fun c' h => by rw [ecl, if_neg h]
  have gc : gCl (spRemove σ c) c = spClear (gCl σ c) := by rw [ecl, if_pos rfl]
  have z3 : (cL (spClear (gCl σ c)) 3).1 = 0 := by simp (disch := omega) only [spClear, uB_B, uB_I, uB_F, uB_W, uB_K, uB_N, uB_L, uI_B, uI_I, uI_F, uI_W, uI_K, uI_N, uI_L, uF_B, uF_I, uF_F, uF_W, uF_K, uF_N, uF_L, uW_B, uW_I, uW_F, uW_W, uW_K, uW_N, uW_L, uK_B, uK_I, uK_F, uK_W, uK_K, uK_N, uK_L, uN_B, uN_I, uN_F, uN_W, uN_K, uN_N, uN_L, uL_B, uL_I, uL_F, uL_W, uL_K, uL_N, uL_L, fset_eq]
  refine ⟨⟨h0, fun c' hc' => ?_⟩, fun c' hc' => ?_, ShG_gone h3, fun c' hc' => ⟨fun x hx => ?_, fun j hj hg => ?_⟩, h5, h6, fun c' hc' => ?_⟩
  · show GI (gSc σ, gCl (spRemove σ c) c')
    by_cases e : c' = c
    · subst e; rw [gc]; exact GI_clear (h1 c' hc') hon
    · rw [g3 c' e]; exact h1 c' hc'
  · by_cases e : c' = c
    · subst e; rw [gc]
      exact ⟨fun j hj => absurd hj (by omega), fun i j hi => absurd hi (by omega)⟩
    · rw [g3 c' e]; exact h2 c' hc'
  · obtain ⟨y, hy, rfl, he⟩ := mem_shGone.mp hx
    by_cases e : c' = c
    · subst e; rw [gc]
      constructor
      · intro hm
        exact absurd rfl ((h3.1 y hy).2.1.mem_erase_iff.mp hm).1
      · rintro ⟨j, hj, _⟩; omega
    · rw [g3 c' e]
      show c' ∈ y.2.2.erase c ↔ _
      rw [List.mem_erase_of_ne e, (h4 c' hc').1 y hy]; rfl
  · by_cases e : c' = c
    · subst e; rw [gc] at hj; omega
    · rw [g3 c' e] at hj hg ⊢
      obtain ⟨y, hy, hk⟩ := (h4 c' hc').2 j hj hg
      have hm : c' ∈ y.2.2 := ((h4 c' hc').1 y hy).mpr ⟨j, hj, hk.symm⟩
      have hm2 : c' ∈ y.2.2.erase c := (List.mem_erase_of_ne e).mpr hm
      exact ⟨(y.1, y.2.1, y.2.2.erase c), mem_shGone.mpr ⟨y, hy, rfl, fun ee => by rw [ee] at hm2; cases hm2⟩, hk⟩
  · by_cases e : c' = c
    · subst e; rw [gc]
      have := h7 c' hc'
      unfold WiOk at this ⊢
      simp (disch := omega) only [spClear, uB_B, uB_I, uB_F, uB_W, uB_K, uB_N, uB_L, uI_B, uI_I, uI_F, uI_W, uI_K, uI_N, uI_L, uF_B, uF_I, uF_F, uF_W, uF_K, uF_N, uF_L, uW_B, uW_I, uW_F, uW_W, uW_K, uW_N, uW_L, uK_B, uK_I, uK_F, uK_W, uK_K, uK_N, uK_L, uN_B, uN_I, uN_F, uN_W, uN_K, uN_N, uN_L, uL_B, uL_I, uL_F, uL_W, uL_K, uL_N, uL_L, fset_ne]; exact this
    · rw [g3 c' e]; exact h7 c' hc'
/-- a connection ends -/
def spOff (x : Cl) (t : Int32) : Cl := uI (uL (uB x 0 false) 0 (0, (cL x 0).2)) 1 t
def spEndC (σ : Sg) (c : Nat) : Sg := if cB (gCl σ c) 4 = true then spRemove (putG σ c (gSc σ, spOff (gCl σ c) (gSc σ 14))) c else putG σ c (gSc σ, spOff (gCl σ c) (gSc σ 14))
theorem GI_off {g : GS} (h : GI g) (t : Int32) : GI (g.1, spOff g.2 t) := by
  obtain ⟨h1, ⟨l1, l2, l3, l4⟩, h3, h4, h5, h6, h7, h8, h9, h10⟩ := h
  unfold GI lim1
  simp (disch := omega) only [spOff, uB_B, uB_I, uB_F, uB_W, uB_K, uB_N, uB_L, uI_B, uI_I, uI_F, uI_W, uI_K, uI_N, uI_L, uF_B, uF_I, uF_F, uF_W, uF_K, uF_N, uF_L, uW_B, uW_I, uW_F, uW_W, uW_K, uW_N, uW_L, uK_B, uK_I, uK_F, uK_W, uK_K, uK_N, uK_L, uN_B, uN_I, uN_F, uN_W, uN_K, uN_N, uN_L, uL_B, uL_I, uL_F, uL_W, uL_K, uL_N, uL_L, fset_ne, fset_eq]
  exact ⟨h1, ⟨by omega, l2, l3, l4⟩, fun e => absurd e (by decide), h4, fun j hj => absurd hj (Nat.not_lt_zero j), h6, h7, h8, fun _ => trivial, h10⟩
theorem SI_off {σ : Sg} {c : Nat} (h : SI σ) (hc : c < 6) (t : Int32) : SI (putG σ c (gSc σ, spOff (gCl σ c) t)) := by
  refine SI_put h hc (GI_off (h.1.2 c hc) t) (fun _ _ _ => rfl) ?_ ?_
  · simp (disch := omega) only [spOff, uB_B, uB_I, uB_F, uB_W, uB_K, uB_N, uB_L, uI_B, uI_I, uI_F, uI_W, uI_K, uI_N, uI_L, uF_B, uF_I, uF_F, uF_W, uF_K, uF_N, uF_L, uW_B, uW_I, uW_F, uW_W, uW_K, uW_N, uW_L, uK_B, uK_I, uK_F, uK_W, uK_K, uK_N, uK_L, uN_B, uN_I, uN_F, uN_W, uN_K, uN_N, uN_L, uL_B, uL_I, uL_F, uL_W, uL_K, uL_N, uL_L, fset_ne]
  · have := h.2.2.2.2.2.2 c hc
    unfold WiOk at this ⊢
    simp (disch := omega) only [spOff, uB_B, uB_I, uB_F, uB_W, uB_K, uB_N, uB_L, uI_B, uI_I, uI_F, uI_W, uI_K, uI_N, uI_L, uF_B, uF_I, uF_F, uF_W, uF_K, uF_N, uF_L, uW_B, uW_I, uW_F, uW_W, uW_K, uW_N, uW_L, uK_B, uK_I, uK_F, uK_W, uK_K, uK_N, uK_L, uN_B, uN_I, uN_F, uN_W, uN_K, uN_N, uN_L, uL_B, uL_I, uL_F, uL_W, uL_K, uL_N, uL_L, fset_ne]; exact this
theorem SI_endC {σ : Sg} {c : Nat} (h : SI σ) (hc : c < 6) : SI (spEndC σ c) := by
  have h1 := SI_off h hc (gSc σ 14)
  unfold spEndC
  split
  · refine SI_remove h1 hc ?_
    show cB (fset (gCl σ) c _ c) 0 = false
    rw [fset_eq]
    simp (disch := omega) only [spOff, uB_B, uB_I, uB_F, uB_W, uB_K, uB_N, uB_L, uI_B, uI_I, uI_F, uI_W, uI_K, uI_N, uI_L, uF_B, uF_I, uF_F, uF_W, uF_K, uF_N, uF_L, uW_B, uW_I, uW_F, uW_W, uW_K, uW_N, uW_L, uK_B, uK_I, uK_F, uK_W, uK_K, uK_N, uK_L, uN_B, uN_I, uN_F, uN_W, uN_K, uN_N, uN_L, uL_B, uL_I, uL_F, uL_W, uL_K, uL_N, uL_L, fset_eq]
  · exact h1
