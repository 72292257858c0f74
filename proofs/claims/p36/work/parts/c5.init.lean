/-! A NEW TEXT OBJECT -/
theorem nO_ok {k s : Nat} {M : Mem} (h : mN M + 1 < 1000000) : nO k s M = some (mN M, mkM k 0 s M) := by
  unfold nO
  rw [if_pos (by show mN M + 1 < 1000000000; omega)]
theorem nA_ok {k n : Nat} {M : Mem} (h : mN M + 1 < 1000000) (hn : n ≤ 100000) : nA k (nW n) M = some (mN M, mkM k n n M) := by
  have h0 : ¬ nW n < 0 := by rw [nW_lit 0, nW_lt (by omega) (by omega)]; omega
  unfold nA
  rw [nW_nat (by omega), if_pos ⟨by show mN M + 1 < 1000000000; omega, h0, hn⟩]
/-- only the cells sa (ints) and la (longs) change -/
def Lo (sa la : Nat) (M M' : Mem) : Prop := mK M' = mK M ∧ (mN M' = mN M ∧ mC M' = mC M ∧ mS M' = mS M) ∧ (∀ a, a ≠ sa → mI M' a = mI M a) ∧ (∀ a, a ≠ la → mL M' a = mL M a) ∧ mF M' = mF M ∧ mR M' = mR M
theorem Lo.refl (sa la : Nat) (M : Mem) : Lo sa la M M := ⟨rfl, ⟨rfl, rfl, rfl⟩, fun _ _ => rfl, fun _ _ => rfl, rfl, rfl⟩
theorem Lo.trans {sa la : Nat} {M M' M'' : Mem} (h : Lo sa la M M') (g : Lo sa la M' M'') : Lo sa la M M'' := by
  obtain ⟨h1, ⟨h2, h3, h4⟩, h5, h6, h7, h8⟩ := h
  obtain ⟨g1, ⟨g2, g3, g4⟩, g5, g6, g7, g8⟩ := g
  exact ⟨g1.trans h1, ⟨g2.trans h2, g3.trans h3, g4.trans h4⟩, fun a ha => (g5 a ha).trans (h5 a ha), fun a ha => (g6 a ha).trans (h6 a ha), g7.trans h7, g8.trans h8⟩
theorem X10_init_L31 {x b sa la : Nat} {l : List Nat} (hd : b ≠ sa ∧ b ≠ la ∧ sa ≠ la) (hc : ∀ c ∈ l, c < 128) (h30 : l.length ≤ 1000) {m : Nat} (hbm : l.length ≤ m) : ∀ n i M (s : Nat × (Nat → Nat)), i ≤ l.length → l.length - i < n → (mK M b = (16, m) ∧ mK M sa = (16, l.length) ∧ mK M la = (14, 4)) → (∀ j, j < l.length → mI M b j = nW (l.getD j 0)) → (∀ j, j < i → mI M sa j = nW (l.getD j 0)) → (∀ k, k < 4 → mL M la k = nL (s.2 k)) → ((cst (l.drop i) s).1 ≤ 3 ∧ ∀ k, (cst (l.drop i) s).2 k < 2 ^ 50) → ∃ M', f_X10_init_L31 n x b (nW l.length) sa la (nW s.1) (nW i) M = f_X10_init_L31 1 x b (nW l.length) sa la (nW (cst (l.drop i) s).1) (nW l.length) M' ∧ Lo sa la M M' ∧ (∀ j, j < l.length → mI M' sa j = nW (l.getD j 0)) ∧ ∀ k, k < 4 → mL M' la k = nL ((cst (l.drop i) s).2 k)
  | 0, i, M, s, _, hn, _, _, _, _, _ => absurd hn (by omega)
  | n + 1, i, M, s, hi, hn, hk, hb, hs, hl, hf => by
    obtain ⟨k1, k2, k3⟩ := hk
    obtain ⟨d1, d2, d3⟩ := hd
    by_cases he : i = l.length
    · subst he
      rw [List.drop_length] at hf ⊢
      refine ⟨M, ?_, Lo.refl _ _ _, hs, hl⟩
      simp (disch := omega) only [f_X10_init_L31, nW_le, Nat.le_refl, ↓reduceIte, cst]
    · have hi' : i < l.length := by omega
      have ed : l.drop i = l.getD i 0 :: l.drop (i + 1) := by rw [List.drop_eq_getElem_cons hi', gd_in _ _ hi']
      have hcr := hc (l.getD i 0) (by rw [gd_in _ _ hi']; exact List.getElem_mem hi')
      have hbi := hb i hi'
      generalize hcc : l.getD i 0 = c at ed hcr hbi
      have n0 : ¬ l.length ≤ i := by omega
      have ea : aI 16 b (nW i) M = some (nW c) := by
        simp (disch := omega) only [aI, k1, ↓reduceIte, ix_nW, Option.map_some, hbi]
      have ew : wI 16 sa (nW i) (nW c) M = some (sI M (up2 (mI M) sa i (nW c))) := by
        simp (disch := omega) only [wI, k2, ↓reduceIte, ix_nW, Option.map_some, nar16']
      have L1 : Lo sa la M (sI M (up2 (mI M) sa i (nW c))) := ⟨rfl, ⟨rfl, rfl, rfl⟩, fun a ha => up2_fn _ _ _ ha, fun _ _ => rfl, rfl, rfl⟩
      have hs1 : ∀ j, j < i + 1 → mI (sI M (up2 (mI M) sa i (nW c))) sa j = nW (l.getD j 0) := fun j hj => by
        show up2 (mI M) sa i (nW c) sa j = _
        by_cases e : j = i
        · subst e; rw [up2_eq, hcc]
        · rw [up2_nj _ _ _ _ e]; exact hs j (by omega)
      have hb1 : ∀ j, j < l.length → mI (sI M (up2 (mI M) sa i (nW c))) b j = nW (l.getD j 0) := fun j hj => by
        show up2 (mI M) sa i (nW c) b j = _
        rw [up2_ne _ _ _ _ d1]; exact hb j hj
      rw [ed, cst] at hf ⊢
      by_cases c47 : c = 47
      · rw [if_pos c47] at hf ⊢
        obtain ⟨M', e, L2, r1, r2⟩ := X10_init_L31 (x := x) ⟨d1, d2, d3⟩ hc h30 hbm n (i + 1) (sI M (up2 (mI M) sa i (nW c))) (s.1 + 1, s.2) (by omega) (by omega) ⟨k1, k2, k3⟩ hb1 hs1 hl hf
        refine ⟨M', ?_, L1.trans L2, r1, r2⟩
        rw [← e]
        subst c47
        simp (disch := omega) only [f_X10_init_L31, nW_le, n0, ↓reduceIte, nW_lit, nW_add, ea, ew, Option.bind_some]
      · rw [if_neg c47] at hf ⊢
        have hm := cst_mono (l.drop (i + 1)) (s.1, fset s.2 s.1 (s.2 s.1 * 128 + c))
        have hs3 : s.1 ≤ 3 := Nat.le_trans hm.1 hf.1
        have hv : s.2 s.1 * 128 + c < 2 ^ 50 := by
          have h1 := hm.2 s.1
          simp only [fset_eq] at h1
          exact Nat.lt_of_le_of_lt h1 (hf.2 s.1)
        have n4 : ¬ 4 ≤ s.1 := by omega
        have el : aL la (nW s.1) (sI M (up2 (mI M) sa i (nW c))) = some (nL (s.2 s.1)) := by
          have := hl s.1 (by omega)
          simp (disch := omega) only [aL, sI_mI, sI_mL, sI_mF, sI_mR, sI_mK, sI_mN, sI_mC, sI_mS, sL_mI, sL_mL, sL_mF, sL_mR, sL_mK, sL_mN, sL_mC, sL_mS, sF_mI, sF_mL, sF_mF, sF_mR, sF_mK, sF_mN, sF_mC, sF_mS, sR_mI, sR_mL, sR_mF, sR_mR, sR_mK, sR_mN, sR_mC, sR_mS, k3, ↓reduceIte, ix_nW, Option.map_some, this]
        have ewl : wL la (nW s.1) (nL (s.2 s.1 * 128 + c)) (sI M (up2 (mI M) sa i (nW c))) = some (sL (sI M (up2 (mI M) sa i (nW c))) (up2 (mL M) la s.1 (nL (s.2 s.1 * 128 + c)))) := by
          simp (disch := omega) only [wL, sI_mI, sI_mL, sI_mF, sI_mR, sI_mK, sI_mN, sI_mC, sI_mS, sL_mI, sL_mL, sL_mF, sL_mR, sL_mK, sL_mN, sL_mC, sL_mS, sF_mI, sF_mL, sF_mF, sF_mR, sF_mK, sF_mN, sF_mC, sF_mS, sR_mI, sR_mL, sR_mF, sR_mR, sR_mK, sR_mN, sR_mC, sR_mS, k3, ↓reduceIte, ix_nW, Option.map_some]
        have L2 : Lo sa la (sI M (up2 (mI M) sa i (nW c))) (sL (sI M (up2 (mI M) sa i (nW c))) (up2 (mL M) la s.1 (nL (s.2 s.1 * 128 + c)))) := ⟨rfl, ⟨rfl, rfl, rfl⟩, fun _ _ => rfl, fun a ha => up2_fn _ _ _ ha, rfl, rfl⟩
        obtain ⟨M', e, L3, r1, r2⟩ := X10_init_L31 (x := x) ⟨d1, d2, d3⟩ hc h30 hbm n (i + 1) (sL (sI M (up2 (mI M) sa i (nW c))) (up2 (mL M) la s.1 (nL (s.2 s.1 * 128 + c)))) (s.1, fset s.2 s.1 (s.2 s.1 * 128 + c)) (by omega) (by omega) ⟨k1, k2, k3⟩ hb1 hs1 (fun k hk => by
          show up2 (mL M) la s.1 (nL (s.2 s.1 * 128 + c)) la k = nL (fset s.2 s.1 (s.2 s.1 * 128 + c) k)
          by_cases e : k = s.1
          · subst e; rw [up2_eq, fset_eq]
          · rw [up2_nj _ _ _ _ e, fset_ne _ _ e]; exact hl k hk) hf
        refine ⟨M', ?_, (L1.trans L2).trans L3, r1, r2⟩
        rw [← e]
        have hv' : s.2 s.1 < 2 ^ 50 := by omega
        simp (disch := omega) only [f_X10_init_L31, nW_le, n0, n4, ↓reduceIte, nW_lit, nW_add, nW_inj, Nat.reduceEqDiff, Nat.one_ne_zero, c47, ea, ew, el, nW_toL, shl_or hv' hcr, ewl, Option.bind_some]
theorem tx_no47 {t : Txt} (h : ∀ l ∈ t, okLev l) : ∀ l ∈ t, 47 ∉ l := fun l hl hm => by
  rcases h l hl with ⟨_, _, h3⟩ | rfl | rfl
  · exact absurd (h3 47 hm) (by decide)
  · simp at hm
  · simp at hm
theorem new_text {M : Mem} {b m : Nat} {l : List Nat} {t : Txt} (hF : Fz M) (hN : mN M ≤ 200000) (hb : mK M b = (16, m) ∧ l.length ≤ m ∧ ∀ j, j < l.length → mI M b j = nW (l.getD j 0)) (hm : m ≤ 30) (hb9 : b < 908) (hl : txS t = l) (hok : okTx t) (hne : t ≠ []) : ∃ M', bindP (nO 10 5 M) (fun v6 M7 => (f_X10_init v6 b (nW l.length) M7).bind (fun M9 => some ((Sum.inl v6 : Nat ⊕ Nat), M9))) = some (.inl (mN M), M') ∧ Gk 3 M M' ∧ Gr (fun _ => False) M M' ∧ TextR M' (mN M) t := by
  obtain ⟨f1, f2⟩ := hF
  obtain ⟨b1, b2, b3⟩ := hb
  have c128 := (txS_ok hok.2.1).1
  have c7 : ∀ c ∈ l, c < 128 := by rw [← hl]; exact c128
  have lastx := last_txS hne hok.2.1
  rw [hl] at lastx
  obtain ⟨la1, la2⟩ := lastx
  -- the cells
  have e1 : nO 10 5 M = some (mN M, mkM 10 0 5 M) := nO_ok (by omega)
  have e2 : nA 16 (nW l.length) (mkM 10 0 5 M) = some (mN M + 1, mkM 16 l.length l.length (mkM 10 0 5 M)) := nA_ok (by show mN M + 1 + 1 < 1000000; omega) (by omega)
  have e3 : nA 14 (nW 4) (mkM 16 l.length l.length (mkM 10 0 5 M)) = some (mN M + 1 + 1, mkM 14 4 4 (mkM 16 l.length l.length (mkM 10 0 5 M))) := nA_ok (by show mN M + 1 + 1 + 1 < 1000000; omega) (by omega)
  have bx : b ≠ mN M ∧ b ≠ mN M + 1 ∧ b ≠ mN M + 1 + 1 := by omega
  generalize hM3 : mkM 14 4 4 (mkM 16 l.length l.length (mkM 10 0 5 M)) = M3 at e3
  have K3 : ∀ a, mK M3 a = if a = mN M + 1 + 1 then (14, 4) else if a = mN M + 1 then (16, l.length) else if a = mN M then (10, 0) else mK M a := fun a => by rw [← hM3]; rfl
  have I3 : ∀ a, a < mN M → mI M3 a = mI M a ∧ mL M3 a = mL M a ∧ mF M3 a = mF M a ∧ mR M3 a = mR M a := fun a ha => by
    rw [← hM3]
    refine ⟨?_, ?_, ?_, ?_⟩
    · show cl2 (cl2 (cl2 (mI M) (mN M) 0) (mN M + 1) 0) (mN M + 1 + 1) 0 a = _
      rw [cl2_fn _ _ (by omega), cl2_fn _ _ (by omega), cl2_fn _ _ (by omega)]
    · show cl2 (cl2 (cl2 (mL M) (mN M) 0) (mN M + 1) 0) (mN M + 1 + 1) 0 a = _
      rw [cl2_fn _ _ (by omega), cl2_fn _ _ (by omega), cl2_fn _ _ (by omega)]
    · show cl2 (cl2 (cl2 (mF M) (mN M) 0) (mN M + 1) 0) (mN M + 1 + 1) 0 a = _
      rw [cl2_fn _ _ (by omega), cl2_fn _ _ (by omega), cl2_fn _ _ (by omega)]
    · show cl2 (cl2 (cl2 (mR M) (mN M) none) (mN M + 1) none) (mN M + 1 + 1) none a = _
      rw [cl2_fn _ _ (by omega), cl2_fn _ _ (by omega), cl2_fn _ _ (by omega)]
  have L3 : ∀ k, mL M3 (mN M + 1 + 1) k = nL 0 := fun k => by
    rw [← hM3]
    show cl2 (cl2 (cl2 (mL M) (mN M) 0) (mN M + 1) 0) (mN M + 1 + 1) 0 (mN M + 1 + 1) k = nL 0
    rw [cl2_eq]; rfl
  have N3 : mN M3 = mN M + 3 ∧ mC M3 = mC M + 3 ∧ mS M3 = mS M + 5 + l.length + 4 := by rw [← hM3]; exact ⟨rfl, rfl, rfl⟩
  -- the loop
  obtain ⟨t1, t2⟩ := cst_tx t 0 (fun _ => 0) (tx_no47 hok.2.1) hne (fun _ _ => rfl)
  rw [hl] at t1 t2
  have h4 := hok.1
  have hlt : ∀ k, (cst l (0, fun _ => 0)).2 k < 2 ^ 50 := fun k => by
    rw [t2 k, if_neg (by omega), Nat.sub_zero]
    have := okTx_lev hok k
    rcases this with e | e
    · rw [e]; decide
    · have hr := okLev_rng e
      have := c7_lt 6 hr.2.1 hr.1
      exact Nat.lt_trans this (by decide)
  obtain ⟨M4, e4, ⟨l1, ⟨l2, l3, l4⟩, l5, l6, l7, l8⟩, r1, r2⟩ := X10_init_L31 (x := mN M) (b := b) (sa := mN M + 1) (la := mN M + 1 + 1) (l := l) (m := m) ⟨by omega, by omega, by omega⟩ c7 (by omega) b2 FU 0 M3 (0, fun _ => 0) (by omega) (by simp only [FU]; omega) ⟨by rw [K3, if_neg (by omega), if_neg (by omega), if_neg (by omega)]; exact b1, by rw [K3, if_neg (by omega), if_pos rfl], by rw [K3, if_pos rfl]⟩ (fun j hj => by rw [(I3 b (by omega)).1]; exact b3 j hj) (fun j hj => absurd hj (Nat.not_lt_zero j)) (fun k _ => L3 k) (by rw [List.drop_zero, t1]; exact ⟨by omega, hlt⟩)
  rw [List.drop_zero] at e4 r2
  rw [t1, Nat.zero_add] at e4
  have K4 : ∀ a, mK M4 a = if a = mN M + 1 + 1 then (14, 4) else if a = mN M + 1 then (16, l.length) else if a = mN M then (10, 0) else mK M a := fun a => by rw [l1]; exact K3 a
  have kx : (mK M4 (mN M)).1 = 10 := by rw [K4, if_neg (by omega), if_neg (by omega), if_pos rfl]
  have ks : mK M4 (mN M + 1) = (16, l.length) := by rw [K4, if_neg (by omega), if_pos rfl]
  have kl : mK M4 (mN M + 1 + 1) = (14, 4) := by rw [K4, if_pos rfl]
  -- the object's fields
  have lm : ∃ tl, t.length = tl + 1 := ⟨t.length - 1, by have := len_pos hne; omega⟩
  obtain ⟨tl, htl⟩ := lm
  have elast : mI M4 (mN M + 1) (l.length - 1) = nW (l.getD (l.length - 1) 0) := r1 _ (by omega)
  have clast : l.getD (l.length - 1) 0 < 128 := c7 _ (by rw [gd_in _ _ (by omega)]; exact List.getElem_mem _)
  have n0 : ¬ l.length = 0 := by omega
  have n1 : ¬ l.length ≤ 0 := by omega
  have tf : nW (tFix t) = if isOpen t = true then nW t.length - nW 1 else nW t.length := by
    unfold tFix
    split
    · rw [nW_sub (by omega)]
    · rfl
  have lt1 : t.length - 1 + 1 = t.length := by omega
  have ean : aN b (mkM 10 0 5 M) = some (nW m) := by
    have : mK (mkM 10 0 5 M) b = (16, m) := by
      show (if b = mN M then (10, 0) else mK M b) = _
      rw [if_neg bx.1]; exact b1
    simp only [aN, this]; rfl
  have emin : iminE (nW l.length) (nW m) = nW l.length := by
    unfold iminE
    rw [if_neg (by rw [nW_lt (by omega) (by omega)]; omega)]
  have emax : imaxE (nW 0) (nW l.length) = nW l.length := by
    unfold imaxE
    rw [if_pos (by rw [nW_lt (by omega) (by omega)]; omega)]
  dsimp only at e4
  have FIN : ∀ MF, (mI MF = up2 (up2 (up2 (mI M4) (mN M) 2 (nW t.length)) (mN M) 3 (zI (isOpen t))) (mN M) 4 (nW (tFix t)) ∧ mR MF = up2 (up2 (mR M4) (mN M) 0 (some (mN M + 1))) (mN M) 1 (some (mN M + 1 + 1)) ∧ mL MF = mL M4 ∧ mF MF = mF M4 ∧ mK MF = mK M4 ∧ mN MF = mN M4 ∧ mC MF = mC M4 ∧ mS MF = mS M4) → Gk 3 M MF ∧ Gr (fun _ => False) M MF ∧ TextR MF (mN M) t := by
    intro MF hMF
    obtain ⟨mi, mr, ml, mf, mkk, mn, mc, ms⟩ := hMF
    have G : Gr (fun _ => False) M MF := by
      refine ⟨fun a ha => ?_, fun a ha _ => ?_⟩
      · have hlt' : a < mN M := by
          apply Decidable.byContradiction; intro hh
          exact ha (f2 a (by omega))
        rw [mkk, K4, if_neg (by omega), if_neg (by omega), if_neg (by omega)]
      · have hlt' : a < mN M := by
          apply Decidable.byContradiction; intro hh
          exact ha (f2 a (by omega))
        obtain ⟨i1, i2, i3, i4⟩ := I3 a hlt'
        refine ⟨?_, ?_, ?_, ?_⟩
        · rw [mi, up2_fn _ _ _ (by omega), up2_fn _ _ _ (by omega), up2_fn _ _ _ (by omega), l5 a (by omega), i1]
        · rw [ml, l6 a (by omega), i2]
        · rw [mf, l7, i3]
        · rw [mr, up2_fn _ _ _ (by omega), up2_fn _ _ _ (by omega), l8, i4]
    refine ⟨⟨G.mono (fun _ h => h.elim), ?_, ?_, ?_, fun _ => ⟨?_, fun a ha => ?_⟩⟩, G, hok, ⟨by rw [mkk]; exact kx, Or.inr f1⟩, ?_, ?_, ?_, mN M + 1, mN M + 1 + 1, ⟨?_, ?_⟩, ⟨Or.inr (by omega), Or.inr (by omega)⟩, ?_, ?_, fun j hj => ?_, fun j hj => ?_⟩
    · rw [mn, l2, N3.1]; omega
    · rw [mc, l3, N3.2.1]; omega
    · rw [ms, l4, N3.2.2]; omega
    · rw [mn, l2, N3.1]; omega
    · rw [mn, l2, N3.1] at ha
      rw [mkk, K4, if_neg (by omega), if_neg (by omega), if_neg (by omega)]
      exact f2 a (by omega)
    · rw [mi, up2_nj _ _ _ _ (by omega), up2_nj _ _ _ _ (by omega), up2_eq]
    · rw [mi, up2_nj _ _ _ _ (by omega), up2_eq]
    · rw [mi, up2_eq]
    · rw [mr, up2_nj _ _ _ _ (by omega), up2_eq]
    · rw [mr, up2_eq]
    · rw [mkk, ks, hl]
    · rw [mkk, kl]
    · rw [mi, up2_fn _ _ _ (by omega), up2_fn _ _ _ (by omega), up2_fn _ _ _ (by omega)]
      rw [hl] at hj ⊢; exact r1 j hj
    · rw [ml, r2 j hj, t2 j, if_neg (by omega), Nat.sub_zero]
  cases ho : isOpen t with
  | true =>
    have lastv := la1.mpr ho
    rw [ho, if_pos rfl] at tf
    rw [ho] at FIN
    rw [lastv] at elast
    refine ⟨sI (sI (sI (sR (sR M4 (up2 (mR M4) (mN M) 0 (some (mN M + 1)))) (up2 (up2 (mR M4) (mN M) 0 (some (mN M + 1))) (mN M) 1 (some (mN M + 1 + 1)))) (up2 (mI M4) (mN M) 2 (nW t.length))) (up2 (up2 (mI M4) (mN M) 2 (nW t.length)) (mN M) 3 (zI true))) (up2 (up2 (up2 (mI M4) (mN M) 2 (nW t.length)) (mN M) 3 (zI true)) (mN M) 4 (nW (tFix t))), ?_, FIN _ ⟨rfl, rfl, rfl, rfl, rfl, rfl, rfl, rfl⟩⟩
    rw [tf]
    simp only [e1, bindP, f_X10_init, nW_lit, ean, Option.bind_some, emin, emax, e2, e3, e4]
    simp (disch := omega) only [nW_lit, f_X10_init_L31, f_X10_init_J117, f_X10_init_J141, f_X10_init_J165, gI, gL, gF, gR, pI, pZ_0, pZ_1, pZ_z, pL, pF, pR, aI, aL, aF, aR, wI, wL, wF, wR, aN, okZ_0, okZ_1, okZ_z, nar13, sI_mI, sI_mL, sI_mF, sI_mR, sI_mK, sI_mN, sI_mC, sI_mS, sL_mI, sL_mL, sL_mF, sL_mR, sL_mK, sL_mN, sL_mC, sL_mS, sF_mI, sF_mL, sF_mF, sF_mR, sF_mK, sF_mN, sF_mC, sF_mS, sR_mI, sR_mL, sR_mF, sR_mR, sR_mK, sR_mN, sR_mC, sR_mS, Option.bind_some, Option.map_some, bindP, bindX, bindH, ↓reduceIte, and_self, true_and, and_true, ne_eq, not_false_eq_true, not_true_eq_false, reduceCtorEq, Nat.reduceEqDiff, Nat.reduceLeDiff, Nat.reduceLT, Bool.false_eq_true, decide_true, decide_false, up2_eq, up2_ne, up2_nj, up2_fn, cl2_eq, cl2_ne, cl2_fn, nW_add, nW_mul, nW_sub, nW_le, nW_lt, nW_inj, irem_nW, ix_nW, kx, ks, kl, n0, n1, lt1, Nat.le_refl, elast, zI_t, z1n0, pZ, eq_self, or_true, true_or]
  | false =>
    have lastv : ¬ l.getD (l.length - 1) 0 = 35 := fun h => by
      have := la1.mp h
      rw [ho] at this; cases this
    rw [ho, if_neg (by decide)] at tf
    rw [ho] at FIN
    refine ⟨sI (sI (sI (sR (sR M4 (up2 (mR M4) (mN M) 0 (some (mN M + 1)))) (up2 (up2 (mR M4) (mN M) 0 (some (mN M + 1))) (mN M) 1 (some (mN M + 1 + 1)))) (up2 (mI M4) (mN M) 2 (nW t.length))) (up2 (up2 (mI M4) (mN M) 2 (nW t.length)) (mN M) 3 (zI false))) (up2 (up2 (up2 (mI M4) (mN M) 2 (nW t.length)) (mN M) 3 (zI false)) (mN M) 4 (nW (tFix t))), ?_, FIN _ ⟨rfl, rfl, rfl, rfl, rfl, rfl, rfl, rfl⟩⟩
    rw [tf]
    simp only [e1, bindP, f_X10_init, nW_lit, ean, Option.bind_some, emin, emax, e2, e3, e4]
    simp (disch := omega) only [nW_lit, f_X10_init_L31, f_X10_init_J117, f_X10_init_J140, f_X10_init_J141, f_X10_init_J165, gI, gL, gF, gR, pI, pZ_0, pZ_1, pZ_z, pL, pF, pR, aI, aL, aF, aR, wI, wL, wF, wR, aN, okZ_0, okZ_1, okZ_z, nar13, sI_mI, sI_mL, sI_mF, sI_mR, sI_mK, sI_mN, sI_mC, sI_mS, sL_mI, sL_mL, sL_mF, sL_mR, sL_mK, sL_mN, sL_mC, sL_mS, sF_mI, sF_mL, sF_mF, sF_mR, sF_mK, sF_mN, sF_mC, sF_mS, sR_mI, sR_mL, sR_mF, sR_mR, sR_mK, sR_mN, sR_mC, sR_mS, Option.bind_some, Option.map_some, bindP, bindX, bindH, ↓reduceIte, and_self, true_and, and_true, ne_eq, not_false_eq_true, not_true_eq_false, reduceCtorEq, Nat.reduceEqDiff, Nat.reduceLeDiff, Nat.reduceLT, Bool.false_eq_true, decide_true, decide_false, up2_eq, up2_ne, up2_nj, up2_fn, cl2_eq, cl2_ne, cl2_fn, nW_add, nW_mul, nW_sub, nW_le, nW_lt, nW_inj, irem_nW, ix_nW, kx, ks, kl, n0, n1, lt1, Nat.le_refl, elast, lastv, zI_f, pZ, eq_self, or_true, true_or]
