/-! PUBLICATION, in the class -/
def MG (M : Mem) (S : Nat) (σ : Sg) (m : Nat) (r : Row) : Prop := MsR M m r ∧ (¬ SZ S m ∨ ∃ c, c < 6 ∧ m = S + 2 + 60 * c + 1 ∧ cW (gCl σ c) = r)
theorem MG_step {M M' : Mem} {S m : Nat} {σ σ' : Sg} {r : Row} (h : MG M S σ m r) (F : Fr (SZ S) M M') (hS : StR M' S σ') (hW : ∀ c, c < 6 → cW (gCl σ' c) = cW (gCl σ c)) : MG M' S σ' m r := by
  obtain ⟨h1, h2 | ⟨c, hc, e, hw⟩⟩ := h
  · exact ⟨h1.gr F.gr h2, Or.inl h2⟩
  · have := (hS.2.1 c hc).2.1
    rw [hW c hc, hw] at this
    exact ⟨by rw [e]; exact this, Or.inr ⟨c, hc, e, by rw [hW c hc, hw]⟩⟩
theorem MG_ne {M : Mem} {S m : Nat} {σ : Sg} {r : Row} (h : MG M S σ m r) : m ≠ S + 445 ∧ m ≠ S ∧ (m < S + 362 ∨ S + 450 ≤ m) := by
  obtain ⟨_, h2 | ⟨c, hc, e, _⟩⟩ := h
  · unfold SZ at h2; omega
  · omega
theorem cW_give (σ : Sg) (c : Nat) (r : Row) : ∀ c', cW (gCl (putG σ c (spGive (getG σ c) r)) c') = cW (gCl σ c') := by
  intro c'
  show cW (fset (gCl σ) c _ c') = _
  by_cases e : c' = c
  · subst e; rw [fset_eq]; exact (spGive_same (getG σ c') r).2.1
  · rw [fset_ne _ _ e]
theorem St_give {M : Mem} {S c m : Nat} {σ : Sg} {r : Row} (gr fl : Int32) (hZ : inZ S) (h : StR M S σ) (hS : SI σ) (hc : c < 6) (hm : MG M S σ m r) : ∃ M', f_X7_give S (S + 2 + 60 * c) m gr fl M = some M' ∧ Fr (SZ S) M M' ∧ StR M' S (putG σ c (spGive (getG σ c) (msg r.1 gr (r.2 2) fl))) ∧ MG M' S (putG σ c (spGive (getG σ c) (msg r.1 gr (r.2 2) fl))) m r := by
  obtain ⟨M', e, F, R⟩ := C_give gr fl (hZ.s hc) (StR_get h hc) (hS.1.2 c hc) hm.1 (MG_ne hm).1
  have R' := StR_put h hc F R
  have F' : Fr (SZ S) M M' := F.mono (fun a h => CZ_SZ hc h)
  exact ⟨M', e, F', R', MG_step hm F' R' (fun c' _ => cW_give σ c _ c')⟩
theorem St_conn {M : Mem} {S c : Nat} {σ : Sg} (h : StR M S σ) (hc : c < 6) : gI 0 0 (S + 2 + 60 * c) M = some (zI (cB (gCl σ c) 0)) := (CR_k (StR_get h hc)).2.2.2.2.2.1
theorem takeMember_L9 {M : Mem} {S a h : Nat} {σ : Sg} (hR : StR M S σ) (hh : h < (gSh σ).length) (hK : ShK M a) (hV : ShV M a ((gSh σ).getD h shD)) (h6 : ∀ y ∈ shMem σ h, y < 6) (hne : shMem σ h ≠ []) : ∀ n i, i ≤ (shMem σ h).length → (shMem σ h).length - i < n → ffind (fun i => onS σ ((shMem σ h).getD i 0)) ((shMem σ h).length - i) i = ffind (fun i => onS σ ((shMem σ h).getD i 0)) (shMem σ h).length 0 → f_X7_takeMember_L9 n S a (nW ((shMem σ h).getD 0 0)) (nW i) M = f_X7_takeMember_J56 a (nW (pickS σ h)) M
  | 0, i, _, hn, _ => absurd hn (by omega)
  | n + 1, i, hi, hn, hf => by
    obtain ⟨v1, v2, v3, v4, v5⟩ := hV
    obtain ⟨k1, k2, k3⟩ := hK
    have k6 : (shMem σ h).length ≤ 6 := v3
    have g3 : gI 6 3 a M = some (nW (shMem σ h).length) := by simp only [gI, k1, v2, ↓reduceIte]; rfl
    by_cases he : i = (shMem σ h).length
    · have n1 : (shMem σ h).length ≤ i := by omega
      rw [he, Nat.sub_self, ffind] at hf
      have ep : pickS σ h = (shMem σ h).getD 0 0 := by unfold pickS shPick; rw [← hf]; rfl
      rw [ep]
      simp (disch := omega) only [f_X7_takeMember_L9, g3, Option.bind_some, nW_le, n1, ↓reduceIte]
    · have n1 : ¬ (shMem σ h).length ≤ i := by omega
      have n2 : ¬ 6 ≤ i := by omega
      have hv : aI 13 (a + 1) (nW i) M = some (nW ((shMem σ h).getD i 0)) := by
        have := v5 i (by show i < (shMem σ h).length; omega)
        simp (disch := omega) only [aI, k3, ↓reduceIte, ix_nW, Option.map_some, this]; rfl
      have hlt : (shMem σ h).getD i 0 < 6 := by rw [gd_in _ _ (show i < (shMem σ h).length by omega)]; exact h6 _ (List.getElem_mem _)
      have g2 : gR 6 2 a M = some (a + 1) := by simp only [gR, k1, k2, ↓reduceIte]
      obtain ⟨s1, s2, _, _, _, _, _, s8⟩ := StR_k hR
      have hon := St_conn hR hlt
      rw [show (shMem σ h).length - i = ((shMem σ h).length - (i + 1)) + 1 by omega, ffind] at hf
      cases hb : onS σ ((shMem σ h).getD i 0) with
      | true =>
        rw [hb, if_pos rfl] at hf
        have ep : pickS σ h = (shMem σ h).getD i 0 := by unfold pickS shPick; rw [← hf]; rfl
        rw [ep]
        have hb' : cB (gCl σ ((shMem σ h).getD i 0)) 0 = true := hb
        rw [hb', zI_t] at hon
        have t1 : ¬ nW 1 = nW 0 := by decide
        simp (disch := omega) only [f_X7_takeMember_L9, g3, Option.bind_some, nW_lit, nW_le, n1, n2, ↓reduceIte, s2, g2, hv, s8 _ hlt, hon, t1]
      | false =>
        rw [hb, if_neg (by decide)] at hf
        have hb' : cB (gCl σ ((shMem σ h).getD i 0)) 0 = false := hb
        rw [hb', zI_f] at hon
        have ih := takeMember_L9 hR hh ⟨k1, k2, k3⟩ ⟨v1, v2, v3, v4, v5⟩ h6 hne n (i + 1) (by omega) (by omega) hf
        simp (disch := omega) only [f_X7_takeMember_L9, g3, Option.bind_some, nW_lit, nW_le, nW_add, n1, n2, ↓reduceIte, s2, g2, hv, s8 _ hlt, hon, ih]
theorem St_takeMember {M : Mem} {S h : Nat} {σ : Sg} (hZ : inZ S) (hR : StR M S σ) (hS : SI σ) (hh : h < (gSh σ).length) : pickS σ h < 6 ∧ ∃ a M' y, aR 21 (S + 362) (nW h) M = some a ∧ f_X7_takeMember S a M = some (nW (pickS σ h), M') ∧ Fr (fun b => S + 362 < b ∧ b < S + 435) M M' ∧ StR M' S (turnS σ h) ∧ gR 6 0 a M = some y ∧ gR 6 0 a M' = some y ∧ TextR M y ((gSh σ).getD h shD).1 ∧ TextR M' y ((gSh σ).getD h shD).1 ∧ gI 6 1 a M' = some ((gSh σ).getD h shD).2.1 := by
  obtain ⟨c1, c2⟩ := hZ
  have hx := shAt_get hh
  obtain ⟨m1, m2, m3⟩ := hS.2.2.1.1 _ hx
  have hl := len_pos m3
  have pm : pickS σ h ∈ shMem σ h := shPick_mem (on := onS σ) m3
  have p6 : pickS σ h < 6 := m1 _ pm
  obtain ⟨a, ea, ⟨a1, a2⟩, hK, hV, back⟩ := ShsR_at hR.2.2.1 hh
  have hz : ¬ tz a ∧ ¬ tz (a + 1) := by simp only [tz]; omega
  have L9 := takeMember_L9 hR hh hK hV m1 m3 FU 0 (by omega) (by have : (shMem σ h).length ≤ 6 := hV.2.2.1; simp only [FU]; omega) rfl
  obtain ⟨M1, e1, F1, K1, V1⟩ := X6_removeMember hz hK hV m1 m2 p6
  have le : (((gSh σ).getD h shD).2.2.erase (pickS σ h)).length = ((gSh σ).getD h shD).2.2.length - 1 := List.length_erase_of_mem pm
  have hl6 : ((gSh σ).getD h shD).2.2.length ≤ 6 := hV.2.2.1
  obtain ⟨M2, e2, F2, K2, V2⟩ := X6_addMember (c := pickS σ h) hz K1 V1 (by show (((gSh σ).getD h shD).2.2.erase (pickS σ h)).length < 6; omega)
  have F : Fr (fun b => b = a ∨ b = a + 1) M M2 := F1.trans F2
  obtain ⟨k1, k2, k3⟩ := hK
  have hkS : (mK M S).1 ≠ 99 := by rw [hR.1.1.1]; decide
  have V2' : ShV M2 a (((gSh σ).getD h shD).1, ((gSh σ).getD h shD).2.1, shTurn (onS σ) (shMem σ h)) := V2
  have R2 := back _ M2 _ F.gr (by omega) (fun b _ _ h1 h2 => by omega) K2 V2' hkS
  have hSS := F.2.2 S (Or.inr (by omega))
  obtain ⟨v1, v2, v3, ⟨y, v4, hy⟩, v5⟩ := hV
  have v0 : aI 13 (a + 1) (nW 0) M = some (nW ((shMem σ h).getD 0 0)) := by
    have := v5 0 hl
    simp (disch := omega) only [aI, k3, ↓reduceIte, ix_nW, Option.map_some, this]; rfl
  have g2 : gR 6 2 a M = some (a + 1) := by simp only [gR, k1, k2, ↓reduceIte]
  refine ⟨p6, a, M2, y, ea, ?_, F.mono (fun b h => by omega), StR_sh hR F.gr (fun b h => by omega) (by rw [hSS.1]) (by rw [hSS.1]) hSS.2.2.2 R2, by simp only [gR, k1, v4, ↓reduceIte], ?_, hy, hy.gr F.gr, by simp only [gI, K2.1, V2'.1, ↓reduceIte]⟩
  · have e0 : f_X7_takeMember S a M = f_X7_takeMember_L9 FU S a (nW ((shMem σ h).getD 0 0)) (nW 0) M := by
      simp only [f_X7_takeMember, hR.1.1.1, ↓reduceIte, g2, Option.bind_some, nW_lit, v0]
    rw [e0, L9]
    simp only [f_X7_takeMember_J56, e1, Option.bind_some, e2]
  · have e6 : mR M2 a 0 = mR M a 0 := by
      obtain ⟨y2, w4, _⟩ := V2'.2.2.2.1
      -- the filter is the same object
      have r1 : mR M1 a = mR M a := by
        obtain ⟨M1', e1', F1', q1, q2, q3, q4⟩ := removeMember_L4 hz m1 p6 hl6 FU 0 M (by omega) (by simp only [FU]; omega) ⟨k1, k2, k3⟩ v2 (fun j hj => by simp at hj) (fun j _ hj => v5 j hj)
        have : f_X6_removeMember a (nW (pickS σ h)) M = some M1' := by
          simp only [f_X6_removeMember, k1, ↓reduceIte, nW_lit]; exact e1'
        rw [Option.some.inj (e1.symm.trans this)]; exact q3
      have r2 : mR M2 a = mR M1 a := by
        obtain ⟨kk1, kk2, kk3⟩ := K1
        have n0 : ¬ (((gSh σ).getD h shD).2.2.erase (pickS σ h)).length < 0 := by omega
        have n6 : ¬ 6 ≤ (((gSh σ).getD h shD).2.2.erase (pickS σ h)).length := by omega
        have vv2 := V1.2.1
        have hne : a ≠ a + 1 := by omega
        have : f_X6_addMember a (nW (pickS σ h)) M1 = some (sI (sI M1 (up2 (mI M1) (a + 1) (((gSh σ).getD h shD).2.2.erase (pickS σ h)).length (nW (pickS σ h)))) (up2 (up2 (mI M1) (a + 1) (((gSh σ).getD h shD).2.2.erase (pickS σ h)).length (nW (pickS σ h))) a 3 (nW ((((gSh σ).getD h shD).2.2.erase (pickS σ h)).length + 1)))) := by
          simp (disch := omega) only [f_X6_addMember, gI, gL, gF, gR, pI, pZ_0, pZ_1, pZ_z, pL, pF, pR, aI, aL, aF, aR, wI, wL, wF, wR, aN, okZ_0, okZ_1, okZ_z, nar13, sI_mI, sI_mL, sI_mF, sI_mR, sI_mK, sI_mN, sI_mC, sI_mS, sL_mI, sL_mL, sL_mF, sL_mR, sL_mK, sL_mN, sL_mC, sL_mS, sF_mI, sF_mL, sF_mF, sF_mR, sF_mK, sF_mN, sF_mC, sF_mS, sR_mI, sR_mL, sR_mF, sR_mR, sR_mK, sR_mN, sR_mC, sR_mS, Option.bind_some, Option.map_some, bindP, bindX, bindH, ↓reduceIte, and_self, true_and, and_true, ne_eq, not_false_eq_true, not_true_eq_false, reduceCtorEq, Nat.reduceEqDiff, Nat.reduceLeDiff, Nat.reduceLT, Bool.false_eq_true, decide_true, decide_false, up2_eq, up2_ne, up2_nj, up2_fn, cl2_eq, cl2_ne, cl2_fn, nW_add, nW_mul, nW_sub, nW_le, nW_lt, nW_inj, irem_nW, ix_nW, nW_lit, kk1, kk2, kk3, vv2, n0, n6]
        rw [Option.some.inj (e2.symm.trans this)]; rfl
      rw [r2, r1]
    simp only [gR, K2.1, ↓reduceIte, e6, v4]
theorem turn_cW (σ : Sg) (h c : Nat) : cW (gCl (turnS σ h) c) = cW (gCl σ c) := rfl
theorem lt_m1 (x : Nat) (h : x < 100) : ¬ nW x < nW 0 := by rw [nW_lt (by omega) (by omega)]; omega
theorem m1_lt : -nW 1 < nW 0 := by decide
theorem St_spreadC {S m by' : Nat} {r : Row} (hZ : inZ S) {g : Nat} (hg : g ≤ 2) (hrg : r.2 1 = nW g) (htop : topical r.1) (hby : by' < 6) : ∀ n c k M σ, c ≤ 6 → 6 - c < n → StR M S σ → SI σ → MG M S σ m r → SI (spC r.1 (nW g) (r.2 2) by' (6 - c) c (σ, k)).1 ∧ (spC r.1 (nW g) (r.2 2) by' (6 - c) c (σ, k)).2 ≤ k + (6 - c) ∧ gSh (spC r.1 (nW g) (r.2 2) by' (6 - c) c (σ, k)).1 = gSh σ ∧ ∃ M', f_X7_spread_L36 n S (nW by') m (nW k) (nW c) M = f_X7_spread_L112 FU S m (nW (spC r.1 (nW g) (r.2 2) by' (6 - c) c (σ, k)).2) (nW 0) M' ∧ Fr (SZ S) M M' ∧ StR M' S (spC r.1 (nW g) (r.2 2) by' (6 - c) c (σ, k)).1 ∧ MG M' S (spC r.1 (nW g) (r.2 2) by' (6 - c) c (σ, k)).1 m r
  | 0, c, k, M, σ, _, hn, _, _, _ => absurd hn (by omega)
  | n + 1, c, k, M, σ, hc, hn, hR, hS, hm => by
    by_cases he : c = 6
    · subst he
      refine ⟨hS, by simp only [Nat.sub_self, spC]; omega, rfl, M, ?_, Fr.refl _ _, hR, hm⟩
      simp (disch := omega) only [f_X7_spread_L36, nW_lit, nW_le, Nat.le_refl, ↓reduceIte, Nat.sub_self, spC]
    · have hc6 : c < 6 := by omega
      have n1 : ¬ 6 ≤ c := by omega
      obtain ⟨s1, s2, _, _, _, _, _, s8⟩ := StR_k hR
      obtain ⟨x, gx, hx⟩ := MsR_top hm.1
      have g1 := MsR_get hm.1 (f := 1) (by omega) (by omega)
      rw [hrg] at g1
      have hcr := StR_get hR hc6
      obtain ⟨k1, k2, k3, k4, k5, k6, k7, k8, k9⟩ := CR_k hcr
      have hsub := hS.2.1 c hc6
      have gg := X5_greatest (s := S + 2 + 60 * c + 34) (decide (c = by')) hcr.2.2.2.2.1 hcr.2.2.2.2.2.2.1 hx
      have hgg : f_X5_greatestGrade (S + 2 + 60 * c + 34) x (zI (decide (c = by'))) M = some (spBest (cL (gCl σ c) 3) r.1 (decide (c = by')), M) := gg
      -- the client's turn
      have start : f_X7_spread_L36 (n + 1) S (nW by') m (nW k) (nW c) M = f_X7_spread_J68 (f_X7_spread_L36 n) S (nW by') m (nW k) (nW c) (zI (decide (c = by'))) x (S + 2 + 60 * c + 34) M := by
        by_cases hcb : c = by'
        · subst hcb
          simp (disch := omega) only [f_X7_spread_L36, nW_lit, nW_le, n1, ↓reduceIte, s2, Option.bind_some, s8 c hc6, k2, gx, decide_true, zI_t, eq_self]
        · simp (disch := omega) only [f_X7_spread_L36, nW_lit, nW_le, n1, ↓reduceIte, s2, Option.bind_some, s8 c hc6, k2, gx, nW_inj, hcb, decide_false, zI_f]
      rw [show 6 - c = (6 - (c + 1)) + 1 by omega, spC]
      by_cases hb : spBest (cL (gCl σ c) 3) r.1 (decide (c = by')) = -nW 1
      · rw [if_pos hb]
        obtain ⟨a1, a2, a3, M', e, F, R, G⟩ := St_spreadC hZ hg hrg htop hby n (c + 1) k M σ (by omega) (by omega) hR hS hm
        refine ⟨a1, by omega, a3, M', ?_, F, R, G⟩
        rw [hb] at hgg
        rw [start]
        simp (disch := omega) only [f_X7_spread_J68, hgg, bindP, nW_lit, m1_lt, ↓reduceIte, nW_add]
        exact e
      · rw [if_neg hb]
        obtain ⟨b, b1, b2⟩ := (spBest_val r.1 (decide (c = by')) hsub.1).resolve_left hb
        have hne : (cL (gCl σ c) 3).1 ≠ 0 := fun h0 => hb (spBest_zero _ _ h0)
        have hgr : ∃ n, n ≤ 2 ∧ iminE (nW g) (spBest (cL (gCl σ c) 3) r.1 (decide (c = by'))) = nW n := by rw [b2]; exact imin_nW hg b1
        obtain ⟨M1, e1, F1, R1, G1⟩ := St_give (iminE (nW g) (spBest (cL (gCl σ c) 3) r.1 (decide (c = by')))) (nW 0) hZ hR hS hc6 hm
        have S1 := SI_giveC (pay := r.2 2) (fl := nW 0) hS hc6 htop hgr hne
        obtain ⟨a1, a2, a3, M', e, F, R, G⟩ := St_spreadC hZ hg hrg htop hby n (c + 1) (k + 1) M1 _ (by omega) (by omega) R1 S1 G1
        refine ⟨a1, Nat.le_trans a2 (by omega), a3, M', ?_, F1.trans F, R, G⟩
        rw [b2] at hgg
        have nb := lt_m1 b (by omega)
        rw [start]
        rw [b2] at e1
        simp (disch := omega) only [f_X7_spread_J68, hgg, bindP, nW_lit, nb, ↓reduceIte, nW_add, s2, Option.bind_some, s8 c hc6, g1, e1]
        exact e
theorem St_spreadH {S m : Nat} {r : Row} (hZ : inZ S) {g : Nat} (hg : g ≤ 2) (hrg : r.2 1 = nW g) (htop : topical r.1) : ∀ n h k M σ, h ≤ (gSh σ).length → (gSh σ).length - h < n → StR M S σ → SI σ → MG M S σ m r → SI (spH r.1 (nW g) (r.2 2) ((gSh σ).length - h) h (σ, k)).1 ∧ ∃ M', f_X7_spread_L112 n S m (nW k) (nW h) M = some (nW (spH r.1 (nW g) (r.2 2) ((gSh σ).length - h) h (σ, k)).2, M') ∧ Fr (SZ S) M M' ∧ StR M' S (spH r.1 (nW g) (r.2 2) ((gSh σ).length - h) h (σ, k)).1
  | 0, h, k, M, σ, _, hn, _, _, _ => absurd hn (by omega)
  | n + 1, h, k, M, σ, hh, hn, hR, hS, hm => by
    obtain ⟨s1, s2, s3, _, _, s6, _, s8⟩ := StR_k hR
    have h36 : (gSh σ).length ≤ 36 := hR.2.2.1.2.1
    by_cases he : h = (gSh σ).length
    · have n1 : (gSh σ).length ≤ h := by omega
      rw [he, Nat.sub_self]
      refine ⟨hS, M, ?_, Fr.refl _ _, hR⟩
      simp (disch := omega) only [f_X7_spread_L112, s6, Option.bind_some, nW_le, Nat.le_refl, ↓reduceIte, spH]
    · have hlt : h < (gSh σ).length := by omega
      have n1 : ¬ (gSh σ).length ≤ h := by omega
      have n2 : ¬ 36 ≤ h := by omega
      obtain ⟨x, gx, hx⟩ := MsR_top hm.1
      obtain ⟨p6, a, M1, y, ea, e1, F1, R1, gy, gy', hy, hy', gg⟩ := St_takeMember hZ hR hS hlt
      have sm := X10_matches hy hx
      rw [show (gSh σ).length - h = ((gSh σ).length - (h + 1)) + 1 by omega, spH]
      cases hmt : spMatch ((gSh σ).getD h shD).1 r.1 with
      | false =>
        rw [if_neg (by decide)]
        rw [hmt, zI_f] at sm
        obtain ⟨a1, M', e, F, R⟩ := St_spreadH hZ hg hrg htop n (h + 1) k M σ (by omega) (by omega) hR hS hm
        refine ⟨a1, M', ?_, F, R⟩
        simp (disch := omega) only [f_X7_spread_L112, s6, Option.bind_some, nW_lit, nW_le, nW_add, n1, n2, ↓reduceIte, s3, ea, gy, gx, sm, bindP, e]
      | true =>
        rw [if_pos rfl]
        rw [hmt, zI_t] at sm
        have t1 : ¬ nW 1 = nW 0 := by decide
        have S1 := SI_turn hS hlt
        have F1' : Fr (SZ S) M M1 := F1.mono (fun b h => by unfold SZ; omega)
        have G1 := MG_step hm F1' R1 (fun c _ => turn_cW σ h c)
        have hcr := StR_get R1 p6
        obtain ⟨_, t2, _, _, _, _, _, t8⟩ := StR_k R1
        obtain ⟨k1, k2, _⟩ := CR_k hcr
        have go : f_X5_gradeOf (S + 2 + 60 * pickS σ h + 34) y ((gSh σ).getD h shD).2.1 M1 = some (spGradeOf (cL (gCl σ (pickS σ h)) 3) ((gSh σ).getD h shD).1 ((gSh σ).getD h shD).2.1, M1) := X5_gradeOf _ hcr.2.2.2.2.1 hcr.2.2.2.2.2.2.1 hy'
        have g1 := MsR_get G1.1 (f := 1) (by omega) (by omega)
        rw [hrg] at g1
        have hsub := hS.2.1 (pickS σ h) p6
        have mem : pickS σ h ∈ ((gSh σ).getD h shD).2.2 := shPick_mem (hS.2.2.1.1 _ (shAt_get hlt)).2.2
        obtain ⟨j, j1, j2⟩ := ((hS.2.2.2.1 (pickS σ h) p6).1 _ (shAt_get hlt)).mp mem
        have hne : (cL (gCl σ (pickS σ h)) 3).1 ≠ 0 := by omega
        have hgg : ∃ n, n ≤ 2 ∧ spGradeOf (cL (gCl σ (pickS σ h)) 3) ((gSh σ).getD h shD).1 ((gSh σ).getD h shD).2.1 = nW n := by
          rw [spGradeOf_grd]
          cases e : subAt (cL (gCl σ (pickS σ h)) 3) ((gSh σ).getD h shD).1 ((gSh σ).getD h shD).2.1 with
          | none => exact ⟨0, by omega, rfl⟩
          | some k => exact (hsub.1 k (subAt_lt e).1).2.2.1
        obtain ⟨b, b1, b2⟩ := hgg
        have hgr : ∃ n, n ≤ 2 ∧ iminE (nW g) (spGradeOf (cL (gCl σ (pickS σ h)) 3) ((gSh σ).getD h shD).1 ((gSh σ).getD h shD).2.1) = nW n := by rw [b2]; exact imin_nW hg b1
        obtain ⟨M2, e2, F2, R2, G2⟩ := St_give (iminE (nW g) (spGradeOf (cL (gCl σ (pickS σ h)) 3) ((gSh σ).getD h shD).1 ((gSh σ).getD h shD).2.1)) (nW 0) hZ R1 S1 p6 G1
        have S2 : SI (giveH σ r.1 (nW g) (r.2 2) h) := SI_giveC (σ := turnS σ h) (pay := r.2 2) (fl := nW 0) S1 p6 htop hgr hne
        have hl2 : (gSh (giveH σ r.1 (nW g) (r.2 2) h)).length = (gSh σ).length := len_setL _ _ _
        obtain ⟨a1, M', e, F, R⟩ := St_spreadH hZ hg hrg htop n (h + 1) (k + 1) M2 (giveH σ r.1 (nW g) (r.2 2) h) (by omega) (by omega) R2 S2 G2
        rw [hl2] at a1 e R
        refine ⟨a1, M', ?_, F1'.trans (F2.trans F), R⟩
        simp (disch := omega) only [f_X7_spread_L112, s6, Option.bind_some, nW_lit, nW_le, nW_add, n1, n2, ↓reduceIte, s3, s2, ea, gy, gx, sm, bindP, t1, e1, s8, t8 _ p6, k2, gy', gg, go, g1, e2, e]
