/-! holding, giving, sending again, answers: in the class -/
theorem CR_opt {M : Mem} {S C : Nat} {g : GS} (h : CR M S C g) {i : Nat} (hi : i < 4) : aI 13 (S + 444) (nW i) M = some (g.1 (10 + i)) := by
  have h2 := h.1.2.2.2.1
  simp (disch := omega) only [aI, h2.1, ↓reduceIte, ix_nW, Option.map_some, h2.2 i hi]
theorem C_add2 {M : Mem} {S C : Nat} {g : GS} {r : Row} (hC : inS S C) (h : CR M S C g) (hm : MsR M (S + 449) r) (hn : (cL g.2 2).1 < 8) : ∃ M', f_X2_add (C + 50) (S + 449) M = some M' ∧ Fr (CZ S C) M M' ∧ CR M' S C (g.1, uL g.2 2 (lpush (cL g.2 2) r)) := by
  have hcC := hC
  obtain ⟨⟨c1, c2⟩, c3, c4⟩ := hC
  obtain ⟨M', e, F, L⟩ := X2_add h.2.2.2.2.2.2.2.2 (by omega) hn hm (by omega)
  exact ⟨M', e, F.mono (fun b hb => by unfold CZ; omega), CR_L2gr F.gr h hcC (fun b hb => by unfold PaZ at hb; omega) L⟩
theorem C_hold {M : Mem} {S C : Nat} {g : GS} {r : Row} (hC : inS S C) (h : CR M S C g) (hm : MsR M (S + 449) r) (hl : (cL g.2 2).1 ≤ 8) : ∃ M', f_X7_hold S (C + 50) (S + 449) M = some M' ∧ Fr (CZ S C) M M' ∧ CR M' S C (spHold g r) := by
  have hP := h.2.2.2.2.2.2.2.2
  have hcnt := MLR_cnt hP
  obtain ⟨k1, k2, k3, k4, k5, k6, k7, k8, k9⟩ := CR_k h
  have hcC := hC
  obtain ⟨⟨c1, c2⟩, c3, c4⟩ := hC
  by_cases h8 : (cL g.2 2).1 < 8
  · obtain ⟨M', e, F, R⟩ := C_add2 hcC h hm h8
    refine ⟨M', ?_, F, by rw [spHold, if_pos h8]; exact R⟩
    simp (disch := omega) only [f_X7_hold, f_X7_hold_J34, nW_lit, k1, ↓reduceIte, hcnt, Option.bind_some, nW_lt, h8, e]
  · obtain ⟨e1, M1, e2, F1, R1⟩ := CR_inc h hcC (i := 2) (by omega)
    have e13 := CR_opt R1 (i := 3) (by omega)
    have k9' := (CR_k R1).2.2.2.2.2.2.2.2
    have t13 : (tot g.1 2, g.2).1 (10 + 3) = g.1 13 := fset_ne g.1 (g.1 2 + nW 1) (show (13 : Nat) ≠ 2 by omega)
    rw [t13] at e13
    by_cases ho : g.1 13 = nW 0
    · refine ⟨M1, ?_, F1, by rw [spHold, if_neg h8, if_pos ho]; exact R1⟩
      simp (disch := omega) only [f_X7_hold, nW_lit, k1, ↓reduceIte, hcnt, Option.bind_some, nW_lt, h8, k7, e1, e2, k9', e13, ho]
    · have hm1 : MsR M1 (S + 449) r := by
        obtain ⟨F, B⟩ := BaR_tot h.1 ⟨c1, c2⟩ (i := 2) (by omega)
        have : M1 = sI M (up2 (mI M) (S + 445) 2 (g.1 2 + nW 1)) := by
          have e3 : wI 13 (S + 445) (nW 2) (g.1 2 + nW 1) M = some (sI M (up2 (mI M) (S + 445) 2 (g.1 2 + nW 1))) := by
            simp (disch := omega) only [wI, h.1.2.2.2.2.1.1, ↓reduceIte, ix_nW, Option.map_some, nar13]
          exact Option.some.inj (e2.symm.trans e3)
        rw [this]; exact hm.gr F.gr (by omega)
      obtain ⟨M2, e3, F2, L2⟩ := X2_removeAt (i := 0) R1.2.2.2.2.2.2.2.2 (by omega) (by show 0 < (cL g.2 2).1; omega)
      have R2 := CR_L2gr F2.gr R1 hcC (fun b hb => by unfold PaZ at hb; omega) L2
      obtain ⟨M3, e4, F3, R3⟩ := C_add2 hcC R2 (hm1.gr F2.gr (by omega)) (by simp only [uB_B, uB_I, uB_F, uB_W, uB_K, uB_N, uB_L, uI_B, uI_I, uI_F, uI_W, uI_K, uI_N, uI_L, uF_B, uF_I, uF_F, uF_W, uF_K, uF_N, uF_L, uW_B, uW_I, uW_F, uW_W, uW_K, uW_N, uW_L, uK_B, uK_I, uK_F, uK_W, uK_K, uK_N, uK_L, uN_B, uN_I, uN_F, uN_W, uN_K, uN_N, uN_L, uL_B, uL_I, uL_F, uL_W, uL_K, uL_N, uL_L, fset_eq, ldel]; omega)
      refine ⟨M3, ?_, F1.trans ((F2.mono (fun b hb => by unfold CZ; omega)).trans F3), ?_⟩
      · simp (disch := omega) only [f_X7_hold, f_X7_hold_J34, nW_lit, k1, ↓reduceIte, hcnt, Option.bind_some, nW_lt, h8, k7, e1, e2, k9', e13, ho, e3, e4]
      · rw [spHold, if_neg h8, if_neg ho]
        simp only [uB_B, uB_I, uB_F, uB_W, uB_K, uB_N, uB_L, uI_B, uI_I, uI_F, uI_W, uI_K, uI_N, uI_L, uF_B, uF_I, uF_F, uF_W, uF_K, uF_N, uF_L, uW_B, uW_I, uW_F, uW_W, uW_K, uW_N, uW_L, uK_B, uK_I, uK_F, uK_W, uK_K, uK_N, uK_L, uN_B, uN_I, uN_F, uN_W, uN_K, uN_N, uN_L, uL_B, uL_I, uL_F, uL_W, uL_K, uL_N, uL_L, fset_eq] at R3
        have : fset (fset (cL g.2) 2 (ldel (cL g.2 2) 0)) 2 (lpush (ldel (cL g.2 2) 0) r) = fset (cL g.2) 2 (lpush (ldel (cL g.2 2) 0) r) := by
          funext j; by_cases e : j = 2
          · subst e; rw [fset_eq, fset_eq]
          · rw [fset_ne _ _ e, fset_ne _ _ e, fset_ne _ _ e]
        simp only [uL] at R3 ⊢
        rw [this] at R3; exact R3
theorem C_give {M : Mem} {S C m : Nat} {g : GS} {r0 : Row} (gr fl : Int32) (hC : inS S C) (h : CR M S C g) (hG : GI g) (hm : MsR M m r0) (hd : m ≠ S + 445) : ∃ M', f_X7_give S C m gr fl M = some M' ∧ Fr (CZ S C) M M' ∧ CR M' S C (spGive g (mkMs r0.1 gr (r0.2 2) fl (nW 0) (nW 0) (nW 0))) := by
  obtain ⟨k1, k2, k3, k4, k5, k6, k7, k8, k9⟩ := CR_k h
  obtain ⟨e1, M1, e2, F1, R1⟩ := CR_inc h hC (i := 1) (by omega)
  have F1' : Fr (fun a => a = S + 445) M M1 := by
    obtain ⟨F, B⟩ := BaR_tot h.1 hC.1 (i := 1) (by omega)
    have e3 : wI 13 (S + 445) (nW 1) (g.1 1 + nW 1) M = some (sI M (up2 (mI M) (S + 445) 1 (g.1 1 + nW 1))) := by
      simp (disch := omega) only [wI, h.1.2.2.2.2.1.1, ↓reduceIte, ix_nW, Option.map_some, nar13]
    rw [Option.some.inj (e2.symm.trans e3)]; exact F
  obtain ⟨m1, ⟨m2, m3, _⟩, x, mx, mt⟩ := hm.gr F1'.gr hd
  have hcC := hC
  obtain ⟨⟨c1, c2⟩, c3, c4⟩ := hC
  have hz : ¬ tz (S + 449) := by simp only [tz]; omega
  have k8' := (CR_k R1).2.2.2.2.2.2.2.1
  obtain ⟨M2, e3, F2, D2⟩ := X1_fill gr (r0.2 2) R1.1.2.2.2.2.2 mt hz
  have R2 := R1.gr F2.gr (by omega) (fun b h1 h2 => by omega)
  have k8'' := (CR_k R2).2.2.2.2.2.2.2.1
  obtain ⟨M3, e4, F3, D3⟩ := MsR_put 3 fl D2 hz
  have R3 := R2.gr F3.gr (by omega) (fun b h1 h2 => by omega)
  have D4 : MsR M3 (S + 449) (mkMs r0.1 gr (r0.2 2) fl (nW 0) (nW 0) (nW 0)) := by
    refine MsR_ext D3 rfl (fun i h1 h2 => ?_)
    by_cases e : i = 3
    · subst e; simp only [fset_eq]; rfl
    · simp only [fset_ne _ _ e, mkMs, e, ↓reduceIte]
  have F123 : Fr (CZ S C) M M3 := F1.trans ((F2.mono (fun b hb => Or.inr (Or.inr hb))).trans (F3.mono (fun b hb => Or.inr (Or.inr hb))))
  obtain ⟨q1, q2, q3, q4, q5, q6, q7, q8, q9⟩ := CR_k R3
  have qcnt := MLR_cnt R3.2.2.2.2.2.2.2.2
  have hmay := C_may R3
  have gm : gR 1 0 m M1 = some x := by simp only [gR, m1, mx, ↓reduceIte]
  have gp : gI 1 2 m M1 = some (r0.2 2) := by simp only [gI, m1, m3, ↓reduceIte]
  have d3 := hG.2.1.2.2.1
  have g1 : (mkMs r0.1 gr (r0.2 2) fl (nW 0) (nW 0) (nW 0)).2 1 = gr := rfl
  unfold spGive spGive0
  rw [g1]
  by_cases h0 : gr = nW 0
  · cases hon : cB g.2 0 with
    | true =>
      rw [hon, zI_t] at q6
      have t1 : ¬ nW 1 = nW 0 := by decide
      obtain ⟨M4, e5, F4, _, P4⟩ := Pa_msg (nW 0) hcC (CR_pa R3) D4 ⟨by unfold PaZ; omega, hz⟩
      refine ⟨M4, ?_, F123.trans (F4.mono (fun b hb => hb.elim (fun e => Or.inr (Or.inr e)) PaW_CZ)), ?_⟩
      · simp (disch := omega) only [f_X7_give, nW_lit, k1, ↓reduceIte, k7, Option.bind_some, e1, e2, k8', gm, gp, e3, k8'', e4, eq_true h0, q6, t1, q8, e5]
      · rw [if_pos h0, if_pos rfl]
        have := CR_of R3 F4.gr (fun b h1 h2 => by omega) hcC P4 (Kp_send _ _)
        have ep : mkPk (mkMs r0.1 gr (r0.2 2) fl (nW 0) (nW 0) (nW 0)).1 (nW 0) ((mkMs r0.1 gr (r0.2 2) fl (nW 0) (nW 0) (nW 0)).2 4) ((mkMs r0.1 gr (r0.2 2) fl (nW 0) (nW 0) (nW 0)).2 1) ((mkMs r0.1 gr (r0.2 2) fl (nW 0) (nW 0) (nW 0)).2 2) ((mkMs r0.1 gr (r0.2 2) fl (nW 0) (nW 0) (nW 0)).2 3 + nW 0) = mkPk (mkMs r0.1 gr (r0.2 2) fl (nW 0) (nW 0) (nW 0)).1 (nW 0) (nW 0) (nW 0) ((mkMs r0.1 gr (r0.2 2) fl (nW 0) (nW 0) (nW 0)).2 2) ((mkMs r0.1 gr (r0.2 2) fl (nW 0) (nW 0) (nW 0)).2 3) := by
          have e4 : (mkMs r0.1 gr (r0.2 2) fl (nW 0) (nW 0) (nW 0)).2 4 = nW 0 := rfl
          have e3 : (mkMs r0.1 gr (r0.2 2) fl (nW 0) (nW 0) (nW 0)).2 3 + nW 0 = (mkMs r0.1 gr (r0.2 2) fl (nW 0) (nW 0) (nW 0)).2 3 := Int32.add_zero _
          rw [e4, e3, g1, h0]
        rw [ep] at this; exact this
    | false =>
      rw [hon, zI_f] at q6
      obtain ⟨e5, M4, e6, F4, R4⟩ := CR_inc R3 hcC (i := 2) (by omega)
      refine ⟨M4, ?_, F123.trans F4, by rw [if_pos h0, if_neg (by decide)]; exact R4⟩
      simp (disch := omega) only [f_X7_give, nW_lit, k1, ↓reduceIte, k7, Option.bind_some, e1, e2, k8', gm, gp, e3, k8'', e4, eq_true h0, q6, q7, e5, e6]
  · rw [if_neg h0]
    have hold := C_hold hcC R3 D4 (by show (cL g.2 2).1 ≤ 8; exact d3)
    by_cases hp : (cL g.2 2).1 = 0
    · cases hm2 : spMay (tot g.1 1, g.2) with
      | true =>
        rw [hm2, zI_t] at hmay
        have t1 : ¬ nW 1 = nW 0 := by decide
        obtain ⟨hon, hfl⟩ := GI_may (hG.tot (i := 1) (by omega)) hm2
        obtain ⟨M4, _, e5, F4, _, P4⟩ := Pa_fly hcC (CR_pa R3) D4 ⟨by unfold PaZ; omega, hz⟩ hfl
        refine ⟨M4, ?_, F123.trans (F4.mono (fun b hb => hb.elim (fun e => Or.inr (Or.inr e)) PaW_CZ)), ?_⟩
        · have qc : (cL (tot g.1 1, g.2).2 2).1 = 0 := hp
          simp (disch := omega) only [f_X7_give, nW_lit, k1, ↓reduceIte, k7, Option.bind_some, e1, e2, k8', gm, gp, e3, k8'', e4, eq_false h0, q2, q4, qcnt, qc, hp, hmay, bindP, t1, q8, e5]
        · rw [if_pos ⟨hp, rfl⟩]
          exact CR_of R3 F4.gr (fun b h1 h2 => by omega) hcC P4 (Kp_fly _ _)
      | false =>
        rw [hm2, zI_f] at hmay
        obtain ⟨M4, e5, F4, R4⟩ := hold
        refine ⟨M4, ?_, F123.trans F4, by rw [if_neg (fun hh => absurd hh.2 (by decide))]; exact R4⟩
        have qc : (cL (tot g.1 1, g.2).2 2).1 = 0 := hp
        simp (disch := omega) only [f_X7_give, f_X7_give_J105, nW_lit, k1, ↓reduceIte, k7, Option.bind_some, e1, e2, k8', gm, gp, e3, k8'', e4, eq_false h0, q2, q4, qcnt, qc, hp, hmay, bindP, q8, e5]
    · obtain ⟨M4, e5, F4, R4⟩ := hold
      refine ⟨M4, ?_, F123.trans F4, by rw [if_neg (fun hh => hp hh.1)]; exact R4⟩
      have qc : ¬ (cL (tot g.1 1, g.2).2 2).1 = 0 := hp
      have qb : (cL (tot g.1 1, g.2).2 2).1 ≤ 8 := d3
      simp (disch := omega) only [f_X7_give, f_X7_give_J105, nW_lit, k1, ↓reduceIte, k7, Option.bind_some, e1, e2, k8', gm, gp, e3, k8'', e4, eq_false h0, q2, q4, qcnt, nW_inj, qc, q8, e5]
/-! sending again -/
theorem SeO_L1 {M : Mem} {s : Nat} {c : Cl} (l : Ls Row) (h : SeO M s c) : SeO M s (uL c 1 l) := by
  unfold SeO at *
  simp only [uB_B, uB_I, uB_F, uB_W, uB_K, uB_N, uB_L, uI_B, uI_I, uI_F, uI_W, uI_K, uI_N, uI_L, uF_B, uF_I, uF_F, uF_W, uF_K, uF_N, uF_L, uW_B, uW_I, uW_F, uW_W, uW_K, uW_N, uW_L, uK_B, uK_I, uK_F, uK_W, uK_K, uK_N, uK_L, uN_B, uN_I, uN_F, uN_W, uN_K, uN_N, uN_L, uL_B, uL_I, uL_F, uL_W, uL_K, uL_N, uL_L, fset_ne _ _ (show (3 : Nat) ≠ 1 by omega)]; exact h
theorem uL_self (c : Cl) (i : Nat) : uL c i (cL c i) = c := by
  simp only [uL]; congr 6; funext j
  by_cases e : j = i
  · subst e; rw [fset_eq]
  · rw [fset_ne _ _ e]
theorem MsR_get {M : Mem} {m : Nat} {r : Row} (h : MsR M m r) {f : Nat} (h1 : 1 ≤ f) (h2 : f ≤ 6) : gI 1 f m M = some (r.2 f) := by
  obtain ⟨a, ⟨b1, b2, b3, b4, b5, b6⟩, _⟩ := h
  simp only [gI, a, ↓reduceIte]
  have : f = 1 ∨ f = 2 ∨ f = 3 ∨ f = 4 ∨ f = 5 ∨ f = 6 := by omega
  rcases this with e | e | e | e | e | e <;> subst e <;> simp only [b1, b2, b3, b4, b5, b6]
/-- a flight's row is written: the rest stays -/
theorem Pa_lset {M M' : Mem} {S C : Nat} {g : GS} {l : Ls Row} {P : Nat → Prop} (h : PaR M S C g) (G : Gr P M M') (hP : ∀ a, a = S ∨ a = S + 1 ∨ a = S + 444 ∨ a = S + 445 ∨ a = C ∨ (C + 2 ≤ a ∧ a < C + 35) → ¬ P a) (hl : MLR M' (C + 43) 5 l) : PaR M' S C (g.1, uL g.2 1 l) := by
  obtain ⟨h1, h2, h3, h4, h5⟩ := h
  refine ⟨h1.gr G ⟨hP _ (by omega), hP _ (by omega), hP _ (by omega), hP _ (by omega)⟩, h2.gr G (hP _ (by omega)), ?_, (SeO_L1 l h4).gr G (hP _ (by omega)), ?_⟩
  · simp only [uB_B, uB_I, uB_F, uB_W, uB_K, uB_N, uB_L, uI_B, uI_I, uI_F, uI_W, uI_K, uI_N, uI_L, uF_B, uF_I, uF_F, uF_W, uF_K, uF_N, uF_L, uW_B, uW_I, uW_F, uW_W, uW_K, uW_N, uW_L, uK_B, uK_I, uK_F, uK_W, uK_K, uK_N, uK_L, uN_B, uN_I, uN_F, uN_W, uN_K, uN_N, uN_L, uL_B, uL_I, uL_F, uL_W, uL_K, uL_N, uL_L, fset_ne _ _ (show (0 : Nat) ≠ 1 by omega)]; exact h3.gr G (fun a _ _ => hP _ (by omega))
  · simp only [uB_B, uB_I, uB_F, uB_W, uB_K, uB_N, uB_L, uI_B, uI_I, uI_F, uI_W, uI_K, uI_N, uI_L, uF_B, uF_I, uF_F, uF_W, uF_K, uF_N, uF_L, uW_B, uW_I, uW_F, uW_W, uW_K, uW_N, uW_L, uK_B, uK_I, uK_F, uK_W, uK_K, uK_N, uK_L, uN_B, uN_I, uN_F, uN_W, uN_K, uN_N, uN_L, uL_B, uL_I, uL_F, uL_W, uL_K, uL_N, uL_L, fset_eq]; exact hl
theorem Pa_inc {M : Mem} {S C i : Nat} {g : GS} (h : PaR M S C g) (hC : inS S C) (hi : i < 10) : aI 13 (S + 445) (nW i) M = some (g.1 i) ∧ ∃ M1, wI 13 (S + 445) (nW i) (g.1 i + nW 1) M = some M1 ∧ Fr (fun a => a = S + 445) M M1 ∧ PaR M1 S C (tot g.1 i, g.2) := by
  obtain ⟨h1, h2, h3, h4, h5⟩ := h
  obtain ⟨e1, M1, e2, F, B⟩ := BaR_inc h1 hC.1 hi
  obtain ⟨⟨c1, c2⟩, c3, c4⟩ := hC
  exact ⟨e1, M1, e2, F, B, h2.gr F.gr (by omega), h3.gr F.gr (fun a _ _ => by omega), h4.gr F.gr (by omega), h5.gr F.gr (fun a _ _ => by omega)⟩
theorem uL_uL (c : Cl) (i : Nat) (l l' : Ls Row) : uL (uL c i l) i l' = uL c i l' := by
  simp only [uL]; congr 6; funext j
  by_cases e : j = i
  · subst e; rw [fset_eq, fset_eq]
  · rw [fset_ne _ _ e, fset_ne _ _ e, fset_ne _ _ e]
theorem Pa_release {M : Mem} {S C a k : Nat} {g : GS} {r : Row} (hC : inS S C) (h : PaR M S C g) (ha : C + 45 ≤ a ∧ a < C + 50) (hm : MsR M a r) (back : ∀ P M' r, Gr P M M' → (∀ b, C + 43 ≤ b → b < C + 50 → b ≠ a → ¬ P b) → MsR M' a r → MLR M' (C + 43) 5 (lset (cL g.2 1) k r)) : ∃ M', f_X7_sendRelease S C a M = some M' ∧ Fr (PaW S C) M M' ∧ PaR M' S C ((spSignR g (nW 3) (r.2 4)).1, uL (spSignR g (nW 3) (r.2 4)).2 1 (lset (cL g.2 1) k (setSent r (g.1 14)))) := by
  have hcC := hC
  obtain ⟨⟨c1, c2⟩, c3, c4⟩ := hC
  obtain ⟨M1, e1, F1, R1⟩ := MsR_put 6 (g.1 14) hm (by simp only [tz]; omega)
  have P1 := Pa_lset h F1.gr (fun b hb => by omega) (back _ M1 _ F1.gr (fun b _ _ h => h) R1)
  obtain ⟨M2, e2, F2, P2⟩ := Pa_sign (nW 3) (r.2 4) hcC P1
  rw [spSend_uL _ _ _ _ (by decide)] at P2
  have g4 := MsR_get R1 (f := 4) (by omega) (by omega)
  simp only [fset_ne _ _ (show (4 : Nat) ≠ 6 by omega)] at g4
  refine ⟨M2, ?_, F1.tr F2 (fun b hb => by unfold PaW; omega) (fun _ h => h), P2⟩
  simp only [f_X7_sendRelease, h.1.1.1, ↓reduceIte, BaR_clock h.1, Option.bind_some, e1, g4, nW_lit, e2]
theorem Pa_resend {M : Mem} {S C i : Nat} {g : GS} (hC : inS S C) (h : PaR M S C g) (hi : i < (cL g.2 1).1) : ∃ a, mR M (C + 44) i = some a ∧ ∃ M', f_X7_resend S C a M = some M' ∧ Fr (PaW S C) M M' ∧ PaR M' S C (spResend g i) := by
  have hcC := hC
  obtain ⟨⟨c1, c2⟩, c3, c4⟩ := hC
  obtain ⟨a, ea, ⟨a1, a2⟩, _, _⟩ := MLR_rowP h.2.2.2.2 hi
  obtain ⟨t1, M1, e1, F1, P1⟩ := Pa_inc h hcC (i := 4) (by omega)
  obtain ⟨a', ea', ⟨a1', a2'⟩, R1, back⟩ := MLR_rowP P1.2.2.2.2 hi
  have ha' : a' = a := by
    have e44 : mR M1 (C + 44) = mR M (C + 44) := (F1.2.2 (C + 44) (Or.inr (by omega))).2.2.2
    rw [e44] at ea'
    exact Option.some.inj (ea'.symm.trans ea)
  subst ha'
  refine ⟨a', ea, ?_⟩
  have k7 := h.1.1.1
  have k77 : gR 7 7 S M = some (S + 445) := by simp only [gR, k7, h.1.1.2.2.2.2.2.2.1, ↓reduceIte]
  have g5 := MsR_get R1 (f := 5) (by omega) (by omega)
  have e14 : (tot g.1 4, g.2).1 14 = g.1 14 := fset_ne g.1 (g.1 4 + nW 1) (show (14 : Nat) ≠ 4 by omega)
  unfold spResend spAgain
  by_cases h4 : ((cL g.2 1).2 i).2 5 = nW 4
  · obtain ⟨M2, e2, F2, P2⟩ := Pa_release hcC P1 ⟨a1, a2⟩ R1 back
    refine ⟨M2, ?_, F1.tr F2 (fun b hb => by unfold PaW; omega) (fun _ h => h), ?_⟩
    · have g5' : gI 1 5 a' M1 = some (((cL g.2 1).2 i).2 5) := g5
      simp (disch := omega) only [f_X7_resend, k7, ↓reduceIte, k77, Option.bind_some, nW_lit, t1, e1, g5', eq_true h4, e2]
    · rw [if_pos h4]; rw [e14] at P2; exact P2
  · have hcP := P1
    obtain ⟨p1, p2, p3, p4, p5⟩ := P1
    obtain ⟨M2, e2, F2, R2, B2, O2, Q2⟩ := X7_sendMessage (nW 1) hcC.1 hcC.2 p1 p2 p3 R1 ⟨by omega, by omega, by omega, by omega, by omega, by omega, by simp only [tz]; omega⟩
    have L2 := back _ M2 _ F2.gr (fun b h1 h2 h3 h4 => by omega) R2
    refine ⟨M2, ?_, F1.tr F2 (fun b hb => by unfold PaW; omega) (fun b hb => by unfold PaW; omega), ?_⟩
    · have g5' : gI 1 5 a' M1 = some (((cL g.2 1).2 i).2 5) := g5
      simp (disch := omega) only [f_X7_resend, k7, ↓reduceIte, k77, Option.bind_some, nW_lit, t1, e1, g5', eq_false h4, e2]
    · rw [if_neg h4]
      rw [e14] at L2
      refine ⟨B2, O2, ?_, SeO_L1 _ (SeO_send (p4.gr F2.gr (by omega))), ?_⟩
      · simp only [uB_B, uB_I, uB_F, uB_W, uB_K, uB_N, uB_L, uI_B, uI_I, uI_F, uI_W, uI_K, uI_N, uI_L, uF_B, uF_I, uF_F, uF_W, uF_K, uF_N, uF_L, uW_B, uW_I, uW_F, uW_W, uW_K, uW_N, uW_L, uK_B, uK_I, uK_F, uK_W, uK_K, uK_N, uK_L, uN_B, uN_I, uN_F, uN_W, uN_K, uN_N, uN_L, uL_B, uL_I, uL_F, uL_W, uL_K, uL_N, uL_L, fset_ne _ _ (show (0 : Nat) ≠ 1 by omega)]; exact Q2
      · simp only [uB_B, uB_I, uB_F, uB_W, uB_K, uB_N, uB_L, uI_B, uI_I, uI_F, uI_W, uI_K, uI_N, uI_L, uF_B, uF_I, uF_F, uF_W, uF_K, uF_N, uF_L, uW_B, uW_I, uW_F, uW_W, uW_K, uW_N, uW_L, uK_B, uK_I, uK_F, uK_W, uK_K, uK_N, uK_L, uN_B, uN_I, uN_F, uN_W, uN_K, uN_N, uN_L, uL_B, uL_I, uL_F, uL_W, uL_K, uL_N, uL_L, fset_eq]; exact L2
theorem Kp_again (g : GS) (i : Nat) : Kp g.2 (spResend g i).2 := by
  have hk : ∀ (g1 g2 : GS) (l : Ls Row), Kp g1.2 g2.2 → Kp g1.2 (uL g2.2 1 l) := fun g1 g2 l h => by
    refine ⟨h.1, h.2.1, ?_, ?_⟩
    · rw [uL_L, fset_ne _ _ (by omega)]; exact h.2.2.1
    · rw [uL_L, fset_ne _ _ (by omega)]; exact h.2.2.2
  refine hk g _ _ ?_
  unfold spAgain spSignR
  split
  · exact Kp_send (tot g.1 4, g.2) _
  · exact Kp_send (tot g.1 4, g.2) _
theorem C_resend {M : Mem} {S C i : Nat} {g : GS} (hC : inS S C) (h : CR M S C g) (hi : i < (cL g.2 1).1) : ∃ a, mR M (C + 44) i = some a ∧ ∃ M', f_X7_resend S C a M = some M' ∧ Fr (CZ S C) M M' ∧ CR M' S C (spResend g i) := by
  obtain ⟨a, ea, M', e, F, P⟩ := Pa_resend hC (CR_pa h) hi
  exact ⟨a, ea, M', e, F.mono (fun _ h => PaW_CZ h), CR_of (Q := fun _ => False) h (F.mono (fun b hb => Or.inr hb)).gr (fun _ _ _ h => h) hC P (Kp_again g i)⟩
