/-! A SUBSCRIPTION IS ADDED, in the class -/
theorem X6_fill {M : Mem} {p x : Nat} {t : Txt} (gr : Int32) (hp : ShK M p) (hx : TextR M x t) (hz : ¬ tz p) : ∃ M1 M2 M3, pR 6 0 p x M = some M1 ∧ pI 6 1 p gr M1 = some M2 ∧ pI 6 3 p (nW 0) M2 = some M3 ∧ Fr (fun a => a = p) M M1 ∧ Fr (fun a => a = p) M M2 ∧ Fr (fun a => a = p) M M3 ∧ ShK M3 p ∧ ShV M3 p (t, gr, []) := by
  have hk : (mK M x).1 ≠ 99 := by rw [hx.2.1.1]; decide
  obtain ⟨k1, k2, k3⟩ := hp
  have F1 : Fr (fun a => a = p) M (sR M (up2 (mR M) p 0 (some x))) := ⟨rfl, ⟨rfl, rfl, rfl⟩, fun c hc => by
    have hne : c ≠ p := by rintro rfl; exact hc.elim hz (fun h => h rfl)
    exact ⟨rfl, rfl, rfl, by simp only [sI_mI, sI_mL, sI_mF, sI_mR, sI_mK, sI_mN, sI_mC, sI_mS, sL_mI, sL_mL, sL_mF, sL_mR, sL_mK, sL_mN, sL_mC, sL_mS, sF_mI, sF_mL, sF_mF, sF_mR, sF_mK, sF_mN, sF_mC, sF_mS, sR_mI, sR_mL, sR_mF, sR_mR, sR_mK, sR_mN, sR_mC, sR_mS, up2_fn _ _ _ hne]⟩⟩
  have F2 := fq_I (sR M (up2 (mR M) p 0 (some x))) 1 gr hz
  have F3 := fq_I (sI (sR M (up2 (mR M) p 0 (some x))) (up2 (mI (sR M (up2 (mR M) p 0 (some x)))) p 1 gr)) 3 (nW 0) hz
  refine ⟨_, _, _, by simp only [pR, k1, hk, ne_eq, not_false_eq_true, and_self, ↓reduceIte], by simp only [pI, sI_mI, sI_mL, sI_mF, sI_mR, sI_mK, sI_mN, sI_mC, sI_mS, sL_mI, sL_mL, sL_mF, sL_mR, sL_mK, sL_mN, sL_mC, sL_mS, sF_mI, sF_mL, sF_mF, sF_mR, sF_mK, sF_mN, sF_mC, sF_mS, sR_mI, sR_mL, sR_mF, sR_mR, sR_mK, sR_mN, sR_mC, sR_mS, k1, ↓reduceIte], by simp only [pI, sI_mI, sI_mL, sI_mF, sI_mR, sI_mK, sI_mN, sI_mC, sI_mS, sL_mI, sL_mL, sL_mF, sL_mR, sL_mK, sL_mN, sL_mC, sL_mS, sF_mI, sF_mL, sF_mF, sF_mR, sF_mK, sF_mN, sF_mC, sF_mS, sR_mI, sR_mL, sR_mF, sR_mR, sR_mK, sR_mN, sR_mC, sR_mS, k1, ↓reduceIte], F1, F1.trans F2, (F1.trans F2).trans F3, ⟨k1, ?_, k3⟩, ?_, ?_, Nat.zero_le _, ⟨x, ?_, hx.gr ((F1.trans F2).trans F3).gr⟩, fun i hi => absurd hi (Nat.not_lt_zero i)⟩
  · simp (disch := omega) only [sI_mI, sI_mL, sI_mF, sI_mR, sI_mK, sI_mN, sI_mC, sI_mS, sL_mI, sL_mL, sL_mF, sL_mR, sL_mK, sL_mN, sL_mC, sL_mS, sF_mI, sF_mL, sF_mF, sF_mR, sF_mK, sF_mN, sF_mC, sF_mS, sR_mI, sR_mL, sR_mF, sR_mR, sR_mK, sR_mN, sR_mC, sR_mS, up2_nj, k2]
  · simp (disch := omega) only [sI_mI, sI_mL, sI_mF, sI_mR, sI_mK, sI_mN, sI_mC, sI_mS, sL_mI, sL_mL, sL_mF, sL_mR, sL_mK, sL_mN, sL_mC, sL_mS, sF_mI, sF_mL, sF_mF, sF_mR, sF_mK, sF_mN, sF_mC, sF_mS, sR_mI, sR_mL, sR_mF, sR_mR, sR_mK, sR_mN, sR_mC, sR_mS, up2_nj, up2_eq]
  · simp only [sI_mI, sI_mL, sI_mF, sI_mR, sI_mK, sI_mN, sI_mC, sI_mS, sL_mI, sL_mL, sL_mF, sL_mR, sL_mK, sL_mN, sL_mC, sL_mS, sF_mI, sF_mL, sF_mF, sF_mR, sF_mK, sF_mN, sF_mC, sF_mS, sR_mI, sR_mL, sR_mF, sR_mR, sR_mK, sR_mN, sR_mC, sR_mS, up2_eq]; rfl
  · simp only [sI_mI, sI_mL, sI_mF, sI_mR, sI_mK, sI_mN, sI_mC, sI_mS, sL_mI, sL_mL, sL_mF, sL_mR, sL_mK, sL_mN, sL_mC, sL_mS, sF_mI, sF_mL, sF_mF, sF_mR, sF_mK, sF_mN, sF_mC, sF_mS, sR_mI, sR_mL, sR_mF, sR_mR, sR_mK, sR_mN, sR_mC, sR_mS, up2_eq]
theorem ShsR_new {M : Mem} {S : Nat} {l : List Sh} (h : ShsR M S l) (hn : l.length < 36) : ∃ a, aR 21 (S + 362) (nW l.length) M = some a ∧ (S + 363 ≤ a ∧ a + 1 < S + 435) ∧ ShK M a ∧ ∀ P M' x, Gr P M M' → (∀ b, S + 362 ≤ b → b < S + 435 → b ≠ a → b ≠ a + 1 → ¬ P b) → mI M' S 3 = nW (l.length + 1) → ShK M' a → ShV M' a x → ShsR M' S (l ++ [x]) := by
  obtain ⟨h1, h2, p, h3, h4, h5⟩ := h
  have hp := h3.2.1 l.length hn
  have hq := h4 l.length hn
  refine ⟨p l.length, by simp (disch := omega) only [aR, h3.1, ↓reduceIte, ix_nW, Option.bind_some, hp.1], by omega, hq.2, fun P M' x G hP h3' hK hV => ?_⟩
  have ll : (l ++ [x]).length = l.length + 1 := by simp
  refine ⟨by rw [ll]; exact h3', by rw [ll]; omega, p, h3.gr G (by decide) (by decide) (hP _ (by omega) (by omega) (by omega) (by omega)), fun i hi => ⟨(h4 i hi).1, ?_⟩, fun i hi => ?_⟩
  · by_cases e : i = l.length
    · subst e; exact hK
    · have a1 := h3.2.1 i hi
      have a2 := (h4 i hi).1
      have a3 : p i ≠ p l.length := fun hh => e (h3.2.2 i _ hi (by omega) hh)
      exact (h4 i hi).2.gr G (hP _ (by omega) (by omega) (by omega) (by omega))
  · rw [ll] at hi
    rw [gd_snoc _ _ _ _ (by omega)]
    by_cases e : i = l.length
    · subst e; rw [if_pos rfl]; exact hV
    · rw [if_neg e]
      have a1 := h3.2.1 i (by omega)
      have a2 := (h4 i (by omega)).1
      have a3 : p i ≠ p l.length := fun hh => e (h3.2.2 i _ (by omega) (by omega) hh)
      exact (h5 i (by omega)).gr G (h4 i (by omega)).2 ⟨hP _ (by omega) (by omega) (by omega) (by omega), hP _ (by omega) (by omega) (by omega) (by omega)⟩
def spAddL (σ : Sg) (c : Nat) (t : Txt) (gr : Int32) : List Sh := if gr = nW 0 then gSh σ else shJoin (gSh σ) t gr c
def spAdd (σ : Sg) (c : Nat) (t : Txt) (gr : Int32) : Sg := uSh (putG σ c (gSc σ, uL (gCl σ c) 3 (lpush (cL (gCl σ c) 3) (mkSu t gr (nW 0) (nW 0))))) (spAddL σ c t gr)
theorem St_addSub {M : Mem} {S x c : Nat} {σ : Sg} {t : Txt} (gr : Int32) (hZ : inZ S) (hR : StR M S σ) (hc : c < 6) (hx : TextR M x t) (hn : (cL (gCl σ c) 3).1 < 6) (h36 : shAt (gSh σ) t gr = none → (gSh σ).length < 36) (h6 : ∀ h, shAt (gSh σ) t gr = some h → ((gSh σ).getD h shD).2.2.length < 6) : ∃ M', f_X7_addSubscription S (nW c) x gr M = some M' ∧ Fr (SZ S) M M' ∧ StR M' S (spAdd σ c t gr) := by
  obtain ⟨s1, s2, s3, s4, s5, s6, s7, s8⟩ := StR_k hR
  have kc := (CR_k (StR_get hR hc)).2.1
  have hC := hZ.c hc
  have hZ' := hZ
  obtain ⟨d1, d2⟩ := hZ
  obtain ⟨M1, e1, F1, R1⟩ := Cl_addSub gr hC (hR.2.1 c hc) hx hn
  obtain ⟨H1, F1'⟩ := St_cl hR hc F1 (fun a h => by omega) R1
  unfold spAdd spAddL
  have e1' := e1
  by_cases g0 : gr = nW 0
  · rw [if_pos g0]
    rw [g0] at e1'
    exact ⟨M1, by simp only [f_X7_addSubscription, s1, ↓reduceIte, s2, Option.bind_some, s8 c hc, kc, nW_lit, e1', g0], F1', H1⟩
  · rw [if_neg g0]
    obtain ⟨t1, t2, t3, t4, t5, t6, t7, t8⟩ := StR_k H1
    have t6 : gI 7 3 S M1 = some (nW (gSh σ).length) := t6
    have hO := BaR_O H1.1
    have hSh : ShsR M1 S (gSh σ) := H1.2.2.1
    have l36 : (gSh σ).length ≤ 36 := hSh.2.1
    have pl := X7_placeOfShare gr hO hSh (hx.gr F1.gr)
    unfold shJoin
    cases hat : shAt (gSh σ) t gr with
    | some h =>
      obtain ⟨hl, q1, q2⟩ := shAt_some hat
      obtain ⟨a, ea, ⟨a1, a2⟩, hK, hV, back⟩ := ShsR_at hSh hl
      have hz : ¬ tz a ∧ ¬ tz (a + 1) := by simp only [tz]; omega
      obtain ⟨M2, e2, F2, K2, V2⟩ := X6_addMember (c := c) hz hK hV (h6 h hat)
      have hS1 := F2.2.2 S (Or.inr (by omega))
      have n0 : ¬ h < 0 := by omega
      have R2 := back _ M2 _ F2.gr (by omega) (fun b _ _ h1 h2 => by omega) K2 V2 (by rw [t1]; decide)
      refine ⟨M2, ?_, F1'.trans (F2.mono (fun b h => by unfold SZ; omega)), StR_sh H1 F2.gr (fun b h => by omega) (by rw [hS1.1]) (by rw [hS1.1]) hS1.2.2.2 R2⟩
      simp (disch := omega) only [f_X7_addSubscription, s1, s2, s8 c hc, kc, e1, eq_false g0, pl, hat, bindP, posI, nW_le, Nat.zero_le, ↓reduceIte, f_X7_addSubscription_J97, nW_lit, nW_lt, n0, t3, Option.bind_some, ea, e2]
    | none =>
      have hl := h36 hat
      obtain ⟨a, ea, ⟨a1, a2⟩, hK, back⟩ := ShsR_new hSh hl
      have hz : ¬ tz a ∧ ¬ tz (a + 1) := by simp only [tz]; omega
      have hzS : ¬ tz S := by simp only [tz]; omega
      obtain ⟨N1, N2, N3, e2, e3, e4, G1, G2, G3, K3, V3⟩ := X6_fill gr hK (hx.gr F1.gr) hz.1
      have keep : ∀ N, Fr (fun b => b = a) M1 N → gR 7 2 S N = some (S + 362) ∧ aR 21 (S + 362) (nW (gSh σ).length) N = some a ∧ gI 7 3 S N = some (nW (gSh σ).length) := by
        intro N F
        have b1 := F.2.2 S (Or.inr (show ¬ S = a by omega))
        have b2 := F.2.2 (S + 362) (Or.inr (show ¬ S + 362 = a by omega))
        refine ⟨?_, ?_, ?_⟩
        · rw [← t3]; unfold gR; rw [F.1, b1.2.2.2]
        · rw [← ea]; unfold aR; rw [F.1, b2.2.2.2]
        · rw [← t6]; unfold gI; rw [F.1, b1.1]
      obtain ⟨k11, k12, _⟩ := keep N1 G1
      obtain ⟨k21, k22, _⟩ := keep N2 G2
      obtain ⟨_, _, k33⟩ := keep N3 G3
      have kS : (mK N3 S).1 = 7 := by rw [G3.1]; exact t1
      have e5 : pI 7 3 S (nW ((gSh σ).length + 1)) N3 = some (sI N3 (up2 (mI N3) S 3 (nW ((gSh σ).length + 1)))) := by simp only [pI, kS, ↓reduceIte]
      have G4 := fq_I N3 3 (nW ((gSh σ).length + 1)) hzS
      have K4 : ShK (sI N3 (up2 (mI N3) S 3 (nW ((gSh σ).length + 1)))) a := K3.gr G4.gr (by omega)
      have V4 : ShV (sI N3 (up2 (mI N3) S 3 (nW ((gSh σ).length + 1)))) a (t, gr, []) := V3.gr G4.gr K3 ⟨by omega, by omega⟩
      obtain ⟨M5, e6, G5, K5, V5⟩ := X6_addMember (c := c) hz K4 V4 (by show 0 < 6; omega)
      have FF : Fr (fun b => b = S ∨ b = a ∨ b = a + 1) M1 M5 := ((G3.mono (fun b h => Or.inr (Or.inl h))).trans (G4.mono (fun b h => Or.inl h))).trans (G5.mono (fun b h => Or.inr h))
      have s0 := G3.2.2 S (Or.inr (show ¬ S = a by omega))
      have s5' := G5.2.2 S (Or.inr (by omega))
      have i3 : ∀ f, mI M5 S f = if f = 3 then nW ((gSh σ).length + 1) else mI M1 S f := by
        intro f
        rw [s5'.1]; simp only [sI_mI, sI_mL, sI_mF, sI_mR, sI_mK, sI_mN, sI_mC, sI_mS, sL_mI, sL_mL, sL_mF, sL_mR, sL_mK, sL_mN, sL_mC, sL_mS, sF_mI, sF_mL, sF_mF, sF_mR, sF_mK, sF_mN, sF_mC, sF_mS, sR_mI, sR_mL, sR_mF, sR_mR, sR_mK, sR_mN, sR_mC, sR_mS]
        by_cases ef : f = 3
        · subst ef; rw [up2_eq, if_pos rfl]
        · rw [up2_nj _ _ _ _ ef, if_neg ef, s0.1]
      have r3 : mR M5 S = mR M1 S := by rw [s5'.2.2.2]; simp only [sI_mI, sI_mL, sI_mF, sI_mR, sI_mK, sI_mN, sI_mC, sI_mS, sL_mI, sL_mL, sL_mF, sL_mR, sL_mK, sL_mN, sL_mC, sL_mS, sF_mI, sF_mL, sF_mF, sF_mR, sF_mK, sF_mN, sF_mC, sF_mS, sR_mI, sR_mL, sR_mF, sR_mR, sR_mK, sR_mN, sR_mC, sR_mS]; rw [s0.2.2.2]
      have R5 := back _ M5 _ FF.gr (fun b _ _ h1 h2 => by omega) (by rw [i3, if_pos rfl]) K5 V5
      have k3' : gR 7 2 S (sI N3 (up2 (mI N3) S 3 (nW ((gSh σ).length + 1)))) = some (S + 362) := by
        have := (keep N3 G3).1
        unfold gR at this ⊢; simp only [sI_mI, sI_mL, sI_mF, sI_mR, sI_mK, sI_mN, sI_mC, sI_mS, sL_mI, sL_mL, sL_mF, sL_mR, sL_mK, sL_mN, sL_mC, sL_mS, sF_mI, sF_mL, sF_mF, sF_mR, sF_mK, sF_mN, sF_mC, sF_mS, sR_mI, sR_mL, sR_mF, sR_mR, sR_mK, sR_mN, sR_mC, sR_mS]; exact this
      have k4' : aR 21 (S + 362) (nW (gSh σ).length) (sI N3 (up2 (mI N3) S 3 (nW ((gSh σ).length + 1)))) = some a := by
        have := (keep N3 G3).2.1
        unfold aR at this ⊢; simp only [sI_mI, sI_mL, sI_mF, sI_mR, sI_mK, sI_mN, sI_mC, sI_mS, sL_mI, sL_mL, sL_mF, sL_mR, sL_mK, sL_mN, sL_mC, sL_mS, sF_mI, sF_mL, sF_mF, sF_mR, sF_mK, sF_mN, sF_mC, sF_mS, sR_mI, sR_mL, sR_mF, sR_mR, sR_mK, sR_mN, sR_mC, sR_mS]; exact this
      have m1 : ¬ nW 0 ≤ (-nW 1 : Int32) := by decide
      have n0 : ¬ (gSh σ).length < 0 := by omega
      have n36 : ¬ 36 ≤ (gSh σ).length := by omega
      refine ⟨M5, ?_, F1'.trans (FF.mono (fun b h => by unfold SZ; omega)), StR_sh H1 FF.gr (fun b h => by omega) (by rw [i3, if_neg (by omega)]) (by rw [i3, if_neg (by omega)]) r3 R5⟩
      simp (disch := omega) only [f_X7_addSubscription, s1, s2, s8 c hc, kc, e1, eq_false g0, pl, hat, bindP, posI, m1, ↓reduceIte, t6, Option.bind_some, nW_le, nW_lt, n0, n36, t3, ea, e2, k11, k12, e3, k21, k22, e4, k33, nW_add, e5, f_X7_addSubscription_J97, nW_lit, k3', k4', e6]
