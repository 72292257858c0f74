/-! A CLIENT'S PART OF A STATE: what sending and flying touch -/
def PaZ (S C a : Nat) : Prop := a = S ∨ a = S + 1 ∨ a = S + 444 ∨ a = S + 445 ∨ a = C ∨ (C + 2 ≤ a ∧ a < C + 35) ∨ (C + 43 ≤ a ∧ a < C + 50)
def PaW (S C a : Nat) : Prop := a = S + 445 ∨ a = C ∨ (C + 2 ≤ a ∧ a < C + 35) ∨ (C + 43 ≤ a ∧ a < C + 50)
def PaR (M : Mem) (S C : Nat) (g : GS) : Prop := BaR M S g.1 ∧ ClO M C g.2 ∧ QuR M (C + 2) (cL g.2 0) ∧ SeO M (C + 34) g.2 ∧ MLR M (C + 43) 5 (cL g.2 1)
def inS (S C : Nat) : Prop := (5 ≤ S ∧ S + 450 ≤ 908) ∧ S + 2 ≤ C ∧ C + 60 ≤ S + 362
theorem PaR.gr {P : Nat → Prop} {M M' : Mem} (g : Gr P M M') {S C : Nat} {G : GS} (hp : ∀ a, PaZ S C a → ¬ P a) (h : PaR M S C G) : PaR M' S C G := by
  obtain ⟨h1, h2, h3, h4, h5⟩ := h
  simp only [PaZ] at hp
  exact ⟨h1.gr g ⟨hp _ (by omega), hp _ (by omega), hp _ (by omega), hp _ (by omega)⟩, h2.gr g (hp _ (by omega)), h3.gr g (fun a _ _ => hp _ (by omega)), h4.gr g (hp _ (by omega)), h5.gr g (fun a _ _ => hp _ (by omega))⟩
theorem MsR_put {M : Mem} {m : Nat} {r : Row} (f : Nat) (x : Int32) (h : MsR M m r) (hz : ¬ tz m) : ∃ M1, pI 1 f m x M = some M1 ∧ Fr (fun a => a = m) M M1 ∧ MsR M1 m (r.1, fset r.2 f x) := by
  obtain ⟨h1, ⟨i1, i2, i3, i4, i5, i6⟩, y, h3, h4⟩ := h
  refine ⟨sI M (up2 (mI M) m f x), by simp only [pI, h1, ↓reduceIte], andD (fq_I M f x hz) (fun F => ⟨h1, ?_, y, h3, h4.gr F.gr⟩)⟩
  simp only [sI_mI, sI_mL, sI_mF, sI_mR, sI_mK, sI_mN, sI_mC, sI_mS, sL_mI, sL_mL, sL_mF, sL_mR, sL_mK, sL_mN, sL_mC, sL_mS, sF_mI, sF_mL, sF_mF, sF_mR, sF_mK, sF_mN, sF_mC, sF_mS, sR_mI, sR_mL, sR_mF, sR_mR, sR_mK, sR_mN, sR_mC, sR_mS, up2, fset, true_and, i1, i2, i3, i4, i5, i6, and_self]
theorem BaR_clock {M : Mem} {S : Nat} {sc : Nat → Int32} (h : BaR M S sc) : gI 7 9 S M = some (sc 14) := by simp only [gI, h.1.1, h.2.1, ↓reduceIte]
theorem BaR_inc {M : Mem} {S i : Nat} {sc : Nat → Int32} (h : BaR M S sc) (hS : 5 ≤ S ∧ S + 450 ≤ 908) (hi : i < 10) : aI 13 (S + 445) (nW i) M = some (sc i) ∧ ∃ M1, wI 13 (S + 445) (nW i) (sc i + nW 1) M = some M1 ∧ Fr (fun a => a = S + 445) M M1 ∧ BaR M1 S (tot sc i) := by
  obtain ⟨F, B⟩ := BaR_tot h hS hi
  refine ⟨?_, _, ?_, F, B⟩
  · simp (disch := omega) only [aI, h.2.2.2.2.1.1, ↓reduceIte, ix_nW, Option.map_some, h.2.2.2.2.1.2 i hi]
  · simp (disch := omega) only [wI, h.2.2.2.2.1.1, ↓reduceIte, ix_nW, Option.map_some, nar13]
theorem PaR_send {M M' : Mem} {S C : Nat} {g : GS} {r : Row} {m : Nat → Prop} (hC : inS S C) (h : PaR M S C g) (F : Fr (fun a => m a ∨ a = C ∨ (C + 2 ≤ a ∧ a < C + 34) ∨ a = S + 445) M M') (hm : ∀ a, a = C + 34 ∨ (C + 43 ≤ a ∧ a < C + 50) → ¬ m a) (hB : BaR M' S (spSend g r).1) (hO : ClO M' C (spSend g r).2) (hQ : QuR M' (C + 2) (cL (spSend g r).2 0)) : PaR M' S C (spSend g r) := by
  obtain ⟨hC1, hC2⟩ := hC
  refine ⟨hB, hO, hQ, SeO_send (h.2.2.2.1.gr F.gr ?_), ?_⟩
  · have := hm (C + 34) (Or.inl rfl)
    rintro (h | h | h | h) <;> first | exact this h | omega
  · rw [spSend_L _ _ (by decide)]
    refine h.2.2.2.2.gr F.gr (fun a h1 h2 => ?_)
    have := hm a (Or.inr ⟨by omega, by omega⟩)
    rintro (h | h | h | h) <;> first | exact this h | omega
theorem Pa_sign {M : Mem} {S C : Nat} {g : GS} (kind id : Int32) (hC : inS S C) (h : PaR M S C g) : ∃ M', f_X7_sendSign S C kind id M = some M' ∧ Fr (PaW S C) M M' ∧ PaR M' S C (spSend g (mkPk [] kind id (nW 0) (nW 0) (nW 0))) := by
  obtain ⟨M', e, F, B, O, Q⟩ := X7_sendSign kind id hC.1 hC.2 h.1 h.2.1 h.2.2.1
  refine ⟨M', e, F.mono (fun a ha => by simp only [PaW]; omega), ?_⟩
  exact PaR_send (m := fun _ => False) hC h (F.mono (fun a ha => Or.inr ha)) (fun _ _ h => h) B O Q
theorem Pa_msg {M : Mem} {S C m : Nat} {g : GS} {r : Row} (fl : Int32) (hC : inS S C) (h : PaR M S C g) (hm : MsR M m r) (hd : ¬ PaZ S C m ∧ ¬ tz m) : ∃ M', f_X7_sendMessage S C m fl M = some M' ∧ Fr (fun a => a = m ∨ PaW S C a) M M' ∧ MsR M' m (setSent r (g.1 14)) ∧ PaR M' S C (spSend g (mkPk r.1 (nW 0) (r.2 4) (r.2 1) (r.2 2) (r.2 3 + fl))) := by
  simp only [PaZ] at hd
  obtain ⟨M', e, F, R, B, O, Q⟩ := X7_sendMessage fl hC.1 hC.2 h.1 h.2.1 h.2.2.1 hm (by obtain ⟨h1, h2⟩ := hd; exact ⟨by omega, by omega, by omega, by omega, by omega, by omega, h2⟩)
  refine ⟨M', e, F.mono (fun a ha => by simp only [PaW]; omega), R, ?_⟩
  exact PaR_send (m := fun a => a = m) hC h F (fun a ha hb => by omega) B O Q
/-! A message gets in flight -/
def rowFly (r : Row) (n : Nat) (t : Int32) : Row := setSent (r.1, fset (fset r.2 4 (nW n)) 5 (if r.2 1 = nW 1 then nW 1 else nW 2)) t
def pkFly (r : Row) (n : Nat) : Row := mkPk r.1 (nW 0) (nW n) (r.2 1) (r.2 2) (r.2 3 + nW 0)
def spFly (g : GS) (r : Row) : GS := ((spSend g (pkFly r (cN g.2))).1, uN (uL (spSend g (pkFly r (cN g.2))).2 1 (lpush (cL g.2 1) (rowFly r (cN g.2) (g.1 14)))) (spStep (lpush (cL g.2 1) (rowFly r (cN g.2) (g.1 14))) 50 (cN g.2)))
theorem Pa_add {M : Mem} {S C m : Nat} {g : GS} {r : Row} (hC : inS S C) (h : PaR M S C g) (hm : MsR M m r) (hd : m < C + 43 ∨ C + 50 ≤ m) (hn : (cL g.2 1).1 < 5) : ∃ M', f_X2_add (C + 43) m M = some M' ∧ Fr (PaW S C) M M' ∧ PaR M' S C (g.1, uL g.2 1 (lpush (cL g.2 1) r)) := by
  obtain ⟨h1, h2, h3, h4, h5⟩ := h
  obtain ⟨⟨hC1, hC2⟩, hC3, hC4⟩ := hC
  obtain ⟨M', e, F, R⟩ := X2_add h5 (by omega) hn hm (by omega)
  refine ⟨M', e, F.mono (fun a ha => by simp only [PaW]; omega), h1.gr F.gr (by omega), h2.gr F.gr (by omega), ?_, ?_, ?_⟩
  · simp (disch := omega) only [uB_B, uB_I, uB_F, uB_W, uB_K, uB_N, uB_L, uI_B, uI_I, uI_F, uI_W, uI_K, uI_N, uI_L, uF_B, uF_I, uF_F, uF_W, uF_K, uF_N, uF_L, uW_B, uW_I, uW_F, uW_W, uW_K, uW_N, uW_L, uK_B, uK_I, uK_F, uK_W, uK_K, uK_N, uK_L, uN_B, uN_I, uN_F, uN_W, uN_K, uN_N, uN_L, uL_B, uL_I, uL_F, uL_W, uL_K, uL_N, uL_L, fset_ne]
    exact h3.gr F.gr (by intro a _ _; omega)
  · have := h4.gr F.gr (show ¬ (C + 43 ≤ C + 34 ∧ C + 34 < C + 43 + 2 + 5) by omega)
    unfold SeO at this ⊢
    simp (disch := omega) only [uB_B, uB_I, uB_F, uB_W, uB_K, uB_N, uB_L, uI_B, uI_I, uI_F, uI_W, uI_K, uI_N, uI_L, uF_B, uF_I, uF_F, uF_W, uF_K, uF_N, uF_L, uW_B, uW_I, uW_F, uW_W, uW_K, uW_N, uW_L, uK_B, uK_I, uK_F, uK_W, uK_K, uK_N, uK_L, uN_B, uN_I, uN_F, uN_W, uN_K, uN_N, uN_L, uL_B, uL_I, uL_F, uL_W, uL_K, uL_N, uL_L, fset_ne] at this ⊢
    exact this
  · simp only [uB_B, uB_I, uB_F, uB_W, uB_K, uB_N, uB_L, uI_B, uI_I, uI_F, uI_W, uI_K, uI_N, uI_L, uF_B, uF_I, uF_F, uF_W, uF_K, uF_N, uF_L, uW_B, uW_I, uW_F, uW_W, uW_K, uW_N, uW_L, uK_B, uK_I, uK_F, uK_W, uK_K, uK_N, uK_L, uN_B, uN_I, uN_F, uN_W, uN_K, uN_N, uN_L, uL_B, uL_I, uL_F, uL_W, uL_K, uL_N, uL_L, fset_eq]; exact R
theorem Pa_step {M : Mem} {S C : Nat} {g : GS} (hC : inS S C) (h : PaR M S C g) : ∃ M', f_X5_stepIdentifier (C + 34) M = some M' ∧ Fr (PaW S C) M M' ∧ PaR M' S C (g.1, uN g.2 (spStep (cL g.2 1) 50 (cN g.2))) := by
  obtain ⟨h1, h2, h3, h4, h5⟩ := h
  obtain ⟨⟨hC1, hC2⟩, hC3, hC4⟩ := hC
  obtain ⟨M', e, F, R⟩ := X5_stepIdentifier (by omega) h4 h5
  exact ⟨M', e, F.mono (fun a ha => by simp only [PaW]; omega), h1.gr F.gr (by omega), h2.gr F.gr (by omega), h3.gr F.gr (by intro a _ _; omega), R, h5.gr F.gr (by intro a _ _; omega)⟩
theorem Pa_fly {M : Mem} {S C m : Nat} {g : GS} {r : Row} (hC : inS S C) (h : PaR M S C g) (hm : MsR M m r) (hd : ¬ PaZ S C m ∧ ¬ tz m) (hn : (cL g.2 1).1 < 5) : ∃ M' r', f_X7_startFlight S C m M = some M' ∧ Fr (fun a => a = m ∨ PaW S C a) M M' ∧ MsR M' m r' ∧ PaR M' S C (spFly g r) := by
  have hd' := hd
  simp only [PaZ] at hd'
  have off : ∀ a, PaZ S C a → ¬ a = m := fun a h1 h2 => hd.1 (h2 ▸ h1)
  obtain ⟨M1, e1, F1, R1⟩ := MsR_put 4 (nW (cN g.2)) hm hd.2
  have P1 := h.gr F1.gr off
  have g1 : gI 1 1 m M1 = some (r.2 1) := by
    have := R1.2.1.1
    simp (disch := omega) only [fset_ne] at this
    simp only [gI, R1.1, this, ↓reduceIte]
  obtain ⟨M2, e2, F2, R2⟩ := MsR_put 5 (if r.2 1 = nW 1 then nW 1 else nW 2) R1 hd.2
  have P2 := P1.gr F2.gr off
  obtain ⟨M3, e3, F3, R3, P3⟩ := Pa_msg (nW 0) hC P2 R2 hd
  have hn3 : (cL (spSend g (pkFly r (cN g.2))).2 1).1 < 5 := by rw [spSend_L _ _ (by decide)]; exact hn
  have ek : mkPk r.1 (nW 0) ((fset (fset r.2 4 (nW (cN g.2))) 5 (if r.2 1 = nW 1 then nW 1 else nW 2)) 4) ((fset (fset r.2 4 (nW (cN g.2))) 5 (if r.2 1 = nW 1 then nW 1 else nW 2)) 1) ((fset (fset r.2 4 (nW (cN g.2))) 5 (if r.2 1 = nW 1 then nW 1 else nW 2)) 2) ((fset (fset r.2 4 (nW (cN g.2))) 5 (if r.2 1 = nW 1 then nW 1 else nW 2)) 3 + nW 0) = pkFly r (cN g.2) := by
    simp (disch := omega) only [fset_ne, fset_eq, pkFly]
  simp only [ek] at P3
  obtain ⟨M4, e4, F4, P4⟩ := Pa_add hC P3 R3 (by omega) hn3
  obtain ⟨M5, e5, F5, P5⟩ := Pa_step hC P4
  have k7 := h.1.1.1
  have k0 := h.2.1.1.1
  have k5 := h.2.1.1.2.2.2
  have k3 : gI 5 3 (C + 34) M = some (nW (cN g.2)) := by simp only [gI, h.2.2.2.1.1.1, h.2.2.2.1.2.2.2.2.1, ↓reduceIte]
  have k8 : gR 5 8 (C + 34) M3 = some (C + 43) := by simp only [gR, P3.2.2.2.1.1.1, P3.2.2.2.1.1.2.2.2.1, ↓reduceIte]
  have k05 : gR 0 5 C M = some (C + 34) := by simp only [gR, k0, k5, ↓reduceIte]
  have off5 : ∀ a, PaW S C a → ¬ a = m := fun a h1 h2 => by subst h2; simp only [PaW] at h1; omega
  refine ⟨M5, _, ?_, ?_, (R3.gr F4.gr (fun hh => off5 _ hh rfl)).gr F5.gr (fun hh => off5 _ hh rfl), ?_⟩
  · by_cases hg : r.2 1 = nW 1
    · simp only [hg, ↓reduceIte] at e2 e3
      simp only [f_X7_startFlight, f_X7_startFlight_J27, nW_lit, k7, ↓reduceIte, k05, Option.bind_some, k3, e1, g1, hg, e2, e3, k8, e4, e5]
    · simp only [hg, ↓reduceIte] at e2 e3
      simp only [f_X7_startFlight, f_X7_startFlight_J27, nW_lit, k7, ↓reduceIte, k05, Option.bind_some, k3, e1, g1, hg, e2, e3, k8, e4, e5]
  · exact (F1.tr (F2.tr (F3.tr (F4.tr F5 (R := PaW S C) (fun _ h => h) (fun _ h => h)) (R := fun a => a = m ∨ PaW S C a) (fun _ h => h) (fun _ h => Or.inr h)) (R := fun a => a = m ∨ PaW S C a) (fun _ h => Or.inl h) (fun _ h => h)) (fun _ h => Or.inl h) (fun _ h => h))
  · simp only [spSend_L _ _ (show (1 : Nat) ≠ 0 by decide), spSend_N, uB_B, uB_I, uB_F, uB_W, uB_K, uB_N, uB_L, uI_B, uI_I, uI_F, uI_W, uI_K, uI_N, uI_L, uF_B, uF_I, uF_F, uF_W, uF_K, uF_N, uF_L, uW_B, uW_I, uW_F, uW_W, uW_K, uW_N, uW_L, uK_B, uK_I, uK_F, uK_W, uK_K, uK_N, uK_L, uN_B, uN_I, uN_F, uN_W, uN_K, uN_N, uN_L, uL_B, uL_I, uL_F, uL_W, uL_K, uL_N, uL_L, fset_eq] at P5
    simp only [spFly, rowFly, uB_B, uB_I, uB_F, uB_W, uB_K, uB_N, uB_L, uI_B, uI_I, uI_F, uI_W, uI_K, uI_N, uI_L, uF_B, uF_I, uF_F, uF_W, uF_K, uF_N, uF_L, uW_B, uW_I, uW_F, uW_W, uW_K, uW_N, uW_L, uK_B, uK_I, uK_F, uK_W, uK_K, uK_N, uK_L, uN_B, uN_I, uN_F, uN_W, uN_K, uN_N, uN_L, uL_B, uL_I, uL_F, uL_W, uL_K, uL_N, uL_L]
    exact P5
