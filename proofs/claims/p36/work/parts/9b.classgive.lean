/-! GIVING, in the class: one client with the scalars -/
def CR (M : Mem) (S C : Nat) (g : GS) : Prop := BaR M S g.1 ∧ ClR M C g.2
def CZ (S C a : Nat) : Prop := (C ≤ a ∧ a < C + 60) ∨ a = S + 445 ∨ a = S + 449
theorem CR.gr {P : Nat → Prop} {M M' : Mem} (g : Gr P M M') {S C : Nat} {G : GS} (h1 : ¬ P S ∧ ¬ P (S + 1) ∧ ¬ P (S + 444) ∧ ¬ P (S + 445)) (h2 : ∀ b, C ≤ b → b < C + 60 → ¬ P b) (h : CR M S C G) : CR M' S C G := ⟨h.1.gr g h1, h.2.gr g h2⟩
theorem CR_pa {M : Mem} {S C : Nat} {g : GS} (h : CR M S C g) : PaR M S C g := ⟨h.1, h.2.1, h.2.2.2.1, h.2.2.2.2.1, h.2.2.2.2.2.2.2.1⟩
def Kp (x x' : Cl) : Prop := cW x' = cW x ∧ cK x' = cK x ∧ cL x' 2 = cL x 2 ∧ cL x' 3 = cL x 3
theorem Kp_send (g : GS) (r : Row) : Kp g.2 (spSend g r).2 := ⟨spSend_W _ _, spSend_K _ _, spSend_L _ _ (by decide), spSend_L _ _ (by decide)⟩
theorem Kp_fly (g : GS) (r : Row) : Kp g.2 (spFly g r).2 := ⟨spFly_W _ _, spFly_K _ _, spFly_L2 _ _ (by decide) (by decide), spFly_L2 _ _ (by decide) (by decide)⟩
theorem CR_of {M M' : Mem} {S C : Nat} {g g' : GS} {Q : Nat → Prop} (h : CR M S C g) (F : Gr (fun a => Q a ∨ PaW S C a) M M') (hQ : ∀ a, C ≤ a → a < C + 60 → ¬ Q a) (hC : inS S C) (P : PaR M' S C g') (K : Kp g.2 g'.2) : CR M' S C g' := by
  obtain ⟨hB, hO, hW, hq, hE, hK, hS, hF, hP⟩ := h
  obtain ⟨pB, pO, pQ, pE, pF⟩ := P
  obtain ⟨k1, k2, k3, k4⟩ := K
  obtain ⟨⟨c1, c2⟩, c3, c4⟩ := hC
  have off : ∀ a, C ≤ a → a < C + 60 → ¬ PaW S C a → ¬ (Q a ∨ PaW S C a) := fun a h1 h2 h3 h4 => h4.elim (hQ a h1 h2) h3
  refine ⟨pB, pO, ?_, pQ, pE, ?_, ?_, pF, ?_⟩
  · rw [k1]; exact hW.gr F (off _ (by omega) (by omega) (by unfold PaW; omega))
  · rw [k2]; exact hK.gr F (off _ (by omega) (by omega) (by unfold PaW; omega))
  · rw [k4]; exact hS.gr F (fun b h1 h2 => off _ (by omega) (by omega) (by unfold PaW; omega))
  · rw [k3]; exact hP.gr F (fun b h1 h2 => off _ (by omega) (by omega) (by unfold PaW; omega))
theorem PaW_CZ {S C a : Nat} (h : PaW S C a) : CZ S C a := by unfold PaW at h; unfold CZ; omega
theorem CR_inc {M : Mem} {S C i : Nat} {g : GS} (h : CR M S C g) (hC : inS S C) (hi : i < 10) : aI 13 (S + 445) (nW i) M = some (g.1 i) ∧ ∃ M1, wI 13 (S + 445) (nW i) (g.1 i + nW 1) M = some M1 ∧ Fr (CZ S C) M M1 ∧ CR M1 S C (tot g.1 i, g.2) := by
  obtain ⟨e1, M1, e2, F, B⟩ := BaR_inc h.1 hC.1 hi
  obtain ⟨⟨c1, c2⟩, c3, c4⟩ := hC
  exact ⟨e1, M1, e2, F.mono (fun a ha => Or.inr (Or.inl ha)), B, h.2.gr F.gr (by omega)⟩
theorem MsR_ext {M : Mem} {m : Nat} {r r' : Row} (h : MsR M m r) (h1 : r'.1 = r.1) (h2 : ∀ i, 1 ≤ i → i ≤ 6 → r'.2 i = r.2 i) : MsR M m r' := by
  obtain ⟨a, ⟨b1, b2, b3, b4, b5, b6⟩, x, c, d⟩ := h
  exact ⟨a, ⟨by rw [h2 1 (by omega) (by omega)]; exact b1, by rw [h2 2 (by omega) (by omega)]; exact b2, by rw [h2 3 (by omega) (by omega)]; exact b3, by rw [h2 4 (by omega) (by omega)]; exact b4, by rw [h2 5 (by omega) (by omega)]; exact b5, by rw [h2 6 (by omega) (by omega)]; exact b6⟩, x, c, by rw [h1]; exact d⟩
theorem MLR_rowP {M : Mem} {l lim : Nat} {x : Ls Row} (h : MLR M l lim x) {j : Nat} (hj : j < x.1) : ∃ a, mR M (l + 1) j = some a ∧ (l + 2 ≤ a ∧ a < l + 2 + lim) ∧ MsR M a (x.2 j) ∧ ∀ P M' r, Gr P M M' → (∀ b, l ≤ b → b < l + 2 + lim → b ≠ a → ¬ P b) → MsR M' a r → MLR M' l lim (lset x j r) := by
  obtain ⟨⟨h1, h2⟩, h3, h4, p, h5, h6⟩ := h
  have h7 := h5.2.1 j (by omega)
  refine ⟨p j, h7.1, h7.2.2, h6 j hj, fun P M' r G hP hr => ?_⟩
  have k1 : (mK M l).1 ≠ 99 := by rw [h1]; decide
  obtain ⟨a1, a2, a3, a4⟩ := G.2 l k1 (Or.inr (hP l (by omega) (by omega) (by omega)))
  refine ⟨⟨by rw [G.1 l k1]; exact h1, by rw [a4]; exact h2⟩, h3, by rw [a1]; exact h4, p, h5.gr G (by decide) (by decide) (hP _ (by omega) (by omega) (by omega)), fun i hi => ?_⟩
  have hi' : i < x.1 := hi
  by_cases he : i = j
  · subst he; simp only [lset, ↓reduceIte]; exact hr
  · simp only [lset, he, ↓reduceIte]
    have h8 := h5.2.1 i (by omega)
    exact (h6 i hi').gr G (hP _ (by omega) (by omega) (fun hh => he (h5.2.2 i j (by omega) (by omega) hh)))
theorem ldel_lset {α : Type} (x : Ls α) (r : α) : ldel (lset x 0 r) 0 = ldel x 0 := by
  simp only [ldel, lset, Prod.mk.injEq, true_and]
  funext j
  have : ¬ j + 1 = 0 := by omega
  simp only [Nat.not_lt_zero, ↓reduceIte, this]
theorem MLR_cnt {M : Mem} {l lim : Nat} {x : Ls Row} (h : MLR M l lim x) : gI 2 1 l M = some (nW x.1) := by simp only [gI, h.1.1, h.2.2.1, ↓reduceIte]
theorem MLR_arr {M : Mem} {l lim : Nat} {x : Ls Row} (h : MLR M l lim x) : gR 2 0 l M = some (l + 1) := by simp only [gR, h.1.1, h.1.2, ↓reduceIte]
theorem MLR_at {M : Mem} {l lim : Nat} {x : Ls Row} (h : MLR M l lim x) (hl : lim < 1000) {j a : Nat} (hj : j < lim) (ha : mR M (l + 1) j = some a) : aR 19 (l + 1) (nW j) M = some a := by
  obtain ⟨_, _, _, p, h5, _⟩ := h
  simp only [aR, h5.1, ↓reduceIte, ix_nW hj (by omega), Option.bind_some, ha]
theorem SeO_L2 {M : Mem} {s : Nat} {c : Cl} (l : Ls Row) (h : SeO M s c) : SeO M s (uL c 2 l) := by
  unfold SeO at *
  simp only [uB_B, uB_I, uB_F, uB_W, uB_K, uB_N, uB_L, uI_B, uI_I, uI_F, uI_W, uI_K, uI_N, uI_L, uF_B, uF_I, uF_F, uF_W, uF_K, uF_N, uF_L, uW_B, uW_I, uW_F, uW_W, uW_K, uW_N, uW_L, uK_B, uK_I, uK_F, uK_W, uK_K, uK_N, uK_L, uN_B, uN_I, uN_F, uN_W, uN_K, uN_N, uN_L, uL_B, uL_I, uL_F, uL_W, uL_K, uL_N, uL_L, fset_ne _ _ (show (3 : Nat) ≠ 2 by omega)]; exact h
theorem CR_L2 {M : Mem} {S C : Nat} {g : GS} {l : Ls Row} (h : CR M S C g) (hl : MLR M (C + 50) 8 l) : CR M S C (g.1, uL g.2 2 l) := by
  obtain ⟨hB, hO, hW, hq, hE, hK, hS, hF, hP⟩ := h
  refine ⟨hB, hO, hW, ?_, SeO_L2 l hE, hK, ?_, ?_, ?_⟩
  · simp only [uB_B, uB_I, uB_F, uB_W, uB_K, uB_N, uB_L, uI_B, uI_I, uI_F, uI_W, uI_K, uI_N, uI_L, uF_B, uF_I, uF_F, uF_W, uF_K, uF_N, uF_L, uW_B, uW_I, uW_F, uW_W, uW_K, uW_N, uW_L, uK_B, uK_I, uK_F, uK_W, uK_K, uK_N, uK_L, uN_B, uN_I, uN_F, uN_W, uN_K, uN_N, uN_L, uL_B, uL_I, uL_F, uL_W, uL_K, uL_N, uL_L, fset_ne _ _ (show (0 : Nat) ≠ 2 by omega)]; exact hq
  · simp only [uB_B, uB_I, uB_F, uB_W, uB_K, uB_N, uB_L, uI_B, uI_I, uI_F, uI_W, uI_K, uI_N, uI_L, uF_B, uF_I, uF_F, uF_W, uF_K, uF_N, uF_L, uW_B, uW_I, uW_F, uW_W, uW_K, uW_N, uW_L, uK_B, uK_I, uK_F, uK_W, uK_K, uK_N, uK_L, uN_B, uN_I, uN_F, uN_W, uN_K, uN_N, uN_L, uL_B, uL_I, uL_F, uL_W, uL_K, uL_N, uL_L, fset_ne _ _ (show (3 : Nat) ≠ 2 by omega)]; exact hS
  · simp only [uB_B, uB_I, uB_F, uB_W, uB_K, uB_N, uB_L, uI_B, uI_I, uI_F, uI_W, uI_K, uI_N, uI_L, uF_B, uF_I, uF_F, uF_W, uF_K, uF_N, uF_L, uW_B, uW_I, uW_F, uW_W, uW_K, uW_N, uW_L, uK_B, uK_I, uK_F, uK_W, uK_K, uK_N, uK_L, uN_B, uN_I, uN_F, uN_W, uN_K, uN_N, uN_L, uL_B, uL_I, uL_F, uL_W, uL_K, uL_N, uL_L, fset_ne _ _ (show (1 : Nat) ≠ 2 by omega)]; exact hF
  · simp only [uB_B, uB_I, uB_F, uB_W, uB_K, uB_N, uB_L, uI_B, uI_I, uI_F, uI_W, uI_K, uI_N, uI_L, uF_B, uF_I, uF_F, uF_W, uF_K, uF_N, uF_L, uW_B, uW_I, uW_F, uW_W, uW_K, uW_N, uW_L, uK_B, uK_I, uK_F, uK_W, uK_K, uK_N, uK_L, uN_B, uN_I, uN_F, uN_W, uN_K, uN_N, uN_L, uL_B, uL_I, uL_F, uL_W, uL_K, uL_N, uL_L, fset_eq]; exact hl
theorem CR_L2gr {P : Nat → Prop} {M M' : Mem} {S C : Nat} {g : GS} {l : Ls Row} (G : Gr P M M') (h : CR M S C g) (hC : inS S C) (hP : ∀ a, PaZ S C a ∨ a = C + 1 ∨ (C + 35 ≤ a ∧ a < C + 43) → ¬ P a) (hl : MLR M' (C + 50) 8 l) : CR M' S C (g.1, uL g.2 2 l) := by
  obtain ⟨hB, hO, hW, hq, hE, hK, hS, hF, hp⟩ := h
  simp only [PaZ] at hP
  refine ⟨hB.gr G ⟨hP _ (by omega), hP _ (by omega), hP _ (by omega), hP _ (by omega)⟩, hO.gr G (hP _ (by omega)), hW.gr G (hP _ (by omega)), ?_, (SeO_L2 l hE).gr G (hP _ (by omega)), hK.gr G (hP _ (by omega)), ?_, ?_, ?_⟩
  · simp only [uB_B, uB_I, uB_F, uB_W, uB_K, uB_N, uB_L, uI_B, uI_I, uI_F, uI_W, uI_K, uI_N, uI_L, uF_B, uF_I, uF_F, uF_W, uF_K, uF_N, uF_L, uW_B, uW_I, uW_F, uW_W, uW_K, uW_N, uW_L, uK_B, uK_I, uK_F, uK_W, uK_K, uK_N, uK_L, uN_B, uN_I, uN_F, uN_W, uN_K, uN_N, uN_L, uL_B, uL_I, uL_F, uL_W, uL_K, uL_N, uL_L, fset_ne _ _ (show (0 : Nat) ≠ 2 by omega)]; exact hq.gr G (fun b _ _ => hP _ (by omega))
  · simp only [uB_B, uB_I, uB_F, uB_W, uB_K, uB_N, uB_L, uI_B, uI_I, uI_F, uI_W, uI_K, uI_N, uI_L, uF_B, uF_I, uF_F, uF_W, uF_K, uF_N, uF_L, uW_B, uW_I, uW_F, uW_W, uW_K, uW_N, uW_L, uK_B, uK_I, uK_F, uK_W, uK_K, uK_N, uK_L, uN_B, uN_I, uN_F, uN_W, uN_K, uN_N, uN_L, uL_B, uL_I, uL_F, uL_W, uL_K, uL_N, uL_L, fset_ne _ _ (show (3 : Nat) ≠ 2 by omega)]; exact hS.gr G (fun b _ _ => hP _ (by omega))
  · simp only [uB_B, uB_I, uB_F, uB_W, uB_K, uB_N, uB_L, uI_B, uI_I, uI_F, uI_W, uI_K, uI_N, uI_L, uF_B, uF_I, uF_F, uF_W, uF_K, uF_N, uF_L, uW_B, uW_I, uW_F, uW_W, uW_K, uW_N, uW_L, uK_B, uK_I, uK_F, uK_W, uK_K, uK_N, uK_L, uN_B, uN_I, uN_F, uN_W, uN_K, uN_N, uN_L, uL_B, uL_I, uL_F, uL_W, uL_K, uL_N, uL_L, fset_ne _ _ (show (1 : Nat) ≠ 2 by omega)]; exact hF.gr G (fun b _ _ => hP _ (by omega))
  · simp only [uB_B, uB_I, uB_F, uB_W, uB_K, uB_N, uB_L, uI_B, uI_I, uI_F, uI_W, uI_K, uI_N, uI_L, uF_B, uF_I, uF_F, uF_W, uF_K, uF_N, uF_L, uW_B, uW_I, uW_F, uW_W, uW_K, uW_N, uW_L, uK_B, uK_I, uK_F, uK_W, uK_K, uK_N, uK_L, uN_B, uN_I, uN_F, uN_W, uN_K, uN_N, uN_L, uL_B, uL_I, uL_F, uL_W, uL_K, uL_N, uL_L, fset_eq]; exact hl
theorem C_may {M : Mem} {S C : Nat} {g : GS} (h : CR M S C g) : f_X7_mayStart S C M = some (zI (spMay g), M) := X7_mayStart h.1 h.2.1 h.2.2.2.2.1 h.2.2.2.2.2.2.2.1
theorem C_pend_L10 {S C : Nat} (hC : inS S C) : ∀ n i M g, i ≤ 8 → 8 - i < n → CR M S C g → GI g → ∃ M', f_X7_startPending_L10 n S C (C + 50) (nW i) M = some M' ∧ Fr (CZ S C) M M' ∧ CR M' S C (spPend (8 - i) g)
  | 0, i, M, g, _, hn, _, _ => absurd hn (by omega)
  | n + 1, i, M, g, hi, hn, h, hG => by
    have hmay := C_may h
    have hP := h.2.2.2.2.2.2.2.2
    have hcnt := MLR_cnt hP
    have l3 := hG.2.1.2.2.1
    by_cases he : i = 8
    · subst he
      exact ⟨M, by simp (disch := omega) only [f_X7_startPending_L10, nW_lit, nW_le, Nat.le_refl, ↓reduceIte], Fr.refl _ _, h⟩
    · have n1 : ¬ 8 ≤ i := by omega
      rw [show 8 - i = (8 - (i + 1)) + 1 by omega, spPend]
      by_cases hp : 0 < (cL g.2 2).1
      · have np : ¬ (cL g.2 2).1 ≤ 0 := by omega
        cases hm : spMay g with
        | false =>
          rw [hm, zI_f] at hmay
          refine ⟨M, ?_, Fr.refl _ _, by rw [if_neg (fun hh => absurd hh.2 (by decide))]; exact h⟩
          simp (disch := omega) only [f_X7_startPending_L10, nW_lit, nW_le, n1, ↓reduceIte, hcnt, Option.bind_some, np, hmay, bindP]
        | true =>
          rw [hm, zI_t] at hmay
          have t1 : ¬ nW 1 = nW 0 := by decide
          obtain ⟨hon, hfl⟩ := GI_may hG hm
          have og := hG.2.2.2.2.2.2.2.1 0 hp
          obtain ⟨a, e1, ⟨a1, a2⟩, R, back⟩ := MLR_rowP hP hp
          have hcC := hC
          obtain ⟨⟨c1, c2⟩, c3, c4⟩ := hC
          obtain ⟨M1, r1, e2, F1, R1, P1⟩ := Pa_fly hcC (CR_pa h) R ⟨by unfold PaZ; omega, by simp only [tz]; omega⟩ hfl
          have L1 := back _ M1 r1 F1.gr (fun b h1 h2 h3 h4 => by rcases h4 with h4 | h4; exact h3 h4; unfold PaW at h4; omega) R1
          have hP1 : CR M1 S C ((spFly g ((cL g.2 2).2 0)).1, uL (spFly g ((cL g.2 2).2 0)).2 2 (lset (cL g.2 2) 0 r1)) := by
            obtain ⟨hB, hO, hW, hq, hE, hK, hS, hF, _⟩ := h
            obtain ⟨pB, pO, pQ, pE, pF⟩ := P1
            have K := Kp_fly g ((cL g.2 2).2 0)
            have off : ∀ b, C ≤ b → b < C + 50 → ¬ PaW S C b → ¬ (b = a ∨ PaW S C b) := fun b h1 h2 h3 h4 => h4.elim (by omega) h3
            refine ⟨pB, pO, ?_, ?_, SeO_L2 _ pE, ?_, ?_, ?_, ?_⟩
            · simp only [uB_B, uB_I, uB_F, uB_W, uB_K, uB_N, uB_L, uI_B, uI_I, uI_F, uI_W, uI_K, uI_N, uI_L, uF_B, uF_I, uF_F, uF_W, uF_K, uF_N, uF_L, uW_B, uW_I, uW_F, uW_W, uW_K, uW_N, uW_L, uK_B, uK_I, uK_F, uK_W, uK_K, uK_N, uK_L, uN_B, uN_I, uN_F, uN_W, uN_K, uN_N, uN_L, uL_B, uL_I, uL_F, uL_W, uL_K, uL_N, uL_L]; rw [K.1]; exact hW.gr F1.gr (off _ (by omega) (by omega) (by unfold PaW; omega))
            · simp only [uB_B, uB_I, uB_F, uB_W, uB_K, uB_N, uB_L, uI_B, uI_I, uI_F, uI_W, uI_K, uI_N, uI_L, uF_B, uF_I, uF_F, uF_W, uF_K, uF_N, uF_L, uW_B, uW_I, uW_F, uW_W, uW_K, uW_N, uW_L, uK_B, uK_I, uK_F, uK_W, uK_K, uK_N, uK_L, uN_B, uN_I, uN_F, uN_W, uN_K, uN_N, uN_L, uL_B, uL_I, uL_F, uL_W, uL_K, uL_N, uL_L, fset_ne _ _ (show (0 : Nat) ≠ 2 by omega)]; exact pQ
            · simp only [uB_B, uB_I, uB_F, uB_W, uB_K, uB_N, uB_L, uI_B, uI_I, uI_F, uI_W, uI_K, uI_N, uI_L, uF_B, uF_I, uF_F, uF_W, uF_K, uF_N, uF_L, uW_B, uW_I, uW_F, uW_W, uW_K, uW_N, uW_L, uK_B, uK_I, uK_F, uK_W, uK_K, uK_N, uK_L, uN_B, uN_I, uN_F, uN_W, uN_K, uN_N, uN_L, uL_B, uL_I, uL_F, uL_W, uL_K, uL_N, uL_L]; rw [K.2.1]; exact hK.gr F1.gr (off _ (by omega) (by omega) (by unfold PaW; omega))
            · simp only [uB_B, uB_I, uB_F, uB_W, uB_K, uB_N, uB_L, uI_B, uI_I, uI_F, uI_W, uI_K, uI_N, uI_L, uF_B, uF_I, uF_F, uF_W, uF_K, uF_N, uF_L, uW_B, uW_I, uW_F, uW_W, uW_K, uW_N, uW_L, uK_B, uK_I, uK_F, uK_W, uK_K, uK_N, uK_L, uN_B, uN_I, uN_F, uN_W, uN_K, uN_N, uN_L, uL_B, uL_I, uL_F, uL_W, uL_K, uL_N, uL_L, fset_ne _ _ (show (3 : Nat) ≠ 2 by omega)]; rw [K.2.2.2]; exact hS.gr F1.gr (fun b h1 h2 => off _ (by omega) (by omega) (by unfold PaW; omega))
            · simp only [uB_B, uB_I, uB_F, uB_W, uB_K, uB_N, uB_L, uI_B, uI_I, uI_F, uI_W, uI_K, uI_N, uI_L, uF_B, uF_I, uF_F, uF_W, uF_K, uF_N, uF_L, uW_B, uW_I, uW_F, uW_W, uW_K, uW_N, uW_L, uK_B, uK_I, uK_F, uK_W, uK_K, uK_N, uK_L, uN_B, uN_I, uN_F, uN_W, uN_K, uN_N, uN_L, uL_B, uL_I, uL_F, uL_W, uL_K, uL_N, uL_L, fset_ne _ _ (show (1 : Nat) ≠ 2 by omega)]; exact pF
            · simp only [uB_B, uB_I, uB_F, uB_W, uB_K, uB_N, uB_L, uI_B, uI_I, uI_F, uI_W, uI_K, uI_N, uI_L, uF_B, uF_I, uF_F, uF_W, uF_K, uF_N, uF_L, uW_B, uW_I, uW_F, uW_W, uW_K, uW_N, uW_L, uK_B, uK_I, uK_F, uK_W, uK_K, uK_N, uK_L, uN_B, uN_I, uN_F, uN_W, uN_K, uN_N, uN_L, uL_B, uL_I, uL_F, uL_W, uL_K, uL_N, uL_L, fset_eq]; exact L1
          obtain ⟨M2, e3, F2, L2⟩ := X2_removeAt (i := 0) L1 (by omega) hp
          rw [ldel_lset] at L2
          have hP2 := CR_L2gr F2.gr hP1 hcC (fun b hb => by unfold PaZ at hb; omega) L2
          have euL : uL (uL (spFly g ((cL g.2 2).2 0)).2 2 (lset (cL g.2 2) 0 r1)) 2 (ldel (cL g.2 2) 0) = uL (spFly g ((cL g.2 2).2 0)).2 2 (ldel (cL g.2 2) 0) := by
            simp only [uL]; congr 6; funext j
            by_cases e : j = 2
            · subst e; rw [fset_eq, fset_eq]
            · rw [fset_ne _ _ e, fset_ne _ _ e, fset_ne _ _ e]
          simp only [euL] at hP2
          have GI4 := GI_ldel2 (GI_fly hG og hon hfl) 0
          rw [spFly_pend] at GI4
          obtain ⟨M3, e4, F3, G3⟩ := C_pend_L10 hcC n (i + 1) M2 _ (by omega) (by omega) hP2 GI4
          refine ⟨M3, ?_, (F1.tr F2 (R := CZ S C) (fun b hb => ?_) (fun b hb => by unfold CZ; omega)).trans F3, by rw [if_pos ⟨hp, rfl⟩]; exact G3⟩
          · simp (disch := omega) only [f_X7_startPending_L10, nW_lit, nW_le, nW_add, n1, ↓reduceIte, hcnt, Option.bind_some, np, hmay, bindP, t1, MLR_arr hP, MLR_at hP (by omega) (show 0 < 8 by omega) e1, e2, e3, e4]
          · rcases hb with hb | hb
            · unfold CZ; omega
            · exact PaW_CZ hb
      · have np : (cL g.2 2).1 ≤ 0 := by omega
        refine ⟨M, ?_, Fr.refl _ _, by rw [if_neg (fun hh => hp hh.1)]; exact h⟩
        simp (disch := omega) only [f_X7_startPending_L10, nW_lit, nW_le, n1, ↓reduceIte, hcnt, Option.bind_some, np]
theorem CR_k {M : Mem} {S C : Nat} {g : GS} (h : CR M S C g) : (mK M S).1 = 7 ∧ gR 0 5 C M = some (C + 34) ∧ gR 0 4 C M = some (C + 2) ∧ gR 5 9 (C + 34) M = some (C + 50) ∧ gR 5 8 (C + 34) M = some (C + 43) ∧ gI 0 0 C M = some (zI (cB g.2 0)) ∧ gR 7 7 S M = some (S + 445) ∧ gR 7 10 S M = some (S + 449) ∧ gR 7 6 S M = some (S + 444) := by
  obtain ⟨⟨⟨b1, b2, b3, b4, b5, b6, b7, b8, b9⟩, _⟩, ⟨⟨o1, o2, o3, o4⟩, o5, _⟩, _, _, ⟨⟨s1, s2, s3, s4, s5⟩, _⟩, _⟩ := h
  simp only [gR, gI, b1, o1, s1, ↓reduceIte]
  exact ⟨trivial, o4, o3, s5, s4, congrArg some o5, b7, b9, b6⟩
theorem C_pend {M : Mem} {S C : Nat} {g : GS} (hC : inS S C) (h : CR M S C g) (hG : GI g) : ∃ M', f_X7_startPending S C M = some M' ∧ Fr (CZ S C) M M' ∧ CR M' S C (spPend 8 g) := by
  obtain ⟨M', e, F, R⟩ := C_pend_L10 hC FU 0 M g (by omega) (by simp only [FU]; omega) h hG
  obtain ⟨k1, k2, k3, k4, k5, k6, k7, k8, k9⟩ := CR_k h
  exact ⟨M', by simp only [f_X7_startPending, k1, ↓reduceIte, k2, Option.bind_some, k4, nW_lit, e], F, R⟩
