/-! ANSWERS, sending all again -/
def rowRel (r : Row) (t : Int32) : Row := setSent (r.1, fset r.2 5 (nW 4)) t
def spRel (g : GS) (k : Nat) : GS := ((spSignR g (nW 3) (((cL g.2 1).2 k).2 4)).1, uL (spSignR g (nW 3) (((cL g.2 1).2 k).2 4)).2 1 (lset (cL g.2 1) k (rowRel ((cL g.2 1).2 k) (g.1 14))))
def spEnd (g : GS) (k : Nat) : GS := spPend 8 (tot g.1 9, uL g.2 1 (ldel (cL g.2 1) k))
def flAt (g : GS) (id : Int32) : Option Nat := ffind (fun j => decide (((cL g.2 1).2 j).2 4 = id)) (cL g.2 1).1 0
def spAnsAt (g : GS) (kind : Int32) (k : Nat) : Bool × GS := if kind = nW 2 ∧ ((cL g.2 1).2 k).2 1 = nW 2 then (true, spRel g k) else if ((cL g.2 1).2 k).2 5 = kind then (true, spEnd g k) else (false, g)
def spAns (g : GS) (kind id : Int32) : Bool × GS := match flAt g id with
  | none => (false, g)
  | some k => spAnsAt g kind k
def spResN : Nat → Nat → GS → GS
  | 0, _, g => g
  | n + 1, i, g => spResN n (i + 1) (spResend g i)
def spLate : Nat → Nat → GS → GS
  | 0, _, g => g
  | n + 1, i, g => spLate n (i + 1) (if g.1 11 ≤ g.1 14 - ((cL g.2 1).2 i).2 6 then spResend g i else g)
theorem flAt_some {g : GS} {id : Int32} {k : Nat} (h : flAt g id = some k) : k < (cL g.2 1).1 ∧ ((cL g.2 1).2 k).2 4 = id := by
  obtain ⟨_, h2, h3, _⟩ := ffind_some h
  exact ⟨by omega, of_decide_eq_true h3⟩
theorem GI_lset {g : GS} {k : Nat} {r : Row} (h : GI g) (hk : k < (cL g.2 1).1) (hr : okF r) (hid : r.2 4 = ((cL g.2 1).2 k).2 4) : GI (g.1, uL g.2 1 (lset (cL g.2 1) k r)) := by
  obtain ⟨h1, ⟨l1, l2, l3, l4⟩, h3, h4, h5, h6, h7, h8, h9, h10⟩ := h
  have ids : ∀ j, (((lset (cL g.2 1) k r).2 j).2 4) = ((cL g.2 1).2 j).2 4 := by
    intro j; simp only [lset]
    by_cases e : j = k
    · subst e; simp only [↓reduceIte, hid]
    · simp only [e, ↓reduceIte]
  unfold GI
  simp only [uB_B, uB_I, uB_F, uB_W, uB_K, uB_N, uB_L, uI_B, uI_I, uI_F, uI_W, uI_K, uI_N, uI_L, uF_B, uF_I, uF_F, uF_W, uF_K, uF_N, uF_L, uW_B, uW_I, uW_F, uW_W, uW_K, uW_N, uW_L, uK_B, uK_I, uK_F, uK_W, uK_K, uK_N, uK_L, uN_B, uN_I, uN_F, uN_W, uN_K, uN_N, uN_L, uL_B, uL_I, uL_F, uL_W, uL_K, uL_N, uL_L, fset_eq, fset_ne _ _ (show (0 : Nat) ≠ 1 by omega), fset_ne _ _ (show (2 : Nat) ≠ 1 by omega), fset_ne _ _ (show (3 : Nat) ≠ 1 by omega)]
  refine ⟨h1, ⟨l1, l2, l3, l4⟩, h3, fun e => ⟨(h4 e).1, ?_⟩, h5, ?_, ?_, h8, h9, h10⟩
  · have := (h4 e).2
    rw [spIn_false] at this ⊢
    intro j hj; rw [ids]; exact this j hj
  · intro j hj
    simp only [lset] at hj ⊢
    by_cases e : j = k
    · simp only [e, ↓reduceIte]; exact hr
    · simp only [e, ↓reduceIte]; exact h6 j hj
  · intro i j hi hj
    rw [ids, ids]; exact h7 i j hi hj
theorem GI_ldel1 {g : GS} (h : GI g) {k : Nat} (hk : k < (cL g.2 1).1) : GI (g.1, uL g.2 1 (ldel (cL g.2 1) k)) := by
  obtain ⟨h1, ⟨l1, l2, l3, l4⟩, h3, h4, h5, h6, h7, h8, h9, h10⟩ := h
  unfold GI
  simp only [uB_B, uB_I, uB_F, uB_W, uB_K, uB_N, uB_L, uI_B, uI_I, uI_F, uI_W, uI_K, uI_N, uI_L, uF_B, uF_I, uF_F, uF_W, uF_K, uF_N, uF_L, uW_B, uW_I, uW_F, uW_W, uW_K, uW_N, uW_L, uK_B, uK_I, uK_F, uK_W, uK_K, uK_N, uK_L, uN_B, uN_I, uN_F, uN_W, uN_K, uN_N, uN_L, uL_B, uL_I, uL_F, uL_W, uL_K, uL_N, uL_L, fset_eq, fset_ne _ _ (show (0 : Nat) ≠ 1 by omega), fset_ne _ _ (show (2 : Nat) ≠ 1 by omega), fset_ne _ _ (show (3 : Nat) ≠ 1 by omega)]
  have at' : ∀ j, j < (cL g.2 1).1 - 1 → ∃ j', j' < (cL g.2 1).1 ∧ (ldel (cL g.2 1) k).2 j = (cL g.2 1).2 j' ∧ j' = if j < k then j else j + 1 := by
    intro j hj
    simp only [ldel]
    by_cases e : j < k
    · exact ⟨j, by omega, by simp only [e, ↓reduceIte], by simp only [e, ↓reduceIte]⟩
    · exact ⟨j + 1, by omega, by simp only [e, ↓reduceIte], by simp only [e, ↓reduceIte]⟩
  refine ⟨h1, ⟨l1, by show (ldel (cL g.2 1) k).1 ≤ 5; simp only [ldel]; omega, l3, l4⟩, h3, fun e => ⟨(h4 e).1, ?_⟩, h5, ?_, ?_, h8, h9, fun e => ⟨by simp only [ldel, (h10 e).1], (h10 e).2⟩⟩
  · have := (h4 e).2
    rw [spIn_false] at this ⊢
    intro j hj
    obtain ⟨j', a, b, _⟩ := at' j hj
    rw [b]; exact this j' a
  · intro j hj
    obtain ⟨j', a, b, _⟩ := at' j hj
    rw [b]; exact h6 j' a
  · intro i j hi hj e
    obtain ⟨i', a, b, c⟩ := at' i hi
    obtain ⟨j', a', b', c'⟩ := at' j hj
    rw [b, b'] at e
    have := h7 i' j' a a' e
    split at c <;> split at c' <;> omega
theorem okF_sent {r : Row} (h : okF r) (t : Int32) : okF (setSent r t) := by
  obtain ⟨⟨h1, h2⟩, h3, h4, h5⟩ := h
  unfold okF okG setSent
  simp only [fset_ne _ _ (show (1 : Nat) ≠ 6 by omega), fset_ne _ _ (show (4 : Nat) ≠ 6 by omega), fset_ne _ _ (show (5 : Nat) ≠ 6 by omega)]
  exact ⟨⟨h1, h2⟩, h3, h4, h5⟩
theorem spAgain_B (g : GS) (r : Row) : cB (spAgain g r).2 = cB g.2 := by unfold spAgain spSignR; split <;> exact spSend_B _ _
theorem spAgain_L (g : GS) (r : Row) {i : Nat} (h : i ≠ 0) : cL (spAgain g r).2 i = cL g.2 i := by unfold spAgain spSignR; split <;> exact spSend_L _ _ h
theorem spAgain_sc (g : GS) (r : Row) {i : Nat} (h : i ≠ 8) : (spAgain g r).1 i = g.1 i := by unfold spAgain spSignR; split <;> exact spSend_sc _ _ h
theorem GI_again {g : GS} {r : Row} (h : GI g) (hr : topical r.1) (hon : cB g.2 0 = true) : GI (spAgain g r) := by
  unfold spAgain spSignR
  split
  · exact GI_send h top_nil hon
  · exact GI_send h hr hon
theorem GI_resend {g : GS} {i : Nat} (h : GI g) (hon : cB g.2 0 = true) (hi : i < (cL g.2 1).1) : GI (spResend g i) := by
  have hr := h.2.2.2.2.2.1 i hi
  have ha := GI_again (r := (cL g.2 1).2 i) (h.tot (i := 4) (by omega)) hr.1.1 hon
  have e1 : cL (spAgain (tot g.1 4, g.2) ((cL g.2 1).2 i)).2 1 = cL g.2 1 := spAgain_L _ _ (by omega)
  have := GI_lset (k := i) (r := setSent ((cL g.2 1).2 i) (g.1 14)) ha (by rw [e1]; exact hi) (okF_sent hr _) (by rw [e1]; simp (disch := omega) only [setSent, fset_ne])
  rw [e1] at this
  exact this
theorem spResend_B (g : GS) (i : Nat) : cB (spResend g i).2 = cB g.2 := by simp only [spResend, uB_B, uB_I, uB_F, uB_W, uB_K, uB_N, uB_L, uI_B, uI_I, uI_F, uI_W, uI_K, uI_N, uI_L, uF_B, uF_I, uF_F, uF_W, uF_K, uF_N, uF_L, uW_B, uW_I, uW_F, uW_W, uW_K, uW_N, uW_L, uK_B, uK_I, uK_F, uK_W, uK_K, uK_N, uK_L, uN_B, uN_I, uN_F, uN_W, uN_K, uN_N, uN_L, uL_B, uL_I, uL_F, uL_W, uL_K, uL_N, uL_L, spAgain_B]
theorem spResend_L (g : GS) (i : Nat) {j : Nat} (h : j ≠ 0) (h1 : j ≠ 1) : cL (spResend g i).2 j = cL g.2 j := by simp only [spResend, uB_B, uB_I, uB_F, uB_W, uB_K, uB_N, uB_L, uI_B, uI_I, uI_F, uI_W, uI_K, uI_N, uI_L, uF_B, uF_I, uF_F, uF_W, uF_K, uF_N, uF_L, uW_B, uW_I, uW_F, uW_W, uW_K, uW_N, uW_L, uK_B, uK_I, uK_F, uK_W, uK_K, uK_N, uK_L, uN_B, uN_I, uN_F, uN_W, uN_K, uN_N, uN_L, uL_B, uL_I, uL_F, uL_W, uL_K, uL_N, uL_L, fset_ne _ _ h1, spAgain_L _ _ h]
theorem spResend_n (g : GS) (i : Nat) : (cL (spResend g i).2 1).1 = (cL g.2 1).1 := by simp only [spResend, uB_B, uB_I, uB_F, uB_W, uB_K, uB_N, uB_L, uI_B, uI_I, uI_F, uI_W, uI_K, uI_N, uI_L, uF_B, uF_I, uF_F, uF_W, uF_K, uF_N, uF_L, uW_B, uW_I, uW_F, uW_W, uW_K, uW_N, uW_L, uK_B, uK_I, uK_F, uK_W, uK_K, uK_N, uK_L, uN_B, uN_I, uN_F, uN_W, uN_K, uN_N, uN_L, uL_B, uL_I, uL_F, uL_W, uL_K, uL_N, uL_L, fset_eq, lset]
theorem GI_resN : ∀ n i {g : GS}, GI g → cB g.2 0 = true → i + n ≤ (cL g.2 1).1 → GI (spResN n i g) ∧ cB (spResN n i g).2 = cB g.2
  | 0, i, g, h, _, _ => ⟨h, rfl⟩
  | n + 1, i, g, h, hon, hi => by
    have := GI_resN n (i + 1) (GI_resend h hon (i := i) (by omega)) (by rw [spResend_B]; exact hon) (by rw [spResend_n]; omega)
    rw [spResend_B] at this
    exact this
theorem GI_late : ∀ n i {g : GS}, GI g → cB g.2 0 = true → i + n ≤ (cL g.2 1).1 → GI (spLate n i g)
  | 0, i, g, h, _, _ => h
  | n + 1, i, g, h, hon, hi => by
    rw [spLate]
    split
    · exact GI_late n (i + 1) (GI_resend h hon (i := i) (by omega)) (by rw [spResend_B]; exact hon) (by rw [spResend_n]; omega)
    · exact GI_late n (i + 1) h hon (by omega)
theorem okF_rel {r : Row} (h : okF r) (h2 : r.2 1 = nW 2) (t : Int32) : okF (rowRel r t) := by
  obtain ⟨⟨h1, _⟩, h3, h4, h5⟩ := h
  unfold rowRel setSent okF okG
  simp only [fset_ne _ _ (show (1 : Nat) ≠ 6 by omega), fset_ne _ _ (show (4 : Nat) ≠ 6 by omega), fset_ne _ _ (show (5 : Nat) ≠ 6 by omega), fset_ne _ _ (show (1 : Nat) ≠ 5 by omega), fset_ne _ _ (show (4 : Nat) ≠ 5 by omega), fset_eq]
  refine ⟨⟨h1, Or.inr h2⟩, fun e => ?_, fun _ => by simp, h5⟩
  rw [h2] at e; exact absurd e (by decide)
theorem GI_ansAt {g : GS} {kind : Int32} {k : Nat} (h : GI g) (hon : cB g.2 0 = true) (hk : k < (cL g.2 1).1) : GI (spAnsAt g kind k).2 := by
  unfold spAnsAt
  have hr := h.2.2.2.2.2.1 k hk
  split
  · rename_i hc
    have ha : GI (spSignR g (nW 3) (((cL g.2 1).2 k).2 4)) := GI_send h top_nil hon
    have e1 : cL (spSignR g (nW 3) (((cL g.2 1).2 k).2 4)).2 1 = cL g.2 1 := spSend_L _ _ (by omega)
    have := GI_lset (k := k) (r := rowRel ((cL g.2 1).2 k) (g.1 14)) ha (by rw [e1]; exact hk) (okF_rel hr hc.2 _) (by rw [e1]; simp (disch := omega) only [rowRel, setSent, fset_ne])
    rw [e1] at this
    exact this
  · split
    · exact GI_pend 8 (GI.tot (g := (g.1, uL g.2 1 (ldel (cL g.2 1) k))) (GI_ldel1 h hk) (i := 9) (by omega))
    · exact h
theorem GI_ans {g : GS} {kind id : Int32} (h : GI g) (hon : cB g.2 0 = true) : GI (spAns g kind id).2 := by
  unfold spAns
  cases e : flAt g id with
  | none => exact h
  | some k => exact GI_ansAt h hon (flAt_some e).1
/-! in the class -/
theorem CR_L1gr {P : Nat → Prop} {M M' : Mem} {S C : Nat} {g : GS} {l : Ls Row} (G : Gr P M M') (h : CR M S C g) (hC : inS S C) (hP : ∀ a, a = S ∨ a = S + 1 ∨ a = S + 444 ∨ a = S + 445 ∨ (C ≤ a ∧ a < C + 43) ∨ (C + 50 ≤ a ∧ a < C + 60) → ¬ P a) (hl : MLR M' (C + 43) 5 l) : CR M' S C (g.1, uL g.2 1 l) := by
  obtain ⟨hB, hO, hW, hq, hE, hK, hS, hF, hp⟩ := h
  refine ⟨hB.gr G ⟨hP _ (by omega), hP _ (by omega), hP _ (by omega), hP _ (by omega)⟩, hO.gr G (hP _ (by omega)), hW.gr G (hP _ (by omega)), ?_, (SeO_L1 l hE).gr G (hP _ (by omega)), hK.gr G (hP _ (by omega)), ?_, ?_, ?_⟩
  · simp only [uB_B, uB_I, uB_F, uB_W, uB_K, uB_N, uB_L, uI_B, uI_I, uI_F, uI_W, uI_K, uI_N, uI_L, uF_B, uF_I, uF_F, uF_W, uF_K, uF_N, uF_L, uW_B, uW_I, uW_F, uW_W, uW_K, uW_N, uW_L, uK_B, uK_I, uK_F, uK_W, uK_K, uK_N, uK_L, uN_B, uN_I, uN_F, uN_W, uN_K, uN_N, uN_L, uL_B, uL_I, uL_F, uL_W, uL_K, uL_N, uL_L, fset_ne _ _ (show (0 : Nat) ≠ 1 by omega)]; exact hq.gr G (fun b _ _ => hP _ (by omega))
  · simp only [uB_B, uB_I, uB_F, uB_W, uB_K, uB_N, uB_L, uI_B, uI_I, uI_F, uI_W, uI_K, uI_N, uI_L, uF_B, uF_I, uF_F, uF_W, uF_K, uF_N, uF_L, uW_B, uW_I, uW_F, uW_W, uW_K, uW_N, uW_L, uK_B, uK_I, uK_F, uK_W, uK_K, uK_N, uK_L, uN_B, uN_I, uN_F, uN_W, uN_K, uN_N, uN_L, uL_B, uL_I, uL_F, uL_W, uL_K, uL_N, uL_L, fset_ne _ _ (show (3 : Nat) ≠ 1 by omega)]; exact hS.gr G (fun b _ _ => hP _ (by omega))
  · simp only [uB_B, uB_I, uB_F, uB_W, uB_K, uB_N, uB_L, uI_B, uI_I, uI_F, uI_W, uI_K, uI_N, uI_L, uF_B, uF_I, uF_F, uF_W, uF_K, uF_N, uF_L, uW_B, uW_I, uW_F, uW_W, uW_K, uW_N, uW_L, uK_B, uK_I, uK_F, uK_W, uK_K, uK_N, uK_L, uN_B, uN_I, uN_F, uN_W, uN_K, uN_N, uN_L, uL_B, uL_I, uL_F, uL_W, uL_K, uL_N, uL_L, fset_eq]; exact hl
  · simp only [uB_B, uB_I, uB_F, uB_W, uB_K, uB_N, uB_L, uI_B, uI_I, uI_F, uI_W, uI_K, uI_N, uI_L, uF_B, uF_I, uF_F, uF_W, uF_K, uF_N, uF_L, uW_B, uW_I, uW_F, uW_W, uW_K, uW_N, uW_L, uK_B, uK_I, uK_F, uK_W, uK_K, uK_N, uK_L, uN_B, uN_I, uN_F, uN_W, uN_K, uN_N, uN_L, uL_B, uL_I, uL_F, uL_W, uL_K, uL_N, uL_L, fset_ne _ _ (show (2 : Nat) ≠ 1 by omega)]; exact hp.gr G (fun b _ _ => hP _ (by omega))
theorem posI_lt0 {o : Option Nat} {n : Nat} (h : ∀ i, o = some i → i < n) (hn : n ≤ 2147483648) : (nW 0 ≤ posI o) = (o.isSome = true) := posI_ge (fun i hi => by have := h i hi; omega)
theorem C_rel {M : Mem} {S C k a : Nat} {g : GS} (hC : inS S C) (h : CR M S C g) (hk : k < (cL g.2 1).1) (ha : mR M (C + 44) k = some a) : ∃ M1 M', pI 1 5 a (nW 4) M = some M1 ∧ (mK M1 S).1 = 7 ∧ f_X7_sendRelease S C a M1 = some M' ∧ Fr (CZ S C) M M' ∧ CR M' S C (spRel g k) := by
  have hcC := hC
  obtain ⟨⟨c1, c2⟩, c3, c4⟩ := hC
  have hp := CR_pa h
  obtain ⟨a', ea, ⟨a1, a2⟩, R, back⟩ := MLR_rowP hp.2.2.2.2 hk
  have : a' = a := Option.some.inj (ea.symm.trans ha)
  subst this
  obtain ⟨M1, e1, F1, R1⟩ := MsR_put 5 (nW 4) R (by simp only [tz]; omega)
  have P1 := Pa_lset hp F1.gr (fun b hb => by omega) (back _ M1 _ F1.gr (fun b _ _ h => h) R1)
  obtain ⟨a'', ea', ⟨a1', a2'⟩, _, back'⟩ := MLR_rowP P1.2.2.2.2 (j := k) (by simp only [uB_B, uB_I, uB_F, uB_W, uB_K, uB_N, uB_L, uI_B, uI_I, uI_F, uI_W, uI_K, uI_N, uI_L, uF_B, uF_I, uF_F, uF_W, uF_K, uF_N, uF_L, uW_B, uW_I, uW_F, uW_W, uW_K, uW_N, uW_L, uK_B, uK_I, uK_F, uK_W, uK_K, uK_N, uK_L, uN_B, uN_I, uN_F, uN_W, uN_K, uN_N, uN_L, uL_B, uL_I, uL_F, uL_W, uL_K, uL_N, uL_L, fset_eq, lset]; exact hk)
  have e44 : mR M1 (C + 44) = mR M (C + 44) := (F1.2.2 (C + 44) (Or.inr (by omega))).2.2.2
  have : a'' = a' := by rw [e44] at ea'; exact Option.some.inj (ea'.symm.trans ha)
  subst this
  obtain ⟨M2, e2, F2, P2⟩ := Pa_release hcC P1 ⟨a1, a2⟩ R1 back'
  have ll : lset (lset (cL g.2 1) k (((cL g.2 1).2 k).1, fset ((cL g.2 1).2 k).2 5 (nW 4))) k (setSent (((cL g.2 1).2 k).1, fset ((cL g.2 1).2 k).2 5 (nW 4)) (g.1 14)) = lset (cL g.2 1) k (rowRel ((cL g.2 1).2 k) (g.1 14)) := by
    simp only [lset, rowRel, Prod.mk.injEq, true_and]
    funext j; by_cases e : j = k <;> simp only [e, ↓reduceIte]
  have F : Fr (PaW S C) M M2 := F1.tr F2 (fun b hb => by unfold PaW; omega) (fun _ h => h)
  refine ⟨M1, M2, e1, P1.1.1.1, e2, F.mono (fun _ h => PaW_CZ h), ?_⟩
  refine CR_of (Q := fun _ => False) h (F.mono (fun b hb => Or.inr hb)).gr (fun _ _ _ h => h) hcC ?_ ?_
  · unfold spRel
    simp only [uB_B, uB_I, uB_F, uB_W, uB_K, uB_N, uB_L, uI_B, uI_I, uI_F, uI_W, uI_K, uI_N, uI_L, uF_B, uF_I, uF_F, uF_W, uF_K, uF_N, uF_L, uW_B, uW_I, uW_F, uW_W, uW_K, uW_N, uW_L, uK_B, uK_I, uK_F, uK_W, uK_K, uK_N, uK_L, uN_B, uN_I, uN_F, uN_W, uN_K, uN_N, uN_L, uL_B, uL_I, uL_F, uL_W, uL_K, uL_N, uL_L, fset_eq, fset_ne _ _ (show (4 : Nat) ≠ 5 by omega)] at P2
    unfold spSignR at P2 ⊢
    rw [spSend_uL _ _ _ _ (by decide)] at P2
    simp only [uL_uL] at P2
    rw [ll] at P2
    exact P2
  · refine ⟨?_, ?_, ?_, ?_⟩ <;> simp only [spRel, spSignR, uB_B, uB_I, uB_F, uB_W, uB_K, uB_N, uB_L, uI_B, uI_I, uI_F, uI_W, uI_K, uI_N, uI_L, uF_B, uF_I, uF_F, uF_W, uF_K, uF_N, uF_L, uW_B, uW_I, uW_F, uW_W, uW_K, uW_N, uW_L, uK_B, uK_I, uK_F, uK_W, uK_K, uK_N, uK_L, uN_B, uN_I, uN_F, uN_W, uN_K, uN_N, uN_L, uL_B, uL_I, uL_F, uL_W, uL_K, uL_N, uL_L, spSend_W, spSend_K, fset_ne _ _ (show (2 : Nat) ≠ 1 by omega), fset_ne _ _ (show (3 : Nat) ≠ 1 by omega)]
    · exact spSend_L _ _ (by omega)
    · exact spSend_L _ _ (by omega)
theorem C_answer {M : Mem} {S C : Nat} {g : GS} (kind id : Int32) (hC : inS S C) (h : CR M S C g) (hG : GI g) : ∃ M', f_X7_takeAnswer S C kind id M = some (zI (spAns g kind id).1, M') ∧ Fr (CZ S C) M M' ∧ CR M' S C (spAns g kind id).2 := by
  obtain ⟨k1, k2, k3, k4, k5, k6, k7, k8, k9⟩ := CR_k h
  have hF := h.2.2.2.2.2.2.2.1
  have pl := X2_placeOf id hF (by omega)
  have hl5 := hG.2.1.2.1
  unfold spAns
  cases e : flAt g id with
  | none =>
    have e' : ffind (fun j => decide (((cL g.2 1).2 j).2 4 = id)) (cL g.2 1).1 0 = none := e
    rw [e'] at pl
    have np : ¬ nW 0 ≤ posI none := nW_m1
    exact ⟨M, by simp only [f_X7_takeAnswer, k1, ↓reduceIte, k2, k5, Option.bind_some, pl, bindP, nW_lit, np, zI_f, okZ_0], Fr.refl _ _, h⟩
  | some k =>
    obtain ⟨hk, hid⟩ := flAt_some e
    have e' : ffind (fun j => decide (((cL g.2 1).2 j).2 4 = id)) (cL g.2 1).1 0 = some k := e
    rw [e'] at pl
    have np : 0 ≤ k := by omega
    obtain ⟨a, ea, ⟨a1, a2⟩, R, _⟩ := MLR_rowP hF hk
    have eat := MLR_at hF (by omega) (show k < 5 by omega) ea
    have g1 := MsR_get R (f := 1) (by omega) (by omega)
    have g5 := MsR_get R (f := 5) (by omega) (by omega)
    show ∃ M', f_X7_takeAnswer S C kind id M = some (zI (spAnsAt g kind k).1, M') ∧ Fr (CZ S C) M M' ∧ CR M' S C (spAnsAt g kind k).2
    have hJ : ((cL g.2 1).2 k).2 5 = kind → ∃ M', f_X7_takeAnswer_J63 S C kind (C + 43) (nW k) a M = some (nW 1, M') ∧ Fr (CZ S C) M M' ∧ CR M' S C (spEnd g k) := by
      intro hw
      obtain ⟨t1, M1, e1, F1, R1⟩ := CR_inc h hC (i := 9) (by omega)
      obtain ⟨⟨c1, c2⟩, c3, c4⟩ := hC
      obtain ⟨M2, e2, F2, L2⟩ := X2_removeAt (i := k) R1.2.2.2.2.2.2.2.1 (by omega) hk
      have R2 := CR_L1gr F2.gr R1 ⟨⟨c1, c2⟩, c3, c4⟩ (fun b hb => by omega) L2
      obtain ⟨M3, e3, F3, R3⟩ := C_pend ⟨⟨c1, c2⟩, c3, c4⟩ R2 (GI.tot (g := (g.1, uL g.2 1 (ldel (cL g.2 1) k))) (GI_ldel1 hG hk) (i := 9) (by omega))
      refine ⟨M3, ?_, F1.trans ((F2.mono (fun b hb => by unfold CZ; omega)).trans F3), R3⟩
      simp only [f_X7_takeAnswer_J63, g5, eq_true hw, k7, ↓reduceIte, Option.bind_some, nW_lit, t1, e1, e2, e3, okZ_1]
    have hN : ¬ ((cL g.2 1).2 k).2 5 = kind → f_X7_takeAnswer_J63 S C kind (C + 43) (nW k) a M = some (nW 0, M) := by
      intro hw
      simp only [f_X7_takeAnswer_J63, g5, eq_false hw, ↓reduceIte, Option.bind_some, nW_lit, okZ_0]
    unfold spAnsAt
    by_cases hk2 : kind = nW 2 ∧ ((cL g.2 1).2 k).2 1 = nW 2
    · obtain ⟨M1, M2, e1, _, e2, F, R2⟩ := C_rel hC h hk ea
      rw [if_pos hk2]
      refine ⟨M2, ?_, F, R2⟩
      simp (disch := omega) only [f_X7_takeAnswer, k1, ↓reduceIte, k2, k5, Option.bind_some, pl, bindP, posI, nW_lit, nW_le, np, MLR_arr hF, eat, hk2.1, g1, hk2.2, e1, e2, okZ_1, zI_t]
    · rw [if_neg hk2]
      have hbase : ∀ x M', f_X7_takeAnswer_J63 S C kind (C + 43) (nW k) a M = some (x, M') → f_X7_takeAnswer S C kind id M = some (x, M') := by
        intro x M' hx
        by_cases h2 : kind = nW 2
        · have h21 : ¬ ((cL g.2 1).2 k).2 1 = nW 2 := fun hh => hk2 ⟨h2, hh⟩
          simp (disch := omega) only [f_X7_takeAnswer, k1, ↓reduceIte, k2, k5, Option.bind_some, pl, bindP, posI, nW_lit, nW_le, np, MLR_arr hF, eat, eq_true h2, g1, eq_false h21, hx]
        · simp (disch := omega) only [f_X7_takeAnswer, k1, ↓reduceIte, k2, k5, Option.bind_some, pl, bindP, posI, nW_lit, nW_le, np, MLR_arr hF, eat, eq_false h2, hx]
      by_cases hw : ((cL g.2 1).2 k).2 5 = kind
      · obtain ⟨M', e2, F, R2⟩ := hJ hw
        rw [if_pos hw]
        exact ⟨M', hbase _ _ e2, F, R2⟩
      · rw [if_neg hw]
        exact ⟨M, hbase _ _ (hN hw), Fr.refl _ _, h⟩
theorem C_resume_L10 {S C : Nat} (hC : inS S C) : ∀ n i M g, i ≤ (cL g.2 1).1 → (cL g.2 1).1 - i < n → CR M S C g → GI g → cB g.2 0 = true → ∃ M', f_X7_resume_L10 n S C (C + 43) (nW i) M = some M' ∧ Fr (CZ S C) M M' ∧ CR M' S C (spPend 8 (spResN ((cL g.2 1).1 - i) i g))
  | 0, i, M, g, _, hn, _, _, _ => absurd hn (by omega)
  | n + 1, i, M, g, hi, hn, h, hG, hon => by
    have hF := h.2.2.2.2.2.2.2.1
    have hcnt := MLR_cnt hF
    have l5 := hG.2.1.2.1
    by_cases he : i = (cL g.2 1).1
    · obtain ⟨M', e, F, R⟩ := C_pend hC h hG
      refine ⟨M', ?_, F, by rw [he, Nat.sub_self]; exact R⟩
      have n1 : (cL g.2 1).1 ≤ i := by omega
      simp (disch := omega) only [f_X7_resume_L10, f_X7_resume_J44, hcnt, Option.bind_some, nW_le, n1, ↓reduceIte, e]
    · have n1 : ¬ (cL g.2 1).1 ≤ i := by omega
      have n2 : ¬ 5 ≤ i := by omega
      obtain ⟨a, ea, M1, e1, F1, R1⟩ := C_resend (i := i) hC h (by omega)
      have eat := MLR_at hF (by omega) (show i < 5 by omega) ea
      have sn := spResend_n g i
      obtain ⟨M2, e2, F2, R2⟩ := C_resume_L10 hC n (i + 1) M1 (spResend g i) (by omega) (by omega) R1 (GI_resend hG hon (by omega)) (by rw [spResend_B]; exact hon)
      rw [sn] at R2
      refine ⟨M2, ?_, F1.trans F2, by rw [show (cL g.2 1).1 - i = ((cL g.2 1).1 - (i + 1)) + 1 by omega, spResN]; exact R2⟩
      have an : aN (C + 44) M = some (nW 5) := by
        obtain ⟨_, _, _, p, h5, _⟩ := hF
        simp only [aN, h5.1]; rfl
      simp (disch := omega) only [f_X7_resume_L10, hcnt, Option.bind_some, nW_lit, nW_le, nW_add, n1, n2, ↓reduceIte, MLR_arr hF, an, eat, e1, e2]
theorem C_resume {M : Mem} {S C : Nat} {g : GS} (hC : inS S C) (h : CR M S C g) (hG : GI g) (hon : cB g.2 0 = true) : ∃ M', f_X7_resume S C M = some M' ∧ Fr (CZ S C) M M' ∧ CR M' S C (spPend 8 (spResN (cL g.2 1).1 0 g)) := by
  obtain ⟨M', e, F, R⟩ := C_resume_L10 hC FU 0 M g (by omega) (by have := hG.2.1.2.1; simp only [FU]; omega) h hG hon
  obtain ⟨k1, k2, k3, k4, k5, k6, k7, k8, k9⟩ := CR_k h
  exact ⟨M', by simp only [f_X7_resume, k1, ↓reduceIte, k2, Option.bind_some, k5, nW_lit, e], F, R⟩
theorem C_late_L10 {S C : Nat} (hC : inS S C) : ∀ n i M g, i ≤ (cL g.2 1).1 → (cL g.2 1).1 - i < n → CR M S C g → GI g → cB g.2 0 = true → ∃ M', f_X7_resendLate_L10 n S C (C + 43) (nW i) M = some M' ∧ Fr (CZ S C) M M' ∧ CR M' S C (spLate ((cL g.2 1).1 - i) i g)
  | 0, i, M, g, _, hn, _, _, _ => absurd hn (by omega)
  | n + 1, i, M, g, hi, hn, h, hG, hon => by
    have hF := h.2.2.2.2.2.2.2.1
    have hcnt := MLR_cnt hF
    have l5 := hG.2.1.2.1
    obtain ⟨k1, k2, k3, k4, k5, k6, k7, k8, k9⟩ := CR_k h
    by_cases he : i = (cL g.2 1).1
    · refine ⟨M, ?_, Fr.refl _ _, by rw [he, Nat.sub_self]; exact h⟩
      have n1 : (cL g.2 1).1 ≤ i := by omega
      simp (disch := omega) only [f_X7_resendLate_L10, hcnt, Option.bind_some, nW_le, n1, ↓reduceIte]
    · have n1 : ¬ (cL g.2 1).1 ≤ i := by omega
      have n2 : ¬ 5 ≤ i := by omega
      obtain ⟨a, ea, M1, e1, F1, R1⟩ := C_resend (i := i) hC h (by omega)
      obtain ⟨a', ea', _, R, _⟩ := MLR_rowP hF (show i < (cL g.2 1).1 by omega)
      have : a' = a := Option.some.inj (ea'.symm.trans ea)
      subst this
      have eat := MLR_at hF (by omega) (show i < 5 by omega) ea
      have g6 := MsR_get R (f := 6) (by omega) (by omega)
      have clk := BaR_clock h.1
      have opt := CR_opt h (i := 1) (by omega)
      have sn := spResend_n g i
      have an : aN (C + 44) M = some (nW 5) := by
        obtain ⟨_, _, _, p, h5, _⟩ := hF
        simp only [aN, h5.1]; rfl
      rw [show (cL g.2 1).1 - i = ((cL g.2 1).1 - (i + 1)) + 1 by omega, spLate]
      by_cases hl : g.1 11 ≤ g.1 14 - ((cL g.2 1).2 i).2 6
      · obtain ⟨M2, e2, F2, R2⟩ := C_late_L10 hC n (i + 1) M1 (spResend g i) (by omega) (by omega) R1 (GI_resend hG hon (by omega)) (by rw [spResend_B]; exact hon)
        rw [sn] at R2
        refine ⟨M2, ?_, F1.trans F2, by rw [if_pos hl]; exact R2⟩
        simp (disch := omega) only [f_X7_resendLate_L10, hcnt, Option.bind_some, nW_lit, nW_le, nW_add, n1, n2, ↓reduceIte, MLR_arr hF, an, eat, clk, g6, k9, opt, (show ¬ g.1 14 - ((cL g.2 1).2 i).2 6 < g.1 (10 + 1) from Int32.not_lt.mpr hl), e1, e2]
      · obtain ⟨M2, e2, F2, R2⟩ := C_late_L10 hC n (i + 1) M g (by omega) (by omega) h hG hon
        refine ⟨M2, ?_, F2, by rw [if_neg hl]; exact R2⟩
        simp (disch := omega) only [f_X7_resendLate_L10, hcnt, Option.bind_some, nW_lit, nW_le, nW_add, n1, n2, ↓reduceIte, MLR_arr hF, an, eat, clk, g6, k9, opt, (show g.1 14 - ((cL g.2 1).2 i).2 6 < g.1 (10 + 1) from Int32.not_le.mp hl), e2]
theorem C_late {M : Mem} {S C : Nat} {g : GS} (hC : inS S C) (h : CR M S C g) (hG : GI g) (hon : cB g.2 0 = true) : ∃ M', f_X7_resendLate S C M = some M' ∧ Fr (CZ S C) M M' ∧ CR M' S C (spLate (cL g.2 1).1 0 g) := by
  obtain ⟨M', e, F, R⟩ := C_late_L10 hC FU 0 M g (by omega) (by have := hG.2.1.2.1; simp only [FU]; omega) h hG hon
  obtain ⟨k1, k2, k3, k4, k5, k6, k7, k8, k9⟩ := CR_k h
  exact ⟨M', by simp only [f_X7_resendLate, k1, ↓reduceIte, k2, Option.bind_some, k5, nW_lit, e], F, R⟩
