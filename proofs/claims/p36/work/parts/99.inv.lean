/-! WHAT ALWAYS HOLDS of a client -/
def okG (r : Row) : Prop := topical r.1 ∧ (r.2 1 = nW 1 ∨ r.2 1 = nW 2)
def okF (r : Row) : Prop := okG r ∧ (r.2 1 = nW 1 → r.2 5 = nW 1) ∧ (r.2 1 = nW 2 → r.2 5 = nW 2 ∨ r.2 5 = nW 4) ∧ ∃ n, 1 ≤ n ∧ n ≤ 50 ∧ r.2 4 = nW n
def Win (sc : Nat → Int32) : Prop := ∃ w, sc 10 = nW w ∧ 1 ≤ w ∧ w ≤ 5
def GI (g : GS) : Prop := Win g.1 ∧ lim1 g.2 ∧ (cB g.2 0 = true → cB g.2 3 = true) ∧ (cB g.2 3 = true → (1 ≤ cN g.2 ∧ cN g.2 ≤ 50) ∧ spIn (cL g.2 1) (cN g.2) = false) ∧ (∀ j, j < (cL g.2 0).1 → topical ((cL g.2 0).2 j).1) ∧ (∀ j, j < (cL g.2 1).1 → okF ((cL g.2 1).2 j)) ∧ (∀ i j, i < (cL g.2 1).1 → j < (cL g.2 1).1 → ((cL g.2 1).2 i).2 4 = ((cL g.2 1).2 j).2 4 → i = j) ∧ (∀ j, j < (cL g.2 2).1 → okG ((cL g.2 2).2 j)) ∧ (cB g.2 0 = false → (cL g.2 0).1 = 0) ∧ (cB g.2 3 = false → (cL g.2 1).1 = 0 ∧ (cL g.2 2).1 = 0 ∧ (cL g.2 3).1 = 0 ∧ ∀ i, cK g.2 i = false)
theorem top_nil : topical [] := fun _ h => absurd h List.not_mem_nil
theorem Win_tot {sc : Nat → Int32} (h : Win sc) {i : Nat} (hi : i < 10) : Win (tot sc i) := by
  unfold Win tot; rw [fset_ne _ _ (by omega)]; exact h
theorem GI.tot {g : GS} (h : GI g) {i : Nat} (hi : i < 10) : GI (tot g.1 i, g.2) := ⟨Win_tot h.1 hi, h.2⟩
theorem GI_send {g : GS} {r : Row} (h : GI g) (hr : topical r.1) (hon : cB g.2 0 = true) : GI (spSend g r) := by
  obtain ⟨h1, ⟨l1, l2, l3, l4⟩, h3, h4, h5, h6, h7, h8, h9, h10⟩ := h
  by_cases hq : (cL g.2 0).1 < 30
  · simp only [spSend, hq, ↓reduceIte]
    refine ⟨h1, ⟨?_, l2, l3, l4⟩, h3, h4, ?_, h6, h7, h8, fun e => ?_, h10⟩
    · show (lpush (cL g.2 0) r).1 ≤ 30
      simp only [lpush]; omega
    · show ∀ j, j < (lpush (cL g.2 0) r).1 → topical ((lpush (cL g.2 0) r).2 j).1
      intro j hj
      simp only [lpush] at hj ⊢
      by_cases e : j = (cL g.2 0).1
      · simp only [e, ↓reduceIte]; exact hr
      · simp only [e, ↓reduceIte]; exact h5 j (by omega)
    · exact absurd (hon.symm.trans e) (by decide)
  · simp only [spSend, hq, ↓reduceIte]
    exact ⟨Win_tot h1 (by omega), ⟨l1, l2, l3, l4⟩, h3, h4, h5, h6, h7, h8, h9, h10⟩
theorem spIn_false {l : Ls Row} {n : Nat} : spIn l n = false ↔ ∀ j, j < l.1 → (l.2 j).2 4 ≠ nW n := by
  rw [spIn, ← anyB_ffind, Bool.eq_false_iff, Ne, anyB_iff]
  refine ⟨fun h j hj e => h ⟨j, by omega, by omega, decide_eq_true e⟩, fun h ⟨j, _, h2, h3⟩ => h j (by omega) (of_decide_eq_true h3)⟩
theorem spStep_ok {l : Ls Row} : ∀ m n, spIn l (spIt m (spNext n)) = false → ∀ k, m < k → spIn l (spStep l k n) = false ∧ 1 ≤ spStep l k n ∧ spStep l k n ≤ 50
  | m, n, hf, 0, hk => absurd hk (by omega)
  | m, n, hf, k + 1, hk => by
    rw [spStep]
    by_cases hi : spIn l (spNext n) = true
    · rw [if_pos hi]
      match m, hf, hk with
      | 0, hf, _ => rw [spIt, hi] at hf; cases hf
      | m + 1, hf, hk => exact spStep_ok m (spNext n) hf k (by omega)
    · rw [if_neg hi]
      exact ⟨by simpa using hi, spNext_rng n⟩
theorem spStep_free {l : Ls Row} (hl : l.1 ≤ 5) (n : Nat) : spIn l (spStep l 50 n) = false ∧ 1 ≤ spStep l 50 n ∧ spStep l 50 n ≤ 50 := by
  have hr := spNext_rng n
  obtain ⟨m, hm, hf⟩ := spIt_free hl hr.1 hr.2
  exact spStep_ok m n hf 50 (by omega)
theorem rowFly_4 (r : Row) (n : Nat) (t : Int32) : (rowFly r n t).2 4 = nW n := by
  simp (disch := omega) only [rowFly, setSent, fset_ne, fset_eq]
theorem GI_fly {g : GS} {r : Row} (h : GI g) (hr : okG r) (hon : cB g.2 0 = true) (hn : (cL g.2 1).1 < 5) : GI (spFly g r) := by
  have hs := GI_send (r := pkFly r (cN g.2)) h hr.1 hon
  obtain ⟨h1, ⟨l1, l2, l3, l4⟩, h3, h4, h5, h6, h7, h8, h9, h10⟩ := h
  obtain ⟨s1, ⟨m1, m2, m3, m4⟩, s3, s4, s5, s6, s7, s8, s9, s10⟩ := hs
  have hex := h3 hon
  obtain ⟨⟨n1, n2⟩, n3⟩ := h4 hex
  rw [spIn_false] at n3
  have hl5 : (lpush (cL g.2 1) (rowFly r (cN g.2) (g.1 14))).1 ≤ 5 := by simp only [lpush]; omega
  have st := spStep_free hl5 (cN g.2)
  unfold GI spFly
  simp only [uB_B, uB_I, uB_F, uB_W, uB_K, uB_N, uB_L, uI_B, uI_I, uI_F, uI_W, uI_K, uI_N, uI_L, uF_B, uF_I, uF_F, uF_W, uF_K, uF_N, uF_L, uW_B, uW_I, uW_F, uW_W, uW_K, uW_N, uW_L, uK_B, uK_I, uK_F, uK_W, uK_K, uK_N, uK_L, uN_B, uN_I, uN_F, uN_W, uN_K, uN_N, uN_L, uL_B, uL_I, uL_F, uL_W, uL_K, uL_N, uL_L, fset_eq, fset_ne _ _ (show (0 : Nat) ≠ 1 by omega), fset_ne _ _ (show (2 : Nat) ≠ 1 by omega), fset_ne _ _ (show (3 : Nat) ≠ 1 by omega)]
  refine ⟨s1, ⟨m1, hl5, m3, m4⟩, s3, fun _ => ⟨st.2, st.1⟩, s5, ?_, ?_, s8, s9, fun e => ?_⟩
  · intro j hj
    simp only [lpush] at hj ⊢
    by_cases e : j = (cL g.2 1).1
    · simp only [e, ↓reduceIte]
      have g1 : (rowFly r (cN g.2) (g.1 14)).2 1 = r.2 1 := by simp (disch := omega) only [rowFly, setSent, fset_ne]
      have g5 : (rowFly r (cN g.2) (g.1 14)).2 5 = if r.2 1 = nW 1 then nW 1 else nW 2 := by simp (disch := omega) only [rowFly, setSent, fset_ne, fset_eq]
      refine ⟨⟨hr.1, by rw [g1]; exact hr.2⟩, fun e1 => ?_, fun e1 => ?_, cN g.2, n1, n2, rowFly_4 _ _ _⟩
      · rw [g1] at e1; rw [g5, if_pos e1]
      · rw [g1] at e1; rw [g5, e1]; exact Or.inl (by decide)
    · simp only [e, ↓reduceIte]; exact h6 j (by omega)
  · intro i j hi hj
    simp only [lpush] at hi hj ⊢
    by_cases ei : i = (cL g.2 1).1 <;> by_cases ej : j = (cL g.2 1).1
    · intro _; omega
    · simp only [ei, ej, ↓reduceIte, rowFly_4]; intro e; exact absurd e.symm (n3 j (by omega))
    · simp only [ei, ej, ↓reduceIte, rowFly_4]; intro e; exact absurd e (n3 i (by omega))
    · simp only [ei, ej, ↓reduceIte]; exact h7 i j (by omega) (by omega)
  · rw [spSend_B] at e; exact absurd (hex.symm.trans e) (by decide)
def spPend : Nat → GS → GS
  | 0, g => g
  | n + 1, g => if 0 < (cL g.2 2).1 ∧ spMay g = true then spPend n ((spFly g ((cL g.2 2).2 0)).1, uL (spFly g ((cL g.2 2).2 0)).2 2 (ldel (cL g.2 2) 0)) else g
theorem spMay_iff {g : GS} {w : Nat} (h : g.1 10 = nW w) (hw : w ≤ 5) (hl : (cL g.2 1).1 ≤ 5) : spMay g = true ↔ cB g.2 0 = true ∧ (cL g.2 1).1 < w := by
  unfold spMay
  rw [Bool.and_eq_true, decide_eq_true_eq, h, nW_lt (by omega) (by omega)]
theorem GI_may {g : GS} (h : GI g) (hm : spMay g = true) : cB g.2 0 = true ∧ (cL g.2 1).1 < 5 := by
  obtain ⟨w, h1, h2, h3⟩ := h.1
  have := (spMay_iff h1 h3 h.2.1.2.1).mp hm
  exact ⟨this.1, by omega⟩
theorem spFly_L2 (g : GS) (r : Row) {i : Nat} (h : i ≠ 0) (h1 : i ≠ 1) : cL (spFly g r).2 i = cL g.2 i := by
  simp only [spFly, uB_B, uB_I, uB_F, uB_W, uB_K, uB_N, uB_L, uI_B, uI_I, uI_F, uI_W, uI_K, uI_N, uI_L, uF_B, uF_I, uF_F, uF_W, uF_K, uF_N, uF_L, uW_B, uW_I, uW_F, uW_W, uW_K, uW_N, uW_L, uK_B, uK_I, uK_F, uK_W, uK_K, uK_N, uK_L, uN_B, uN_I, uN_F, uN_W, uN_K, uN_N, uN_L, uL_B, uL_I, uL_F, uL_W, uL_K, uL_N, uL_L, fset_ne _ _ h1, spSend_L _ _ h]
theorem spFly_B (g : GS) (r : Row) : cB (spFly g r).2 = cB g.2 := by simp only [spFly, uB_B, uB_I, uB_F, uB_W, uB_K, uB_N, uB_L, uI_B, uI_I, uI_F, uI_W, uI_K, uI_N, uI_L, uF_B, uF_I, uF_F, uF_W, uF_K, uF_N, uF_L, uW_B, uW_I, uW_F, uW_W, uW_K, uW_N, uW_L, uK_B, uK_I, uK_F, uK_W, uK_K, uK_N, uK_L, uN_B, uN_I, uN_F, uN_W, uN_K, uN_N, uN_L, uL_B, uL_I, uL_F, uL_W, uL_K, uL_N, uL_L, spSend_B]
theorem spFly_K (g : GS) (r : Row) : cK (spFly g r).2 = cK g.2 := by simp only [spFly, uB_B, uB_I, uB_F, uB_W, uB_K, uB_N, uB_L, uI_B, uI_I, uI_F, uI_W, uI_K, uI_N, uI_L, uF_B, uF_I, uF_F, uF_W, uF_K, uF_N, uF_L, uW_B, uW_I, uW_F, uW_W, uW_K, uW_N, uW_L, uK_B, uK_I, uK_F, uK_W, uK_K, uK_N, uK_L, uN_B, uN_I, uN_F, uN_W, uN_K, uN_N, uN_L, uL_B, uL_I, uL_F, uL_W, uL_K, uL_N, uL_L, spSend_K]
theorem spFly_W (g : GS) (r : Row) : cW (spFly g r).2 = cW g.2 := by simp only [spFly, uB_B, uB_I, uB_F, uB_W, uB_K, uB_N, uB_L, uI_B, uI_I, uI_F, uI_W, uI_K, uI_N, uI_L, uF_B, uF_I, uF_F, uF_W, uF_K, uF_N, uF_L, uW_B, uW_I, uW_F, uW_W, uW_K, uW_N, uW_L, uK_B, uK_I, uK_F, uK_W, uK_K, uK_N, uK_L, uN_B, uN_I, uN_F, uN_W, uN_K, uN_N, uN_L, uL_B, uL_I, uL_F, uL_W, uL_K, uL_N, uL_L, spSend_W]
theorem spFly_F (g : GS) (r : Row) : cF (spFly g r).2 = cF g.2 := by simp only [spFly, uB_B, uB_I, uB_F, uB_W, uB_K, uB_N, uB_L, uI_B, uI_I, uI_F, uI_W, uI_K, uI_N, uI_L, uF_B, uF_I, uF_F, uF_W, uF_K, uF_N, uF_L, uW_B, uW_I, uW_F, uW_W, uW_K, uW_N, uW_L, uK_B, uK_I, uK_F, uK_W, uK_K, uK_N, uK_L, uN_B, uN_I, uN_F, uN_W, uN_K, uN_N, uN_L, uL_B, uL_I, uL_F, uL_W, uL_K, uL_N, uL_L, spSend_F]
theorem GI_ldel2 {g : GS} (h : GI g) (i : Nat) : GI (g.1, uL g.2 2 (ldel (cL g.2 2) i)) := by
  obtain ⟨h1, ⟨l1, l2, l3, l4⟩, h3, h4, h5, h6, h7, h8, h9, h10⟩ := h
  unfold GI
  simp only [uB_B, uB_I, uB_F, uB_W, uB_K, uB_N, uB_L, uI_B, uI_I, uI_F, uI_W, uI_K, uI_N, uI_L, uF_B, uF_I, uF_F, uF_W, uF_K, uF_N, uF_L, uW_B, uW_I, uW_F, uW_W, uW_K, uW_N, uW_L, uK_B, uK_I, uK_F, uK_W, uK_K, uK_N, uK_L, uN_B, uN_I, uN_F, uN_W, uN_K, uN_N, uN_L, uL_B, uL_I, uL_F, uL_W, uL_K, uL_N, uL_L, fset_eq, fset_ne _ _ (show (0 : Nat) ≠ 2 by omega), fset_ne _ _ (show (1 : Nat) ≠ 2 by omega), fset_ne _ _ (show (3 : Nat) ≠ 2 by omega)]
  refine ⟨h1, ⟨l1, l2, by show (ldel (cL g.2 2) i).1 ≤ 8; simp only [ldel]; omega, l4⟩, h3, h4, h5, h6, h7, ?_, h9, fun e => ⟨(h10 e).1, by simp only [ldel, (h10 e).2.1], (h10 e).2.2⟩⟩
  intro j hj
  simp only [ldel] at hj ⊢
  split
  · exact h8 j (by omega)
  · exact h8 (j + 1) (by omega)
theorem spFly_pend (g : GS) (r : Row) : ((spFly g r).1, uL (spFly g r).2 2 (ldel (cL (spFly g r).2 2) 0)) = ((spFly g r).1, uL (spFly g r).2 2 (ldel (cL g.2 2) 0)) := by
  rw [spFly_L2 _ _ (by omega) (by omega)]
theorem GI_pend : ∀ n {g : GS}, GI g → GI (spPend n g)
  | 0, g, h => h
  | n + 1, g, h => by
    rw [spPend]
    split
    · rename_i hc
      obtain ⟨hm1, hm2⟩ := GI_may h hc.2
      have := GI_ldel2 (GI_fly h (h.2.2.2.2.2.2.2.1 0 hc.1) hm1 hm2) 0
      rw [spFly_pend] at this
      exact GI_pend n this
    · exact h
