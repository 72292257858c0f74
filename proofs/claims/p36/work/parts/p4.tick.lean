/-! TICKS: what they keep -/
def PXb (s t : Nat) (σ : Sg) : Prop := (∀ c, c < 6 → LdP (cF (gCl σ c))) ∧ (∀ c, c < 6 → ∃ n, n ≤ s ∧ cI (gCl σ c) 0 = nW n) ∧ (∃ n, n ≤ t ∧ gSc σ 14 = nW n) ∧ ReP (gRe σ) ∧ (∀ c, c < 6 → WiP (gCl σ c)) ∧ cB (gCl σ 5) 0 = false
theorem PXb_Pr {s t n : Nat} {σ σ' : Sg} (h : PXb s t σ) (hP : Pr n σ σ') (hF : ∀ c, cF (gCl σ' c) = cF (gCl σ c)) (hW : ∀ c, cB (gCl σ' c) = cB (gCl σ c) ∧ cW (gCl σ' c) = cW (gCl σ c)) : PXb (s + n) t σ' := by
  obtain ⟨h1, h2, ⟨m, hm, em⟩, h4, h5, h6⟩ := h
  obtain ⟨p1, p2, p3⟩ := hP
  refine ⟨fun c hc => by rw [hF c]; exact h1 c hc, fun c hc => ?_, ⟨m, hm, by rw [p2 14 (by omega) (by omega) (by omega) (by omega)]; exact em⟩, by rw [p3]; exact h4, fun c hc => WiP_of (h5 c hc) (fun e => by rw [← (hW c).1]; exact e) (hW c).2, by rw [(hW 5).1]; exact h6⟩
  obtain ⟨a, ha, ea⟩ := h2 c hc
  obtain ⟨b, hb, eb⟩ := p1 c
  exact ⟨a + b, by omega, by rw [eb, ea, nW_add]⟩
theorem PXb_late {s t k c : Nat} {σ : Sg} (h : PXb s t σ) (hS : SgI k σ) (hc : c < 6) : PXb (s + 5) t (tkLate c σ) := by
  have l5 : (cL (gCl σ c) 1).1 ≤ 5 := (hS.1.1.2 c hc).2.1.2.1
  unfold tkLate
  split
  · obtain ⟨a, b, _, d, _⟩ := late_same (cL (gCl σ c) 1).1 0 (getG σ c)
    refine PXb_Pr h (Pr_put ((PrG_late (cL (gCl σ c) 1).1 0 (getG σ c)).mono l5)) (fun c' => ?_) (fun c' => ?_)
    · rw [gCl_put]
      by_cases e : c' = c
      · subst e; rw [if_pos rfl]; exact d
      · rw [if_neg e]
    · rw [gCl_put]
      by_cases e : c' = c
      · subst e; rw [if_pos rfl]; exact ⟨a, b⟩
      · rw [if_neg e]; exact ⟨rfl, rfl⟩
  · obtain ⟨h1, h2, h3⟩ := h
    exact ⟨h1, fun c hc => by obtain ⟨m, hm, em⟩ := h2 c hc; exact ⟨m, by omega, em⟩, h3⟩
theorem PXb_load {s t c : Nat} {σ : Sg} (h : PXb s t σ) (hs : s < 2147483648) (hc : c < 6) : PXb s t (tkLoad c σ) := by
  obtain ⟨h1, h2, h3, h4, h5, h6⟩ := h
  unfold tkLoad
  refine ⟨fun c' hc' => ?_, fun c' hc' => ?_, h3, h4, fun c' hc' => ?_, ?_⟩
  · rw [gCl_put]
    by_cases e : c' = c
    · subst e
      rw [if_pos rfl]
      obtain ⟨m, hm, em⟩ := h2 c' hc'
      show LdP (ldv (cF (gCl σ c')) (cI (gCl σ c') 0))
      rw [em]
      exact ld_pos (h1 c' hc') (by omega)
    · rw [if_neg e]; exact h1 c' hc'
  · rw [gCl_put]
    by_cases e : c' = c
    · subst e
      rw [if_pos rfl]
      exact ⟨0, Nat.zero_le _, (fset_eq (cI (gCl σ c')) 0 (nW 0) : fset (cI (gCl σ c')) 0 (nW 0) 0 = nW 0)⟩
    · rw [if_neg e]; exact h2 c' hc'
  · rw [gCl_put]
    by_cases e : c' = c
    · subst e; rw [if_pos rfl]; exact WiP_of (h5 c' hc') (fun e => e) rfl
    · rw [if_neg e]; exact h5 c' hc'
  · rw [gCl_put]
    by_cases e : 5 = c
    · rw [if_pos e, ← e]; exact h6
    · rw [if_neg e]; exact h6
theorem PXb_exp {s t c : Nat} {σ : Sg} (h : PXb s t σ) : PXb s t (tkExp c σ) := by
  obtain ⟨h1, h2, h3, h4, h5, h6⟩ := h
  unfold tkExp
  split
  · refine ⟨fun c' hc' => ?_, fun c' hc' => ?_, ?_, h4, fun c' hc' => ?_, ?_⟩
    · show LdP (cF (gCl (spRemove σ c) c'))
      rw [(NL_remove σ c c').1]; exact h1 c' hc'
    · show ∃ n, n ≤ s ∧ cI (gCl (spRemove σ c) c') 0 = nW n
      rw [(remove_x σ c c').1]; exact h2 c' hc'
    · show ∃ n, n ≤ t ∧ tot (gSc σ) 7 14 = nW n
      rw [tot_ne _ (by omega)]; exact h3
    · show WiP (gCl (spRemove σ c) c')
      exact WiP_of (h5 c' hc') (fun e => by rw [← (remove_x σ c c').2.1]; exact e) (remove_x σ c c').2.2.1
    · show cB (gCl (spRemove σ c) 5) 0 = false
      rw [(remove_x σ c 5).2.2.2]; exact h6
  · exact ⟨h1, h2, h3, h4, h5, h6⟩
theorem itS_late {s t k : Nat} : ∀ n c σ, c + n ≤ 6 → SgI k σ → PXb s t σ → SgI k (itS tkLate n c σ) ∧ PXb (s + 5 * n) t (itS tkLate n c σ)
  | 0, c, σ, _, hS, h => ⟨hS, h⟩
  | n + 1, c, σ, hn, hS, h => by
    obtain ⟨a, b⟩ := itS_late (s := s + 5) (t := t) n (c + 1) (tkLate c σ) (by omega) (SgI_late hS (by omega)) (PXb_late h hS (by omega))
    rw [show s + 5 * (n + 1) = s + 5 + 5 * n by omega]
    exact ⟨a, b⟩
theorem itS_load {s t : Nat} (hs : s < 2147483648) : ∀ n c σ, c + n ≤ 6 → PXb s t σ → PXb s t (itS tkLoad n c σ)
  | 0, _, _, _, h => h
  | n + 1, c, σ, hn, h => itS_load hs n (c + 1) (tkLoad c σ) (by omega) (PXb_load h hs (by omega))
theorem itS_exp {s t : Nat} : ∀ n c σ, PXb s t σ → PXb s t (itS tkExp n c σ)
  | 0, _, _, h => h
  | n + 1, c, σ, h => itS_exp n (c + 1) (tkExp c σ) (PXb_exp h)
theorem PX_tick {k : Nat} {σ : Sg} (h : PX k σ) {j : Nat} (hS : SgI j σ) (hk : k < 10000) : PX (k + 1) (spTick σ) := by
  have h0 : PXb (100 * k) (100 * k) σ := h
  have h1 : PXb (100 * k) (100 * k + 1) (tkClock σ) := by
    obtain ⟨a, b, ⟨n, hn, e⟩, d⟩ := h0
    refine ⟨a, b, ⟨n + 1, by omega, ?_⟩, d⟩
    show fset (gSc σ) 14 (gSc σ 14 + nW 1) 14 = _
    rw [fset_eq, e, nW_add]
  obtain ⟨_, h2⟩ := itS_late 6 0 (tkClock σ) (by omega) (SgI_clock hS) h1
  have h3 := itS_load (by omega) 6 0 _ (by omega) h2
  have h4 := itS_exp 6 0 _ h3
  obtain ⟨a, b, ⟨n, hn, e⟩, d⟩ := h4
  exact ⟨a, fun c hc => by obtain ⟨m, hm, em⟩ := b c hc; exact ⟨m, by omega, em⟩, ⟨n, by omega, e⟩, d⟩
theorem late_14 (c : Nat) (σ : Sg) : gSc (tkLate c σ) 14 = gSc σ 14 := by
  unfold tkLate
  split
  · exact (PrG_late (cL (gCl σ c) 1).1 0 (getG σ c)).2 14 (by omega) (by omega) (by omega)
  · rfl
theorem exp_14 (c : Nat) (σ : Sg) : gSc (tkExp c σ) 14 = gSc σ 14 := by
  unfold tkExp
  split
  · show tot (gSc σ) 7 14 = gSc σ 14
    exact tot_ne _ (by omega)
  · rfl
theorem itS_14 {f : Nat → Sg → Sg} (hf : ∀ c σ, gSc (f c σ) 14 = gSc σ 14) : ∀ n c σ, gSc (itS f n c σ) 14 = gSc σ 14
  | 0, _, _ => rfl
  | n + 1, c, σ => (itS_14 hf n (c + 1) (f c σ)).trans (hf c σ)
theorem tick_14 (σ : Sg) : gSc (spTick σ) 14 = gSc σ 14 + nW 1 := by
  unfold spTick
  rw [itS_14 exp_14, itS_14 (f := tkLoad) (fun _ _ => rfl), itS_14 late_14]
  show fset (gSc σ) 14 (gSc σ 14 + nW 1) 14 = _
  exact fset_eq _ _ _
theorem PX_itT {k j : Nat} : ∀ m σ, SgI j σ → PX k σ → k + m < 10000 → PX (k + m) (itT m σ) ∧ gSc (itT m σ) 14 = gSc σ 14 + nW m
  | 0, σ, _, h, _ => ⟨h, (add_w0 _).symm⟩
  | m + 1, σ, hS, h, hk => by
    rw [itT]
    obtain ⟨a, b⟩ := PX_itT (k := k + 1) m (spTick σ) (SgI_tick hS) (PX_tick h hS (by omega)) (by omega)
    rw [show k + (m + 1) = k + 1 + m by omega]
    exact ⟨a, by rw [b, tick_14, add_nW, Nat.add_comm]⟩
/-! ANSWERS -/
theorem ans_facts (g : GS) (kind id : Int32) : (∃ m, m ≤ 8 ∧ cI (spAns g kind id).2.2 0 = cI g.2 0 + nW m) ∧ ∀ i, i ≠ 2 → i ≠ 4 → i ≠ 8 → i ≠ 9 → (spAns g kind id).2.1 i = g.1 i := by
  have h0 : (∃ m, m ≤ 8 ∧ cI g.2 0 = cI g.2 0 + nW m) ∧ ∀ i, i ≠ 2 → i ≠ 4 → i ≠ 8 → i ≠ 9 → g.1 i = g.1 i := ⟨⟨0, by omega, (add_w0 _).symm⟩, fun _ _ _ _ _ => rfl⟩
  unfold spAns
  split
  · exact h0
  · rename_i k _
    unfold spAnsAt
    split
    · obtain ⟨⟨m, hm, em⟩, h2⟩ := PrG_rel g k
      exact ⟨⟨m, by omega, em⟩, fun i a b c _ => h2 i a b c⟩
    · split
      · obtain ⟨⟨m, hm, em⟩, h2⟩ := PrG_pend 8 (tot g.1 9, uL g.2 1 (ldel (cL g.2 1) k))
        exact ⟨⟨m, by omega, em⟩, fun i a b c d => (h2 i a b c).trans (tot_ne _ d)⟩
      · exact h0
/-- an answer to the first message in flight, of the kind that it waits for -/
theorem ans_first (g : GS) (hG : GI g) (hn : 0 < (cL g.2 1).1) : ((cL g.2 1).2 0).2 5 = nW 1 ∨ ((cL g.2 1).2 0).2 5 = nW 2 ∨ ((cL g.2 1).2 0).2 5 = nW 4 := by
  obtain ⟨⟨o1, o2⟩, o3, o4, _⟩ := hG.2.2.2.2.2.1 0 hn
  rcases o2 with e | e
  · exact Or.inl (o3 e)
  · rcases o4 e with q | q
    · exact Or.inr (Or.inl q)
    · exact Or.inr (Or.inr q)
theorem fly_at0 (g : GS) (hn : 0 < (cL g.2 1).1) : flAt g (((cL g.2 1).2 0).2 4) = some 0 := by
  unfold flAt
  obtain ⟨n, hN⟩ : ∃ n, (cL g.2 1).1 = n + 1 := ⟨(cL g.2 1).1 - 1, by omega⟩
  rw [hN, ffind]
  simp
theorem ans_step (g : GS) (hG : GI g) (hn : 0 < (cL g.2 1).1) : (spAns g (((cL g.2 1).2 0).2 5) (((cL g.2 1).2 0).2 4)).1 = true ∧ (spAns g (((cL g.2 1).2 0).2 5) (((cL g.2 1).2 0).2 4)).2.1 9 = g.1 9 + nW (if ((cL g.2 1).2 0).2 5 = nW 2 then 0 else 1) ∧ (cL (spAns g (((cL g.2 1).2 0).2 5) (((cL g.2 1).2 0).2 4)).2.2 1).1 + (cL (spAns g (((cL g.2 1).2 0).2 5) (((cL g.2 1).2 0).2 4)).2.2 2).1 + (if ((cL g.2 1).2 0).2 5 = nW 2 then 0 else 1) = (cL g.2 1).1 + (cL g.2 2).1 := by
  obtain ⟨⟨o1, o2⟩, o3, o4, _⟩ := hG.2.2.2.2.2.1 0 hn
  have e0 : spAns g (((cL g.2 1).2 0).2 5) (((cL g.2 1).2 0).2 4) = spAnsAt g (((cL g.2 1).2 0).2 5) 0 := by
    unfold spAns; rw [fly_at0 g hn]
  rw [e0]
  unfold spAnsAt
  by_cases h2 : ((cL g.2 1).2 0).2 5 = nW 2
  · have g2 : ((cL g.2 1).2 0).2 1 = nW 2 := by
      rcases o2 with e | e
      · have := o3 e
        rw [this] at h2
        exact absurd h2 (by decide)
      · exact e
    rw [if_pos ⟨h2, g2⟩, if_pos h2]
    refine ⟨rfl, ?_, ?_⟩
    · rw [add_w0]
      exact (PrG_rel g 0).2 9 (by omega) (by omega) (by omega)
    · have e1 : cL (spRel g 0).2 1 = lset (cL g.2 1) 0 (rowRel ((cL g.2 1).2 0) (g.1 14)) := by
        simp (disch := omega) only [spRel, uB_B, uB_I, uB_F, uB_W, uB_K, uB_N, uB_L, uI_B, uI_I, uI_F, uI_W, uI_K, uI_N, uI_L, uF_B, uF_I, uF_F, uF_W, uF_K, uF_N, uF_L, uW_B, uW_I, uW_F, uW_W, uW_K, uW_N, uW_L, uK_B, uK_I, uK_F, uK_W, uK_K, uK_N, uK_L, uN_B, uN_I, uN_F, uN_W, uN_K, uN_N, uN_L, uL_B, uL_I, uL_F, uL_W, uL_K, uL_N, uL_L, fset_eq]
      have e2 : cL (spRel g 0).2 2 = cL g.2 2 := by
        simp (disch := omega) only [spRel, uB_B, uB_I, uB_F, uB_W, uB_K, uB_N, uB_L, uI_B, uI_I, uI_F, uI_W, uI_K, uI_N, uI_L, uF_B, uF_I, uF_F, uF_W, uF_K, uF_N, uF_L, uW_B, uW_I, uW_F, uW_W, uW_K, uW_N, uW_L, uK_B, uK_I, uK_F, uK_W, uK_K, uK_N, uK_L, uN_B, uN_I, uN_F, uN_W, uN_K, uN_N, uN_L, uL_B, uL_I, uL_F, uL_W, uL_K, uL_N, uL_L, fset_ne]
        unfold spSignR
        exact spSend_L _ _ (by omega)
      show (cL (spRel g 0).2 1).1 + (cL (spRel g 0).2 2).1 + 0 = _
      rw [e1, e2]; rfl
  · rw [if_neg (fun q => h2 q.1), if_pos rfl, if_neg h2]
    refine ⟨rfl, ?_, ?_⟩
    · show (spEnd g 0).1 9 = _
      unfold spEnd
      rw [(PrG_pend 8 (tot g.1 9, uL g.2 1 (ldel (cL g.2 1) 0))).2 9 (by omega) (by omega) (by omega)]
      show tot g.1 9 9 = g.1 9 + nW 1
      exact tot_eq _ _
    · show (cL (spEnd g 0).2 1).1 + (cL (spEnd g 0).2 2).1 + 1 = _
      unfold spEnd
      rw [pend_len]
      have e1 : cL (uL g.2 1 (ldel (cL g.2 1) 0)) 1 = ldel (cL g.2 1) 0 := by simp (disch := omega) only [uB_B, uB_I, uB_F, uB_W, uB_K, uB_N, uB_L, uI_B, uI_I, uI_F, uI_W, uI_K, uI_N, uI_L, uF_B, uF_I, uF_F, uF_W, uF_K, uF_N, uF_L, uW_B, uW_I, uW_F, uW_W, uW_K, uW_N, uW_L, uK_B, uK_I, uK_F, uK_W, uK_K, uK_N, uK_L, uN_B, uN_I, uN_F, uN_W, uN_K, uN_N, uN_L, uL_B, uL_I, uL_F, uL_W, uL_K, uL_N, uL_L, fset_eq]
      have e2 : cL (uL g.2 1 (ldel (cL g.2 1) 0)) 2 = cL g.2 2 := by simp (disch := omega) only [uB_B, uB_I, uB_F, uB_W, uB_K, uB_N, uB_L, uI_B, uI_I, uI_F, uI_W, uI_K, uI_N, uI_L, uF_B, uF_I, uF_F, uF_W, uF_K, uF_N, uF_L, uW_B, uW_I, uW_F, uW_W, uW_K, uW_N, uW_L, uK_B, uK_I, uK_F, uK_W, uK_K, uK_N, uK_L, uN_B, uN_I, uN_F, uN_W, uN_K, uN_N, uN_L, uL_B, uL_I, uL_F, uL_W, uL_K, uL_N, uL_L, fset_ne]
      rw [e1, e2]
      show (cL g.2 1).1 - 1 + _ + 1 = _
      omega
