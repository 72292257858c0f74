/-! CONNECT, RELEASE, ANSWER -/
theorem off_endC {σ : Sg} {c : Nat} : cB (gCl (spEndC σ c) c) 0 = false := by
  unfold spEndC
  split
  · have e : gCl (spRemove (putG σ c (gSc σ, spOff (gCl σ c) (gSc σ 14))) c) c = spClear (spOff (gCl σ c) (gSc σ 14)) := by
      rw [spRemove_put]; exact fset_eq _ _ _
    rw [e]; simp (disch := omega) only [spClear, spOff, uB_B, uB_I, uB_F, uB_W, uB_K, uB_N, uB_L, uI_B, uI_I, uI_F, uI_W, uI_K, uI_N, uI_L, uF_B, uF_I, uF_F, uF_W, uF_K, uF_N, uF_L, uW_B, uW_I, uW_F, uW_W, uW_K, uW_N, uW_L, uK_B, uK_I, uK_F, uK_W, uK_K, uK_N, uK_L, uN_B, uN_I, uN_F, uN_W, uN_K, uN_N, uN_L, uL_B, uL_I, uL_F, uL_W, uL_K, uL_N, uL_L, fset_ne, fset_eq]
  · rw [gCl_putG]; simp (disch := omega) only [spOff, uB_B, uB_I, uB_F, uB_W, uB_K, uB_N, uB_L, uI_B, uI_I, uI_F, uI_W, uI_K, uI_N, uI_L, uF_B, uF_I, uF_F, uF_W, uF_K, uF_N, uF_L, uW_B, uW_I, uW_F, uW_W, uW_K, uW_N, uW_L, uK_B, uK_I, uK_F, uK_W, uK_K, uK_N, uK_L, uN_B, uN_I, uN_F, uN_W, uN_K, uN_N, uN_L, uL_B, uL_I, uL_F, uL_W, uL_K, uL_N, uL_L, fset_ne, fset_eq]
theorem off_fail {σ : Sg} {c : Nat} : cB (gCl (spFail σ c).2 c) 0 = false := by
  unfold spFail
  split
  · rw [((SB_publ _ _ _ _).1 c).1]
    have e : gCl (spNoWill (spEndC σ c) c) c = uB (gCl (spEndC σ c) c) 1 false := gCl_putG _ _ _
    rw [e]; simp (disch := omega) only [uB_B, uB_I, uB_F, uB_W, uB_K, uB_N, uB_L, uI_B, uI_I, uI_F, uI_W, uI_K, uI_N, uI_L, uF_B, uF_I, uF_F, uF_W, uF_K, uF_N, uF_L, uW_B, uW_I, uW_F, uW_W, uW_K, uW_N, uW_L, uK_B, uK_I, uK_F, uK_W, uK_K, uK_N, uK_L, uN_B, uN_I, uN_F, uN_W, uN_K, uN_N, uN_L, uL_B, uL_I, uL_F, uL_W, uL_K, uL_N, uL_L, fset_ne]; exact off_endC
  · exact off_endC
theorem fr_0 {M M' : Mem} {P : Nat → Prop} (F : Fr P M M') (hP : ¬ P 0) (h : (mK M 0).1 = 11 ∧ mR M 0 6 = some 8) : (mK M' 0).1 = 11 ∧ mR M' 0 6 = some 8 := by
  have := F.2.2 0 (Or.inr hP)
  exact ⟨by rw [F.1]; exact h.1, by rw [this.2.2.2]; exact h.2⟩
theorem SI_forget {σ : Sg} {c i : Nat} (h : SI σ) (hc : c < 6) (hex : cB (gCl σ c) 3 = true) : SI (putG σ c (gSc σ, spForget (gCl σ c) i)) := by
  refine SI_put h hc (GI_K (h.1.2 c hc) hex) (fun _ _ _ => rfl) rfl ?_
  have := h.2.2.2.2.2.2 c hc
  exact this
theorem sign_same (g : GS) (kind id : Int32) : cB (spSignR g kind id).2 = cB g.2 ∧ cW (spSignR g kind id).2 = cW g.2 ∧ cL (spSignR g kind id).2 3 = cL g.2 3 ∧ cF (spSignR g kind id).2 = cF g.2 ∧ ∀ j, 10 ≤ j → (spSignR g kind id).1 j = g.1 j := by
  unfold spSignR
  exact ⟨spSend_B _ _, spSend_W _ _, spSend_L _ _ (by decide), spSend_F _ _, fun j hj => spSend_sc _ _ (by omega)⟩
theorem ans_same (g : GS) (kind id : Int32) : cB (spAns g kind id).2.2 = cB g.2 ∧ cW (spAns g kind id).2.2 = cW g.2 ∧ cL (spAns g kind id).2.2 3 = cL g.2 3 ∧ cF (spAns g kind id).2.2 = cF g.2 ∧ ∀ j, 10 ≤ j → (spAns g kind id).2.1 j = g.1 j := by
  unfold spAns
  cases flAt g id with
  | none => exact ⟨rfl, rfl, rfl, rfl, fun _ _ => rfl⟩
  | some q =>
    show cB (spAnsAt g kind q).2.2 = _ ∧ cW (spAnsAt g kind q).2.2 = _ ∧ cL (spAnsAt g kind q).2.2 3 = _ ∧ cF (spAnsAt g kind q).2.2 = _ ∧ ∀ j, 10 ≤ j → (spAnsAt g kind q).2.1 j = g.1 j
    unfold spAnsAt
    split
    · have sm := sign_same g (nW 3) (((cL g.2 1).2 q).2 4)
      refine ⟨sm.1, sm.2.1, ?_, sm.2.2.2.1, sm.2.2.2.2⟩
      show cL (spRel g q).2 3 = _
      simp (disch := omega) only [spRel, uB_B, uB_I, uB_F, uB_W, uB_K, uB_N, uB_L, uI_B, uI_I, uI_F, uI_W, uI_K, uI_N, uI_L, uF_B, uF_I, uF_F, uF_W, uF_K, uF_N, uF_L, uW_B, uW_I, uW_F, uW_W, uW_K, uW_N, uW_L, uK_B, uK_I, uK_F, uK_W, uK_K, uK_N, uK_L, uN_B, uN_I, uN_F, uN_W, uN_K, uN_N, uN_L, uL_B, uL_I, uL_F, uL_W, uL_K, uL_N, uL_L, fset_ne]; exact sm.2.2.1
    · split
      · have sm := spPend_same 8 (tot g.1 9, uL g.2 1 (ldel (cL g.2 1) q))
        refine ⟨sm.1, sm.2.1, ?_, sm.2.2.2.1, fun j hj => ?_⟩
        · show cL (spEnd g q).2 3 = _
          unfold spEnd
          rw [sm.2.2.1]; simp (disch := omega) only [uB_B, uB_I, uB_F, uB_W, uB_K, uB_N, uB_L, uI_B, uI_I, uI_F, uI_W, uI_K, uI_N, uI_L, uF_B, uF_I, uF_F, uF_W, uF_K, uF_N, uF_L, uW_B, uW_I, uW_F, uW_W, uW_K, uW_N, uW_L, uK_B, uK_I, uK_F, uK_W, uK_K, uK_N, uK_L, uN_B, uN_I, uN_F, uN_W, uN_K, uN_N, uN_L, uL_B, uL_I, uL_F, uL_W, uL_K, uL_N, uL_L, fset_ne]
        · show (spEnd g q).1 j = _
          unfold spEnd
          rw [sm.2.2.2.2 j hj]; exact fset_ne _ _ (by omega)
      · exact ⟨rfl, rfl, rfl, rfl, fun _ _ => rfl⟩
