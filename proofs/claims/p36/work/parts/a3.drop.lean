/-! A SUBSCRIPTION IS DROPPED -/
theorem SI_drop {σ : Sg} {c k : Nat} (h : SI σ) (hc : c < 6) (hk : k < (cL (gCl σ c) 3).1) : SI (spDrop σ c k) := by
  have hex : cB (gCl σ c) 3 = true := by
    cases e : cB (gCl σ c) 3 with
    | true => rfl
    | false =>
      have h0 : (cL (gCl σ c) 3).1 = 0 := ((h.1.2 c hc).2.2.2.2.2.2.2.2.2 e).2.2.1
      omega
  obtain ⟨s1, s2⟩ := h.2.1 c hc
  have hS4 := h.2.2.2.1
  have l6 : (cL (gCl σ c) 3).1 ≤ 6 := (h.1.2 c hc).2.1.2.2.2
  unfold spDrop spDropL
  by_cases h0 : ((cL (gCl σ c) 3).2 k).2 1 = nW 0
  · rw [if_pos h0]
    refine SI_L3 h hc hex (by simp only [ldel]; omega) (SubOk_del s1 k hk) (SubDi_del s2 k hk) h.2.2.1 (CC_drop0 h.2.2.1.2.1 hk h0 (hS4 c hc).1) (fun j hj hg => ?_) (fun c' hc' _ => hS4 c' hc')
    obtain ⟨j', a, _, b⟩ := ldel_lt (cL (gCl σ c) 3) k hj hk
    rw [b] at hg ⊢; exact (hS4 c hc).2 j' a hg
  · rw [if_neg h0]
    obtain ⟨k1, k2, k3, k4⟩ := leaveK h.2.2.1 hk s2 (hS4 c hc).1 h0
    refine SI_L3 h hc hex (by simp only [ldel]; omega) (SubOk_del s1 k hk) (SubDi_del s2 k hk) k1 k2 (fun j hj hg => ?_) (fun c' hc' e => ⟨leaveK_other h.2.2.1 e (hS4 c' hc').1, ?_⟩)
    · obtain ⟨j', a, ne, b⟩ := ldel_lt (cL (gCl σ c) 3) k hj hk
      rw [b] at hg ⊢
      obtain ⟨x, hx, hkx⟩ := (hS4 c hc).2 j' a hg
      refine ⟨x, ?_, hkx⟩
      unfold shLeaveK
      cases e : shAt (gSh σ) ((cL (gCl σ c) 3).2 k).1 (((cL (gCl σ c) 3).2 k).2 1) with
      | none => exact hx
      | some hh =>
        obtain ⟨h1, h2, h3⟩ := shAt_some e
        show x ∈ shLeave (gSh σ) hh c
        rw [shLeave_at h1]
        rw [take_drop_at (gSh σ) shD h1, List.mem_append, List.mem_cons] at hx
        rcases hx with hx | hx | hx
        · exact List.mem_append.mpr (Or.inl (List.mem_append.mpr (Or.inl hx)))
        · exfalso
          have : suKey ((cL (gCl σ c) 3).2 j') = suKey ((cL (gCl σ c) 3).2 k) := by
            rw [← hkx, hx]; unfold shKey suKey; rw [h2, h3]
          exact ne (SubDi_key s2 a hk this)
        · exact List.mem_append.mpr (Or.inr hx)
    · unfold shLeaveK
      cases e2 : shAt (gSh σ) ((cL (gCl σ c) 3).2 k).1 (((cL (gCl σ c) 3).2 k).2 1) with
      | none => exact (hS4 c' hc').2
      | some hh => exact CE_leave (shAt_some e2).1 h.2.2.1 e (hS4 c' hc').1 (hS4 c' hc').2
/-- what unsubscribing asks of a state -/
def spUnsub (σ : Sg) (c : Nat) (t : Txt) (gr : Int32) : Bool × Sg := match subAt (cL (gCl σ c) 3) t gr with
  | none => (false, σ)
  | some k => (true, spDrop σ c k)
theorem St_unsub {M : Mem} {S x c : Nat} {σ : Sg} {t : Txt} (gr : Int32) (hZ : inZ S) (hR : StR M S σ) (hS : SI σ) (hc : c < 6) (hx : TextR M x t) : ∃ M', f_X7_removeSubscription S (nW c) x gr M = some (zI (spUnsub σ c t gr).1, M') ∧ Fr (SZ S) M M' ∧ StR M' S (spUnsub σ c t gr).2 := by
  obtain ⟨s1, s2, s3, s4, s5, s6, s7, s8⟩ := StR_k hR
  have kc := (CR_k (StR_get hR hc)).2.1
  have hC := hZ.c hc
  have hZ' := hZ
  obtain ⟨d1, d2⟩ := hZ
  have hcl := hR.2.1 c hc
  have hSub : SubsR M (S + 2 + 60 * c + 36) (cL (gCl σ c) 3) := hcl.2.2.2.2.2.1
  have hsub' : SubsR M (S + 2 + 60 * c + 34 + 2) (cL (gCl σ c) 3) := hSub
  have pl := X5_placeOf gr hcl.2.2.2.1 hsub' hx
  unfold spUnsub
  cases e : subAt (cL (gCl σ c) 3) t gr with
  | none =>
    rw [e] at pl
    have m1 : ¬ nW 0 ≤ (-nW 1 : Int32) := by decide
    refine ⟨M, ?_, Fr.refl _ _, hR⟩
    simp only [f_X7_removeSubscription, s1, ↓reduceIte, s2, Option.bind_some, s8 c hc, kc, pl, bindP, posI, nW_lit, m1, okZ_0, zI_f]
  | some k =>
    rw [e] at pl
    obtain ⟨hk, q1, q2⟩ := subAt_lt e
    have l6 : (cL (gCl σ c) 3).1 ≤ 6 := (hS.1.2 c hc).2.1.2.2.2
    obtain ⟨M1, e1, F1, R1⟩ := Cl_delSub hC hcl hk
    obtain ⟨H1, F1'⟩ := St_cl hR hc F1 (fun a h => by omega) R1
    have k0 : nW 0 ≤ nW k := by rw [nW_le (by omega) (by omega)]; omega
    show ∃ M', f_X7_removeSubscription S (nW c) x gr M = some (zI true, M') ∧ Fr (SZ S) M M' ∧ StR M' S (spDrop σ c k)
    unfold spDrop spDropL
    rw [q1, q2]
    by_cases g0 : gr = nW 0
    · rw [if_pos g0]
      refine ⟨M1, ?_, F1', H1⟩
      simp only [f_X7_removeSubscription, s1, ↓reduceIte, s2, Option.bind_some, s8 c hc, kc, pl, bindP, posI, nW_lit, k0, e1, eq_true g0, okZ_1, zI_t]
    · rw [if_neg g0]
      obtain ⟨t1, t2, t3, t4, t5, t6, t7, t8⟩ := StR_k H1
      have pl2 := X7_placeOfShare gr (BaR_O H1.1) H1.2.2.1 (hx.gr F1.gr)
      have pl3 : f_X7_placeOfShare S x gr M1 = some (posI (shAt (gSh σ) t gr), M1) := pl2
      obtain ⟨y, hy, hky⟩ := (hS.2.2.2.1 c hc).2 k hk (by rw [q1]; exact g0)
      unfold shLeaveK
      cases ea : shAt (gSh σ) t gr with
      | none =>
        exact absurd (by rw [hky]; unfold suKey; rw [q1, q2]) (shAt_none ea y hy)
      | some h =>
        obtain ⟨h1, h2, h3⟩ := shAt_some ea
        rw [ea] at pl3
        obtain ⟨m1, m2, m3⟩ := hS.2.2.1.1 _ (shAt_get h1)
        obtain ⟨M2, e2, F2, R2⟩ := X7_leaveShare (i := h) hZ' H1 h1 m1 m2 hc
        refine ⟨M2, ?_, F1'.trans (F2.mono (fun b h => by unfold SZ; omega)), R2⟩
        simp only [f_X7_removeSubscription, s1, ↓reduceIte, s2, Option.bind_some, s8 c hc, kc, pl, bindP, posI, nW_lit, k0, e1, eq_false g0, pl3, e2, okZ_1, zI_t]
/-! a share is joined, in the reference -/
