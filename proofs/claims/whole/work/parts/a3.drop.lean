/-! A SUBSCRIPTION IS DROPPED -/
theorem SI_drop {σ : Sg} {c k : Nat} (h : SI σ) (hc : c < 6) (hk : k < (cL (gCl σ c) 3).1) : SI (spDrop σ c k) := by
  have hex : cB (gCl σ c) 3 = true := by
    cases e : cB (gCl σ c) 3 with
    | true => rfl
    | false =>
      have h0 : (cL (gCl σ c) 3).1 = 0 := ((h.1.2 c hc).2.2.2.2.2.2.2.2.2 e).2.2.1
      omega
  obtain ⟨s1, s2⟩ := h.2.1 c hc
  have hS4 := h.2.2.2.1
  have l6 : (cL (gCl σ c) 3).1 ≤ 6 := (h.1.2 c hc).2.1.2.2.2
  unfold spDrop spDropL
  by_cases h0 : ((cL (gCl σ c) 3).2 k).2 1 = nW 0
  · rw [if_pos h0]
    refine SI_L3 h hc hex (by simp only [ldel]; omega) (SubOk_del s1 k hk) (SubDi_del s2 k hk) h.2.2.1 (CC_drop0 h.2.2.1.2.1 hk h0 (hS4 c hc).1) (fun j hj hg => ?_) (fun c' hc' _ => hS4 c' hc')
    obtain ⟨j', a, _, b⟩ := ldel_lt (cL (gCl σ c) 3) k hj hk
    rw [b] at hg ⊢; exact (hS4 c hc).2 j' a hg
  · rw [if_neg h0]
    obtain ⟨k1, k2, k3, k4⟩ := leaveK h.2.2.1 hk s2 (hS4 c hc).1 h0
    refine SI_L3 h hc hex (by simp only [ldel]; omega) (SubOk_del s1 k hk) (SubDi_del s2 k hk) k1 k2 (fun j hj hg => ?_) (fun c' hc' e => ⟨leaveK_other h.2.2.1 e (hS4 c' hc').1, ?_⟩)
    · obtain ⟨j', a, ne, b⟩ := ldel_lt (cL (gCl σ c) 3) k hj hk
      rw [b] at hg ⊢
      obtain ⟨x, hx, hkx⟩ := (hS4 c hc).2 j' a hg
      refine ⟨x, ?_, hkx⟩
      unfold shLeaveK
      cases e : shAt (gSh σ) ((cL (gCl σ c) 3).2 k).1 (((cL (gCl σ c) 3).2 k).2 1) with
      | none => exact hx
      | some hh =>
        obtain ⟨h1, h2, h3⟩ := shAt_some e
        show x ∈ shLeave (gSh σ) hh c
        rw [shLeave_at h1]
        rw [take_drop_at (gSh σ) shD h1, List.mem_append, List.mem_cons] at hx
        rcases hx with hx | hx | hx
        · exact List.mem_append.mpr (Or.inl (List.mem_append.mpr (Or.inl hx)))
        · exfalso
          have : suKey ((cL (gCl σ c) 3).2 j') = suKey ((cL (gCl σ c) 3).2 k) := by
            rw [← hkx, hx]; unfold shKey suKey; rw [h2, h3]
          exact ne (SubDi_key s2 a hk this)
        · exact List.mem_append.mpr (Or.inr hx)
    · unfold shLeaveK
      cases e2 : shAt (gSh σ) ((cL (gCl σ c) 3).2 k).1 (((cL (gCl σ c) 3).2 k).2 1) with
      | none => exact (hS4 c' hc').2
      | some hh => exact CE_leave (shAt_some e2).1 h.2.2.1 e (hS4 c' hc').1 (hS4 c' hc').2
/-- what unsubscribing asks of a state -/
def spUnsub (σ : Sg) (c : Nat) (t : Txt) (gr : Int32) : Bool × Sg := match subAt (cL (gCl σ c) 3) t gr with
  | none => (false, σ)
  | some k => (true, spDrop σ c k)
theorem St_unsub {M : Mem} {S x c : Nat} {σ : Sg} {t : Txt} (gr : Int32) (hZ : inZ S) (hR : StR M S σ) (hS : SI σ) (hc : c < 6) (hx : TextR M x t) : ∃ M', f_X7_removeSubscription S (nW c) x gr M = some (zI (spUnsub σ c t gr).1, M') ∧ Fr (SZ S) M M' ∧ StR M' S (spUnsub σ c t gr).2 := by
  obtain ⟨s1, s2, s3, s4, s5, s6, s7, s8⟩ := StR_k hR
  have kc := (CR_k (StR_get hR hc)).2.1
  have hC := hZ.c hc
  have hZ' := hZ
  obtain ⟨d1, d2⟩ := hZ
  have hcl := hR.2.1 c hc
  have hSub : SubsR M (S + 2 + 60 * c + 36) (cL (gCl σ c) 3) := hcl.2.2.2.2.2.1
  have hsub' : SubsR M (S + 2 + 60 * c + 34 + 2) (cL (gCl σ c) 3) := hSub
  have pl := X5_placeOf gr hcl.2.2.2.1 hsub' hx
  unfold spUnsub
  cases e : subAt (cL (gCl σ c) 3) t gr with
  | none =>
    rw [e] at pl
    have m1 : ¬ nW 0 ≤ (-nW 1 : Int32) := by decide
    refine ⟨M, ?_, Fr.refl _ _, hR⟩
    simp only [f_X7_removeSubscription, s1, ↓reduceIte, s2, Option.bind_some, s8 c hc, kc, pl, bindP, posI, nW_lit, m1, okZ_0, zI_f]
  | some k =>
    rw [e] at pl
    obtain ⟨hk, q1, q2⟩ := subAt_lt e
    have l6 : (cL (gCl σ c) 3).1 ≤ 6 := (hS.1.2 c hc).2.1.2.2.2
    obtain ⟨M1, e1, F1, R1⟩ := Cl_delSub hC hcl hk
    obtain ⟨H1, F1'⟩ := St_cl hR hc F1 (fun a h => by omega) R1
    have k0 : nW 0 ≤ nW k := by rw [nW_le (by omega) (by omega)]; omega
    show ∃ M', f_X7_removeSubscription S (nW c) x gr M = some (zI true, M') ∧ Fr (SZ S) M M' ∧ StR M' S (spDrop σ c k)
    unfold spDrop spDropL
    rw [q1, q2]
    by_cases g0 : gr = nW 0
    · rw [if_pos g0]
      refine ⟨M1, ?_, F1', H1⟩
      simp only [f_X7_removeSubscription, s1, ↓reduceIte, s2, Option.bind_some, s8 c hc, kc, pl, bindP, posI, nW_lit, k0, e1, eq_true g0, okZ_1, zI_t]
    · rw [if_neg g0]
      obtain ⟨t1, t2, t3, t4, t5, t6, t7, t8⟩ := StR_k H1
      have pl2 := X7_placeOfShare gr (BaR_O H1.1) H1.2.2.1 (hx.gr F1.gr)
      have pl3 : f_X7_placeOfShare S x gr M1 = some (posI (shAt (gSh σ) t gr), M1) := pl2
      obtain ⟨y, hy, hky⟩ := (hS.2.2.2.1 c hc).2 k hk (by rw [q1]; exact g0)
      unfold shLeaveK
      cases ea : shAt (gSh σ) t gr with
      | none =>
        exact absurd (by rw [hky]; unfold suKey; rw [q1, q2]) (shAt_none ea y hy)
      | some h =>
        obtain ⟨h1, h2, h3⟩ := shAt_some ea
        rw [ea] at pl3
        obtain ⟨m1, m2, m3⟩ := hS.2.2.1.1 _ (shAt_get h1)
        obtain ⟨M2, e2, F2, R2⟩ := X7_leaveShare (i := h) hZ' H1 h1 m1 m2 hc
        refine ⟨M2, ?_, F1'.trans (F2.mono (fun b h => by unfold SZ; omega)), R2⟩
        simp only [f_X7_removeSubscription, s1, ↓reduceIte, s2, Option.bind_some, s8 c hc, kc, pl, bindP, posI, nW_lit, k0, e1, eq_false g0, pl3, e2, okZ_1, zI_t]
/-! a share is joined, in the reference -/
theorem ref_join_J126 {N : Mem} {V : VR} {s : Nat → Int32} {t : Nat → Int64} {h c m : Nat} (hk : KR N) (hh : h < 36) (hm : m < 6) (e : s (1866 + h) = nW m) : f_X12_joinsShare_J126 908 (nW c) (nW h) (QW N V s t) = some (QW N V (fset (fset s (1902 + 6 * h + m) (nW c)) (1866 + h) (nW (m + 1))) t) := by
  simp (disch := omega) only [f_X12_joinsShare_J126, q_k hk, q_gR1 hk, q_gR2 hk, q_gR8 hk, q_gR11 hk, q_gR13 hk, q_gR14 hk, q_gR15 hk, q_gR16 hk, q_gI hk, q_pI hk, q_a hk, q_w hk, q_l hk, nW_add, nW_mul, nW_sub, nW_le, nW_lt, nW_inj, irem_nW, ix_nW, nW_lit, e, Option.bind_some, fset_ne]
theorem ref_join_L2 {N : Mem} {V : VR} {s : Nat → Int32} {t : Nat → Int64} (hk : KR N) {c j : Nat} {r : Row} {l : List Sh} (hc : c < 6) (hj : j < 6) (hR : R_sh s t l) (h36 : l.length ≤ 36) (hG : ShG l) (h6 : ∀ x ∈ l, x.2.2.length ≤ 6) (s1 : s (446 + (6 * c + j)) = r.2 1) (s2 : s (518 + (6 * c + j)) = nW r.1.length) (t1 : TB t (24 + 4 * (6 * c + j)) r.1) (o1 : okTx r.1) (hnew : shAt l r.1 (r.2 1) = none → l.length < 36) (hold : ∀ h, shAt l r.1 (r.2 1) = some h → (l.getD h shD).2.2.length < 6) : ∀ n i, i ≤ l.length → l.length - i < n → ffind (shP l r.1 (r.2 1)) (l.length - i) i = shAt l r.1 (r.2 1) → ∃ s' t', f_X12_joinsShare_L2 n 908 (nW c) (nW (6 * c + j)) (nW i) (QW N V s t) = some (QW N V s' t') ∧ R_sh s' t' (shJoin l r.1 (r.2 1) c) ∧ FSh s s' ∧ FtS t t'
  | 0, i, _, hn, _ => absurd hn (by omega)
  | n + 1, i, hi, hn, hf => by
    have m6 : ∀ j, j < l.length → (l.getD j shD).2.2.length ≤ 6 := fun j hj => h6 _ (shAt_get hj)
    by_cases he : i = l.length
    · subst he
      rw [Nat.sub_self, ffind] at hf
      have hl := hnew hf.symm
      have hJ : f_X12_joinsShare_J29 908 (nW c) (nW (6 * c + j)) (nW l.length) (QW N V s t) = some (QW N V (fset (fset (fset (fset (fset (fset s (1794 + l.length) (r.2 1)) (1830 + l.length) (nW r.1.length)) (1866 + l.length) (nW 0)) 16 (nW (l.length + 1))) (1902 + 6 * l.length + 0) (nW c)) (1866 + l.length) (nW (0 + 1))) (blk t (1256 + 4 * l.length) (fun x => t (24 + 4 * (6 * c + j) + x)))) := by
        simp (disch := omega) only [f_X12_joinsShare_J29, q_k hk, q_gR1 hk, q_gR2 hk, q_gR8 hk, q_gR11 hk, q_gR13 hk, q_gR14 hk, q_gR15 hk, q_gR16 hk, q_gI hk, q_pI hk, q_a hk, q_w hk, q_l hk, nW_add, nW_mul, nW_sub, nW_le, nW_lt, nW_inj, irem_nW, ix_nW, nW_lit, hR.1, ↓reduceIte, Option.bind_some, fset_ne, s1, s2, q_mv hk]
        exact ref_join_J126 hk (by omega) (by omega) (by simp (disch := omega) only [fset_ne, fset_eq])
      refine ⟨(fset (fset (fset (fset (fset (fset s (1794 + l.length) (r.2 1)) (1830 + l.length) (nW r.1.length)) (1866 + l.length) (nW 0)) 16 (nW (l.length + 1))) (1902 + 6 * l.length + 0) (nW c)) (1866 + l.length) (nW (0 + 1))), (blk t (1256 + 4 * l.length) (fun x => t (24 + 4 * (6 * c + j) + x))), ?_, ?_, fun i a b => by simp (disch := omega) only [fset_ne], fun i a => blk_out _ _ (by omega)⟩
      · simp (disch := omega) only [f_X12_joinsShare_L2, q_k hk, q_gR1 hk, q_gR2 hk, q_gR8 hk, q_gR11 hk, q_gR13 hk, q_gR14 hk, q_gR15 hk, q_gR16 hk, q_gI hk, q_pI hk, q_a hk, q_w hk, q_l hk, nW_add, nW_mul, nW_sub, nW_le, nW_lt, nW_inj, irem_nW, ix_nW, nW_lit, hR.1, Nat.le_refl, ↓reduceIte, Option.bind_some]
        exact hJ
      · unfold shJoin
        rw [← hf]
        have ll : (l ++ [(r.1, r.2 1, [c])]).length = l.length + 1 := by simp
        refine ⟨?_, fun i hi => ?_⟩
        · show _ = nW (l ++ [(r.1, r.2 1, [c])]).length
          rw [ll]; simp (disch := omega) only [fset_ne, fset_eq]
        · have hi' : i < (l ++ [(r.1, r.2 1, [c])]).length := hi
          rw [ll] at hi'
          show R_sh1 _ _ i ((l ++ [(r.1, r.2 1, [c])]).getD i shD)
          rw [gd_snoc _ _ _ _ (by omega)]
          by_cases e : i = l.length
          · subst e; rw [if_pos rfl]
            refine ⟨by simp (disch := omega) only [fset_ne, fset_eq], by simp (disch := omega) only [fset_ne, fset_eq], by simp (disch := omega) only [fset_eq]; rfl, TB.blk t1, fun k hk => ?_⟩
            have k0 : k = 0 := by have : k < 1 := hk; omega
            subst k0
            rw [← Nat.add_assoc]
            simp (disch := omega) only [fset_ne, fset_eq]; rfl
          · rw [if_neg e]
            exact (hR.2 i (by omega)).fr (m6 i (by omega)) (by simp (disch := omega) only [fset_ne]) (by simp (disch := omega) only [fset_ne]) (by simp (disch := omega) only [fset_ne]) (fun k hk => by simp (disch := omega) only [fset_ne]) (fun k hk => blk_out _ _ (by omega))
    · have hil : i < l.length := by omega
      have n1 : ¬ l.length ≤ i := by omega
      obtain ⟨y1, y2, y3, y4, y5⟩ := hR.2 i hil
      have ox := (hG.2.1 _ (shAt_get hil)).1
      have ish := ref_isShareOf (N := N) (V := V) (c := nW c) (k := 6 * c + j) (r := r) hk (by omega) (show i < 36 by omega) s1 y1 t1 y4 o1 ox
      rw [show l.length - i = (l.length - (i + 1)) + 1 by omega, ffind] at hf
      by_cases hp : shP l r.1 (r.2 1) i = true
      · rw [if_pos hp] at hf
        have hl := hold i hf.symm
        have hb : (decide ((l.getD i shD).2.1 = r.2 1) && decide ((l.getD i shD).1 = r.1)) = true := hp
        have n16 : ¬ i = l.length := by omega
        have n0 : ¬ nW 1 = nW 0 := by decide
        obtain ⟨R1, F1⟩ := R_sh_put (h := i) (m := (l.getD i shD).2.2 ++ [c]) (s' := fset (fset s (1902 + 6 * i + (l.getD i shD).2.2.length) (nW c)) (1866 + i) (nW ((l.getD i shD).2.2.length + 1))) hR h36 h6 hil (fun a b d => by simp (disch := omega) only [fset_ne]) (by rw [fset_eq, List.length_append]; rfl) (fun k hk => by
          have hk' : k < (l.getD i shD).2.2.length + 1 := by rw [List.length_append] at hk; exact hk
          rw [gd_snoc _ _ _ _ (by omega)]
          by_cases e : k = (l.getD i shD).2.2.length
          · rw [if_pos e, e, ← Nat.add_assoc]; simp (disch := omega) only [fset_ne, fset_eq]
          · rw [if_neg e]; simp (disch := omega) only [fset_ne]; exact y5 k (by omega))
        refine ⟨_, t, ?_, ?_, F1, fun _ _ => rfl⟩
        · rw [hb] at ish
          simp (disch := omega) only [f_X12_joinsShare_L2, q_k hk, q_gR1 hk, q_gR2 hk, q_gR8 hk, q_gR11 hk, q_gR13 hk, q_gR14 hk, q_gR15 hk, q_gR16 hk, q_gI hk, q_pI hk, q_a hk, q_w hk, q_l hk, nW_add, nW_mul, nW_sub, nW_le, nW_lt, nW_inj, irem_nW, ix_nW, nW_lit, hR.1, n1, ↓reduceIte, Option.bind_some, ish, bindP, zI_t, n0, f_X12_joinsShare_J29, n16]
          exact ref_join_J126 hk (by omega) hl y3
        · unfold shJoin
          rw [← hf]; exact R1
      · rw [if_neg hp] at hf
        have hb : (decide ((l.getD i shD).2.1 = r.2 1) && decide ((l.getD i shD).1 = r.1)) = false := by
          cases e : shP l r.1 (r.2 1) i with
          | true => exact absurd e hp
          | false => exact e
        obtain ⟨s', t', e, R⟩ := ref_join_L2 (N := N) (V := V) hk hc hj hR h36 hG h6 s1 s2 t1 o1 hnew hold n (i + 1) (by omega) (by omega) hf
        refine ⟨s', t', ?_, R⟩
        rw [hb] at ish
        simp (disch := omega) only [f_X12_joinsShare_L2, q_k hk, q_gR1 hk, q_gR2 hk, q_gR8 hk, q_gR11 hk, q_gR13 hk, q_gR14 hk, q_gR15 hk, q_gR16 hk, q_gI hk, q_pI hk, q_a hk, q_w hk, q_l hk, nW_add, nW_mul, nW_sub, nW_le, nW_lt, nW_inj, irem_nW, ix_nW, nW_lit, hR.1, n1, ↓reduceIte, Option.bind_some, ish, bindP, zI_f, e]
theorem ref_join {N : Mem} {V : VR} {s : Nat → Int32} {t : Nat → Int64} (hk : KR N) {c j : Nat} {r : Row} {l : List Sh} (hc : c < 6) (hj : j < 6) (hR : R_sh s t l) (h36 : l.length ≤ 36) (hG : ShG l) (h6 : ∀ x ∈ l, x.2.2.length ≤ 6) (s1 : s (446 + (6 * c + j)) = r.2 1) (s2 : s (518 + (6 * c + j)) = nW r.1.length) (t1 : TB t (24 + 4 * (6 * c + j)) r.1) (o1 : okTx r.1) (hnew : shAt l r.1 (r.2 1) = none → l.length < 36) (hold : ∀ h, shAt l r.1 (r.2 1) = some h → (l.getD h shD).2.2.length < 6) : ∃ s' t', f_X12_joinsShare 908 (nW c) (nW (6 * c + j)) (QW N V s t) = some (QW N V s' t') ∧ R_sh s' t' (shJoin l r.1 (r.2 1) c) ∧ FSh s s' ∧ FtS t t' := by
  obtain ⟨s', t', e, R⟩ := ref_join_L2 (N := N) (V := V) hk hc hj hR h36 hG h6 s1 s2 t1 o1 hnew hold FU 0 (by omega) (by simp only [FU]; omega) rfl
  exact ⟨s', t', by simp only [f_X12_joinsShare, q_k hk, ↓reduceIte, nW_lit, e], R⟩
