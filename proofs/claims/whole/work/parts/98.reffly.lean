/-! FLIGHTS, in the reference -/
theorem pigeon : ∀ (n : Nat) (f : Nat → Nat), (∀ i, i ≤ n → f i < n) → ∃ i j, i < j ∧ j ≤ n ∧ f i = f j
  | 0, f, h => absurd (h 0 (Nat.le_refl _)) (by omega)
  | n + 1, f, h => by
    by_cases hx : ∃ i, i ≤ n ∧ f i = f (n + 1)
    · obtain ⟨i, h1, h2⟩ := hx
      exact ⟨i, n + 1, by omega, by omega, h2⟩
    · have hno : ∀ i, i ≤ n → f i ≠ f (n + 1) := fun i hi e => hx ⟨i, hi, e⟩
      obtain ⟨i, j, h1, h2, h3⟩ := pigeon n (fun i => if f i = n then f (n + 1) else f i) (fun i hi => by
        have a := h i (by omega)
        have b := h (n + 1) (by omega)
        have c := hno i hi
        split <;> omega)
      have a := hno i (by omega)
      have b := hno j h2
      refine ⟨i, j, h1, by omega, ?_⟩
      split at h3 <;> split at h3
      · omega
      · exact absurd h3.symm b
      · exact absurd h3 a
      · exact h3
def spIt : Nat → Nat → Nat
  | 0, n => n
  | m + 1, n => spIt m (spNext n)
theorem spNext_rng (n : Nat) : 1 ≤ spNext n ∧ spNext n ≤ 50 := by unfold spNext; split <;> omega
theorem spNext_mod {n : Nat} (h : n ≤ 50) : n % 50 + 1 = spNext n := by unfold spNext; split <;> omega
theorem spIt_eq : ∀ (m : Nat) {n : Nat}, 1 ≤ n → n ≤ 50 → spIt m n = (n - 1 + m) % 50 + 1
  | 0, n, h1, h2 => by rw [spIt]; omega
  | m + 1, n, h1, h2 => by
    have := spNext_rng n
    rw [spIt, spIt_eq m this.1 this.2, ← spNext_mod h2]; omega
theorem spIt_free {l : Ls Row} (hl : l.1 ≤ 5) {n : Nat} (h1 : 1 ≤ n) (h2 : n ≤ 50) : ∃ m, m ≤ 5 ∧ spIn l (spIt m n) = false := by
  apply Classical.byContradiction
  intro hc
  have hall : ∀ m, m ≤ 5 → ∃ k, ffind (fun j => decide ((l.2 j).2 4 = nW (spIt m n))) l.1 0 = some k := by
    intro m hm
    cases e : spIn l (spIt m n) with
    | false => exact absurd ⟨m, hm, e⟩ hc
    | true => exact Option.isSome_iff_exists.mp e
  obtain ⟨i, j, a1, a2, a3⟩ := pigeon 5 (fun m => (ffind (fun j => decide ((l.2 j).2 4 = nW (spIt m n))) l.1 0).getD 0) (fun m hm => by
    obtain ⟨k, e⟩ := hall m hm
    simp only [e, Option.getD_some]
    have := (ffind_some e).2.1; omega)
  obtain ⟨k, e⟩ := hall i (by omega)
  obtain ⟨k', e'⟩ := hall j a2
  simp only [e, e', Option.getD_some] at a3
  subst a3
  have b1 := of_decide_eq_true (ffind_some e).2.2.1
  have b2 := of_decide_eq_true (ffind_some e').2.2.1
  rw [b1, spIt_eq i h1 h2, spIt_eq j h1 h2, nW_inj (by omega) (by omega)] at b2
  omega
theorem anyB_ffind (p : Nat → Bool) : ∀ n i, anyB p n i = (ffind p n i).isSome
  | 0, i => rfl
  | n + 1, i => by
    rw [anyB, ffind]
    cases p i with
    | true => simp
    | false => simp [anyB_ffind p n (i + 1)]
theorem ref_isIn_L5 {N : Mem} {V : VR} {s : Nat → Int32} {t : Nat → Int64} (hk : KR N) {c : Nat} {l : Ls Row} (id : Int32) (hc : c < 6) (hl : l.1 ≤ 5) (h1 : s (56 + c) = nW l.1) (h2 : ∀ j, j < l.1 → s (554 + 5 * c + j) = (l.2 j).2 4) : ∀ n j a, j ≤ l.1 → l.1 - j < n → f_X12_isInFlight_L5 n 908 (nW c) id (zI a) (nW j) (QW N V s t) = some (zI (a || anyB (fun j => decide ((l.2 j).2 4 = id)) (l.1 - j) j), QW N V s t)
  | 0, j, a, _, hn => absurd hn (by omega)
  | n + 1, j, a, hj, hn => by
    by_cases he : j = l.1
    · subst he
      simp (disch := omega) only [f_X12_isInFlight_L5, q_k hk, q_gR1 hk, q_gR2 hk, q_gR8 hk, q_gR11 hk, q_gR13 hk, q_gR14 hk, q_gR15 hk, q_gR16 hk, q_gI hk, q_pI hk, q_a hk, q_w hk, q_l hk, nW_add, nW_mul, nW_sub, nW_le, nW_lt, nW_inj, irem_nW, ix_nW, nW_lit, h1, Nat.le_refl, ↓reduceIte, Option.bind_some, okZ_z, Nat.sub_self, anyB, Bool.or_false]
    · have n1 : ¬ l.1 ≤ j := by omega
      have i1 := ref_isIn_L5 (N := N) (V := V) (t := t) hk id hc hl h1 h2 n (j + 1) true (by omega) (by omega)
      have i0 := ref_isIn_L5 (N := N) (V := V) (t := t) hk id hc hl h1 h2 n (j + 1) false (by omega) (by omega)
      rw [zI_t] at i1
      rw [zI_f] at i0
      rw [show l.1 - j = (l.1 - (j + 1)) + 1 by omega, anyB]
      have h3 := h2 j (by omega)
      cases a with
      | true =>
        have t1 : ¬ nW 1 = nW 0 := by decide
        simp (disch := omega) only [f_X12_isInFlight_L5, q_k hk, q_gR1 hk, q_gR2 hk, q_gR8 hk, q_gR11 hk, q_gR13 hk, q_gR14 hk, q_gR15 hk, q_gR16 hk, q_gI hk, q_pI hk, q_a hk, q_w hk, q_l hk, nW_add, nW_mul, nW_sub, nW_le, nW_lt, nW_inj, irem_nW, ix_nW, nW_lit, h1, n1, ↓reduceIte, Option.bind_some, zI_t, t1, i1, Bool.true_or]
      | false =>
        by_cases hq : (l.2 j).2 4 = id
        · simp (disch := omega) only [f_X12_isInFlight_L5, q_k hk, q_gR1 hk, q_gR2 hk, q_gR8 hk, q_gR11 hk, q_gR13 hk, q_gR14 hk, q_gR15 hk, q_gR16 hk, q_gI hk, q_pI hk, q_a hk, q_w hk, q_l hk, nW_add, nW_mul, nW_sub, nW_le, nW_lt, nW_inj, irem_nW, ix_nW, nW_lit, h1, n1, ↓reduceIte, Option.bind_some, zI_f, h3, eq_true hq, i1, Bool.true_or, Bool.or_true, decide_true]
        · simp (disch := omega) only [f_X12_isInFlight_L5, q_k hk, q_gR1 hk, q_gR2 hk, q_gR8 hk, q_gR11 hk, q_gR13 hk, q_gR14 hk, q_gR15 hk, q_gR16 hk, q_gI hk, q_pI hk, q_a hk, q_w hk, q_l hk, nW_add, nW_mul, nW_sub, nW_le, nW_lt, nW_inj, irem_nW, ix_nW, nW_lit, h1, n1, ↓reduceIte, Option.bind_some, zI_f, h3, eq_false hq, i0, Bool.false_or, decide_false]
theorem ref_isIn {N : Mem} {V : VR} {s : Nat → Int32} {t : Nat → Int64} (hk : KR N) {c id : Nat} {l : Ls Row} (hc : c < 6) (hl : l.1 ≤ 5) (h1 : s (56 + c) = nW l.1) (h2 : ∀ j, j < l.1 → s (554 + (5 * c + j)) = (l.2 j).2 4) : f_X12_isInFlight 908 (nW c) (nW id) (QW N V s t) = some (zI (spIn l id), QW N V s t) := by
  have := ref_isIn_L5 (N := N) (V := V) (s := s) (t := t) hk (nW id) hc hl h1 (fun j hj => by rw [Nat.add_assoc]; exact h2 j hj) FU 0 false (by omega) (by simp only [FU]; omega)
  rw [zI_f, Bool.false_or, anyB_ffind] at this
  simp only [f_X12_isInFlight, q_k hk, ↓reduceIte, nW_lit, this, spIn, Nat.sub_zero]
theorem ref_next_L172 {N : Mem} {V : VR} {s : Nat → Int32} {t : Nat → Int64} (hk : KR N) {c : Nat} {l : Ls Row} (hc : c < 6) (hl : l.1 ≤ 5) (h1 : s (56 + c) = nW l.1) (h2 : ∀ j, j < l.1 → s (554 + (5 * c + j)) = (l.2 j).2 4) : ∀ m n, n ≤ 50 → spIn l (spIt m (spNext n)) = false → ∀ fu k, m < fu → m < k → f_X12_flies_L172 fu 908 (nW c) (nW (spNext n)) (QW N V s t) = some (QW N V (fset s (44 + c) (nW (spStep l k n))) t)
  | m, n, hn, hf, 0, k, h3, _ => absurd h3 (by omega)
  | m, n, hn, hf, fu + 1, 0, _, h4 => absurd h4 (by omega)
  | m, n, hn, hf, fu + 1, k + 1, h3, h4 => by
    have hr := spNext_rng n
    have e := ref_isIn (N := N) (V := V) (t := t) (id := spNext n) hk hc hl h1 h2
    by_cases hi : spIn l (spNext n) = true
    · match m, hf, h3, h4 with
      | 0, hf, _, _ => rw [spIt, hi] at hf; cases hf
      | m + 1, hf, h3, h4 =>
        have ih := ref_next_L172 (N := N) (V := V) (t := t) hk hc hl h1 h2 m (spNext n) hr.2 hf fu k (by omega) (by omega)
        have t1 : ¬ nW 1 = nW 0 := by decide
        rw [spStep, if_pos hi]
        simp (disch := omega) only [f_X12_flies_L172, nW_add, nW_mul, nW_sub, nW_le, nW_lt, nW_inj, irem_nW, ix_nW, nW_lit, e, bindP, hi, zI_t, t1, ↓reduceIte, spNext_mod, ih]
    · have hi2 : spIn l (spNext n) = false := by simpa using hi
      rw [spStep, if_neg hi]
      simp (disch := omega) only [f_X12_flies_L172, q_k hk, q_gR1 hk, q_gR2 hk, q_gR8 hk, q_gR11 hk, q_gR13 hk, q_gR14 hk, q_gR15 hk, q_gR16 hk, q_gI hk, q_pI hk, q_a hk, q_w hk, q_l hk, nW_add, nW_mul, nW_sub, nW_le, nW_lt, nW_inj, irem_nW, ix_nW, nW_lit, e, bindP, hi2, zI_f, ↓reduceIte, Option.bind_some]
theorem ref_next {N : Mem} {V : VR} {s : Nat → Int32} {t : Nat → Int64} (hk : KR N) {c n : Nat} {l : Ls Row} (hc : c < 6) (hl : l.1 ≤ 5) (h1 : s (56 + c) = nW l.1) (h2 : ∀ j, j < l.1 → s (554 + (5 * c + j)) = (l.2 j).2 4) (hn : n ≤ 50) : f_X12_flies_L172 FU 908 (nW c) (nW (spNext n)) (QW N V s t) = some (QW N V (fset s (44 + c) (nW (spStep l 50 n))) t) := by
  have hr := spNext_rng n
  obtain ⟨m, hm, hf⟩ := spIt_free hl hr.1 hr.2
  exact ref_next_L172 hk hc hl h1 h2 m n hn hf FU 50 (by simp only [FU]; omega) (by omega)
theorem spSend_uL (sc : Nat → Int32) (c : Cl) (r : Row) {i : Nat} (l : Ls Row) (hi : i ≠ 0) : spSend (sc, uL c i l) r = ((spSend (sc, c) r).1, uL (spSend (sc, c) r).2 i l) := by
  have e : fset (cL c) i l 0 = cL c 0 := fset_ne _ _ (Ne.symm hi)
  simp only [spSend, uB_B, uB_I, uB_F, uB_W, uB_K, uB_N, uB_L, uI_B, uI_I, uI_F, uI_W, uI_K, uI_N, uI_L, uF_B, uF_I, uF_F, uF_W, uF_K, uF_N, uF_L, uW_B, uW_I, uW_F, uW_W, uW_K, uW_N, uW_L, uK_B, uK_I, uK_F, uK_W, uK_K, uK_N, uK_L, uN_B, uN_I, uN_F, uN_W, uN_K, uN_N, uN_L, uL_B, uL_I, uL_F, uL_W, uL_K, uL_N, uL_L, e]
  by_cases h : (cL c 0).1 < 30
  · simp only [h, ↓reduceIte, uL, uI, Prod.mk.injEq, true_and]
    funext j
    by_cases h0 : j = 0
    · subst h0; rw [fset_eq, fset_ne _ _ (Ne.symm hi), fset_eq]
    · rw [fset_ne _ _ h0]
      by_cases h1 : j = i
      · subst h1; rw [fset_eq, fset_eq]
      · rw [fset_ne _ _ h1, fset_ne _ _ h1, fset_ne _ _ h0]
  · simp only [h, ↓reduceIte, uL, uI]
/-- the reference's parts of a client: what an operation leaves of them -/
theorem ref_flies {N : Mem} {V : VR} {s : Nat → Int32} {t : Nat → Int64} {c a i : Nat} {g : GS} {r : Row} (ret : Int32) (hk : KR N) (hc : c < 6) (h : RG s t c g) (hex : cB g.2 3 = true) (hN : 1 ≤ cN g.2 ∧ cN g.2 ≤ 50) (hn : (cL g.2 1).1 < 5) (hg : r.2 1 = nW 1 ∨ r.2 1 = nW 2) (hret : r.2 3 = nW 2 * ret) (hsrc : Src N V t a i r.1) (hd : a = 910 → 312 ≤ i) : ∃ s' t', f_X12_flies 908 (nW c) (r.2 1) (r.2 2) ret a (nW i) (QW N V s t) = some (QW N V s' t') ∧ RG s' t' c (spFly g r) ∧ FT c s s' ∧ Ft c t t' := by
  have hh := h
  obtain ⟨hsc, ⟨l1, l2, l3, l4⟩, ⟨a1, a2, a3, a4, a5, a6, a7, a8⟩, b, w, k, u, f, p, q⟩ := h
  obtain ⟨b1, b2, b3⟩ := b hex
  obtain ⟨v, e1, hv⟩ := hsrc (fset (fset (fset (fset (fset (fset s (554 + (5 * c + (cL g.2 1).1)) (nW (cN g.2))) (584 + (5 * c + (cL g.2 1).1)) (r.2 1)) (614 + (5 * c + (cL g.2 1).1)) (r.2 2)) (644 + (5 * c + (cL g.2 1).1)) ret) (674 + (5 * c + (cL g.2 1).1)) (r.2 1)) (704 + (5 * c + (cL g.2 1).1)) (s 0)) t (168 + 4 * (5 * c + (cL g.2 1).1)) (fun _ _ => rfl) (fun e => by have := hd e; omega) (by omega)
  have hw : (if r.2 1 = nW 1 then nW 1 else nW 2) = r.2 1 := by
    rcases hg with e | e
    · rw [e]; rfl
    · rw [e]; decide
  have hG : RG (fset (fset (fset (fset (fset (fset (fset s (554 + (5 * c + (cL g.2 1).1)) (nW (cN g.2))) (584 + (5 * c + (cL g.2 1).1)) (r.2 1)) (614 + (5 * c + (cL g.2 1).1)) (r.2 2)) (644 + (5 * c + (cL g.2 1).1)) ret) (674 + (5 * c + (cL g.2 1).1)) (r.2 1)) (704 + (5 * c + (cL g.2 1).1)) (s 0)) (56 + c) (nW ((cL g.2 1).1 + 1))) (blk t (168 + 4 * (5 * c + (cL g.2 1).1)) v) c (g.1, uL g.2 1 (lpush (cL g.2 1) (rowFly r (cN g.2) (g.1 14)))) := by
    refine ⟨hsc.fr (fun i hi => by simp (disch := omega) only [fset_ne]), ⟨l1, by show (lpush (cL g.2 1) _).1 ≤ 5; simp only [lpush]; omega, l3, l4⟩, ?_, b.fr hc (fun i h1 h2 => by simp (disch := omega) only [fset_ne]), w.fr hc (fun i h1 h2 => by simp (disch := omega) only [fset_ne]) (fun i h1 => by simp (disch := omega) only [blk_out]), k.fr hc (fun i h1 h2 => by simp (disch := omega) only [fset_ne]), u.fr hc l4 (fun i h1 h2 => by simp (disch := omega) only [fset_ne]) (fun i h1 h2 => by simp (disch := omega) only [blk_out]), ?_, p.fr hc l3 (fun i h1 h2 => by simp (disch := omega) only [fset_ne]) (fun i h1 h2 => by simp (disch := omega) only [blk_out]), q.fr hc l1 (fun i h1 h2 => by simp (disch := omega) only [fset_ne]) (fun i h1 h2 => by simp (disch := omega) only [blk_out])⟩
    · unfold R_c1
      simp (disch := omega) only [uB_B, uB_I, uB_F, uB_W, uB_K, uB_N, uB_L, uI_B, uI_I, uI_F, uI_W, uI_K, uI_N, uI_L, uF_B, uF_I, uF_F, uF_W, uF_K, uF_N, uF_L, uW_B, uW_I, uW_F, uW_W, uW_K, uW_N, uW_L, uK_B, uK_I, uK_F, uK_W, uK_K, uK_N, uK_L, uN_B, uN_I, uN_F, uN_W, uN_K, uN_N, uN_L, uL_B, uL_I, uL_F, uL_W, uL_K, uL_N, uL_L, fset_ne, fset_eq, a1, a2, a3, a4, a5, a6, a7, a8, lpush, and_self]
    · intro j hj
      simp only [uB_B, uB_I, uB_F, uB_W, uB_K, uB_N, uB_L, uI_B, uI_I, uI_F, uI_W, uI_K, uI_N, uI_L, uF_B, uF_I, uF_F, uF_W, uF_K, uF_N, uF_L, uW_B, uW_I, uW_F, uW_W, uW_K, uW_N, uW_L, uK_B, uK_I, uK_F, uK_W, uK_K, uK_N, uK_L, uN_B, uN_I, uN_F, uN_W, uN_K, uN_N, uN_L, uL_B, uL_I, uL_F, uL_W, uL_K, uL_N, uL_L, fset_eq, lpush] at hj ⊢
      by_cases e : j = (cL g.2 1).1
      · subst e
        simp (disch := omega) only [fset_ne, fset_eq, ↓reduceIte, rowFly, setSent, hw, hret, hsc.1, true_and, and_self]
        exact TB.blk hv
      · obtain ⟨h1, h2, h3, h4, h5, h6, h7⟩ := f j (by omega)
        simp (disch := omega) only [fset_ne, e, ↓reduceIte, h1, h2, h3, h4, h5, h6, true_and]
        exact h7.fr (fun k hk => blk_out _ _ (by omega))
  have hFT : FT c s (fset (fset (fset (fset (fset (fset (fset s (554 + (5 * c + (cL g.2 1).1)) (nW (cN g.2))) (584 + (5 * c + (cL g.2 1).1)) (r.2 1)) (614 + (5 * c + (cL g.2 1).1)) (r.2 2)) (644 + (5 * c + (cL g.2 1).1)) ret) (674 + (5 * c + (cL g.2 1).1)) (r.2 1)) (704 + (5 * c + (cL g.2 1).1)) (s 0)) (56 + c) (nW ((cL g.2 1).1 + 1))) := fun i h1 h2 => by
    simp only [cs] at h2; simp (disch := omega) only [fset_ne]
  have hFt : Ft c t (blk t (168 + 4 * (5 * c + (cL g.2 1).1)) v) := fun i h2 => by
    simp only [ct] at h2; exact blk_out _ _ (by omega)
  have hT : TB (blk t (168 + 4 * (5 * c + (cL g.2 1).1)) v) (168 + 4 * (5 * c + (cL g.2 1).1)) r.1 := TB.blk hv
  obtain ⟨s2, t2, e2, G2, F2, Ft2⟩ := ref_sends (N := N) (V := V) (kind := nW 0) (id := nW (cN g.2)) (gr := r.2 1) (pay := r.2 2) (fl := nW 2 * ret) hk hc hG (Src_t hk (by omega) hT) (fun _ => by omega)
  rw [spSend_uL _ _ _ _ (by decide)] at G2
  have epk : mkPk r.1 (nW 0) (nW (cN g.2)) (r.2 1) (r.2 2) (nW 2 * ret) = pkFly r (cN g.2) := by
    rw [pkFly, hret]; congr 1; exact (Int32.add_zero _).symm
  rw [epk] at G2
  obtain ⟨gs, ⟨m1, m2, m3, m4⟩, ⟨c1, c2, c3, c4, c5, c6, c7, c8⟩, cb, cw, ck, cu, cf, cp, cq⟩ := G2
  have e3 := ref_next (N := N) (V := V) (s := s2) (t := t2) (n := cN g.2) hk hc m2 c4 (fun j hj => (cf j hj).1) hN.2
  simp only [uB_B, uB_I, uB_F, uB_W, uB_K, uB_N, uB_L, uI_B, uI_I, uI_F, uI_W, uI_K, uI_N, uI_L, uF_B, uF_I, uF_F, uF_W, uF_K, uF_N, uF_L, uW_B, uW_I, uW_F, uW_W, uW_K, uW_N, uW_L, uK_B, uK_I, uK_F, uK_W, uK_K, uK_N, uK_L, uN_B, uN_I, uN_F, uN_W, uN_K, uN_N, uN_L, uL_B, uL_I, uL_F, uL_W, uL_K, uL_N, uL_L, fset_eq] at e3
  refine ⟨fset s2 (44 + c) (nW (spStep (lpush (cL g.2 1) (rowFly r (cN g.2) (g.1 14))) 50 (cN g.2))), t2, ?_, ⟨gs.fr (fun i hi => by simp (disch := omega) only [fset_ne]), ⟨m1, m2, m3, m4⟩, ?_, ?_, cw.fr hc (fun i h1 h2 => by simp (disch := omega) only [fset_ne]) (fun i h1 => rfl), ck.fr hc (fun i h1 h2 => by simp (disch := omega) only [fset_ne]), cu.fr hc m4 (fun i h1 h2 => by simp (disch := omega) only [fset_ne]) (fun i h1 h2 => rfl), cf.fr hc m2 (fun i h1 h2 => by simp (disch := omega) only [fset_ne]) (fun i h1 h2 => rfl), cp.fr hc m3 (fun i h1 h2 => by simp (disch := omega) only [fset_ne]) (fun i h1 h2 => rfl), cq.fr hc m1 (fun i h1 h2 => by simp (disch := omega) only [fset_ne]) (fun i h1 h2 => rfl)⟩, (hFT.trans F2).trans (fun i h1 h2 => by simp only [cs] at h2; simp (disch := omega) only [fset_ne]), hFt.trans Ft2⟩
  · simp (disch := omega) only [f_X12_flies, q_k hk, q_gR1 hk, q_gR2 hk, q_gR8 hk, q_gR11 hk, q_gR13 hk, q_gR14 hk, q_gR15 hk, q_gR16 hk, q_gI hk, q_pI hk, q_a hk, q_w hk, q_l hk, nW_add, nW_mul, nW_sub, nW_le, nW_lt, nW_inj, irem_nW, ix_nW, nW_lit, a4, b2, ↓reduceIte, Option.bind_some, fset_ne, fset_eq, e1]
    simp (disch := omega) only [e2, Option.bind_some, spNext_mod, e3]
  · unfold R_c1
    simp (disch := omega) only [fset_ne]
    exact ⟨c1, c2, c3, c4, c5, c6, c7, c8⟩
  · intro he
    obtain ⟨d1, d2, d3⟩ := cb he
    simp (disch := omega) only [fset_ne, fset_eq]
    exact ⟨d1, rfl, d3⟩
